set_option maxRecDepth 100000 in
theorem fr_X11_his {i0 : Nat} {M0 : Mem} (x1 : Int32) (M : Mem) (hM : Sm ([(rf (rf (rf i0 5) 0) 0), (rf (rf (rf i0 5) 0) 1), (rf (rf (rf i0 5) 0) 2), (rf (rf i0 5) 0), (rf i0 5)] : List Nat) M0 M) : FrB ([(rf (rf (rf i0 5) 0) 0), (rf (rf (rf i0 5) 0) 1), (rf (rf (rf i0 5) 0) 2), (rf (rf i0 5) 0), (rf i0 5)] : List Nat) M0 (X11_his i0  x1 M) := by
  unfold X11_his
  refine Fr_bind (fr_X11_isWithin _ _ _ _ Sm_refl) (by simp) hM (fun p1 hN1 => ?_)
  refine Fr_ite ?_ ?_
  ·
    exact Fr_ret hN1
  ·
    refine Fr_bind (fr_X11_playEvening  _ Sm_refl) (by simp) hN1 (fun p2 hN2 => ?_)
    refine Fr_ite ?_ ?_
    ·
      refine Fr_ite ?_ ?_
      ·
        exact Fr_ret hN2
      refine Fr_ite ?_ ?_
      ·
        exact Fr_ret hN2
      refine Fr_ite ?_ ?_
      ·
        exact Fr_ret hN2
      exact Fr_ret hN2
    ·
      exact Fr_ret hN2
set_option maxRecDepth 100000 in
theorem fr_X11_wrong_b60 {i0 : Nat} {M0 : Mem} (s0 : Int32) (M : Mem) (hM : Sm ([(rf (rf (rf i0 5) 0) 0), (rf (rf (rf i0 5) 0) 1), (rf (rf (rf i0 5) 0) 2), (rf (rf i0 5) 0), (rf i0 5)] : List Nat) M0 M) : FrB ([(rf (rf (rf i0 5) 0) 0), (rf (rf (rf i0 5) 0) 1), (rf (rf (rf i0 5) 0) 2), (rf (rf i0 5) 0), (rf i0 5)] : List Nat) M0 (X11_wrong_b60 i0  s0 M) := by
  unfold X11_wrong_b60
  exact Fr_ret hM
set_option maxRecDepth 100000 in
theorem fr_X11_wrong {i0 : Nat} {M0 : Mem} (x1 : Int32) (M : Mem) (hM : Sm ([(rf (rf (rf i0 5) 0) 0), (rf (rf (rf i0 5) 0) 1), (rf (rf (rf i0 5) 0) 2), (rf (rf i0 5) 0), (rf i0 5)] : List Nat) M0 M) : FrB ([(rf (rf (rf i0 5) 0) 0), (rf (rf (rf i0 5) 0) 1), (rf (rf (rf i0 5) 0) 2), (rf (rf i0 5) 0), (rf i0 5)] : List Nat) M0 (X11_wrong i0  x1 M) := by
  unfold X11_wrong
  refine Fr_bind (fr_X11_isWithin _ _ _ _ Sm_refl) (by simp) hM (fun p1 hN1 => ?_)
  refine Fr_ite ?_ ?_
  ·
    exact Fr_ret hN1
  ·
    refine Fr_bind (fr_X11_playEvening  _ Sm_refl) (by simp) hN1 (fun p2 hN2 => ?_)
    refine Fr_ite ?_ ?_
    ·
      refine Fr_ite ?_ ?_
      ·
        refine Fr_bind (fr_X0_strangers  _ Sm_refl) (by simp) hN2 (fun p3 hN3 => ?_)
        exact Fr_ret hN3
      ·
        refine Fr_ite ?_ ?_
        ·
          exact fr_X11_wrong_b60  _ _ hN2
        ·
          exact fr_X11_wrong_b60  _ _ hN2
    ·
      exact Fr_ret hN2
set_option maxRecDepth 100000 in
theorem fr_X11_done {i0 : Nat} {M0 : Mem}  (M : Mem) (hM : Sm ([(rf (rf (rf i0 5) 0) 0), (rf (rf (rf i0 5) 0) 1), (rf (rf (rf i0 5) 0) 2), (rf (rf i0 0) 0), (rf (rf i0 0) 1), (rf (rf i0 0) 2), (rf (rf i0 5) 0), (rf i0 0), (rf i0 2), (rf i0 5)] : List Nat) M0 M) : FrB ([(rf (rf (rf i0 5) 0) 0), (rf (rf (rf i0 5) 0) 1), (rf (rf (rf i0 5) 0) 2), (rf (rf i0 0) 0), (rf (rf i0 0) 1), (rf (rf i0 0) 2), (rf (rf i0 5) 0), (rf i0 0), (rf i0 2), (rf i0 5)] : List Nat) M0 (X11_done i0   M) := by
  unfold X11_done
  refine Fr_bind (fr_X11_playEvening  _ Sm_refl) (by simp) hM (fun p1 hN1 => ?_)
  refine Fr_ite ?_ ?_
  ·
    refine Fr_bind (fr_X0_takeOver  _ Sm_refl) (by simp) hN1 (fun p2 hN2 => ?_)
    exact Fr_ret (Sm_mI hN2 (by simp))
  ·
    exact Fr_ret hN1
set_option maxRecDepth 100000 in
theorem fr_X11_round_b54 {i0 : Nat} {M0 : Mem} (s0 : Int32) (M : Mem) (hM : Sm ([(rf (rf i0 6) 0), (rf i0 6)] : List Nat) M0 M) : FrB ([(rf (rf i0 6) 0), (rf i0 6)] : List Nat) M0 (X11_round_b54 i0  s0 M) := by
  unfold X11_round_b54
  exact Fr_ret hM
set_option maxRecDepth 100000 in
theorem fr_X11_round {i0 : Nat} {M0 : Mem} (x1 : Int32) (x2 : Int32) (M : Mem) (hM : Sm ([(rf (rf i0 6) 0), (rf i0 6)] : List Nat) M0 M) : FrB ([(rf (rf i0 6) 0), (rf i0 6)] : List Nat) M0 (X11_round i0  x1 x2 M) := by
  unfold X11_round
  refine Fr_bind (fr_X11_isCabin _ _ Sm_refl) (by simp) hM (fun p1 hN1 => ?_)
  refine Fr_ite ?_ ?_
  ·
    exact Fr_ret hN1
  ·
    refine Fr_bind (fr_X11_isWithin _ _ _ _ Sm_refl) (by simp) hN1 (fun p2 hN2 => ?_)
    refine Fr_ite ?_ ?_
    ·
      exact Fr_ret hN2
    ·
      refine Fr_bind (fr_X1_planRound _ _ Sm_refl) (by simp) hN2 (fun p3 hN3 => ?_)
      refine Fr_ite ?_ ?_
      ·
        exact fr_X11_round_b54  _ _ hN3
      ·
        exact fr_X11_round_b54  _ _ hN3
set_option maxRecDepth 100000 in
theorem fr_X11_show_b16 {i0 : Nat} {M0 : Mem}  (M : Mem) (hM : Sm ([(rf (rf i0 6) 0), (rf i0 6)] : List Nat) M0 M) : FrB ([(rf (rf i0 6) 0), (rf i0 6)] : List Nat) M0 (X11_show_b16 i0   M) := by
  unfold X11_show_b16
  exact Fr_ret hM
set_option maxRecDepth 100000 in
theorem fr_X11_show_b52 {i0 : Nat} {M0 : Mem} (s0 : Int32) (M : Mem) (hM : Sm ([(rf (rf i0 6) 0), (rf i0 6)] : List Nat) M0 M) : FrB ([(rf (rf i0 6) 0), (rf i0 6)] : List Nat) M0 (X11_show_b52 i0  s0 M) := by
  unfold X11_show_b52
  exact Fr_ret hM
set_option maxRecDepth 100000 in
theorem fr_X11_show {i0 : Nat} {M0 : Mem} (x1 : Int32) (x2 : Int32) (M : Mem) (hM : Sm ([(rf (rf i0 6) 0), (rf i0 6)] : List Nat) M0 M) : FrB ([(rf (rf i0 6) 0), (rf i0 6)] : List Nat) M0 (X11_show i0  x1 x2 M) := by
  unfold X11_show
  refine Fr_bind (fr_X11_isThingSet _ _ Sm_refl) (by simp) hM (fun p1 hN1 => ?_)
  refine Fr_ite ?_ ?_
  ·
    exact fr_X11_show_b16   _ hN1
  ·
    refine Fr_bind (fr_X11_isWithin _ _ _ _ Sm_refl) (by simp) hN1 (fun p2 hN2 => ?_)
    refine Fr_ite ?_ ?_
    ·
      exact fr_X11_show_b16   _ hN2
    ·
      refine Fr_bind (fr_X1_uncover _ _ Sm_refl) (by simp) hN2 (fun p3 hN3 => ?_)
      refine Fr_ite ?_ ?_
      ·
        exact fr_X11_show_b52  _ _ hN3
      ·
        exact fr_X11_show_b52  _ _ hN3
set_option maxRecDepth 100000 in
theorem fr_X11_owners_b60 {i0 : Nat} {M0 : Mem} (s0 : Int32) (M : Mem) (hM : Sm ([(rf (rf i0 7) 0), (rf (rf i0 7) 1), (rf i0 7)] : List Nat) M0 M) : FrB ([(rf (rf i0 7) 0), (rf (rf i0 7) 1), (rf i0 7)] : List Nat) M0 (X11_owners_b60 i0  s0 M) := by
  unfold X11_owners_b60
  exact Fr_ret hM
set_option maxRecDepth 100000 in
theorem fr_X11_owners_b14 {i0 : Nat} {M0 : Mem} (x1 : Int32) (x2 : Int32) (M : Mem) (hM : Sm ([(rf (rf i0 7) 0), (rf (rf i0 7) 1), (rf i0 7)] : List Nat) M0 M) : FrB ([(rf (rf i0 7) 0), (rf (rf i0 7) 1), (rf i0 7)] : List Nat) M0 (X11_owners_b14 i0  x1 x2 M) := by
  unfold X11_owners_b14
  refine Fr_bind (fr_X11_isThingSet _ _ Sm_refl) (by simp) hM (fun p1 hN1 => ?_)
  refine Fr_ite ?_ ?_
  ·
    exact Fr_ret hN1
  ·
    refine Fr_bind (fr_X6_pair _ _ Sm_refl) (by simp) hN1 (fun p2 hN2 => ?_)
    refine Fr_ite ?_ ?_
    ·
      exact fr_X11_owners_b60  _ _ hN2
    ·
      refine Fr_gd ?_
      exact fr_X11_owners_b60  _ _ hN2
set_option maxRecDepth 100000 in
theorem fr_X11_owners {i0 : Nat} {M0 : Mem} (x1 : Int32) (x2 : Int32) (M : Mem) (hM : Sm ([(rf (rf i0 7) 0), (rf (rf i0 7) 1), (rf i0 7)] : List Nat) M0 M) : FrB ([(rf (rf i0 7) 0), (rf (rf i0 7) 1), (rf i0 7)] : List Nat) M0 (X11_owners i0  x1 x2 M) := by
  unfold X11_owners
  refine Fr_ite ?_ ?_
  ·
    exact fr_X11_owners_b14  _ _ _ hM
  ·
    refine Fr_bind (fr_X11_isThing _ _ Sm_refl) (by simp) hM (fun p1 hN1 => ?_)
    refine Fr_ite ?_ ?_
    ·
      exact Fr_ret hN1
    ·
      exact fr_X11_owners_b14  _ _ _ hN1
set_option maxRecDepth 100000 in
theorem fr_X11_towels_b20 {i0 : Nat} {M0 : Mem}  (M : Mem) (hM : Sm ([(rf (rf i0 8) 0), (rf i0 8)] : List Nat) M0 M) : FrB ([(rf (rf i0 8) 0), (rf i0 8)] : List Nat) M0 (X11_towels_b20 i0   M) := by
  unfold X11_towels_b20
  exact Fr_ret hM
set_option maxRecDepth 100000 in
theorem fr_X11_towels_b51 {i0 : Nat} {M0 : Mem} (s0 : Int32) (M : Mem) (hM : Sm ([(rf (rf i0 8) 0), (rf i0 8)] : List Nat) M0 M) : FrB ([(rf (rf i0 8) 0), (rf i0 8)] : List Nat) M0 (X11_towels_b51 i0  s0 M) := by
  unfold X11_towels_b51
  exact Fr_ret hM
set_option maxRecDepth 100000 in
theorem fr_X11_towels {i0 : Nat} {M0 : Mem} (x1 : Int32) (x2 : Int32) (M : Mem) (hM : Sm ([(rf (rf i0 8) 0), (rf i0 8)] : List Nat) M0 M) : FrB ([(rf (rf i0 8) 0), (rf i0 8)] : List Nat) M0 (X11_towels i0  x1 x2 M) := by
  unfold X11_towels
  refine Fr_bind (fr_X11_isWithin _ _ _ _ Sm_refl) (by simp) hM (fun p1 hN1 => ?_)
  refine Fr_ite ?_ ?_
  ·
    exact fr_X11_towels_b20   _ hN1
  ·
    refine Fr_bind (fr_X3_hang _ _ Sm_refl) (by simp) hN1 (fun p2 hN2 => ?_)
    refine Fr_ite ?_ ?_
    ·
      exact fr_X11_towels_b20   _ hN2
    ·
      refine Fr_bind (fr_X3_follow  _ Sm_refl) (by simp) hN2 (fun p3 hN3 => ?_)
      refine Fr_ite ?_ ?_
      ·
        exact fr_X11_towels_b51  _ _ hN3
      ·
        exact fr_X11_towels_b51  _ _ hN3
set_option maxRecDepth 100000 in
theorem fr_X11_found_b46 {i0 : Nat} {M0 : Mem} (s0 : Int32) (M : Mem) (hM : Sm ([(rf (rf i0 1) 0), (rf (rf i0 1) 1), (rf i0 1)] : List Nat) M0 M) : FrB ([(rf (rf i0 1) 0), (rf (rf i0 1) 1), (rf i0 1)] : List Nat) M0 (X11_found_b46 i0  s0 M) := by
  unfold X11_found_b46
  exact Fr_ret hM
set_option maxRecDepth 100000 in
theorem fr_X11_found {i0 : Nat} {M0 : Mem} (x1 : Int32) (x2 : Int32) (M : Mem) (hM : Sm ([(rf (rf i0 1) 0), (rf (rf i0 1) 1), (rf i0 1)] : List Nat) M0 M) : FrB ([(rf (rf i0 1) 0), (rf (rf i0 1) 1), (rf i0 1)] : List Nat) M0 (X11_found i0  x1 x2 M) := by
  unfold X11_found
  refine Fr_bind (fr_X11_isThing _ _ Sm_refl) (by simp) hM (fun p1 hN1 => ?_)
  refine Fr_ite ?_ ?_
  ·
    exact Fr_ret hN1
  ·
    refine Fr_bind (fr_X11_isWithin _ _ _ _ Sm_refl) (by simp) hN1 (fun p2 hN2 => ?_)
    refine Fr_ite ?_ ?_
    ·
      exact Fr_ret hN2
    ·
      refine Fr_bind (fr_X7_write _ _ _ Sm_refl) (by simp) hN2 (fun p3 hN3 => ?_)
      refine Fr_ite ?_ ?_
      ·
        exact fr_X11_found_b46  _ _ hN3
      ·
        exact fr_X11_found_b46  _ _ hN3
set_option maxRecDepth 100000 in
theorem fr_X11_forget {i0 : Nat} {M0 : Mem}  (M : Mem) (hM : Sm ([(rf i0 1)] : List Nat) M0 M) : FrB ([(rf i0 1)] : List Nat) M0 (X11_forget i0   M) := by
  unfold X11_forget
  exact Fr_ret (Sm_mI hM (by simp))
set_option maxRecDepth 100000 in
theorem fr_X11_fits_b55 {i0 : Nat} {M0 : Mem} (s0 : Int32) (M : Mem) (hM : Sm ([(rf (rf i0 9) 0), (rf i0 9)] : List Nat) M0 M) : FrB ([(rf (rf i0 9) 0), (rf i0 9)] : List Nat) M0 (X11_fits_b55 i0  s0 M) := by
  unfold X11_fits_b55
  exact Fr_ret hM
set_option maxRecDepth 100000 in
theorem fr_X11_fits {i0 : Nat} {M0 : Mem} (x1 : Int32) (M : Mem) (hM : Sm ([(rf (rf i0 9) 0), (rf i0 9)] : List Nat) M0 M) : FrB ([(rf (rf i0 9) 0), (rf i0 9)] : List Nat) M0 (X11_fits i0  x1 M) := by
  unfold X11_fits
  refine Fr_bind (fr_X5_gather  _ Sm_refl) (by simp) hM (fun p1 hN1 => ?_)
  refine Fr_ite ?_ ?_
  ·
    exact Fr_ret hN1
  ·
    refine Fr_bind (fr_X11_isWithin _ _ _ _ Sm_refl) (by simp) hN1 (fun p2 hN2 => ?_)
    refine Fr_ite ?_ ?_
    ·
      exact fr_X11_fits_b55  _ _ hN2
    ·
      refine Fr_gd ?_
      exact fr_X11_fits_b55  _ _ hN2
set_option maxRecDepth 100000 in
theorem fr_X11_ask_b51 {i0 : Nat} {M0 : Mem} (s0 : Int32) (M : Mem) (hM : Sm ([(rf (rf i0 9) 0), (rf (rf i0 9) 1), (rf i0 9)] : List Nat) M0 M) : FrB ([(rf (rf i0 9) 0), (rf (rf i0 9) 1), (rf i0 9)] : List Nat) M0 (X11_ask_b51 i0  s0 M) := by
  unfold X11_ask_b51
  exact Fr_ret hM
set_option maxRecDepth 100000 in
theorem fr_X11_ask {i0 : Nat} {M0 : Mem} (x1 : Int32) (M : Mem) (hM : Sm ([(rf (rf i0 9) 0), (rf (rf i0 9) 1), (rf i0 9)] : List Nat) M0 M) : FrB ([(rf (rf i0 9) 0), (rf (rf i0 9) 1), (rf i0 9)] : List Nat) M0 (X11_ask i0  x1 M) := by
  unfold X11_ask
  refine Fr_bind (fr_X11_isWithin _ _ _ _ Sm_refl) (by simp) hM (fun p1 hN1 => ?_)
  refine Fr_ite ?_ ?_
  ·
    exact Fr_ret hN1
  ·
    refine Fr_bind (fr_X5_gather  _ Sm_refl) (by simp) hN1 (fun p2 hN2 => ?_)
    refine Fr_bind (fr_X5_chooseDay  _ Sm_refl) (by simp) hN2 (fun p3 hN3 => ?_)
    refine Fr_ite ?_ ?_
    ·
      exact fr_X11_ask_b51  _ _ hN3
    ·
      exact fr_X11_ask_b51  _ _ hN3
set_option maxRecDepth 100000 in
theorem fr_X11_piles_b29 {i0 : Nat} {M0 : Mem}  (M : Mem) (hM : Sm ([] : List Nat) M0 M) : FrB ([] : List Nat) M0 (X11_piles_b29 i0   M) := by
  unfold X11_piles_b29
  exact Fr_ret hM
set_option maxRecDepth 100000 in
theorem fr_X11_piles_b64 {i0 : Nat} {M0 : Mem} (s0 : Int32) (M : Mem) (hM : Sm ([] : List Nat) M0 M) : FrB ([] : List Nat) M0 (X11_piles_b64 i0  s0 M) := by
  unfold X11_piles_b64
  exact Fr_ret hM
set_option maxRecDepth 100000 in
theorem fr_X11_piles {i0 : Nat} {M0 : Mem} (x1 : Int32) (x2 : Int32) (x3 : Int32) (M : Mem) (hM : Sm ([] : List Nat) M0 M) : FrB ([] : List Nat) M0 (X11_piles i0  x1 x2 x3 M) := by
  unfold X11_piles
  refine Fr_bind (fr_X11_isWithin _ _ _ _ Sm_refl) (by simp) hM (fun p1 hN1 => ?_)
  refine Fr_ite ?_ ?_
  ·
    exact fr_X11_piles_b29   _ hN1
  ·
    refine Fr_bind (fr_X11_isWithin _ _ _ _ Sm_refl) (by simp) hN1 (fun p2 hN2 => ?_)
    refine Fr_ite ?_ ?_
    ·
      exact fr_X11_piles_b29   _ hN2
    ·
      refine Fr_bind (fr_X11_isWithin _ _ _ _ Sm_refl) (by simp) hN2 (fun p3 hN3 => ?_)
      refine Fr_ite ?_ ?_
      ·
        exact fr_X11_piles_b29   _ hN3
      ·
        refine Fr_ite ?_ ?_
        ·
          refine Fr_bind (fr_X10_winningTake _ _ _ Sm_refl) (by simp) hN3 (fun p4 hN4 => ?_)
          exact Fr_ret hN4
        ·
          refine Fr_bind (fr_X10_isLost _ _ _ Sm_refl) (by simp) hN3 (fun p5 hN5 => ?_)
          refine Fr_ite ?_ ?_
          ·
            exact fr_X11_piles_b64  _ _ hN5
          ·
            exact fr_X11_piles_b64  _ _ hN5
set_option maxRecDepth 100000 in
theorem fr_X11_greatestDivisor_b44  {M0 : Mem} (x4 : Int64) (M : Mem) (hM : Sm ([] : List Nat) M0 M) : FrB ([] : List Nat) M0 (X11_greatestDivisor_b44   x4 M) := by
  unfold X11_greatestDivisor_b44
  exact Fr_ret hM
set_option maxRecDepth 100000 in
theorem fr_X11_greatestDivisor_b9  {M0 : Mem} {k9 : Int64 → Int64 → Int32 → Mem → Option (Int64 × Mem)} (hk9 : ∀ (x4 : Int64) (x6 : Int64) (x8 : Int32) (M : Mem), Sm ([] : List Nat) M0 M → FrB ([] : List Nat) M0 (k9 x4 x6 x8 M)) (x4 : Int64) (x6 : Int64) (x8 : Int32) (M : Mem) (hM : Sm ([] : List Nat) M0 M) : FrB ([] : List Nat) M0 (X11_greatestDivisor_b9  k9 x4 x6 x8 M) := by
  unfold X11_greatestDivisor_b9
  refine Fr_ite ?_ ?_
  ·
    exact fr_X11_greatestDivisor_b44  _ _ hM
  ·
    refine Fr_ite ?_ ?_
    ·
      exact fr_X11_greatestDivisor_b44  _ _ hM
    ·
      refine Fr_gd ?_
      exact hk9 _ _ _ _ hM
theorem fr_X11_greatestDivisor_l9  {M0 : Mem} (n : Nat) : ∀ (x4 : Int64) (x6 : Int64) (x8 : Int32) (M : Mem), Sm ([] : List Nat) M0 M → FrB ([] : List Nat) M0 (X11_greatestDivisor_l9   n x4 x6 x8 M) := by
  induction n with
  | zero => intro x4 x6 x8 M _; exact Fr_none
  | succ n ih => intro x4 x6 x8 M hM; exact fr_X11_greatestDivisor_b9 ih x4 x6 x8 M hM
set_option maxRecDepth 100000 in
theorem fr_X11_greatestDivisor  {M0 : Mem} (x0 : Int64) (x2 : Int64) (M : Mem) (hM : Sm ([] : List Nat) M0 M) : FrB ([] : List Nat) M0 (X11_greatestDivisor   x0 x2 M) := by
  unfold X11_greatestDivisor
  exact fr_X11_greatestDivisor_l9  _ _ _ _ _ hM
set_option maxRecDepth 100000 in
theorem fr_J9_max_f86c9_b11  {M0 : Mem} (s0 : Int64) (M : Mem) (hM : Sm ([] : List Nat) M0 M) : FrB ([] : List Nat) M0 (J9_max_f86c9_b11   s0 M) := by
  unfold J9_max_f86c9_b11
  exact Fr_ret hM
set_option maxRecDepth 100000 in
theorem fr_J9_max_f86c9  {M0 : Mem} (x0 : Int64) (x2 : Int64) (M : Mem) (hM : Sm ([] : List Nat) M0 M) : FrB ([] : List Nat) M0 (J9_max_f86c9   x0 x2 M) := by
  unfold J9_max_f86c9
  refine Fr_ite ?_ ?_
  ·
    exact fr_J9_max_f86c9_b11  _ _ hM
  ·
    exact fr_J9_max_f86c9_b11  _ _ hM
set_option maxRecDepth 100000 in
theorem fr_X11_lengths_b50 {i0 : Nat} {M0 : Mem}  (M : Mem) (hM : Sm ([(rf (rf i0 11) 0), (rf i0 11)] : List Nat) M0 M) : FrB ([(rf (rf i0 11) 0), (rf i0 11)] : List Nat) M0 (X11_lengths_b50 i0   M) := by
  unfold X11_lengths_b50
  exact Fr_ret hM
set_option maxRecDepth 100000 in
theorem fr_X11_lengths_b124 {i0 : Nat} {M0 : Mem} (x8 : Int64) (s0 : Int64) (M : Mem) (hM : Sm ([(rf (rf i0 11) 0), (rf i0 11)] : List Nat) M0 M) : FrB ([(rf (rf i0 11) 0), (rf i0 11)] : List Nat) M0 (X11_lengths_b124 i0  x8 s0 M) := by
  unfold X11_lengths_b124
  refine Fr_gd ?_
  exact Fr_ret hM
set_option maxRecDepth 100000 in
theorem fr_X11_lengths_b87 {i0 : Nat} {M0 : Mem} (x5 : Int32) (s0 : Int64) (M : Mem) (hM : Sm ([(rf (rf i0 11) 0), (rf i0 11)] : List Nat) M0 M) : FrB ([(rf (rf i0 11) 0), (rf i0 11)] : List Nat) M0 (X11_lengths_b87 i0  x5 s0 M) := by
  unfold X11_lengths_b87
  refine Fr_bind (fr_X11_greatestDivisor _ _ _ Sm_refl) (by simp) hM (fun p1 hN1 => ?_)
  refine Fr_bind (fr_J9_max_f86c9 _ _ _ Sm_refl) (by simp) hN1 (fun p2 hN2 => ?_)
  refine Fr_ite ?_ ?_
  ·
    exact fr_X11_lengths_b124  _ _ _ hN2
  ·
    exact fr_X11_lengths_b124  _ _ _ hN2
set_option maxRecDepth 100000 in
theorem fr_X11_lengths {i0 : Nat} {M0 : Mem} (x1 : Int32) (x2 : Int32) (x3 : Int32) (x4 : Int32) (x5 : Int32) (M : Mem) (hM : Sm ([(rf (rf i0 11) 0), (rf i0 11)] : List Nat) M0 M) : FrB ([(rf (rf i0 11) 0), (rf i0 11)] : List Nat) M0 (X11_lengths i0  x1 x2 x3 x4 x5 M) := by
  unfold X11_lengths
  refine Fr_bind (fr_X11_isWithin _ _ _ _ Sm_refl) (by simp) hM (fun p1 hN1 => ?_)
  refine Fr_ite ?_ ?_
  ·
    exact fr_X11_lengths_b50   _ hN1
  ·
    refine Fr_bind (fr_X11_isWithin _ _ _ _ Sm_refl) (by simp) hN1 (fun p2 hN2 => ?_)
    refine Fr_ite ?_ ?_
    ·
      exact fr_X11_lengths_b50   _ hN2
    ·
      refine Fr_bind (fr_X11_isWithin _ _ _ _ Sm_refl) (by simp) hN2 (fun p3 hN3 => ?_)
      refine Fr_ite ?_ ?_
      ·
        exact fr_X11_lengths_b50   _ hN3
      ·
        refine Fr_bind (fr_X11_isWithin _ _ _ _ Sm_refl) (by simp) hN3 (fun p4 hN4 => ?_)
        refine Fr_ite ?_ ?_
        ·
          exact fr_X11_lengths_b50   _ hN4
        ·
          refine Fr_bind (fr_X11_isWithin _ _ _ _ Sm_refl) (by simp) hN4 (fun p5 hN5 => ?_)
          refine Fr_ite ?_ ?_
          ·
            exact fr_X11_lengths_b50   _ hN5
          ·
            refine Fr_bind (fr_X9_spread _ _ _ Sm_refl) (by simp) hN5 (fun p6 hN6 => ?_)
            refine Fr_ite ?_ ?_
            ·
              refine Fr_bind (fr_X9_waysToReach _ _ Sm_refl) (by simp) hN6 (fun p7 hN7 => ?_)
              exact fr_X11_lengths_b87  _ _ _ hN7
            ·
              refine Fr_bind (fr_X9_lengthsUpTo _ _ Sm_refl) (by simp) hN6 (fun p8 hN8 => ?_)
              exact fr_X11_lengths_b87  _ _ _ hN8
set_option maxRecDepth 100000 in
theorem fr_X11_year_b30 {i0 : Nat} {M0 : Mem}  (M : Mem) (hM : Sm ([(rf (rf (rf i0 5) 0) 0), (rf (rf (rf i0 5) 0) 1), (rf (rf (rf i0 5) 0) 2), (rf (rf i0 5) 0)] : List Nat) M0 M) : FrB ([(rf (rf (rf i0 5) 0) 0), (rf (rf (rf i0 5) 0) 1), (rf (rf (rf i0 5) 0) 2), (rf (rf i0 5) 0)] : List Nat) M0 (X11_year_b30 i0   M) := by
  unfold X11_year_b30
  exact Fr_ret hM
set_option maxRecDepth 100000 in
theorem fr_X11_year_b92 {i0 : Nat} {M0 : Mem} (s0 : Int32) (M : Mem) (hM : Sm ([(rf (rf (rf i0 5) 0) 0), (rf (rf (rf i0 5) 0) 1), (rf (rf (rf i0 5) 0) 2), (rf (rf i0 5) 0)] : List Nat) M0 M) : FrB ([(rf (rf (rf i0 5) 0) 0), (rf (rf (rf i0 5) 0) 1), (rf (rf (rf i0 5) 0) 2), (rf (rf i0 5) 0)] : List Nat) M0 (X11_year_b92 i0  s0 M) := by
  unfold X11_year_b92
  exact Fr_ret hM
set_option maxRecDepth 100000 in
theorem fr_X11_year {i0 : Nat} {M0 : Mem} (x1 : Int32) (x2 : Int32) (x3 : Int32) (M : Mem) (hM : Sm ([(rf (rf (rf i0 5) 0) 0), (rf (rf (rf i0 5) 0) 1), (rf (rf (rf i0 5) 0) 2), (rf (rf i0 5) 0)] : List Nat) M0 M) : FrB ([(rf (rf (rf i0 5) 0) 0), (rf (rf (rf i0 5) 0) 1), (rf (rf (rf i0 5) 0) 2), (rf (rf i0 5) 0)] : List Nat) M0 (X11_year i0  x1 x2 x3 M) := by
  unfold X11_year
  refine Fr_bind (fr_X11_isWithin _ _ _ _ Sm_refl) (by simp) hM (fun p1 hN1 => ?_)
  refine Fr_ite ?_ ?_
  ·
    exact fr_X11_year_b30   _ hN1
  ·
    refine Fr_bind (fr_X11_isWithin _ _ _ _ Sm_refl) (by simp) hN1 (fun p2 hN2 => ?_)
    refine Fr_ite ?_ ?_
    ·
      exact fr_X11_year_b30   _ hN2
    ·
      refine Fr_bind (fr_X11_isWithin _ _ _ _ Sm_refl) (by simp) hN2 (fun p3 hN3 => ?_)
      refine Fr_ite ?_ ?_
      ·
        exact fr_X11_year_b30   _ hN3
      ·
        refine Fr_bind (fr_X2_draw _ _ _ Sm_refl) (by simp) hN3 (fun p4 hN4 => ?_)
        refine Fr_ite ?_ ?_
        ·
          exact Fr_ret hN4
        ·
          refine Fr_ite ?_ ?_
          ·
            refine Fr_bind (fr_J6_bitCount_0f7a4 _ _ Sm_refl) (by simp) hN4 (fun p5 hN5 => ?_)
            exact fr_X11_year_b92  _ _ hN5
          ·
            refine Fr_bind (fr_X0_strangers  _ Sm_refl) (by simp) hN4 (fun p6 hN6 => ?_)
            exact fr_X11_year_b92  _ _ hN6
set_option maxRecDepth 100000 in
theorem fr_X11_imageOf_b15 {i0 : Nat} {M0 : Mem} (s0 : Nat) (M : Mem) (hM : Sm ([] : List Nat) M0 M) : FrB ([] : List Nat) M0 (X11_imageOf_b15 i0  s0 M) := by
  unfold X11_imageOf_b15
  exact Fr_ret hM
set_option maxRecDepth 100000 in
theorem fr_X11_imageOf {i0 : Nat} {M0 : Mem} (x1 : Int32) (M : Mem) (hM : Sm ([] : List Nat) M0 M) : FrB ([] : List Nat) M0 (X11_imageOf i0  x1 M) := by
  unfold X11_imageOf
  refine Fr_ite ?_ ?_
  ·
    exact fr_X11_imageOf_b15  _ _ hM
  ·
    exact fr_X11_imageOf_b15  _ _ hM
set_option maxRecDepth 100000 in
theorem fr_J9_floorDiv_7cf53_b21  {M0 : Mem} (x2 : Int32) (M : Mem) (hM : Sm ([] : List Nat) M0 M) : FrB ([] : List Nat) M0 (J9_floorDiv_7cf53_b21   x2 M) := by
  unfold J9_floorDiv_7cf53_b21
  exact Fr_ret hM
set_option maxRecDepth 100000 in
theorem fr_J9_floorDiv_7cf53  {M0 : Mem} (x0 : Int32) (x1 : Int32) (M : Mem) (hM : Sm ([] : List Nat) M0 M) : FrB ([] : List Nat) M0 (J9_floorDiv_7cf53   x0 x1 M) := by
  unfold J9_floorDiv_7cf53
  refine Fr_gd ?_
  refine Fr_ite ?_ ?_
  ·
    exact fr_J9_floorDiv_7cf53_b21  _ _ hM
  ·
    refine Fr_ite ?_ ?_
    ·
      exact fr_J9_floorDiv_7cf53_b21  _ _ hM
    ·
      exact Fr_ret hM
set_option maxRecDepth 100000 in
theorem fr_J9_floorMod_7cf53_b18  {M0 : Mem} (x2 : Int32) (M : Mem) (hM : Sm ([] : List Nat) M0 M) : FrB ([] : List Nat) M0 (J9_floorMod_7cf53_b18   x2 M) := by
  unfold J9_floorMod_7cf53_b18
  exact Fr_ret hM
set_option maxRecDepth 100000 in
theorem fr_J9_floorMod_7cf53  {M0 : Mem} (x0 : Int32) (x1 : Int32) (M : Mem) (hM : Sm ([] : List Nat) M0 M) : FrB ([] : List Nat) M0 (J9_floorMod_7cf53   x0 x1 M) := by
  unfold J9_floorMod_7cf53
  refine Fr_gd ?_
  refine Fr_ite ?_ ?_
  ·
    exact fr_J9_floorMod_7cf53_b18  _ _ hM
  ·
    refine Fr_ite ?_ ?_
    ·
      exact fr_J9_floorMod_7cf53_b18  _ _ hM
    ·
      exact Fr_ret hM
set_option maxRecDepth 100000 in
theorem fr_X11_toldPlainly {i0 : Nat} {M0 : Mem} (x1 : Int32) (M : Mem) (hM : Sm ([] : List Nat) M0 M) : FrB ([] : List Nat) M0 (X11_toldPlainly i0  x1 M) := by
  unfold X11_toldPlainly
  refine Fr_ite ?_ ?_
  ·
    exact Fr_ret hM
  refine Fr_ite ?_ ?_
  ·
    exact Fr_ret hM
  refine Fr_ite ?_ ?_
  ·
    exact Fr_ret hM
  refine Fr_ite ?_ ?_
  ·
    exact Fr_ret hM
  refine Fr_ite ?_ ?_
  ·
    exact Fr_ret hM
  refine Fr_ite ?_ ?_
  ·
    exact Fr_ret hM
  exact Fr_ret hM
set_option maxRecDepth 100000 in
theorem fr_X11_told_b69 {i0 : Nat} {M0 : Mem}  (M : Mem) (hM : Sm ([] : List Nat) M0 M) : FrB ([] : List Nat) M0 (X11_told_b69 i0   M) := by
  unfold X11_told_b69
  exact Fr_ret hM
set_option maxRecDepth 100000 in
theorem fr_X11_told_b97 {i0 : Nat} {M0 : Mem} (s0 : Int32) (M : Mem) (hM : Sm ([] : List Nat) M0 M) : FrB ([] : List Nat) M0 (X11_told_b97 i0  s0 M) := by
  unfold X11_told_b97
  exact Fr_ret hM
set_option maxRecDepth 100000 in
theorem fr_X11_told {i0 : Nat} {M0 : Mem} (x1 : Int32) (M : Mem) (hM : Sm ([] : List Nat) M0 M) : FrB ([] : List Nat) M0 (X11_told i0  x1 M) := by
  unfold X11_told
  refine Fr_bind (fr_X11_isWithin _ _ _ _ Sm_refl) (by simp) hM (fun p1 hN1 => ?_)
  refine Fr_ite ?_ ?_
  ·
    refine Fr_bind (fr_X11_isWithin _ _ _ _ Sm_refl) (by simp) hN1 (fun p2 hN2 => ?_)
    refine Fr_ite ?_ ?_
    ·
      refine Fr_bind (fr_J9_floorDiv_7cf53 _ _ _ Sm_refl) (by simp) hN2 (fun p3 hN3 => ?_)
      refine Fr_bind (fr_J9_floorMod_7cf53 _ _ _ Sm_refl) (by simp) hN3 (fun p4 hN4 => ?_)
      refine Fr_bind (fr_X11_isCabin _ _ Sm_refl) (by simp) hN4 (fun p5 hN5 => ?_)
      refine Fr_ite ?_ ?_
      ·
        exact fr_X11_told_b69   _ hN5
      ·
        refine Fr_ite ?_ ?_
        ·
          refine Fr_ite ?_ ?_
          ·
            refine Fr_gd ?_
            exact fr_X11_told_b97  _ _ hN5
          ·
            refine Fr_gd ?_
            exact fr_X11_told_b97  _ _ hN5
        ·
          exact fr_X11_told_b69   _ hN5
    ·
      refine Fr_gd ?_
      exact Fr_ret hN2
  ·
    refine Fr_bind (fr_X11_toldPlainly _ _ Sm_refl) (by simp) hN1 (fun p6 hN6 => ?_)
    exact Fr_ret hN6
set_option maxRecDepth 100000 in
theorem fr_X12_in_b18  {M0 : Mem} (s0 : Int32) (M : Mem) (hM : Sm ([] : List Nat) M0 M) : FrB ([] : List Nat) M0 (X12_in_b18   s0 M) := by
  unfold X12_in_b18
  exact Fr_gd (Fr_ret hM)
set_option maxRecDepth 100000 in
theorem fr_X12_in_b17  {M0 : Mem}  (M : Mem) (hM : Sm ([] : List Nat) M0 M) : FrB ([] : List Nat) M0 (X12_in_b17    M) := by
  unfold X12_in_b17
  exact fr_X12_in_b18  _ _ hM
set_option maxRecDepth 100000 in
theorem fr_X12_in  {M0 : Mem} (x0 : Int64) (x2 : Int64) (x4 : Int64) (M : Mem) (hM : Sm ([] : List Nat) M0 M) : FrB ([] : List Nat) M0 (X12_in   x0 x2 x4 M) := by
  unfold X12_in
  refine Fr_ite ?_ ?_
  ·
    exact fr_X12_in_b17   _ hM
  ·
    refine Fr_ite ?_ ?_
    ·
      exact fr_X12_in_b17   _ hM
    ·
      exact fr_X12_in_b18  _ _ hM
set_option maxRecDepth 100000 in
theorem fr_X12_ones_b4  {M0 : Mem} {k4 : Int32 → Int32 → Mem → Option (Int32 × Mem)} (hk4 : ∀ (x1 : Int32) (x2 : Int32) (M : Mem), Sm ([] : List Nat) M0 M → FrB ([] : List Nat) M0 (k4 x1 x2 M)) (x1 : Int32) (x2 : Int32) (M : Mem) (hM : Sm ([] : List Nat) M0 M) : FrB ([] : List Nat) M0 (X12_ones_b4  k4 x1 x2 M) := by
  unfold X12_ones_b4
  refine Fr_ite ?_ ?_
  ·
    exact Fr_ret hM
  ·
    exact hk4 _ _ _ hM
theorem fr_X12_ones_l4  {M0 : Mem} (n : Nat) : ∀ (x1 : Int32) (x2 : Int32) (M : Mem), Sm ([] : List Nat) M0 M → FrB ([] : List Nat) M0 (X12_ones_l4   n x1 x2 M) := by
  induction n with
  | zero => intro x1 x2 M _; exact Fr_none
  | succ n ih => intro x1 x2 M hM; exact fr_X12_ones_b4 ih x1 x2 M hM
set_option maxRecDepth 100000 in
theorem fr_X12_ones  {M0 : Mem} (x0 : Int32) (M : Mem) (hM : Sm ([] : List Nat) M0 M) : FrB ([] : List Nat) M0 (X12_ones   x0 M) := by
  unfold X12_ones
  exact fr_X12_ones_l4  _ _ _ _ hM
set_option maxRecDepth 100000 in
theorem fr_X12_isCabin  {M0 : Mem} (x0 : Int32) (M : Mem) (hM : Sm ([] : List Nat) M0 M) : FrB ([] : List Nat) M0 (X12_isCabin   x0 M) := by
  unfold X12_isCabin
  refine Fr_bind (fr_X12_in _ _ _ _ Sm_refl) (by simp) hM (fun p1 hN1 => ?_)
  exact Fr_gd (Fr_ret hN1)
set_option maxRecDepth 100000 in
theorem fr_X12_isThing  {M0 : Mem} (x0 : Int32) (M : Mem) (hM : Sm ([] : List Nat) M0 M) : FrB ([] : List Nat) M0 (X12_isThing   x0 M) := by
  unfold X12_isThing
  refine Fr_bind (fr_X12_in _ _ _ _ Sm_refl) (by simp) hM (fun p1 hN1 => ?_)
  exact Fr_gd (Fr_ret hN1)
set_option maxRecDepth 100000 in
theorem fr_X12_isIn_b14  {M0 : Mem} (s0 : Int32) (M : Mem) (hM : Sm ([] : List Nat) M0 M) : FrB ([] : List Nat) M0 (X12_isIn_b14   s0 M) := by
  unfold X12_isIn_b14
  exact Fr_gd (Fr_ret hM)
set_option maxRecDepth 100000 in
theorem fr_X12_isIn  {M0 : Mem} (x0 : Int32) (x1 : Int32) (M : Mem) (hM : Sm ([] : List Nat) M0 M) : FrB ([] : List Nat) M0 (X12_isIn   x0 x1 M) := by
  unfold X12_isIn
  refine Fr_ite ?_ ?_
  ·
    exact fr_X12_isIn_b14  _ _ hM
  ·
    exact fr_X12_isIn_b14  _ _ hM
set_option maxRecDepth 100000 in
theorem fr_X12_apart_b14  {M0 : Mem} (s0 : Int32) (M : Mem) (hM : Sm ([] : List Nat) M0 M) : FrB ([] : List Nat) M0 (X12_apart_b14   s0 M) := by
  unfold X12_apart_b14
  exact Fr_ret hM
set_option maxRecDepth 100000 in
theorem fr_X12_apart  {M0 : Mem} (x0 : Int32) (x1 : Int32) (M : Mem) (hM : Sm ([] : List Nat) M0 M) : FrB ([] : List Nat) M0 (X12_apart   x0 x1 M) := by
  unfold X12_apart
  refine Fr_ite ?_ ?_
  ·
    exact fr_X12_apart_b14  _ _ hM
  ·
    exact fr_X12_apart_b14  _ _ hM
set_option maxRecDepth 100000 in
theorem fr_X12_basket_b33 {i0 : Nat} {M0 : Mem}  (M : Mem) (hM : Sm ([(rf i0 1), (rf i0 2)] : List Nat) M0 M) : FrB ([(rf i0 1), (rf i0 2)] : List Nat) M0 (X12_basket_b33 i0   M) := by
  unfold X12_basket_b33
  exact Fr_ret hM
set_option maxRecDepth 100000 in
theorem fr_X12_basket {i0 : Nat} {M0 : Mem} (x1 : Int32) (x2 : Int32) (x3 : Int32) (M : Mem) (hM : Sm ([(rf i0 1), (rf i0 2)] : List Nat) M0 M) : FrB ([(rf i0 1), (rf i0 2)] : List Nat) M0 (X12_basket i0  x1 x2 x3 M) := by
  unfold X12_basket
  refine Fr_bind (fr_X12_isCabin _ _ Sm_refl) (by simp) hM (fun p1 hN1 => ?_)
  refine Fr_ite ?_ ?_
  ·
    exact Fr_ret hN1
  ·
    refine Fr_bind (fr_X12_in _ _ _ _ Sm_refl) (by simp) hN1 (fun p2 hN2 => ?_)
    refine Fr_ite ?_ ?_
    ·
      exact fr_X12_basket_b33   _ hN2
    ·
      refine Fr_bind (fr_X12_in _ _ _ _ Sm_refl) (by simp) hN2 (fun p3 hN3 => ?_)
      refine Fr_ite ?_ ?_
      ·
        exact fr_X12_basket_b33   _ hN3
      ·
        refine Fr_gd ?_
        refine Fr_gd ?_
        refine Fr_iw (fun v4 => ?_)
        refine Fr_gd ?_
        refine Fr_gd ?_
        exact Fr_ret (Sm_mI (Sm_mI hN3 (by simp)) (by simp))
set_option maxRecDepth 100000 in
theorem fr_X12_wrongMany_b26 {i0 : Nat} {M0 : Mem} {k4 : Int32 → Int32 → Mem → Option (Int32 × Mem)} (hk4 : ∀ (x1 : Int32) (x2 : Int32) (M : Mem), Sm ([] : List Nat) M0 M → FrB ([] : List Nat) M0 (k4 x1 x2 M)) (x2 : Int32) (s0 : Int32) (s1 : Int32) (M : Mem) (hM : Sm ([] : List Nat) M0 M) : FrB ([] : List Nat) M0 (X12_wrongMany_b26 i0 k4 x2 s0 s1 M) := by
  unfold X12_wrongMany_b26
  exact hk4 _ _ _ hM
set_option maxRecDepth 100000 in
theorem fr_X12_wrongMany_b4 {i0 : Nat} {M0 : Mem} {k4 : Int32 → Int32 → Mem → Option (Int32 × Mem)} (hk4 : ∀ (x1 : Int32) (x2 : Int32) (M : Mem), Sm ([] : List Nat) M0 M → FrB ([] : List Nat) M0 (k4 x1 x2 M)) (x1 : Int32) (x2 : Int32) (M : Mem) (hM : Sm ([] : List Nat) M0 M) : FrB ([] : List Nat) M0 (X12_wrongMany_b4 i0 k4 x1 x2 M) := by
  unfold X12_wrongMany_b4
  refine Fr_ite ?_ ?_
  ·
    exact Fr_ret hM
  ·
    refine Fr_gd ?_
    refine Fr_ite ?_ ?_
    ·
      exact fr_X12_wrongMany_b26 hk4 _ _ _ _ hM
    ·
      exact fr_X12_wrongMany_b26 hk4 _ _ _ _ hM
theorem fr_X12_wrongMany_l4 {i0 : Nat} {M0 : Mem} (n : Nat) : ∀ (x1 : Int32) (x2 : Int32) (M : Mem), Sm ([] : List Nat) M0 M → FrB ([] : List Nat) M0 (X12_wrongMany_l4 i0  n x1 x2 M) := by
  induction n with
  | zero => intro x1 x2 M _; exact Fr_none
  | succ n ih => intro x1 x2 M hM; exact fr_X12_wrongMany_b4 ih x1 x2 M hM
set_option maxRecDepth 100000 in
theorem fr_X12_wrongMany {i0 : Nat} {M0 : Mem}  (M : Mem) (hM : Sm ([] : List Nat) M0 M) : FrB ([] : List Nat) M0 (X12_wrongMany i0   M) := by
  unfold X12_wrongMany
  exact fr_X12_wrongMany_l4  _ _ _ _ hM
set_option maxRecDepth 100000 in
theorem fr_X12_right_b7 {i0 : Nat} {M0 : Mem} {k7 : Int32 → Int32 → Mem → Option (Int32 × Mem)} (hk7 : ∀ (x1 : Int32) (x2 : Int32) (M : Mem), Sm ([(rf i0 0)] : List Nat) M0 M → FrB ([(rf i0 0)] : List Nat) M0 (k7 x1 x2 M)) (x1 : Int32) (x2 : Int32) (M : Mem) (hM : Sm ([(rf i0 0)] : List Nat) M0 M) : FrB ([(rf i0 0)] : List Nat) M0 (X12_right_b7 i0 k7 x1 x2 M) := by
  unfold X12_right_b7
  refine Fr_ite ?_ ?_
  ·
    exact Fr_ret hM
  ·
    refine Fr_gd ?_
    exact hk7 _ _ _ (Sm_mI hM (by simp))
theorem fr_X12_right_l7 {i0 : Nat} {M0 : Mem} (n : Nat) : ∀ (x1 : Int32) (x2 : Int32) (M : Mem), Sm ([(rf i0 0)] : List Nat) M0 M → FrB ([(rf i0 0)] : List Nat) M0 (X12_right_l7 i0  n x1 x2 M) := by
  induction n with
  | zero => intro x1 x2 M _; exact Fr_none
  | succ n ih => intro x1 x2 M hM; exact fr_X12_right_b7 ih x1 x2 M hM
set_option maxRecDepth 100000 in
theorem fr_X12_right {i0 : Nat} {M0 : Mem}  (M : Mem) (hM : Sm ([(rf i0 0)] : List Nat) M0 M) : FrB ([(rf i0 0)] : List Nat) M0 (X12_right i0   M) := by
  unfold X12_right
  refine Fr_bind (fr_X12_wrongMany  _ Sm_refl) (by simp) hM (fun p1 hN1 => ?_)
  exact fr_X12_right_l7  _ _ _ _ hN1
set_option maxRecDepth 100000 in
theorem fr_X12_clock_b24 {i0 : Nat} {M0 : Mem}  (M : Mem) (hM : Sm ([i0] : List Nat) M0 M) : FrB ([i0] : List Nat) M0 (X12_clock_b24 i0   M) := by
  unfold X12_clock_b24
  exact Fr_ret hM
set_option maxRecDepth 100000 in
theorem fr_X12_clock {i0 : Nat} {M0 : Mem} (x1 : Int32) (x2 : Int32) (M : Mem) (hM : Sm ([i0] : List Nat) M0 M) : FrB ([i0] : List Nat) M0 (X12_clock i0  x1 x2 M) := by
  unfold X12_clock
  refine Fr_bind (fr_X12_in _ _ _ _ Sm_refl) (by simp) hM (fun p1 hN1 => ?_)
  refine Fr_ite ?_ ?_
  ·
    exact fr_X12_clock_b24   _ hN1
  ·
    refine Fr_bind (fr_X12_in _ _ _ _ Sm_refl) (by simp) hN1 (fun p2 hN2 => ?_)
    refine Fr_ite ?_ ?_
    ·
      exact fr_X12_clock_b24   _ hN2
    ·
      refine Fr_iw (fun v3 => ?_)
      exact Fr_ret (Sm_mI (Sm_mI hN2 (by simp)) (by simp))
set_option maxRecDepth 100000 in
theorem fr_X12_attendant_b33 {i0 : Nat} {M0 : Mem}  (M : Mem) (hM : Sm ([i0] : List Nat) M0 M) : FrB ([i0] : List Nat) M0 (X12_attendant_b33 i0   M) := by
  unfold X12_attendant_b33
  exact Fr_ret hM
set_option maxRecDepth 100000 in
theorem fr_X12_attendant {i0 : Nat} {M0 : Mem} (x1 : Int32) (x2 : Int32) (x3 : Int32) (M : Mem) (hM : Sm ([i0] : List Nat) M0 M) : FrB ([i0] : List Nat) M0 (X12_attendant i0  x1 x2 x3 M) := by
  unfold X12_attendant
  refine Fr_bind (fr_X12_isCabin _ _ Sm_refl) (by simp) hM (fun p1 hN1 => ?_)
  refine Fr_ite ?_ ?_
  ·
    exact Fr_ret hN1
  ·
    refine Fr_bind (fr_X12_in _ _ _ _ Sm_refl) (by simp) hN1 (fun p2 hN2 => ?_)
    refine Fr_ite ?_ ?_
    ·
      exact fr_X12_attendant_b33   _ hN2
    ·
      refine Fr_bind (fr_X12_in _ _ _ _ Sm_refl) (by simp) hN2 (fun p3 hN3 => ?_)
      refine Fr_ite ?_ ?_
      ·
        exact fr_X12_attendant_b33   _ hN3
      ·
        refine Fr_mw (Sm_mI hN3 (by simp)) (fun N4 hN4 => ?_)
        refine Fr_mw (Sm_mI hN4 (by simp)) (fun N5 hN5 => ?_)
        refine Fr_mw (Sm_mI hN5 (by simp)) (fun N6 hN6 => ?_)
        exact Fr_ret hN6
set_option maxRecDepth 100000 in
theorem fr_X12_say {i0 : Nat} {M0 : Mem} (x1 : Int32) (M : Mem) (hM : Sm ([(rf i0 11), i0] : List Nat) M0 M) : FrB ([(rf i0 11), i0] : List Nat) M0 (X12_say i0  x1 M) := by
  unfold X12_say
  refine Fr_bind (fr_X12_in _ _ _ _ Sm_refl) (by simp) hM (fun p1 hN1 => ?_)
  refine Fr_ite ?_ ?_
  ·
    exact Fr_ret hN1
  ·
    refine Fr_ite ?_ ?_
    ·
      exact Fr_ret hN1
    ·
      refine Fr_gd ?_
      exact Fr_ret (Sm_mI (Sm_mI hN1 (by simp)) (by simp))
set_option maxRecDepth 100000 in
theorem fr_X12_wipe {i0 : Nat} {M0 : Mem}  (M : Mem) (hM : Sm ([i0] : List Nat) M0 M) : FrB ([i0] : List Nat) M0 (X12_wipe i0   M) := by
  unfold X12_wipe
  exact Fr_ret (Sm_mI hM (by simp))
set_option maxRecDepth 100000 in
theorem fr_X12_close {i0 : Nat} {M0 : Mem} (x1 : Int32) (x2 : Int32) (M : Mem) (hM : Sm ([(rf i0 13), (rf i0 14), i0] : List Nat) M0 M) : FrB ([(rf i0 13), (rf i0 14), i0] : List Nat) M0 (X12_close i0  x1 x2 M) := by
  unfold X12_close
  refine Fr_gd ?_
  refine Fr_mw (Sm_mI hM (by simp)) (fun N1 hN1 => ?_)
  refine Fr_gd ?_
  refine Fr_mw (Sm_mI hN1 (by simp)) (fun N2 hN2 => ?_)
  refine Fr_mw (Sm_mI hN2 (by simp)) (fun N3 hN3 => ?_)
  exact Fr_ret hN3
set_option maxRecDepth 100000 in
theorem fr_X12_isLetter  {M0 : Mem} (x0 : Int32) (M : Mem) (hM : Sm ([] : List Nat) M0 M) : FrB ([] : List Nat) M0 (X12_isLetter   x0 M) := by
  unfold X12_isLetter
  refine Fr_bind (fr_X12_in _ _ _ _ Sm_refl) (by simp) hM (fun p1 hN1 => ?_)
  exact Fr_gd (Fr_ret hN1)
set_option maxRecDepth 100000 in
theorem fr_X12_begin_b93 {i0 : Nat} {M0 : Mem} (s0 : Int32) (M : Mem) (hM : Sm ([(rf i0 13), (rf i0 14), i0] : List Nat) M0 M) : FrB ([(rf i0 13), (rf i0 14), i0] : List Nat) M0 (X12_begin_b93 i0  s0 M) := by
  unfold X12_begin_b93
  exact Fr_ret hM
set_option maxRecDepth 100000 in
theorem fr_X12_begin {i0 : Nat} {M0 : Mem} (x1 : Int32) (M : Mem) (hM : Sm ([(rf i0 13), (rf i0 14), i0] : List Nat) M0 M) : FrB ([(rf i0 13), (rf i0 14), i0] : List Nat) M0 (X12_begin i0  x1 M) := by
  unfold X12_begin
  refine Fr_ite ?_ ?_
  ·
    exact Fr_ret hM
  refine Fr_ite ?_ ?_
  ·
    exact Fr_ret hM
  refine Fr_ite ?_ ?_
  ·
    refine Fr_bind (fr_X12_close _ _ _ Sm_refl) (by simp) hM (fun p2 hN2 => ?_)
    exact Fr_ret hN2
  refine Fr_ite ?_ ?_
  ·
    exact Fr_ret hM
  refine Fr_ite ?_ ?_
  ·
    refine Fr_bind (fr_X12_close _ _ _ Sm_refl) (by simp) hM (fun p3 hN3 => ?_)
    exact Fr_ret hN3
  refine Fr_bind (fr_X12_isLetter _ _ Sm_refl) (by simp) hM (fun p4 hN4 => ?_)
  refine Fr_ite ?_ ?_
  ·
    exact fr_X12_begin_b93  _ _ hN4
  ·
    refine Fr_bind (fr_X12_close _ _ _ Sm_refl) (by simp) hN4 (fun p5 hN5 => ?_)
    exact fr_X12_begin_b93  _ _ hN5
set_option maxRecDepth 100000 in
theorem fr_X12_readOn_b36 {i0 : Nat} {M0 : Mem} (s0 : Int32) (M : Mem) (hM : Sm ([(rf i0 13), (rf i0 14), i0] : List Nat) M0 M) : FrB ([(rf i0 13), (rf i0 14), i0] : List Nat) M0 (X12_readOn_b36 i0  s0 M) := by
  unfold X12_readOn_b36
  exact Fr_ret hM
set_option maxRecDepth 100000 in
theorem fr_X12_readOn_b74 {i0 : Nat} {M0 : Mem} (s0 : Int32) (M : Mem) (hM : Sm ([(rf i0 13), (rf i0 14), i0] : List Nat) M0 M) : FrB ([(rf i0 13), (rf i0 14), i0] : List Nat) M0 (X12_readOn_b74 i0  s0 M) := by
  unfold X12_readOn_b74
  exact Fr_ret hM
set_option maxRecDepth 100000 in
theorem fr_X12_readOn_b62 {i0 : Nat} {M0 : Mem} (x2 : Int32) (s0 : Int32) (M : Mem) (hM : Sm ([(rf i0 13), (rf i0 14), i0] : List Nat) M0 M) : FrB ([(rf i0 13), (rf i0 14), i0] : List Nat) M0 (X12_readOn_b62 i0  x2 s0 M) := by
  unfold X12_readOn_b62
  refine Fr_bind (fr_X12_close _ _ _ Sm_refl) (by simp) hM (fun p1 hN1 => ?_)
  exact fr_X12_readOn_b74  _ _ hN1
set_option maxRecDepth 100000 in
theorem fr_X12_readOn {i0 : Nat} {M0 : Mem} (x1 : Int32) (x2 : Int32) (M : Mem) (hM : Sm ([(rf i0 13), (rf i0 14), i0] : List Nat) M0 M) : FrB ([(rf i0 13), (rf i0 14), i0] : List Nat) M0 (X12_readOn i0  x1 x2 M) := by
  unfold X12_readOn
  refine Fr_ite ?_ ?_
  ·
    refine Fr_bind (fr_X12_begin _ _ Sm_refl) (by simp) hM (fun p1 hN1 => ?_)
    exact Fr_ret hN1
  ·
    refine Fr_ite ?_ ?_
    ·
      refine Fr_bind (fr_X12_isLetter _ _ Sm_refl) (by simp) hM (fun p2 hN2 => ?_)
      refine Fr_ite ?_ ?_
      ·
        exact fr_X12_readOn_b36  _ _ hN2
      ·
        refine Fr_bind (fr_X12_close _ _ _ Sm_refl) (by simp) hN2 (fun p3 hN3 => ?_)
        exact fr_X12_readOn_b36  _ _ hN3
    ·
      refine Fr_bind (fr_X12_in _ _ _ _ Sm_refl) (by simp) hM (fun p4 hN4 => ?_)
      refine Fr_ite ?_ ?_
      ·
        exact fr_X12_readOn_b74  _ _ hN4
      ·
        refine Fr_ite ?_ ?_
        ·
          exact fr_X12_readOn_b62  _ _ _ hN4
        ·
          exact fr_X12_readOn_b62  _ _ _ hN4
set_option maxRecDepth 100000 in
theorem fr_X12_fault_b54 {i0 : Nat} {M0 : Mem} (s0 : Int32) (M : Mem) (hM : Sm ([(rf i0 13), (rf i0 14), i0] : List Nat) M0 M) : FrB ([(rf i0 13), (rf i0 14), i0] : List Nat) M0 (X12_fault_b54 i0  s0 M) := by
  unfold X12_fault_b54
  exact Fr_ret hM
set_option maxRecDepth 100000 in
theorem fr_X12_fault_b9 {i0 : Nat} {M0 : Mem} {k9 : Int32 → Int32 → Mem → Option (Int32 × Mem)} (hk9 : ∀ (x1 : Int32) (x2 : Int32) (M : Mem), Sm ([(rf i0 13), (rf i0 14), i0] : List Nat) M0 M → FrB ([(rf i0 13), (rf i0 14), i0] : List Nat) M0 (k9 x1 x2 M)) (x1 : Int32) (x2 : Int32) (M : Mem) (hM : Sm ([(rf i0 13), (rf i0 14), i0] : List Nat) M0 M) : FrB ([(rf i0 13), (rf i0 14), i0] : List Nat) M0 (X12_fault_b9 i0 k9 x1 x2 M) := by
  unfold X12_fault_b9
  refine Fr_ite ?_ ?_
  ·
    refine Fr_ite ?_ ?_
    ·
      exact fr_X12_fault_b54  _ _ hM
    ·
      exact fr_X12_fault_b54  _ _ hM
  ·
    refine Fr_gd ?_
    refine Fr_bind (fr_X12_readOn _ _ _ Sm_refl) (by simp) hM (fun p1 hN1 => ?_)
    refine Fr_ite ?_ ?_
    ·
      exact hk9 _ _ _ hN1
    ·
      exact Fr_ret hN1
theorem fr_X12_fault_l9 {i0 : Nat} {M0 : Mem} (n : Nat) : ∀ (x1 : Int32) (x2 : Int32) (M : Mem), Sm ([(rf i0 13), (rf i0 14), i0] : List Nat) M0 M → FrB ([(rf i0 13), (rf i0 14), i0] : List Nat) M0 (X12_fault_l9 i0  n x1 x2 M) := by
  induction n with
  | zero => intro x1 x2 M _; exact Fr_none
  | succ n ih => intro x1 x2 M hM; exact fr_X12_fault_b9 ih x1 x2 M hM
set_option maxRecDepth 100000 in
theorem fr_X12_fault {i0 : Nat} {M0 : Mem}  (M : Mem) (hM : Sm ([(rf i0 13), (rf i0 14), i0] : List Nat) M0 M) : FrB ([(rf i0 13), (rf i0 14), i0] : List Nat) M0 (X12_fault i0   M) := by
  unfold X12_fault
  exact fr_X12_fault_l9  _ _ _ _ (Sm_mI hM (by simp))
set_option maxRecDepth 100000 in
theorem fr_X12_inHere {i0 : Nat} {M0 : Mem}  (M : Mem) (hM : Sm ([] : List Nat) M0 M) : FrB ([] : List Nat) M0 (X12_inHere i0   M) := by
  unfold X12_inHere
  refine Fr_gd ?_
  refine Fr_gd ?_
  exact Fr_ret hM
set_option maxRecDepth 100000 in
theorem fr_X12_whyNot_b73 {i0 : Nat} {M0 : Mem} (s0 : Int32) (M : Mem) (hM : Sm ([] : List Nat) M0 M) : FrB ([] : List Nat) M0 (X12_whyNot_b73 i0  s0 M) := by
  unfold X12_whyNot_b73
  exact Fr_ret hM
set_option maxRecDepth 100000 in
theorem fr_X12_whyNot_b105 {i0 : Nat} {M0 : Mem} (s0 : Int32) (M : Mem) (hM : Sm ([] : List Nat) M0 M) : FrB ([] : List Nat) M0 (X12_whyNot_b105 i0  s0 M) := by
  unfold X12_whyNot_b105
  exact Fr_ret hM
set_option maxRecDepth 100000 in
theorem fr_X12_whyNot_b137 {i0 : Nat} {M0 : Mem} (s0 : Int32) (M : Mem) (hM : Sm ([] : List Nat) M0 M) : FrB ([] : List Nat) M0 (X12_whyNot_b137 i0  s0 M) := by
  unfold X12_whyNot_b137
  exact Fr_ret hM
set_option maxRecDepth 100000 in
theorem fr_X12_whyNot_b169 {i0 : Nat} {M0 : Mem} (s0 : Int32) (M : Mem) (hM : Sm ([] : List Nat) M0 M) : FrB ([] : List Nat) M0 (X12_whyNot_b169 i0  s0 M) := by
  unfold X12_whyNot_b169
  exact Fr_ret hM
set_option maxRecDepth 100000 in
theorem fr_X12_whyNot_b183 {i0 : Nat} {M0 : Mem} (s0 : Int32) (M : Mem) (hM : Sm ([] : List Nat) M0 M) : FrB ([] : List Nat) M0 (X12_whyNot_b183 i0  s0 M) := by
  unfold X12_whyNot_b183
  exact Fr_ret hM
set_option maxRecDepth 100000 in
theorem fr_X12_whyNot_b202 {i0 : Nat} {M0 : Mem} (s0 : Int32) (M : Mem) (hM : Sm ([] : List Nat) M0 M) : FrB ([] : List Nat) M0 (X12_whyNot_b202 i0  s0 M) := by
  unfold X12_whyNot_b202
  exact Fr_ret hM
set_option maxRecDepth 100000 in
theorem fr_X12_whyNot {i0 : Nat} {M0 : Mem} (x1 : Int32) (x2 : Int32) (M : Mem) (hM : Sm ([] : List Nat) M0 M) : FrB ([] : List Nat) M0 (X12_whyNot i0  x1 x2 M) := by
  unfold X12_whyNot
  refine Fr_ite ?_ ?_
  ·
    refine Fr_ite ?_ ?_
    ·
      exact fr_X12_whyNot_b73  _ _ hM
    ·
      refine Fr_bind (fr_X12_apart _ _ _ Sm_refl) (by simp) hM (fun p2 hN2 => ?_)
      refine Fr_ite ?_ ?_
      ·
        exact fr_X12_whyNot_b73  _ _ hN2
      ·
        exact fr_X12_whyNot_b73  _ _ hN2
  refine Fr_ite ?_ ?_
  ·
    refine Fr_gd ?_
    refine Fr_gd ?_
    refine Fr_ite ?_ ?_
    ·
      exact fr_X12_whyNot_b105  _ _ hM
    ·
      exact fr_X12_whyNot_b105  _ _ hM
  refine Fr_ite ?_ ?_
  ·
    refine Fr_bind (fr_X12_isIn _ _ _ Sm_refl) (by simp) hM (fun p3 hN3 => ?_)
    refine Fr_ite ?_ ?_
    ·
      exact fr_X12_whyNot_b137  _ _ hN3
    ·
      refine Fr_bind (fr_X12_inHere  _ Sm_refl) (by simp) hN3 (fun p4 hN4 => ?_)
      refine Fr_bind (fr_X12_isIn _ _ _ Sm_refl) (by simp) hN4 (fun p5 hN5 => ?_)
      refine Fr_ite ?_ ?_
      ·
        exact fr_X12_whyNot_b137  _ _ hN5
      ·
        exact fr_X12_whyNot_b137  _ _ hN5
  refine Fr_ite ?_ ?_
  ·
    refine Fr_bind (fr_X12_inHere  _ Sm_refl) (by simp) hM (fun p6 hN6 => ?_)
    refine Fr_bind (fr_X12_isIn _ _ _ Sm_refl) (by simp) hN6 (fun p7 hN7 => ?_)
    refine Fr_ite ?_ ?_
    ·
      exact fr_X12_whyNot_b169  _ _ hN7
    ·
      refine Fr_bind (fr_X12_isIn _ _ _ Sm_refl) (by simp) hN7 (fun p8 hN8 => ?_)
      refine Fr_ite ?_ ?_
      ·
        exact fr_X12_whyNot_b169  _ _ hN8
      ·
        exact fr_X12_whyNot_b169  _ _ hN8
  refine Fr_ite ?_ ?_
  ·
    refine Fr_ite ?_ ?_
    ·
      exact fr_X12_whyNot_b183  _ _ hM
    ·
      exact fr_X12_whyNot_b183  _ _ hM
  refine Fr_ite ?_ ?_
  ·
    exact fr_X12_whyNot_b202  _ _ hM
  ·
    exact fr_X12_whyNot_b202  _ _ hM
set_option maxRecDepth 100000 in
theorem fr_X12_go {i0 : Nat} {M0 : Mem} (x1 : Int32) (M : Mem) (hM : Sm ([i0] : List Nat) M0 M) : FrB ([i0] : List Nat) M0 (X12_go i0  x1 M) := by
  unfold X12_go
  refine Fr_bind (fr_X12_apart _ _ _ Sm_refl) (by simp) hM (fun p1 hN1 => ?_)
  exact Fr_ret (Sm_mI (Sm_mI hN1 (by simp)) (by simp))
set_option maxRecDepth 100000 in
theorem fr_X12_look {i0 : Nat} {M0 : Mem}  (M : Mem) (hM : Sm ([i0] : List Nat) M0 M) : FrB ([i0] : List Nat) M0 (X12_look i0   M) := by
  unfold X12_look
  refine Fr_gd ?_
  refine Fr_gd ?_
  refine Fr_mw (Sm_mI hM (by simp)) (fun N1 hN1 => ?_)
  refine Fr_bind (fr_X12_inHere  _ Sm_refl) (by simp) hN1 (fun p2 hN2 => ?_)
  refine Fr_mw (Sm_mI hN2 (by simp)) (fun N3 hN3 => ?_)
  refine Fr_gd ?_
  refine Fr_mw (Sm_mI hN3 (by simp)) (fun N4 hN4 => ?_)
  exact Fr_ret hN4
set_option maxRecDepth 100000 in
theorem fr_X12_take {i0 : Nat} {M0 : Mem} (x1 : Int32) (M : Mem) (hM : Sm ([(rf i0 1), i0] : List Nat) M0 M) : FrB ([(rf i0 1), i0] : List Nat) M0 (X12_take i0  x1 M) := by
  unfold X12_take
  refine Fr_gd ?_
  refine Fr_gd ?_
  refine Fr_gd ?_
  refine Fr_mw (Sm_mI hM (by simp)) (fun N1 hN1 => ?_)
  refine Fr_mw (Sm_mI hN1 (by simp)) (fun N2 hN2 => ?_)
  refine Fr_mw (Sm_mI hN2 (by simp)) (fun N3 hN3 => ?_)
  exact Fr_ret hN3
set_option maxRecDepth 100000 in
theorem fr_X12_lay {i0 : Nat} {M0 : Mem} (x1 : Int32) (M : Mem) (hM : Sm ([(rf i0 1), i0] : List Nat) M0 M) : FrB ([(rf i0 1), i0] : List Nat) M0 (X12_lay i0  x1 M) := by
  unfold X12_lay
  refine Fr_gd ?_
  refine Fr_gd ?_
  refine Fr_gd ?_
  exact Fr_ret (Sm_mI (Sm_mI hM (by simp)) (by simp))
set_option maxRecDepth 100000 in
theorem fr_X12_change {i0 : Nat} {M0 : Mem} (x1 : Int32) (M : Mem) (hM : Sm ([(rf i0 0)] : List Nat) M0 M) : FrB ([(rf i0 0)] : List Nat) M0 (X12_change i0  x1 M) := by
  unfold X12_change
  refine Fr_gd ?_
  refine Fr_iw (fun v1 => ?_)
  refine Fr_gd ?_
  refine Fr_gd ?_
  refine Fr_gd ?_
  exact Fr_ret (Sm_mI (Sm_mI hM (by simp)) (by simp))
set_option maxRecDepth 100000 in
theorem fr_X12_happen_b85 {i0 : Nat} {M0 : Mem}  (M : Mem) (hM : Sm ([(rf i0 0), (rf i0 1), i0] : List Nat) M0 M) : FrB ([(rf i0 0), (rf i0 1), i0] : List Nat) M0 (X12_happen_b85 i0   M) := by
  unfold X12_happen_b85
  exact Fr_ret hM
set_option maxRecDepth 100000 in
theorem fr_X12_happen {i0 : Nat} {M0 : Mem} (x1 : Int32) (x2 : Int32) (M : Mem) (hM : Sm ([(rf i0 0), (rf i0 1), i0] : List Nat) M0 M) : FrB ([(rf i0 0), (rf i0 1), i0] : List Nat) M0 (X12_happen i0  x1 x2 M) := by
  unfold X12_happen
  refine Fr_ite ?_ ?_
  ·
    refine Fr_bind (fr_X12_go _ _ Sm_refl) (by simp) hM (fun p2 hN2 => ?_)
    exact fr_X12_happen_b85   _ hN2
  refine Fr_ite ?_ ?_
  ·
    refine Fr_bind (fr_X12_look  _ Sm_refl) (by simp) hM (fun p3 hN3 => ?_)
    exact fr_X12_happen_b85   _ hN3
  refine Fr_ite ?_ ?_
  ·
    refine Fr_bind (fr_X12_lay _ _ Sm_refl) (by simp) hM (fun p4 hN4 => ?_)
    exact fr_X12_happen_b85   _ hN4
  refine Fr_ite ?_ ?_
  ·
    refine Fr_bind (fr_X12_take _ _ Sm_refl) (by simp) hM (fun p5 hN5 => ?_)
    exact fr_X12_happen_b85   _ hN5
  refine Fr_ite ?_ ?_
  ·
    refine Fr_bind (fr_X12_change _ _ Sm_refl) (by simp) hM (fun p6 hN6 => ?_)
    exact fr_X12_happen_b85   _ hN6
  exact fr_X12_happen_b85   _ (Sm_mI hM (by simp))
set_option maxRecDepth 100000 in
theorem fr_X12_keepNow_b2 {i0 : Nat} {M0 : Mem} {k2 : Int32 → Mem → Option (Unit × Mem)} (hk2 : ∀ (x1 : Int32) (M : Mem), Sm ([(rf i0 17)] : List Nat) M0 M → FrB ([(rf i0 17)] : List Nat) M0 (k2 x1 M)) (x1 : Int32) (M : Mem) (hM : Sm ([(rf i0 17)] : List Nat) M0 M) : FrB ([(rf i0 17)] : List Nat) M0 (X12_keepNow_b2 i0 k2 x1 M) := by
  unfold X12_keepNow_b2
  refine Fr_ite ?_ ?_
  ·
    refine Fr_gd ?_
    refine Fr_mw (Sm_mI hM (by simp)) (fun N1 hN1 => ?_)
    refine Fr_gd ?_
    refine Fr_mw (Sm_mI hN1 (by simp)) (fun N2 hN2 => ?_)
    refine Fr_gd ?_
    refine Fr_mw (Sm_mI hN2 (by simp)) (fun N3 hN3 => ?_)
    refine Fr_gd ?_
    refine Fr_mw (Sm_mI hN3 (by simp)) (fun N4 hN4 => ?_)
    exact Fr_ret hN4
  ·
    refine Fr_gd ?_
    refine Fr_gd ?_
    refine Fr_mw (Sm_mI hM (by simp)) (fun N5 hN5 => ?_)
    refine Fr_gd ?_
    refine Fr_gd ?_
    refine Fr_mw (Sm_mI hN5 (by simp)) (fun N6 hN6 => ?_)
    exact hk2 _ _ hN6
theorem fr_X12_keepNow_l2 {i0 : Nat} {M0 : Mem} (n : Nat) : ∀ (x1 : Int32) (M : Mem), Sm ([(rf i0 17)] : List Nat) M0 M → FrB ([(rf i0 17)] : List Nat) M0 (X12_keepNow_l2 i0  n x1 M) := by
  induction n with
  | zero => intro x1 M _; exact Fr_none
  | succ n ih => intro x1 M hM; exact fr_X12_keepNow_b2 ih x1 M hM
set_option maxRecDepth 100000 in
theorem fr_X12_keepNow {i0 : Nat} {M0 : Mem}  (M : Mem) (hM : Sm ([(rf i0 17)] : List Nat) M0 M) : FrB ([(rf i0 17)] : List Nat) M0 (X12_keepNow i0   M) := by
  unfold X12_keepNow
  exact fr_X12_keepNow_l2  _ _ _ hM
set_option maxRecDepth 100000 in
theorem fr_X12_back_b2 {i0 : Nat} {M0 : Mem} {k2 : Int32 → Int32 → Mem → Option (Int32 × Mem)} (hk2 : ∀ (x1 : Int32) (x2 : Int32) (M : Mem), Sm ([(rf i0 0), (rf i0 1), i0] : List Nat) M0 M → FrB ([(rf i0 0), (rf i0 1), i0] : List Nat) M0 (k2 x1 x2 M)) (x1 : Int32) (x2 : Int32) (M : Mem) (hM : Sm ([(rf i0 0), (rf i0 1), i0] : List Nat) M0 M) : FrB ([(rf i0 0), (rf i0 1), i0] : List Nat) M0 (X12_back_b2 i0 k2 x1 x2 M) := by
  unfold X12_back_b2
  refine Fr_ite ?_ ?_
  ·
    refine Fr_gd ?_
    refine Fr_mw (Sm_mI hM (by simp)) (fun N1 hN1 => ?_)
    refine Fr_gd ?_
    refine Fr_mw (Sm_mI hN1 (by simp)) (fun N2 hN2 => ?_)
    refine Fr_gd ?_
    refine Fr_mw (Sm_mI hN2 (by simp)) (fun N3 hN3 => ?_)
    refine Fr_gd ?_
    refine Fr_mw (Sm_mI hN3 (by simp)) (fun N4 hN4 => ?_)
    exact Fr_ret hN4
  ·
    refine Fr_gd ?_
    refine Fr_gd ?_
    refine Fr_mw (Sm_mI hM (by simp)) (fun N5 hN5 => ?_)
    refine Fr_gd ?_
    refine Fr_gd ?_
    refine Fr_mw (Sm_mI hN5 (by simp)) (fun N6 hN6 => ?_)
    exact hk2 _ _ _ hN6
theorem fr_X12_back_l2 {i0 : Nat} {M0 : Mem} (n : Nat) : ∀ (x1 : Int32) (x2 : Int32) (M : Mem), Sm ([(rf i0 0), (rf i0 1), i0] : List Nat) M0 M → FrB ([(rf i0 0), (rf i0 1), i0] : List Nat) M0 (X12_back_l2 i0  n x1 x2 M) := by
  induction n with
  | zero => intro x1 x2 M _; exact Fr_none
  | succ n ih => intro x1 x2 M hM; exact fr_X12_back_b2 ih x1 x2 M hM
set_option maxRecDepth 100000 in
theorem fr_X12_back {i0 : Nat} {M0 : Mem} (x1 : Int32) (M : Mem) (hM : Sm ([(rf i0 0), (rf i0 1), i0] : List Nat) M0 M) : FrB ([(rf i0 0), (rf i0 1), i0] : List Nat) M0 (X12_back i0  x1 M) := by
  unfold X12_back
  exact fr_X12_back_l2  _ _ _ _ hM
set_option maxRecDepth 100000 in
theorem fr_X12_goOne_b148 {i0 : Nat} {M0 : Mem}  (M : Mem) (hM : Sm ([(rf i0 0), (rf i0 1), i0] : List Nat) M0 M) : FrB ([(rf i0 0), (rf i0 1), i0] : List Nat) M0 (X12_goOne_b148 i0   M) := by
  unfold X12_goOne_b148
  exact Fr_ret hM
set_option maxRecDepth 100000 in
theorem fr_X12_goOne_b145 {i0 : Nat} {M0 : Mem} (s0 : Int32) (M : Mem) (hM : Sm ([(rf i0 0), (rf i0 1), i0] : List Nat) M0 M) : FrB ([(rf i0 0), (rf i0 1), i0] : List Nat) M0 (X12_goOne_b145 i0  s0 M) := by
  unfold X12_goOne_b145
  exact fr_X12_goOne_b148   _ (Sm_mI hM (by simp))
set_option maxRecDepth 100000 in
theorem fr_X12_goOne_b97 {i0 : Nat} {M0 : Mem} (x1 : Int32) (x2 : Int32) (x3 : Int32) (x4 : Int32) (x5 : Int32) (s0 : Int32) (M : Mem) (hM : Sm ([(rf i0 0), (rf i0 1), i0] : List Nat) M0 M) : FrB ([(rf i0 0), (rf i0 1), i0] : List Nat) M0 (X12_goOne_b97 i0  x1 x2 x3 x4 x5 s0 M) := by
  unfold X12_goOne_b97
  refine Fr_ite ?_ ?_
  ·
    exact fr_X12_goOne_b148   _ hM
  ·
    refine Fr_ite ?_ ?_
    ·
      exact fr_X12_goOne_b148   _ hM
    ·
      refine Fr_ite ?_ ?_
      ·
        exact fr_X12_goOne_b145  _ _ (Sm_mI hM (by simp))
      ·
        refine Fr_ite ?_ ?_
        ·
          exact fr_X12_goOne_b145  _ _ (Sm_mI hM (by simp))
        ·
          refine Fr_ite ?_ ?_
          ·
            exact fr_X12_goOne_b145  _ _ (Sm_mI hM (by simp))
          ·
            exact fr_X12_goOne_b145  _ _ (Sm_mI hM (by simp))
set_option maxRecDepth 100000 in
theorem fr_X12_goOne_b92 {i0 : Nat} {M0 : Mem} (x1 : Int32) (x2 : Int32) (x3 : Int32) (x4 : Int32) (x5 : Int32) (M : Mem) (hM : Sm ([(rf i0 0), (rf i0 1), i0] : List Nat) M0 M) : FrB ([(rf i0 0), (rf i0 1), i0] : List Nat) M0 (X12_goOne_b92 i0  x1 x2 x3 x4 x5 M) := by
  unfold X12_goOne_b92
  exact fr_X12_goOne_b97  _ _ _ _ _ _ _ hM
set_option maxRecDepth 100000 in
theorem fr_X12_goOne_b96 {i0 : Nat} {M0 : Mem} (x1 : Int32) (x2 : Int32) (x3 : Int32) (x4 : Int32) (x5 : Int32) (M : Mem) (hM : Sm ([(rf i0 0), (rf i0 1), i0] : List Nat) M0 M) : FrB ([(rf i0 0), (rf i0 1), i0] : List Nat) M0 (X12_goOne_b96 i0  x1 x2 x3 x4 x5 M) := by
  unfold X12_goOne_b96
  exact fr_X12_goOne_b97  _ _ _ _ _ _ _ hM
set_option maxRecDepth 100000 in
theorem fr_X12_goOne_b54 {i0 : Nat} {M0 : Mem} (x1 : Int32) (x2 : Int32) (x3 : Int32) (x4 : Int32) (s0 : Int32) (M : Mem) (hM : Sm ([(rf i0 0), (rf i0 1), i0] : List Nat) M0 M) : FrB ([(rf i0 0), (rf i0 1), i0] : List Nat) M0 (X12_goOne_b54 i0  x1 x2 x3 x4 s0 M) := by
  unfold X12_goOne_b54
  refine Fr_gd ?_
  refine Fr_gd ?_
  refine Fr_bind (fr_X12_happen _ _ _ Sm_refl) (by simp) hM (fun p1 hN1 => ?_)
  refine Fr_gd ?_
  refine Fr_ite ?_ ?_
  ·
    refine Fr_ite ?_ ?_
    ·
      refine Fr_ite ?_ ?_
      ·
        exact fr_X12_goOne_b96  _ _ _ _ _ _ hN1
      ·
        exact fr_X12_goOne_b92  _ _ _ _ _ _ hN1
    ·
      exact fr_X12_goOne_b92  _ _ _ _ _ _ hN1
  ·
    exact fr_X12_goOne_b96  _ _ _ _ _ _ hN1
set_option maxRecDepth 100000 in
theorem fr_X12_goOne_b53 {i0 : Nat} {M0 : Mem} (x1 : Int32) (x2 : Int32) (x3 : Int32) (x4 : Int32) (M : Mem) (hM : Sm ([(rf i0 0), (rf i0 1), i0] : List Nat) M0 M) : FrB ([(rf i0 0), (rf i0 1), i0] : List Nat) M0 (X12_goOne_b53 i0  x1 x2 x3 x4 M) := by
  unfold X12_goOne_b53
  exact fr_X12_goOne_b54  _ _ _ _ _ _ hM
set_option maxRecDepth 100000 in
theorem fr_X12_goOne_b27 {i0 : Nat} {M0 : Mem} (x1 : Int32) (x2 : Int32) (x3 : Int32) (s0 : Int32) (M : Mem) (hM : Sm ([(rf i0 0), (rf i0 1), i0] : List Nat) M0 M) : FrB ([(rf i0 0), (rf i0 1), i0] : List Nat) M0 (X12_goOne_b27 i0  x1 x2 x3 s0 M) := by
  unfold X12_goOne_b27
  refine Fr_gd ?_
  refine Fr_ite ?_ ?_
  ·
    refine Fr_gd ?_
    refine Fr_ite ?_ ?_
    ·
      exact fr_X12_goOne_b54  _ _ _ _ _ _ hM
    ·
      exact fr_X12_goOne_b53  _ _ _ _ _ hM
  ·
    exact fr_X12_goOne_b53  _ _ _ _ _ hM
set_option maxRecDepth 100000 in
theorem fr_X12_goOne {i0 : Nat} {M0 : Mem} (x1 : Int32) (M : Mem) (hM : Sm ([(rf i0 0), (rf i0 1), i0] : List Nat) M0 M) : FrB ([(rf i0 0), (rf i0 1), i0] : List Nat) M0 (X12_goOne i0  x1 M) := by
  unfold X12_goOne
  refine Fr_gd ?_
  refine Fr_iw (fun v1 => ?_)
  refine Fr_gd ?_
  refine Fr_ite ?_ ?_
  ·
    exact fr_X12_goOne_b27  _ _ _ _ _ hM
  ·
    exact fr_X12_goOne_b27  _ _ _ _ _ hM
set_option maxRecDepth 100000 in
theorem fr_X12_goEvenings_b100 {i0 : Nat} {M0 : Mem} {k31 : Int32 → Mem → Option (Unit × Mem)} (hk31 : ∀ (x1 : Int32) (M : Mem), Sm ([(rf i0 0), (rf i0 1), i0] : List Nat) M0 M → FrB ([(rf i0 0), (rf i0 1), i0] : List Nat) M0 (k31 x1 M)) (x1 : Int32) (M : Mem) (hM : Sm ([(rf i0 0), (rf i0 1), i0] : List Nat) M0 M) : FrB ([(rf i0 0), (rf i0 1), i0] : List Nat) M0 (X12_goEvenings_b100 i0 k31 x1 M) := by
  unfold X12_goEvenings_b100
  exact hk31 _ _ hM
set_option maxRecDepth 100000 in
theorem fr_X12_goEvenings_b88 {i0 : Nat} {M0 : Mem} {k31 : Int32 → Mem → Option (Unit × Mem)} (hk31 : ∀ (x1 : Int32) (M : Mem), Sm ([(rf i0 0), (rf i0 1), i0] : List Nat) M0 M → FrB ([(rf i0 0), (rf i0 1), i0] : List Nat) M0 (k31 x1 M)) (x1 : Int32) (x2 : Int32) (s0 : Int32) (M : Mem) (hM : Sm ([(rf i0 0), (rf i0 1), i0] : List Nat) M0 M) : FrB ([(rf i0 0), (rf i0 1), i0] : List Nat) M0 (X12_goEvenings_b88 i0 k31 x1 x2 s0 M) := by
  unfold X12_goEvenings_b88
  refine Fr_mw (Sm_mI hM (by simp)) (fun N1 hN1 => ?_)
  refine Fr_ite ?_ ?_
  ·
    refine Fr_bind (fr_X12_goOne _ _ Sm_refl) (by simp) hN1 (fun p2 hN2 => ?_)
    exact fr_X12_goEvenings_b100 hk31 _ _ hN2
  ·
    exact fr_X12_goEvenings_b100 hk31 _ _ hN1
set_option maxRecDepth 100000 in
theorem fr_X12_goEvenings_b74 {i0 : Nat} {M0 : Mem} {k31 : Int32 → Mem → Option (Unit × Mem)} (hk31 : ∀ (x1 : Int32) (M : Mem), Sm ([(rf i0 0), (rf i0 1), i0] : List Nat) M0 M → FrB ([(rf i0 0), (rf i0 1), i0] : List Nat) M0 (k31 x1 M)) (x1 : Int32) (x2 : Int32) (s0 : Int32) (M : Mem) (hM : Sm ([(rf i0 0), (rf i0 1), i0] : List Nat) M0 M) : FrB ([(rf i0 0), (rf i0 1), i0] : List Nat) M0 (X12_goEvenings_b74 i0 k31 x1 x2 s0 M) := by
  unfold X12_goEvenings_b74
  refine Fr_mw (Sm_mI hM (by simp)) (fun N1 hN1 => ?_)
  refine Fr_ite ?_ ?_
  ·
    exact fr_X12_goEvenings_b88 hk31 _ _ _ _ hN1
  ·
    exact fr_X12_goEvenings_b88 hk31 _ _ _ _ hN1
set_option maxRecDepth 100000 in
theorem fr_X12_goEvenings_b106 {i0 : Nat} {M0 : Mem}  (M : Mem) (hM : Sm ([(rf i0 0), (rf i0 1), i0] : List Nat) M0 M) : FrB ([(rf i0 0), (rf i0 1), i0] : List Nat) M0 (X12_goEvenings_b106 i0   M) := by
  unfold X12_goEvenings_b106
  exact Fr_ret hM
set_option maxRecDepth 100000 in
theorem fr_X12_goEvenings_b31 {i0 : Nat} {M0 : Mem} {k31 : Int32 → Mem → Option (Unit × Mem)} (hk31 : ∀ (x1 : Int32) (M : Mem), Sm ([(rf i0 0), (rf i0 1), i0] : List Nat) M0 M → FrB ([(rf i0 0), (rf i0 1), i0] : List Nat) M0 (k31 x1 M)) (x1 : Int32) (M : Mem) (hM : Sm ([(rf i0 0), (rf i0 1), i0] : List Nat) M0 M) : FrB ([(rf i0 0), (rf i0 1), i0] : List Nat) M0 (X12_goEvenings_b31 i0 k31 x1 M) := by
  unfold X12_goEvenings_b31
  refine Fr_ite ?_ ?_
  ·
    exact fr_X12_goEvenings_b106   _ hM
  ·
    refine Fr_ite ?_ ?_
    ·
      exact fr_X12_goEvenings_b106   _ hM
    ·
      refine Fr_gd ?_
      refine Fr_gd ?_
      refine Fr_bind (fr_X12_whyNot _ _ _ Sm_refl) (by simp) hM (fun p1 hN1 => ?_)
      refine Fr_ite ?_ ?_
      ·
        exact fr_X12_goEvenings_b74 hk31 _ _ _ _ hN1
      ·
        exact fr_X12_goEvenings_b74 hk31 _ _ _ _ hN1
theorem fr_X12_goEvenings_l31 {i0 : Nat} {M0 : Mem} (n : Nat) : ∀ (x1 : Int32) (M : Mem), Sm ([(rf i0 0), (rf i0 1), i0] : List Nat) M0 M → FrB ([(rf i0 0), (rf i0 1), i0] : List Nat) M0 (X12_goEvenings_l31 i0  n x1 M) := by
  induction n with
  | zero => intro x1 M _; exact Fr_none
  | succ n ih => intro x1 M hM; exact fr_X12_goEvenings_b31 ih x1 M hM
set_option maxRecDepth 100000 in
theorem fr_X12_goEvenings {i0 : Nat} {M0 : Mem}  (M : Mem) (hM : Sm ([(rf i0 0), (rf i0 1), i0] : List Nat) M0 M) : FrB ([(rf i0 0), (rf i0 1), i0] : List Nat) M0 (X12_goEvenings i0   M) := by
  unfold X12_goEvenings
  refine Fr_mw (Sm_mI hM (by simp)) (fun N1 hN1 => ?_)
  refine Fr_mw (Sm_mI hN1 (by simp)) (fun N2 hN2 => ?_)
  refine Fr_mw (Sm_mI hN2 (by simp)) (fun N3 hN3 => ?_)
  refine Fr_mw (Sm_mI hN3 (by simp)) (fun N4 hN4 => ?_)
  refine Fr_mw (Sm_mI hN4 (by simp)) (fun N5 hN5 => ?_)
  exact fr_X12_goEvenings_l31  _ _ _ hN5
set_option maxRecDepth 100000 in
theorem fr_X12_refusal_b32 {i0 : Nat} {M0 : Mem} (s0 : Int32) (M : Mem) (hM : Sm ([(rf i0 0), (rf i0 1), (rf i0 13), (rf i0 14), (rf i0 17), i0] : List Nat) M0 M) : FrB ([(rf i0 0), (rf i0 1), (rf i0 13), (rf i0 14), (rf i0 17), i0] : List Nat) M0 (X12_refusal_b32 i0  s0 M) := by
  unfold X12_refusal_b32
  exact Fr_ret hM
set_option maxRecDepth 100000 in
theorem fr_X12_refusal {i0 : Nat} {M0 : Mem}  (M : Mem) (hM : Sm ([(rf i0 0), (rf i0 1), (rf i0 13), (rf i0 14), (rf i0 17), i0] : List Nat) M0 M) : FrB ([(rf i0 0), (rf i0 1), (rf i0 13), (rf i0 14), (rf i0 17), i0] : List Nat) M0 (X12_refusal i0   M) := by
  unfold X12_refusal
  refine Fr_bind (fr_X12_keepNow  _ Sm_refl) (by simp) hM (fun p1 hN1 => ?_)
  refine Fr_bind (fr_X12_fault  _ Sm_refl) (by simp) hN1 (fun p2 hN2 => ?_)
  refine Fr_ite ?_ ?_
  ·
    refine Fr_bind (fr_X12_goEvenings  _ Sm_refl) (by simp) hN2 (fun p3 hN3 => ?_)
    refine Fr_ite ?_ ?_
    ·
      exact fr_X12_refusal_b32  _ _ hN3
    ·
      exact fr_X12_refusal_b32  _ _ hN3
  ·
    exact Fr_ret hN2
set_option maxRecDepth 100000 in
theorem fr_X12_judge_b41 {i0 : Nat} {M0 : Mem} (x2 : Int32) (M : Mem) (hM : Sm ([(rf i0 0), (rf i0 1), (rf i0 13), (rf i0 14), (rf i0 17), i0] : List Nat) M0 M) : FrB ([(rf i0 0), (rf i0 1), (rf i0 13), (rf i0 14), (rf i0 17), i0] : List Nat) M0 (X12_judge_b41 i0  x2 M) := by
  unfold X12_judge_b41
  exact Fr_ret hM
set_option maxRecDepth 100000 in
theorem fr_X12_judge_b70 {i0 : Nat} {M0 : Mem} (s0 : Int32) (M : Mem) (hM : Sm ([(rf i0 0), (rf i0 1), (rf i0 13), (rf i0 14), (rf i0 17), i0] : List Nat) M0 M) : FrB ([(rf i0 0), (rf i0 1), (rf i0 13), (rf i0 14), (rf i0 17), i0] : List Nat) M0 (X12_judge_b70 i0  s0 M) := by
  unfold X12_judge_b70
  exact Fr_ret hM
set_option maxRecDepth 100000 in
theorem fr_X12_judge_b43 {i0 : Nat} {M0 : Mem} (x1 : Int32) (M : Mem) (hM : Sm ([(rf i0 0), (rf i0 1), (rf i0 13), (rf i0 14), (rf i0 17), i0] : List Nat) M0 M) : FrB ([(rf i0 0), (rf i0 1), (rf i0 13), (rf i0 14), (rf i0 17), i0] : List Nat) M0 (X12_judge_b43 i0  x1 M) := by
  unfold X12_judge_b43
  refine Fr_ite ?_ ?_
  ·
    exact fr_X12_judge_b70  _ _ hM
  ·
    refine Fr_ite ?_ ?_
    ·
      exact fr_X12_judge_b70  _ _ hM
    ·
      exact fr_X12_judge_b70  _ _ hM
set_option maxRecDepth 100000 in
theorem fr_X12_judge {i0 : Nat} {M0 : Mem} (x1 : Int32) (M : Mem) (hM : Sm ([(rf i0 0), (rf i0 1), (rf i0 13), (rf i0 14), (rf i0 17), i0] : List Nat) M0 M) : FrB ([(rf i0 0), (rf i0 1), (rf i0 13), (rf i0 14), (rf i0 17), i0] : List Nat) M0 (X12_judge i0  x1 M) := by
  unfold X12_judge
  refine Fr_bind (fr_X12_in _ _ _ _ Sm_refl) (by simp) hM (fun p1 hN1 => ?_)
  refine Fr_ite ?_ ?_
  ·
    exact Fr_ret hN1
  ·
    refine Fr_bind (fr_X12_refusal  _ Sm_refl) (by simp) hN1 (fun p2 hN2 => ?_)
    refine Fr_bind (fr_X12_back _ _ Sm_refl) (by simp) hN2 (fun p3 hN3 => ?_)
    refine Fr_ite ?_ ?_
    ·
      exact fr_X12_judge_b41  _ _ hN3
    ·
      refine Fr_ite ?_ ?_
      ·
        exact fr_X12_judge_b43  _ _ hN3
      ·
        refine Fr_ite ?_ ?_
        ·
          exact fr_X12_judge_b41  _ _ hN3
        ·
          exact fr_X12_judge_b43  _ _ hN3
set_option maxRecDepth 100000 in
theorem fr_X12_behind_b62 {i0 : Nat} {M0 : Mem} (s0 : Int32) (M : Mem) (hM : Sm ([(rf i0 0), (rf i0 1), (rf i0 13), (rf i0 14), (rf i0 17), i0] : List Nat) M0 M) : FrB ([(rf i0 0), (rf i0 1), (rf i0 13), (rf i0 14), (rf i0 17), i0] : List Nat) M0 (X12_behind_b62 i0  s0 M) := by
  unfold X12_behind_b62
  refine Fr_bind (fr_X12_back _ _ Sm_refl) (by simp) hM (fun p1 hN1 => ?_)
  exact Fr_ret hN1
set_option maxRecDepth 100000 in
theorem fr_X12_behind {i0 : Nat} {M0 : Mem} (x1 : Int32) (x2 : Int32) (M : Mem) (hM : Sm ([(rf i0 0), (rf i0 1), (rf i0 13), (rf i0 14), (rf i0 17), i0] : List Nat) M0 M) : FrB ([(rf i0 0), (rf i0 1), (rf i0 13), (rf i0 14), (rf i0 17), i0] : List Nat) M0 (X12_behind i0  x1 x2 M) := by
  unfold X12_behind
  refine Fr_bind (fr_X12_isCabin _ _ Sm_refl) (by simp) hM (fun p1 hN1 => ?_)
  refine Fr_ite ?_ ?_
  ·
    exact Fr_ret hN1
  ·
    refine Fr_bind (fr_X12_in _ _ _ _ Sm_refl) (by simp) hN1 (fun p2 hN2 => ?_)
    refine Fr_ite ?_ ?_
    ·
      exact Fr_ret hN2
    ·
      refine Fr_bind (fr_X12_refusal  _ Sm_refl) (by simp) hN2 (fun p3 hN3 => ?_)
      refine Fr_ite ?_ ?_
      ·
        refine Fr_ite ?_ ?_
        ·
          refine Fr_gd ?_
          exact fr_X12_behind_b62  _ _ hN3
        ·
          refine Fr_gd ?_
          refine Fr_gd ?_
          exact fr_X12_behind_b62  _ _ hN3
      ·
        exact fr_X12_behind_b62  _ _ hN3
set_option maxRecDepth 100000 in
theorem fr_X12_his_b70 {i0 : Nat} {M0 : Mem} (s0 : Int32) (M : Mem) (hM : Sm ([(rf i0 0), (rf i0 1), (rf i0 13), (rf i0 14), (rf i0 17), i0] : List Nat) M0 M) : FrB ([(rf i0 0), (rf i0 1), (rf i0 13), (rf i0 14), (rf i0 17), i0] : List Nat) M0 (X12_his_b70 i0  s0 M) := by
  unfold X12_his_b70
  refine Fr_bind (fr_X12_back _ _ Sm_refl) (by simp) hM (fun p1 hN1 => ?_)
  exact Fr_ret hN1
set_option maxRecDepth 100000 in
theorem fr_X12_his {i0 : Nat} {M0 : Mem} (x1 : Int32) (M : Mem) (hM : Sm ([(rf i0 0), (rf i0 1), (rf i0 13), (rf i0 14), (rf i0 17), i0] : List Nat) M0 M) : FrB ([(rf i0 0), (rf i0 1), (rf i0 13), (rf i0 14), (rf i0 17), i0] : List Nat) M0 (X12_his i0  x1 M) := by
  unfold X12_his
  refine Fr_bind (fr_X12_in _ _ _ _ Sm_refl) (by simp) hM (fun p1 hN1 => ?_)
  refine Fr_ite ?_ ?_
  ·
    exact Fr_ret hN1
  ·
    refine Fr_bind (fr_X12_refusal  _ Sm_refl) (by simp) hN1 (fun p2 hN2 => ?_)
    refine Fr_ite ?_ ?_
    ·
      refine Fr_ite ?_ ?_
      ·
        exact fr_X12_his_b70  _ _ hN2
      ·
        refine Fr_ite ?_ ?_
        ·
          exact fr_X12_his_b70  _ _ hN2
        ·
          refine Fr_ite ?_ ?_
          ·
            exact fr_X12_his_b70  _ _ hN2
          ·
            exact fr_X12_his_b70  _ _ hN2
    ·
      exact fr_X12_his_b70  _ _ hN2
set_option maxRecDepth 100000 in
theorem fr_X12_wrong_b58 {i0 : Nat} {M0 : Mem} (s0 : Int32) (M : Mem) (hM : Sm ([(rf i0 0), (rf i0 1), (rf i0 13), (rf i0 14), (rf i0 17), i0] : List Nat) M0 M) : FrB ([(rf i0 0), (rf i0 1), (rf i0 13), (rf i0 14), (rf i0 17), i0] : List Nat) M0 (X12_wrong_b58 i0  s0 M) := by
  unfold X12_wrong_b58
  refine Fr_bind (fr_X12_back _ _ Sm_refl) (by simp) hM (fun p1 hN1 => ?_)
  exact Fr_ret hN1
set_option maxRecDepth 100000 in
theorem fr_X12_wrong {i0 : Nat} {M0 : Mem} (x1 : Int32) (M : Mem) (hM : Sm ([(rf i0 0), (rf i0 1), (rf i0 13), (rf i0 14), (rf i0 17), i0] : List Nat) M0 M) : FrB ([(rf i0 0), (rf i0 1), (rf i0 13), (rf i0 14), (rf i0 17), i0] : List Nat) M0 (X12_wrong i0  x1 M) := by
  unfold X12_wrong
  refine Fr_bind (fr_X12_in _ _ _ _ Sm_refl) (by simp) hM (fun p1 hN1 => ?_)
  refine Fr_ite ?_ ?_
  ·
    exact Fr_ret hN1
  ·
    refine Fr_bind (fr_X12_refusal  _ Sm_refl) (by simp) hN1 (fun p2 hN2 => ?_)
    refine Fr_ite ?_ ?_
    ·
      refine Fr_ite ?_ ?_
      ·
        refine Fr_bind (fr_X12_wrongMany  _ Sm_refl) (by simp) hN2 (fun p3 hN3 => ?_)
        exact fr_X12_wrong_b58  _ _ hN3
      ·
        refine Fr_ite ?_ ?_
        ·
          exact fr_X12_wrong_b58  _ _ hN2
        ·
          exact fr_X12_wrong_b58  _ _ hN2
    ·
      exact fr_X12_wrong_b58  _ _ hN2
set_option maxRecDepth 100000 in
theorem fr_X12_done {i0 : Nat} {M0 : Mem}  (M : Mem) (hM : Sm ([(rf i0 0), (rf i0 1), (rf i0 13), (rf i0 14), (rf i0 17), i0] : List Nat) M0 M) : FrB ([(rf i0 0), (rf i0 1), (rf i0 13), (rf i0 14), (rf i0 17), i0] : List Nat) M0 (X12_done i0   M) := by
  unfold X12_done
  refine Fr_bind (fr_X12_refusal  _ Sm_refl) (by simp) hM (fun p1 hN1 => ?_)
  refine Fr_ite ?_ ?_
  ·
    exact Fr_ret (Sm_mI hN1 (by simp))
  ·
    refine Fr_bind (fr_X12_back _ _ Sm_refl) (by simp) hN1 (fun p2 hN2 => ?_)
    exact Fr_ret hN2
set_option maxRecDepth 100000 in
theorem fr_X12_less_b10  {M0 : Mem} (s0 : Int32) (M : Mem) (hM : Sm ([] : List Nat) M0 M) : FrB ([] : List Nat) M0 (X12_less_b10   s0 M) := by
  unfold X12_less_b10
  exact Fr_ret hM
set_option maxRecDepth 100000 in
theorem fr_X12_less  {M0 : Mem} (x0 : Int32) (x1 : Int32) (M : Mem) (hM : Sm ([] : List Nat) M0 M) : FrB ([] : List Nat) M0 (X12_less   x0 x1 M) := by
  unfold X12_less
  refine Fr_ite ?_ ?_
  ·
    exact fr_X12_less_b10  _ _ hM
  ·
    exact fr_X12_less_b10  _ _ hM
set_option maxRecDepth 100000 in
theorem fr_X12_more_b10  {M0 : Mem} (s0 : Int32) (M : Mem) (hM : Sm ([] : List Nat) M0 M) : FrB ([] : List Nat) M0 (X12_more_b10   s0 M) := by
  unfold X12_more_b10
  exact Fr_ret hM
set_option maxRecDepth 100000 in
theorem fr_X12_more  {M0 : Mem} (x0 : Int32) (x1 : Int32) (M : Mem) (hM : Sm ([] : List Nat) M0 M) : FrB ([] : List Nat) M0 (X12_more   x0 x1 M) := by
  unfold X12_more
  refine Fr_ite ?_ ?_
  ·
    exact fr_X12_more_b10  _ _ hM
  ·
    exact fr_X12_more_b10  _ _ hM
set_option maxRecDepth 100000 in
theorem fr_X12_minutesBy_b74 {i0 : Nat} {M0 : Mem} {k25 : Int32 → Int32 → Int32 → Int32 → Int32 → Int32 → Mem → Option (Int32 × Mem)} (hk25 : ∀ (x1 : Int32) (x2 : Int32) (x3 : Int32) (x4 : Int32) (x5 : Int32) (x6 : Int32) (M : Mem), Sm ([] : List Nat) M0 M → FrB ([] : List Nat) M0 (k25 x1 x2 x3 x4 x5 x6 M)) (x1 : Int32) (x2 : Int32) (x3 : Int32) (x4 : Int32) (x5 : Int32) (x6 : Int32) (M : Mem) (hM : Sm ([] : List Nat) M0 M) : FrB ([] : List Nat) M0 (X12_minutesBy_b74 i0 k25 x1 x2 x3 x4 x5 x6 M) := by
  unfold X12_minutesBy_b74
  exact hk25 _ _ _ _ _ _ _ hM
set_option maxRecDepth 100000 in
theorem fr_X12_minutesBy_b25 {i0 : Nat} {M0 : Mem} {k25 : Int32 → Int32 → Int32 → Int32 → Int32 → Int32 → Mem → Option (Int32 × Mem)} (hk25 : ∀ (x1 : Int32) (x2 : Int32) (x3 : Int32) (x4 : Int32) (x5 : Int32) (x6 : Int32) (M : Mem), Sm ([] : List Nat) M0 M → FrB ([] : List Nat) M0 (k25 x1 x2 x3 x4 x5 x6 M)) (x1 : Int32) (x2 : Int32) (x3 : Int32) (x4 : Int32) (x5 : Int32) (x6 : Int32) (M : Mem) (hM : Sm ([] : List Nat) M0 M) : FrB ([] : List Nat) M0 (X12_minutesBy_b25 i0 k25 x1 x2 x3 x4 x5 x6 M) := by
  unfold X12_minutesBy_b25
  refine Fr_ite ?_ ?_
  ·
    refine Fr_iw (fun v1 => ?_)
    refine Fr_iw (fun v2 => ?_)
    refine Fr_bind (fr_X12_less _ _ _ Sm_refl) (by simp) hM (fun p3 hN3 => ?_)
    exact Fr_ret hN3
  ·
    refine Fr_bind (fr_X12_isIn _ _ _ Sm_refl) (by simp) hM (fun p4 hN4 => ?_)
    refine Fr_ite ?_ ?_
    ·
      exact fr_X12_minutesBy_b74 hk25 _ _ _ _ _ _ _ hN4
    ·
      refine Fr_bind (fr_X12_less _ _ _ Sm_refl) (by simp) hN4 (fun p5 hN5 => ?_)
      refine Fr_bind (fr_X12_more _ _ _ Sm_refl) (by simp) hN5 (fun p6 hN6 => ?_)
      refine Fr_gd ?_
      refine Fr_gd ?_
      refine Fr_iw (fun v7 => ?_)
      exact fr_X12_minutesBy_b74 hk25 _ _ _ _ _ _ _ hN6
theorem fr_X12_minutesBy_l25 {i0 : Nat} {M0 : Mem} (n : Nat) : ∀ (x1 : Int32) (x2 : Int32) (x3 : Int32) (x4 : Int32) (x5 : Int32) (x6 : Int32) (M : Mem), Sm ([] : List Nat) M0 M → FrB ([] : List Nat) M0 (X12_minutesBy_l25 i0  n x1 x2 x3 x4 x5 x6 M) := by
  induction n with
  | zero => intro x1 x2 x3 x4 x5 x6 M _; exact Fr_none
  | succ n ih => intro x1 x2 x3 x4 x5 x6 M hM; exact fr_X12_minutesBy_b25 ih x1 x2 x3 x4 x5 x6 M hM
set_option maxRecDepth 100000 in
theorem fr_X12_minutesBy {i0 : Nat} {M0 : Mem} (x1 : Int32) (x2 : Int32) (M : Mem) (hM : Sm ([] : List Nat) M0 M) : FrB ([] : List Nat) M0 (X12_minutesBy i0  x1 x2 M) := by
  unfold X12_minutesBy
  refine Fr_bind (fr_X12_less _ _ _ Sm_refl) (by simp) hM (fun p1 hN1 => ?_)
  refine Fr_bind (fr_X12_more _ _ _ Sm_refl) (by simp) hN1 (fun p2 hN2 => ?_)
  exact fr_X12_minutesBy_l25  _ _ _ _ _ _ _ _ hN2
set_option maxRecDepth 100000 in
theorem fr_X12_round_b89 {i0 : Nat} {M0 : Mem} {k28 : Int32 → Int32 → Int32 → Int32 → Mem → Option (Int32 × Mem)} (hk28 : ∀ (x1 : Int32) (x2 : Int32) (x3 : Int32) (x4 : Int32) (M : Mem), Sm ([] : List Nat) M0 M → FrB ([] : List Nat) M0 (k28 x1 x2 x3 x4 M)) (x1 : Int32) (x2 : Int32) (x4 : Int32) (s0 : Int32) (M : Mem) (hM : Sm ([] : List Nat) M0 M) : FrB ([] : List Nat) M0 (X12_round_b89 i0 k28 x1 x2 x4 s0 M) := by
  unfold X12_round_b89
  exact hk28 _ _ _ _ _ hM
set_option maxRecDepth 100000 in
theorem fr_X12_round_b88 {i0 : Nat} {M0 : Mem} {k28 : Int32 → Int32 → Int32 → Int32 → Mem → Option (Int32 × Mem)} (hk28 : ∀ (x1 : Int32) (x2 : Int32) (x3 : Int32) (x4 : Int32) (M : Mem), Sm ([] : List Nat) M0 M → FrB ([] : List Nat) M0 (k28 x1 x2 x3 x4 M)) (x1 : Int32) (x2 : Int32) (x3 : Int32) (x4 : Int32) (M : Mem) (hM : Sm ([] : List Nat) M0 M) : FrB ([] : List Nat) M0 (X12_round_b88 i0 k28 x1 x2 x3 x4 M) := by
  unfold X12_round_b88
  exact fr_X12_round_b89 hk28 _ _ _ _ _ hM
set_option maxRecDepth 100000 in
theorem fr_X12_round_b57 {i0 : Nat} {M0 : Mem} {k28 : Int32 → Int32 → Int32 → Int32 → Mem → Option (Int32 × Mem)} (hk28 : ∀ (x1 : Int32) (x2 : Int32) (x3 : Int32) (x4 : Int32) (M : Mem), Sm ([] : List Nat) M0 M → FrB ([] : List Nat) M0 (k28 x1 x2 x3 x4 M)) (x1 : Int32) (x2 : Int32) (x3 : Int32) (x4 : Int32) (s0 : Int32) (M : Mem) (hM : Sm ([] : List Nat) M0 M) : FrB ([] : List Nat) M0 (X12_round_b57 i0 k28 x1 x2 x3 x4 s0 M) := by
  unfold X12_round_b57
  refine Fr_ite ?_ ?_
  ·
    exact fr_X12_round_b88 hk28 _ _ _ _ _ hM
  ·
    refine Fr_bind (fr_X12_minutesBy _ _ _ Sm_refl) (by simp) hM (fun p1 hN1 => ?_)
    refine Fr_ite ?_ ?_
    ·
      exact fr_X12_round_b88 hk28 _ _ _ _ _ hN1
    ·
      exact fr_X12_round_b89 hk28 _ _ _ _ _ hN1
set_option maxRecDepth 100000 in
theorem fr_X12_round_b52 {i0 : Nat} {M0 : Mem} {k28 : Int32 → Int32 → Int32 → Int32 → Mem → Option (Int32 × Mem)} (hk28 : ∀ (x1 : Int32) (x2 : Int32) (x3 : Int32) (x4 : Int32) (M : Mem), Sm ([] : List Nat) M0 M → FrB ([] : List Nat) M0 (k28 x1 x2 x3 x4 M)) (x1 : Int32) (x2 : Int32) (x3 : Int32) (x4 : Int32) (M : Mem) (hM : Sm ([] : List Nat) M0 M) : FrB ([] : List Nat) M0 (X12_round_b52 i0 k28 x1 x2 x3 x4 M) := by
  unfold X12_round_b52
  exact fr_X12_round_b57 hk28 _ _ _ _ _ _ hM
set_option maxRecDepth 100000 in
theorem fr_X12_round_b113 {i0 : Nat} {M0 : Mem} (s0 : Int32) (M : Mem) (hM : Sm ([] : List Nat) M0 M) : FrB ([] : List Nat) M0 (X12_round_b113 i0  s0 M) := by
  unfold X12_round_b113
  exact Fr_ret hM
set_option maxRecDepth 100000 in
theorem fr_X12_round_b105 {i0 : Nat} {M0 : Mem} (x3 : Int32) (M : Mem) (hM : Sm ([] : List Nat) M0 M) : FrB ([] : List Nat) M0 (X12_round_b105 i0  x3 M) := by
  unfold X12_round_b105
  exact fr_X12_round_b113  _ _ hM
set_option maxRecDepth 100000 in
theorem fr_X12_round_b28 {i0 : Nat} {M0 : Mem} {k28 : Int32 → Int32 → Int32 → Int32 → Mem → Option (Int32 × Mem)} (hk28 : ∀ (x1 : Int32) (x2 : Int32) (x3 : Int32) (x4 : Int32) (M : Mem), Sm ([] : List Nat) M0 M → FrB ([] : List Nat) M0 (k28 x1 x2 x3 x4 M)) (x1 : Int32) (x2 : Int32) (x3 : Int32) (x4 : Int32) (M : Mem) (hM : Sm ([] : List Nat) M0 M) : FrB ([] : List Nat) M0 (X12_round_b28 i0 k28 x1 x2 x3 x4 M) := by
  unfold X12_round_b28
  refine Fr_ite ?_ ?_
  ·
    refine Fr_ite ?_ ?_
    ·
      exact fr_X12_round_b105  _ _ hM
    ·
      refine Fr_ite ?_ ?_
      ·
        exact fr_X12_round_b105  _ _ hM
      ·
        refine Fr_bind (fr_X12_ones _ _ Sm_refl) (by simp) hM (fun p1 hN1 => ?_)
        exact fr_X12_round_b113  _ _ hN1
  ·
    refine Fr_ite ?_ ?_
    ·
      exact fr_X12_round_b52 hk28 _ _ _ _ _ hM
    ·
      refine Fr_bind (fr_X12_ones _ _ Sm_refl) (by simp) hM (fun p2 hN2 => ?_)
      refine Fr_bind (fr_X12_ones _ _ Sm_refl) (by simp) hN2 (fun p3 hN3 => ?_)
      refine Fr_ite ?_ ?_
      ·
        exact fr_X12_round_b57 hk28 _ _ _ _ _ _ hN3
      ·
        exact fr_X12_round_b52 hk28 _ _ _ _ _ hN3
theorem fr_X12_round_l28 {i0 : Nat} {M0 : Mem} (n : Nat) : ∀ (x1 : Int32) (x2 : Int32) (x3 : Int32) (x4 : Int32) (M : Mem), Sm ([] : List Nat) M0 M → FrB ([] : List Nat) M0 (X12_round_l28 i0  n x1 x2 x3 x4 M) := by
  induction n with
  | zero => intro x1 x2 x3 x4 M _; exact Fr_none
  | succ n ih => intro x1 x2 x3 x4 M hM; exact fr_X12_round_b28 ih x1 x2 x3 x4 M hM
set_option maxRecDepth 100000 in
theorem fr_X12_round {i0 : Nat} {M0 : Mem} (x1 : Int32) (x2 : Int32) (M : Mem) (hM : Sm ([] : List Nat) M0 M) : FrB ([] : List Nat) M0 (X12_round i0  x1 x2 M) := by
  unfold X12_round
  refine Fr_bind (fr_X12_isCabin _ _ Sm_refl) (by simp) hM (fun p1 hN1 => ?_)
  refine Fr_ite ?_ ?_
  ·
    exact Fr_ret hN1
  ·
    refine Fr_bind (fr_X12_in _ _ _ _ Sm_refl) (by simp) hN1 (fun p2 hN2 => ?_)
    refine Fr_ite ?_ ?_
    ·
      exact Fr_ret hN2
    ·
      exact fr_X12_round_l28  _ _ _ _ _ _ hN2
set_option maxRecDepth 100000 in
theorem fr_X12_shownBy_b32 {i0 : Nat} {M0 : Mem} {k7 : Int32 → Int32 → Int32 → Mem → Option (Int32 × Mem)} (hk7 : ∀ (x1 : Int32) (x2 : Int32) (x3 : Int32) (M : Mem), Sm ([] : List Nat) M0 M → FrB ([] : List Nat) M0 (k7 x1 x2 x3 M)) (x1 : Int32) (x3 : Int32) (s0 : Int32) (s1 : Int32) (M : Mem) (hM : Sm ([] : List Nat) M0 M) : FrB ([] : List Nat) M0 (X12_shownBy_b32 i0 k7 x1 x3 s0 s1 M) := by
  unfold X12_shownBy_b32
  exact hk7 _ _ _ _ hM
set_option maxRecDepth 100000 in
theorem fr_X12_shownBy_b7 {i0 : Nat} {M0 : Mem} {k7 : Int32 → Int32 → Int32 → Mem → Option (Int32 × Mem)} (hk7 : ∀ (x1 : Int32) (x2 : Int32) (x3 : Int32) (M : Mem), Sm ([] : List Nat) M0 M → FrB ([] : List Nat) M0 (k7 x1 x2 x3 M)) (x1 : Int32) (x2 : Int32) (x3 : Int32) (M : Mem) (hM : Sm ([] : List Nat) M0 M) : FrB ([] : List Nat) M0 (X12_shownBy_b7 i0 k7 x1 x2 x3 M) := by
  unfold X12_shownBy_b7
  refine Fr_ite ?_ ?_
  ·
    exact Fr_ret hM
  ·
    refine Fr_bind (fr_X12_isIn _ _ _ Sm_refl) (by simp) hM (fun p1 hN1 => ?_)
    refine Fr_ite ?_ ?_
    ·
      exact fr_X12_shownBy_b32 hk7 _ _ _ _ _ hN1
    ·
      refine Fr_gd ?_
      exact fr_X12_shownBy_b32 hk7 _ _ _ _ _ hN1
theorem fr_X12_shownBy_l7 {i0 : Nat} {M0 : Mem} (n : Nat) : ∀ (x1 : Int32) (x2 : Int32) (x3 : Int32) (M : Mem), Sm ([] : List Nat) M0 M → FrB ([] : List Nat) M0 (X12_shownBy_l7 i0  n x1 x2 x3 M) := by
  induction n with
  | zero => intro x1 x2 x3 M _; exact Fr_none
  | succ n ih => intro x1 x2 x3 M hM; exact fr_X12_shownBy_b7 ih x1 x2 x3 M hM
set_option maxRecDepth 100000 in
theorem fr_X12_shownBy {i0 : Nat} {M0 : Mem} (x1 : Int32) (M : Mem) (hM : Sm ([] : List Nat) M0 M) : FrB ([] : List Nat) M0 (X12_shownBy i0  x1 M) := by
  unfold X12_shownBy
  exact fr_X12_shownBy_l7  _ _ _ _ _ hM
set_option maxRecDepth 100000 in
theorem fr_X12_show_b22 {i0 : Nat} {M0 : Mem}  (M : Mem) (hM : Sm ([] : List Nat) M0 M) : FrB ([] : List Nat) M0 (X12_show_b22 i0   M) := by
  unfold X12_show_b22
  exact Fr_ret hM
set_option maxRecDepth 100000 in
theorem fr_X12_show_b86 {i0 : Nat} {M0 : Mem} {k31 : Int32 → Int32 → Int32 → Int32 → Mem → Option (Int32 × Mem)} (hk31 : ∀ (x1 : Int32) (x2 : Int32) (x3 : Int32) (x4 : Int32) (M : Mem), Sm ([] : List Nat) M0 M → FrB ([] : List Nat) M0 (k31 x1 x2 x3 x4 M)) (x1 : Int32) (x2 : Int32) (x4 : Int32) (s0 : Int32) (M : Mem) (hM : Sm ([] : List Nat) M0 M) : FrB ([] : List Nat) M0 (X12_show_b86 i0 k31 x1 x2 x4 s0 M) := by
  unfold X12_show_b86
  exact hk31 _ _ _ _ _ hM
set_option maxRecDepth 100000 in
theorem fr_X12_show_b85 {i0 : Nat} {M0 : Mem} {k31 : Int32 → Int32 → Int32 → Int32 → Mem → Option (Int32 × Mem)} (hk31 : ∀ (x1 : Int32) (x2 : Int32) (x3 : Int32) (x4 : Int32) (M : Mem), Sm ([] : List Nat) M0 M → FrB ([] : List Nat) M0 (k31 x1 x2 x3 x4 M)) (x1 : Int32) (x2 : Int32) (x3 : Int32) (x4 : Int32) (M : Mem) (hM : Sm ([] : List Nat) M0 M) : FrB ([] : List Nat) M0 (X12_show_b85 i0 k31 x1 x2 x3 x4 M) := by
  unfold X12_show_b85
  exact fr_X12_show_b86 hk31 _ _ _ _ _ hM
set_option maxRecDepth 100000 in
theorem fr_X12_show_b60 {i0 : Nat} {M0 : Mem} {k31 : Int32 → Int32 → Int32 → Int32 → Mem → Option (Int32 × Mem)} (hk31 : ∀ (x1 : Int32) (x2 : Int32) (x3 : Int32) (x4 : Int32) (M : Mem), Sm ([] : List Nat) M0 M → FrB ([] : List Nat) M0 (k31 x1 x2 x3 x4 M)) (x1 : Int32) (x2 : Int32) (x3 : Int32) (x4 : Int32) (s0 : Int32) (M : Mem) (hM : Sm ([] : List Nat) M0 M) : FrB ([] : List Nat) M0 (X12_show_b60 i0 k31 x1 x2 x3 x4 s0 M) := by
  unfold X12_show_b60
  refine Fr_ite ?_ ?_
  ·
    exact fr_X12_show_b85 hk31 _ _ _ _ _ hM
  ·
    refine Fr_bind (fr_X12_shownBy _ _ Sm_refl) (by simp) hM (fun p1 hN1 => ?_)
    refine Fr_ite ?_ ?_
    ·
      exact fr_X12_show_b86 hk31 _ _ _ _ _ hN1
    ·
      exact fr_X12_show_b85 hk31 _ _ _ _ _ hN1
set_option maxRecDepth 100000 in
theorem fr_X12_show_b55 {i0 : Nat} {M0 : Mem} {k31 : Int32 → Int32 → Int32 → Int32 → Mem → Option (Int32 × Mem)} (hk31 : ∀ (x1 : Int32) (x2 : Int32) (x3 : Int32) (x4 : Int32) (M : Mem), Sm ([] : List Nat) M0 M → FrB ([] : List Nat) M0 (k31 x1 x2 x3 x4 M)) (x1 : Int32) (x2 : Int32) (x3 : Int32) (x4 : Int32) (M : Mem) (hM : Sm ([] : List Nat) M0 M) : FrB ([] : List Nat) M0 (X12_show_b55 i0 k31 x1 x2 x3 x4 M) := by
  unfold X12_show_b55
  exact fr_X12_show_b60 hk31 _ _ _ _ _ _ hM
set_option maxRecDepth 100000 in
theorem fr_X12_show_b110 {i0 : Nat} {M0 : Mem} (s0 : Int32) (M : Mem) (hM : Sm ([] : List Nat) M0 M) : FrB ([] : List Nat) M0 (X12_show_b110 i0  s0 M) := by
  unfold X12_show_b110
  exact Fr_ret hM
set_option maxRecDepth 100000 in
theorem fr_X12_show_b102 {i0 : Nat} {M0 : Mem} (x3 : Int32) (M : Mem) (hM : Sm ([] : List Nat) M0 M) : FrB ([] : List Nat) M0 (X12_show_b102 i0  x3 M) := by
  unfold X12_show_b102
  exact fr_X12_show_b110  _ _ hM
set_option maxRecDepth 100000 in
theorem fr_X12_show_b31 {i0 : Nat} {M0 : Mem} {k31 : Int32 → Int32 → Int32 → Int32 → Mem → Option (Int32 × Mem)} (hk31 : ∀ (x1 : Int32) (x2 : Int32) (x3 : Int32) (x4 : Int32) (M : Mem), Sm ([] : List Nat) M0 M → FrB ([] : List Nat) M0 (k31 x1 x2 x3 x4 M)) (x1 : Int32) (x2 : Int32) (x3 : Int32) (x4 : Int32) (M : Mem) (hM : Sm ([] : List Nat) M0 M) : FrB ([] : List Nat) M0 (X12_show_b31 i0 k31 x1 x2 x3 x4 M) := by
  unfold X12_show_b31
  refine Fr_ite ?_ ?_
  ·
    refine Fr_ite ?_ ?_
    ·
      exact fr_X12_show_b102  _ _ hM
    ·
      refine Fr_ite ?_ ?_
      ·
        exact fr_X12_show_b102  _ _ hM
      ·
        refine Fr_bind (fr_X12_ones _ _ Sm_refl) (by simp) hM (fun p1 hN1 => ?_)
        exact fr_X12_show_b110  _ _ hN1
  ·
    refine Fr_ite ?_ ?_
    ·
      exact fr_X12_show_b55 hk31 _ _ _ _ _ hM
    ·
      refine Fr_bind (fr_X12_ones _ _ Sm_refl) (by simp) hM (fun p2 hN2 => ?_)
      refine Fr_bind (fr_X12_ones _ _ Sm_refl) (by simp) hN2 (fun p3 hN3 => ?_)
      refine Fr_ite ?_ ?_
      ·
        exact fr_X12_show_b60 hk31 _ _ _ _ _ _ hN3
      ·
        exact fr_X12_show_b55 hk31 _ _ _ _ _ hN3
theorem fr_X12_show_l31 {i0 : Nat} {M0 : Mem} (n : Nat) : ∀ (x1 : Int32) (x2 : Int32) (x3 : Int32) (x4 : Int32) (M : Mem), Sm ([] : List Nat) M0 M → FrB ([] : List Nat) M0 (X12_show_l31 i0  n x1 x2 x3 x4 M) := by
  induction n with
  | zero => intro x1 x2 x3 x4 M _; exact Fr_none
  | succ n ih => intro x1 x2 x3 x4 M hM; exact fr_X12_show_b31 ih x1 x2 x3 x4 M hM
set_option maxRecDepth 100000 in
theorem fr_X12_show {i0 : Nat} {M0 : Mem} (x1 : Int32) (x2 : Int32) (M : Mem) (hM : Sm ([] : List Nat) M0 M) : FrB ([] : List Nat) M0 (X12_show i0  x1 x2 M) := by
  unfold X12_show
  refine Fr_bind (fr_X12_in _ _ _ _ Sm_refl) (by simp) hM (fun p1 hN1 => ?_)
  refine Fr_ite ?_ ?_
  ·
    exact fr_X12_show_b22   _ hN1
  ·
    refine Fr_bind (fr_X12_in _ _ _ _ Sm_refl) (by simp) hN1 (fun p2 hN2 => ?_)
    refine Fr_ite ?_ ?_
    ·
      exact fr_X12_show_b22   _ hN2
    ·
      exact fr_X12_show_l31  _ _ _ _ _ _ hN2
set_option maxRecDepth 100000 in
theorem fr_X12_canOwn_b35 {i0 : Nat} {M0 : Mem} (s0 : Int32) (M : Mem) (hM : Sm ([] : List Nat) M0 M) : FrB ([] : List Nat) M0 (X12_canOwn_b35 i0  s0 M) := by
  unfold X12_canOwn_b35
  exact Fr_gd (Fr_ret hM)
set_option maxRecDepth 100000 in
theorem fr_X12_canOwn_b34 {i0 : Nat} {M0 : Mem}  (M : Mem) (hM : Sm ([] : List Nat) M0 M) : FrB ([] : List Nat) M0 (X12_canOwn_b34 i0   M) := by
  unfold X12_canOwn_b34
  exact fr_X12_canOwn_b35  _ _ hM
set_option maxRecDepth 100000 in
theorem fr_X12_canOwn {i0 : Nat} {M0 : Mem} (x1 : Int32) (x2 : Int32) (x3 : Int32) (x4 : Int32) (M : Mem) (hM : Sm ([] : List Nat) M0 M) : FrB ([] : List Nat) M0 (X12_canOwn i0  x1 x2 x3 x4 M) := by
  unfold X12_canOwn
  refine Fr_bind (fr_X12_isIn _ _ _ Sm_refl) (by simp) hM (fun p1 hN1 => ?_)
  refine Fr_ite ?_ ?_
  ·
    exact fr_X12_canOwn_b34   _ hN1
  ·
    refine Fr_gd ?_
    refine Fr_bind (fr_X12_isIn _ _ _ Sm_refl) (by simp) hN1 (fun p2 hN2 => ?_)
    refine Fr_ite ?_ ?_
    ·
      exact fr_X12_canOwn_b34   _ hN2
    ·
      refine Fr_bind (fr_X12_isIn _ _ _ Sm_refl) (by simp) hN2 (fun p3 hN3 => ?_)
      refine Fr_ite ?_ ?_
      ·
        exact fr_X12_canOwn_b35  _ _ hN3
      ·
        exact fr_X12_canOwn_b34   _ hN3
set_option maxRecDepth 100000 in
theorem fr_X12_mostFrom_b63 {i0 : Nat} {M0 : Mem} {k19 : Int32 → Int32 → Int32 → Int32 → Int32 → Mem → Option (Int32 × Mem)} (hk19 : ∀ (x1 : Int32) (x2 : Int32) (x3 : Int32) (x4 : Int32) (x5 : Int32) (M : Mem), Sm ([] : List Nat) M0 M → FrB ([] : List Nat) M0 (k19 x1 x2 x3 x4 x5 M)) (x1 : Int32) (x2 : Int32) (x3 : Int32) (x4 : Int32) (x5 : Int32) (s0 : Int32) (M : Mem) (hM : Sm ([] : List Nat) M0 M) : FrB ([] : List Nat) M0 (X12_mostFrom_b63 i0 k19 x1 x2 x3 x4 x5 s0 M) := by
  unfold X12_mostFrom_b63
  refine Fr_bind (fr_X12_more _ _ _ Sm_refl) (by simp) hM (fun p1 hN1 => ?_)
  exact hk19 _ _ _ _ _ _ hN1
set_option maxRecDepth 100000 in
theorem fr_X12_mostFrom_b19 {i0 : Nat} {M0 : Mem} {k19 : Int32 → Int32 → Int32 → Int32 → Int32 → Mem → Option (Int32 × Mem)} (hk19 : ∀ (x1 : Int32) (x2 : Int32) (x3 : Int32) (x4 : Int32) (x5 : Int32) (M : Mem), Sm ([] : List Nat) M0 M → FrB ([] : List Nat) M0 (k19 x1 x2 x3 x4 x5 M)) (x1 : Int32) (x2 : Int32) (x3 : Int32) (x4 : Int32) (x5 : Int32) (M : Mem) (hM : Sm ([] : List Nat) M0 M) : FrB ([] : List Nat) M0 (X12_mostFrom_b19 i0 k19 x1 x2 x3 x4 x5 M) := by
  unfold X12_mostFrom_b19
  refine Fr_ite ?_ ?_
  ·
    exact Fr_ret hM
  ·
    refine Fr_bind (fr_X12_canOwn _ _ _ _ _ Sm_refl) (by simp) hM (fun p1 hN1 => ?_)
    refine Fr_ite ?_ ?_
    ·
      exact fr_X12_mostFrom_b63 hk19 _ _ _ _ _ _ _ hN1
    ·
      refine Fr_gd ?_
      exact fr_X12_mostFrom_b63 hk19 _ _ _ _ _ _ _ hN1
theorem fr_X12_mostFrom_l19 {i0 : Nat} {M0 : Mem} (n : Nat) : ∀ (x1 : Int32) (x2 : Int32) (x3 : Int32) (x4 : Int32) (x5 : Int32) (M : Mem), Sm ([] : List Nat) M0 M → FrB ([] : List Nat) M0 (X12_mostFrom_l19 i0  n x1 x2 x3 x4 x5 M) := by
  induction n with
  | zero => intro x1 x2 x3 x4 x5 M _; exact Fr_none
  | succ n ih => intro x1 x2 x3 x4 x5 M hM; exact fr_X12_mostFrom_b19 ih x1 x2 x3 x4 x5 M hM
set_option maxRecDepth 100000 in
theorem fr_X12_mostFrom {i0 : Nat} {M0 : Mem} (x1 : Int32) (x2 : Int32) (x3 : Int32) (M : Mem) (hM : Sm ([] : List Nat) M0 M) : FrB ([] : List Nat) M0 (X12_mostFrom i0  x1 x2 x3 M) := by
  unfold X12_mostFrom
  refine Fr_gd ?_
  refine Fr_iw (fun v1 => ?_)
  exact fr_X12_mostFrom_l19  _ _ _ _ _ _ _ hM
set_option maxRecDepth 100000 in
theorem fr_X12_ownerOf_b84 {i0 : Nat} {M0 : Mem} {k8 : Int32 → Int32 → Int32 → Int32 → Int32 → Mem → Option (Int32 × Mem)} (hk8 : ∀ (x1 : Int32) (x2 : Int32) (x3 : Int32) (x4 : Int32) (x5 : Int32) (M : Mem), Sm ([] : List Nat) M0 M → FrB ([] : List Nat) M0 (k8 x1 x2 x3 x4 x5 M)) (x1 : Int32) (x2 : Int32) (x3 : Int32) (x5 : Int32) (s0 : Int32) (M : Mem) (hM : Sm ([] : List Nat) M0 M) : FrB ([] : List Nat) M0 (X12_ownerOf_b84 i0 k8 x1 x2 x3 x5 s0 M) := by
  unfold X12_ownerOf_b84
  exact hk8 _ _ _ _ _ _ hM
set_option maxRecDepth 100000 in
theorem fr_X12_ownerOf_b70 {i0 : Nat} {M0 : Mem} {k8 : Int32 → Int32 → Int32 → Int32 → Int32 → Mem → Option (Int32 × Mem)} (hk8 : ∀ (x1 : Int32) (x2 : Int32) (x3 : Int32) (x4 : Int32) (x5 : Int32) (M : Mem), Sm ([] : List Nat) M0 M → FrB ([] : List Nat) M0 (k8 x1 x2 x3 x4 x5 M)) (x1 : Int32) (x2 : Int32) (x3 : Int32) (x4 : Int32) (x5 : Int32) (s0 : Int32) (M : Mem) (hM : Sm ([] : List Nat) M0 M) : FrB ([] : List Nat) M0 (X12_ownerOf_b70 i0 k8 x1 x2 x3 x4 x5 s0 M) := by
  unfold X12_ownerOf_b70
  refine Fr_ite ?_ ?_
  ·
    exact fr_X12_ownerOf_b84 hk8 _ _ _ _ _ _ hM
  ·
    exact fr_X12_ownerOf_b84 hk8 _ _ _ _ _ _ hM
set_option maxRecDepth 100000 in
theorem fr_X12_ownerOf_b69 {i0 : Nat} {M0 : Mem} {k8 : Int32 → Int32 → Int32 → Int32 → Int32 → Mem → Option (Int32 × Mem)} (hk8 : ∀ (x1 : Int32) (x2 : Int32) (x3 : Int32) (x4 : Int32) (x5 : Int32) (M : Mem), Sm ([] : List Nat) M0 M → FrB ([] : List Nat) M0 (k8 x1 x2 x3 x4 x5 M)) (x1 : Int32) (x2 : Int32) (x3 : Int32) (x4 : Int32) (x5 : Int32) (M : Mem) (hM : Sm ([] : List Nat) M0 M) : FrB ([] : List Nat) M0 (X12_ownerOf_b69 i0 k8 x1 x2 x3 x4 x5 M) := by
  unfold X12_ownerOf_b69
  exact fr_X12_ownerOf_b70 hk8 _ _ _ _ _ _ _ hM
set_option maxRecDepth 100000 in
theorem fr_X12_ownerOf_b8 {i0 : Nat} {M0 : Mem} {k8 : Int32 → Int32 → Int32 → Int32 → Int32 → Mem → Option (Int32 × Mem)} (hk8 : ∀ (x1 : Int32) (x2 : Int32) (x3 : Int32) (x4 : Int32) (x5 : Int32) (M : Mem), Sm ([] : List Nat) M0 M → FrB ([] : List Nat) M0 (k8 x1 x2 x3 x4 x5 M)) (x1 : Int32) (x2 : Int32) (x3 : Int32) (x4 : Int32) (x5 : Int32) (M : Mem) (hM : Sm ([] : List Nat) M0 M) : FrB ([] : List Nat) M0 (X12_ownerOf_b8 i0 k8 x1 x2 x3 x4 x5 M) := by
  unfold X12_ownerOf_b8
  refine Fr_ite ?_ ?_
  ·
    exact Fr_ret hM
  ·
    refine Fr_bind (fr_X12_canOwn _ _ _ _ _ Sm_refl) (by simp) hM (fun p1 hN1 => ?_)
    refine Fr_ite ?_ ?_
    ·
      exact fr_X12_ownerOf_b69 hk8 _ _ _ _ _ _ hN1
    ·
      refine Fr_gd ?_
      refine Fr_gd ?_
      refine Fr_ite ?_ ?_
      ·
        exact fr_X12_ownerOf_b70 hk8 _ _ _ _ _ _ _ hN1
      ·
        exact fr_X12_ownerOf_b69 hk8 _ _ _ _ _ _ hN1
theorem fr_X12_ownerOf_l8 {i0 : Nat} {M0 : Mem} (n : Nat) : ∀ (x1 : Int32) (x2 : Int32) (x3 : Int32) (x4 : Int32) (x5 : Int32) (M : Mem), Sm ([] : List Nat) M0 M → FrB ([] : List Nat) M0 (X12_ownerOf_l8 i0  n x1 x2 x3 x4 x5 M) := by
  induction n with
  | zero => intro x1 x2 x3 x4 x5 M _; exact Fr_none
  | succ n ih => intro x1 x2 x3 x4 x5 M hM; exact fr_X12_ownerOf_b8 ih x1 x2 x3 x4 x5 M hM
set_option maxRecDepth 100000 in
theorem fr_X12_ownerOf {i0 : Nat} {M0 : Mem} (x1 : Int32) (x2 : Int32) (x3 : Int32) (M : Mem) (hM : Sm ([] : List Nat) M0 M) : FrB ([] : List Nat) M0 (X12_ownerOf i0  x1 x2 x3 M) := by
  unfold X12_ownerOf
  exact fr_X12_ownerOf_l8  _ _ _ _ _ _ _ hM
set_option maxRecDepth 100000 in
theorem fr_X12_owners_b67 {i0 : Nat} {M0 : Mem} {k60 : Int32 → Int32 → Int32 → Mem → Option (Int32 × Mem)} (hk60 : ∀ (x1 : Int32) (x2 : Int32) (x3 : Int32) (M : Mem), Sm ([(rf i0 22)] : List Nat) M0 M → FrB ([(rf i0 22)] : List Nat) M0 (k60 x1 x2 x3 M)) {k67 : Int32 → Int32 → Int32 → Int32 → Mem → Option (Int32 × Mem)} (hk67 : ∀ (x1 : Int32) (x2 : Int32) (x3 : Int32) (x4 : Int32) (M : Mem), Sm ([(rf i0 22)] : List Nat) M0 M → FrB ([(rf i0 22)] : List Nat) M0 (k67 x1 x2 x3 x4 M)) (x1 : Int32) (x2 : Int32) (x3 : Int32) (x4 : Int32) (M : Mem) (hM : Sm ([(rf i0 22)] : List Nat) M0 M) : FrB ([(rf i0 22)] : List Nat) M0 (X12_owners_b67 i0 k60 k67 x1 x2 x3 x4 M) := by
  unfold X12_owners_b67
  refine Fr_ite ?_ ?_
  ·
    exact hk60 _ _ _ _ hM
  ·
    refine Fr_bind (fr_X12_mostFrom _ _ _ _ Sm_refl) (by simp) hM (fun p1 hN1 => ?_)
    refine Fr_gd ?_
    exact hk67 _ _ _ _ _ (Sm_mI hN1 (by simp))
theorem fr_X12_owners_l67 {i0 : Nat} {M0 : Mem} {k60 : Int32 → Int32 → Int32 → Mem → Option (Int32 × Mem)} (hk60 : ∀ (x1 : Int32) (x2 : Int32) (x3 : Int32) (M : Mem), Sm ([(rf i0 22)] : List Nat) M0 M → FrB ([(rf i0 22)] : List Nat) M0 (k60 x1 x2 x3 M)) (n : Nat) : ∀ (x1 : Int32) (x2 : Int32) (x3 : Int32) (x4 : Int32) (M : Mem), Sm ([(rf i0 22)] : List Nat) M0 M → FrB ([(rf i0 22)] : List Nat) M0 (X12_owners_l67 i0 k60 n x1 x2 x3 x4 M) := by
  induction n with
  | zero => intro x1 x2 x3 x4 M _; exact Fr_none
  | succ n ih => intro x1 x2 x3 x4 M hM; exact fr_X12_owners_b67 hk60 ih x1 x2 x3 x4 M hM
set_option maxRecDepth 100000 in
theorem fr_X12_owners_b154 {i0 : Nat} {M0 : Mem} {k124 : Int32 → Int32 → Int32 → Int32 → Mem → Option (Int32 × Mem)} (hk124 : ∀ (x1 : Int32) (x2 : Int32) (x3 : Int32) (x4 : Int32) (M : Mem), Sm ([(rf i0 22)] : List Nat) M0 M → FrB ([(rf i0 22)] : List Nat) M0 (k124 x1 x2 x3 x4 M)) (x1 : Int32) (x2 : Int32) (x4 : Int32) (s0 : Int32) (s1 : Int32) (M : Mem) (hM : Sm ([(rf i0 22)] : List Nat) M0 M) : FrB ([(rf i0 22)] : List Nat) M0 (X12_owners_b154 i0 k124 x1 x2 x4 s0 s1 M) := by
  unfold X12_owners_b154
  exact hk124 _ _ _ _ _ hM
set_option maxRecDepth 100000 in
theorem fr_X12_owners_b124 {i0 : Nat} {M0 : Mem} {k124 : Int32 → Int32 → Int32 → Int32 → Mem → Option (Int32 × Mem)} (hk124 : ∀ (x1 : Int32) (x2 : Int32) (x3 : Int32) (x4 : Int32) (M : Mem), Sm ([(rf i0 22)] : List Nat) M0 M → FrB ([(rf i0 22)] : List Nat) M0 (k124 x1 x2 x3 x4 M)) (x1 : Int32) (x2 : Int32) (x3 : Int32) (x4 : Int32) (M : Mem) (hM : Sm ([(rf i0 22)] : List Nat) M0 M) : FrB ([(rf i0 22)] : List Nat) M0 (X12_owners_b124 i0 k124 x1 x2 x3 x4 M) := by
  unfold X12_owners_b124
  refine Fr_ite ?_ ?_
  ·
    refine Fr_bind (fr_X12_ownerOf _ _ _ _ Sm_refl) (by simp) hM (fun p1 hN1 => ?_)
    exact Fr_ret hN1
  ·
    refine Fr_bind (fr_X12_ownerOf _ _ _ _ Sm_refl) (by simp) hM (fun p2 hN2 => ?_)
    refine Fr_ite ?_ ?_
    ·
      exact fr_X12_owners_b154 hk124 _ _ _ _ _ _ hN2
    ·
      exact fr_X12_owners_b154 hk124 _ _ _ _ _ _ hN2
theorem fr_X12_owners_l124 {i0 : Nat} {M0 : Mem} (n : Nat) : ∀ (x1 : Int32) (x2 : Int32) (x3 : Int32) (x4 : Int32) (M : Mem), Sm ([(rf i0 22)] : List Nat) M0 M → FrB ([(rf i0 22)] : List Nat) M0 (X12_owners_l124 i0  n x1 x2 x3 x4 M) := by
  induction n with
  | zero => intro x1 x2 x3 x4 M _; exact Fr_none
  | succ n ih => intro x1 x2 x3 x4 M hM; exact fr_X12_owners_b124 ih x1 x2 x3 x4 M hM
set_option maxRecDepth 100000 in
theorem fr_X12_owners_b60 {i0 : Nat} {M0 : Mem} {k60 : Int32 → Int32 → Int32 → Mem → Option (Int32 × Mem)} (hk60 : ∀ (x1 : Int32) (x2 : Int32) (x3 : Int32) (M : Mem), Sm ([(rf i0 22)] : List Nat) M0 M → FrB ([(rf i0 22)] : List Nat) M0 (k60 x1 x2 x3 M)) (x1 : Int32) (x2 : Int32) (x3 : Int32) (M : Mem) (hM : Sm ([(rf i0 22)] : List Nat) M0 M) : FrB ([(rf i0 22)] : List Nat) M0 (X12_owners_b60 i0 k60 x1 x2 x3 M) := by
  unfold X12_owners_b60
  refine Fr_ite ?_ ?_
  ·
    refine Fr_ite ?_ ?_
    ·
      exact fr_X12_owners_l124  _ _ _ _ _ _ hM
    ·
      refine Fr_gd ?_
      exact Fr_ret hM
  ·
    exact fr_X12_owners_l67 hk60 _ _ _ _ _ _ hM
theorem fr_X12_owners_l60 {i0 : Nat} {M0 : Mem} (n : Nat) : ∀ (x1 : Int32) (x2 : Int32) (x3 : Int32) (M : Mem), Sm ([(rf i0 22)] : List Nat) M0 M → FrB ([(rf i0 22)] : List Nat) M0 (X12_owners_l60 i0  n x1 x2 x3 M) := by
  induction n with
  | zero => intro x1 x2 x3 M _; exact Fr_none
  | succ n ih => intro x1 x2 x3 M hM; exact fr_X12_owners_b60 ih x1 x2 x3 M hM
set_option maxRecDepth 100000 in
theorem fr_X12_owners_b33 {i0 : Nat} {M0 : Mem} {k33 : Int32 → Int32 → Int32 → Mem → Option (Int32 × Mem)} (hk33 : ∀ (x1 : Int32) (x2 : Int32) (x3 : Int32) (M : Mem), Sm ([(rf i0 22)] : List Nat) M0 M → FrB ([(rf i0 22)] : List Nat) M0 (k33 x1 x2 x3 M)) (x1 : Int32) (x2 : Int32) (x3 : Int32) (M : Mem) (hM : Sm ([(rf i0 22)] : List Nat) M0 M) : FrB ([(rf i0 22)] : List Nat) M0 (X12_owners_b33 i0 k33 x1 x2 x3 M) := by
  unfold X12_owners_b33
  refine Fr_ite ?_ ?_
  ·
    exact fr_X12_owners_l60  _ _ _ _ _ hM
  ·
    refine Fr_gd ?_
    exact hk33 _ _ _ _ (Sm_mI hM (by simp))
theorem fr_X12_owners_l33 {i0 : Nat} {M0 : Mem} (n : Nat) : ∀ (x1 : Int32) (x2 : Int32) (x3 : Int32) (M : Mem), Sm ([(rf i0 22)] : List Nat) M0 M → FrB ([(rf i0 22)] : List Nat) M0 (X12_owners_l33 i0  n x1 x2 x3 M) := by
  induction n with
  | zero => intro x1 x2 x3 M _; exact Fr_none
  | succ n ih => intro x1 x2 x3 M hM; exact fr_X12_owners_b33 ih x1 x2 x3 M hM
set_option maxRecDepth 100000 in
theorem fr_X12_owners {i0 : Nat} {M0 : Mem} (x1 : Int32) (x2 : Int32) (M : Mem) (hM : Sm ([(rf i0 22)] : List Nat) M0 M) : FrB ([(rf i0 22)] : List Nat) M0 (X12_owners i0  x1 x2 M) := by
  unfold X12_owners
  refine Fr_bind (fr_X12_in _ _ _ _ Sm_refl) (by simp) hM (fun p1 hN1 => ?_)
  refine Fr_ite ?_ ?_
  ·
    exact Fr_ret hN1
  ·
    refine Fr_bind (fr_X12_in _ _ _ _ Sm_refl) (by simp) hN1 (fun p2 hN2 => ?_)
    refine Fr_ite ?_ ?_
    ·
      exact Fr_ret hN2
    ·
      exact fr_X12_owners_l33  _ _ _ _ _ hN2
set_option maxRecDepth 100000 in
theorem fr_X12_readHooks_b61 {i0 : Nat} {M0 : Mem} (s0 : Int32) (M : Mem) (hM : Sm ([(rf i0 23)] : List Nat) M0 M) : FrB ([(rf i0 23)] : List Nat) M0 (X12_readHooks_b61 i0  s0 M) := by
  unfold X12_readHooks_b61
  exact Fr_gd (Fr_ret hM)
set_option maxRecDepth 100000 in
theorem fr_X12_readHooks_b60 {i0 : Nat} {M0 : Mem}  (M : Mem) (hM : Sm ([(rf i0 23)] : List Nat) M0 M) : FrB ([(rf i0 23)] : List Nat) M0 (X12_readHooks_b60 i0   M) := by
  unfold X12_readHooks_b60
  exact fr_X12_readHooks_b61  _ _ hM
set_option maxRecDepth 100000 in
theorem fr_X12_readHooks_b7 {i0 : Nat} {M0 : Mem} {k7 : Int32 → Int32 → Int32 → Mem → Option (Int32 × Mem)} (hk7 : ∀ (x2 : Int32) (x3 : Int32) (x4 : Int32) (M : Mem), Sm ([(rf i0 23)] : List Nat) M0 M → FrB ([(rf i0 23)] : List Nat) M0 (k7 x2 x3 x4 M)) (x2 : Int32) (x3 : Int32) (x4 : Int32) (M : Mem) (hM : Sm ([(rf i0 23)] : List Nat) M0 M) : FrB ([(rf i0 23)] : List Nat) M0 (X12_readHooks_b7 i0 k7 x2 x3 x4 M) := by
  unfold X12_readHooks_b7
  refine Fr_ite ?_ ?_
  ·
    refine Fr_ite ?_ ?_
    ·
      refine Fr_ite ?_ ?_
      ·
        exact fr_X12_readHooks_b61  _ _ hM
      ·
        exact fr_X12_readHooks_b60   _ hM
    ·
      exact fr_X12_readHooks_b60   _ hM
  ·
    refine Fr_gd ?_
    refine Fr_gd ?_
    refine Fr_gd ?_
    refine Fr_iw (fun v1 => ?_)
    refine Fr_gd ?_
    exact hk7 _ _ _ _ (Sm_mI hM (by simp))
theorem fr_X12_readHooks_l7 {i0 : Nat} {M0 : Mem} (n : Nat) : ∀ (x2 : Int32) (x3 : Int32) (x4 : Int32) (M : Mem), Sm ([(rf i0 23)] : List Nat) M0 M → FrB ([(rf i0 23)] : List Nat) M0 (X12_readHooks_l7 i0  n x2 x3 x4 M) := by
  induction n with
  | zero => intro x2 x3 x4 M _; exact Fr_none
  | succ n ih => intro x2 x3 x4 M hM; exact fr_X12_readHooks_b7 ih x2 x3 x4 M hM
set_option maxRecDepth 100000 in
theorem fr_X12_readHooks {i0 : Nat} {M0 : Mem} (x1 : Int32) (M : Mem) (hM : Sm ([(rf i0 23)] : List Nat) M0 M) : FrB ([(rf i0 23)] : List Nat) M0 (X12_readHooks i0  x1 M) := by
  unfold X12_readHooks
  exact fr_X12_readHooks_l7  _ _ _ _ _ hM
set_option maxRecDepth 100000 in
theorem fr_X12_common_b4  {M0 : Mem} {k4 : Int32 → Int32 → Mem → Option (Int32 × Mem)} (hk4 : ∀ (x2 : Int32) (x3 : Int32) (M : Mem), Sm ([] : List Nat) M0 M → FrB ([] : List Nat) M0 (k4 x2 x3 M)) (x2 : Int32) (x3 : Int32) (M : Mem) (hM : Sm ([] : List Nat) M0 M) : FrB ([] : List Nat) M0 (X12_common_b4  k4 x2 x3 M) := by
  unfold X12_common_b4
  refine Fr_ite ?_ ?_
  ·
    exact Fr_ret hM
  ·
    refine Fr_gd ?_
    exact hk4 _ _ _ hM
theorem fr_X12_common_l4  {M0 : Mem} (n : Nat) : ∀ (x2 : Int32) (x3 : Int32) (M : Mem), Sm ([] : List Nat) M0 M → FrB ([] : List Nat) M0 (X12_common_l4   n x2 x3 M) := by
  induction n with
  | zero => intro x2 x3 M _; exact Fr_none
  | succ n ih => intro x2 x3 M hM; exact fr_X12_common_b4 ih x2 x3 M hM
set_option maxRecDepth 100000 in
theorem fr_X12_common  {M0 : Mem} (x0 : Int32) (x1 : Int32) (M : Mem) (hM : Sm ([] : List Nat) M0 M) : FrB ([] : List Nat) M0 (X12_common   x0 x1 M) := by
  unfold X12_common
  exact fr_X12_common_l4  _ _ _ _ hM
