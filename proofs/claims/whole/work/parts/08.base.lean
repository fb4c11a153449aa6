/-! PURE FACTS: ranges, the small functions of both sides -/
def bz (b : Bool) : Int32 := if b then 1 else 0
def wi (x a b : Int32) : Bool := decide (a ≤ x) && decide (x ≤ b)
theorem bz_t : bz true = 1 := rfl
theorem bz_f : bz false = 0 := rfl
theorem bz_eq0 (b : Bool) : (bz b = 0) = (b = false) := by cases b <;> decide
theorem bz_eq1 (b : Bool) : (bz b = 1) = (b = true) := by cases b <;> decide
theorem bs {α β : Type} (a : α) (f : α → Option β) : (some a).bind f = f a := rfl
theorem gt {α : Type} (o : Option α) : gd true o = o := rfl
theorem gbz {α : Type} (b : Bool) (o : Option α) : gd (bz b == 0 || bz b == 1) o = o := by cases b <;> rfl
theorem ib_iff {x : Int32} {n : Nat} : ib x n = true ↔ 0 ≤ x.toInt ∧ x.toInt < n := by unfold ib; simp
theorem ib_lt {x : Int32} {n : Nat} (h : ib x n = true) : x.toNatClampNeg < n := by
  have := ib_iff.mp h
  show x.toInt.toNat < n
  omega
theorem ib_mono {x : Int32} {m n : Nat} (h : ib x m = true) (hmn : m ≤ n) : ib x n = true := by
  have := ib_iff.mp h
  exact ib_iff.mpr ⟨this.1, by omega⟩
theorem ib_nI {j n : Nat} (h : j < n) (hn : n < 2 ^ 31) : ib (nI j) n = true := ib_iff.mpr (by rw [nI_toInt (by omega)]; omega)
theorem ib_ex {x : Int32} {n : Nat} (h : ib x n = true) (hn : n < 2 ^ 31) : ∃ j : Nat, j < n ∧ x = nI j := vp_in_of (ib_in h) hn
theorem ix_nI {j : Nat} (h : j < 2 ^ 31) : (nI j).toNatClampNeg = j := nI_clamp h
theorem ib_bnd {x : Int32} {n : Nat} (h : ib x n = false) : x.toInt < 0 ∨ (n : Int) ≤ x.toInt := by
  unfold ib at h
  simp at h
  by_cases h0 : 0 ≤ x.toInt
  · exact Or.inr (h h0)
  · exact Or.inl (by omega)
theorem wi_ib (x b : Int32) (n : Nat) (hb : b.toInt = (n : Int) - 1) : wi x 0 b = ib x n := by
  unfold wi ib
  simp only [Int32.le_iff_toInt_le, hb]
  rw [show (0 : Int32).toInt = 0 from rfl]
  congr 1
  exact decide_eq_decide.mpr ⟨fun h => by omega, fun h => by omega⟩
theorem wi_iff {x a b : Int32} : wi x a b = true ↔ a.toInt ≤ x.toInt ∧ x.toInt ≤ b.toInt := by unfold wi; simp [Int32.le_iff_toInt_le]
theorem e_isWithin (x a b : Int32) (M : Mem) : X11_isWithin x a b M = some (bz (wi x a b), M) := by
  unfold X11_isWithin X11_isWithin_b14 X11_isWithin_b15 wi
  by_cases h1 : x < a
  · rw [if_pos h1, decide_eq_false (Int32.not_le.mpr h1)]; rfl
  · rw [if_neg h1, decide_eq_true (Int32.not_lt.mp h1)]
    by_cases h2 : b < x
    · rw [if_pos h2, decide_eq_false (Int32.not_le.mpr h2)]; rfl
    · rw [if_neg h2, decide_eq_true (Int32.not_lt.mp h2)]; rfl
theorem e_isCabin (x : Int32) (M : Mem) : X11_isCabin x M = some (bz (ib x 10), M) := by
  unfold X11_isCabin; rw [e_isWithin, bs, gbz, wi_ib x 9 10 (by decide)]
theorem e_isThing (x : Int32) (M : Mem) : X11_isThing x M = some (bz (ib x 8), M) := by
  unfold X11_isThing; rw [e_isWithin, bs, gbz, wi_ib x 7 8 (by decide)]
theorem e_isThingSet (x : Int32) (M : Mem) : X11_isThingSet x M = some (bz (ib x 256), M) := by
  unfold X11_isThingSet; rw [e_isWithin, bs, gbz, wi_ib x 255 256 (by decide)]
theorem cmp_lt (x y : Int64) : (lg_cmp x y < 0) = (x < y) := by
  apply propext
  unfold lg_cmp
  by_cases h : x > y
  · rw [if_pos h]
    exact ⟨fun z => absurd z (by decide), fun z => absurd (Int64.lt_trans h z) (Int64.lt_irrefl)⟩
  · rw [if_neg h]
    by_cases h2 : x = y
    · rw [if_pos h2]; subst h2
      exact ⟨fun z => absurd z (by decide), fun z => absurd z (Int64.lt_irrefl)⟩
    · rw [if_neg h2]
      refine ⟨fun _ => ?_, fun _ => by decide⟩
      have h3 : x ≤ y := Int64.not_lt.mp h
      exact Int64.lt_of_le_of_ne h3 h2
theorem cmp_gt (x y : Int64) : (0 < lg_cmp x y) = (y < x) := by
  apply propext
  unfold lg_cmp
  by_cases h : x > y
  · rw [if_pos h]
    exact ⟨fun _ => h, fun _ => by decide⟩
  · rw [if_neg h]
    by_cases h2 : x = y
    · rw [if_pos h2]; exact ⟨fun z => absurd z (by decide), fun z => absurd z h⟩
    · rw [if_neg h2]; exact ⟨fun z => absurd z (by decide), fun z => absurd z h⟩
theorem e_in (x a b : Int32) {A B : Int64} (hA : a.toInt64 = A) (hB : b.toInt64 = B) (M : Mem) : X12_in x.toInt64 A B M = some (bz (wi x a b), M) := by
  subst hA; subst hB
  unfold X12_in X12_in_b17 X12_in_b18 wi
  simp only [cmp_lt, cmp_gt, Int64.lt_iff_toInt_lt, Int32.toInt_toInt64, Int32.le_iff_toInt_le]
  by_cases h1 : x.toInt < a.toInt
  · rw [if_pos h1, decide_eq_false (by omega)]; rfl
  · rw [if_neg h1, decide_eq_true (by omega)]
    by_cases h2 : b.toInt < x.toInt
    · rw [if_pos h2, decide_eq_false (by omega)]; rfl
    · rw [if_neg h2, decide_eq_true (by omega)]; rfl
theorem e_in_0_9 (x : Int32) (M : Mem) : X12_in x.toInt64 (0 : Int64) (9 : Int64) M = some (bz (wi x (0) 9), M) := e_in x (0) 9 (by decide) (by decide) M
theorem e_in_0_255 (x : Int32) (M : Mem) : X12_in x.toInt64 (0 : Int64) (255 : Int64) M = some (bz (wi x (0) 255), M) := e_in x (0) 255 (by decide) (by decide) M
theorem e_in_1_9 (x : Int32) (M : Mem) : X12_in x.toInt64 (1 : Int64) (9 : Int64) M = some (bz (wi x (1) 9), M) := e_in x (1) 9 (by decide) (by decide) M
theorem e_in_0_99 (x : Int32) (M : Mem) : X12_in x.toInt64 (0 : Int64) (99 : Int64) M = some (bz (wi x (0) 99), M) := e_in x (0) 99 (by decide) (by decide) M
theorem e_in_33_126 (x : Int32) (M : Mem) : X12_in x.toInt64 (33 : Int64) (126 : Int64) M = some (bz (wi x (33) 126), M) := e_in x (33) 126 (by decide) (by decide) M
theorem e_in_65_74 (x : Int32) (M : Mem) : X12_in x.toInt64 (65 : Int64) (74 : Int64) M = some (bz (wi x (65) 74), M) := e_in x (65) 74 (by decide) (by decide) M
theorem e_in_48_55 (x : Int32) (M : Mem) : X12_in x.toInt64 (48 : Int64) (55 : Int64) M = some (bz (wi x (48) 55), M) := e_in x (48) 55 (by decide) (by decide) M
theorem e_in_0_2 (x : Int32) (M : Mem) : X12_in x.toInt64 (0 : Int64) (2 : Int64) M = some (bz (wi x (0) 2), M) := e_in x (0) 2 (by decide) (by decide) M
theorem e_in_0_1 (x : Int32) (M : Mem) : X12_in x.toInt64 (0 : Int64) (1 : Int64) M = some (bz (wi x (0) 1), M) := e_in x (0) 1 (by decide) (by decide) M
theorem e_in_0_3 (x : Int32) (M : Mem) : X12_in x.toInt64 (0 : Int64) (3 : Int64) M = some (bz (wi x (0) 3), M) := e_in x (0) 3 (by decide) (by decide) M
theorem e_in_0_7 (x : Int32) (M : Mem) : X12_in x.toInt64 (0 : Int64) (7 : Int64) M = some (bz (wi x (0) 7), M) := e_in x (0) 7 (by decide) (by decide) M
theorem e_in_m1_7 (x : Int32) (M : Mem) : X12_in x.toInt64 (-1 : Int64) (7 : Int64) M = some (bz (wi x (-1) 7), M) := e_in x (-1) 7 (by decide) (by decide) M
theorem e_in_0_999999 (x : Int32) (M : Mem) : X12_in x.toInt64 (0 : Int64) (999999 : Int64) M = some (bz (wi x (0) 999999), M) := e_in x (0) 999999 (by decide) (by decide) M
theorem e_in_0_60 (x : Int32) (M : Mem) : X12_in x.toInt64 (0 : Int64) (60 : Int64) M = some (bz (wi x (0) 60), M) := e_in x (0) 60 (by decide) (by decide) M
theorem e_in_0_20 (x : Int32) (M : Mem) : X12_in x.toInt64 (0 : Int64) (20 : Int64) M = some (bz (wi x (0) 20), M) := e_in x (0) 20 (by decide) (by decide) M
theorem e_in_0_12 (x : Int32) (M : Mem) : X12_in x.toInt64 (0 : Int64) (12 : Int64) M = some (bz (wi x (0) 12), M) := e_in x (0) 12 (by decide) (by decide) M
theorem e_in_0_10 (x : Int32) (M : Mem) : X12_in x.toInt64 (0 : Int64) (10 : Int64) M = some (bz (wi x (0) 10), M) := e_in x (0) 10 (by decide) (by decide) M
theorem e_in_0_9999 (x : Int32) (M : Mem) : X12_in x.toInt64 (0 : Int64) (9999 : Int64) M = some (bz (wi x (0) 9999), M) := e_in x (0) 9999 (by decide) (by decide) M
theorem e_in_1_99 (x : Int32) (M : Mem) : X12_in x.toInt64 (1 : Int64) (99 : Int64) M = some (bz (wi x (1) 99), M) := e_in x (1) 99 (by decide) (by decide) M
theorem e_in_100_199 (x : Int32) (M : Mem) : X12_in x.toInt64 (100 : Int64) (199 : Int64) M = some (bz (wi x (100) 199), M) := e_in x (100) 199 (by decide) (by decide) M
theorem e_in_10_19 (x : Int32) (M : Mem) : X12_in x.toInt64 (10 : Int64) (19 : Int64) M = some (bz (wi x (10) 19), M) := e_in x (10) 19 (by decide) (by decide) M
theorem m_isCabin (x : Int32) (M : Mem) : X12_isCabin x M = some (bz (ib x 10), M) := by
  unfold X12_isCabin; rw [e_in_0_9, bs, gbz, wi_ib x 9 10 (by decide)]
theorem m_isThing (x : Int32) (M : Mem) : X12_isThing x M = some (bz (ib x 8), M) := by
  unfold X12_isThing; rw [e_in_0_7, bs, gbz, wi_ib x 7 8 (by decide)]
theorem m_isLetter (x : Int32) (M : Mem) : X12_isLetter x M = some (bz (wi x 65 74), M) := by
  unfold X12_isLetter; rw [e_in_65_74, bs, gbz]
/-- a bit of a set -/
def bt (s k : Int32) : Bool := decide (((s >>> (k &&& 31)) &&& 1) = 1)
theorem e_isIn (s k : Int32) (M : Mem) : X11_isIn s k M = some (bz (bt s k), M) := by
  unfold X11_isIn X11_isIn_b14 bt
  by_cases h : ((s >>> (k &&& 31)) &&& 1) = 1
  · rw [if_pos h, decide_eq_true h]; rfl
  · rw [if_neg h, decide_eq_false h]; rfl
theorem m_isIn (s k : Int32) (M : Mem) : X12_isIn s k M = some (bz (bt s k), M) := by
  unfold X12_isIn X12_isIn_b14 bt
  by_cases h : ((s >>> (k &&& 31)) &&& 1) = 1
  · rw [if_pos h, decide_eq_true h]; rfl
  · rw [if_neg h, decide_eq_false h]; rfl
theorem FU_eq (k : Nat) (h : k ≤ 1999) : ∃ n, FU = n + k + 1 := ⟨1999 - k, by unfold FU; omega⟩
theorem rf_0_0 : rf 0 0 = 1 := by decide
theorem rf_0_1 : rf 0 1 = 5 := by decide
theorem rf_0_2 : rf 0 2 = 8 := by decide
theorem rf_0_3 : rf 0 3 = 10 := by decide
theorem rf_0_4 : rf 0 4 = 18 := by decide
theorem rf_0_5 : rf 0 5 = 26 := by decide
theorem rf_0_6 : rf 0 6 = 31 := by decide
theorem rf_0_7 : rf 0 7 = 33 := by decide
theorem rf_0_8 : rf 0 8 = 36 := by decide
theorem rf_0_9 : rf 0 9 = 38 := by decide
theorem rf_0_10 : rf 0 10 = 41 := by decide
theorem rf_0_11 : rf 0 11 = 43 := by decide
theorem rf_1_0 : rf 1 0 = 2 := by decide
theorem rf_1_1 : rf 1 1 = 3 := by decide
theorem rf_1_2 : rf 1 2 = 4 := by decide
theorem rf_5_0 : rf 5 0 = 6 := by decide
theorem rf_5_1 : rf 5 1 = 7 := by decide
theorem rf_8_0 : rf 8 0 = 9 := by decide
theorem rf_10_0 : rf 10 0 = 11 := by decide
theorem rf_10_1 : rf 10 1 = 15 := by decide
theorem rf_11_0 : rf 11 0 = 12 := by decide
theorem rf_11_1 : rf 11 1 = 13 := by decide
theorem rf_11_2 : rf 11 2 = 14 := by decide
theorem rf_15_0 : rf 15 0 = 16 := by decide
theorem rf_15_1 : rf 15 1 = 17 := by decide
theorem rf_18_0 : rf 18 0 = 19 := by decide
theorem rf_18_1 : rf 18 1 = 23 := by decide
theorem rf_19_0 : rf 19 0 = 20 := by decide
theorem rf_19_1 : rf 19 1 = 21 := by decide
theorem rf_19_2 : rf 19 2 = 22 := by decide
theorem rf_23_0 : rf 23 0 = 24 := by decide
theorem rf_23_1 : rf 23 1 = 25 := by decide
theorem rf_26_0 : rf 26 0 = 27 := by decide
theorem rf_27_0 : rf 27 0 = 28 := by decide
theorem rf_27_1 : rf 27 1 = 29 := by decide
theorem rf_27_2 : rf 27 2 = 30 := by decide
theorem rf_31_0 : rf 31 0 = 32 := by decide
theorem rf_33_0 : rf 33 0 = 34 := by decide
theorem rf_33_1 : rf 33 1 = 35 := by decide
theorem rf_36_0 : rf 36 0 = 37 := by decide
theorem rf_38_0 : rf 38 0 = 39 := by decide
theorem rf_38_1 : rf 38 1 = 40 := by decide
theorem rf_41_0 : rf 41 0 = 42 := by decide
theorem rf_43_0 : rf 43 0 = 44 := by decide
theorem rf_45_0 : rf 45 0 = 46 := by decide
theorem rf_45_1 : rf 45 1 = 47 := by decide
theorem rf_45_2 : rf 45 2 = 48 := by decide
theorem rf_45_8 : rf 45 8 = 49 := by decide
theorem rf_45_9 : rf 45 9 = 50 := by decide
theorem rf_45_11 : rf 45 11 = 51 := by decide
theorem rf_45_13 : rf 45 13 = 52 := by decide
theorem rf_45_14 : rf 45 14 = 53 := by decide
theorem rf_45_17 : rf 45 17 = 54 := by decide
theorem rf_45_22 : rf 45 22 = 55 := by decide
theorem rf_45_23 : rf 45 23 = 56 := by decide
theorem rf_45_24 : rf 45 24 = 57 := by decide
theorem rf_45_25 : rf 45 25 = 58 := by decide
theorem rf_45_26 : rf 45 26 = 59 := by decide
theorem rf_45_27 : rf 45 27 = 60 := by decide
theorem rf_45_28 : rf 45 28 = 61 := by decide
/-- reading what was written -/
theorem mI1 {M : Mem} {a k j : Nat} {x : Int32} : (mI M a k x).1 a j = if j = k then x else M.1 a j := by simp [mI, mR, upd]
theorem mI1_ne {M : Mem} {a b k : Nat} {x : Int32} (h : b ≠ a) : (mI M a k x).1 b = M.1 b := mR_ne h
theorem mI2 {M : Mem} {a k : Nat} {x : Int32} : (mI M a k x).2 = M.2 := rfl
theorem mL1 {M : Mem} {a k : Nat} {x : Int64} : (mL M a k x).1 = M.1 := rfl
theorem mL2 {M : Mem} {a k j : Nat} {x : Int64} : (mL M a k x).2 a j = if j = k then x else M.2 a j := by simp [mL, mRL, vp_updL]
theorem mL2_ne {M : Mem} {a b k : Nat} {x : Int64} (h : b ≠ a) : (mL M a k x).2 b = M.2 b := mRL_ne h
theorem mI_eq (M : Mem) (a k b j : Nat) (x : Int32) : (mI M a k x).1 b j = if b = a ∧ j = k then x else M.1 b j := by
  by_cases h : b = a
  · subst h; rw [mI1]; simp
  · rw [mI1_ne h]; simp [h]
theorem mR_eq (M : Mem) (a b : Nat) (f : Nat → Int32) : (mR M a f).1 b = if b = a then f else M.1 b := rfl
theorem cpy_lt {f g : Nat → Int32} {n j : Nat} (h : j < n) : va_cpy f g 0 0 n j = f j := by
  rw [pk_cpy_in (by omega) (by omega)]; simp
