/-! two piles -/
def lwN : List Nat := [0, 2, 1, 5, 7, 3, 10, 4, 13, 15, 6, 18, 20, 8, 23, 9, 26, 28, 11, 31, 12]
theorem lwT_N : ∀ a, a < 21 → lwT.getD a 0 = nI (lwN.getD a 0) ∧ lwN.getD a 0 ≤ 31 := by decide +kernel
def wn (x y : Nat) : Bool := !(lwN.getD x 0 == y)
def lgl (a b : Nat) : Bool := decide (0 < a + b) && (a == 0 || b == 0 || a == b)
def gdm (x y a b : Nat) : Bool := lgl a b && !(wn (x - a) (y - b))
def exB (x y a : Nat) : Nat → Nat → Bool → Bool
  | 0, _, v => v
  | r + 1, b, v => exB x y a r (b + 1) (v || gdm x y a b)
def exA (x y : Nat) : Nat → Nat → Bool → Bool
  | 0, _, v => v
  | r + 1, a, v => exA x y r (a + 1) (exB x y a (y + 1) 0 v)
def ltB (x y a : Nat) : Nat → Int32 → Int32
  | 0, v => v
  | b + 1, v => ltB x y a b (if gdm x y a b = true then nI (100 * a + b) else v)
def ltA (x y : Nat) : Nat → Int32 → Int32
  | 0, v => v
  | a + 1, v => ltA x y a (ltB x y a (y + 1) v)
def wtC (x y a : Nat) : Bool := decide (lwN.getD (x - a) 0 ≤ y) && (((a == 0) != (y - lwN.getD (x - a) 0 == 0)) || (a == y - lwN.getD (x - a) 0 && decide (0 < a)))
def wt (x y : Nat) : Nat → Nat → Int32
  | 0, _ => -6
  | r + 1, a => if wtC x y a = true then nI (100 * a + (y - lwN.getD (x - a) 0)) else wt x y r (a + 1)
set_option maxRecDepth 100000 in
theorem exA_wn : ∀ x, x < 21 → ∀ y, y < 21 → exA x y (x + 1) 0 false = wn x y := by decide +kernel
set_option maxRecDepth 100000 in
theorem wt_lt : ∀ x, x < 21 → ∀ y, y < 21 → wt x y (x + 1) 0 = ltA x y (x + 1) (-6) := by decide +kernel
theorem nI_eqN {a b : Nat} (ha : a < 2 ^ 31) (hb : b < 2 ^ 31) : (nI a = nI b) = (a = b) := by
  apply propext
  refine ⟨fun h => ?_, fun h => by rw [h]⟩
  have := congrArg Int32.toInt h
  rw [nI_toInt ha, nI_toInt hb] at this
  omega
theorem nI_eq0 {a : Nat} (ha : a < 2 ^ 31) : (nI a = 0) = (a = 0) := nI_eqN (b := 0) ha (by decide)
theorem nI_le0 {a : Nat} (ha : a < 2 ^ 31) : (nI a ≤ 0) = (a = 0) := by
  have := le_lit (N := a) (j := 0) ha (by decide)
  rw [show (0 : Int32) = nI 0 from rfl, this]
  exact propext ⟨fun h => by omega, fun h => by omega⟩
theorem nI_lt0 {a : Nat} (ha : a < 2 ^ 31) : (nI a < 0) = False := by
  have := lt_lit (N := a) (j := 0) ha (by decide)
  rw [show (0 : Int32) = nI 0 from rfl, this]
  exact propext ⟨fun h => by omega, fun h => h.elim⟩
theorem e_take_l {M : Mem} (h42 : ∀ a, a < 21 → M.1 42 a = lwT.getD a 0) {x y : Nat} (hx : x < 21) (hy : y < 21) : ∀ r a f, a + r = x + 1 → r < f → X10_winningTake_l2 41 f (nI x) (nI y) (nI a) M = some (wt x y r a, M) := by
  intro r
  induction r with
  | zero =>
    intro a f ha hf
    obtain ⟨f', rfl⟩ : ∃ f', f = f' + 1 := ⟨f - 1, by omega⟩
    show X10_winningTake_b2 41 _ _ _ _ M = _
    unfold X10_winningTake_b2
    rw [if_pos (by rw [lt_lit (by omega) (by omega)]; omega)]
    rfl
  | succ r ih =>
    intro a f ha hf
    obtain ⟨f', rfl⟩ : ∃ f', f = f' + 1 := ⟨f - 1, by omega⟩
    obtain ⟨t1, t2⟩ := lwT_N (x - a) (by omega)
    have next := ih (a + 1) f' (by omega) (by omega)
    have ew : wt x y (r + 1) a = if wtC x y a = true then nI (100 * a + (y - lwN.getD (x - a) 0)) else wt x y r (a + 1) := rfl
    rw [ew]
    show X10_winningTake_b2 41 _ _ _ _ M = _
    unfold X10_winningTake_b2 X10_winningTake_b28 X10_winningTake_b38 X10_winningTake_b46 X10_winningTake_b62 X10_winningTake_b63 X10_winningTake_b88 X10_winningTake_b80
    rw [if_neg (by rw [lt_lit (by omega) (by omega)]; omega), pk_sub (by omega), ib_nI (by omega) (by decide), gt, ix_nI (by omega), rf_41_0, h42 _ (by omega), t1, L1]
    simp only [iw]
    by_cases hl : lwN.getD (x - a) 0 ≤ y
    · rw [pk_sub hl]
      unfold wtC
      rw [decide_eq_true hl, Bool.true_and]
      have hb : y - lwN.getD (x - a) 0 < 2 ^ 31 := by omega
      generalize y - lwN.getD (x - a) 0 = b at hb ⊢
      rw [show (100 : Int32) * nI a + nI b = nI (100 * a + b) by rw [show (100 : Int32) = nI 100 from rfl, pk_mul, nI_add], next]
      simp only [nI_eq0 (show a < 2 ^ 31 by omega), nI_eq0 hb, nI_eqN (show a < 2 ^ 31 by omega) hb, nI_le0 (show a < 2 ^ 31 by omega), nI_lt0 hb, if_false]
      by_cases a0 : a = 0
      · subst a0
        by_cases b0 : b = 0
        · subst b0; simp
        · simp [b0, Ne.symm b0]
      · by_cases b0 : b = 0
        · subst b0; simp [a0]
        · by_cases ab : a = b
          · subst ab; simp [a0]
          · have q1 : (a == 0) = false := by simpa using a0
            have q2 : (b == 0) = false := by simpa using b0
            simp [a0, b0, ab, q1, q2]
    · have hn : nI y - nI (lwN.getD (x - a) 0) < 0 := pk_sneg (by omega) (by omega)
      unfold wtC
      rw [decide_eq_false hl, Bool.false_and]
      simp only [hn, if_true, ite_self]
      exact next
theorem m_ltw14 {M : Mem} {x y : Nat} (hx : x < 21) (hy : y < 21) (H : ∀ a b, a ≤ x → b ≤ y → lgl a b = true → M.1 58 (21 * (x - a) + (y - b)) = bz (wn (x - a) (y - b))) (k5 : Int32 → Int32 → Int32 → Int32 → Mem → Option (Int32 × Mem)) {a : Nat} (ha : a ≤ x) : ∀ r b f v, b + r = y + 1 → r < f → X12_leastTakeWins_l14 45 k5 f (nI x) (nI y) (bz v) (nI a) (nI b) M = k5 (nI x) (nI y) (bz (exB x y a r b v)) (nI (a + 1)) M := by
  intro r
  induction r with
  | zero =>
    intro b f v hb hf
    obtain ⟨f', rfl⟩ : ∃ f', f = f' + 1 := ⟨f - 1, by omega⟩
    show X12_leastTakeWins_b14 45 k5 _ _ _ _ _ _ M = _
    unfold X12_leastTakeWins_b14
    rw [if_pos (by rw [lt_lit (by omega) (by omega)]; omega), L1]
    rfl
  | succ r ih =>
    intro b f v hb hf
    obtain ⟨f', rfl⟩ : ∃ f', f = f' + 1 := ⟨f - 1, by omega⟩
    have next := ih (b + 1) f' (v || gdm x y a b) (by omega) (by omega)
    show _ = k5 (nI x) (nI y) (bz (exB x y a r (b + 1) (v || gdm x y a b))) (nI (a + 1)) M
    rw [← next]
    show X12_leastTakeWins_b14 45 k5 (X12_leastTakeWins_l14 45 k5 f') _ _ _ _ _ M = _
    generalize X12_leastTakeWins_l14 45 k5 f' = k14
    unfold X12_leastTakeWins_b14 X12_leastTakeWins_b45 X12_leastTakeWins_b49 X12_leastTakeWins_b50 X12_leastTakeWins_b81 X12_leastTakeWins_b85 X12_leastTakeWins_b86
    have ei : (21 : Int32) * (nI x - nI a) + nI y - nI b = nI (21 * (x - a) + (y - b)) := by
      rw [pk_sub ha, show (21 : Int32) = nI 21 from rfl, pk_mul, nI_add, pk_sub (by omega)]
      congr 1; omega
    rw [if_neg (by rw [lt_lit (by omega) (by omega)]; omega), ei, ib_nI (by omega) (by decide), gt, ix_nI (by omega), rf_45_25, L1, nI_add]
    simp only [nI_le0 (show a + b < 2 ^ 31 by omega), nI_eq0 (show a < 2 ^ 31 by omega), nI_eq0 (show b < 2 ^ 31 by omega), nI_eqN (show a < 2 ^ 31 by omega) (show b < 2 ^ 31 by omega), bz_eq0, show ¬ (1 : Int32) = 0 by decide, if_true, if_false]
    unfold gdm
    cases hl : lgl a b
    · rw [Bool.false_and, Bool.or_false]
      unfold lgl at hl
      by_cases z : a + b = 0
      · simp only [z, if_true]
        cases v <;> rfl
      · have p0 : 0 < a + b := by omega
        rw [decide_eq_true p0, Bool.true_and] at hl
        simp only [Bool.or_eq_false_iff, beq_eq_false_iff_ne] at hl
        simp only [z, hl.1.1, hl.1.2, hl.2, if_false]
        cases v <;> rfl
    · have hw := H a b ha (by omega) hl
      rw [hw, Bool.true_and]
      unfold lgl at hl
      simp only [Bool.and_eq_true, decide_eq_true_eq, Bool.or_eq_true, beq_iff_eq] at hl
      have z : ¬ a + b = 0 := by omega
      simp only [z, if_false, bz_eq0]
      have fin : (if v = false then (if wn (x - a) (y - b) = false then k14 (nI x) (nI y) 1 (nI a) (nI (b + 1)) M else k14 (nI x) (nI y) 0 (nI a) (nI (b + 1)) M) else k14 (nI x) (nI y) 1 (nI a) (nI (b + 1)) M) = k14 (nI x) (nI y) (bz (v || !wn (x - a) (y - b))) (nI a) (nI (b + 1)) M := by
        cases v <;> cases wn (x - a) (y - b) <;> rfl
      rw [← fin]
      rcases hl.2 with (c | c) | c
      · simp only [c, if_true]
      · by_cases c0 : a = 0
        · simp only [c0, if_true]
        · simp only [c0, c, if_true, if_false]
      · by_cases c0 : a = 0
        · simp only [c0, if_true]
        · by_cases c1 : b = 0
          · simp only [c0, c1, if_true, if_false]
          · simp only [c0, c1, c, if_true, if_false]
theorem m_ltw {M : Mem} {x y : Nat} (hx : x < 21) (hy : y < 21) (H : ∀ a b, a ≤ x → b ≤ y → lgl a b = true → M.1 58 (21 * (x - a) + (y - b)) = bz (wn (x - a) (y - b))) : ∀ r a f v, a + r = x + 1 → r < f → X12_leastTakeWins_l5 45 f (nI x) (nI y) (bz v) (nI a) M = some (bz (exA x y r a v), M) := by
  intro r
  induction r with
  | zero =>
    intro a f v ha hf
    obtain ⟨f', rfl⟩ : ∃ f', f = f' + 1 := ⟨f - 1, by omega⟩
    show X12_leastTakeWins_b5 45 _ _ _ _ _ M = _
    unfold X12_leastTakeWins_b5
    rw [if_pos (by rw [lt_lit (by omega) (by omega)]; omega), gbz]
    rfl
  | succ r ih =>
    intro a f v ha hf
    obtain ⟨f', rfl⟩ : ∃ f', f = f' + 1 := ⟨f - 1, by omega⟩
    show X12_leastTakeWins_b5 45 _ _ _ _ _ M = _
    unfold X12_leastTakeWins_b5
    rw [if_neg (by rw [lt_lit (by omega) (by omega)]; omega)]
    have := m_ltw14 hx hy H (X12_leastTakeWins_l5 45 f') (a := a) (by omega) (y + 1) 0 FU v (by omega) (by show y + 1 < 2000; omega)
    refine Eq.trans this ?_
    exact ih (a + 1) f' _ (by omega) (by omega)
theorem m_take14 {M : Mem} {x y : Nat} (hx : x < 21) (hy : y < 21) (H : ∀ a b, a ≤ x → b ≤ y → lgl a b = true → M.1 58 (21 * (x - a) + (y - b)) = bz (wn (x - a) (y - b))) (k6 : Int32 → Int32 → Int32 → Int32 → Mem → Option (Int32 × Mem)) {a : Nat} (ha : a ≤ x) : ∀ c f v, c ≤ y + 1 → c < f → X12_leastTake_l14 45 k6 f (nI x) (nI y) v (nI a) (nI c + (-1)) M = k6 (nI x) (nI y) (ltB x y a c v) (nI a + (-1)) M := by
  intro c
  induction c with
  | zero =>
    intro f v hb hf
    obtain ⟨f', rfl⟩ : ∃ f', f = f' + 1 := ⟨f - 1, by omega⟩
    show X12_leastTake_b14 45 k6 _ _ _ _ _ _ M = _
    unfold X12_leastTake_b14
    rw [if_pos (by decide)]
    rfl
  | succ b ih =>
    intro f v hb hf
    obtain ⟨f', rfl⟩ : ∃ f', f = f' + 1 := ⟨f - 1, by omega⟩
    have next := ih f' (if gdm x y a b = true then nI (100 * a + b) else v) (by omega) (by omega)
    show _ = k6 (nI x) (nI y) (ltB x y a b (if gdm x y a b = true then nI (100 * a + b) else v)) (nI a + (-1)) M
    rw [← next, pk_m1]
    show X12_leastTake_b14 45 k6 (X12_leastTake_l14 45 k6 f') _ _ _ _ _ M = _
    generalize X12_leastTake_l14 45 k6 f' = k14
    unfold X12_leastTake_b14 X12_leastTake_b44 X12_leastTake_b48 X12_leastTake_b49 X12_leastTake_b87 X12_leastTake_b88
    have ei : (21 : Int32) * (nI x - nI a) + nI y - nI b = nI (21 * (x - a) + (y - b)) := by
      rw [pk_sub ha, show (21 : Int32) = nI 21 from rfl, pk_mul, nI_add, pk_sub (by omega)]
      congr 1; omega
    rw [ei, ib_nI (by omega) (by decide), gt, ix_nI (by omega), rf_45_25, nI_add, show (100 : Int32) * nI a + nI b = nI (100 * a + b) by rw [show (100 : Int32) = nI 100 from rfl, pk_mul, nI_add]]
    simp only [nI_lt0 (show b < 2 ^ 31 by omega), nI_le0 (show a + b < 2 ^ 31 by omega), nI_eq0 (show a < 2 ^ 31 by omega), nI_eq0 (show b < 2 ^ 31 by omega), nI_eqN (show a < 2 ^ 31 by omega) (show b < 2 ^ 31 by omega), show ¬ (1 : Int32) = 0 by decide, if_true, if_false]
    unfold gdm
    cases hl : lgl a b
    · rw [Bool.false_and]
      simp only [Bool.false_eq_true, if_false]
      unfold lgl at hl
      by_cases z : a + b = 0
      · simp only [z, if_true]
      · have p0 : 0 < a + b := by omega
        rw [decide_eq_true p0, Bool.true_and] at hl
        simp only [Bool.or_eq_false_iff, beq_eq_false_iff_ne] at hl
        simp only [z, hl.1.1, hl.1.2, hl.2, if_false]
    · have hw := H a b ha (by omega) hl
      rw [hw, Bool.true_and]
      unfold lgl at hl
      simp only [Bool.and_eq_true, decide_eq_true_eq, Bool.or_eq_true, beq_iff_eq] at hl
      have z : ¬ a + b = 0 := by omega
      simp only [z, if_false, bz_eq0]
      have fin : (if wn (x - a) (y - b) = false then k14 (nI x) (nI y) (nI (100 * a + b)) (nI a) (nI b + (-1)) M else k14 (nI x) (nI y) v (nI a) (nI b + (-1)) M) = k14 (nI x) (nI y) (if (!wn (x - a) (y - b)) = true then nI (100 * a + b) else v) (nI a) (nI b + (-1)) M := by
        cases wn (x - a) (y - b) <;> rfl
      rw [← fin]
      rcases hl.2 with (c | c) | c
      · simp only [c, if_true]
      · by_cases c0 : a = 0
        · simp only [c0, if_true]
        · simp only [c0, c, if_true, if_false]
      · by_cases c0 : a = 0
        · simp only [c0, if_true]
        · by_cases c1 : b = 0
          · simp only [c0, c1, if_true, if_false]
          · simp only [c0, c1, c, if_true, if_false]
theorem m_take {M : Mem} {x y : Nat} (hx : x < 21) (hy : y < 21) (H : ∀ a b, a ≤ x → b ≤ y → lgl a b = true → M.1 58 (21 * (x - a) + (y - b)) = bz (wn (x - a) (y - b))) : ∀ c f v, c ≤ x + 1 → c < f → X12_leastTake_l6 45 f (nI x) (nI y) v (nI c + (-1)) M = some (ltA x y c v, M) := by
  intro c
  induction c with
  | zero =>
    intro f v ha hf
    obtain ⟨f', rfl⟩ : ∃ f', f = f' + 1 := ⟨f - 1, by omega⟩
    rfl
  | succ a ih =>
    intro f v ha hf
    obtain ⟨f', rfl⟩ : ∃ f', f = f' + 1 := ⟨f - 1, by omega⟩
    rw [pk_m1]
    show X12_leastTake_b6 45 _ _ _ _ _ M = _
    unfold X12_leastTake_b6
    rw [if_neg (by rw [nI_lt0 (by omega)]; exact id)]
    have := m_take14 hx hy H (X12_leastTake_l6 45 f') (a := a) (by omega) (y + 1) FU v (by omega) (by show y + 1 < 2000; omega)
    rw [pk_m1] at this
    refine Eq.trans this ?_
    exact ih f' _ (by omega) (by omega)
def PI (Y x y : Nat) (M : Mem) : Prop := ∀ x' y', y' ≤ Y → (x' < x ∨ (x' = x ∧ y' < y)) → M.1 58 (21 * x' + y') = bz (wn x' y')
theorem nar_bz (b : Bool) : vp_nar .boolean (bz b) = bz b := by cases b <;> decide
theorem m_piles49 {X Y : Nat} (hX : X < 21) (hY : Y < 21) (x3 : Int32) (k40 : Int32 → Int32 → Int32 → Int32 → Mem → Option (Int32 × Mem)) {x : Nat} (hx : x ≤ X) : ∀ r y f (M : Mem), y + r = Y + 1 → r < f → PI Y x y M → ∃ M', X12_piles_l49 45 k40 f (nI X) (nI Y) x3 (nI x) (nI y) M = k40 (nI X) (nI Y) x3 (nI (x + 1)) M' ∧ PI Y (x + 1) 0 M' := by
  intro r
  induction r with
  | zero =>
    intro y f M hy hf h
    obtain ⟨f', rfl⟩ : ∃ f', f = f' + 1 := ⟨f - 1, by omega⟩
    refine ⟨M, ?_, fun x' y' h1 h2 => h x' y' h1 (by omega)⟩
    show X12_piles_b49 45 k40 _ _ _ _ _ _ M = _
    unfold X12_piles_b49
    rw [if_pos (by rw [lt_lit (by omega) (by omega)]; omega), L1]
  | succ r ih =>
    intro y f M hy hf h
    obtain ⟨f', rfl⟩ : ∃ f', f = f' + 1 := ⟨f - 1, by omega⟩
    have h0 : ∀ a b, a ≤ x → b ≤ y → lgl a b = true → (mI M 58 (21 * x + y) 0).1 58 (21 * (x - a) + (y - b)) = bz (wn (x - a) (y - b)) := by
      intro a b ha hb hl
      have p0 : 0 < a + b := by
        unfold lgl at hl
        simp only [Bool.and_eq_true, decide_eq_true_eq] at hl
        exact hl.1
      rw [mI1, if_neg (by omega)]
      exact h _ _ (by omega) (by omega)
    have e1 := m_ltw (by omega) (by omega) h0 (x + 1) 0 FU false (by omega) (by show x + 1 < 2000; omega)
    rw [exA_wn x (by omega) y (by omega)] at e1
    obtain ⟨M2, e2, g2⟩ := ih (y + 1) f' (mI (mI M 58 (21 * x + y) 0) 58 (21 * x + y) (bz (wn x y))) (by omega) (by omega) (fun x' y' h1 h2 => by
      rw [mI1]
      by_cases e : 21 * x' + y' = 21 * x + y
      · have hxx : x' = x := by omega
        have hyy : y' = y := by omega
        rw [if_pos e, hxx, hyy]
      · rw [if_neg e, mI1, if_neg e]
        exact h x' y' h1 (by omega))
    refine ⟨M2, ?_, g2⟩
    show X12_piles_b49 45 k40 _ _ _ _ _ _ M = _
    unfold X12_piles_b49
    have ei : (21 : Int32) * nI x + nI y = nI (21 * x + y) := by rw [show (21 : Int32) = nI 21 from rfl, pk_mul, nI_add]
    rw [if_neg (by rw [lt_lit (by omega) (by omega)]; omega), ei, ib_nI (by omega) (by decide), gt, ix_nI (by omega), rf_45_25, show vp_nar .boolean (0 : Int32) = 0 by decide]
    have e1' : X12_leastTakeWins 45 (nI x) (nI y) (mI M 58 (21 * x + y) 0) = some (bz (wn x y), mI M 58 (21 * x + y) 0) := e1
    rw [e1', bs, gt]
    simp only [nar_bz]
    rw [L1]
    exact e2
theorem m_piles40 {X Y : Nat} (hX : X < 21) (hY : Y < 21) (x3 : Int32) : ∀ r x f (M : Mem), x + r = X + 1 → r < f → PI Y x 0 M → ∃ M', X12_piles_l40 45 f (nI X) (nI Y) x3 (nI x) M = some (if x3 = 1 then wt X Y (X + 1) 0 else bz (wn X Y), M') := by
  intro r
  induction r with
  | zero =>
    intro x f M hx hf h
    obtain ⟨f', rfl⟩ : ∃ f', f = f' + 1 := ⟨f - 1, by omega⟩
    have hxx : x = X + 1 := by omega
    subst hxx
    refine ⟨M, ?_⟩
    show X12_piles_b40 45 _ _ _ _ _ M = _
    unfold X12_piles_b40 X12_piles_b135
    have ei : (21 : Int32) * nI X + nI Y = nI (21 * X + Y) := by rw [show (21 : Int32) = nI 21 from rfl, pk_mul, nI_add]
    rw [if_pos (by rw [lt_lit (by omega) (by omega)]; omega), ei, ib_nI (by omega) (by decide), gt, ix_nI (by omega), rf_45_25, h X Y (Nat.le_refl _) (Or.inl (by omega))]
    by_cases c : x3 = 1
    · rw [if_pos c, if_pos c]
      have := m_take hX hY (M := M) (fun a b ha hb hl => h _ _ (by omega) (by omega)) (X + 1) FU (-6) (by omega) (by show X + 1 < 2000; omega)
      rw [pk_m1] at this
      have t : X12_leastTake 45 (nI X) (nI Y) M = some (ltA X Y (X + 1) (-6), M) := this
      rw [t, bs, wt_lt X hX Y hY]
    · rw [if_neg c, if_neg c]
      cases wn X Y <;> rfl
  | succ r ih =>
    intro x f M hx hf h
    obtain ⟨f', rfl⟩ : ∃ f', f = f' + 1 := ⟨f - 1, by omega⟩
    obtain ⟨M1, e1, g1⟩ := m_piles49 hX hY x3 (X12_piles_l40 45 f') (x := x) (by omega) (Y + 1) 0 FU M (by omega) (by show Y + 1 < 2000; omega) h
    obtain ⟨M2, e2⟩ := ih (x + 1) f' M1 (by omega) (by omega) g1
    refine ⟨M2, ?_⟩
    show X12_piles_b40 45 _ _ _ _ _ M = _
    unfold X12_piles_b40
    rw [if_neg (by rw [lt_lit (by omega) (by omega)]; omega)]
    exact e1.trans e2
def q_piles (x y w : Int32) : Int32 := if ib x 21 = true then (if ib y 21 = true then (if wi w 0 1 = true then (if w = 1 then wt x.toNatClampNeg y.toNatClampNeg (x.toNatClampNeg + 1) 0 else bz (wn x.toNatClampNeg y.toNatClampNeg)) else -2) else -2) else -2
theorem sim_piles (x y w : Int32) : Sim (X11_piles 0 x y w) (X12_piles 45 x y w) := by
  refine Sim_ask (fun _ => q_piles x y w) ?_ ?_ (fun M => fr_X11_piles _ _ _ M Sm_refl) (by decide) (fun M => fr_X12_piles _ _ _ M Sm_refl) (by decide)
  · intro M σ ok rc
    unfold X11_piles X11_piles_b29 X11_piles_b64 q_piles
    simp only [e_isWithin, bs, bz_eq0, wi_ib x 20 21 (by decide), wi_ib y 20 21 (by decide)]
    cases c1 : ib x 21
    · exact ⟨M, rfl⟩
    cases c2 : ib y 21
    · exact ⟨M, rfl⟩
    cases c3 : wi w 0 1
    · exact ⟨M, rfl⟩
    obtain ⟨X, hX, rfl⟩ := ib_ex c1 (by decide)
    obtain ⟨Y, hY, rfl⟩ := ib_ex c2 (by decide)
    rw [ix_nI (by omega), ix_nI (by omega), rf_0_10]
    refine ⟨M, ?_⟩
    simp only [Bool.true_eq_false, if_false, if_true]
    by_cases c : w = 1
    · have := e_take_l rc.2.2.2.2.2 hX hY (X + 1) 0 FU (by omega) (by show X + 1 < 2000; omega)
      have t : X10_winningTake 41 (nI X) (nI Y) M = some (wt X Y (X + 1) 0, M) := this
      rw [if_pos c, if_pos c, t, bs]
    · rw [if_neg c, if_neg c]
      unfold X10_isLost X10_isLost_b15
      obtain ⟨t1, t2⟩ := lwT_N X hX
      rw [ib_nI hX (by decide), gt, ix_nI (by omega), rf_41_0, rc.2.2.2.2.2 X hX, t1]
      unfold wn
      by_cases e : lwN.getD X 0 = Y
      · rw [if_pos (by rw [e]), e]
        simp
        rfl
      · rw [if_neg (by rw [nI_eqN (by omega) (by omega)]; exact e)]
        have : (lwN.getD X 0 == Y) = false := by simpa using e
        rw [this]; rfl
  · intro M σ ok rm
    unfold X12_piles X12_piles_b34 q_piles
    simp only [e_in_0_20, e_in_0_1, bs, bz_eq0, wi_ib x 20 21 (by decide), wi_ib y 20 21 (by decide)]
    cases c1 : ib x 21
    · exact ⟨M, rfl⟩
    cases c2 : ib y 21
    · exact ⟨M, rfl⟩
    cases c3 : wi w 0 1
    · exact ⟨M, rfl⟩
    obtain ⟨X, hX, rfl⟩ := ib_ex c1 (by decide)
    obtain ⟨Y, hY, rfl⟩ := ib_ex c2 (by decide)
    rw [ix_nI (by omega), ix_nI (by omega)]
    simp only [Bool.true_eq_false, if_false, if_true]
    exact m_piles40 hX hY w (X + 1) 0 FU M (by omega) (by show X + 1 < 2000; omega) (fun x' y' h1 h2 => by omega)
