/-! of each set of things the baskets that have one of them -/
def hB (b : Bt) (t k : Nat) : Bool := bt (bT b k) (nI t)
def oT (b : Bt) (t : Nat) : Nat → Nat
  | 0 => 0
  | k + 1 => if hB b t k = true then oT b t k ||| 2 ^ k else oT b t k
theorem oT_lt (b : Bt) (t : Nat) : ∀ k, k ≤ 10 → oT b t k < 1024 := by
  intro k
  induction k with
  | zero => intro _; exact (show 0 < 1024 by decide)
  | succ k ih =>
    intro hk
    have := ih (by omega)
    unfold oT
    split
    · exact Nat.or_lt_two_pow (n := 10) this (Nat.pow_lt_pow_right (by decide) (by omega))
    · exact this
theorem oT_bit (b : Bt) (t j : Nat) : ∀ k, (oT b t k).testBit j = (decide (j < k) && hB b t j) := by
  intro k
  induction k with
  | zero => show (0 : Nat).testBit j = _; rw [Nat.zero_testBit, decide_eq_false (Nat.not_lt_zero j)]; rfl
  | succ k ih =>
    unfold oT
    by_cases c : hB b t k = true
    · rw [if_pos c, fb_bit_set, ih]
      by_cases e : j = k
      · subst e
        rw [decide_eq_true rfl, Bool.or_true, decide_eq_true (show j < j + 1 by omega), c]; rfl
      · rw [decide_eq_false e, Bool.or_false]
        by_cases l : j < k
        · rw [decide_eq_true l, decide_eq_true (show j < k + 1 by omega)]
        · rw [decide_eq_false l, decide_eq_false (show ¬ j < k + 1 by omega)]
    · rw [if_neg c, ih]
      by_cases e : j = k
      · subst e
        have c' : hB b t j = false := by cases z : hB b t j; rfl; exact absurd z c
        rw [c', Bool.and_false, Bool.and_false]
      · by_cases l : j < k
        · rw [decide_eq_true l, decide_eq_true (show j < k + 1 by omega)]
        · rw [decide_eq_false l, decide_eq_false (show ¬ j < k + 1 by omega)]
def HmK (H : Nat → Nat → Bool) (N : Nat) (M : Mem) : Prop := ∀ p, p < N → ∃ h, h < 1024 ∧ M.1 34 p = nI h ∧ ∀ b, b < 10 → h.testBit b = hh H (tB p) b
theorem tB_add {t r : Nat} (hr : r < 2 ^ t) (j : Nat) : tB (2 ^ t + r) j = (tB r j || (j == t)) := by
  unfold tB
  by_cases c : j < t
  · rw [Nat.testBit_two_pow_add_gt c, show (j == t) = false by simpa using (show j ≠ t by omega), Bool.or_false]
  · by_cases e : j = t
    · subst e; rw [Nat.testBit_two_pow_add_eq, Nat.testBit_lt_two_pow hr]; simp
    · have l1 : 2 ^ t + r < 2 ^ (t + 1) := by rw [Nat.pow_succ]; omega
      rw [show (j == t) = false by simpa using e, Bool.or_false, Nat.testBit_lt_two_pow (Nat.lt_of_lt_of_le l1 (Nat.pow_le_pow_right (by decide) (by omega))), Nat.testBit_lt_two_pow (Nat.lt_of_lt_of_le hr (Nat.pow_le_pow_right (by decide) (by omega)))]
theorem hh_one {H : Nat → Nat → Bool} {t : Nat} (ht : t < 8) (b : Nat) : hh H (fun j => j == t) b = H t b := by
  apply Bool.eq_iff_iff.mpr
  rw [hh_iff]
  constructor
  · rintro ⟨j, -, j2, j3⟩
    rw [show j = t by simpa using j2] at j3; exact j3
  · intro h; exact ⟨t, ht, by simp, h⟩
theorem p2_8 {t : Nat} (ht : t < 8) : 2 ^ t ≤ 128 := by
  have : 2 ^ t ≤ 2 ^ 7 := Nat.pow_le_pow_right (by decide) (by omega)
  exact this
theorem e_homes64 {b : Bt} {t : Nat} (ht : t < 8) (k9 : Int32 → Mem → Option (Unit × Mem)) : ∀ r k f (M : Mem), k + r = 2 ^ t → r < f → AtB M 1 b → HmK (hB b) (2 ^ t + k) M → ∃ M', X6_joinHomes_l64 33 1 k9 f (nI t) (nI (2 ^ t)) (nI (oT b t 10)) (nI k) M = k9 (nI (t + 1)) M' ∧ AtB M' 1 b ∧ HmK (hB b) (2 ^ (t + 1)) M' := by
  have p2 := p2_8 ht
  intro r
  induction r with
  | zero =>
    intro k f M hk hf hB' h
    obtain ⟨f', rfl⟩ : ∃ f', f = f' + 1 := ⟨f - 1, by omega⟩
    refine ⟨M, ?_, hB', ?_⟩
    · show X6_joinHomes_b64 33 1 k9 _ _ _ _ _ M = _
      unfold X6_joinHomes_b64
      rw [if_pos (by rw [le_lit (by omega) (by omega)]; omega), L1]
    · rw [show 2 ^ (t + 1) = 2 ^ t + k by rw [Nat.pow_succ]; omega]; exact h
  | succ r ih =>
    intro k f M hk hf hB' h
    obtain ⟨f', rfl⟩ : ∃ f', f = f' + 1 := ⟨f - 1, by omega⟩
    have e1 : nI (2 ^ t) ||| nI k = nI (2 ^ t + k) := by
      have := fa_or_sum (a := k) (k := t) 1 (by omega)
      rw [Nat.mul_one] at this; exact this
    obtain ⟨w, w1, w2, w3⟩ := h k (by omega)
    obtain ⟨M2, e2, g2⟩ := ih (k + 1) f' (mI M 34 (2 ^ t + k) (nI (w ||| oT b t 10))) (by omega) (by omega) (hB'.row (by decide) (by decide) (by decide) (by decide)) (fun p hp => by
      rw [mI1]
      by_cases e : p = 2 ^ t + k
      · rw [if_pos e]
        refine ⟨w ||| oT b t 10, Nat.or_lt_two_pow (n := 10) w1 (oT_lt b t 10 (by omega)), rfl, fun q hq => ?_⟩
        rw [Nat.testBit_or, w3 q hq, oT_bit, decide_eq_true hq, Bool.true_and, e, hh_cong (P := tB (2 ^ t + k)) (Q := fun j => tB k j || (j == t)) (fun j _ => tB_add (by omega) j), hh_or, hh_one ht]
      · rw [if_neg e]; exact h p (by omega))
    refine ⟨M2, ?_, g2⟩
    show X6_joinHomes_b64 33 1 k9 _ _ _ _ _ M = _
    unfold X6_joinHomes_b64
    rw [if_neg (by rw [le_lit (by omega) (by omega)]; omega), e1, ib_nI (by omega) (by decide), ib_nI (by omega) (by decide), gt, gt, rf_33_0, ix_nI (by omega), ix_nI (by omega), w2, fa_or, L1]
    exact e2
theorem e_homes25 {b : Bt} {t : Nat} (ht : t < 8) (k9 : Int32 → Mem → Option (Unit × Mem)) (M : Mem) (hB' : AtB M 1 b) (h : HmK (hB b) (2 ^ t) M) : ∀ r k f, k + r = 10 → r < f → ∃ M', X6_joinHomes_l25 33 1 k9 f (nI t) (nI (2 ^ t)) (nI (oT b t k)) (nI k) M = k9 (nI (t + 1)) M' ∧ AtB M' 1 b ∧ HmK (hB b) (2 ^ (t + 1)) M' := by
  have p2 := p2_8 ht
  intro r
  induction r with
  | zero =>
    intro k f hk hf
    obtain ⟨f', rfl⟩ : ∃ f', f = f' + 1 := ⟨f - 1, by omega⟩
    have : k = 10 := by omega
    subst this
    obtain ⟨M1, e1, g1⟩ := e_homes64 ht k9 (2 ^ t) 0 FU M (by omega) (by show 2 ^ t < 2000; omega) hB' h
    refine ⟨M1, ?_, g1⟩
    have e0 : X6_joinHomes_l25 33 1 k9 (f' + 1) (nI t) (nI (2 ^ t)) (nI (oT b t 10)) (nI 10) M = X6_joinHomes_b25 33 1 k9 (X6_joinHomes_l25 33 1 k9 f') (nI t) (nI (2 ^ t)) (nI (oT b t 10)) (nI 10) M := rfl
    rw [e0]
    unfold X6_joinHomes_b25
    rw [if_pos (by decide)]
    exact e1
  | succ r ih =>
    intro k f hk hf
    obtain ⟨f', rfl⟩ : ∃ f', f = f' + 1 := ⟨f - 1, by omega⟩
    obtain ⟨M1, e1, g1⟩ := ih (k + 1) f' (by omega) (by omega)
    refine ⟨M1, ?_, g1⟩
    have en : oT b t (k + 1) = if hB b t k = true then oT b t k ||| 2 ^ k else oT b t k := rfl
    have e0 : X6_joinHomes_l25 33 1 k9 (f' + 1) (nI t) (nI (2 ^ t)) (nI (oT b t k)) (nI k) M = X6_joinHomes_b25 33 1 k9 (X6_joinHomes_l25 33 1 k9 f') (nI t) (nI (2 ^ t)) (nI (oT b t k)) (nI k) M := rfl
    rw [e0]
    unfold X6_joinHomes_b25 X6_joinHomes_b55
    rw [if_neg (by rw [L10, le_lit (by decide) (by omega)]; omega), ib_nI (by omega) (by decide), gt, ix_nI (by omega), hB'.2.1 k (by omega), e_isIn, bs]
    simp only [bz_eq0, iw]
    rw [shl_nI (by omega), fa_or, L1]
    have eh : bt (bT b k) (nI t) = hB b t k := rfl
    rw [eh]
    cases c : hB b t k
    · rw [c, if_neg (by decide)] at en
      rw [if_pos rfl, ← en]; exact e1
    · rw [c, if_pos rfl] at en
      rw [if_neg (by decide), ← en]; exact e1
theorem e_homes9 {b : Bt} : ∀ r t f (M : Mem), t + r = 8 → r < f → AtB M 1 b → HmK (hB b) (2 ^ t) M → ∃ M', X6_joinHomes_l9 33 1 f (nI t) M = some ((), M') ∧ AtB M' 1 b ∧ HmI (hB b) M' := by
  intro r
  induction r with
  | zero =>
    intro t f M ht hf hB' h
    obtain ⟨f', rfl⟩ : ∃ f', f = f' + 1 := ⟨f - 1, by omega⟩
    have : t = 8 := by omega
    subst this
    exact ⟨M, rfl, hB', h⟩
  | succ r ih =>
    intro t f M ht hf hB' h
    obtain ⟨f', rfl⟩ : ∃ f', f = f' + 1 := ⟨f - 1, by omega⟩
    obtain ⟨M1, e1, g1, g2⟩ := e_homes25 (t := t) (by omega) (X6_joinHomes_l9 33 1 f') M hB' h 10 0 FU (by omega) (by decide)
    obtain ⟨M2, e2, g3⟩ := ih (t + 1) f' M1 (by omega) (by omega) g1 g2
    refine ⟨M2, ?_, g3⟩
    have e0 : X6_joinHomes_l9 33 1 (f' + 1) (nI t) M = X6_joinHomes_b9 33 1 (X6_joinHomes_l9 33 1 f') (nI t) M := rfl
    rw [e0]
    unfold X6_joinHomes_b9
    rw [if_neg (by rw [show (8 : Int32) = nI 8 from rfl, le_lit (by decide) (by omega)]; omega), shl_nI (by omega)]
    exact e1.trans e2
theorem e_homes {b : Bt} {M : Mem} (hB' : AtB M 1 b) : ∃ M', X6_joinHomes 33 1 M = some ((), M') ∧ AtB M' 1 b ∧ HmI (hB b) M' := by
  unfold X6_joinHomes
  rw [show ib (0 : Int32) 256 = true by decide, gt, rf_33_0, show (0 : Int32).toNatClampNeg = 0 by decide]
  refine e_homes9 8 0 FU _ (by omega) (by decide) (hB'.row (by decide) (by decide) (by decide) (by decide)) (fun s hs => ?_)
  have : s = 0 := by have : s < 1 := hs; omega
  subst this
  refine ⟨0, by decide, by rw [mI1, if_pos rfl]; rfl, fun q _ => ?_⟩
  rw [Nat.zero_testBit]
  cases c : hh (hB b) (tB 0) q
  · rfl
  · obtain ⟨t, -, t2, -⟩ := hh_iff.mp c
    have t3 : (0 : Nat).testBit t = true := t2
    rw [Nat.zero_testBit] at t3; exact absurd t3 (by decide)
