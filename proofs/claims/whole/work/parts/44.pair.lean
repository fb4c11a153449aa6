/-! what is still needed -/
theorem mf_stay {H : Nat → Nat → Bool} {S : Nat → Bool} {t k : Nat} (ht : t < 8) (h : ∀ y, y < 10 → ownC H S t k y = false) : mf H S (7 - t) (fr k) = mf H S (8 - t) (fr k) := by
  have e := mf_row H S ht (fr k)
  obtain ⟨p1, -, p3⟩ := mfB_p (gF H S t (fr k)) (mf H S (7 - t) (fr k)) 10
  rw [← e] at p1 p3
  rcases p3 with q | ⟨y, y1, y2⟩
  · exact q.symm
  · have hy := h y y1
    unfold gF at y2
    unfold ownC at hy
    cases c : (S t && H t y && fr k y)
    · rw [c, if_neg (by decide)] at y2
      omega
    · rw [c, if_pos rfl] at y2
      rw [c, Bool.true_and, decide_eq_true y2.symm] at hy
      exact absurd hy (by decide)
theorem mf_take {H : Nat → Nat → Bool} {S : Nat → Bool} {t k y : Nat} (h : ownC H S t k y = true) : mf H S (7 - t) (fr (k ||| 2 ^ y)) + 1 = mf H S (8 - t) (fr k) := by
  unfold ownC at h
  have := ((Bool.and_eq_true _ _).mp h).2
  rw [fr_set]
  exact of_decide_eq_true this
theorem ownL_no {H : Nat → Nat → Bool} {S : Nat → Bool} {t k : Nat} (h : S t = false) : ownL H S t k 10 0 = -6 := by
  rcases ownL_rng H S t k 10 0 (by omega) with ⟨q, -⟩ | ⟨y, -, -, q⟩
  · exact q
  · unfold ownC at q
    rw [h, Bool.false_and, Bool.false_and, Bool.false_and] at q
    exact absurd q (by decide)
theorem dif_or (k y : Nat) : dif (dif 1023 k) (2 ^ y) = dif 1023 (k ||| 2 ^ y) := by
  apply Nat.eq_of_testBit_eq
  intro j
  rw [dif_bit, dif_bit, dif_bit, Nat.testBit_or]
  cases (1023 : Nat).testBit j <;> cases k.testBit j <;> cases (2 ^ y).testBit j <;> rfl
