/-! the class's choice -/
theorem free_bit {k j : Nat} (hj : j < 10) : (dif 1023 k).testBit j = fr k j := by
  have : ∀ j, j < 10 → (1023 : Nat).testBit j = true := by decide
  rw [dif_bit, this j hj, Bool.true_and]; rfl
theorem most_mf {H : Nat → Nat → Bool} {M : Mem} (hM : HmI H M) {s r f t : Nat} {F : Nat → Bool} (hr : r < 256) (hf : f < 1024) (ht : t ≤ 8) (e1 : ∀ j, j < 8 → tB r j = fromS (tB s) t j) (e2 : ∀ j, j < 10 → tB f j = F j) : X6_mostAtOnce 33 (nI r) (nI f) M = some (nI (mf H (tB s) (8 - t) F), M) := by
  obtain ⟨v, h1, h2⟩ := e_most hM hr hf
  have h3 := mf_G H (tB s) (8 - t) (by omega) F
  rw [show 8 - (8 - t) = t by omega] at h3
  rw [h1, (h2.cong e1 e2).one h3]
theorem e_least_l {b : Bt} {M : Mem} (hM : HmI (hB b) M) {s r t k c : Nat} (hr : r < 256) (ht : t < 8) (hc : c < 1024) (hS : tB s t = true) (e1 : ∀ j, j < 8 → tB r j = fromS (tB s) (t + 1) j) (ec : ∀ x, x < 10 → c.testBit x = (hB b t x && fr k x)) : ∀ n x f, x + n = 10 → n < f → X6_leastBasket_l3 33 f (nI c) (nI r) (nI (dif 1023 k)) (nI (mf (hB b) (tB s) (8 - t) (fr k))) (nI x) M = some (ownL (hB b) (tB s) t k n x, M) := by
  intro n
  induction n with
  | zero =>
    intro x f hx hf
    obtain ⟨f', rfl⟩ : ∃ f', f = f' + 1 := ⟨f - 1, by omega⟩
    have : x = 10 := by omega
    subst this
    generalize mf (hB b) (tB s) (8 - t) (fr k) = v
    rfl
  | succ n ih =>
    intro x f hx hf
    obtain ⟨f', rfl⟩ : ∃ f', f = f' + 1 := ⟨f - 1, by omega⟩
    have next := ih (x + 1) f' (by omega) (by omega)
    rw [ownL_succ]
    have e0 : X6_leastBasket_l3 33 (f' + 1) (nI c) (nI r) (nI (dif 1023 k)) (nI (mf (hB b) (tB s) (8 - t) (fr k))) (nI x) M = X6_leastBasket_b3 33 (X6_leastBasket_l3 33 f') (nI c) (nI r) (nI (dif 1023 k)) (nI (mf (hB b) (tB s) (8 - t) (fr k))) (nI x) M := rfl
    have lf : dif (dif 1023 k) (2 ^ x) < 1024 := dif_lt (n := 10) (dif_lt (n := 10) (by decide))
    have em := most_mf hM (s := s) (f := dif (dif 1023 k) (2 ^ x)) (t := t + 1) (F := rmS (fr k) x) hr lf (by omega) e1 (fun j hj => by
      show (dif (dif 1023 k) (2 ^ x)).testBit j = _
      rw [dif_bit, free_bit hj, Nat.testBit_two_pow]
      unfold rmS
      by_cases z : j = x
      · subst z; simp
      · rw [decide_eq_false (fun q => z q.symm), show (j == x) = false by simpa using z])
    rw [show 8 - (t + 1) = 7 - t by omega] at em
    have m1 := mf_le (hB b) (tB s) (7 - t) (rmS (fr k) x)
    have m2 := mf_le (hB b) (tB s) (8 - t) (fr k)
    rw [e0]
    unfold X6_leastBasket_b3 X6_leastBasket_b42
    rw [if_neg (by rw [L10, le_lit (by decide) (by omega)]; omega), e_isIn, bs, bt_nI (by omega) (by omega), ec x (by omega)]
    simp only [bz_eq0]
    rw [L1, shl_nI (by omega), andn_nI, em, bs, next]
    simp only []
    rw [L1]
    unfold ownC
    rw [hS, Bool.true_and]
    cases q : (hB b t x && fr k x)
    · rw [if_pos rfl, Bool.false_and, if_neg (by decide)]
    · rw [if_neg (by decide), Bool.true_and]
      by_cases z : mf (hB b) (tB s) (7 - t) (rmS (fr k) x) + 1 = mf (hB b) (tB s) (8 - t) (fr k)
      · rw [if_pos (by rw [z]), if_pos (decide_eq_true z)]
      · rw [if_neg (by rw [nI_eqN (by omega) (by omega)]; exact z), if_neg (by rw [decide_eq_false z]; decide)]
