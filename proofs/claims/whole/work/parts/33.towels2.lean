theorem neg_rem {r : Int32} (h : r.toInt < 0) : (r - r / 10 * 10).toInt ≤ 0 ∧ ((r - r / 10 * 10).toInt = 0 → (r / 10).toInt < 0) := by
  obtain ⟨m, hm⟩ : ∃ m : Nat, r.toInt = -(m : Int) := ⟨(-r.toInt).toNat, by omega⟩
  have rng := fb_rng r
  have hq : (r / 10).toInt = -((m / 10 : Nat) : Int) := by
    rw [Int32.toInt_div_of_ne_right r 10 (by decide), hm, show (10 : Int32).toInt = ((10 : Nat) : Int) from rfl, Int.neg_tdiv, ← Int.ofNat_tdiv]
  have h10 : (10 : Int32).toInt = 10 := rfl
  have hmul : (r / 10 * 10).toInt = -((m / 10 : Nat) : Int) * 10 := by
    rw [fb_mulI (by rw [hq, h10]; omega) (by rw [hq, h10]; omega), hq, h10]
  have hsub : (r - r / 10 * 10).toInt = -(m : Int) + ((m / 10 : Nat) : Int) * 10 := by
    rw [fb_subI (by rw [hmul, hm]; omega) (by rw [hmul, hm]; omega), hmul, hm]; omega
  rw [hsub, hq]
  omega
theorem wi_nonpos {v b : Int32} (hb : 0 ≤ b.toInt) (h : v.toInt ≤ 0) : wi v 0 b = decide (v = 0) := by
  by_cases z : v = 0
  · subst z
    rw [decide_eq_true rfl]
    exact wi_iff.mpr ⟨Int.le_refl _, hb⟩
  · rw [decide_eq_false z]
    cases q : wi v 0 b
    · rfl
    · have := (wi_iff.mp q).1
      have t : (0 : Int32).toInt = 0 := rfl
      exact absurd (Int32.toInt_inj.mp (show v.toInt = (0 : Int32).toInt by omega)) z
theorem hang_neg1 {r met x4 : Int32} (hr : r.toInt < 0) (h4 : ¬ x4 < 0) (hb : ib x4 6 = true) (f : Nat) (M : Mem) : (∃ M', X3_hang_l13 36 (f + 1) r met x4 M = some (0, M')) ∨ ((r / 10).toInt < 0 ∧ bt met 0 = false ∧ ∃ M', X3_hang_l13 36 (f + 1) r met x4 M = X3_hang_l13 36 f (r / 10) (met ||| (1 : Int32) <<< ((0 : Int32) &&& 31)) (x4 + (-1)) M') := by
  obtain ⟨r1, r2⟩ := neg_rem hr
  have h5 : (0 : Int) ≤ ((6 : Int32) - 1).toInt := by decide
  have ew := wi_nonpos h5 r1
  have e : X3_hang_l13 36 (f + 1) r met x4 M = X3_hang_b13 36 (X3_hang_l13 36 f) r met x4 M := rfl
  rw [e]
  generalize X3_hang_l13 36 f = k
  unfold X3_hang_b13 X3_hang_b49
  rw [if_neg h4, show (!((10 : Int32) == 0)) = true by decide, gt]
  simp only [iw, e_isWithin, bs, bz_eq0, gt]
  rw [ew]
  by_cases z : r - r / 10 * 10 = 0
  · rw [decide_eq_true z, z, if_neg (by decide), e_isIn, bs, hb, gt]
    simp only [bz_eq0]
    cases q : bt met 0
    · refine Or.inr ⟨r2 (by rw [z]; rfl), rfl, ?_⟩
      rw [if_pos rfl]
      exact ⟨_, rfl⟩
    · rw [if_neg (by decide)]
      exact Or.inl ⟨_, rfl⟩
  · rw [decide_eq_false z, if_pos rfl]
    exact Or.inl ⟨_, rfl⟩
theorem e_hang_neg {x : Int32} (hx : x.toInt < 0) (M : Mem) : ∃ M', X3_hang 36 x M = some (0, M') := by
  unfold X3_hang
  rw [show FU = 1998 + 1 + 1 from rfl]
  generalize 1998 = f
  rcases hang_neg1 (met := 0) (x4 := (6 : Int32) - 1) hx (by decide) (by decide) (f + 1) M with h | ⟨h1, -, M1, h2⟩
  · exact h
  · rw [h2]
    rcases hang_neg1 (met := (0 : Int32) ||| (1 : Int32) <<< ((0 : Int32) &&& 31)) (x4 := (6 : Int32) - 1 + (-1)) h1 (by decide) (by decide) f M1 with h | ⟨-, h3, -⟩
    · exact h
    · exact absurd h3 (by decide)
theorem e_hang {n : Nat} (hn : n < 2 ^ 31) (M : Mem) : ∃ M', X3_hang 36 (nI n) M = some (bz (rh 6 n 0), M') ∧ (rh 6 n 0 = true → ∀ j, j < 6 → M'.1 37 j = nI (pj n j)) := by
  have e : hg 6 n 0 = rh 6 n 0 := hg_rh 6 n 0 (fun j hj => by rw [Nat.zero_testBit] at hj; exact absurd hj (by decide)) (by decide)
  have := e_hang_l (n := n) 6 n 0 FU M (by omega) (by decide) hn (by decide) (by rw [Nat.sub_self, Nat.pow_zero, Nat.div_one]) (fun j h1 h2 => by omega)
  rw [e] at this
  exact this
