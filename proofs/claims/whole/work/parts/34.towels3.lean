def twA (n : Nat) (w : Int32) : Int32 := if w = 0 then nI (rgA (pj n) 6 0 (0, 0, 0, 1)).2.1 else nI (rgA (pj n) 6 0 (0, 0, 0, 1)).2.2.2
def q_towels (x w : Int32) : Int32 := if wi w 0 1 = true then (if (decide (0 ≤ x.toInt) && rh 6 x.toInt.toNat 0) = true then twA x.toInt.toNat w else -2) else -2
theorem okR_0 : okR (0, 0, 0, 1) := ⟨by decide, by decide, by decide, by decide⟩
theorem pj_lt {n : Nat} (h : rh 6 n 0 = true) : ∀ j, j < 6 → pj n j < 6 := fun j hj => (rh_p 6 n 0 h).2.2.2 (5 - j) (by omega)
theorem x_nat {x : Int32} (h : 0 ≤ x.toInt) : ∃ n : Nat, n < 2 ^ 31 ∧ x = nI n ∧ x.toInt = (n : Int) := by
  have hx : ¬ x < 0 := by rw [fa_lt]; show ¬ x.toInt < 0; omega
  obtain ⟨n, hn, rfl⟩ := nI_of hx
  exact ⟨n, hn, rfl, nI_toInt hn⟩
theorem m_tow0 {M : Mem} {P : Nat → Nat} (hP : ∀ j, j < 6 → P j < 6) (hM : ∀ j, j < 6 → M.1 56 j = nI (P j)) (w : Int32) : X12_towels_l44 45 FU w 0 0 1 0 M = some (if w = 0 then nI (rgA P 6 0 (0, 0, 0, 1)).2.1 else nI (rgA P 6 0 (0, 0, 0, 1)).2.2.2, M) := by
  have h := m_tow_l hP hM w 6 0 (0, 0, 0, 1) FU (by omega) (by decide) okR_0
  obtain ⟨p1, p2⟩ := rgA_p hP 6 0 (0, 0, 0, 1) (by omega) okR_0 (fun j hj => absurd hj (Nat.not_lt_zero j))
  have p3 : (rgA P 6 0 (0, 0, 0, 1)).2.1 + (rgA P 6 0 (0, 0, 0, 1)).2.2.1 = 6 := p1.2.1.trans p2
  generalize rgA P 6 0 (0, 0, 0, 1) = s at h p3 ⊢
  have p4 : (6 : Int32) - nI s.2.2.1 = nI s.2.1 := by
    rw [show (6 : Int32) = nI 6 from rfl, pk_sub (by omega)]
    congr 1; omega
  rw [p4] at h
  generalize FU = f at h ⊢
  exact h
theorem rh_lt6 {n : Nat} (h : rh 6 n 0 = true) : n < 1000000 := (rh_p 6 n 0 h).2.2.1
theorem m_hook0 {n : Nat} (hn : n < 2 ^ 31) (M : Mem) : ∃ M', X12_readHooks 45 (nI n) M = some (bz (rh 6 n 0), M') ∧ (∀ j, j < 6 → M'.1 56 j = nI (pj n j)) := by
  have h := m_hooks_l (n := n) 6 n 0 FU M (by omega) (by decide) hn (by decide) (by rw [Nat.sub_self, Nat.pow_zero, Nat.div_one]) (fun j h1 h2 => by omega)
  unfold X12_readHooks
  generalize FU = f at h ⊢
  exact h
theorem t_999999 : (999999 : Int32).toInt = 999999 := by decide
theorem mw_eq {α : Type} (M : Mem) (k : Mem → Option α) : mw M k = k M := rfl
theorem e_fol_n {P : Nat → Nat} (hP : ∀ j, j < 6 → P j < 6) (f : Nat) (hf : 6 < f) (M : Mem) (hM : ∀ j, j < 6 → M.1 37 j = nI (P j)) (h1 : M.1 36 1 = nI 0) (h2 : M.1 36 2 = nI 1) : ∃ M', X3_follow_l14 36 f (nI 0) (nI 0) M = some ((), M') ∧ M'.1 36 1 = nI (rgA P 6 0 (0, 0, 0, 1)).2.1 ∧ M'.1 36 2 = nI (rgA P 6 0 (0, 0, 0, 1)).2.2.2 :=
  e_follow_l hP 6 0 (0, 0, 0, 1) f M (by omega) hf okR_0 hM h1 h2
theorem e_fol {P : Nat → Nat} (hP : ∀ j, j < 6 → P j < 6) (M : Mem) (hM : ∀ j, j < 6 → M.1 37 j = nI (P j)) : ∃ M', X3_follow 36 M = some ((), M') ∧ M'.1 36 1 = nI (rgA P 6 0 (0, 0, 0, 1)).2.1 ∧ M'.1 36 2 = nI (rgA P 6 0 (0, 0, 0, 1)).2.2.2 := by
  have h1 : (mI (mI M 36 1 (nI 0)) 36 2 (nI 1)).1 36 1 = nI 0 := by rw [mI1, if_neg (by decide), mI1, if_pos rfl]
  have h2 : (mI (mI M 36 1 (nI 0)) 36 2 (nI 1)).1 36 2 = nI 1 := by rw [mI1, if_pos rfl]
  have h3 : ∀ j, j < 6 → (mI (mI M 36 1 (nI 0)) 36 2 (nI 1)).1 37 j = nI (P j) := fun j hj => by rw [mI1_ne (by decide), mI1_ne (by decide)]; exact hM j hj
  have e0 : X3_follow 36 M = X3_follow_l14 36 FU (nI 0) (nI 0) (mI (mI M 36 1 (nI 0)) 36 2 (nI 1)) := by
    rw [X3_follow, mw_eq, mw_eq]
    generalize X3_follow_l14 36 FU = k
    rfl
  rw [e0]
  exact e_fol_n hP FU (by decide) _ h3 h1 h2
theorem c_towels (x w : Int32) (M : Mem) : ∃ M1, X11_towels 0 x w M = some (q_towels x w, M1) := by
  unfold X11_towels X11_towels_b20 X11_towels_b51 q_towels
  simp only [e_isWithin, bs, bz_eq0, rf_0_8]
  cases c2 : wi w 0 1
  · refine ⟨M, ?_⟩
    simp only [Bool.false_eq_true, if_false, if_true]
  simp only [Bool.true_eq_false, if_false, if_true]
  by_cases hx : 0 ≤ x.toInt
  · obtain ⟨n, hn, rfl, en⟩ := x_nat hx
    rw [decide_eq_true hx, Bool.true_and, en, Int.toNat_natCast]
    obtain ⟨M1, e1, g1⟩ := e_hang hn M
    rw [e1, bs]
    simp only [bz_eq0]
    cases c : rh 6 n 0
    · refine ⟨M1, ?_⟩
      simp only [Bool.false_eq_true, if_false, if_true]
    · simp only [Bool.true_eq_false, if_false, if_true]
      obtain ⟨M2, e2, g2, g3⟩ := e_fol (pj_lt c) M1 (g1 c)
      rw [e2, bs]
      simp only []
      rw [g2, g3]
      unfold twA
      generalize rgA (pj n) 6 0 (0, 0, 0, 1) = s
      refine ⟨M2, ?_⟩
      by_cases z : w = 0
      · rw [if_pos z, if_pos z]
      · rw [if_neg z, if_neg z]
  · rw [decide_eq_false hx, Bool.false_and]
    obtain ⟨M1, e1⟩ := e_hang_neg (x := x) (by omega) M
    rw [e1, bs]
    refine ⟨M1, ?_⟩
    simp only [Bool.false_eq_true, if_false, if_true]
theorem m_towels (x w : Int32) (M : Mem) : ∃ M1, X12_towels 45 x w M = some (q_towels x w, M1) := by
  unfold X12_towels X12_towels_b30 q_towels
  simp only [e_in_0_999999, e_in_0_1, bs, bz_eq0]
  have t1 : (0 : Int32).toInt = 0 := rfl
  have t2 := t_999999
  cases c1 : wi x 0 999999
  · have : (decide (0 ≤ x.toInt) && rh 6 x.toInt.toNat 0) = false := by
      cases q : (decide (0 ≤ x.toInt) && rh 6 x.toInt.toNat 0)
      · rfl
      · simp only [Bool.and_eq_true, decide_eq_true_eq] at q
        have h6 := rh_lt6 q.2
        have : wi x 0 999999 = true := wi_iff.mpr ⟨by omega, by omega⟩
        rw [c1] at this; exact absurd this (by decide)
    rw [this]
    refine ⟨M, ?_⟩
    simp only [Bool.false_eq_true, if_false, if_true, ite_self]
  · simp only [Bool.true_eq_false, if_false]
    have hx : 0 ≤ x.toInt := by have := (wi_iff.mp c1).1; omega
    obtain ⟨n, hn, rfl, en⟩ := x_nat hx
    rw [decide_eq_true hx, Bool.true_and, en, Int.toNat_natCast]
    obtain ⟨M1, e1, g1⟩ := m_hook0 hn M
    rw [e1, bs]
    simp only [bz_eq0]
    cases c : rh 6 n 0
    · refine ⟨M1, ?_⟩
      simp only [Bool.false_eq_true, if_false, if_true, ite_self]
    · cases c2 : wi w 0 1
      · refine ⟨M1, ?_⟩
        simp only [Bool.false_eq_true, Bool.true_eq_false, if_false, if_true]
      simp only [Bool.true_eq_false, if_false, if_true]
      exact ⟨M1, m_tow0 (pj_lt c) g1 w⟩
theorem sim_towels (x w : Int32) : Sim (X11_towels 0 x w) (X12_towels 45 x w) :=
  Sim_ask (fun _ => q_towels x w) (fun M _ _ _ => c_towels x w M) (fun M _ _ _ => m_towels x w M) (fun M => fr_X11_towels _ _ M Sm_refl) (by decide) (fun M => fr_X12_towels _ _ M Sm_refl) (by decide)
