/-! right; how many cabins have another basket -/
def wrg (b : Bt) (j : Nat) : Bool := !(decide (bS b j = nI j))
def wrN (b : Bt) : Nat := fb_ct (wrg b) 10
theorem le_lit {N j : Nat} (hN : N < 2 ^ 31) (hj : j < 2 ^ 31) : (nI N ≤ nI j) = (N ≤ j) := propext (nI_leI hN hj)
theorem lt_lit {N j : Nat} (hN : N < 2 ^ 31) (hj : j < 2 ^ 31) : (nI N < nI j) = (N < j) := propext (nI_ltI hN hj)
theorem L10 : (10 : Int32) = nI 10 := rfl
theorem L1 (j : Nat) : nI j + (1 : Int32) = nI (j + 1) := nI_1 j
theorem e_strangers_l {M : Mem} {i : Nat} {b : Bt} (h : AtB M i b) : ∀ k j n, j + k = 10 → k < n → X0_strangers_l4 i n (nI (fb_ct (wrg b) j)) (nI j) M = some (nI (wrN b), M) := by
  intro k
  induction k with
  | zero =>
    intro j n hj hn
    obtain ⟨m, rfl⟩ : ∃ m, n = m + 1 := ⟨n - 1, by omega⟩
    show X0_strangers_b4 i _ _ _ M = _
    unfold X0_strangers_b4
    rw [L10, if_pos (by rw [le_lit (by decide) (by omega)]; omega)]
    have : j = 10 := by omega
    subst this; rfl
  | succ k ih =>
    intro j n hj hn
    obtain ⟨m, rfl⟩ : ∃ m, n = m + 1 := ⟨n - 1, by omega⟩
    show X0_strangers_b4 i _ _ _ M = _
    unfold X0_strangers_b4 X0_strangers_b23
    rw [L10, if_neg (by rw [le_lit (by decide) (by omega)]; omega), ib_nI (by omega) (by decide), gt, ix_nI (by omega), h.1 j (by omega)]
    have hs := ih (j + 1) m (by omega) (by omega)
    rw [fb_ct_succ] at hs
    by_cases e : bS b j = nI j
    · rw [if_pos e, L1]
      simpa [wrg, e] using hs
    · rw [if_neg e, L1, L1]
      simpa [wrg, e] using hs
theorem e_strangers {M : Mem} {i : Nat} {b : Bt} (h : AtB M i b) : X0_strangers i M = some (nI (wrN b), M) := e_strangers_l h 10 0 FU (by omega) (by decide)
theorem m_wrongMany_l {M : Mem} {b : Bt} (h : AtB M 45 b) : ∀ k j n, j + k = 10 → k < n → X12_wrongMany_l4 45 n (nI (fb_ct (wrg b) j)) (nI j) M = some (nI (wrN b), M) := by
  intro k
  induction k with
  | zero =>
    intro j n hj hn
    obtain ⟨m, rfl⟩ : ∃ m, n = m + 1 := ⟨n - 1, by omega⟩
    show X12_wrongMany_b4 45 _ _ _ M = _
    unfold X12_wrongMany_b4
    rw [L10, if_pos (by rw [le_lit (by decide) (by omega)]; omega)]
    have : j = 10 := by omega
    subst this; rfl
  | succ k ih =>
    intro j n hj hn
    obtain ⟨m, rfl⟩ : ∃ m, n = m + 1 := ⟨n - 1, by omega⟩
    show X12_wrongMany_b4 45 _ _ _ M = _
    unfold X12_wrongMany_b4 X12_wrongMany_b26
    rw [L10, if_neg (by rw [le_lit (by decide) (by omega)]; omega), ib_nI (by omega) (by decide), gt, ix_nI (by omega), h.1 j (by omega)]
    have hs := ih (j + 1) m (by omega) (by omega)
    rw [fb_ct_succ] at hs
    by_cases e : bS b j = nI j
    · rw [if_pos e, L1]
      simpa [wrg, e] using hs
    · rw [if_neg e, L1, L1]
      simpa [wrg, e] using hs
theorem m_wrongMany {M : Mem} {b : Bt} (h : AtB M 45 b) : X12_wrongMany 45 M = some (nI (wrN b), M) := m_wrongMany_l h 10 0 FU (by omega) (by decide)
/-- a row filled with its own numbers -/
def own (f : Nat → Int32) (j : Nat) : Nat → Int32 := fun q => if q < j then nI q else f q
theorem own_succ (f : Nat → Int32) (j : Nat) : upd (own f j) j (nI j) = own f (j + 1) := by
  funext q
  unfold upd own
  by_cases h : q = j
  · subst h; simp
  · rw [if_neg h]
    by_cases h2 : q < j
    · rw [if_pos h2, if_pos (by omega)]
    · rw [if_neg h2, if_neg (by omega)]
theorem mR_twice (M : Mem) (a : Nat) (f g : Nat → Int32) : mR (mR M a f) a g = mR M a g := by
  unfold mR
  congr 1
  funext i
  by_cases h : i = a <;> simp [h]
theorem mI_own (M : Mem) (a j : Nat) (f : Nat → Int32) : mI (mR M a (own f j)) a j (nI j) = mR M a (own f (j + 1)) := by
  unfold mI
  rw [mR_at, own_succ, mR_twice]
theorem mR_self (M : Mem) (a : Nat) : mR M a (M.1 a) = M := by
  unfold mR
  have : (fun i => if i = a then M.1 a else M.1 i) = M.1 := by
    funext i
    by_cases h : i = a
    · rw [if_pos h, h]
    · rw [if_neg h]
  rw [this]
theorem own_0 (f : Nat → Int32) : own f 0 = f := by funext q; simp [own]
theorem e_putRight_l (i : Nat) (M : Mem) : ∀ k j n, j + k = 10 → k < n → X0_putRight_l2 i n (nI j) (mR M (rf i 0) (own (M.1 (rf i 0)) j)) = some ((), mR M (rf i 0) (own (M.1 (rf i 0)) 10)) := by
  intro k
  induction k with
  | zero =>
    intro j n hj hn
    obtain ⟨m, rfl⟩ : ∃ m, n = m + 1 := ⟨n - 1, by omega⟩
    show X0_putRight_b2 i _ _ _ = _
    unfold X0_putRight_b2
    rw [L10, if_pos (by rw [le_lit (by decide) (by omega)]; omega)]
    have : j = 10 := by omega
    subst this; rfl
  | succ k ih =>
    intro j n hj hn
    obtain ⟨m, rfl⟩ : ∃ m, n = m + 1 := ⟨n - 1, by omega⟩
    show X0_putRight_b2 i _ _ _ = _
    unfold X0_putRight_b2
    rw [L10, if_neg (by rw [le_lit (by decide) (by omega)]; omega), ib_nI (by omega) (by decide), gt, ix_nI (by omega), mI_own, L1]
    exact ih (j + 1) m (by omega) (by omega)
theorem e_putRight (i : Nat) (M : Mem) : X0_putRight i M = some ((), mR M (rf i 0) (own (M.1 (rf i 0)) 10)) := by
  have := e_putRight_l i M 10 0 FU (by omega) (by decide)
  rw [own_0, mR_self] at this
  exact this
theorem m_right_l (M : Mem) (r : Int32) : ∀ k j n, j + k = 10 → k < n → X12_right_l7 45 n r (nI j) (mR M 46 (own (M.1 46) j)) = some (r, mR M 46 (own (M.1 46) 10)) := by
  intro k
  induction k with
  | zero =>
    intro j n hj hn
    obtain ⟨m, rfl⟩ : ∃ m, n = m + 1 := ⟨n - 1, by omega⟩
    show X12_right_b7 45 _ _ _ _ = _
    unfold X12_right_b7
    rw [L10, if_pos (by rw [le_lit (by decide) (by omega)]; omega)]
    have : j = 10 := by omega
    subst this; rfl
  | succ k ih =>
    intro j n hj hn
    obtain ⟨m, rfl⟩ : ∃ m, n = m + 1 := ⟨n - 1, by omega⟩
    show X12_right_b7 45 _ _ _ _ = _
    unfold X12_right_b7
    rw [L10, if_neg (by rw [le_lit (by decide) (by omega)]; omega), ib_nI (by omega) (by decide), gt, ix_nI (by omega), rf_45_0, mI_own, L1]
    exact ih (j + 1) m (by omega) (by omega)
theorem AtB.owned {M : Mem} {i : Nat} {b : Bt} (bi : BI i) (h : AtB M i b) : AtB (mR M (rf i 0) (own (M.1 (rf i 0)) 10)) i (fun j => nI j, b.2) := by
  obtain ⟨h0, h1, h2, h3, h4, h5, h6, h7⟩ := h
  refine ⟨fun j hj => ?_, fun j hj => ?_, fun j hj => ?_, ?_, ?_, ?_, ?_, ?_⟩
  · rw [mR_at]; unfold own; rw [if_pos hj]; rfl
  · rw [mR_ne bi.2.2.2.1.symm]; exact h1 j hj
  · rw [mR_ne bi.2.2.2.2.1.symm]; exact h2 j hj
  all_goals rw [mR_ne bi.1]; assumption
theorem sim_right : Sim (X11_right 0) (X12_right 45) := by
  refine Sim_of (fun σ => nI (wrN σ.1)) (fun σ => ((fun j => nI j, σ.1.2), σ.2)) ?_ ?_ (fun M => fr_X11_right M Sm_refl) (by decide) (fun M => fr_X12_right M Sm_refl) (by decide) ?_
  · intro M σ ok rc
    unfold X11_right
    rw [rf_0_0, e_strangers rc.1, bs, e_putRight, bs]
    exact ⟨_, rfl, rc.bath (rc.1.owned BI_1) (fun c hc => mR_ne (by rw [rf_1_0]; omega))⟩
  · intro M σ ok rm
    unfold X12_right
    rw [m_wrongMany rm.1, bs]
    have h := m_right_l M (nI (wrN σ.1)) 10 0 FU (by omega) (by decide)
    rw [own_0, mR_self] at h
    refine ⟨_, h, rm.bath (rm.1.owned BI_45) (fun c hc => mR_ne (by omega)) ?_ ?_⟩
    · rw [mR_ne (by decide)]
    · rw [mR_ne (by decide)]
  · intro σ ok
    obtain ⟨⟨o1, o2, o3, o4, o5, o6, o7, o8⟩, orest⟩ := ok
    exact ⟨⟨fun j hj => ib_nI hj (by decide), o2, o3, o4, o5, o6, o7, o8⟩, orest⟩
/-! told -/
theorem i_div (x d : Int32) (hd : d.toInt = 10) : (x / d).toInt = x.toInt.tdiv 10 := by
  rw [Int32.toInt_div, hd]
  have := fb_rng x
  apply fb_bmod
  · have h1 : -2147483648 ≤ x.toInt.tdiv 10 := by
      rcases Int.le_total 0 x.toInt with h | h
      · have := Int.tdiv_nonneg h (by decide : (0:Int) ≤ 10); omega
      · have e := Int.neg_tdiv (a := x.toInt) (b := 10)
        rw [Int.tdiv_eq_ediv_of_nonneg (by omega)] at e
        omega
    exact h1
  · rcases Int.le_total 0 x.toInt with h | h
    · rw [Int.tdiv_eq_ediv_of_nonneg h]; omega
    · have e := Int.neg_tdiv (a := x.toInt) (b := 10)
      rw [Int.tdiv_eq_ediv_of_nonneg (by omega)] at e
      omega
theorem e_floorMod (x : Int32) (M : Mem) : ∃ q, J9_floorMod_7cf53 x 10 M = some (q, M) := by
  unfold J9_floorMod_7cf53 J9_floorMod_7cf53_b18
  rw [show (!((10 : Int32) == 0)) = true from by decide, gt]
  split
  · exact ⟨_, rfl⟩
  · split <;> exact ⟨_, rfl⟩
theorem xor_nn {x : Int32} (h : 0 ≤ x.toInt) : 0 ≤ x ^^^ 10 := by
  have hx : ¬ x < 0 := by rw [fa_lt]; show ¬ x.toInt < 0; omega
  obtain ⟨n, hn, rfl⟩ := nI_of hx
  show (0 : Int32) ≤ nI n ^^^ nI 10
  rw [fb_xorI]
  exact nI_pos' (Nat.xor_lt_two_pow (n := 31) hn (by decide))
theorem e_floorDiv_out (x : Int32) (M : Mem) (h : wi x 100 199 = false) : ∃ r, J9_floorDiv_7cf53 x 10 M = some (r, M) ∧ ib (r - 10) 10 = false := by
  have hr := fb_rng x
  have hd := i_div x 10 rfl
  have hw : ¬ (100 ≤ x.toInt ∧ x.toInt ≤ 199) := fun z => by
    have := (wi_iff (x := x) (a := 100) (b := 199)).mpr z
    rw [h] at this; cases this
  have t10 : (10 : Int32).toInt = 10 := rfl
  have t1 : (1 : Int32).toInt = 1 := rfl
  unfold J9_floorDiv_7cf53 J9_floorDiv_7cf53_b21
  rw [show (!((10 : Int32) == 0)) = true from by decide, gt]
  have fin : ∀ r : Int32, -214748366 ≤ r.toInt → r.toInt ≤ 214748366 → (r.toInt < 10 ∨ 20 ≤ r.toInt) → ib (r - 10) 10 = false := by
    intro r a1 a2 a3
    have e : (r - 10).toInt = r.toInt - 10 := by rw [fb_subI (by rw [t10]; omega) (by rw [t10]; omega), t10]
    unfold ib
    rw [e]
    rcases a3 with a3 | a3
    · rw [decide_eq_false (by omega)]; rfl
    · rw [decide_eq_false (p := _ < _) (by simp; omega)]; simp
  by_cases hx : 0 ≤ x.toInt
  · rw [if_pos (xor_nn hx)]
    rw [Int.tdiv_eq_ediv_of_nonneg hx] at hd
    exact ⟨_, rfl, fin _ (by omega) (by omega) (by omega)⟩
  · have e := Int.neg_tdiv (a := x.toInt) (b := 10)
    rw [Int.tdiv_eq_ediv_of_nonneg (by omega)] at e
    have a1 : (x / 10).toInt ≤ 0 ∧ -214748365 ≤ (x / 10).toInt := by rw [hd]; omega
    split
    · exact ⟨_, rfl, fin _ (by omega) (by omega) (by omega)⟩
    · split
      · exact ⟨_, rfl, fin _ (by omega) (by omega) (by omega)⟩
      · have e2 : (x / 10 - 1).toInt = (x / 10).toInt - 1 := by rw [fb_subI (by rw [t1]; omega) (by rw [t1]; omega), t1]
        exact ⟨_, rfl, fin _ (by omega) (by omega) (by omega)⟩
theorem wi_nat {x a b : Int32} (h : wi x a b = true) (ha : 0 ≤ a.toInt) : ∃ n : Nat, (a.toInt ≤ n ∧ (n : Int) ≤ b.toInt) ∧ x = nI n ∧ n < 2 ^ 31 := by
  have h1 := wi_iff.mp h
  have hx : ¬ x < 0 := by rw [fa_lt]; show ¬ x.toInt < 0; omega
  obtain ⟨n, hn, rfl⟩ := nI_of hx
  rw [nI_toInt hn] at h1
  exact ⟨n, h1, rfl, hn⟩
def q_told (x : Int32) (σ : Sg) : Int32 :=
  if wi x 100 199 = true then (if x.toInt.toNat % 10 = 0 then bT σ.1 ((x.toInt.toNat - 100) / 10) else if x.toInt.toNat % 10 = 1 then bM σ.1 ((x.toInt.toNat - 100) / 10) else -2)
  else if wi x 10 19 = true then bS σ.1 (x.toInt.toNat - 10)
  else if x = 0 then nI σ.2.2.1.2 else if x = 1 then bC σ.1 else if x = 2 then bH σ.1 else if x = 3 then bE σ.1 else if x = 4 then bN σ.1 else if x = 5 then bL σ.1 else if x = 6 then nI σ.2.1.2.2 else -2
theorem told_div : ∀ n, n < 200 → 100 ≤ n → (0 ≤ nI n ^^^ 10 ∧ nI n / 10 - 10 = nI ((n - 100) / 10) ∧ nI n - nI n / 10 * 10 = nI (n % 10) ∧ (nI n - 100) / 10 = nI ((n - 100) / 10)) := by decide +kernel
theorem c_told (x : Int32) (M : Mem) (σ : Sg) (rc : RC M σ) : ∃ M1, X11_told 0 x M = some (q_told x σ, M1) := by
  obtain ⟨⟨a0, a1, a2, a3, a4, a5, a6, a7⟩, hn, hp, -⟩ := rc
  unfold X11_told X11_told_b69 X11_told_b97
  simp only [e_isWithin, bs, bz_eq0, rf_0_0]
  cases c1 : wi x 0 6
  · simp only [if_true]
    cases c2 : wi x 10 19
    · simp only [if_true]
      cases c3 : wi x 100 199
      · obtain ⟨r, e1, e2⟩ := e_floorDiv_out x M c3
        obtain ⟨q, e3⟩ := e_floorMod x M
        simp only [e1, e3, bs, e_isCabin, e2, bz_f, if_true]
        refine ⟨M, ?_⟩
        unfold q_told
        rw [c3, c2]
        have n : ∀ v : Int32, (wi v 0 6 = true) → ¬ x = v := fun v hv z => by rw [z, hv] at c1; cases c1
        rw [if_neg (by decide), if_neg (by decide), if_neg (n 0 (by decide)), if_neg (n 1 (by decide)), if_neg (n 2 (by decide)), if_neg (n 3 (by decide)), if_neg (n 4 (by decide)), if_neg (n 5 (by decide)), if_neg (n 6 (by decide))]
      · obtain ⟨n, ⟨h1, h2⟩, rfl, h3⟩ := wi_nat c3 (by decide)
        have g1 : 100 ≤ n := by have : (100 : Int32).toInt = 100 := rfl; omega
        have g2 : n < 200 := by have : (199 : Int32).toInt = 199 := rfl; omega
        obtain ⟨t1, t2, t3, -⟩ := told_div n g2 g1
        have hb : (n - 100) / 10 < 10 := by omega
        unfold J9_floorDiv_7cf53 J9_floorDiv_7cf53_b21 J9_floorMod_7cf53 J9_floorMod_7cf53_b18
        rw [show (!((10 : Int32) == 0)) = true from by decide]
        simp only [gt, if_pos t1, bs, t2, t3, e_isCabin, ib_nI hb (by decide), bz_t]
        rw [if_neg (by decide)]
        unfold q_told
        rw [if_pos c3, nI_toInt h3]
        simp only [Int.toNat_natCast, ix_nI (show (n - 100) / 10 < 2 ^ 31 by omega), rf_1_1, rf_1_2]
        have k1 : (nI (n % 10) ≤ (1 : Int32)) = (n % 10 ≤ 1) := le_lit (j := 1) (by omega) (by decide)
        have k0 : (nI (n % 10) = (0 : Int32)) = (n % 10 = 0) := propext (nI_eq (b := 0) (by omega) (by decide))
        simp only [k1, k0]
        by_cases d0 : n % 10 = 0
        · rw [if_pos (by omega), if_pos d0, if_pos d0]
          exact ⟨M, by rw [← a1 _ hb]; rfl⟩
        · rw [if_neg d0]
          by_cases d1 : n % 10 = 1
          · rw [if_pos (by omega), if_neg d0, if_pos d1]
            exact ⟨M, by rw [← a2 _ hb]; rfl⟩
          · simp only [d0, d1, show ¬ n % 10 ≤ 1 by omega, if_false]
            exact ⟨M, rfl⟩
    · obtain ⟨n, ⟨h1, h2⟩, rfl, h3⟩ := wi_nat c2 (by decide)
      have g1 : 10 ≤ n := by have : (10 : Int32).toInt = 10 := rfl; omega
      have g2 : n < 20 := by have : (19 : Int32).toInt = 19 := rfl; omega
      have t1 : nI n - 10 = nI (n - 10) := pk_sub (b := 10) g1
      have c3 : wi (nI n) 100 199 = false := (by decide +kernel : ∀ n, n < 20 → wi (nI n) 100 199 = false) n g2
      rw [if_neg (by decide)]
      simp only [t1, ib_nI (show n - 10 < 10 by omega) (by decide), gt, ix_nI (show n - 10 < 2 ^ 31 by omega)]
      unfold q_told
      rw [if_neg (by rw [c3]; decide), if_pos c2, nI_toInt h3, a0 _ (by omega)]
      exact ⟨M, rfl⟩
  · obtain ⟨n, ⟨h1, h2⟩, rfl, h3⟩ := wi_nat c1 (by decide)
    have g2 : n < 7 := by have : (6 : Int32).toInt = 6 := rfl; omega
    rw [if_neg (by decide)]
    unfold q_told X11_toldPlainly
    have w1 : wi (nI n) 100 199 = false := (by decide +kernel : ∀ n, n < 7 → wi (nI n) 100 199 = false) n g2
    have w2 : wi (nI n) 10 19 = false := (by decide +kernel : ∀ n, n < 7 → wi (nI n) 10 19 = false) n g2
    simp only [w1, w2, Bool.false_eq_true, if_false, rf_0_2, rf_0_0, rf_0_1, hp.2, a3, a4, a5, a6, a7, hn.2.2]
    refine ⟨M, ?_⟩
    have : n = 0 ∨ n = 1 ∨ n = 2 ∨ n = 3 ∨ n = 4 ∨ n = 5 ∨ n = 6 := by omega
    rcases this with rfl | rfl | rfl | rfl | rfl | rfl | rfl <;> rfl
theorem m_told (x : Int32) (M : Mem) (σ : Sg) (rm : RM M σ) : ∃ M1, X12_told 45 x M = some (q_told x σ, M1) := by
  obtain ⟨⟨a0, a1, a2, a3, a4, a5, a6, a7⟩, hn, hp, -⟩ := rm
  unfold X12_told X12_told_b57 q_told
  simp only [e_in_100_199, e_in_10_19, bs, bz_eq0, iw]
  cases c3 : wi x 100 199
  · simp only [if_true]
    cases c2 : wi x 10 19
    · simp only [if_true, Bool.false_eq_true, if_false, hp.2, a3, a4, a5, a6, a7, hn.2.2]
      refine ⟨M, ?_⟩
      by_cases e0 : x = 0
      · simp [e0]
      by_cases e1 : x = 1
      · simp [e1]
      by_cases e2 : x = 2
      · simp [e2]
      by_cases e3 : x = 3
      · simp [e3]
      by_cases e4 : x = 4
      · simp [e4]
      by_cases e5 : x = 5
      · simp [e5]
      by_cases e6 : x = 6
      · simp [e6]
      simp [e0, e1, e2, e3, e4, e5, e6]
    · obtain ⟨n, ⟨h1, h2⟩, rfl, h3⟩ := wi_nat c2 (by decide)
      have g1 : 10 ≤ n := by have : (10 : Int32).toInt = 10 := rfl; omega
      have g2 : n < 20 := by have : (19 : Int32).toInt = 19 := rfl; omega
      have t1 : nI n - 10 = nI (n - 10) := pk_sub (b := 10) g1
      simp only [Bool.false_eq_true, Bool.true_eq_false, if_false, if_true, t1, ib_nI (show n - 10 < 10 by omega) (by decide), gt, ix_nI (show n - 10 < 2 ^ 31 by omega)]
      rw [nI_toInt h3, a0 _ (by omega)]
      exact ⟨M, rfl⟩
  · obtain ⟨n, ⟨h1, h2⟩, rfl, h3⟩ := wi_nat c3 (by decide)
    have g1 : 100 ≤ n := by have : (100 : Int32).toInt = 100 := rfl; omega
    have g2 : n < 200 := by have : (199 : Int32).toInt = 199 := rfl; omega
    obtain ⟨t1, t2, t3, t4⟩ := told_div n g2 g1
    have hb : (n - 100) / 10 < 10 := by omega
    simp only [Bool.true_eq_false, if_false, if_true, nI_toInt h3]
    rw [show (!((10 : Int32) == 0)) = true from by decide]
    have k0 : (nI (n % 10) = (0 : Int32)) = (n % 10 = 0) := propext (nI_eq (b := 0) (by omega) (by decide))
    have k1 : (nI (n % 10) = (1 : Int32)) = (n % 10 = 1) := propext (nI_eq (b := 1) (by omega) (by decide))
    simp only [gt, t3, t4, k0, k1, ib_nI hb (by decide), ix_nI (show (n - 100) / 10 < 2 ^ 31 by omega), Int.toNat_natCast]
    by_cases d0 : n % 10 = 0
    · rw [if_pos d0, if_pos d0]
      exact ⟨M, by rw [← a1 _ hb]⟩
    · rw [if_neg d0, if_neg d0]
      by_cases d1 : n % 10 = 1
      · rw [if_pos d1, if_pos d1]
        exact ⟨M, by rw [← a2 _ hb]⟩
      · rw [if_neg d1, if_neg d1]
        exact ⟨M, rfl⟩
theorem sim_told (x : Int32) : Sim (X11_told 0 x) (X12_told 45 x) :=
  Sim_ask (q_told x) (fun M σ _ rc => c_told x M σ rc) (fun M σ _ rm => m_told x M σ rm) (fun M => fr_X11_told _ M Sm_refl) (by decide) (fun M => fr_X12_told _ M Sm_refl) (by decide)
