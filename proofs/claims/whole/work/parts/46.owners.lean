def q_owners (x y : Int32) (σ : Sg) : Int32 := if y = -1 then (if ib x 256 = true then nI (mf (hB σ.1) (tB x.toNatClampNeg) 8 (fr 0)) else -2) else (if ib y 8 = true then (if ib x 256 = true then ownL (hB σ.1) (tB x.toNatClampNeg) y.toNatClampNeg (tkN (hB σ.1) (tB x.toNatClampNeg) y.toNatClampNeg) 10 0 else -2) else -1)
theorem e_pair {b : Bt} {M : Mem} (h : AtB M 1 b) {s : Nat} (hs : s < 256) : ∃ M', X6_pair 33 1 (nI s) M = some ((), M') ∧ (∀ j, j < 8 → M'.1 35 j = ownL (hB b) (tB s) j (tkN (hB b) (tB s) j) 10 0) ∧ M'.1 33 2 = nI (mf (hB b) (tB s) 8 (fr 0)) := by
  obtain ⟨M1, e1, -, g2⟩ := e_homes h
  have e0 : ∀ j, j < 8 → tB s j = fromS (tB s) 0 j := fun j _ => by unfold fromS; rw [decide_eq_true (Nat.zero_le j), Bool.and_true]
  have em := most_mf g2 (s := s) (r := s) (f := 1023) (t := 0) (F := fr 0) hs (by decide) (by decide) e0 (fun j hj => by
    have : ∀ j, j < 10 → (1023 : Nat).testBit j = true := by decide
    show (1023 : Nat).testBit j = fr 0 j
    rw [this j hj]; unfold fr; rw [Nat.zero_testBit]; rfl)
  have em' : X6_mostAtOnce 33 (nI s) 1023 M1 = some (nI (mf (hB b) (tB s) 8 (fr 0)), M1) := em
  have key := e_pair_l (b := b) hs (nI (mf (hB b) (tB s) 8 (fr 0))) 8 0 FU (mI M1 33 2 (nI (mf (hB b) (tB s) 8 (fr 0)))) s (by omega) (by decide) (g2.fr (mI1_ne (by decide))) hs e0 (fun j hj => absurd hj (Nat.not_lt_zero j)) (by rw [mI1, if_pos rfl])
  unfold X6_pair
  rw [e1, bs]
  simp only []
  rw [em', bs]
  simp only []
  rw [mI1, if_pos rfl]
  have ed : dif 1023 (tkN (hB b) (tB s) 0) = 1023 := by show dif 1023 0 = 1023; decide
  have et : tkN (hB b) (tB s) 0 = 0 := rfl
  rw [ed, et, show 8 - 0 = 8 from rfl] at key
  generalize FU = f at key ⊢
  exact key
theorem sim_owners (x y : Int32) : Sim (X11_owners 0 x y) (X12_owners 45 x y) := by
  refine Sim_ask (q_owners x y) ?_ ?_ (fun M => fr_X11_owners _ _ M Sm_refl) (by decide) (fun M => fr_X12_owners _ _ M Sm_refl) (by decide)
  · intro M σ ok rc
    unfold X11_owners X11_owners_b14 X11_owners_b60 q_owners
    simp only [e_isThing, e_isThingSet, bs, bz_eq0, rf_0_7, rf_0_0, rf_33_1]
    cases c1 : ib x 256
    · refine ⟨M, ?_⟩
      simp only [Bool.false_eq_true, if_false, if_true]
      by_cases z : y = -1
      · rw [if_pos z, if_pos z]
      · rw [if_neg z, if_neg z]
        cases c2 : ib y 8
        · rfl
        · rfl
    · obtain ⟨s, hs, rfl⟩ := ib_ex c1 (by decide)
      obtain ⟨M1, e1, g1, g2⟩ := e_pair rc.1 hs
      simp only [Bool.true_eq_false, if_false, if_true]
      rw [e1, bs, ix_nI (by omega)]
      simp only []
      rw [g2]
      by_cases z : y = -1
      · rw [if_pos z, if_pos z, if_pos z]; exact ⟨M1, rfl⟩
      · rw [if_neg z, if_neg z, if_neg z]
        cases c2 : ib y 8
        · exact ⟨M, rfl⟩
        · obtain ⟨t, ht, rfl⟩ := ib_ex c2 (by decide)
          rw [if_neg (by decide), if_pos rfl, gt, ix_nI (by omega), g1 t ht]
          exact ⟨M1, rfl⟩
  · intro M σ ok rm
    unfold X12_owners q_owners
    simp only [e_in_m1_7, e_in_0_255, bs, bz_eq0, wi_ib x 255 256 (by decide)]
    have t1 : (-1 : Int32).toInt = -1 := rfl
    have t7 : (7 : Int32).toInt = 7 := rfl
    cases c0 : wi y (-1) 7
    · refine ⟨M, ?_⟩
      have z : ¬ y = -1 := fun z => by subst z; exact absurd c0 (by decide)
      have c2 : ib y 8 = false := by
        cases q : ib y 8
        · rfl
        · have := ib_iff.mp q
          have : wi y (-1) 7 = true := wi_iff.mpr ⟨by omega, by omega⟩
          rw [c0] at this; exact absurd this (by decide)
      rw [if_pos rfl, if_neg z, c2, if_neg (by decide)]
    · rw [if_neg (by decide)]
      have w := wi_iff.mp c0
      have hy : y = -1 ∨ ib y 8 = true := by
        by_cases z : y.toInt = -1
        · exact Or.inl (Int32.toInt_inj.mp (by rw [z]; rfl))
        · exact Or.inr (ib_iff.mpr ⟨by omega, by omega⟩)
      cases c1 : ib x 256
      · refine ⟨M, ?_⟩
        simp only [Bool.false_eq_true, if_false, if_true]
        rcases hy with z | z
        · rw [if_pos z]
        · simp only [z, if_true, ite_self]
      · obtain ⟨s, hs, rfl⟩ := ib_ex c1 (by decide)
        rw [if_neg (by decide), ix_nI (by omega), if_pos rfl, if_pos rfl]
        obtain ⟨M1, e1, g1, g2⟩ := m_zero33 (b := σ.1) hs y 1024 0 FU M (by omega) (by decide) rm.1 (fun q hq => absurd hq (Nat.not_lt_zero q))
        have e1' : X12_owners_l33 45 FU (nI s) y 0 M = finO s y M1 := e1
        rw [e1']
        unfold finO
        rcases hy with z | z
        · subst z
          rw [if_neg (by decide), if_pos rfl]
          have := g2 0 (by omega) 0 (by decide)
          exact ⟨M1, by rw [show M1.1 55 0 = nI (mf (hB σ.1) (tB s) 8 (fr 0)) from this]⟩
        · obtain ⟨t, ht, rfl⟩ := ib_ex z (by decide)
          have nz : ¬ nI t = -1 := by
            intro q
            have := congrArg Int32.toInt q
            rw [nI_toInt (by omega), t1] at this
            omega
          rw [if_neg nz, z, if_pos rfl, ix_nI (by omega), if_pos (show (0 : Int32) ≤ nI t by rw [show (0 : Int32) = nI 0 from rfl, le_lit (by decide) (by omega)]; omega)]
          exact ⟨M1, m_owners124 g1 hs ht g2 t 0 FU (by omega) (by show t < 2000; omega)⟩
