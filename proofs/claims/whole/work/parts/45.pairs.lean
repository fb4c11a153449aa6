/-! the class pairs thing by thing -/
theorem HmI.fr {H : Nat → Nat → Bool} {M M' : Mem} (h : HmI H M) (e : M'.1 34 = M.1 34) : HmI H M' := fun p hp => by
  rw [e]; exact h p hp
theorem e_pair_l {b : Bt} {s : Nat} (hs : s < 256) (sz : Int32) : ∀ r t f (M : Mem) rest, t + r = 8 → r < f → HmI (hB b) M → rest < 256 → (∀ j, j < 8 → tB rest j = fromS (tB s) t j) → (∀ j, j < t → M.1 35 j = ownL (hB b) (tB s) j (tkN (hB b) (tB s) j) 10 0) → M.1 33 2 = sz → ∃ M', X6_pair_l31 33 1 f (nI s) (nI (dif 1023 (tkN (hB b) (tB s) t))) (nI rest) (nI (mf (hB b) (tB s) (8 - t) (fr (tkN (hB b) (tB s) t)))) (nI t) M = some ((), M') ∧ (∀ j, j < 8 → M'.1 35 j = ownL (hB b) (tB s) j (tkN (hB b) (tB s) j) 10 0) ∧ M'.1 33 2 = sz := by
  intro r
  induction r with
  | zero =>
    intro t f M rest ht hf hM hr e1 hq hz
    obtain ⟨f', rfl⟩ : ∃ f', f = f' + 1 := ⟨f - 1, by omega⟩
    have : t = 8 := by omega
    subst this
    generalize dif 1023 (tkN (hB b) (tB s) 8) = u
    generalize mf (hB b) (tB s) (8 - 8) (fr (tkN (hB b) (tB s) 8)) = v
    exact ⟨M, rfl, hq, hz⟩
  | succ r ih =>
    intro t f M rest ht hf hM hr e1 hq hz
    obtain ⟨f', rfl⟩ : ∃ f', f = f' + 1 := ⟨f - 1, by omega⟩
    have ek := tkN_succ (hB b) (tB s) t
    have rg := ownL_rng (hB b) (tB s) t (tkN (hB b) (tB s) t) 10 0 (by omega)
    have lr : dif rest (2 ^ t) < 256 := dif_lt (n := 8) hr
    have er : ∀ j, j < 8 → tB (dif rest (2 ^ t)) j = fromS (tB s) (t + 1) j := fun j hj => by
      rw [← fromS_rm]
      show (dif rest (2 ^ t)).testBit j = _
      rw [dif_bit, Nat.testBit_two_pow]
      have := e1 j hj
      unfold rmS
      rw [← this]
      by_cases z : j = t
      · subst z; simp
      · rw [decide_eq_false (fun q => z q.symm), show (j == t) = false by simpa using z]; rfl
    have p2 := p2_8 (t := t) (by omega)
    have nxt := fun M1 (h1 : HmI (hB b) M1) h2 h3 => ih (t + 1) f' M1 (dif rest (2 ^ t)) (by omega) (by omega) h1 lr er h2 h3
    rw [show 8 - (t + 1) = 7 - t by omega] at nxt
    have body : ∃ M', X6_pair_b89 33 1 (X6_pair_l31 33 1 f') (nI s) (nI (dif 1023 (tkN (hB b) (tB s) t))) (nI (dif rest (2 ^ t))) (nI (mf (hB b) (tB s) (8 - t) (fr (tkN (hB b) (tB s) t)))) (nI t) (ownL (hB b) (tB s) t (tkN (hB b) (tB s) t) 10 0) (nI t) M = some ((), M') ∧ (∀ j, j < 8 → M'.1 35 j = ownL (hB b) (tB s) j (tkN (hB b) (tB s) j) 10 0) ∧ M'.1 33 2 = sz := by
      obtain ⟨M2, g1, g2⟩ := nxt (mI M 35 t (ownL (hB b) (tB s) t (tkN (hB b) (tB s) t) 10 0)) (hM.fr (mI1_ne (by decide))) (fun j hj => by
        rw [mI1]
        by_cases z : j = t
        · subst z; rw [if_pos rfl]
        · rw [if_neg z]; exact hq j (by omega)) (by rw [mI1_ne (by decide)]; exact hz)
      refine ⟨M2, ?_, g2⟩
      unfold X6_pair_b89 X6_pair_b119
      rw [ib_nI (by omega) (by decide), gt, gt, gt, rf_33_1, ix_nI (by omega), mI1, if_pos rfl, L1]
      simp only [iw]
      rcases rg with ⟨o1, o2⟩ | ⟨y, y1, y2, y3⟩
      · rw [o1, if_pos rfl] at ek
        rw [ek] at g1
        rw [mf_stay (by omega) (fun y hy => o2 y (by omega) hy)] at g1
        rw [if_pos o1]
        exact g1
      · rw [y2, if_neg (nI_not6 (by omega)), ix_nI (by omega)] at ek
        rw [ek, ← dif_or] at g1
        rw [if_neg (by rw [y2]; exact nI_not6 (by omega)), ← mf_take y3, pk_m1]
        rw [y2] at g1 ⊢
        rw [shl_nI (by omega), andn_nI]
        exact g1
    have e0 : ∀ u v, X6_pair_l31 33 1 (f' + 1) (nI s) u (nI rest) v (nI t) M = X6_pair_b31 33 1 (X6_pair_l31 33 1 f') (nI s) u (nI rest) v (nI t) M := fun _ _ => rfl
    rw [e0]
    unfold X6_pair_b31
    rw [if_neg (by rw [show (8 : Int32) = nI 8 from rfl, le_lit (by decide) (by omega)]; omega), shl_nI (by omega), andn_nI]
    simp only [iw]
    rw [e_isIn, bs, bt_nI (by omega) (by omega)]
    simp only [bz_eq0]
    cases c : s.testBit t
    · rw [ownL_no (show tB s t = false from c)] at body
      rw [if_pos rfl]
      exact body
    · rw [if_neg (by decide), ib_nI (by omega) (by decide), gt, rf_33_0, ix_nI (by omega)]
      obtain ⟨w, w1, w2, w3⟩ := hM (2 ^ t) (by omega)
      have key := e_least_l hM (s := s) (k := tkN (hB b) (tB s) t) (c := w &&& dif 1023 (tkN (hB b) (tB s) t)) lr (by omega) (Nat.lt_of_le_of_lt Nat.and_le_left w1) (show tB s t = true from c) er (fun x hx => by
        rw [Nat.testBit_and, w3 x hx, free_bit hx, hh_cong (P := tB (2 ^ t)) (Q := fun j => j == t) (fun j _ => by
          show (2 ^ t).testBit j = (j == t)
          rw [Nat.testBit_two_pow]
          by_cases z : j = t
          · subst z; simp
          · rw [decide_eq_false (fun q => z q.symm), show (j == t) = false by simpa using z]), hh_one (by omega)]) 10 0 FU (by omega) (by decide)
      have key' : X6_leastBasket 33 (nI (w &&& dif 1023 (tkN (hB b) (tB s) t))) (nI (dif rest (2 ^ t))) (nI (dif 1023 (tkN (hB b) (tB s) t))) (nI (mf (hB b) (tB s) (8 - t) (fr (tkN (hB b) (tB s) t)))) M = _ := key
      rw [w2, fa_and, key', bs]
      exact body
