/-! image, restore -/
theorem e_takeOverN {M : Mem} {i j : Nat} {n : Nt} (hn : AtN M (rf j 0) (rf j 1) j 2 n) (h8 : n.2.2 ≤ 8) (hi : i ≠ rf i 0 ∧ i ≠ rf i 1 ∧ rf i 0 ≠ rf i 1) (h1 : rf j 1 ≠ rf i 0) (hj : j ≠ rf i 0 ∧ j ≠ rf i 1) : ∃ M', X7_takeOver i j M = some ((), M') ∧ AtN M' (rf i 0) (rf i 1) i 2 n := by
  obtain ⟨a0, a1, a2⟩ := hn
  unfold X7_takeOver
  simp only [mw]
  refine ⟨_, rfl, fun e he => ?_, fun e he => ?_, ?_⟩
  · rw [mI1_ne hi.1.symm, mR_ne hi.2.2, mR_at, cpy_lt (by omega)]; exact a0 e he
  · rw [mI1_ne hi.2.1.symm, mR_at, cpy_lt (by omega), mR_ne h1]; exact a1 e he
  · rw [mI1, if_pos rfl, mR_ne hj.2, mR_ne hj.1]; exact a2
def q_image (x : Int32) (σ : Sg) : Int32 × Sg := if wi x 0 1 = true then (1, if x = 0 then (σ.1, σ.2.1, σ.2.2.1, (true, σ.1, σ.2.1), σ.2.2.2.2) else (σ.1, σ.2.1, σ.2.2.1, σ.2.2.2.1, (true, σ.1, σ.2.1))) else (-2, σ)
def q_restore (x : Int32) (σ : Sg) : Int32 × Sg := if wi x 0 1 = true then (if x = 0 then (if σ.2.2.2.1.1 = true then (1, (σ.2.2.2.1.2.1, σ.2.2.2.1.2.2, σ.2.2)) else (-3, σ)) else (if σ.2.2.2.2.1 = true then (1, (σ.2.2.2.2.2.1, σ.2.2.2.2.2.2, σ.2.2)) else (-3, σ))) else (-2, σ)
theorem c_image {M : Mem} {σ : Sg} (ok : OK σ) (rc : RC M σ) (x : Int32) : ∃ M', X11_image 0 x M = some ((q_image x σ).1, M') ∧ RC M' (q_image x σ).2 ∧ (∀ c, 45 ≤ c → M'.1 c = M.1 c) := by
  unfold X11_image X11_imageOf X11_imageOf_b15 q_image
  simp only [e_isWithin, bs, bz_eq0]
  cases c1 : wi x 0 1
  · exact ⟨M, rfl, rc, fun _ _ => rfl⟩
  simp only [Bool.true_eq_false, if_false, if_true, rf_0_3, rf_0_4, rf_0_0, rf_0_1]
  rcases wi_01 c1 with rfl | rfl
  · rw [if_pos rfl, if_pos rfl, bs]
    simp only [show decide (KD[10]? = some (Sum.inl 4)) = true by decide, gt, rf_10_0, rf_10_1]
    obtain ⟨M1, e1, e2⟩ := e_takeOver (i := 11) (j := 1) BI_11 rc.1 (by decide) (by decide) (by decide) (by decide)
    have f1 := fr_X0_takeOver (i0 := 11) (i1 := 1) M Sm_refl _ _ e1
    have hn : AtN M1 (rf 5 0) (rf 5 1) 5 2 σ.2.1 := rc.2.1.fr (f1 6 (by decide)).1 (f1 7 (by decide)).1 (by rw [(f1 5 (by decide)).1])
    obtain ⟨M2, g1, g2⟩ := e_takeOverN (i := 15) (j := 5) hn ok.2.1.1 (by decide) (by decide) (by decide)
    have f2 := fr_X7_takeOver (i0 := 15) (i1 := 5) M1 Sm_refl _ _ g1
    rw [e1, bs]
    simp only []
    rw [g1, bs]
    have W : ∀ c, c ≠ 10 → c ≠ 11 → c ≠ 12 → c ≠ 13 → c ≠ 14 → c ≠ 15 → c ≠ 16 → c ≠ 17 → (mI M2 10 2 1).1 c = M.1 c := by
      intro c h10 h11 h12 h13 h14 h15 h16 h17
      rw [mI1_ne h10, (f2 c (by simp [rf_15_0, rf_15_1, h15, h16, h17])).1, (f1 c (by simp [rf_11_0, rf_11_1, rf_11_2, h11, h12, h13, h14])).1]
    refine ⟨_, rfl, ?_, fun c hc => W c (by omega) (by omega) (by omega) (by omega) (by omega) (by omega) (by omega) (by omega)⟩
    obtain ⟨h1, h2, h3, h4, h5, h6⟩ := rc
    refine ⟨h1.fr (W _ (by decide) (by decide) (by decide) (by decide) (by decide) (by decide) (by decide) (by decide)) (W _ (by decide) (by decide) (by decide) (by decide) (by decide) (by decide) (by decide) (by decide)) (W _ (by decide) (by decide) (by decide) (by decide) (by decide) (by decide) (by decide) (by decide)) (W _ (by decide) (by decide) (by decide) (by decide) (by decide) (by decide) (by decide) (by decide)), h2.fr (W _ (by decide) (by decide) (by decide) (by decide) (by decide) (by decide) (by decide) (by decide)) (W _ (by decide) (by decide) (by decide) (by decide) (by decide) (by decide) (by decide) (by decide)) (by rw [W _ (by decide) (by decide) (by decide) (by decide) (by decide) (by decide) (by decide) (by decide)]), h3.fr (W _ (by decide) (by decide) (by decide) (by decide) (by decide) (by decide) (by decide) (by decide)) (by rw [W _ (by decide) (by decide) (by decide) (by decide) (by decide) (by decide) (by decide) (by decide)]), ⟨by simp [mI1]; rfl, fun _ => ⟨?_, ?_⟩⟩, h5.fr (W _ (by decide) (by decide) (by decide) (by decide) (by decide) (by decide) (by decide) (by decide)) (W _ (by decide) (by decide) (by decide) (by decide) (by decide) (by decide) (by decide) (by decide)) (W _ (by decide) (by decide) (by decide) (by decide) (by decide) (by decide) (by decide) (by decide)) (W _ (by decide) (by decide) (by decide) (by decide) (by decide) (by decide) (by decide) (by decide)) (W _ (by decide) (by decide) (by decide) (by decide) (by decide) (by decide) (by decide) (by decide)) (W _ (by decide) (by decide) (by decide) (by decide) (by decide) (by decide) (by decide) (by decide)) (W _ (by decide) (by decide) (by decide) (by decide) (by decide) (by decide) (by decide) (by decide)) (W _ (by decide) (by decide) (by decide) (by decide) (by decide) (by decide) (by decide) (by decide)), fun a ha => by rw [W _ (by decide) (by decide) (by decide) (by decide) (by decide) (by decide) (by decide) (by decide)]; exact h6 a ha⟩
    · exact e2.fr (by rw [mI1_ne (by decide), (f2 _ (by decide)).1]) (by rw [mI1_ne (by decide), (f2 _ (by decide)).1]) (by rw [mI1_ne (by decide), (f2 _ (by decide)).1]) (by rw [mI1_ne (by decide), (f2 _ (by decide)).1])
    · exact g2.fr (mI1_ne (by decide)) (mI1_ne (by decide)) (by rw [mI1_ne (by decide)])
  · rw [if_neg (show ¬ (1 : Int32) = 0 by decide), if_neg (show ¬ (1 : Int32) = 0 by decide), bs]
    simp only [show decide (KD[18]? = some (Sum.inl 4)) = true by decide, gt, rf_18_0, rf_18_1]
    obtain ⟨M1, e1, e2⟩ := e_takeOver (i := 19) (j := 1) BI_19 rc.1 (by decide) (by decide) (by decide) (by decide)
    have f1 := fr_X0_takeOver (i0 := 19) (i1 := 1) M Sm_refl _ _ e1
    have hn : AtN M1 (rf 5 0) (rf 5 1) 5 2 σ.2.1 := rc.2.1.fr (f1 6 (by decide)).1 (f1 7 (by decide)).1 (by rw [(f1 5 (by decide)).1])
    obtain ⟨M2, g1, g2⟩ := e_takeOverN (i := 23) (j := 5) hn ok.2.1.1 (by decide) (by decide) (by decide)
    have f2 := fr_X7_takeOver (i0 := 23) (i1 := 5) M1 Sm_refl _ _ g1
    rw [e1, bs]
    simp only []
    rw [g1, bs]
    have W : ∀ c, ((c < 18 ∨ 25 < c)) → (mI M2 18 2 1).1 c = M.1 c := by
      intro c hc
      rw [mI1_ne (by omega), (f2 c (by simp [rf_23_0, rf_23_1]; omega)).1, (f1 c (by simp [rf_19_0, rf_19_1, rf_19_2]; omega)).1]
    refine ⟨_, rfl, ?_, fun c hc => W c (by omega)⟩
    obtain ⟨h1, h2, h3, h4, h5, h6⟩ := rc
    refine ⟨h1.fr (W _ (by decide)) (W _ (by decide)) (W _ (by decide)) (W _ (by decide)), h2.fr (W _ (by decide)) (W _ (by decide)) (by rw [W _ (by decide)]), h3.fr (W _ (by decide)) (by rw [W _ (by decide)]), h4.fr (W _ (by decide)) (W _ (by decide)) (W _ (by decide)) (W _ (by decide)) (W _ (by decide)) (W _ (by decide)) (W _ (by decide)) (W _ (by decide)), ⟨by simp [mI1]; rfl, fun _ => ⟨?_, ?_⟩⟩, fun a ha => by rw [W _ (by decide)]; exact h6 a ha⟩
    · exact e2.fr (by rw [mI1_ne (by decide), (f2 _ (by decide)).1]) (by rw [mI1_ne (by decide), (f2 _ (by decide)).1]) (by rw [mI1_ne (by decide), (f2 _ (by decide)).1]) (by rw [mI1_ne (by decide), (f2 _ (by decide)).1])
    · exact g2.fr (mI1_ne (by decide)) (mI1_ne (by decide)) (by rw [mI1_ne (by decide)])
theorem RC.bn {M M' : Mem} {σ : Sg} {b : Bt} {n : Nt} (h : RC M σ) (hb : AtB M' 1 b) (hn : AtN M' 6 7 5 2 n) (e : ∀ c, (8 ≤ c ∧ c < 26 ∨ c = 42) → M'.1 c = M.1 c) : RC M' (b, n, σ.2.2) := by
  obtain ⟨h1, h2, h3, h4, h5, h6⟩ := h
  exact ⟨hb, hn, h3.fr (e _ (by decide)) (by rw [e _ (by decide)]), h4.fr (e _ (by decide)) (e _ (by decide)) (e _ (by decide)) (e _ (by decide)) (e _ (by decide)) (e _ (by decide)) (e _ (by decide)) (e _ (by decide)), h5.fr (e _ (by decide)) (e _ (by decide)) (e _ (by decide)) (e _ (by decide)) (e _ (by decide)) (e _ (by decide)) (e _ (by decide)) (e _ (by decide)), fun a ha => by rw [e _ (by decide)]; exact h6 a ha⟩
theorem c_restore {M : Mem} {σ : Sg} (ok : OK σ) (rc : RC M σ) (x : Int32) : ∃ M', X11_restore 0 x M = some ((q_restore x σ).1, M') ∧ RC M' (q_restore x σ).2 ∧ (∀ c, 45 ≤ c → M'.1 c = M.1 c) := by
  unfold X11_restore X11_imageOf X11_imageOf_b15 q_restore
  simp only [e_isWithin, bs, bz_eq0]
  cases c1 : wi x 0 1
  · exact ⟨M, rfl, rc, fun _ _ => rfl⟩
  simp only [Bool.true_eq_false, if_false, if_true, rf_0_3, rf_0_4, rf_0_0, rf_0_1]
  rcases wi_01 c1 with rfl | rfl
  · rw [if_pos rfl, if_pos rfl, bs]
    simp only [show decide (KD[10]? = some (Sum.inl 4)) = true by decide, gt, rf_10_0, rf_10_1]
    rw [rc.2.2.2.1.1]
    simp only [bz_eq0]
    cases hk : σ.2.2.2.1.1
    · exact ⟨M, rfl, rc, fun _ _ => rfl⟩
    · obtain ⟨hb, hn⟩ := rc.2.2.2.1.2 hk
      simp only [Bool.true_eq_false, if_false, if_true]
      obtain ⟨M1, e1, e2⟩ := e_takeOver (i := 1) (j := 11) BI_1 hb (by decide) (by decide) (by decide) (by decide)
      have f1 := fr_X0_takeOver (i0 := 1) (i1 := 11) M Sm_refl _ _ e1
      have hn1 : AtN M1 (rf 15 0) (rf 15 1) 15 2 σ.2.2.2.1.2.2 := hn.fr (f1 _ (by decide)).1 (f1 _ (by decide)).1 (by rw [(f1 15 (by decide)).1])
      obtain ⟨M2, g1, g2⟩ := e_takeOverN (i := 5) (j := 15) hn1 ((ok.2.2.2.1 hk).2.1) (by decide) (by decide) (by decide)
      have f2 := fr_X7_takeOver (i0 := 5) (i1 := 15) M1 Sm_refl _ _ g1
      rw [e1, bs]
      simp only []
      rw [g1, bs]
      have W : ∀ c, 8 ≤ c → M2.1 c = M.1 c := by
        intro c hc
        rw [(f2 c (by simp [rf_5_0, rf_5_1]; omega)).1, (f1 c (by simp [rf_1_0, rf_1_1, rf_1_2]; omega)).1]
      refine ⟨M2, rfl, rc.bn ?_ g2 (fun c hc => W c (by omega)), fun c hc => W c (by omega)⟩
      exact e2.fr (f2 _ (by decide)).1 (f2 _ (by decide)).1 (f2 _ (by decide)).1 (f2 _ (by decide)).1
  · rw [if_neg (show ¬ (1 : Int32) = 0 by decide), if_neg (show ¬ (1 : Int32) = 0 by decide), bs]
    simp only [show decide (KD[18]? = some (Sum.inl 4)) = true by decide, gt, rf_18_0, rf_18_1]
    rw [rc.2.2.2.2.1.1]
    simp only [bz_eq0]
    cases hk : σ.2.2.2.2.1
    · exact ⟨M, rfl, rc, fun _ _ => rfl⟩
    · obtain ⟨hb, hn⟩ := rc.2.2.2.2.1.2 hk
      simp only [Bool.true_eq_false, if_false, if_true]
      obtain ⟨M1, e1, e2⟩ := e_takeOver (i := 1) (j := 19) BI_1 hb (by decide) (by decide) (by decide) (by decide)
      have f1 := fr_X0_takeOver (i0 := 1) (i1 := 19) M Sm_refl _ _ e1
      have hn1 : AtN M1 (rf 23 0) (rf 23 1) 23 2 σ.2.2.2.2.2.2 := hn.fr (f1 _ (by decide)).1 (f1 _ (by decide)).1 (by rw [(f1 23 (by decide)).1])
      obtain ⟨M2, g1, g2⟩ := e_takeOverN (i := 5) (j := 23) hn1 ((ok.2.2.2.2 hk).2.1) (by decide) (by decide) (by decide)
      have f2 := fr_X7_takeOver (i0 := 5) (i1 := 23) M1 Sm_refl _ _ g1
      rw [e1, bs]
      simp only []
      rw [g1, bs]
      have W : ∀ c, 8 ≤ c → M2.1 c = M.1 c := by
        intro c hc
        rw [(f2 c (by simp [rf_5_0, rf_5_1]; omega)).1, (f1 c (by simp [rf_1_0, rf_1_1, rf_1_2]; omega)).1]
      refine ⟨M2, rfl, rc.bn ?_ g2 (fun c hc => W c (by omega)), fun c hc => W c (by omega)⟩
      exact e2.fr (f2 _ (by decide)).1 (f2 _ (by decide)).1 (f2 _ (by decide)).1 (f2 _ (by decide)).1
