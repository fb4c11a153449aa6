/-! what the class answers of evenings -/
def evE (σ : Sg) : ER := evR 0 (ev0 σ.1) (acl σ.2.2.1.1 σ.2.2.1.2 0 0)
def flE (σ : Sg) : Int32 := flr σ.2.2.1.1 σ.2.2.1.2 0 0
theorem okE_0 {b : Bt} (ok : okB b) : okE (ev0 b) := ⟨ok, Or.inl ⟨rfl, rfl⟩, rfl, rfl⟩
theorem e_playEvening {M : Mem} {σ : Sg} (ok : OK σ) (rc : RC M σ) (hf : flE σ = -6) : ∃ M' k', X11_playEvening 0 M = some (if (evE σ).2.2.2.2.1 = -6 then 0 else -3, M') ∧ EvC M' k' (evE σ) ∧ ((evE σ).2.2.2.2.1 = -6 → k' = (acl σ.2.2.1.1 σ.2.2.1.2 0 0).length) ∧ RC M' σ := by
  have hx : ∃ M' k', X11_playEvening 0 M = some (if (evE σ).2.2.2.2.1 = -6 then 0 else -3, M') ∧ EvC M' k' (evE σ) ∧ ((evE σ).2.2.2.2.1 = -6 → k' = (acl σ.2.2.1.1 σ.2.2.1.2 0 0).length) := by
    have h60 := ok.2.2.1.1
    unfold X11_playEvening X11_playEvening_b48 X2_play
    rw [rf_0_2, e_fault rc.2.2.1 ok.2.2.1, bs]
    simp only []
    rw [if_pos (show flr σ.2.2.1.1 σ.2.2.1.2 0 0 = -6 from hf), rf_0_5, rf_0_0, rf_26_0]
    obtain ⟨M1, e1, e2⟩ := e_takeOver (i := 27) (j := 1) BI_27 rc.1 (by decide) (by decide) (by decide) (by decide)
    have fr1 := fr_X0_takeOver (i0 := 27) (i1 := 1) M Sm_refl _ _ e1
    rw [e1, bs]
    simp only [mw]
    have hp1 : AtP M1 9 8 1 σ.2.2.1 := rc.2.2.1.fr (fr1 9 (by decide)).1 (by rw [(fr1 8 (by decide)).1])
    have hp2 : AtP (mI (mI (mI (mI (mI (mI M1 26 1 0) 26 2 (-6)) 26 3 (-6)) 26 4 0) 26 5 (-6)) 26 6 (-6)) 9 8 1 σ.2.2.1 := hp1.fr (by simp only [mI1_ne (show (9 : Nat) ≠ 26 by decide)]) (by simp only [mI1_ne (show (8 : Nat) ≠ 26 by decide)])
    have hev : EvC (mI (mI (mI (mI (mI (mI M1 26 1 0) 26 2 (-6)) 26 3 (-6)) 26 4 0) 26 5 (-6)) 26 6 (-6)) 0 (ev0 σ.1) :=
      ⟨e2.fr (by simp only [mI1_ne (show (27 : Nat) ≠ 26 by decide)]) (by simp only [mI1_ne (show rf 27 0 ≠ 26 by decide)]) (by simp only [mI1_ne (show rf 27 1 ≠ 26 by decide)]) (by simp only [mI1_ne (show rf 27 2 ≠ 26 by decide)]), by simp [mI1]; rfl, by simp [mI1]; rfl, by simp [mI1]; rfl, by simp [mI1]; rfl, by simp [mI1]; rfl, by simp [mI1]; rfl⟩
    obtain ⟨M2, k2, g1, g2, g3⟩ := e_play_l ok.2.2.1 σ.2.2.1.2 0 FU 0 (ev0 σ.1) _ (by omega) (by show σ.2.2.1.2 + 1 < 2000; omega) (Nat.le_refl _) hf hp2 hev (okE_0 ok.1)
    have g1' : X2_play_l44 26 1 8 FU 0 (mI (mI (mI (mI (mI (mI M1 26 1 0) 26 2 (-6)) 26 3 (-6)) 26 4 0) 26 5 (-6)) 26 6 (-6)) = some ((), M2) := g1
    rw [g1', bs]
    simp only []
    rw [g2.2.2.1]
    refine ⟨M2, k2, ?_, g2, fun z => by rw [g3 z]; omega⟩
    show (if (evE σ).2.2.2.2.1 = -6 then _ else _) = _
    split <;> rfl
  obtain ⟨M', k', e1, e2, e3⟩ := hx
  have fr := fr_X11_playEvening (i0 := 0) M Sm_refl _ _ e1
  refine ⟨M', k', e1, e2, e3, rc.fr (fun c hc => (fr c (fun z => ?_)).1)⟩
  have : ∀ c ∈ [(rf (rf (rf 0 5) 0) 0), (rf (rf (rf 0 5) 0) 1), (rf (rf (rf 0 5) 0) 2), (rf (rf 0 5) 0), (rf 0 5)], ¬ (c < 26 ∨ c = 42) := by decide
  exact this c z hc
theorem e_playEvening_no {M : Mem} {σ : Sg} (ok : OK σ) (rc : RC M σ) (hf : ¬ flE σ = -6) : X11_playEvening 0 M = some (-5, M) := by
  unfold X11_playEvening
  rw [rf_0_2, e_fault rc.2.2.1 ok.2.2.1, bs]
  simp only []
  rw [if_neg (show ¬ flr σ.2.2.1.1 σ.2.2.1.2 0 0 = -6 from hf)]
/-! the model: what is kept, and put back -/
def Sv (M : Mem) (b : Bt) : Prop := (∀ j, j < 10 → M.1 54 j = bS b j) ∧ (∀ j, j < 10 → M.1 54 (10 + j) = bT b j) ∧ M.1 54 20 = bC b ∧ M.1 54 21 = bH b ∧ M.1 54 22 = bE b ∧ M.1 54 23 = bN b
theorem m_keep_l {b : Bt} : ∀ k j n (M : Mem), j + k = 10 → k < n → AtB M 45 b → (∀ q, q < j → M.1 54 q = bS b q ∧ M.1 54 (10 + q) = bT b q) → ∃ M', X12_keepNow_l2 45 n (nI j) M = some ((), M') ∧ Sv M' b := by
  intro k
  induction k with
  | zero =>
    intro j n M hj hn hb hs
    obtain ⟨m, rfl⟩ : ∃ m, n = m + 1 := ⟨n - 1, by omega⟩
    have : j = 10 := by omega
    subst this
    obtain ⟨a0, a1, a2, a3, a4, a5, a6, a7⟩ := hb
    show ∃ M', X12_keepNow_b2 45 _ _ M = some ((), M') ∧ _
    unfold X12_keepNow_b2
    rw [L10, if_pos (by rw [le_lit (by decide) (by decide)]; omega)]
    simp only [mw, rf_45_17, show ib (20 : Int32) 24 = true by decide, show ib (21 : Int32) 24 = true by decide, show ib (22 : Int32) 24 = true by decide, show ib (23 : Int32) 24 = true by decide, gt, show (20 : Int32).toNatClampNeg = 20 by decide, show (21 : Int32).toNatClampNeg = 21 by decide, show (22 : Int32).toNatClampNeg = 22 by decide, show (23 : Int32).toNatClampNeg = 23 by decide, mI1_ne (show (45 : Nat) ≠ 54 by decide), a3, a4, a5, a6]
    refine ⟨_, rfl, ?_, ?_, ?_, ?_, ?_, ?_⟩
    · intro q hq
      simp only [mI1, show ¬ q = 23 by omega, show ¬ q = 22 by omega, show ¬ q = 21 by omega, show ¬ q = 20 by omega, if_false]
      exact (hs q hq).1
    · intro q hq
      simp only [mI1, show ¬ 10 + q = 23 by omega, show ¬ 10 + q = 22 by omega, show ¬ 10 + q = 21 by omega, show ¬ 10 + q = 20 by omega, if_false]
      exact (hs q hq).2
    all_goals simp [mI1]
  | succ k ih =>
    intro j n M hj hn hb hs
    obtain ⟨m, rfl⟩ : ∃ m, n = m + 1 := ⟨n - 1, by omega⟩
    show ∃ M', X12_keepNow_b2 45 _ _ M = some ((), M') ∧ _
    unfold X12_keepNow_b2
    have t10 : (10 : Int32) + nI j = nI (10 + j) := nI_add 10 j
    rw [t10, L10, if_neg (by rw [le_lit (by decide) (by omega)]; omega)]
    simp only [mw, rf_45_17, rf_45_0, rf_45_1, ib_nI (show j < 10 by omega) (by decide), ib_nI (show j < 24 by omega) (by decide), ib_nI (show 10 + j < 24 by omega) (by decide), gt, ix_nI (show j < 2 ^ 31 by omega), ix_nI (show 10 + j < 2 ^ 31 by omega), L1]
    have e1 : M.1 46 j = bS b j := hb.1 j (by omega)
    have e2 : (mI M 54 j (M.1 46 j)).1 47 j = bT b j := by rw [mI1_ne (by decide)]; exact hb.2.1 j (by omega)
    rw [e2, e1]
    refine ih (j + 1) m _ (by omega) (by omega) ?_ ?_
    · exact hb.fr (by rw [mI1_ne (by decide), mI1_ne (by decide)]) (by rw [mI1_ne (by decide), mI1_ne (by decide)]) (by rw [mI1_ne (by decide), mI1_ne (by decide)]) (by rw [mI1_ne (by decide), mI1_ne (by decide)])
    · intro q hq
      simp only [mI1]
      by_cases z : q = j
      · subst z
        simp only [show ¬ q = 10 + q by omega, if_false, if_true]
        exact ⟨trivial, trivial⟩
      · simp only [show ¬ q = 10 + j by omega, z, if_false, show ¬ 10 + q = 10 + j by omega, show ¬ 10 + q = j by omega]
        exact hs q (by omega)
theorem m_keepNow {M : Mem} {b : Bt} (hb : AtB M 45 b) : ∃ M', X12_keepNow 45 M = some ((), M') ∧ Sv M' b := m_keep_l 10 0 FU M (by omega) (by decide) hb (fun q hq => absurd hq (Nat.not_lt_zero q))
theorem m_back_l {b : Bt} (v : Int32) : ∀ k j n (M : Mem), j + k = 10 → k < n → Sv M b → (∀ q, q < 10 → M.1 48 q = bM b q) → M.1 45 7 = bL b → (∀ q, q < j → M.1 46 q = bS b q ∧ M.1 47 q = bT b q) → ∃ M', X12_back_l2 45 n v (nI j) M = some (v, M') ∧ AtB M' 45 b ∧ (∀ q, q ≠ 3 → q ≠ 4 → q ≠ 5 → q ≠ 6 → M'.1 45 q = M.1 45 q) := by
  intro k
  induction k with
  | zero =>
    intro j n M hj hn sv hm hl hs
    obtain ⟨m, rfl⟩ : ∃ m, n = m + 1 := ⟨n - 1, by omega⟩
    have : j = 10 := by omega
    subst this
    obtain ⟨s0, s1, s2, s3, s4, s5⟩ := sv
    show ∃ M', X12_back_b2 45 _ _ _ M = some (v, M') ∧ _
    unfold X12_back_b2
    rw [L10, if_pos (by rw [le_lit (by decide) (by decide)]; omega)]
    simp only [mw, rf_45_17, show ib (20 : Int32) 24 = true by decide, show ib (21 : Int32) 24 = true by decide, show ib (22 : Int32) 24 = true by decide, show ib (23 : Int32) 24 = true by decide, gt, show (20 : Int32).toNatClampNeg = 20 by decide, show (21 : Int32).toNatClampNeg = 21 by decide, show (22 : Int32).toNatClampNeg = 22 by decide, show (23 : Int32).toNatClampNeg = 23 by decide, mI1_ne (show (54 : Nat) ≠ 45 by decide), s2, s3, s4, s5]
    refine ⟨_, rfl, ⟨?_, ?_, ?_, ?_, ?_, ?_, ?_, ?_⟩, ?_⟩
    · intro q hq; simp only [mI1_ne (show rf 45 0 ≠ 45 by decide)]; exact (hs q hq).1
    · intro q hq; simp only [mI1_ne (show rf 45 1 ≠ 45 by decide)]; exact (hs q hq).2
    · intro q hq; simp only [mI1_ne (show rf 45 2 ≠ 45 by decide)]; exact hm q hq
    · simp [mI1]
    · simp [mI1]
    · simp [mI1]
    · simp [mI1]
    · simp [mI1]; exact hl
    · intro q q3 q4 q5 q6
      simp only [mI1, q3, q4, q5, q6, if_false]
  | succ k ih =>
    intro j n M hj hn sv hm hl hs
    obtain ⟨m, rfl⟩ : ∃ m, n = m + 1 := ⟨n - 1, by omega⟩
    have hrec : ∃ M', X12_back_l2 45 m v (nI (j + 1)) (mI (mI M 46 j (M.1 54 j)) 47 j (M.1 54 (10 + j))) = some (v, M') ∧ AtB M' 45 b ∧ (∀ q, q ≠ 3 → q ≠ 4 → q ≠ 5 → q ≠ 6 → M'.1 45 q = (mI (mI M 46 j (M.1 54 j)) 47 j (M.1 54 (10 + j))).1 45 q) := by
      refine ih (j + 1) m _ (by omega) (by omega) ?_ ?_ ?_ ?_
      · obtain ⟨s0, s1, s2, s3, s4, s5⟩ := sv
        have e : (mI (mI M 46 j (M.1 54 j)) 47 j (M.1 54 (10 + j))).1 54 = M.1 54 := by rw [mI1_ne (by decide), mI1_ne (by decide)]
        unfold Sv
        rw [e]
        exact ⟨s0, s1, s2, s3, s4, s5⟩
      · intro q hq; rw [mI1_ne (by decide), mI1_ne (by decide)]; exact hm q hq
      · rw [mI1_ne (by decide), mI1_ne (by decide)]; exact hl
      · intro q hq
        rw [mI1_ne (show (46 : Nat) ≠ 47 by decide), mI1, mI1, mI1_ne (show (47 : Nat) ≠ 46 by decide)]
        by_cases z : q = j
        · subst z
          rw [if_pos rfl, if_pos rfl]
          exact ⟨sv.1 q (by omega), sv.2.1 q (by omega)⟩
        · rw [if_neg z, if_neg z]; exact hs q (by omega)
    obtain ⟨M', e1, e2, e3⟩ := hrec
    refine ⟨M', ?_, e2, fun q q3 q4 q5 q6 => by rw [e3 q q3 q4 q5 q6, mI1_ne (by decide), mI1_ne (by decide)]⟩
    show X12_back_b2 45 _ _ _ M = some (v, M')
    unfold X12_back_b2
    have t10 : (10 : Int32) + nI j = nI (10 + j) := nI_add 10 j
    rw [t10, L10, if_neg (by rw [le_lit (by decide) (by omega)]; omega)]
    simp only [mw, rf_45_17, rf_45_0, rf_45_1, ib_nI (show j < 10 by omega) (by decide), ib_nI (show j < 24 by omega) (by decide), ib_nI (show 10 + j < 24 by omega) (by decide), gt, ix_nI (show j < 2 ^ 31 by omega), ix_nI (show 10 + j < 2 ^ 31 by omega), L1, mI1_ne (show (54 : Nat) ≠ 46 by decide)]
    exact e1
theorem m_back {M : Mem} {b : Bt} (v : Int32) (sv : Sv M b) (hm : ∀ q, q < 10 → M.1 48 q = bM b q) (hl : M.1 45 7 = bL b) : ∃ M', X12_back 45 v M = some (v, M') ∧ AtB M' 45 b ∧ (∀ q, q ≠ 3 → q ≠ 4 → q ≠ 5 → q ≠ 6 → M'.1 45 q = M.1 45 q) := m_back_l v 10 0 FU M (by omega) (by decide) sv hm hl (fun q hq => absurd hq (Nat.not_lt_zero q))
