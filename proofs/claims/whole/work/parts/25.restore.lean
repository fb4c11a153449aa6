theorem m_image {M : Mem} {σ : Sg} (ok : OK σ) (rm : RM M σ) (x : Int32) : ∃ M', X12_image 45 x M = some ((q_image x σ).1, M') ∧ RM M' (q_image x σ).2 := by
  unfold X12_image q_image
  simp only [e_in_0_1, bs, bz_eq0]
  cases c1 : wi x 0 1
  · exact ⟨M, rfl, rm⟩
  simp only [Bool.true_eq_false, if_false, if_true, mw]
  have nar : vp_nar .boolean 1 = 1 := by decide
  have key : ∀ k : Nat, (k = 0 ∨ k = 1) → ∃ M1, X12_passAll 45 (mI (mI M 45 29 (nI (60 * k))) 45 30 1) = some ((), M1) ∧ (∀ c, c ≠ 45 → c ≠ 60 → M1.1 c = M.1 c) ∧ (∀ j, j ≠ 29 → j ≠ 30 → M1.1 45 j = M.1 45 j) ∧ (∀ q, M1.1 60 q = if 60 * k ≤ q ∧ q < 60 * k + 52 then imV M (q - 60 * k) else M.1 60 q) := by
    intro k hk
    have i0 : IW (mI (mI M 45 29 (nI (60 * k))) 45 30 1) (60 * k) (60 * k) (mI (mI M 45 29 (nI (60 * k))) 45 30 1) := ⟨fun _ _ _ => rfl, fun _ _ => rfl, by simp [mI1], fun q => by rw [if_neg (by omega)]⟩
    obtain ⟨M1, e1, e2⟩ := m_passW i0 (by simp [mI1]) (by omega)
    refine ⟨M1, e1, fun c c45 c60 => ?_, fun j j29 j30 => ?_, fun q => ?_⟩
    · rw [e2.1 c c45 c60, mI1_ne c45, mI1_ne c45]
    · rw [e2.2.1 j j29, mI1, if_neg j30, mI1, if_neg j29]
    · rw [e2.2.2.2 q]
      split
      · unfold imV
        simp [mI1, mI1_ne (show (46 : Nat) ≠ 45 by decide), mI1_ne (show (47 : Nat) ≠ 45 by decide), mI1_ne (show (48 : Nat) ≠ 45 by decide), mI1_ne (show (49 : Nat) ≠ 45 by decide), mI1_ne (show (50 : Nat) ≠ 45 by decide)]
      · rw [mI1_ne (by decide), mI1_ne (by decide)]
  have rest : ∀ (M1 : Mem) (k : Nat), (∀ c, c ≠ 45 → c ≠ 60 → M1.1 c = M.1 c) → (∀ j, j ≠ 29 → j ≠ 30 → M1.1 45 j = M.1 45 j) → AtB (mI M1 61 k 1) 45 σ.1 ∧ AtN (mI M1 61 k 1) 49 50 45 10 σ.2.1 ∧ AtP (mI M1 61 k 1) 51 45 12 σ.2.2.1 := by
    intro M1 k h1 h2
    obtain ⟨⟨a0, a1, a2, a3, a4, a5, a6, a7⟩, hn, hp, -⟩ := rm
    refine ⟨⟨fun j hj => by rw [mI1_ne (by decide), h1 _ (by decide) (by decide)]; exact a0 j hj, fun j hj => by rw [mI1_ne (by decide), h1 _ (by decide) (by decide)]; exact a1 j hj, fun j hj => by rw [mI1_ne (by decide), h1 _ (by decide) (by decide)]; exact a2 j hj, by rw [mI1_ne (by decide), h2 _ (by decide) (by decide)]; exact a3, by rw [mI1_ne (by decide), h2 _ (by decide) (by decide)]; exact a4, by rw [mI1_ne (by decide), h2 _ (by decide) (by decide)]; exact a5, by rw [mI1_ne (by decide), h2 _ (by decide) (by decide)]; exact a6, by rw [mI1_ne (by decide), h2 _ (by decide) (by decide)]; exact a7⟩, hn.fr (by rw [mI1_ne (by decide), h1 _ (by decide) (by decide)]) (by rw [mI1_ne (by decide), h1 _ (by decide) (by decide)]) (by rw [mI1_ne (by decide), h2 _ (by decide) (by decide)]), hp.fr (by rw [mI1_ne (by decide), h1 _ (by decide) (by decide)]) (by rw [mI1_ne (by decide), h2 _ (by decide) (by decide)])⟩
  rcases wi_01 c1 with rfl | rfl
  · obtain ⟨M1, e1, e2, e3, e4⟩ := key 0 (Or.inl rfl)
    have e1' : X12_passAll 45 (mI (mI M 45 29 (60 * 0)) 45 30 1) = some ((), M1) := e1
    rw [e1', bs]
    simp only [show ib (0 : Int32) 2 = true by decide, gt, rf_45_28, show (0 : Int32).toNatClampNeg = 0 by decide, nar, if_true]
    obtain ⟨r1, r2, r3⟩ := rest M1 0 e2 e3
    refine ⟨_, rfl, r1, r2, r3, ?_, ?_⟩
    · refine AtIm_of rm ok.2.1.1 (by simp [mI1]) (fun j hj => ?_)
      rw [mI1_ne (by decide), e4, if_pos ⟨by omega, by omega⟩]
      congr 1; omega
    · refine rm.2.2.2.2.part ok.2.2.2.2 (by rw [mI1, if_neg (by decide), e2 _ (by decide) (by decide)]) (fun j hj => ?_)
      rw [mI1_ne (by decide), e4, if_neg (by omega)]
  · obtain ⟨M1, e1, e2, e3, e4⟩ := key 1 (Or.inr rfl)
    have e1' : X12_passAll 45 (mI (mI M 45 29 (60 * 1)) 45 30 1) = some ((), M1) := e1
    rw [e1', bs]
    simp only [show ib (1 : Int32) 2 = true by decide, gt, rf_45_28, show (1 : Int32).toNatClampNeg = 1 by decide, nar, show ¬ (1 : Int32) = 0 by decide, if_false]
    obtain ⟨r1, r2, r3⟩ := rest M1 1 e2 e3
    refine ⟨_, rfl, r1, r2, r3, ?_, ?_⟩
    · refine rm.2.2.2.1.part ok.2.2.2.1 (by rw [mI1, if_neg (by decide), e2 _ (by decide) (by decide)]) (fun j hj => ?_)
      rw [mI1_ne (by decide), e4, if_neg (by omega)]
    · refine AtIm_of rm ok.2.1.1 (by simp [mI1]) (fun j hj => ?_)
      rw [mI1_ne (by decide), e4, if_pos ⟨by omega, by omega⟩]
      congr 1; omega
theorem sim_image (x : Int32) : Sim (X11_image 0 x) (X12_image 45 x) := by
  intro M σ ok rc rm
  obtain ⟨M1, e1, c1, f1⟩ := c_image ok rc x
  have rm1 : RM M1 σ := rm.fr (fun c hc => f1 c (by omega))
  obtain ⟨M2, e2, m2⟩ := m_image ok rm1 x
  have fm := fr_X12_image (i0 := 45) x M1 Sm_refl _ _ e2
  refine ⟨_, M1, M2, (q_image x σ).2, e1, e2, ?_, c1.fr (fun c hc => (fm c (fun z => ?_)).1), m2⟩
  · unfold q_image
    split
    · by_cases h : x = 0
      · simp only [h, if_true]
        exact ⟨ok.1, ok.2.1, ok.2.2.1, fun _ => ⟨ok.1, ok.2.1⟩, ok.2.2.2.2⟩
      · simp only [h, if_false]
        exact ⟨ok.1, ok.2.1, ok.2.2.1, ok.2.2.2.1, fun _ => ⟨ok.1, ok.2.1⟩⟩
    · exact ok
  · have : ∀ c ∈ [(rf 45 0), (rf 45 1), (rf 45 2), (rf 45 27), (rf 45 28), (rf 45 8), (rf 45 9), 45], ¬ (c < 26 ∨ c = 42) := by decide
    exact this c z hc
/-! reading the stream back -/
def rdF : List (Nat × Nat) := [(3, 0), (4, 1), (5, 2), (6, 3), (7, 4), (10, 5)]
def IR (M0 : Mem) (s a : Nat) (M : Mem) : Prop := (∀ c, c ≠ 45 → c ≠ 46 → c ≠ 47 → c ≠ 48 → c ≠ 49 → c ≠ 50 → M.1 c = M0.1 c) ∧ M.1 45 29 = nI a ∧ M.1 45 30 = 0 ∧ M.1 45 12 = M0.1 45 12
theorem IR.pass {M0 M : Mem} {s a : Nat} (h : IR M0 s a M) (ha : a < 120) (v : Int32) : ∃ M', X12_pass 45 v M = some (M0.1 60 a, M') ∧ IR M0 s (a + 1) M' ∧ (∀ c, c ≠ 45 → M'.1 c = M.1 c) ∧ (∀ j, j ≠ 29 → M'.1 45 j = M.1 45 j) := by
  obtain ⟨h1, h2, h3, h4⟩ := h
  have h60 := h1 60 (by decide) (by decide) (by decide) (by decide) (by decide) (by decide)
  unfold X12_pass X12_pass_b20
  rw [h3, if_pos rfl, h2, ib_nI ha (by decide), gt, gt, ix_nI (by omega), rf_45_27, h60]
  have hs : mI M 60 a (M0.1 60 a) = M := by
    unfold mI
    rw [h60, fa_upd_same rfl, ← h60, mR_self]
  rw [hs, h2, L1]
  refine ⟨_, rfl, ⟨fun c c1 c2 c3 c4 c5 c6 => ?_, ?_, ?_, ?_⟩, fun c hc => mI1_ne hc, fun j hj => by rw [mI1, if_neg hj]⟩
  · rw [mI1_ne c1]; exact h1 c c1 c2 c3 c4 c5 c6
  · simp [mI1]
  · simp [mI1]; exact h3
  · simp [mI1]; exact h4
theorem IR.fld {M0 M : Mem} {s a f : Nat} (h : IR M0 s a M) (hf : f ≠ 29 ∧ f ≠ 30 ∧ f ≠ 12) (v : Int32) : IR M0 s a (mI M 45 f v) := by
  obtain ⟨h1, h2, h3, h4⟩ := h
  refine ⟨fun c c1 c2 c3 c4 c5 c6 => ?_, ?_, ?_, ?_⟩
  · rw [mI1_ne c1]; exact h1 c c1 c2 c3 c4 c5 c6
  · rw [mI1, if_neg (fun z => hf.1 z.symm)]; exact h2
  · rw [mI1, if_neg (fun z => hf.2.1 z.symm)]; exact h3
  · rw [mI1, if_neg (fun z => hf.2.2 z.symm)]; exact h4
theorem IR.row_l {M0 : Mem} {s c n len a : Nat} (hc : c = 46 ∨ c = 47 ∨ c = 48 ∨ c = 49 ∨ c = 50) (hn : n ≤ len) (hl : len < 2 ^ 31) (ho : a + n ≤ 120) : ∀ r k f (M : Mem), k + r = n → r < f → IR M0 s (a + k) M → (∀ q, q < k → M.1 c q = M0.1 60 (a + q)) → ∃ M', X12_passRow_l2 45 c len f (nI n) (nI k) M = some ((), M') ∧ IR M0 s (a + n) M' ∧ (∀ q, q < n → M'.1 c q = M0.1 60 (a + q)) ∧ (∀ d, d ≠ 45 → d ≠ c → M'.1 d = M.1 d) ∧ (∀ j, j ≠ 29 → M'.1 45 j = M.1 45 j) := by
  have hc45 : c ≠ 45 := by omega
  intro r
  induction r with
  | zero =>
    intro k f M hk hf h hq
    obtain ⟨f', rfl⟩ : ∃ f', f = f' + 1 := ⟨f - 1, by omega⟩
    have hkn : k = n := by omega
    subst hkn
    refine ⟨M, ?_, h, hq, fun _ _ _ => rfl, fun _ _ => rfl⟩
    show X12_passRow_b2 45 c len _ _ _ M = _
    unfold X12_passRow_b2
    rw [if_pos (by rw [le_lit (by omega) (by omega)]; omega)]
  | succ r ih =>
    intro k f M hk hf h hq
    obtain ⟨f', rfl⟩ : ∃ f', f = f' + 1 := ⟨f - 1, by omega⟩
    obtain ⟨M1, e1, e2, e3, e4⟩ := h.pass (by omega) (M.1 c k)
    have h2 : IR M0 s (a + (k + 1)) (mI M1 c k (M0.1 60 (a + k))) := by
      obtain ⟨q1, q2, q3, q4⟩ := e2
      refine ⟨fun d d1 d2 d3 d4 d5 d6 => ?_, ?_, ?_, ?_⟩
      · rw [mI1_ne (by omega)]; exact q1 d d1 d2 d3 d4 d5 d6
      · rw [mI1_ne (Ne.symm hc45)]; exact q2
      · rw [mI1_ne (Ne.symm hc45)]; exact q3
      · rw [mI1_ne (Ne.symm hc45)]; exact q4
    obtain ⟨M2, g1, g2, g3, g4, g5⟩ := ih (k + 1) f' (mI M1 c k (M0.1 60 (a + k))) (by omega) (by omega) h2 (fun q hq2 => by
      rw [mI1]
      by_cases z : q = k
      · rw [if_pos z, z]
      · rw [if_neg z, e3 c hc45]; exact hq q (by omega))
    refine ⟨M2, ?_, g2, g3, fun d d1 d2 => by rw [g4 d d1 d2, mI1_ne d2, e3 d d1], fun j hj => by rw [g5 j hj, mI1_ne (Ne.symm hc45), e4 j hj]⟩
    show X12_passRow_b2 45 c len _ _ _ M = _
    unfold X12_passRow_b2
    rw [if_neg (by rw [le_lit (by omega) (by omega)]; omega), ib_nI (by omega) hl, gt, ix_nI (by omega), e1, bs]
    simp only [gt]
    rw [L1]
    exact g1
theorem IR.row {M0 M : Mem} {s a : Nat} (c n len : Nat) (h : IR M0 s a M) (hc : c = 46 ∨ c = 47 ∨ c = 48 ∨ c = 49 ∨ c = 50) (hn : n ≤ len) (hl : len < 2 ^ 31) (ho : a + n ≤ 120) : ∃ M', X12_passRow 45 c len (nI n) M = some ((), M') ∧ IR M0 s (a + n) M' ∧ (∀ q, q < n → M'.1 c q = M0.1 60 (a + q)) ∧ (∀ d, d ≠ 45 → d ≠ c → M'.1 d = M.1 d) ∧ (∀ j, j ≠ 29 → M'.1 45 j = M.1 45 j) :=
  IR.row_l hc hn hl ho n 0 FU M (by omega) (by show n < 2000; omega) h (fun q hq => absurd hq (Nat.not_lt_zero q))
