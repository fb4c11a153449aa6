theorem m_image {M : Mem} {σ : Sg} (ok : OK σ) (rm : RM M σ) (x : Int32) : ∃ M', X12_image 45 x M = some ((q_image x σ).1, M') ∧ RM M' (q_image x σ).2 := by
  unfold X12_image q_image
  simp only [e_in_0_1, bs, bz_eq0]
  cases c1 : wi x 0 1
  · exact ⟨M, rfl, rm⟩
  simp only [Bool.true_eq_false, if_false, if_true, mw]
  have nar : vp_nar .boolean 1 = 1 := by decide
  have key : ∀ k : Nat, (k = 0 ∨ k = 1) → ∃ M1, X12_passAll 45 (mI (mI M 45 29 (nI (60 * k))) 45 30 1) = some ((), M1) ∧ (∀ c, c ≠ 45 → c ≠ 60 → M1.1 c = M.1 c) ∧ (∀ j, j ≠ 29 → j ≠ 30 → M1.1 45 j = M.1 45 j) ∧ (∀ q, M1.1 60 q = if 60 * k ≤ q ∧ q < 60 * k + 52 then imV M (q - 60 * k) else M.1 60 q) := by
    intro k hk
    have i0 : IW (mI (mI M 45 29 (nI (60 * k))) 45 30 1) (60 * k) (60 * k) (mI (mI M 45 29 (nI (60 * k))) 45 30 1) := ⟨fun _ _ _ => rfl, fun _ _ => rfl, by simp [mI1], fun q => by rw [if_neg (by omega)]⟩
    obtain ⟨M1, e1, e2⟩ := m_passW i0 (by simp [mI1]) (by omega)
    refine ⟨M1, e1, fun c c45 c60 => ?_, fun j j29 j30 => ?_, fun q => ?_⟩
    · rw [e2.1 c c45 c60, mI1_ne c45, mI1_ne c45]
    · rw [e2.2.1 j j29, mI1, if_neg j30, mI1, if_neg j29]
    · rw [e2.2.2.2 q]
      split
      · unfold imV
        simp [mI1, mI1_ne (show (46 : Nat) ≠ 45 by decide), mI1_ne (show (47 : Nat) ≠ 45 by decide), mI1_ne (show (48 : Nat) ≠ 45 by decide), mI1_ne (show (49 : Nat) ≠ 45 by decide), mI1_ne (show (50 : Nat) ≠ 45 by decide)]
      · rw [mI1_ne (by decide), mI1_ne (by decide)]
  have rest : ∀ (M1 : Mem) (k : Nat), (∀ c, c ≠ 45 → c ≠ 60 → M1.1 c = M.1 c) → (∀ j, j ≠ 29 → j ≠ 30 → M1.1 45 j = M.1 45 j) → AtB (mI M1 61 k 1) 45 σ.1 ∧ AtN (mI M1 61 k 1) 49 50 45 10 σ.2.1 ∧ AtP (mI M1 61 k 1) 51 45 12 σ.2.2.1 := by
    intro M1 k h1 h2
    obtain ⟨⟨a0, a1, a2, a3, a4, a5, a6, a7⟩, hn, hp, -⟩ := rm
    refine ⟨⟨fun j hj => by rw [mI1_ne (by decide), h1 _ (by decide) (by decide)]; exact a0 j hj, fun j hj => by rw [mI1_ne (by decide), h1 _ (by decide) (by decide)]; exact a1 j hj, fun j hj => by rw [mI1_ne (by decide), h1 _ (by decide) (by decide)]; exact a2 j hj, by rw [mI1_ne (by decide), h2 _ (by decide) (by decide)]; exact a3, by rw [mI1_ne (by decide), h2 _ (by decide) (by decide)]; exact a4, by rw [mI1_ne (by decide), h2 _ (by decide) (by decide)]; exact a5, by rw [mI1_ne (by decide), h2 _ (by decide) (by decide)]; exact a6, by rw [mI1_ne (by decide), h2 _ (by decide) (by decide)]; exact a7⟩, hn.fr (by rw [mI1_ne (by decide), h1 _ (by decide) (by decide)]) (by rw [mI1_ne (by decide), h1 _ (by decide) (by decide)]) (by rw [mI1_ne (by decide), h2 _ (by decide) (by decide)]), hp.fr (by rw [mI1_ne (by decide), h1 _ (by decide) (by decide)]) (by rw [mI1_ne (by decide), h2 _ (by decide) (by decide)])⟩
  rcases wi_01 c1 with rfl | rfl
  · obtain ⟨M1, e1, e2, e3, e4⟩ := key 0 (Or.inl rfl)
    have e1' : X12_passAll 45 (mI (mI M 45 29 (60 * 0)) 45 30 1) = some ((), M1) := e1
    rw [e1', bs]
    simp only [show ib (0 : Int32) 2 = true by decide, gt, rf_45_28, show (0 : Int32).toNatClampNeg = 0 by decide, nar, if_true]
    obtain ⟨r1, r2, r3⟩ := rest M1 0 e2 e3
    refine ⟨_, rfl, r1, r2, r3, ?_, ?_⟩
    · refine AtIm_of rm ok.2.1.1 (by simp [mI1]) (fun j hj => ?_)
      rw [mI1_ne (by decide), e4, if_pos ⟨by omega, by omega⟩]
      rw [show 60 * 0 + j - 60 * 0 = j by omega]
    · refine rm.2.2.2.2.part ok.2.2.2.2 (by rw [mI1, if_neg (by decide), e2 _ (by decide) (by decide)]) (fun j hj => ?_)
      rw [mI1_ne (by decide), e4, if_neg (by omega)]
  · obtain ⟨M1, e1, e2, e3, e4⟩ := key 1 (Or.inr rfl)
    have e1' : X12_passAll 45 (mI (mI M 45 29 (60 * 1)) 45 30 1) = some ((), M1) := e1
    rw [e1', bs]
    simp only [show ib (1 : Int32) 2 = true by decide, gt, rf_45_28, show (1 : Int32).toNatClampNeg = 1 by decide, nar, show ¬ (1 : Int32) = 0 by decide, if_false]
    obtain ⟨r1, r2, r3⟩ := rest M1 1 e2 e3
    refine ⟨_, rfl, r1, r2, r3, ?_, ?_⟩
    · refine rm.2.2.2.1.part ok.2.2.2.1 (by rw [mI1, if_neg (by decide), e2 _ (by decide) (by decide)]) (fun j hj => ?_)
      rw [mI1_ne (by decide), e4, if_neg (by omega)]
    · refine AtIm_of rm ok.2.1.1 (by simp [mI1]) (fun j hj => ?_)
      rw [mI1_ne (by decide), e4, if_pos ⟨by omega, by omega⟩]
      rw [show 60 * 1 + j - 60 * 1 = j by omega]
theorem sim_image (x : Int32) : Sim (X11_image 0 x) (X12_image 45 x) := by
  intro M σ ok rc rm
  obtain ⟨M1, e1, c1, f1⟩ := c_image ok rc x
  have rm1 : RM M1 σ := rm.fr (fun c hc => f1 c (by omega))
  obtain ⟨M2, e2, m2⟩ := m_image ok rm1 x
  have fm := fr_X12_image (i0 := 45) x M1 Sm_refl _ _ e2
  refine ⟨_, M1, M2, (q_image x σ).2, e1, e2, ?_, c1.fr (fun c hc => (fm c (fun z => ?_)).1), m2⟩
  · unfold q_image
    split
    · by_cases h : x = 0
      · simp only [h, if_true]
        exact ⟨ok.1, ok.2.1, ok.2.2.1, fun _ => ⟨ok.1, ok.2.1⟩, ok.2.2.2.2⟩
      · simp only [h, if_false]
        exact ⟨ok.1, ok.2.1, ok.2.2.1, ok.2.2.2.1, fun _ => ⟨ok.1, ok.2.1⟩⟩
    · exact ok
  · have : ∀ c ∈ [(rf 45 0), (rf 45 1), (rf 45 2), (rf 45 27), (rf 45 28), (rf 45 8), (rf 45 9), 45], ¬ (c < 26 ∨ c = 42) := by decide
    exact this c z hc
/-! reading the stream back -/
def rdF : List (Nat × Nat) := [(3, 0), (4, 1), (5, 2), (6, 3), (7, 4), (10, 5)]
def IR (M0 : Mem) (s a : Nat) (M : Mem) : Prop := (∀ c, c ≠ 45 → c ≠ 46 → c ≠ 47 → c ≠ 48 → c ≠ 49 → c ≠ 50 → M.1 c = M0.1 c) ∧ M.1 45 29 = nI a ∧ M.1 45 30 = 0 ∧ M.1 45 12 = M0.1 45 12
theorem IR.pass {M0 M : Mem} {s a : Nat} (h : IR M0 s a M) (ha : a < 120) (v : Int32) : ∃ M', X12_pass 45 v M = some (M0.1 60 a, M') ∧ IR M0 s (a + 1) M' ∧ (∀ c, c ≠ 45 → M'.1 c = M.1 c) ∧ (∀ j, j ≠ 29 → M'.1 45 j = M.1 45 j) := by
  obtain ⟨h1, h2, h3, h4⟩ := h
  have h60 := h1 60 (by decide) (by decide) (by decide) (by decide) (by decide) (by decide)
  unfold X12_pass X12_pass_b20
  rw [h3, if_pos rfl, h2, ib_nI ha (by decide), gt, gt, ix_nI (by omega), rf_45_27, h60]
  have hs : mI M 60 a (M0.1 60 a) = M := by
    unfold mI
    rw [h60, fa_upd_same rfl, ← h60, mR_self]
  rw [hs, h2, L1]
  refine ⟨_, rfl, ⟨fun c c1 c2 c3 c4 c5 c6 => ?_, ?_, ?_, ?_⟩, fun c hc => mI1_ne hc, fun j hj => by rw [mI1, if_neg hj]⟩
  · rw [mI1_ne c1]; exact h1 c c1 c2 c3 c4 c5 c6
  · simp [mI1]
  · simp [mI1]; exact h3
  · simp [mI1]; exact h4
theorem IR.fld {M0 M : Mem} {s a f : Nat} (h : IR M0 s a M) (hf : f ≠ 29 ∧ f ≠ 30 ∧ f ≠ 12) (v : Int32) : IR M0 s a (mI M 45 f v) := by
  obtain ⟨h1, h2, h3, h4⟩ := h
  refine ⟨fun c c1 c2 c3 c4 c5 c6 => ?_, ?_, ?_, ?_⟩
  · rw [mI1_ne c1]; exact h1 c c1 c2 c3 c4 c5 c6
  · rw [mI1, if_neg (fun z => hf.1 z.symm)]; exact h2
  · rw [mI1, if_neg (fun z => hf.2.1 z.symm)]; exact h3
  · rw [mI1, if_neg (fun z => hf.2.2 z.symm)]; exact h4
theorem IR.row_l {M0 : Mem} {s c n len a : Nat} (hc : c = 46 ∨ c = 47 ∨ c = 48 ∨ c = 49 ∨ c = 50) (hn : n ≤ len) (hl : len < 2 ^ 31) (ho : a + n ≤ 120) : ∀ r k f (M : Mem), k + r = n → r < f → IR M0 s (a + k) M → (∀ q, q < k → M.1 c q = M0.1 60 (a + q)) → ∃ M', X12_passRow_l2 45 c len f (nI n) (nI k) M = some ((), M') ∧ IR M0 s (a + n) M' ∧ (∀ q, q < n → M'.1 c q = M0.1 60 (a + q)) ∧ (∀ d, d ≠ 45 → d ≠ c → M'.1 d = M.1 d) ∧ (∀ j, j ≠ 29 → M'.1 45 j = M.1 45 j) := by
  have hc45 : c ≠ 45 := by omega
  intro r
  induction r with
  | zero =>
    intro k f M hk hf h hq
    obtain ⟨f', rfl⟩ : ∃ f', f = f' + 1 := ⟨f - 1, by omega⟩
    have hkn : k = n := by omega
    subst hkn
    refine ⟨M, ?_, h, hq, fun _ _ _ => rfl, fun _ _ => rfl⟩
    show X12_passRow_b2 45 c len _ _ _ M = _
    unfold X12_passRow_b2
    rw [if_pos (by rw [le_lit (by omega) (by omega)]; omega)]
  | succ r ih =>
    intro k f M hk hf h hq
    obtain ⟨f', rfl⟩ : ∃ f', f = f' + 1 := ⟨f - 1, by omega⟩
    obtain ⟨M1, e1, e2, e3, e4⟩ := h.pass (by omega) (M.1 c k)
    have h2 : IR M0 s (a + (k + 1)) (mI M1 c k (M0.1 60 (a + k))) := by
      obtain ⟨q1, q2, q3, q4⟩ := e2
      refine ⟨fun d d1 d2 d3 d4 d5 d6 => ?_, ?_, ?_, ?_⟩
      · rw [mI1_ne (by omega)]; exact q1 d d1 d2 d3 d4 d5 d6
      · rw [mI1_ne (Ne.symm hc45)]; exact q2
      · rw [mI1_ne (Ne.symm hc45)]; exact q3
      · rw [mI1_ne (Ne.symm hc45)]; exact q4
    obtain ⟨M2, g1, g2, g3, g4, g5⟩ := ih (k + 1) f' (mI M1 c k (M0.1 60 (a + k))) (by omega) (by omega) h2 (fun q hq2 => by
      rw [mI1]
      by_cases z : q = k
      · rw [if_pos z, z]
      · rw [if_neg z, e3 c hc45]; exact hq q (by omega))
    refine ⟨M2, ?_, g2, g3, fun d d1 d2 => by rw [g4 d d1 d2, mI1_ne d2, e3 d d1], fun j hj => by rw [g5 j hj, mI1_ne (Ne.symm hc45), e4 j hj]⟩
    show X12_passRow_b2 45 c len _ _ _ M = _
    unfold X12_passRow_b2
    rw [if_neg (by rw [le_lit (by omega) (by omega)]; omega), ib_nI (by omega) hl, gt, ix_nI (by omega), e1, bs]
    simp only [gt]
    rw [L1]
    exact g1
theorem IR.row {M0 M : Mem} {s a : Nat} (c n len : Nat) (h : IR M0 s a M) (hc : c = 46 ∨ c = 47 ∨ c = 48 ∨ c = 49 ∨ c = 50) (hn : n ≤ len) (hl : len < 2 ^ 31) (ho : a + n ≤ 120) : ∃ M', X12_passRow 45 c len (nI n) M = some ((), M') ∧ IR M0 s (a + n) M' ∧ (∀ q, q < n → M'.1 c q = M0.1 60 (a + q)) ∧ (∀ d, d ≠ 45 → d ≠ c → M'.1 d = M.1 d) ∧ (∀ j, j ≠ 29 → M'.1 45 j = M.1 45 j) :=
  IR.row_l hc hn hl ho n 0 FU M (by omega) (by show n < 2000; omega) h (fun q hq => absurd hq (Nat.not_lt_zero q))
theorem m_passR {M0 N0 : Mem} {s : Nat} (h0 : IR M0 s s N0) (hs : s = 0 ∨ s = 60) : ∃ M', X12_passAll 45 N0 = some ((), M') ∧ IR M0 s (s + 52) M' ∧ (M'.1 45 3 = M0.1 60 s ∧ M'.1 45 4 = M0.1 60 (s + 1) ∧ M'.1 45 5 = M0.1 60 (s + 2) ∧ M'.1 45 6 = M0.1 60 (s + 3) ∧ M'.1 45 7 = M0.1 60 (s + 4) ∧ M'.1 45 10 = M0.1 60 (s + 5)) ∧ (∀ q, q < 10 → M'.1 46 q = M0.1 60 (s + 6 + q)) ∧ (∀ q, q < 10 → M'.1 47 q = M0.1 60 (s + 16 + q)) ∧ (∀ q, q < 10 → M'.1 48 q = M0.1 60 (s + 26 + q)) ∧ (∀ q, q < 8 → M'.1 49 q = M0.1 60 (s + 36 + q)) ∧ (∀ q, q < 8 → M'.1 50 q = M0.1 60 (s + 44 + q)) := by
  unfold X12_passAll
  obtain ⟨M1, e1, h1, a1, b1⟩ := h0.pass (by omega) (N0.1 45 3)
  have h1 := h1.fld (f := 3) (by decide) (M0.1 60 (s + 0))
  rw [e1, bs]
  simp only [mw]
  have g0 : (mI M1 45 3 (M0.1 60 (s + 0))).1 45 3 = M0.1 60 (s + 0) := by rw [mI1, if_pos rfl]
  rw [show M0.1 60 s = M0.1 60 (s + 0) from rfl]
  generalize mI M1 45 3 (M0.1 60 (s + 0)) = N1 at h1 g0 ⊢
  have h1 : IR M0 s (s + 1) N1 := h1
  clear e1 a1 b1
  obtain ⟨M2, e2, h2, a2, b2⟩ := h1.pass (by omega) (N1.1 45 4)
  have h2 := h2.fld (f := 4) (by decide) (M0.1 60 (s + 1))
  rw [e2, bs]
  simp only []
  have g0 : (mI M2 45 4 (M0.1 60 (s + 1))).1 45 3 = M0.1 60 (s + 0) := by rw [mI1, if_neg (by decide), b2 _ (by decide)]; exact g0
  have g1 : (mI M2 45 4 (M0.1 60 (s + 1))).1 45 4 = M0.1 60 (s + 1) := by rw [mI1, if_pos rfl]
  generalize mI M2 45 4 (M0.1 60 (s + 1)) = N2 at h2 g0 g1 ⊢
  have h2 : IR M0 s (s + 2) N2 := h2
  clear e2 a2 b2
  obtain ⟨M3, e3, h3, a3, b3⟩ := h2.pass (by omega) (N2.1 45 5)
  have h3 := h3.fld (f := 5) (by decide) (M0.1 60 (s + 2))
  rw [e3, bs]
  simp only []
  have g0 : (mI M3 45 5 (M0.1 60 (s + 2))).1 45 3 = M0.1 60 (s + 0) := by rw [mI1, if_neg (by decide), b3 _ (by decide)]; exact g0
  have g1 : (mI M3 45 5 (M0.1 60 (s + 2))).1 45 4 = M0.1 60 (s + 1) := by rw [mI1, if_neg (by decide), b3 _ (by decide)]; exact g1
  have g2 : (mI M3 45 5 (M0.1 60 (s + 2))).1 45 5 = M0.1 60 (s + 2) := by rw [mI1, if_pos rfl]
  generalize mI M3 45 5 (M0.1 60 (s + 2)) = N3 at h3 g0 g1 g2 ⊢
  have h3 : IR M0 s (s + 3) N3 := h3
  clear e3 a3 b3
  obtain ⟨M4, e4, h4, a4, b4⟩ := h3.pass (by omega) (N3.1 45 6)
  have h4 := h4.fld (f := 6) (by decide) (M0.1 60 (s + 3))
  rw [e4, bs]
  simp only []
  have g0 : (mI M4 45 6 (M0.1 60 (s + 3))).1 45 3 = M0.1 60 (s + 0) := by rw [mI1, if_neg (by decide), b4 _ (by decide)]; exact g0
  have g1 : (mI M4 45 6 (M0.1 60 (s + 3))).1 45 4 = M0.1 60 (s + 1) := by rw [mI1, if_neg (by decide), b4 _ (by decide)]; exact g1
  have g2 : (mI M4 45 6 (M0.1 60 (s + 3))).1 45 5 = M0.1 60 (s + 2) := by rw [mI1, if_neg (by decide), b4 _ (by decide)]; exact g2
  have g3 : (mI M4 45 6 (M0.1 60 (s + 3))).1 45 6 = M0.1 60 (s + 3) := by rw [mI1, if_pos rfl]
  generalize mI M4 45 6 (M0.1 60 (s + 3)) = N4 at h4 g0 g1 g2 g3 ⊢
  have h4 : IR M0 s (s + 4) N4 := h4
  clear e4 a4 b4
  obtain ⟨M5, e5, h5, a5, b5⟩ := h4.pass (by omega) (N4.1 45 7)
  have h5 := h5.fld (f := 7) (by decide) (M0.1 60 (s + 4))
  rw [e5, bs]
  simp only []
  have g0 : (mI M5 45 7 (M0.1 60 (s + 4))).1 45 3 = M0.1 60 (s + 0) := by rw [mI1, if_neg (by decide), b5 _ (by decide)]; exact g0
  have g1 : (mI M5 45 7 (M0.1 60 (s + 4))).1 45 4 = M0.1 60 (s + 1) := by rw [mI1, if_neg (by decide), b5 _ (by decide)]; exact g1
  have g2 : (mI M5 45 7 (M0.1 60 (s + 4))).1 45 5 = M0.1 60 (s + 2) := by rw [mI1, if_neg (by decide), b5 _ (by decide)]; exact g2
  have g3 : (mI M5 45 7 (M0.1 60 (s + 4))).1 45 6 = M0.1 60 (s + 3) := by rw [mI1, if_neg (by decide), b5 _ (by decide)]; exact g3
  have g4 : (mI M5 45 7 (M0.1 60 (s + 4))).1 45 7 = M0.1 60 (s + 4) := by rw [mI1, if_pos rfl]
  generalize mI M5 45 7 (M0.1 60 (s + 4)) = N5 at h5 g0 g1 g2 g3 g4 ⊢
  have h5 : IR M0 s (s + 5) N5 := h5
  clear e5 a5 b5
  obtain ⟨M6, e6, h6, a6, b6⟩ := h5.pass (by omega) (N5.1 45 10)
  have h6 := h6.fld (f := 10) (by decide) (M0.1 60 (s + 5))
  rw [e6, bs]
  simp only []
  have g0 : (mI M6 45 10 (M0.1 60 (s + 5))).1 45 3 = M0.1 60 (s + 0) := by rw [mI1, if_neg (by decide), b6 _ (by decide)]; exact g0
  have g1 : (mI M6 45 10 (M0.1 60 (s + 5))).1 45 4 = M0.1 60 (s + 1) := by rw [mI1, if_neg (by decide), b6 _ (by decide)]; exact g1
  have g2 : (mI M6 45 10 (M0.1 60 (s + 5))).1 45 5 = M0.1 60 (s + 2) := by rw [mI1, if_neg (by decide), b6 _ (by decide)]; exact g2
  have g3 : (mI M6 45 10 (M0.1 60 (s + 5))).1 45 6 = M0.1 60 (s + 3) := by rw [mI1, if_neg (by decide), b6 _ (by decide)]; exact g3
  have g4 : (mI M6 45 10 (M0.1 60 (s + 5))).1 45 7 = M0.1 60 (s + 4) := by rw [mI1, if_neg (by decide), b6 _ (by decide)]; exact g4
  have g5 : (mI M6 45 10 (M0.1 60 (s + 5))).1 45 10 = M0.1 60 (s + 5) := by rw [mI1, if_pos rfl]
  generalize mI M6 45 10 (M0.1 60 (s + 5)) = N6 at h6 g0 g1 g2 g3 g4 g5 ⊢
  have h6 : IR M0 s (s + 6) N6 := h6
  clear e6 a6 b6
  obtain ⟨R1, q1, k1, v1, w1, u1⟩ := IR.row (M := N6) (s := s) (a := s + 6) 46 10 10 h6 (by decide) (by decide) (by decide) (by omega)
  obtain ⟨R2, q2, k2, v2, w2, u2⟩ := IR.row (M := R1) (s := s) (a := s + 16) 47 10 10 k1 (by decide) (by decide) (by decide) (by omega)
  obtain ⟨R3, q3, k3, v3, w3, u3⟩ := IR.row (M := R2) (s := s) (a := s + 26) 48 10 10 k2 (by decide) (by decide) (by decide) (by omega)
  obtain ⟨R4, q4, k4, v4, w4, u4⟩ := IR.row (M := R3) (s := s) (a := s + 36) 49 8 8 k3 (by decide) (by decide) (by decide) (by omega)
  obtain ⟨R5, q5, k5, v5, w5, u5⟩ := IR.row (M := R4) (s := s) (a := s + 44) 50 8 8 k4 (by decide) (by decide) (by decide) (by omega)
  rw [rf_45_0, rf_45_1, rf_45_2, rf_45_8, rf_45_9]
  have q1' : X12_passRow 45 46 10 10 N6 = some ((), R1) := q1
  have q2' : X12_passRow 45 47 10 10 R1 = some ((), R2) := q2
  have q3' : X12_passRow 45 48 10 10 R2 = some ((), R3) := q3
  have q4' : X12_passRow 45 49 8 8 R3 = some ((), R4) := q4
  have q5' : X12_passRow 45 50 8 8 R4 = some ((), R5) := q5
  rw [q1', bs]
  simp only []
  rw [q2', bs]
  simp only []
  rw [q3', bs]
  simp only []
  rw [q4', bs]
  simp only []
  rw [q5', bs]
  skip
  exact ⟨R5, rfl, k5, ⟨by rw [u5 _ (by decide), u4 _ (by decide), u3 _ (by decide), u2 _ (by decide), u1 _ (by decide)]; exact g0, by rw [u5 _ (by decide), u4 _ (by decide), u3 _ (by decide), u2 _ (by decide), u1 _ (by decide)]; exact g1, by rw [u5 _ (by decide), u4 _ (by decide), u3 _ (by decide), u2 _ (by decide), u1 _ (by decide)]; exact g2, by rw [u5 _ (by decide), u4 _ (by decide), u3 _ (by decide), u2 _ (by decide), u1 _ (by decide)]; exact g3, by rw [u5 _ (by decide), u4 _ (by decide), u3 _ (by decide), u2 _ (by decide), u1 _ (by decide)]; exact g4, by rw [u5 _ (by decide), u4 _ (by decide), u3 _ (by decide), u2 _ (by decide), u1 _ (by decide)]; exact g5⟩, fun q hq => by rw [w5 _ (by decide) (by decide), w4 _ (by decide) (by decide), w3 _ (by decide) (by decide), w2 _ (by decide) (by decide)]; exact v1 q hq, fun q hq => by rw [w5 _ (by decide) (by decide), w4 _ (by decide) (by decide), w3 _ (by decide) (by decide)]; exact v2 q hq, fun q hq => by rw [w5 _ (by decide) (by decide), w4 _ (by decide) (by decide)]; exact v3 q hq, fun q hq => by rw [w5 _ (by decide) (by decide)]; exact v4 q hq, v5⟩
theorem m_restore {M : Mem} {σ : Sg} (ok : OK σ) (rm : RM M σ) (x : Int32) : ∃ M', X12_restore 45 x M = some ((q_restore x σ).1, M') ∧ RM M' (q_restore x σ).2 := by
  unfold X12_restore q_restore
  simp only [e_in_0_1, bs, bz_eq0]
  cases c1 : wi x 0 1
  · exact ⟨M, rfl, rm⟩
  simp only [Bool.true_eq_false, if_false, if_true]
  have key : ∀ (k : Nat) (m : Im), (k = 0 ∨ k = 1) → AtIm M k m → okI m → m.1 = true → ∃ M1, X12_passAll 45 (mI (mI M 45 29 (nI (60 * k))) 45 30 0) = some ((), M1) ∧ RM M1 (m.2.1, m.2.2, σ.2.2) := by
    intro k m hk hm h8 ht
    have i0 : IR M (60 * k) (60 * k) (mI (mI M 45 29 (nI (60 * k))) 45 30 0) := by
      refine ⟨fun c c1 _ _ _ _ _ => ?_, by simp [mI1], by simp [mI1], by simp [mI1]⟩
      rw [mI1_ne c1, mI1_ne c1]
    obtain ⟨M1, e1, e2, ⟨f0, f1, f2, f3, f4, f5⟩, r1, r2, r3, r4, r5⟩ := m_passR i0 (by omega)
    obtain ⟨⟨a0, a1, a2, a3, a4, a5⟩, b1, b2, b3, b4, b5⟩ := hm.2 ht
    have hc := (h8 ht).2.1
    obtain ⟨-, -, hp, hi1, hi2⟩ := rm
    obtain ⟨x1, x2, x3, x4⟩ := e2
    refine ⟨M1, e1, ⟨fun j hj => (r1 j hj).trans (b1 j hj), fun j hj => (r2 j hj).trans (b2 j hj), fun j hj => (r3 j hj).trans (b3 j hj), f0.trans a0, f1.trans a1, f2.trans a2, f3.trans a3, f4.trans a4⟩, ⟨fun j hj => ?_, fun j hj => ?_, f5.trans a5⟩, hp.fr (x1 _ (by decide) (by decide) (by decide) (by decide) (by decide) (by decide)) x4, hi1.fr (x1 _ (by decide) (by decide) (by decide) (by decide) (by decide) (by decide)) (x1 _ (by decide) (by decide) (by decide) (by decide) (by decide) (by decide)), hi2.fr (x1 _ (by decide) (by decide) (by decide) (by decide) (by decide) (by decide)) (x1 _ (by decide) (by decide) (by decide) (by decide) (by decide) (by decide))⟩
    · have hj' : j < m.2.2.2.2 := hj
      exact (r4 j (by omega)).trans (b4 j hj)
    · have hj' : j < m.2.2.2.2 := hj
      exact (r5 j (by omega)).trans (b5 j hj)
  rcases wi_01 c1 with rfl | rfl
  · simp only [show ib (0 : Int32) 2 = true by decide, gt, rf_45_28, show (0 : Int32).toNatClampNeg = 0 by decide, if_true]
    rw [rm.2.2.2.1.1]
    simp only [bz_eq0]
    cases hk : σ.2.2.2.1.1
    · exact ⟨M, rfl, rm⟩
    · obtain ⟨M1, e1, e2⟩ := key 0 _ (Or.inl rfl) rm.2.2.2.1 ok.2.2.2.1 hk
      have e1' : X12_passAll 45 (mI (mI M 45 29 (60 * 0)) 45 30 0) = some ((), M1) := e1
      simp only [Bool.true_eq_false, if_false, if_true]
      rw [e1', bs]
      exact ⟨M1, rfl, e2⟩
  · simp only [show ib (1 : Int32) 2 = true by decide, gt, rf_45_28, show (1 : Int32).toNatClampNeg = 1 by decide, show ¬ (1 : Int32) = 0 by decide, if_false]
    rw [rm.2.2.2.2.1]
    simp only [bz_eq0]
    cases hk : σ.2.2.2.2.1
    · exact ⟨M, rfl, rm⟩
    · obtain ⟨M1, e1, e2⟩ := key 1 _ (Or.inr rfl) rm.2.2.2.2 ok.2.2.2.2 hk
      have e1' : X12_passAll 45 (mI (mI M 45 29 (60 * 1)) 45 30 0) = some ((), M1) := e1
      simp only [Bool.true_eq_false, if_false, if_true]
      rw [e1', bs]
      exact ⟨M1, rfl, e2⟩
theorem sim_restore (x : Int32) : Sim (X11_restore 0 x) (X12_restore 45 x) := by
  intro M σ ok rc rm
  obtain ⟨M1, e1, c1, f1⟩ := c_restore ok rc x
  have rm1 : RM M1 σ := rm.fr (fun c hc => f1 c (by omega))
  obtain ⟨M2, e2, m2⟩ := m_restore ok rm1 x
  have fm := fr_X12_restore (i0 := 45) x M1 Sm_refl _ _ e2
  refine ⟨_, M1, M2, (q_restore x σ).2, e1, e2, ?_, c1.fr (fun c hc => (fm c (fun z => ?_)).1), m2⟩
  · unfold q_restore
    split
    · by_cases h : x = 0
      · simp only [h, if_true]
        split
        · rename_i t
          exact ⟨(ok.2.2.2.1 t).1, (ok.2.2.2.1 t).2, ok.2.2⟩
        · exact ok
      · simp only [h, if_false]
        split
        · rename_i t
          exact ⟨(ok.2.2.2.2 t).1, (ok.2.2.2.2 t).2, ok.2.2⟩
        · exact ok
    · exact ok
  · have : ∀ c ∈ [(rf 45 0), (rf 45 1), (rf 45 2), (rf 45 27), (rf 45 8), (rf 45 9), 45], ¬ (c < 26 ∨ c = 42) := by decide
    exact this c z hc
