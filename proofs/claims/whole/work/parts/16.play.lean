/-! the class plays an evening on a bath of its own -/
def okE (s : ER) : Prop := okB s.1 ∧ (s.2.2.1 = -6 ∧ s.2.2.2.1 = -6 ∨ 0 ≤ s.2.2.1) ∧ s.2.2.2.2.1 = -6 ∧ s.2.2.2.2.2 = -6
theorem kq4 {c : Int32} : kq c = 4 ↔ c = 61 := by
  unfold kq
  constructor
  · intro h
    by_cases h1 : c = 65
    · rw [if_pos h1] at h; exact absurd h (by decide)
    rw [if_neg h1] at h
    by_cases h2 : c = 63
    · rw [if_pos h2] at h; exact absurd h (by decide)
    rw [if_neg h2] at h
    by_cases h3 : c = 43
    · rw [if_pos h3] at h; exact absurd h (by decide)
    rw [if_neg h3] at h
    by_cases h4 : c = 45
    · rw [if_pos h4] at h; exact absurd h (by decide)
    rw [if_neg h4] at h
    by_cases h5 : c = 61
    · exact h5
    · rw [if_neg h5] at h; exact absurd h (by decide)
  · rintro rfl; rfl
theorem kq1 {c : Int32} : kq c = 1 ↔ c = 63 := by
  unfold kq
  constructor
  · intro h
    by_cases h1 : c = 65
    · rw [if_pos h1] at h; exact absurd h (by decide)
    rw [if_neg h1] at h
    by_cases h2 : c = 63
    · exact h2
    rw [if_neg h2] at h
    by_cases h3 : c = 43
    · rw [if_pos h3] at h; exact absurd h (by decide)
    rw [if_neg h3] at h
    by_cases h4 : c = 45
    · rw [if_pos h4] at h; exact absurd h (by decide)
    rw [if_neg h4] at h
    by_cases h5 : c = 61
    · rw [if_pos h5] at h; exact absurd h (by decide)
    · rw [if_neg h5] at h; exact absurd h (by decide)
  · rintro rfl; rfl
theorem kq0 {c : Int32} (h : c = 65) : kq c = 0 := by rw [h]; rfl
theorem e_play93 {M : Mem} {k : Nat} {s : ER} (h : EvC M k s) (ok : okB s.1) (c v : Int32) (hv : okA (kq c, v)) : ∃ M', X2_playAct_b93 26 c v M = some ((), M') ∧ EvC M' (k + 1) (perfB s.1 (kq c) v, s.2) := by
  obtain ⟨hb, a1, a2, a3, a4, a5, a6⟩ := h
  unfold X2_playAct_b93
  rw [rf_26_0]
  obtain ⟨M1, e1, e2⟩ := e_perform BI_27 hb ok c v (fun z => hv.1 (by rcases z with z | z; exact Or.inl (kq0 z); exact Or.inr (kq4.mpr z)))
  have fr := fr_X0_perform (i0 := 27) c v M Sm_refl _ _ e1
  have f26 : M1.1 26 = M.1 26 := (fr 26 (by decide)).1
  rw [e1, bs]
  simp only [mw, f26, a1, L1]
  refine ⟨_, rfl, ?_⟩
  exact ⟨e2.fr (mI1_ne (by decide)) (mI1_ne (by decide)) (mI1_ne (by decide)) (mI1_ne (by decide)), by simp [mI1], by simp [mI1, f26, a2], by simp [mI1, f26, a3], by simp [mI1, f26, a4], by simp [mI1, f26, a5], by simp [mI1, f26, a6]⟩
theorem EvC.eq {M : Mem} {k : Nat} {s s' : ER} (h : EvC M k s) (e : s = s') : EvC M k s' := e ▸ h
theorem e_play52 {M : Mem} {k : Nat} {s : ER} (h : EvC M k s) (ok : okB s.1) (hl : s.2.2.1 = -6 ∧ s.2.2.2.1 = -6 ∨ 0 ≤ s.2.2.1) (c v : Int32) (hv : okA (kq c, v)) : ∃ M', X2_playAct_b52 26 c v M = some ((), M') ∧ EvC M' (k + 1) (perfB s.1 (kq c) v, s.2.1, (if kq c = 4 ∧ s.2.2.1 = -6 then lossB s.1 (nI k) v else (s.2.2.1, s.2.2.2.1)).1, (if kq c = 4 ∧ s.2.2.1 = -6 then lossB s.1 (nI k) v else (s.2.2.1, s.2.2.2.1)).2, s.2.2.2.2) := by
  unfold X2_playAct_b52
  by_cases c1 : c = 61
  · have k4 : kq c = 4 := kq4.mpr c1
    rw [if_pos c1, h.2.2.2.2.2.1]
    by_cases c2 : s.2.2.1 = -6
    · rw [if_pos c2, if_pos ⟨k4, c2⟩]
      have h6 : s.2.2.2.1 = -6 := by
        rcases hl with z | z
        · exact z.2
        · rw [c2] at z; exact absurd z (by decide)
      have hv10 : ib v 10 = true := hv.1 (Or.inr k4)
      obtain ⟨M1, e1, e2⟩ := e_noteLoss h ok v hv10 c2 h6
      rw [rf_26_0, h.1.2.2.2.1, e_min, bs]
      simp only []
      rw [h.1.2.2.2.1, e_max, bs]
      simp only []
      rw [e1, bs]
      exact e_play93 e2 ok c v hv
    · rw [if_neg c2, if_neg (fun z => c2 z.2)]
      obtain ⟨M1, e1, e2⟩ := e_play93 h ok c v hv
      exact ⟨M1, e1, e2⟩
  · have k4 : ¬ kq c = 4 := fun z => c1 (kq4.mp z)
    rw [if_neg c1, if_neg (fun z => k4 z.1)]
    obtain ⟨M1, e1, e2⟩ := e_play93 h ok c v hv
    exact ⟨M1, e1, e2⟩
theorem e_playAct {M : Mem} {k : Nat} {s : ER} (h : EvC M k s) (ok : okE s) (c v : Int32) (hv : okA (kq c, v)) : ∃ M', X2_playAct 26 c v M = some ((), M') ∧ EvC M' (if whyB s.1 (kq c) v = 0 then k + 1 else k) (evS (nI k) s (kq c, v)) := by
  obtain ⟨okb, hl, hs, hw⟩ := ok
  unfold X2_playAct
  rw [rf_26_0, e_whyNot h.1 okb c v (fun z => hv.1 (Or.inl (kq0 z))), bs]
  unfold evS
  by_cases w0 : whyB s.1 (kq c) v = 0
  · simp only [w0, if_true]
    by_cases c1 : c = 63
    · have k1 : kq c = 1 := kq1.mpr c1
      rw [if_pos c1, e_here h.1 okb, bs]
      simp only [mw, k1, if_true]
      obtain ⟨hb, a1, a2, a3, a4, a5, a6⟩ := h
      have h2 : EvC (mI M 26 4 (M.1 26 4 ||| (1 : Int32) <<< (hereB s.1 &&& 31))) k (s.1, s.2.1 ||| sh (hereB s.1), s.2.2) :=
        ⟨hb.fr (mI1_ne (by decide)) (mI1_ne (by decide)) (mI1_ne (by decide)) (mI1_ne (by decide)), by simp [mI1, a1], by simp [mI1, a2], by simp [mI1, a3], by simp [mI1, a4, sh], by simp [mI1, a5], by simp [mI1, a6]⟩
      obtain ⟨M1, e1, e2⟩ := e_play52 h2 okb hl c v hv
      refine ⟨M1, e1, e2.eq ?_⟩
      have hsw : s.2.2.2.2 = (-6, -6) := Prod.ext hs hw
      simp only [k1]
      rw [hsw]
    · have k1 : ¬ kq c = 1 := fun z => c1 (kq1.mp z)
      rw [if_neg c1]
      simp only [k1, if_false]
      obtain ⟨M1, e1, e2⟩ := e_play52 h okb hl c v hv
      have hsw : s.2.2.2.2 = (-6, -6) := Prod.ext hs hw
      refine ⟨M1, e1, e2.eq ?_⟩
      rw [hsw]
  · simp only [w0, if_false, mw]
    obtain ⟨hb, a1, a2, a3, a4, a5, a6⟩ := h
    refine ⟨_, rfl, ?_⟩
    exact ⟨hb.fr (by rw [mI1_ne (by decide), mI1_ne (by decide)]) (by rw [mI1_ne (by decide), mI1_ne (by decide)]) (by rw [mI1_ne (by decide), mI1_ne (by decide)]) (by rw [mI1_ne (by decide), mI1_ne (by decide)]), by simp [mI1, a1], by simp [mI1, a1], by simp [mI1], by simp [mI1, a4], by simp [mI1, a5], by simp [mI1, a6]⟩
theorem flr_none {f : Nat → Int32} {k i d : Nat} (h : stp d (f i) = none) : flr f (k + 1) i d = nI i := by show (match stp d (f i) with | none => nI i | some d' => flr f k (i + 1) d') = _; rw [h]
theorem flr_some {f : Nat → Int32} {k i d d' : Nat} (h : stp d (f i) = some d') : flr f (k + 1) i d = flr f k (i + 1) d' := by show (match stp d (f i) with | none => nI i | some d' => flr f k (i + 1) d') = _; rw [h]
theorem acl_some {f : Nat → Int32} {k i d d' : Nat} (h : stp d (f i) = some d') : acl f (k + 1) i d = cls d (f i) ++ acl f k (i + 1) d' := by show (match stp d (f i) with | none => [] | some d' => cls d (f i) ++ acl f k (i + 1) d') = _; rw [h]
theorem nI_n6 {i : Nat} (h : i < 2 ^ 31) : ¬ nI i = -6 := fun z => by
  have h2 : (nI i).toInt = -6 := by rw [z]; rfl
  rw [nI_toInt h] at h2
  omega
theorem okA_0 {v : Int32} (h : ib v 10 = true) : okA (0, v) := ⟨fun _ => h, fun z => by rcases z with z | z <;> exact absurd (show (0 : Int32) = _ from z) (by decide)⟩
theorem okA_4 {v : Int32} (h : ib v 10 = true) : okA (4, v) := ⟨fun _ => h, fun z => by rcases z with z | z <;> exact absurd (show (4 : Int32) = _ from z) (by decide)⟩
theorem okA_2 {v : Int32} (h : ib v 8 = true) : okA (2, v) := ⟨fun z => by rcases z with z | z <;> exact absurd (show (2 : Int32) = _ from z) (by decide), fun _ => h⟩
theorem okA_3 {v : Int32} (h : ib v 8 = true) : okA (3, v) := ⟨fun z => by rcases z with z | z <;> exact absurd (show (3 : Int32) = _ from z) (by decide), fun _ => h⟩
theorem okA_1 (v : Int32) : okA (1, v) := ⟨fun z => by rcases z with z | z <;> exact absurd (show (1 : Int32) = _ from z) (by decide), fun z => by rcases z with z | z <;> exact absurd (show (1 : Int32) = _ from z) (by decide)⟩
theorem okA_5 (v : Int32) : okA (5, v) := ⟨fun z => by rcases z with z | z <;> exact absurd (show (5 : Int32) = _ from z) (by decide), fun z => by rcases z with z | z <;> exact absurd (show (5 : Int32) = _ from z) (by decide)⟩
/-- the first act of what is left of a pad without fault -/
theorem act_first {M : Mem} {p : Pt0} (hp : AtP M 9 8 1 p) (ok : okP p) (K i : Nat) (hi : i + K = p.2) (hK : 1 ≤ K) (hf : flr p.1 K i 0 = -6) : ∃ c o w K' a, X8_kindAt 8 (nI i) M = some (c, M) ∧ X8_operandAt 8 (nI i) M = some (o, M) ∧ X8_widthAt 8 (nI i) M = some (nI w, M) ∧ 1 ≤ w ∧ K = w + K' ∧ flr p.1 K' (i + w) 0 = -6 ∧ acl p.1 K i 0 = a :: acl p.1 K' (i + w) 0 ∧ okA a ∧ kq c = a.1 ∧ (a.1 = 1 ∨ a.1 = 5 ∨ o = a.2) := by
  obtain ⟨K1, rfl⟩ : ∃ K1, K = K1 + 1 := ⟨K - 1, by omega⟩
  have hn := ok.1
  have hs := hp.1 i (by omega)
  have hb := ok.2 i (by omega)
  have hib : ib (nI i) 60 = true := ib_nI (by omega) (by decide)
  unfold X8_kindAt X8_kindAt_b23 X8_operandAt X8_operandAt_b45 X8_operandAt_b64 X8_widthAt X8_widthAt_b17
  simp only [rf_8_0, ix_nI (show i < 2 ^ 31 by omega), hs, hib, gt, bs, e_isLetter hb, e_isOfTwo, bz_eq0]
  cases hst : stp 0 (p.1 i) with
  | none =>
    rw [flr_none hst] at hf
    exact absurd hf (nI_n6 (by omega))
  | some d =>
    rw [flr_some hst] at hf
    rw [acl_some hst]
    have ht := stp_two hst
    by_cases hd : d = 0
    · subst hd
      simp only [decide_true, Bool.not_true] at ht
      simp only [ht, if_true]
      have hne1 : ¬ p.1 i = 43 := fun z => by rw [z] at ht; exact absurd ht (by decide)
      have hne2 : ¬ p.1 i = 45 := fun z => by rw [z] at ht; exact absurd ht (by decide)
      have hne3 : ¬ p.1 i = 61 := fun z => by rw [z] at ht; exact absurd ht (by decide)
      by_cases h46 : p.1 i = 46
      · rw [h46]
        exact ⟨_, _, 1, K1, (5, 0), rfl, rfl, rfl, by omega, by omega, hf, rfl, okA_5 0, rfl, Or.inr (Or.inl rfl)⟩
      by_cases h63 : p.1 i = 63
      · rw [h63]
        exact ⟨_, _, 1, K1, (1, 0), rfl, rfl, rfl, by omega, by omega, hf, rfl, okA_1 0, rfl, Or.inl rfl⟩
      · have hw : wi (p.1 i) 65 74 = true := by
          unfold stp at hst
          simp only [hne1, hne2, hne3, h46, h63, if_false, if_true] at hst
          by_cases z : wi (p.1 i) 65 74 = true
          · exact z
          · rw [if_neg z] at hst; cases hst
        simp only [hw, Bool.true_eq_false, if_false]
        refine ⟨_, _, 1, K1, (0, p.1 i - 65), rfl, rfl, rfl, by omega, by omega, hf, ?_, okA_0 (by rw [let_eq hb]; exact hw), rfl, Or.inr (Or.inr rfl)⟩
        unfold cls
        simp [hne1, hne2, hne3, h46, h63]
    · obtain ⟨-, hc, hdd⟩ := stp_sgn hst hd
      simp only [decide_eq_false hd, Bool.not_false] at ht
      simp only [ht, Bool.true_eq_false, if_false]
      cases K1 with
      | zero =>
        have hf' : (if d = 0 then (-6 : Int32) else nI (i + 1)) = -6 := hf
        rw [if_neg hd] at hf'
        exact absurd hf' (nI_n6 (by omega))
      | succ K2 =>
        have hs2 := hp.1 (i + 1) (by omega)
        have hb2 := ok.2 (i + 1) (by omega)
        have q1 : ¬ M.1 8 1 ≤ nI (i + 1) := by rw [hp.2, le_lit (by omega) (by omega)]; omega
        simp only [L1, q1, if_false, ib_nI (show i + 1 < 60 by omega) (by decide), gt, ix_nI (show i + 1 < 2 ^ 31 by omega), hs2, e_isLetter hb2, bs, bz_eq0]
        cases hst2 : stp d (p.1 (i + 1)) with
        | none =>
          rw [flr_none hst2] at hf
          exact absurd hf (nI_n6 (by omega))
        | some d2 =>
          have z := stp_close hst2 hd
          subst z
          rw [flr_some hst2] at hf
          rw [acl_some hst2]
          have hnl : wi (p.1 i) 65 74 = false := by
            rcases hdd with rfl | rfl | rfl <;> rw [hc] <;> decide
          have hcls0 : cls 0 (p.1 i) = [] := by
            rcases hdd with rfl | rfl | rfl <;> rw [hc] <;> rfl
          rw [hcls0]
          simp only [hnl, if_true]
          generalize p.1 (i + 1) = e at hb2 hst2 ⊢
          have dig : wi e 48 55 = true → wi e 65 74 = false := by
            intro hw
            have h1 := wi_iff.mp hw
            cases z : wi e 65 74
            · rfl
            · have h2 := wi_iff.mp z
              have : (55 : Int32).toInt = 55 := rfl
              have : (65 : Int32).toInt = 65 := rfl
              omega
          rcases hdd with rfl | rfl | rfl
          · have hw : wi e 48 55 = true := by
              unfold stp at hst2
              by_cases z : wi e 48 55 = true
              · exact z
              · simp [z] at hst2
            simp only [dig hw, if_true]
            exact ⟨_, _, 2, K2, (2, e - 48), rfl, rfl, rfl, by omega, by omega, hf, rfl, okA_2 (by rw [dig_eq hb2]; exact hw), by rw [hc]; rfl, Or.inr (Or.inr rfl)⟩
          · have hw : wi e 48 55 = true := by
              unfold stp at hst2
              by_cases z : wi e 48 55 = true
              · exact z
              · simp [z] at hst2
            simp only [dig hw, if_true]
            exact ⟨_, _, 2, K2, (3, e - 48), rfl, rfl, rfl, by omega, by omega, hf, rfl, okA_3 (by rw [dig_eq hb2]; exact hw), by rw [hc]; rfl, Or.inr (Or.inr rfl)⟩
          · have hw : wi e 65 74 = true := by
              unfold stp at hst2
              by_cases z : wi e 65 74 = true
              · exact z
              · simp [z] at hst2
            simp only [hw, Bool.true_eq_false, if_false]
            exact ⟨_, _, 2, K2, (4, e - 65), rfl, rfl, rfl, by omega, by omega, hf, rfl, okA_4 (by rw [let_eq hb2]; exact hw), by rw [hc]; rfl, Or.inr (Or.inr rfl)⟩
