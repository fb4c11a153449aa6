theorem evR_ok : ∀ (L : List (Int32 × Int32)) k s, okE s → (∀ a ∈ L, okA a) → k + L.length < 2 ^ 31 → okE (evR k s L) ∨ (¬ (evR k s L).2.2.2.2.1 < 0 ∧ okB (evR k s L).1) := by
  intro L
  induction L with
  | nil => intro k s h _ _; exact Or.inl h
  | cons a l ih =>
    intro k s h hA hk
    rw [List.length_cons] at hk
    show okE (if whyB s.1 a.1 a.2 = 0 then evR (k + 1) (evS (nI k) s a) l else evS (nI k) s a) ∨ _
    by_cases w0 : whyB s.1 a.1 a.2 = 0
    · have e : evR k s (a :: l) = evR (k + 1) (evS (nI k) s a) l := if_pos w0
      rw [if_pos w0, e]
      exact ih (k + 1) _ (okE_step h (by omega) (hA a List.mem_cons_self) w0) (fun q hq => hA q (List.mem_cons_of_mem _ hq)) (by omega)
    · have e : evR k s (a :: l) = evS (nI k) s a := if_neg w0
      rw [e]
      refine Or.inr ?_
      unfold evS
      rw [if_neg w0]
      exact ⟨nI_pos (by omega), h.1⟩
theorem evE_ok {σ : Sg} (ok : OK σ) : ((evE σ).2.2.2.2.1 = -6 ∧ okB (evE σ).1) ∨ ¬ (evE σ).2.2.2.2.1 < 0 := by
  obtain ⟨hoA, hlen⟩ := acl_ok ok.2.2.1 σ.2.2.1.2 0 0 (by omega) (Or.inl rfl)
  have h60 := ok.2.2.1.1
  rcases evR_ok (acl σ.2.2.1.1 σ.2.2.1.2 0 0) 0 (ev0 σ.1) (okE_0 ok.1) hoA (by omega) with h | h
  · exact Or.inl ⟨h.2.2.1, h.1⟩
  · exact Or.inr h.1
theorem evE_lt {σ : Sg} (ok : OK σ) : ((evE σ).2.2.2.2.1 < 0) = ((evE σ).2.2.2.2.1 = -6) := by
  apply propext
  rcases evE_ok ok with h | h
  · rw [h.1]; exact ⟨fun _ => rfl, fun _ => by decide⟩
  · exact ⟨fun z => absurd z h, fun z => by rw [z] at h; exact absurd (by decide) h⟩
theorem m_putBack {M : Mem} {σ : Sg} (v : Int32) (sv : Sv M σ.1) (r0 : RM0 M σ) : ∃ M', X12_back 45 v M = some (v, M') ∧ RM M' σ ∧ (∀ q, q ≠ 3 → q ≠ 4 → q ≠ 5 → q ≠ 6 → M'.1 45 q = M.1 45 q) := by
  obtain ⟨M', e1, e2, e3⟩ := m_back v sv r0.2.2.2.2.1 r0.2.2.2.2.2
  have fr := fr_X12_back (i0 := 45) v M Sm_refl _ _ e1
  refine ⟨M', e1, ?_, e3⟩
  have r1 : RM0 M' σ := r0.fr (fun c hc => (fr c (by rcases hc with rfl | rfl | rfl | rfl | rfl | rfl <;> decide)).1) (e3 10 (by decide) (by decide) (by decide) (by decide)) (e3 12 (by decide) (by decide) (by decide) (by decide)) (e3 7 (by decide) (by decide) (by decide) (by decide))
  exact r1.full e2
def q_judge (x : Int32) (σ : Sg) : Int32 :=
  if wi x 0 2 = true then (if flE σ = -6 then (if x = 2 then (if (evE σ).2.2.2.2.1 = -6 then (evE σ).2.1 else -3) else if x = 0 then (evE σ).2.2.2.2.1 else (evE σ).2.2.2.2.2) else -5) else -2
theorem wi_02 {x : Int32} (h : wi x 0 2 = true) : x = 0 ∨ x = 1 ∨ x = 2 := by
  obtain ⟨n, ⟨h1, h2⟩, rfl, h3⟩ := wi_nat h (by decide)
  have : (2 : Int32).toInt = 2 := rfl
  have : n = 0 ∨ n = 1 ∨ n = 2 := by omega
  rcases this with rfl | rfl | rfl
  · exact Or.inl rfl
  · exact Or.inr (Or.inl rfl)
  · exact Or.inr (Or.inr rfl)
theorem wi_01 {x : Int32} (h : wi x 0 1 = true) : x = 0 ∨ x = 1 := by
  obtain ⟨n, ⟨h1, h2⟩, rfl, h3⟩ := wi_nat h (by decide)
  have : (1 : Int32).toInt = 1 := rfl
  have : n = 0 ∨ n = 1 := by omega
  rcases this with rfl | rfl
  · exact Or.inl rfl
  · exact Or.inr rfl
theorem wi_03 {x : Int32} (h : wi x 0 3 = true) : x = 0 ∨ x = 1 ∨ x = 2 ∨ x = 3 := by
  obtain ⟨n, ⟨h1, h2⟩, rfl, h3⟩ := wi_nat h (by decide)
  have : (3 : Int32).toInt = 3 := rfl
  have : n = 0 ∨ n = 1 ∨ n = 2 ∨ n = 3 := by omega
  rcases this with rfl | rfl | rfl | rfl
  · exact Or.inl rfl
  · exact Or.inr (Or.inl rfl)
  · exact Or.inr (Or.inr (Or.inl rfl))
  · exact Or.inr (Or.inr (Or.inr rfl))
theorem sim_judge (x : Int32) : Sim (X11_judge 0 x) (X12_judge 45 x) := by
  refine Sim_of (q_judge x) id ?_ ?_ (fun M => fr_X11_judge _ M Sm_refl) (by decide) (fun M => fr_X12_judge _ M Sm_refl) (by decide) (fun _ h => h)
  · intro M σ ok rc
    unfold X11_judge X11_judge_b34 X11_judge_b36 X11_judge_b70 q_judge
    simp only [e_isWithin, bs, bz_eq0]
    cases c1 : wi x 0 2
    · exact ⟨M, rfl, rc⟩
    simp only [Bool.true_eq_false, if_false, if_true]
    by_cases hf : flE σ = -6
    · obtain ⟨M', k', e1, e2, e3, e4⟩ := e_playEvening ok rc hf
      rw [e1, bs]
      simp only [hf, if_true, rf_0_5]
      rw [e2.2.2.1, e2.2.2.2.1, e2.2.2.2.2.1]
      refine ⟨M', ?_, e4⟩
      by_cases hs : (evE σ).2.2.2.2.1 = -6
      · rcases wi_02 c1 with rfl | rfl | rfl <;> simp [hs]
      · rcases wi_02 c1 with rfl | rfl | rfl <;> simp [hs]
    · rw [e_playEvening_no ok rc hf, bs]
      simp only [hf, if_true, if_false]
      exact ⟨M, rfl, rc⟩
  · intro M σ ok rm
    unfold X12_judge X12_judge_b41 X12_judge_b43 X12_judge_b70 q_judge
    simp only [e_in_0_2, bs, bz_eq0]
    cases c1 : wi x 0 2
    · exact ⟨M, rfl, rm⟩
    simp only [Bool.true_eq_false, if_false, if_true]
    by_cases hf : flE σ = -6
    · obtain ⟨M1, e1, e2, e3, e4, -⟩ := m_refusal ok rm hf
      obtain ⟨M2, g1, g2, g3⟩ := m_putBack (if (evE σ).2.2.2.2.1 < 0 then -6 else -3) e3 e4
      rw [e1, bs]
      simp only []
      rw [g1, bs]
      simp only [hf, if_true, evE_lt ok]
      rw [g3 18 (by decide) (by decide) (by decide) (by decide), g3 19 (by decide) (by decide) (by decide) (by decide), g3 16 (by decide) (by decide) (by decide) (by decide), e2.2.1, e2.2.2.1, e2.2.2.2.1]
      refine ⟨M2, ?_, g2⟩
      by_cases hs : (evE σ).2.2.2.2.1 = -6
      · rcases wi_02 c1 with rfl | rfl | rfl <;> simp [hs]
      · rcases wi_02 c1 with rfl | rfl | rfl <;> simp [hs]
    · obtain ⟨M1, e1, e2, e3⟩ := m_refusal_no ok rm hf
      obtain ⟨M2, g1, g2, g3⟩ := m_putBack (-5) e2 e3
      rw [e1, bs]
      simp only []
      rw [g1, bs]
      simp only [hf, if_true, if_false]
      exact ⟨M2, rfl, g2⟩
/-- what is asked behind an evening: g of the evening, if it can be -/
def q_ev (g : ER → Int32) (σ : Sg) : Int32 := if flE σ = -6 then (if (evE σ).2.2.2.2.1 = -6 then g (evE σ) else -3) else -5
def q_his (x : Int32) (σ : Sg) : Int32 := if wi x 0 3 = true then q_ev (fun e => if x = 0 then bC e.1 else if x = 1 then bH e.1 else if x = 2 then bE e.1 else bN e.1) σ else -2
theorem sim_his (x : Int32) : Sim (X11_his 0 x) (X12_his 45 x) := by
  refine Sim_of (q_his x) id ?_ ?_ (fun M => fr_X11_his _ M Sm_refl) (by decide) (fun M => fr_X12_his _ M Sm_refl) (by decide) (fun _ h => h)
  · intro M σ ok rc
    unfold X11_his q_his q_ev
    simp only [e_isWithin, bs, bz_eq0]
    cases c1 : wi x 0 3
    · exact ⟨M, rfl, rc⟩
    simp only [Bool.true_eq_false, if_false, if_true]
    by_cases hf : flE σ = -6
    · obtain ⟨M', k', e1, e2, e3, e4⟩ := e_playEvening ok rc hf
      rw [e1, bs]
      simp only [hf, if_true, rf_0_5, rf_26_0]
      rw [e2.1.2.2.2.1, e2.1.2.2.2.2.1, e2.1.2.2.2.2.2.1, e2.1.2.2.2.2.2.2.1]
      refine ⟨M', ?_, e4⟩
      by_cases hs : (evE σ).2.2.2.2.1 = -6
      · rcases wi_03 c1 with rfl | rfl | rfl | rfl <;> simp [hs]
      · simp [hs]
    · rw [e_playEvening_no ok rc hf, bs]
      simp only [hf, if_false]
      exact ⟨M, rfl, rc⟩
  · intro M σ ok rm
    unfold X12_his X12_his_b70 q_his q_ev
    simp only [e_in_0_3, bs, bz_eq0]
    cases c1 : wi x 0 3
    · exact ⟨M, rfl, rm⟩
    simp only [Bool.true_eq_false, if_false, if_true]
    by_cases hf : flE σ = -6
    · obtain ⟨M1, e1, e2, e3, e4, -⟩ := m_refusal ok rm hf
      have pb := fun v => m_putBack v e3 e4
      rw [e1, bs]
      simp only [hf, if_true, evE_lt ok]
      rw [e2.1.2.2.2.1, e2.1.2.2.2.2.1, e2.1.2.2.2.2.2.1, e2.1.2.2.2.2.2.2.1]
      by_cases hs : (evE σ).2.2.2.2.1 = -6
      · simp only [hs, if_true]
        rcases wi_03 c1 with rfl | rfl | rfl | rfl
        · obtain ⟨M2, g1, g2, -⟩ := pb (bC (evE σ).1); exact ⟨M2, by simp [g1], g2⟩
        · obtain ⟨M2, g1, g2, -⟩ := pb (bH (evE σ).1); exact ⟨M2, by simp [g1], g2⟩
        · obtain ⟨M2, g1, g2, -⟩ := pb (bE (evE σ).1); exact ⟨M2, by simp [g1], g2⟩
        · obtain ⟨M2, g1, g2, -⟩ := pb (bN (evE σ).1); exact ⟨M2, by simp [g1], g2⟩
      · obtain ⟨M2, g1, g2, -⟩ := pb (-3)
        exact ⟨M2, by simp [hs, g1], g2⟩
    · obtain ⟨M1, e1, e2, e3⟩ := m_refusal_no ok rm hf
      obtain ⟨M2, g1, g2, g3⟩ := m_putBack (-5) e2 e3
      rw [e1, bs]
      exact ⟨M2, by simp [hf, g1], g2⟩
def q_behind (x y : Int32) (σ : Sg) : Int32 := if ib x 10 = true then (if wi y 0 1 = true then q_ev (fun e => if y = 0 then bS e.1 x.toNatClampNeg else bT e.1 (bS e.1 x.toNatClampNeg).toNatClampNeg) σ else -2) else -1
theorem sim_behind (x y : Int32) : Sim (X11_behind 0 x y) (X12_behind 45 x y) := by
  refine Sim_of (q_behind x y) id ?_ ?_ (fun M => fr_X11_behind _ _ M Sm_refl) (by decide) (fun M => fr_X12_behind _ _ M Sm_refl) (by decide) (fun _ h => h)
  · intro M σ ok rc
    unfold X11_behind X11_behind_b68 q_behind q_ev
    simp only [e_isCabin, e_isWithin, bs, bz_eq0]
    cases c0 : ib x 10
    · exact ⟨M, rfl, rc⟩
    cases c1 : wi y 0 1
    · exact ⟨M, rfl, rc⟩
    simp only [Bool.true_eq_false, if_false, if_true]
    by_cases hf : flE σ = -6
    · obtain ⟨M', k', e1, e2, e3, e4⟩ := e_playEvening ok rc hf
      rw [e1, bs]
      simp only [hf, if_true, rf_0_5, rf_26_0, gt]
      rw [e2.1.1 _ (ib_lt c0)]
      refine ⟨M', ?_, e4⟩
      by_cases hs : (evE σ).2.2.2.2.1 = -6
      · have okb : okB (evE σ).1 := by
          rcases evE_ok ok with h | h
          · exact h.2
          · rw [hs] at h; exact absurd (by decide) h
        have hb := okb.1 _ (ib_lt c0)
        simp only [hs, if_true, iw]
        rw [hb, gt, e2.1.2.1 _ (ib_lt hb)]
        rcases wi_01 c1 with rfl | rfl <;> simp
      · simp [hs]
    · rw [e_playEvening_no ok rc hf, bs]
      simp only [hf, if_false]
      exact ⟨M, rfl, rc⟩
  · intro M σ ok rm
    unfold X12_behind X12_behind_b62 q_behind q_ev
    simp only [m_isCabin, e_in_0_1, bs, bz_eq0]
    cases c0 : ib x 10
    · exact ⟨M, rfl, rm⟩
    cases c1 : wi y 0 1
    · exact ⟨M, rfl, rm⟩
    simp only [Bool.true_eq_false, if_false, if_true]
    by_cases hf : flE σ = -6
    · obtain ⟨M1, e1, e2, e3, e4, -⟩ := m_refusal ok rm hf
      have pb := fun v => m_putBack v e3 e4
      rw [e1, bs]
      simp only [hf, if_true, evE_lt ok, gt]
      rw [e2.1.1 _ (ib_lt c0)]
      by_cases hs : (evE σ).2.2.2.2.1 = -6
      · have okb : okB (evE σ).1 := by
          rcases evE_ok ok with h | h
          · exact h.2
          · rw [hs] at h; exact absurd (by decide) h
        have hb := okb.1 _ (ib_lt c0)
        simp only [hs, if_true]
        rw [hb, gt, e2.1.2.1 _ (ib_lt hb)]
        rcases wi_01 c1 with rfl | rfl
        · obtain ⟨M2, g1, g2, -⟩ := pb (bS (evE σ).1 x.toNatClampNeg); exact ⟨M2, by simp [g1], g2⟩
        · obtain ⟨M2, g1, g2, -⟩ := pb (bT (evE σ).1 (bS (evE σ).1 x.toNatClampNeg).toNatClampNeg); exact ⟨M2, by simp [g1], g2⟩
      · obtain ⟨M2, g1, g2, -⟩ := pb (-3)
        exact ⟨M2, by simp [hs, g1], g2⟩
    · obtain ⟨M1, e1, e2, e3⟩ := m_refusal_no ok rm hf
      obtain ⟨M2, g1, g2, g3⟩ := m_putBack (-5) e2 e3
      rw [e1, bs]
      exact ⟨M2, by simp [hf, g1], g2⟩
def q_wrong (x : Int32) (σ : Sg) : Int32 := if wi x 0 2 = true then q_ev (fun e => if x = 0 then nI (wrN e.1) else if x = 1 then e.2.2.1 else e.2.2.2.1) σ else -2
theorem sim_wrong (x : Int32) : Sim (X11_wrong 0 x) (X12_wrong 45 x) := by
  refine Sim_of (q_wrong x) id ?_ ?_ (fun M => fr_X11_wrong _ M Sm_refl) (by decide) (fun M => fr_X12_wrong _ M Sm_refl) (by decide) (fun _ h => h)
  · intro M σ ok rc
    unfold X11_wrong X11_wrong_b60 q_wrong q_ev
    simp only [e_isWithin, bs, bz_eq0]
    cases c1 : wi x 0 2
    · exact ⟨M, rfl, rc⟩
    simp only [Bool.true_eq_false, if_false, if_true]
    by_cases hf : flE σ = -6
    · obtain ⟨M', k', e1, e2, e3, e4⟩ := e_playEvening ok rc hf
      rw [e1, bs]
      simp only [hf, if_true, rf_0_5, rf_26_0]
      rw [e_strangers e2.1, e2.2.2.2.2.2.1, e2.2.2.2.2.2.2]
      refine ⟨M', ?_, e4⟩
      by_cases hs : (evE σ).2.2.2.2.1 = -6
      · rcases wi_02 c1 with rfl | rfl | rfl <;> simp [hs]
      · simp [hs]
    · rw [e_playEvening_no ok rc hf, bs]
      simp only [hf, if_false]
      exact ⟨M, rfl, rc⟩
  · intro M σ ok rm
    unfold X12_wrong X12_wrong_b58 q_wrong q_ev
    simp only [e_in_0_2, bs, bz_eq0]
    cases c1 : wi x 0 2
    · exact ⟨M, rfl, rm⟩
    simp only [Bool.true_eq_false, if_false, if_true]
    by_cases hf : flE σ = -6
    · obtain ⟨M1, e1, e2, e3, e4, -⟩ := m_refusal ok rm hf
      have pb := fun v => m_putBack v e3 e4
      rw [e1, bs]
      simp only [hf, if_true, evE_lt ok]
      rw [m_wrongMany e2.1, e2.2.2.2.2.1, e2.2.2.2.2.2]
      by_cases hs : (evE σ).2.2.2.2.1 = -6
      · simp only [hs, if_true]
        rcases wi_02 c1 with rfl | rfl | rfl
        · obtain ⟨M2, g1, g2, -⟩ := pb (nI (wrN (evE σ).1)); exact ⟨M2, by simp [g1], g2⟩
        · obtain ⟨M2, g1, g2, -⟩ := pb ((evE σ).2.2.1); exact ⟨M2, by simp [g1], g2⟩
        · obtain ⟨M2, g1, g2, -⟩ := pb ((evE σ).2.2.2.1); exact ⟨M2, by simp [g1], g2⟩
      · obtain ⟨M2, g1, g2, -⟩ := pb (-3)
        exact ⟨M2, by simp [hs, g1], g2⟩
    · obtain ⟨M1, e1, e2, e3⟩ := m_refusal_no ok rm hf
      obtain ⟨M2, g1, g2, g3⟩ := m_putBack (-5) e2 e3
      rw [e1, bs]
      exact ⟨M2, by simp [hf, g1], g2⟩
/-! done -/
def q_done (σ : Sg) : Int32 × Sg := if flE σ = -6 then (if (evE σ).2.2.2.2.1 = -6 then (nI (acl σ.2.2.1.1 σ.2.2.1.2 0 0).length, ((evE σ).1, σ.2.1, (σ.2.2.1.1, 0), σ.2.2.2)) else (-3, σ)) else (-5, σ)
theorem sim_done : Sim (X11_done 0) (X12_done 45) := by
  refine Sim_of (fun σ => (q_done σ).1) (fun σ => (q_done σ).2) ?_ ?_ (fun M => fr_X11_done M Sm_refl) (by decide) (fun M => fr_X12_done M Sm_refl) (by decide) ?_
  · intro M σ ok rc
    unfold X11_done q_done
    by_cases hf : flE σ = -6
    · obtain ⟨M', k', e1, e2, e3, e4⟩ := e_playEvening ok rc hf
      rw [e1, bs]
      simp only [hf, if_true]
      by_cases hs : (evE σ).2.2.2.2.1 = -6
      · obtain ⟨M2, g1, g2⟩ := e_takeOver (i := 1) (j := 27) BI_1 e2.1 (by decide) (by decide) (by decide) (by decide)
        have fr2 := fr_X0_takeOver (i0 := 1) (i1 := 27) M' Sm_refl _ _ g1
        simp only [hs, if_true, rf_0_0, rf_0_5, rf_26_0, rf_0_2, g1, bs]
        refine ⟨_, ?_, ((e4.bath (M' := M2) g2 (fun c hc => (fr2 c ?_).1)).pad (M' := mI M2 8 1 0) (p := (σ.2.2.1.1, 0)) ⟨fun j hj => absurd hj (Nat.not_lt_zero j), by simp [mI1]; rfl⟩ (fun c _ h8 _ => mI1_ne h8))⟩
        · rw [mI1_ne (by decide), (fr2 26 (by decide)).1, e2.2.1, e3 hs]
        · have : ∀ c ∈ [rf 1 0, rf 1 1, rf 1 2, 1], ¬ (5 ≤ c ∧ c < 26 ∨ c = 42) := by decide
          exact fun z => this c (by simpa using z) hc
      · simp only [hs, if_false, show ¬ (-3 : Int32) = 0 by decide]
        exact ⟨M', rfl, e4⟩
    · rw [e_playEvening_no ok rc hf, bs]
      simp only [hf, if_false, show ¬ (-5 : Int32) = 0 by decide]
      exact ⟨M, rfl, rc⟩
  · intro M σ ok rm
    unfold X12_done q_done
    by_cases hf : flE σ = -6
    · obtain ⟨M1, e1, e2, e3, e4, e5⟩ := m_refusal ok rm hf
      rw [e1, bs]
      simp only [hf, if_true, evE_lt ok]
      by_cases hs : (evE σ).2.2.2.2.1 = -6
      · simp only [hs, if_true]
        refine ⟨_, ?_, (e4.full e2.1).pad (M' := mI M1 45 12 0) (p := (σ.2.2.1.1, 0)) ⟨fun j hj => absurd hj (Nat.not_lt_zero j), by simp [mI1]; rfl⟩ (fun c hc => mI1_ne (by omega)) (fun j hj => by rw [mI1, if_neg hj])⟩
        rw [mI1, if_neg (by decide), e5]
      · obtain ⟨M2, g1, g2, -⟩ := m_putBack (-3) e3 e4
        simp only [hs, if_false, show ¬ (-3 : Int32) = -6 by decide, g1, bs]
        exact ⟨M2, rfl, g2⟩
    · obtain ⟨M1, e1, e2, e3⟩ := m_refusal_no ok rm hf
      obtain ⟨M2, g1, g2, g3⟩ := m_putBack (-5) e2 e3
      rw [e1, bs]
      simp only [hf, if_false, show ¬ (-5 : Int32) = -6 by decide, g1, bs]
      exact ⟨M2, rfl, g2⟩
  · intro σ ok
    show OK (q_done σ).2
    unfold q_done
    split
    · split
      · rename_i hf hs
        have okb : okB (evE σ).1 := by
          rcases evE_ok ok with h | h
          · exact h.2
          · rw [hs] at h; exact absurd (by decide) h
        exact ⟨okb, ok.2.1, ⟨by show 0 ≤ 60; omega, fun j hj => absurd hj (Nat.not_lt_zero j)⟩, ok.2.2.2⟩
      · exact ok
    · exact ok
