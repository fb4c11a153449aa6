/-! clock, attendant -/
def q_clock (x1 x2 : Int32) (σ : Sg) : Int32 × Sg :=
  if ib x1 100 = true then (if ib x2 100 = true then (100 * bN σ.1 + bL σ.1, ((bS σ.1, bT σ.1, bM σ.1, bC σ.1, bH σ.1, bE σ.1, x1, x2), σ.2)) else (-2, σ)) else (-2, σ)
theorem sim_clock (x1 x2 : Int32) : Sim (X11_clock 0 x1 x2) (X12_clock 45 x1 x2) := by
  refine Sim_of (fun σ => (q_clock x1 x2 σ).1) (fun σ => (q_clock x1 x2 σ).2) ?_ ?_ (fun M => fr_X11_clock _ _ M Sm_refl) (by decide) (fun M => fr_X12_clock _ _ M Sm_refl) (by decide) ?_
  · intro M σ ok rc
    unfold X11_clock X11_clock_b20 q_clock
    simp only [e_isWithin, bs, bz_eq0, rf_0_0, wi_ib x1 99 100 (by decide), wi_ib x2 99 100 (by decide)]
    cases c1 : ib x1 100
    · exact ⟨M, rfl, rc⟩
    cases c2 : ib x2 100
    · exact ⟨M, rfl, rc⟩
    simp only [if_true]
    refine ⟨_, by rw [rc.1.2.2.2.2.2.2.1, rc.1.2.2.2.2.2.2.2]; rfl, rc.bath (((rc.1.setN BI_1 x1).setL BI_1 x2).eq rfl) ?_⟩
    intro c hc
    rw [mI1_ne (by omega), mI1_ne (by omega)]
  · intro M σ ok rm
    unfold X12_clock X12_clock_b24 q_clock
    simp only [e_in_0_99, bs, bz_eq0, iw, wi_ib x1 99 100 (by decide), wi_ib x2 99 100 (by decide)]
    cases c1 : ib x1 100
    · exact ⟨M, rfl, rm⟩
    cases c2 : ib x2 100
    · exact ⟨M, rfl, rm⟩
    simp only [if_true]
    refine ⟨_, by rw [rm.1.2.2.2.2.2.2.1, rm.1.2.2.2.2.2.2.2]; rfl, rm.bath (((rm.1.setN BI_45 x1).setL BI_45 x2).eq rfl) ?_ ?_ ?_⟩
    · intro c hc
      rw [mI1_ne (by omega), mI1_ne (by omega)]
    · simp [mI1]
    · simp [mI1]
  · intro σ ok
    show OK (q_clock x1 x2 σ).2
    unfold q_clock
    split
    · split
      · rename_i c1 c2
        obtain ⟨⟨o1, o2, o3, o4, o5, o6, o7, o8⟩, orest⟩ := ok
        exact ⟨⟨o1, o2, o3, o4, o5, o6, c1, c2⟩, orest⟩
      · exact ok
    · exact ok
def q_attendant (x1 x2 x3 : Int32) (σ : Sg) : Int32 × Sg :=
  if ib x1 10 = true then (if ib x2 256 = true then (if ib x3 256 = true then (bC σ.1, ((bS σ.1, bT σ.1, bM σ.1, x1, x2, x3, bN σ.1, bL σ.1), σ.2)) else (-2, σ)) else (-2, σ)) else (-1, σ)
theorem sim_attendant (x1 x2 x3 : Int32) : Sim (X11_attendant 0 x1 x2 x3) (X12_attendant 45 x1 x2 x3) := by
  refine Sim_of (fun σ => (q_attendant x1 x2 x3 σ).1) (fun σ => (q_attendant x1 x2 x3 σ).2) ?_ ?_ (fun M => fr_X11_attendant _ _ _ M Sm_refl) (by decide) (fun M => fr_X12_attendant _ _ _ M Sm_refl) (by decide) ?_
  · intro M σ ok rc
    unfold X11_attendant X11_attendant_b23 q_attendant
    simp only [e_isCabin, e_isThingSet, bs, bz_eq0, rf_0_0, mw]
    cases c1 : ib x1 10
    · exact ⟨M, rfl, rc⟩
    cases c2 : ib x2 256
    · exact ⟨M, rfl, rc⟩
    cases c3 : ib x3 256
    · exact ⟨M, rfl, rc⟩
    simp only [if_true]
    refine ⟨_, by rw [rc.1.2.2.2.1]; rfl, rc.bath ((((rc.1.setC BI_1 x1).setH BI_1 x2).setE BI_1 x3).eq rfl) ?_⟩
    intro c hc
    rw [mI1_ne (by omega), mI1_ne (by omega), mI1_ne (by omega)]
  · intro M σ ok rm
    unfold X12_attendant X12_attendant_b33 q_attendant
    simp only [m_isCabin, e_in_0_255, bs, bz_eq0, mw, wi_ib x2 255 256 (by decide), wi_ib x3 255 256 (by decide)]
    cases c1 : ib x1 10
    · exact ⟨M, rfl, rm⟩
    cases c2 : ib x2 256
    · exact ⟨M, rfl, rm⟩
    cases c3 : ib x3 256
    · exact ⟨M, rfl, rm⟩
    simp only [if_true]
    refine ⟨_, by rw [rm.1.2.2.2.1]; rfl, rm.bath ((((rm.1.setC BI_45 x1).setH BI_45 x2).setE BI_45 x3).eq rfl) ?_ ?_ ?_⟩
    · intro c hc
      rw [mI1_ne (by omega), mI1_ne (by omega), mI1_ne (by omega)]
    · simp [mI1]
    · simp [mI1]
  · intro σ ok
    show OK (q_attendant x1 x2 x3 σ).2
    unfold q_attendant
    split
    · split
      · split
        · rename_i c1 c2 c3
          obtain ⟨⟨o1, o2, o3, o4, o5, o6, o7, o8⟩, orest⟩ := ok
          exact ⟨⟨o1, o2, o3, c1, c2, c3, o7, o8⟩, orest⟩
        · exact ok
      · exact ok
    · exact ok
/-! the pad: say, wipe -/
theorem RC.pad {M M' : Mem} {σ : Sg} {p : Pt0} (h : RC M σ) (hp : AtP M' 9 8 1 p) (e : ∀ c, (c < 26 ∨ c = 42) → c ≠ 8 → c ≠ 9 → M'.1 c = M.1 c) : RC M' (σ.1, σ.2.1, p, σ.2.2.2) := by
  obtain ⟨h1, h2, h3, h4, h5, h6⟩ := h
  refine ⟨h1.fr (e _ (by decide) (by decide) (by decide)) (e _ (by decide) (by decide) (by decide)) (e _ (by decide) (by decide) (by decide)) (e _ (by decide) (by decide) (by decide)), h2.fr (e _ (by decide) (by decide) (by decide)) (e _ (by decide) (by decide) (by decide)) (by rw [e _ (by decide) (by decide) (by decide)]), hp, h4.fr (e _ (by decide) (by decide) (by decide)) (e _ (by decide) (by decide) (by decide)) (e _ (by decide) (by decide) (by decide)) (e _ (by decide) (by decide) (by decide)) (e _ (by decide) (by decide) (by decide)) (e _ (by decide) (by decide) (by decide)) (e _ (by decide) (by decide) (by decide)) (e _ (by decide) (by decide) (by decide)), h5.fr (e _ (by decide) (by decide) (by decide)) (e _ (by decide) (by decide) (by decide)) (e _ (by decide) (by decide) (by decide)) (e _ (by decide) (by decide) (by decide)) (e _ (by decide) (by decide) (by decide)) (e _ (by decide) (by decide) (by decide)) (e _ (by decide) (by decide) (by decide)) (e _ (by decide) (by decide) (by decide)), fun a ha => by rw [e _ (by decide) (by decide) (by decide)]; exact h6 a ha⟩
theorem RM.pad {M M' : Mem} {σ : Sg} {p : Pt0} (h : RM M σ) (hp : AtP M' 51 45 12 p) (e : ∀ c, (c = 46 ∨ c = 47 ∨ c = 48 ∨ c = 49 ∨ c = 50 ∨ c = 60 ∨ c = 61) → M'.1 c = M.1 c) (e1 : ∀ j, j ≠ 12 → M'.1 45 j = M.1 45 j) : RM M' (σ.1, σ.2.1, p, σ.2.2.2) := by
  obtain ⟨⟨a0, a1, a2, a3, a4, a5, a6, a7⟩, h2, h3, h4, h5⟩ := h
  exact ⟨⟨fun j hj => by rw [e _ (by decide)]; exact a0 j hj, fun j hj => by rw [e _ (by decide)]; exact a1 j hj, fun j hj => by rw [e _ (by decide)]; exact a2 j hj, by rw [e1 _ (by decide)]; exact a3, by rw [e1 _ (by decide)]; exact a4, by rw [e1 _ (by decide)]; exact a5, by rw [e1 _ (by decide)]; exact a6, by rw [e1 _ (by decide)]; exact a7⟩, h2.fr (e _ (by decide)) (e _ (by decide)) (e1 _ (by decide)), hp, h4.fr (e _ (by decide)) (e _ (by decide)), h5.fr (e _ (by decide)) (e _ (by decide))⟩
def q_say (x : Int32) (σ : Sg) : Int32 × Sg :=
  if wi x 33 126 = true then (if σ.2.2.1.2 < 60 then (nI (σ.2.2.1.2 + 1), (σ.1, σ.2.1, (upd σ.2.2.1.1 σ.2.2.1.2 x, σ.2.2.1.2 + 1), σ.2.2.2)) else (-4, σ)) else (-2, σ)
theorem wi_127 {x : Int32} (h : wi x 33 126 = true) : ib x 127 = true := by
  have := wi_iff.mp h
  exact ib_iff.mpr ⟨by have : (33 : Int32).toInt = 33 := rfl; omega, by have : (126 : Int32).toInt = 126 := rfl; omega⟩
theorem upd_lt {f g : Nat → Int32} {n : Nat} {x : Int32} (h : ∀ j, j < n → f j = g j) : ∀ j, j < n + 1 → upd f n x j = upd g n x j := by
  intro j hj
  unfold upd
  by_cases e : j = n
  · rw [if_pos e, if_pos e]
  · rw [if_neg e, if_neg e]; exact h j (by omega)
theorem sim_say (x : Int32) : Sim (X11_say 0 x) (X12_say 45 x) := by
  refine Sim_of (fun σ => (q_say x σ).1) (fun σ => (q_say x σ).2) ?_ ?_ (fun M => fr_X11_say _ M Sm_refl) (by decide) (fun M => fr_X12_say _ M Sm_refl) (by decide) ?_
  · intro M σ ok rc
    obtain ⟨hp1, hp2⟩ := rc.2.2.1
    have hn := ok.2.2.1.1
    unfold X11_say X11_say_b37 X8_write q_say
    simp only [e_isWithin, bs, bz_eq0, rf_0_2, rf_8_0]
    cases c1 : wi x 33 126
    · exact ⟨M, rfl, rc⟩
    by_cases c2 : σ.2.2.1.2 < 60
    · have e1 : M.1 8 1 < 60 := by rw [hp2]; exact nI_lt c2 (by decide)
      have e2 : ib (M.1 8 1) 60 = true := by rw [hp2]; exact ib_nI c2 (by decide)
      have e3 : (mI M 9 (M.1 8 1).toNatClampNeg x).1 8 1 = nI σ.2.2.1.2 := by rw [mI1_ne (by decide)]; exact hp2
      simp only [e1, e2, gt, if_true, c2, bs, e3]
      refine ⟨mI (mI M 9 (M.1 8 1).toNatClampNeg x) 8 1 (nI σ.2.2.1.2 + 1), ?_, rc.pad ⟨?_, ?_⟩ ?_⟩
      · simp [mI1, nI_1]
      · intro j hj
        rw [mI1_ne (by decide), hp2, ix_nI (by omega)]
        show (mR M 9 _).1 9 j = _
        rw [mR_at]
        exact upd_lt hp1 j hj
      · simp [mI1, nI_1]
      · intro c hc h8 h9
        rw [mI1_ne h8, mI1_ne h9]
    · have e1 : ¬ M.1 8 1 < 60 := by rw [hp2]; exact nI_nlt (a := σ.2.2.1.2) (b := 60) (by omega) (by omega)
      simp only [e1, c2, if_false, if_true, bs]
      exact ⟨M, rfl, rc⟩
  · intro M σ ok rm
    obtain ⟨hp1, hp2⟩ := rm.2.2.1
    have hn := ok.2.2.1.1
    unfold X12_say q_say
    simp only [e_in_33_126, bs, bz_eq0, rf_45_11]
    cases c1 : wi x 33 126
    · exact ⟨M, rfl, rm⟩
    by_cases c2 : σ.2.2.1.2 < 60
    · have e1 : ¬ M.1 45 12 = 60 := by rw [hp2]; exact fun z => by have := (nI_eq (a := σ.2.2.1.2) (b := 60) (by omega) (by decide)).mp z; omega
      have e2 : ib (M.1 45 12) 60 = true := by rw [hp2]; exact ib_nI c2 (by decide)
      have e3 : (mI M 51 (M.1 45 12).toNatClampNeg x).1 45 12 = nI σ.2.2.1.2 := by rw [mI1_ne (by decide)]; exact hp2
      simp only [e1, e2, gt, if_true, if_false, c2, e3]
      refine ⟨mI (mI M 51 (M.1 45 12).toNatClampNeg x) 45 12 (nI σ.2.2.1.2 + 1), ?_, rm.pad ⟨?_, ?_⟩ ?_ ?_⟩
      · simp [mI1, nI_1]
      · intro j hj
        rw [mI1_ne (by decide), hp2, ix_nI (by omega)]
        show (mR M 51 _).1 51 j = _
        rw [mR_at]
        exact upd_lt hp1 j hj
      · simp [mI1, nI_1]
      · intro c hc
        rw [mI1_ne (by omega), mI1_ne (by omega)]
      · intro j hj
        rw [mI1, if_neg hj, mI1_ne (by decide)]
    · have e1 : M.1 45 12 = 60 := by rw [hp2]; have : σ.2.2.1.2 = 60 := by omega
                                     rw [this]; rfl
      simp only [e1, c2, if_false, if_true]
      exact ⟨M, rfl, rm⟩
  · intro σ ok
    show OK (q_say x σ).2
    unfold q_say
    split
    · split
      · rename_i c1 c2
        refine ⟨ok.1, ok.2.1, ⟨by show σ.2.2.1.2 + 1 ≤ 60; omega, fun j hj => ?_⟩, ok.2.2.2⟩
        show ib (upd _ _ _ j) 127 = true
        unfold upd
        split
        · exact wi_127 c1
        · exact ok.2.2.1.2 j (by have : j < σ.2.2.1.2 + 1 := hj; omega)
      · exact ok
    · exact ok
theorem sim_wipe : Sim (X11_wipe 0) (X12_wipe 45) := by
  refine Sim_of (fun σ => nI σ.2.2.1.2) (fun σ => (σ.1, σ.2.1, (σ.2.2.1.1, 0), σ.2.2.2)) ?_ ?_ (fun M => fr_X11_wipe M Sm_refl) (by decide) (fun M => fr_X12_wipe M Sm_refl) (by decide) ?_
  · intro M σ ok rc
    unfold X11_wipe
    rw [rf_0_2]
    refine ⟨_, by rw [rc.2.2.1.2], rc.pad ⟨fun j hj => absurd hj (Nat.not_lt_zero j), by simp [mI1]; rfl⟩ (fun c hc h8 h9 => mI1_ne h8)⟩
  · intro M σ ok rm
    unfold X12_wipe
    refine ⟨_, by rw [rm.2.2.1.2], rm.pad ⟨fun j hj => absurd hj (Nat.not_lt_zero j), by simp [mI1]; rfl⟩ (fun c hc => mI1_ne (by omega)) (fun j hj => by rw [mI1, if_neg hj])⟩
  · intro σ ok
    exact ⟨ok.1, ok.2.1, ⟨by show 0 ≤ 60; omega, fun j hj => absurd hj (Nat.not_lt_zero j)⟩, ok.2.2.2⟩
/-! the notes: found, forget -/
theorem RC.notes {M M' : Mem} {σ : Sg} {n : Nt} (h : RC M σ) (hp : AtN M' 6 7 5 2 n) (e : ∀ c, (c < 26 ∨ c = 42) → c ≠ 5 → c ≠ 6 → c ≠ 7 → M'.1 c = M.1 c) : RC M' (σ.1, n, σ.2.2) := by
  obtain ⟨h1, h2, h3, h4, h5, h6⟩ := h
  have e' : ∀ c, ((c < 26 ∨ c = 42) ∧ c ≠ 5 ∧ c ≠ 6 ∧ c ≠ 7) → M'.1 c = M.1 c := fun c hc => e c hc.1 hc.2.1 hc.2.2.1 hc.2.2.2
  refine ⟨h1.fr (e' _ (by decide)) (e' _ (by decide)) (e' _ (by decide)) (e' _ (by decide)), hp, h3.fr (e' _ (by decide)) (by rw [e' _ (by decide)]), h4.fr (e' _ (by decide)) (e' _ (by decide)) (e' _ (by decide)) (e' _ (by decide)) (e' _ (by decide)) (e' _ (by decide)) (e' _ (by decide)) (e' _ (by decide)), h5.fr (e' _ (by decide)) (e' _ (by decide)) (e' _ (by decide)) (e' _ (by decide)) (e' _ (by decide)) (e' _ (by decide)) (e' _ (by decide)) (e' _ (by decide)), fun a ha => by rw [e' _ (by decide)]; exact h6 a ha⟩
theorem RM.notes {M M' : Mem} {σ : Sg} {n : Nt} (h : RM M σ) (hp : AtN M' 49 50 45 10 n) (e : ∀ c, (c = 46 ∨ c = 47 ∨ c = 48 ∨ c = 51 ∨ c = 60 ∨ c = 61) → M'.1 c = M.1 c) (e1 : ∀ j, j ≠ 10 → M'.1 45 j = M.1 45 j) : RM M' (σ.1, n, σ.2.2) := by
  obtain ⟨⟨a0, a1, a2, a3, a4, a5, a6, a7⟩, h2, h3, h4, h5⟩ := h
  exact ⟨⟨fun j hj => by rw [e _ (by decide)]; exact a0 j hj, fun j hj => by rw [e _ (by decide)]; exact a1 j hj, fun j hj => by rw [e _ (by decide)]; exact a2 j hj, by rw [e1 _ (by decide)]; exact a3, by rw [e1 _ (by decide)]; exact a4, by rw [e1 _ (by decide)]; exact a5, by rw [e1 _ (by decide)]; exact a6, by rw [e1 _ (by decide)]; exact a7⟩, hp, h3.fr (e _ (by decide)) (e1 _ (by decide)), h4.fr (e _ (by decide)) (e _ (by decide)), h5.fr (e _ (by decide)) (e _ (by decide))⟩
def q_found (d t : Int32) (σ : Sg) : Int32 × Sg :=
  if ib t 8 = true then (if ib d 61 = true then (if σ.2.1.2.2 < 8 then (nI (σ.2.1.2.2 + 1), (σ.1, (upd σ.2.1.1 σ.2.1.2.2 d, upd σ.2.1.2.1 σ.2.1.2.2 t, σ.2.1.2.2 + 1), σ.2.2)) else (-4, σ)) else (-2, σ)) else (-1, σ)
theorem sim_found (d t : Int32) : Sim (X11_found 0 d t) (X12_found 45 d t) := by
  refine Sim_of (fun σ => (q_found d t σ).1) (fun σ => (q_found d t σ).2) ?_ ?_ (fun M => fr_X11_found _ _ M Sm_refl) (by decide) (fun M => fr_X12_found _ _ M Sm_refl) (by decide) ?_
  · intro M σ ok rc
    obtain ⟨hp1, hp2, hp3⟩ := rc.2.1
    have hn := ok.2.1.1
    unfold X11_found X11_found_b46 X7_write q_found
    simp only [e_isThing, e_isWithin, bs, bz_eq0, rf_0_1, rf_5_0, rf_5_1, wi_ib d 60 61 (by decide), mw]
    cases c1 : ib t 8
    · exact ⟨M, rfl, rc⟩
    cases c0 : ib d 61
    · exact ⟨M, rfl, rc⟩
    by_cases c2 : σ.2.1.2.2 < 8
    · have e1 : M.1 5 2 < 8 := by rw [hp3]; exact nI_lt c2 (by decide)
      have e2 : ib (M.1 5 2) 8 = true := by rw [hp3]; exact ib_nI c2 (by decide)
      have e3 : (mI M 6 (M.1 5 2).toNatClampNeg d).1 5 2 = M.1 5 2 := by rw [mI1_ne (by decide)]
      have e4 : (mI (mI M 6 (M.1 5 2).toNatClampNeg d) 7 (M.1 5 2).toNatClampNeg t).1 5 2 = M.1 5 2 := by rw [mI1_ne (by decide), mI1_ne (by decide)]
      simp only [e3, e4, e1, e2, gt, if_true, c2, bs]
      rw [hp3, ix_nI (by omega)]
      refine ⟨mI (mI (mI M 6 σ.2.1.2.2 d) 7 σ.2.1.2.2 t) 5 2 (nI σ.2.1.2.2 + 1), ?_, rc.notes ⟨?_, ?_, ?_⟩ ?_⟩
      · simp [mI1, nI_1]
      · intro j hj
        rw [mI1_ne (by decide), mI1_ne (by decide)]
        show (mR M 6 _).1 6 j = _
        rw [mR_at]
        exact upd_lt hp1 j hj
      · intro j hj
        rw [mI1_ne (by decide)]
        show (mR _ 7 _).1 7 j = _
        rw [mR_at, mI1_ne (by decide)]
        exact upd_lt hp2 j hj
      · simp [mI1, nI_1]
      · intro c hc h5 h6 h7
        rw [mI1_ne h5, mI1_ne h7, mI1_ne h6]
    · have e1 : ¬ M.1 5 2 < 8 := by rw [hp3]; exact nI_nlt (a := σ.2.1.2.2) (b := 8) (by omega) (by omega)
      simp only [e1, c2, if_false, if_true, bs]
      exact ⟨M, rfl, rc⟩
  · intro M σ ok rm
    obtain ⟨hp1, hp2, hp3⟩ := rm.2.1
    have hn := ok.2.1.1
    unfold X12_found q_found
    simp only [m_isThing, e_in_0_60, bs, bz_eq0, rf_45_8, rf_45_9, wi_ib d 60 61 (by decide), mw]
    cases c1 : ib t 8
    · exact ⟨M, rfl, rm⟩
    cases c0 : ib d 61
    · exact ⟨M, rfl, rm⟩
    by_cases c2 : σ.2.1.2.2 < 8
    · have e1 : ¬ M.1 45 10 = 8 := by rw [hp3]; exact fun z => by have := (nI_eq (a := σ.2.1.2.2) (b := 8) (by omega) (by decide)).mp z; omega
      have e2 : ib (M.1 45 10) 8 = true := by rw [hp3]; exact ib_nI c2 (by decide)
      have e3 : (mI M 49 (M.1 45 10).toNatClampNeg d).1 45 10 = M.1 45 10 := by rw [mI1_ne (by decide)]
      have e4 : (mI (mI M 49 (M.1 45 10).toNatClampNeg d) 50 (M.1 45 10).toNatClampNeg t).1 45 10 = M.1 45 10 := by rw [mI1_ne (by decide), mI1_ne (by decide)]
      simp only [e3, e4, e1, e2, gt, if_true, if_false, c2]
      rw [hp3, ix_nI (by omega)]
      refine ⟨mI (mI (mI M 49 σ.2.1.2.2 d) 50 σ.2.1.2.2 t) 45 10 (nI σ.2.1.2.2 + 1), ?_, rm.notes ⟨?_, ?_, ?_⟩ ?_ ?_⟩
      · simp [mI1, nI_1]
      · intro j hj
        rw [mI1_ne (by decide), mI1_ne (by decide)]
        show (mR M 49 _).1 49 j = _
        rw [mR_at]
        exact upd_lt hp1 j hj
      · intro j hj
        rw [mI1_ne (by decide)]
        show (mR _ 50 _).1 50 j = _
        rw [mR_at, mI1_ne (by decide)]
        exact upd_lt hp2 j hj
      · simp [mI1, nI_1]
      · intro c hc
        rw [mI1_ne (by omega), mI1_ne (by omega), mI1_ne (by omega)]
      · intro j hj
        rw [mI1, if_neg hj, mI1_ne (by decide), mI1_ne (by decide)]
    · have e1 : M.1 45 10 = 8 := by rw [hp3]; have : σ.2.1.2.2 = 8 := by omega
                                    rw [this]; rfl
      simp only [e1, c2, if_false, if_true]
      exact ⟨M, rfl, rm⟩
  · intro σ ok
    show OK (q_found d t σ).2
    unfold q_found
    split
    · split
      · split
        · rename_i c1 c0 c2
          refine ⟨ok.1, ⟨by show σ.2.1.2.2 + 1 ≤ 8; omega, fun j hj => ?_, fun j hj => ?_⟩, ok.2.2⟩
          · show ib (upd _ _ _ j) 61 = true
            unfold upd
            split
            · exact c0
            · exact ok.2.1.2.1 j (by have : j < σ.2.1.2.2 + 1 := hj; omega)
          · show ib (upd _ _ _ j) 8 = true
            unfold upd
            split
            · exact c1
            · exact ok.2.1.2.2 j (by have : j < σ.2.1.2.2 + 1 := hj; omega)
        · exact ok
      · exact ok
    · exact ok
theorem sim_forget : Sim (X11_forget 0) (X12_forget 45) := by
  refine Sim_of (fun σ => nI σ.2.1.2.2) (fun σ => (σ.1, (σ.2.1.1, σ.2.1.2.1, 0), σ.2.2)) ?_ ?_ (fun M => fr_X11_forget M Sm_refl) (by decide) (fun M => fr_X12_forget M Sm_refl) (by decide) ?_
  · intro M σ ok rc
    unfold X11_forget
    rw [rf_0_1]
    refine ⟨_, by rw [rc.2.1.2.2], rc.notes ⟨fun j hj => absurd hj (Nat.not_lt_zero j), fun j hj => absurd hj (Nat.not_lt_zero j), by simp [mI1]; rfl⟩ (fun c hc h5 h6 h7 => mI1_ne h5)⟩
  · intro M σ ok rm
    unfold X12_forget
    refine ⟨_, by rw [rm.2.1.2.2], rm.notes ⟨fun j hj => absurd hj (Nat.not_lt_zero j), fun j hj => absurd hj (Nat.not_lt_zero j), by simp [mI1]; rfl⟩ (fun c hc => mI1_ne (by omega)) (fun j hj => by rw [mI1, if_neg hj])⟩
  · intro σ ok
    exact ⟨ok.1, ⟨by show 0 ≤ 8; omega, fun j hj => absurd hj (Nat.not_lt_zero j), fun j hj => absurd hj (Nat.not_lt_zero j)⟩, ok.2.2⟩
