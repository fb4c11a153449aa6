/-! THE STATE of both sides: the bath, the notes, the pad, two images -/
abbrev Nt : Type := (Nat → Int32) × (Nat → Int32) × Nat
abbrev Pt0 : Type := (Nat → Int32) × Nat
abbrev Im : Type := Bool × Bt × Nt
abbrev Sg : Type := Bt × Nt × Pt0 × Im × Im
def AtN (M : Mem) (rd rt rc kc : Nat) (n : Nt) : Prop := (∀ e, e < n.2.2 → M.1 rd e = n.1 e) ∧ (∀ e, e < n.2.2 → M.1 rt e = n.2.1 e) ∧ M.1 rc kc = nI n.2.2
def AtP (M : Mem) (rp rc kc : Nat) (p : Pt0) : Prop := (∀ j, j < p.2 → M.1 rp j = p.1 j) ∧ M.1 rc kc = nI p.2
def AtIc (M : Mem) (o ob on : Nat) (m : Im) : Prop := M.1 o 2 = bz m.1 ∧ (m.1 = true → AtB M ob m.2.1 ∧ AtN M (rf on 0) (rf on 1) on 2 m.2.2)
def AtIm (M : Mem) (k : Nat) (m : Im) : Prop := M.1 61 k = bz m.1 ∧ (m.1 = true → (M.1 60 (60 * k) = bC m.2.1 ∧ M.1 60 (60 * k + 1) = bH m.2.1 ∧ M.1 60 (60 * k + 2) = bE m.2.1 ∧ M.1 60 (60 * k + 3) = bN m.2.1 ∧ M.1 60 (60 * k + 4) = bL m.2.1 ∧ M.1 60 (60 * k + 5) = nI m.2.2.2.2) ∧ (∀ j, j < 10 → M.1 60 (60 * k + 6 + j) = bS m.2.1 j) ∧ (∀ j, j < 10 → M.1 60 (60 * k + 16 + j) = bT m.2.1 j) ∧ (∀ j, j < 10 → M.1 60 (60 * k + 26 + j) = bM m.2.1 j) ∧ (∀ j, j < m.2.2.2.2 → M.1 60 (60 * k + 36 + j) = m.2.2.1 j) ∧ ∀ j, j < m.2.2.2.2 → M.1 60 (60 * k + 44 + j) = m.2.2.2.1 j)
def okN (n : Nt) : Prop := n.2.2 ≤ 8 ∧ (∀ e, e < n.2.2 → ib (n.1 e) 61 = true) ∧ ∀ e, e < n.2.2 → ib (n.2.1 e) 8 = true
def okP (p : Pt0) : Prop := p.2 ≤ 60 ∧ ∀ j, j < p.2 → ib (p.1 j) 127 = true
def okI (m : Im) : Prop := m.1 = true → okB m.2.1 ∧ okN m.2.2
/-- the lost pairs of the piles -/
def lwT : List Int32 := [0, 2, 1, 5, 7, 3, 10, 4, 13, 15, 6, 18, 20, 8, 23, 9, 26, 28, 11, 31, 12]
def RC (M : Mem) (σ : Sg) : Prop := AtB M 1 σ.1 ∧ AtN M 6 7 5 2 σ.2.1 ∧ AtP M 9 8 1 σ.2.2.1 ∧ AtIc M 10 11 15 σ.2.2.2.1 ∧ AtIc M 18 19 23 σ.2.2.2.2 ∧ ∀ a, a < 21 → M.1 42 a = lwT.getD a 0
def RM (M : Mem) (σ : Sg) : Prop := AtB M 45 σ.1 ∧ AtN M 49 50 45 10 σ.2.1 ∧ AtP M 51 45 12 σ.2.2.1 ∧ AtIm M 0 σ.2.2.2.1 ∧ AtIm M 1 σ.2.2.2.2
def OK (σ : Sg) : Prop := okB σ.1 ∧ okN σ.2.1 ∧ okP σ.2.2.1 ∧ okI σ.2.2.2.1 ∧ okI σ.2.2.2.2
theorem AtB.fr {M M' : Mem} {i : Nat} {b : Bt} (h : AtB M i b) (e : M'.1 i = M.1 i) (e0 : M'.1 (rf i 0) = M.1 (rf i 0)) (e1 : M'.1 (rf i 1) = M.1 (rf i 1)) (e2 : M'.1 (rf i 2) = M.1 (rf i 2)) : AtB M' i b := by
  unfold AtB at h ⊢
  rw [e, e0, e1, e2]; exact h
theorem AtN.fr {M M' : Mem} {rd rt rc kc : Nat} {n : Nt} (h : AtN M rd rt rc kc n) (e0 : M'.1 rd = M.1 rd) (e1 : M'.1 rt = M.1 rt) (e2 : M'.1 rc kc = M.1 rc kc) : AtN M' rd rt rc kc n := by
  unfold AtN at h ⊢
  rw [e0, e1, e2]; exact h
theorem AtP.fr {M M' : Mem} {rp rc kc : Nat} {p : Pt0} (h : AtP M rp rc kc p) (e0 : M'.1 rp = M.1 rp) (e2 : M'.1 rc kc = M.1 rc kc) : AtP M' rp rc kc p := by
  unfold AtP at h ⊢
  rw [e0, e2]; exact h
theorem AtIc.fr {M M' : Mem} {o ob on : Nat} {m : Im} (h : AtIc M o ob on m) (e : M'.1 o = M.1 o) (a0 : M'.1 ob = M.1 ob) (a1 : M'.1 (rf ob 0) = M.1 (rf ob 0)) (a2 : M'.1 (rf ob 1) = M.1 (rf ob 1)) (a3 : M'.1 (rf ob 2) = M.1 (rf ob 2)) (n0 : M'.1 on = M.1 on) (n1 : M'.1 (rf on 0) = M.1 (rf on 0)) (n2 : M'.1 (rf on 1) = M.1 (rf on 1)) : AtIc M' o ob on m :=
  ⟨by rw [e]; exact h.1, fun t => ⟨(h.2 t).1.fr a0 a1 a2 a3, (h.2 t).2.fr n1 n2 (by rw [n0])⟩⟩
theorem AtIm.fr {M M' : Mem} {k : Nat} {m : Im} (h : AtIm M k m) (e : M'.1 61 = M.1 61) (e0 : M'.1 60 = M.1 60) : AtIm M' k m := by
  unfold AtIm at h ⊢
  rw [e, e0]; exact h
/-- the class's side stays, where the cells below 26 and the piles' table do -/
theorem RC.fr {M M' : Mem} {σ : Sg} (h : RC M σ) (e : ∀ c, (c < 26 ∨ c = 42) → M'.1 c = M.1 c) : RC M' σ := by
  obtain ⟨h1, h2, h3, h4, h5, h6⟩ := h
  refine ⟨h1.fr (e _ (by decide)) (e _ (by decide)) (e _ (by decide)) (e _ (by decide)), h2.fr (e _ (by decide)) (e _ (by decide)) (by rw [e _ (by decide)]), h3.fr (e _ (by decide)) (by rw [e _ (by decide)]), h4.fr (e _ (by decide)) (e _ (by decide)) (e _ (by decide)) (e _ (by decide)) (e _ (by decide)) (e _ (by decide)) (e _ (by decide)) (e _ (by decide)), h5.fr (e _ (by decide)) (e _ (by decide)) (e _ (by decide)) (e _ (by decide)) (e _ (by decide)) (e _ (by decide)) (e _ (by decide)) (e _ (by decide)), fun a ha => by rw [e _ (by decide)]; exact h6 a ha⟩
theorem RM.fr {M M' : Mem} {σ : Sg} (h : RM M σ) (e : ∀ c, (c = 45 ∨ c = 46 ∨ c = 47 ∨ c = 48 ∨ c = 49 ∨ c = 50 ∨ c = 51 ∨ c = 60 ∨ c = 61) → M'.1 c = M.1 c) : RM M' σ := by
  obtain ⟨h1, h2, h3, h4, h5⟩ := h
  exact ⟨h1.fr (e _ (by decide)) (e _ (by decide)) (e _ (by decide)) (e _ (by decide)), h2.fr (e _ (by decide)) (e _ (by decide)) (by rw [e _ (by decide)]), h3.fr (e _ (by decide)) (by rw [e _ (by decide)]), h4.fr (e _ (by decide)) (e _ (by decide)), h5.fr (e _ (by decide)) (e _ (by decide))⟩
/-- both sides answer alike, and stay alike -/
def Sim {ρ : Type} (f g : Mem → Option (ρ × Mem)) : Prop := ∀ M σ, OK σ → RC M σ → RM M σ → ∃ r M1 M2 σ', f M = some (r, M1) ∧ g M1 = some (r, M2) ∧ OK σ' ∧ RC M2 σ' ∧ RM M2 σ'
theorem Sim_of {ρ : Type} {f g : Mem → Option (ρ × Mem)} {W W' : List Nat} (r : Sg → ρ) (s : Sg → Sg) (hc : ∀ M σ, OK σ → RC M σ → ∃ M1, f M = some (r σ, M1) ∧ RC M1 (s σ)) (hm : ∀ M σ, OK σ → RM M σ → ∃ M1, g M = some (r σ, M1) ∧ RM M1 (s σ)) (fc : ∀ M, FrB W M (f M)) (fw : ∀ c ∈ W, c < 45) (fm : ∀ M, FrB W' M (g M)) (fv : ∀ c ∈ W', 45 ≤ c) (hs : ∀ σ, OK σ → OK (s σ)) : Sim f g := by
  intro M σ ok rc rm
  obtain ⟨M1, e1, c1⟩ := hc M σ ok rc
  have rm1 : RM M1 σ := rm.fr (fun c hcc => (fc M _ _ e1 c (fun z => by have := fw c z; omega)).1)
  obtain ⟨M2, e2, m2⟩ := hm M1 σ ok rm1
  exact ⟨_, M1, M2, s σ, e1, e2, hs σ ok, c1.fr (fun c hcc => (fm M1 _ _ e2 c (fun z => by have := fv c z; omega)).1), m2⟩
/-- a call that only asks: the class's side writes no cell of the state, the model's neither -/
theorem Sim_ask {ρ : Type} {f g : Mem → Option (ρ × Mem)} {W W' : List Nat} (r : Sg → ρ) (hc : ∀ M σ, OK σ → RC M σ → ∃ M1, f M = some (r σ, M1)) (hm : ∀ M σ, OK σ → RM M σ → ∃ M1, g M = some (r σ, M1)) (fc : ∀ M, FrB W M (f M)) (fw : ∀ c ∈ W, c < 45 ∧ ¬ (c < 26 ∨ c = 42)) (fm : ∀ M, FrB W' M (g M)) (fv : ∀ c ∈ W', 45 ≤ c ∧ ¬ (c = 45 ∨ c = 46 ∨ c = 47 ∨ c = 48 ∨ c = 49 ∨ c = 50 ∨ c = 51 ∨ c = 60 ∨ c = 61)) : Sim f g :=
  Sim_of r id (fun M σ ok rc => by
    obtain ⟨M1, e⟩ := hc M σ ok rc
    exact ⟨M1, e, rc.fr (fun c hcc => (fc M _ _ e c (fun z => (fw c z).2 hcc)).1)⟩) (fun M σ ok rm => by
    obtain ⟨M1, e⟩ := hm M σ ok rm
    exact ⟨M1, e, rm.fr (fun c hcc => (fm M _ _ e c (fun z => (fv c z).2 hcc)).1)⟩) fc (fun c z => (fw c z).1) fm (fun c z => (fv c z).1) (fun _ h => h)
theorem AtB.row {M : Mem} {i a k : Nat} {b : Bt} {x : Int32} (h : AtB M i b) (h0 : i ≠ a) (h1 : rf i 0 ≠ a) (h2 : rf i 1 ≠ a) (h3 : rf i 2 ≠ a) : AtB (mI M a k x) i b := h.fr (mI1_ne h0) (mI1_ne h1) (mI1_ne h2) (mI1_ne h3)
/-! basket -/
def q_basket (x1 x2 x3 : Int32) (σ : Sg) : Int32 × Sg :=
  if ib x1 10 = true then (if ib x2 256 = true then (if wi x3 1 9 = true then (10 * bT σ.1 x1.toNatClampNeg + bM σ.1 x1.toNatClampNeg, ((bS σ.1, upd (bT σ.1) x1.toNatClampNeg x2, upd (bM σ.1) x1.toNatClampNeg x3, bC σ.1, bH σ.1, bE σ.1, bN σ.1, bL σ.1), σ.2)) else (-2, σ)) else (-2, σ)) else (-1, σ)
theorem wi_19 {x : Int32} (h : wi x 1 9 = true) : ib x 10 = true := by
  have := wi_iff.mp h
  exact ib_iff.mpr ⟨by have : (1 : Int32).toInt = 1 := rfl; omega, by have : (9 : Int32).toInt = 9 := rfl; omega⟩
theorem RC.bath {M M' : Mem} {σ : Sg} {b : Bt} (h : RC M σ) (hb : AtB M' 1 b) (e : ∀ c, (5 ≤ c ∧ c < 26 ∨ c = 42) → M'.1 c = M.1 c) : RC M' (b, σ.2) := by
  obtain ⟨h1, h2, h3, h4, h5, h6⟩ := h
  refine ⟨hb, h2.fr (e _ (by decide)) (e _ (by decide)) (by rw [e _ (by decide)]), h3.fr (e _ (by decide)) (by rw [e _ (by decide)]), h4.fr (e _ (by decide)) (e _ (by decide)) (e _ (by decide)) (e _ (by decide)) (e _ (by decide)) (e _ (by decide)) (e _ (by decide)) (e _ (by decide)), h5.fr (e _ (by decide)) (e _ (by decide)) (e _ (by decide)) (e _ (by decide)) (e _ (by decide)) (e _ (by decide)) (e _ (by decide)) (e _ (by decide)), fun a ha => by rw [e _ (by decide)]; exact h6 a ha⟩
theorem RM.bath {M M' : Mem} {σ : Sg} {b : Bt} (h : RM M σ) (hb : AtB M' 45 b) (e : ∀ c, (c = 49 ∨ c = 50 ∨ c = 51 ∨ c = 60 ∨ c = 61) → M'.1 c = M.1 c) (e1 : M'.1 45 10 = M.1 45 10) (e2 : M'.1 45 12 = M.1 45 12) : RM M' (b, σ.2) := by
  obtain ⟨h1, h2, h3, h4, h5⟩ := h
  exact ⟨hb, h2.fr (e _ (by decide)) (e _ (by decide)) e1, h3.fr (e _ (by decide)) e2, h4.fr (e _ (by decide)) (e _ (by decide)), h5.fr (e _ (by decide)) (e _ (by decide))⟩
theorem sim_basket (x1 x2 x3 : Int32) : Sim (X11_basket 0 x1 x2 x3) (X12_basket 45 x1 x2 x3) := by
  refine Sim_of (fun σ => (q_basket x1 x2 x3 σ).1) (fun σ => (q_basket x1 x2 x3 σ).2) ?_ ?_ (fun M => fr_X11_basket _ _ _ M Sm_refl) (by decide) (fun M => fr_X12_basket _ _ _ M Sm_refl) (by decide) ?_
  · intro M σ ok rc
    unfold X11_basket X11_basket_b26 q_basket
    simp only [e_isCabin, e_isThingSet, e_isWithin, bs, bz_eq0, rf_0_0]
    cases c1 : ib x1 10
    · exact ⟨M, rfl, rc⟩
    cases c2 : ib x2 256
    · exact ⟨M, rfl, rc⟩
    cases c3 : wi x3 1 9
    · exact ⟨M, rfl, rc⟩
    simp only [gt, if_true]
    have hl := ib_lt c1
    refine ⟨_, by rw [rc.1.2.1 _ hl, rc.1.2.2.1 _ hl]; rfl, rc.bath ((rc.1.setT BI_1 _ _).setM BI_1 _ _) ?_⟩
    intro c hc
    rw [mI1_ne (show c ≠ rf 1 2 by rw [rf_1_2]; omega), mI1_ne (show c ≠ rf 1 1 by rw [rf_1_1]; omega)]
  · intro M σ ok rm
    unfold X12_basket X12_basket_b33 q_basket
    simp only [m_isCabin, e_in_0_255, e_in_1_9, bs, bz_eq0, wi_ib x2 255 256 (by decide), iw]
    cases c1 : ib x1 10
    · exact ⟨M, rfl, rm⟩
    cases c2 : ib x2 256
    · exact ⟨M, rfl, rm⟩
    cases c3 : wi x3 1 9
    · exact ⟨M, rfl, rm⟩
    simp only [gt, if_true]
    have hl := ib_lt c1
    refine ⟨_, by rw [rm.1.2.1 _ hl, rm.1.2.2.1 _ hl]; rfl, rm.bath ((rm.1.setT BI_45 _ _).setM BI_45 _ _) ?_ ?_ ?_⟩
    · intro c hc
      rw [mI1_ne (show c ≠ rf 45 2 by rw [rf_45_2]; omega), mI1_ne (show c ≠ rf 45 1 by rw [rf_45_1]; omega)]
    · rw [mI1_ne (by decide), mI1_ne (by decide)]
    · rw [mI1_ne (by decide), mI1_ne (by decide)]
  · intro σ ok
    show OK (q_basket x1 x2 x3 σ).2
    unfold q_basket
    split
    · split
      · split
        · rename_i c1 c2 c3
          obtain ⟨⟨o1, o2, o3, o4, o5, o6, o7, o8⟩, orest⟩ := ok
          refine ⟨⟨o1, fun j hj => ?_, fun j hj => ?_, o4, o5, o6, o7, o8⟩, orest⟩
          · show ib (upd _ _ _ j) 256 = true
            unfold upd
            split
            · exact c2
            · exact o2 j hj
          · show ib (upd _ _ _ j) 10 = true
            unfold upd
            split
            · exact wi_19 c3
            · exact o3 j hj
        · exact ok
      · exact ok
    · exact ok
