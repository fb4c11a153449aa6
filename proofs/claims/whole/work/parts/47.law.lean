/-! THE LAW: every call answers alike, so the loop ends with 1 -/
theorem law_step {ρ : Type} [DecidableEq ρ] {f g : Mem → Option (ρ × Mem)} (h : Sim f g) {M : Mem} {σ : Sg} (ok : OK σ) (rc : RC M σ) (rm : RM M σ) {K : Mem → Option (Int32 × Mem)} (hK : ∀ M2 σ2, OK σ2 → RC M2 σ2 → RM M2 σ2 → ∃ M', K M2 = some ((1 : Int32), M')) : ∃ M', (f M).bind (fun p => (g p.2).bind (fun q => if p.1 = q.1 then K q.2 else some ((0 : Int32), q.2))) = some ((1 : Int32), M') := by
  obtain ⟨r, M1, M2, σ2, e1, e2, ok2, rc2, rm2⟩ := h M σ ok rc rm
  obtain ⟨M', e3⟩ := hK M2 σ2 ok2 rc2 rm2
  refine ⟨M', ?_⟩
  rw [e1, bs]
  simp only []
  rw [e2, bs]
  simp only [if_true]
  exact e3
theorem law_b18 {X : Scr} (hX : X.1 ≤ 384) {i : Nat} {M : Mem} {σ : Sg} (hi : i ≤ 384) (ok : OK σ) (rc : RC M σ) (rm : RM M σ) {k18 : Int32 → Mem → Option (Int32 × Mem)} (hK : i + 6 ≤ X.1 → ∀ M2 σ2, OK σ2 → RC M2 σ2 → RM M2 σ2 → ∃ M', k18 (nI (i + 6)) M2 = some ((1 : Int32), M')) : ∃ M', L_law_b18 X k18 (nI i) M = some ((1 : Int32), M') := by
  unfold L_law_b18 L_law_b891
  by_cases c : Int32.ofNat X.1 - (6 : Int32) < nI i
  · rw [if_pos c]; exact ⟨M, rfl⟩
  · rw [if_neg c]
    have hl : i + 6 ≤ X.1 := by
      rw [show (6 : Int32) = nI 6 from rfl, show Int32.ofNat X.1 = nI X.1 from rfl, fa_lt, pk_sub_toInt (by omega) (by omega), nI_toInt (by omega)] at c
      omega
    have hK2 := hK hl
    have p1 : nI i + (1 : Int32) = nI (i + 1) := L1 i
    have p2 : nI i + (2 : Int32) = nI (i + 2) := by rw [show (2 : Int32) = nI 2 from rfl, nI_add]
    have p3 : nI i + (3 : Int32) = nI (i + 3) := by rw [show (3 : Int32) = nI 3 from rfl, nI_add]
    have p4 : nI i + (4 : Int32) = nI (i + 4) := by rw [show (4 : Int32) = nI 4 from rfl, nI_add]
    have p5 : nI i + (5 : Int32) = nI (i + 5) := by rw [show (5 : Int32) = nI 5 from rfl, nI_add]
    have p6 : nI i + (6 : Int32) = nI (i + 6) := by rw [show (6 : Int32) = nI 6 from rfl, nI_add]
    have b0 : ib (nI i) X.1 = true := ib_nI (by omega) (by omega)
    have b1 : ib (nI (i + 1)) X.1 = true := ib_nI (by omega) (by omega)
    have b2 : ib (nI (i + 2)) X.1 = true := ib_nI (by omega) (by omega)
    have b3 : ib (nI (i + 3)) X.1 = true := ib_nI (by omega) (by omega)
    have b4 : ib (nI (i + 4)) X.1 = true := ib_nI (by omega) (by omega)
    have b5 : ib (nI (i + 5)) X.1 = true := ib_nI (by omega) (by omega)
    simp only [p1, p2, p3, p4, p5, p6, b0, b1, b2, b3, b4, b5, gt, cmp_eq]
    by_cases c0 : ((X.2 (nI i).toNatClampNeg) &&& (31 : Int32)) = (0 : Int32)
    · rw [if_pos c0]
      exact law_step (sim_basket _ _ _) ok rc rm hK2
    rw [if_neg c0]
    by_cases c1 : ((X.2 (nI i).toNatClampNeg) &&& (31 : Int32)) = (1 : Int32)
    · rw [if_pos c1]
      exact law_step (sim_right) ok rc rm hK2
    rw [if_neg c1]
    by_cases c2 : ((X.2 (nI i).toNatClampNeg) &&& (31 : Int32)) = (2 : Int32)
    · rw [if_pos c2]
      exact law_step (sim_clock _ _) ok rc rm hK2
    rw [if_neg c2]
    by_cases c3 : ((X.2 (nI i).toNatClampNeg) &&& (31 : Int32)) = (3 : Int32)
    · rw [if_pos c3]
      exact law_step (sim_attendant _ _ _) ok rc rm hK2
    rw [if_neg c3]
    by_cases c4 : ((X.2 (nI i).toNatClampNeg) &&& (31 : Int32)) = (4 : Int32)
    · rw [if_pos c4]
      exact law_step (sim_say _) ok rc rm hK2
    rw [if_neg c4]
    by_cases c5 : ((X.2 (nI i).toNatClampNeg) &&& (31 : Int32)) = (5 : Int32)
    · rw [if_pos c5]
      exact law_step (sim_wipe) ok rc rm hK2
    rw [if_neg c5]
    by_cases c6 : ((X.2 (nI i).toNatClampNeg) &&& (31 : Int32)) = (6 : Int32)
    · rw [if_pos c6]
      exact law_step (sim_fault) ok rc rm hK2
    rw [if_neg c6]
    by_cases c7 : ((X.2 (nI i).toNatClampNeg) &&& (31 : Int32)) = (7 : Int32)
    · rw [if_pos c7]
      exact law_step (sim_judge _) ok rc rm hK2
    rw [if_neg c7]
    by_cases c8 : ((X.2 (nI i).toNatClampNeg) &&& (31 : Int32)) = (8 : Int32)
    · rw [if_pos c8]
      exact law_step (sim_behind _ _) ok rc rm hK2
    rw [if_neg c8]
    by_cases c9 : ((X.2 (nI i).toNatClampNeg) &&& (31 : Int32)) = (9 : Int32)
    · rw [if_pos c9]
      exact law_step (sim_his _) ok rc rm hK2
    rw [if_neg c9]
    by_cases c10 : ((X.2 (nI i).toNatClampNeg) &&& (31 : Int32)) = (10 : Int32)
    · rw [if_pos c10]
      exact law_step (sim_wrong _) ok rc rm hK2
    rw [if_neg c10]
    by_cases c11 : ((X.2 (nI i).toNatClampNeg) &&& (31 : Int32)) = (11 : Int32)
    · rw [if_pos c11]
      exact law_step (sim_done) ok rc rm hK2
    rw [if_neg c11]
    by_cases c12 : ((X.2 (nI i).toNatClampNeg) &&& (31 : Int32)) = (12 : Int32)
    · rw [if_pos c12]
      exact law_step (sim_round _ _) ok rc rm hK2
    rw [if_neg c12]
    by_cases c13 : ((X.2 (nI i).toNatClampNeg) &&& (31 : Int32)) = (13 : Int32)
    · rw [if_pos c13]
      exact law_step (sim_show _ _) ok rc rm hK2
    rw [if_neg c13]
    by_cases c14 : ((X.2 (nI i).toNatClampNeg) &&& (31 : Int32)) = (14 : Int32)
    · rw [if_pos c14]
      exact law_step (sim_owners _ _) ok rc rm hK2
    rw [if_neg c14]
    by_cases c15 : ((X.2 (nI i).toNatClampNeg) &&& (31 : Int32)) = (15 : Int32)
    · rw [if_pos c15]
      exact law_step (sim_towels _ _) ok rc rm hK2
    rw [if_neg c15]
    by_cases c16 : ((X.2 (nI i).toNatClampNeg) &&& (31 : Int32)) = (16 : Int32)
    · rw [if_pos c16]
      exact law_step (sim_found _ _) ok rc rm hK2
    rw [if_neg c16]
    by_cases c17 : ((X.2 (nI i).toNatClampNeg) &&& (31 : Int32)) = (17 : Int32)
    · rw [if_pos c17]
      exact law_step (sim_forget) ok rc rm hK2
    rw [if_neg c17]
    by_cases c18 : ((X.2 (nI i).toNatClampNeg) &&& (31 : Int32)) = (18 : Int32)
    · rw [if_pos c18]
      exact law_step (sim_fits _) ok rc rm hK2
    rw [if_neg c18]
    by_cases c19 : ((X.2 (nI i).toNatClampNeg) &&& (31 : Int32)) = (19 : Int32)
    · rw [if_pos c19]
      exact law_step (sim_ask _) ok rc rm hK2
    rw [if_neg c19]
    by_cases c20 : ((X.2 (nI i).toNatClampNeg) &&& (31 : Int32)) = (20 : Int32)
    · rw [if_pos c20]
      exact law_step (sim_piles _ _ _) ok rc rm hK2
    rw [if_neg c20]
    by_cases c21 : ((X.2 (nI i).toNatClampNeg) &&& (31 : Int32)) = (21 : Int32)
    · rw [if_pos c21]
      exact law_step (sim_lengths _ _ _ _ _) ok rc rm hK2
    rw [if_neg c21]
    by_cases c22 : ((X.2 (nI i).toNatClampNeg) &&& (31 : Int32)) = (22 : Int32)
    · rw [if_pos c22]
      exact law_step (sim_year _ _ _) ok rc rm hK2
    rw [if_neg c22]
    by_cases c23 : ((X.2 (nI i).toNatClampNeg) &&& (31 : Int32)) = (23 : Int32)
    · rw [if_pos c23]
      exact law_step (sim_image _) ok rc rm hK2
    rw [if_neg c23]
    by_cases c24 : ((X.2 (nI i).toNatClampNeg) &&& (31 : Int32)) = (24 : Int32)
    · rw [if_pos c24]
      exact law_step (sim_restore _) ok rc rm hK2
    rw [if_neg c24]
    by_cases c25 : ((X.2 (nI i).toNatClampNeg) &&& (31 : Int32)) = (25 : Int32)
    · rw [if_pos c25]
      exact law_step (sim_told _) ok rc rm hK2
    rw [if_neg c25]
    exact hK2 M σ ok rc rm
theorem law_l18 {X : Scr} (hX : X.1 ≤ 384) : ∀ r i f (M : Mem) σ, X.1 ≤ i + r → r < f → i ≤ 384 → OK σ → RC M σ → RM M σ → ∃ M', L_law_l18 X f (nI i) M = some ((1 : Int32), M') := by
  intro r
  induction r using Nat.strongRecOn with
  | _ r ih =>
    intro i f M σ hr hf hi ok rc rm
    obtain ⟨f', rfl⟩ : ∃ f', f = f' + 1 := ⟨f - 1, by omega⟩
    have e0 : L_law_l18 X (f' + 1) (nI i) M = L_law_b18 X (L_law_l18 X f') (nI i) M := rfl
    rw [e0]
    exact law_b18 hX hi ok rc rm (fun hl M2 σ2 ok2 rc2 rm2 => ih (r - 1) (by omega) (i + 6) f' M2 σ2 (by omega) (by omega) (by omega) ok2 rc2 rm2)
theorem law_one {X : Scr} (hX : X.1 ≤ 384) {M : Mem} {σ : Sg} (ok : OK σ) (rc : RC M σ) (rm : RM M σ) : ∃ M', L_law X M = some ((1 : Int32), M') := by
  have h := law_l18 hX X.1 0 FU M σ (by omega) (by show X.1 < 2000; omega) (by omega) ok rc rm
  unfold L_law
  generalize FU = f at h ⊢
  exact h
