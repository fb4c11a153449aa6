/-! judge, behind, his, wrong, done -/
theorem acl_ok {p : Pt0} (ok : okP p) : ∀ K i d, i + K = p.2 → (d = 0 ∨ d = 1 ∨ d = 2 ∨ d = 3) → (∀ a ∈ acl p.1 K i d, okA a) ∧ (acl p.1 K i d).length ≤ K := by
  intro K
  induction K with
  | zero => intro i d _ _; exact ⟨fun a ha => absurd ha List.not_mem_nil, Nat.le_refl _⟩
  | succ K ih =>
    intro i d hi hd
    cases hst : stp d (p.1 i) with
    | none =>
      have e : acl p.1 (K + 1) i d = [] := by show (match stp d (p.1 i) with | none => [] | some d' => cls d (p.1 i) ++ acl p.1 K (i + 1) d') = _; rw [hst]
      rw [e]; exact ⟨fun a ha => absurd ha List.not_mem_nil, Nat.zero_le _⟩
    | some d' =>
      rw [acl_some hst]
      obtain ⟨h1, h2⟩ := ih (i + 1) d' (by omega) (stp_dom hst)
      have hb := ok.2 i (by omega)
      have hc := cls_len d (p.1 i)
      refine ⟨fun a ha => ?_, by rw [List.length_append]; omega⟩
      rcases List.mem_append.mp ha with ha | ha
      · unfold stp at hst
        unfold cls at ha
        generalize p.1 i = c at hst ha hb
        rcases hd with rfl | rfl | rfl | rfl
        · simp only [if_true] at hst ha
          by_cases c1 : c = 43
          · simp [c1] at ha
          by_cases c2 : c = 45
          · simp [c2] at ha
          by_cases c3 : c = 46
          · simp [c3] at ha; rw [ha]; exact okA_5 0
          by_cases c4 : c = 61
          · simp [c4] at ha
          by_cases c5 : c = 63
          · simp [c5] at ha; rw [ha]; exact okA_1 0
          simp only [c1, c2, c3, c4, c5, if_false] at hst ha
          have hw : wi c 65 74 = true := by
            by_cases z : wi c 65 74 = true
            · exact z
            · rw [if_neg z] at hst; cases hst
          rw [List.mem_singleton.mp ha]
          exact okA_0 (by rw [let_eq hb]; exact hw)
        · have hw : wi c 48 55 = true := by
            by_cases z : wi c 48 55 = true
            · exact z
            · simp [z] at hst
          simp at ha
          rw [ha]; exact okA_2 (by rw [dig_eq hb]; exact hw)
        · have hw : wi c 48 55 = true := by
            by_cases z : wi c 48 55 = true
            · exact z
            · simp [z] at hst
          simp at ha
          rw [ha]; exact okA_3 (by rw [dig_eq hb]; exact hw)
        · have hw : wi c 65 74 = true := by
            by_cases z : wi c 65 74 = true
            · exact z
            · simp [z] at hst
          simp at ha
          rw [ha]; exact okA_4 (by rw [let_eq hb]; exact hw)
      · exact h1 a ha
/-- what stays of the model's state through all this -/
def RM0 (M : Mem) (σ : Sg) : Prop := AtN M 49 50 45 10 σ.2.1 ∧ AtP M 51 45 12 σ.2.2.1 ∧ AtIm M 0 σ.2.2.2.1 ∧ AtIm M 1 σ.2.2.2.2 ∧ (∀ q, q < 10 → M.1 48 q = bM σ.1 q) ∧ M.1 45 7 = bL σ.1
theorem RM.zero {M : Mem} {σ : Sg} (h : RM M σ) : RM0 M σ := ⟨h.2.1, h.2.2.1, h.2.2.2.1, h.2.2.2.2, h.1.2.2.1, h.1.2.2.2.2.2.2.2⟩
theorem RM0.fr {M M' : Mem} {σ : Sg} (h : RM0 M σ) (e : ∀ c, (c = 48 ∨ c = 49 ∨ c = 50 ∨ c = 51 ∨ c = 60 ∨ c = 61) → M'.1 c = M.1 c) (e1 : M'.1 45 10 = M.1 45 10) (e2 : M'.1 45 12 = M.1 45 12) (e3 : M'.1 45 7 = M.1 45 7) : RM0 M' σ := by
  obtain ⟨h1, h2, h3, h4, h5, h6⟩ := h
  exact ⟨h1.fr (e _ (by decide)) (e _ (by decide)) e1, h2.fr (e _ (by decide)) e2, h3.fr (e _ (by decide)) (e _ (by decide)), h4.fr (e _ (by decide)) (e _ (by decide)), fun q hq => by rw [e _ (by decide)]; exact h5 q hq, by rw [e3]; exact h6⟩
theorem RM0.full {M : Mem} {σ : Sg} {b : Bt} (h : RM0 M σ) (hb : AtB M 45 b) : RM M (b, σ.2) := ⟨hb, h.1, h.2.1, h.2.2.1, h.2.2.2.1⟩
/-- refusal: with a fault nothing but the acts is written; else the acts are gone through -/
theorem m_refusal_no {M : Mem} {σ : Sg} (ok : OK σ) (rm : RM M σ) (hf : ¬ flE σ = -6) : ∃ M', X12_refusal 45 M = some (-5, M') ∧ Sv M' σ.1 ∧ RM0 M' σ := by
  obtain ⟨M1, e1, e2⟩ := m_keepNow rm.1
  have fr1 := fr_X12_keepNow (i0 := 45) M Sm_refl _ _ e1
  have hp1 : AtP M1 51 45 12 σ.2.2.1 := rm.2.2.1.fr (fr1 51 (by decide)).1 (by rw [(fr1 45 (by decide)).1])
  obtain ⟨M2, g1, -, g3⟩ := m_fault hp1 ok.2.2.1
  have fr2 := fr_X12_fault (i0 := 45) M1 Sm_refl _ _ g1
  have hge : ¬ flE σ < 0 := by
    have : ∀ k i d, i + k ≤ 60 → flr σ.2.2.1.1 k i d = -6 ∨ ¬ flr σ.2.2.1.1 k i d < 0 := by
      intro k
      induction k with
      | zero => intro i d hi; show (if d = 0 then (-6 : Int32) else nI i) = -6 ∨ ¬ (if d = 0 then (-6 : Int32) else nI i) < 0
                split
                · exact Or.inl rfl
                · exact Or.inr (nI_pos (by omega))
      | succ k ih =>
        intro i d hi
        cases hst : stp d (σ.2.2.1.1 i) with
        | none => rw [flr_none hst]; exact Or.inr (nI_pos (by omega))
        | some d' => rw [flr_some hst]; exact ih (i + 1) d' (by omega)
    rcases this σ.2.2.1.2 0 0 (by have := ok.2.2.1.1; omega) with z | z
    · exact absurd z hf
    · exact z
  refine ⟨M2, ?_, ?_, ?_⟩
  · unfold X12_refusal
    rw [e1, bs]
    simp only []
    rw [g1, bs]
    simp only []
    rw [if_neg (show ¬ flr σ.2.2.1.1 σ.2.2.1.2 0 0 < 0 from hge)]
  · unfold Sv at e2 ⊢
    rw [(fr2 54 (by decide)).1]; exact e2
  · refine rm.zero.fr (fun c hc => ?_) ?_ ?_ ?_
    · rw [(fr2 c (by rcases hc with rfl | rfl | rfl | rfl | rfl | rfl <;> decide)).1, (fr1 c (by rcases hc with rfl | rfl | rfl | rfl | rfl | rfl <;> decide)).1]
    · rw [g3 10 (by decide), (fr1 45 (by decide)).1]
    · rw [g3 12 (by decide), (fr1 45 (by decide)).1]
    · rw [g3 7 (by decide), (fr1 45 (by decide)).1]
theorem m_refusal {M : Mem} {σ : Sg} (ok : OK σ) (rm : RM M σ) (hf : flE σ = -6) : ∃ M', X12_refusal 45 M = some (if (evE σ).2.2.2.2.1 < 0 then -6 else -3, M') ∧ EvM M' (evE σ) ∧ Sv M' σ.1 ∧ RM0 M' σ ∧ M'.1 45 15 = nI (acl σ.2.2.1.1 σ.2.2.1.2 0 0).length := by
  have h60 := ok.2.2.1.1
  obtain ⟨M1, e1, e2⟩ := m_keepNow rm.1
  have fr1 := fr_X12_keepNow (i0 := 45) M Sm_refl _ _ e1
  have hp1 : AtP M1 51 45 12 σ.2.2.1 := rm.2.2.1.fr (fr1 51 (by decide)).1 (by rw [(fr1 45 (by decide)).1])
  obtain ⟨M2, g1, g2, g3⟩ := m_fault hp1 ok.2.2.1
  have fr2 := fr_X12_fault (i0 := 45) M1 Sm_refl _ _ g1
  have hA := g2 hf
  obtain ⟨hoA, hlen⟩ := acl_ok ok.2.2.1 σ.2.2.1.2 0 0 (by omega) (Or.inl rfl)
  have hb2 : AtB M2 45 σ.1 := by
    obtain ⟨q0, q1, q2, q3, q4, q5, q6, q7⟩ := rm.1
    exact ⟨fun j hj => by rw [(fr2 _ (by decide)).1, (fr1 _ (by decide)).1]; exact q0 j hj, fun j hj => by rw [(fr2 _ (by decide)).1, (fr1 _ (by decide)).1]; exact q1 j hj, fun j hj => by rw [(fr2 _ (by decide)).1, (fr1 _ (by decide)).1]; exact q2 j hj, by rw [g3 _ (by decide), (fr1 45 (by decide)).1]; exact q3, by rw [g3 _ (by decide), (fr1 45 (by decide)).1]; exact q4, by rw [g3 _ (by decide), (fr1 45 (by decide)).1]; exact q5, by rw [g3 _ (by decide), (fr1 45 (by decide)).1]; exact q6, by rw [g3 _ (by decide), (fr1 45 (by decide)).1]; exact q7⟩
  have hev : EvM (mI (mI (mI (mI (mI M2 45 18 (-6)) 45 19 (-6)) 45 16 0) 45 20 (-6)) 45 21 (-6)) (ev0 σ.1) := by
    obtain ⟨q0, q1, q2, q3, q4, q5, q6, q7⟩ := hb2
    exact ⟨⟨fun j hj => by simp only [mI1_ne (show rf 45 0 ≠ 45 by decide)]; exact q0 j hj, fun j hj => by simp only [mI1_ne (show rf 45 1 ≠ 45 by decide)]; exact q1 j hj, fun j hj => by simp only [mI1_ne (show rf 45 2 ≠ 45 by decide)]; exact q2 j hj, by simp [mI1]; exact q3, by simp [mI1]; exact q4, by simp [mI1]; exact q5, by simp [mI1]; exact q6, by simp [mI1]; exact q7⟩, by simp [mI1]; rfl, by simp [mI1]; rfl, by simp [mI1]; rfl, by simp [mI1]; rfl, by simp [mI1]; rfl⟩
  have hA2 : AtA (mI (mI (mI (mI (mI M2 45 18 (-6)) 45 19 (-6)) 45 16 0) 45 20 (-6)) 45 21 (-6)) (acl σ.2.2.1.1 σ.2.2.1.2 0 0) :=
    ⟨by simp [mI1]; exact hA.1, fun k hk => by simp only [mI1_ne (show (52 : Nat) ≠ 45 by decide)]; exact hA.2.1 k hk, fun k hk => by simp only [mI1_ne (show (53 : Nat) ≠ 45 by decide)]; exact hA.2.2 k hk⟩
  obtain ⟨M3, r1, r2, r3⟩ := m_goEv_l (L := acl σ.2.2.1.1 σ.2.2.1.2 0 0) (by omega) hoA (acl σ.2.2.1.1 σ.2.2.1.2 0 0).length 0 FU (ev0 σ.1) _ (by omega) (by show _ + 1 < 2000; omega) hev (okE_0 ok.1) hA2
  have r1' : X12_goEvenings 45 M2 = some ((), M3) := r1
  have fr3 := fr_X12_goEvenings (i0 := 45) M2 Sm_refl _ _ r1'
  rw [List.drop_zero] at r2
  refine ⟨M3, ?_, r2, ?_, ?_, ?_⟩
  · unfold X12_refusal X12_refusal_b32
    rw [e1, bs]
    simp only []
    rw [g1, bs]
    simp only []
    rw [if_pos (show flr σ.2.2.1.1 σ.2.2.1.2 0 0 < 0 by rw [show flr σ.2.2.1.1 σ.2.2.1.2 0 0 = -6 from hf]; decide), r1', bs]
    simp only []
    rw [r2.2.2.1]
    show (if (evE σ).2.2.2.2.1 < 0 then _ else _) = _
    split <;> rfl
  · unfold Sv at e2 ⊢
    rw [(fr3 54 (by decide)).1, (fr2 54 (by decide)).1]; exact e2
  · refine rm.zero.fr (fun c hc => ?_) ?_ ?_ ?_
    · rw [(fr3 c (by rcases hc with rfl | rfl | rfl | rfl | rfl | rfl <;> decide)).1, (fr2 c (by rcases hc with rfl | rfl | rfl | rfl | rfl | rfl <;> decide)).1, (fr1 c (by rcases hc with rfl | rfl | rfl | rfl | rfl | rfl <;> decide)).1]
    · rw [r3 10 (by decide) (by decide) (by decide) (by decide) (by decide) (by decide) (by decide) (by decide) (by decide)]
      simp only [mI1, show ¬ (10 : Nat) = 21 by decide, show ¬ (10 : Nat) = 20 by decide, show ¬ (10 : Nat) = 16 by decide, show ¬ (10 : Nat) = 19 by decide, show ¬ (10 : Nat) = 18 by decide, if_false]
      rw [g3 10 (by decide), (fr1 45 (by decide)).1]
    · rw [r3 12 (by decide) (by decide) (by decide) (by decide) (by decide) (by decide) (by decide) (by decide) (by decide)]
      simp only [mI1, show ¬ (12 : Nat) = 21 by decide, show ¬ (12 : Nat) = 20 by decide, show ¬ (12 : Nat) = 16 by decide, show ¬ (12 : Nat) = 19 by decide, show ¬ (12 : Nat) = 18 by decide, if_false]
      rw [g3 12 (by decide), (fr1 45 (by decide)).1]
    · rw [r3 7 (by decide) (by decide) (by decide) (by decide) (by decide) (by decide) (by decide) (by decide) (by decide)]
      simp only [mI1, show ¬ (7 : Nat) = 21 by decide, show ¬ (7 : Nat) = 20 by decide, show ¬ (7 : Nat) = 16 by decide, show ¬ (7 : Nat) = 19 by decide, show ¬ (7 : Nat) = 18 by decide, if_false]
      rw [g3 7 (by decide), (fr1 45 (by decide)).1]
  · rw [r3 15 (by decide) (by decide) (by decide) (by decide) (by decide) (by decide) (by decide) (by decide) (by decide)]
    exact hA2.1
