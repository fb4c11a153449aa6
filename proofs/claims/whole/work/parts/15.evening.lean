theorem stp_dom {d d' : Nat} {c : Int32} (h : stp d c = some d') : d' = 0 ∨ d' = 1 ∨ d' = 2 ∨ d' = 3 := by
  by_cases e : d' = 0
  · exact Or.inl e
  · exact Or.inr (stp_sgn h e).2.2
theorem cls_len (d : Nat) (c : Int32) : (cls d c).length ≤ 1 := by
  unfold cls
  repeat' split
  all_goals simp
theorem m_fault_l {p : Pt0} (ok : okP p) : ∀ k i d n l (M : Mem), i + k = p.2 → k < n → (d = 0 ∨ d = 1 ∨ d = 2 ∨ d = 3) → AtP M 51 45 12 p → AtA M l → l.length ≤ i → ∃ M', X12_fault_l9 45 n (nI d) (nI i) M = some (flr p.1 k i d, M') ∧ (flr p.1 k i d = -6 → AtA M' (l ++ acl p.1 k i d)) ∧ (∀ j, j ≠ 15 → M'.1 45 j = M.1 45 j) := by
  have hn := ok.1
  intro k
  induction k with
  | zero =>
    intro i d n l M hi hkn hd hp ha hl
    obtain ⟨m, rfl⟩ : ∃ m, n = m + 1 := ⟨n - 1, by omega⟩
    refine ⟨M, ?_, fun _ => by simpa [acl] using ha, fun _ _ => rfl⟩
    show X12_fault_b9 45 _ _ _ M = _
    unfold X12_fault_b9 X12_fault_b54 flr
    rw [hp.2, if_pos (by rw [le_lit (by omega) (by omega)]; omega)]
    have : i = p.2 := by omega
    rcases hd with rfl | rfl | rfl | rfl
    · rfl
    · rw [if_neg (by decide), if_neg (by decide), this]
    · rw [if_neg (by decide), if_neg (by decide), this]
    · rw [if_neg (by decide), if_neg (by decide), this]
  | succ k ih =>
    intro i d n l M hi hkn hd hp ha hl
    obtain ⟨m, rfl⟩ : ∃ m, n = m + 1 := ⟨n - 1, by omega⟩
    obtain ⟨M1, e1, e2, e3⟩ := m_readOn ha (by omega) d hd (p.1 i)
    have fr := fr_X12_readOn (i0 := 45) (nI d) (p.1 i) M Sm_refl _ _ e1
    have hgo : X12_fault_l9 45 (m + 1) (nI d) (nI i) M = (if 0 ≤ stI (stp d (p.1 i)) then X12_fault_l9 45 m (stI (stp d (p.1 i))) (nI (i + 1)) M1 else some (nI i, M1)) := by
      show X12_fault_b9 45 _ _ _ M = _
      unfold X12_fault_b9
      rw [hp.2, if_neg (by rw [le_lit (by omega) (by omega)]; omega), ib_nI (by omega) (by decide), gt, ix_nI (by omega), rf_45_11, hp.1 i (by omega), e1, bs, L1]
    rw [hgo]
    unfold flr acl
    cases hst : stp d (p.1 i) with
    | none =>
      refine ⟨M1, ?_, fun z => ?_, e3⟩
      · exact if_neg (by decide)
      · have : nI i = -6 := z
        have h2 : (nI i).toInt = -6 := by rw [this]; rfl
        rw [nI_toInt (by omega)] at h2
        omega
    | some d' =>
      have hd' := stp_dom hst
      have hp1 : AtP M1 51 45 12 p := hp.fr (fr 51 (by decide)).1 (e3 12 (by decide))
      have hlen := cls_len d (p.1 i)
      obtain ⟨M2, g1, g2, g3⟩ := ih (i + 1) d' m (l ++ cls d (p.1 i)) M1 (by omega) (by omega) hd' hp1 (e2 d' hst) (by rw [List.length_append]; omega)
      refine ⟨M2, ?_, fun z => ?_, fun j hj => (g3 j hj).trans (e3 j hj)⟩
      · show (if 0 ≤ nI d' then X12_fault_l9 45 m (nI d') (nI (i + 1)) M1 else some (nI i, M1)) = _
        rw [if_pos (nI_pos' (n := d') (by rcases hd' with h | h | h | h <;> omega))]
        exact g1
      · simp only [] at z ⊢
        have := g2 z
        rwa [List.append_assoc] at this
theorem m_fault {M : Mem} {p : Pt0} (hp : AtP M 51 45 12 p) (ok : okP p) : ∃ M', X12_fault 45 M = some (flr p.1 p.2 0 0, M') ∧ (flr p.1 p.2 0 0 = -6 → AtA M' (acl p.1 p.2 0 0)) ∧ (∀ j, j ≠ 15 → M'.1 45 j = M.1 45 j) := by
  unfold X12_fault
  have hp1 : AtP (mI M 45 15 0) 51 45 12 p := hp.fr (mI1_ne (by decide)) (by rw [mI1, if_neg (by decide)])
  obtain ⟨M', e1, e2, e3⟩ := m_fault_l ok p.2 0 0 FU [] (mI M 45 15 0) (by omega) (by have := ok.1; show p.2 < 2000; omega) (Or.inl rfl) hp1 ⟨by simp [mI1]; rfl, fun k hk => absurd hk (Nat.not_lt_zero k), fun k hk => absurd hk (Nat.not_lt_zero k)⟩ (Nat.zero_le _)
  exact ⟨M', e1, fun z => by simpa using e2 z, fun j hj => by rw [e3 j hj, mI1, if_neg hj]⟩
theorem sim_fault : Sim (X11_fault 0) (X12_fault 45) := by
  refine Sim_of (fun σ => flr σ.2.2.1.1 σ.2.2.1.2 0 0) id ?_ ?_ (fun M => fr_X11_fault M Sm_refl) (by decide) (fun M => fr_X12_fault M Sm_refl) (by decide) (fun _ h => h)
  · intro M σ ok rc
    unfold X11_fault
    rw [rf_0_2, e_fault rc.2.2.1 ok.2.2.1, bs]
    exact ⟨M, rfl, rc⟩
  · intro M σ ok rm
    obtain ⟨M', e1, -, e3⟩ := m_fault rm.2.2.1 ok.2.2.1
    have fr := fr_X12_fault (i0 := 45) M Sm_refl _ _ e1
    refine ⟨M', e1, ?_⟩
    obtain ⟨⟨a0, a1, a2, a3, a4, a5, a6, a7⟩, h2, h3, h4, h5⟩ := rm
    exact ⟨⟨fun j hj => by rw [(fr _ (by decide)).1]; exact a0 j hj, fun j hj => by rw [(fr _ (by decide)).1]; exact a1 j hj, fun j hj => by rw [(fr _ (by decide)).1]; exact a2 j hj, by rw [e3 _ (by decide)]; exact a3, by rw [e3 _ (by decide)]; exact a4, by rw [e3 _ (by decide)]; exact a5, by rw [e3 _ (by decide)]; exact a6, by rw [e3 _ (by decide)]; exact a7⟩, h2.fr (fr _ (by decide)).1 (fr _ (by decide)).1 (e3 _ (by decide)), h3.fr (fr _ (by decide)).1 (e3 _ (by decide)), h4.fr (fr _ (by decide)).1 (fr _ (by decide)).1, h5.fr (fr _ (by decide)).1 (fr _ (by decide)).1⟩
/-! THE EVENING: bath, what was gone through, by which act and where a basket was lost first, where it stopped and why -/
abbrev ER : Type := Bt × Int32 × Int32 × Int32 × Int32 × Int32
def lossB (b : Bt) (k v : Int32) : Int32 × Int32 :=
  if bS b (if v < bC b then v else bC b).toNatClampNeg = (if v < bC b then v else bC b) then (k, if v < bC b then v else bC b)
  else if bS b (if bC b < v then v else bC b).toNatClampNeg = (if bC b < v then v else bC b) then (k, if bC b < v then v else bC b) else (-6, -6)
def evS (k : Int32) (s : ER) (a : Int32 × Int32) : ER :=
  if whyB s.1 a.1 a.2 = 0 then (perfB s.1 a.1 a.2, (if a.1 = 1 then s.2.1 ||| sh (hereB s.1) else s.2.1), (if a.1 = 4 ∧ s.2.2.1 = -6 then lossB s.1 k a.2 else (s.2.2.1, s.2.2.2.1)).1, (if a.1 = 4 ∧ s.2.2.1 = -6 then lossB s.1 k a.2 else (s.2.2.1, s.2.2.2.1)).2, -6, -6)
  else (s.1, s.2.1, s.2.2.1, s.2.2.2.1, k, whyB s.1 a.1 a.2)
def evR : Nat → ER → List (Int32 × Int32) → ER
  | _, s, [] => s
  | k, s, a :: l => if whyB s.1 a.1 a.2 = 0 then evR (k + 1) (evS (nI k) s a) l else evS (nI k) s a
def ev0 (b : Bt) : ER := (b, 0, -6, -6, -6, -6)
/-- the operand fits the kind -/
def okA (a : Int32 × Int32) : Prop := ((a.1 = 0 ∨ a.1 = 4) → ib a.2 10 = true) ∧ ((a.1 = 2 ∨ a.1 = 3) → ib a.2 8 = true)
def EvC (M : Mem) (k : Nat) (s : ER) : Prop := AtB M 27 s.1 ∧ M.1 26 1 = nI k ∧ M.1 26 2 = s.2.2.2.2.1 ∧ M.1 26 3 = s.2.2.2.2.2 ∧ M.1 26 4 = s.2.1 ∧ M.1 26 5 = s.2.2.1 ∧ M.1 26 6 = s.2.2.2.1
theorem e_min (x y : Int32) (M : Mem) : J9_min_7cf53 x y M = some (if y < x then y else x, M) := by
  unfold J9_min_7cf53 J9_min_7cf53_b10; split <;> rfl
theorem e_max (x y : Int32) (M : Mem) : J9_max_7cf53 x y M = some (if x < y then y else x, M) := by
  unfold J9_max_7cf53 J9_max_7cf53_b10; split <;> rfl
/-- noteLoss: only two fields of the evening are written -/
theorem e_noteLoss {M : Mem} {k : Nat} {s : ER} (h : EvC M k s) (ok : okB s.1) (v : Int32) (hv : ib v 10 = true) (h5 : s.2.2.1 = -6) (h6 : s.2.2.2.1 = -6) : ∃ M', X2_noteLoss 26 (if v < bC s.1 then v else bC s.1) (if bC s.1 < v then v else bC s.1) M = some ((), M') ∧ EvC M' k (s.1, s.2.1, (lossB s.1 (nI k) v).1, (lossB s.1 (nI k) v).2, s.2.2.2.2) := by
  obtain ⟨hb, a1, a2, a3, a4, a5, a6⟩ := h
  have hc := ok.2.2.2.1
  have hlo : ib (if v < bC s.1 then v else bC s.1) 10 = true := by split <;> assumption
  have hhi : ib (if bC s.1 < v then v else bC s.1) 10 = true := by split <;> assumption
  unfold X2_noteLoss X2_noteLoss_b55
  rw [hlo, hhi, gt, gt, rf_26_0, hb.1 _ (ib_lt hlo), hb.1 _ (ib_lt hhi)]
  have put : ∀ x : Int32, EvC (mI (mI M 26 5 (M.1 26 1)) 26 6 x) k (s.1, s.2.1, nI k, x, s.2.2.2.2) := fun x =>
    ⟨hb.fr (by rw [mI1_ne (by decide), mI1_ne (by decide)]) (by rw [mI1_ne (by decide), mI1_ne (by decide)]) (by rw [mI1_ne (by decide), mI1_ne (by decide)]) (by rw [mI1_ne (by decide), mI1_ne (by decide)]), by simp [mI1, a1], by simp [mI1, a2], by simp [mI1, a3], by simp [mI1, a4], by simp [mI1, a1], by simp [mI1]⟩
  unfold lossB
  by_cases c1 : bS s.1 (if v < bC s.1 then v else bC s.1).toNatClampNeg = (if v < bC s.1 then v else bC s.1)
  · rw [if_pos c1, if_pos c1]
    exact ⟨_, rfl, put _⟩
  · rw [if_neg c1, if_neg c1]
    by_cases c2 : bS s.1 (if bC s.1 < v then v else bC s.1).toNatClampNeg = (if bC s.1 < v then v else bC s.1)
    · rw [if_pos c2, if_pos c2]
      exact ⟨_, rfl, put _⟩
    · rw [if_neg c2, if_neg c2]
      exact ⟨M, rfl, hb, a1, a2, a3, a4, by rw [a5, h5], by rw [a6, h6]⟩
