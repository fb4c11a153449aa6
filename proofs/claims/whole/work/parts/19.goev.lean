/-! the model goes through the acts -/
def EvM (M : Mem) (s : ER) : Prop := AtB M 45 s.1 ∧ M.1 45 16 = s.2.1 ∧ M.1 45 18 = s.2.2.2.2.1 ∧ M.1 45 19 = s.2.2.2.2.2 ∧ M.1 45 20 = s.2.2.1 ∧ M.1 45 21 = s.2.2.2.1
/-- what happens by one act, and which basket was lost by it -/
theorem m_goOne {M : Mem} {k : Nat} {s : ER} {a : Int32 × Int32} (h : EvM M s) (ok : okE s) (hk : k < 60) (ha : okA a) (h52 : M.1 52 k = a.1) (h53 : M.1 53 k = a.2) (h0 : whyB s.1 a.1 a.2 = 0) : ∃ M', X12_goOne 45 (nI k) M = some ((), M') ∧ EvM M' (evS (nI k) s a) ∧ (∀ j, j ≠ 3 → j ≠ 4 → j ≠ 5 → j ≠ 6 → j ≠ 16 → j ≠ 20 → j ≠ 21 → M'.1 45 j = M.1 45 j) := by
  obtain ⟨okb, hl, hs, hw⟩ := ok
  obtain ⟨hb, a16, a18, a19, a20, a21⟩ := h
  have hc := okb.2.2.2.1
  have hcab := hb.2.2.2.1
  obtain ⟨M1, e1, e2, e3, e4⟩ := m_happen hb okb a.1 a.2 (fun z => ha.1 (Or.inr z))
  have fr := fr_X12_happen (i0 := 45) a.1 a.2 M Sm_refl _ _ e1
  have f52 : M1.1 52 k = a.1 := by rw [(fr 52 (by decide)).1]; exact h52
  have g18 : M1.1 45 18 = -6 := by rw [e4 18 (by decide) (by decide) (by decide) (by decide) (by decide), a18, hs]
  have g19 : M1.1 45 19 = -6 := by rw [e4 19 (by decide) (by decide) (by decide) (by decide) (by decide), a19, hw]
  have g20 : M1.1 45 20 = s.2.2.1 := by rw [e4 20 (by decide) (by decide) (by decide) (by decide) (by decide), a20]
  have g21 : M1.1 45 21 = s.2.2.2.1 := by rw [e4 21 (by decide) (by decide) (by decide) (by decide) (by decide), a21]
  have g16 : M1.1 45 16 = (if a.1 = 1 then s.2.1 ||| sh (hereB s.1) else s.2.1) := by rw [e3, a16]
  have hkb : ib (nI k) 60 = true := ib_nI hk (by decide)
  have hkx : (nI k).toNatClampNeg = k := ix_nI (by omega)
  -- the end, where a loss is written
  have put : ∀ x : Int32, EvM (mI (mI M1 45 20 (nI k)) 45 21 x) (perfB s.1 a.1 a.2, (if a.1 = 1 then s.2.1 ||| sh (hereB s.1) else s.2.1), nI k, x, -6, -6) ∧ (∀ j, j ≠ 3 → j ≠ 4 → j ≠ 5 → j ≠ 6 → j ≠ 16 → j ≠ 20 → j ≠ 21 → (mI (mI M1 45 20 (nI k)) 45 21 x).1 45 j = M.1 45 j) := by
    intro x
    obtain ⟨q0, q1, q2, q3, q4, q5, q6, q7⟩ := e2
    refine ⟨⟨⟨fun j hj => by rw [mI1_ne (by decide), mI1_ne (by decide)]; exact q0 j hj, fun j hj => by rw [mI1_ne (by decide), mI1_ne (by decide)]; exact q1 j hj, fun j hj => by rw [mI1_ne (by decide), mI1_ne (by decide)]; exact q2 j hj, by simp [mI1]; exact q3, by simp [mI1]; exact q4, by simp [mI1]; exact q5, by simp [mI1]; exact q6, by simp [mI1]; exact q7⟩, by simp [mI1]; exact g16, by simp [mI1]; exact g18, by simp [mI1]; exact g19, by simp [mI1], by simp [mI1]⟩, ?_⟩
    intro j j3 j4 j5 j6 j16 j20 j21
    simp only [mI1, j20, j21, if_false]
    exact e4 j j3 j4 j5 j6 j16
  have keep : EvM M1 (perfB s.1 a.1 a.2, (if a.1 = 1 then s.2.1 ||| sh (hereB s.1) else s.2.1), s.2.2.1, s.2.2.2.1, -6, -6) := ⟨e2, g16, g18, g19, g20, g21⟩
  have keep4 : ∀ j, j ≠ 3 → j ≠ 4 → j ≠ 5 → j ≠ 6 → j ≠ 16 → j ≠ 20 → j ≠ 21 → M1.1 45 j = M.1 45 j := fun j j3 j4 j5 j6 j16 _ _ => e4 j j3 j4 j5 j6 j16
  unfold evS
  rw [if_pos h0]
  unfold X12_goOne X12_goOne_b27 X12_goOne_b53 X12_goOne_b54 X12_goOne_b92 X12_goOne_b96 X12_goOne_b97 X12_goOne_b145 X12_goOne_b148
  simp only [hkb, gt, iw, rf_45_13, rf_45_14, hkx, h53, h52, hcab, hc, hb.1 _ (ib_lt hc), e1, bs, f52, g20]
  by_cases c4 : a.1 = 4
  · have hv := ha.1 (Or.inr c4)
    have hne : ¬ a.2 = bC s.1 := fun z => by
      unfold whyB at h0
      rw [c4, z] at h0
      simp at h0
    simp only [c4, if_true, true_and, hv, gt, hb.1 _ (ib_lt hv)]
    simp only [c4] at put keep
    by_cases cl : s.2.2.1 = -6
    · have hlc : s.2.2.2.1 = -6 := by
        rcases hl with z | z
        · exact z.2
        · rw [cl] at z; exact absurd z (by decide)
      simp only [cl, if_true, show ¬ (0 : Int32) ≤ -6 by decide, if_false, show ¬ (1 : Int32) = 0 by decide]
      rw [cl, hlc] at keep
      unfold lossB
      by_cases o1 : bS s.1 (bC s.1).toNatClampNeg = bC s.1
      · by_cases o2 : bS s.1 a.2.toNatClampNeg = a.2
        · simp only [o1, o2, if_true, show ¬ (1 : Int32) = 0 by decide, if_false]
          by_cases lt1 : a.2 < bC s.1
          · have le1 : a.2 ≤ bC s.1 := by rw [fa_le]; rw [fa_lt] at lt1; omega
            simp only [lt1, if_true, o2, le1]
            exact ⟨_, rfl, put _⟩
          · simp only [lt1, if_false, o1, if_true]
            by_cases le1 : a.2 ≤ bC s.1
            · have : a.2 = bC s.1 := by rw [fa_eq]; rw [fa_le] at le1; rw [fa_lt] at lt1; omega
              exact absurd this hne
            · simp only [le1, if_false]
              exact ⟨_, rfl, put _⟩
        · simp only [o1, o2, if_true, if_false, show ¬ (1 : Int32) = 0 by decide]
          by_cases lt1 : a.2 < bC s.1
          · have nlt : ¬ bC s.1 < a.2 := by rw [fa_lt]; rw [fa_lt] at lt1; omega
            simp only [lt1, if_true, o2, if_false, nlt, o1]
            exact ⟨_, rfl, put _⟩
          · simp only [lt1, if_false, o1, if_true]
            exact ⟨_, rfl, put _⟩
      · by_cases o2 : bS s.1 a.2.toNatClampNeg = a.2
        · simp only [o1, o2, if_true, if_false, show ¬ (1 : Int32) = 0 by decide]
          by_cases lt1 : a.2 < bC s.1
          · simp only [lt1, if_true, o2]
            exact ⟨_, rfl, put _⟩
          · simp only [lt1, if_false, o1]
            by_cases lt2 : bC s.1 < a.2
            · simp only [lt2, if_true, o2]
              exact ⟨_, rfl, put _⟩
            · have : a.2 = bC s.1 := by rw [fa_eq]; rw [fa_lt] at lt1 lt2; omega
              rw [this] at o2
              exact absurd o2 o1
        · simp only [o1, o2, if_true, if_false]
          have q1 : ¬ bS s.1 (if a.2 < bC s.1 then a.2 else bC s.1).toNatClampNeg = (if a.2 < bC s.1 then a.2 else bC s.1) := by split <;> assumption
          have q2 : ¬ bS s.1 (if bC s.1 < a.2 then a.2 else bC s.1).toNatClampNeg = (if bC s.1 < a.2 then a.2 else bC s.1) := by split <;> assumption
          rw [if_neg q1, if_neg q2]
          exact ⟨_, rfl, keep, keep4⟩
    · have hge : (0 : Int32) ≤ s.2.2.1 := by
        rcases hl with z | z
        · exact absurd z.1 cl
        · exact z
      simp only [cl, if_false, hge, if_true]
      by_cases o1 : bS s.1 (bC s.1).toNatClampNeg = bC s.1
      · by_cases o2 : bS s.1 a.2.toNatClampNeg = a.2
        · simp only [o1, o2, if_true, if_false, show ¬ (1 : Int32) = 0 by decide]; exact ⟨_, rfl, keep, keep4⟩
        · simp only [o1, o2, if_true, if_false, show ¬ (1 : Int32) = 0 by decide]; exact ⟨_, rfl, keep, keep4⟩
      · by_cases o2 : bS s.1 a.2.toNatClampNeg = a.2
        · simp only [o1, o2, if_true, if_false, show ¬ (1 : Int32) = 0 by decide]; exact ⟨_, rfl, keep, keep4⟩
        · simp only [o1, o2, if_true, if_false, show ¬ (1 : Int32) = 0 by decide]; exact ⟨_, rfl, keep, keep4⟩
  · simp only [c4, if_false, false_and, if_true]
    by_cases o1 : bS s.1 (bC s.1).toNatClampNeg = bC s.1
    · simp only [o1, if_true]; exact ⟨_, rfl, keep, keep4⟩
    · simp only [o1, if_false]; exact ⟨_, rfl, keep, keep4⟩
theorem whyB_pos (b : Bt) (k v : Int32) (h : ¬ whyB b k v = 0) : 0 < whyB b k v := by
  unfold whyB at h ⊢
  repeat' split
  all_goals first | decide | (exfalso; apply h; simp_all)
theorem m_goEv_l {L : List (Int32 × Int32)} (hL : L.length ≤ 60) (hA : ∀ a ∈ L, okA a) : ∀ r k n s (M : Mem), k + r = L.length → r + 1 < n → EvM M s → okE s → AtA M L → ∃ M', X12_goEvenings_l31 45 n (nI k) M = some ((), M') ∧ EvM M' (evR k s (L.drop k)) ∧ (∀ j, j ≠ 3 → j ≠ 4 → j ≠ 5 → j ≠ 6 → j ≠ 16 → j ≠ 18 → j ≠ 19 → j ≠ 20 → j ≠ 21 → M'.1 45 j = M.1 45 j) := by
  intro r
  induction r with
  | zero =>
    intro k n s M hk hn hev oke ha
    obtain ⟨m, rfl⟩ : ∃ m, n = m + 1 := ⟨n - 1, by omega⟩
    refine ⟨M, ?_, ?_, fun _ _ _ _ _ _ _ _ _ _ => rfl⟩
    · show X12_goEvenings_b31 45 _ _ M = _
      unfold X12_goEvenings_b31 X12_goEvenings_b106
      rw [ha.1, if_pos (by rw [le_lit (by omega) (by omega)]; omega)]
    · rw [List.drop_eq_nil_of_le (by omega)]; exact hev
  | succ r ih =>
    intro k n s M hk hn hev oke ha
    obtain ⟨m, rfl⟩ : ∃ m, n = m + 1 := ⟨n - 1, by omega⟩
    have hkl : k < L.length := by omega
    have hdrop : L.drop k = L.getD k (0, 0) :: L.drop (k + 1) := by
      rw [List.drop_eq_getElem_cons hkl]
      congr 1
      simp [List.getD_eq_getElem?_getD, List.getElem?_eq_getElem hkl]
    have hmem : L.getD k (0, 0) ∈ L := by
      have : L.getD k (0, 0) = L[k] := by simp [List.getD_eq_getElem?_getD, List.getElem?_eq_getElem hkl]
      rw [this]; exact List.getElem_mem hkl
    have h52 := ha.2.1 k hkl
    have h53 := ha.2.2 k hkl
    rw [hdrop]
    have hoA := hA _ hmem
    generalize L.getD k (0, 0) = a at h52 h53 hoA ⊢
    have hkb : ib (nI k) 60 = true := ib_nI (by omega) (by decide)
    obtain ⟨okb, hl, hs, hw⟩ := oke
    have oke : okE s := ⟨okb, hl, hs, hw⟩
    obtain ⟨hb, a16, a18, a19, a20, a21⟩ := hev
    have hgo : X12_goEvenings_l31 45 (m + 1) (nI k) M = (if whyB s.1 a.1 a.2 ≤ 0 then X12_goEvenings_b74 45 (X12_goEvenings_l31 45 m) (nI k) (whyB s.1 a.1 a.2) (-6) M else X12_goEvenings_b74 45 (X12_goEvenings_l31 45 m) (nI k) (whyB s.1 a.1 a.2) (nI k) M) := by
      show X12_goEvenings_b31 45 _ _ M = _
      unfold X12_goEvenings_b31
      rw [ha.1, if_neg (by rw [le_lit (by omega) (by omega)]; omega), a18, hs, if_neg (by decide), hkb, gt, gt, rf_45_13, rf_45_14, ix_nI (by omega), h52, h53, m_whyNot hb okb, bs]
    rw [hgo]
    by_cases w0 : whyB s.1 a.1 a.2 = 0
    · have ev2 : EvM (mI (mI M 45 18 (-6)) 45 19 (-6)) s := by
        obtain ⟨q0, q1, q2, q3, q4, q5, q6, q7⟩ := hb
        exact ⟨⟨fun j hj => by rw [mI1_ne (by decide), mI1_ne (by decide)]; exact q0 j hj, fun j hj => by rw [mI1_ne (by decide), mI1_ne (by decide)]; exact q1 j hj, fun j hj => by rw [mI1_ne (by decide), mI1_ne (by decide)]; exact q2 j hj, by simp [mI1]; exact q3, by simp [mI1]; exact q4, by simp [mI1]; exact q5, by simp [mI1]; exact q6, by simp [mI1]; exact q7⟩, by simp [mI1]; exact a16, by simp [mI1]; exact hs.symm, by simp [mI1]; exact hw.symm, by simp [mI1]; exact a20, by simp [mI1]; exact a21⟩
      have z52 : (mI (mI M 45 18 (-6)) 45 19 (-6)).1 52 k = a.1 := by rw [mI1_ne (by decide), mI1_ne (by decide)]; exact h52
      have z53 : (mI (mI M 45 18 (-6)) 45 19 (-6)).1 53 k = a.2 := by rw [mI1_ne (by decide), mI1_ne (by decide)]; exact h53
      obtain ⟨M1, e1, e2, e3⟩ := m_goOne ev2 oke (by omega) hoA z52 z53 w0
      have fr := fr_X12_goOne (i0 := 45) (nI k) (mI (mI M 45 18 (-6)) 45 19 (-6)) Sm_refl _ _ e1
      have ha1 : AtA M1 L := by
        refine ⟨?_, fun q hq => ?_, fun q hq => ?_⟩
        · rw [e3 15 (by decide) (by decide) (by decide) (by decide) (by decide) (by decide) (by decide)]; simp [mI1]; exact ha.1
        · rw [(fr 52 (by decide)).1, mI1_ne (by decide), mI1_ne (by decide)]; exact ha.2.1 q hq
        · rw [(fr 53 (by decide)).1, mI1_ne (by decide), mI1_ne (by decide)]; exact ha.2.2 q hq
      obtain ⟨M2, g1, g2, g3⟩ := ih (k + 1) m (evS (nI k) s a) M1 (by omega) (by omega) e2 (okE_step oke (by omega) hoA w0) ha1
      refine ⟨M2, ?_, ?_, ?_⟩
      · rw [w0, if_pos (by decide)]
        unfold X12_goEvenings_b74 X12_goEvenings_b88 X12_goEvenings_b100
        simp only [mw]
        rw [if_pos (by decide), if_pos trivial, e1, bs, L1]
        exact g1
      · show EvM M2 (if whyB s.1 a.1 a.2 = 0 then evR (k + 1) (evS (nI k) s a) (L.drop (k + 1)) else evS (nI k) s a)
        rw [if_pos w0]; exact g2
      · intro j j3 j4 j5 j6 j16 j18 j19 j20 j21
        rw [g3 j j3 j4 j5 j6 j16 j18 j19 j20 j21, e3 j j3 j4 j5 j6 j16 j20 j21]
        simp only [mI1, j18, j19, if_false]
    · have wp := whyB_pos s.1 a.1 a.2 w0
      have nle : ¬ whyB s.1 a.1 a.2 ≤ 0 := by rw [fa_le]; rw [fa_lt] at wp; omega
      rw [if_neg nle]
      obtain ⟨m', rfl⟩ : ∃ m', m = m' + 1 := ⟨m - 1, by omega⟩
      refine ⟨mI (mI M 45 18 (nI k)) 45 19 (whyB s.1 a.1 a.2), ?_, ?_, ?_⟩
      · unfold X12_goEvenings_b74 X12_goEvenings_b88 X12_goEvenings_b100
        simp only [mw]
        rw [if_neg nle, if_neg w0, L1]
        show X12_goEvenings_b31 45 _ _ _ = _
        unfold X12_goEvenings_b31 X12_goEvenings_b106
        have e18 : (mI (mI M 45 18 (nI k)) 45 19 (whyB s.1 a.1 a.2)).1 45 18 = nI k := by simp [mI1]
        rw [e18, if_pos (nI_pos' (show k < 2 ^ 31 by omega))]
        split <;> rfl
      · show EvM _ (if whyB s.1 a.1 a.2 = 0 then evR (k + 1) (evS (nI k) s a) (L.drop (k + 1)) else evS (nI k) s a)
        rw [if_neg w0]
        unfold evS
        rw [if_neg w0]
        obtain ⟨q0, q1, q2, q3, q4, q5, q6, q7⟩ := hb
        exact ⟨⟨fun j hj => by rw [mI1_ne (by decide), mI1_ne (by decide)]; exact q0 j hj, fun j hj => by rw [mI1_ne (by decide), mI1_ne (by decide)]; exact q1 j hj, fun j hj => by rw [mI1_ne (by decide), mI1_ne (by decide)]; exact q2 j hj, by simp [mI1]; exact q3, by simp [mI1]; exact q4, by simp [mI1]; exact q5, by simp [mI1]; exact q6, by simp [mI1]; exact q7⟩, by simp [mI1]; exact a16, by simp [mI1], by simp [mI1], by simp [mI1]; exact a20, by simp [mI1]; exact a21⟩
      · intro j j3 j4 j5 j6 j16 j18 j19 j20 j21
        simp only [mI1, j18, j19, if_false]
