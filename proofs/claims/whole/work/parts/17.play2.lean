theorem e_width {M : Mem} {p : Pt0} (hp : AtP M 9 8 1 p) {i : Nat} (hi : i < p.2) (h60 : p.2 ≤ 60) : X8_widthAt 8 (nI i) M = some (if two (p.1 i) = false then 1 else 2, M) := by
  unfold X8_widthAt X8_widthAt_b17
  rw [ib_nI (by omega) (by decide), gt, rf_8_0, ix_nI (by omega), hp.1 i hi, e_isOfTwo, bs]
  simp only [bz_eq0]
  split <;> rfl
/-- a look and a minute ask for no operand -/
theorem evS_any (k : Int32) (s : ER) {q v v' : Int32} (h : q = 1 ∨ q = 5) : whyB s.1 q v = whyB s.1 q v' ∧ evS k s (q, v) = evS k s (q, v') := by
  have n0 : ¬ q = 0 := by rcases h with rfl | rfl <;> decide
  have n2 : ¬ q = 2 := by rcases h with rfl | rfl <;> decide
  have n3 : ¬ q = 3 := by rcases h with rfl | rfl <;> decide
  have n4 : ¬ q = 4 := by rcases h with rfl | rfl <;> decide
  have e1 : whyB s.1 q v = whyB s.1 q v' := by unfold whyB; simp only [n0, n2, n3, n4, if_false]
  have e2 : perfB s.1 q v = perfB s.1 q v' := by unfold perfB; simp only [n0, n2, n3, n4, if_false]
  have e3 : ¬ q = 4 := by rcases h with rfl | rfl <;> decide
  refine ⟨e1, ?_⟩
  unfold evS
  simp only [e1, e2, e3, false_and, if_false]
theorem lossB_nn (b : Bt) (k : Nat) (hk : k < 2 ^ 31) (v : Int32) : (lossB b (nI k) v).1 = -6 ∧ (lossB b (nI k) v).2 = -6 ∨ 0 ≤ (lossB b (nI k) v).1 := by
  have hp : (0 : Int32) ≤ nI k := nI_pos' hk
  unfold lossB
  by_cases c1 : bS b (if v < bC b then v else bC b).toNatClampNeg = (if v < bC b then v else bC b)
  · rw [if_pos c1]; right; exact hp
  · rw [if_neg c1]
    by_cases c2 : bS b (if bC b < v then v else bC b).toNatClampNeg = (if bC b < v then v else bC b)
    · rw [if_pos c2]; right; exact hp
    · rw [if_neg c2]; left; exact ⟨rfl, rfl⟩
theorem okE_step {s : ER} (ok : okE s) {k : Nat} (hk : k < 2 ^ 31) {a : Int32 × Int32} (ha : okA a) (h0 : whyB s.1 a.1 a.2 = 0) : okE (evS (nI k) s a) := by
  obtain ⟨okb, hl, hs, hw⟩ := ok
  unfold evS
  rw [if_pos h0]
  refine ⟨okB_perf okb a.1 a.2 h0 ha.1 ha.2, ?_, rfl, rfl⟩
  show (if a.1 = 4 ∧ s.2.2.1 = -6 then lossB s.1 (nI k) a.2 else (s.2.2.1, s.2.2.2.1)).1 = -6 ∧ (if a.1 = 4 ∧ s.2.2.1 = -6 then lossB s.1 (nI k) a.2 else (s.2.2.1, s.2.2.2.1)).2 = -6 ∨ 0 ≤ (if a.1 = 4 ∧ s.2.2.1 = -6 then lossB s.1 (nI k) a.2 else (s.2.2.1, s.2.2.2.1)).1
  split
  · exact lossB_nn s.1 k hk a.2
  · exact hl
theorem e_play_l {p : Pt0} (ok : okP p) : ∀ K i n k s (M : Mem), i + K = p.2 → K + 1 < n → k ≤ i → flr p.1 K i 0 = -6 → AtP M 9 8 1 p → EvC M k s → okE s → ∃ M' k', X2_play_l44 26 1 8 n (nI i) M = some ((), M') ∧ EvC M' k' (evR k s (acl p.1 K i 0)) ∧ ((evR k s (acl p.1 K i 0)).2.2.2.2.1 = -6 → k' = k + (acl p.1 K i 0).length) := by
  have h60 := ok.1
  intro K
  induction K using Nat.strongRecOn with
  | ind K ih =>
    intro i n k s M hi hn hk hf hp hev oke
    obtain ⟨m, rfl⟩ : ∃ m, n = m + 1 := ⟨n - 1, by omega⟩
    by_cases hK : K = 0
    · subst hK
      refine ⟨M, k, ?_, hev, fun _ => rfl⟩
      show X2_play_b44 26 1 8 _ _ M = _
      unfold X2_play_b44 X2_play_b86
      rw [hp.2, if_pos (by rw [le_lit (by omega) (by omega)]; omega)]
    · obtain ⟨c, o, w, K', a, f1, f2, f3, f4, f5, f6, f7, f8, f9, f10⟩ := act_first hp ok K i hi (by omega) hf
      have hoA : okA (kq c, o) := by
        rcases f10 with z | z | z
        · rw [f9, z]; exact okA_1 o
        · rw [f9, z]; exact okA_5 o
        · rw [f9, z]; exact f8
      obtain ⟨M1, g1, g2⟩ := e_playAct hev oke c o hoA
      have hsame : whyB s.1 (kq c) o = whyB s.1 a.1 a.2 ∧ evS (nI k) s (kq c, o) = evS (nI k) s a := by
        rw [f9]
        rcases f10 with z | z | z
        · have := evS_any (nI k) s (q := a.1) (v := o) (v' := a.2) (Or.inl z); exact this
        · have := evS_any (nI k) s (q := a.1) (v := o) (v' := a.2) (Or.inr z); exact this
        · rw [z]; exact ⟨rfl, rfl⟩
      have fr := fr_X2_playAct (i0 := 26) c o M Sm_refl _ _ g1
      have hp1 : AtP M1 9 8 1 p := hp.fr (fr 9 (by decide)).1 (by rw [(fr 8 (by decide)).1])
      have hwd := e_width hp (i := i) (by omega) h60
      have hwd1 := e_width hp1 (i := i) (by omega) h60
      rw [f3] at hwd
      have hww : nI w = (if two (p.1 i) = false then (1 : Int32) else 2) := by
        have := Option.some.inj hwd
        exact congrArg Prod.fst this
      rw [← hww] at hwd1
      have hgo : X2_play_l44 26 1 8 (m + 1) (nI i) M = X2_play_l44 26 1 8 m (nI (i + w)) M1 := by
        show X2_play_b44 26 1 8 _ _ M = _
        unfold X2_play_b44
        rw [hp.2, if_neg (by rw [le_lit (by omega) (by omega)]; omega), hev.2.2.1, if_pos oke.2.2.1]
        simp only [f1, f2, bs, g1, hwd1, nI_add]
      rw [hgo, f7]
      rw [hsame.1, hsame.2] at g2
      by_cases w0 : whyB s.1 a.1 a.2 = 0
      · rw [if_pos w0] at g2
        obtain ⟨M2, k2, r1, r2, r3⟩ := ih K' (by omega) (i + w) m (k + 1) (evS (nI k) s a) M1 (by omega) (by omega) (by omega) f6 hp1 g2 (okE_step oke (by omega) f8 w0)
        refine ⟨M2, k2, r1, ?_, ?_⟩
        · show EvC M2 k2 (if whyB s.1 a.1 a.2 = 0 then evR (k + 1) (evS (nI k) s a) _ else _)
          rw [if_pos w0]; exact r2
        · intro z
          have z' : (if whyB s.1 a.1 a.2 = 0 then evR (k + 1) (evS (nI k) s a) (acl p.1 K' (i + w) 0) else evS (nI k) s a).2.2.2.2.1 = -6 := z
          rw [if_pos w0] at z'
          rw [r3 z', List.length_cons]; omega
      · rw [if_neg w0] at g2
        have hstop : (evS (nI k) s a).2.2.2.2.1 = nI k := by unfold evS; rw [if_neg w0]
        refine ⟨M1, k, ?_, ?_, ?_⟩
        · obtain ⟨m', rfl⟩ : ∃ m', m = m' + 1 := ⟨m - 1, by omega⟩
          show X2_play_b44 26 1 8 _ _ M1 = _
          unfold X2_play_b44 X2_play_b86
          rw [hp1.2, g2.2.2.1, hstop, if_neg (nI_n6 (by omega))]
          split <;> rfl
        · show EvC M1 k (if whyB s.1 a.1 a.2 = 0 then _ else evS (nI k) s a)
          rw [if_neg w0]; exact g2
        · intro z
          have z' : (if whyB s.1 a.1 a.2 = 0 then evR (k + 1) (evS (nI k) s a) (acl p.1 K' (i + w) 0) else evS (nI k) s a).2.2.2.2.1 = -6 := z
          rw [if_neg w0, hstop] at z'
          exact absurd z' (nI_n6 (by omega))
/-- the bath taken over from another -/
theorem e_takeOver {M : Mem} {i j : Nat} {b : Bt} (bi : BI i) (hb : AtB M j b) (h0 : rf j 0 ≠ i ∧ rf j 0 ≠ rf i 1 ∧ rf j 0 ≠ rf i 2) (hj : j ≠ i ∧ j ≠ rf i 0 ∧ j ≠ rf i 1 ∧ j ≠ rf i 2) (h1 : rf j 1 ≠ rf i 0) (h2 : rf j 2 ≠ rf i 0 ∧ rf j 2 ≠ rf i 1) : ∃ M', X0_takeOver i j M = some ((), M') ∧ AtB M' i b := by
  obtain ⟨a0, a1, a2, a3, a4, a5, a6, a7⟩ := hb
  unfold X0_takeOver
  simp only [mw]
  refine ⟨_, rfl, ?_⟩
  have c3 : ∀ N : Mem, N.1 j = M.1 j → ∀ k, N.1 j k = M.1 j k := fun N e k => by rw [e]
  refine ⟨fun q hq => ?_, fun q hq => ?_, fun q hq => ?_, ?_, ?_, ?_, ?_, ?_⟩
  · rw [mI1_ne bi.1.symm, mI1_ne bi.1.symm, mI1_ne bi.1.symm, mI1_ne bi.1.symm, mI1_ne bi.1.symm, mR_ne bi.2.2.2.2.1, mR_ne bi.2.2.2.1, mR_at, cpy_lt hq]
    exact a0 q hq
  · rw [mI1_ne bi.2.1.symm, mI1_ne bi.2.1.symm, mI1_ne bi.2.1.symm, mI1_ne bi.2.1.symm, mI1_ne bi.2.1.symm, mR_ne bi.2.2.2.2.2, mR_at, cpy_lt hq, mR_ne h1]
    exact a1 q hq
  · rw [mI1_ne bi.2.2.1.symm, mI1_ne bi.2.2.1.symm, mI1_ne bi.2.2.1.symm, mI1_ne bi.2.2.1.symm, mI1_ne bi.2.2.1.symm, mR_at, cpy_lt hq, mR_ne h2.2, mR_ne h2.1]
    exact a2 q hq
  all_goals simp only [mI1, mI1_ne hj.1, mR_ne hj.2.1, mR_ne hj.2.2.1, mR_ne hj.2.2.2, if_true, if_false, show ¬ (3 : Nat) = 7 by decide, show ¬ (3 : Nat) = 6 by decide, show ¬ (3 : Nat) = 5 by decide, show ¬ (3 : Nat) = 4 by decide, show ¬ (4 : Nat) = 7 by decide, show ¬ (4 : Nat) = 6 by decide, show ¬ (4 : Nat) = 5 by decide, show ¬ (5 : Nat) = 7 by decide, show ¬ (5 : Nat) = 6 by decide, show ¬ (6 : Nat) = 7 by decide]
  all_goals assumption
