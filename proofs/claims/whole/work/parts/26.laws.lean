/-! the laws by which things are found -/
def thD (n : Nt) (e : Nat) : Nat := (n.1 e).toNatClampNeg
def onD (w d : Nat) : Nat := (w / 10 * d + w % 10) % 8
def agB (n : Nt) (w e : Nat) : Bool := decide (nI (onD w (thD n e)) = n.2.1 e)
def agR (n : Nt) (w : Nat) : Nat → Nat → Bool
  | 0, _ => true
  | r + 1, k => agB n w k && agR n w r (k + 1)
def fw (n : Nt) (w : Nat) : Bool := decide (w % 10 < 8) && agR n w n.2.2 0
theorem onD_lt (w d : Nat) : onD w d < 8 := Nat.mod_lt _ (by decide)
theorem thD_eq {n : Nt} (ok : okN n) {e : Nat} (he : e < n.2.2) : n.1 e = nI (thD n e) ∧ thD n e < 61 := by
  obtain ⟨j, hj, hh⟩ := ib_ex (ok.2.1 e he) (by decide)
  unfold thD
  rw [hh, ix_nI (by omega)]
  exact ⟨rfl, hj⟩
theorem e_thingOn {a b d : Nat} (ha : a < 10) (hb : b < 10) (hd : d < 100) (M : Mem) : X5_thingOn (nI d) (nI a) (nI b) M = some (nI ((a * d + b) % 8), M) := by
  have hm : a * d ≤ 9 * 99 := Nat.mul_le_mul (by omega) (by omega)
  unfold X5_thingOn
  rw [show (!((8 : Int32) == 0)) = true by decide, gt, pk_mul, nI_add]
  have : nI (a * d + b) - nI (a * d + b) / 8 * 8 = nI ((a * d + b) % 8) := pk_rem (d := 8) (by omega) (by decide) (by decide)
  rw [this]
theorem m_foundBy {w d : Nat} (hw : w < 80) (hd : d < 100) (M : Mem) : X12_foundBy (nI w) (nI d) M = some (nI (onD w d), M) := by
  have hm : w / 10 * d ≤ 9 * 99 := Nat.mul_le_mul (by omega) (by omega)
  unfold X12_foundBy
  have d1 : nI w / 10 = nI (w / 10) := pk_div (d := 10) (by omega) (by decide) (by decide)
  have d2 : nI w - nI w / 10 * 10 = nI (w % 10) := pk_rem (d := 10) (by omega) (by decide) (by decide)
  rw [show (!((8 : Int32) == 0)) = true by decide, show (!((10 : Int32) == 0)) = true by decide, gt, gt, gt, d2, d1, pk_mul, nI_add]
  have : nI (w / 10 * d + w % 10) - nI (w / 10 * d + w % 10) / 8 * 8 = nI ((w / 10 * d + w % 10) % 8) := pk_rem (d := 8) (by omega) (by decide) (by decide)
  rw [this]; rfl
theorem e_agree_l {M : Mem} {n : Nt} (h : AtN M 6 7 5 2 n) (ok : okN n) {a b : Nat} (ha : a < 8) (hb : b < 8) : ∀ r k f, k + r = n.2.2 → r < f → X5_agree_l2 5 f (nI a) (nI b) (nI k) M = some (bz (agR n (10 * a + b) r k), M) := by
  obtain ⟨h1, h2, h3⟩ := h
  have h8 := ok.1
  intro r
  induction r with
  | zero =>
    intro k f hk hf
    obtain ⟨f', rfl⟩ : ∃ f', f = f' + 1 := ⟨f - 1, by omega⟩
    show X5_agree_b2 5 _ _ _ _ M = _
    unfold X5_agree_b2
    rw [h3, if_pos (by rw [le_lit (by omega) (by omega)]; omega)]
    rfl
  | succ r ih =>
    intro k f hk hf
    obtain ⟨f', rfl⟩ : ∃ f', f = f' + 1 := ⟨f - 1, by omega⟩
    show X5_agree_b2 5 _ _ _ _ M = _
    unfold X5_agree_b2
    obtain ⟨t1, t2⟩ := thD_eq ok (e := k) (by omega)
    rw [h3, if_neg (by rw [le_lit (by omega) (by omega)]; omega), ib_nI (by omega) (by decide), gt, ix_nI (by omega), rf_5_0, rf_5_1, h1 k (by omega), t1, e_thingOn (by omega) (by omega) (by omega), bs, gt]
    simp only []
    rw [h2 k (by omega), L1]
    have eo : (a * thD n k + b) % 8 = onD (10 * a + b) (thD n k) := by
      unfold onD
      rw [show (10 * a + b) / 10 = a by omega, show (10 * a + b) % 10 = b by omega]
    rw [eo]
    show _ = some (bz (agB n (10 * a + b) k && agR n (10 * a + b) r (k + 1)), M)
    unfold agB
    by_cases e : nI (onD (10 * a + b) (thD n k)) = n.2.1 k
    · rw [if_pos e, decide_eq_true e, Bool.true_and]
      exact ih (k + 1) f' (by omega) (by omega)
    · rw [if_neg e, decide_eq_false e]; rfl
theorem e_agree {M : Mem} {n : Nt} (h : AtN M 6 7 5 2 n) (ok : okN n) {a b : Nat} (ha : a < 8) (hb : b < 8) : X5_agree 5 (nI a) (nI b) M = some (bz (fw n (10 * a + b)), M) := by
  unfold X5_agree
  have := e_agree_l h ok ha hb n.2.2 0 FU (by omega) (by have := ok.1; show n.2.2 < 2000; omega)
  rw [show (0 : Int32) = nI 0 from rfl, this]
  unfold fw
  rw [decide_eq_true (by omega), Bool.true_and]
theorem m_isFit_l {M : Mem} {n : Nt} (h : AtN M 49 50 45 10 n) (ok : okN n) {w : Nat} (hw : w < 80) : ∀ r k f v, k + r = n.2.2 → r < f → X12_isFit_l17 45 f (nI w) (bz v) (nI k) M = some (bz (v && agR n w r k), M) := by
  obtain ⟨h1, h2, h3⟩ := h
  have h8 := ok.1
  intro r
  induction r with
  | zero =>
    intro k f v hk hf
    obtain ⟨f', rfl⟩ : ∃ f', f = f' + 1 := ⟨f - 1, by omega⟩
    show X12_isFit_b17 45 _ _ _ _ M = _
    unfold X12_isFit_b17
    rw [h3, if_pos (by rw [le_lit (by omega) (by omega)]; omega), gbz]
    show _ = some (bz (v && true), M)
    rw [Bool.and_true]
  | succ r ih =>
    intro k f v hk hf
    obtain ⟨f', rfl⟩ : ∃ f', f = f' + 1 := ⟨f - 1, by omega⟩
    show X12_isFit_b17 45 _ _ _ _ M = _
    unfold X12_isFit_b17 X12_isFit_b52 X12_isFit_b53
    obtain ⟨t1, t2⟩ := thD_eq ok (e := k) (by omega)
    rw [h3, if_neg (by rw [le_lit (by omega) (by omega)]; omega), L1]
    cases v
    · rw [if_pos (by decide)]
      exact ih (k + 1) f' false (by omega) (by omega)
    · rw [if_neg (by decide), ib_nI (by omega) (by decide), gt, ix_nI (by omega), rf_45_8, rf_45_9, h1 k (by omega), t1, m_foundBy hw (by omega), bs, gt]
      simp only []
      rw [h2 k (by omega)]
      show _ = some (bz (true && (agB n w k && agR n w r (k + 1))), M)
      unfold agB
      rw [Bool.true_and]
      by_cases e : nI (onD w (thD n k)) = n.2.1 k
      · rw [if_pos e, decide_eq_true e]
        exact ih (k + 1) f' true (by omega) (by omega)
      · rw [if_neg e, decide_eq_false e]
        exact ih (k + 1) f' false (by omega) (by omega)
theorem m_isFit {M : Mem} {n : Nt} (h : AtN M 49 50 45 10 n) (ok : okN n) {w : Nat} (hw : w < 80) : X12_isFit 45 (nI w) M = some (bz (fw n w), M) := by
  unfold X12_isFit X12_isFit_b14
  have d2 : nI w - nI w / 10 * 10 = nI (w % 10) := pk_rem (d := 10) (by omega) (by decide) (by decide)
  rw [show (!((10 : Int32) == 0)) = true by decide, gt, d2]
  have key := fun v => m_isFit_l h ok hw n.2.2 0 FU v (by omega) (by have := ok.1; show n.2.2 < 2000; omega)
  unfold fw
  by_cases c : 8 ≤ w % 10
  · rw [if_pos (by rw [show (8 : Int32) = nI 8 from rfl, le_lit (by decide) (by omega)]; exact c), decide_eq_false (by omega)]
    exact key false
  · rw [if_neg (by rw [show (8 : Int32) = nI 8 from rfl, le_lit (by decide) (by omega)]; exact c), decide_eq_true (by omega)]
    exact key true
/-- how many fit below w -/
def cn (n : Nt) (k : Nat) : Nat := fb_ct (fw n) k
/-- the class's list -/
def GI (n : Nt) (k : Nat) (M : Mem) : Prop := M.1 38 2 = nI (cn n k) ∧ (∀ w, w < k → fw n w = true → M.1 39 (cn n w) = nI w) ∧ AtN M 6 7 5 2 n
theorem GI.step {n : Nt} {k : Nat} {M : Mem} (h : GI n k M) (hf : fw n k = true) : GI n (k + 1) (mI (mI M 39 (cn n k) (nI k)) 38 2 (nI (cn n k) + 1)) := by
  obtain ⟨h1, h2, h3⟩ := h
  have ec : cn n (k + 1) = cn n k + 1 := by unfold cn; rw [fb_ct_succ, if_pos hf]
  refine ⟨by rw [mI1, if_pos rfl, L1, ec], fun w hw hfw => ?_, h3.fr (by rw [mI1_ne (by decide), mI1_ne (by decide)]) (by rw [mI1_ne (by decide), mI1_ne (by decide)]) (by rw [mI1_ne (by decide), mI1_ne (by decide)])⟩
  rw [mI1_ne (by decide), mI1]
  by_cases e : w = k
  · subst e; rw [if_pos rfl]
  · rw [if_neg (show ¬ cn n w = cn n k from fun z => e (fb_ct_kth_one hfw hf z))]
    exact h2 w (by omega) hfw
theorem GI.skip {n : Nt} {k : Nat} {M : Mem} (h : GI n k M) (hf : fw n k = false) : GI n (k + 1) M := by
  obtain ⟨h1, h2, h3⟩ := h
  have ec : cn n (k + 1) = cn n k := by unfold cn; rw [fb_ct_succ, hf]; rfl
  refine ⟨by rw [ec]; exact h1, fun w hw hfw => ?_, h3⟩
  by_cases e : w = k
  · subst e; rw [hf] at hfw; exact absurd hfw (by decide)
  · exact h2 w (by omega) hfw
theorem cn_le (n : Nt) : ∀ a b, b ≤ 8 → cn n (10 * a + b) ≤ 8 * a + b ∧ (b = 8 → cn n (10 * a + 10) ≤ 8 * a + 8) := by
  have st : ∀ k, cn n (k + 1) ≤ cn n k + 1 ∧ (8 ≤ k % 10 → cn n (k + 1) = cn n k) := by
    intro k
    unfold cn
    rw [fb_ct_succ]
    refine ⟨by split <;> omega, fun h => ?_⟩
    have : fw n k = false := by unfold fw; rw [decide_eq_false (by omega)]; rfl
    rw [this]; rfl
  have full : ∀ a, cn n (10 * a) ≤ 8 * a → ∀ b, b ≤ 8 → cn n (10 * a + b) ≤ 8 * a + b := by
    intro a h0 b
    induction b with
    | zero => intro _; exact h0
    | succ b ih =>
      intro hb
      have := (st (10 * a + b)).1
      have := ih (by omega)
      rw [← Nat.add_assoc]; omega
  have rows : ∀ a, cn n (10 * a) ≤ 8 * a := by
    intro a
    induction a with
    | zero => exact Nat.le_refl 0
    | succ a ih =>
      have h8 := full a ih 8 (Nat.le_refl _)
      have e1 := (st (10 * a + 8)).2 (by omega)
      have e2 := (st (10 * a + 9)).2 (by omega)
      rw [show 10 * (a + 1) = 10 * a + 9 + 1 by omega]
      rw [show 10 * a + 8 + 1 = 10 * a + 9 by omega] at e1
      omega
  intro a b hb
  refine ⟨full a (rows a) b hb, fun _ => ?_⟩
  have := rows (a + 1)
  rw [show 10 * a + 10 = 10 * (a + 1) by omega]; omega
theorem e_gather_l15 {n : Nt} (ok : okN n) {a : Nat} (ha : a < 8) (k7 : Int32 → Mem → Option (Unit × Mem)) : ∀ r b f (M : Mem), b + r = 8 → r < f → GI n (10 * a + b) M → ∃ M', X5_gather_l15 38 5 k7 f (nI a) (nI b) M = k7 (nI (a + 1)) M' ∧ GI n (10 * (a + 1)) M' := by
  intro r
  induction r with
  | zero =>
    intro b f M hb hf h
    obtain ⟨f', rfl⟩ : ∃ f', f = f' + 1 := ⟨f - 1, by omega⟩
    have hb8 : b = 8 := by omega
    subst hb8
    refine ⟨M, ?_, ?_⟩
    · show X5_gather_b15 38 5 k7 _ _ _ M = _
      unfold X5_gather_b15
      rw [if_pos (by decide), L1]
    · have s1 := h.skip (by unfold fw; rw [decide_eq_false (by omega)]; rfl)
      have s2 := s1.skip (by unfold fw; rw [decide_eq_false (by omega)]; rfl)
      exact s2
  | succ r ih =>
    intro b f M hb hf h
    obtain ⟨f', rfl⟩ : ∃ f', f = f' + 1 := ⟨f - 1, by omega⟩
    have hc := (cn_le n a b (by omega)).1
    have goal : ∃ M1, X5_gather_l15 38 5 k7 (f' + 1) (nI a) (nI b) M = X5_gather_l15 38 5 k7 f' (nI a) (nI (b + 1)) M1 ∧ GI n (10 * a + b + 1) M1 := by
      have l8 : ¬ (8 : Int32) ≤ nI b := by rw [show (8 : Int32) = nI 8 from rfl, le_lit (by decide) (by omega)]; omega
      cases c : fw n (10 * a + b)
      · refine ⟨M, ?_, h.skip c⟩
        show X5_gather_b15 38 5 k7 _ _ _ M = _
        unfold X5_gather_b15 X5_gather_b55
        rw [if_neg l8, e_agree h.2.2 ok ha (by omega), bs, c]
        simp only [bz_f, if_true]
        rw [L1]
      · refine ⟨_, ?_, h.step c⟩
        show X5_gather_b15 38 5 k7 _ _ _ M = _
        unfold X5_gather_b15 X5_gather_b55
        rw [if_neg l8, e_agree h.2.2 ok ha (by omega), bs, c]
        simp only [bz_t, show ¬ (1 : Int32) = 0 by decide, if_false, mw, rf_38_0]
        rw [h.1, ib_nI (by omega) (by decide), gt, ix_nI (by omega), mI1_ne (by decide), h.1, L1, show (10 : Int32) * nI a + nI b = nI (10 * a + b) by rw [L10, pk_mul, nI_add], L1]
    obtain ⟨M1, e1, g1⟩ := goal
    obtain ⟨M2, e2, g2⟩ := ih (b + 1) f' M1 (by omega) (by omega) g1
    exact ⟨M2, e1.trans e2, g2⟩
theorem e_gather_l7 {n : Nt} (ok : okN n) : ∀ r a f (M : Mem), a + r = 8 → r < f → GI n (10 * a) M → ∃ M', X5_gather_l7 38 5 f (nI a) M = some ((), M') ∧ GI n 80 M' := by
  intro r
  induction r with
  | zero =>
    intro a f M ha hf h
    obtain ⟨f', rfl⟩ : ∃ f', f = f' + 1 := ⟨f - 1, by omega⟩
    have h8 : a = 8 := by omega
    subst h8
    exact ⟨M, rfl, h⟩
  | succ r ih =>
    intro a f M ha hf h
    obtain ⟨f', rfl⟩ : ∃ f', f = f' + 1 := ⟨f - 1, by omega⟩
    obtain ⟨M1, e1, g1⟩ := e_gather_l15 ok (a := a) (by omega) (X5_gather_l7 38 5 f') 8 0 FU M (by omega) (by decide) h
    obtain ⟨M2, e2, g2⟩ := ih (a + 1) f' M1 (by omega) (by omega) g1
    refine ⟨M2, ?_, g2⟩
    show X5_gather_b7 38 5 _ _ M = _
    unfold X5_gather_b7
    rw [if_neg (by rw [show (8 : Int32) = nI 8 from rfl, le_lit (by decide) (by omega)]; omega)]
    exact e1.trans e2
theorem e_gather {M : Mem} {n : Nt} (h : AtN M 6 7 5 2 n) (ok : okN n) : ∃ M', X5_gather 38 5 M = some ((), M') ∧ GI n 80 M' := by
  unfold X5_gather
  simp only [mw]
  exact e_gather_l7 ok 8 0 FU _ (by omega) (by decide) ⟨by rw [mI1, if_pos rfl]; rfl, fun w hw => absurd hw (Nat.not_lt_zero w), h.fr (mI1_ne (by decide)) (mI1_ne (by decide)) (by rw [mI1_ne (by decide)])⟩
/-- the number of the law asked for -/
def fd (n : Nt) (x : Int32) : Nat → Nat → Int32
  | 0, _ => -6
  | r + 1, k => if fw n k = true ∧ nI (cn n k) = x then nI k else fd n x r (k + 1)
def q_fits (x : Int32) (σ : Sg) : Int32 := if x = -1 then nI (cn σ.2.1 80) else fd σ.2.1 x 80 0
theorem fd_hit {n : Nt} {w : Nat} (hf : fw n w = true) (hw : w < 80) : ∀ r k, k + r = 80 → k ≤ w → fd n (nI (cn n w)) r k = nI w := by
  intro r
  induction r with
  | zero => intro k hk hkw; omega
  | succ r ih =>
    intro k hk hkw
    unfold fd
    by_cases e : k = w
    · subst e; rw [if_pos ⟨hf, rfl⟩]
    · rw [if_neg (fun z => ?_)]
      · exact ih (k + 1) (by omega) (by omega)
      · have l1 := fb_ct_le (fw n) k
        have l2 := fb_ct_le (fw n) w
        have e1 : nI (cn n k) = nI (cn n w) := z.2
        have e2 : cn n k = cn n w := by
          have := congrArg Int32.toInt e1
          unfold cn at this ⊢
          rw [nI_toInt (by omega), nI_toInt (by omega)] at this
          omega
        exact e (fb_ct_kth_one z.1 hf e2)
theorem fd_miss {n : Nt} {x : Int32} (hx : x.toInt < 0 ∨ (cn n 80 : Int) ≤ x.toInt) : ∀ r k, k + r = 80 → fd n x r k = -6 := by
  intro r
  induction r with
  | zero => intro k _; rfl
  | succ r ih =>
    intro k hk
    unfold fd
    rw [if_neg (fun z => ?_)]
    · exact ih (k + 1) (by omega)
    · have l1 := fb_ct_le (fw n) k
      have l2 : cn n (k + 1) ≤ cn n 80 := fb_ct_mono (fw n) (by omega)
      have l3 : cn n (k + 1) = cn n k + 1 := by unfold cn; rw [fb_ct_succ, if_pos z.1]
      have := congrArg Int32.toInt z.2
      rw [nI_toInt (by unfold cn; omega)] at this
      omega
theorem m_fits_l {M : Mem} {n : Nt} (h : AtN M 49 50 45 10 n) (ok : okN n) (x : Int32) : ∀ r k f, k + r = 80 → r < f → X12_fits_l4 45 f x (nI (cn n k)) (nI k) M = some (if x = -1 then nI (cn n 80) else fd n x r k, M) := by
  intro r
  induction r with
  | zero =>
    intro k f hk hf
    obtain ⟨f', rfl⟩ : ∃ f', f = f' + 1 := ⟨f - 1, by omega⟩
    have h8 : k = 80 := by omega
    subst h8
    show X12_fits_b4 45 _ _ _ _ M = _
    unfold X12_fits_b4 X12_fits_b45
    rw [if_pos (by decide)]
    split <;> rfl
  | succ r ih =>
    intro k f hk hf
    obtain ⟨f', rfl⟩ : ∃ f', f = f' + 1 := ⟨f - 1, by omega⟩
    have l1 := fb_ct_le (fw n) k
    show X12_fits_b4 45 _ _ _ _ M = _
    unfold X12_fits_b4 X12_fits_b28
    rw [if_neg (by rw [show (80 : Int32) = nI 80 from rfl, le_lit (by decide) (by omega)]; omega), m_isFit h ok (by omega), bs]
    simp only [bz_eq0]
    rw [L1, L1]
    have next := ih (k + 1) f' (by omega) (by omega)
    have efd : fd n x (r + 1) k = if fw n k = true ∧ nI (cn n k) = x then nI k else fd n x r (k + 1) := rfl
    cases c : fw n k
    · rw [if_pos rfl]
      have ec : cn n (k + 1) = cn n k := by unfold cn; rw [fb_ct_succ, c]; rfl
      rw [ec] at next
      rw [if_neg (fun z => by rw [c] at z; exact absurd z.1 (by decide))] at efd
      rw [next, efd]
    · rw [if_neg (by decide)]
      have ec : cn n (k + 1) = cn n k + 1 := by unfold cn; rw [fb_ct_succ, if_pos c]
      rw [ec] at next
      by_cases e : nI (cn n k) = x
      · rw [if_pos ⟨c, e⟩] at efd
        rw [if_pos e, efd, if_neg (fun z => ?_)]
        have := congrArg Int32.toInt (e.trans z)
        rw [nI_toInt (by unfold cn; omega)] at this
        have t : (-1 : Int32).toInt = -1 := rfl
        omega
      · rw [if_neg (fun z => e z.2)] at efd
        rw [if_neg e, next, efd]
theorem sim_fits (x : Int32) : Sim (X11_fits 0 x) (X12_fits 45 x) := by
  refine Sim_ask (q_fits x) ?_ ?_ (fun M => fr_X11_fits _ M Sm_refl) (by decide) (fun M => fr_X12_fits _ M Sm_refl) (by decide)
  · intro M σ ok rc
    unfold X11_fits X11_fits_b55 q_fits
    rw [rf_0_9, rf_0_1]
    obtain ⟨M1, e1, g1, g2, g3⟩ := e_gather rc.2.1 ok.2.1
    rw [e1, bs]
    simp only [e_isWithin, bs, bz_eq0, g1, rf_38_0]
    by_cases c : x = -1
    · rw [if_pos c, if_pos c]; exact ⟨M1, rfl⟩
    · rw [if_neg c, if_neg c]
      have l1 := fb_ct_le (fw σ.2.1) 80
      have eb : (nI (cn σ.2.1 80) - 1).toInt = (cn σ.2.1 80 : Int) - 1 := pk_sub_toInt (b := 1) (by unfold cn; omega) (by decide)
      rw [wi_ib x _ (cn σ.2.1 80) eb]
      cases c2 : ib x (cn σ.2.1 80)
      · rw [if_pos rfl, fd_miss (ib_bnd c2) 80 0 (by omega)]
        exact ⟨M1, rfl⟩
      · obtain ⟨j, hj, rfl⟩ := ib_ex c2 (by unfold cn; omega)
        have hj' : j < fb_ct (fw σ.2.1) 80 := hj
        have l2 := (cn_le σ.2.1 7 8 (by omega)).2 rfl
        have l3 : cn σ.2.1 80 ≤ 64 := l2
        obtain ⟨w, w1, w2, w3⟩ := fb_ct_kth hj'
        rw [if_neg (by decide), ib_nI (show j < 64 by omega) (by decide), gt, ix_nI (by omega)]
        refine ⟨M1, ?_⟩
        have e2 : cn σ.2.1 w = j := w3
        rw [← e2, g2 w w1 w2, fd_hit w2 w1 80 0 (by omega) (by omega)]
  · intro M σ ok rm
    exact ⟨M, m_fits_l rm.2.1 ok.2.1 x 80 0 FU (by omega) (by decide)⟩
