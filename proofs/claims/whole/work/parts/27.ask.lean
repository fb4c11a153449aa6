/-! what to ask: the most laws left after a day -/
def mlS (s : (Nat → Nat) × Nat) (t : Nat) : (Nat → Nat) × Nat := (fun j => if j = t then s.1 t + 1 else s.1 j, max s.2 (s.1 t + 1))
def ml (n : Nt) (d : Nat) : Nat → (Nat → Nat) × Nat
  | 0 => (fun _ => 0, 0)
  | k + 1 => if fw n k = true then mlS (ml n d k) (onD k d) else ml n d k
def mlB (n : Nt) (d : Nat) : Nat := (ml n d 80).2
theorem ml_le (n : Nt) (d : Nat) : ∀ k, (∀ j, (ml n d k).1 j ≤ cn n k) ∧ (ml n d k).2 ≤ cn n k ∧ (0 < cn n k → 0 < (ml n d k).2) := by
  intro k
  induction k with
  | zero => exact ⟨fun _ => Nat.le_refl 0, Nat.le_refl 0, fun h => h⟩
  | succ k ih =>
    obtain ⟨i1, i2, i3⟩ := ih
    have ec : cn n (k + 1) = cn n k + (if fw n k = true then 1 else 0) := rfl
    unfold ml
    by_cases c : fw n k = true
    · rw [if_pos c] at ec ⊢
      have := i1 (onD k d)
      unfold mlS
      refine ⟨fun j => ?_, ?_, fun _ => ?_⟩
      · show (if j = onD k d then _ else _) ≤ _
        have := i1 j
        split <;> omega
      · show max _ _ ≤ _
        omega
      · show 0 < max _ _
        omega
    · rw [if_neg c] at ec ⊢
      rw [ec]
      exact ⟨i1, i2, i3⟩
theorem ml_cong (n : Nt) (d k : Nat) : ∀ m, cn n (k + m) = cn n k → ml n d (k + m) = ml n d k := by
  intro m
  induction m with
  | zero => intro _; rfl
  | succ m ih =>
    intro h
    have l1 : cn n k ≤ cn n (k + m) := fb_ct_mono (fw n) (by omega)
    have ec : cn n (k + m + 1) = cn n (k + m) + (if fw n (k + m) = true then 1 else 0) := rfl
    have h' : cn n (k + m + 1) = cn n k := h
    show (if fw n (k + m) = true then _ else _) = _
    by_cases c : fw n (k + m) = true
    · rw [if_pos c] at ec; omega
    · rw [if_neg c] at ec ⊢
      exact ih (by omega)
theorem ml_same {n : Nt} (d : Nat) {k w : Nat} (h : cn n k = cn n w) : ml n d k = ml n d w := by
  rcases Nat.le_total k w with l | l
  · obtain ⟨m, rfl⟩ := Nat.exists_eq_add_of_le l
    exact (ml_cong n d k m h.symm).symm
  · obtain ⟨m, rfl⟩ := Nat.exists_eq_add_of_le l
    exact ml_cong n d w m h
theorem ml_per (n : Nt) (d : Nat) : ∀ k, ml n d k = ml n (d % 8) k := by
  intro k
  induction k with
  | zero => rfl
  | succ k ih =>
    unfold ml
    have : onD k d = onD k (d % 8) := by
      unfold onD
      rw [Nat.add_mod, Nat.mul_mod, Nat.add_mod (k / 10 * (d % 8)), Nat.mul_mod (k / 10) (d % 8), Nat.mod_mod]
    rw [ih, this]
theorem cn80 (n : Nt) : cn n 80 ≤ 64 := (cn_le n 7 8 (by omega)).2 rfl
theorem mlB_le (n : Nt) (d : Nat) : mlB n d ≤ 64 := Nat.le_trans (ml_le n d 80).2.1 (cn80 n)
theorem e_maxN {a b : Nat} (ha : a < 2 ^ 31) (hb : b < 2 ^ 31) (M : Mem) : J9_max_7cf53 (nI a) (nI b) M = some (nI (max a b), M) := by
  unfold J9_max_7cf53 J9_max_7cf53_b10
  simp only [lt_lit ha hb]
  split
  · rw [Nat.max_eq_right (by omega)]
  · rw [Nat.max_eq_left (by omega)]
theorem m_more {a b : Nat} (ha : a < 2 ^ 31) (hb : b < 2 ^ 31) (M : Mem) : X12_more (nI a) (nI b) M = some (nI (max a b), M) := by
  unfold X12_more X12_more_b10
  simp only [le_lit ha hb]
  split
  · rw [Nat.max_eq_right (by omega)]
  · rw [Nat.max_eq_left (by omega)]
theorem m_less {a b : Nat} (ha : a < 2 ^ 31) (hb : b < 2 ^ 31) (M : Mem) : X12_less (nI a) (nI b) M = some (nI (min a b), M) := by
  unfold X12_less X12_less_b10
  simp only [le_lit hb ha]
  split
  · rw [Nat.min_eq_right (by omega)]
  · rw [Nat.min_eq_left (by omega)]
def LfS (M : Mem) (c : Nat) (s : Nat → Nat) : Prop := ∀ j, j < 8 → M.1 c j = nI (s j)
theorem GI.fr {n : Nt} {k : Nat} {M M' : Mem} (h : GI n k M) (e : M'.1 38 2 = M.1 38 2) (e1 : ∀ c, (c = 39 ∨ c = 5 ∨ c = 6 ∨ c = 7) → M'.1 c = M.1 c) : GI n k M' := by
  obtain ⟨h1, h2, h3⟩ := h
  exact ⟨by rw [e]; exact h1, fun w hw hf => by rw [e1 39 (by decide)]; exact h2 w hw hf, h3.fr (e1 _ (by decide)) (e1 _ (by decide)) (by rw [e1 _ (by decide)])⟩
theorem LfS.step {M : Mem} {c t : Nat} {s : (Nat → Nat) × Nat} (h : LfS M c s.1) : LfS (mI M c t (nI (s.1 t + 1))) c (mlS s t).1 := by
  intro j hj
  rw [mI1]
  unfold mlS
  show _ = nI (if j = t then _ else _)
  by_cases e : j = t
  · rw [if_pos e, if_pos e]
  · rw [if_neg e, if_neg e]; exact h j hj
theorem e_left_l {n : Nt} {d : Nat} (hd : d < 100) : ∀ r i f (M : Mem) k, i + r = cn n 80 → r < f → k ≤ 80 → cn n k = i → GI n 80 M → LfS M 40 (ml n d k).1 → ∃ M', X5_mostLeftAfter_l25 38 f (nI d) (nI (ml n d k).2) (nI i) M = some (nI (mlB n d), M') ∧ GI n 80 M' ∧ M'.1 38 = M.1 38 := by
  have h64 := cn80 n
  intro r
  induction r with
  | zero =>
    intro i f M k hi hf hk hc h hs
    obtain ⟨f', rfl⟩ : ∃ f', f = f' + 1 := ⟨f - 1, by omega⟩
    refine ⟨M, ?_, h, rfl⟩
    show X5_mostLeftAfter_b25 38 _ _ _ _ M = _
    unfold X5_mostLeftAfter_b25
    rw [h.1, if_pos (by rw [le_lit (by omega) (by omega)]; omega), ml_same d (show cn n k = cn n 80 by omega)]
    rfl
  | succ r ih =>
    intro i f M k hi hf hk hc h hs
    obtain ⟨f', rfl⟩ : ∃ f', f = f' + 1 := ⟨f - 1, by omega⟩
    obtain ⟨w, w1, w2, w3⟩ := fb_ct_kth (p := fw n) (n := 80) (k := i) (by show i < cn n 80; omega)
    have w4 : cn n w = i := w3
    have es : ml n d k = ml n d w := ml_same d (by omega)
    rw [es] at hs ⊢
    have en : ml n d (w + 1) = mlS (ml n d w) (onD w d) := by
      show (if fw n w = true then _ else _) = _
      rw [if_pos w2]
    have b1 := (ml_le n d w).1 (onD w d)
    have b2 := (ml_le n d w).2.1
    have hs' := hs.step (t := onD w d)
    have ec : cn n (w + 1) = i + 1 := by rw [← w4]; unfold cn; rw [fb_ct_succ, if_pos w2]
    obtain ⟨M2, e2, g2, g3⟩ := ih (i + 1) f' (mI M 40 (onD w d) (nI ((ml n d w).1 (onD w d) + 1))) (w + 1) (by omega) (by omega) (by omega) ec (h.fr (by rw [mI1_ne (by decide)]) (fun c hc => mI1_ne (by omega))) (by rw [en]; exact hs')
    refine ⟨M2, ?_, g2, by rw [g3, mI1_ne (by decide)]⟩
    show X5_mostLeftAfter_b25 38 _ _ _ _ M = _
    unfold X5_mostLeftAfter_b25
    have d1 : nI w / 10 = nI (w / 10) := pk_div (d := 10) (by omega) (by decide) (by decide)
    have d2 : nI w - nI w / 10 * 10 = nI (w % 10) := pk_rem (d := 10) (by omega) (by decide) (by decide)
    have e39 : M.1 39 i = nI w := by rw [← w4]; exact h.2.1 w w1 w2
    rw [h.1, if_neg (by rw [le_lit (by omega) (by omega)]; omega), ib_nI (by omega) (by decide), show (!((10 : Int32) == 0)) = true by decide, gt, gt, gt, gt, ix_nI (by omega), rf_38_0, rf_38_1, e39, d2, d1, e_thingOn (by omega) (by omega) hd, bs]
    simp only []
    have eo : (w / 10 * d + w % 10) % 8 = onD w d := rfl
    rw [eo, ib_nI (onD_lt w d) (by decide), gt, gt, gt, ix_nI (by have := onD_lt w d; omega), hs _ (onD_lt w d), L1, mI1, if_pos rfl, e_maxN (by omega) (by omega), bs, L1]
    have em : max (ml n d w).2 ((ml n d w).1 (onD w d) + 1) = (ml n d (w + 1)).2 := by rw [en]; rfl
    simp only []
    rw [em]
    exact e2
theorem e_left_z {n : Nt} {d : Nat} (hd : d < 100) : ∀ r j f (M : Mem), j + r = 8 → r < f → GI n 80 M → (∀ q, q < j → M.1 40 q = 0) → ∃ M', X5_mostLeftAfter_l2 38 f (nI d) (nI j) M = some (nI (mlB n d), M') ∧ GI n 80 M' ∧ M'.1 38 = M.1 38 := by
  intro r
  induction r with
  | zero =>
    intro j f M hj hf h hz
    obtain ⟨f', rfl⟩ : ∃ f', f = f' + 1 := ⟨f - 1, by omega⟩
    have h8 : j = 8 := by omega
    subst h8
    have := cn80 n
    exact e_left_l (n := n) hd (cn n 80) 0 FU M 0 (by omega) (by show cn n 80 < 2000; omega) (by omega) rfl h (fun q hq => hz q hq)
  | succ r ih =>
    intro j f M hj hf h hz
    obtain ⟨f', rfl⟩ : ∃ f', f = f' + 1 := ⟨f - 1, by omega⟩
    obtain ⟨M2, e2, g2, g3⟩ := ih (j + 1) f' (mI M 40 j 0) (by omega) (by omega) (h.fr (by rw [mI1_ne (by decide)]) (fun c hc => mI1_ne (by omega))) (fun q hq => by
      rw [mI1]
      split
      · rfl
      · exact hz q (by omega))
    refine ⟨M2, ?_, g2, by rw [g3, mI1_ne (by decide)]⟩
    show X5_mostLeftAfter_b2 38 _ _ _ M = _
    unfold X5_mostLeftAfter_b2
    rw [if_neg (by rw [show (8 : Int32) = nI 8 from rfl, le_lit (by decide) (by omega)]; omega), ib_nI (by omega) (by decide), gt, ix_nI (by omega), rf_38_1, L1]
    exact e2
theorem e_left {n : Nt} {d : Nat} (hd : d < 100) {M : Mem} (h : GI n 80 M) : ∃ M', X5_mostLeftAfter 38 (nI d) M = some (nI (mlB n d), M') ∧ GI n 80 M' ∧ M'.1 38 = M.1 38 :=
  e_left_z hd 8 0 FU M (by omega) (by decide) h (fun q hq => absurd hq (Nat.not_lt_zero q))
theorem m_left_l {n : Nt} (ok : okN n) {d : Nat} (hd : d < 100) : ∀ r w f (M : Mem), w + r = 80 → r < f → AtN M 49 50 45 10 n → LfS M 57 (ml n d w).1 → ∃ M', X12_mostLeft_l25 45 f (nI d) (nI (ml n d w).2) (nI w) M = some (nI (mlB n d), M') ∧ AtN M' 49 50 45 10 n := by
  intro r
  induction r with
  | zero =>
    intro w f M hw hf h hs
    obtain ⟨f', rfl⟩ : ∃ f', f = f' + 1 := ⟨f - 1, by omega⟩
    have h8 : w = 80 := by omega
    subst h8
    exact ⟨M, rfl, h⟩
  | succ r ih =>
    intro w f M hw hf h hs
    obtain ⟨f', rfl⟩ : ∃ f', f = f' + 1 := ⟨f - 1, by omega⟩
    have b0 := fb_ct_le (fw n) w
    have b1 : (ml n d w).1 (onD w d) ≤ fb_ct (fw n) w := (ml_le n d w).1 (onD w d)
    have b2 : (ml n d w).2 ≤ fb_ct (fw n) w := (ml_le n d w).2.1
    have en : ml n d (w + 1) = if fw n w = true then mlS (ml n d w) (onD w d) else ml n d w := rfl
    have l80 : ¬ (80 : Int32) ≤ nI w := by rw [show (80 : Int32) = nI 80 from rfl, le_lit (by decide) (by omega)]; omega
    show ∃ M', X12_mostLeft_b25 45 _ _ _ _ M = _ ∧ _
    unfold X12_mostLeft_b25 X12_mostLeft_b68
    rw [if_neg l80, m_isFit h ok (by omega), bs]
    cases c : fw n w
    · rw [c] at en
      obtain ⟨M2, e2, g2⟩ := ih (w + 1) f' M (by omega) (by omega) h (by rw [en]; exact hs)
      refine ⟨M2, ?_, g2⟩
      rw [en] at e2
      simp only [bz_f, if_true]
      rw [L1]
      exact e2
    · rw [if_pos c] at en
      obtain ⟨M2, e2, g2⟩ := ih (w + 1) f' (mI M 57 (onD w d) (nI ((ml n d w).1 (onD w d) + 1))) (by omega) (by omega) (h.fr (mI1_ne (by decide)) (mI1_ne (by decide)) (by rw [mI1_ne (by decide)])) (by rw [en]; exact hs.step)
      refine ⟨M2, ?_, g2⟩
      simp only [bz_t, show ¬ (1 : Int32) = 0 by decide, if_false]
      rw [m_foundBy (by omega) hd, bs]
      simp only []
      rw [ib_nI (onD_lt w d) (by decide), gt, gt, ix_nI (by have := onD_lt w d; omega), rf_45_24, hs _ (onD_lt w d), L1, m_foundBy (by omega) hd, bs]
      simp only []
      rw [ib_nI (onD_lt w d) (by decide), gt, ix_nI (by have := onD_lt w d; omega), mI1, if_pos rfl, m_more (by omega) (by omega), bs, L1]
      have em : max (ml n d w).2 ((ml n d w).1 (onD w d) + 1) = (ml n d (w + 1)).2 := by rw [en]; rfl
      simp only []
      rw [em]
      exact e2
theorem m_left_z {n : Nt} (ok : okN n) {d : Nat} (hd : d < 100) : ∀ r j f (M : Mem), j + r = 8 → r < f → AtN M 49 50 45 10 n → (∀ q, q < j → M.1 57 q = 0) → ∃ M', X12_mostLeft_l4 45 f (nI d) 0 (nI j) M = some (nI (mlB n d), M') ∧ AtN M' 49 50 45 10 n := by
  intro r
  induction r with
  | zero =>
    intro j f M hj hf h hz
    obtain ⟨f', rfl⟩ : ∃ f', f = f' + 1 := ⟨f - 1, by omega⟩
    have h8 : j = 8 := by omega
    subst h8
    exact m_left_l ok hd 80 0 FU M (by omega) (by decide) h (fun q hq => hz q hq)
  | succ r ih =>
    intro j f M hj hf h hz
    obtain ⟨f', rfl⟩ : ∃ f', f = f' + 1 := ⟨f - 1, by omega⟩
    obtain ⟨M2, e2, g2⟩ := ih (j + 1) f' (mI M 57 j 0) (by omega) (by omega) (h.fr (mI1_ne (by decide)) (mI1_ne (by decide)) (by rw [mI1_ne (by decide)])) (fun q hq => by
      rw [mI1]
      split
      · rfl
      · exact hz q (by omega))
    refine ⟨M2, ?_, g2⟩
    show X12_mostLeft_b4 45 _ _ _ _ M = _
    unfold X12_mostLeft_b4
    rw [if_neg (by rw [show (8 : Int32) = nI 8 from rfl, le_lit (by decide) (by omega)]; omega), ib_nI (by omega) (by decide), gt, ix_nI (by omega), rf_45_24, L1]
    exact e2
theorem m_left {n : Nt} (ok : okN n) {d : Nat} (hd : d < 100) {M : Mem} (h : AtN M 49 50 45 10 n) : ∃ M', X12_mostLeft 45 (nI d) M = some (nI (mlB n d), M') ∧ AtN M' 49 50 45 10 n :=
  m_left_z ok hd 8 0 FU M (by omega) (by decide) h (fun q hq => absurd hq (Nat.not_lt_zero q))
/-- the day with the least of it -/
def am (n : Nt) : Nat → Nat × Nat
  | 0 => (0, mlB n 0)
  | k + 1 => if mlB n (k + 1) < (am n k).2 then (k + 1, mlB n (k + 1)) else am n k
theorem am_le (n : Nt) : ∀ k, (am n k).1 ≤ k ∧ (am n k).2 ≤ 64 ∧ (∀ j, j ≤ k → (am n k).2 ≤ mlB n j) ∧ ∃ j, (am n k).2 = mlB n j := by
  intro k
  induction k with
  | zero => exact ⟨Nat.le_refl 0, mlB_le n 0, fun j hj => by rw [show j = 0 by omega]; exact Nat.le_refl _, 0, rfl⟩
  | succ k ih =>
    obtain ⟨i1, i2, i3, i4⟩ := ih
    unfold am
    by_cases c : mlB n (k + 1) < (am n k).2
    · rw [if_pos c]
      refine ⟨Nat.le_refl _, mlB_le n _, fun j hj => ?_, k + 1, rfl⟩
      show mlB n (k + 1) ≤ _
      by_cases e : j = k + 1
      · rw [e]; exact Nat.le_refl _
      · have := i3 j (by omega); omega
    · rw [if_neg c]
      refine ⟨by omega, i2, fun j hj => ?_, i4⟩
      by_cases e : j = k + 1
      · rw [e]; omega
      · exact i3 j (by omega)
theorem am_7 (n : Nt) : ∀ m, am n (7 + m) = am n 7 := by
  intro m
  induction m with
  | zero => rfl
  | succ m ih =>
    show (if mlB n (7 + m + 1) < (am n (7 + m)).2 then _ else am n (7 + m)) = _
    rw [if_neg, ih]
    rw [ih]
    have e : mlB n (7 + m + 1) = mlB n ((7 + m + 1) % 8) := by unfold mlB; rw [ml_per]
    have := (am_le n 7).2.2.1 ((7 + m + 1) % 8) (by omega)
    omega
theorem am_0 (n : Nt) (k : Nat) : ((am n k).2 = 0) = (cn n 80 = 0) := by
  obtain ⟨j, hj⟩ := (am_le n k).2.2.2
  have := ml_le n j 80
  have e : mlB n j = (ml n j 80).2 := rfl
  rw [hj, e]
  apply propext
  refine ⟨fun h => ?_, fun h => ?_⟩
  · rcases Nat.eq_zero_or_pos (cn n 80) with z | z
    · exact z
    · have := this.2.2 z; omega
  · omega
def q_ask (x : Int32) (σ : Sg) : Int32 := if wi x 0 1 = true then (if cn σ.2.1 80 = 0 then -6 else if x = 0 then nI (am σ.2.1 7).1 else nI (am σ.2.1 7).2) else -2
theorem nI_not6 {j : Nat} (h : j < 2 ^ 31) : ¬ nI j = (-6 : Int32) := by
  intro z
  have := congrArg Int32.toInt z
  rw [nI_toInt h] at this
  have t : (-6 : Int32).toInt = -6 := rfl
  omega
theorem e_day_l {n : Nt} : ∀ r k f (M : Mem), k + r = 7 → r + 1 < f → GI n 80 M → M.1 38 3 = nI (am n k).1 → M.1 38 4 = nI (am n k).2 → ∃ M', X5_chooseDay_l22 38 f (nI (k + 1)) M = some ((), M') ∧ M'.1 38 3 = nI (am n 7).1 ∧ M'.1 38 4 = nI (am n 7).2 := by
  intro r
  induction r with
  | zero =>
    intro k f M hk hf h h3 h4
    obtain ⟨f', rfl⟩ : ∃ f', f = f' + 1 := ⟨f - 1, by omega⟩
    have h8 : k = 7 := by omega
    subst h8
    exact ⟨M, rfl, h3, h4⟩
  | succ r ih =>
    intro k f M hk hf h h3 h4
    obtain ⟨f', rfl⟩ : ∃ f', f = f' + 1 := ⟨f - 1, by omega⟩
    obtain ⟨a1, a2, -, -⟩ := am_le n k
    have b1 := mlB_le n (k + 1)
    obtain ⟨M1, e1, g1, g2⟩ := e_left (n := n) (d := k + 1) (by omega) h
    have en : am n (k + 1) = if mlB n (k + 1) < (am n k).2 then (k + 1, mlB n (k + 1)) else am n k := rfl
    show ∃ M', X5_chooseDay_b22 38 _ _ M = _ ∧ _
    unfold X5_chooseDay_b22 X5_chooseDay_b51 X5_chooseDay_b61
    rw [if_neg (by rw [show (8 : Int32) = nI 8 from rfl, le_lit (by decide) (by omega)]; omega), e1, bs]
    simp only [mw]
    rw [g2, h3, h4, if_neg (nI_not6 (by omega)), L1]
    by_cases c : mlB n (k + 1) < (am n k).2
    · rw [if_neg (by rw [le_lit (by omega) (by omega)]; omega)]
      rw [if_pos c] at en
      obtain ⟨M2, e2, g3⟩ := ih (k + 1) f' (mI (mI M1 38 3 (nI (k + 1))) 38 4 (nI (mlB n (k + 1)))) (by omega) (by omega) (g1.fr (by rw [mI1, if_neg (by decide), mI1, if_neg (by decide)]) (fun c hc => by rw [mI1_ne (by omega), mI1_ne (by omega)])) (by rw [en, mI1, if_neg (by decide), mI1, if_pos rfl]) (by rw [en, mI1, if_pos rfl])
      exact ⟨M2, e2, g3⟩
    · rw [if_pos (by rw [le_lit (by omega) (by omega)]; omega)]
      rw [if_neg c] at en
      obtain ⟨M2, e2, g3⟩ := ih (k + 1) f' M1 (by omega) (by omega) g1 (by rw [en, g2]; exact h3) (by rw [en, g2]; exact h4)
      exact ⟨M2, e2, g3⟩
theorem m_day_l {n : Nt} (ok : okN n) (x : Int32) : ∀ r k f (M : Mem), k + r = 60 → r + 1 < f → AtN M 49 50 45 10 n → ∃ M', X12_ask_l24 45 f x (nI (am n k).1) (nI (am n k).2) (nI (k + 1)) M = some (if nI (am n 60).2 = 0 then -6 else if x = 0 then nI (am n 60).1 else nI (am n 60).2, M') := by
  intro r
  induction r with
  | zero =>
    intro k f M hk hf h
    obtain ⟨f', rfl⟩ : ∃ f', f = f' + 1 := ⟨f - 1, by omega⟩
    have h8 : k = 60 := by omega
    subst h8
    refine ⟨M, ?_⟩
    show X12_ask_b24 45 _ _ _ _ _ M = _
    unfold X12_ask_b24 X12_ask_b83
    rw [if_pos (by decide)]
    split
    · rfl
    · split <;> rfl
  | succ r ih =>
    intro k f M hk hf h
    obtain ⟨f', rfl⟩ : ∃ f', f = f' + 1 := ⟨f - 1, by omega⟩
    obtain ⟨a1, a2, -, -⟩ := am_le n k
    have b1 := mlB_le n (k + 1)
    obtain ⟨M1, e1, g1⟩ := m_left ok (d := k + 1) (by omega) h
    have en : am n (k + 1) = if mlB n (k + 1) < (am n k).2 then (k + 1, mlB n (k + 1)) else am n k := rfl
    obtain ⟨M2, e2⟩ := ih (k + 1) f' M1 (by omega) (by omega) g1
    refine ⟨M2, ?_⟩
    show X12_ask_b24 45 _ _ _ _ _ M = _
    unfold X12_ask_b24 X12_ask_b51
    rw [if_neg (by rw [show (60 : Int32) = nI 60 from rfl, lt_lit (by decide) (by omega)]; omega), e1, bs]
    simp only []
    rw [m_less (by omega) (by omega), bs, bs]
    simp only []
    rw [L1]
    by_cases c : mlB n (k + 1) < (am n k).2
    · rw [if_pos c] at en
      rw [en] at e2
      rw [if_neg (by rw [le_lit (by omega) (by omega)]; omega), Nat.min_eq_right (by omega)]
      exact e2
    · rw [if_neg c] at en
      rw [en] at e2
      rw [if_pos (by rw [le_lit (by omega) (by omega)]; omega), Nat.min_eq_left (by omega)]
      exact e2
theorem sim_ask (x : Int32) : Sim (X11_ask 0 x) (X12_ask 45 x) := by
  refine Sim_ask (q_ask x) ?_ ?_ (fun M => fr_X11_ask _ M Sm_refl) (by decide) (fun M => fr_X12_ask _ M Sm_refl) (by decide)
  · intro M σ ok rc
    unfold X11_ask X11_ask_b51 q_ask
    simp only [e_isWithin, bs, bz_eq0]
    cases c1 : wi x 0 1
    · exact ⟨M, rfl⟩
    simp only [Bool.true_eq_false, if_false, if_true]
    rw [rf_0_9, rf_0_1]
    obtain ⟨M1, e1, g1⟩ := e_gather rc.2.1 ok.2.1
    rw [e1, bs]
    simp only []
    have h64 := cn80 σ.2.1
    have key : ∃ M2, X5_chooseDay 38 M1 = some ((), M2) ∧ M2.1 38 3 = (if cn σ.2.1 80 = 0 then -6 else nI (am σ.2.1 7).1) ∧ M2.1 38 4 = (if cn σ.2.1 80 = 0 then -6 else nI (am σ.2.1 7).2) := by
      unfold X5_chooseDay
      simp only [mw]
      have g2 : GI σ.2.1 80 (mI (mI M1 38 3 (-6)) 38 4 (-6)) := g1.fr (by rw [mI1, if_neg (by decide), mI1, if_neg (by decide)]) (fun c hc => by rw [mI1_ne (by omega), mI1_ne (by omega)])
      rw [g2.1]
      have z0 : (nI (cn σ.2.1 80) = 0) = (cn σ.2.1 80 = 0) := by
        apply propext
        refine ⟨fun h => ?_, fun h => by rw [h]; rfl⟩
        have := congrArg Int32.toInt h
        rw [nI_toInt (by omega)] at this
        have t : (0 : Int32).toInt = 0 := rfl
        omega
      simp only [z0]
      by_cases z : cn σ.2.1 80 = 0
      · rw [if_pos z, if_pos z, if_pos z]
        exact ⟨_, rfl, by rw [mI1, if_neg (by decide), mI1, if_pos rfl], by rw [mI1, if_pos rfl]⟩
      · rw [if_neg z, if_neg z, if_neg z]
        obtain ⟨M2, e2, g3, g4⟩ := e_left (n := σ.2.1) (d := 0) (by omega) g2
        obtain ⟨M3, e3, g5⟩ := e_day_l (n := σ.2.1) 7 0 1999 (mI (mI M2 38 3 (nI 0)) 38 4 (nI (mlB σ.2.1 0))) (by omega) (by omega) (g3.fr (by rw [mI1, if_neg (by decide), mI1, if_neg (by decide)]) (fun c hc => by rw [mI1_ne (by omega), mI1_ne (by omega)])) (by rw [mI1, if_neg (by decide), mI1, if_pos rfl]; rfl) (by rw [mI1, if_pos rfl]; rfl)
        refine ⟨M3, ?_, g5⟩
        show X5_chooseDay_b22 38 (X5_chooseDay_l22 38 1999) (nI 0) _ = _
        unfold X5_chooseDay_b22 X5_chooseDay_b51 X5_chooseDay_b61
        rw [if_neg (by decide), e2, bs]
        simp only [mw]
        rw [g4, if_pos (by rw [mI1, if_neg (by decide), mI1, if_pos rfl])]
        exact e3
    obtain ⟨M2, e2, k3, k4⟩ := key
    rw [e2, bs]
    simp only []
    rw [k3, k4]
    refine ⟨M2, ?_⟩
    by_cases z : cn σ.2.1 80 = 0
    · simp only [z, if_true]; split <;> rfl
    · simp only [z, if_false]; split <;> rfl
  · intro M σ ok rm
    unfold X12_ask q_ask
    simp only [e_in_0_1, bs, bz_eq0]
    cases c1 : wi x 0 1
    · exact ⟨M, rfl⟩
    simp only [Bool.true_eq_false, if_false, if_true]
    obtain ⟨M1, e1, g1⟩ := m_left ok.2.1 (d := 0) (by omega) rm.2.1
    have e1' : X12_mostLeft 45 0 M = some (nI (mlB σ.2.1 0), M1) := e1
    rw [e1', bs]
    obtain ⟨M2, e2⟩ := m_day_l ok.2.1 x 60 0 FU M1 (by omega) (by decide) g1
    refine ⟨M2, e2.trans ?_⟩
    have e7 : am σ.2.1 60 = am σ.2.1 7 := am_7 σ.2.1 53
    have z0 : (nI (am σ.2.1 7).2 = 0) = (cn σ.2.1 80 = 0) := by
      rw [← am_0 σ.2.1 7]
      have := (am_le σ.2.1 7).2.1
      apply propext
      refine ⟨fun h => ?_, fun h => by rw [h]; rfl⟩
      have := congrArg Int32.toInt h
      rw [nI_toInt (by omega)] at this
      have t : (0 : Int32).toInt = 0 := rfl
      omega
    rw [e7]
    simp only [z0]
