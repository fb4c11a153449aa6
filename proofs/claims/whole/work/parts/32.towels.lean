/-! the towels -/
def hg : Nat → Nat → Nat → Bool
  | 0, rest, _ => decide (rest = 0)
  | r + 1, rest, met => if (decide (rest % 10 < 6) && !met.testBit (rest % 10)) = true then hg r (rest / 10) (met ||| 2 ^ (rest % 10)) else false
def rh : Nat → Nat → Nat → Bool
  | 0, rest, met => decide (rest = 0) && decide (met = 63)
  | r + 1, rest, met => rh r (rest / 10) (met ||| 2 ^ (rest % 10))
def pc6 (m : Nat) : Nat := fb_ct (fun j => m.testBit j) 6
theorem pc6_set {m h : Nat} (hh : h < 6) : pc6 (m ||| 2 ^ h) = pc6 m + (if m.testBit h = true then 0 else 1) := by
  have e : pc6 (m ||| 2 ^ h) = fb_ct (fun k => if k = h then true else m.testBit k) 6 := by
    unfold pc6
    refine fb_ct_cong (fun k hk => ?_)
    show (m ||| 2 ^ h).testBit k = if k = h then true else m.testBit k
    rw [fb_bit_set]
    by_cases c : k = h
    · rw [if_pos c, decide_eq_true c, Bool.or_true]
    · rw [if_neg c, decide_eq_false c, Bool.or_false]
  have u := fb_ct_upd (fun k => m.testBit k) true (i := h) (n := 6) hh
  rw [e]
  unfold pc6
  rw [if_pos rfl] at u
  cases c : m.testBit h
  · rw [c] at u
    rw [if_neg (by decide)]
    rw [if_neg (by decide)] at u
    omega
  · rw [c] at u
    rw [if_pos rfl]
    rw [if_pos rfl] at u
    omega
theorem pc6_le (m : Nat) : pc6 m ≤ 6 := fb_ct_le _ 6
theorem pc6_all {m : Nat} (h : pc6 m = 6) {j : Nat} (hj : j < 6) : m.testBit j = true := (fb_ct_all (p := fun j => m.testBit j)).mp h j hj
theorem m64 {m h : Nat} (hm : m < 64) (hh : h < 6) : m ||| 2 ^ h < 64 :=
  Nat.or_lt_two_pow (n := 6) hm (Nat.pow_lt_pow_right (by decide) hh)
theorem rh_p : ∀ r rest met, rh r rest met = true → (∀ j, met.testBit j = true → j < 6) ∧ 6 ≤ pc6 met + r ∧ rest < 10 ^ r ∧ ∀ k, k < r → rest / 10 ^ k % 10 < 6 := by
  intro r
  induction r with
  | zero =>
    intro rest met h
    have h' : (decide (rest = 0) && decide (met = 63)) = true := h
    simp only [Bool.and_eq_true, decide_eq_true_eq] at h'
    obtain ⟨h1, h2⟩ := h'
    subst h1; subst h2
    refine ⟨fun j hj => ?_, by decide, by decide, fun k hk => absurd hk (Nat.not_lt_zero k)⟩
    by_cases c : j < 6
    · exact c
    · have : (63 : Nat).testBit j = false := Nat.testBit_lt_two_pow (Nat.lt_of_lt_of_le (show 63 < 2 ^ 6 by decide) (Nat.pow_le_pow_right (by decide) (by omega)))
      rw [this] at hj; exact absurd hj (by decide)
  | succ r ih =>
    intro rest met h
    obtain ⟨i1, i2, i3, i4⟩ := ih _ _ (show rh r (rest / 10) (met ||| 2 ^ (rest % 10)) = true from h)
    have d6 : rest % 10 < 6 := i1 _ (by rw [fb_bit_set, decide_eq_true rfl, Bool.or_true])
    refine ⟨fun j hj => i1 j (by rw [fb_bit_set, hj, Bool.true_or]), ?_, ?_, fun k hk => ?_⟩
    · rw [pc6_set d6] at i2
      split at i2 <;> omega
    · rw [Nat.pow_succ]; omega
    · by_cases z : k = 0
      · subst z; rw [Nat.pow_zero, Nat.div_one]; exact d6
      · have := i4 (k - 1) (by omega)
        rw [Nat.div_div_eq_div_mul, ← Nat.pow_succ', show (k - 1).succ = k by omega] at this
        exact this
theorem hg_rh : ∀ r rest met, (∀ j, met.testBit j = true → j < 6) → pc6 met + r = 6 → hg r rest met = rh r rest met := by
  intro r
  induction r with
  | zero =>
    intro rest met hm hp
    show decide (rest = 0) = (decide (rest = 0) && decide (met = 63))
    have : met = 63 := by
      apply Nat.eq_of_testBit_eq
      intro j
      by_cases c : j < 6
      · rw [pc6_all hp c]
        have : ∀ j, j < 6 → (63 : Nat).testBit j = true := by decide
        exact (this j c).symm
      · have e1 : (63 : Nat).testBit j = false := Nat.testBit_lt_two_pow (Nat.lt_of_lt_of_le (show 63 < 2 ^ 6 by decide) (Nat.pow_le_pow_right (by decide) (by omega)))
        rw [e1]
        cases q : met.testBit j
        · rfl
        · exact absurd (hm j q) c
    rw [this, decide_eq_true rfl, Bool.and_true]
  | succ r ih =>
    intro rest met hm hp
    show (if (decide (rest % 10 < 6) && !met.testBit (rest % 10)) = true then hg r (rest / 10) (met ||| 2 ^ (rest % 10)) else false) = rh r (rest / 10) (met ||| 2 ^ (rest % 10))
    by_cases c : (decide (rest % 10 < 6) && !met.testBit (rest % 10)) = true
    · rw [if_pos c]
      simp only [Bool.and_eq_true, decide_eq_true_eq, Bool.not_eq_true'] at c
      refine ih _ _ (fun j hj => ?_) ?_
      · rw [fb_bit_set] at hj
        by_cases e : j = rest % 10
        · omega
        · rw [decide_eq_false e, Bool.or_false] at hj
          exact hm j hj
      · rw [pc6_set c.1, c.2, if_neg (by decide)]; omega
    · rw [if_neg c]
      cases q : rh r (rest / 10) (met ||| 2 ^ (rest % 10))
      · rfl
      · exfalso
        obtain ⟨i1, i2, -, -⟩ := rh_p _ _ _ q
        have d6 : rest % 10 < 6 := i1 _ (by rw [fb_bit_set, decide_eq_true rfl, Bool.or_true])
        cases t : met.testBit (rest % 10)
        · exact c (by rw [decide_eq_true d6, t]; rfl)
        · rw [pc6_set d6, t, if_pos rfl] at i2
          omega
def pj (n j : Nat) : Nat := n / 10 ^ (5 - j) % 10
theorem e_hang_l {n : Nat} : ∀ c rest met f (M : Mem), c ≤ 6 → c < f → rest < 2 ^ 31 → met < 64 → rest = n / 10 ^ (6 - c) → (∀ j, c ≤ j → j < 6 → M.1 37 j = nI (pj n j)) → ∃ M', X3_hang_l13 36 f (nI rest) (nI met) (nI c + (-1)) M = some (bz (hg c rest met), M') ∧ (hg c rest met = true → ∀ j, j < 6 → M'.1 37 j = nI (pj n j)) := by
  intro c
  induction c with
  | zero =>
    intro rest met f M hc hf hr hm e h
    obtain ⟨f', rfl⟩ : ∃ f', f = f' + 1 := ⟨f - 1, by omega⟩
    refine ⟨M, ?_, fun _ j hj => h j (by omega) hj⟩
    show X3_hang_b13 36 _ _ _ _ M = _
    unfold X3_hang_b13 X3_hang_b87
    rw [if_pos (by decide)]
    show _ = some (bz (decide (rest = 0)), M)
    by_cases z : rest = 0
    · rw [if_pos (by rw [z]; rfl), decide_eq_true z]; rfl
    · rw [if_neg (by rw [nI_eq0 hr]; exact z), decide_eq_false z]; rfl
  | succ c ih =>
    intro rest met f M hc hf hr hm e h
    obtain ⟨f', rfl⟩ : ∃ f', f = f' + 1 := ⟨f - 1, by omega⟩
    have d1 : nI rest / 10 = nI (rest / 10) := pk_div (d := 10) hr (by decide) (by decide)
    have d2 : nI rest - nI rest / 10 * 10 = nI (rest % 10) := pk_rem (d := 10) hr (by decide) (by decide)
    have l10 : rest % 10 < 10 := Nat.mod_lt _ (by decide)
    have ed : rest % 10 = pj n c := by
      unfold pj
      rw [e, show 6 - (c + 1) = 5 - c by omega]
    have en : hg (c + 1) rest met = if (decide (rest % 10 < 6) && !met.testBit (rest % 10)) = true then hg c (rest / 10) (met ||| 2 ^ (rest % 10)) else false := rfl
    have ei : ib (nI (rest % 10)) 6 = decide (rest % 10 < 6) := by
      by_cases q : rest % 10 < 6
      · rw [ib_nI q (by decide), decide_eq_true q]
      · rw [decide_eq_false q]
        cases z : ib (nI (rest % 10)) 6
        · rfl
        · have := (ib_iff.mp z).2
          rw [nI_toInt (by omega)] at this
          omega
    rw [pk_m1]
    show ∃ M', X3_hang_b13 36 _ _ _ _ M = _ ∧ _
    unfold X3_hang_b13 X3_hang_b49
    rw [if_neg (by rw [nI_lt0 (by omega)]; exact id), show (!((10 : Int32) == 0)) = true by decide, gt, d2]
    simp only [iw, e_isWithin, bs, bz_eq0, gt]
    rw [wi_ib _ _ 6 (by decide), ei, e_isIn, bs, bt_nI (by omega) (by omega)]
    simp only [bz_eq0]
    by_cases q : rest % 10 < 6
    · rw [decide_eq_true q]
      rw [decide_eq_true q, Bool.true_and] at en
      simp only [Bool.true_eq_false, if_false]
      cases t : met.testBit (rest % 10)
      · rw [t, Bool.not_false, if_pos rfl] at en
        rw [if_pos rfl, shl_nI (by omega), fa_or, ib_nI (by omega) (by decide), gt, rf_36_0, ix_nI (by omega), d1, en]
        refine ih (rest / 10) _ f' _ (by omega) (by omega) (by omega) (m64 hm q) ?_ (fun j h1 h2 => ?_)
        · rw [e, Nat.div_div_eq_div_mul, ← Nat.pow_succ, show (6 - (c + 1)).succ = 6 - c by omega]
        · rw [mI1]
          by_cases z : j = c
          · rw [if_pos z, z, ed]
          · rw [if_neg z]; exact h j (by omega) h2
      · rw [t, if_neg (by decide)] at en
        rw [if_neg (by decide), en]
        exact ⟨M, rfl, fun z => absurd z (by decide)⟩
    · rw [decide_eq_false q]
      rw [decide_eq_false q, Bool.false_and, if_neg (by decide)] at en
      rw [if_pos rfl, en]
      exact ⟨M, rfl, fun z => absurd z (by decide)⟩
theorem m_hooks_l {n : Nat} : ∀ c rest met f (M : Mem), c ≤ 6 → c < f → rest < 2 ^ 31 → met < 1024 → rest = n / 10 ^ (6 - c) → (∀ j, c ≤ j → j < 6 → M.1 56 j = nI (pj n j)) → ∃ M', X12_readHooks_l7 45 f (nI rest) (nI met) (nI c + (-1)) M = some (bz (rh c rest met), M') ∧ (∀ j, j < 6 → M'.1 56 j = nI (pj n j)) := by
  intro c
  induction c with
  | zero =>
    intro rest met f M hc hf hr hm e h
    obtain ⟨f', rfl⟩ : ∃ f', f = f' + 1 := ⟨f - 1, by omega⟩
    refine ⟨M, ?_, fun j hj => h j (by omega) hj⟩
    show X12_readHooks_b7 45 _ _ _ _ M = _
    unfold X12_readHooks_b7 X12_readHooks_b60 X12_readHooks_b61
    rw [if_pos (by decide)]
    show _ = some (bz (decide (rest = 0) && decide (met = 63)), M)
    have e63 : (nI met = 63) = (met = 63) := nI_eqN (b := 63) (by omega) (by decide)
    by_cases z : rest = 0
    · rw [if_pos (by rw [z]; rfl), decide_eq_true z, Bool.true_and]
      by_cases y : met = 63
      · rw [if_pos (by rw [e63]; exact y), decide_eq_true y]; rfl
      · rw [if_neg (by rw [e63]; exact y), decide_eq_false y]; rfl
    · rw [if_neg (by rw [nI_eq0 hr]; exact z), decide_eq_false z]; rfl
  | succ c ih =>
    intro rest met f M hc hf hr hm e h
    obtain ⟨f', rfl⟩ : ∃ f', f = f' + 1 := ⟨f - 1, by omega⟩
    have d1 : nI rest / 10 = nI (rest / 10) := pk_div (d := 10) hr (by decide) (by decide)
    have d2 : nI rest - nI rest / 10 * 10 = nI (rest % 10) := pk_rem (d := 10) hr (by decide) (by decide)
    have l10 : rest % 10 < 10 := Nat.mod_lt _ (by decide)
    have ed : rest % 10 = pj n c := by
      unfold pj
      rw [e, show 6 - (c + 1) = 5 - c by omega]
    have hm2 : met ||| 2 ^ (rest % 10) < 1024 := Nat.or_lt_two_pow (n := 10) hm (Nat.pow_lt_pow_right (by decide) l10)
    rw [pk_m1]
    show ∃ M', X12_readHooks_b7 45 _ _ _ _ M = _ ∧ _
    unfold X12_readHooks_b7
    rw [if_neg (by rw [nI_lt0 (by omega)]; exact id), show (!((10 : Int32) == 0)) = true by decide, gt, ib_nI (by omega) (by decide), gt, gt, d2, ix_nI (by omega), rf_45_23, mI1, if_pos rfl, shl_nI (by omega), fa_or, d1]
    simp only [iw, gt]
    refine ih (rest / 10) _ f' _ (by omega) (by omega) (by omega) hm2 ?_ (fun j h1 h2 => ?_)
    · rw [e, Nat.div_div_eq_div_mul, ← Nat.pow_succ, show (6 - (c + 1)).succ = 6 - c by omega]
    · rw [mI1]
      by_cases z : j = c
      · rw [if_pos z, z, ed]
      · rw [if_neg z]; exact h j (by omega) h2
/-- one ring -/
def rg (P : Nat → Nat) : Nat → Nat → Nat → Nat → Nat × Nat
  | 0, met, len, _ => (met, len)
  | r + 1, met, len, hook => if met.testBit hook = true then (met, len) else rg P r (met ||| 2 ^ hook) (len + 1) (P hook)
theorem rg_p {P : Nat → Nat} (hP : ∀ j, j < 6 → P j < 6) : ∀ r met len hook, hook < 6 → met < 64 → (rg P r met len hook).1 < 64 ∧ len ≤ (rg P r met len hook).2 ∧ (rg P r met len hook).2 ≤ len + r ∧ pc6 (rg P r met len hook).1 + len = pc6 met + (rg P r met len hook).2 ∧ (∀ j, met.testBit j = true → (rg P r met len hook).1.testBit j = true) ∧ (0 < r → (rg P r met len hook).1.testBit hook = true) := by
  intro r
  induction r with
  | zero => intro met len hook _ hm; exact ⟨hm, Nat.le_refl _, Nat.le_refl _, by show pc6 met + len = pc6 met + len; rfl, fun j h => h, fun h => absurd h (Nat.lt_irrefl 0)⟩
  | succ r ih =>
    intro met len hook hh hm
    unfold rg
    by_cases c : met.testBit hook = true
    · rw [if_pos c]
      exact ⟨hm, Nat.le_refl _, Nat.le_add_right _ _, rfl, fun j h => h, fun _ => c⟩
    · rw [if_neg c]
      obtain ⟨i1, i2, i3, i4, i5, -⟩ := ih (met ||| 2 ^ hook) (len + 1) (P hook) (hP hook hh) (m64 hm hh)
      rw [pc6_set hh, if_neg c] at i4
      refine ⟨i1, by omega, by omega, by omega, fun j h => i5 j (by rw [fb_bit_set, h, Bool.true_or]), fun _ => i5 hook (by rw [fb_bit_set, decide_eq_true rfl, Bool.or_true])⟩
def lmL (a b : Nat) : Nat → Nat → Nat → Nat
  | 0, x, _ => x
  | r + 1, x, i => if b ≤ i ∨ x % b = 0 then x else lmL a b r (x + a) (i + 1)
def lmK (a b : Nat) : Bool := (a == 0) || (b == 0) || !(60 % a == 0) || ((lmL a b 7 a 1 == a / Nat.gcd a b * b) && (60 % (a / Nat.gcd a b * b) == 0) && decide (0 < a / Nat.gcd a b * b))
theorem lmK_ok : ∀ a, a < 61 → ∀ b, b < 7 → lmK a b = true := by decide +kernel
theorem lm_ok {a b : Nat} (ha : a < 61) (hb : b < 7) (a0 : 0 < a) (b0 : 0 < b) (h : 60 % a = 0) : lmL a b 7 a 1 = a / Nat.gcd a b * b ∧ 60 % (a / Nat.gcd a b * b) = 0 ∧ 0 < a / Nat.gcd a b * b := by
  have := lmK_ok a ha b hb
  unfold lmK at this
  have q1 : (a == 0) = false := by simpa using (show a ≠ 0 by omega)
  have q2 : (b == 0) = false := by simpa using (show b ≠ 0 by omega)
  have q3 : (60 % a == 0) = true := by simpa using h
  rw [q1, q2, q3] at this
  simp only [Bool.false_or, Bool.not_true, Bool.and_eq_true, beq_iff_eq, decide_eq_true_eq] at this
  exact ⟨this.1.1, this.1.2, this.2⟩
theorem e_lm {a b : Nat} (ha : a < 61) (hb : b < 7) (h0 : 0 < b) (M : Mem) : ∀ r x i f, i + r = 8 → 0 < i → r < f → x ≤ 60 * i → X3_leastMultiple_l4 f (nI a) (nI b) (nI x) (nI i) M = some (nI (lmL a b r x i), M) := by
  intro r
  induction r with
  | zero =>
    intro x i f hi hi0 hf hx
    obtain ⟨f', rfl⟩ : ∃ f', f = f' + 1 := ⟨f - 1, by omega⟩
    show X3_leastMultiple_b4 _ _ _ _ _ M = _
    unfold X3_leastMultiple_b4 X3_leastMultiple_b25
    rw [if_pos (by rw [le_lit (by omega) (by omega)]; omega)]
    rfl
  | succ r ih =>
    intro x i f hi hi0 hf hx
    obtain ⟨f', rfl⟩ : ∃ f', f = f' + 1 := ⟨f - 1, by omega⟩
    have en : lmL a b (r + 1) x i = if b ≤ i ∨ x % b = 0 then x else lmL a b r (x + a) (i + 1) := rfl
    show X3_leastMultiple_b4 _ _ _ _ _ M = _
    unfold X3_leastMultiple_b4 X3_leastMultiple_b25
    have nb : (!(nI b == 0)) = true := by
      have : ¬ nI b = 0 := by rw [nI_eq0 (by omega)]; omega
      simp [this]
    rw [nb, gt, pk_rem (by omega) h0 (by omega), nI_add, L1, en]
    have l := Nat.mod_lt x h0
    by_cases c : b ≤ i
    · rw [if_pos (by rw [le_lit (by omega) (by omega)]; exact c), if_pos (Or.inl c)]
    · rw [if_neg (by rw [le_lit (by omega) (by omega)]; exact c)]
      by_cases z : x % b = 0
      · rw [if_pos (by rw [z]; rfl), if_pos (Or.inr z)]
      · rw [if_neg (by rw [nI_eq0 (by omega)]; exact z), if_neg (fun q => q.elim c z)]
        exact ih (x + a) (i + 1) f' (by omega) (by omega) (by omega) (by omega)
theorem m_common_l (M : Mem) : ∀ f a b, b < f → a < 2 ^ 31 → b < 2 ^ 31 → X12_common_l4 f (nI a) (nI b) M = some (nI (Nat.gcd a b), M) := by
  intro f
  induction f with
  | zero => intro a b h; exact absurd h (Nat.not_lt_zero b)
  | succ f ih =>
    intro a b hb ha hb2
    show X12_common_b4 _ _ _ M = _
    unfold X12_common_b4
    by_cases z : b = 0
    · subst z
      rw [if_pos (by rfl), Nat.gcd_zero_right]
    · have nz : ¬ nI b = 0 := by rw [nI_eq0 hb2]; exact z
      have l := Nat.mod_lt a (show b > 0 by omega)
      rw [if_neg nz, show (!(nI b == 0)) = true by simp [nz], gt, pk_rem ha (by omega) hb2, gcd_step a b]
      exact ih b (a % b) (by omega) hb2 (by omega)
/-- all rings from start k on: met, changes, rings, rounds -/
def rgA (P : Nat → Nat) : Nat → Nat → Nat × Nat × Nat × Nat → Nat × Nat × Nat × Nat
  | 0, _, s => s
  | r + 1, k, s => rgA P r (k + 1) (if (rg P 6 s.1 0 k).2 = 0 then ((rg P 6 s.1 0 k).1, s.2.1, s.2.2.1, s.2.2.2) else ((rg P 6 s.1 0 k).1, s.2.1 + ((rg P 6 s.1 0 k).2 - 1), s.2.2.1 + 1, s.2.2.2 / Nat.gcd s.2.2.2 (rg P 6 s.1 0 k).2 * (rg P 6 s.1 0 k).2))
def okR (s : Nat × Nat × Nat × Nat) : Prop := s.1 < 64 ∧ s.2.1 + s.2.2.1 = pc6 s.1 ∧ 0 < s.2.2.2 ∧ 60 % s.2.2.2 = 0
theorem dv60 {a : Nat} (h : 60 % a = 0) (h0 : 0 < a) : a < 61 := by
  have : a ∣ 60 := Nat.dvd_of_mod_eq_zero h
  have := Nat.le_of_dvd (by decide) this
  omega
theorem okR_step {P : Nat → Nat} (hP : ∀ j, j < 6 → P j < 6) {s : Nat × Nat × Nat × Nat} (ok : okR s) {k : Nat} (hk : k < 6) : okR (if (rg P 6 s.1 0 k).2 = 0 then ((rg P 6 s.1 0 k).1, s.2.1, s.2.2.1, s.2.2.2) else ((rg P 6 s.1 0 k).1, s.2.1 + ((rg P 6 s.1 0 k).2 - 1), s.2.2.1 + 1, s.2.2.2 / Nat.gcd s.2.2.2 (rg P 6 s.1 0 k).2 * (rg P 6 s.1 0 k).2)) := by
  obtain ⟨o1, o2, o3, o4⟩ := ok
  obtain ⟨i1, i2, i3, i4, i5, i6⟩ := rg_p hP 6 s.1 0 k hk o1
  by_cases c : (rg P 6 s.1 0 k).2 = 0
  · rw [if_pos c]
    exact ⟨i1, by show s.2.1 + s.2.2.1 = pc6 (rg P 6 s.1 0 k).1; omega, o3, o4⟩
  · rw [if_neg c]
    obtain ⟨l1, l2, l3⟩ := lm_ok (dv60 o4 o3) (show (rg P 6 s.1 0 k).2 < 7 by omega) o3 (by omega) o4
    exact ⟨i1, by show s.2.1 + ((rg P 6 s.1 0 k).2 - 1) + (s.2.2.1 + 1) = pc6 (rg P 6 s.1 0 k).1; omega, l3, l2⟩
theorem rgA_p {P : Nat → Nat} (hP : ∀ j, j < 6 → P j < 6) : ∀ r k s, k + r = 6 → okR s → (∀ j, j < k → s.1.testBit j = true) → okR (rgA P r k s) ∧ pc6 (rgA P r k s).1 = 6 := by
  intro r
  induction r with
  | zero =>
    intro k s hk ok h
    refine ⟨ok, ?_⟩
    exact (fb_ct_all (p := fun j => s.1.testBit j)).mpr (fun j hj => h j (by omega))
  | succ r ih =>
    intro k s hk ok h
    unfold rgA
    refine ih (k + 1) _ (by omega) (okR_step hP ok (by omega)) (fun j hj => ?_)
    obtain ⟨i1, i2, i3, i4, i5, i6⟩ := rg_p hP 6 s.1 0 k (by omega) ok.1
    have e : ∀ (c : Prop) [Decidable c] (a b : Nat × Nat × Nat × Nat), a.1 = (rg P 6 s.1 0 k).1 → b.1 = (rg P 6 s.1 0 k).1 → (if c then a else b).1 = (rg P 6 s.1 0 k).1 := by
      intro c _ a b ha hb
      split
      · exact ha
      · exact hb
    rw [e _ _ _ rfl rfl]
    by_cases z : j = k
    · subst z; exact i6 (by decide)
    · exact i5 j (h j (by omega))
theorem e_ring28 {M : Mem} {P : Nat → Nat} (hP : ∀ j, j < 6 → P j < 6) (hM : ∀ j, j < 6 → M.1 37 j = nI (P j)) (k14 : Int32 → Int32 → Mem → Option (Unit × Mem)) (st : Int32) : ∀ r met len hook f, len + r = 6 → r < f → hook < 6 → met < 64 → X3_follow_l28 36 k14 f (nI met) st (nI len) (nI hook) M = X3_follow_b68 36 k14 (nI (rg P r met len hook).1) st (nI (rg P r met len hook).2) M := by
  intro r
  induction r with
  | zero =>
    intro met len hook f hl hf hh hm
    obtain ⟨f', rfl⟩ : ∃ f', f = f' + 1 := ⟨f - 1, by omega⟩
    show X3_follow_b28 36 k14 _ _ _ _ _ M = _
    unfold X3_follow_b28
    rw [if_pos (by rw [show (6 : Int32) = nI 6 from rfl, le_lit (by decide) (by omega)]; omega)]
    rfl
  | succ r ih =>
    intro met len hook f hl hf hh hm
    obtain ⟨f', rfl⟩ : ∃ f', f = f' + 1 := ⟨f - 1, by omega⟩
    have en : rg P (r + 1) met len hook = if met.testBit hook = true then (met, len) else rg P r (met ||| 2 ^ hook) (len + 1) (P hook) := rfl
    show X3_follow_b28 36 k14 _ _ _ _ _ M = _
    unfold X3_follow_b28
    rw [if_neg (by rw [show (6 : Int32) = nI 6 from rfl, le_lit (by decide) (by omega)]; omega), e_isIn, bs, bt_nI (by omega) (by omega)]
    simp only [bz_eq0, iw]
    cases t : met.testBit hook
    · rw [t, if_neg (by decide)] at en
      rw [if_pos rfl, shl_nI (by omega), fa_or, ib_nI hh (by decide), gt, rf_36_0, ix_nI (by omega), hM hook hh, L1, en]
      exact ih _ _ _ f' (by omega) (by omega) (hP hook hh) (m64 hm hh)
    · rw [t, if_pos rfl] at en
      rw [if_neg (by decide), en]
theorem e_follow_l {P : Nat → Nat} (hP : ∀ j, j < 6 → P j < 6) : ∀ r k s f (M : Mem), k + r = 6 → r < f → okR s → (∀ j, j < 6 → M.1 37 j = nI (P j)) → M.1 36 1 = nI s.2.1 → M.1 36 2 = nI s.2.2.2 → ∃ M', X3_follow_l14 36 f (nI s.1) (nI k) M = some ((), M') ∧ M'.1 36 1 = nI (rgA P r k s).2.1 ∧ M'.1 36 2 = nI (rgA P r k s).2.2.2 := by
  intro r
  induction r with
  | zero =>
    intro k s f M hk hf ok hM h1 h2
    obtain ⟨f', rfl⟩ : ∃ f', f = f' + 1 := ⟨f - 1, by omega⟩
    have : k = 6 := by omega
    subst this
    exact ⟨M, rfl, h1, h2⟩
  | succ r ih =>
    intro k s f M hk hf ok hM h1 h2
    obtain ⟨f', rfl⟩ : ∃ f', f = f' + 1 := ⟨f - 1, by omega⟩
    obtain ⟨i1, i2, i3, i4, i5, i6⟩ := rg_p hP 6 s.1 0 k (by omega) ok.1
    have e28 := e_ring28 hP hM (X3_follow_l14 36 f') (nI k) 6 s.1 0 k FU (by omega) (by decide) (by omega) ok.1
    have oks := okR_step hP ok (k := k) (by omega)
    have en : rgA P (r + 1) k s = rgA P r (k + 1) (if (rg P 6 s.1 0 k).2 = 0 then ((rg P 6 s.1 0 k).1, s.2.1, s.2.2.1, s.2.2.2) else ((rg P 6 s.1 0 k).1, s.2.1 + ((rg P 6 s.1 0 k).2 - 1), s.2.2.1 + 1, s.2.2.2 / Nat.gcd s.2.2.2 (rg P 6 s.1 0 k).2 * (rg P 6 s.1 0 k).2)) := rfl
    have pl := pc6_le s.1
    have hs21 : s.2.1 + s.2.2.1 = pc6 s.1 := ok.2.1
    show ∃ M', X3_follow_b14 36 _ _ _ M = _ ∧ _
    unfold X3_follow_b14
    rw [if_neg (by rw [show (6 : Int32) = nI 6 from rfl, le_lit (by decide) (by omega)]; omega)]
    have e28' : X3_follow_l28 36 (X3_follow_l14 36 f') FU (nI s.1) (nI k) 0 (nI k) M = _ := e28
    rw [e28']
    unfold X3_follow_b68 X3_follow_b96
    rw [L1, en]
    by_cases c : (rg P 6 s.1 0 k).2 = 0
    · rw [if_pos c] at oks ⊢
      rw [if_pos (by rw [nI_le0 (by omega)]; exact c)]
      exact ih (k + 1) _ f' M (by omega) (by omega) oks hM h1 h2
    · rw [if_neg c] at oks ⊢
      have d60 := dv60 ok.2.2.2 ok.2.2.1
      obtain ⟨l1, l2, l3⟩ := lm_ok d60 (show (rg P 6 s.1 0 k).2 < 7 by omega) ok.2.2.1 (by omega) ok.2.2.2
      have el := fun N => e_lm d60 (show (rg P 6 s.1 0 k).2 < 7 by omega) (by omega) N 7 s.2.2.2 1 FU (by omega) (by decide) (by decide) (by omega)
      have el' : ∀ N, X3_leastMultiple (nI s.2.2.2) (nI (rg P 6 s.1 0 k).2) N = some (nI (s.2.2.2 / Nat.gcd s.2.2.2 (rg P 6 s.1 0 k).2 * (rg P 6 s.1 0 k).2), N) := fun N => by rw [← l1]; exact el N
      rw [if_neg (by rw [nI_le0 (by omega)]; exact c), h1, show nI (rg P 6 s.1 0 k).2 - (1 : Int32) = nI ((rg P 6 s.1 0 k).2 - 1) from pk_sub (b := 1) (by omega), nI_add]
      simp only [mw]
      rw [mI1, if_neg (by decide), h2, el', bs]
      exact ih (k + 1) _ f' _ (by omega) (by omega) oks (fun j hj => by rw [mI1_ne (by decide), mI1_ne (by decide)]; exact hM j hj) (by rw [mI1, if_neg (by decide), mI1, if_pos rfl]) (by rw [mI1, if_pos rfl])
theorem m_ring58 {M : Mem} {P : Nat → Nat} (hP : ∀ j, j < 6 → P j < 6) (hM : ∀ j, j < 6 → M.1 56 j = nI (P j)) (k44 : Int32 → Int32 → Int32 → Int32 → Int32 → Mem → Option (Int32 × Mem)) (x2 x4 x5 x6 : Int32) : ∀ r met len hook f, len + r = 6 → r < f → hook < 6 → met < 64 → len ≤ pc6 met → X12_towels_l58 45 k44 f x2 (nI met) x4 x5 x6 (nI len) (nI hook) M = (if (rg P r met len hook).2 = 0 then X12_towels_b101 45 k44 x2 (nI (rg P r met len hook).1) x5 x6 (nI (rg P r met len hook).2) 0 x4 M else X12_towels_b101 45 k44 x2 (nI (rg P r met len hook).1) x5 x6 (nI (rg P r met len hook).2) 1 x4 M) := by
  intro r
  induction r with
  | zero =>
    intro met len hook f hl hf hh hm hp
    obtain ⟨f', rfl⟩ : ∃ f', f = f' + 1 := ⟨f - 1, by omega⟩
    have pl := pc6_le met
    have tb : met.testBit hook = true := pc6_all (by omega) hh
    show X12_towels_b58 45 k44 _ _ _ _ _ _ _ _ M = _
    unfold X12_towels_b58
    rw [m_isIn, bs, bt_nI (by omega) (by omega), tb]
    simp only [bz_t, show ¬ (1 : Int32) = 0 by decide, if_false]
    show _ = if len = 0 then X12_towels_b101 45 k44 x2 (nI met) x5 x6 (nI len) 0 x4 M else X12_towels_b101 45 k44 x2 (nI met) x5 x6 (nI len) 1 x4 M
    simp only [nI_le0 (show len < 2 ^ 31 by omega)]
  | succ r ih =>
    intro met len hook f hl hf hh hm hp
    obtain ⟨f', rfl⟩ : ∃ f', f = f' + 1 := ⟨f - 1, by omega⟩
    have en : rg P (r + 1) met len hook = if met.testBit hook = true then (met, len) else rg P r (met ||| 2 ^ hook) (len + 1) (P hook) := rfl
    show X12_towels_b58 45 k44 _ _ _ _ _ _ _ _ M = _
    unfold X12_towels_b58
    rw [m_isIn, bs, bt_nI (by omega) (by omega)]
    simp only [bz_eq0, iw]
    cases t : met.testBit hook
    · rw [t, if_neg (by decide)] at en
      rw [if_pos rfl, shl_nI (by omega), fa_or, ib_nI hh (by decide), gt, rf_45_23, ix_nI (by omega), hM hook hh, L1, en]
      refine ih _ _ _ f' (by omega) (by omega) (hP hook hh) (m64 hm hh) ?_
      rw [pc6_set hh, t, if_neg (by decide)]; omega
    · rw [t, if_pos rfl] at en
      rw [if_neg (by decide), en]
      simp only [nI_le0 (show len < 2 ^ 31 by omega)]
theorem m_tow_l {M : Mem} {P : Nat → Nat} (hP : ∀ j, j < 6 → P j < 6) (hM : ∀ j, j < 6 → M.1 56 j = nI (P j)) (w : Int32) : ∀ r k s f, k + r = 6 → r < f → okR s → X12_towels_l44 45 f w (nI s.1) (nI s.2.2.1) (nI s.2.2.2) (nI k) M = some (if w = 0 then (6 : Int32) - nI (rgA P r k s).2.2.1 else nI (rgA P r k s).2.2.2, M) := by
  intro r
  induction r with
  | zero =>
    intro k s f hk hf ok
    obtain ⟨f', rfl⟩ : ∃ f', f = f' + 1 := ⟨f - 1, by omega⟩
    have : k = 6 := by omega
    subst this
    show X12_towels_b44 45 _ _ _ _ _ _ M = _
    unfold X12_towels_b44 X12_towels_b149
    rw [if_pos (by decide)]
    split <;> rfl
  | succ r ih =>
    intro k s f hk hf ok
    obtain ⟨f', rfl⟩ : ∃ f', f = f' + 1 := ⟨f - 1, by omega⟩
    obtain ⟨i1, i2, i3, i4, i5, i6⟩ := rg_p hP 6 s.1 0 k (by omega) ok.1
    have e58 := m_ring58 hP hM (X12_towels_l44 45 f') w (nI s.2.2.1) (nI s.2.2.2) (nI k) 6 s.1 0 k FU (by omega) (by decide) (by omega) ok.1 (by omega)
    have oks := okR_step hP ok (k := k) (by omega)
    have en : rgA P (r + 1) k s = rgA P r (k + 1) (if (rg P 6 s.1 0 k).2 = 0 then ((rg P 6 s.1 0 k).1, s.2.1, s.2.2.1, s.2.2.2) else ((rg P 6 s.1 0 k).1, s.2.1 + ((rg P 6 s.1 0 k).2 - 1), s.2.2.1 + 1, s.2.2.2 / Nat.gcd s.2.2.2 (rg P 6 s.1 0 k).2 * (rg P 6 s.1 0 k).2)) := rfl
    show X12_towels_b44 45 _ _ _ _ _ _ M = _
    unfold X12_towels_b44
    rw [if_neg (by rw [show (6 : Int32) = nI 6 from rfl, le_lit (by decide) (by omega)]; omega)]
    have e58' : X12_towels_l58 45 (X12_towels_l44 45 f') FU w (nI s.1) (nI s.2.2.1) (nI s.2.2.2) (nI k) 0 (nI k) M = _ := e58
    rw [e58', en]
    unfold X12_towels_b101 X12_towels_b127
    have d60 := dv60 ok.2.2.2 ok.2.2.1
    by_cases c : (rg P 6 s.1 0 k).2 = 0
    · rw [if_pos c] at oks ⊢
      rw [if_pos c, if_pos (by rw [nI_le0 (by omega)]; exact c), L1, show nI s.2.2.1 + (0 : Int32) = nI s.2.2.1 from Int32.add_zero _]
      exact ih (k + 1) _ f' (by omega) (by omega) oks
    · rw [if_neg c] at oks ⊢
      have hg0 : 0 < Nat.gcd s.2.2.2 (rg P 6 s.1 0 k).2 := Nat.gcd_pos_of_pos_left _ ok.2.2.1
      have hgl : Nat.gcd s.2.2.2 (rg P 6 s.1 0 k).2 ≤ s.2.2.2 := Nat.le_of_dvd ok.2.2.1 (Nat.gcd_dvd_left _ _)
      have ec : X12_common (nI s.2.2.2) (nI (rg P 6 s.1 0 k).2) M = some (nI (Nat.gcd s.2.2.2 (rg P 6 s.1 0 k).2), M) := m_common_l M FU _ _ (by show _ < 2000; omega) (by omega) (by omega)
      have nz : ¬ nI (Nat.gcd s.2.2.2 (rg P 6 s.1 0 k).2) = 0 := by rw [nI_eq0 (by omega)]; omega
      rw [if_neg c, if_neg (by rw [nI_le0 (by omega)]; exact c), ec, bs]
      simp only []
      rw [show (!(nI (Nat.gcd s.2.2.2 (rg P 6 s.1 0 k).2) == 0)) = true by simp [nz], gt, pk_div (by omega) hg0 (by omega), pk_mul, L1, L1]
      exact ih (k + 1) _ f' (by omega) (by omega) oks
