/-! the swim -/
def wy (p : Nat) : Nat → Nat → Nat
  | 0, k => if k = 0 then 1 else 0
  | t + 1, k => wy p t k * (10 - p) + (if k = 0 then 0 else wy p t (k - 1) * p)
theorem wy_zero (p : Nat) : ∀ t k, t < k → wy p t k = 0 := by
  intro t
  induction t with
  | zero => intro k hk; show (if k = 0 then 1 else 0) = 0; rw [if_neg (by omega)]
  | succ t ih =>
    intro k hk
    show wy p t k * (10 - p) + (if k = 0 then 0 else wy p t (k - 1) * p) = 0
    rw [if_neg (by omega), ih k (by omega), ih (k - 1) (by omega)]
    omega
theorem wy_le {p : Nat} (hp : p ≤ 10) : ∀ t k, wy p t k ≤ 10 ^ t := by
  intro t
  induction t with
  | zero => intro k; show (if k = 0 then 1 else 0) ≤ 1; split <;> omega
  | succ t ih =>
    intro k
    show wy p t k * (10 - p) + (if k = 0 then 0 else wy p t (k - 1) * p) ≤ 10 ^ (t + 1)
    have h1 := Nat.mul_le_mul_right (10 - p) (ih k)
    have h2 : (if k = 0 then 0 else wy p t (k - 1) * p) ≤ 10 ^ t * p := by
      split
      · omega
      · exact Nat.mul_le_mul_right p (ih (k - 1))
    have h3 : 10 ^ t * (10 - p) + 10 ^ t * p = 10 ^ (t + 1) := by
      rw [← Nat.mul_add, show 10 - p + p = 10 by omega, Nat.pow_succ]
    omega
def S1 (n p m N : Nat) : Nat := fb_sm (fun k => if k < n then 0 else wy p m k) N
def S2 (n p m N : Nat) : Nat := fb_sm (fun k => min k n * wy p m k) N
theorem S1_tail {n p m : Nat} (hm : m ≤ 12) : S1 n p m 13 = S1 n p m (m + 1) := by
  have e : 13 = (m + 1) + (12 - m) := by omega
  unfold S1
  rw [e, fb_sm_split]
  have : fb_sm (fun k => if m + 1 + k < n then 0 else wy p m (m + 1 + k)) (12 - m) = fb_sm (fun _ => 0) (12 - m) := fb_sm_cong (fun k hk => by
    show (if _ then _ else _) = 0
    rw [wy_zero p m _ (by omega)]
    split <;> rfl)
  rw [this, fb_sm_const]
  omega
theorem S2_tail {n p m : Nat} (hm : m ≤ 12) : S2 n p m 13 = S2 n p m (m + 1) := by
  have e : 13 = (m + 1) + (12 - m) := by omega
  unfold S2
  rw [e, fb_sm_split]
  have : fb_sm (fun k => min (m + 1 + k) n * wy p m (m + 1 + k)) (12 - m) = fb_sm (fun _ => 0) (12 - m) := fb_sm_cong (fun k hk => by
    show _ * _ = 0
    rw [wy_zero p m _ (by omega), Nat.mul_zero])
  rw [this, fb_sm_const]
  omega
theorem cmp_eq (x y : Int64) : (lg_cmp x y = 0) = (x = y) := by
  apply propext
  unfold lg_cmp
  by_cases h : x > y
  · rw [if_pos h]
    exact ⟨fun z => absurd z (by decide), fun z => by subst z; exact absurd h Int64.lt_irrefl⟩
  · rw [if_neg h]
    by_cases h2 : x = y
    · rw [if_pos h2]; exact ⟨fun _ => h2, fun _ => rfl⟩
    · rw [if_neg h2]; exact ⟨fun z => absurd z (by decide), fun z => absurd z h2⟩
theorem lN_eq0 {b : Nat} (hb : b < 2 ^ 63) : (lN b = 0) = (b = 0) := propext (pk_lEQ (b := 0) hb (by decide))
theorem lN_ne0 {b : Nat} (hb : b < 2 ^ 63) (h : b ≠ 0) : (!(lN b == 0)) = true := by
  have : ¬ lN b = 0 := by rw [lN_eq0 hb]; exact h
  simp [this]
theorem gcd_step (a b : Nat) : Nat.gcd a b = Nat.gcd b (a % b) := by rw [Nat.gcd_comm a b, Nat.gcd_rec b a, Nat.gcd_comm]
theorem rem_half {a b : Nat} (hb : 0 < b) (h : 0 < a % b) : 2 * (b % (a % b)) < b := by
  have h1 : a % b < b := Nat.mod_lt _ hb
  have h2 : b % (a % b) < a % b := Nat.mod_lt _ h
  have h3 := Nat.div_add_mod b (a % b)
  have h4 : 1 ≤ b / (a % b) := Nat.div_pos (by omega) h
  have h5 : (a % b) * 1 ≤ (a % b) * (b / (a % b)) := Nat.mul_le_mul_left _ h4
  omega
theorem e_gcd (M : Mem) : ∀ k a b i f, b < 2 ^ k → k ≤ 48 → a < 2 ^ 63 → i + 2 * k + 1 ≤ 100 → 2 * k + 1 < f → X11_greatestDivisor_l9 f (lN a) (lN b) (nI i) M = some (lN (Nat.gcd a b), M) := by
  have fin : ∀ a i f, i < 100 → 0 < f → X11_greatestDivisor_l9 f (lN a) (lN 0) (nI i) M = some (lN (Nat.gcd a 0), M) := by
    intro a i f hi hf
    obtain ⟨f', rfl⟩ : ∃ f', f = f' + 1 := ⟨f - 1, by omega⟩
    show X11_greatestDivisor_b9 _ _ _ _ M = _
    unfold X11_greatestDivisor_b9 X11_greatestDivisor_b44
    rw [if_neg (by rw [show (100 : Int32) = nI 100 from rfl, le_lit (by decide) (by omega)]; omega), if_pos (by decide), Nat.gcd_zero_right]
  have step : ∀ a b i f, i < 100 → b ≠ 0 → a < 2 ^ 63 → b < 2 ^ 63 → X11_greatestDivisor_l9 (f + 1) (lN a) (lN b) (nI i) M = X11_greatestDivisor_l9 f (lN b) (lN (a % b)) (nI (i + 1)) M := by
    intro a b i f hi hb ha hb2
    show X11_greatestDivisor_b9 _ _ _ _ M = _
    unfold X11_greatestDivisor_b9
    rw [if_neg (by rw [show (100 : Int32) = nI 100 from rfl, le_lit (by decide) (by omega)]; omega), if_neg (by rw [cmp_eq, lN_eq0 hb2]; exact hb), lN_ne0 hb2 hb, gt, pk_lRem ha (by omega) hb2, L1]
  intro k
  induction k with
  | zero =>
    intro a b i f hb _ ha hi hf
    have : b = 0 := by omega
    subst this
    exact fin a i f (by omega) (by omega)
  | succ k ih =>
    intro a b i f hb hk ha hi hf
    have p1 : 2 ^ (k + 1) ≤ 2 ^ 48 := Nat.pow_le_pow_right (by decide) hk
    by_cases b0 : b = 0
    · subst b0
      exact fin a i f (by omega) (by omega)
    · obtain ⟨f', rfl⟩ : ∃ f', f = f' + 1 + 1 := ⟨f - 2, by omega⟩
      have hl := Nat.mod_lt a (show b > 0 by omega)
      rw [step a b i (f' + 1) (by omega) b0 ha (by omega), gcd_step a b]
      by_cases r0 : a % b = 0
      · rw [r0]
        exact fin b (i + 1) (f' + 1) (by omega) (by omega)
      · rw [step b (a % b) (i + 1) f' (by omega) r0 (by omega) (by omega), gcd_step b]
        have hh := rem_half (a := a) (b := b) (by omega) (by omega)
        rw [Nat.pow_succ] at hb
        exact ih (a % b) (b % (a % b)) (i + 1 + 1) f' (by omega) (by omega) (by omega) (by omega) (by omega)
theorem m_gcd (M : Mem) (x0 x2 : Nat) (h0 : x0 < 2 ^ 63) (h2 : x2 < 2 ^ 63) (w : Int32) : ∀ k a b f, b < 2 ^ k → k ≤ 48 → a < 2 ^ 63 → 0 < Nat.gcd a b → 2 * k + 1 < f → X12_lowest_l6 f (lN x0) (lN x2) w (lN a) (lN b) M = some (if w = 0 then lN (x0 / Nat.gcd a b) else lN (x2 / Nat.gcd a b), M) := by
  have fin : ∀ a f, 0 < f → a < 2 ^ 63 → 0 < Nat.gcd a 0 → X12_lowest_l6 f (lN x0) (lN x2) w (lN a) (lN 0) M = some (if w = 0 then lN (x0 / Nat.gcd a 0) else lN (x2 / Nat.gcd a 0), M) := by
    intro a f hf ha hg
    obtain ⟨f', rfl⟩ : ∃ f', f = f' + 1 := ⟨f - 1, by omega⟩
    rw [Nat.gcd_zero_right] at hg ⊢
    show X12_lowest_b6 _ _ _ _ _ _ M = _
    unfold X12_lowest_b6 X12_lowest_b47
    rw [if_pos (by decide), lN_ne0 ha (by omega), gt, gt, pk_lDiv h0 hg ha, pk_lDiv h2 hg ha]
    split <;> rfl
  have step : ∀ a b f, b ≠ 0 → a < 2 ^ 63 → b < 2 ^ 63 → X12_lowest_l6 (f + 1) (lN x0) (lN x2) w (lN a) (lN b) M = X12_lowest_l6 f (lN x0) (lN x2) w (lN b) (lN (a % b)) M := by
    intro a b f hb ha hb2
    show X12_lowest_b6 _ _ _ _ _ _ M = _
    unfold X12_lowest_b6
    rw [if_neg (by rw [cmp_eq, lN_eq0 hb2]; exact hb), lN_ne0 hb2 hb, gt, pk_lRem ha (by omega) hb2]
  intro k
  induction k with
  | zero =>
    intro a b f hb _ ha hg hf
    have : b = 0 := by omega
    subst this
    exact fin a f (by omega) ha hg
  | succ k ih =>
    intro a b f hb hk ha hg hf
    have p1 : 2 ^ (k + 1) ≤ 2 ^ 48 := Nat.pow_le_pow_right (by decide) hk
    by_cases b0 : b = 0
    · subst b0
      exact fin a f (by omega) ha hg
    · obtain ⟨f', rfl⟩ : ∃ f', f = f' + 1 + 1 := ⟨f - 2, by omega⟩
      have hl := Nat.mod_lt a (show b > 0 by omega)
      rw [gcd_step a b] at hg ⊢
      rw [step a b (f' + 1) b0 ha (by omega)]
      by_cases r0 : a % b = 0
      · rw [r0] at hg ⊢
        exact fin b (f' + 1) (by omega) (by omega) hg
      · rw [gcd_step b] at hg ⊢
        rw [step b (a % b) f' r0 (by omega) (by omega)]
        have hh := rem_half (a := a) (b := b) (by omega) (by omega)
        rw [Nat.pow_succ] at hb
        exact ih (a % b) (b % (a % b)) f' (by omega) (by omega) (by omega) hg (by omega)
/-- one more length: the class's row, from above -/
theorem e_spread44 {p t : Nat} (hp : p ≤ 10) (k35 : Int32 → Int32 → Int32 → Mem → Option (Unit × Mem)) (x1 : Int32) : ∀ k f (M : Mem), k ≤ 12 → k < f → (∀ j, j ≤ 12 → M.2 44 j = lN (if j ≤ k then wy p t j else wy p (t + 1) j)) → M.2 43 1 = lN (10 ^ t) → ∃ M', X9_spread_l44 43 k35 f x1 (nI p) (nI t) (nI k) M = k35 x1 (nI p) (nI (t + 1)) M' ∧ (∀ j, j ≤ 12 → M'.2 44 j = lN (wy p (t + 1) j)) ∧ M'.2 43 1 = lN (10 ^ (t + 1)) := by
  have e10 : ((10 : Int32) - nI p).toInt64 = lN (10 - p) := by rw [L10, pk_sub hp, nI_l (by omega)]
  intro k
  induction k with
  | zero =>
    intro f M hk hf h hd
    obtain ⟨f', rfl⟩ : ∃ f', f = f' + 1 := ⟨f - 1, by omega⟩
    have h0 : M.2 44 0 = lN (wy p t 0) := h 0 (by omega)
    show ∃ M', X9_spread_b44 43 k35 _ _ _ _ _ M = _ ∧ _
    unfold X9_spread_b44
    rw [if_pos (by decide), show ib (0 : Int32) 13 = true by decide, gt, gt, rf_43_0, show (0 : Int32).toNatClampNeg = 0 by decide, e10, h0, lN_mul]
    simp only [mw]
    rw [mL2_ne (by decide), hd, show (10 : Int64) = lN 10 from rfl, lN_mul, L1]
    refine ⟨_, rfl, fun j hj => ?_, ?_⟩
    · rw [mL2_ne (by decide), mL2]
      by_cases e : j = 0
      · subst e
        rw [if_pos rfl]
        show _ = lN (wy p t 0 * (10 - p) + 0)
        rw [Nat.add_zero]
      · rw [if_neg e, h j hj, if_neg (by omega)]
    · rw [mL2, if_pos rfl, Nat.pow_succ]
  | succ k ih =>
    intro f M hk hf h hd
    obtain ⟨f', rfl⟩ : ∃ f', f = f' + 1 := ⟨f - 1, by omega⟩
    have h1 : M.2 44 (k + 1) = lN (wy p t (k + 1)) := by rw [h (k + 1) hk, if_pos (Nat.le_refl _)]
    have h2 : M.2 44 k = lN (wy p t k) := by rw [h k (by omega), if_pos (by omega)]
    have e1 : lN (wy p t (k + 1)) * lN (10 - p) + lN (wy p t k) * lN p = lN (wy p (t + 1) (k + 1)) := by
      rw [lN_mul, lN_mul, lN_add]; rfl
    obtain ⟨M2, e2, g2⟩ := ih f' (mL M 44 (k + 1) (lN (wy p (t + 1) (k + 1)))) (by omega) (by omega) (fun j hj => by
      rw [mL2]
      by_cases e : j = k + 1
      · subst e; rw [if_pos rfl, if_neg (by omega)]
      · rw [if_neg e, h j hj]
        by_cases c : j ≤ k
        · rw [if_pos c, if_pos (by omega)]
        · rw [if_neg c, if_neg (by omega)]) (by rw [mL2_ne (by decide)]; exact hd)
    refine ⟨M2, ?_, g2⟩
    show X9_spread_b44 43 k35 _ _ _ _ _ M = _
    unfold X9_spread_b44
    have es : nI (k + 1) - (1 : Int32) = nI k := pk_sub (b := 1) (by omega)
    rw [if_neg (by rw [nI_le0 (by omega)]; omega), es, ib_nI (by omega) (by decide), ib_nI (by omega) (by decide), gt, gt, gt, ix_nI (by omega), ix_nI (by omega), rf_43_0, h1, h2, e10, nI_l (by omega), e1, pk_m1]
    simp only [mw]
    exact e2
theorem e_spread35 {p m : Nat} (hp : p ≤ 10) (hm : m ≤ 12) : ∀ r t f (M : Mem), t + r = m → r < f → (∀ j, j ≤ 12 → M.2 44 j = lN (wy p t j)) → M.2 43 1 = lN (10 ^ t) → ∃ M', X9_spread_l35 43 f (nI m) (nI p) (nI t) M = some ((), M') ∧ (∀ j, j ≤ 12 → M'.2 44 j = lN (wy p m j)) ∧ M'.2 43 1 = lN (10 ^ m) := by
  intro r
  induction r with
  | zero =>
    intro t f M ht hf h hd
    obtain ⟨f', rfl⟩ : ∃ f', f = f' + 1 := ⟨f - 1, by omega⟩
    have : t = m := by omega
    subst this
    refine ⟨M, ?_, h, hd⟩
    show X9_spread_b35 43 _ _ _ _ M = _
    unfold X9_spread_b35
    rw [if_pos (by rw [le_lit (by omega) (by omega)]; omega)]
  | succ r ih =>
    intro t f M ht hf h hd
    obtain ⟨f', rfl⟩ : ∃ f', f = f' + 1 := ⟨f - 1, by omega⟩
    obtain ⟨M1, e1, g1, g2⟩ := e_spread44 hp (X9_spread_l35 43 f') (nI m) 12 FU M (by omega) (by decide) (fun j hj => by rw [if_pos hj]; exact h j hj) hd
    obtain ⟨M2, e2, g3⟩ := ih (t + 1) f' M1 (by omega) (by omega) g1 g2
    refine ⟨M2, ?_, g3⟩
    show X9_spread_b35 43 _ _ _ _ M = _
    unfold X9_spread_b35
    rw [if_neg (by rw [le_lit (by omega) (by omega)]; omega)]
    exact e1.trans e2
theorem e_spread2 {p m : Nat} (hp : p ≤ 10) (hm : m ≤ 12) : ∀ r k f (M : Mem), k + r = 13 → r < f → (∀ j, j < k → M.2 44 j = 0) → ∃ M', X9_spread_l2 43 f (nI m) (nI p) (nI k) M = some ((), M') ∧ (∀ j, j ≤ 12 → M'.2 44 j = lN (wy p m j)) ∧ M'.2 43 1 = lN (10 ^ m) := by
  intro r
  induction r with
  | zero =>
    intro k f M hk hf h
    obtain ⟨f', rfl⟩ : ∃ f', f = f' + 1 := ⟨f - 1, by omega⟩
    have : k = 13 := by omega
    subst this
    show ∃ M', X9_spread_b2 43 _ _ _ _ M = _ ∧ _
    unfold X9_spread_b2
    rw [if_pos (by decide), show ib (0 : Int32) 13 = true by decide, gt, rf_43_0, show (0 : Int32).toNatClampNeg = 0 by decide]
    simp only [mw]
    refine e_spread35 hp hm m 0 FU _ (by omega) (by show m < 2000; omega) (fun j hj => ?_) (by rw [mL2, if_pos rfl]; rfl)
    rw [mL2_ne (by decide), mL2]
    show _ = lN (if j = 0 then 1 else 0)
    by_cases e : j = 0
    · rw [if_pos e, if_pos e]; rfl
    · rw [if_neg e, if_neg e]; exact h j (by omega)
  | succ r ih =>
    intro k f M hk hf h
    obtain ⟨f', rfl⟩ : ∃ f', f = f' + 1 := ⟨f - 1, by omega⟩
    obtain ⟨M2, e2, g3⟩ := ih (k + 1) f' (mL M 44 k 0) (by omega) (by omega) (fun j hj => by
      rw [mL2]
      split
      · rfl
      · exact h j (by omega))
    refine ⟨M2, ?_, g3⟩
    show X9_spread_b2 43 _ _ _ _ M = _
    unfold X9_spread_b2
    rw [if_neg (by rw [show (12 : Int32) = nI 12 from rfl, lt_lit (by decide) (by omega)]; omega), ib_nI (by omega) (by decide), gt, rf_43_0, ix_nI (by omega), L1]
    exact e2
theorem e_ways {M : Mem} {n p m : Nat} (hn : n ≤ 12) (h : ∀ j, j ≤ 12 → M.2 44 j = lN (wy p m j)) : ∀ r k f, k + r = 13 → n ≤ k → r < f → X9_waysToReach_l5 43 f (lN (S1 n p m k)) (nI k) M = some (lN (S1 n p m 13), M) := by
  intro r
  induction r with
  | zero =>
    intro k f hk hnk hf
    obtain ⟨f', rfl⟩ : ∃ f', f = f' + 1 := ⟨f - 1, by omega⟩
    have : k = 13 := by omega
    subst this
    rfl
  | succ r ih =>
    intro k f hk hnk hf
    obtain ⟨f', rfl⟩ : ∃ f', f = f' + 1 := ⟨f - 1, by omega⟩
    have next := ih (k + 1) f' (by omega) (by omega) (by omega)
    show X9_waysToReach_b5 43 _ _ _ M = _
    unfold X9_waysToReach_b5
    have es : S1 n p m (k + 1) = S1 n p m k + wy p m k := by
      unfold S1
      rw [fb_sm_succ]
      show _ + (if k < n then _ else _) = _
      rw [if_neg (by omega)]
    rw [if_neg (by rw [show (12 : Int32) = nI 12 from rfl, lt_lit (by decide) (by omega)]; omega), ib_nI (by omega) (by decide), gt, rf_43_0, ix_nI (by omega), h k (by omega), lN_add, ← es, L1]
    exact next
theorem e_minN {a b : Nat} (ha : a < 2 ^ 31) (hb : b < 2 ^ 31) (M : Mem) : J9_min_7cf53 (nI a) (nI b) M = some (nI (min a b), M) := by
  unfold J9_min_7cf53 J9_min_7cf53_b10
  simp only [lt_lit hb ha]
  split
  · rw [Nat.min_eq_right (by omega)]
  · rw [Nat.min_eq_left (by omega)]
theorem e_upTo {M : Mem} {n p m : Nat} (hn : n ≤ 12) (h : ∀ j, j ≤ 12 → M.2 44 j = lN (wy p m j)) : ∀ r k f, k + r = 13 → r < f → X9_lengthsUpTo_l5 43 f (nI n) (lN (S2 n p m k)) (nI k) M = some (lN (S2 n p m 13), M) := by
  intro r
  induction r with
  | zero =>
    intro k f hk hf
    obtain ⟨f', rfl⟩ : ∃ f', f = f' + 1 := ⟨f - 1, by omega⟩
    have : k = 13 := by omega
    subst this
    rfl
  | succ r ih =>
    intro k f hk hf
    obtain ⟨f', rfl⟩ : ∃ f', f = f' + 1 := ⟨f - 1, by omega⟩
    have next := ih (k + 1) f' (by omega) (by omega)
    show X9_lengthsUpTo_b5 43 _ _ _ _ M = _
    unfold X9_lengthsUpTo_b5
    have es : S2 n p m (k + 1) = S2 n p m k + min k n * wy p m k := rfl
    rw [if_neg (by rw [show (12 : Int32) = nI 12 from rfl, lt_lit (by decide) (by omega)]; omega), e_minN (by omega) (by omega), bs, ib_nI (by omega) (by decide), gt, rf_43_0, ix_nI (by omega), h k (by omega), nI_l (by omega), lN_mul, lN_add, ← es, L1]
    exact next
theorem m_len119 {p t : Nat} (hp : p ≤ 10) (k101 : Int32 → Int32 → Int32 → Int32 → Int32 → Int64 → Int32 → Mem → Option (Int64 × Mem)) (x1 x2 x4 x5 : Int32) (x6 : Int64) : ∀ c f (M : Mem), c ≤ 14 → c < f → (∀ j, j < 14 → M.2 59 j = lN (if j < c then wy p t j else wy p (t + 1) j)) → ∃ M', X12_lengths_l119 45 k101 f x1 x2 (nI p) x4 x5 x6 (nI t) (nI c + (-1)) M = k101 x1 x2 (nI p) x4 x5 x6 (nI (t + 1)) M' ∧ (∀ j, j < 14 → M'.2 59 j = lN (wy p (t + 1) j)) := by
  have e10 : (10 : Int64) - (nI p).toInt64 = lN (10 - p) := by rw [nI_l (by omega), show (10 : Int64) = lN 10 from rfl, lN_sub hp]
  intro c
  induction c with
  | zero =>
    intro f M hk hf h
    obtain ⟨f', rfl⟩ : ∃ f', f = f' + 1 := ⟨f - 1, by omega⟩
    refine ⟨M, ?_, fun j hj => by rw [h j hj, if_neg (by omega)]⟩
    show X12_lengths_b119 45 k101 _ _ _ _ _ _ _ _ _ M = _
    unfold X12_lengths_b119
    rw [if_pos (by decide), L1]
  | succ k ih =>
    intro f M hk hf h
    obtain ⟨f', rfl⟩ : ∃ f', f = f' + 1 := ⟨f - 1, by omega⟩
    have h1 : M.2 59 k = lN (wy p t k) := by rw [h k (by omega), if_pos (by omega)]
    obtain ⟨M2, e2, g2⟩ := ih f' (mL M 59 k (lN (wy p (t + 1) k))) (by omega) (by omega) (fun j hj => by
      rw [mL2]
      by_cases e : j = k
      · subst e; rw [if_pos rfl, if_neg (by omega)]
      · rw [if_neg e, h j hj]
        by_cases c : j < k
        · rw [if_pos c, if_pos (by omega)]
        · rw [if_neg c, if_neg (by omega)])
    refine ⟨M2, ?_, g2⟩
    rw [pk_m1]
    show X12_lengths_b119 45 k101 _ _ _ _ _ _ _ _ _ M = _
    unfold X12_lengths_b119 X12_lengths_b165
    rw [if_neg (by rw [nI_lt0 (by omega)]; exact id), ib_nI (by omega) (by decide), gt, rf_45_26, ix_nI (by omega), h1, e10, lN_mul]
    by_cases z : k = 0
    · subst z
      have ew : lN ((10 - p) * wy p t 0) + 0 = lN (wy p (t + 1) 0) := by
        rw [show (0 : Int64) = lN 0 from rfl, lN_add, Nat.mul_comm]; rfl
      rw [if_pos (by decide), gt, ew]
      exact e2
    · obtain ⟨q, rfl⟩ : ∃ q, k = q + 1 := ⟨k - 1, by omega⟩
      have es : nI (q + 1) - (1 : Int32) = nI q := pk_sub (b := 1) (by omega)
      have h2 : M.2 59 q = lN (wy p t q) := by rw [h q (by omega), if_pos (by omega)]
      have ew : lN ((10 - p) * wy p t (q + 1)) + lN (p * wy p t q) = lN (wy p (t + 1) (q + 1)) := by
        rw [lN_add, Nat.mul_comm (10 - p), Nat.mul_comm p]; rfl
      rw [if_neg (by rw [nI_le0 (by omega)]; omega), es, ib_nI (by omega) (by decide), gt, gt, ix_nI (by omega), h2, nI_l (by omega), lN_mul, ew]
      exact e2
def lnN (n p m : Nat) (w : Int32) : Nat := if w = 0 then S1 n p m 13 else S2 n p m 13
def lnR (n p m : Nat) (w v : Int32) : Int64 := if v = 0 then lN (lnN n p m w / Nat.gcd (10 ^ m) (lnN n p m w)) else lN (10 ^ m / Nat.gcd (10 ^ m) (lnN n p m w))
theorem ten_le {m : Nat} (hm : m ≤ 12) : 10 ^ m ≤ 10 ^ 12 := Nat.pow_le_pow_right (by decide) hm
theorem ten_pos (m : Nat) : 0 < 10 ^ m := Nat.pow_pos (by decide)
theorem lnN_lt {n p m : Nat} (hp : p ≤ 10) (hm : m ≤ 12) (w : Int32) : lnN n p m w < 2 ^ 48 := by
  have ht := ten_le hm
  unfold lnN
  split
  · have : S1 n p m 13 ≤ 13 * 10 ^ 12 := fb_sm_bound (fun k hk => by
      show (if _ then _ else _) ≤ _
      have := wy_le hp m k
      split <;> omega)
    omega
  · have : S2 n p m 13 ≤ 13 * (12 * 10 ^ 12) := fb_sm_bound (fun k hk => by
      show min k n * wy p m k ≤ _
      have := wy_le hp m k
      exact Nat.mul_le_mul (by omega) (by omega))
    omega
theorem m_len188 {M : Mem} {n p m : Nat} (hn : n ≤ 12) (hp : p ≤ 10) (hm : m ≤ 12) (w v : Int32) (h : ∀ j, j < 14 → M.2 59 j = lN (wy p m j)) : ∀ r k f, k + r = m + 1 → r < f → X12_lengths_l188 45 f (nI n) (nI m) w v (lN (10 ^ m)) (lN (S1 n p m k)) (lN (S2 n p m k)) (nI k) M = some (lnR n p m w v, M) := by
  intro r
  induction r with
  | zero =>
    intro k f hk hf
    obtain ⟨f', rfl⟩ : ∃ f', f = f' + 1 := ⟨f - 1, by omega⟩
    have : k = m + 1 := by omega
    subst this
    have hb := lnN_lt (n := n) hp hm w
    have ht := ten_le hm
    have h0 := ten_pos m
    have hg : 0 < Nat.gcd (10 ^ m) (lnN n p m w) := Nat.gcd_pos_of_pos_left _ h0
    have key := m_gcd M (lnN n p m w) (10 ^ m) (by omega) (by omega) v 48 (10 ^ m) (lnN n p m w) FU hb (by omega) (by omega) hg (by decide)
    show X12_lengths_b188 45 _ _ _ _ _ _ _ _ _ M = _
    unfold X12_lengths_b188 X12_lengths_b254
    rw [if_pos (by rw [lt_lit (by omega) (by omega)]; omega), ← S1_tail hm, ← S2_tail hm]
    have e : (if w = 0 then (X12_lowest (lN (S1 n p m 13)) (lN (10 ^ m)) v M).bind (fun p1 => some (p1.1, p1.2)) else (X12_lowest (lN (S2 n p m 13)) (lN (10 ^ m)) v M).bind (fun p1 => some (p1.1, p1.2))) = (X12_lowest (lN (lnN n p m w)) (lN (10 ^ m)) v M).bind (fun p1 => some (p1.1, p1.2)) := by
      unfold lnN
      split <;> rfl
    rw [e]
    have key' : X12_lowest (lN (lnN n p m w)) (lN (10 ^ m)) v M = some (lnR n p m w v, M) := key
    rw [key', bs]
  | succ r ih =>
    intro k f hk hf
    obtain ⟨f', rfl⟩ : ∃ f', f = f' + 1 := ⟨f - 1, by omega⟩
    have next := ih (k + 1) f' (by omega) (by omega)
    have s1 : S1 n p m (k + 1) = S1 n p m k + (if k < n then 0 else wy p m k) := rfl
    have s2 : S2 n p m (k + 1) = S2 n p m k + min k n * wy p m k := rfl
    show X12_lengths_b188 45 _ _ _ _ _ _ _ _ _ M = _
    unfold X12_lengths_b188 X12_lengths_b213
    rw [if_neg (by rw [lt_lit (by omega) (by omega)]; omega), m_less (by omega) (by omega), bs, bs, ib_nI (by omega) (by decide), gt, gt, gt, rf_45_26, ix_nI (by omega), h k (by omega)]
    simp only [lw]
    rw [nI_l (by omega), lN_mul, lN_add, lN_add, show (0 : Int64) = lN 0 from rfl, lN_add, L1, ← s2]
    by_cases c : k < n
    · rw [if_pos c] at s1
      rw [if_pos (by rw [lt_lit (by omega) (by omega)]; exact c), ← s1]
      exact next
    · rw [if_neg c] at s1
      rw [if_neg (by rw [lt_lit (by omega) (by omega)]; exact c), ← s1]
      exact next
theorem m_len101 {n p m : Nat} (hn : n ≤ 12) (hp : p ≤ 10) (hm : m ≤ 12) (w v : Int32) : ∀ r t f (M : Mem), t + r = m → r < f → (∀ j, j < 14 → M.2 59 j = lN (wy p t j)) → ∃ M', X12_lengths_l101 45 f (nI n) (nI m) (nI p) w v (lN (10 ^ t)) (nI t) M = some (lnR n p m w v, M') := by
  intro r
  induction r with
  | zero =>
    intro t f M ht hf h
    obtain ⟨f', rfl⟩ : ∃ f', f = f' + 1 := ⟨f - 1, by omega⟩
    have : t = m := by omega
    subst this
    refine ⟨M, ?_⟩
    show X12_lengths_b101 45 _ _ _ _ _ _ _ _ M = _
    unfold X12_lengths_b101
    rw [if_pos (by rw [le_lit (by omega) (by omega)]; omega)]
    exact m_len188 hn hp hm w v h (t + 1) 0 FU (by omega) (by show t + 1 < 2000; omega)
  | succ r ih =>
    intro t f M ht hf h
    obtain ⟨f', rfl⟩ : ∃ f', f = f' + 1 := ⟨f - 1, by omega⟩
    obtain ⟨M1, e1, g1⟩ := m_len119 hp (X12_lengths_l101 45 f') (nI n) (nI m) w v (lN (10 ^ (t + 1))) 14 FU M (by omega) (by decide) (fun j hj => by rw [if_pos hj]; exact h j hj)
    obtain ⟨M2, e2⟩ := ih (t + 1) f' M1 (by omega) (by omega) g1
    refine ⟨M2, ?_⟩
    show X12_lengths_b101 45 _ _ _ _ _ _ _ _ M = _
    unfold X12_lengths_b101
    rw [if_neg (by rw [le_lit (by omega) (by omega)]; omega), show (10 : Int64) = lN 10 from rfl, lN_mul, ← Nat.pow_succ]
    exact e1.trans e2
theorem m_len65 {n p m : Nat} (hn : n ≤ 12) (hp : p ≤ 10) (hm : m ≤ 12) (w v : Int32) : ∀ r k f (M : Mem), k + r = 14 → r < f → (∀ j, j < k → M.2 59 j = lN (wy p 0 j)) → ∃ M', X12_lengths_l65 45 f (nI n) (nI m) (nI p) w v (nI k) M = some (lnR n p m w v, M') := by
  intro r
  induction r with
  | zero =>
    intro k f M hk hf h
    obtain ⟨f', rfl⟩ : ∃ f', f = f' + 1 := ⟨f - 1, by omega⟩
    have : k = 14 := by omega
    subst this
    exact m_len101 hn hp hm w v m 0 FU M (by omega) (by show m < 2000; omega) h
  | succ r ih =>
    intro k f M hk hf h
    obtain ⟨f', rfl⟩ : ∃ f', f = f' + 1 := ⟨f - 1, by omega⟩
    obtain ⟨M2, e2⟩ := ih (k + 1) f' (mL M 59 k (lN (wy p 0 k))) (by omega) (by omega) (fun j hj => by
      rw [mL2]
      split
      · rename_i e; rw [e]
      · exact h j (by omega))
    refine ⟨M2, ?_⟩
    show X12_lengths_b65 45 _ _ _ _ _ _ _ M = _
    unfold X12_lengths_b65 X12_lengths_b88
    rw [if_neg (by rw [show (14 : Int32) = nI 14 from rfl, le_lit (by decide) (by omega)]; omega), ib_nI (by omega) (by decide), gt, gt, rf_45_26, ix_nI (by omega), L1, ← e2]
    have ew : wy p 0 k = if k = 0 then 1 else 0 := rfl
    rw [ew]
    by_cases z : k = 0
    · rw [if_pos (by rw [z]; rfl), if_pos z]; rfl
    · rw [if_neg (by rw [nI_eq0 (by omega)]; exact z), if_neg z]; rfl
theorem e_maxL {g : Nat} (h : 0 < g) (hg : g < 2 ^ 63) (M : Mem) : J9_max_f86c9 (1 : Int64) (lN g) M = some (lN g, M) := by
  unfold J9_max_f86c9 J9_max_f86c9_b11
  have : ((1 : Int64) < lN g) = (1 < g) := propext (pk_lLT (a := 1) (by decide) hg)
  simp only [cmp_lt, this]
  split
  · rfl
  · rw [show g = 1 by omega]; rfl
theorem e_len87 {M : Mem} {n p m : Nat} (hp : p ≤ 10) (hm : m ≤ 12) (w v : Int32) (hd : M.2 43 1 = lN (10 ^ m)) : X11_lengths_b87 0 v (lN (lnN n p m w)) M = some (lnR n p m w v, M) := by
  have hb := lnN_lt (n := n) hp hm w
  have ht := ten_le hm
  have h0 := ten_pos m
  have hg : 0 < Nat.gcd (10 ^ m) (lnN n p m w) := Nat.gcd_pos_of_pos_left _ h0
  have hg2 : Nat.gcd (10 ^ m) (lnN n p m w) ≤ 10 ^ m := Nat.le_of_dvd h0 (Nat.gcd_dvd_left _ _)
  have key := e_gcd M 40 (lnN n p m w) (10 ^ m) 0 FU (by omega) (by omega) (by omega) (by omega) (by decide)
  have key' : X11_greatestDivisor (lN (lnN n p m w)) (lN (10 ^ m)) M = some (lN (Nat.gcd (lnN n p m w) (10 ^ m)), M) := key
  unfold X11_lengths_b87 X11_lengths_b124
  rw [rf_0_11, hd, key', bs, Nat.gcd_comm]
  simp only []
  rw [e_maxL hg (by omega), bs]
  simp only []
  rw [hd, lN_ne0 (by omega) (by omega), gt, gt, pk_lDiv (by omega) hg (by omega), pk_lDiv (by omega) hg (by omega)]
  unfold lnR
  split <;> rfl
def q_lengths (x1 x2 x3 x4 x5 : Int32) : Int64 := if ib x1 13 = true then (if ib x2 13 = true then (if ib x3 11 = true then (if wi x4 0 1 = true then (if wi x5 0 1 = true then lnR x1.toNatClampNeg x3.toNatClampNeg x2.toNatClampNeg x4 x5 else -1000000000000000002) else -1000000000000000002) else -1000000000000000002) else -1000000000000000002) else -1000000000000000002
theorem sim_lengths (x1 x2 x3 x4 x5 : Int32) : Sim (X11_lengths 0 x1 x2 x3 x4 x5) (X12_lengths 45 x1 x2 x3 x4 x5) := by
  refine Sim_ask (fun _ => q_lengths x1 x2 x3 x4 x5) ?_ ?_ (fun M => fr_X11_lengths _ _ _ _ _ M Sm_refl) (by decide) (fun M => fr_X12_lengths _ _ _ _ _ M Sm_refl) (by decide)
  · intro M σ ok rc
    unfold X11_lengths X11_lengths_b50 q_lengths
    simp only [e_isWithin, bs, bz_eq0, wi_ib x1 12 13 (by decide), wi_ib x2 12 13 (by decide), wi_ib x3 10 11 (by decide)]
    cases c1 : ib x1 13
    · exact ⟨M, rfl⟩
    cases c2 : ib x2 13
    · exact ⟨M, rfl⟩
    cases c3 : ib x3 11
    · exact ⟨M, rfl⟩
    cases c4 : wi x4 0 1
    · exact ⟨M, rfl⟩
    cases c5 : wi x5 0 1
    · exact ⟨M, rfl⟩
    obtain ⟨n, hn, rfl⟩ := ib_ex c1 (by decide)
    obtain ⟨m, hm, rfl⟩ := ib_ex c2 (by decide)
    obtain ⟨p, hp, rfl⟩ := ib_ex c3 (by decide)
    rw [ix_nI (by omega), ix_nI (by omega), ix_nI (by omega), rf_0_11]
    simp only [Bool.true_eq_false, if_false, if_true]
    obtain ⟨M1, e1, g1, g2⟩ := e_spread2 (p := p) (m := m) (by omega) (by omega) 13 0 FU M (by omega) (by decide) (fun j hj => absurd hj (Nat.not_lt_zero j))
    have e1' : X9_spread 43 (nI m) (nI p) M = some ((), M1) := e1
    rw [e1', bs]
    simp only []
    refine ⟨M1, ?_⟩
    have fin := e_len87 (n := n) (p := p) (m := m) (by omega) (by omega) x4 x5 g2
    by_cases z : x4 = 0
    · rw [if_pos z]
      have s0 : S1 n p m n = 0 := by
        have := fb_sm_cong (f := fun k => if k < n then 0 else wy p m k) (g := fun _ => 0) (n := n) (fun k hk => if_pos hk)
        unfold S1
        rw [this, fb_sm_const]; omega
      have k1 := e_ways (n := n) (by omega) g1 (13 - n) n FU (by omega) (by omega) (by show 13 - n < 2000; omega)
      rw [s0] at k1
      have k1' : X9_waysToReach 43 (nI n) M1 = some (lN (S1 n p m 13), M1) := k1
      rw [k1', bs]
      rw [← fin]
      unfold lnN
      rw [if_pos z]
    · rw [if_neg z]
      have k1 := e_upTo (n := n) (by omega) g1 12 1 FU (by omega) (by decide)
      have s0 : S2 n p m 1 = 0 := by
        unfold S2
        rw [fb_sm_succ]
        show 0 + min 0 n * _ = 0
        rw [Nat.zero_min, Nat.zero_mul]
      rw [s0] at k1
      have k1' : X9_lengthsUpTo 43 (nI n) M1 = some (lN (S2 n p m 13), M1) := k1
      rw [k1', bs]
      rw [← fin]
      unfold lnN
      rw [if_neg z]
  · intro M σ ok rm
    unfold X12_lengths X12_lengths_b58 q_lengths
    simp only [e_in_0_12, e_in_0_10, e_in_0_1, bs, bz_eq0, wi_ib x1 12 13 (by decide), wi_ib x2 12 13 (by decide), wi_ib x3 10 11 (by decide)]
    cases c1 : ib x1 13
    · exact ⟨M, rfl⟩
    cases c2 : ib x2 13
    · exact ⟨M, rfl⟩
    cases c3 : ib x3 11
    · exact ⟨M, rfl⟩
    cases c4 : wi x4 0 1
    · exact ⟨M, rfl⟩
    cases c5 : wi x5 0 1
    · exact ⟨M, rfl⟩
    obtain ⟨n, hn, rfl⟩ := ib_ex c1 (by decide)
    obtain ⟨m, hm, rfl⟩ := ib_ex c2 (by decide)
    obtain ⟨p, hp, rfl⟩ := ib_ex c3 (by decide)
    rw [ix_nI (by omega), ix_nI (by omega), ix_nI (by omega)]
    simp only [Bool.true_eq_false, if_false, if_true]
    exact m_len65 (by omega) (by omega) (by omega) x4 x5 14 0 FU M (by omega) (by decide) (fun j hj => absurd hj (Nat.not_lt_zero j))
