/-! the model's table of the most -/
def fr (k : Nat) : Nat → Bool := fun j => !k.testBit j
theorem fr_set (k b : Nat) : fr (k ||| 2 ^ b) = rmS (fr k) b := by
  funext j
  unfold fr rmS
  rw [fb_bit_set]
  by_cases e : j = b
  · subst e; simp
  · rw [decide_eq_false e, show (j == b) = false by simpa using e]; simp
theorem mf_le (H : Nat → Nat → Bool) (S : Nat → Bool) : ∀ r F, mf H S r F ≤ r := by
  intro r
  induction r with
  | zero => intro F; exact Nat.le_refl 0
  | succ r ih =>
    intro F
    have em : mf H S (r + 1) F = mfB (fun b => if (S (7 - r) && H (7 - r) b && F b) = true then mf H S r (rmS F b) + 1 else 0) 10 (mf H S r F) := rfl
    obtain ⟨p1, p2, p3⟩ := mfB_p (fun b => if (S (7 - r) && H (7 - r) b && F b) = true then mf H S r (rmS F b) + 1 else 0) (mf H S r F) 10
    rw [← em] at p3
    have := ih F
    rcases p3 with h | ⟨b, hb, h⟩
    · omega
    · have := ih (rmS F b)
      split at h <;> omega
theorem m_canOwn {M : Mem} {b : Bt} (h : AtB M 45 b) {s t k x : Nat} (hs : s < 256) (ht : t < 8) (hx : x < 10) (hk : k < 1024) : X12_canOwn 45 (nI s) (nI t) (nI x) (nI k) M = some (bz (tB s t && hB b t x && fr k x), M) := by
  unfold X12_canOwn X12_canOwn_b34 X12_canOwn_b35
  rw [m_isIn, bs, bt_nI (by omega) (by omega), ib_nI hx (by decide), gt, ix_nI (by omega), h.2.1 x hx]
  have e1 : tB s t = s.testBit t := rfl
  have e2 : bt (bT b x) (nI t) = hB b t x := rfl
  have e3 : fr k x = !k.testBit x := rfl
  rw [e1, e3]
  simp only [bz_eq0]
  cases c1 : s.testBit t
  · rfl
  · rw [if_neg (by decide), m_isIn, bs, e2]
    simp only [bz_eq0]
    cases c2 : hB b t x
    · rfl
    · rw [if_neg (by decide), m_isIn, bs, bt_nI (by omega) (by omega)]
      simp only [bz_eq0]
      cases c3 : k.testBit x
      · rfl
      · rfl
def gF (H : Nat → Nat → Bool) (S : Nat → Bool) (t : Nat) (F : Nat → Bool) (b : Nat) : Nat := if (S t && H t b && F b) = true then mf H S (7 - t) (rmS F b) + 1 else 0
theorem mf_row (H : Nat → Nat → Bool) (S : Nat → Bool) {t : Nat} (ht : t < 8) (F : Nat → Bool) : mf H S (8 - t) F = mfB (gF H S t F) 10 (mf H S (7 - t) F) := by
  have e : 8 - t = (7 - t) + 1 := by omega
  rw [e]
  show mfB (fun b => if (S (7 - (7 - t)) && H (7 - (7 - t)) b && F b) = true then mf H S (7 - t) (rmS F b) + 1 else 0) 10 (mf H S (7 - t) F) = _
  rw [show 7 - (7 - t) = t by omega]
  rfl
def RowT (b : Bt) (s t : Nat) (M : Mem) : Prop := ∀ k, k < 1024 → M.1 55 (1024 * t + k) = nI (mf (hB b) (tB s) (8 - t) (fr k))
theorem m_from_l {M : Mem} {b : Bt} (h : AtB M 45 b) {s t k : Nat} (hs : s < 256) (ht : t < 8) (hk : k < 1024) (hr : RowT b s (t + 1) M) : ∀ r x f, x + r = 10 → r < f → X12_mostFrom_l19 45 f (nI s) (nI t) (nI k) (nI (mfB (gF (hB b) (tB s) t (fr k)) x (mf (hB b) (tB s) (7 - t) (fr k)))) (nI x) M = some (nI (mf (hB b) (tB s) (8 - t) (fr k)), M) := by
  rw [mf_row _ _ ht]
  have bd : ∀ n, mfB (gF (hB b) (tB s) t (fr k)) n (mf (hB b) (tB s) (7 - t) (fr k)) ≤ 9 := by
    intro n
    obtain ⟨-, -, p3⟩ := mfB_p (gF (hB b) (tB s) t (fr k)) (mf (hB b) (tB s) (7 - t) (fr k)) n
    have m0 := mf_le (hB b) (tB s) (7 - t) (fr k)
    rcases p3 with h | ⟨x, hx, h⟩
    · omega
    · have m1 := mf_le (hB b) (tB s) (7 - t) (rmS (fr k) x)
      rw [h]
      unfold gF
      split <;> omega
  intro r
  induction r with
  | zero =>
    intro x f hx hf
    obtain ⟨f', rfl⟩ : ∃ f', f = f' + 1 := ⟨f - 1, by omega⟩
    have : x = 10 := by omega
    subst this
    generalize mfB (gF (hB b) (tB s) t (fr k)) 10 (mf (hB b) (tB s) (7 - t) (fr k)) = v
    have e0 : X12_mostFrom_l19 45 (f' + 1) (nI s) (nI t) (nI k) (nI v) (nI 10) M = X12_mostFrom_b19 45 (X12_mostFrom_l19 45 f') (nI s) (nI t) (nI k) (nI v) (nI 10) M := rfl
    rw [e0]
    unfold X12_mostFrom_b19
    rw [if_pos (by decide)]
  | succ r ih =>
    intro x f hx hf
    obtain ⟨f', rfl⟩ : ∃ f', f = f' + 1 := ⟨f - 1, by omega⟩
    have next := ih (x + 1) f' (by omega) (by omega)
    have en : mfB (gF (hB b) (tB s) t (fr k)) (x + 1) (mf (hB b) (tB s) (7 - t) (fr k)) = max (mfB (gF (hB b) (tB s) t (fr k)) x (mf (hB b) (tB s) (7 - t) (fr k))) (gF (hB b) (tB s) t (fr k) x) := rfl
    have b1 := bd x
    have b2 := bd (x + 1)
    rw [en] at next b2
    generalize mfB (gF (hB b) (tB s) t (fr k)) x (mf (hB b) (tB s) (7 - t) (fr k)) = v at next b1 b2 ⊢
    have e0 : X12_mostFrom_l19 45 (f' + 1) (nI s) (nI t) (nI k) (nI v) (nI x) M = X12_mostFrom_b19 45 (X12_mostFrom_l19 45 f') (nI s) (nI t) (nI k) (nI v) (nI x) M := rfl
    rw [e0, ← next]
    have hkb : k ||| 2 ^ x < 1024 := Nat.or_lt_two_pow (n := 10) hk (Nat.pow_lt_pow_right (by decide) (by omega))
    have ei : (1024 : Int32) * (nI t + 1) + (nI k ||| (1 : Int32) <<< (nI x &&& 31)) = nI (1024 * (t + 1) + (k ||| 2 ^ x)) := by
      rw [L1, shl_nI (by omega), fa_or, show (1024 : Int32) = nI 1024 from rfl, pk_mul, nI_add]
    have er := hr (k ||| 2 ^ x) hkb
    rw [show 8 - (t + 1) = 7 - t by omega, fr_set] at er
    unfold X12_mostFrom_b19 X12_mostFrom_b63
    rw [if_neg (by rw [L10, le_lit (by decide) (by omega)]; omega), m_canOwn h hs ht (by omega) hk, bs, ei, ib_nI (by omega) (by decide), gt, rf_45_22, ix_nI (by omega)]
    simp only [bz_eq0]
    have eg : gF (hB b) (tB s) t (fr k) x = if (tB s t && hB b t x && fr k x) = true then mf (hB b) (tB s) (7 - t) (rmS (fr k) x) + 1 else 0 := rfl
    cases c : (tB s t && hB b t x && fr k x)
    · rw [c, if_neg (by decide)] at eg
      rw [if_pos rfl, eg, show (0 : Int32) = nI 0 from rfl, m_more (by omega) (by omega), bs, L1]
    · rw [c, if_pos rfl] at eg
      have m1 := mf_le (hB b) (tB s) (7 - t) (rmS (fr k) x)
      rw [if_neg (by decide), eg, er, L1, m_more (by omega) (by omega), bs, L1]
theorem m_fill67 {b : Bt} {s t : Nat} (hs : s < 256) (ht : t < 8) (x2 : Int32) (k60 : Int32 → Int32 → Int32 → Mem → Option (Int32 × Mem)) : ∀ r k f (M : Mem), k + r = 1024 → r < f → AtB M 45 b → (∀ t', t < t' → t' ≤ 8 → RowT b s t' M) → (∀ q, q < k → M.1 55 (1024 * t + q) = nI (mf (hB b) (tB s) (8 - t) (fr q))) → ∃ M', X12_owners_l67 45 k60 f (nI s) x2 (nI t) (nI k) M = k60 (nI s) x2 (nI t + (-1)) M' ∧ AtB M' 45 b ∧ (∀ t', t ≤ t' → t' ≤ 8 → RowT b s t' M') := by
  intro r
  induction r with
  | zero =>
    intro k f M hk hf hB' hR hq
    obtain ⟨f', rfl⟩ : ∃ f', f = f' + 1 := ⟨f - 1, by omega⟩
    have : k = 1024 := by omega
    subst this
    refine ⟨M, rfl, hB', fun t' h1 h2 => ?_⟩
    by_cases e : t' = t
    · subst e; exact hq
    · exact hR t' (by omega) h2
  | succ r ih =>
    intro k f M hk hf hB' hR hq
    obtain ⟨f', rfl⟩ : ∃ f', f = f' + 1 := ⟨f - 1, by omega⟩
    obtain ⟨M2, e2, g2⟩ := ih (k + 1) f' (mI M 55 (1024 * t + k) (nI (mf (hB b) (tB s) (8 - t) (fr k)))) (by omega) (by omega) (hB'.row (by decide) (by decide) (by decide) (by decide)) (fun t' h1 h2 q hq2 => by
      rw [mI1, if_neg (by omega)]; exact hR t' h1 h2 q hq2) (fun q hq2 => by
      rw [mI1]
      by_cases e : q = k
      · subst e; rw [if_pos rfl]
      · rw [if_neg (by omega)]; exact hq q (by omega))
    refine ⟨M2, ?_, g2⟩
    have e0 : X12_owners_l67 45 k60 (f' + 1) (nI s) x2 (nI t) (nI k) M = X12_owners_b67 45 k60 (X12_owners_l67 45 k60 f') (nI s) x2 (nI t) (nI k) M := rfl
    have ei : (1024 : Int32) * (nI t + 1) + nI k = nI (1024 * (t + 1) + k) := by
      rw [L1, show (1024 : Int32) = nI 1024 from rfl, pk_mul, nI_add]
    have ej : (1024 : Int32) * nI t + nI k = nI (1024 * t + k) := by
      rw [show (1024 : Int32) = nI 1024 from rfl, pk_mul, nI_add]
    have er := hR (t + 1) (by omega) (by omega) k (by omega)
    rw [show 8 - (t + 1) = 7 - t by omega] at er
    have em : X12_mostFrom 45 (nI s) (nI t) (nI k) M = some (nI (mf (hB b) (tB s) (8 - t) (fr k)), M) := by
      have key := m_from_l hB' hs ht (by omega) (hR (t + 1) (by omega) (by omega)) 10 0 FU (k := k) (by omega) (by decide)
      unfold X12_mostFrom iw
      rw [ei, ib_nI (by omega) (by decide), gt, rf_45_22, ix_nI (by omega), er]
      generalize FU = f at key ⊢
      exact key
    rw [e0]
    unfold X12_owners_b67
    rw [if_neg (by rw [show (1024 : Int32) = nI 1024 from rfl, le_lit (by decide) (by omega)]; omega), em, bs, ej, ib_nI (by omega) (by decide), gt, rf_45_22, ix_nI (by omega), L1]
    exact e2
