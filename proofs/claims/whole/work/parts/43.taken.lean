/-! what is taken before a thing -/
def tkN (H : Nat → Nat → Bool) (S : Nat → Bool) : Nat → Nat
  | 0 => 0
  | t + 1 => if ownL H S t (tkN H S t) 10 0 = -6 then tkN H S t else tkN H S t ||| 2 ^ (ownL H S t (tkN H S t) 10 0).toNatClampNeg
theorem tkN_succ (H : Nat → Nat → Bool) (S : Nat → Bool) (t : Nat) : tkN H S (t + 1) = if ownL H S t (tkN H S t) 10 0 = -6 then tkN H S t else tkN H S t ||| 2 ^ (ownL H S t (tkN H S t) 10 0).toNatClampNeg := rfl
theorem tkN_lt (H : Nat → Nat → Bool) (S : Nat → Bool) : ∀ t, tkN H S t < 1024 := by
  intro t
  induction t with
  | zero => exact (show 0 < 1024 by decide)
  | succ t ih =>
    rw [tkN_succ]
    rcases ownL_rng H S t (tkN H S t) 10 0 (by omega) with ⟨h, -⟩ | ⟨y, y1, y2, -⟩
    · rw [if_pos h]; exact ih
    · rw [y2, if_neg (nI_not6 (by omega)), ix_nI (by omega)]
      exact Nat.or_lt_two_pow (n := 10) ih (Nat.pow_lt_pow_right (by decide) y1)
theorem m_owners124 {M : Mem} {b : Bt} (h : AtB M 45 b) {s x : Nat} (hs : s < 256) (hx : x < 8) (hR : ∀ t', t' ≤ 8 → RowT b s t' M) : ∀ r t f, t + r = x → r < f → X12_owners_l124 45 f (nI s) (nI x) (nI (tkN (hB b) (tB s) t)) (nI t) M = some (ownL (hB b) (tB s) x (tkN (hB b) (tB s) x) 10 0, M) := by
  intro r
  induction r with
  | zero =>
    intro t f ht hf
    obtain ⟨f', rfl⟩ : ∃ f', f = f' + 1 := ⟨f - 1, by omega⟩
    have : t = x := by omega
    subst this
    have ho := m_owner h hs hx (tkN_lt (hB b) (tB s) t) hR
    generalize tkN (hB b) (tB s) t = k at ho ⊢
    have e0 : X12_owners_l124 45 (f' + 1) (nI s) (nI t) (nI k) (nI t) M = X12_owners_b124 45 (X12_owners_l124 45 f') (nI s) (nI t) (nI k) (nI t) M := rfl
    rw [e0]
    unfold X12_owners_b124
    rw [if_pos (by rw [le_lit (by omega) (by omega)]; omega), ho, bs]
  | succ r ih =>
    intro t f ht hf
    obtain ⟨f', rfl⟩ : ∃ f', f = f' + 1 := ⟨f - 1, by omega⟩
    have next := ih (t + 1) f' (by omega) (by omega)
    rw [tkN_succ] at next
    have ho := m_owner h hs (t := t) (by omega) (tkN_lt (hB b) (tB s) t) hR
    have rg := ownL_rng (hB b) (tB s) t (tkN (hB b) (tB s) t) 10 0 (by omega)
    have e0 : ∀ k, X12_owners_l124 45 (f' + 1) (nI s) (nI x) (nI k) (nI t) M = X12_owners_b124 45 (X12_owners_l124 45 f') (nI s) (nI x) (nI k) (nI t) M := fun _ => rfl
    rw [e0]
    unfold X12_owners_b124 X12_owners_b154
    rw [if_neg (by rw [le_lit (by omega) (by omega)]; omega), ho, bs]
    simp only []
    rw [L1]
    rcases rg with ⟨g1, -⟩ | ⟨y, y1, y2, -⟩
    · rw [g1, if_pos rfl] at next
      rw [g1, if_neg (by decide), Int32.or_zero]
      exact next
    · rw [y2, if_neg (nI_not6 (by omega)), ix_nI (by omega)] at next
      rw [y2, if_pos (show (0 : Int32) ≤ nI y by rw [show (0 : Int32) = nI 0 from rfl, le_lit (by decide) (by omega)]; omega), shl_nI (by omega), fa_or]
      exact next
