/-! the choice of a basket -/
def ownC (H : Nat → Nat → Bool) (S : Nat → Bool) (t k x : Nat) : Bool := S t && H t x && fr k x && decide (mf H S (7 - t) (rmS (fr k) x) + 1 = mf H S (8 - t) (fr k))
theorem ownL_succ (H : Nat → Nat → Bool) (S : Nat → Bool) (t k r x : Nat) : ownL H S t k (r + 1) x = if ownC H S t k x = true then nI x else ownL H S t k r (x + 1) := rfl
theorem m_owner_l {M : Mem} {b : Bt} (h : AtB M 45 b) {s t k : Nat} (hs : s < 256) (ht : t < 8) (hk : k < 1024) (hR : ∀ t', t' ≤ 8 → RowT b s t' M) : ∀ c f, c ≤ 10 → c < f → X12_ownerOf_l8 45 f (nI s) (nI t) (nI k) (ownL (hB b) (tB s) t k (10 - c) c) (nI c + (-1)) M = some (ownL (hB b) (tB s) t k 10 0, M) := by
  intro c
  induction c with
  | zero =>
    intro f hc hf
    obtain ⟨f', rfl⟩ : ∃ f', f = f' + 1 := ⟨f - 1, by omega⟩
    rfl
  | succ c ih =>
    intro f hc hf
    obtain ⟨f', rfl⟩ : ∃ f', f = f' + 1 := ⟨f - 1, by omega⟩
    have next := ih f' (by omega) (by omega)
    rw [show 10 - c = 10 - (c + 1) + 1 by omega, ownL_succ] at next
    generalize ownL (hB b) (tB s) t k (10 - (c + 1)) (c + 1) = v at next ⊢
    have e0 : X12_ownerOf_l8 45 (f' + 1) (nI s) (nI t) (nI k) v (nI (c + 1) + (-1)) M = X12_ownerOf_b8 45 (X12_ownerOf_l8 45 f') (nI s) (nI t) (nI k) v (nI (c + 1) + (-1)) M := rfl
    rw [e0, pk_m1, ← next]
    generalize X12_ownerOf_l8 45 f' = k8
    have hkb : k ||| 2 ^ c < 1024 := Nat.or_lt_two_pow (n := 10) hk (Nat.pow_lt_pow_right (by decide) (by omega))
    have ei : (1024 : Int32) * (nI t + 1) + (nI k ||| (1 : Int32) <<< (nI c &&& 31)) = nI (1024 * (t + 1) + (k ||| 2 ^ c)) := by
      rw [L1, shl_nI (by omega), fa_or, show (1024 : Int32) = nI 1024 from rfl, pk_mul, nI_add]
    have ej : (1024 : Int32) * nI t + nI k = nI (1024 * t + k) := by
      rw [show (1024 : Int32) = nI 1024 from rfl, pk_mul, nI_add]
    have er := hR (t + 1) (by omega) (k ||| 2 ^ c) hkb
    rw [show 8 - (t + 1) = 7 - t by omega, fr_set] at er
    have es := hR t (by omega) k hk
    have m1 := mf_le (hB b) (tB s) (7 - t) (rmS (fr k) c)
    have m2 := mf_le (hB b) (tB s) (8 - t) (fr k)
    unfold X12_ownerOf_b8 X12_ownerOf_b69 X12_ownerOf_b70 X12_ownerOf_b84
    rw [if_neg (by rw [nI_lt0 (by omega)]; exact id), m_canOwn h hs ht (by omega) hk, bs, ei, ej, ib_nI (by omega) (by decide), ib_nI (by omega) (by decide), gt, gt, rf_45_22, ix_nI (by omega), ix_nI (by omega)]
    simp only [bz_eq0, if_true, show ¬ (1 : Int32) = 0 by decide, if_false]
    rw [er, es, L1]
    unfold ownC
    cases q : (tB s t && hB b t c && fr k c)
    · rw [if_pos rfl, Bool.false_and, if_neg (by decide)]
    · rw [if_neg (by decide), Bool.true_and]
      by_cases z : mf (hB b) (tB s) (7 - t) (rmS (fr k) c) + 1 = mf (hB b) (tB s) (8 - t) (fr k)
      · rw [if_pos (by rw [z]), if_pos (decide_eq_true z)]
      · rw [if_neg (by rw [nI_eqN (by omega) (by omega)]; exact z), if_neg (by rw [decide_eq_false z]; decide)]
theorem m_owner {M : Mem} {b : Bt} (h : AtB M 45 b) {s t k : Nat} (hs : s < 256) (ht : t < 8) (hk : k < 1024) (hR : ∀ t', t' ≤ 8 → RowT b s t' M) : X12_ownerOf 45 (nI s) (nI t) (nI k) M = some (ownL (hB b) (tB s) t k 10 0, M) := by
  have key := m_owner_l h hs ht hk hR 10 FU (by omega) (by decide)
  unfold X12_ownerOf
  rw [show (9 : Int32) = nI 10 + (-1) by decide]
  have e : ownL (hB b) (tB s) t k (10 - 10) 10 = -6 := rfl
  rw [e] at key
  exact key
theorem ownL_rng (H : Nat → Nat → Bool) (S : Nat → Bool) (t k : Nat) : ∀ r x, x + r = 10 → (ownL H S t k r x = -6 ∧ ∀ y, x ≤ y → y < 10 → ownC H S t k y = false) ∨ ∃ y, y < 10 ∧ ownL H S t k r x = nI y ∧ ownC H S t k y = true := by
  intro r
  induction r with
  | zero => intro x hx; exact Or.inl ⟨rfl, fun y h1 h2 => by omega⟩
  | succ r ih =>
    intro x hx
    rw [ownL_succ]
    cases c : ownC H S t k x
    · rw [if_neg (by decide)]
      rcases ih (x + 1) (by omega) with ⟨h1, h2⟩ | h
      · refine Or.inl ⟨h1, fun y y1 y2 => ?_⟩
        by_cases e : y = x
        · subst e; exact c
        · exact h2 y (by omega) y2
      · exact Or.inr h
    · rw [if_pos rfl]
      exact Or.inr ⟨x, by omega, rfl, c⟩
