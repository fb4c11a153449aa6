/-! the most, thing by thing -/
def mfB (g : Nat → Nat) : Nat → Nat → Nat
  | 0, v => v
  | n + 1, v => max (mfB g n v) (g n)
theorem mfB_p (g : Nat → Nat) (v : Nat) : ∀ n, v ≤ mfB g n v ∧ (∀ b, b < n → g b ≤ mfB g n v) ∧ (mfB g n v = v ∨ ∃ b, b < n ∧ mfB g n v = g b) := by
  intro n
  induction n with
  | zero => exact ⟨Nat.le_refl v, fun b hb => absurd hb (Nat.not_lt_zero b), Or.inl rfl⟩
  | succ n ih =>
    obtain ⟨i1, i2, i3⟩ := ih
    have e : mfB g (n + 1) v = max (mfB g n v) (g n) := rfl
    rw [e]
    refine ⟨by omega, fun b hb => ?_, ?_⟩
    · by_cases c : b = n
      · subst c; omega
      · have := i2 b (by omega); omega
    · by_cases c : g n ≤ mfB g n v
      · rw [Nat.max_eq_left c]
        rcases i3 with h | ⟨b, hb, h⟩
        · exact Or.inl h
        · exact Or.inr ⟨b, by omega, h⟩
      · rw [Nat.max_eq_right (by omega)]
        exact Or.inr ⟨n, by omega, rfl⟩
/-- r things left, from thing 8 - r on -/
def mf (H : Nat → Nat → Bool) (S : Nat → Bool) : Nat → (Nat → Bool) → Nat
  | 0, _ => 0
  | r + 1, F => mfB (fun b => if (S (7 - r) && H (7 - r) b && F b) = true then mf H S r (rmS F b) + 1 else 0) 10 (mf H S r F)
def fromS (S : Nat → Bool) (k : Nat) : Nat → Bool := fun j => S j && decide (k ≤ j)
theorem fromS_rm (S : Nat → Bool) (t : Nat) : rmS (fromS S t) t = fromS S (t + 1) := by
  funext j
  unfold rmS fromS
  by_cases c : j = t
  · subst c
    rw [decide_eq_false (show ¬ j + 1 ≤ j by omega)]
    simp
  · have y' : (j == t) = false := by simpa using c
    rw [y']
    by_cases l : t ≤ j
    · rw [decide_eq_true l, decide_eq_true (show t + 1 ≤ j by omega)]; simp
    · rw [decide_eq_false l, decide_eq_false (show ¬ t + 1 ≤ j by omega)]; simp
theorem fromS_no {S : Nat → Bool} {t : Nat} (h : S t = false) : fromS S t = fromS S (t + 1) := by
  funext j
  unfold fromS
  by_cases c : j = t
  · subst c; rw [h]; rfl
  · by_cases l : t ≤ j
    · rw [decide_eq_true l, decide_eq_true (show t + 1 ≤ j by omega)]
    · rw [decide_eq_false l, decide_eq_false (show ¬ t + 1 ≤ j by omega)]
theorem mf_G (H : Nat → Nat → Bool) (S : Nat → Bool) : ∀ r, r ≤ 8 → ∀ F, IsG H (fromS S (8 - r)) F (mf H S r F) := by
  intro r
  induction r with
  | zero =>
    intro _ F
    have z : ∀ P, sb P (fromS S 8) → ∀ b, hh H P b = false := by
      intro P hP b
      cases c : hh H P b
      · rfl
      · obtain ⟨t, t1, t2, -⟩ := hh_iff.mp c
        have := hP t t1 t2
        unfold fromS at this
        rw [decide_eq_false (show ¬ 8 ≤ t by omega), Bool.and_false] at this
        exact absurd this (by decide)
    refine ⟨fun P _ => Nat.zero_le _, fun _ => false, fun _ _ h => absurd (show false = true from h) (by decide), ?_⟩
    unfold dD
    have e1 : fb_ct (fun t => fromS S 8 t && !false) 8 = 0 := fb_ct_zero.mpr (fun k hk => by
      unfold fromS
      rw [decide_eq_false (show ¬ 8 ≤ k by omega), Bool.and_false]; rfl)
    have e2 : fb_ct (fun b => hh H (fun _ => false) b && F b) 10 = 0 := fb_ct_zero.mpr (fun k hk => by
      rw [z (fun _ => false) (fun _ _ h => absurd (show false = true from h) (by decide)) k]; rfl)
    show fb_ct (fun t => fromS S 8 t && !false) 8 + _ = 0
    rw [e1, e2]
  | succ r ih =>
    intro hr F
    have e8 : 8 - (r + 1) = 7 - r := by omega
    have e9 : 8 - r = 7 - r + 1 := by omega
    rw [e8]
    have em : mf H S (r + 1) F = mfB (fun b => if (S (7 - r) && H (7 - r) b && F b) = true then mf H S r (rmS F b) + 1 else 0) 10 (mf H S r F) := rfl
    obtain ⟨p1, p2, p3⟩ := mfB_p (fun b => if (S (7 - r) && H (7 - r) b && F b) = true then mf H S r (rmS F b) + 1 else 0) (mf H S r F) 10
    rw [← em] at p1 p2 p3
    cases c : S (7 - r)
    · have e : mf H S (r + 1) F = mf H S r F := by
        rcases p3 with h | ⟨b, hb, h⟩
        · exact h
        · rw [c, Bool.false_and, Bool.false_and, if_neg (by decide)] at h
          omega
      rw [e, fromS_no c, ← e9]
      exact ih (by omega) F
    · have ih0 := ih (by omega)
      rw [e9, ← fromS_rm] at ih0
      refine IsG_step (t := 7 - r) (by omega) (by unfold fromS; rw [c, decide_eq_true (Nat.le_refl _)]; rfl) (ih0 F) (mb := fun b => mf H S r (rmS F b)) (fun b _ _ _ => ih0 (rmS F b)) p1 (fun b b1 b2 b3 => ?_) ?_
      · have := p2 b b1
        rw [c, b2, b3, if_pos (by rfl)] at this
        exact this
      · rcases p3 with h | ⟨b, hb, h⟩
        · exact Or.inl h
        · by_cases q : (S (7 - r) && H (7 - r) b && F b) = true
          · rw [if_pos q] at h
            obtain ⟨q1, q3⟩ := (Bool.and_eq_true _ _).mp q
            obtain ⟨-, q2⟩ := (Bool.and_eq_true _ _).mp q1
            exact Or.inr ⟨b, hb, q2, q3, h⟩
          · rw [if_neg q] at h
            exact Or.inl (by omega)
