/-! all rows of the model's table -/
def finO (s : Nat) (x2 : Int32) (M : Mem) : Option (Int32 × Mem) := if 0 ≤ x2 then X12_owners_l124 45 FU (nI s) x2 (0 : Int32) (0 : Int32) M else some (M.1 55 0, M)
theorem m_rows60 {b : Bt} {s : Nat} (hs : s < 256) (x2 : Int32) : ∀ c f (M : Mem), c ≤ 8 → c < f → AtB M 45 b → (∀ t', c ≤ t' → t' ≤ 8 → RowT b s t' M) → ∃ M', X12_owners_l60 45 f (nI s) x2 (nI c + (-1)) M = finO s x2 M' ∧ AtB M' 45 b ∧ (∀ t', t' ≤ 8 → RowT b s t' M') := by
  intro c
  induction c with
  | zero =>
    intro f M hc hf hB' hR
    obtain ⟨f', rfl⟩ : ∃ f', f = f' + 1 := ⟨f - 1, by omega⟩
    refine ⟨M, ?_, hB', fun t' h => hR t' (by omega) h⟩
    have e0 : X12_owners_l60 45 (f' + 1) (nI s) x2 (nI 0 + (-1)) M = X12_owners_b60 45 (X12_owners_l60 45 f') (nI s) x2 (nI 0 + (-1)) M := rfl
    rw [e0]
    unfold X12_owners_b60 finO
    rw [if_pos (by decide), show ib (0 : Int32) 9216 = true by decide, gt, rf_45_22, show (0 : Int32).toNatClampNeg = 0 by decide]
  | succ t ih =>
    intro f M hc hf hB' hR
    obtain ⟨f', rfl⟩ : ∃ f', f = f' + 1 := ⟨f - 1, by omega⟩
    obtain ⟨M1, e1, g1, g2⟩ := m_fill67 (b := b) hs (t := t) (by omega) x2 (X12_owners_l60 45 f') 1024 0 FU M (by omega) (by decide) hB' (fun t' h1 h2 => hR t' (by omega) h2) (fun q hq => absurd hq (Nat.not_lt_zero q))
    obtain ⟨M2, e2, g3⟩ := ih f' M1 (by omega) (by omega) g1 g2
    refine ⟨M2, ?_, g3⟩
    have e0 : X12_owners_l60 45 (f' + 1) (nI s) x2 (nI (t + 1) + (-1)) M = X12_owners_b60 45 (X12_owners_l60 45 f') (nI s) x2 (nI (t + 1) + (-1)) M := rfl
    rw [e0, pk_m1]
    unfold X12_owners_b60
    rw [if_neg (by rw [nI_lt0 (by omega)]; exact id)]
    exact e1.trans e2
theorem m_zero33 {b : Bt} {s : Nat} (hs : s < 256) (x2 : Int32) : ∀ r k f (M : Mem), k + r = 1024 → r < f → AtB M 45 b → (∀ q, q < k → M.1 55 (8192 + q) = 0) → ∃ M', X12_owners_l33 45 f (nI s) x2 (nI k) M = finO s x2 M' ∧ AtB M' 45 b ∧ (∀ t', t' ≤ 8 → RowT b s t' M') := by
  intro r
  induction r with
  | zero =>
    intro k f M hk hf hB' hz
    obtain ⟨f', rfl⟩ : ∃ f', f = f' + 1 := ⟨f - 1, by omega⟩
    have : k = 1024 := by omega
    subst this
    obtain ⟨M1, e1, g1⟩ := m_rows60 (b := b) hs x2 8 FU M (by omega) (by decide) hB' (fun t' h1 h2 q hq => by
      have : t' = 8 := by omega
      subst this
      exact hz q hq)
    refine ⟨M1, ?_, g1⟩
    have e0 : X12_owners_l33 45 (f' + 1) (nI s) x2 (nI 1024) M = X12_owners_b33 45 (X12_owners_l33 45 f') (nI s) x2 (nI 1024) M := rfl
    rw [e0]
    unfold X12_owners_b33
    rw [if_pos (by decide), show (7 : Int32) = nI 8 + (-1) by decide]
    exact e1
  | succ r ih =>
    intro k f M hk hf hB' hz
    obtain ⟨f', rfl⟩ : ∃ f', f = f' + 1 := ⟨f - 1, by omega⟩
    obtain ⟨M2, e2, g2⟩ := ih (k + 1) f' (mI M 55 (8192 + k) 0) (by omega) (by omega) (hB'.row (by decide) (by decide) (by decide) (by decide)) (fun q hq => by
      rw [mI1]
      split
      · rfl
      · exact hz q (by omega))
    refine ⟨M2, ?_, g2⟩
    have e0 : X12_owners_l33 45 (f' + 1) (nI s) x2 (nI k) M = X12_owners_b33 45 (X12_owners_l33 45 f') (nI s) x2 (nI k) M := rfl
    rw [e0]
    unfold X12_owners_b33
    rw [if_neg (by rw [show (1024 : Int32) = nI 1024 from rfl, le_lit (by decide) (by omega)]; omega), show (8192 : Int32) + nI k = nI (8192 + k) by rw [show (8192 : Int32) = nI 8192 from rfl, nI_add], ib_nI (by omega) (by decide), gt, rf_45_22, ix_nI (by omega), L1]
    exact e2
/-- only what lies below 8 and below 10 counts -/
theorem IsG.cong {H : Nat → Nat → Bool} {S S' F F' : Nat → Bool} {m : Nat} (h : IsG H S F m) (hS : ∀ t, t < 8 → S t = S' t) (hF : ∀ b, b < 10 → F b = F' b) : IsG H S' F' m := by
  have e : ∀ P, dD H S F P = dD H S' F' P := by
    intro P
    unfold dD
    rw [fb_ct_cong (p := fun t => S t && !P t) (q := fun t => S' t && !P t) (fun k hk => by show (S k && !P k) = (S' k && !P k); rw [hS k hk]), fb_ct_cong (p := fun b => hh H P b && F b) (q := fun b => hh H P b && F' b) (fun k hk => by show (hh H P k && F k) = (hh H P k && F' k); rw [hF k hk])]
  obtain ⟨h1, P, h2, h3⟩ := h
  refine ⟨fun Q hQ => by rw [← e]; exact h1 Q (fun t ht hq => by rw [hS t ht]; exact hQ t ht hq), P, fun t ht hq => by rw [← hS t ht]; exact h2 t ht hq, by rw [← e]; exact h3⟩
/-- the basket for thing t, k being taken: the least from x on -/
def ownL (H : Nat → Nat → Bool) (S : Nat → Bool) (t k : Nat) : Nat → Nat → Int32
  | 0, _ => -6
  | r + 1, x => if (S t && H t x && fr k x && decide (mf H S (7 - t) (rmS (fr k) x) + 1 = mf H S (8 - t) (fr k))) = true then nI x else ownL H S t k r (x + 1)
