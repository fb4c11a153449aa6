/-! THE PAD read: one machine of four states for both sides (0 an act may begin, 1 a thing to lay must come, 2 a thing to take, 3 a cabin) -/
def stp (d : Nat) (c : Int32) : Option Nat :=
  if d = 0 then (if c = 43 then some 1 else if c = 45 then some 2 else if c = 46 then some 0 else if c = 61 then some 3 else if c = 63 then some 0 else if wi c 65 74 = true then some 0 else none)
  else if d = 3 then (if wi c 65 74 = true then some 0 else none)
  else (if wi c 48 55 = true then some 0 else none)
def cls (d : Nat) (c : Int32) : List (Int32 × Int32) :=
  if d = 0 then (if c = 43 then [] else if c = 45 then [] else if c = 46 then [(5, 0)] else if c = 61 then [] else if c = 63 then [(1, 0)] else [(0, c - 65)])
  else if d = 3 then [(4, c - 65)] else if d = 1 then [(2, c - 48)] else [(3, c - 48)]
/-- the fault from place i on, k signs being left, in state d -/
def flr (f : Nat → Int32) : Nat → Nat → Nat → Int32
  | 0, i, d => if d = 0 then -6 else nI i
  | k + 1, i, d => match stp d (f i) with
    | none => nI i
    | some d' => flr f k (i + 1) d'
/-- the acts from there on -/
def acl (f : Nat → Int32) : Nat → Nat → Nat → List (Int32 × Int32)
  | 0, _, _ => []
  | k + 1, i, d => match stp d (f i) with
    | none => []
    | some d' => cls d (f i) ++ acl f k (i + 1) d'
theorem let_eq {x : Int32} (h : ib x 127 = true) : ib (x - 65) 10 = wi x 65 74 := by
  obtain ⟨n, hn, rfl⟩ := ib_ex h (by decide)
  exact (by decide +kernel : ∀ n, n < 127 → ib (nI n - 65) 10 = wi (nI n) 65 74) n hn
theorem dig_eq {x : Int32} (h : ib x 127 = true) : ib (x - 48) 8 = wi x 48 55 := by
  obtain ⟨n, hn, rfl⟩ := ib_ex h (by decide)
  exact (by decide +kernel : ∀ n, n < 127 → ib (nI n - 48) 8 = wi (nI n) 48 55) n hn
theorem e_isLetter {x : Int32} (h : ib x 127 = true) (M : Mem) : X8_isLetter x M = some (bz (wi x 65 74), M) := by
  unfold X8_isLetter; rw [e_isCabin, bs, gbz, let_eq h]
def two (x : Int32) : Bool := decide (x = 43) || decide (x = 45) || decide (x = 61)
theorem e_isOfTwo (x : Int32) (M : Mem) : X8_isOfTwo x M = some (bz (two x), M) := by
  unfold X8_isOfTwo X8_isOfTwo_b18 X8_isOfTwo_b23 two
  by_cases h1 : x = 43
  · simp [h1]; rfl
  by_cases h2 : x = 45
  · simp [h2]; rfl
  by_cases h3 : x = 61
  · simp [h3]; rfl
  simp [h1, h2, h3]; rfl
theorem e_begins {x : Int32} (h : ib x 127 = true) (M : Mem) : X8_begins x M = some (bz (stp 0 x).isSome, M) := by
  unfold X8_begins X8_begins_b26 X8_begins_b31
  simp only [e_isLetter h, e_isOfTwo, bs, bz_eq0]
  unfold stp two
  by_cases h1 : x = 43
  · subst h1; rfl
  by_cases h2 : x = 45
  · subst h2; rfl
  by_cases h3 : x = 61
  · subst h3; rfl
  by_cases h4 : x = 46
  · subst h4; rfl
  by_cases h5 : x = 63
  · subst h5; rfl
  cases hw : wi x 65 74 <;> simp [h1, h2, h3, h4, h5, gd, bz]
def sgn (d : Nat) : Int32 := if d = 1 then 43 else if d = 2 then 45 else 61
theorem e_ends {d : Nat} {x : Int32} (h : ib x 127 = true) (hd : d = 1 ∨ d = 2 ∨ d = 3) (M : Mem) : X8_ends (sgn d) x M = some (bz (stp d x).isSome, M) := by
  unfold X8_ends X8_ends_b20
  simp only [e_isLetter h, e_isThing, dig_eq h, bs, gbz]
  unfold stp
  rcases hd with rfl | rfl | rfl
  · cases hw : wi x 48 55 <;> rfl
  · cases hw : wi x 48 55 <;> rfl
  · cases hw : wi x 65 74 <;> rfl
/-- the state behind a sign tells the sign, where it is not 0 -/
theorem stp_sgn {d d' : Nat} {c : Int32} (h : stp d c = some d') (h0 : d' ≠ 0) : d = 0 ∧ c = sgn d' ∧ (d' = 1 ∨ d' = 2 ∨ d' = 3) := by
  unfold stp at h
  by_cases e : d = 0
  · rw [if_pos e] at h
    refine ⟨e, ?_⟩
    by_cases h1 : c = 43
    · rw [if_pos h1] at h; cases h; exact ⟨h1, Or.inl rfl⟩
    rw [if_neg h1] at h
    by_cases h2 : c = 45
    · rw [if_pos h2] at h; cases h; exact ⟨h2, Or.inr (Or.inl rfl)⟩
    rw [if_neg h2] at h
    by_cases h3 : c = 46
    · rw [if_pos h3] at h; cases h; exact absurd rfl h0
    rw [if_neg h3] at h
    by_cases h4 : c = 61
    · rw [if_pos h4] at h; cases h; exact ⟨h4, Or.inr (Or.inr rfl)⟩
    rw [if_neg h4] at h
    by_cases h5 : c = 63
    · rw [if_pos h5] at h; cases h; exact absurd rfl h0
    rw [if_neg h5] at h
    by_cases h6 : wi c 65 74 = true
    · rw [if_pos h6] at h; cases h; exact absurd rfl h0
    · rw [if_neg h6] at h; cases h
  · rw [if_neg e] at h
    by_cases e3 : d = 3
    · rw [if_pos e3] at h
      split at h
      · cases h; exact absurd rfl h0
      · cases h
    · rw [if_neg e3] at h
      split at h
      · cases h; exact absurd rfl h0
      · cases h
theorem stp_two {c : Int32} {d' : Nat} (h : stp 0 c = some d') : two c = !(decide (d' = 0)) := by
  unfold stp at h
  unfold two
  rw [if_pos rfl] at h
  by_cases h1 : c = 43
  · rw [if_pos h1] at h; cases h; simp [h1]
  rw [if_neg h1] at h
  by_cases h2 : c = 45
  · rw [if_pos h2] at h; cases h; simp [h2]
  rw [if_neg h2] at h
  by_cases h3 : c = 46
  · rw [if_pos h3] at h; cases h; subst h3; rfl
  rw [if_neg h3] at h
  by_cases h4 : c = 61
  · rw [if_pos h4] at h; cases h; simp [h4]
  rw [if_neg h4] at h
  have : d' = 0 := by
    split at h
    · cases h; rfl
    · split at h
      · cases h; rfl
      · cases h
  subst this
  simp [h1, h2, h4]
theorem stp_close {d d' : Nat} {c : Int32} (h : stp d c = some d') (hd : d ≠ 0) : d' = 0 := by
  by_cases e : d' = 0
  · exact e
  · exact absurd (stp_sgn h e).1 hd
section PARSE
variable {M : Mem} {p : Pt0}
/-- the class's scan -/
theorem e_fault_l (hp : AtP M 9 8 1 p) (ok : okP p) : ∀ k i d n, i + k = p.2 → k < n → (d ≠ 0 → (d = 1 ∨ d = 2 ∨ d = 3) ∧ 1 ≤ i ∧ p.1 (i - 1) = sgn d) → X8_faultPlace_l4 8 n (bz (!(decide (d = 0)))) (nI i) M = some (flr p.1 k i d, M) := by
  have hn := ok.1
  intro k
  induction k with
  | zero =>
    intro i d n hi hkn hd
    obtain ⟨m, rfl⟩ : ∃ m, n = m + 1 := ⟨n - 1, by omega⟩
    show X8_faultPlace_b4 8 _ _ _ M = _
    unfold X8_faultPlace_b4 X8_faultPlace_b94
    rw [hp.2, if_pos (by rw [le_lit (by omega) (by omega)]; omega)]
    unfold flr
    by_cases e : d = 0
    · subst e; rfl
    · rw [if_neg (by rw [decide_eq_false e]; decide), if_neg e]
      have : i = p.2 := by omega
      rw [this]
  | succ k ih =>
    intro i d n hi hkn hd
    obtain ⟨m, rfl⟩ : ∃ m, n = m + 1 := ⟨n - 1, by omega⟩
    have hs := hp.1 i (by omega)
    have hb := ok.2 i (by omega)
    have hib : ib (nI i) 60 = true := ib_nI (by omega) (by decide)
    show X8_faultPlace_b4 8 _ _ _ M = _
    unfold X8_faultPlace_b4 X8_faultPlace_b51 X8_faultPlace_b53 X8_faultPlace_b73 X8_faultPlace_b74
    rw [hp.2, if_neg (by rw [le_lit (by omega) (by omega)]; omega)]
    simp only [rf_8_0, ix_nI (show i < 2 ^ 31 by omega), hs, hib, gt, bs, e_begins hb, e_isOfTwo, bz_eq0]
    by_cases e : d = 0
    · subst e
      simp only [decide_true, Bool.not_true, if_true]
      unfold flr
      cases hst : stp 0 (p.1 i) with
      | none => simp
      | some d' =>
        simp only [Option.isSome_some, Bool.true_eq_false, if_false, L1]
        have h2 := stp_two hst
        have hnx := ih (i + 1) d' m (by omega) (by omega) (fun z => ⟨(stp_sgn hst z).2.2, by omega, by rw [Nat.add_sub_cancel]; exact (stp_sgn hst z).2.1⟩)
        rw [h2]
        by_cases z : d' = 0
        · simp [z] at hnx ⊢
          exact hnx
        · simp [z] at hnx ⊢
          exact hnx
    · obtain ⟨h1, h2, h3⟩ := hd e
      have hs2 := hp.1 (i - 1) (by omega)
      have hsub : nI i - (1 : Int32) = nI (i - 1) := pk_sub (b := 1) h2
      simp only [decide_eq_false e, Bool.not_false, Bool.true_eq_false, if_false, hsub, ib_nI (show i - 1 < 60 by omega) (by decide), gt, ix_nI (show i - 1 < 2 ^ 31 by omega), hs2, h3, e_ends hb h1, bs, bz_eq0]
      unfold flr
      cases hst : stp d (p.1 i) with
      | none => simp
      | some d' =>
        have z := stp_close hst e
        subst z
        simp only [Option.isSome_some, Bool.true_eq_false, if_false, L1]
        have hnx := ih (i + 1) 0 m (by omega) (by omega) (fun z => absurd rfl z)
        exact hnx
theorem e_fault (hp : AtP M 9 8 1 p) (ok : okP p) : X8_faultPlace 8 M = some (flr p.1 p.2 0 0, M) := by
  have := e_fault_l hp ok p.2 0 0 FU (by omega) (by have := ok.1; show p.2 < 2000; omega) (fun z => absurd rfl z)
  exact this
end PARSE
/-! the model's reading: the acts are laid down as they close -/
def AtA (M : Mem) (l : List (Int32 × Int32)) : Prop := M.1 45 15 = nI l.length ∧ (∀ k, k < l.length → M.1 52 k = (l.getD k (0, 0)).1) ∧ ∀ k, k < l.length → M.1 53 k = (l.getD k (0, 0)).2
theorem m_close {M : Mem} {l : List (Int32 × Int32)} (h : AtA M l) (hl : l.length < 60) (x v : Int32) : ∃ M', X12_close 45 x v M = some (0, M') ∧ AtA M' (l ++ [(x, v)]) ∧ (∀ j, j ≠ 15 → M'.1 45 j = M.1 45 j) := by
  unfold X12_close
  have e1 : (mI M (rf 45 13) (M.1 45 15).toNatClampNeg x).1 45 15 = M.1 45 15 := by rw [mI1_ne (by decide)]
  have e2 : (mI (mI M (rf 45 13) (M.1 45 15).toNatClampNeg x) (rf 45 14) (M.1 45 15).toNatClampNeg v).1 45 15 = M.1 45 15 := by rw [mI1_ne (by decide), mI1_ne (by decide)]
  simp only [mw, e1, e2]
  rw [h.1, ib_nI hl (by decide), gt, gt, ix_nI (by omega), L1, rf_45_13, rf_45_14]
  refine ⟨_, rfl, ⟨?_, ?_, ?_⟩, ?_⟩
  · simp [mI1]
  · intro k hk
    rw [mI1_ne (by decide), mI1_ne (by decide), mI1]
    simp only [List.length_append, List.length_cons, List.length_nil] at hk
    by_cases e : k = l.length
    · rw [if_pos e, e]; simp [List.getD_eq_getElem?_getD]
    · rw [if_neg e, h.2.1 k (by omega)]
      simp only [List.getD_eq_getElem?_getD]
      rw [List.getElem?_append_left (by omega)]
  · intro k hk
    rw [mI1_ne (by decide), mI1, mI1_ne (by decide)]
    simp only [List.length_append, List.length_cons, List.length_nil] at hk
    by_cases e : k = l.length
    · rw [if_pos e, e]; simp [List.getD_eq_getElem?_getD]
    · rw [if_neg e, h.2.2 k (by omega)]
      simp only [List.getD_eq_getElem?_getD]
      rw [List.getElem?_append_left (by omega)]
  · intro j hj
    rw [mI1, if_neg hj, mI1_ne (by decide), mI1_ne (by decide)]
def stI : Option Nat → Int32
  | none => -6
  | some d => nI d
theorem m_readOn {M : Mem} {l : List (Int32 × Int32)} (h : AtA M l) (hl : l.length < 60) (d : Nat) (hd : d = 0 ∨ d = 1 ∨ d = 2 ∨ d = 3) (c : Int32) : ∃ M', X12_readOn 45 (nI d) c M = some (stI (stp d c), M') ∧ (∀ d', stp d c = some d' → AtA M' (l ++ cls d c)) ∧ (∀ j, j ≠ 15 → M'.1 45 j = M.1 45 j) := by
  unfold X12_readOn X12_readOn_b36 X12_readOn_b74 X12_readOn_b62 X12_begin X12_begin_b93
  simp only [m_isLetter, e_in_48_55, bs, bz_eq0]
  have ap : ∀ x v, ∃ M', X12_close 45 x v M = some (0, M') ∧ AtA M' (l ++ [(x, v)]) ∧ (∀ j, j ≠ 15 → M'.1 45 j = M.1 45 j) := fun x v => m_close h hl x v
  rcases hd with rfl | rfl | rfl | rfl
  · rw [if_pos (show nI 0 = 0 from rfl)]
    unfold stp cls
    by_cases h1 : c = 43
    · subst h1; exact ⟨M, rfl, fun _ _ => by simpa using h, fun _ _ => rfl⟩
    by_cases h2 : c = 45
    · subst h2; exact ⟨M, rfl, fun _ _ => by simpa using h, fun _ _ => rfl⟩
    by_cases h3 : c = 46
    · subst h3
      obtain ⟨M', e1, e2, e3⟩ := ap 5 0
      exact ⟨M', by simp [e1, stI]; rfl, fun _ _ => e2, e3⟩
    by_cases h4 : c = 61
    · subst h4; exact ⟨M, rfl, fun _ _ => by simpa using h, fun _ _ => rfl⟩
    by_cases h5 : c = 63
    · subst h5
      obtain ⟨M', e1, e2, e3⟩ := ap 1 0
      exact ⟨M', by simp [e1, stI]; rfl, fun _ _ => e2, e3⟩
    simp only [h1, h2, h3, h4, h5, if_false, if_true]
    cases hw : wi c 65 74
    · exact ⟨M, by simp [stI], fun d' z => by simp at z, fun _ _ => rfl⟩
    · obtain ⟨M', e1, e2, e3⟩ := ap 0 (c - 65)
      exact ⟨M', by simp [e1, stI]; rfl, fun _ _ => e2, e3⟩
  · rw [if_neg (show ¬ nI 1 = 0 by decide), if_neg (show ¬ nI 1 = 3 by decide), if_pos (show nI 1 = 1 from rfl)]
    unfold stp cls
    cases hw : wi c 48 55
    · exact ⟨M, by simp [stI], fun d' z => by simp at z, fun _ _ => rfl⟩
    · obtain ⟨M', e1, e2, e3⟩ := ap 2 (c - 48)
      exact ⟨M', by simp [e1, stI]; rfl, fun _ _ => e2, e3⟩
  · rw [if_neg (show ¬ nI 2 = 0 by decide), if_neg (show ¬ nI 2 = 3 by decide), if_neg (show ¬ nI 2 = 1 by decide)]
    unfold stp cls
    cases hw : wi c 48 55
    · exact ⟨M, by simp [stI], fun d' z => by simp at z, fun _ _ => rfl⟩
    · obtain ⟨M', e1, e2, e3⟩ := ap 3 (c - 48)
      exact ⟨M', by simp [e1, stI]; rfl, fun _ _ => e2, e3⟩
  · rw [if_neg (show ¬ nI 3 = 0 by decide), if_pos (show nI 3 = 3 from rfl)]
    unfold stp cls
    cases hw : wi c 65 74
    · exact ⟨M, by simp [stI], fun d' z => by simp at z, fun _ _ => rfl⟩
    · obtain ⟨M', e1, e2, e3⟩ := ap 4 (c - 65)
      exact ⟨M', by simp [e1, stI]; rfl, fun _ _ => e2, e3⟩
