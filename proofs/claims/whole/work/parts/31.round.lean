/-! the round -/
def vN (b : Bt) (j : Nat) : Nat := (bM b (bS b j).toNatClampNeg).toNatClampNeg
theorem vN_eq {b : Bt} (ok : okB b) {j : Nat} (hj : j < 10) : bM b (bS b j).toNatClampNeg = nI (vN b j) ∧ vN b j < 10 := by
  have h1 := ib_lt (ok.1 j hj)
  obtain ⟨v, hv, e⟩ := ib_ex (ok.2.2.1 _ h1) (by decide)
  unfold vN
  rw [e, ix_nI (by omega)]
  exact ⟨rfl, hv⟩
def fnN (V : Nat → Nat) (s : Nat) : Nat → Nat
  | 0 => 0
  | b + 1 => if s.testBit b = true then fnN V s b + V b else fnN V s b
theorem foS_N (V : Nat → Nat) (s : Nat) : ∀ N, foS (· + ·) (fun j => nI (V j)) s N = nI (fnN V s N) := by
  intro N
  induction N with
  | zero => rfl
  | succ N ih =>
    show (if s.testBit N = true then _ else _) = nI (if s.testBit N = true then _ else _)
    split
    · show foS _ _ s N + nI (V N) = _
      rw [ih, nI_add]
    · exact ih
theorem fnN_le {V : Nat → Nat} (s : Nat) : ∀ N, (∀ j, j < N → V j < 10) → fnN V s N ≤ 9 * N := by
  intro N
  induction N with
  | zero => intro _; exact Nat.le_refl 0
  | succ N ih =>
    intro h
    have := ih (fun j hj => h j (by omega))
    have := h N (by omega)
    show (if s.testBit N = true then _ else _) ≤ _
    split <;> omega
def loF (m s : Nat) : Nat → Nat
  | 0 => m
  | b + 1 => if s.testBit b = true then min (loF m s b) b else loF m s b
def hiF (m s : Nat) : Nat → Nat
  | 0 => m
  | b + 1 => if s.testBit b = true then max (hiF m s b) b else hiF m s b
theorem loF_p (m s : Nat) : ∀ N, loF m s N ≤ m ∧ (∀ j, j < N → s.testBit j = true → loF m s N ≤ j) ∧ (loF m s N = m ∨ s.testBit (loF m s N) = true) := by
  intro N
  induction N with
  | zero => exact ⟨Nat.le_refl m, fun j hj => absurd hj (Nat.not_lt_zero j), Or.inl rfl⟩
  | succ N ih =>
    obtain ⟨i1, i2, i3⟩ := ih
    unfold loF
    by_cases c : s.testBit N = true
    · rw [if_pos c]
      refine ⟨by omega, fun j hj hs => ?_, ?_⟩
      · by_cases e : j = N
        · subst e; exact Nat.min_le_right _ _
        · have := i2 j (by omega) hs; omega
      · by_cases l : loF m s N ≤ N
        · rw [Nat.min_eq_left l]; exact i3
        · rw [Nat.min_eq_right (by omega)]; exact Or.inr c
    · rw [if_neg c]
      refine ⟨i1, fun j hj hs => ?_, i3⟩
      by_cases e : j = N
      · subst e; exact absurd hs c
      · exact i2 j (by omega) hs
theorem hiF_p (m s : Nat) : ∀ N, m ≤ hiF m s N ∧ (∀ j, j < N → s.testBit j = true → j ≤ hiF m s N) ∧ (hiF m s N = m ∨ s.testBit (hiF m s N) = true) ∧ (m < N → hiF m s N < N) ∧ (N ≤ m → hiF m s N = m) := by
  intro N
  induction N with
  | zero => exact ⟨Nat.le_refl m, fun j hj => absurd hj (Nat.not_lt_zero j), Or.inl rfl, fun h => absurd h (Nat.not_lt_zero m), fun _ => rfl⟩
  | succ N ih =>
    obtain ⟨i1, i2, i3, i4, i5⟩ := ih
    unfold hiF
    by_cases c : s.testBit N = true
    · rw [if_pos c]
      refine ⟨by omega, fun j hj hs => ?_, ?_, fun h => ?_, fun h => ?_⟩
      · by_cases e : j = N
        · subst e; exact Nat.le_max_right _ _
        · have := i2 j (by omega) hs; omega
      · by_cases l : N ≤ hiF m s N
        · rw [Nat.max_eq_left l]; exact i3
        · rw [Nat.max_eq_right (by omega)]; exact Or.inr c
      · by_cases q : m < N
        · have := i4 q; omega
        · have := i5 (by omega); omega
      · have := i5 (by omega); omega
    · rw [if_neg c]
      refine ⟨i1, fun j hj hs => ?_, i3, fun h => ?_, fun h => i5 (by omega)⟩
      · by_cases e : j = N
        · subst e; exact absurd hs c
        · exact i2 j (by omega) hs
      · by_cases q : m < N
        · have := i4 q; omega
        · have := i5 (by omega); omega
def wLo (c g s : Nat) : Nat := loF (min c g) s 10
def wHi (c g s : Nat) : Nat := hiF (max c g) s 10
def wlk (c g s : Nat) : Nat := (wHi c g s - wLo c g s) + min (c - wLo c g s + wHi c g s - g) (wHi c g s - c + g - wLo c g s)
theorem w_b {c g : Nat} (s : Nat) (hc : c < 10) (hg : g < 10) : wLo c g s ≤ c ∧ wLo c g s ≤ g ∧ c ≤ wHi c g s ∧ g ≤ wHi c g s ∧ wHi c g s < 10 := by
  have h1 := (loF_p (min c g) s 10).1
  have h2 := (hiF_p (max c g) s 10).1
  have h3 := (hiF_p (max c g) s 10).2.2.2.1 (by omega)
  unfold wLo wHi
  omega
def allW (c g s : Nat) : Nat := (s ||| 2 ^ c) ||| 2 ^ g
theorem allW_bit (c g s j : Nat) : (allW c g s).testBit j = (s.testBit j || decide (j = c) || decide (j = g)) := by
  unfold allW
  rw [fb_bit_set, fb_bit_set]
theorem allW_lt {c g s : Nat} (hc : c < 10) (hg : g < 10) (hs : s < 1024) : allW c g s < 1024 := by
  have e1 : 2 ^ c < 2 ^ 10 := Nat.pow_lt_pow_right (by decide) hc
  have e2 : 2 ^ g < 2 ^ 10 := Nat.pow_lt_pow_right (by decide) hg
  exact Nat.or_lt_two_pow (n := 10) (Nat.or_lt_two_pow (n := 10) hs e1) e2
theorem e_walk39 {c g s : Nat} (hc : c < 10) (hg : g < 10) (hs : s < 1024) (M : Mem) : ∀ r f, wHi c g s + r ≤ 9 → r < f → X1_walk_l39 f (nI c) (nI g) (nI (allW c g s)) (nI (wLo c g s)) (nI (wHi c g s + r)) M = some (nI (wlk c g s), M) := by
  obtain ⟨b1, b2, b3, b4, b5⟩ := w_b s hc hg
  have ha := allW_lt hc hg hs
  have hiP := hiF_p (max c g) s 10
  have fin : X1_walk_b59 (nI c) (nI g) (nI (wLo c g s)) (nI (wHi c g s)) M = some (nI (wlk c g s), M) := by
    unfold X1_walk_b59 wlk
    rw [pk_sub b1, nI_add, pk_sub (by omega), pk_sub b3, nI_add, pk_sub (by omega), e_minN (by omega) (by omega), bs, pk_sub (by omega), nI_add]
  intro r
  induction r with
  | zero =>
    intro f _ hf
    obtain ⟨f', rfl⟩ : ∃ f', f = f' + 1 := ⟨f - 1, by omega⟩
    show X1_walk_b39 _ _ _ _ _ (nI (wHi c g s)) M = _
    unfold X1_walk_b39
    have tb : (allW c g s).testBit (wHi c g s) = true := by
      rw [allW_bit]
      rcases hiP.2.2.1 with e | e
      · have e' : wHi c g s = max c g := e
        by_cases l : c ≤ g
        · rw [decide_eq_true (show wHi c g s = g by omega), Bool.or_true]
        · rw [decide_eq_true (show wHi c g s = c by omega), Bool.or_true, Bool.true_or]
      · have e' : s.testBit (wHi c g s) = true := e
        rw [e', Bool.true_or, Bool.true_or]
    rw [e_isIn, bs, bt_nI (by omega) (by omega), tb]
    simp only [bz_t, show ¬ (1 : Int32) = 0 by decide, if_false]
    rw [fin]
    split <;> rfl
  | succ r ih =>
    intro f hr hf
    obtain ⟨f', rfl⟩ : ∃ f', f = f' + 1 := ⟨f - 1, by omega⟩
    show X1_walk_b39 _ _ _ _ _ _ M = _
    unfold X1_walk_b39
    have tb : (allW c g s).testBit (wHi c g s + (r + 1)) = false := by
      rw [allW_bit, decide_eq_false (by omega), decide_eq_false (by omega), Bool.or_false, Bool.or_false]
      cases q : s.testBit (wHi c g s + (r + 1))
      · rfl
      · have : wHi c g s + (r + 1) ≤ wHi c g s := hiP.2.1 _ (by omega) q
        omega
    rw [if_neg (by rw [nI_le0 (by omega)]; omega), e_isIn, bs, bt_nI (by omega) (by omega), tb]
    simp only [bz_f, if_true]
    rw [← Nat.add_assoc, pk_m1]
    exact ih f' (by omega) (by omega)
theorem e_walk13 {c g s : Nat} (hc : c < 10) (hg : g < 10) (hs : s < 1024) (M : Mem) : ∀ r j f, j + r = wLo c g s → r < f → X1_walk_l13 f (nI c) (nI g) (nI (allW c g s)) (nI j) M = some (nI (wlk c g s), M) := by
  obtain ⟨b1, b2, b3, b4, b5⟩ := w_b s hc hg
  have ha := allW_lt hc hg hs
  have loP := loF_p (min c g) s 10
  intro r
  induction r with
  | zero =>
    intro j f hj hf
    obtain ⟨f', rfl⟩ : ∃ f', f = f' + 1 := ⟨f - 1, by omega⟩
    have ej : j = wLo c g s := by omega
    subst ej
    show X1_walk_b13 _ _ _ _ _ M = _
    unfold X1_walk_b13 X1_walk_b35
    have tb : (allW c g s).testBit (wLo c g s) = true := by
      rw [allW_bit]
      rcases loP.2.2 with e | e
      · have e' : wLo c g s = min c g := e
        by_cases l : c ≤ g
        · rw [decide_eq_true (show wLo c g s = c by omega), Bool.or_true, Bool.true_or]
        · rw [decide_eq_true (show wLo c g s = g by omega), Bool.or_true]
      · have e' : s.testBit (wLo c g s) = true := e
        rw [e', Bool.true_or, Bool.true_or]
    rw [if_neg (by rw [L10, le_lit (by decide) (by omega)]; omega), e_isIn, bs, bt_nI (by omega) (by omega), tb]
    simp only [bz_t, show ¬ (1 : Int32) = 0 by decide, if_false]
    have := e_walk39 hc hg hs M (9 - wHi c g s) FU (by omega) (by show 9 - wHi c g s < 2000; omega)
    rw [show wHi c g s + (9 - wHi c g s) = 9 by omega] at this
    exact this
  | succ r ih =>
    intro j f hj hf
    obtain ⟨f', rfl⟩ : ∃ f', f = f' + 1 := ⟨f - 1, by omega⟩
    show X1_walk_b13 _ _ _ _ _ M = _
    unfold X1_walk_b13
    have tb : (allW c g s).testBit j = false := by
      rw [allW_bit, decide_eq_false (by omega), decide_eq_false (by omega), Bool.or_false, Bool.or_false]
      cases q : s.testBit j
      · rfl
      · have : wLo c g s ≤ j := loP.2.1 j (by omega) q
        omega
    rw [if_neg (by rw [L10, le_lit (by decide) (by omega)]; omega), e_isIn, bs, bt_nI (by omega) (by omega), tb]
    simp only [bz_f, if_true]
    rw [L1]
    exact ih (j + 1) f' (by omega) (by omega)
theorem e_walk {c g s : Nat} (hc : c < 10) (hg : g < 10) (hs : s < 1024) (M : Mem) : X1_walk (nI s) (nI c) (nI g) M = some (nI (wlk c g s), M) := by
  obtain ⟨b1, -⟩ := w_b s hc hg
  unfold X1_walk
  rw [shl_nI (by omega), shl_nI (by omega), fa_or, fa_or]
  exact e_walk13 hc hg hs M (wLo c g s) 0 FU (by omega) (by show wLo c g s < 2000; omega)
/-- the class's sums -/
theorem e_sum35 {b : Bt} {c : Nat} (hc : c < 10) (k9 : Int32 → Mem → Option (Unit × Mem)) : ∀ r k f (M : Mem), k + r = 2 ^ c → r < f → AtB M 1 b → TbI (· + ·) (fun j => nI (vN b j)) (2 ^ c + k) M → ∃ M', X1_sumMinutes_l35 31 1 k9 f (nI c) (nI (2 ^ c)) (nI (vN b c)) (nI k) M = k9 (nI (c + 1)) M' ∧ AtB M' 1 b ∧ TbI (· + ·) (fun j => nI (vN b j)) (2 ^ (c + 1)) M' := by
  have p2 := p2_le hc
  intro r
  induction r with
  | zero =>
    intro k f M hk hf hB h
    obtain ⟨f', rfl⟩ : ∃ f', f = f' + 1 := ⟨f - 1, by omega⟩
    refine ⟨M, ?_, hB, ?_⟩
    · show X1_sumMinutes_b35 31 1 k9 _ _ _ _ _ M = _
      unfold X1_sumMinutes_b35
      rw [if_pos (by rw [le_lit (by omega) (by omega)]; omega), L1]
    · rw [show 2 ^ (c + 1) = 2 ^ c + k by rw [Nat.pow_succ]; omega]; exact h
  | succ r ih =>
    intro k f M hk hf hB h
    obtain ⟨f', rfl⟩ : ∃ f', f = f' + 1 := ⟨f - 1, by omega⟩
    have e1 : nI (2 ^ c) ||| nI k = nI (2 ^ c + k) := by
      have := fa_or_sum (a := k) (k := c) 1 (by omega)
      rw [Nat.mul_one] at this; exact this
    obtain ⟨M2, e2, g2⟩ := ih (k + 1) f' (mI M 32 (2 ^ c + k) (M.1 32 k + nI (vN b c))) (by omega) (by omega) (hB.row (by decide) (by decide) (by decide) (by decide)) (h.step hc (by omega))
    refine ⟨M2, ?_, g2⟩
    show X1_sumMinutes_b35 31 1 k9 _ _ _ _ _ M = _
    unfold X1_sumMinutes_b35
    rw [if_neg (by rw [le_lit (by omega) (by omega)]; omega), e1, ib_nI (by omega) (by decide), ib_nI (by omega) (by decide), gt, gt, rf_31_0, ix_nI (by omega), ix_nI (by omega), L1]
    exact e2
theorem e_sum9 {b : Bt} (ok : okB b) : ∀ r c f (M : Mem), c + r = 10 → r < f → AtB M 1 b → TbI (· + ·) (fun j => nI (vN b j)) (2 ^ c) M → ∃ M', X1_sumMinutes_l9 31 1 f (nI c) M = some ((), M') ∧ AtB M' 1 b ∧ TbI (· + ·) (fun j => nI (vN b j)) 1024 M' := by
  intro r
  induction r with
  | zero =>
    intro c f M hc hf hB h
    obtain ⟨f', rfl⟩ : ∃ f', f = f' + 1 := ⟨f - 1, by omega⟩
    have : c = 10 := by omega
    subst this
    exact ⟨M, rfl, hB, h⟩
  | succ r ih =>
    intro c f M hc hf hB h
    obtain ⟨f', rfl⟩ : ∃ f', f = f' + 1 := ⟨f - 1, by omega⟩
    have p2 := p2_le (b := c) (by omega)
    obtain ⟨M1, e1, g1, g2⟩ := e_sum35 (c := c) (by omega) (X1_sumMinutes_l9 31 1 f') (2 ^ c) 0 FU M (by omega) (by show 2 ^ c < 2000; omega) hB h
    obtain ⟨M2, e2, g3⟩ := ih (c + 1) f' M1 (by omega) (by omega) g1 g2
    refine ⟨M2, ?_, g3⟩
    show X1_sumMinutes_b9 31 1 _ _ M = _
    unfold X1_sumMinutes_b9
    have h10 := ib_lt (ok.1 c (by omega))
    rw [if_neg (by rw [L10, le_lit (by decide) (by omega)]; omega), shl_nI (by omega), ib_nI (by omega) (by decide), gt, ix_nI (by omega), hB.1 c (by omega), ok.1 c (by omega), gt, hB.2.2.1 _ h10, (vN_eq ok (by omega)).1]
    simp only [iw]
    exact e1.trans e2
theorem e_sum {b : Bt} (ok : okB b) {M : Mem} (hB : AtB M 1 b) : ∃ M', X1_sumMinutes 31 1 M = some ((), M') ∧ AtB M' 1 b ∧ TbI (· + ·) (fun j => nI (vN b j)) 1024 M' := by
  unfold X1_sumMinutes
  rw [show ib (0 : Int32) 1024 = true by decide, gt, rf_31_0, show (0 : Int32).toNatClampNeg = 0 by decide]
  refine e_sum9 ok 10 0 FU _ (by omega) (by decide) (hB.row (by decide) (by decide) (by decide) (by decide)) (fun s hs => ?_)
  have : s = 0 := by have : s < 1 := hs; omega
  subst this
  rw [mI1, if_pos rfl]
  have z : ∀ N, foS (· + ·) (fun j => nI (vN b j)) 0 N = 0 := by
    intro N
    induction N with
    | zero => rfl
    | succ N ih =>
      show (if (0 : Nat).testBit N = true then _ else _) = _
      rw [Nat.zero_testBit]; exact ih
  exact (z 10).symm
def rdT (b : Bt) (c g s : Nat) : Nat := fnN (vN b) s 10 + wlk c g s
def rdP (b : Bt) (N B c g : Nat) (s : Nat) : Bool := decide (N + rdT b c g s ≤ B)
theorem rdT_le {b : Bt} (ok : okB b) {c g : Nat} (hc : c < 10) (hg : g < 10) (s : Nat) : rdT b c g s ≤ 200 := by
  obtain ⟨b1, b2, b3, b4, b5⟩ := w_b s hc hg
  have := fnN_le (V := vN b) s 10 (fun j hj => (vN_eq ok hj).2)
  unfold rdT wlk
  omega
theorem e_plan_l {b : Bt} (ok : okB b) {N B c g : Nat} (hN : N < 100) (hB : B < 100) (hc : c < 10) (hg : g < 10) : ∀ r k f (M : Mem), k + r = 1024 → r < f → TbI (· + ·) (fun j => nI (vN b j)) 1024 M → M.1 1 3 = nI c → M.1 31 1 = szI (bsS more_b (rdP b N B c g) k) → M.1 31 2 = mbI (bsS more_b (rdP b N B c g) k) → ∃ M', X1_planRound_l30 31 1 f (nI g) (nI B - nI N) (nI k) M = some ((), M') ∧ M'.1 31 1 = szI (bsS more_b (rdP b N B c g) 1024) ∧ M'.1 31 2 = mbI (bsS more_b (rdP b N B c g) 1024) := by
  intro r
  induction r with
  | zero =>
    intro k f M hk hf h h3 h1 h2
    obtain ⟨f', rfl⟩ : ∃ f', f = f' + 1 := ⟨f - 1, by omega⟩
    have : k = 1024 := by omega
    subst this
    exact ⟨M, rfl, h1, h2⟩
  | succ r ih =>
    intro k f M hk hf h h3 h1 h2
    obtain ⟨f', rfl⟩ : ∃ f', f = f' + 1 := ⟨f - 1, by omega⟩
    have en : bsS more_b (rdP b N B c g) (k + 1) = if (rdP b N B c g k && (!(bsS more_b (rdP b N B c g) k).1 || more_b k (bsS more_b (rdP b N B c g) k).2)) = true then (true, k) else bsS more_b (rdP b N B c g) k := rfl
    have hlt := bsS_lt (bet := more_b) (P := rdP b N B c g) k
    have pk := pop_le k
    have ps := pop_le (bsS more_b (rdP b N B c g) k).2
    have ht := rdT_le ok hc hg k
    have eT : nI (fnN (vN b) k 10) + nI (wlk c g k) = nI (rdT b c g k) := by rw [nI_add]; rfl
    have eC : (nI B - nI N < nI (rdT b c g k)) = ¬ (N + rdT b c g k ≤ B) := by
      apply propext
      rw [fa_lt, pk_sub_toInt (by omega) (by omega), nI_toInt (by omega)]
      omega
    show ∃ M', X1_planRound_b30 31 1 _ _ _ _ M = _ ∧ _
    unfold X1_planRound_b30 X1_planRound_b88
    rw [if_neg (by rw [show (1024 : Int32) = nI 1024 from rfl, le_lit (by decide) (by omega)]; omega), e_bitCount (by omega), bs]
    simp only [mw]
    rw [ib_nI (by omega) (by decide), gt, h3, e_walk hc hg (by omega), bs, rf_31_0, ix_nI (by omega), h k (by omega), foS_N, h1, L1]
    simp only []
    rw [eT]
    have body : ∃ M', (if nI B - nI N < nI (rdT b c g k) then X1_planRound_l30 31 1 f' (nI g) (nI B - nI N) (nI (k + 1)) M else X1_planRound_l30 31 1 f' (nI g) (nI B - nI N) (nI (k + 1)) (mI (mI M 31 1 (nI (pop k))) 31 2 (nI k))) = X1_planRound_l30 31 1 f' (nI g) (nI B - nI N) (nI (k + 1)) M' ∧ TbI (· + ·) (fun j => nI (vN b j)) 1024 M' ∧ M'.1 1 3 = nI c ∧ M'.1 31 1 = szI (if rdP b N B c g k = true then (true, k) else bsS more_b (rdP b N B c g) k) ∧ M'.1 31 2 = mbI (if rdP b N B c g k = true then (true, k) else bsS more_b (rdP b N B c g) k) := by
      by_cases cP : N + rdT b c g k ≤ B
      · refine ⟨mI (mI M 31 1 (nI (pop k))) 31 2 (nI k), by rw [if_neg (by rw [eC]; exact fun z => z cP)], fun s hs => by rw [mI1_ne (by decide), mI1_ne (by decide)]; exact h s hs, by rw [mI1_ne (by decide), mI1_ne (by decide)]; exact h3, ?_, ?_⟩
        · rw [if_pos (show rdP b N B c g k = true from decide_eq_true cP), mI1, if_neg (by decide), mI1, if_pos rfl]; rfl
        · rw [if_pos (show rdP b N B c g k = true from decide_eq_true cP), mI1, if_pos rfl]; rfl
      · have hP : ¬ rdP b N B c g k = true := by unfold rdP; rw [decide_eq_false cP]; decide
        exact ⟨M, by rw [if_pos (by rw [eC]; exact cP)], h, h3, by rw [if_neg hP]; exact h1, by rw [if_neg hP]; exact h2⟩
    cases cf : (bsS more_b (rdP b N B c g) k).1
    · rw [if_neg (by unfold szI; rw [if_neg (by rw [cf]; decide), fa_le, nI_toInt (by omega)]; show ¬ (_ : Int) ≤ -6; omega)]
      rw [cf] at en
      have en' : bsS more_b (rdP b N B c g) (k + 1) = if rdP b N B c g k = true then (true, k) else bsS more_b (rdP b N B c g) k := by
        rw [en]; cases rdP b N B c g k <;> rfl
      rw [← en'] at body
      obtain ⟨M1, e1, q1, q2, q3, q4⟩ := body
      rw [e1]
      exact ih (k + 1) f' M1 (by omega) (by omega) q1 q2 q3 q4
    · have es : szI (bsS more_b (rdP b N B c g) k) = nI (pop (bsS more_b (rdP b N B c g) k).2) := by unfold szI; rw [if_pos cf]
      rw [cf] at en
      have eb : (!true || more_b k (bsS more_b (rdP b N B c g) k).2) = decide (pop (bsS more_b (rdP b N B c g) k).2 < pop k) := rfl
      rw [eb] at en
      rw [es]
      by_cases cb : pop (bsS more_b (rdP b N B c g) k).2 < pop k
      · rw [if_neg (by rw [le_lit (by omega) (by omega)]; omega)]
        have en' : bsS more_b (rdP b N B c g) (k + 1) = if rdP b N B c g k = true then (true, k) else bsS more_b (rdP b N B c g) k := by
          rw [en, decide_eq_true cb, Bool.and_true]
        rw [← en'] at body
        obtain ⟨M1, e1, q1, q2, q3, q4⟩ := body
        rw [e1]
        exact ih (k + 1) f' M1 (by omega) (by omega) q1 q2 q3 q4
      · rw [if_pos (by rw [le_lit (by omega) (by omega)]; omega)]
        rw [decide_eq_false cb, Bool.and_false, if_neg (by decide)] at en
        exact ih (k + 1) f' M (by omega) (by omega) h h3 (by rw [en]; exact h1) (by rw [en]; exact h2)
/-- the model's minutes -/
theorem m_min_l {M : Mem} {b : Bt} (h : AtB M 45 b) (ok : okB b) {c g s : Nat} (hc : c < 10) (hg : g < 10) (hs : s < 1024) (h3 : bC b = nI c) : ∀ r k f, k + r = 10 → r < f → X12_minutesBy_l25 45 f (nI s) (nI g) (nI (loF (min c g) s k)) (nI (hiF (max c g) s k)) (nI (fnN (vN b) s k)) (nI k) M = some (nI (rdT b c g s), M) := by
  obtain ⟨b1, b2, b3, b4, b5⟩ := w_b s hc hg
  intro r
  induction r with
  | zero =>
    intro k f hk hf
    obtain ⟨f', rfl⟩ : ∃ f', f = f' + 1 := ⟨f - 1, by omega⟩
    have : k = 10 := by omega
    subst this
    have fl := fnN_le (V := vN b) s 10 (fun j hj => (vN_eq ok hj).2)
    show X12_minutesBy_b25 45 _ _ _ (nI (wLo c g s)) (nI (wHi c g s)) _ _ M = _
    unfold X12_minutesBy_b25
    simp only [iw]
    rw [if_pos (by decide), h.2.2.2.1, h3, pk_sub b1, nI_add, pk_sub (by omega), nI_add, pk_sub (by omega), pk_sub b3, nI_add, pk_sub (by omega), nI_add, pk_sub (by omega), m_less (by omega) (by omega), bs, nI_add]
    have e : fnN (vN b) s 10 + min (c - wLo c g s + wHi c g s - wLo c g s + wHi c g s - g) (wHi c g s - c + wHi c g s - wLo c g s + g - wLo c g s) = rdT b c g s := by
      unfold rdT wlk
      omega
    rw [e]
  | succ r ih =>
    intro k f hk hf
    obtain ⟨f', rfl⟩ : ∃ f', f = f' + 1 := ⟨f - 1, by omega⟩
    have next := ih (k + 1) f' (by omega) (by omega)
    have l1 := (loF_p (min c g) s k).1
    have l2 := hiF_p (max c g) s k
    have hl2 : hiF (max c g) s k < 20 := by
      by_cases q : max c g < k
      · have := l2.2.2.2.1 q; omega
      · have := l2.2.2.2.2 (by omega); omega
    have e1 : loF (min c g) s (k + 1) = if s.testBit k = true then min (loF (min c g) s k) k else loF (min c g) s k := rfl
    have e2 : hiF (max c g) s (k + 1) = if s.testBit k = true then max (hiF (max c g) s k) k else hiF (max c g) s k := rfl
    have e3 : fnN (vN b) s (k + 1) = if s.testBit k = true then fnN (vN b) s k + vN b k else fnN (vN b) s k := rfl
    have h10 := ib_lt (ok.1 k (by omega))
    show X12_minutesBy_b25 45 _ _ _ _ _ _ _ M = _
    unfold X12_minutesBy_b25 X12_minutesBy_b74
    rw [if_neg (by rw [L10, le_lit (by decide) (by omega)]; omega), m_isIn, bs, bt_nI (by omega) (by omega)]
    simp only [bz_eq0]
    cases q : s.testBit k
    · rw [q, if_neg (by decide)] at e1 e2 e3
      rw [if_pos rfl, L1, ← e1, ← e2, ← e3]
      exact next
    · rw [q, if_pos rfl] at e1 e2 e3
      rw [if_neg (by decide), m_less (by omega) (by omega), bs]
      simp only []
      rw [m_more (by omega) (by omega), bs, ib_nI (by omega) (by decide), gt, ix_nI (by omega), h.1 k (by omega), ok.1 k (by omega), gt, h.2.2.1 _ h10, (vN_eq ok (by omega)).1]
      simp only [iw]
      rw [nI_add, L1, ← e1, ← e2, ← e3]
      exact next
theorem m_minutesBy {M : Mem} {b : Bt} (h : AtB M 45 b) (ok : okB b) {c g s : Nat} (hc : c < 10) (hg : g < 10) (hs : s < 1024) (h3 : bC b = nI c) : X12_minutesBy 45 (nI s) (nI g) M = some (nI (rdT b c g s), M) := by
  unfold X12_minutesBy
  rw [h.2.2.2.1, h3, m_less (by omega) (by omega), bs]
  simp only []
  rw [h.2.2.2.1, h3, m_more (by omega) (by omega), bs]
  exact m_min_l h ok hc hg hs h3 10 0 FU (by omega) (by decide)
theorem m_round_l {M : Mem} {b : Bt} (h : AtB M 45 b) (ok : okB b) {N B c g : Nat} (hN : N < 100) (hB : B < 100) (hc : c < 10) (hg : g < 10) (h3 : bC b = nI c) (h6 : bN b = nI N) (h7 : bL b = nI B) {w : Int32} (hw : w = 0 ∨ w = 1) : ∀ r k f, k + r = 1024 → r < f → X12_round_l28 45 f (nI g) w (mbI (bsS more_b (rdP b N B c g) k)) (nI k) M = some (ansB w (bsS more_b (rdP b N B c g) 1024), M) := by
  intro r
  induction r with
  | zero =>
    intro k f hk hf
    obtain ⟨f', rfl⟩ : ∃ f', f = f' + 1 := ⟨f - 1, by omega⟩
    have : k = 1024 := by omega
    subst this
    have hlt := bsS_lt (bet := more_b) (P := rdP b N B c g) 1024
    show X12_round_b28 45 _ _ _ _ _ M = _
    unfold X12_round_b28 X12_round_b105 X12_round_b113 ansB
    rw [if_pos (by decide)]
    cases cf : (bsS more_b (rdP b N B c g) 1024).1
    · rw [if_pos (mbI_neg cf)]
      unfold szI mbI
      simp only [cf, Bool.false_eq_true, if_false, ite_self]
    · rw [mbI_pos cf, if_neg (by rw [nI_lt0 (by have := hlt cf; omega)]; exact id), m_ones (hlt cf), bs]
      unfold szI
      rw [cf]
      rcases hw with rfl | rfl <;> rfl
  | succ r ih =>
    intro k f hk hf
    obtain ⟨f', rfl⟩ : ∃ f', f = f' + 1 := ⟨f - 1, by omega⟩
    have next := ih (k + 1) f' (by omega) (by omega)
    have en : bsS more_b (rdP b N B c g) (k + 1) = if (rdP b N B c g k && (!(bsS more_b (rdP b N B c g) k).1 || more_b k (bsS more_b (rdP b N B c g) k).2)) = true then (true, k) else bsS more_b (rdP b N B c g) k := rfl
    have hlt := bsS_lt (bet := more_b) (P := rdP b N B c g) k
    have pk := pop_le k
    have ps := pop_le (bsS more_b (rdP b N B c g) k).2
    have ht := rdT_le ok hc hg k
    have fin : (if nI B < nI (N + rdT b c g k) then X12_round_l28 45 f' (nI g) w (mbI (bsS more_b (rdP b N B c g) k)) (nI (k + 1)) M else X12_round_l28 45 f' (nI g) w (nI k) (nI (k + 1)) M) = X12_round_l28 45 f' (nI g) w (if rdP b N B c g k = true then nI k else mbI (bsS more_b (rdP b N B c g) k)) (nI (k + 1)) M := by
      unfold rdP
      by_cases c' : N + rdT b c g k ≤ B
      · rw [if_neg (by rw [lt_lit (by omega) (by omega)]; omega), if_pos (decide_eq_true c')]
      · rw [if_pos (by rw [lt_lit (by omega) (by omega)]; omega), if_neg (by rw [decide_eq_false c']; decide)]
    show X12_round_b28 45 _ _ _ _ _ M = _
    unfold X12_round_b28 X12_round_b52 X12_round_b57 X12_round_b88 X12_round_b89
    rw [if_neg (by rw [show (1024 : Int32) = nI 1024 from rfl, le_lit (by decide) (by omega)]; omega), L1]
    simp only [show ¬ (1 : Int32) = 0 by decide, if_true, if_false]
    rw [← next, en]
    have hmb : (X12_minutesBy 45 (nI k) (nI g) M).bind (fun p1 => if p1.2.1 45 7 < M.1 45 6 + p1.1 then X12_round_l28 45 f' (nI g) w (mbI (bsS more_b (rdP b N B c g) k)) (nI (k + 1)) p1.2 else X12_round_l28 45 f' (nI g) w (nI k) (nI (k + 1)) p1.2) = X12_round_l28 45 f' (nI g) w (if rdP b N B c g k = true then nI k else mbI (bsS more_b (rdP b N B c g) k)) (nI (k + 1)) M := by
      rw [m_minutesBy h ok hc hg (by omega) h3, bs]
      simp only []
      rw [h.2.2.2.2.2.2.2, h.2.2.2.2.2.2.1, h6, h7, nI_add, fin]
    cases cf : (bsS more_b (rdP b N B c g) k).1
    · rw [if_pos (mbI_neg cf), hmb]
      cases cP : rdP b N B c g k
      · rfl
      · rfl
    · have hm := mbI_pos cf
      have hn : ¬ mbI (bsS more_b (rdP b N B c g) k) < 0 := by rw [hm, nI_lt0 (by have := hlt cf; omega)]; exact id
      have ho : ∀ M, X12_ones (mbI (bsS more_b (rdP b N B c g) k)) M = some (nI (pop (bsS more_b (rdP b N B c g) k).2), M) := fun M => by rw [hm]; exact m_ones (by have := hlt cf; omega) M
      rw [if_neg hn, m_ones (by omega), bs]
      simp only []
      rw [ho, bs]
      simp only []
      rw [hmb]
      have eb : (!true || more_b k (bsS more_b (rdP b N B c g) k).2) = decide (pop (bsS more_b (rdP b N B c g) k).2 < pop k) := rfl
      rw [eb]
      by_cases cb : pop (bsS more_b (rdP b N B c g) k).2 < pop k
      · rw [if_neg (by rw [le_lit (by omega) (by omega)]; omega), decide_eq_true cb, Bool.and_true]
        cases cP : rdP b N B c g k
        · rfl
        · rfl
      · rw [if_pos (by rw [le_lit (by omega) (by omega)]; omega), decide_eq_false cb, Bool.and_false]
        rfl
def q_round (x w : Int32) (σ : Sg) : Int32 := if ib x 10 = true then (if wi w 0 1 = true then ansB w (bsS more_b (rdP σ.1 (bN σ.1).toNatClampNeg (bL σ.1).toNatClampNeg (bC σ.1).toNatClampNeg x.toNatClampNeg) 1024) else -2) else -1
theorem sim_round (x w : Int32) : Sim (X11_round 0 x w) (X12_round 45 x w) := by
  refine Sim_ask (q_round x w) ?_ ?_ (fun M => fr_X11_round _ _ M Sm_refl) (by decide) (fun M => fr_X12_round _ _ M Sm_refl) (by decide)
  · intro M σ ok rc
    unfold X11_round X11_round_b54 q_round X1_planRound
    simp only [e_isWithin, e_isCabin, bs, bz_eq0]
    cases c1 : ib x 10
    · exact ⟨M, rfl⟩
    cases c2 : wi w 0 1
    · exact ⟨M, rfl⟩
    simp only [Bool.true_eq_false, if_false, if_true, rf_0_6, rf_0_0]
    obtain ⟨g, hg, rfl⟩ := ib_ex c1 (by decide)
    obtain ⟨c, hc, ec⟩ := ib_ex ok.1.2.2.2.1 (by decide)
    obtain ⟨N, hN, eN⟩ := ib_ex ok.1.2.2.2.2.2.2.1 (by decide)
    obtain ⟨B, hB, eB⟩ := ib_ex ok.1.2.2.2.2.2.2.2 (by decide)
    obtain ⟨M1, e1, g1, g2⟩ := e_sum ok.1 rc.1
    rw [e1, bs]
    simp only [mw]
    rw [show (mI (mI M1 31 1 (-6)) 31 2 (-6)).1 1 7 = nI B by rw [mI1_ne (by decide), mI1_ne (by decide), ← eB]; exact g1.2.2.2.2.2.2.2, show (mI (mI M1 31 1 (-6)) 31 2 (-6)).1 1 6 = nI N by rw [mI1_ne (by decide), mI1_ne (by decide), ← eN]; exact g1.2.2.2.2.2.2.1, ec, eN, eB, ix_nI (by omega), ix_nI (by omega), ix_nI (by omega), ix_nI (by omega)]
    obtain ⟨M2, e2, g3, g4⟩ := e_plan_l (b := σ.1) ok.1 hN hB hc hg 1024 0 FU (mI (mI M1 31 1 (-6)) 31 2 (-6)) (by omega) (by decide) (fun s hs => by rw [mI1_ne (by decide), mI1_ne (by decide)]; exact g2 s hs) (by rw [mI1_ne (by decide), mI1_ne (by decide), ← ec]; exact g1.2.2.2.1) (by rw [mI1, if_neg (by decide), mI1, if_pos rfl]; rfl) (by rw [mI1, if_pos rfl]; rfl)
    have e2' : X1_planRound_l30 31 1 FU (nI g) (nI B - nI N) 0 (mI (mI M1 31 1 (-6)) 31 2 (-6)) = some ((), M2) := e2
    rw [e2', bs]
    simp only []
    rw [g3, g4]
    unfold ansB
    refine ⟨M2, ?_⟩
    split <;> rfl
  · intro M σ ok rm
    unfold X12_round q_round
    simp only [m_isCabin, e_in_0_1, bs, bz_eq0]
    cases c1 : ib x 10
    · exact ⟨M, rfl⟩
    cases c2 : wi w 0 1
    · exact ⟨M, rfl⟩
    simp only [Bool.true_eq_false, if_false, if_true]
    obtain ⟨g, hg, rfl⟩ := ib_ex c1 (by decide)
    obtain ⟨c, hc, ec⟩ := ib_ex ok.1.2.2.2.1 (by decide)
    obtain ⟨N, hN, eN⟩ := ib_ex ok.1.2.2.2.2.2.2.1 (by decide)
    obtain ⟨B, hB, eB⟩ := ib_ex ok.1.2.2.2.2.2.2.2 (by decide)
    rw [ec, eN, eB, ix_nI (by omega), ix_nI (by omega), ix_nI (by omega), ix_nI (by omega)]
    exact ⟨M, m_round_l rm.1 ok.1 hN hB hc hg ec eN eB (wi_01 c2) 1024 0 FU (by omega) (by decide)⟩
