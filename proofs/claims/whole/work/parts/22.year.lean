/-! year: acts by draws -/
def nxD (x : Nat) : Nat := (75 * x + 74) % 65537
def kdD (x : Nat) : Int32 := if x % 8 < 2 then 0 else if x % 8 < 4 then 1 else if x % 8 = 4 then 2 else if x % 8 = 5 then 3 else if x % 8 = 6 then 4 else 5
def opD (x : Nat) : Nat := if x % 8 = 4 ∨ x % 8 = 5 then x / 8 % 8 else x / 8 % 10
def yrS (b : Bt) (x : Nat) : Bt := if whyB b (kdD x) (nI (opD x)) = 0 then perfB b (kdD x) (nI (opD x)) else b
def yrR : Nat → Nat → Bt → Bt
  | 0, _, b => b
  | m + 1, x, b => yrR m (nxD x) (yrS b (nxD x))
theorem okA_D (x : Nat) : okA (kdD x, nI (opD x)) := by
  unfold kdD opD
  by_cases h4 : x % 8 = 4
  · simp only [h4, show ¬ (4 : Nat) < 2 by decide, show ¬ (4 : Nat) < 4 by decide, if_false, if_true, true_or]
    exact okA_2 (ib_nI (Nat.mod_lt _ (by decide)) (by decide))
  by_cases h5 : x % 8 = 5
  · simp only [h5, show ¬ (5 : Nat) < 2 by decide, show ¬ (5 : Nat) < 4 by decide, show ¬ (5 : Nat) = 4 by decide, if_false, if_true, or_true]
    exact okA_3 (ib_nI (Nat.mod_lt _ (by decide)) (by decide))
  have hn : ¬ (x % 8 = 4 ∨ x % 8 = 5) := by omega
  rw [if_neg hn]
  have hb : ib (nI (x / 8 % 10)) 10 = true := ib_nI (Nat.mod_lt _ (by decide)) (by decide)
  by_cases h2 : x % 8 < 2
  · rw [if_pos h2]; exact okA_0 hb
  rw [if_neg h2]
  by_cases h3 : x % 8 < 4
  · rw [if_pos h3]; exact okA_1 _
  rw [if_neg h3, if_neg h4, if_neg h5]
  by_cases h6 : x % 8 = 6
  · rw [if_pos h6]; exact okA_4 hb
  · rw [if_neg h6]; exact okA_5 _
theorem okB_yrS {b : Bt} (ok : okB b) (x : Nat) : okB (yrS b x) := by
  unfold yrS
  split
  · exact okB_perf ok _ _ (by assumption) (okA_D x).1 (okA_D x).2
  · exact ok
theorem draw_num {x : Nat} (hx : x < 65537) : (75 : Int32) * nI x + 74 - ((75 : Int32) * nI x + 74) / 65537 * 65537 = nI (nxD x) := by
  have e : (75 : Int32) * nI x + 74 = nI (75 * x + 74) := by
    show nI 75 * nI x + nI 74 = _
    rw [pk_mul, nI_add]
  rw [e]
  exact pk_rem (d := 65537) (by omega) (by decide) (by decide)
theorem nxD_lt (x : Nat) : nxD x < 65537 := Nat.mod_lt _ (by decide)
/-- the class's kind for a draw -/
def kcD (x : Nat) : Int32 := dk (x % 8)
theorem kc_kd (x : Nat) : kq (kcD x) = kdD x := by
  unfold kcD kdD
  have h : x % 8 < 8 := Nat.mod_lt _ (by decide)
  generalize x % 8 = q at h ⊢
  exact (by decide +kernel : ∀ q, q < 8 → kq (dk q) = (if q < 2 then 0 else if q < 4 then 1 else if q = 4 then 2 else if q = 5 then 3 else if q = 6 then 4 else 5)) q h
theorem kc_43 (x : Nat) : (kcD x = 43) = (x % 8 = 4) := by
  unfold kcD
  have h : x % 8 < 8 := Nat.mod_lt _ (by decide)
  generalize x % 8 = q at h ⊢
  exact propext ((by decide +kernel : ∀ q, q < 8 → (dk q = 43 ↔ q = 4)) q h)
theorem kc_45 (x : Nat) : (kcD x = 45) = (x % 8 = 5) := by
  unfold kcD
  have h : x % 8 < 8 := Nat.mod_lt _ (by decide)
  generalize x % 8 = q at h ⊢
  exact propext ((by decide +kernel : ∀ q, q < 8 → (dk q = 45 ↔ q = 5)) q h)
theorem e_draw78 {M : Mem} {b : Bt} (h : AtB M 27 b) (ok : okB b) (k14 : Int32 → Int32 → Int32 → Mem → Option (Unit × Mem)) (x3 x4 x5 : Int32) (x : Nat) : ∃ M', X2_draw_b78 26 1 k14 x3 x4 x5 (kcD x) (nI (opD x)) M = k14 x3 x4 (x5 + 1) M' ∧ AtB M' 27 (yrS b x) := by
  have hA := okA_D x
  rw [← kc_kd] at hA
  unfold X2_draw_b78 X2_draw_b105
  rw [rf_26_0, e_whyNot h ok (kcD x) (nI (opD x)) (fun z => hA.1 (Or.inl (kq0 z))), bs]
  unfold yrS
  rw [kc_kd]
  by_cases w0 : whyB b (kdD x) (nI (opD x)) = 0
  · obtain ⟨M1, e1, e2⟩ := e_perform BI_27 h ok (kcD x) (nI (opD x)) (fun z => hA.1 (by rcases z with z | z; exact Or.inl (kq0 z); exact Or.inr (kq4.mpr z)))
    simp only [w0, if_true, e1, bs]
    rw [kc_kd] at e2
    exact ⟨M1, rfl, e2⟩
  · simp only [w0, if_false]
    exact ⟨M, rfl, h⟩
theorem e_draw_l : ∀ r j n x b (M : Mem) (m : Nat), j + r = m → m < 100 → r < n → x < 65537 → AtB M 27 b → okB b → ∃ M', X2_draw_l14 26 1 n (nI m) (nI x) (nI j) M = some ((), M') ∧ AtB M' 27 (yrR r x b) := by
  intro r
  induction r with
  | zero =>
    intro j n x b M m hj hm hn hx hb ok
    obtain ⟨n', rfl⟩ : ∃ n', n = n' + 1 := ⟨n - 1, by omega⟩
    refine ⟨M, ?_, hb⟩
    show X2_draw_b14 26 1 _ _ _ _ M = _
    unfold X2_draw_b14
    rw [if_pos (by rw [le_lit (by omega) (by omega)]; omega)]
  | succ r ih =>
    intro j n x b M m hj hm hn hx hb ok
    obtain ⟨n', rfl⟩ : ∃ n', n = n' + 1 := ⟨n - 1, by omega⟩
    have hlt := nxD_lt x
    have m8 : nI (nxD x) - nI (nxD x) / 8 * 8 = nI (nxD x % 8) := pk_rem (d := 8) (by omega) (by decide) (by decide)
    have d8 : nI (nxD x) / 8 = nI (nxD x / 8) := pk_div (d := 8) (by omega) (by decide) (by decide)
    have m88 : nI (nxD x / 8) - nI (nxD x / 8) / 8 * 8 = nI (nxD x / 8 % 8) := pk_rem (d := 8) (by omega) (by decide) (by decide)
    have m10 : nI (nxD x / 8) - nI (nxD x / 8) / 10 * 10 = nI (nxD x / 8 % 10) := pk_rem (d := 10) (by omega) (by decide) (by decide)
    have g8 : (!((8 : Int32) == 0)) = true := by decide
    have g10 : (!((10 : Int32) == 0)) = true := by decide
    have g65 : (!((65537 : Int32) == 0)) = true := by decide
    have hmod : nxD x % 8 < 8 := Nat.mod_lt _ (by decide)
    obtain ⟨M1, e1, e2⟩ := e_draw78 hb ok (X2_draw_l14 26 1 n') (nI m) (nI (nxD x)) (nI j) (nxD x)
    have hgo : X2_draw_l14 26 1 (n' + 1) (nI m) (nI x) (nI j) M = X2_draw_b78 26 1 (X2_draw_l14 26 1 n') (nI m) (nI (nxD x)) (nI j) (kcD (nxD x)) (nI (opD (nxD x))) M := by
      show X2_draw_b14 26 1 _ _ _ _ M = _
      unfold X2_draw_b14
      rw [if_neg (by rw [le_lit (by omega) (by omega)]; omega)]
      simp only [g65, g8, g10, gt, iw, draw_num hx, m8, ib_nI hmod (by decide), ix_nI (show nxD x % 8 < 2 ^ 31 by omega)]
      simp only [d8]
      unfold X2_draw_b65
      simp only [g8, gt, m88, m10]
      have hk : dk (nxD x % 8) = kcD (nxD x) := rfl
      rw [hk]
      simp only [kc_43, kc_45]
      unfold opD
      by_cases h4 : nxD x % 8 = 4
      · simp [h4]
      · by_cases h5 : nxD x % 8 = 5
        · simp [h5]
        · simp [h4, h5]
    rw [hgo, e1, L1]
    exact ih (j + 1) n' (nxD x) (yrS b (nxD x)) M1 m (by omega) hm (by omega) hlt e2 (okB_yrS ok _)
theorem okB_yrR {b : Bt} (ok : okB b) : ∀ m x, okB (yrR m x b) := by
  intro m
  induction m generalizing b with
  | zero => intro x; exact ok
  | succ m ih => intro x; exact ih (okB_yrS ok _) _
def bcF (x0 : Int32) : Int32 :=
  let v1 := x0 - (((x0.toUInt32 >>> ((1 : Int32).toUInt32 &&& Int32.toUInt32 31)).toInt32) &&& (1431655765 : Int32))
  let v2 := (v1 &&& (858993459 : Int32)) + (((v1.toUInt32 >>> ((2 : Int32).toUInt32 &&& Int32.toUInt32 31)).toInt32) &&& (858993459 : Int32))
  let v3 := (v2 + ((v2.toUInt32 >>> ((4 : Int32).toUInt32 &&& Int32.toUInt32 31)).toInt32)) &&& (252645135 : Int32)
  let v4 := v3 + ((v3.toUInt32 >>> ((8 : Int32).toUInt32 &&& Int32.toUInt32 31)).toInt32)
  let v5 := v4 + ((v4.toUInt32 >>> ((16 : Int32).toUInt32 &&& Int32.toUInt32 31)).toInt32)
  v5 &&& (63 : Int32)
theorem e_bitCount_F (x : Int32) (M : Mem) : J6_bitCount_0f7a4 x M = some (bcF x, M) := rfl
/-- how many ones a number below 1024 has -/
def pop (n : Nat) : Nat := fb_ct (fun j => n.testBit j) 10
theorem bcF_pop : ∀ n, n < 1024 → bcF (nI n) = nI (pop n) := by decide +kernel
theorem e_bitCount {n : Nat} (h : n < 1024) (M : Mem) : J6_bitCount_0f7a4 (nI n) M = some (nI (pop n), M) := by rw [e_bitCount_F, bcF_pop n h]
theorem m_ones_step : ∀ n, n < 1024 → n ≠ 0 → (nI n &&& (nI n - 1) = nI (n &&& (n - 1)) ∧ pop n = pop (n &&& (n - 1)) + 1 ∧ n &&& (n - 1) < n) := by decide +kernel
theorem m_ones_l (M : Mem) : ∀ n, n < 1024 → ∀ c f, n < f → c + pop n < 2 ^ 31 → X12_ones_l4 f (nI c) (nI n) M = some (nI (c + pop n), M) := by
  intro n
  induction n using Nat.strongRecOn with
  | ind n ih =>
    intro hn c f hf hc
    obtain ⟨f', rfl⟩ : ∃ f', f = f' + 1 := ⟨f - 1, by omega⟩
    show X12_ones_b4 _ _ _ M = _
    unfold X12_ones_b4
    by_cases h0 : n = 0
    · subst h0; rw [if_pos (show nI 0 = 0 from rfl)]; rfl
    · obtain ⟨a1, a2, a3⟩ := m_ones_step n hn h0
      rw [if_neg (show ¬ nI n = 0 from fun z => h0 ((nI_eq (b := 0) (by omega) (by decide)).mp z)), a1, L1, ih _ a3 (by omega) (c + 1) f' (by omega) (by omega)]
      congr 3
      omega
theorem m_ones {n : Nat} (h : n < 1024) (M : Mem) : X12_ones (nI n) M = some (nI (pop n), M) := by
  have hp : pop n ≤ 10 := fb_ct_le _ _
  have := m_ones_l M n h 0 FU (by show n < 2000; omega) (by omega)
  rw [Nat.zero_add] at this
  exact this
theorem m_actBy {q : Nat} (h : q < 8) (M : Mem) : X12_actBy (nI q) M = some (if q < 2 then 0 else if q < 4 then 1 else if q = 4 then 2 else if q = 5 then 3 else if q = 6 then 4 else 5, M) := by
  have : q = 0 ∨ q = 1 ∨ q = 2 ∨ q = 3 ∨ q = 4 ∨ q = 5 ∨ q = 6 ∨ q = 7 := by omega
  rcases this with rfl | rfl | rfl | rfl | rfl | rfl | rfl | rfl <;> rfl
theorem draw_long {x : Nat} (hx : x < 65537) : ((((75 : Int64) * (nI x).toInt64) + (74 : Int64)) - (((75 : Int64) * (nI x).toInt64) + (74 : Int64)) / (65537 : Int64) * (65537 : Int64)).toInt32 = nI (nxD x) := by
  have e : (75 : Int64) * (nI x).toInt64 + 74 = lN (75 * x + 74) := by
    rw [nI_l (by omega)]
    show lN 75 * lN x + lN 74 = _
    rw [lN_mul, lN_add]
  rw [e]
  have hd : lN (75 * x + 74) / 65537 = lN ((75 * x + 74) / 65537) := by
    rw [fa_eq64, Int64.toInt_div, lN_toInt (by omega), lN_toInt (by omega)]
    rw [show (65537 : Int64).toInt = 65537 from rfl, Int.tdiv_eq_ediv_of_nonneg (by omega)]
    rw [fb_bmodL (by omega) (by omega)]
    omega
  rw [hd]
  show (lN (75 * x + 74) - lN ((75 * x + 74) / 65537) * lN 65537).toInt32 = _
  rw [lN_mul, lN_sub (by omega), lN_i]
  unfold nxD
  congr 1
  omega
theorem m_year107 {M : Mem} {b : Bt} (h : AtB M 45 b) (ok : okB b) (k49 : Int32 → Int32 → Int32 → Int32 → Mem → Option (Int32 × Mem)) (x2 x3 x4 x5 : Int32) (x : Nat) {s0 s1 : Int32} (hs0 : (!(s0 == 0)) = true) (hs1 : s1 - s1 / s0 * s0 = nI (opD x)) : ∃ M', X12_year_b107 45 k49 x2 x3 x4 x5 (kdD x) s0 s1 M = k49 x2 x3 x4 (x5 + 1) M' ∧ AtB M' 45 (yrS b x) ∧ (∀ j, j ≠ 3 → j ≠ 4 → j ≠ 5 → j ≠ 6 → j ≠ 16 → M'.1 45 j = M.1 45 j) ∧ Sm [(rf 45 0), (rf 45 1), 45] M M' := by
  have hA := okA_D x
  unfold X12_year_b107 X12_year_b129
  rw [hs0, gt, hs1, m_whyNot h ok, bs]
  unfold yrS
  by_cases w0 : whyB b (kdD x) (nI (opD x)) = 0
  · obtain ⟨M1, e1, e2, -, e4⟩ := m_happen h ok (kdD x) (nI (opD x)) (fun z => hA.1 (Or.inr z))
    have fr := fr_X12_happen (i0 := 45) (kdD x) (nI (opD x)) M Sm_refl _ _ e1
    simp only [w0, if_true, e1, bs]
    exact ⟨M1, rfl, e2, e4, fr⟩
  · simp only [w0, if_false]
    exact ⟨M, rfl, h, fun _ _ _ _ _ _ => rfl, Sm_refl⟩
/-- the model's year: at its end the answer is taken, and all is put back -/
theorem m_year_l {what : Int32} : ∀ r j n x b (M : Mem) (m : Nat), j + r = m → m < 100 → r < n → x < 65537 → AtB M 45 b → okB b → ∃ M' x', X12_year_l49 45 n (nI m) what (nI x) (nI j) M = (if what = 0 then X12_year_b165 45 (M'.1 45 6) M' else if what = 1 then (X12_ones (M'.1 45 5) M').bind (fun p1 => X12_year_b165 45 p1.1 p1.2) else (X12_wrongMany 45 M').bind (fun p2 => X12_year_b165 45 p2.1 p2.2)) ∧ AtB M' 45 (yrR r x b) ∧ (∀ j, j ≠ 3 → j ≠ 4 → j ≠ 5 → j ≠ 6 → j ≠ 16 → M'.1 45 j = M.1 45 j) ∧ Sm [(rf 45 0), (rf 45 1), 45] M M' ∧ x' = x := by
  intro r
  induction r with
  | zero =>
    intro j n x b M m hj hm hn hx hb ok
    obtain ⟨n', rfl⟩ : ∃ n', n = n' + 1 := ⟨n - 1, by omega⟩
    refine ⟨M, x, ?_, hb, fun _ _ _ _ _ _ => rfl, Sm_refl, rfl⟩
    show X12_year_b49 45 _ _ _ _ _ M = _
    unfold X12_year_b49
    rw [if_pos (by rw [le_lit (by omega) (by omega)]; omega)]
  | succ r ih =>
    intro j n x b M m hj hm hn hx hb ok
    obtain ⟨n', rfl⟩ : ∃ n', n = n' + 1 := ⟨n - 1, by omega⟩
    have hlt := nxD_lt x
    have m8 : nI (nxD x) - nI (nxD x) / 8 * 8 = nI (nxD x % 8) := pk_rem (d := 8) (by omega) (by decide) (by decide)
    have d8 : nI (nxD x) / 8 = nI (nxD x / 8) := pk_div (d := 8) (by omega) (by decide) (by decide)
    have m88 : nI (nxD x / 8) - nI (nxD x / 8) / 8 * 8 = nI (nxD x / 8 % 8) := pk_rem (d := 8) (by omega) (by decide) (by decide)
    have m10 : nI (nxD x / 8) - nI (nxD x / 8) / 10 * 10 = nI (nxD x / 8 % 10) := pk_rem (d := 10) (by omega) (by decide) (by decide)
    have g8 : (!((8 : Int32) == 0)) = true := by decide
    have g10 : (!((10 : Int32) == 0)) = true := by decide
    have g65 : (!((65537 : Int64) == 0)) = true := by decide
    have hmod : nxD x % 8 < 8 := Nat.mod_lt _ (by decide)
    have hkd : (if nxD x % 8 < 2 then 0 else if nxD x % 8 < 4 then 1 else if nxD x % 8 = 4 then 2 else if nxD x % 8 = 5 then 3 else if nxD x % 8 = 6 then 4 else 5 : Int32) = kdD (nxD x) := rfl
    have k2 : (kdD (nxD x) = 2) = (nxD x % 8 = 4) := by
      unfold kdD
      generalize nxD x % 8 = q at hmod ⊢
      exact propext ((by decide +kernel : ∀ q, q < 8 → ((if q < 2 then 0 else if q < 4 then 1 else if q = 4 then 2 else if q = 5 then 3 else if q = 6 then 4 else 5 : Int32) = 2 ↔ q = 4)) q hmod)
    have k3 : (kdD (nxD x) = 3) = (nxD x % 8 = 5) := by
      unfold kdD
      generalize nxD x % 8 = q at hmod ⊢
      exact propext ((by decide +kernel : ∀ q, q < 8 → ((if q < 2 then 0 else if q < 4 then 1 else if q = 4 then 2 else if q = 5 then 3 else if q = 6 then 4 else 5 : Int32) = 3 ↔ q = 5)) q hmod)
    have hgo : ∃ s0 s1 : Int32, (!(s0 == 0)) = true ∧ s1 - s1 / s0 * s0 = nI (opD (nxD x)) ∧ X12_year_l49 45 (n' + 1) (nI m) what (nI x) (nI j) M = X12_year_b107 45 (X12_year_l49 45 n') (nI m) what (nI (nxD x)) (nI j) (kdD (nxD x)) s0 s1 M := by
      have e0 : X12_year_l49 45 (n' + 1) (nI m) what (nI x) (nI j) M = (if nxD x % 8 = 4 then X12_year_b100 45 (X12_year_l49 45 n') (nI m) what (nI (nxD x)) (nI j) (kdD (nxD x)) (nI (nxD x / 8)) M else if nxD x % 8 = 5 then X12_year_b100 45 (X12_year_l49 45 n') (nI m) what (nI (nxD x)) (nI j) (kdD (nxD x)) (nI (nxD x / 8)) M else X12_year_b107 45 (X12_year_l49 45 n') (nI m) what (nI (nxD x)) (nI j) (kdD (nxD x)) 10 (nI (nxD x / 8)) M) := by
        show X12_year_b49 45 _ _ _ _ _ M = _
        unfold X12_year_b49
        rw [if_neg (by rw [le_lit (by omega) (by omega)]; omega)]
        simp only [g65, g8, gt, iw, draw_long hx, m8, m_actBy hmod, bs]
        simp only [d8, hkd, k2, k3]
      rw [e0]
      by_cases h4 : nxD x % 8 = 4
      · rw [if_pos h4]
        exact ⟨8, nI (nxD x / 8), g8, by rw [m88]; unfold opD; rw [if_pos (Or.inl h4)], rfl⟩
      · rw [if_neg h4]
        by_cases h5 : nxD x % 8 = 5
        · rw [if_pos h5]
          exact ⟨8, nI (nxD x / 8), g8, by rw [m88]; unfold opD; rw [if_pos (Or.inr h5)], rfl⟩
        · rw [if_neg h5]
          exact ⟨10, nI (nxD x / 8), g10, by rw [m10]; unfold opD; rw [if_neg (by omega)], rfl⟩
    obtain ⟨s0, s1, z1, z2, z3⟩ := hgo
    obtain ⟨M1, e1, e2, e3, e4⟩ := m_year107 hb ok (X12_year_l49 45 n') (nI m) what (nI (nxD x)) (nI j) (nxD x) z1 z2
    rw [z3, e1, L1]
    obtain ⟨M2, x', r1, r2, r3, r4, -⟩ := ih (j + 1) n' (nxD x) (yrS b (nxD x)) M1 m (by omega) hm (by omega) hlt e2 (okB_yrS ok _)
    exact ⟨M2, x, r1, r2, fun j j3 j4 j5 j6 j16 => by rw [r3 j j3 j4 j5 j6 j16, e3 j j3 j4 j5 j6 j16], Sm_trans e4 r4, rfl⟩
def q_year (x1 x2 x3 : Int32) (σ : Sg) : Int32 := if wi x1 0 9999 = true then (if wi x2 1 99 = true then (if wi x3 0 2 = true then (if x3 = 0 then bN (yrR x2.toInt.toNat x1.toInt.toNat σ.1) else if x3 = 1 then nI (pop (bE (yrR x2.toInt.toNat x1.toInt.toNat σ.1)).toInt.toNat) else nI (wrN (yrR x2.toInt.toNat x1.toInt.toNat σ.1))) else -2) else -2) else -2
theorem sim_year (x1 x2 x3 : Int32) : Sim (X11_year 0 x1 x2 x3) (X12_year 45 x1 x2 x3) := by
  refine Sim_of (q_year x1 x2 x3) id ?_ ?_ (fun M => fr_X11_year _ _ _ M Sm_refl) (by decide) (fun M => fr_X12_year _ _ _ M Sm_refl) (by decide) (fun _ h => h)
  · intro M σ ok rc
    unfold q_year
    have hx : ∃ M', X11_year 0 x1 x2 x3 M = some (q_year x1 x2 x3 σ, M') := by
      unfold X11_year X11_year_b30 X11_year_b92 q_year
      simp only [e_isWithin, bs, bz_eq0]
      cases c1 : wi x1 0 9999
      · exact ⟨M, rfl⟩
      cases c2 : wi x2 1 99
      · exact ⟨M, rfl⟩
      cases c3 : wi x3 0 2
      · exact ⟨M, rfl⟩
      obtain ⟨n1, ⟨a1, a2⟩, rfl, a3⟩ := wi_nat c1 (by decide)
      obtain ⟨n2, ⟨b1, b2⟩, rfl, b3⟩ := wi_nat c2 (by decide)
      have t1 : (9999 : Int32).toInt = 9999 := rfl
      have t2 : (99 : Int32).toInt = 99 := rfl
      simp only [Bool.true_eq_false, if_false, if_true, rf_0_5, rf_0_0, rf_26_0, nI_toInt a3, nI_toInt b3, Int.toNat_natCast]
      unfold X2_draw
      rw [rf_26_0]
      obtain ⟨M1, e1, e2⟩ := e_takeOver (i := 27) (j := 1) BI_27 rc.1 (by decide) (by decide) (by decide) (by decide)
      rw [e1, bs]
      simp only []
      obtain ⟨M2, g1, g2⟩ := e_draw_l n2 0 FU n1 σ.1 M1 n2 (by omega) (by omega) (by show n2 < 2000; omega) (by omega) e2 ok.1
      have g1' : X2_draw_l14 26 1 FU (nI n2) (nI n1) 0 M1 = some ((), M2) := g1
      rw [g1', bs]
      simp only []
      rw [g2.2.2.2.2.2.2.1, g2.2.2.2.2.2.1, e_strangers g2]
      have okb := okB_yrR ok.1 n2 n1
      obtain ⟨ne, he, hee⟩ := ib_ex okb.2.2.2.2.2.1 (by decide)
      rw [hee, e_bitCount (by omega), nI_toInt (by omega)]
      refine ⟨M2, ?_⟩
      rcases wi_02 c3 with rfl | rfl | rfl <;> simp
    obtain ⟨M', e⟩ := hx
    have fr := fr_X11_year (i0 := 0) x1 x2 x3 M Sm_refl _ _ e
    refine ⟨M', e, rc.fr (fun c hc => (fr c (fun z => ?_)).1)⟩
    have : ∀ c ∈ [(rf (rf (rf 0 5) 0) 0), (rf (rf (rf 0 5) 0) 1), (rf (rf (rf 0 5) 0) 2), (rf (rf 0 5) 0)], ¬ (c < 26 ∨ c = 42) := by decide
    exact this c z hc
  · intro M σ ok rm
    unfold X12_year X12_year_b36 q_year
    simp only [e_in_0_9999, e_in_1_99, e_in_0_2, bs, bz_eq0]
    cases c1 : wi x1 0 9999
    · exact ⟨M, rfl, rm⟩
    cases c2 : wi x2 1 99
    · exact ⟨M, rfl, rm⟩
    cases c3 : wi x3 0 2
    · exact ⟨M, rfl, rm⟩
    obtain ⟨n1, ⟨a1, a2⟩, rfl, a3⟩ := wi_nat c1 (by decide)
    obtain ⟨n2, ⟨b1, b2⟩, rfl, b3⟩ := wi_nat c2 (by decide)
    have t1 : (9999 : Int32).toInt = 9999 := rfl
    have t2 : (99 : Int32).toInt = 99 := rfl
    simp only [Bool.true_eq_false, if_false, if_true, nI_toInt a3, nI_toInt b3, Int.toNat_natCast]
    obtain ⟨M1, e1, e2⟩ := m_keepNow rm.1
    have fr1 := fr_X12_keepNow (i0 := 45) M Sm_refl _ _ e1
    have hb1 : AtB M1 45 σ.1 := rm.1.fr (fr1 45 (by decide)).1 (fr1 _ (by decide)).1 (fr1 _ (by decide)).1 (fr1 _ (by decide)).1
    rw [e1, bs]
    simp only []
    obtain ⟨M2, -, g1, g2, g3, g4, -⟩ := m_year_l (what := x3) n2 0 FU n1 σ.1 M1 n2 (by omega) (by omega) (by show n2 < 2000; omega) (by omega) hb1 ok.1
    have g1' := g1
    rw [show nI 0 = 0 from rfl] at g1'
    rw [g1']
    have sv : Sv M2 σ.1 := by
      unfold Sv at e2 ⊢
      rw [(g4 54 (by decide)).1]; exact e2
    have r0 : RM0 M2 σ := by
      refine rm.zero.fr (fun c hc => ?_) ?_ ?_ ?_
      · rw [(g4 c (by rcases hc with rfl | rfl | rfl | rfl | rfl | rfl <;> decide)).1, (fr1 c (by rcases hc with rfl | rfl | rfl | rfl | rfl | rfl <;> decide)).1]
      · rw [g3 10 (by decide) (by decide) (by decide) (by decide) (by decide), (fr1 45 (by decide)).1]
      · rw [g3 12 (by decide) (by decide) (by decide) (by decide) (by decide), (fr1 45 (by decide)).1]
      · rw [g3 7 (by decide) (by decide) (by decide) (by decide) (by decide), (fr1 45 (by decide)).1]
    have pb := fun v => m_putBack v sv r0
    have okb := okB_yrR ok.1 n2 n1
    obtain ⟨ne, he, hee⟩ := ib_ex okb.2.2.2.2.2.1 (by decide)
    rw [g2.2.2.2.2.2.2.1, g2.2.2.2.2.2.1, m_wrongMany g2, hee, m_ones (by omega), nI_toInt (by omega)]
    unfold X12_year_b165
    rcases wi_02 c3 with rfl | rfl | rfl
    · obtain ⟨M3, q1, q2, -⟩ := pb (bN (yrR n2 n1 σ.1)); exact ⟨M3, by simp [q1], q2⟩
    · obtain ⟨M3, q1, q2, -⟩ := pb (nI (pop ne)); exact ⟨M3, by simp [q1], q2⟩
    · obtain ⟨M3, q1, q2, -⟩ := pb (nI (wrN (yrR n2 n1 σ.1))); exact ⟨M3, by simp [q1], q2⟩
