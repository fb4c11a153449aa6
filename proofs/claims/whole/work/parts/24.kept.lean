/-! the model keeps an image: one stream of 52 numbers -/
def imV (M0 : Mem) (j : Nat) : Int32 :=
  if j = 0 then M0.1 45 3 else if j = 1 then M0.1 45 4 else if j = 2 then M0.1 45 5 else if j = 3 then M0.1 45 6 else if j = 4 then M0.1 45 7 else if j = 5 then M0.1 45 10
  else if j < 16 then M0.1 46 (j - 6) else if j < 26 then M0.1 47 (j - 16) else if j < 36 then M0.1 48 (j - 26) else if j < 44 then M0.1 49 (j - 36) else M0.1 50 (j - 44)
def IW (M0 : Mem) (s a : Nat) (M : Mem) : Prop := (∀ c, c ≠ 45 → c ≠ 60 → M.1 c = M0.1 c) ∧ (∀ j, j ≠ 29 → M.1 45 j = M0.1 45 j) ∧ M.1 45 29 = nI a ∧ ∀ q, M.1 60 q = if s ≤ q ∧ q < a then imV M0 (q - s) else M0.1 60 q
theorem IW.pass {M0 M : Mem} {s a : Nat} (h : IW M0 s a M) (hw : M0.1 45 30 = 1) (hs : s ≤ a) (ha : a < 120) {v : Int32} (hv : v = imV M0 (a - s)) : ∃ M', X12_pass 45 v M = some (v, M') ∧ IW M0 s (a + 1) M' := by
  obtain ⟨h1, h2, h3, h4⟩ := h
  unfold X12_pass X12_pass_b20
  rw [h2 30 (by decide), hw, if_neg (by decide), h3, ib_nI ha (by decide), gt, ix_nI (by omega), rf_45_27]
  have e1 : (mI M 60 a v).1 45 29 = nI a := by rw [mI1_ne (by decide)]; exact h3
  rw [e1, L1]
  refine ⟨_, rfl, fun c c45 c60 => ?_, fun j hj => ?_, ?_, fun q => ?_⟩
  · rw [mI1_ne c45, mI1_ne c60]; exact h1 c c45 c60
  · rw [mI1, if_neg hj, mI1_ne (by decide)]; exact h2 j hj
  · simp [mI1]
  · rw [mI1_ne (by decide), mI1]
    by_cases e : q = a
    · subst e
      rw [if_pos rfl, if_pos ⟨hs, by omega⟩]; exact hv
    · rw [if_neg e, h4 q]
      by_cases c : s ≤ q ∧ q < a
      · rw [if_pos c, if_pos ⟨c.1, by omega⟩]
      · rw [if_neg c, if_neg (by omega)]
theorem IW.fld {M0 M : Mem} {s a f : Nat} (h : IW M0 s a M) (hf : f ≠ 29) {v : Int32} (hv : v = M0.1 45 f) : IW M0 s a (mI M 45 f v) := by
  obtain ⟨h1, h2, h3, h4⟩ := h
  refine ⟨fun c c45 c60 => ?_, fun j hj => ?_, ?_, fun q => ?_⟩
  · rw [mI1_ne c45]; exact h1 c c45 c60
  · rw [mI1]
    split
    · rename_i e; rw [e]; exact hv
    · exact h2 j hj
  · rw [mI1, if_neg (fun z => hf z.symm)]; exact h3
  · rw [mI1_ne (by decide)]; exact h4 q
theorem IW.row_l {M0 : Mem} {s c n len o : Nat} (hw : M0.1 45 30 = 1) (hc : c ≠ 45 ∧ c ≠ 60) (hn : n ≤ len) (hl : len < 2 ^ 31) (hv : ∀ k, k < n → imV M0 (o + k) = M0.1 c k) (ho : s + o + n ≤ 120) : ∀ r k f (M : Mem), k + r = n → r < f → IW M0 s (s + o + k) M → ∃ M', X12_passRow_l2 45 c len f (nI n) (nI k) M = some ((), M') ∧ IW M0 s (s + o + n) M' := by
  intro r
  induction r with
  | zero =>
    intro k f M hk hf h
    obtain ⟨f', rfl⟩ : ∃ f', f = f' + 1 := ⟨f - 1, by omega⟩
    refine ⟨M, ?_, by rw [show n = k by omega]; exact h⟩
    show X12_passRow_b2 45 c len _ _ _ M = _
    unfold X12_passRow_b2
    rw [if_pos (by rw [le_lit (by omega) (by omega)]; omega)]
  | succ r ih =>
    intro k f M hk hf h
    obtain ⟨f', rfl⟩ : ∃ f', f = f' + 1 := ⟨f - 1, by omega⟩
    have hrow := h.1 c hc.1 hc.2
    obtain ⟨M1, e1, e2⟩ := h.pass hw (by omega) (by omega) (v := M0.1 c k) (by rw [← hv k (by omega)]; congr 1; omega)
    have hrow1 := e2.1 c hc.1 hc.2
    have hsame : mI M1 c k (M0.1 c k) = M1 := by
      unfold mI
      rw [hrow1, fa_upd_same rfl, ← hrow1, mR_self]
    obtain ⟨M2, g1, g2⟩ := ih (k + 1) f' M1 (by omega) (by omega) (by rw [← Nat.add_assoc]; exact e2)
    refine ⟨M2, ?_, g2⟩
    show X12_passRow_b2 45 c len _ _ _ M = _
    unfold X12_passRow_b2
    rw [if_neg (by rw [le_lit (by omega) (by omega)]; omega), ib_nI (by omega) hl, gt, ix_nI (by omega), hrow, e1, bs]
    simp only [gt]
    rw [hsame, L1]
    exact g1
theorem IW.row {M0 M : Mem} {s c n len o : Nat} (h : IW M0 s (s + o) M) (hw : M0.1 45 30 = 1) (hc : c ≠ 45 ∧ c ≠ 60) (hn : n ≤ len) (hl : len < 2 ^ 31) (hv : ∀ k, k < n → imV M0 (o + k) = M0.1 c k) (ho : s + o + n ≤ 120) : ∃ M', X12_passRow 45 c len (nI n) M = some ((), M') ∧ IW M0 s (s + o + n) M' :=
  IW.row_l hw hc hn hl hv ho n 0 FU M (by omega) (by show n < 2000; omega) h
theorem m_passW {M0 M : Mem} {s : Nat} (h : IW M0 s s M) (hw : M0.1 45 30 = 1) (hs : s = 0 ∨ s = 60) : ∃ M', X12_passAll 45 M = some ((), M') ∧ IW M0 s (s + 52) M' := by
  have hs120 : s + 52 ≤ 120 := by omega
  unfold X12_passAll
  obtain ⟨M1, e1, h1⟩ := h.pass hw (Nat.le_refl _) (by omega) (v := M.1 45 3) (by rw [h.2.1 3 (by decide), Nat.sub_self]; rfl)
  have h1 := h1.fld (f := 3) (v := M.1 45 3) (by decide) (h.2.1 3 (by decide))
  rw [e1, bs]
  simp only [mw]
  generalize mI M1 45 3 (M.1 45 3) = N1 at h1 ⊢
  obtain ⟨M2, e2, h2⟩ := h1.pass hw (by omega) (by omega) (v := N1.1 45 4) (by rw [h1.2.1 4 (by decide), show s + 1 - s = 1 by omega]; rfl)
  have h2 := h2.fld (f := 4) (v := N1.1 45 4) (by decide) (h1.2.1 4 (by decide))
  rw [e2, bs]
  simp only []
  generalize mI M2 45 4 (N1.1 45 4) = N2 at h2 ⊢
  obtain ⟨M3, e3, h3⟩ := h2.pass hw (by omega) (by omega) (v := N2.1 45 5) (by rw [h2.2.1 5 (by decide), show s + 1 + 1 - s = 2 by omega]; rfl)
  have h3 := h3.fld (f := 5) (v := N2.1 45 5) (by decide) (h2.2.1 5 (by decide))
  rw [e3, bs]
  simp only []
  generalize mI M3 45 5 (N2.1 45 5) = N3 at h3 ⊢
  obtain ⟨M4, e4, h4⟩ := h3.pass hw (by omega) (by omega) (v := N3.1 45 6) (by rw [h3.2.1 6 (by decide), show s + 1 + 1 + 1 - s = 3 by omega]; rfl)
  have h4 := h4.fld (f := 6) (v := N3.1 45 6) (by decide) (h3.2.1 6 (by decide))
  rw [e4, bs]
  simp only []
  generalize mI M4 45 6 (N3.1 45 6) = N4 at h4 ⊢
  obtain ⟨M5, e5, h5⟩ := h4.pass hw (by omega) (by omega) (v := N4.1 45 7) (by rw [h4.2.1 7 (by decide), show s + 1 + 1 + 1 + 1 - s = 4 by omega]; rfl)
  have h5 := h5.fld (f := 7) (v := N4.1 45 7) (by decide) (h4.2.1 7 (by decide))
  rw [e5, bs]
  simp only []
  generalize mI M5 45 7 (N4.1 45 7) = N5 at h5 ⊢
  obtain ⟨M6, e6, h6⟩ := h5.pass hw (by omega) (by omega) (v := N5.1 45 10) (by rw [h5.2.1 10 (by decide), show s + 1 + 1 + 1 + 1 + 1 - s = 5 by omega]; rfl)
  have h6 := h6.fld (f := 10) (v := N5.1 45 10) (by decide) (h5.2.1 10 (by decide))
  rw [e6, bs]
  simp only []
  generalize mI M6 45 10 (N5.1 45 10) = N6 at h6 ⊢
  have h6' : IW M0 s (s + 6) N6 := h6
  have imr : ∀ (o n c : Nat), (∀ k, k < n → imV M0 (o + k) = M0.1 c k) → ∀ k, k < n → imV M0 (o + k) = M0.1 c k := fun _ _ _ h => h
  have v1 : ∀ k, k < 10 → imV M0 (6 + k) = M0.1 46 k := fun k hk => by
    unfold imV
    rw [if_neg (by omega), if_neg (by omega), if_neg (by omega), if_neg (by omega), if_neg (by omega), if_neg (by omega), if_pos (by omega), show 6 + k - 6 = k by omega]
  have v2 : ∀ k, k < 10 → imV M0 (16 + k) = M0.1 47 k := fun k hk => by
    unfold imV
    rw [if_neg (by omega), if_neg (by omega), if_neg (by omega), if_neg (by omega), if_neg (by omega), if_neg (by omega), if_neg (by omega), if_pos (by omega), show 16 + k - 16 = k by omega]
  have v3 : ∀ k, k < 10 → imV M0 (26 + k) = M0.1 48 k := fun k hk => by
    unfold imV
    rw [if_neg (by omega), if_neg (by omega), if_neg (by omega), if_neg (by omega), if_neg (by omega), if_neg (by omega), if_neg (by omega), if_neg (by omega), if_pos (by omega), show 26 + k - 26 = k by omega]
  have v4 : ∀ k, k < 8 → imV M0 (36 + k) = M0.1 49 k := fun k hk => by
    unfold imV
    rw [if_neg (by omega), if_neg (by omega), if_neg (by omega), if_neg (by omega), if_neg (by omega), if_neg (by omega), if_neg (by omega), if_neg (by omega), if_neg (by omega), if_pos (by omega), show 36 + k - 36 = k by omega]
  have v5 : ∀ k, k < 8 → imV M0 (44 + k) = M0.1 50 k := fun k hk => by
    unfold imV
    rw [if_neg (by omega), if_neg (by omega), if_neg (by omega), if_neg (by omega), if_neg (by omega), if_neg (by omega), if_neg (by omega), if_neg (by omega), if_neg (by omega), if_neg (by omega), show 44 + k - 44 = k by omega]
  obtain ⟨R1, q1, h7⟩ := h6'.row (c := 46) (n := 10) (len := 10) (o := 6) hw (by decide) (by decide) (by decide) v1 (by omega)
  obtain ⟨R2, q2, h8⟩ := IW.row (M := R1) (c := 47) (n := 10) (len := 10) (o := 16) (s := s) h7 hw (by decide) (by decide) (by decide) v2 (by omega)
  obtain ⟨R3, q3, h9⟩ := IW.row (M := R2) (c := 48) (n := 10) (len := 10) (o := 26) (s := s) h8 hw (by decide) (by decide) (by decide) v3 (by omega)
  obtain ⟨R4, q4, h10⟩ := IW.row (M := R3) (c := 49) (n := 8) (len := 8) (o := 36) (s := s) h9 hw (by decide) (by decide) (by decide) v4 (by omega)
  obtain ⟨R5, q5, h11⟩ := IW.row (M := R4) (c := 50) (n := 8) (len := 8) (o := 44) (s := s) h10 hw (by decide) (by decide) (by decide) v5 (by omega)
  rw [rf_45_0, rf_45_1, rf_45_2, rf_45_8, rf_45_9]
  have q1' : X12_passRow 45 46 10 10 N6 = some ((), R1) := q1
  have q2' : X12_passRow 45 47 10 10 R1 = some ((), R2) := q2
  have q3' : X12_passRow 45 48 10 10 R2 = some ((), R3) := q3
  have q4' : X12_passRow 45 49 8 8 R3 = some ((), R4) := q4
  have q5' : X12_passRow 45 50 8 8 R4 = some ((), R5) := q5
  rw [q1', bs]
  simp only []
  rw [q2', bs]
  simp only []
  rw [q3', bs]
  simp only []
  rw [q4', bs]
  simp only []
  rw [q5', bs]
  exact ⟨R5, rfl, h11⟩
/-- an image of the model, out of the stream -/
theorem AtIm_of {M0 M : Mem} {σ : Sg} {k : Nat} (r : RM M0 σ) (h8 : σ.2.1.2.2 ≤ 8) (hf : M.1 61 k = 1) (hk : ∀ j, j < 52 → M.1 60 (60 * k + j) = imV M0 j) : AtIm M k (true, σ.1, σ.2.1) := by
  obtain ⟨⟨a0, a1, a2, a3, a4, a5, a6, a7⟩, ⟨n0, n1, n2⟩, -⟩ := r
  have v : ∀ j, j < 52 → M.1 60 (60 * k + j) = imV M0 j := hk
  refine ⟨hf, fun _ => ⟨⟨?_, ?_, ?_, ?_, ?_, ?_⟩, fun j hj => ?_, fun j hj => ?_, fun j hj => ?_, fun j hj => ?_, fun j hj => ?_⟩⟩
  · have := v 0 (by decide); rw [Nat.add_zero] at this; rw [this]; exact a3
  · rw [v 1 (by decide)]; exact a4
  · rw [v 2 (by decide)]; exact a5
  · rw [v 3 (by decide)]; exact a6
  · rw [v 4 (by decide)]; exact a7
  · rw [v 5 (by decide)]; exact n2
  · rw [Nat.add_assoc, v (6 + j) (by omega)]
    unfold imV
    rw [if_neg (by omega), if_neg (by omega), if_neg (by omega), if_neg (by omega), if_neg (by omega), if_neg (by omega), if_pos (by omega), show 6 + j - 6 = j by omega]
    exact a0 j hj
  · rw [Nat.add_assoc, v (16 + j) (by omega)]
    unfold imV
    rw [if_neg (by omega), if_neg (by omega), if_neg (by omega), if_neg (by omega), if_neg (by omega), if_neg (by omega), if_neg (by omega), if_pos (by omega), show 16 + j - 16 = j by omega]
    exact a1 j hj
  · rw [Nat.add_assoc, v (26 + j) (by omega)]
    unfold imV
    rw [if_neg (by omega), if_neg (by omega), if_neg (by omega), if_neg (by omega), if_neg (by omega), if_neg (by omega), if_neg (by omega), if_neg (by omega), if_pos (by omega), show 26 + j - 26 = j by omega]
    exact a2 j hj
  · have hj' : j < σ.2.1.2.2 := hj
    rw [Nat.add_assoc, v (36 + j) (by omega)]
    unfold imV
    rw [if_neg (by omega), if_neg (by omega), if_neg (by omega), if_neg (by omega), if_neg (by omega), if_neg (by omega), if_neg (by omega), if_neg (by omega), if_neg (by omega), if_pos (by omega), show 36 + j - 36 = j by omega]
    exact n0 j hj
  · have hj' : j < σ.2.1.2.2 := hj
    rw [Nat.add_assoc, v (44 + j) (by omega)]
    unfold imV
    rw [if_neg (by omega), if_neg (by omega), if_neg (by omega), if_neg (by omega), if_neg (by omega), if_neg (by omega), if_neg (by omega), if_neg (by omega), if_neg (by omega), if_neg (by omega), show 44 + j - 44 = j by omega]
    exact n1 j hj
/-- another image, its part of the row untouched -/
theorem AtIm.part {M M' : Mem} {k : Nat} {m : Im} (h : AtIm M k m) (h8 : okI m) (e : M'.1 61 k = M.1 61 k) (e0 : ∀ j, j < 52 → M'.1 60 (60 * k + j) = M.1 60 (60 * k + j)) : AtIm M' k m := by
  refine ⟨by rw [e]; exact h.1, fun t => ?_⟩
  obtain ⟨⟨a0, a1, a2, a3, a4, a5⟩, b1, b2, b3, b4, b5⟩ := h.2 t
  have hc := (h8 t).2.1
  refine ⟨⟨?_, ?_, ?_, ?_, ?_, ?_⟩, fun j hj => ?_, fun j hj => ?_, fun j hj => ?_, fun j hj => ?_, fun j hj => ?_⟩
  · have := e0 0 (by decide); rw [Nat.add_zero] at this; rw [this]; exact a0
  · rw [e0 1 (by decide)]; exact a1
  · rw [e0 2 (by decide)]; exact a2
  · rw [e0 3 (by decide)]; exact a3
  · rw [e0 4 (by decide)]; exact a4
  · rw [e0 5 (by decide)]; exact a5
  · rw [Nat.add_assoc, e0 (6 + j) (by omega), ← Nat.add_assoc]; exact b1 j hj
  · rw [Nat.add_assoc, e0 (16 + j) (by omega), ← Nat.add_assoc]; exact b2 j hj
  · rw [Nat.add_assoc, e0 (26 + j) (by omega), ← Nat.add_assoc]; exact b3 j hj
  · rw [Nat.add_assoc, e0 (36 + j) (by omega), ← Nat.add_assoc]; exact b4 j hj
  · rw [Nat.add_assoc, e0 (44 + j) (by omega), ← Nat.add_assoc]; exact b5 j hj
