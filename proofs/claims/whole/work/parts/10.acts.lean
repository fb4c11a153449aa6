theorem AtB.setC {M : Mem} {i : Nat} {b : Bt} (bi : BI i) (h : AtB M i b) (x : Int32) : AtB (mI M i 3 x) i (bS b, bT b, bM b, x, bH b, bE b, bN b, bL b) := by
  obtain ⟨h0, h1, h2, h3, h4, h5, h6, h7⟩ := h
  exact ⟨fun j hj => by rw [mI1_ne bi.1.symm]; exact h0 j hj, fun j hj => by rw [mI1_ne bi.2.1.symm]; exact h1 j hj, fun j hj => by rw [mI1_ne bi.2.2.1.symm]; exact h2 j hj, by rw [mI1, if_pos rfl]; rfl, by rw [mI1, if_neg (by decide)]; exact h4, by rw [mI1, if_neg (by decide)]; exact h5, by rw [mI1, if_neg (by decide)]; exact h6, by rw [mI1, if_neg (by decide)]; exact h7⟩
theorem AtB.setH {M : Mem} {i : Nat} {b : Bt} (bi : BI i) (h : AtB M i b) (x : Int32) : AtB (mI M i 4 x) i (bS b, bT b, bM b, bC b, x, bE b, bN b, bL b) := by
  obtain ⟨h0, h1, h2, h3, h4, h5, h6, h7⟩ := h
  exact ⟨fun j hj => by rw [mI1_ne bi.1.symm]; exact h0 j hj, fun j hj => by rw [mI1_ne bi.2.1.symm]; exact h1 j hj, fun j hj => by rw [mI1_ne bi.2.2.1.symm]; exact h2 j hj, by rw [mI1, if_neg (by decide)]; exact h3, by rw [mI1, if_pos rfl]; rfl, by rw [mI1, if_neg (by decide)]; exact h5, by rw [mI1, if_neg (by decide)]; exact h6, by rw [mI1, if_neg (by decide)]; exact h7⟩
theorem AtB.setE {M : Mem} {i : Nat} {b : Bt} (bi : BI i) (h : AtB M i b) (x : Int32) : AtB (mI M i 5 x) i (bS b, bT b, bM b, bC b, bH b, x, bN b, bL b) := by
  obtain ⟨h0, h1, h2, h3, h4, h5, h6, h7⟩ := h
  exact ⟨fun j hj => by rw [mI1_ne bi.1.symm]; exact h0 j hj, fun j hj => by rw [mI1_ne bi.2.1.symm]; exact h1 j hj, fun j hj => by rw [mI1_ne bi.2.2.1.symm]; exact h2 j hj, by rw [mI1, if_neg (by decide)]; exact h3, by rw [mI1, if_neg (by decide)]; exact h4, by rw [mI1, if_pos rfl]; rfl, by rw [mI1, if_neg (by decide)]; exact h6, by rw [mI1, if_neg (by decide)]; exact h7⟩
theorem AtB.setN {M : Mem} {i : Nat} {b : Bt} (bi : BI i) (h : AtB M i b) (x : Int32) : AtB (mI M i 6 x) i (bS b, bT b, bM b, bC b, bH b, bE b, x, bL b) := by
  obtain ⟨h0, h1, h2, h3, h4, h5, h6, h7⟩ := h
  exact ⟨fun j hj => by rw [mI1_ne bi.1.symm]; exact h0 j hj, fun j hj => by rw [mI1_ne bi.2.1.symm]; exact h1 j hj, fun j hj => by rw [mI1_ne bi.2.2.1.symm]; exact h2 j hj, by rw [mI1, if_neg (by decide)]; exact h3, by rw [mI1, if_neg (by decide)]; exact h4, by rw [mI1, if_neg (by decide)]; exact h5, by rw [mI1, if_pos rfl]; rfl, by rw [mI1, if_neg (by decide)]; exact h7⟩
theorem AtB.setL {M : Mem} {i : Nat} {b : Bt} (bi : BI i) (h : AtB M i b) (x : Int32) : AtB (mI M i 7 x) i (bS b, bT b, bM b, bC b, bH b, bE b, bN b, x) := by
  obtain ⟨h0, h1, h2, h3, h4, h5, h6, h7⟩ := h
  exact ⟨fun j hj => by rw [mI1_ne bi.1.symm]; exact h0 j hj, fun j hj => by rw [mI1_ne bi.2.1.symm]; exact h1 j hj, fun j hj => by rw [mI1_ne bi.2.2.1.symm]; exact h2 j hj, by rw [mI1, if_neg (by decide)]; exact h3, by rw [mI1, if_neg (by decide)]; exact h4, by rw [mI1, if_neg (by decide)]; exact h5, by rw [mI1, if_neg (by decide)]; exact h6, by rw [mI1, if_pos rfl]; rfl⟩
theorem AtB.setS {M : Mem} {i : Nat} {b : Bt} (bi : BI i) (h : AtB M i b) (p : Nat) (x : Int32) : AtB (mI M (rf i 0) p x) i (upd (bS b) p x, bT b, bM b, bC b, bH b, bE b, bN b, bL b) := by
  obtain ⟨h0, h1, h2, h3, h4, h5, h6, h7⟩ := h
  exact ⟨fun j hj => by rw [mI1]; show (if j = p then x else _) = (if j = p then x else _); rw [h0 j hj], fun j hj => by rw [mI1_ne (bi.2.2.2.1.symm)]; exact h1 j hj, fun j hj => by rw [mI1_ne (bi.2.2.2.2.1.symm)]; exact h2 j hj, by rw [mI1_ne bi.1]; exact h3, by rw [mI1_ne bi.1]; exact h4, by rw [mI1_ne bi.1]; exact h5, by rw [mI1_ne bi.1]; exact h6, by rw [mI1_ne bi.1]; exact h7⟩
theorem AtB.setT {M : Mem} {i : Nat} {b : Bt} (bi : BI i) (h : AtB M i b) (p : Nat) (x : Int32) : AtB (mI M (rf i 1) p x) i (bS b, upd (bT b) p x, bM b, bC b, bH b, bE b, bN b, bL b) := by
  obtain ⟨h0, h1, h2, h3, h4, h5, h6, h7⟩ := h
  exact ⟨fun j hj => by rw [mI1_ne (bi.2.2.2.1)]; exact h0 j hj, fun j hj => by rw [mI1]; show (if j = p then x else _) = (if j = p then x else _); rw [h1 j hj], fun j hj => by rw [mI1_ne (bi.2.2.2.2.2.symm)]; exact h2 j hj, by rw [mI1_ne bi.2.1]; exact h3, by rw [mI1_ne bi.2.1]; exact h4, by rw [mI1_ne bi.2.1]; exact h5, by rw [mI1_ne bi.2.1]; exact h6, by rw [mI1_ne bi.2.1]; exact h7⟩
theorem AtB.setM {M : Mem} {i : Nat} {b : Bt} (bi : BI i) (h : AtB M i b) (p : Nat) (x : Int32) : AtB (mI M (rf i 2) p x) i (bS b, bT b, upd (bM b) p x, bC b, bH b, bE b, bN b, bL b) := by
  obtain ⟨h0, h1, h2, h3, h4, h5, h6, h7⟩ := h
  exact ⟨fun j hj => by rw [mI1_ne (bi.2.2.2.2.1)]; exact h0 j hj, fun j hj => by rw [mI1_ne (bi.2.2.2.2.2)]; exact h1 j hj, fun j hj => by rw [mI1]; show (if j = p then x else _) = (if j = p then x else _); rw [h2 j hj], by rw [mI1_ne bi.2.2.1]; exact h3, by rw [mI1_ne bi.2.2.1]; exact h4, by rw [mI1_ne bi.2.2.1]; exact h5, by rw [mI1_ne bi.2.2.1]; exact h6, by rw [mI1_ne bi.2.2.1]; exact h7⟩
theorem AtB.eq {M : Mem} {i : Nat} {b b' : Bt} (h : AtB M i b) (e : b = b') : AtB M i b' := e ▸ h
theorem e_perform {M : Mem} {i : Nat} {b : Bt} (bi : BI i) (h : AtB M i b) (ok : okB b) (c v : Int32) (hv : c = 65 ∨ c = 61 → ib v 10 = true) : ∃ M', X0_perform i c v M = some ((), M') ∧ AtB M' i (perfB b (kq c) v) := by
  have h1 := h.2.2.2.1
  have h2 := h.2.2.2.2.1
  have h3 := h.2.2.2.2.2.1
  have h4 := h.2.2.2.2.2.2.1
  unfold X0_perform X0_perform_b220
  simp only [e_here h ok, bs]
  by_cases c1 : c = 43
  · subst c1
    simp only [mw, ok.here, gt, if_true, h2]
    refine ⟨_, rfl, ?_⟩
    have a1 := h.setH bi (bH b &&& ((1 : Int32) <<< (v &&& 31) ^^^ (-1 : Int32)))
    have e1 := a1.2.1 _ (ib_lt ok.here)
    have a2 := a1.setT bi (hereB b).toNatClampNeg ((mI M i 4 (bH b &&& ((1 : Int32) <<< (v &&& 31) ^^^ (-1 : Int32)))).1 (rf i 1) (hereB b).toNatClampNeg ||| (1 : Int32) <<< (v &&& 31))
    refine a2.eq ?_
    rw [e1]
    rfl
  by_cases c2 : c = 45
  · subst c2
    simp only [mw, ok.here, gt, h.th ok]
    have a1 := h.setT bi (hereB b).toNatClampNeg (thB b &&& ((1 : Int32) <<< (v &&& 31) ^^^ (-1 : Int32)))
    have e1 : (mI M (rf i 1) (hereB b).toNatClampNeg (thB b &&& ((1 : Int32) <<< (v &&& 31) ^^^ (-1 : Int32)))).1 i 4 = bH b := a1.2.2.2.2.1
    simp only [e1]
    have a2 := a1.setH bi (bH b ||| (1 : Int32) <<< (v &&& 31))
    have e2 : (mI (mI M (rf i 1) (hereB b).toNatClampNeg (thB b &&& ((1 : Int32) <<< (v &&& 31) ^^^ (-1 : Int32)))) i 4 (bH b ||| (1 : Int32) <<< (v &&& 31))).1 i 5 = bE b := a2.2.2.2.2.2.1
    simp only [e2]
    exact ⟨_, rfl, (a2.setE bi _).eq rfl⟩
  by_cases c3 : c = 61
  · subst c3
    have hv' := hv (Or.inr rfl)
    simp only [mw, hv', gt, h1, ok.2.2.2.1, h.1 _ (ib_lt hv')]
    refine ⟨_, rfl, ?_⟩
    exact ((h.setS bi _ _).setS bi _ _).eq rfl
  by_cases c4 : c = 63
  · subst c4
    simp only [mw, ok.here, gt, h4, h.mi ok]
    refine ⟨_, rfl, ?_⟩
    have a1 := h.setN bi (bN b + bM b (hereB b).toNatClampNeg)
    have e1 := a1.2.2.2.2.2.1
    have e2 := a1.2.1 _ (ib_lt ok.here)
    have a2 := a1.setE bi ((mI M i 6 (bN b + bM b (hereB b).toNatClampNeg)).1 i 5 ||| (mI M i 6 (bN b + bM b (hereB b).toNatClampNeg)).1 (rf i 1) (hereB b).toNatClampNeg)
    refine a2.eq ?_
    rw [e1, e2]
    rfl
  by_cases c5 : c = 65
  · subst c5
    have hv' := hv (Or.inl rfl)
    simp only [mw, h1, e_abs_apt hv' ok.2.2.2.1, bs, h4]
    refine ⟨_, rfl, ?_⟩
    exact ((h.setN bi _).setC bi _).eq rfl
  · simp only [c1, c2, c3, c4, c5, if_false, mw, h4]
    refine ⟨_, rfl, ?_⟩
    refine (h.setN bi _).eq ?_
    unfold perfB kq
    simp [c1, c2, c3, c4, c5]
/-- the model's acts: the bath, what has been looked into, and nothing else of the object -/
theorem m_happen {M : Mem} {b : Bt} (h : AtB M 45 b) (ok : okB b) (k v : Int32) (hv : k = 4 → ib v 10 = true) : ∃ M', X12_happen 45 k v M = some ((), M') ∧ AtB M' 45 (perfB b k v) ∧ M'.1 45 16 = (if k = 1 then M.1 45 16 ||| sh (hereB b) else M.1 45 16) ∧ (∀ j, j ≠ 3 → j ≠ 4 → j ≠ 5 → j ≠ 6 → j ≠ 16 → M'.1 45 j = M.1 45 j) := by
  have bi := BI_45
  have h1 := h.2.2.2.1
  have h2 := h.2.2.2.2.1
  have h3 := h.2.2.2.2.2.1
  have h4 := h.2.2.2.2.2.2.1
  unfold X12_happen X12_happen_b85
  by_cases c1 : k = 0
  · subst c1
    simp only [X12_go, m_apart, bs, h1, h4]
    refine ⟨_, rfl, ((h.setN bi _).setC bi _).eq rfl, ?_, ?_⟩
    · simp [mI1]
    · intro j a1 a2 a3 a4 a5; simp [mI1, a1, a4]
  by_cases c2 : k = 1
  · subst c2
    have a1 := h.setN bi (bN b + bM b (hereB b).toNatClampNeg)
    have o1 : okB b := ok
    have e1 : X12_inHere 45 (mI M 45 6 (bN b + bM b (hereB b).toNatClampNeg)) = some (thB b, mI M 45 6 (bN b + bM b (hereB b).toNatClampNeg)) := by
      unfold X12_inHere
      have q1 : (mI M 45 6 (bN b + bM b (hereB b).toNatClampNeg)).1 45 3 = bC b := a1.2.2.2.1
      have q2 : (mI M 45 6 (bN b + bM b (hereB b).toNatClampNeg)).1 (rf 45 0) (bC b).toNatClampNeg = hereB b := a1.1 _ (ib_lt ok.2.2.2.1)
      have q3 : (mI M 45 6 (bN b + bM b (hereB b).toNatClampNeg)).1 (rf 45 1) (hereB b).toNatClampNeg = thB b := a1.2.1 _ (ib_lt ok.here)
      rw [q1, ok.2.2.2.1, gt, q2, ok.here, gt, q3]
    have e2 : (mI M 45 6 (bN b + bM b (hereB b).toNatClampNeg)).1 45 5 = bE b := a1.2.2.2.2.2.1
    have a2 := a1.setE bi (bE b ||| thB b)
    have e3 := a2.2.2.2.1
    have e4 := a2.1 _ (ib_lt ok.2.2.2.1)
    simp only [X12_look, h1, ok.2.2.2.1, gt, h.here ok, ok.here, h.mi ok, h4, mw, e1, bs, e2]
    have e3' : (mI (mI M 45 6 (bN b + bM b (hereB b).toNatClampNeg)) 45 5 (bE b ||| thB b)).1 45 3 = bC b := e3
    have e4' : (mI (mI M 45 6 (bN b + bM b (hereB b).toNatClampNeg)) 45 5 (bE b ||| thB b)).1 (rf 45 0) (bC b).toNatClampNeg = hereB b := e4
    simp only [e3', e4', ok.2.2.2.1, gt]
    refine ⟨_, rfl, ?_, ?_, ?_⟩
    · obtain ⟨q0, q1, q2, q3, q4, q5, q6, q7⟩ := a2
      exact ⟨fun j hj => by rw [mI1_ne bi.1.symm]; exact q0 j hj, fun j hj => by rw [mI1_ne bi.2.1.symm]; exact q1 j hj, fun j hj => by rw [mI1_ne bi.2.2.1.symm]; exact q2 j hj, by rw [mI1, if_neg (by decide)]; exact q3, by rw [mI1, if_neg (by decide)]; exact q4, by rw [mI1, if_neg (by decide)]; exact q5, by rw [mI1, if_neg (by decide)]; exact q6, by rw [mI1, if_neg (by decide)]; exact q7⟩
    · simp [mI1, sh]
    · intro j a1 a2 a3 a4 a5; simp [mI1, a3, a4, a5]
  by_cases c3 : k = 2
  · subst c3
    simp only [X12_lay, h1, ok.2.2.2.1, gt, h.here ok, ok.here, h.th ok, bs]
    have a1 := h.setT bi (hereB b).toNatClampNeg (thB b ||| (1 : Int32) <<< (v &&& 31))
    have e1 : (mI M (rf 45 1) (hereB b).toNatClampNeg (thB b ||| (1 : Int32) <<< (v &&& 31))).1 45 4 = bH b := a1.2.2.2.2.1
    simp only [e1]
    refine ⟨_, rfl, (a1.setH bi _).eq rfl, ?_, ?_⟩
    · simp [mI1, mI1_ne (show (45 : Nat) ≠ rf 45 1 by decide)]
    · intro j a1 a2 a3 a4 a5; simp [mI1, mI1_ne (show (45 : Nat) ≠ rf 45 1 by decide), a2]
  by_cases c4 : k = 3
  · subst c4
    simp only [X12_take, h1, ok.2.2.2.1, gt, h.here ok, ok.here, h.th ok, mw, bs]
    have a1 := h.setT bi (hereB b).toNatClampNeg (thB b &&& ((1 : Int32) <<< (v &&& 31) ^^^ (-1 : Int32)))
    have e1 : (mI M (rf 45 1) (hereB b).toNatClampNeg (thB b &&& ((1 : Int32) <<< (v &&& 31) ^^^ (-1 : Int32)))).1 45 4 = bH b := a1.2.2.2.2.1
    simp only [e1]
    have a2 := a1.setH bi (bH b ||| (1 : Int32) <<< (v &&& 31))
    have e2 : (mI (mI M (rf 45 1) (hereB b).toNatClampNeg (thB b &&& ((1 : Int32) <<< (v &&& 31) ^^^ (-1 : Int32)))) 45 4 (bH b ||| (1 : Int32) <<< (v &&& 31))).1 45 5 = bE b := a2.2.2.2.2.2.1
    simp only [e2]
    refine ⟨_, rfl, (a2.setE bi _).eq rfl, ?_, ?_⟩
    · simp [mI1, mI1_ne (show (45 : Nat) ≠ rf 45 1 by decide)]
    · intro j a1 a2 a3 a4 a5; simp [mI1, mI1_ne (show (45 : Nat) ≠ rf 45 1 by decide), a2, a3]
  by_cases c5 : k = 4
  · subst c5
    have hv' := hv rfl
    simp only [X12_change, h1, ok.2.2.2.1, gt, h.here ok, hv', iw, h.1 _ (ib_lt hv'), bs]
    refine ⟨_, rfl, ((h.setS bi _ _).setS bi _ _).eq rfl, ?_, ?_⟩
    · simp [mI1_ne (show (45 : Nat) ≠ rf 45 0 by decide)]
    · intro j a1 a2 a3 a4 a5; simp [mI1_ne (show (45 : Nat) ≠ rf 45 0 by decide)]
  · simp only [c1, c2, c3, c4, c5, if_false, h4]
    refine ⟨_, rfl, ?_, ?_, ?_⟩
    · refine (h.setN bi _).eq ?_
      unfold perfB
      simp [c1, c2, c3, c4, c5]
    · simp [mI1]
    · intro j a1 a2 a3 a4 a5; simp [mI1, a4]
/-! ranges stay -/
theorem rg_or : ∀ a, a < 256 → ∀ v, v < 8 → ib (nI a ||| sh (nI v)) 256 = true := by decide +kernel
theorem rg_an : ∀ a, a < 256 → ∀ v, v < 8 → ib (nI a &&& (sh (nI v) ^^^ (-1 : Int32))) 256 = true := by decide +kernel
theorem ib_or {a v : Int32} (ha : ib a 256 = true) (hv : ib v 8 = true) : ib (a ||| sh v) 256 = true := by
  obtain ⟨x, hx, rfl⟩ := ib_ex ha (by decide)
  obtain ⟨y, hy, rfl⟩ := ib_ex hv (by decide)
  exact rg_or x hx y hy
theorem ib_an {a v : Int32} (ha : ib a 256 = true) (hv : ib v 8 = true) : ib (a &&& (sh v ^^^ (-1 : Int32))) 256 = true := by
  obtain ⟨x, hx, rfl⟩ := ib_ex ha (by decide)
  obtain ⟨y, hy, rfl⟩ := ib_ex hv (by decide)
  exact rg_an x hx y hy
theorem ib_or2 {a c : Int32} (ha : ib a 256 = true) (hc : ib c 256 = true) : ib (a ||| c) 256 = true := by
  obtain ⟨x, hx, rfl⟩ := ib_ex ha (by decide)
  obtain ⟨y, hy, rfl⟩ := ib_ex hc (by decide)
  rw [fa_or]
  exact ib_nI (Nat.or_lt_two_pow (n := 8) hx hy) (by decide)
theorem apt_ib {v c : Int32} (hv : ib v 10 = true) (hc : ib c 10 = true) : ib (apt v c) 10 = true := by
  obtain ⟨a, ha, rfl⟩ := ib_ex hv (by decide)
  obtain ⟨d, hd, rfl⟩ := ib_ex hc (by decide)
  exact (by decide +kernel : ∀ a, a < 10 → ∀ c, c < 10 → ib (apt (nI a) (nI c)) 10 = true) a ha d hd
/-- the clock goes on, and is not above the bell -/
theorem ib_clock {n d l : Int32} (hn : ib n 100 = true) (hd : ib d 10 = true) (hl : ib l 100 = true) (h : n + d ≤ l) : ib (n + d) 100 = true := by
  obtain ⟨a, ha, rfl⟩ := ib_ex hn (by decide)
  obtain ⟨c, hc, rfl⟩ := ib_ex hd (by decide)
  obtain ⟨e, he, rfl⟩ := ib_ex hl (by decide)
  rw [nI_add] at h ⊢
  exact ib_nI (by have := (nI_leI (by omega) (by omega)).mp h; omega) (by decide)
theorem okB_perf {b : Bt} (ok : okB b) (k v : Int32) (h0 : whyB b k v = 0) (hv : k = 0 ∨ k = 4 → ib v 10 = true) (hv2 : k = 2 ∨ k = 3 → ib v 8 = true) : okB (perfB b k v) := by
  obtain ⟨o1, o2, o3, o4, o5, o6, o7, o8⟩ := ok
  have ok : okB b := ⟨o1, o2, o3, o4, o5, o6, o7, o8⟩
  have hh := ok.here
  have ht : ib (thB b) 256 = true := o2 _ (ib_lt hh)
  unfold whyB at h0
  unfold perfB
  by_cases c1 : k = 0
  · subst c1
    have hv' := hv (Or.inl rfl)
    simp only [if_true] at h0 ⊢
    split at h0
    · exact absurd h0 (by decide)
    · split at h0
      · exact ⟨o1, o2, o3, hv', o5, o6, ib_clock o7 (apt_ib hv' o4) o8 (by assumption), o8⟩
      · exact absurd h0 (by decide)
  rw [if_neg c1] at h0 ⊢
  by_cases c2 : k = 1
  · subst c2
    simp only [if_true] at h0 ⊢
    split at h0
    · exact ⟨o1, o2, o3, o4, o5, ib_or2 o6 ht, ib_clock o7 (o3 _ (ib_lt hh)) o8 (by assumption), o8⟩
    · exact absurd h0 (by decide)
  rw [if_neg c2] at h0 ⊢
  by_cases c3 : k = 2
  · subst c3
    have hv' := hv2 (Or.inl rfl)
    simp only [if_true]
    refine ⟨o1, fun j hj => ?_, o3, o4, ib_an o5 hv', o6, o7, o8⟩
    show ib (upd (bT b) _ _ j) 256 = true
    unfold upd
    split
    · exact ib_or ht hv'
    · exact o2 j hj
  rw [if_neg c3] at h0 ⊢
  by_cases c4 : k = 3
  · subst c4
    have hv' := hv2 (Or.inr rfl)
    simp only [if_true]
    refine ⟨o1, fun j hj => ?_, o3, o4, ib_or o5 hv', ib_or o6 hv', o7, o8⟩
    show ib (upd (bT b) _ _ j) 256 = true
    unfold upd
    split
    · exact ib_an ht hv'
    · exact o2 j hj
  rw [if_neg c4] at h0 ⊢
  by_cases c5 : k = 4
  · subst c5
    have hv' := hv (Or.inr rfl)
    simp only [if_true]
    refine ⟨fun j hj => ?_, o2, o3, o4, o5, o6, o7, o8⟩
    show ib (upd (upd (bS b) _ _) _ _ j) 10 = true
    unfold upd
    split
    · exact hh
    · split
      · exact o1 _ (ib_lt hv')
      · exact o1 j hj
  rw [if_neg c5] at h0 ⊢
  split at h0
  · exact ⟨o1, o2, o3, o4, o5, o6, ib_clock (d := 1) o7 (by decide) o8 (by assumption), o8⟩
  · exact absurd h0 (by decide)
