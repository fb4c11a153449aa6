/-! A BATH: rows of baskets, things, minutes; where he is, what he has, has seen; clock and bell. The class keeps four (cells 1, 11, 19, 27), the model keeps one (cell 45, the same places). -/
abbrev Bt : Type := (Nat → Int32) × (Nat → Int32) × (Nat → Int32) × Int32 × Int32 × Int32 × Int32 × Int32
def bS (b : Bt) : Nat → Int32 := b.1
def bT (b : Bt) : Nat → Int32 := b.2.1
def bM (b : Bt) : Nat → Int32 := b.2.2.1
def bC (b : Bt) : Int32 := b.2.2.2.1
def bH (b : Bt) : Int32 := b.2.2.2.2.1
def bE (b : Bt) : Int32 := b.2.2.2.2.2.1
def bN (b : Bt) : Int32 := b.2.2.2.2.2.2.1
def bL (b : Bt) : Int32 := b.2.2.2.2.2.2.2
def AtB (M : Mem) (i : Nat) (b : Bt) : Prop := (∀ j, j < 10 → M.1 (rf i 0) j = bS b j) ∧ (∀ j, j < 10 → M.1 (rf i 1) j = bT b j) ∧ (∀ j, j < 10 → M.1 (rf i 2) j = bM b j) ∧ M.1 i 3 = bC b ∧ M.1 i 4 = bH b ∧ M.1 i 5 = bE b ∧ M.1 i 6 = bN b ∧ M.1 i 7 = bL b
def okB (b : Bt) : Prop := (∀ j, j < 10 → ib (bS b j) 10 = true) ∧ (∀ j, j < 10 → ib (bT b j) 256 = true) ∧ (∀ j, j < 10 → ib (bM b j) 10 = true) ∧ ib (bC b) 10 = true ∧ ib (bH b) 256 = true ∧ ib (bE b) 256 = true ∧ ib (bN b) 100 = true ∧ ib (bL b) 100 = true
/-- the cells of a bath are apart -/
def BI (i : Nat) : Prop := i ≠ rf i 0 ∧ i ≠ rf i 1 ∧ i ≠ rf i 2 ∧ rf i 0 ≠ rf i 1 ∧ rf i 0 ≠ rf i 2 ∧ rf i 1 ≠ rf i 2
theorem BI_1 : BI 1 := by unfold BI; decide
theorem BI_11 : BI 11 := by unfold BI; decide
theorem BI_19 : BI 19 := by unfold BI; decide
theorem BI_27 : BI 27 := by unfold BI; decide
theorem BI_45 : BI 45 := by unfold BI; decide
/-- the basket where he is, the things in it -/
def hereB (b : Bt) : Int32 := bS b (bC b).toNatClampNeg
def thB (b : Bt) : Int32 := bT b (hereB b).toNatClampNeg
def apt (v c : Int32) : Int32 := if v ≤ c then c - v else v - c
def sh (v : Int32) : Int32 := (1 : Int32) <<< (v &&& 31)
/-- why an act can not be (kinds: 0 go, 1 look, 2 lay, 3 take, 4 change, else a minute); 0: it can -/
def whyB (b : Bt) (k v : Int32) : Int32 :=
  if k = 0 then (if v = bC b then 1 else if bN b + apt v (bC b) ≤ bL b then 0 else 4)
  else if k = 1 then (if bN b + bM b (hereB b).toNatClampNeg ≤ bL b then 0 else 4)
  else if k = 2 then (if bt (bH b) v then (if bt (thB b) v then 3 else 0) else 2)
  else if k = 3 then (if bt (thB b) v then (if bt (bH b) v then 3 else 0) else 2)
  else if k = 4 then (if v = bC b then 1 else 0)
  else (if bN b + 1 ≤ bL b then 0 else 4)
def perfB (b : Bt) (k v : Int32) : Bt :=
  if k = 0 then (bS b, bT b, bM b, v, bH b, bE b, bN b + apt v (bC b), bL b)
  else if k = 1 then (bS b, bT b, bM b, bC b, bH b, bE b ||| thB b, bN b + bM b (hereB b).toNatClampNeg, bL b)
  else if k = 2 then (bS b, upd (bT b) (hereB b).toNatClampNeg (thB b ||| sh v), bM b, bC b, bH b &&& (sh v ^^^ (-1 : Int32)), bE b, bN b, bL b)
  else if k = 3 then (bS b, upd (bT b) (hereB b).toNatClampNeg (thB b &&& (sh v ^^^ (-1 : Int32))), bM b, bC b, bH b ||| sh v, bE b ||| sh v, bN b, bL b)
  else if k = 4 then (upd (upd (bS b) (bC b).toNatClampNeg (bS b v.toNatClampNeg)) v.toNatClampNeg (hereB b), bT b, bM b, bC b, bH b, bE b, bN b, bL b)
  else (bS b, bT b, bM b, bC b, bH b, bE b, bN b + 1, bL b)
/-- the class's kinds -/
def kq (c : Int32) : Int32 := if c = 65 then 0 else if c = 63 then 1 else if c = 43 then 2 else if c = 45 then 3 else if c = 61 then 4 else 5
theorem e_abs (x : Int32) (M : Mem) : J9_abs_0f7a4 x M = some (if 0 ≤ x then x else -x, M) := by
  unfold J9_abs_0f7a4 J9_abs_0f7a4_b10; split <;> rfl
theorem abs_apt : ∀ a, a < 10 → ∀ c, c < 10 → (if 0 ≤ nI a - nI c then nI a - nI c else -(nI a - nI c)) = apt (nI a) (nI c) := by decide +kernel
theorem e_abs_apt {v c : Int32} (hv : ib v 10 = true) (hc : ib c 10 = true) (M : Mem) : J9_abs_0f7a4 (v - c) M = some (apt v c, M) := by
  obtain ⟨a, ha, rfl⟩ := ib_ex hv (by decide)
  obtain ⟨d, hd, rfl⟩ := ib_ex hc (by decide)
  rw [e_abs, abs_apt a ha d hd]
theorem m_apart (v c : Int32) (M : Mem) : X12_apart v c M = some (apt v c, M) := by
  unfold X12_apart X12_apart_b14 apt; split <;> rfl
theorem e_late (i : Nat) (x : Int32) (M : Mem) : X0_whyTooLate i x M = some (if M.1 i 6 + x ≤ M.1 i 7 then 0 else 4, M) := by
  unfold X0_whyTooLate X0_whyTooLate_b18; split <;> rfl
theorem e_moved (i : Nat) (f t v : Int32) (M : Mem) : X0_whyNotMoved i f t v M = some (if bt f v then (if bt t v then 3 else 0) else 2, M) := by
  unfold X0_whyNotMoved X0_whyNotMoved_b23
  simp only [e_isIn, bs, bz_eq0]
  cases bt f v <;> cases bt t v <;> rfl
section BATH
variable {M : Mem} {i : Nat} {b : Bt}
theorem AtB.here (h : AtB M i b) (ok : okB b) : M.1 (rf i 0) (bC b).toNatClampNeg = hereB b := h.1 _ (ib_lt ok.2.2.2.1)
theorem okB.here (ok : okB b) : ib (hereB b) 10 = true := ok.1 _ (ib_lt ok.2.2.2.1)
theorem AtB.th (h : AtB M i b) (ok : okB b) : M.1 (rf i 1) (hereB b).toNatClampNeg = thB b := h.2.1 _ (ib_lt ok.here)
theorem AtB.mi (h : AtB M i b) (ok : okB b) : M.1 (rf i 2) (hereB b).toNatClampNeg = bM b (hereB b).toNatClampNeg := h.2.2.1 _ (ib_lt ok.here)
theorem e_here (h : AtB M i b) (ok : okB b) : X0_basketHere i M = some (hereB b, M) := by
  unfold X0_basketHere
  rw [h.2.2.2.1, ok.2.2.2.1, gt, h.here ok]
theorem e_whyNot (h : AtB M i b) (ok : okB b) (c v : Int32) (hv : c = 65 → ib v 10 = true) : X0_whyNot i c v M = some (whyB b (kq c) v, M) := by
  have h1 := h.2.2.2.1
  have h2 := h.2.2.2.2.1
  have h4 := h.2.2.2.2.2.2.1
  have h5 := h.2.2.2.2.2.2.2
  unfold X0_whyNot X0_whyNot_b143 X0_whyNot_b77 kq
  by_cases c1 : c = 43
  · subst c1
    simp only [e_here h ok, bs, ok.here, gt, e_moved, h.th ok, h2]
    rfl
  by_cases c2 : c = 45
  · subst c2
    simp only [e_here h ok, bs, ok.here, gt, e_moved, h.th ok, h2]
    rfl
  by_cases c3 : c = 61
  · subst c3
    simp only [h1]
    unfold whyB
    by_cases e : v = bC b
    · simp [e]
    · simp [e]
  by_cases c4 : c = 63
  · subst c4
    simp only [e_here h ok, bs, ok.here, gt, e_late, h.mi ok, h4, h5]
    rfl
  by_cases c5 : c = 65
  · subst c5
    simp only [h1]
    unfold whyB
    by_cases e : v = bC b
    · simp [e]
    · simp [e, e_abs_apt (hv rfl) ok.2.2.2.1, e_late, h4, h5]
  simp only [c1, c2, c3, c4, c5, if_false, e_late, bs, h4, h5]
  rfl
theorem m_inHere (h : AtB M 45 b) (ok : okB b) : X12_inHere 45 M = some (thB b, M) := by
  unfold X12_inHere
  rw [h.2.2.2.1, ok.2.2.2.1, gt, h.here ok, ok.here, gt, h.th ok]
theorem m_whyNot (h : AtB M 45 b) (ok : okB b) (k v : Int32) : X12_whyNot 45 k v M = some (whyB b k v, M) := by
  have h1 := h.2.2.2.1
  have h2 := h.2.2.2.2.1
  have h4 := h.2.2.2.2.2.2.1
  have h5 := h.2.2.2.2.2.2.2
  unfold X12_whyNot X12_whyNot_b73 X12_whyNot_b105 X12_whyNot_b137 X12_whyNot_b169 X12_whyNot_b183 X12_whyNot_b202 whyB
  by_cases c1 : k = 0
  · subst c1
    simp only [h1, h4, h5, m_apart, bs]
    by_cases e : v = bC b
    · simp [e]
    · by_cases e2 : bN b + apt v (bC b) ≤ bL b <;> simp [e, e2]
  by_cases c2 : k = 1
  · subst c2
    simp only [h1, ok.2.2.2.1, gt, h.here ok, ok.here, h.mi ok, h4, h5]
    by_cases e2 : bN b + bM b (hereB b).toNatClampNeg ≤ bL b <;> simp [e2]
  by_cases c3 : k = 2
  · subst c3
    simp only [m_isIn, bs, bz_eq0, m_inHere h ok, h2]
    cases bt (bH b) v <;> cases bt (thB b) v <;> rfl
  by_cases c4 : k = 3
  · subst c4
    simp only [m_isIn, bs, bz_eq0, m_inHere h ok, h2]
    cases bt (bH b) v <;> cases bt (thB b) v <;> rfl
  by_cases c5 : k = 4
  · subst c5
    simp only [h1]
    by_cases e : v = bC b <;> simp [e]
  simp only [c1, c2, c3, c4, c5, if_false, h4, h5]
  by_cases e2 : bN b + 1 ≤ bL b <;> simp [e2]
end BATH
