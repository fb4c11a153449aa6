/-! sets of ten -/
theorem sh_amt : ∀ j, j < 31 → (((nI j &&& 31) : Int32).toBitVec.smod 32).toNat = j := by decide +kernel
theorem bt_nI {n j : Nat} (hn : n < 2 ^ 31) (hj : j < 31) : bt (nI n) (nI j) = n.testBit j := by
  unfold bt
  rw [pk_shrN hn _ j (sh_amt j hj), Nat.testBit_eq_decide_div_mod_eq]
  have e : nI (n / 2 ^ j) &&& (1 : Int32) = nI (n / 2 ^ j % 2) := fa_mask (n / 2 ^ j) 1
  rw [e]
  have l : n / 2 ^ j % 2 < 2 := Nat.mod_lt _ (by decide)
  have : (nI (n / 2 ^ j % 2) = 1) = (n / 2 ^ j % 2 = 1) := nI_eqN (b := 1) (by omega) (by decide)
  simp only [this]
theorem shl_nI {j : Nat} (hj : j < 31) : (1 : Int32) <<< (nI j &&& 31) = nI (2 ^ j) := by
  have h2 : (2 : Nat) ^ j < 2 ^ 31 := Nat.pow_lt_pow_right (by decide) hj
  have := pk_shlN (n := 1) (nI j &&& 31) j (sh_amt j hj) (by omega)
  rw [Nat.one_mul] at this
  exact this
def foS (op : Int32 → Int32 → Int32) (V : Nat → Int32) (s : Nat) : Nat → Int32
  | 0 => 0
  | b + 1 => if s.testBit b = true then op (foS op V s b) (V b) else foS op V s b
theorem foS_cong {op : Int32 → Int32 → Int32} {V : Nat → Int32} {s s' : Nat} : ∀ N, (∀ j, j < N → s.testBit j = s'.testBit j) → foS op V s N = foS op V s' N := by
  intro N
  induction N with
  | zero => intro _; rfl
  | succ N ih =>
    intro h
    show (if s.testBit N = true then _ else _) = (if s'.testBit N = true then _ else _)
    rw [ih (fun j hj => h j (by omega)), h N (by omega)]
theorem foS_top {op : Int32 → Int32 → Int32} {V : Nat → Int32} {s b : Nat} (hs : s < 2 ^ b) : ∀ m, foS op V s (b + m) = foS op V s b := by
  intro m
  induction m with
  | zero => rfl
  | succ m ih =>
    show (if s.testBit (b + m) = true then _ else _) = _
    have : s.testBit (b + m) = false := Nat.testBit_lt_two_pow (Nat.lt_of_lt_of_le hs (Nat.pow_le_pow_right (by decide) (by omega)))
    rw [this]
    exact ih
theorem foS_add {op : Int32 → Int32 → Int32} {V : Nat → Int32} {r b : Nat} (hb : b < 10) (hr : r < 2 ^ b) : foS op V (2 ^ b + r) 10 = op (foS op V r 10) (V b) := by
  have h1 : 2 ^ b + r < 2 ^ (b + 1) := by rw [Nat.pow_succ]; omega
  have e1 := foS_top (op := op) (V := V) h1 (9 - b)
  have e2 := foS_top (op := op) (V := V) hr (10 - b)
  rw [show b + 1 + (9 - b) = 10 by omega] at e1
  rw [show b + (10 - b) = 10 by omega] at e2
  rw [e1, e2]
  show (if (2 ^ b + r).testBit b = true then _ else _) = _
  rw [if_pos (by rw [Nat.testBit_two_pow_add_eq, Nat.testBit_lt_two_pow hr]; rfl), foS_cong b (fun j hj => Nat.testBit_two_pow_add_gt hj r)]
/-- the class's table -/
def TbI (op : Int32 → Int32 → Int32) (V : Nat → Int32) (N : Nat) (M : Mem) : Prop := ∀ s, s < N → M.1 32 s = foS op V s 10
theorem TbI.step {op : Int32 → Int32 → Int32} {V : Nat → Int32} {b r : Nat} {M : Mem} (h : TbI op V (2 ^ b + r) M) (hb : b < 10) (hr : r < 2 ^ b) : TbI op V (2 ^ b + r + 1) (mI M 32 (2 ^ b + r) (op (M.1 32 r) (V b))) := by
  intro s hs
  rw [mI1]
  by_cases e : s = 2 ^ b + r
  · rw [if_pos e, e, foS_add hb hr, h r (by omega)]
  · rw [if_neg e]; exact h s (by omega)
theorem p2_le {b : Nat} (hb : b < 10) : 2 ^ b ≤ 512 := by
  have : 2 ^ b ≤ 2 ^ 9 := Nat.pow_le_pow_right (by decide) (by omega)
  exact this
def BathF (b : Bt) (M : Mem) : Prop := AtB M 1 b
theorem e_join22 {b : Bt} {c : Nat} (hc : c < 10) (k9 : Int32 → Mem → Option (Unit × Mem)) : ∀ r k f (M : Mem), k + r = 2 ^ c → r < f → AtB M 1 b → TbI (· ||| ·) (bT b) (2 ^ c + k) M → ∃ M', X1_joinThings_l22 31 1 k9 f (nI c) (nI (2 ^ c)) (nI k) M = k9 (nI (c + 1)) M' ∧ AtB M' 1 b ∧ TbI (· ||| ·) (bT b) (2 ^ (c + 1)) M' := by
  have p2 := p2_le hc
  intro r
  induction r with
  | zero =>
    intro k f M hk hf hB h
    obtain ⟨f', rfl⟩ : ∃ f', f = f' + 1 := ⟨f - 1, by omega⟩
    refine ⟨M, ?_, hB, ?_⟩
    · show X1_joinThings_b22 31 1 k9 _ _ _ _ M = _
      unfold X1_joinThings_b22
      rw [if_pos (by rw [le_lit (by omega) (by omega)]; omega), L1]
    · rw [show 2 ^ (c + 1) = 2 ^ c + k by rw [Nat.pow_succ]; omega]; exact h
  | succ r ih =>
    intro k f M hk hf hB h
    obtain ⟨f', rfl⟩ : ∃ f', f = f' + 1 := ⟨f - 1, by omega⟩
    have e1 : nI (2 ^ c) ||| nI k = nI (2 ^ c + k) := by
      have := fa_or_sum (a := k) (k := c) 1 (by omega)
      rw [Nat.mul_one] at this; exact this
    obtain ⟨M2, e2, g2⟩ := ih (k + 1) f' (mI M 32 (2 ^ c + k) (M.1 32 k ||| bT b c)) (by omega) (by omega) (hB.row (by decide) (by decide) (by decide) (by decide)) (h.step hc (by omega))
    refine ⟨M2, ?_, g2⟩
    show X1_joinThings_b22 31 1 k9 _ _ _ _ M = _
    unfold X1_joinThings_b22
    rw [if_neg (by rw [le_lit (by omega) (by omega)]; omega), e1, ib_nI (by omega) (by decide), ib_nI (by omega) (by decide), ib_nI (by omega) (by decide), gt, gt, gt, rf_31_0, ix_nI (by omega), ix_nI (by omega), ix_nI (by omega), hB.2.1 c hc, L1]
    exact e2
theorem e_join9 {b : Bt} : ∀ r c f (M : Mem), c + r = 10 → r < f → AtB M 1 b → TbI (· ||| ·) (bT b) (2 ^ c) M → ∃ M', X1_joinThings_l9 31 1 f (nI c) M = some ((), M') ∧ AtB M' 1 b ∧ TbI (· ||| ·) (bT b) 1024 M' := by
  intro r
  induction r with
  | zero =>
    intro c f M hc hf hB h
    obtain ⟨f', rfl⟩ : ∃ f', f = f' + 1 := ⟨f - 1, by omega⟩
    have : c = 10 := by omega
    subst this
    exact ⟨M, rfl, hB, h⟩
  | succ r ih =>
    intro c f M hc hf hB h
    obtain ⟨f', rfl⟩ : ∃ f', f = f' + 1 := ⟨f - 1, by omega⟩
    have p2 := p2_le (b := c) (by omega)
    obtain ⟨M1, e1, g1, g2⟩ := e_join22 (c := c) (by omega) (X1_joinThings_l9 31 1 f') (2 ^ c) 0 FU M (by omega) (by show 2 ^ c < 2000; omega) hB h
    obtain ⟨M2, e2, g3⟩ := ih (c + 1) f' M1 (by omega) (by omega) g1 g2
    refine ⟨M2, ?_, g3⟩
    show X1_joinThings_b9 31 1 _ _ M = _
    unfold X1_joinThings_b9
    rw [if_neg (by rw [L10, le_lit (by decide) (by omega)]; omega), shl_nI (by omega)]
    exact e1.trans e2
theorem e_join {b : Bt} {M : Mem} (hB : AtB M 1 b) : ∃ M', X1_joinThings 31 1 M = some ((), M') ∧ AtB M' 1 b ∧ TbI (· ||| ·) (bT b) 1024 M' := by
  unfold X1_joinThings
  rw [show ib (0 : Int32) 1024 = true by decide, gt, rf_31_0, show (0 : Int32).toNatClampNeg = 0 by decide]
  refine e_join9 10 0 FU _ (by omega) (by decide) (hB.row (by decide) (by decide) (by decide) (by decide)) (fun s hs => ?_)
  have : s = 0 := by have : s < 1 := hs; omega
  subst this
  rw [mI1, if_pos rfl]
  have z : ∀ N, foS (· ||| ·) (bT b) 0 N = 0 := by
    intro N
    induction N with
    | zero => rfl
    | succ N ih =>
      show (if (0 : Nat).testBit N = true then _ else _) = _
      rw [Nat.zero_testBit]; exact ih
  exact (z 10).symm
/-- the best set, sets tried rising -/
def bsS (bet : Nat → Nat → Bool) (P : Nat → Bool) : Nat → Bool × Nat
  | 0 => (false, 0)
  | k + 1 => if (P k && (!(bsS bet P k).1 || bet k (bsS bet P k).2)) = true then (true, k) else bsS bet P k
theorem bsS_lt {bet : Nat → Nat → Bool} {P : Nat → Bool} : ∀ k, (bsS bet P k).1 = true → (bsS bet P k).2 < k := by
  intro k
  induction k with
  | zero => intro h; exact absurd (show false = true from h) (by decide)
  | succ k ih =>
    intro h
    unfold bsS at h ⊢
    split at h
    · rename_i c; rw [if_pos c]; exact Nat.lt_succ_self k
    · rename_i c
      rw [if_neg c]
      have := ih h
      omega
def szI (s : Bool × Nat) : Int32 := if s.1 = true then nI (pop s.2) else -6
def mbI (s : Bool × Nat) : Int32 := if s.1 = true then nI s.2 else -6
theorem pop_le (n : Nat) : pop n ≤ 10 := fb_ct_le _ 10
def less_b (k s : Nat) : Bool := decide (pop k < pop s)
def more_b (k s : Nat) : Bool := decide (pop s < pop k)
def shP (x : Int32) (b : Bt) (s : Nat) : Bool := decide (x &&& ((bE b ||| foS (· ||| ·) (bT b) s 10) ^^^ (-1 : Int32)) = 0)
theorem and_not (x e t : Int32) : (x &&& (e ^^^ (-1 : Int32))) &&& (t ^^^ (-1 : Int32)) = x &&& ((e ||| t) ^^^ (-1 : Int32)) := by
  apply Int32.toBitVec_inj.mp
  simp only [Int32.toBitVec_and, Int32.toBitVec_xor, Int32.toBitVec_or]
  have ho : ∀ i (h : i < 32), (-1 : Int32).toBitVec[i] = true := by decide
  ext i hi
  simp only [BitVec.getElem_and, BitVec.getElem_xor, BitVec.getElem_or, ho i hi]
  cases x.toBitVec[i] <;> cases e.toBitVec[i] <;> cases t.toBitVec[i] <;> rfl
theorem e_unc_l {b : Bt} {x : Int32} : ∀ r k f (M : Mem), k + r = 1024 → r < f → TbI (· ||| ·) (bT b) 1024 M → M.1 31 1 = szI (bsS less_b (shP x b) k) → M.1 31 2 = mbI (bsS less_b (shP x b) k) → ∃ M', X1_uncover_l29 31 1 f (x &&& (bE b ^^^ (-1 : Int32))) (nI k) M = some ((), M') ∧ M'.1 31 1 = szI (bsS less_b (shP x b) 1024) ∧ M'.1 31 2 = mbI (bsS less_b (shP x b) 1024) := by
  intro r
  induction r with
  | zero =>
    intro k f M hk hf h h1 h2
    obtain ⟨f', rfl⟩ : ∃ f', f = f' + 1 := ⟨f - 1, by omega⟩
    have : k = 1024 := by omega
    subst this
    exact ⟨M, rfl, h1, h2⟩
  | succ r ih =>
    intro k f M hk hf h h1 h2
    obtain ⟨f', rfl⟩ : ∃ f', f = f' + 1 := ⟨f - 1, by omega⟩
    have en : bsS less_b (shP x b) (k + 1) = if (shP x b k && (!(bsS less_b (shP x b) k).1 || less_b k (bsS less_b (shP x b) k).2)) = true then (true, k) else bsS less_b (shP x b) k := rfl
    have hlt := bsS_lt (bet := less_b) (P := shP x b) k
    have pk := pop_le k
    have ps := pop_le (bsS less_b (shP x b) k).2
    show ∃ M', X1_uncover_b29 31 1 _ _ _ M = _ ∧ _
    unfold X1_uncover_b29 X1_uncover_b76 X1_uncover_b88
    rw [if_neg (by rw [show (1024 : Int32) = nI 1024 from rfl, le_lit (by decide) (by omega)]; omega), ib_nI (by omega) (by decide), gt, rf_31_0, ix_nI (by omega), h k (by omega), and_not, e_bitCount (by omega), bs, L1]
    simp only [mw]
    rw [h1]
    by_cases cP : x &&& ((bE b ||| foS (· ||| ·) (bT b) k 10) ^^^ (-1 : Int32)) = 0
    · have hP : shP x b k = true := decide_eq_true cP
      rw [if_pos cP]
      rw [hP, Bool.true_and] at en
      cases cf : (bsS less_b (shP x b) k).1
      · rw [cf] at en
        rw [if_pos (by rfl)] at en
        rw [if_pos (by unfold szI; rw [cf]; rfl)]
        exact ih (k + 1) f' _ (by omega) (by omega) (fun s hs => by rw [mI1_ne (by decide), mI1_ne (by decide)]; exact h s hs) (by rw [en, mI1, if_neg (by decide), mI1, if_pos rfl]; rfl) (by rw [en, mI1, if_pos rfl]; rfl)
      · rw [cf] at en
        have es : szI (bsS less_b (shP x b) k) = nI (pop (bsS less_b (shP x b) k).2) := by unfold szI; rw [if_pos cf]
        rw [es, if_neg (nI_not6 (by omega))]
        have eb : (!true || less_b k (bsS less_b (shP x b) k).2) = decide (pop k < pop (bsS less_b (shP x b) k).2) := rfl
        rw [eb] at en
        by_cases cb : pop k < pop (bsS less_b (shP x b) k).2
        · rw [if_pos (decide_eq_true cb)] at en
          rw [if_neg (by rw [le_lit (by omega) (by omega)]; omega)]
          exact ih (k + 1) f' _ (by omega) (by omega) (fun s hs => by rw [mI1_ne (by decide), mI1_ne (by decide)]; exact h s hs) (by rw [en, mI1, if_neg (by decide), mI1, if_pos rfl]; rfl) (by rw [en, mI1, if_pos rfl]; rfl)
        · rw [if_neg (by rw [decide_eq_false cb]; decide)] at en
          rw [if_pos (by rw [le_lit (by omega) (by omega)]; omega)]
          exact ih (k + 1) f' M (by omega) (by omega) h (by rw [en]; exact h1) (by rw [en]; exact h2)
    · have hP : shP x b k = false := decide_eq_false cP
      rw [if_neg cP]
      rw [hP, Bool.false_and, if_neg (by decide)] at en
      exact ih (k + 1) f' M (by omega) (by omega) h (by rw [en]; exact h1) (by rw [en]; exact h2)
theorem m_shown_l {M : Mem} {b : Bt} (h : AtB M 45 b) {s : Nat} (hs : s < 1024) : ∀ r k f, k + r = 10 → r < f → X12_shownBy_l7 45 f (nI s) (bE b ||| foS (· ||| ·) (bT b) s k) (nI k) M = some (bE b ||| foS (· ||| ·) (bT b) s 10, M) := by
  intro r
  induction r with
  | zero =>
    intro k f hk hf
    obtain ⟨f', rfl⟩ : ∃ f', f = f' + 1 := ⟨f - 1, by omega⟩
    have : k = 10 := by omega
    subst this
    rfl
  | succ r ih =>
    intro k f hk hf
    obtain ⟨f', rfl⟩ : ∃ f', f = f' + 1 := ⟨f - 1, by omega⟩
    have next := ih (k + 1) f' (by omega) (by omega)
    have en : foS (· ||| ·) (bT b) s (k + 1) = if s.testBit k = true then foS (· ||| ·) (bT b) s k ||| bT b k else foS (· ||| ·) (bT b) s k := rfl
    show X12_shownBy_b7 45 _ _ _ _ M = _
    unfold X12_shownBy_b7 X12_shownBy_b32
    rw [if_neg (by rw [L10, le_lit (by decide) (by omega)]; omega), m_isIn, bs, bt_nI (by omega) (by omega)]
    simp only [bz_eq0]
    rw [ib_nI (by omega) (by decide), gt, ix_nI (by omega), h.2.1 k (by omega), L1]
    cases c : s.testBit k
    · rw [c] at en
      rw [if_pos rfl, Int32.or_zero]
      rw [if_neg (by decide)] at en
      rw [← en]; exact next
    · rw [c, if_pos rfl] at en
      rw [if_neg (by decide), Int32.or_assoc, ← en]; exact next
theorem m_shownBy {M : Mem} {b : Bt} (h : AtB M 45 b) {s : Nat} (hs : s < 1024) : X12_shownBy 45 (nI s) M = some (bE b ||| foS (· ||| ·) (bT b) s 10, M) := by
  unfold X12_shownBy
  rw [h.2.2.2.2.2.1]
  have := m_shown_l h hs 10 0 FU (by omega) (by decide)
  have e : bE b ||| foS (· ||| ·) (bT b) s 0 = bE b := Int32.or_zero
  rw [e] at this
  exact this
theorem mbI_neg {s : Bool × Nat} (h : s.1 = false) : mbI s < 0 := by
  unfold mbI
  rw [if_neg (by rw [h]; decide)]
  decide
theorem mbI_pos {s : Bool × Nat} (h : s.1 = true) : mbI s = nI s.2 := by unfold mbI; rw [h]; rfl
def ansB (w : Int32) (s : Bool × Nat) : Int32 := if w = 0 then szI s else mbI s
theorem m_show_l {M : Mem} {b : Bt} (h : AtB M 45 b) {x w : Int32} (hw : w = 0 ∨ w = 1) : ∀ r k f, k + r = 1024 → r < f → X12_show_l31 45 f x w (mbI (bsS less_b (shP x b) k)) (nI k) M = some (ansB w (bsS less_b (shP x b) 1024), M) := by
  intro r
  induction r with
  | zero =>
    intro k f hk hf
    obtain ⟨f', rfl⟩ : ∃ f', f = f' + 1 := ⟨f - 1, by omega⟩
    have : k = 1024 := by omega
    subst this
    have hlt := bsS_lt (bet := less_b) (P := shP x b) 1024
    show X12_show_b31 45 _ _ _ _ _ M = _
    unfold X12_show_b31 X12_show_b102 X12_show_b110 ansB
    rw [if_pos (by decide)]
    cases cf : (bsS less_b (shP x b) 1024).1
    · rw [if_pos (mbI_neg cf)]
      unfold szI mbI
      simp only [cf, Bool.false_eq_true, if_false, ite_self]
    · rw [mbI_pos cf, if_neg (by rw [nI_lt0 (by have := hlt cf; omega)]; exact id), m_ones (hlt cf), bs]
      unfold szI
      rw [cf]
      rcases hw with rfl | rfl <;> rfl
  | succ r ih =>
    intro k f hk hf
    obtain ⟨f', rfl⟩ : ∃ f', f = f' + 1 := ⟨f - 1, by omega⟩
    have next := ih (k + 1) f' (by omega) (by omega)
    have en : bsS less_b (shP x b) (k + 1) = if (shP x b k && (!(bsS less_b (shP x b) k).1 || less_b k (bsS less_b (shP x b) k).2)) = true then (true, k) else bsS less_b (shP x b) k := rfl
    have hlt := bsS_lt (bet := less_b) (P := shP x b) k
    have pk := pop_le k
    have ps := pop_le (bsS less_b (shP x b) k).2
    have fin : (if x &&& ((bE b ||| foS (· ||| ·) (bT b) k 10) ^^^ (-1 : Int32)) = 0 then X12_show_l31 45 f' x w (nI k) (nI (k + 1)) M else X12_show_l31 45 f' x w (mbI (bsS less_b (shP x b) k)) (nI (k + 1)) M) = X12_show_l31 45 f' x w (if shP x b k = true then nI k else mbI (bsS less_b (shP x b) k)) (nI (k + 1)) M := by
      unfold shP
      by_cases c : x &&& ((bE b ||| foS (· ||| ·) (bT b) k 10) ^^^ (-1 : Int32)) = 0
      · rw [if_pos c, if_pos (decide_eq_true c)]
      · rw [if_neg c, if_neg (by rw [decide_eq_false c]; decide)]
    show X12_show_b31 45 _ _ _ _ _ M = _
    unfold X12_show_b31 X12_show_b55 X12_show_b60 X12_show_b85 X12_show_b86
    rw [if_neg (by rw [show (1024 : Int32) = nI 1024 from rfl, le_lit (by decide) (by omega)]; omega), L1]
    simp only [show ¬ (1 : Int32) = 0 by decide, if_true, if_false]
    rw [← next, en]
    cases cf : (bsS less_b (shP x b) k).1
    · rw [if_pos (mbI_neg cf), m_shownBy h (by omega), bs]
      simp only []
      rw [fin]
      cases cP : shP x b k
      · rfl
      · rfl
    · have hm := mbI_pos cf
      have hn : ¬ mbI (bsS less_b (shP x b) k) < 0 := by rw [hm, nI_lt0 (by have := hlt cf; omega)]; exact id
      have ho : ∀ M, X12_ones (mbI (bsS less_b (shP x b) k)) M = some (nI (pop (bsS less_b (shP x b) k).2), M) := fun M => by rw [hm]; exact m_ones (by have := hlt cf; omega) M
      rw [if_neg hn, m_ones (by omega), bs]
      simp only []
      rw [ho, bs]
      simp only []
      rw [m_shownBy h (by omega), bs]
      simp only []
      rw [fin]
      have eb : (!true || less_b k (bsS less_b (shP x b) k).2) = decide (pop k < pop (bsS less_b (shP x b) k).2) := rfl
      rw [eb]
      by_cases cb : pop k < pop (bsS less_b (shP x b) k).2
      · rw [if_neg (by rw [le_lit (by omega) (by omega)]; omega), decide_eq_true cb, Bool.and_true]
        cases cP : shP x b k
        · rfl
        · rfl
      · rw [if_pos (by rw [le_lit (by omega) (by omega)]; omega), decide_eq_false cb, Bool.and_false]
        rfl
def q_show (x w : Int32) (σ : Sg) : Int32 := if ib x 256 = true then (if wi w 0 1 = true then ansB w (bsS less_b (shP x σ.1) 1024) else -2) else -2
theorem sim_show (x w : Int32) : Sim (X11_show 0 x w) (X12_show 45 x w) := by
  refine Sim_ask (q_show x w) ?_ ?_ (fun M => fr_X11_show _ _ M Sm_refl) (by decide) (fun M => fr_X12_show _ _ M Sm_refl) (by decide)
  · intro M σ ok rc
    unfold X11_show X11_show_b16 X11_show_b52 q_show X1_uncover
    simp only [e_isWithin, e_isThingSet, bs, bz_eq0]
    cases c1 : ib x 256
    · exact ⟨M, rfl⟩
    cases c2 : wi w 0 1
    · exact ⟨M, rfl⟩
    simp only [Bool.true_eq_false, if_false, if_true, rf_0_6, rf_0_0]
    obtain ⟨M1, e1, g1, g2⟩ := e_join rc.1
    rw [e1, bs]
    simp only [mw, iw]
    rw [show (mI (mI M1 31 1 (-6)) 31 2 (-6)).1 1 5 = bE σ.1 by rw [mI1_ne (by decide), mI1_ne (by decide)]; exact g1.2.2.2.2.2.1]
    obtain ⟨M2, e2, g3, g4⟩ := e_unc_l (b := σ.1) (x := x) 1024 0 FU (mI (mI M1 31 1 (-6)) 31 2 (-6)) (by omega) (by decide) (fun s hs => by rw [mI1_ne (by decide), mI1_ne (by decide)]; exact g2 s hs) (by rw [mI1, if_neg (by decide), mI1, if_pos rfl]; rfl) (by rw [mI1, if_pos rfl]; rfl)
    have e2' : X1_uncover_l29 31 1 FU (x &&& (bE σ.1 ^^^ (-1 : Int32))) 0 (mI (mI M1 31 1 (-6)) 31 2 (-6)) = some ((), M2) := e2
    rw [e2', bs]
    simp only []
    rw [g3, g4]
    unfold ansB
    refine ⟨M2, ?_⟩
    split <;> rfl
  · intro M σ ok rm
    unfold X12_show X12_show_b22 q_show
    simp only [e_in_0_255, e_in_0_1, bs, bz_eq0, wi_ib x 255 256 (by decide)]
    cases c1 : ib x 256
    · exact ⟨M, rfl⟩
    cases c2 : wi w 0 1
    · exact ⟨M, rfl⟩
    simp only [Bool.true_eq_false, if_false, if_true]
    exact ⟨M, m_show_l rm.1 (wi_01 c2) 1024 0 FU (by omega) (by decide)⟩
