/-! the class's bound over all parts of a set -/
theorem mask_ex (P : Nat → Bool) : ∀ n, ∃ q, q < 2 ^ n ∧ ∀ t, t < n → q.testBit t = P t := by
  intro n
  induction n with
  | zero => exact ⟨0, by decide, fun t ht => absurd ht (Nat.not_lt_zero t)⟩
  | succ n ih =>
    obtain ⟨q, q1, q2⟩ := ih
    cases c : P n
    · refine ⟨q, by rw [Nat.pow_succ]; omega, fun t ht => ?_⟩
      by_cases e : t = n
      · subst e; rw [c]; exact Nat.testBit_lt_two_pow q1
      · exact q2 t (by omega)
    · refine ⟨2 ^ n + q, by rw [Nat.pow_succ]; omega, fun t ht => ?_⟩
      by_cases e : t = n
      · subst e; rw [c, Nat.testBit_two_pow_add_eq, Nat.testBit_lt_two_pow q1]; rfl
      · rw [Nat.testBit_two_pow_add_gt (by omega)]; exact q2 t (by omega)
/-- the next part below -/
theorem sub_next : ∀ n S P Q : Nat, P < 2 ^ n → P &&& S = P → Q &&& S = Q → Q < P → Q ≤ (P - 1) &&& S := by
  intro n
  induction n with
  | zero => intro S P Q h1 _ _ h4; omega
  | succ n ih =>
    intro S P Q h1 h2 h3 h4
    rw [Nat.pow_succ] at h1
    have dP : P / 2 &&& S / 2 = P / 2 := by rw [← Nat.and_div_two]; rw [h2]
    have dQ : Q / 2 &&& S / 2 = Q / 2 := by rw [← Nat.and_div_two]; rw [h3]
    have mQ : Q % 2 ≤ S % 2 := by
      have : (Q &&& S) % 2 = 1 → S % 2 = 1 := by
        intro h
        have := (Nat.and_mod_two_eq_one (a := Q) (b := S)).mp h
        exact this.2
      rw [h3] at this
      omega
    have eR : ((P - 1) &&& S) / 2 = (P - 1) / 2 &&& S / 2 := Nat.and_div_two
    by_cases o : P % 2 = 1
    · have e1 : (P - 1) / 2 = P / 2 := by omega
      rw [e1, dP] at eR
      omega
    · have e1 : (P - 1) / 2 = P / 2 - 1 := by omega
      have := ih (S / 2) (P / 2) (Q / 2) (by omega) dP dQ (by omega)
      rw [e1] at eR
      have mR : S % 2 = 1 → ((P - 1) &&& S) % 2 = 1 := fun h => Nat.and_mod_two_eq_one.mpr ⟨by omega, h⟩
      omega
theorem andn_I (x y : Int32) : x &&& (y ^^^ (-1 : Int32)) = x ^^^ (x &&& y) := by
  apply Int32.toBitVec_inj.mp
  simp only [Int32.toBitVec_and, Int32.toBitVec_xor]
  have ho : ∀ i (h : i < 32), (-1 : Int32).toBitVec[i] = true := by decide
  ext i hi
  simp only [BitVec.getElem_and, BitVec.getElem_xor, ho i hi]
  cases x.toBitVec[i] <;> cases y.toBitVec[i] <;> rfl
def dif (s p : Nat) : Nat := s ^^^ (s &&& p)
theorem dif_bit (s p j : Nat) : (dif s p).testBit j = (s.testBit j && !p.testBit j) := by
  unfold dif
  rw [Nat.testBit_xor, Nat.testBit_and]
  cases s.testBit j <;> cases p.testBit j <;> rfl
theorem dif_lt {s p : Nat} {n : Nat} (h : s < 2 ^ n) : dif s p < 2 ^ n := Nat.xor_lt_two_pow h (Nat.lt_of_le_of_lt Nat.and_le_left h)
theorem andn_nI (s p : Nat) : nI s &&& (nI p ^^^ (-1 : Int32)) = nI (dif s p) := by rw [andn_I, fa_and, fb_xorI]; rfl
theorem pop_8 {n : Nat} (h : n < 256) : pop n = fb_ct (fun j => n.testBit j) 8 := by
  unfold pop
  have e := fb_ct_split (fun j => n.testBit j) 8 2
  have z : fb_ct (fun k => n.testBit (8 + k)) 2 = 0 := fb_ct_zero.mpr (fun k hk => Nat.testBit_lt_two_pow (Nat.lt_of_lt_of_le (show n < 2 ^ 8 from h) (Nat.pow_le_pow_right (by decide) (by omega))))
  rw [z] at e
  exact e

def tB (s : Nat) : Nat → Bool := fun j => s.testBit j
def HmI (H : Nat → Nat → Bool) (M : Mem) : Prop := ∀ p, p < 256 → ∃ h, h < 1024 ∧ M.1 34 p = nI h ∧ ∀ b, b < 10 → h.testBit b = hh H (tB p) b
theorem hh_cong {H : Nat → Nat → Bool} {P Q : Nat → Bool} (h : ∀ t, t < 8 → P t = Q t) (b : Nat) : hh H P b = hh H Q b := by
  unfold hh
  rw [fb_ct_cong (p := fun t => P t && H t b) (q := fun t => Q t && H t b) (fun k hk => by show (P k && H k b) = (Q k && H k b); rw [h k hk])]
theorem dD_cong {H : Nat → Nat → Bool} {S F P Q : Nat → Bool} (h : ∀ t, t < 8 → P t = Q t) : dD H S F P = dD H S F Q := by
  unfold dD
  rw [fb_ct_cong (p := fun t => S t && !P t) (q := fun t => S t && !Q t) (fun k hk => by show (S k && !P k) = (S k && !Q k); rw [h k hk]), fb_ct_cong (p := fun b => hh H P b && F b) (q := fun b => hh H Q b && F b) (fun k hk => by show (hh H P k && F k) = (hh H Q k && F k); rw [hh_cong h])]
theorem dD_pop {H : Nat → Nat → Bool} {s f p h : Nat} (hs : s < 256) (hb : ∀ b, b < 10 → h.testBit b = hh H (tB p) b) : dD H (tB s) (tB f) (tB p) = pop (dif s p) + pop (h &&& f) := by
  rw [pop_8 (show dif s p < 256 from dif_lt (n := 8) hs)]
  unfold dD pop
  rw [fb_ct_cong (p := fun t => tB s t && !tB p t) (q := fun j => (dif s p).testBit j) (fun k _ => (dif_bit s p k).symm), fb_ct_cong (p := fun b => hh H (tB p) b && tB f b) (q := fun j => (h &&& f).testBit j) (fun k hk => by show (hh H (tB p) k && f.testBit k) = (h &&& f).testBit k; rw [Nat.testBit_and, hb k hk])]
theorem e_most_l {H : Nat → Nat → Bool} {M : Mem} (hM : HmI H M) {s f : Nat} (hs : s < 256) (hf : f < 1024) : ∀ n p v fu, p ≤ n → p < fu → p &&& s = p → v ≤ 100 → (∀ Q, Q &&& s = Q → (p < Q ∨ Q = 0) → v ≤ dD H (tB s) (tB f) (tB Q)) → (∃ Q, Q &&& s = Q ∧ dD H (tB s) (tB f) (tB Q) = v) → ∃ v', X6_mostAtOnce_l8 33 fu (nI s) (nI f) (nI v) (nI p) M = some (nI v', M) ∧ (∀ Q, Q &&& s = Q → v' ≤ dD H (tB s) (tB f) (tB Q)) ∧ ∃ Q, Q &&& s = Q ∧ dD H (tB s) (tB f) (tB Q) = v' := by
  intro n
  induction n with
  | zero =>
    intro p v fu hp hfu hps hv h1 h2
    obtain ⟨fu', rfl⟩ : ∃ fu', fu = fu' + 1 := ⟨fu - 1, by omega⟩
    have : p = 0 := by omega
    subst this
    exact ⟨v, rfl, fun Q hQ => h1 Q hQ (by omega), h2⟩
  | succ n ih =>
    intro p v fu hp hfu hps hv h1 h2
    obtain ⟨fu', rfl⟩ : ∃ fu', fu = fu' + 1 := ⟨fu - 1, by omega⟩
    by_cases z : p = 0
    · subst z
      exact ⟨v, rfl, fun Q hQ => h1 Q hQ (by omega), h2⟩
    · have ple : p ≤ s := by rw [← hps]; exact Nat.and_le_right
      obtain ⟨h, hh1, hh2, hh3⟩ := hM p (by omega)
      have ed := dD_pop (f := f) hs hh3
      have l1 := pop_le (dif s p)
      have l2 := pop_le (h &&& f)
      have ld : dif s p < 1024 := Nat.lt_of_lt_of_le (show dif s p < 256 from dif_lt (n := 8) hs) (by decide)
      have lh : h &&& f < 1024 := Nat.lt_of_le_of_lt Nat.and_le_left hh1
      have hn : (p - 1) &&& s ≤ p - 1 := Nat.and_le_left
      have next := ih ((p - 1) &&& s) (min v (dD H (tB s) (tB f) (tB p))) fu' (by omega) (by omega) (by rw [Nat.and_assoc, Nat.and_self]) (by omega) (fun Q hQ hc => by
        by_cases c1 : Q = 0
        · have := h1 Q hQ (Or.inr c1); omega
        · by_cases c2 : p < Q
          · have := h1 Q hQ (Or.inl c2); omega
          · by_cases c3 : Q = p
            · subst c3; omega
            · have := sub_next 8 s p Q (show p < 2 ^ 8 by omega) hps hQ (by omega)
              omega) (by
        by_cases c : v ≤ dD H (tB s) (tB f) (tB p)
        · rw [Nat.min_eq_left c]; exact h2
        · rw [Nat.min_eq_right (by omega)]; exact ⟨p, hps, rfl⟩)
      obtain ⟨v', e1, e2⟩ := next
      refine ⟨v', ?_, e2⟩
      have e0 : X6_mostAtOnce_l8 33 (fu' + 1) (nI s) (nI f) (nI v) (nI p) M = X6_mostAtOnce_b8 33 (X6_mostAtOnce_l8 33 fu') (nI s) (nI f) (nI v) (nI p) M := rfl
      rw [e0]
      unfold X6_mostAtOnce_b8
      rw [if_neg (by rw [nI_le0 (by omega)]; exact z), andn_nI, e_bitCount ld, bs, ib_nI (by omega) (by decide), gt, rf_33_0, ix_nI (by omega)]
      simp only []
      rw [hh2, fa_and, e_bitCount lh, bs]
      simp only []
      rw [nI_add, ← ed, e_minN (by omega) (by omega), bs]
      simp only []
      rw [show nI p - (1 : Int32) = nI (p - 1) from pk_sub (b := 1) (by omega), fa_and]
      exact e1
theorem e_most {H : Nat → Nat → Bool} {M : Mem} (hM : HmI H M) {s f : Nat} (hs : s < 256) (hf : f < 1024) : ∃ v, X6_mostAtOnce 33 (nI s) (nI f) M = some (nI v, M) ∧ IsG H (tB s) (tB f) v := by
  have l1 := pop_le s
  have d0 : dD H (tB s) (tB f) (tB 0) = pop s := by
    have := dD_pop (H := H) (s := s) (f := f) (p := 0) (h := 0) hs (fun b hb => by
      rw [Nat.zero_testBit]
      cases c : hh H (tB 0) b
      · rfl
      · obtain ⟨t, -, t2, -⟩ := hh_iff.mp c
        have t3 : (0 : Nat).testBit t = true := t2
        rw [Nat.zero_testBit] at t3; exact absurd t3 (by decide))
    rw [this]
    have : dif s 0 = s := by unfold dif; rw [Nat.and_zero, Nat.xor_zero]
    rw [this, Nat.zero_and]
    show pop s + pop 0 = pop s
    have : pop 0 = 0 := by decide
    omega
  obtain ⟨v, e1, e2, Q, e3, e4⟩ := e_most_l hM hs hf s s (pop s) FU (Nat.le_refl _) (by show s < 2000; omega) (Nat.and_self s) (by omega) (fun Q hQ hc => by
    have : Q ≤ s := by rw [← hQ]; exact Nat.and_le_right
    rcases hc with h | h
    · omega
    · subst h; rw [d0]; exact Nat.le_refl _) ⟨0, Nat.zero_and s, d0⟩
  refine ⟨v, ?_, fun P hP => ?_, tB Q, fun t _ ht => ?_, e4⟩
  · unfold X6_mostAtOnce
    rw [e_bitCount (by omega), bs]
    exact e1
  · obtain ⟨q, q1, q2⟩ := mask_ex P 8
    rw [dD_cong (Q := tB q) (fun t ht => (q2 t ht).symm)]
    refine e2 q (Nat.eq_of_testBit_eq (fun j => ?_))
    rw [Nat.testBit_and]
    by_cases c : j < 8
    · cases z : q.testBit j
      · rfl
      · have : s.testBit j = true := hP j c (by rw [← q2 j c]; exact z)
        rw [this]; rfl
    · rw [Nat.testBit_lt_two_pow (Nat.lt_of_lt_of_le q1 (Nat.pow_le_pow_right (by decide) (by omega)))]; rfl
  · have h' : Q.testBit t = true := ht
    rw [← e3, Nat.testBit_and] at h'
    exact ((Bool.and_eq_true _ _).mp h').2
