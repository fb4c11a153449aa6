/-! things, each with a basket of its own: the least bound is the most that can be reached -/
def b2n (b : Bool) : Nat := if b = true then 1 else 0
theorem ct4 {p q r s : Nat → Bool} : ∀ n, (∀ k, k < n → b2n (p k) + b2n (q k) ≤ b2n (r k) + b2n (s k)) → fb_ct p n + fb_ct q n ≤ fb_ct r n + fb_ct s n := by
  intro n
  induction n with
  | zero => intro _; exact Nat.le_refl _
  | succ n ih =>
    intro h
    have h1 := ih (fun k hk => h k (by omega))
    have h2 : (if p n = true then 1 else 0) + (if q n = true then 1 else 0) ≤ (if r n = true then 1 else 0) + (if s n = true then 1 else 0) := h n (by omega)
    rw [fb_ct_succ, fb_ct_succ, fb_ct_succ, fb_ct_succ]
    omega
def hh (H : Nat → Nat → Bool) (P : Nat → Bool) (b : Nat) : Bool := decide (0 < fb_ct (fun t => P t && H t b) 8)
theorem hh_iff {H : Nat → Nat → Bool} {P : Nat → Bool} {b : Nat} : hh H P b = true ↔ ∃ t, t < 8 ∧ P t = true ∧ H t b = true := by
  unfold hh
  rw [decide_eq_true_eq, fb_ct_pos]
  constructor
  · rintro ⟨k, h1, h2⟩
    obtain ⟨a, c⟩ := (Bool.and_eq_true _ _).mp h2
    exact ⟨k, h1, a, c⟩
  · rintro ⟨k, h1, a, c⟩
    exact ⟨k, h1, by rw [a, c]; rfl⟩
def sb (P S : Nat → Bool) : Prop := ∀ t, t < 8 → P t = true → S t = true
def dD (H : Nat → Nat → Bool) (S F P : Nat → Bool) : Nat := fb_ct (fun t => S t && !P t) 8 + fb_ct (fun b => hh H P b && F b) 10
def IsG (H : Nat → Nat → Bool) (S F : Nat → Bool) (m : Nat) : Prop := (∀ P, sb P S → m ≤ dD H S F P) ∧ ∃ P, sb P S ∧ dD H S F P = m
theorem IsG.one {H : Nat → Nat → Bool} {S F : Nat → Bool} {m n : Nat} (h : IsG H S F m) (k : IsG H S F n) : m = n := by
  obtain ⟨h1, P, h2, h3⟩ := h
  obtain ⟨k1, Q, k2, k3⟩ := k
  have := h1 Q k2
  have := k1 P h2
  omega
theorem hh_or (H : Nat → Nat → Bool) (P Q : Nat → Bool) (b : Nat) : hh H (fun t => P t || Q t) b = (hh H P b || hh H Q b) := by
  apply Bool.eq_iff_iff.mpr
  rw [Bool.or_eq_true, hh_iff, hh_iff, hh_iff]
  constructor
  · rintro ⟨t, h1, h2, h3⟩
    rcases (Bool.or_eq_true _ _).mp h2 with h | h
    · exact Or.inl ⟨t, h1, h, h3⟩
    · exact Or.inr ⟨t, h1, h, h3⟩
  · rintro (⟨t, h1, h2, h3⟩ | ⟨t, h1, h2, h3⟩)
    · exact ⟨t, h1, by rw [h2, Bool.true_or], h3⟩
    · exact ⟨t, h1, by rw [h2, Bool.or_true], h3⟩
theorem hh_and {H : Nat → Nat → Bool} {P Q : Nat → Bool} {b : Nat} (h : hh H (fun t => P t && Q t) b = true) : hh H P b = true ∧ hh H Q b = true := by
  obtain ⟨t, h1, h2, h3⟩ := hh_iff.mp h
  obtain ⟨a, c⟩ := (Bool.and_eq_true _ _).mp h2
  exact ⟨hh_iff.mpr ⟨t, h1, a, h3⟩, hh_iff.mpr ⟨t, h1, c, h3⟩⟩
theorem hh_mono {H : Nat → Nat → Bool} {P Q : Nat → Bool} (h : ∀ t, t < 8 → P t = true → Q t = true) {b : Nat} (hb : hh H P b = true) : hh H Q b = true := by
  obtain ⟨t, h1, h2, h3⟩ := hh_iff.mp hb
  exact hh_iff.mpr ⟨t, h1, h t h1 h2, h3⟩
theorem dD_sub (H : Nat → Nat → Bool) (S F P Q : Nat → Bool) : dD H S F (fun t => P t || Q t) + dD H S F (fun t => P t && Q t) ≤ dD H S F P + dD H S F Q := by
  have a := ct4 (p := fun t => S t && !(P t || Q t)) (q := fun t => S t && !(P t && Q t)) (r := fun t => S t && !P t) (s := fun t => S t && !Q t) 8 (fun k _ => by
    show b2n (S k && !(P k || Q k)) + b2n (S k && !(P k && Q k)) ≤ b2n (S k && !P k) + b2n (S k && !Q k)
    cases S k <;> cases P k <;> cases Q k <;> decide)
  have c := ct4 (p := fun b => hh H (fun t => P t || Q t) b && F b) (q := fun b => hh H (fun t => P t && Q t) b && F b) (r := fun b => hh H P b && F b) (s := fun b => hh H Q b && F b) 10 (fun k _ => by
    show b2n (hh H (fun t => P t || Q t) k && F k) + b2n (hh H (fun t => P t && Q t) k && F k) ≤ b2n (hh H P k && F k) + b2n (hh H Q k && F k)
    rw [hh_or]
    have h := @hh_and H P Q k
    revert h
    cases hh H (fun t => P t && Q t) k <;> cases hh H P k <;> cases hh H Q k <;> cases F k <;> simp [b2n])
  unfold dD
  dsimp only
  omega
def rmS (S : Nat → Bool) (t : Nat) : Nat → Bool := fun j => S j && !(j == t)
theorem ct_rm {S : Nat → Bool} {t n : Nat} (ht : t < n) (hS : S t = true) : fb_ct S n = fb_ct (rmS S t) n + 1 := by
  have u := fb_ct_upd S false (i := t) (n := n) ht
  have e : fb_ct (fun k => if k = t then false else S k) n = fb_ct (rmS S t) n := fb_ct_cong (fun k _ => by
    unfold rmS
    by_cases c : k = t
    · simp [c]
    · simp [c])
  rw [e, hS, if_pos rfl, if_neg (by decide)] at u
  omega
theorem ct_le {p q : Nat → Bool} {n : Nat} (h : ∀ k, k < n → p k = true → q k = true) : fb_ct p n ≤ fb_ct q n := fb_ct_sub h
theorem sb_rm {P S : Nat → Bool} {t : Nat} (h : sb P S) : sb (rmS P t) (rmS S t) := by
  intro j hj hp
  unfold rmS at hp ⊢
  obtain ⟨a, c⟩ := (Bool.and_eq_true _ _).mp hp
  rw [h j hj a, c]; rfl
theorem out_rm {P S : Nat → Bool} {t : Nat} (ht : t < 8) (hS : S t = true) : fb_ct (fun j => rmS S t j && !rmS P t j) 8 + (if P t = true then 0 else 1) = fb_ct (fun j => S j && !P j) 8 := by
  have e : fb_ct (fun j => rmS S t j && !rmS P t j) 8 = fb_ct (rmS (fun j => S j && !P j) t) 8 := fb_ct_cong (fun k _ => by
    unfold rmS
    dsimp only
    cases S k <;> cases P k <;> cases (k == t) <;> rfl)
  rw [e]
  cases c : P t
  · rw [if_neg (by decide)]
    have := ct_rm (S := fun j => S j && !P j) (t := t) (n := 8) ht (by rw [hS, c]; rfl)
    omega
  · rw [if_pos rfl]
    refine Eq.trans (Nat.add_zero _) (fb_ct_cong (fun k _ => ?_))
    unfold rmS
    dsimp only
    by_cases z : k = t
    · subst z; rw [c]; cases S k <;> simp
    · have : (k == t) = false := by simpa using z
      rw [this]; cases S k <;> cases P k <;> rfl
theorem rmF_ct {F p : Nat → Bool} {b : Nat} (hb : b < 10) (hp : p b = true) (hF : F b = true) : fb_ct (fun j => p j && rmS F b j) 10 + 1 = fb_ct (fun j => p j && F j) 10 := by
  have := ct_rm (S := fun j => p j && F j) (t := b) (n := 10) hb (by rw [hp, hF]; rfl)
  have e : fb_ct (rmS (fun j => p j && F j) b) 10 = fb_ct (fun j => p j && rmS F b j) 10 := fb_ct_cong (fun k _ => by
    unfold rmS
    dsimp only
    cases p k <;> cases F k <;> cases (k == b) <;> rfl)
  omega
theorem rmF_le {F p : Nat → Bool} {b : Nat} : fb_ct (fun j => p j && rmS F b j) 10 ≤ fb_ct (fun j => p j && F j) 10 := ct_le (fun k _ h => by
  obtain ⟨a, c⟩ := (Bool.and_eq_true _ _).mp h
  unfold rmS at c
  obtain ⟨d, -⟩ := (Bool.and_eq_true _ _).mp c
  rw [a, d]; rfl)
theorem hh_rm_le (H : Nat → Nat → Bool) (P F : Nat → Bool) (t : Nat) : fb_ct (fun b => hh H (rmS P t) b && F b) 10 ≤ fb_ct (fun b => hh H P b && F b) 10 := ct_le (fun k _ h => by
  obtain ⟨a, c⟩ := (Bool.and_eq_true _ _).mp h
  rw [hh_mono (P := rmS P t) (Q := P) (fun j _ hj => by unfold rmS at hj; exact ((Bool.and_eq_true _ _).mp hj).1) a, c]; rfl)
theorem IsG_step {H : Nat → Nat → Bool} {S F : Nat → Bool} {t : Nat} (ht : t < 8) (hS : S t = true) {m0 : Nat} (h0 : IsG H (rmS S t) F m0) {mb : Nat → Nat} (hb : ∀ b, b < 10 → H t b = true → F b = true → IsG H (rmS S t) (rmS F b) (mb b)) {m : Nat} (l0 : m0 ≤ m) (lb : ∀ b, b < 10 → H t b = true → F b = true → mb b + 1 ≤ m) (hm : m = m0 ∨ ∃ b, b < 10 ∧ H t b = true ∧ F b = true ∧ m = mb b + 1) : IsG H S F m := by
  have low : ∀ P, sb P S → m ≤ dD H S F P := by
    intro P hP
    have o := out_rm (P := P) ht hS
    have hr := hh_rm_le H P F t
    rcases hm with rfl | ⟨b, b1, b2, b3, rfl⟩
    · have := h0.1 (rmS P t) (sb_rm hP)
      unfold dD at this ⊢
      split at o <;> omega
    · have := (hb b b1 b2 b3).1 (rmS P t) (sb_rm hP)
      unfold dD at this ⊢
      cases c : P t
      · rw [c, if_neg (by decide)] at o
        have := rmF_le (F := F) (p := hh H (rmS P t)) (b := b)
        omega
      · rw [c, if_pos rfl] at o
        have e := rmF_ct (F := F) (p := hh H P) b1 (hh_iff.mpr ⟨t, ht, c, b2⟩) b3
        have hr2 := hh_rm_le H P (rmS F b) t
        omega
  refine ⟨low, ?_⟩
  obtain ⟨k0, P0, s0, d0⟩ := h0
  have nt : ∀ P, sb P (rmS S t) → P t = false := by
    intro P hP
    cases c : P t
    · rfl
    · have := hP t ht c
      unfold rmS at this
      simp at this
  have up : ∀ P, sb P (rmS S t) → sb P S := fun P hP j hj hj2 => by
    have := hP j hj hj2
    unfold rmS at this
    exact ((Bool.and_eq_true _ _).mp this).1
  have outS : ∀ P, sb P (rmS S t) → fb_ct (fun j => rmS S t j && !P j) 8 + 1 = fb_ct (fun j => S j && !P j) 8 := by
    intro P hP
    have o := out_rm (S := S) (P := P) ht hS
    rw [nt P hP, if_neg (by decide)] at o
    rw [← o]
    congr 1
    refine fb_ct_cong (fun k hk => ?_)
    have : rmS P t k = P k := by
      unfold rmS
      by_cases z : k = t
      · subst z; rw [nt P hP]; rfl
      · have : (k == t) = false := by simpa using z
        rw [this]; cases P k <;> rfl
    rw [this]
  by_cases c : m = m0
  · subst c
    have tight : ∀ n, n ≤ 10 → ∃ Q, sb Q (rmS S t) ∧ dD H (rmS S t) F Q = m ∧ ∀ b, b < n → H t b = true → F b = true → hh H Q b = true := by
      intro n
      induction n with
      | zero => intro _; exact ⟨P0, s0, d0, fun b hb => absurd hb (Nat.not_lt_zero b)⟩
      | succ n ih =>
        intro hn
        obtain ⟨Q, q1, q2, q3⟩ := ih (by omega)
        by_cases e : H t n = true ∧ F n = true
        · obtain ⟨g1, R, r1, r2⟩ := hb n (by omega) e.1 e.2
          have l := lb n (by omega) e.1 e.2
          have kR := k0 R r1
          have rl : fb_ct (fun j => hh H R j && F j) 10 ≤ fb_ct (fun j => hh H R j && rmS F n j) 10 + 1 := by
            cases z : hh H R n
            · have : fb_ct (fun j => hh H R j && F j) 10 ≤ fb_ct (fun j => hh H R j && rmS F n j) 10 := ct_le (fun k _ h => by
                obtain ⟨a, c⟩ := (Bool.and_eq_true _ _).mp h
                by_cases y : k = n
                · subst y; rw [z] at a; exact absurd a (by decide)
                · have y' : (k == n) = false := by simpa using y
                  unfold rmS
                  rw [a, c, y']; rfl)
              omega
            · have := rmF_ct (F := F) (p := hh H R) (b := n) (by omega) z e.2
              omega
          have hRn : hh H R n = true := by
            cases z : hh H R n
            · exfalso
              have : fb_ct (fun j => hh H R j && F j) 10 ≤ fb_ct (fun j => hh H R j && rmS F n j) 10 := ct_le (fun k _ h => by
                obtain ⟨a, c⟩ := (Bool.and_eq_true _ _).mp h
                by_cases y : k = n
                · subst y; rw [z] at a; exact absurd a (by decide)
                · have y' : (k == n) = false := by simpa using y
                  unfold rmS
                  rw [a, c, y']; rfl)
              unfold dD at kR r2
              omega
            · rfl
          have dR : dD H (rmS S t) F R = m := by
            unfold dD at kR r2 ⊢
            omega
          have hu : sb (fun j => Q j || R j) (rmS S t) := fun j hj h => by
            rcases (Bool.or_eq_true _ _).mp h with h | h
            · exact q1 j hj h
            · exact r1 j hj h
          have hi : sb (fun j => Q j && R j) (rmS S t) := fun j hj h => q1 j hj ((Bool.and_eq_true _ _).mp h).1
          have su := dD_sub H (rmS S t) F Q R
          have a1 := k0 _ hu
          have a2 := k0 _ hi
          refine ⟨_, hu, by omega, fun b hbn x1 x2 => ?_⟩
          rw [hh_or]
          by_cases y : b = n
          · subst y; rw [hRn, Bool.or_true]
          · rw [q3 b (by omega) x1 x2, Bool.true_or]
        · refine ⟨Q, q1, q2, fun b hbn x1 x2 => ?_⟩
          by_cases y : b = n
          · subst y; exact absurd ⟨x1, x2⟩ e
          · exact q3 b (by omega) x1 x2
    obtain ⟨Q, q1, q2, q3⟩ := tight 10 (Nat.le_refl _)
    refine ⟨fun j => Q j || (j == t), fun j hj h => ?_, ?_⟩
    · rcases (Bool.or_eq_true _ _).mp h with h | h
      · exact up Q q1 j hj h
      · rw [show j = t by simpa using h]; exact hS
    · rw [← q2]
      unfold dD
      have e1 : fb_ct (fun j => S j && !(Q j || (j == t))) 8 = fb_ct (fun j => rmS S t j && !Q j) 8 := fb_ct_cong (fun k _ => by
        unfold rmS
        cases S k <;> cases Q k <;> cases (k == t) <;> rfl)
      have e2 : fb_ct (fun b => hh H (fun j => Q j || (j == t)) b && F b) 10 = fb_ct (fun b => hh H Q b && F b) 10 := fb_ct_cong (fun k hk => by
        rw [hh_or]
        cases y : F k
        · rw [Bool.and_false, Bool.and_false]
        · rw [Bool.and_true, Bool.and_true]
          cases z : hh H (fun j => j == t) k
          · rw [Bool.or_false]
          · obtain ⟨j, j1, j2, j3⟩ := hh_iff.mp z
            rw [show j = t by simpa using j2] at j3
            rw [q3 k hk j3 y]; rfl)
      dsimp only
      rw [e1, e2]
  · refine ⟨P0, up P0 s0, Nat.le_antisymm ?_ (low P0 (up P0 s0))⟩
    have := outS P0 s0
    unfold dD at d0 ⊢
    omega
