/-! FRAMES: which cells a function may write; by program, along the same texts -/
/-- M' is M but for the cells of W -/
def Sm (W : List Nat) (M M' : Mem) : Prop := ∀ c, c ∉ W → M'.1 c = M.1 c ∧ M'.2 c = M.2 c
def FrB {α : Type} (W : List Nat) (M0 : Mem) (o : Option (α × Mem)) : Prop := ∀ r M', o = some (r, M') → Sm W M0 M'
theorem Sm_refl {W : List Nat} {M : Mem} : Sm W M M := fun _ _ => ⟨rfl, rfl⟩
theorem Sm_trans {W : List Nat} {M M1 M2 : Mem} (h1 : Sm W M M1) (h2 : Sm W M1 M2) : Sm W M M2 := fun c hc => ⟨(h2 c hc).1.trans (h1 c hc).1, (h2 c hc).2.trans (h1 c hc).2⟩
theorem Sm_mono {W W' : List Nat} {M M1 : Mem} (h : ∀ c ∈ W', c ∈ W) (h1 : Sm W' M M1) : Sm W M M1 := fun c hc => h1 c (fun z => hc (h c z))
theorem Sm_mR {W : List Nat} {M M1 : Mem} {a : Nat} {f : Nat → Int32} (h : Sm W M M1) (ha : a ∈ W) : Sm W M (mR M1 a f) := fun c hc => ⟨(mR_ne (M := M1) (i := c) (a := a) (fun z => hc (by rw [z]; exact ha))).trans (h c hc).1, (h c hc).2⟩
theorem Sm_mI {W : List Nat} {M M1 : Mem} {a k : Nat} {x : Int32} (h : Sm W M M1) (ha : a ∈ W) : Sm W M (mI M1 a k x) := Sm_mR h ha
theorem Sm_mL {W : List Nat} {M M1 : Mem} {a k : Nat} {x : Int64} (h : Sm W M M1) (ha : a ∈ W) : Sm W M (mL M1 a k x) := fun c hc => ⟨(h c hc).1, (mRL_ne (M := M1) (i := c) (a := a) (fun z => hc (by rw [z]; exact ha))).trans (h c hc).2⟩
theorem Fr_none {α : Type} {W : List Nat} {M0 : Mem} : FrB (α := α) W M0 none := fun r M' h => by cases h
theorem Fr_ret {α : Type} {W : List Nat} {M0 M : Mem} {v : α} (h : Sm W M0 M) : FrB W M0 (some (v, M)) := fun r M' e => by cases e; exact h
theorem Fr_gd {α : Type} {W : List Nat} {M0 : Mem} {b : Bool} {o : Option (α × Mem)} (h : FrB W M0 o) : FrB W M0 (gd b o) := fun r M' e => h r M' (gd_some e).2
theorem Fr_ite {α : Type} {W : List Nat} {M0 : Mem} {c : Prop} [Decidable c] {o o2 : Option (α × Mem)} (h1 : FrB W M0 o) (h2 : FrB W M0 o2) : FrB W M0 (if c then o else o2) := by
  split
  · exact h1
  · exact h2
theorem Fr_iw {α : Type} {W : List Nat} {M0 : Mem} {v : Int32} {k : Int32 → Option (α × Mem)} (h : ∀ v, FrB W M0 (k v)) : FrB W M0 (iw v k) := h v
theorem Fr_lw {α : Type} {W : List Nat} {M0 : Mem} {v : Int64} {k : Int64 → Option (α × Mem)} (h : ∀ v, FrB W M0 (k v)) : FrB W M0 (lw v k) := h v
theorem Fr_mw {α : Type} {W : List Nat} {M0 N : Mem} {k : Mem → Option (α × Mem)} (hN : Sm W M0 N) (h : ∀ N, Sm W M0 N → FrB W M0 (k N)) : FrB W M0 (mw N k) := h N hN
theorem Fr_bind {α β : Type} {W W' : List Nat} {M0 N : Mem} {g : Option (β × Mem)} {k : β × Mem → Option (α × Mem)} (hg : FrB W' N g) (hw : ∀ c ∈ W', c ∈ W) (hN : Sm W M0 N) (hk : ∀ p : β × Mem, Sm W M0 p.2 → FrB W M0 (k p)) : FrB W M0 (g.bind k) := by
  intro r M' e
  obtain ⟨p, h1, h2⟩ := Option.bind_eq_some_iff.mp e
  exact hk p (Sm_trans hN (Sm_mono hw (hg p.1 p.2 h1))) r M' h2
set_option maxRecDepth 100000 in
theorem fr_X0_takeOver {i0 : Nat} {i1 : Nat} {M0 : Mem}  (M : Mem) (hM : Sm ([(rf i0 0), (rf i0 1), (rf i0 2), i0] : List Nat) M0 M) : FrB ([(rf i0 0), (rf i0 1), (rf i0 2), i0] : List Nat) M0 (X0_takeOver i0 i1   M) := by
  unfold X0_takeOver
  refine Fr_mw (Sm_mR hM (by simp)) (fun N1 hN1 => ?_)
  refine Fr_mw (Sm_mR hN1 (by simp)) (fun N2 hN2 => ?_)
  refine Fr_mw (Sm_mR hN2 (by simp)) (fun N3 hN3 => ?_)
  refine Fr_mw (Sm_mI hN3 (by simp)) (fun N4 hN4 => ?_)
  refine Fr_mw (Sm_mI hN4 (by simp)) (fun N5 hN5 => ?_)
  refine Fr_mw (Sm_mI hN5 (by simp)) (fun N6 hN6 => ?_)
  refine Fr_mw (Sm_mI hN6 (by simp)) (fun N7 hN7 => ?_)
  refine Fr_mw (Sm_mI hN7 (by simp)) (fun N8 hN8 => ?_)
  exact Fr_ret hN8
set_option maxRecDepth 100000 in
theorem fr_X0_putRight_b2 {i0 : Nat} {M0 : Mem} {k2 : Int32 → Mem → Option (Unit × Mem)} (hk2 : ∀ (x1 : Int32) (M : Mem), Sm ([(rf i0 0)] : List Nat) M0 M → FrB ([(rf i0 0)] : List Nat) M0 (k2 x1 M)) (x1 : Int32) (M : Mem) (hM : Sm ([(rf i0 0)] : List Nat) M0 M) : FrB ([(rf i0 0)] : List Nat) M0 (X0_putRight_b2 i0 k2 x1 M) := by
  unfold X0_putRight_b2
  refine Fr_ite ?_ ?_
  ·
    exact Fr_ret hM
  ·
    refine Fr_gd ?_
    exact hk2 _ _ (Sm_mI hM (by simp))
theorem fr_X0_putRight_l2 {i0 : Nat} {M0 : Mem} (n : Nat) : ∀ (x1 : Int32) (M : Mem), Sm ([(rf i0 0)] : List Nat) M0 M → FrB ([(rf i0 0)] : List Nat) M0 (X0_putRight_l2 i0  n x1 M) := by
  induction n with
  | zero => intro x1 M _; exact Fr_none
  | succ n ih => intro x1 M hM; exact fr_X0_putRight_b2 ih x1 M hM
set_option maxRecDepth 100000 in
theorem fr_X0_putRight {i0 : Nat} {M0 : Mem}  (M : Mem) (hM : Sm ([(rf i0 0)] : List Nat) M0 M) : FrB ([(rf i0 0)] : List Nat) M0 (X0_putRight i0   M) := by
  unfold X0_putRight
  exact fr_X0_putRight_l2  _ _ _ hM
set_option maxRecDepth 100000 in
theorem fr_X0_strangers_b23 {i0 : Nat} {M0 : Mem} {k4 : Int32 → Int32 → Mem → Option (Int32 × Mem)} (hk4 : ∀ (x1 : Int32) (x2 : Int32) (M : Mem), Sm ([] : List Nat) M0 M → FrB ([] : List Nat) M0 (k4 x1 x2 M)) (x1 : Int32) (x2 : Int32) (M : Mem) (hM : Sm ([] : List Nat) M0 M) : FrB ([] : List Nat) M0 (X0_strangers_b23 i0 k4 x1 x2 M) := by
  unfold X0_strangers_b23
  exact hk4 _ _ _ hM
set_option maxRecDepth 100000 in
theorem fr_X0_strangers_b4 {i0 : Nat} {M0 : Mem} {k4 : Int32 → Int32 → Mem → Option (Int32 × Mem)} (hk4 : ∀ (x1 : Int32) (x2 : Int32) (M : Mem), Sm ([] : List Nat) M0 M → FrB ([] : List Nat) M0 (k4 x1 x2 M)) (x1 : Int32) (x2 : Int32) (M : Mem) (hM : Sm ([] : List Nat) M0 M) : FrB ([] : List Nat) M0 (X0_strangers_b4 i0 k4 x1 x2 M) := by
  unfold X0_strangers_b4
  refine Fr_ite ?_ ?_
  ·
    exact Fr_ret hM
  ·
    refine Fr_gd ?_
    refine Fr_ite ?_ ?_
    ·
      exact fr_X0_strangers_b23 hk4 _ _ _ hM
    ·
      exact fr_X0_strangers_b23 hk4 _ _ _ hM
theorem fr_X0_strangers_l4 {i0 : Nat} {M0 : Mem} (n : Nat) : ∀ (x1 : Int32) (x2 : Int32) (M : Mem), Sm ([] : List Nat) M0 M → FrB ([] : List Nat) M0 (X0_strangers_l4 i0  n x1 x2 M) := by
  induction n with
  | zero => intro x1 x2 M _; exact Fr_none
  | succ n ih => intro x1 x2 M hM; exact fr_X0_strangers_b4 ih x1 x2 M hM
set_option maxRecDepth 100000 in
theorem fr_X0_strangers {i0 : Nat} {M0 : Mem}  (M : Mem) (hM : Sm ([] : List Nat) M0 M) : FrB ([] : List Nat) M0 (X0_strangers i0   M) := by
  unfold X0_strangers
  exact fr_X0_strangers_l4  _ _ _ _ hM
set_option maxRecDepth 100000 in
theorem fr_X0_basketHere {i0 : Nat} {M0 : Mem}  (M : Mem) (hM : Sm ([] : List Nat) M0 M) : FrB ([] : List Nat) M0 (X0_basketHere i0   M) := by
  unfold X0_basketHere
  refine Fr_gd ?_
  exact Fr_ret hM
set_option maxRecDepth 100000 in
theorem fr_X11_isIn_b14  {M0 : Mem} (s0 : Int32) (M : Mem) (hM : Sm ([] : List Nat) M0 M) : FrB ([] : List Nat) M0 (X11_isIn_b14   s0 M) := by
  unfold X11_isIn_b14
  exact Fr_gd (Fr_ret hM)
set_option maxRecDepth 100000 in
theorem fr_X11_isIn  {M0 : Mem} (x0 : Int32) (x1 : Int32) (M : Mem) (hM : Sm ([] : List Nat) M0 M) : FrB ([] : List Nat) M0 (X11_isIn   x0 x1 M) := by
  unfold X11_isIn
  refine Fr_ite ?_ ?_
  ·
    exact fr_X11_isIn_b14  _ _ hM
  ·
    exact fr_X11_isIn_b14  _ _ hM
set_option maxRecDepth 100000 in
theorem fr_X0_whyNotMoved_b23 {i0 : Nat} {M0 : Mem} (s0 : Int32) (M : Mem) (hM : Sm ([] : List Nat) M0 M) : FrB ([] : List Nat) M0 (X0_whyNotMoved_b23 i0  s0 M) := by
  unfold X0_whyNotMoved_b23
  exact Fr_ret hM
set_option maxRecDepth 100000 in
theorem fr_X0_whyNotMoved {i0 : Nat} {M0 : Mem} (x1 : Int32) (x2 : Int32) (x3 : Int32) (M : Mem) (hM : Sm ([] : List Nat) M0 M) : FrB ([] : List Nat) M0 (X0_whyNotMoved i0  x1 x2 x3 M) := by
  unfold X0_whyNotMoved
  refine Fr_bind (fr_X11_isIn _ _ _ Sm_refl) (by simp) hM (fun p1 hN1 => ?_)
  refine Fr_ite ?_ ?_
  ·
    exact Fr_ret hN1
  ·
    refine Fr_bind (fr_X11_isIn _ _ _ Sm_refl) (by simp) hN1 (fun p2 hN2 => ?_)
    refine Fr_ite ?_ ?_
    ·
      exact fr_X0_whyNotMoved_b23  _ _ hN2
    ·
      exact fr_X0_whyNotMoved_b23  _ _ hN2
set_option maxRecDepth 100000 in
theorem fr_X0_whyTooLate_b18 {i0 : Nat} {M0 : Mem} (s0 : Int32) (M : Mem) (hM : Sm ([] : List Nat) M0 M) : FrB ([] : List Nat) M0 (X0_whyTooLate_b18 i0  s0 M) := by
  unfold X0_whyTooLate_b18
  exact Fr_ret hM
set_option maxRecDepth 100000 in
theorem fr_X0_whyTooLate {i0 : Nat} {M0 : Mem} (x1 : Int32) (M : Mem) (hM : Sm ([] : List Nat) M0 M) : FrB ([] : List Nat) M0 (X0_whyTooLate i0  x1 M) := by
  unfold X0_whyTooLate
  refine Fr_ite ?_ ?_
  ·
    exact fr_X0_whyTooLate_b18  _ _ hM
  ·
    exact fr_X0_whyTooLate_b18  _ _ hM
set_option maxRecDepth 100000 in
theorem fr_J9_abs_0f7a4_b10  {M0 : Mem} (s0 : Int32) (M : Mem) (hM : Sm ([] : List Nat) M0 M) : FrB ([] : List Nat) M0 (J9_abs_0f7a4_b10   s0 M) := by
  unfold J9_abs_0f7a4_b10
  exact Fr_ret hM
set_option maxRecDepth 100000 in
theorem fr_J9_abs_0f7a4  {M0 : Mem} (x0 : Int32) (M : Mem) (hM : Sm ([] : List Nat) M0 M) : FrB ([] : List Nat) M0 (J9_abs_0f7a4   x0 M) := by
  unfold J9_abs_0f7a4
  refine Fr_ite ?_ ?_
  ·
    exact fr_J9_abs_0f7a4_b10  _ _ hM
  ·
    exact fr_J9_abs_0f7a4_b10  _ _ hM
set_option maxRecDepth 100000 in
theorem fr_X0_whyNot_b143 {i0 : Nat} {M0 : Mem} (s0 : Int32) (M : Mem) (hM : Sm ([] : List Nat) M0 M) : FrB ([] : List Nat) M0 (X0_whyNot_b143 i0  s0 M) := by
  unfold X0_whyNot_b143
  exact Fr_ret hM
set_option maxRecDepth 100000 in
theorem fr_X0_whyNot_b77 {i0 : Nat} {M0 : Mem} (s0 : Int32) (M : Mem) (hM : Sm ([] : List Nat) M0 M) : FrB ([] : List Nat) M0 (X0_whyNot_b77 i0  s0 M) := by
  unfold X0_whyNot_b77
  exact Fr_ret hM
set_option maxRecDepth 100000 in
theorem fr_X0_whyNot {i0 : Nat} {M0 : Mem} (x1 : Int32) (x2 : Int32) (M : Mem) (hM : Sm ([] : List Nat) M0 M) : FrB ([] : List Nat) M0 (X0_whyNot i0  x1 x2 M) := by
  unfold X0_whyNot
  refine Fr_ite ?_ ?_
  ·
    refine Fr_bind (fr_X0_basketHere  _ Sm_refl) (by simp) hM (fun p2 hN2 => ?_)
    refine Fr_gd ?_
    refine Fr_bind (fr_X0_whyNotMoved _ _ _ _ Sm_refl) (by simp) hN2 (fun p3 hN3 => ?_)
    exact Fr_ret hN3
  refine Fr_ite ?_ ?_
  ·
    refine Fr_bind (fr_X0_basketHere  _ Sm_refl) (by simp) hM (fun p4 hN4 => ?_)
    refine Fr_gd ?_
    refine Fr_bind (fr_X0_whyNotMoved _ _ _ _ Sm_refl) (by simp) hN4 (fun p5 hN5 => ?_)
    exact Fr_ret hN5
  refine Fr_ite ?_ ?_
  ·
    refine Fr_ite ?_ ?_
    ·
      exact fr_X0_whyNot_b143  _ _ hM
    ·
      exact fr_X0_whyNot_b143  _ _ hM
  refine Fr_ite ?_ ?_
  ·
    refine Fr_bind (fr_X0_basketHere  _ Sm_refl) (by simp) hM (fun p6 hN6 => ?_)
    refine Fr_gd ?_
    refine Fr_bind (fr_X0_whyTooLate _ _ Sm_refl) (by simp) hN6 (fun p7 hN7 => ?_)
    exact Fr_ret hN7
  refine Fr_ite ?_ ?_
  ·
    refine Fr_ite ?_ ?_
    ·
      exact fr_X0_whyNot_b77  _ _ hM
    ·
      refine Fr_bind (fr_J9_abs_0f7a4 _ _ Sm_refl) (by simp) hM (fun p8 hN8 => ?_)
      refine Fr_bind (fr_X0_whyTooLate _ _ Sm_refl) (by simp) hN8 (fun p9 hN9 => ?_)
      exact fr_X0_whyNot_b77  _ _ hN9
  refine Fr_bind (fr_X0_whyTooLate _ _ Sm_refl) (by simp) hM (fun p10 hN10 => ?_)
  exact Fr_ret hN10
set_option maxRecDepth 100000 in
theorem fr_X0_perform_b220 {i0 : Nat} {M0 : Mem}  (M : Mem) (hM : Sm ([(rf i0 0), (rf i0 1), i0] : List Nat) M0 M) : FrB ([(rf i0 0), (rf i0 1), i0] : List Nat) M0 (X0_perform_b220 i0   M) := by
  unfold X0_perform_b220
  exact Fr_ret hM
set_option maxRecDepth 100000 in
theorem fr_X0_perform {i0 : Nat} {M0 : Mem} (x1 : Int32) (x2 : Int32) (M : Mem) (hM : Sm ([(rf i0 0), (rf i0 1), i0] : List Nat) M0 M) : FrB ([(rf i0 0), (rf i0 1), i0] : List Nat) M0 (X0_perform i0  x1 x2 M) := by
  unfold X0_perform
  refine Fr_bind (fr_X0_basketHere  _ Sm_refl) (by simp) hM (fun p1 hN1 => ?_)
  refine Fr_ite ?_ ?_
  ·
    refine Fr_mw (Sm_mI hN1 (by simp)) (fun N3 hN3 => ?_)
    refine Fr_gd ?_
    refine Fr_gd ?_
    refine Fr_mw (Sm_mI hN3 (by simp)) (fun N4 hN4 => ?_)
    exact fr_X0_perform_b220   _ hN4
  refine Fr_ite ?_ ?_
  ·
    refine Fr_gd ?_
    refine Fr_gd ?_
    refine Fr_mw (Sm_mI hN1 (by simp)) (fun N5 hN5 => ?_)
    refine Fr_mw (Sm_mI hN5 (by simp)) (fun N6 hN6 => ?_)
    refine Fr_mw (Sm_mI hN6 (by simp)) (fun N7 hN7 => ?_)
    exact fr_X0_perform_b220   _ hN7
  refine Fr_ite ?_ ?_
  ·
    refine Fr_gd ?_
    refine Fr_gd ?_
    refine Fr_mw (Sm_mI hN1 (by simp)) (fun N8 hN8 => ?_)
    refine Fr_gd ?_
    refine Fr_mw (Sm_mI hN8 (by simp)) (fun N9 hN9 => ?_)
    exact fr_X0_perform_b220   _ hN9
  refine Fr_ite ?_ ?_
  ·
    refine Fr_gd ?_
    refine Fr_mw (Sm_mI hN1 (by simp)) (fun N10 hN10 => ?_)
    refine Fr_gd ?_
    refine Fr_mw (Sm_mI hN10 (by simp)) (fun N11 hN11 => ?_)
    exact fr_X0_perform_b220   _ hN11
  refine Fr_ite ?_ ?_
  ·
    refine Fr_bind (fr_J9_abs_0f7a4 _ _ Sm_refl) (by simp) hN1 (fun p12 hN12 => ?_)
    refine Fr_mw (Sm_mI hN12 (by simp)) (fun N13 hN13 => ?_)
    refine Fr_mw (Sm_mI hN13 (by simp)) (fun N14 hN14 => ?_)
    exact fr_X0_perform_b220   _ hN14
  refine Fr_mw (Sm_mI hN1 (by simp)) (fun N15 hN15 => ?_)
  exact fr_X0_perform_b220   _ hN15
set_option maxRecDepth 100000 in
theorem fr_X1_sumMinutes_b35 {i0 : Nat} {i1 : Nat} {M0 : Mem} {k9 : Int32 → Mem → Option (Unit × Mem)} (hk9 : ∀ (x2 : Int32) (M : Mem), Sm ([(rf i0 0)] : List Nat) M0 M → FrB ([(rf i0 0)] : List Nat) M0 (k9 x2 M)) {k35 : Int32 → Int32 → Int32 → Int32 → Mem → Option (Unit × Mem)} (hk35 : ∀ (x2 : Int32) (x3 : Int32) (x4 : Int32) (x5 : Int32) (M : Mem), Sm ([(rf i0 0)] : List Nat) M0 M → FrB ([(rf i0 0)] : List Nat) M0 (k35 x2 x3 x4 x5 M)) (x2 : Int32) (x3 : Int32) (x4 : Int32) (x5 : Int32) (M : Mem) (hM : Sm ([(rf i0 0)] : List Nat) M0 M) : FrB ([(rf i0 0)] : List Nat) M0 (X1_sumMinutes_b35 i0 i1 k9 k35 x2 x3 x4 x5 M) := by
  unfold X1_sumMinutes_b35
  refine Fr_ite ?_ ?_
  ·
    exact hk9 _ _ hM
  ·
    refine Fr_gd ?_
    refine Fr_gd ?_
    exact hk35 _ _ _ _ _ (Sm_mI hM (by simp))
theorem fr_X1_sumMinutes_l35 {i0 : Nat} {i1 : Nat} {M0 : Mem} {k9 : Int32 → Mem → Option (Unit × Mem)} (hk9 : ∀ (x2 : Int32) (M : Mem), Sm ([(rf i0 0)] : List Nat) M0 M → FrB ([(rf i0 0)] : List Nat) M0 (k9 x2 M)) (n : Nat) : ∀ (x2 : Int32) (x3 : Int32) (x4 : Int32) (x5 : Int32) (M : Mem), Sm ([(rf i0 0)] : List Nat) M0 M → FrB ([(rf i0 0)] : List Nat) M0 (X1_sumMinutes_l35 i0 i1 k9 n x2 x3 x4 x5 M) := by
  induction n with
  | zero => intro x2 x3 x4 x5 M _; exact Fr_none
  | succ n ih => intro x2 x3 x4 x5 M hM; exact fr_X1_sumMinutes_b35 hk9 ih x2 x3 x4 x5 M hM
set_option maxRecDepth 100000 in
theorem fr_X1_sumMinutes_b9 {i0 : Nat} {i1 : Nat} {M0 : Mem} {k9 : Int32 → Mem → Option (Unit × Mem)} (hk9 : ∀ (x2 : Int32) (M : Mem), Sm ([(rf i0 0)] : List Nat) M0 M → FrB ([(rf i0 0)] : List Nat) M0 (k9 x2 M)) (x2 : Int32) (M : Mem) (hM : Sm ([(rf i0 0)] : List Nat) M0 M) : FrB ([(rf i0 0)] : List Nat) M0 (X1_sumMinutes_b9 i0 i1 k9 x2 M) := by
  unfold X1_sumMinutes_b9
  refine Fr_ite ?_ ?_
  ·
    exact Fr_ret hM
  ·
    refine Fr_gd ?_
    refine Fr_gd ?_
    refine Fr_iw (fun v1 => ?_)
    exact fr_X1_sumMinutes_l35 hk9 _ _ _ _ _ _ hM
theorem fr_X1_sumMinutes_l9 {i0 : Nat} {i1 : Nat} {M0 : Mem} (n : Nat) : ∀ (x2 : Int32) (M : Mem), Sm ([(rf i0 0)] : List Nat) M0 M → FrB ([(rf i0 0)] : List Nat) M0 (X1_sumMinutes_l9 i0 i1  n x2 M) := by
  induction n with
  | zero => intro x2 M _; exact Fr_none
  | succ n ih => intro x2 M hM; exact fr_X1_sumMinutes_b9 ih x2 M hM
set_option maxRecDepth 100000 in
theorem fr_X1_sumMinutes {i0 : Nat} {i1 : Nat} {M0 : Mem}  (M : Mem) (hM : Sm ([(rf i0 0)] : List Nat) M0 M) : FrB ([(rf i0 0)] : List Nat) M0 (X1_sumMinutes i0 i1   M) := by
  unfold X1_sumMinutes
  refine Fr_gd ?_
  exact fr_X1_sumMinutes_l9  _ _ _ (Sm_mI hM (by simp))
set_option maxRecDepth 100000 in
theorem fr_J6_bitCount_0f7a4  {M0 : Mem} (x0 : Int32) (M : Mem) (hM : Sm ([] : List Nat) M0 M) : FrB ([] : List Nat) M0 (J6_bitCount_0f7a4   x0 M) := by
  unfold J6_bitCount_0f7a4
  refine Fr_iw (fun v1 => ?_)
  refine Fr_iw (fun v2 => ?_)
  refine Fr_iw (fun v3 => ?_)
  refine Fr_iw (fun v4 => ?_)
  refine Fr_iw (fun v5 => ?_)
  exact Fr_ret hM
set_option maxRecDepth 100000 in
theorem fr_J9_min_7cf53_b10  {M0 : Mem} (s0 : Int32) (M : Mem) (hM : Sm ([] : List Nat) M0 M) : FrB ([] : List Nat) M0 (J9_min_7cf53_b10   s0 M) := by
  unfold J9_min_7cf53_b10
  exact Fr_ret hM
set_option maxRecDepth 100000 in
theorem fr_J9_min_7cf53  {M0 : Mem} (x0 : Int32) (x1 : Int32) (M : Mem) (hM : Sm ([] : List Nat) M0 M) : FrB ([] : List Nat) M0 (J9_min_7cf53   x0 x1 M) := by
  unfold J9_min_7cf53
  refine Fr_ite ?_ ?_
  ·
    exact fr_J9_min_7cf53_b10  _ _ hM
  ·
    exact fr_J9_min_7cf53_b10  _ _ hM
set_option maxRecDepth 100000 in
theorem fr_X1_walk_b59  {M0 : Mem} (x1 : Int32) (x2 : Int32) (x4 : Int32) (x5 : Int32) (M : Mem) (hM : Sm ([] : List Nat) M0 M) : FrB ([] : List Nat) M0 (X1_walk_b59   x1 x2 x4 x5 M) := by
  unfold X1_walk_b59
  refine Fr_bind (fr_J9_min_7cf53 _ _ _ Sm_refl) (by simp) hM (fun p1 hN1 => ?_)
  exact Fr_ret hN1
set_option maxRecDepth 100000 in
theorem fr_X1_walk_b39  {M0 : Mem} {k39 : Int32 → Int32 → Int32 → Int32 → Int32 → Mem → Option (Int32 × Mem)} (hk39 : ∀ (x1 : Int32) (x2 : Int32) (x3 : Int32) (x4 : Int32) (x5 : Int32) (M : Mem), Sm ([] : List Nat) M0 M → FrB ([] : List Nat) M0 (k39 x1 x2 x3 x4 x5 M)) (x1 : Int32) (x2 : Int32) (x3 : Int32) (x4 : Int32) (x5 : Int32) (M : Mem) (hM : Sm ([] : List Nat) M0 M) : FrB ([] : List Nat) M0 (X1_walk_b39  k39 x1 x2 x3 x4 x5 M) := by
  unfold X1_walk_b39
  refine Fr_ite ?_ ?_
  ·
    exact fr_X1_walk_b59  _ _ _ _ _ hM
  ·
    refine Fr_bind (fr_X11_isIn _ _ _ Sm_refl) (by simp) hM (fun p1 hN1 => ?_)
    refine Fr_ite ?_ ?_
    ·
      exact hk39 _ _ _ _ _ _ hN1
    ·
      exact fr_X1_walk_b59  _ _ _ _ _ hN1
theorem fr_X1_walk_l39  {M0 : Mem} (n : Nat) : ∀ (x1 : Int32) (x2 : Int32) (x3 : Int32) (x4 : Int32) (x5 : Int32) (M : Mem), Sm ([] : List Nat) M0 M → FrB ([] : List Nat) M0 (X1_walk_l39   n x1 x2 x3 x4 x5 M) := by
  induction n with
  | zero => intro x1 x2 x3 x4 x5 M _; exact Fr_none
  | succ n ih => intro x1 x2 x3 x4 x5 M hM; exact fr_X1_walk_b39 ih x1 x2 x3 x4 x5 M hM
set_option maxRecDepth 100000 in
theorem fr_X1_walk_b35  {M0 : Mem} (x1 : Int32) (x2 : Int32) (x3 : Int32) (x4 : Int32) (M : Mem) (hM : Sm ([] : List Nat) M0 M) : FrB ([] : List Nat) M0 (X1_walk_b35   x1 x2 x3 x4 M) := by
  unfold X1_walk_b35
  exact fr_X1_walk_l39  _ _ _ _ _ _ _ hM
set_option maxRecDepth 100000 in
theorem fr_X1_walk_b13  {M0 : Mem} {k13 : Int32 → Int32 → Int32 → Int32 → Mem → Option (Int32 × Mem)} (hk13 : ∀ (x1 : Int32) (x2 : Int32) (x3 : Int32) (x4 : Int32) (M : Mem), Sm ([] : List Nat) M0 M → FrB ([] : List Nat) M0 (k13 x1 x2 x3 x4 M)) (x1 : Int32) (x2 : Int32) (x3 : Int32) (x4 : Int32) (M : Mem) (hM : Sm ([] : List Nat) M0 M) : FrB ([] : List Nat) M0 (X1_walk_b13  k13 x1 x2 x3 x4 M) := by
  unfold X1_walk_b13
  refine Fr_ite ?_ ?_
  ·
    exact fr_X1_walk_b35  _ _ _ _ _ hM
  ·
    refine Fr_bind (fr_X11_isIn _ _ _ Sm_refl) (by simp) hM (fun p1 hN1 => ?_)
    refine Fr_ite ?_ ?_
    ·
      exact hk13 _ _ _ _ _ hN1
    ·
      exact fr_X1_walk_b35  _ _ _ _ _ hN1
theorem fr_X1_walk_l13  {M0 : Mem} (n : Nat) : ∀ (x1 : Int32) (x2 : Int32) (x3 : Int32) (x4 : Int32) (M : Mem), Sm ([] : List Nat) M0 M → FrB ([] : List Nat) M0 (X1_walk_l13   n x1 x2 x3 x4 M) := by
  induction n with
  | zero => intro x1 x2 x3 x4 M _; exact Fr_none
  | succ n ih => intro x1 x2 x3 x4 M hM; exact fr_X1_walk_b13 ih x1 x2 x3 x4 M hM
set_option maxRecDepth 100000 in
theorem fr_X1_walk  {M0 : Mem} (x0 : Int32) (x1 : Int32) (x2 : Int32) (M : Mem) (hM : Sm ([] : List Nat) M0 M) : FrB ([] : List Nat) M0 (X1_walk   x0 x1 x2 M) := by
  unfold X1_walk
  refine Fr_iw (fun v1 => ?_)
  exact fr_X1_walk_l13  _ _ _ _ _ _ hM
set_option maxRecDepth 100000 in
theorem fr_X1_planRound_b88 {i0 : Nat} {i1 : Nat} {M0 : Mem} {k30 : Int32 → Int32 → Int32 → Mem → Option (Unit × Mem)} (hk30 : ∀ (x2 : Int32) (x3 : Int32) (x4 : Int32) (M : Mem), Sm ([(rf i0 0), i0] : List Nat) M0 M → FrB ([(rf i0 0), i0] : List Nat) M0 (k30 x2 x3 x4 M)) (x2 : Int32) (x3 : Int32) (x4 : Int32) (M : Mem) (hM : Sm ([(rf i0 0), i0] : List Nat) M0 M) : FrB ([(rf i0 0), i0] : List Nat) M0 (X1_planRound_b88 i0 i1 k30 x2 x3 x4 M) := by
  unfold X1_planRound_b88
  exact hk30 _ _ _ _ hM
set_option maxRecDepth 100000 in
theorem fr_X1_planRound_b30 {i0 : Nat} {i1 : Nat} {M0 : Mem} {k30 : Int32 → Int32 → Int32 → Mem → Option (Unit × Mem)} (hk30 : ∀ (x2 : Int32) (x3 : Int32) (x4 : Int32) (M : Mem), Sm ([(rf i0 0), i0] : List Nat) M0 M → FrB ([(rf i0 0), i0] : List Nat) M0 (k30 x2 x3 x4 M)) (x2 : Int32) (x3 : Int32) (x4 : Int32) (M : Mem) (hM : Sm ([(rf i0 0), i0] : List Nat) M0 M) : FrB ([(rf i0 0), i0] : List Nat) M0 (X1_planRound_b30 i0 i1 k30 x2 x3 x4 M) := by
  unfold X1_planRound_b30
  refine Fr_ite ?_ ?_
  ·
    exact Fr_ret hM
  ·
    refine Fr_bind (fr_J6_bitCount_0f7a4 _ _ Sm_refl) (by simp) hM (fun p1 hN1 => ?_)
    refine Fr_ite ?_ ?_
    ·
      exact fr_X1_planRound_b88 hk30 _ _ _ _ hN1
    ·
      refine Fr_gd ?_
      refine Fr_bind (fr_X1_walk _ _ _ _ Sm_refl) (by simp) hN1 (fun p2 hN2 => ?_)
      refine Fr_ite ?_ ?_
      ·
        exact fr_X1_planRound_b88 hk30 _ _ _ _ hN2
      ·
        refine Fr_mw (Sm_mI hN2 (by simp)) (fun N3 hN3 => ?_)
        refine Fr_mw (Sm_mI hN3 (by simp)) (fun N4 hN4 => ?_)
        exact fr_X1_planRound_b88 hk30 _ _ _ _ hN4
theorem fr_X1_planRound_l30 {i0 : Nat} {i1 : Nat} {M0 : Mem} (n : Nat) : ∀ (x2 : Int32) (x3 : Int32) (x4 : Int32) (M : Mem), Sm ([(rf i0 0), i0] : List Nat) M0 M → FrB ([(rf i0 0), i0] : List Nat) M0 (X1_planRound_l30 i0 i1  n x2 x3 x4 M) := by
  induction n with
  | zero => intro x2 x3 x4 M _; exact Fr_none
  | succ n ih => intro x2 x3 x4 M hM; exact fr_X1_planRound_b30 ih x2 x3 x4 M hM
set_option maxRecDepth 100000 in
theorem fr_X1_planRound {i0 : Nat} {i1 : Nat} {M0 : Mem} (x2 : Int32) (M : Mem) (hM : Sm ([(rf i0 0), i0] : List Nat) M0 M) : FrB ([(rf i0 0), i0] : List Nat) M0 (X1_planRound i0 i1  x2 M) := by
  unfold X1_planRound
  refine Fr_bind (fr_X1_sumMinutes  _ Sm_refl) (by simp) hM (fun p1 hN1 => ?_)
  refine Fr_mw (Sm_mI hN1 (by simp)) (fun N2 hN2 => ?_)
  refine Fr_mw (Sm_mI hN2 (by simp)) (fun N3 hN3 => ?_)
  exact fr_X1_planRound_l30  _ _ _ _ _ hN3
set_option maxRecDepth 100000 in
theorem fr_X1_joinThings_b22 {i0 : Nat} {i1 : Nat} {M0 : Mem} {k9 : Int32 → Mem → Option (Unit × Mem)} (hk9 : ∀ (x2 : Int32) (M : Mem), Sm ([(rf i0 0)] : List Nat) M0 M → FrB ([(rf i0 0)] : List Nat) M0 (k9 x2 M)) {k22 : Int32 → Int32 → Int32 → Mem → Option (Unit × Mem)} (hk22 : ∀ (x2 : Int32) (x3 : Int32) (x4 : Int32) (M : Mem), Sm ([(rf i0 0)] : List Nat) M0 M → FrB ([(rf i0 0)] : List Nat) M0 (k22 x2 x3 x4 M)) (x2 : Int32) (x3 : Int32) (x4 : Int32) (M : Mem) (hM : Sm ([(rf i0 0)] : List Nat) M0 M) : FrB ([(rf i0 0)] : List Nat) M0 (X1_joinThings_b22 i0 i1 k9 k22 x2 x3 x4 M) := by
  unfold X1_joinThings_b22
  refine Fr_ite ?_ ?_
  ·
    exact hk9 _ _ hM
  ·
    refine Fr_gd ?_
    refine Fr_gd ?_
    refine Fr_gd ?_
    exact hk22 _ _ _ _ (Sm_mI hM (by simp))
theorem fr_X1_joinThings_l22 {i0 : Nat} {i1 : Nat} {M0 : Mem} {k9 : Int32 → Mem → Option (Unit × Mem)} (hk9 : ∀ (x2 : Int32) (M : Mem), Sm ([(rf i0 0)] : List Nat) M0 M → FrB ([(rf i0 0)] : List Nat) M0 (k9 x2 M)) (n : Nat) : ∀ (x2 : Int32) (x3 : Int32) (x4 : Int32) (M : Mem), Sm ([(rf i0 0)] : List Nat) M0 M → FrB ([(rf i0 0)] : List Nat) M0 (X1_joinThings_l22 i0 i1 k9 n x2 x3 x4 M) := by
  induction n with
  | zero => intro x2 x3 x4 M _; exact Fr_none
  | succ n ih => intro x2 x3 x4 M hM; exact fr_X1_joinThings_b22 hk9 ih x2 x3 x4 M hM
set_option maxRecDepth 100000 in
theorem fr_X1_joinThings_b9 {i0 : Nat} {i1 : Nat} {M0 : Mem} {k9 : Int32 → Mem → Option (Unit × Mem)} (hk9 : ∀ (x2 : Int32) (M : Mem), Sm ([(rf i0 0)] : List Nat) M0 M → FrB ([(rf i0 0)] : List Nat) M0 (k9 x2 M)) (x2 : Int32) (M : Mem) (hM : Sm ([(rf i0 0)] : List Nat) M0 M) : FrB ([(rf i0 0)] : List Nat) M0 (X1_joinThings_b9 i0 i1 k9 x2 M) := by
  unfold X1_joinThings_b9
  refine Fr_ite ?_ ?_
  ·
    exact Fr_ret hM
  ·
    exact fr_X1_joinThings_l22 hk9 _ _ _ _ _ hM
theorem fr_X1_joinThings_l9 {i0 : Nat} {i1 : Nat} {M0 : Mem} (n : Nat) : ∀ (x2 : Int32) (M : Mem), Sm ([(rf i0 0)] : List Nat) M0 M → FrB ([(rf i0 0)] : List Nat) M0 (X1_joinThings_l9 i0 i1  n x2 M) := by
  induction n with
  | zero => intro x2 M _; exact Fr_none
  | succ n ih => intro x2 M hM; exact fr_X1_joinThings_b9 ih x2 M hM
set_option maxRecDepth 100000 in
theorem fr_X1_joinThings {i0 : Nat} {i1 : Nat} {M0 : Mem}  (M : Mem) (hM : Sm ([(rf i0 0)] : List Nat) M0 M) : FrB ([(rf i0 0)] : List Nat) M0 (X1_joinThings i0 i1   M) := by
  unfold X1_joinThings
  refine Fr_gd ?_
  exact fr_X1_joinThings_l9  _ _ _ (Sm_mI hM (by simp))
set_option maxRecDepth 100000 in
theorem fr_X1_uncover_b88 {i0 : Nat} {i1 : Nat} {M0 : Mem} {k29 : Int32 → Int32 → Mem → Option (Unit × Mem)} (hk29 : ∀ (x3 : Int32) (x4 : Int32) (M : Mem), Sm ([(rf i0 0), i0] : List Nat) M0 M → FrB ([(rf i0 0), i0] : List Nat) M0 (k29 x3 x4 M)) (x3 : Int32) (x4 : Int32) (M : Mem) (hM : Sm ([(rf i0 0), i0] : List Nat) M0 M) : FrB ([(rf i0 0), i0] : List Nat) M0 (X1_uncover_b88 i0 i1 k29 x3 x4 M) := by
  unfold X1_uncover_b88
  exact hk29 _ _ _ hM
set_option maxRecDepth 100000 in
theorem fr_X1_uncover_b76 {i0 : Nat} {i1 : Nat} {M0 : Mem} {k29 : Int32 → Int32 → Mem → Option (Unit × Mem)} (hk29 : ∀ (x3 : Int32) (x4 : Int32) (M : Mem), Sm ([(rf i0 0), i0] : List Nat) M0 M → FrB ([(rf i0 0), i0] : List Nat) M0 (k29 x3 x4 M)) (x3 : Int32) (x4 : Int32) (x5 : Int32) (M : Mem) (hM : Sm ([(rf i0 0), i0] : List Nat) M0 M) : FrB ([(rf i0 0), i0] : List Nat) M0 (X1_uncover_b76 i0 i1 k29 x3 x4 x5 M) := by
  unfold X1_uncover_b76
  refine Fr_mw (Sm_mI hM (by simp)) (fun N1 hN1 => ?_)
  refine Fr_mw (Sm_mI hN1 (by simp)) (fun N2 hN2 => ?_)
  exact fr_X1_uncover_b88 hk29 _ _ _ hN2
set_option maxRecDepth 100000 in
theorem fr_X1_uncover_b29 {i0 : Nat} {i1 : Nat} {M0 : Mem} {k29 : Int32 → Int32 → Mem → Option (Unit × Mem)} (hk29 : ∀ (x3 : Int32) (x4 : Int32) (M : Mem), Sm ([(rf i0 0), i0] : List Nat) M0 M → FrB ([(rf i0 0), i0] : List Nat) M0 (k29 x3 x4 M)) (x3 : Int32) (x4 : Int32) (M : Mem) (hM : Sm ([(rf i0 0), i0] : List Nat) M0 M) : FrB ([(rf i0 0), i0] : List Nat) M0 (X1_uncover_b29 i0 i1 k29 x3 x4 M) := by
  unfold X1_uncover_b29
  refine Fr_ite ?_ ?_
  ·
    exact Fr_ret hM
  ·
    refine Fr_gd ?_
    refine Fr_ite ?_ ?_
    ·
      refine Fr_bind (fr_J6_bitCount_0f7a4 _ _ Sm_refl) (by simp) hM (fun p1 hN1 => ?_)
      refine Fr_ite ?_ ?_
      ·
        exact fr_X1_uncover_b76 hk29 _ _ _ _ hN1
      ·
        refine Fr_ite ?_ ?_
        ·
          exact fr_X1_uncover_b88 hk29 _ _ _ hN1
        ·
          exact fr_X1_uncover_b76 hk29 _ _ _ _ hN1
    ·
      exact fr_X1_uncover_b88 hk29 _ _ _ hM
theorem fr_X1_uncover_l29 {i0 : Nat} {i1 : Nat} {M0 : Mem} (n : Nat) : ∀ (x3 : Int32) (x4 : Int32) (M : Mem), Sm ([(rf i0 0), i0] : List Nat) M0 M → FrB ([(rf i0 0), i0] : List Nat) M0 (X1_uncover_l29 i0 i1  n x3 x4 M) := by
  induction n with
  | zero => intro x3 x4 M _; exact Fr_none
  | succ n ih => intro x3 x4 M hM; exact fr_X1_uncover_b29 ih x3 x4 M hM
set_option maxRecDepth 100000 in
theorem fr_X1_uncover {i0 : Nat} {i1 : Nat} {M0 : Mem} (x2 : Int32) (M : Mem) (hM : Sm ([(rf i0 0), i0] : List Nat) M0 M) : FrB ([(rf i0 0), i0] : List Nat) M0 (X1_uncover i0 i1  x2 M) := by
  unfold X1_uncover
  refine Fr_bind (fr_X1_joinThings  _ Sm_refl) (by simp) hM (fun p1 hN1 => ?_)
  refine Fr_mw (Sm_mI hN1 (by simp)) (fun N2 hN2 => ?_)
  refine Fr_mw (Sm_mI hN2 (by simp)) (fun N3 hN3 => ?_)
  refine Fr_iw (fun v4 => ?_)
  exact fr_X1_uncover_l29  _ _ _ _ hN3
set_option maxRecDepth 100000 in
theorem fr_X11_isWithin_b15  {M0 : Mem} (s0 : Int32) (M : Mem) (hM : Sm ([] : List Nat) M0 M) : FrB ([] : List Nat) M0 (X11_isWithin_b15   s0 M) := by
  unfold X11_isWithin_b15
  exact Fr_gd (Fr_ret hM)
set_option maxRecDepth 100000 in
theorem fr_X11_isWithin_b14  {M0 : Mem}  (M : Mem) (hM : Sm ([] : List Nat) M0 M) : FrB ([] : List Nat) M0 (X11_isWithin_b14    M) := by
  unfold X11_isWithin_b14
  exact fr_X11_isWithin_b15  _ _ hM
set_option maxRecDepth 100000 in
theorem fr_X11_isWithin  {M0 : Mem} (x0 : Int32) (x1 : Int32) (x2 : Int32) (M : Mem) (hM : Sm ([] : List Nat) M0 M) : FrB ([] : List Nat) M0 (X11_isWithin   x0 x1 x2 M) := by
  unfold X11_isWithin
  refine Fr_ite ?_ ?_
  ·
    exact fr_X11_isWithin_b14   _ hM
  ·
    refine Fr_ite ?_ ?_
    ·
      exact fr_X11_isWithin_b14   _ hM
    ·
      exact fr_X11_isWithin_b15  _ _ hM
set_option maxRecDepth 100000 in
theorem fr_X11_isCabin  {M0 : Mem} (x0 : Int32) (M : Mem) (hM : Sm ([] : List Nat) M0 M) : FrB ([] : List Nat) M0 (X11_isCabin   x0 M) := by
  unfold X11_isCabin
  refine Fr_bind (fr_X11_isWithin _ _ _ _ Sm_refl) (by simp) hM (fun p1 hN1 => ?_)
  exact Fr_gd (Fr_ret hN1)
set_option maxRecDepth 100000 in
theorem fr_X8_isLetter  {M0 : Mem} (x0 : Int32) (M : Mem) (hM : Sm ([] : List Nat) M0 M) : FrB ([] : List Nat) M0 (X8_isLetter   x0 M) := by
  unfold X8_isLetter
  refine Fr_bind (fr_X11_isCabin _ _ Sm_refl) (by simp) hM (fun p1 hN1 => ?_)
  exact Fr_gd (Fr_ret hN1)
set_option maxRecDepth 100000 in
theorem fr_X8_kindAt_b23 {i0 : Nat} {M0 : Mem} (s0 : Int32) (M : Mem) (hM : Sm ([] : List Nat) M0 M) : FrB ([] : List Nat) M0 (X8_kindAt_b23 i0  s0 M) := by
  unfold X8_kindAt_b23
  exact Fr_ret hM
set_option maxRecDepth 100000 in
theorem fr_X8_kindAt {i0 : Nat} {M0 : Mem} (x1 : Int32) (M : Mem) (hM : Sm ([] : List Nat) M0 M) : FrB ([] : List Nat) M0 (X8_kindAt i0  x1 M) := by
  unfold X8_kindAt
  refine Fr_gd ?_
  refine Fr_bind (fr_X8_isLetter _ _ Sm_refl) (by simp) hM (fun p1 hN1 => ?_)
  refine Fr_ite ?_ ?_
  ·
    refine Fr_gd ?_
    exact fr_X8_kindAt_b23  _ _ hN1
  ·
    exact fr_X8_kindAt_b23  _ _ hN1
set_option maxRecDepth 100000 in
theorem fr_X8_isOfTwo_b23  {M0 : Mem} (s0 : Int32) (M : Mem) (hM : Sm ([] : List Nat) M0 M) : FrB ([] : List Nat) M0 (X8_isOfTwo_b23   s0 M) := by
  unfold X8_isOfTwo_b23
  exact Fr_gd (Fr_ret hM)
set_option maxRecDepth 100000 in
theorem fr_X8_isOfTwo_b18  {M0 : Mem}  (M : Mem) (hM : Sm ([] : List Nat) M0 M) : FrB ([] : List Nat) M0 (X8_isOfTwo_b18    M) := by
  unfold X8_isOfTwo_b18
  exact fr_X8_isOfTwo_b23  _ _ hM
set_option maxRecDepth 100000 in
theorem fr_X8_isOfTwo  {M0 : Mem} (x0 : Int32) (M : Mem) (hM : Sm ([] : List Nat) M0 M) : FrB ([] : List Nat) M0 (X8_isOfTwo   x0 M) := by
  unfold X8_isOfTwo
  refine Fr_ite ?_ ?_
  ·
    exact fr_X8_isOfTwo_b18   _ hM
  ·
    refine Fr_ite ?_ ?_
    ·
      exact fr_X8_isOfTwo_b18   _ hM
    ·
      refine Fr_ite ?_ ?_
      ·
        exact fr_X8_isOfTwo_b18   _ hM
      ·
        exact fr_X8_isOfTwo_b23  _ _ hM
set_option maxRecDepth 100000 in
theorem fr_X8_operandAt_b64 {i0 : Nat} {M0 : Mem} (s0 : Int32) (M : Mem) (hM : Sm ([] : List Nat) M0 M) : FrB ([] : List Nat) M0 (X8_operandAt_b64 i0  s0 M) := by
  unfold X8_operandAt_b64
  exact Fr_ret hM
set_option maxRecDepth 100000 in
theorem fr_X8_operandAt_b45 {i0 : Nat} {M0 : Mem} (s0 : Int32) (M : Mem) (hM : Sm ([] : List Nat) M0 M) : FrB ([] : List Nat) M0 (X8_operandAt_b45 i0  s0 M) := by
  unfold X8_operandAt_b45
  refine Fr_bind (fr_X8_isLetter _ _ Sm_refl) (by simp) hM (fun p1 hN1 => ?_)
  refine Fr_ite ?_ ?_
  ·
    exact fr_X8_operandAt_b64  _ _ hN1
  ·
    exact fr_X8_operandAt_b64  _ _ hN1
set_option maxRecDepth 100000 in
theorem fr_X8_operandAt {i0 : Nat} {M0 : Mem} (x1 : Int32) (M : Mem) (hM : Sm ([] : List Nat) M0 M) : FrB ([] : List Nat) M0 (X8_operandAt i0  x1 M) := by
  unfold X8_operandAt
  refine Fr_gd ?_
  refine Fr_bind (fr_X8_isOfTwo _ _ Sm_refl) (by simp) hM (fun p1 hN1 => ?_)
  refine Fr_ite ?_ ?_
  ·
    refine Fr_gd ?_
    exact Fr_ret hN1
  ·
    refine Fr_ite ?_ ?_
    ·
      exact fr_X8_operandAt_b45  _ _ hN1
    ·
      refine Fr_gd ?_
      exact fr_X8_operandAt_b45  _ _ hN1
set_option maxRecDepth 100000 in
theorem fr_J9_max_7cf53_b10  {M0 : Mem} (s0 : Int32) (M : Mem) (hM : Sm ([] : List Nat) M0 M) : FrB ([] : List Nat) M0 (J9_max_7cf53_b10   s0 M) := by
  unfold J9_max_7cf53_b10
  exact Fr_ret hM
set_option maxRecDepth 100000 in
theorem fr_J9_max_7cf53  {M0 : Mem} (x0 : Int32) (x1 : Int32) (M : Mem) (hM : Sm ([] : List Nat) M0 M) : FrB ([] : List Nat) M0 (J9_max_7cf53   x0 x1 M) := by
  unfold J9_max_7cf53
  refine Fr_ite ?_ ?_
  ·
    exact fr_J9_max_7cf53_b10  _ _ hM
  ·
    exact fr_J9_max_7cf53_b10  _ _ hM
set_option maxRecDepth 100000 in
theorem fr_X2_noteLoss_b55 {i0 : Nat} {M0 : Mem}  (M : Mem) (hM : Sm ([i0] : List Nat) M0 M) : FrB ([i0] : List Nat) M0 (X2_noteLoss_b55 i0   M) := by
  unfold X2_noteLoss_b55
  exact Fr_ret hM
set_option maxRecDepth 100000 in
theorem fr_X2_noteLoss {i0 : Nat} {M0 : Mem} (x1 : Int32) (x2 : Int32) (M : Mem) (hM : Sm ([i0] : List Nat) M0 M) : FrB ([i0] : List Nat) M0 (X2_noteLoss i0  x1 x2 M) := by
  unfold X2_noteLoss
  refine Fr_gd ?_
  refine Fr_ite ?_ ?_
  ·
    refine Fr_mw (Sm_mI hM (by simp)) (fun N1 hN1 => ?_)
    refine Fr_mw (Sm_mI hN1 (by simp)) (fun N2 hN2 => ?_)
    exact fr_X2_noteLoss_b55   _ hN2
  ·
    refine Fr_gd ?_
    refine Fr_ite ?_ ?_
    ·
      refine Fr_mw (Sm_mI hM (by simp)) (fun N3 hN3 => ?_)
      refine Fr_mw (Sm_mI hN3 (by simp)) (fun N4 hN4 => ?_)
      exact fr_X2_noteLoss_b55   _ hN4
    ·
      exact fr_X2_noteLoss_b55   _ hM
set_option maxRecDepth 100000 in
theorem fr_X2_playAct_b93 {i0 : Nat} {M0 : Mem} (x1 : Int32) (x2 : Int32) (M : Mem) (hM : Sm ([(rf (rf i0 0) 0), (rf (rf i0 0) 1), (rf i0 0), i0] : List Nat) M0 M) : FrB ([(rf (rf i0 0) 0), (rf (rf i0 0) 1), (rf i0 0), i0] : List Nat) M0 (X2_playAct_b93 i0  x1 x2 M) := by
  unfold X2_playAct_b93
  refine Fr_bind (fr_X0_perform _ _ _ Sm_refl) (by simp) hM (fun p1 hN1 => ?_)
  refine Fr_mw (Sm_mI hN1 (by simp)) (fun N2 hN2 => ?_)
  exact Fr_ret hN2
set_option maxRecDepth 100000 in
theorem fr_X2_playAct_b52 {i0 : Nat} {M0 : Mem} (x1 : Int32) (x2 : Int32) (M : Mem) (hM : Sm ([(rf (rf i0 0) 0), (rf (rf i0 0) 1), (rf i0 0), i0] : List Nat) M0 M) : FrB ([(rf (rf i0 0) 0), (rf (rf i0 0) 1), (rf i0 0), i0] : List Nat) M0 (X2_playAct_b52 i0  x1 x2 M) := by
  unfold X2_playAct_b52
  refine Fr_ite ?_ ?_
  ·
    refine Fr_ite ?_ ?_
    ·
      refine Fr_bind (fr_J9_min_7cf53 _ _ _ Sm_refl) (by simp) hM (fun p1 hN1 => ?_)
      refine Fr_bind (fr_J9_max_7cf53 _ _ _ Sm_refl) (by simp) hN1 (fun p2 hN2 => ?_)
      refine Fr_bind (fr_X2_noteLoss _ _ _ Sm_refl) (by simp) hN2 (fun p3 hN3 => ?_)
      exact fr_X2_playAct_b93  _ _ _ hN3
    ·
      exact fr_X2_playAct_b93  _ _ _ hM
  ·
    exact fr_X2_playAct_b93  _ _ _ hM
set_option maxRecDepth 100000 in
theorem fr_X2_playAct {i0 : Nat} {M0 : Mem} (x1 : Int32) (x2 : Int32) (M : Mem) (hM : Sm ([(rf (rf i0 0) 0), (rf (rf i0 0) 1), (rf i0 0), i0] : List Nat) M0 M) : FrB ([(rf (rf i0 0) 0), (rf (rf i0 0) 1), (rf i0 0), i0] : List Nat) M0 (X2_playAct i0  x1 x2 M) := by
  unfold X2_playAct
  refine Fr_bind (fr_X0_whyNot _ _ _ Sm_refl) (by simp) hM (fun p1 hN1 => ?_)
  refine Fr_ite ?_ ?_
  ·
    refine Fr_ite ?_ ?_
    ·
      refine Fr_bind (fr_X0_basketHere  _ Sm_refl) (by simp) hN1 (fun p2 hN2 => ?_)
      refine Fr_mw (Sm_mI hN2 (by simp)) (fun N3 hN3 => ?_)
      exact fr_X2_playAct_b52  _ _ _ hN3
    ·
      exact fr_X2_playAct_b52  _ _ _ hN1
  ·
    refine Fr_mw (Sm_mI hN1 (by simp)) (fun N4 hN4 => ?_)
    refine Fr_mw (Sm_mI hN4 (by simp)) (fun N5 hN5 => ?_)
    exact Fr_ret hN5
set_option maxRecDepth 100000 in
theorem fr_X8_widthAt_b17 {i0 : Nat} {M0 : Mem} (s0 : Int32) (M : Mem) (hM : Sm ([] : List Nat) M0 M) : FrB ([] : List Nat) M0 (X8_widthAt_b17 i0  s0 M) := by
  unfold X8_widthAt_b17
  exact Fr_ret hM
set_option maxRecDepth 100000 in
theorem fr_X8_widthAt {i0 : Nat} {M0 : Mem} (x1 : Int32) (M : Mem) (hM : Sm ([] : List Nat) M0 M) : FrB ([] : List Nat) M0 (X8_widthAt i0  x1 M) := by
  unfold X8_widthAt
  refine Fr_gd ?_
  refine Fr_bind (fr_X8_isOfTwo _ _ Sm_refl) (by simp) hM (fun p1 hN1 => ?_)
  refine Fr_ite ?_ ?_
  ·
    exact fr_X8_widthAt_b17  _ _ hN1
  ·
    exact fr_X8_widthAt_b17  _ _ hN1
set_option maxRecDepth 100000 in
theorem fr_X2_play_b86 {i0 : Nat} {i1 : Nat} {i2 : Nat} {M0 : Mem}  (M : Mem) (hM : Sm ([(rf (rf i0 0) 0), (rf (rf i0 0) 1), (rf (rf i0 0) 2), (rf i0 0), i0] : List Nat) M0 M) : FrB ([(rf (rf i0 0) 0), (rf (rf i0 0) 1), (rf (rf i0 0) 2), (rf i0 0), i0] : List Nat) M0 (X2_play_b86 i0 i1 i2   M) := by
  unfold X2_play_b86
  exact Fr_ret hM
set_option maxRecDepth 100000 in
theorem fr_X2_play_b44 {i0 : Nat} {i1 : Nat} {i2 : Nat} {M0 : Mem} {k44 : Int32 → Mem → Option (Unit × Mem)} (hk44 : ∀ (x3 : Int32) (M : Mem), Sm ([(rf (rf i0 0) 0), (rf (rf i0 0) 1), (rf (rf i0 0) 2), (rf i0 0), i0] : List Nat) M0 M → FrB ([(rf (rf i0 0) 0), (rf (rf i0 0) 1), (rf (rf i0 0) 2), (rf i0 0), i0] : List Nat) M0 (k44 x3 M)) (x3 : Int32) (M : Mem) (hM : Sm ([(rf (rf i0 0) 0), (rf (rf i0 0) 1), (rf (rf i0 0) 2), (rf i0 0), i0] : List Nat) M0 M) : FrB ([(rf (rf i0 0) 0), (rf (rf i0 0) 1), (rf (rf i0 0) 2), (rf i0 0), i0] : List Nat) M0 (X2_play_b44 i0 i1 i2 k44 x3 M) := by
  unfold X2_play_b44
  refine Fr_ite ?_ ?_
  ·
    exact fr_X2_play_b86   _ hM
  ·
    refine Fr_ite ?_ ?_
    ·
      refine Fr_bind (fr_X8_kindAt _ _ Sm_refl) (by simp) hM (fun p1 hN1 => ?_)
      refine Fr_bind (fr_X8_operandAt _ _ Sm_refl) (by simp) hN1 (fun p2 hN2 => ?_)
      refine Fr_bind (fr_X2_playAct _ _ _ Sm_refl) (by simp) hN2 (fun p3 hN3 => ?_)
      refine Fr_bind (fr_X8_widthAt _ _ Sm_refl) (by simp) hN3 (fun p4 hN4 => ?_)
      exact hk44 _ _ hN4
    ·
      exact fr_X2_play_b86   _ hM
theorem fr_X2_play_l44 {i0 : Nat} {i1 : Nat} {i2 : Nat} {M0 : Mem} (n : Nat) : ∀ (x3 : Int32) (M : Mem), Sm ([(rf (rf i0 0) 0), (rf (rf i0 0) 1), (rf (rf i0 0) 2), (rf i0 0), i0] : List Nat) M0 M → FrB ([(rf (rf i0 0) 0), (rf (rf i0 0) 1), (rf (rf i0 0) 2), (rf i0 0), i0] : List Nat) M0 (X2_play_l44 i0 i1 i2  n x3 M) := by
  induction n with
  | zero => intro x3 M _; exact Fr_none
  | succ n ih => intro x3 M hM; exact fr_X2_play_b44 ih x3 M hM
set_option maxRecDepth 100000 in
theorem fr_X2_play {i0 : Nat} {i1 : Nat} {i2 : Nat} {M0 : Mem}  (M : Mem) (hM : Sm ([(rf (rf i0 0) 0), (rf (rf i0 0) 1), (rf (rf i0 0) 2), (rf i0 0), i0] : List Nat) M0 M) : FrB ([(rf (rf i0 0) 0), (rf (rf i0 0) 1), (rf (rf i0 0) 2), (rf i0 0), i0] : List Nat) M0 (X2_play i0 i1 i2   M) := by
  unfold X2_play
  refine Fr_bind (fr_X0_takeOver  _ Sm_refl) (by simp) hM (fun p1 hN1 => ?_)
  refine Fr_mw (Sm_mI hN1 (by simp)) (fun N2 hN2 => ?_)
  refine Fr_mw (Sm_mI hN2 (by simp)) (fun N3 hN3 => ?_)
  refine Fr_mw (Sm_mI hN3 (by simp)) (fun N4 hN4 => ?_)
  refine Fr_mw (Sm_mI hN4 (by simp)) (fun N5 hN5 => ?_)
  refine Fr_mw (Sm_mI hN5 (by simp)) (fun N6 hN6 => ?_)
  refine Fr_mw (Sm_mI hN6 (by simp)) (fun N7 hN7 => ?_)
  exact fr_X2_play_l44  _ _ _ hN7
set_option maxRecDepth 100000 in
theorem fr_X2_draw_b105 {i0 : Nat} {i1 : Nat} {M0 : Mem} {k14 : Int32 → Int32 → Int32 → Mem → Option (Unit × Mem)} (hk14 : ∀ (x3 : Int32) (x4 : Int32) (x5 : Int32) (M : Mem), Sm ([(rf (rf i0 0) 0), (rf (rf i0 0) 1), (rf (rf i0 0) 2), (rf i0 0)] : List Nat) M0 M → FrB ([(rf (rf i0 0) 0), (rf (rf i0 0) 1), (rf (rf i0 0) 2), (rf i0 0)] : List Nat) M0 (k14 x3 x4 x5 M)) (x3 : Int32) (x4 : Int32) (x5 : Int32) (M : Mem) (hM : Sm ([(rf (rf i0 0) 0), (rf (rf i0 0) 1), (rf (rf i0 0) 2), (rf i0 0)] : List Nat) M0 M) : FrB ([(rf (rf i0 0) 0), (rf (rf i0 0) 1), (rf (rf i0 0) 2), (rf i0 0)] : List Nat) M0 (X2_draw_b105 i0 i1 k14 x3 x4 x5 M) := by
  unfold X2_draw_b105
  exact hk14 _ _ _ _ hM
set_option maxRecDepth 100000 in
theorem fr_X2_draw_b78 {i0 : Nat} {i1 : Nat} {M0 : Mem} {k14 : Int32 → Int32 → Int32 → Mem → Option (Unit × Mem)} (hk14 : ∀ (x3 : Int32) (x4 : Int32) (x5 : Int32) (M : Mem), Sm ([(rf (rf i0 0) 0), (rf (rf i0 0) 1), (rf (rf i0 0) 2), (rf i0 0)] : List Nat) M0 M → FrB ([(rf (rf i0 0) 0), (rf (rf i0 0) 1), (rf (rf i0 0) 2), (rf i0 0)] : List Nat) M0 (k14 x3 x4 x5 M)) (x3 : Int32) (x4 : Int32) (x5 : Int32) (x6 : Int32) (s0 : Int32) (M : Mem) (hM : Sm ([(rf (rf i0 0) 0), (rf (rf i0 0) 1), (rf (rf i0 0) 2), (rf i0 0)] : List Nat) M0 M) : FrB ([(rf (rf i0 0) 0), (rf (rf i0 0) 1), (rf (rf i0 0) 2), (rf i0 0)] : List Nat) M0 (X2_draw_b78 i0 i1 k14 x3 x4 x5 x6 s0 M) := by
  unfold X2_draw_b78
  refine Fr_bind (fr_X0_whyNot _ _ _ Sm_refl) (by simp) hM (fun p1 hN1 => ?_)
  refine Fr_ite ?_ ?_
  ·
    refine Fr_bind (fr_X0_perform _ _ _ Sm_refl) (by simp) hN1 (fun p2 hN2 => ?_)
    exact fr_X2_draw_b105 hk14 _ _ _ _ hN2
  ·
    exact fr_X2_draw_b105 hk14 _ _ _ _ hN1
set_option maxRecDepth 100000 in
theorem fr_X2_draw_b65 {i0 : Nat} {i1 : Nat} {M0 : Mem} {k14 : Int32 → Int32 → Int32 → Mem → Option (Unit × Mem)} (hk14 : ∀ (x3 : Int32) (x4 : Int32) (x5 : Int32) (M : Mem), Sm ([(rf (rf i0 0) 0), (rf (rf i0 0) 1), (rf (rf i0 0) 2), (rf i0 0)] : List Nat) M0 M → FrB ([(rf (rf i0 0) 0), (rf (rf i0 0) 1), (rf (rf i0 0) 2), (rf i0 0)] : List Nat) M0 (k14 x3 x4 x5 M)) (x3 : Int32) (x4 : Int32) (x5 : Int32) (x6 : Int32) (x7 : Int32) (M : Mem) (hM : Sm ([(rf (rf i0 0) 0), (rf (rf i0 0) 1), (rf (rf i0 0) 2), (rf i0 0)] : List Nat) M0 M) : FrB ([(rf (rf i0 0) 0), (rf (rf i0 0) 1), (rf (rf i0 0) 2), (rf i0 0)] : List Nat) M0 (X2_draw_b65 i0 i1 k14 x3 x4 x5 x6 x7 M) := by
  unfold X2_draw_b65
  refine Fr_gd ?_
  exact fr_X2_draw_b78 hk14 _ _ _ _ _ _ hM
set_option maxRecDepth 100000 in
theorem fr_X2_draw_b14 {i0 : Nat} {i1 : Nat} {M0 : Mem} {k14 : Int32 → Int32 → Int32 → Mem → Option (Unit × Mem)} (hk14 : ∀ (x3 : Int32) (x4 : Int32) (x5 : Int32) (M : Mem), Sm ([(rf (rf i0 0) 0), (rf (rf i0 0) 1), (rf (rf i0 0) 2), (rf i0 0)] : List Nat) M0 M → FrB ([(rf (rf i0 0) 0), (rf (rf i0 0) 1), (rf (rf i0 0) 2), (rf i0 0)] : List Nat) M0 (k14 x3 x4 x5 M)) (x3 : Int32) (x4 : Int32) (x5 : Int32) (M : Mem) (hM : Sm ([(rf (rf i0 0) 0), (rf (rf i0 0) 1), (rf (rf i0 0) 2), (rf i0 0)] : List Nat) M0 M) : FrB ([(rf (rf i0 0) 0), (rf (rf i0 0) 1), (rf (rf i0 0) 2), (rf i0 0)] : List Nat) M0 (X2_draw_b14 i0 i1 k14 x3 x4 x5 M) := by
  unfold X2_draw_b14
  refine Fr_ite ?_ ?_
  ·
    exact Fr_ret hM
  ·
    refine Fr_gd ?_
    refine Fr_iw (fun v1 => ?_)
    refine Fr_gd ?_
    refine Fr_gd ?_
    refine Fr_iw (fun v2 => ?_)
    refine Fr_gd ?_
    refine Fr_ite ?_ ?_
    ·
      exact fr_X2_draw_b65 hk14 _ _ _ _ _ _ hM
    ·
      refine Fr_ite ?_ ?_
      ·
        exact fr_X2_draw_b65 hk14 _ _ _ _ _ _ hM
      ·
        refine Fr_gd ?_
        exact fr_X2_draw_b78 hk14 _ _ _ _ _ _ hM
theorem fr_X2_draw_l14 {i0 : Nat} {i1 : Nat} {M0 : Mem} (n : Nat) : ∀ (x3 : Int32) (x4 : Int32) (x5 : Int32) (M : Mem), Sm ([(rf (rf i0 0) 0), (rf (rf i0 0) 1), (rf (rf i0 0) 2), (rf i0 0)] : List Nat) M0 M → FrB ([(rf (rf i0 0) 0), (rf (rf i0 0) 1), (rf (rf i0 0) 2), (rf i0 0)] : List Nat) M0 (X2_draw_l14 i0 i1  n x3 x4 x5 M) := by
  induction n with
  | zero => intro x3 x4 x5 M _; exact Fr_none
  | succ n ih => intro x3 x4 x5 M hM; exact fr_X2_draw_b14 ih x3 x4 x5 M hM
set_option maxRecDepth 100000 in
theorem fr_X2_draw {i0 : Nat} {i1 : Nat} {M0 : Mem} (x2 : Int32) (x3 : Int32) (M : Mem) (hM : Sm ([(rf (rf i0 0) 0), (rf (rf i0 0) 1), (rf (rf i0 0) 2), (rf i0 0)] : List Nat) M0 M) : FrB ([(rf (rf i0 0) 0), (rf (rf i0 0) 1), (rf (rf i0 0) 2), (rf i0 0)] : List Nat) M0 (X2_draw i0 i1  x2 x3 M) := by
  unfold X2_draw
  refine Fr_bind (fr_X0_takeOver  _ Sm_refl) (by simp) hM (fun p1 hN1 => ?_)
  exact fr_X2_draw_l14  _ _ _ _ _ hN1
set_option maxRecDepth 100000 in
theorem fr_X3_hang_b49 {i0 : Nat} {M0 : Mem}  (M : Mem) (hM : Sm ([(rf i0 0)] : List Nat) M0 M) : FrB ([(rf i0 0)] : List Nat) M0 (X3_hang_b49 i0   M) := by
  unfold X3_hang_b49
  exact Fr_ret hM
set_option maxRecDepth 100000 in
theorem fr_X3_hang_b87 {i0 : Nat} {M0 : Mem} (s0 : Int32) (M : Mem) (hM : Sm ([(rf i0 0)] : List Nat) M0 M) : FrB ([(rf i0 0)] : List Nat) M0 (X3_hang_b87 i0  s0 M) := by
  unfold X3_hang_b87
  exact Fr_gd (Fr_ret hM)
set_option maxRecDepth 100000 in
theorem fr_X3_hang_b13 {i0 : Nat} {M0 : Mem} {k13 : Int32 → Int32 → Int32 → Mem → Option (Int32 × Mem)} (hk13 : ∀ (x2 : Int32) (x3 : Int32) (x4 : Int32) (M : Mem), Sm ([(rf i0 0)] : List Nat) M0 M → FrB ([(rf i0 0)] : List Nat) M0 (k13 x2 x3 x4 M)) (x2 : Int32) (x3 : Int32) (x4 : Int32) (M : Mem) (hM : Sm ([(rf i0 0)] : List Nat) M0 M) : FrB ([(rf i0 0)] : List Nat) M0 (X3_hang_b13 i0 k13 x2 x3 x4 M) := by
  unfold X3_hang_b13
  refine Fr_ite ?_ ?_
  ·
    refine Fr_ite ?_ ?_
    ·
      exact fr_X3_hang_b87  _ _ hM
    ·
      exact fr_X3_hang_b87  _ _ hM
  ·
    refine Fr_gd ?_
    refine Fr_iw (fun v1 => ?_)
    refine Fr_bind (fr_X11_isWithin _ _ _ _ Sm_refl) (by simp) hM (fun p2 hN2 => ?_)
    refine Fr_ite ?_ ?_
    ·
      exact fr_X3_hang_b49   _ hN2
    ·
      refine Fr_bind (fr_X11_isIn _ _ _ Sm_refl) (by simp) hN2 (fun p3 hN3 => ?_)
      refine Fr_ite ?_ ?_
      ·
        refine Fr_iw (fun v4 => ?_)
        refine Fr_gd ?_
        refine Fr_gd ?_
        exact hk13 _ _ _ _ (Sm_mI hN3 (by simp))
      ·
        exact fr_X3_hang_b49   _ hN3
theorem fr_X3_hang_l13 {i0 : Nat} {M0 : Mem} (n : Nat) : ∀ (x2 : Int32) (x3 : Int32) (x4 : Int32) (M : Mem), Sm ([(rf i0 0)] : List Nat) M0 M → FrB ([(rf i0 0)] : List Nat) M0 (X3_hang_l13 i0  n x2 x3 x4 M) := by
  induction n with
  | zero => intro x2 x3 x4 M _; exact Fr_none
  | succ n ih => intro x2 x3 x4 M hM; exact fr_X3_hang_b13 ih x2 x3 x4 M hM
set_option maxRecDepth 100000 in
theorem fr_X3_hang {i0 : Nat} {M0 : Mem} (x1 : Int32) (M : Mem) (hM : Sm ([(rf i0 0)] : List Nat) M0 M) : FrB ([(rf i0 0)] : List Nat) M0 (X3_hang i0  x1 M) := by
  unfold X3_hang
  exact fr_X3_hang_l13  _ _ _ _ _ hM
set_option maxRecDepth 100000 in
theorem fr_X3_leastMultiple_b25  {M0 : Mem} (x2 : Int32) (M : Mem) (hM : Sm ([] : List Nat) M0 M) : FrB ([] : List Nat) M0 (X3_leastMultiple_b25   x2 M) := by
  unfold X3_leastMultiple_b25
  exact Fr_ret hM
set_option maxRecDepth 100000 in
theorem fr_X3_leastMultiple_b4  {M0 : Mem} {k4 : Int32 → Int32 → Int32 → Int32 → Mem → Option (Int32 × Mem)} (hk4 : ∀ (x0 : Int32) (x1 : Int32) (x2 : Int32) (x3 : Int32) (M : Mem), Sm ([] : List Nat) M0 M → FrB ([] : List Nat) M0 (k4 x0 x1 x2 x3 M)) (x0 : Int32) (x1 : Int32) (x2 : Int32) (x3 : Int32) (M : Mem) (hM : Sm ([] : List Nat) M0 M) : FrB ([] : List Nat) M0 (X3_leastMultiple_b4  k4 x0 x1 x2 x3 M) := by
  unfold X3_leastMultiple_b4
  refine Fr_ite ?_ ?_
  ·
    exact fr_X3_leastMultiple_b25  _ _ hM
  ·
    refine Fr_gd ?_
    refine Fr_ite ?_ ?_
    ·
      exact fr_X3_leastMultiple_b25  _ _ hM
    ·
      exact hk4 _ _ _ _ _ hM
theorem fr_X3_leastMultiple_l4  {M0 : Mem} (n : Nat) : ∀ (x0 : Int32) (x1 : Int32) (x2 : Int32) (x3 : Int32) (M : Mem), Sm ([] : List Nat) M0 M → FrB ([] : List Nat) M0 (X3_leastMultiple_l4   n x0 x1 x2 x3 M) := by
  induction n with
  | zero => intro x0 x1 x2 x3 M _; exact Fr_none
  | succ n ih => intro x0 x1 x2 x3 M hM; exact fr_X3_leastMultiple_b4 ih x0 x1 x2 x3 M hM
set_option maxRecDepth 100000 in
theorem fr_X3_leastMultiple  {M0 : Mem} (x0 : Int32) (x1 : Int32) (M : Mem) (hM : Sm ([] : List Nat) M0 M) : FrB ([] : List Nat) M0 (X3_leastMultiple   x0 x1 M) := by
  unfold X3_leastMultiple
  exact fr_X3_leastMultiple_l4  _ _ _ _ _ _ hM
set_option maxRecDepth 100000 in
theorem fr_X3_follow_b96 {i0 : Nat} {M0 : Mem} {k14 : Int32 → Int32 → Mem → Option (Unit × Mem)} (hk14 : ∀ (x1 : Int32) (x2 : Int32) (M : Mem), Sm ([i0] : List Nat) M0 M → FrB ([i0] : List Nat) M0 (k14 x1 x2 M)) (x1 : Int32) (x2 : Int32) (M : Mem) (hM : Sm ([i0] : List Nat) M0 M) : FrB ([i0] : List Nat) M0 (X3_follow_b96 i0 k14 x1 x2 M) := by
  unfold X3_follow_b96
  exact hk14 _ _ _ hM
set_option maxRecDepth 100000 in
theorem fr_X3_follow_b68 {i0 : Nat} {M0 : Mem} {k14 : Int32 → Int32 → Mem → Option (Unit × Mem)} (hk14 : ∀ (x1 : Int32) (x2 : Int32) (M : Mem), Sm ([i0] : List Nat) M0 M → FrB ([i0] : List Nat) M0 (k14 x1 x2 M)) (x1 : Int32) (x2 : Int32) (x3 : Int32) (M : Mem) (hM : Sm ([i0] : List Nat) M0 M) : FrB ([i0] : List Nat) M0 (X3_follow_b68 i0 k14 x1 x2 x3 M) := by
  unfold X3_follow_b68
  refine Fr_ite ?_ ?_
  ·
    exact fr_X3_follow_b96 hk14 _ _ _ hM
  ·
    refine Fr_mw (Sm_mI hM (by simp)) (fun N1 hN1 => ?_)
    refine Fr_bind (fr_X3_leastMultiple _ _ _ Sm_refl) (by simp) hN1 (fun p2 hN2 => ?_)
    refine Fr_mw (Sm_mI hN2 (by simp)) (fun N3 hN3 => ?_)
    exact fr_X3_follow_b96 hk14 _ _ _ hN3
set_option maxRecDepth 100000 in
theorem fr_X3_follow_b28 {i0 : Nat} {M0 : Mem} {k14 : Int32 → Int32 → Mem → Option (Unit × Mem)} (hk14 : ∀ (x1 : Int32) (x2 : Int32) (M : Mem), Sm ([i0] : List Nat) M0 M → FrB ([i0] : List Nat) M0 (k14 x1 x2 M)) {k28 : Int32 → Int32 → Int32 → Int32 → Mem → Option (Unit × Mem)} (hk28 : ∀ (x1 : Int32) (x2 : Int32) (x3 : Int32) (x4 : Int32) (M : Mem), Sm ([i0] : List Nat) M0 M → FrB ([i0] : List Nat) M0 (k28 x1 x2 x3 x4 M)) (x1 : Int32) (x2 : Int32) (x3 : Int32) (x4 : Int32) (M : Mem) (hM : Sm ([i0] : List Nat) M0 M) : FrB ([i0] : List Nat) M0 (X3_follow_b28 i0 k14 k28 x1 x2 x3 x4 M) := by
  unfold X3_follow_b28
  refine Fr_ite ?_ ?_
  ·
    exact fr_X3_follow_b68 hk14 _ _ _ _ hM
  ·
    refine Fr_bind (fr_X11_isIn _ _ _ Sm_refl) (by simp) hM (fun p1 hN1 => ?_)
    refine Fr_ite ?_ ?_
    ·
      refine Fr_iw (fun v2 => ?_)
      refine Fr_gd ?_
      refine Fr_iw (fun v3 => ?_)
      exact hk28 _ _ _ _ _ hN1
    ·
      exact fr_X3_follow_b68 hk14 _ _ _ _ hN1
theorem fr_X3_follow_l28 {i0 : Nat} {M0 : Mem} {k14 : Int32 → Int32 → Mem → Option (Unit × Mem)} (hk14 : ∀ (x1 : Int32) (x2 : Int32) (M : Mem), Sm ([i0] : List Nat) M0 M → FrB ([i0] : List Nat) M0 (k14 x1 x2 M)) (n : Nat) : ∀ (x1 : Int32) (x2 : Int32) (x3 : Int32) (x4 : Int32) (M : Mem), Sm ([i0] : List Nat) M0 M → FrB ([i0] : List Nat) M0 (X3_follow_l28 i0 k14 n x1 x2 x3 x4 M) := by
  induction n with
  | zero => intro x1 x2 x3 x4 M _; exact Fr_none
  | succ n ih => intro x1 x2 x3 x4 M hM; exact fr_X3_follow_b28 hk14 ih x1 x2 x3 x4 M hM
set_option maxRecDepth 100000 in
theorem fr_X3_follow_b14 {i0 : Nat} {M0 : Mem} {k14 : Int32 → Int32 → Mem → Option (Unit × Mem)} (hk14 : ∀ (x1 : Int32) (x2 : Int32) (M : Mem), Sm ([i0] : List Nat) M0 M → FrB ([i0] : List Nat) M0 (k14 x1 x2 M)) (x1 : Int32) (x2 : Int32) (M : Mem) (hM : Sm ([i0] : List Nat) M0 M) : FrB ([i0] : List Nat) M0 (X3_follow_b14 i0 k14 x1 x2 M) := by
  unfold X3_follow_b14
  refine Fr_ite ?_ ?_
  ·
    exact Fr_ret hM
  ·
    exact fr_X3_follow_l28 hk14 _ _ _ _ _ _ hM
theorem fr_X3_follow_l14 {i0 : Nat} {M0 : Mem} (n : Nat) : ∀ (x1 : Int32) (x2 : Int32) (M : Mem), Sm ([i0] : List Nat) M0 M → FrB ([i0] : List Nat) M0 (X3_follow_l14 i0  n x1 x2 M) := by
  induction n with
  | zero => intro x1 x2 M _; exact Fr_none
  | succ n ih => intro x1 x2 M hM; exact fr_X3_follow_b14 ih x1 x2 M hM
set_option maxRecDepth 100000 in
theorem fr_X3_follow {i0 : Nat} {M0 : Mem}  (M : Mem) (hM : Sm ([i0] : List Nat) M0 M) : FrB ([i0] : List Nat) M0 (X3_follow i0   M) := by
  unfold X3_follow
  refine Fr_mw (Sm_mI hM (by simp)) (fun N1 hN1 => ?_)
  refine Fr_mw (Sm_mI hN1 (by simp)) (fun N2 hN2 => ?_)
  exact fr_X3_follow_l14  _ _ _ _ hN2
set_option maxRecDepth 100000 in
theorem fr_X5_thingOn  {M0 : Mem} (x0 : Int32) (x1 : Int32) (x2 : Int32) (M : Mem) (hM : Sm ([] : List Nat) M0 M) : FrB ([] : List Nat) M0 (X5_thingOn   x0 x1 x2 M) := by
  unfold X5_thingOn
  refine Fr_gd ?_
  exact Fr_ret hM
set_option maxRecDepth 100000 in
theorem fr_X5_agree_b2 {i0 : Nat} {M0 : Mem} {k2 : Int32 → Int32 → Int32 → Mem → Option (Int32 × Mem)} (hk2 : ∀ (x1 : Int32) (x2 : Int32) (x3 : Int32) (M : Mem), Sm ([] : List Nat) M0 M → FrB ([] : List Nat) M0 (k2 x1 x2 x3 M)) (x1 : Int32) (x2 : Int32) (x3 : Int32) (M : Mem) (hM : Sm ([] : List Nat) M0 M) : FrB ([] : List Nat) M0 (X5_agree_b2 i0 k2 x1 x2 x3 M) := by
  unfold X5_agree_b2
  refine Fr_ite ?_ ?_
  ·
    exact Fr_ret hM
  ·
    refine Fr_gd ?_
    refine Fr_bind (fr_X5_thingOn _ _ _ _ Sm_refl) (by simp) hM (fun p1 hN1 => ?_)
    refine Fr_gd ?_
    refine Fr_ite ?_ ?_
    ·
      exact hk2 _ _ _ _ hN1
    ·
      exact Fr_ret hN1
theorem fr_X5_agree_l2 {i0 : Nat} {M0 : Mem} (n : Nat) : ∀ (x1 : Int32) (x2 : Int32) (x3 : Int32) (M : Mem), Sm ([] : List Nat) M0 M → FrB ([] : List Nat) M0 (X5_agree_l2 i0  n x1 x2 x3 M) := by
  induction n with
  | zero => intro x1 x2 x3 M _; exact Fr_none
  | succ n ih => intro x1 x2 x3 M hM; exact fr_X5_agree_b2 ih x1 x2 x3 M hM
set_option maxRecDepth 100000 in
theorem fr_X5_agree {i0 : Nat} {M0 : Mem} (x1 : Int32) (x2 : Int32) (M : Mem) (hM : Sm ([] : List Nat) M0 M) : FrB ([] : List Nat) M0 (X5_agree i0  x1 x2 M) := by
  unfold X5_agree
  exact fr_X5_agree_l2  _ _ _ _ _ hM
set_option maxRecDepth 100000 in
theorem fr_X5_gather_b55 {i0 : Nat} {i1 : Nat} {M0 : Mem} {k7 : Int32 → Mem → Option (Unit × Mem)} (hk7 : ∀ (x2 : Int32) (M : Mem), Sm ([(rf i0 0), i0] : List Nat) M0 M → FrB ([(rf i0 0), i0] : List Nat) M0 (k7 x2 M)) {k15 : Int32 → Int32 → Mem → Option (Unit × Mem)} (hk15 : ∀ (x2 : Int32) (x3 : Int32) (M : Mem), Sm ([(rf i0 0), i0] : List Nat) M0 M → FrB ([(rf i0 0), i0] : List Nat) M0 (k15 x2 x3 M)) (x2 : Int32) (x3 : Int32) (M : Mem) (hM : Sm ([(rf i0 0), i0] : List Nat) M0 M) : FrB ([(rf i0 0), i0] : List Nat) M0 (X5_gather_b55 i0 i1 k7 k15 x2 x3 M) := by
  unfold X5_gather_b55
  exact hk15 _ _ _ hM
set_option maxRecDepth 100000 in
theorem fr_X5_gather_b15 {i0 : Nat} {i1 : Nat} {M0 : Mem} {k7 : Int32 → Mem → Option (Unit × Mem)} (hk7 : ∀ (x2 : Int32) (M : Mem), Sm ([(rf i0 0), i0] : List Nat) M0 M → FrB ([(rf i0 0), i0] : List Nat) M0 (k7 x2 M)) {k15 : Int32 → Int32 → Mem → Option (Unit × Mem)} (hk15 : ∀ (x2 : Int32) (x3 : Int32) (M : Mem), Sm ([(rf i0 0), i0] : List Nat) M0 M → FrB ([(rf i0 0), i0] : List Nat) M0 (k15 x2 x3 M)) (x2 : Int32) (x3 : Int32) (M : Mem) (hM : Sm ([(rf i0 0), i0] : List Nat) M0 M) : FrB ([(rf i0 0), i0] : List Nat) M0 (X5_gather_b15 i0 i1 k7 k15 x2 x3 M) := by
  unfold X5_gather_b15
  refine Fr_ite ?_ ?_
  ·
    exact hk7 _ _ hM
  ·
    refine Fr_bind (fr_X5_agree _ _ _ Sm_refl) (by simp) hM (fun p1 hN1 => ?_)
    refine Fr_ite ?_ ?_
    ·
      exact fr_X5_gather_b55 hk7 hk15 _ _ _ hN1
    ·
      refine Fr_gd ?_
      refine Fr_mw (Sm_mI hN1 (by simp)) (fun N2 hN2 => ?_)
      refine Fr_mw (Sm_mI hN2 (by simp)) (fun N3 hN3 => ?_)
      exact fr_X5_gather_b55 hk7 hk15 _ _ _ hN3
theorem fr_X5_gather_l15 {i0 : Nat} {i1 : Nat} {M0 : Mem} {k7 : Int32 → Mem → Option (Unit × Mem)} (hk7 : ∀ (x2 : Int32) (M : Mem), Sm ([(rf i0 0), i0] : List Nat) M0 M → FrB ([(rf i0 0), i0] : List Nat) M0 (k7 x2 M)) (n : Nat) : ∀ (x2 : Int32) (x3 : Int32) (M : Mem), Sm ([(rf i0 0), i0] : List Nat) M0 M → FrB ([(rf i0 0), i0] : List Nat) M0 (X5_gather_l15 i0 i1 k7 n x2 x3 M) := by
  induction n with
  | zero => intro x2 x3 M _; exact Fr_none
  | succ n ih => intro x2 x3 M hM; exact fr_X5_gather_b15 hk7 ih x2 x3 M hM
set_option maxRecDepth 100000 in
theorem fr_X5_gather_b7 {i0 : Nat} {i1 : Nat} {M0 : Mem} {k7 : Int32 → Mem → Option (Unit × Mem)} (hk7 : ∀ (x2 : Int32) (M : Mem), Sm ([(rf i0 0), i0] : List Nat) M0 M → FrB ([(rf i0 0), i0] : List Nat) M0 (k7 x2 M)) (x2 : Int32) (M : Mem) (hM : Sm ([(rf i0 0), i0] : List Nat) M0 M) : FrB ([(rf i0 0), i0] : List Nat) M0 (X5_gather_b7 i0 i1 k7 x2 M) := by
  unfold X5_gather_b7
  refine Fr_ite ?_ ?_
  ·
    exact Fr_ret hM
  ·
    exact fr_X5_gather_l15 hk7 _ _ _ _ hM
theorem fr_X5_gather_l7 {i0 : Nat} {i1 : Nat} {M0 : Mem} (n : Nat) : ∀ (x2 : Int32) (M : Mem), Sm ([(rf i0 0), i0] : List Nat) M0 M → FrB ([(rf i0 0), i0] : List Nat) M0 (X5_gather_l7 i0 i1  n x2 M) := by
  induction n with
  | zero => intro x2 M _; exact Fr_none
  | succ n ih => intro x2 M hM; exact fr_X5_gather_b7 ih x2 M hM
set_option maxRecDepth 100000 in
theorem fr_X5_gather {i0 : Nat} {i1 : Nat} {M0 : Mem}  (M : Mem) (hM : Sm ([(rf i0 0), i0] : List Nat) M0 M) : FrB ([(rf i0 0), i0] : List Nat) M0 (X5_gather i0 i1   M) := by
  unfold X5_gather
  refine Fr_mw (Sm_mI hM (by simp)) (fun N1 hN1 => ?_)
  exact fr_X5_gather_l7  _ _ _ hN1
set_option maxRecDepth 100000 in
theorem fr_X5_mostLeftAfter_b25 {i0 : Nat} {M0 : Mem} {k25 : Int32 → Int32 → Int32 → Mem → Option (Int32 × Mem)} (hk25 : ∀ (x1 : Int32) (x2 : Int32) (x3 : Int32) (M : Mem), Sm ([(rf i0 1)] : List Nat) M0 M → FrB ([(rf i0 1)] : List Nat) M0 (k25 x1 x2 x3 M)) (x1 : Int32) (x2 : Int32) (x3 : Int32) (M : Mem) (hM : Sm ([(rf i0 1)] : List Nat) M0 M) : FrB ([(rf i0 1)] : List Nat) M0 (X5_mostLeftAfter_b25 i0 k25 x1 x2 x3 M) := by
  unfold X5_mostLeftAfter_b25
  refine Fr_ite ?_ ?_
  ·
    exact Fr_ret hM
  ·
    refine Fr_gd ?_
    refine Fr_gd ?_
    refine Fr_gd ?_
    refine Fr_gd ?_
    refine Fr_bind (fr_X5_thingOn _ _ _ _ Sm_refl) (by simp) hM (fun p1 hN1 => ?_)
    refine Fr_gd ?_
    refine Fr_gd ?_
    refine Fr_gd ?_
    refine Fr_bind (fr_J9_max_7cf53 _ _ _ Sm_refl) (by simp) (Sm_mI hN1 (by simp)) (fun p2 hN2 => ?_)
    exact hk25 _ _ _ _ hN2
theorem fr_X5_mostLeftAfter_l25 {i0 : Nat} {M0 : Mem} (n : Nat) : ∀ (x1 : Int32) (x2 : Int32) (x3 : Int32) (M : Mem), Sm ([(rf i0 1)] : List Nat) M0 M → FrB ([(rf i0 1)] : List Nat) M0 (X5_mostLeftAfter_l25 i0  n x1 x2 x3 M) := by
  induction n with
  | zero => intro x1 x2 x3 M _; exact Fr_none
  | succ n ih => intro x1 x2 x3 M hM; exact fr_X5_mostLeftAfter_b25 ih x1 x2 x3 M hM
set_option maxRecDepth 100000 in
theorem fr_X5_mostLeftAfter_b2 {i0 : Nat} {M0 : Mem} {k2 : Int32 → Int32 → Mem → Option (Int32 × Mem)} (hk2 : ∀ (x1 : Int32) (x2 : Int32) (M : Mem), Sm ([(rf i0 1)] : List Nat) M0 M → FrB ([(rf i0 1)] : List Nat) M0 (k2 x1 x2 M)) (x1 : Int32) (x2 : Int32) (M : Mem) (hM : Sm ([(rf i0 1)] : List Nat) M0 M) : FrB ([(rf i0 1)] : List Nat) M0 (X5_mostLeftAfter_b2 i0 k2 x1 x2 M) := by
  unfold X5_mostLeftAfter_b2
  refine Fr_ite ?_ ?_
  ·
    exact fr_X5_mostLeftAfter_l25  _ _ _ _ _ hM
  ·
    refine Fr_gd ?_
    exact hk2 _ _ _ (Sm_mI hM (by simp))
theorem fr_X5_mostLeftAfter_l2 {i0 : Nat} {M0 : Mem} (n : Nat) : ∀ (x1 : Int32) (x2 : Int32) (M : Mem), Sm ([(rf i0 1)] : List Nat) M0 M → FrB ([(rf i0 1)] : List Nat) M0 (X5_mostLeftAfter_l2 i0  n x1 x2 M) := by
  induction n with
  | zero => intro x1 x2 M _; exact Fr_none
  | succ n ih => intro x1 x2 M hM; exact fr_X5_mostLeftAfter_b2 ih x1 x2 M hM
set_option maxRecDepth 100000 in
theorem fr_X5_mostLeftAfter {i0 : Nat} {M0 : Mem} (x1 : Int32) (M : Mem) (hM : Sm ([(rf i0 1)] : List Nat) M0 M) : FrB ([(rf i0 1)] : List Nat) M0 (X5_mostLeftAfter i0  x1 M) := by
  unfold X5_mostLeftAfter
  exact fr_X5_mostLeftAfter_l2  _ _ _ _ hM
set_option maxRecDepth 100000 in
theorem fr_X5_chooseDay_b61 {i0 : Nat} {M0 : Mem} {k22 : Int32 → Mem → Option (Unit × Mem)} (hk22 : ∀ (x1 : Int32) (M : Mem), Sm ([(rf i0 1), i0] : List Nat) M0 M → FrB ([(rf i0 1), i0] : List Nat) M0 (k22 x1 M)) (x1 : Int32) (M : Mem) (hM : Sm ([(rf i0 1), i0] : List Nat) M0 M) : FrB ([(rf i0 1), i0] : List Nat) M0 (X5_chooseDay_b61 i0 k22 x1 M) := by
  unfold X5_chooseDay_b61
  exact hk22 _ _ hM
set_option maxRecDepth 100000 in
theorem fr_X5_chooseDay_b51 {i0 : Nat} {M0 : Mem} {k22 : Int32 → Mem → Option (Unit × Mem)} (hk22 : ∀ (x1 : Int32) (M : Mem), Sm ([(rf i0 1), i0] : List Nat) M0 M → FrB ([(rf i0 1), i0] : List Nat) M0 (k22 x1 M)) (x1 : Int32) (x2 : Int32) (M : Mem) (hM : Sm ([(rf i0 1), i0] : List Nat) M0 M) : FrB ([(rf i0 1), i0] : List Nat) M0 (X5_chooseDay_b51 i0 k22 x1 x2 M) := by
  unfold X5_chooseDay_b51
  refine Fr_mw (Sm_mI hM (by simp)) (fun N1 hN1 => ?_)
  refine Fr_mw (Sm_mI hN1 (by simp)) (fun N2 hN2 => ?_)
  exact fr_X5_chooseDay_b61 hk22 _ _ hN2
set_option maxRecDepth 100000 in
theorem fr_X5_chooseDay_b22 {i0 : Nat} {M0 : Mem} {k22 : Int32 → Mem → Option (Unit × Mem)} (hk22 : ∀ (x1 : Int32) (M : Mem), Sm ([(rf i0 1), i0] : List Nat) M0 M → FrB ([(rf i0 1), i0] : List Nat) M0 (k22 x1 M)) (x1 : Int32) (M : Mem) (hM : Sm ([(rf i0 1), i0] : List Nat) M0 M) : FrB ([(rf i0 1), i0] : List Nat) M0 (X5_chooseDay_b22 i0 k22 x1 M) := by
  unfold X5_chooseDay_b22
  refine Fr_ite ?_ ?_
  ·
    exact Fr_ret hM
  ·
    refine Fr_bind (fr_X5_mostLeftAfter _ _ Sm_refl) (by simp) hM (fun p1 hN1 => ?_)
    refine Fr_ite ?_ ?_
    ·
      exact fr_X5_chooseDay_b51 hk22 _ _ _ hN1
    ·
      refine Fr_ite ?_ ?_
      ·
        exact fr_X5_chooseDay_b61 hk22 _ _ hN1
      ·
        exact fr_X5_chooseDay_b51 hk22 _ _ _ hN1
theorem fr_X5_chooseDay_l22 {i0 : Nat} {M0 : Mem} (n : Nat) : ∀ (x1 : Int32) (M : Mem), Sm ([(rf i0 1), i0] : List Nat) M0 M → FrB ([(rf i0 1), i0] : List Nat) M0 (X5_chooseDay_l22 i0  n x1 M) := by
  induction n with
  | zero => intro x1 M _; exact Fr_none
  | succ n ih => intro x1 M hM; exact fr_X5_chooseDay_b22 ih x1 M hM
set_option maxRecDepth 100000 in
theorem fr_X5_chooseDay {i0 : Nat} {M0 : Mem}  (M : Mem) (hM : Sm ([(rf i0 1), i0] : List Nat) M0 M) : FrB ([(rf i0 1), i0] : List Nat) M0 (X5_chooseDay i0   M) := by
  unfold X5_chooseDay
  refine Fr_mw (Sm_mI hM (by simp)) (fun N1 hN1 => ?_)
  refine Fr_mw (Sm_mI hN1 (by simp)) (fun N2 hN2 => ?_)
  refine Fr_ite ?_ ?_
  ·
    exact Fr_ret hN2
  ·
    exact fr_X5_chooseDay_l22  _ _ _ hN2
set_option maxRecDepth 100000 in
theorem fr_X6_joinHomes_b55 {i0 : Nat} {i1 : Nat} {M0 : Mem} {k9 : Int32 → Mem → Option (Unit × Mem)} (hk9 : ∀ (x2 : Int32) (M : Mem), Sm ([(rf i0 0)] : List Nat) M0 M → FrB ([(rf i0 0)] : List Nat) M0 (k9 x2 M)) {k25 : Int32 → Int32 → Int32 → Int32 → Mem → Option (Unit × Mem)} (hk25 : ∀ (x2 : Int32) (x3 : Int32) (x4 : Int32) (x5 : Int32) (M : Mem), Sm ([(rf i0 0)] : List Nat) M0 M → FrB ([(rf i0 0)] : List Nat) M0 (k25 x2 x3 x4 x5 M)) (x2 : Int32) (x3 : Int32) (x4 : Int32) (x5 : Int32) (M : Mem) (hM : Sm ([(rf i0 0)] : List Nat) M0 M) : FrB ([(rf i0 0)] : List Nat) M0 (X6_joinHomes_b55 i0 i1 k9 k25 x2 x3 x4 x5 M) := by
  unfold X6_joinHomes_b55
  exact hk25 _ _ _ _ _ hM
set_option maxRecDepth 100000 in
theorem fr_X6_joinHomes_b64 {i0 : Nat} {i1 : Nat} {M0 : Mem} {k9 : Int32 → Mem → Option (Unit × Mem)} (hk9 : ∀ (x2 : Int32) (M : Mem), Sm ([(rf i0 0)] : List Nat) M0 M → FrB ([(rf i0 0)] : List Nat) M0 (k9 x2 M)) {k64 : Int32 → Int32 → Int32 → Int32 → Mem → Option (Unit × Mem)} (hk64 : ∀ (x2 : Int32) (x3 : Int32) (x4 : Int32) (x5 : Int32) (M : Mem), Sm ([(rf i0 0)] : List Nat) M0 M → FrB ([(rf i0 0)] : List Nat) M0 (k64 x2 x3 x4 x5 M)) (x2 : Int32) (x3 : Int32) (x4 : Int32) (x5 : Int32) (M : Mem) (hM : Sm ([(rf i0 0)] : List Nat) M0 M) : FrB ([(rf i0 0)] : List Nat) M0 (X6_joinHomes_b64 i0 i1 k9 k64 x2 x3 x4 x5 M) := by
  unfold X6_joinHomes_b64
  refine Fr_ite ?_ ?_
  ·
    exact hk9 _ _ hM
  ·
    refine Fr_gd ?_
    refine Fr_gd ?_
    exact hk64 _ _ _ _ _ (Sm_mI hM (by simp))
theorem fr_X6_joinHomes_l64 {i0 : Nat} {i1 : Nat} {M0 : Mem} {k9 : Int32 → Mem → Option (Unit × Mem)} (hk9 : ∀ (x2 : Int32) (M : Mem), Sm ([(rf i0 0)] : List Nat) M0 M → FrB ([(rf i0 0)] : List Nat) M0 (k9 x2 M)) (n : Nat) : ∀ (x2 : Int32) (x3 : Int32) (x4 : Int32) (x5 : Int32) (M : Mem), Sm ([(rf i0 0)] : List Nat) M0 M → FrB ([(rf i0 0)] : List Nat) M0 (X6_joinHomes_l64 i0 i1 k9 n x2 x3 x4 x5 M) := by
  induction n with
  | zero => intro x2 x3 x4 x5 M _; exact Fr_none
  | succ n ih => intro x2 x3 x4 x5 M hM; exact fr_X6_joinHomes_b64 hk9 ih x2 x3 x4 x5 M hM
set_option maxRecDepth 100000 in
theorem fr_X6_joinHomes_b25 {i0 : Nat} {i1 : Nat} {M0 : Mem} {k9 : Int32 → Mem → Option (Unit × Mem)} (hk9 : ∀ (x2 : Int32) (M : Mem), Sm ([(rf i0 0)] : List Nat) M0 M → FrB ([(rf i0 0)] : List Nat) M0 (k9 x2 M)) {k25 : Int32 → Int32 → Int32 → Int32 → Mem → Option (Unit × Mem)} (hk25 : ∀ (x2 : Int32) (x3 : Int32) (x4 : Int32) (x5 : Int32) (M : Mem), Sm ([(rf i0 0)] : List Nat) M0 M → FrB ([(rf i0 0)] : List Nat) M0 (k25 x2 x3 x4 x5 M)) (x2 : Int32) (x3 : Int32) (x4 : Int32) (x5 : Int32) (M : Mem) (hM : Sm ([(rf i0 0)] : List Nat) M0 M) : FrB ([(rf i0 0)] : List Nat) M0 (X6_joinHomes_b25 i0 i1 k9 k25 x2 x3 x4 x5 M) := by
  unfold X6_joinHomes_b25
  refine Fr_ite ?_ ?_
  ·
    exact fr_X6_joinHomes_l64 hk9 _ _ _ _ _ _ hM
  ·
    refine Fr_gd ?_
    refine Fr_bind (fr_X11_isIn _ _ _ Sm_refl) (by simp) hM (fun p1 hN1 => ?_)
    refine Fr_ite ?_ ?_
    ·
      exact fr_X6_joinHomes_b55 hk9 hk25 _ _ _ _ _ hN1
    ·
      refine Fr_iw (fun v2 => ?_)
      exact fr_X6_joinHomes_b55 hk9 hk25 _ _ _ _ _ hN1
theorem fr_X6_joinHomes_l25 {i0 : Nat} {i1 : Nat} {M0 : Mem} {k9 : Int32 → Mem → Option (Unit × Mem)} (hk9 : ∀ (x2 : Int32) (M : Mem), Sm ([(rf i0 0)] : List Nat) M0 M → FrB ([(rf i0 0)] : List Nat) M0 (k9 x2 M)) (n : Nat) : ∀ (x2 : Int32) (x3 : Int32) (x4 : Int32) (x5 : Int32) (M : Mem), Sm ([(rf i0 0)] : List Nat) M0 M → FrB ([(rf i0 0)] : List Nat) M0 (X6_joinHomes_l25 i0 i1 k9 n x2 x3 x4 x5 M) := by
  induction n with
  | zero => intro x2 x3 x4 x5 M _; exact Fr_none
  | succ n ih => intro x2 x3 x4 x5 M hM; exact fr_X6_joinHomes_b25 hk9 ih x2 x3 x4 x5 M hM
set_option maxRecDepth 100000 in
theorem fr_X6_joinHomes_b9 {i0 : Nat} {i1 : Nat} {M0 : Mem} {k9 : Int32 → Mem → Option (Unit × Mem)} (hk9 : ∀ (x2 : Int32) (M : Mem), Sm ([(rf i0 0)] : List Nat) M0 M → FrB ([(rf i0 0)] : List Nat) M0 (k9 x2 M)) (x2 : Int32) (M : Mem) (hM : Sm ([(rf i0 0)] : List Nat) M0 M) : FrB ([(rf i0 0)] : List Nat) M0 (X6_joinHomes_b9 i0 i1 k9 x2 M) := by
  unfold X6_joinHomes_b9
  refine Fr_ite ?_ ?_
  ·
    exact Fr_ret hM
  ·
    exact fr_X6_joinHomes_l25 hk9 _ _ _ _ _ _ hM
theorem fr_X6_joinHomes_l9 {i0 : Nat} {i1 : Nat} {M0 : Mem} (n : Nat) : ∀ (x2 : Int32) (M : Mem), Sm ([(rf i0 0)] : List Nat) M0 M → FrB ([(rf i0 0)] : List Nat) M0 (X6_joinHomes_l9 i0 i1  n x2 M) := by
  induction n with
  | zero => intro x2 M _; exact Fr_none
  | succ n ih => intro x2 M hM; exact fr_X6_joinHomes_b9 ih x2 M hM
set_option maxRecDepth 100000 in
theorem fr_X6_joinHomes {i0 : Nat} {i1 : Nat} {M0 : Mem}  (M : Mem) (hM : Sm ([(rf i0 0)] : List Nat) M0 M) : FrB ([(rf i0 0)] : List Nat) M0 (X6_joinHomes i0 i1   M) := by
  unfold X6_joinHomes
  refine Fr_gd ?_
  exact fr_X6_joinHomes_l9  _ _ _ (Sm_mI hM (by simp))
set_option maxRecDepth 100000 in
theorem fr_X6_mostAtOnce_b8 {i0 : Nat} {M0 : Mem} {k8 : Int32 → Int32 → Int32 → Int32 → Mem → Option (Int32 × Mem)} (hk8 : ∀ (x1 : Int32) (x2 : Int32) (x3 : Int32) (x4 : Int32) (M : Mem), Sm ([] : List Nat) M0 M → FrB ([] : List Nat) M0 (k8 x1 x2 x3 x4 M)) (x1 : Int32) (x2 : Int32) (x3 : Int32) (x4 : Int32) (M : Mem) (hM : Sm ([] : List Nat) M0 M) : FrB ([] : List Nat) M0 (X6_mostAtOnce_b8 i0 k8 x1 x2 x3 x4 M) := by
  unfold X6_mostAtOnce_b8
  refine Fr_ite ?_ ?_
  ·
    exact Fr_ret hM
  ·
    refine Fr_bind (fr_J6_bitCount_0f7a4 _ _ Sm_refl) (by simp) hM (fun p1 hN1 => ?_)
    refine Fr_gd ?_
    refine Fr_bind (fr_J6_bitCount_0f7a4 _ _ Sm_refl) (by simp) hN1 (fun p2 hN2 => ?_)
    refine Fr_bind (fr_J9_min_7cf53 _ _ _ Sm_refl) (by simp) hN2 (fun p3 hN3 => ?_)
    exact hk8 _ _ _ _ _ hN3
theorem fr_X6_mostAtOnce_l8 {i0 : Nat} {M0 : Mem} (n : Nat) : ∀ (x1 : Int32) (x2 : Int32) (x3 : Int32) (x4 : Int32) (M : Mem), Sm ([] : List Nat) M0 M → FrB ([] : List Nat) M0 (X6_mostAtOnce_l8 i0  n x1 x2 x3 x4 M) := by
  induction n with
  | zero => intro x1 x2 x3 x4 M _; exact Fr_none
  | succ n ih => intro x1 x2 x3 x4 M hM; exact fr_X6_mostAtOnce_b8 ih x1 x2 x3 x4 M hM
set_option maxRecDepth 100000 in
theorem fr_X6_mostAtOnce {i0 : Nat} {M0 : Mem} (x1 : Int32) (x2 : Int32) (M : Mem) (hM : Sm ([] : List Nat) M0 M) : FrB ([] : List Nat) M0 (X6_mostAtOnce i0  x1 x2 M) := by
  unfold X6_mostAtOnce
  refine Fr_bind (fr_J6_bitCount_0f7a4 _ _ Sm_refl) (by simp) hM (fun p1 hN1 => ?_)
  exact fr_X6_mostAtOnce_l8  _ _ _ _ _ _ hN1
set_option maxRecDepth 100000 in
theorem fr_X6_leastBasket_b42 {i0 : Nat} {M0 : Mem} {k3 : Int32 → Int32 → Int32 → Int32 → Int32 → Mem → Option (Int32 × Mem)} (hk3 : ∀ (x1 : Int32) (x2 : Int32) (x3 : Int32) (x4 : Int32) (x5 : Int32) (M : Mem), Sm ([] : List Nat) M0 M → FrB ([] : List Nat) M0 (k3 x1 x2 x3 x4 x5 M)) (x1 : Int32) (x2 : Int32) (x3 : Int32) (x4 : Int32) (x5 : Int32) (M : Mem) (hM : Sm ([] : List Nat) M0 M) : FrB ([] : List Nat) M0 (X6_leastBasket_b42 i0 k3 x1 x2 x3 x4 x5 M) := by
  unfold X6_leastBasket_b42
  exact hk3 _ _ _ _ _ _ hM
set_option maxRecDepth 100000 in
theorem fr_X6_leastBasket_b3 {i0 : Nat} {M0 : Mem} {k3 : Int32 → Int32 → Int32 → Int32 → Int32 → Mem → Option (Int32 × Mem)} (hk3 : ∀ (x1 : Int32) (x2 : Int32) (x3 : Int32) (x4 : Int32) (x5 : Int32) (M : Mem), Sm ([] : List Nat) M0 M → FrB ([] : List Nat) M0 (k3 x1 x2 x3 x4 x5 M)) (x1 : Int32) (x2 : Int32) (x3 : Int32) (x4 : Int32) (x5 : Int32) (M : Mem) (hM : Sm ([] : List Nat) M0 M) : FrB ([] : List Nat) M0 (X6_leastBasket_b3 i0 k3 x1 x2 x3 x4 x5 M) := by
  unfold X6_leastBasket_b3
  refine Fr_ite ?_ ?_
  ·
    exact Fr_ret hM
  ·
    refine Fr_bind (fr_X11_isIn _ _ _ Sm_refl) (by simp) hM (fun p1 hN1 => ?_)
    refine Fr_ite ?_ ?_
    ·
      exact fr_X6_leastBasket_b42 hk3 _ _ _ _ _ _ hN1
    ·
      refine Fr_bind (fr_X6_mostAtOnce _ _ _ Sm_refl) (by simp) hN1 (fun p2 hN2 => ?_)
      refine Fr_ite ?_ ?_
      ·
        exact Fr_ret hN2
      ·
        exact fr_X6_leastBasket_b42 hk3 _ _ _ _ _ _ hN2
theorem fr_X6_leastBasket_l3 {i0 : Nat} {M0 : Mem} (n : Nat) : ∀ (x1 : Int32) (x2 : Int32) (x3 : Int32) (x4 : Int32) (x5 : Int32) (M : Mem), Sm ([] : List Nat) M0 M → FrB ([] : List Nat) M0 (X6_leastBasket_l3 i0  n x1 x2 x3 x4 x5 M) := by
  induction n with
  | zero => intro x1 x2 x3 x4 x5 M _; exact Fr_none
  | succ n ih => intro x1 x2 x3 x4 x5 M hM; exact fr_X6_leastBasket_b3 ih x1 x2 x3 x4 x5 M hM
set_option maxRecDepth 100000 in
theorem fr_X6_leastBasket {i0 : Nat} {M0 : Mem} (x1 : Int32) (x2 : Int32) (x3 : Int32) (x4 : Int32) (M : Mem) (hM : Sm ([] : List Nat) M0 M) : FrB ([] : List Nat) M0 (X6_leastBasket i0  x1 x2 x3 x4 M) := by
  unfold X6_leastBasket
  exact fr_X6_leastBasket_l3  _ _ _ _ _ _ _ hM
set_option maxRecDepth 100000 in
theorem fr_X6_pair_b119 {i0 : Nat} {i1 : Nat} {M0 : Mem} {k31 : Int32 → Int32 → Int32 → Int32 → Int32 → Mem → Option (Unit × Mem)} (hk31 : ∀ (x2 : Int32) (x3 : Int32) (x4 : Int32) (x5 : Int32) (x6 : Int32) (M : Mem), Sm ([(rf i0 0), (rf i0 1), i0] : List Nat) M0 M → FrB ([(rf i0 0), (rf i0 1), i0] : List Nat) M0 (k31 x2 x3 x4 x5 x6 M)) (x2 : Int32) (x3 : Int32) (x4 : Int32) (x5 : Int32) (x6 : Int32) (M : Mem) (hM : Sm ([(rf i0 0), (rf i0 1), i0] : List Nat) M0 M) : FrB ([(rf i0 0), (rf i0 1), i0] : List Nat) M0 (X6_pair_b119 i0 i1 k31 x2 x3 x4 x5 x6 M) := by
  unfold X6_pair_b119
  exact hk31 _ _ _ _ _ _ hM
set_option maxRecDepth 100000 in
theorem fr_X6_pair_b89 {i0 : Nat} {i1 : Nat} {M0 : Mem} {k31 : Int32 → Int32 → Int32 → Int32 → Int32 → Mem → Option (Unit × Mem)} (hk31 : ∀ (x2 : Int32) (x3 : Int32) (x4 : Int32) (x5 : Int32) (x6 : Int32) (M : Mem), Sm ([(rf i0 0), (rf i0 1), i0] : List Nat) M0 M → FrB ([(rf i0 0), (rf i0 1), i0] : List Nat) M0 (k31 x2 x3 x4 x5 x6 M)) (x2 : Int32) (x3 : Int32) (x4 : Int32) (x5 : Int32) (x6 : Int32) (s0 : Int32) (s1 : Int32) (M : Mem) (hM : Sm ([(rf i0 0), (rf i0 1), i0] : List Nat) M0 M) : FrB ([(rf i0 0), (rf i0 1), i0] : List Nat) M0 (X6_pair_b89 i0 i1 k31 x2 x3 x4 x5 x6 s0 s1 M) := by
  unfold X6_pair_b89
  refine Fr_gd ?_
  refine Fr_gd ?_
  refine Fr_ite ?_ ?_
  ·
    exact fr_X6_pair_b119 hk31 _ _ _ _ _ _ (Sm_mI hM (by simp))
  ·
    refine Fr_gd ?_
    refine Fr_iw (fun v1 => ?_)
    exact fr_X6_pair_b119 hk31 _ _ _ _ _ _ (Sm_mI hM (by simp))
set_option maxRecDepth 100000 in
theorem fr_X6_pair_b31 {i0 : Nat} {i1 : Nat} {M0 : Mem} {k31 : Int32 → Int32 → Int32 → Int32 → Int32 → Mem → Option (Unit × Mem)} (hk31 : ∀ (x2 : Int32) (x3 : Int32) (x4 : Int32) (x5 : Int32) (x6 : Int32) (M : Mem), Sm ([(rf i0 0), (rf i0 1), i0] : List Nat) M0 M → FrB ([(rf i0 0), (rf i0 1), i0] : List Nat) M0 (k31 x2 x3 x4 x5 x6 M)) (x2 : Int32) (x3 : Int32) (x4 : Int32) (x5 : Int32) (x6 : Int32) (M : Mem) (hM : Sm ([(rf i0 0), (rf i0 1), i0] : List Nat) M0 M) : FrB ([(rf i0 0), (rf i0 1), i0] : List Nat) M0 (X6_pair_b31 i0 i1 k31 x2 x3 x4 x5 x6 M) := by
  unfold X6_pair_b31
  refine Fr_ite ?_ ?_
  ·
    exact Fr_ret hM
  ·
    refine Fr_iw (fun v1 => ?_)
    refine Fr_bind (fr_X11_isIn _ _ _ Sm_refl) (by simp) hM (fun p2 hN2 => ?_)
    refine Fr_ite ?_ ?_
    ·
      exact fr_X6_pair_b89 hk31 _ _ _ _ _ _ _ _ hN2
    ·
      refine Fr_gd ?_
      refine Fr_bind (fr_X6_leastBasket _ _ _ _ _ Sm_refl) (by simp) hN2 (fun p3 hN3 => ?_)
      exact fr_X6_pair_b89 hk31 _ _ _ _ _ _ _ _ hN3
theorem fr_X6_pair_l31 {i0 : Nat} {i1 : Nat} {M0 : Mem} (n : Nat) : ∀ (x2 : Int32) (x3 : Int32) (x4 : Int32) (x5 : Int32) (x6 : Int32) (M : Mem), Sm ([(rf i0 0), (rf i0 1), i0] : List Nat) M0 M → FrB ([(rf i0 0), (rf i0 1), i0] : List Nat) M0 (X6_pair_l31 i0 i1  n x2 x3 x4 x5 x6 M) := by
  induction n with
  | zero => intro x2 x3 x4 x5 x6 M _; exact Fr_none
  | succ n ih => intro x2 x3 x4 x5 x6 M hM; exact fr_X6_pair_b31 ih x2 x3 x4 x5 x6 M hM
set_option maxRecDepth 100000 in
theorem fr_X6_pair {i0 : Nat} {i1 : Nat} {M0 : Mem} (x2 : Int32) (M : Mem) (hM : Sm ([(rf i0 0), (rf i0 1), i0] : List Nat) M0 M) : FrB ([(rf i0 0), (rf i0 1), i0] : List Nat) M0 (X6_pair i0 i1  x2 M) := by
  unfold X6_pair
  refine Fr_bind (fr_X6_joinHomes  _ Sm_refl) (by simp) hM (fun p1 hN1 => ?_)
  refine Fr_bind (fr_X6_mostAtOnce _ _ _ Sm_refl) (by simp) hN1 (fun p2 hN2 => ?_)
  exact fr_X6_pair_l31  _ _ _ _ _ _ _ (Sm_mI hN2 (by simp))
set_option maxRecDepth 100000 in
theorem fr_X7_takeOver {i0 : Nat} {i1 : Nat} {M0 : Mem}  (M : Mem) (hM : Sm ([(rf i0 0), (rf i0 1), i0] : List Nat) M0 M) : FrB ([(rf i0 0), (rf i0 1), i0] : List Nat) M0 (X7_takeOver i0 i1   M) := by
  unfold X7_takeOver
  refine Fr_mw (Sm_mR hM (by simp)) (fun N1 hN1 => ?_)
  refine Fr_mw (Sm_mR hN1 (by simp)) (fun N2 hN2 => ?_)
  refine Fr_mw (Sm_mI hN2 (by simp)) (fun N3 hN3 => ?_)
  exact Fr_ret hN3
set_option maxRecDepth 100000 in
theorem fr_X7_write {i0 : Nat} {M0 : Mem} (x1 : Int32) (x2 : Int32) (M : Mem) (hM : Sm ([(rf i0 0), (rf i0 1), i0] : List Nat) M0 M) : FrB ([(rf i0 0), (rf i0 1), i0] : List Nat) M0 (X7_write i0  x1 x2 M) := by
  unfold X7_write
  refine Fr_ite ?_ ?_
  ·
    refine Fr_gd ?_
    refine Fr_mw (Sm_mI hM (by simp)) (fun N1 hN1 => ?_)
    refine Fr_gd ?_
    refine Fr_mw (Sm_mI hN1 (by simp)) (fun N2 hN2 => ?_)
    refine Fr_mw (Sm_mI hN2 (by simp)) (fun N3 hN3 => ?_)
    exact Fr_ret hN3
  ·
    exact Fr_ret hM
set_option maxRecDepth 100000 in
theorem fr_X8_write {i0 : Nat} {M0 : Mem} (x1 : Int32) (M : Mem) (hM : Sm ([(rf i0 0), i0] : List Nat) M0 M) : FrB ([(rf i0 0), i0] : List Nat) M0 (X8_write i0  x1 M) := by
  unfold X8_write
  refine Fr_ite ?_ ?_
  ·
    refine Fr_gd ?_
    exact Fr_ret (Sm_mI (Sm_mI hM (by simp)) (by simp))
  ·
    exact Fr_ret hM
set_option maxRecDepth 100000 in
theorem fr_X8_begins_b31  {M0 : Mem} (s0 : Int32) (M : Mem) (hM : Sm ([] : List Nat) M0 M) : FrB ([] : List Nat) M0 (X8_begins_b31   s0 M) := by
  unfold X8_begins_b31
  exact Fr_gd (Fr_ret hM)
set_option maxRecDepth 100000 in
theorem fr_X8_begins_b26  {M0 : Mem}  (M : Mem) (hM : Sm ([] : List Nat) M0 M) : FrB ([] : List Nat) M0 (X8_begins_b26    M) := by
  unfold X8_begins_b26
  exact fr_X8_begins_b31  _ _ hM
set_option maxRecDepth 100000 in
theorem fr_X8_begins  {M0 : Mem} (x0 : Int32) (M : Mem) (hM : Sm ([] : List Nat) M0 M) : FrB ([] : List Nat) M0 (X8_begins   x0 M) := by
  unfold X8_begins
  refine Fr_bind (fr_X8_isLetter _ _ Sm_refl) (by simp) hM (fun p1 hN1 => ?_)
  refine Fr_ite ?_ ?_
  ·
    refine Fr_ite ?_ ?_
    ·
      exact fr_X8_begins_b26   _ hN1
    ·
      refine Fr_ite ?_ ?_
      ·
        exact fr_X8_begins_b26   _ hN1
      ·
        refine Fr_bind (fr_X8_isOfTwo _ _ Sm_refl) (by simp) hN1 (fun p2 hN2 => ?_)
        refine Fr_ite ?_ ?_
        ·
          exact fr_X8_begins_b31  _ _ hN2
        ·
          exact fr_X8_begins_b26   _ hN2
  ·
    exact fr_X8_begins_b26   _ hN1
set_option maxRecDepth 100000 in
theorem fr_X11_isThing  {M0 : Mem} (x0 : Int32) (M : Mem) (hM : Sm ([] : List Nat) M0 M) : FrB ([] : List Nat) M0 (X11_isThing   x0 M) := by
  unfold X11_isThing
  refine Fr_bind (fr_X11_isWithin _ _ _ _ Sm_refl) (by simp) hM (fun p1 hN1 => ?_)
  exact Fr_gd (Fr_ret hN1)
set_option maxRecDepth 100000 in
theorem fr_X8_ends_b20  {M0 : Mem} (s0 : Int32) (M : Mem) (hM : Sm ([] : List Nat) M0 M) : FrB ([] : List Nat) M0 (X8_ends_b20   s0 M) := by
  unfold X8_ends_b20
  exact Fr_gd (Fr_ret hM)
set_option maxRecDepth 100000 in
theorem fr_X8_ends  {M0 : Mem} (x0 : Int32) (x1 : Int32) (M : Mem) (hM : Sm ([] : List Nat) M0 M) : FrB ([] : List Nat) M0 (X8_ends   x0 x1 M) := by
  unfold X8_ends
  refine Fr_ite ?_ ?_
  ·
    refine Fr_bind (fr_X8_isLetter _ _ Sm_refl) (by simp) hM (fun p1 hN1 => ?_)
    exact fr_X8_ends_b20  _ _ hN1
  ·
    refine Fr_bind (fr_X11_isThing _ _ Sm_refl) (by simp) hM (fun p2 hN2 => ?_)
    exact fr_X8_ends_b20  _ _ hN2
set_option maxRecDepth 100000 in
theorem fr_X8_faultPlace_b51 {i0 : Nat} {M0 : Mem} (x2 : Int32) (M : Mem) (hM : Sm ([] : List Nat) M0 M) : FrB ([] : List Nat) M0 (X8_faultPlace_b51 i0  x2 M) := by
  unfold X8_faultPlace_b51
  exact Fr_ret hM
set_option maxRecDepth 100000 in
theorem fr_X8_faultPlace_b74 {i0 : Nat} {M0 : Mem} {k4 : Int32 → Int32 → Mem → Option (Int32 × Mem)} (hk4 : ∀ (x1 : Int32) (x2 : Int32) (M : Mem), Sm ([] : List Nat) M0 M → FrB ([] : List Nat) M0 (k4 x1 x2 M)) (x2 : Int32) (s0 : Int32) (M : Mem) (hM : Sm ([] : List Nat) M0 M) : FrB ([] : List Nat) M0 (X8_faultPlace_b74 i0 k4 x2 s0 M) := by
  unfold X8_faultPlace_b74
  exact hk4 _ _ _ hM
set_option maxRecDepth 100000 in
theorem fr_X8_faultPlace_b73 {i0 : Nat} {M0 : Mem} {k4 : Int32 → Int32 → Mem → Option (Int32 × Mem)} (hk4 : ∀ (x1 : Int32) (x2 : Int32) (M : Mem), Sm ([] : List Nat) M0 M → FrB ([] : List Nat) M0 (k4 x1 x2 M)) (x2 : Int32) (M : Mem) (hM : Sm ([] : List Nat) M0 M) : FrB ([] : List Nat) M0 (X8_faultPlace_b73 i0 k4 x2 M) := by
  unfold X8_faultPlace_b73
  exact fr_X8_faultPlace_b74 hk4 _ _ _ hM
set_option maxRecDepth 100000 in
theorem fr_X8_faultPlace_b53 {i0 : Nat} {M0 : Mem} {k4 : Int32 → Int32 → Mem → Option (Int32 × Mem)} (hk4 : ∀ (x1 : Int32) (x2 : Int32) (M : Mem), Sm ([] : List Nat) M0 M → FrB ([] : List Nat) M0 (k4 x1 x2 M)) (x1 : Int32) (x2 : Int32) (M : Mem) (hM : Sm ([] : List Nat) M0 M) : FrB ([] : List Nat) M0 (X8_faultPlace_b53 i0 k4 x1 x2 M) := by
  unfold X8_faultPlace_b53
  refine Fr_ite ?_ ?_
  ·
    refine Fr_gd ?_
    refine Fr_bind (fr_X8_isOfTwo _ _ Sm_refl) (by simp) hM (fun p1 hN1 => ?_)
    refine Fr_ite ?_ ?_
    ·
      exact fr_X8_faultPlace_b73 hk4 _ _ hN1
    ·
      exact fr_X8_faultPlace_b74 hk4 _ _ _ hN1
  ·
    exact fr_X8_faultPlace_b73 hk4 _ _ hM
set_option maxRecDepth 100000 in
theorem fr_X8_faultPlace_b94 {i0 : Nat} {M0 : Mem} (s0 : Int32) (M : Mem) (hM : Sm ([] : List Nat) M0 M) : FrB ([] : List Nat) M0 (X8_faultPlace_b94 i0  s0 M) := by
  unfold X8_faultPlace_b94
  exact Fr_ret hM
set_option maxRecDepth 100000 in
theorem fr_X8_faultPlace_b4 {i0 : Nat} {M0 : Mem} {k4 : Int32 → Int32 → Mem → Option (Int32 × Mem)} (hk4 : ∀ (x1 : Int32) (x2 : Int32) (M : Mem), Sm ([] : List Nat) M0 M → FrB ([] : List Nat) M0 (k4 x1 x2 M)) (x1 : Int32) (x2 : Int32) (M : Mem) (hM : Sm ([] : List Nat) M0 M) : FrB ([] : List Nat) M0 (X8_faultPlace_b4 i0 k4 x1 x2 M) := by
  unfold X8_faultPlace_b4
  refine Fr_ite ?_ ?_
  ·
    refine Fr_ite ?_ ?_
    ·
      exact fr_X8_faultPlace_b94  _ _ hM
    ·
      exact fr_X8_faultPlace_b94  _ _ hM
  ·
    refine Fr_ite ?_ ?_
    ·
      refine Fr_gd ?_
      refine Fr_bind (fr_X8_begins _ _ Sm_refl) (by simp) hM (fun p1 hN1 => ?_)
      refine Fr_ite ?_ ?_
      ·
        exact fr_X8_faultPlace_b51  _ _ hN1
      ·
        exact fr_X8_faultPlace_b53 hk4 _ _ _ hN1
    ·
      refine Fr_gd ?_
      refine Fr_gd ?_
      refine Fr_bind (fr_X8_ends _ _ _ Sm_refl) (by simp) hM (fun p2 hN2 => ?_)
      refine Fr_ite ?_ ?_
      ·
        exact fr_X8_faultPlace_b51  _ _ hN2
      ·
        exact fr_X8_faultPlace_b53 hk4 _ _ _ hN2
theorem fr_X8_faultPlace_l4 {i0 : Nat} {M0 : Mem} (n : Nat) : ∀ (x1 : Int32) (x2 : Int32) (M : Mem), Sm ([] : List Nat) M0 M → FrB ([] : List Nat) M0 (X8_faultPlace_l4 i0  n x1 x2 M) := by
  induction n with
  | zero => intro x1 x2 M _; exact Fr_none
  | succ n ih => intro x1 x2 M hM; exact fr_X8_faultPlace_b4 ih x1 x2 M hM
set_option maxRecDepth 100000 in
theorem fr_X8_faultPlace {i0 : Nat} {M0 : Mem}  (M : Mem) (hM : Sm ([] : List Nat) M0 M) : FrB ([] : List Nat) M0 (X8_faultPlace i0   M) := by
  unfold X8_faultPlace
  exact fr_X8_faultPlace_l4  _ _ _ _ hM
set_option maxRecDepth 100000 in
theorem fr_X9_spread_b44 {i0 : Nat} {M0 : Mem} {k35 : Int32 → Int32 → Int32 → Mem → Option (Unit × Mem)} (hk35 : ∀ (x1 : Int32) (x2 : Int32) (x3 : Int32) (M : Mem), Sm ([(rf i0 0), i0] : List Nat) M0 M → FrB ([(rf i0 0), i0] : List Nat) M0 (k35 x1 x2 x3 M)) {k44 : Int32 → Int32 → Int32 → Int32 → Mem → Option (Unit × Mem)} (hk44 : ∀ (x1 : Int32) (x2 : Int32) (x3 : Int32) (x4 : Int32) (M : Mem), Sm ([(rf i0 0), i0] : List Nat) M0 M → FrB ([(rf i0 0), i0] : List Nat) M0 (k44 x1 x2 x3 x4 M)) (x1 : Int32) (x2 : Int32) (x3 : Int32) (x4 : Int32) (M : Mem) (hM : Sm ([(rf i0 0), i0] : List Nat) M0 M) : FrB ([(rf i0 0), i0] : List Nat) M0 (X9_spread_b44 i0 k35 k44 x1 x2 x3 x4 M) := by
  unfold X9_spread_b44
  refine Fr_ite ?_ ?_
  ·
    refine Fr_gd ?_
    refine Fr_gd ?_
    refine Fr_mw (Sm_mL hM (by simp)) (fun N1 hN1 => ?_)
    refine Fr_mw (Sm_mL hN1 (by simp)) (fun N2 hN2 => ?_)
    exact hk35 _ _ _ _ hN2
  ·
    refine Fr_gd ?_
    refine Fr_gd ?_
    refine Fr_gd ?_
    refine Fr_mw (Sm_mL hM (by simp)) (fun N3 hN3 => ?_)
    exact hk44 _ _ _ _ _ hN3
theorem fr_X9_spread_l44 {i0 : Nat} {M0 : Mem} {k35 : Int32 → Int32 → Int32 → Mem → Option (Unit × Mem)} (hk35 : ∀ (x1 : Int32) (x2 : Int32) (x3 : Int32) (M : Mem), Sm ([(rf i0 0), i0] : List Nat) M0 M → FrB ([(rf i0 0), i0] : List Nat) M0 (k35 x1 x2 x3 M)) (n : Nat) : ∀ (x1 : Int32) (x2 : Int32) (x3 : Int32) (x4 : Int32) (M : Mem), Sm ([(rf i0 0), i0] : List Nat) M0 M → FrB ([(rf i0 0), i0] : List Nat) M0 (X9_spread_l44 i0 k35 n x1 x2 x3 x4 M) := by
  induction n with
  | zero => intro x1 x2 x3 x4 M _; exact Fr_none
  | succ n ih => intro x1 x2 x3 x4 M hM; exact fr_X9_spread_b44 hk35 ih x1 x2 x3 x4 M hM
set_option maxRecDepth 100000 in
theorem fr_X9_spread_b35 {i0 : Nat} {M0 : Mem} {k35 : Int32 → Int32 → Int32 → Mem → Option (Unit × Mem)} (hk35 : ∀ (x1 : Int32) (x2 : Int32) (x3 : Int32) (M : Mem), Sm ([(rf i0 0), i0] : List Nat) M0 M → FrB ([(rf i0 0), i0] : List Nat) M0 (k35 x1 x2 x3 M)) (x1 : Int32) (x2 : Int32) (x3 : Int32) (M : Mem) (hM : Sm ([(rf i0 0), i0] : List Nat) M0 M) : FrB ([(rf i0 0), i0] : List Nat) M0 (X9_spread_b35 i0 k35 x1 x2 x3 M) := by
  unfold X9_spread_b35
  refine Fr_ite ?_ ?_
  ·
    exact Fr_ret hM
  ·
    exact fr_X9_spread_l44 hk35 _ _ _ _ _ _ hM
theorem fr_X9_spread_l35 {i0 : Nat} {M0 : Mem} (n : Nat) : ∀ (x1 : Int32) (x2 : Int32) (x3 : Int32) (M : Mem), Sm ([(rf i0 0), i0] : List Nat) M0 M → FrB ([(rf i0 0), i0] : List Nat) M0 (X9_spread_l35 i0  n x1 x2 x3 M) := by
  induction n with
  | zero => intro x1 x2 x3 M _; exact Fr_none
  | succ n ih => intro x1 x2 x3 M hM; exact fr_X9_spread_b35 ih x1 x2 x3 M hM
set_option maxRecDepth 100000 in
theorem fr_X9_spread_b2 {i0 : Nat} {M0 : Mem} {k2 : Int32 → Int32 → Int32 → Mem → Option (Unit × Mem)} (hk2 : ∀ (x1 : Int32) (x2 : Int32) (x3 : Int32) (M : Mem), Sm ([(rf i0 0), i0] : List Nat) M0 M → FrB ([(rf i0 0), i0] : List Nat) M0 (k2 x1 x2 x3 M)) (x1 : Int32) (x2 : Int32) (x3 : Int32) (M : Mem) (hM : Sm ([(rf i0 0), i0] : List Nat) M0 M) : FrB ([(rf i0 0), i0] : List Nat) M0 (X9_spread_b2 i0 k2 x1 x2 x3 M) := by
  unfold X9_spread_b2
  refine Fr_ite ?_ ?_
  ·
    refine Fr_gd ?_
    refine Fr_mw (Sm_mL hM (by simp)) (fun N1 hN1 => ?_)
    refine Fr_mw (Sm_mL hN1 (by simp)) (fun N2 hN2 => ?_)
    exact fr_X9_spread_l35  _ _ _ _ _ hN2
  ·
    refine Fr_gd ?_
    refine Fr_mw (Sm_mL hM (by simp)) (fun N3 hN3 => ?_)
    exact hk2 _ _ _ _ hN3
theorem fr_X9_spread_l2 {i0 : Nat} {M0 : Mem} (n : Nat) : ∀ (x1 : Int32) (x2 : Int32) (x3 : Int32) (M : Mem), Sm ([(rf i0 0), i0] : List Nat) M0 M → FrB ([(rf i0 0), i0] : List Nat) M0 (X9_spread_l2 i0  n x1 x2 x3 M) := by
  induction n with
  | zero => intro x1 x2 x3 M _; exact Fr_none
  | succ n ih => intro x1 x2 x3 M hM; exact fr_X9_spread_b2 ih x1 x2 x3 M hM
set_option maxRecDepth 100000 in
theorem fr_X9_spread {i0 : Nat} {M0 : Mem} (x1 : Int32) (x2 : Int32) (M : Mem) (hM : Sm ([(rf i0 0), i0] : List Nat) M0 M) : FrB ([(rf i0 0), i0] : List Nat) M0 (X9_spread i0  x1 x2 M) := by
  unfold X9_spread
  exact fr_X9_spread_l2  _ _ _ _ _ hM
set_option maxRecDepth 100000 in
theorem fr_X9_waysToReach_b5 {i0 : Nat} {M0 : Mem} {k5 : Int64 → Int32 → Mem → Option (Int64 × Mem)} (hk5 : ∀ (x2 : Int64) (x4 : Int32) (M : Mem), Sm ([] : List Nat) M0 M → FrB ([] : List Nat) M0 (k5 x2 x4 M)) (x2 : Int64) (x4 : Int32) (M : Mem) (hM : Sm ([] : List Nat) M0 M) : FrB ([] : List Nat) M0 (X9_waysToReach_b5 i0 k5 x2 x4 M) := by
  unfold X9_waysToReach_b5
  refine Fr_ite ?_ ?_
  ·
    exact Fr_ret hM
  ·
    refine Fr_gd ?_
    refine Fr_lw (fun v1 => ?_)
    exact hk5 _ _ _ hM
theorem fr_X9_waysToReach_l5 {i0 : Nat} {M0 : Mem} (n : Nat) : ∀ (x2 : Int64) (x4 : Int32) (M : Mem), Sm ([] : List Nat) M0 M → FrB ([] : List Nat) M0 (X9_waysToReach_l5 i0  n x2 x4 M) := by
  induction n with
  | zero => intro x2 x4 M _; exact Fr_none
  | succ n ih => intro x2 x4 M hM; exact fr_X9_waysToReach_b5 ih x2 x4 M hM
set_option maxRecDepth 100000 in
theorem fr_X9_waysToReach {i0 : Nat} {M0 : Mem} (x1 : Int32) (M : Mem) (hM : Sm ([] : List Nat) M0 M) : FrB ([] : List Nat) M0 (X9_waysToReach i0  x1 M) := by
  unfold X9_waysToReach
  exact fr_X9_waysToReach_l5  _ _ _ _ hM
set_option maxRecDepth 100000 in
theorem fr_X9_lengthsUpTo_b5 {i0 : Nat} {M0 : Mem} {k5 : Int32 → Int64 → Int32 → Mem → Option (Int64 × Mem)} (hk5 : ∀ (x1 : Int32) (x2 : Int64) (x4 : Int32) (M : Mem), Sm ([] : List Nat) M0 M → FrB ([] : List Nat) M0 (k5 x1 x2 x4 M)) (x1 : Int32) (x2 : Int64) (x4 : Int32) (M : Mem) (hM : Sm ([] : List Nat) M0 M) : FrB ([] : List Nat) M0 (X9_lengthsUpTo_b5 i0 k5 x1 x2 x4 M) := by
  unfold X9_lengthsUpTo_b5
  refine Fr_ite ?_ ?_
  ·
    exact Fr_ret hM
  ·
    refine Fr_bind (fr_J9_min_7cf53 _ _ _ Sm_refl) (by simp) hM (fun p1 hN1 => ?_)
    refine Fr_gd ?_
    refine Fr_lw (fun v2 => ?_)
    exact hk5 _ _ _ _ hN1
theorem fr_X9_lengthsUpTo_l5 {i0 : Nat} {M0 : Mem} (n : Nat) : ∀ (x1 : Int32) (x2 : Int64) (x4 : Int32) (M : Mem), Sm ([] : List Nat) M0 M → FrB ([] : List Nat) M0 (X9_lengthsUpTo_l5 i0  n x1 x2 x4 M) := by
  induction n with
  | zero => intro x1 x2 x4 M _; exact Fr_none
  | succ n ih => intro x1 x2 x4 M hM; exact fr_X9_lengthsUpTo_b5 ih x1 x2 x4 M hM
set_option maxRecDepth 100000 in
theorem fr_X9_lengthsUpTo {i0 : Nat} {M0 : Mem} (x1 : Int32) (M : Mem) (hM : Sm ([] : List Nat) M0 M) : FrB ([] : List Nat) M0 (X9_lengthsUpTo i0  x1 M) := by
  unfold X9_lengthsUpTo
  exact fr_X9_lengthsUpTo_l5  _ _ _ _ _ hM
set_option maxRecDepth 100000 in
theorem fr_X10_isLost_b15 {i0 : Nat} {M0 : Mem} (s0 : Int32) (M : Mem) (hM : Sm ([] : List Nat) M0 M) : FrB ([] : List Nat) M0 (X10_isLost_b15 i0  s0 M) := by
  unfold X10_isLost_b15
  exact Fr_gd (Fr_ret hM)
set_option maxRecDepth 100000 in
theorem fr_X10_isLost {i0 : Nat} {M0 : Mem} (x1 : Int32) (x2 : Int32) (M : Mem) (hM : Sm ([] : List Nat) M0 M) : FrB ([] : List Nat) M0 (X10_isLost i0  x1 x2 M) := by
  unfold X10_isLost
  refine Fr_gd ?_
  refine Fr_ite ?_ ?_
  ·
    exact fr_X10_isLost_b15  _ _ hM
  ·
    exact fr_X10_isLost_b15  _ _ hM
set_option maxRecDepth 100000 in
theorem fr_X10_winningTake_b80 {i0 : Nat} {M0 : Mem} (x3 : Int32) (x4 : Int32) (M : Mem) (hM : Sm ([] : List Nat) M0 M) : FrB ([] : List Nat) M0 (X10_winningTake_b80 i0  x3 x4 M) := by
  unfold X10_winningTake_b80
  exact Fr_ret hM
set_option maxRecDepth 100000 in
theorem fr_X10_winningTake_b88 {i0 : Nat} {M0 : Mem} {k2 : Int32 → Int32 → Int32 → Mem → Option (Int32 × Mem)} (hk2 : ∀ (x1 : Int32) (x2 : Int32) (x3 : Int32) (M : Mem), Sm ([] : List Nat) M0 M → FrB ([] : List Nat) M0 (k2 x1 x2 x3 M)) (x1 : Int32) (x2 : Int32) (x3 : Int32) (M : Mem) (hM : Sm ([] : List Nat) M0 M) : FrB ([] : List Nat) M0 (X10_winningTake_b88 i0 k2 x1 x2 x3 M) := by
  unfold X10_winningTake_b88
  exact hk2 _ _ _ _ hM
set_option maxRecDepth 100000 in
theorem fr_X10_winningTake_b63 {i0 : Nat} {M0 : Mem} {k2 : Int32 → Int32 → Int32 → Mem → Option (Int32 × Mem)} (hk2 : ∀ (x1 : Int32) (x2 : Int32) (x3 : Int32) (M : Mem), Sm ([] : List Nat) M0 M → FrB ([] : List Nat) M0 (k2 x1 x2 x3 M)) (x1 : Int32) (x2 : Int32) (x3 : Int32) (x4 : Int32) (x5 : Int32) (s0 : Int32) (M : Mem) (hM : Sm ([] : List Nat) M0 M) : FrB ([] : List Nat) M0 (X10_winningTake_b63 i0 k2 x1 x2 x3 x4 x5 s0 M) := by
  unfold X10_winningTake_b63
  refine Fr_ite ?_ ?_
  ·
    exact fr_X10_winningTake_b88 hk2 _ _ _ _ hM
  ·
    refine Fr_ite ?_ ?_
    ·
      refine Fr_ite ?_ ?_
      ·
        exact fr_X10_winningTake_b88 hk2 _ _ _ _ hM
      ·
        exact fr_X10_winningTake_b80  _ _ _ hM
    ·
      exact fr_X10_winningTake_b80  _ _ _ hM
set_option maxRecDepth 100000 in
theorem fr_X10_winningTake_b62 {i0 : Nat} {M0 : Mem} {k2 : Int32 → Int32 → Int32 → Mem → Option (Int32 × Mem)} (hk2 : ∀ (x1 : Int32) (x2 : Int32) (x3 : Int32) (M : Mem), Sm ([] : List Nat) M0 M → FrB ([] : List Nat) M0 (k2 x1 x2 x3 M)) (x1 : Int32) (x2 : Int32) (x3 : Int32) (x4 : Int32) (x5 : Int32) (M : Mem) (hM : Sm ([] : List Nat) M0 M) : FrB ([] : List Nat) M0 (X10_winningTake_b62 i0 k2 x1 x2 x3 x4 x5 M) := by
  unfold X10_winningTake_b62
  exact fr_X10_winningTake_b63 hk2 _ _ _ _ _ _ _ hM
set_option maxRecDepth 100000 in
theorem fr_X10_winningTake_b46 {i0 : Nat} {M0 : Mem} {k2 : Int32 → Int32 → Int32 → Mem → Option (Int32 × Mem)} (hk2 : ∀ (x1 : Int32) (x2 : Int32) (x3 : Int32) (M : Mem), Sm ([] : List Nat) M0 M → FrB ([] : List Nat) M0 (k2 x1 x2 x3 M)) (x1 : Int32) (x2 : Int32) (x3 : Int32) (x4 : Int32) (s0 : Int32) (M : Mem) (hM : Sm ([] : List Nat) M0 M) : FrB ([] : List Nat) M0 (X10_winningTake_b46 i0 k2 x1 x2 x3 x4 s0 M) := by
  unfold X10_winningTake_b46
  refine Fr_ite ?_ ?_
  ·
    refine Fr_ite ?_ ?_
    ·
      exact fr_X10_winningTake_b62 hk2 _ _ _ _ _ _ hM
    ·
      exact fr_X10_winningTake_b63 hk2 _ _ _ _ _ _ _ hM
  ·
    exact fr_X10_winningTake_b62 hk2 _ _ _ _ _ _ hM
set_option maxRecDepth 100000 in
theorem fr_X10_winningTake_b38 {i0 : Nat} {M0 : Mem} {k2 : Int32 → Int32 → Int32 → Mem → Option (Int32 × Mem)} (hk2 : ∀ (x1 : Int32) (x2 : Int32) (x3 : Int32) (M : Mem), Sm ([] : List Nat) M0 M → FrB ([] : List Nat) M0 (k2 x1 x2 x3 M)) (x1 : Int32) (x2 : Int32) (x3 : Int32) (x4 : Int32) (s0 : Int32) (s1 : Int32) (M : Mem) (hM : Sm ([] : List Nat) M0 M) : FrB ([] : List Nat) M0 (X10_winningTake_b38 i0 k2 x1 x2 x3 x4 s0 s1 M) := by
  unfold X10_winningTake_b38
  refine Fr_ite ?_ ?_
  ·
    exact fr_X10_winningTake_b46 hk2 _ _ _ _ _ _ hM
  ·
    exact fr_X10_winningTake_b46 hk2 _ _ _ _ _ _ hM
set_option maxRecDepth 100000 in
theorem fr_X10_winningTake_b28 {i0 : Nat} {M0 : Mem} {k2 : Int32 → Int32 → Int32 → Mem → Option (Int32 × Mem)} (hk2 : ∀ (x1 : Int32) (x2 : Int32) (x3 : Int32) (M : Mem), Sm ([] : List Nat) M0 M → FrB ([] : List Nat) M0 (k2 x1 x2 x3 M)) (x1 : Int32) (x2 : Int32) (x3 : Int32) (x4 : Int32) (s0 : Int32) (M : Mem) (hM : Sm ([] : List Nat) M0 M) : FrB ([] : List Nat) M0 (X10_winningTake_b28 i0 k2 x1 x2 x3 x4 s0 M) := by
  unfold X10_winningTake_b28
  refine Fr_ite ?_ ?_
  ·
    exact fr_X10_winningTake_b38 hk2 _ _ _ _ _ _ _ hM
  ·
    exact fr_X10_winningTake_b38 hk2 _ _ _ _ _ _ _ hM
set_option maxRecDepth 100000 in
theorem fr_X10_winningTake_b2 {i0 : Nat} {M0 : Mem} {k2 : Int32 → Int32 → Int32 → Mem → Option (Int32 × Mem)} (hk2 : ∀ (x1 : Int32) (x2 : Int32) (x3 : Int32) (M : Mem), Sm ([] : List Nat) M0 M → FrB ([] : List Nat) M0 (k2 x1 x2 x3 M)) (x1 : Int32) (x2 : Int32) (x3 : Int32) (M : Mem) (hM : Sm ([] : List Nat) M0 M) : FrB ([] : List Nat) M0 (X10_winningTake_b2 i0 k2 x1 x2 x3 M) := by
  unfold X10_winningTake_b2
  refine Fr_ite ?_ ?_
  ·
    exact Fr_ret hM
  ·
    refine Fr_gd ?_
    refine Fr_iw (fun v1 => ?_)
    refine Fr_ite ?_ ?_
    ·
      exact fr_X10_winningTake_b28 hk2 _ _ _ _ _ _ hM
    ·
      exact fr_X10_winningTake_b28 hk2 _ _ _ _ _ _ hM
theorem fr_X10_winningTake_l2 {i0 : Nat} {M0 : Mem} (n : Nat) : ∀ (x1 : Int32) (x2 : Int32) (x3 : Int32) (M : Mem), Sm ([] : List Nat) M0 M → FrB ([] : List Nat) M0 (X10_winningTake_l2 i0  n x1 x2 x3 M) := by
  induction n with
  | zero => intro x1 x2 x3 M _; exact Fr_none
  | succ n ih => intro x1 x2 x3 M hM; exact fr_X10_winningTake_b2 ih x1 x2 x3 M hM
set_option maxRecDepth 100000 in
theorem fr_X10_winningTake {i0 : Nat} {M0 : Mem} (x1 : Int32) (x2 : Int32) (M : Mem) (hM : Sm ([] : List Nat) M0 M) : FrB ([] : List Nat) M0 (X10_winningTake i0  x1 x2 M) := by
  unfold X10_winningTake
  exact fr_X10_winningTake_l2  _ _ _ _ _ hM
set_option maxRecDepth 100000 in
theorem fr_X11_isThingSet  {M0 : Mem} (x0 : Int32) (M : Mem) (hM : Sm ([] : List Nat) M0 M) : FrB ([] : List Nat) M0 (X11_isThingSet   x0 M) := by
  unfold X11_isThingSet
  refine Fr_bind (fr_X11_isWithin _ _ _ _ Sm_refl) (by simp) hM (fun p1 hN1 => ?_)
  exact Fr_gd (Fr_ret hN1)
set_option maxRecDepth 100000 in
theorem fr_X11_basket_b26 {i0 : Nat} {M0 : Mem}  (M : Mem) (hM : Sm ([(rf (rf i0 0) 1), (rf (rf i0 0) 2)] : List Nat) M0 M) : FrB ([(rf (rf i0 0) 1), (rf (rf i0 0) 2)] : List Nat) M0 (X11_basket_b26 i0   M) := by
  unfold X11_basket_b26
  exact Fr_ret hM
set_option maxRecDepth 100000 in
theorem fr_X11_basket {i0 : Nat} {M0 : Mem} (x1 : Int32) (x2 : Int32) (x3 : Int32) (M : Mem) (hM : Sm ([(rf (rf i0 0) 1), (rf (rf i0 0) 2)] : List Nat) M0 M) : FrB ([(rf (rf i0 0) 1), (rf (rf i0 0) 2)] : List Nat) M0 (X11_basket i0  x1 x2 x3 M) := by
  unfold X11_basket
  refine Fr_bind (fr_X11_isCabin _ _ Sm_refl) (by simp) hM (fun p1 hN1 => ?_)
  refine Fr_ite ?_ ?_
  ·
    exact Fr_ret hN1
  ·
    refine Fr_bind (fr_X11_isThingSet _ _ Sm_refl) (by simp) hN1 (fun p2 hN2 => ?_)
    refine Fr_ite ?_ ?_
    ·
      exact fr_X11_basket_b26   _ hN2
    ·
      refine Fr_bind (fr_X11_isWithin _ _ _ _ Sm_refl) (by simp) hN2 (fun p3 hN3 => ?_)
      refine Fr_ite ?_ ?_
      ·
        exact fr_X11_basket_b26   _ hN3
      ·
        refine Fr_gd ?_
        refine Fr_gd ?_
        refine Fr_iw (fun v4 => ?_)
        refine Fr_gd ?_
        refine Fr_gd ?_
        exact Fr_ret (Sm_mI (Sm_mI hN3 (by simp)) (by simp))
set_option maxRecDepth 100000 in
theorem fr_X11_right {i0 : Nat} {M0 : Mem}  (M : Mem) (hM : Sm ([(rf (rf i0 0) 0)] : List Nat) M0 M) : FrB ([(rf (rf i0 0) 0)] : List Nat) M0 (X11_right i0   M) := by
  unfold X11_right
  refine Fr_bind (fr_X0_strangers  _ Sm_refl) (by simp) hM (fun p1 hN1 => ?_)
  refine Fr_bind (fr_X0_putRight  _ Sm_refl) (by simp) hN1 (fun p2 hN2 => ?_)
  exact Fr_ret hN2
set_option maxRecDepth 100000 in
theorem fr_X11_clock_b20 {i0 : Nat} {M0 : Mem}  (M : Mem) (hM : Sm ([(rf i0 0)] : List Nat) M0 M) : FrB ([(rf i0 0)] : List Nat) M0 (X11_clock_b20 i0   M) := by
  unfold X11_clock_b20
  exact Fr_ret hM
set_option maxRecDepth 100000 in
theorem fr_X11_clock {i0 : Nat} {M0 : Mem} (x1 : Int32) (x2 : Int32) (M : Mem) (hM : Sm ([(rf i0 0)] : List Nat) M0 M) : FrB ([(rf i0 0)] : List Nat) M0 (X11_clock i0  x1 x2 M) := by
  unfold X11_clock
  refine Fr_bind (fr_X11_isWithin _ _ _ _ Sm_refl) (by simp) hM (fun p1 hN1 => ?_)
  refine Fr_ite ?_ ?_
  ·
    exact fr_X11_clock_b20   _ hN1
  ·
    refine Fr_bind (fr_X11_isWithin _ _ _ _ Sm_refl) (by simp) hN1 (fun p2 hN2 => ?_)
    refine Fr_ite ?_ ?_
    ·
      exact fr_X11_clock_b20   _ hN2
    ·
      refine Fr_iw (fun v3 => ?_)
      exact Fr_ret (Sm_mI (Sm_mI hN2 (by simp)) (by simp))
set_option maxRecDepth 100000 in
theorem fr_X11_attendant_b23 {i0 : Nat} {M0 : Mem}  (M : Mem) (hM : Sm ([(rf i0 0)] : List Nat) M0 M) : FrB ([(rf i0 0)] : List Nat) M0 (X11_attendant_b23 i0   M) := by
  unfold X11_attendant_b23
  exact Fr_ret hM
set_option maxRecDepth 100000 in
theorem fr_X11_attendant {i0 : Nat} {M0 : Mem} (x1 : Int32) (x2 : Int32) (x3 : Int32) (M : Mem) (hM : Sm ([(rf i0 0)] : List Nat) M0 M) : FrB ([(rf i0 0)] : List Nat) M0 (X11_attendant i0  x1 x2 x3 M) := by
  unfold X11_attendant
  refine Fr_bind (fr_X11_isCabin _ _ Sm_refl) (by simp) hM (fun p1 hN1 => ?_)
  refine Fr_ite ?_ ?_
  ·
    exact Fr_ret hN1
  ·
    refine Fr_bind (fr_X11_isThingSet _ _ Sm_refl) (by simp) hN1 (fun p2 hN2 => ?_)
    refine Fr_ite ?_ ?_
    ·
      exact fr_X11_attendant_b23   _ hN2
    ·
      refine Fr_bind (fr_X11_isThingSet _ _ Sm_refl) (by simp) hN2 (fun p3 hN3 => ?_)
      refine Fr_ite ?_ ?_
      ·
        exact fr_X11_attendant_b23   _ hN3
      ·
        refine Fr_mw (Sm_mI hN3 (by simp)) (fun N4 hN4 => ?_)
        refine Fr_mw (Sm_mI hN4 (by simp)) (fun N5 hN5 => ?_)
        refine Fr_mw (Sm_mI hN5 (by simp)) (fun N6 hN6 => ?_)
        exact Fr_ret hN6
set_option maxRecDepth 100000 in
theorem fr_X11_say_b37 {i0 : Nat} {M0 : Mem} (s0 : Int32) (M : Mem) (hM : Sm ([(rf (rf i0 2) 0), (rf i0 2)] : List Nat) M0 M) : FrB ([(rf (rf i0 2) 0), (rf i0 2)] : List Nat) M0 (X11_say_b37 i0  s0 M) := by
  unfold X11_say_b37
  exact Fr_ret hM
set_option maxRecDepth 100000 in
theorem fr_X11_say {i0 : Nat} {M0 : Mem} (x1 : Int32) (M : Mem) (hM : Sm ([(rf (rf i0 2) 0), (rf i0 2)] : List Nat) M0 M) : FrB ([(rf (rf i0 2) 0), (rf i0 2)] : List Nat) M0 (X11_say i0  x1 M) := by
  unfold X11_say
  refine Fr_bind (fr_X11_isWithin _ _ _ _ Sm_refl) (by simp) hM (fun p1 hN1 => ?_)
  refine Fr_ite ?_ ?_
  ·
    exact Fr_ret hN1
  ·
    refine Fr_bind (fr_X8_write _ _ Sm_refl) (by simp) hN1 (fun p2 hN2 => ?_)
    refine Fr_ite ?_ ?_
    ·
      exact fr_X11_say_b37  _ _ hN2
    ·
      exact fr_X11_say_b37  _ _ hN2
set_option maxRecDepth 100000 in
theorem fr_X11_wipe {i0 : Nat} {M0 : Mem}  (M : Mem) (hM : Sm ([(rf i0 2)] : List Nat) M0 M) : FrB ([(rf i0 2)] : List Nat) M0 (X11_wipe i0   M) := by
  unfold X11_wipe
  exact Fr_ret (Sm_mI hM (by simp))
set_option maxRecDepth 100000 in
theorem fr_X11_fault {i0 : Nat} {M0 : Mem}  (M : Mem) (hM : Sm ([] : List Nat) M0 M) : FrB ([] : List Nat) M0 (X11_fault i0   M) := by
  unfold X11_fault
  refine Fr_bind (fr_X8_faultPlace  _ Sm_refl) (by simp) hM (fun p1 hN1 => ?_)
  exact Fr_ret hN1
set_option maxRecDepth 100000 in
theorem fr_X11_playEvening_b48 {i0 : Nat} {M0 : Mem} (s0 : Int32) (M : Mem) (hM : Sm ([(rf (rf (rf i0 5) 0) 0), (rf (rf (rf i0 5) 0) 1), (rf (rf (rf i0 5) 0) 2), (rf (rf i0 5) 0), (rf i0 5)] : List Nat) M0 M) : FrB ([(rf (rf (rf i0 5) 0) 0), (rf (rf (rf i0 5) 0) 1), (rf (rf (rf i0 5) 0) 2), (rf (rf i0 5) 0), (rf i0 5)] : List Nat) M0 (X11_playEvening_b48 i0  s0 M) := by
  unfold X11_playEvening_b48
  exact Fr_ret hM
set_option maxRecDepth 100000 in
theorem fr_X11_playEvening {i0 : Nat} {M0 : Mem}  (M : Mem) (hM : Sm ([(rf (rf (rf i0 5) 0) 0), (rf (rf (rf i0 5) 0) 1), (rf (rf (rf i0 5) 0) 2), (rf (rf i0 5) 0), (rf i0 5)] : List Nat) M0 M) : FrB ([(rf (rf (rf i0 5) 0) 0), (rf (rf (rf i0 5) 0) 1), (rf (rf (rf i0 5) 0) 2), (rf (rf i0 5) 0), (rf i0 5)] : List Nat) M0 (X11_playEvening i0   M) := by
  unfold X11_playEvening
  refine Fr_bind (fr_X8_faultPlace  _ Sm_refl) (by simp) hM (fun p1 hN1 => ?_)
  refine Fr_ite ?_ ?_
  ·
    refine Fr_bind (fr_X2_play  _ Sm_refl) (by simp) hN1 (fun p2 hN2 => ?_)
    refine Fr_ite ?_ ?_
    ·
      exact fr_X11_playEvening_b48  _ _ hN2
    ·
      exact fr_X11_playEvening_b48  _ _ hN2
  ·
    exact Fr_ret hN1
set_option maxRecDepth 100000 in
theorem fr_X11_judge_b34 {i0 : Nat} {M0 : Mem} (x2 : Int32) (M : Mem) (hM : Sm ([(rf (rf (rf i0 5) 0) 0), (rf (rf (rf i0 5) 0) 1), (rf (rf (rf i0 5) 0) 2), (rf (rf i0 5) 0), (rf i0 5)] : List Nat) M0 M) : FrB ([(rf (rf (rf i0 5) 0) 0), (rf (rf (rf i0 5) 0) 1), (rf (rf (rf i0 5) 0) 2), (rf (rf i0 5) 0), (rf i0 5)] : List Nat) M0 (X11_judge_b34 i0  x2 M) := by
  unfold X11_judge_b34
  exact Fr_ret hM
set_option maxRecDepth 100000 in
theorem fr_X11_judge_b70 {i0 : Nat} {M0 : Mem} (s0 : Int32) (M : Mem) (hM : Sm ([(rf (rf (rf i0 5) 0) 0), (rf (rf (rf i0 5) 0) 1), (rf (rf (rf i0 5) 0) 2), (rf (rf i0 5) 0), (rf i0 5)] : List Nat) M0 M) : FrB ([(rf (rf (rf i0 5) 0) 0), (rf (rf (rf i0 5) 0) 1), (rf (rf (rf i0 5) 0) 2), (rf (rf i0 5) 0), (rf i0 5)] : List Nat) M0 (X11_judge_b70 i0  s0 M) := by
  unfold X11_judge_b70
  exact Fr_ret hM
set_option maxRecDepth 100000 in
theorem fr_X11_judge_b36 {i0 : Nat} {M0 : Mem} (x1 : Int32) (M : Mem) (hM : Sm ([(rf (rf (rf i0 5) 0) 0), (rf (rf (rf i0 5) 0) 1), (rf (rf (rf i0 5) 0) 2), (rf (rf i0 5) 0), (rf i0 5)] : List Nat) M0 M) : FrB ([(rf (rf (rf i0 5) 0) 0), (rf (rf (rf i0 5) 0) 1), (rf (rf (rf i0 5) 0) 2), (rf (rf i0 5) 0), (rf i0 5)] : List Nat) M0 (X11_judge_b36 i0  x1 M) := by
  unfold X11_judge_b36
  refine Fr_ite ?_ ?_
  ·
    exact Fr_ret hM
  ·
    refine Fr_ite ?_ ?_
    ·
      exact fr_X11_judge_b70  _ _ hM
    ·
      exact fr_X11_judge_b70  _ _ hM
set_option maxRecDepth 100000 in
theorem fr_X11_judge {i0 : Nat} {M0 : Mem} (x1 : Int32) (M : Mem) (hM : Sm ([(rf (rf (rf i0 5) 0) 0), (rf (rf (rf i0 5) 0) 1), (rf (rf (rf i0 5) 0) 2), (rf (rf i0 5) 0), (rf i0 5)] : List Nat) M0 M) : FrB ([(rf (rf (rf i0 5) 0) 0), (rf (rf (rf i0 5) 0) 1), (rf (rf (rf i0 5) 0) 2), (rf (rf i0 5) 0), (rf i0 5)] : List Nat) M0 (X11_judge i0  x1 M) := by
  unfold X11_judge
  refine Fr_bind (fr_X11_isWithin _ _ _ _ Sm_refl) (by simp) hM (fun p1 hN1 => ?_)
  refine Fr_ite ?_ ?_
  ·
    exact Fr_ret hN1
  ·
    refine Fr_bind (fr_X11_playEvening  _ Sm_refl) (by simp) hN1 (fun p2 hN2 => ?_)
    refine Fr_ite ?_ ?_
    ·
      exact fr_X11_judge_b34  _ _ hN2
    ·
      refine Fr_ite ?_ ?_
      ·
        refine Fr_ite ?_ ?_
        ·
          exact fr_X11_judge_b34  _ _ hN2
        ·
          exact fr_X11_judge_b36  _ _ hN2
      ·
        exact fr_X11_judge_b36  _ _ hN2
set_option maxRecDepth 100000 in
theorem fr_X11_behind_b68 {i0 : Nat} {M0 : Mem} (s0 : Int32) (M : Mem) (hM : Sm ([(rf (rf (rf i0 5) 0) 0), (rf (rf (rf i0 5) 0) 1), (rf (rf (rf i0 5) 0) 2), (rf (rf i0 5) 0), (rf i0 5)] : List Nat) M0 M) : FrB ([(rf (rf (rf i0 5) 0) 0), (rf (rf (rf i0 5) 0) 1), (rf (rf (rf i0 5) 0) 2), (rf (rf i0 5) 0), (rf i0 5)] : List Nat) M0 (X11_behind_b68 i0  s0 M) := by
  unfold X11_behind_b68
  exact Fr_ret hM
set_option maxRecDepth 100000 in
theorem fr_X11_behind {i0 : Nat} {M0 : Mem} (x1 : Int32) (x2 : Int32) (M : Mem) (hM : Sm ([(rf (rf (rf i0 5) 0) 0), (rf (rf (rf i0 5) 0) 1), (rf (rf (rf i0 5) 0) 2), (rf (rf i0 5) 0), (rf i0 5)] : List Nat) M0 M) : FrB ([(rf (rf (rf i0 5) 0) 0), (rf (rf (rf i0 5) 0) 1), (rf (rf (rf i0 5) 0) 2), (rf (rf i0 5) 0), (rf i0 5)] : List Nat) M0 (X11_behind i0  x1 x2 M) := by
  unfold X11_behind
  refine Fr_bind (fr_X11_isCabin _ _ Sm_refl) (by simp) hM (fun p1 hN1 => ?_)
  refine Fr_ite ?_ ?_
  ·
    exact Fr_ret hN1
  ·
    refine Fr_bind (fr_X11_isWithin _ _ _ _ Sm_refl) (by simp) hN1 (fun p2 hN2 => ?_)
    refine Fr_ite ?_ ?_
    ·
      exact Fr_ret hN2
    ·
      refine Fr_bind (fr_X11_playEvening  _ Sm_refl) (by simp) hN2 (fun p3 hN3 => ?_)
      refine Fr_ite ?_ ?_
      ·
        refine Fr_gd ?_
        refine Fr_iw (fun v4 => ?_)
        refine Fr_ite ?_ ?_
        ·
          exact fr_X11_behind_b68  _ _ hN3
        ·
          refine Fr_gd ?_
          exact fr_X11_behind_b68  _ _ hN3
      ·
        exact Fr_ret hN3
