/-! BEHIND THE CONSTRUCTORS: the memory that the law begins with, and that both sides stand alike in it (laid by wip/whole/tool/start.py) -/
def obB : Nat → Int32 := fun k => if k = 7 then 60 else 0
def m0L : List (Nat → Int32) := [(fun _ => 0), obB, (fl 10 0 (fun _ => 0)), (fun _ => 0), (gl 10 0 (fun _ => 0)), (fun _ => 0), (fun _ => 0), (fun _ => 0), (fun _ => 0), (fun _ => 0), (fun _ => 0), obB, (fl 10 0 (fun _ => 0)), (fun _ => 0), (gl 10 0 (fun _ => 0)), (fun _ => 0), (fun _ => 0), (fun _ => 0), (fun _ => 0), obB, (fl 10 0 (fun _ => 0)), (fun _ => 0), (gl 10 0 (fun _ => 0)), (fun _ => 0), (fun _ => 0), (fun _ => 0), (fun _ => 0), obB, (fl 10 0 (fun _ => 0)), (fun _ => 0), (gl 10 0 (fun _ => 0)), (fun _ => 0), (fun _ => 0), (fun _ => 0), (fun _ => 0), (fun _ => 0), (fun _ => 0), (fun _ => 0), (fun _ => 0), (fun _ => 0), (fun _ => 0), (fun _ => 0), (tl 21 0 0 (tf 21 0 (fun _ => 0))), (fun _ => 0), (fun _ => 0), obB, (fl 10 0 (fun _ => 0)), (fun _ => 0), (gl 10 0 (fun _ => 0)), (fun _ => 0), (fun _ => 0), (fun _ => 0), (fun _ => 0), (fun _ => 0), (fun _ => 0), (fun _ => 0), (fun _ => 0), (fun _ => 0), (fun _ => 0), (fun _ => 0), (fun _ => 0), (fun _ => 0)]
def M0 : Mem := (fun i => m0L.getD i (fun _ => 0), fun _ _ => 0)
def wdOf (D : va_G) (cI cL cZ : ClassId) (sz b t x0 y0 : Nat) (u : (Nat → Nat) × (Nat → Nat → Nat)) (v : Nat → Nat) : WD := (fun i => if i < 62 then ([x0, (u.1 0), (u.2 0 0), (u.2 0 1), (u.2 0 2), (u.1 1), (u.2 1 0), (u.2 1 1), (u.1 2), (u.2 2 0), (u.1 3), (u.2 3 0), (u.2 3 1), (u.2 3 2), (u.2 3 3), (u.2 3 4), (u.2 3 5), (u.2 3 6), (u.1 4), (u.2 4 0), (u.2 4 1), (u.2 4 2), (u.2 4 3), (u.2 4 4), (u.2 4 5), (u.2 4 6), (u.1 5), (u.2 5 0), (u.2 5 1), (u.2 5 2), (u.2 5 3), (u.1 6), (u.2 6 0), (u.1 7), (u.2 7 0), (u.2 7 1), (u.1 8), (u.2 8 0), (u.1 9), (u.2 9 0), (u.2 9 1), (u.1 10), (u.2 10 0), (u.1 11), (u.2 11 0), y0, (v 0), (v 1), (v 2), (v 3), (v 4), (v 5), (v 6), (v 7), (v 8), (v 9), (v 10), (v 11), (v 12), (v 13), (v 14), (v 15)] : List Nat).getD i 0 else if i = 1000 then b else t, D, fun k => if k = 0 then cI else if k = 1 then cL else cZ, sz)
set_option maxHeartbeats 4000000 in
set_option maxRecDepth 100000 in
theorem cells_0 (D : va_G) (cI cL cZ : ClassId) (sz b t x0 y0 : Nat) (u : (Nat → Nat) × (Nat → Nat → Nat)) (v : Nat → Nat) : cellsW (wdOf D cI cL cZ sz b t x0 y0 u v) M0 = ([] ++ w1_X11 cI cL cZ x0 u) ++ w1_X12 cI cL cZ y0 v := rfl
def B0 : Bt := (fl 10 0 (fun _ => 0), fun _ => 0, gl 10 0 (fun _ => 0), 0, 0, 0, 0, 60)
def N0 : Nt := (fun _ => 0, fun _ => 0, 0)
def σ0 : Sg := (B0, N0, (fun _ => 0, 0), (false, B0, N0), (false, B0, N0))
theorem lost_0 : ∀ a, a < 21 → tl 21 0 0 (tf 21 0 (fun _ => 0)) a = lwT.getD a 0 := by decide +kernel
theorem fl_ok : ∀ j, j < 10 → ib (fl 10 0 (fun _ => 0) j) 10 = true := by decide +kernel
theorem gl_ok : ∀ j, j < 10 → ib (gl 10 0 (fun _ => 0) j) 10 = true := by decide +kernel
theorem okB_0 : okB B0 := ⟨fl_ok, fun _ _ => (show ib 0 256 = true by decide +kernel), gl_ok, by decide +kernel, by decide +kernel, by decide +kernel, by decide +kernel, by decide +kernel⟩
theorem okN_0 : okN N0 := ⟨Nat.zero_le 8, fun _ h => absurd h (Nat.not_lt_zero _), fun _ h => absurd h (Nat.not_lt_zero _)⟩
theorem ok_0 : OK σ0 := ⟨okB_0, okN_0, ⟨Nat.zero_le 60, fun _ h => absurd h (Nat.not_lt_zero _)⟩, fun _ => ⟨okB_0, okN_0⟩, fun _ => ⟨okB_0, okN_0⟩⟩
theorem rc_0 : RC M0 σ0 := ⟨⟨fun _ _ => rfl, fun _ _ => rfl, fun _ _ => rfl, rfl, rfl, rfl, rfl, rfl⟩, ⟨fun _ h => absurd h (Nat.not_lt_zero _), fun _ h => absurd h (Nat.not_lt_zero _), nI_0.symm⟩, ⟨fun _ h => absurd h (Nat.not_lt_zero _), nI_0.symm⟩, ⟨rfl, fun h => absurd (show false = true from h) (by decide)⟩, ⟨rfl, fun h => absurd (show false = true from h) (by decide)⟩, lost_0⟩
theorem rm_0 : RM M0 σ0 := ⟨⟨fun _ _ => rfl, fun _ _ => rfl, fun _ _ => rfl, rfl, rfl, rfl, rfl, rfl⟩, ⟨fun _ h => absurd h (Nat.not_lt_zero _), fun _ h => absurd h (Nat.not_lt_zero _), nI_0.symm⟩, ⟨fun _ h => absurd h (Nat.not_lt_zero _), nI_0.symm⟩, ⟨rfl, fun h => absurd (show false = true from h) (by decide)⟩, ⟨rfl, fun h => absurd (show false = true from h) (by decide)⟩⟩
/-! what the Statement gives at the start: the classes, the array classes, the kinds drawn -/
theorem kn_one {args : Array Value} {s : State} (hts : ∀ w ∈ tbG, w.before args s = true) {k n : Nat} {q0 : vw_C} (hF : FOk k q0) (hi : Cond.instantiable q0.1 n ∈ tbG) : ∃ z : ClassId × (Nat → Nat), ∀ q : vw_C, vwCl[k]? = some q → u_Kn s q.1 q.2.1 q.2.2 z.1 z.2 := by
  obtain ⟨c0, i0, h0⟩ := u_known hts hF.2.1 (hts _ hi)
  refine ⟨(c0, i0), fun q hq => ?_⟩
  rw [hF.1] at hq
  cases hq
  exact h0
theorem kn_all {args : Array Value} {s : State} (hts : ∀ w ∈ tbG, w.before args s = true) : ∃ D : va_G, ∀ (k : Nat) (q : vw_C), vwCl[k]? = some q → u_Kn s q.1 q.2.1 q.2.2 (D.1 k) (D.2 k) := by
  have h : ∀ k : Nat, ∃ z : ClassId × (Nat → Nat), ∀ q : vw_C, vwCl[k]? = some q → u_Kn s q.1 q.2.1 q.2.2 z.1 z.2 := by
    intro k
    rcases (show k = 0 ∨ k = 1 ∨ k = 2 ∨ k = 3 ∨ k = 4 ∨ k = 5 ∨ k = 6 ∨ k = 7 ∨ k = 8 ∨ k = 9 ∨ k = 10 ∨ k = 11 ∨ k = 12 ∨ 13 ≤ k by omega) with rfl | rfl | rfl | rfl | rfl | rfl | rfl | rfl | rfl | rfl | rfl | rfl | rfl | hk
    · exact kn_one hts FOk_0 tc_69
    · exact kn_one hts FOk_1 tc_213
    · exact kn_one hts FOk_2 tc_176
    · exact kn_one hts FOk_3 tc_249
    · exact kn_one hts FOk_4 tc_154
    · exact kn_one hts FOk_5 tc_267
    · exact kn_one hts FOk_6 tc_231
    · exact kn_one hts FOk_7 tc_119
    · exact kn_one hts FOk_8 tc_139
    · exact kn_one hts FOk_9 tc_303
    · exact kn_one hts FOk_10 tc_293
    · exact kn_one hts FOk_11 tc_61
    · exact kn_one hts FOk_12 tc_708
    · obtain ⟨z, -⟩ := kn_one hts FOk_0 tc_69
      exact ⟨z, fun q hq => by rw [List.getElem?_eq_none (by simpa using hk)] at hq; cases hq⟩
  exact ⟨(fun k => (Classical.choose (h k)).1, fun k => (Classical.choose (h k)).2), fun k q hq => Classical.choose_spec (h k) q hq⟩
theorem arr_one {args : Array Value} {s : State} {ty : FieldType} (h : (Cond.arrayClass ty).before args s = true) : ∃ cA : ClassId, ArrOfT s cA ty ∧ s.vm.findClass ("[" ++ ty.toString) = some cA := by
  obtain ⟨cA, kA, comp, h1, h2, h3⟩ := Cond.arrayClass_spec h
  exact ⟨cA, fun n z => ⟨fun k h => (by cases h), kA, h2, comp, h3⟩, h1⟩
theorem tl_st : Cond.laysStatic "BathBaskets" "DRAWN_KINDS" "[I" ∈ lw_tbl := List.mem_of_getElem? (i := 674) (by decide +kernel)
theorem kinds {args : Array Value} {s : State} (hg : (Jvm.Cond.and given_1 narrow_1).before args s = true) {A : Nat → Prop} (hA : ∀ a : Nat, a < s.heap.size → ¬ A a) : ∃ t : Nat, (Term.static "BathBaskets" "DRAWN_KINDS" "[I").eval args s none [] s = some (.ref t) ∧ va_T .int t 8 (fun j => .int (dk j)) A s s.heap := by
  have hs := flat_of_before _ hg
  refine va_Tof (by decide) (hs _ (by decide +kernel)) (va_eqt (hs (Cond.eq (.length (.static "BathBaskets" "DRAWN_KINDS" "[I")) (.int 8)) (by decide +kernel))) ?_ hA
  intro j hj
  rcases (show j = 0 ∨ j = 1 ∨ j = 2 ∨ j = 3 ∨ j = 4 ∨ j = 5 ∨ j = 6 ∨ j = 7 by omega) with rfl | rfl | rfl | rfl | rfl | rfl | rfl | rfl
  · exact va_eqt (hs (Cond.eq (.elem (.static "BathBaskets" "DRAWN_KINDS" "[I") (.int 0)) (.int 65)) (by decide +kernel))
  · exact va_eqt (hs (Cond.eq (.elem (.static "BathBaskets" "DRAWN_KINDS" "[I") (.int 1)) (.int 65)) (by decide +kernel))
  · exact va_eqt (hs (Cond.eq (.elem (.static "BathBaskets" "DRAWN_KINDS" "[I") (.int 2)) (.int 63)) (by decide +kernel))
  · exact va_eqt (hs (Cond.eq (.elem (.static "BathBaskets" "DRAWN_KINDS" "[I") (.int 3)) (.int 63)) (by decide +kernel))
  · exact va_eqt (hs (Cond.eq (.elem (.static "BathBaskets" "DRAWN_KINDS" "[I") (.int 4)) (.int 43)) (by decide +kernel))
  · exact va_eqt (hs (Cond.eq (.elem (.static "BathBaskets" "DRAWN_KINDS" "[I") (.int 5)) (.int 45)) (by decide +kernel))
  · exact va_eqt (hs (Cond.eq (.elem (.static "BathBaskets" "DRAWN_KINDS" "[I") (.int 6)) (.int 61)) (by decide +kernel))
  · exact va_eqt (hs (Cond.eq (.elem (.static "BathBaskets" "DRAWN_KINDS" "[I") (.int 7)) (.int 46)) (by decide +kernel))
