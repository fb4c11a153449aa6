/-! THE CORE: the fixed layout of the 62 cells, the abstract memory, and the judgement T ("what this pure function answers, the machine answers") with a row for each instruction. -/
abbrev Mem : Type := (Nat → Nat → Int32) × (Nat → Nat → Int64)
/-- what stands in each cell: an object of a class (its number in vwCl), or an array (0 int, 1 long, 2 boolean) of a length -/
def KD : List (Nat ⊕ (Nat × Nat)) := [.inl 11, .inl 0, .inr (0, 10), .inr (0, 10), .inr (0, 10), .inl 7, .inr (0, 8), .inr (0, 8), .inl 8, .inr (0, 60), .inl 4, .inl 0, .inr (0, 10), .inr (0, 10), .inr (0, 10), .inl 7, .inr (0, 8), .inr (0, 8), .inl 4, .inl 0, .inr (0, 10), .inr (0, 10), .inr (0, 10), .inl 7, .inr (0, 8), .inr (0, 8), .inl 2, .inl 0, .inr (0, 10), .inr (0, 10), .inr (0, 10), .inl 1, .inr (0, 1024), .inl 6, .inr (0, 256), .inr (0, 8), .inl 3, .inr (0, 6), .inl 5, .inr (0, 64), .inr (0, 8), .inl 10, .inr (0, 21), .inl 9, .inr (1, 13), .inl 12, .inr (0, 10), .inr (0, 10), .inr (0, 10), .inr (0, 8), .inr (0, 8), .inr (0, 60), .inr (0, 60), .inr (0, 60), .inr (0, 24), .inr (0, 9216), .inr (0, 6), .inr (0, 8), .inr (2, 441), .inr (1, 14), .inr (0, 120), .inr (2, 2)]
def RFt : List (List Nat) := [[1, 5, 8, 10, 18, 26, 31, 33, 36, 38, 41, 43], [2, 3, 4, 0, 0, 0, 0, 0], [], [], [], [6, 7, 0], [], [], [9, 0], [], [11, 15, 0], [12, 13, 14, 0, 0, 0, 0, 0], [], [], [], [16, 17, 0], [], [], [19, 23, 0], [20, 21, 22, 0, 0, 0, 0, 0], [], [], [], [24, 25, 0], [], [], [27, 0, 0, 0, 0, 0, 0], [28, 29, 30, 0, 0, 0, 0, 0], [], [], [], [32, 0, 0], [], [34, 35, 0], [], [], [37, 0, 0], [], [39, 40, 0, 0, 0], [], [], [42], [], [44, 0], [], [46, 47, 48, 0, 0, 0, 0, 0, 49, 50, 0, 51, 0, 52, 53, 0, 0, 54, 0, 0, 0, 0, 55, 56, 57, 58, 59, 60, 61, 0, 0], [], [], [], [], [], [], [], [], [], [], [], [], [], [], [], []]
def FTt : List (List Nat) := [[2, 2, 2, 0, 0, 0, 0, 0], [2, 0, 0], [2, 0, 0, 0, 0, 0, 0], [2, 0, 0], [2, 2, 0], [2, 2, 0, 0, 0], [2, 2, 0], [2, 2, 0], [2, 0], [2, 1], [2], [2, 2, 2, 2, 2, 2, 2, 2, 2, 2, 2, 2], [2, 2, 2, 0, 0, 0, 0, 0, 2, 2, 0, 2, 0, 2, 2, 0, 0, 2, 0, 0, 0, 0, 2, 2, 2, 2, 2, 2, 2, 0, 0]]
def NFt : List Nat := [8, 3, 7, 3, 3, 5, 3, 3, 2, 2, 1, 12, 31]
/-- the cell that a reference field holds -/
def rf (i k : Nat) : Nat := (RFt.getD i []).getD k 0
/-- a field's kind: 0 int or boolean, 1 long, 2 reference -/
def FT (c k : Nat) : Nat := (FTt.getD c []).getD k 0
def NF (c : Nat) : Nat := NFt.getD c 0
/-- a row of the memory set anew; a place of a row -/
def mR (M : Mem) (a : Nat) (f : Nat → Int32) : Mem := (fun i => if i = a then f else M.1 i, M.2)
def mRL (M : Mem) (a : Nat) (f : Nat → Int64) : Mem := (M.1, fun i => if i = a then f else M.2 i)
def mI (M : Mem) (a k : Nat) (x : Int32) : Mem := mR M a (upd (M.1 a) k x)
def mL (M : Mem) (a k : Nat) (x : Int64) : Mem := mRL M a (vp_updL (M.2 a) k x)
/-- the addresses, the classes' numbers, the array classes, the size of the heap when the law began -/
abbrev WD : Type := (Nat → Nat) × va_G × (Nat → ClassId) × Nat
def rv (wd : WD) : Value → Value
  | .ref i => .ref (wd.1 i)
  | v => v
def rq (wd : WD) (q : Nat × Value) : Nat × Value := (q.1, rv wd q.2)
theorem rv_cat (wd : WD) (v : Value) : (rv wd v).category = v.category := by cases v <;> rfl
theorem rv_cat1 {wd : WD} {v : Value} (h : (v.category == 1) = true) : (rv wd v).category = 1 := by rw [rv_cat]; simpa using h
theorem rq_get {wd : WD} {lv : List (Nat × Value)} {k i : Nat} {v : Value} (h : lv[k]? = some (i, v)) : (lv.map (rq wd))[k]? = some (i, rv wd v) := by rw [List.getElem?_map, h]; rfl
theorem rq_flt {wd : WD} (f : Nat × Value → Bool) (hf : ∀ q, f (rq wd q) = f q) (lv : List (Nat × Value)) : (lv.map (rq wd)).filter f = (lv.filter f).map (rq wd) := by
  induction lv with
  | nil => rfl
  | cons a t ih =>
    simp only [List.map_cons, List.filter_cons, hf, ih]
    split <;> rfl
theorem rq_st {wd : WD} {lv lv' : List (Nat × Value)} {i : Nat} {v : Value} (h : (i, v) :: lv.filter (fun q => !(q.1 == i) && !(q.1 + 1 == i && q.2.category == 2)) = lv') : (i, rv wd v) :: (lv.map (rq wd)).filter (fun q => !(q.1 == i) && !(q.1 + 1 == i && q.2.category == 2)) = lv'.map (rq wd) := by
  rw [rq_flt _ (fun q => by simp only [rq, rv_cat]), ← h]; rfl
theorem rq_stl {wd : WD} {lv lv' : List (Nat × Value)} {i : Nat} {v : Value} (h : (i, v) :: lv.filter (fun q => !(q.1 == i) && (!(q.1 == i + 1) && !(q.1 + 1 == i && q.2.category == 2))) = lv') : (i, rv wd v) :: (lv.map (rq wd)).filter (fun q => !(q.1 == i) && (!(q.1 == i + 1) && !(q.1 + 1 == i && q.2.category == 2))) = lv'.map (rq wd) := by
  rw [rq_flt _ (fun q => by simp only [rq, rv_cat]), ← h]; rfl
theorem rq_args (wd : WD) (av : List Value) : ∀ i : Nat, lv_args i (av.map (rv wd)) = (lv_args i av).map (rq wd) := by
  induction av with
  | nil => intro i; rfl
  | cons v t ih => intro i; simp only [List.map_cons, lv_args, rv_cat, ih]; rfl
/-- a field's value in the machine -/
def fv (wd : WD) (M : Mem) (c i k : Nat) : Value := if FT c k = 0 then .int (M.1 i k) else if FT c k = 1 then .long (M.2 i k) else .ref (wd.1 (rf i k))
def ent (wd : WD) (M : Mem) (i : Nat) : va_E := match KD[i]? with
  | some (.inl c) => .inr (c, (List.range (NF c)).map (fv wd M c i))
  | some (.inr (t, n)) => if t = 0 then .inl (wd.2.2.1 0, n, .inl (M.1 i)) else if t = 1 then .inl (wd.2.2.1 1, n, .inr (.inl (M.2 i))) else .inl (wd.2.2.1 2, n, .inl (M.1 i))
  | none => .inl (wd.2.2.1 0, 0, .inl (M.1 i))
theorem ent_obj {wd : WD} {M : Mem} {i c : Nat} (h : KD[i]? = some (.inl c)) : ent wd M i = .inr (c, (List.range (NF c)).map (fv wd M c i)) := by unfold ent; rw [h]
theorem ent_int {wd : WD} {M : Mem} {i n : Nat} (h : KD[i]? = some (.inr (0, n))) : ent wd M i = .inl (wd.2.2.1 0, n, .inl (M.1 i)) := by unfold ent; rw [h]; rfl
theorem ent_long {wd : WD} {M : Mem} {i n : Nat} (h : KD[i]? = some (.inr (1, n))) : ent wd M i = .inl (wd.2.2.1 1, n, .inr (.inl (M.2 i))) := by unfold ent; rw [h]; rfl
theorem ent_bool {wd : WD} {M : Mem} {i n : Nat} (h : KD[i]? = some (.inr (2, n))) : ent wd M i = .inl (wd.2.2.1 2, n, .inl (M.1 i)) := by unfold ent; rw [h]; rfl
theorem fv_congr {wd : WD} {M M' : Mem} {c i k : Nat} (h1 : M.1 i k = M'.1 i k) (h2 : M.2 i k = M'.2 i k) : fv wd M c i k = fv wd M' c i k := by unfold fv; rw [h1, h2]
theorem ent_congr {wd : WD} {M M' : Mem} {i : Nat} (h1 : M.1 i = M'.1 i) (h2 : M.2 i = M'.2 i) : ent wd M i = ent wd M' i := by
  unfold ent
  rw [h1, h2]
  split
  · congr 2
    apply List.map_congr_left
    intro k _
    exact fv_congr (by rw [h1]) (by rw [h2])
  · rfl
  · rfl
def cellsW (wd : WD) (M : Mem) : va_W := (List.range 62).map (fun i => (wd.1 i, ent wd M i))
theorem KD_len : KD.length = 62 := by decide +kernel
theorem KD_lt {i : Nat} {x : Nat ⊕ (Nat × Nat)} (h : KD[i]? = some x) : i < 62 := by
  have := (List.getElem?_eq_some_iff.mp h).1
  rw [KD_len] at this
  exact this
theorem cw_get (wd : WD) (M : Mem) {i : Nat} (h : i < 62) : (cellsW wd M)[i]? = some (wd.1 i, ent wd M i) := by
  unfold cellsW
  rw [List.getElem?_map, List.getElem?_range h]; rfl
theorem cw_len (wd : WD) (M : Mem) : (cellsW wd M).length = 62 := by unfold cellsW; rw [List.length_map, List.length_range]
/-- one cell of the world set anew -/
theorem cw_set {wd : WD} {M M' : Mem} {a : Nat} {e : va_E} (ha : a < 62) (he : ent wd M' a = e) (ho : ∀ i, i ≠ a → M'.1 i = M.1 i ∧ M'.2 i = M.2 i) : (cellsW wd M).set a (wd.1 a, e) = cellsW wd M' := by
  apply List.ext_getElem?
  intro i
  by_cases h : i = a
  · subst h
    rw [List.getElem?_set_self (by rw [cw_len]; exact ha), cw_get _ _ ha, he]
  · rw [List.getElem?_set_ne (Ne.symm h)]
    by_cases hi : i < 62
    · rw [cw_get _ _ hi, cw_get _ _ hi, ent_congr (ho i h).1 (ho i h).2]
    · rw [List.getElem?_eq_none (by rw [cw_len]; omega), List.getElem?_eq_none (by rw [cw_len]; omega)]
theorem mR_at {M : Mem} {a : Nat} {f : Nat → Int32} : (mR M a f).1 a = f := by simp [mR]
theorem mR_ne {M : Mem} {a i : Nat} {f : Nat → Int32} (h : i ≠ a) : (mR M a f).1 i = M.1 i := by simp [mR, h]
theorem mRL_at {M : Mem} {a : Nat} {f : Nat → Int64} : (mRL M a f).2 a = f := by simp [mRL]
theorem mRL_ne {M : Mem} {a i : Nat} {f : Nat → Int64} (h : i ≠ a) : (mRL M a f).2 i = M.2 i := by simp [mRL, h]
theorem ent_putI {wd : WD} {M : Mem} {a c k : Nat} {x : Int32} (h : KD[a]? = some (.inl c)) (hk : FT c k = 0) : ent wd (mI M a k x) a = .inr (c, ((List.range (NF c)).map (fv wd M c a)).set k (.int x)) := by
  rw [ent_obj h]
  congr 2
  apply List.ext_getElem?
  intro j
  by_cases hj : j < NF c
  · rw [List.getElem?_map, List.getElem?_range hj]
    by_cases e : j = k
    · subst e
      rw [List.getElem?_set_self (by rw [List.length_map, List.length_range]; exact hj)]
      simp [fv, hk, mI, mR_at, upd]
    · rw [List.getElem?_set_ne (Ne.symm e), List.getElem?_map, List.getElem?_range hj]
      simp only [Option.map_some]
      exact congrArg some (fv_congr (by simp [mI, mR_at, upd, e]) rfl)
  · rw [List.getElem?_eq_none (by simp; omega), List.getElem?_eq_none (by simp; omega)]
theorem ent_putL {wd : WD} {M : Mem} {a c k : Nat} {x : Int64} (h : KD[a]? = some (.inl c)) (hk : FT c k = 1) : ent wd (mL M a k x) a = .inr (c, ((List.range (NF c)).map (fv wd M c a)).set k (.long x)) := by
  rw [ent_obj h]
  congr 2
  apply List.ext_getElem?
  intro j
  by_cases hj : j < NF c
  · rw [List.getElem?_map, List.getElem?_range hj]
    by_cases e : j = k
    · subst e
      rw [List.getElem?_set_self (by rw [List.length_map, List.length_range]; exact hj)]
      simp [fv, hk, mL, mRL_at, vp_updL]
    · rw [List.getElem?_set_ne (Ne.symm e), List.getElem?_map, List.getElem?_range hj]
      simp only [Option.map_some]
      exact congrArg some (fv_congr rfl (by simp [mL, mRL_at, vp_updL, e]))
  · rw [List.getElem?_eq_none (by simp; omega), List.getElem?_eq_none (by simp; omega)]
/-! the tables' words: those that stay as they are (tbG), and those of nest mates (tbN) -/
def tbG : List Cond := lw_tbl.filter goodWord
def isNest : Cond → Bool
  | .methodLinkNest .. => true
  | .fieldLinkNest .. => true
  | _ => false
theorem mem_tb (i : Nat) {w : Cond} (h : lw_tbl[i]? = some w) (hg : goodWord w = true) : w ∈ tbG := List.mem_filter.mpr ⟨List.mem_of_getElem? h, hg⟩
theorem tb_in {ws : List Cond} (ps : List Nat) (hp : ws = ps.filterMap (fun i => lw_tbl[i]?)) (h : ws.all goodWord = true) : ∀ w ∈ ws, w ∈ tbG := by
  intro w hw
  have h1 := List.all_eq_true.mp h w hw
  rw [hp] at hw
  obtain ⟨i, -, hi⟩ := List.mem_filterMap.mp hw
  exact List.mem_filter.mpr ⟨List.mem_of_getElem? hi, h1⟩
theorem tb_good {w : Cond} (h : w ∈ tbG) : (w.onTables && w.keeps) = true ∨ ∃ ty, w = .arrayClass ty := good_of_word (List.mem_filter.mp h).2
/-- the nest mates' words hold -/
def NW (U : State) : Prop := (∀ a i x h, Cond.methodLinkNest a i x h ∈ lw_tbl → va_Nw (.methodLinkNest a i x h) U) ∧ ∀ a i b n d h, Cond.fieldLinkNest a i b n d h ∈ lw_tbl → va_Nw (.fieldLinkNest a i b n d h) U
theorem NW.warm {s U : State} (hW : s.WarmedH U.vm) (h : NW s) : NW U := ⟨fun a i x k hm => (h.1 a i x k hm).warmM hW, fun a i b n d k hm => (h.2 a i b n d k hm).warmF hW⟩
theorem NW.same {u U : State} (hv : u.vm = U.vm) (h : NW u) : NW U := ⟨fun a i x k hm => (h.1 a i x k hm).same rfl hv, fun a i b n d k hm => (h.2 a i b n d k hm).same rfl hv⟩
def dk (j : Nat) : Int32 := ([65, 65, 63, 63, 43, 45, 61, 46] : List Int32).getD j 0
abbrev Scr : Type := Nat × (Nat → Int32)
def AA (wd : WD) : Nat → Prop := fun q => wd.2.2.2 ≤ q
abbrev tyW (wd : WD) : List (ClassId × FieldType) := [(wd.2.2.1 0, .int), (wd.2.2.1 1, .long), (wd.2.2.1 2, .boolean)]
/-- what lies outside the world and is only read: the script (1000), the kinds drawn (1001) -/
def Ext (wd : WD) (X : Scr) (U : State) (H : Heap) : Prop := va_X (wd.1 1000) X.1 X.2 U H ∧ wd.1 1000 < wd.2.2.2 ∧ va_T .int (wd.1 1001) 8 (fun j => .int (dk j)) (AA wd) U H ∧ wd.1 1001 < wd.2.2.2 ∧ va_Z "BathBaskets" "DRAWN_KINDS" "[I" (.ref (wd.1 1001)) (AA wd) U H ∧ wd.2.2.2 ≤ H.size
theorem Ext.kept {wd : WD} {X : Scr} {U : State} {H H1 : Heap} (h : Ext wd X U H) (hz : H.size ≤ H1.size) (hq : ∀ q : Nat, q < H.size → ¬ AA wd q → H1[q]? = H[q]?) : Ext wd X U H1 := by
  obtain ⟨h1, h2, h3, h4, h5, h6⟩ := h
  have a1 : ¬ AA wd (wd.1 1000) := fun z => by unfold AA at z; omega
  exact ⟨h1.kept (hq _ (by omega) a1), h2, h3.kept hq, h4, h5.kept hq, by omega⟩
theorem Ext.moved {wd : WD} {X : Scr} {u U : State} {H : Heap} (hvm : u.vm.Alike U.vm) (h : Ext wd X u H) : Ext wd X U H := by
  obtain ⟨h1, h2, h3, h4, h5, h6⟩ := h
  exact ⟨h1.moved hvm, h2, h3.moved hvm, h4, h5.moved hvm, h6⟩
/-- the world: from a method's start -/
def World (wd : WD) (X : Scr) (M : Mem) (U : State) : Prop := va_K wd.2.1 vwCl (tyW wd) U ∧ va_P wd.2.1 vwCl (cellsW wd M) U.heap ∧ va_D (AA wd) (cellsW wd M) ∧ Ext wd X U U.heap ∧ NW U
/-- the world, within a method that began at s, the heap being H now -/
def Fr (wd : WD) (X : Scr) (M : Mem) (s : State) (H : Heap) (locs : List Loc) : Prop := va_K wd.2.1 vwCl (tyW wd) s ∧ va_P wd.2.1 vwCl (cellsW wd M) H ∧ va_D (AA wd) (cellsW wd M) ∧ va_S (AA wd) s.heap H locs ∧ Ext wd X s s.heap ∧ NW s
theorem Fr.world {wd : WD} {X : Scr} {M : Mem} {s : State} {H : Heap} {locs : List Loc} (h : Fr wd X M s H locs) (U : State) (hU : U.heap = H) (hW : s.WarmedH U.vm) : World wd X M U := by
  obtain ⟨hK, hP, hD, hS, hX, hN⟩ := h
  exact ⟨va_K.moved hW.alike hK, by rw [hU]; exact hP, hD, by rw [hU]; exact (hX.kept hS.1 (fun q h1 h2 => hS.2.1 q h1 h2)).moved hW.alike, hN.warm hW⟩
theorem World.blind {wd : WD} {X : Scr} {M : Mem} {av : List Value} : FrameBlind (va_Pc av (fun U => World wd X M U)) := by
  intro a U g mk ⟨h0, hK, hP, hD, hX, hN⟩
  exact ⟨h0, va_K.moved (u := U) (U := U.calling g mk a) (Vm.Alike.refl U.vm) hK, hP, hD, Ext.moved (u := U) (U := U.calling g mk a) (Vm.Alike.refl U.vm) hX, NW.same (u := U) (U := U.calling g mk a) rfl hN⟩
/-- a method: name, code, locals, result, frames and locals that it wants beneath it -/
abbrev MD : Type := MethodName × ByteArray × Nat × Option FieldType × Nat × Nat
abbrev mdN (y : MD) : MethodName := y.1
abbrev mdC (y : MD) : ByteArray := y.2.1
abbrev mdL (y : MD) : Nat := y.2.2.1
abbrev mdR (y : MD) : Option FieldType := y.2.2.2.1
abbrev mdF (y : MD) : Nat := y.2.2.2.2.1
abbrev mdW (y : MD) : Nat := y.2.2.2.2.2
def rmY (y : MD) : Room := { frames := mdF y, cells := 0, slots := 0, locals := mdW y }
def WSy (y : MD) : List Cond := .code (mdN y) (mdC y) (mdL y) (mdR y) :: tbG
def Cx (y : MD) (p : Program) (R : Room) (s : State) (m : MethodId) (args : Array Value) (c : Code) (cells slots : Nat) : Prop :=
  p.tables.exec = Jvm.exec ∧ c.code = mdC y ∧ c.maxLocals = mdL y ∧ s.vm.findClass (mdN y).cls = some m.cls ∧ (∀ w ∈ tbG, w.before args s = true) ∧ mdF y ≤ R.frames ∧ mdW y ≤ R.locals ∧ cells ≤ R.cells ∧ slots ≤ R.slots
/-- the end of a method: the instruction, and that the answer fits -/
def RetAt (y : MD) (pc : Nat) (r : Option Value) : Prop := match r with
  | none => decode (mdC y) pc = .ok (.return_, 1) ∧ mdR y = none
  | some (.int v) => decode (mdC y) pc = .ok (.ireturn, 1) ∧ ∃ ty, mdR y = some ty ∧ narrow ty (.int v) = .int v
  | some (.long _) => decode (mdC y) pc = .ok (.lreturn, 1) ∧ mdR y = some .long
  | some (.ref _) => decode (mdC y) pc = .ok (.areturn, 1) ∧ ∃ n, mdR y = some (.object n)
  | _ => False
def EE (X : Scr) (y : MD) (pc : Nat) (lv : List (Nat × Value)) (st : List Value) (M : Mem) (r : Option Value) (M' : Mem) : Prop :=
  ∀ (wd : WD) (p : Program) (l : Launch) (e : Env) (R : Room) (s : State) (m : MethodId) (args : Array Value) (below : List Frame) (meth : Method) (c : Code) (H : Heap) (locs : List Loc) (cells slots : Nat) (Q : State → Prop) (ls : Array Slot),
    Cx y p R s m args c cells slots → Fr wd X M s H locs → lv_has ls (mdL y) (lv.map (rq wd)) →
    (∀ (H' : Heap) (locs' : List Loc) (pc' : Nat) (ls' : Array Slot), Fr wd X M' s H' locs' → RetAt y pc' r → W p l e R s m args below meth c H' locs' cells slots Q (F0 m pc' ls' ((r.map (rv wd)).toList))) →
    W p l e R s m args below meth c H locs cells slots Q (F0 m pc ls (st.map (rv wd)))
/-- THE JUDGEMENT: where the pure text o answers (r, M'), the machine from here answers r and leaves M' -/
def T {α : Type} (X : Scr) (emb : α → Option Value) (o : Option (α × Mem)) (y : MD) (pc : Nat) (lv : List (Nat × Value)) (st : List Value) (M : Mem) : Prop := ∀ r M', o = some (r, M') → EE X y pc lv st M (emb r) M'
/-- a contract: on these arguments, from this memory, the answer, the memory behind it -/
def Ct (X : Scr) (y : MD) (av : List Value) (M : Mem) (r : Option Value) (M' : Mem) : Prop :=
  ∀ (wd : WD) (l : Launch), Met l (mdN y) (WSy y) (rmY y) (va_Pc (av.map (rv wd)) (fun U => World wd X M U)) (fun _ st oc t => oc = .returned (r.map (rv wd)) ∧ (va_P wd.2.1 vwCl (cellsW wd M') t.heap ∧ va_D (AA wd) (cellsW wd M')) ∧ va_F (AA wd) st t) 0 0 (AA wd)
def eI (r : Int32) : Option Value := some (.int r)
def eL (r : Int64) : Option Value := some (.long r)
def eV (_ : Unit) : Option Value := none
def eR (r : Nat) : Option Value := some (.ref r)
/-- a guard: what the machine would throw at -/
def gd {α : Type} (b : Bool) (o : Option α) : Option α := if b then o else none
/-- the memory, written, gets a name -/
def mw {α : Type} (M : Mem) (k : Mem → Option α) : Option α := k M
/-- a number gets a name -/
def iw {α : Type} (v : Int32) (k : Int32 → Option α) : Option α := k v
def lw {α : Type} (v : Int64) (k : Int64 → Option α) : Option α := k v
theorem gd_some {α : Type} {b : Bool} {o : Option α} {x : α} (h : gd b o = some x) : b = true ∧ o = some x := by
  unfold gd at h
  split at h
  · exact ⟨by assumption, h⟩
  · cases h
theorem gd_true {α : Type} {b : Bool} {o : Option α} (h : b = true) : gd b o = o := by unfold gd; rw [if_pos h]
/-- an index is within a row -/
def ib (j : Int32) (n : Nat) : Bool := decide (0 ≤ j.toInt) && decide (j.toInt < n)
theorem ib_in {j : Int32} {n : Nat} (h : ib j n = true) : vp_in j n := by
  unfold ib at h
  simp only [Bool.and_eq_true, decide_eq_true_eq] at h
  exact vp_in_iff.mpr h
/-- the kit's Met.ofW, for a method that no entry of the machine stands in for (java.lang.Math's among them) -/
theorem Met_ofWF {l : Launch} {y : MethodName} {ws ws' : List Cond} {rm : Room} {Pc : Array Value → State → Prop} {Qc : Array Value → State → Outcome → State → Prop} {mc ms : Nat} {free : Addr → Prop} {cc : ByteArray} {maxL : Nat} {ret : Option FieldType}
    (hy : plainFor y = true) (hw : ws = Cond.code y cc maxL ret :: ws')
    (body : ∀ p e s m args below meth c s₁, BodyLoose p l y (headSpec ws rm) cc maxL ret e s m args below meth c s₁ → c.maxLocals = maxL → Pc args s →
      W p l e (headSpec ws rm).room s m args below meth c s.heap [] 0 0 (MQ below Qc args s mc ms free) (entryFrame m args maxL)) : Met l y ws rm Pc Qc mc ms free := by
  refine MetFree.of_bodySF (code := cc) (maxLocals := maxL) (ret := ret) hy ?_ ?_
  · intro args s m h hn
    obtain ⟨meth, c, h1, h2, h3, h4, h5, h6, -, -⟩ := Cond.code_spec hn (atoms_spec (ws := ws) h _ (by rw [hw]; exact List.mem_cons_self))
    exact ⟨meth, c, h1, h2, h3, h4, h5, h6⟩
  · intro p e s m args below meth c s₁ B hml hP _
    have hh0 : s₁.heap = s.heap := by rw [B.state]; rfl
    obtain ⟨t, a1, o, b1, b2, b3⟩ := body p e s m args below meth c s₁ B hml hP s₁ hh0 (Stand.of_body B)
    exact ⟨t, o, a1, b1, b2, ⟨b3.1, b3.2⟩⟩
/-- the contract out of the walk from the entry -/
theorem Ct_of {α : Type} {X : Scr} {emb : α → Option Value} {o : Option (α × Mem)} {y : MD} {av : List Value} {M : Mem} (hy : plainFor (mdN y) = true) (hn : (lg_sl av).length ≤ mdL y) (h : T X emb o y 0 (lv_args 0 av) [] M) (r : α) (M' : Mem) (ho : o = some (r, M')) : Ct X y av M (emb r) M' := by
  intro wd l
  refine Met_ofWF (cc := mdC y) (maxL := mdL y) (ret := mdR y) hy rfl ?_
  intro p e s m args below meth c s₁ B hml hv
  obtain ⟨rfl, hK, hP, hD, hX, hN⟩ := hv
  have hts := atoms_spec (ws := WSy y) B.pre
  have hown : s.vm.findClass (mdN y).cls = some m.cls := findClass_of_methodNamed B.named
  have hlocks := B.notSynchronized
  have hr := B.returns
  have hlen : (lg_sl (av.map (rv wd))).length = (lg_sl av).length := by
    unfold lg_sl
    clear h hn ho hK hP hD hX hN B hlocks hown hts
    induction av with
    | nil => rfl
    | cons v t ih => simp only [List.map_cons, List.flatMap_cons, List.length_append, rv_cat, ih]; congr 1; split <;> rfl
  rw [lg_entry_eq]
  have hl := lv_entry (av.map (rv wd)) (n := mdL y) (by rw [hlen]; exact hn)
  rw [rq_args] at hl
  refine h r M' ho wd p l e _ s m _ below meth c s.heap [] 0 0 _ _ ⟨B.exec, B.bytes, hml, hown, fun w hw => hts w (List.mem_cons_of_mem _ hw), Nat.le_refl _, Nat.le_refl _, Nat.le_refl _, Nat.le_refl _⟩ ⟨hK, hP, hD, va_S.rf, hX, hN⟩ hl ?_
  intro H' locs' pc' ls' hF' hR
  obtain ⟨hK', hP', hD', hS', hX', hN'⟩ := hF'
  have post : ∀ t : State, t.heap = H' → ((va_P wd.2.1 vwCl (cellsW wd M') t.heap ∧ va_D (AA wd) (cellsW wd M')) ∧ va_F (AA wd) s t) := fun t ht => ⟨⟨by rw [ht]; exact hP', hD'⟩, hS'.F ht⟩
  unfold RetAt at hR
  generalize emb r = z at hR ⊢
  cases z with
  | none => exact W.vret B.exec B.bytes (hr.trans hR.2) (fun t ht _ => ⟨rfl, post t ht⟩) hS'.2.2 hR.1
  | some v =>
    cases v with
    | int v =>
      obtain ⟨h1, ty, h2, h3⟩ := hR
      exact W.zret B.exec B.bytes (hr.trans h2) h3 (fun t ht _ => ⟨rfl, post t ht⟩) hS'.2.2 h1
    | long v => exact W.lret B.exec B.bytes (hr.trans hR.2) (fun t ht _ => ⟨rfl, post t ht⟩) hS'.2.2 hR.1
    | ref a =>
      obtain ⟨h1, n, h2⟩ := hR
      exact W.aret B.exec B.bytes (hr.trans h2) (Or.inl ⟨n, rfl⟩) (Or.inr ⟨_, rfl⟩) (fun t ht _ => ⟨rfl, post t ht⟩) hS'.2.2 h1
    | _ => exact hR.elim
/-- behind a call of any result -/
theorem va_callx {p : Program} {l : Launch} {e : Env} {R : Room} {s : State} {m : MethodId} {args : Array Value} {below : List Frame} {meth : Method} {c : Code} {H : Heap} {locs : List Loc} {cells slots : Nat} {Q : State → Prop} {pc : Nat} {ls : Array Slot} {rest st0 : List Value} {A : Nat → Prop} {H0 : Heap} {v : Option Value} {B : State → Prop} (hr : va_Run p l e R s m args below meth c H locs cells slots 0 0 (F0 m pc ls st0) rest (fun st oc t => oc = .returned v ∧ B t ∧ va_F A st t) A) (hS : va_S A H0 H locs)
    (kk : ∀ (t : State) (H1 : Heap) (locs1 : List Loc), t.heap = H1 → B t → va_S A H0 H1 locs1 → W p l e R s m args below meth c H1 locs1 cells slots Q (F0 m (pc + 3) ls (v.toList ++ rest))) : W p l e R s m args below meth c H locs cells slots Q (F0 m pc ls st0) := by
  intro T hT X
  obtain ⟨v', st₀, t, T', L, h0, X', hL, e1, e2, ⟨hv, hb, hz, hk⟩, st⟩ := hr T hT X
  cases hv
  rw [h0] at hz hk
  obtain ⟨t2, a1, b1⟩ := kk t T'.heap (locs ++ L) e1.symm hb
    ⟨Nat.le_trans hS.1 (by rw [e1]; exact hz), fun q h1 h2 => by rw [e1, hk q (Nat.lt_of_lt_of_le h1 hS.1) h2]; exact hS.2.1 q h1 h2, fun q hq => by
      rcases List.mem_append.mp hq with h | h
      · exact hS.2.2 q h
      · exact hL q h⟩ T' rfl X'
  exact ⟨t2, st t2 a1, b1⟩
/-- what the tables say of a method that is called: its code, its class, its descriptor -/
def MOk (z : MD) (n : Nat) : Prop := Cond.code (mdN z) (mdC z) (mdL z) (mdR z) ∈ tbG ∧ Cond.initialized (mdN z).cls ∈ tbG ∧ (mdN z).cls ≠ "java/lang/invoke/MethodHandle" ∧ (mdN z).cls ≠ "java/lang/invoke/VarHandle" ∧ (parseMethodDescriptor (mdN z).desc).map (fun d => d.parameters.length) = some n
theorem ws_good {z : MD} {n : Nat} (h : MOk z n) : GoodIn tbG (WSy z) := by
  intro w hw
  rcases List.mem_cons.mp hw with rfl | hw
  · exact ⟨h.1, tb_good h.1⟩
  · exact ⟨hw, tb_good hw⟩
section ROWS
variable {α β : Type} {X : Scr} {emb : α → Option Value} {o o2 : Option (α × Mem)} {y : MD} {pc : Nat} {lv : List (Nat × Value)} {st : List Value} {M : Mem}
theorem st_sum {wd : WD} (st : List Value) : ((st.map (rv wd)).map fun v => v.category) = st.map fun v => v.category := by
  rw [List.map_map]
  apply List.map_congr_left
  intro v _
  exact rv_cat wd v
/-- invokevirtual: g is what the callee answers, k goes on with it -/
theorem T_callV {emb' : β → Option Value} {g : Option (β × Mem)} {k : β × Mem → Option (α × Mem)} (z : MD) (av st : List Value) {stk : List Value} {i c idx : Nat} {q : vw_C} (d : decode (mdC y) pc = .ok (.invokevirtual idx, 3)) (hob : KD[i]? = some (.inl c)) (hq : vwCl[c]? = some q) (hs : stk = av.reverse ++ .ref i :: st) (hz : MOk z av.length) (hlk : Cond.methodLink (mdN y).cls idx (mdN z) ∈ tbG) (him : Cond.instanceMethod (mdN z) ∈ tbG) (hse : Cond.selects q.1 (mdN z) (mdN z) ∈ tbG) (hR : mdF z + 1 ≤ mdF y ∧ 8 + (mdL z + 11) + mdW z ≤ mdW y) (hst : (st.map fun v => v.category).sum ≤ 8)
    (hM : ∀ r M1, g = some (r, M1) → Ct X z (.ref i :: av) M (emb' r) M1) (kk : ∀ r M1, T X emb (k (r, M1)) y (pc + 3) lv ((emb' r).toList ++ st) M1) : T X emb (g.bind k) y pc lv stk M := by
  intro r M' h wd p l e R s m args below meth c H locs cells slots Q ls hC hF hl hr
  obtain ⟨⟨r1, M1⟩, hg, hk⟩ := Option.bind_eq_some_iff.mp h
  subst hs
  obtain ⟨hx, hb, hml, hown, hts, hf1, hf2, hf3, hf4⟩ := hC
  have hi := KD_lt hob
  have hrecv := va_recv (a := wd.1 i) (q0 := i) hF.1 hF.2.1 hq (by rw [cw_get _ _ hi, ent_obj hob])
  have hw : ∀ w ∈ tbG, w.before args s = true := hts
  refine va_callx (v := (emb' r1).map (rv wd)) (va_runV (C := q.1) (b := wd.1 i) (As := av.map (rv wd)) (rest := st.map (rv wd)) (Ts := tbG) (own := (mdN y).cls) ⟨hx, hb, hml, hown, hw⟩ (hM r1 M1 hg wd l) ⟨callB_of (Ts := tbG) (n := av.length) hw (ws_good hz) rfl rfl rfl (hw _ hz.2.1) (hw _ hlk) hz.2.2 ⟨Nat.le_trans hR.1 hf1, Nat.le_trans hR.2 hf2⟩, hw _ him, hw _ hse⟩ ⟨World.blind, hrecv, fun U hU hW => ⟨rfl, hF.world U hU hW⟩⟩ rfl (by rw [List.length_map]) hl.1 (by simp [rv]) (lv_room (by rw [st_sum]; exact hst)) d ⟨hf3, hf4⟩) hF.2.2.2.1 ?_
  intro t H1 locs1 ht hB hS
  have hF1 : Fr wd X M1 s H1 locs1 := ⟨hF.1, by rw [← ht]; exact hB.1, hB.2, hS, hF.2.2.2.2.1, hF.2.2.2.2.2⟩
  have kk' := kk r1 M1 r M' hk wd p l e R s m args below meth c H1 locs1 cells slots Q ls ⟨hx, hb, hml, hown, hts, hf1, hf2, hf3, hf4⟩ hF1 hl hr
  rw [List.map_append] at kk'
  cases hz : emb' r1 <;> rw [hz] at kk' <;> exact kk'
theorem T_callS {emb' : β → Option Value} {g : Option (β × Mem)} {k : β × Mem → Option (α × Mem)} (z : MD) (av st : List Value) {stk : List Value} {idx : Nat} (d : decode (mdC y) pc = .ok (.invokestatic idx, 3)) (hs : stk = av.reverse ++ st) (hz : MOk z av.length) (hlk : Cond.methodLink (mdN y).cls idx (mdN z) ∈ tbG) (him : Cond.static (mdN z) ∈ tbG) (hR : mdF z + 1 ≤ mdF y ∧ 8 + (mdL z + 11) + mdW z ≤ mdW y) (hst : (st.map fun v => v.category).sum ≤ 8)
    (hM : ∀ r M1, g = some (r, M1) → Ct X z av M (emb' r) M1) (kk : ∀ r M1, T X emb (k (r, M1)) y (pc + 3) lv ((emb' r).toList ++ st) M1) : T X emb (g.bind k) y pc lv stk M := by
  intro r M' h wd p l e R s m args below meth c H locs cells slots Q ls hC hF hl hr
  obtain ⟨⟨r1, M1⟩, hg, hk⟩ := Option.bind_eq_some_iff.mp h
  subst hs
  obtain ⟨hx, hb, hml, hown, hts, hf1, hf2, hf3, hf4⟩ := hC
  have hw : ∀ w ∈ tbG, w.before args s = true := hts
  refine va_callx (v := (emb' r1).map (rv wd)) (va_runS (As := av.map (rv wd)) (rest := st.map (rv wd)) (Ts := tbG) (own := (mdN y).cls) ⟨hx, hb, hml, hown, hw⟩ (hM r1 M1 hg wd l) ⟨callB_of (Ts := tbG) (n := av.length) hw (ws_good hz) rfl rfl rfl (hw _ hz.2.1) (hw _ hlk) hz.2.2 ⟨Nat.le_trans hR.1 hf1, Nat.le_trans hR.2 hf2⟩, hw _ him⟩ ⟨World.blind, fun U hU hW => ⟨rfl, hF.world U hU hW⟩⟩ rfl (by rw [List.length_map]) hl.1 (by simp) (lv_room (by rw [st_sum]; exact hst)) d ⟨hf3, hf4⟩) hF.2.2.2.1 ?_
  intro t H1 locs1 ht hB hS
  have hF1 : Fr wd X M1 s H1 locs1 := ⟨hF.1, by rw [← ht]; exact hB.1, hB.2, hS, hF.2.2.2.2.1, hF.2.2.2.2.2⟩
  have kk' := kk r1 M1 r M' hk wd p l e R s m args below meth c H1 locs1 cells slots Q ls ⟨hx, hb, hml, hown, hts, hf1, hf2, hf3, hf4⟩ hF1 hl hr
  rw [List.map_append] at kk'
  cases hz : emb' r1 <;> rw [hz] at kk' <;> exact kk'
theorem T_callSN {emb' : β → Option Value} {g : Option (β × Mem)} {k : β × Mem → Option (α × Mem)} (z : MD) (av st : List Value) {stk : List Value} {idx : Nat} {host : String} (d : decode (mdC y) pc = .ok (.invokestatic idx, 3)) (hs : stk = av.reverse ++ st) (hz : MOk z av.length) (hlk : Cond.methodLinkNest (mdN y).cls idx (mdN z) host ∈ lw_tbl) (him : Cond.static (mdN z) ∈ tbG) (hR : mdF z + 1 ≤ mdF y ∧ 8 + (mdL z + 11) + mdW z ≤ mdW y) (hst : (st.map fun v => v.category).sum ≤ 8)
    (hM : ∀ r M1, g = some (r, M1) → Ct X z av M (emb' r) M1) (kk : ∀ r M1, T X emb (k (r, M1)) y (pc + 3) lv ((emb' r).toList ++ st) M1) : T X emb (g.bind k) y pc lv stk M := by
  intro r M' h wd p l e R s m args below meth c H locs cells slots Q ls hC hF hl hr
  obtain ⟨⟨r1, M1⟩, hg, hk⟩ := Option.bind_eq_some_iff.mp h
  subst hs
  obtain ⟨hx, hb, hml, hown, hts, hf1, hf2, hf3, hf4⟩ := hC
  have hw : ∀ w ∈ tbG, w.before args s = true := hts
  refine va_callx (v := (emb' r1).map (rv wd)) (va_runSN (As := av.map (rv wd)) (rest := st.map (rv wd)) (Ts := tbG) (own := (mdN y).cls) (host := host) ⟨hx, hb, hml, hown, hw⟩ (hM r1 M1 hg wd l) ⟨va_cnB (Ts := tbG) (n := av.length) hw (ws_good hz) rfl rfl rfl (hF.2.2.2.2.2.1 _ _ _ _ hlk) (hw _ hz.2.1) hz.2.2 ⟨Nat.le_trans hR.1 hf1, Nat.le_trans hR.2 hf2⟩, hw _ him, trivial⟩ ⟨World.blind, fun U hU hW => ⟨rfl, hF.world U hU hW⟩⟩ rfl (by rw [List.length_map]) hl.1 (by simp) (lv_room (by rw [st_sum]; exact hst)) d ⟨hf3, hf4⟩) hF.2.2.2.1 ?_
  intro t H1 locs1 ht hB hS
  have hF1 : Fr wd X M1 s H1 locs1 := ⟨hF.1, by rw [← ht]; exact hB.1, hB.2, hS, hF.2.2.2.2.1, hF.2.2.2.2.2⟩
  have kk' := kk r1 M1 r M' hk wd p l e R s m args below meth c H1 locs1 cells slots Q ls ⟨hx, hb, hml, hown, hts, hf1, hf2, hf3, hf4⟩ hF1 hl hr
  rw [List.map_append] at kk'
  cases hz : emb' r1 <;> rw [hz] at kk' <;> exact kk'
theorem T_callVI {g : Option (Int32 × Mem)} {k : Int32 × Mem → Option (α × Mem)} (z : MD) (av st : List Value) {stk : List Value} {i c idx : Nat} {q : vw_C} (d : decode (mdC y) pc = .ok (.invokevirtual idx, 3)) (hob : KD[i]? = some (.inl c)) (hq : vwCl[c]? = some q) (hs : stk = av.reverse ++ .ref i :: st) (hz : MOk z av.length) (hlk : Cond.methodLink (mdN y).cls idx (mdN z) ∈ tbG) (him : Cond.instanceMethod (mdN z) ∈ tbG) (hse : Cond.selects q.1 (mdN z) (mdN z) ∈ tbG) (hR : mdF z + 1 ≤ mdF y ∧ 8 + (mdL z + 11) + mdW z ≤ mdW y) (hst : (st.map fun v => v.category).sum ≤ 8) (hM : ∀ r M1, g = some (r, M1) → Ct X z (.ref i :: av) M (eI r) M1) (kk : ∀ r M1, T X emb (k (r, M1)) y (pc + 3) lv (.int r :: st) M1) : T X emb (g.bind k) y pc lv stk M := T_callV (emb' := eI) z av st d hob hq hs hz hlk him hse hR hst hM kk
theorem T_callVL {g : Option (Int64 × Mem)} {k : Int64 × Mem → Option (α × Mem)} (z : MD) (av st : List Value) {stk : List Value} {i c idx : Nat} {q : vw_C} (d : decode (mdC y) pc = .ok (.invokevirtual idx, 3)) (hob : KD[i]? = some (.inl c)) (hq : vwCl[c]? = some q) (hs : stk = av.reverse ++ .ref i :: st) (hz : MOk z av.length) (hlk : Cond.methodLink (mdN y).cls idx (mdN z) ∈ tbG) (him : Cond.instanceMethod (mdN z) ∈ tbG) (hse : Cond.selects q.1 (mdN z) (mdN z) ∈ tbG) (hR : mdF z + 1 ≤ mdF y ∧ 8 + (mdL z + 11) + mdW z ≤ mdW y) (hst : (st.map fun v => v.category).sum ≤ 8) (hM : ∀ r M1, g = some (r, M1) → Ct X z (.ref i :: av) M (eL r) M1) (kk : ∀ r M1, T X emb (k (r, M1)) y (pc + 3) lv (.long r :: st) M1) : T X emb (g.bind k) y pc lv stk M := T_callV (emb' := eL) z av st d hob hq hs hz hlk him hse hR hst hM kk
theorem T_callVU {g : Option (Unit × Mem)} {k : Unit × Mem → Option (α × Mem)} (z : MD) (av st : List Value) {stk : List Value} {i c idx : Nat} {q : vw_C} (d : decode (mdC y) pc = .ok (.invokevirtual idx, 3)) (hob : KD[i]? = some (.inl c)) (hq : vwCl[c]? = some q) (hs : stk = av.reverse ++ .ref i :: st) (hz : MOk z av.length) (hlk : Cond.methodLink (mdN y).cls idx (mdN z) ∈ tbG) (him : Cond.instanceMethod (mdN z) ∈ tbG) (hse : Cond.selects q.1 (mdN z) (mdN z) ∈ tbG) (hR : mdF z + 1 ≤ mdF y ∧ 8 + (mdL z + 11) + mdW z ≤ mdW y) (hst : (st.map fun v => v.category).sum ≤ 8) (hM : ∀ r M1, g = some (r, M1) → Ct X z (.ref i :: av) M (eV r) M1) (kk : ∀ r M1, T X emb (k (r, M1)) y (pc + 3) lv (st) M1) : T X emb (g.bind k) y pc lv stk M := T_callV (emb' := eV) z av st d hob hq hs hz hlk him hse hR hst hM kk
theorem T_callVR {g : Option (Nat × Mem)} {k : Nat × Mem → Option (α × Mem)} (z : MD) (av st : List Value) {stk : List Value} {i c idx : Nat} {q : vw_C} (d : decode (mdC y) pc = .ok (.invokevirtual idx, 3)) (hob : KD[i]? = some (.inl c)) (hq : vwCl[c]? = some q) (hs : stk = av.reverse ++ .ref i :: st) (hz : MOk z av.length) (hlk : Cond.methodLink (mdN y).cls idx (mdN z) ∈ tbG) (him : Cond.instanceMethod (mdN z) ∈ tbG) (hse : Cond.selects q.1 (mdN z) (mdN z) ∈ tbG) (hR : mdF z + 1 ≤ mdF y ∧ 8 + (mdL z + 11) + mdW z ≤ mdW y) (hst : (st.map fun v => v.category).sum ≤ 8) (hM : ∀ r M1, g = some (r, M1) → Ct X z (.ref i :: av) M (eR r) M1) (kk : ∀ r M1, T X emb (k (r, M1)) y (pc + 3) lv (.ref r :: st) M1) : T X emb (g.bind k) y pc lv stk M := T_callV (emb' := eR) z av st d hob hq hs hz hlk him hse hR hst hM kk
theorem T_callSI {g : Option (Int32 × Mem)} {k : Int32 × Mem → Option (α × Mem)} (z : MD) (av st : List Value) {stk : List Value} {idx : Nat} (d : decode (mdC y) pc = .ok (.invokestatic idx, 3)) (hs : stk = av.reverse ++ st) (hz : MOk z av.length) (hlk : Cond.methodLink (mdN y).cls idx (mdN z) ∈ tbG) (him : Cond.static (mdN z) ∈ tbG) (hR : mdF z + 1 ≤ mdF y ∧ 8 + (mdL z + 11) + mdW z ≤ mdW y) (hst : (st.map fun v => v.category).sum ≤ 8) (hM : ∀ r M1, g = some (r, M1) → Ct X z (av) M (eI r) M1) (kk : ∀ r M1, T X emb (k (r, M1)) y (pc + 3) lv (.int r :: st) M1) : T X emb (g.bind k) y pc lv stk M := T_callS (emb' := eI) z av st d hs hz hlk him hR hst hM kk
theorem T_callSL {g : Option (Int64 × Mem)} {k : Int64 × Mem → Option (α × Mem)} (z : MD) (av st : List Value) {stk : List Value} {idx : Nat} (d : decode (mdC y) pc = .ok (.invokestatic idx, 3)) (hs : stk = av.reverse ++ st) (hz : MOk z av.length) (hlk : Cond.methodLink (mdN y).cls idx (mdN z) ∈ tbG) (him : Cond.static (mdN z) ∈ tbG) (hR : mdF z + 1 ≤ mdF y ∧ 8 + (mdL z + 11) + mdW z ≤ mdW y) (hst : (st.map fun v => v.category).sum ≤ 8) (hM : ∀ r M1, g = some (r, M1) → Ct X z (av) M (eL r) M1) (kk : ∀ r M1, T X emb (k (r, M1)) y (pc + 3) lv (.long r :: st) M1) : T X emb (g.bind k) y pc lv stk M := T_callS (emb' := eL) z av st d hs hz hlk him hR hst hM kk
theorem T_callSU {g : Option (Unit × Mem)} {k : Unit × Mem → Option (α × Mem)} (z : MD) (av st : List Value) {stk : List Value} {idx : Nat} (d : decode (mdC y) pc = .ok (.invokestatic idx, 3)) (hs : stk = av.reverse ++ st) (hz : MOk z av.length) (hlk : Cond.methodLink (mdN y).cls idx (mdN z) ∈ tbG) (him : Cond.static (mdN z) ∈ tbG) (hR : mdF z + 1 ≤ mdF y ∧ 8 + (mdL z + 11) + mdW z ≤ mdW y) (hst : (st.map fun v => v.category).sum ≤ 8) (hM : ∀ r M1, g = some (r, M1) → Ct X z (av) M (eV r) M1) (kk : ∀ r M1, T X emb (k (r, M1)) y (pc + 3) lv (st) M1) : T X emb (g.bind k) y pc lv stk M := T_callS (emb' := eV) z av st d hs hz hlk him hR hst hM kk
theorem T_callSR {g : Option (Nat × Mem)} {k : Nat × Mem → Option (α × Mem)} (z : MD) (av st : List Value) {stk : List Value} {idx : Nat} (d : decode (mdC y) pc = .ok (.invokestatic idx, 3)) (hs : stk = av.reverse ++ st) (hz : MOk z av.length) (hlk : Cond.methodLink (mdN y).cls idx (mdN z) ∈ tbG) (him : Cond.static (mdN z) ∈ tbG) (hR : mdF z + 1 ≤ mdF y ∧ 8 + (mdL z + 11) + mdW z ≤ mdW y) (hst : (st.map fun v => v.category).sum ≤ 8) (hM : ∀ r M1, g = some (r, M1) → Ct X z (av) M (eR r) M1) (kk : ∀ r M1, T X emb (k (r, M1)) y (pc + 3) lv (.ref r :: st) M1) : T X emb (g.bind k) y pc lv stk M := T_callS (emb' := eR) z av st d hs hz hlk him hR hst hM kk
theorem T_callSNI {g : Option (Int32 × Mem)} {k : Int32 × Mem → Option (α × Mem)} (z : MD) (av st : List Value) {stk : List Value} {idx : Nat} {host : String} (d : decode (mdC y) pc = .ok (.invokestatic idx, 3)) (hs : stk = av.reverse ++ st) (hz : MOk z av.length) (hlk : Cond.methodLinkNest (mdN y).cls idx (mdN z) host ∈ lw_tbl) (him : Cond.static (mdN z) ∈ tbG) (hR : mdF z + 1 ≤ mdF y ∧ 8 + (mdL z + 11) + mdW z ≤ mdW y) (hst : (st.map fun v => v.category).sum ≤ 8) (hM : ∀ r M1, g = some (r, M1) → Ct X z (av) M (eI r) M1) (kk : ∀ r M1, T X emb (k (r, M1)) y (pc + 3) lv (.int r :: st) M1) : T X emb (g.bind k) y pc lv stk M := T_callSN (emb' := eI) z av st d hs hz hlk him hR hst hM kk
theorem T_callSNL {g : Option (Int64 × Mem)} {k : Int64 × Mem → Option (α × Mem)} (z : MD) (av st : List Value) {stk : List Value} {idx : Nat} {host : String} (d : decode (mdC y) pc = .ok (.invokestatic idx, 3)) (hs : stk = av.reverse ++ st) (hz : MOk z av.length) (hlk : Cond.methodLinkNest (mdN y).cls idx (mdN z) host ∈ lw_tbl) (him : Cond.static (mdN z) ∈ tbG) (hR : mdF z + 1 ≤ mdF y ∧ 8 + (mdL z + 11) + mdW z ≤ mdW y) (hst : (st.map fun v => v.category).sum ≤ 8) (hM : ∀ r M1, g = some (r, M1) → Ct X z (av) M (eL r) M1) (kk : ∀ r M1, T X emb (k (r, M1)) y (pc + 3) lv (.long r :: st) M1) : T X emb (g.bind k) y pc lv stk M := T_callSN (emb' := eL) z av st d hs hz hlk him hR hst hM kk
theorem T_callSNU {g : Option (Unit × Mem)} {k : Unit × Mem → Option (α × Mem)} (z : MD) (av st : List Value) {stk : List Value} {idx : Nat} {host : String} (d : decode (mdC y) pc = .ok (.invokestatic idx, 3)) (hs : stk = av.reverse ++ st) (hz : MOk z av.length) (hlk : Cond.methodLinkNest (mdN y).cls idx (mdN z) host ∈ lw_tbl) (him : Cond.static (mdN z) ∈ tbG) (hR : mdF z + 1 ≤ mdF y ∧ 8 + (mdL z + 11) + mdW z ≤ mdW y) (hst : (st.map fun v => v.category).sum ≤ 8) (hM : ∀ r M1, g = some (r, M1) → Ct X z (av) M (eV r) M1) (kk : ∀ r M1, T X emb (k (r, M1)) y (pc + 3) lv (st) M1) : T X emb (g.bind k) y pc lv stk M := T_callSN (emb' := eV) z av st d hs hz hlk him hR hst hM kk
theorem T_callSNR {g : Option (Nat × Mem)} {k : Nat × Mem → Option (α × Mem)} (z : MD) (av st : List Value) {stk : List Value} {idx : Nat} {host : String} (d : decode (mdC y) pc = .ok (.invokestatic idx, 3)) (hs : stk = av.reverse ++ st) (hz : MOk z av.length) (hlk : Cond.methodLinkNest (mdN y).cls idx (mdN z) host ∈ lw_tbl) (him : Cond.static (mdN z) ∈ tbG) (hR : mdF z + 1 ≤ mdF y ∧ 8 + (mdL z + 11) + mdW z ≤ mdW y) (hst : (st.map fun v => v.category).sum ≤ 8) (hM : ∀ r M1, g = some (r, M1) → Ct X z (av) M (eR r) M1) (kk : ∀ r M1, T X emb (k (r, M1)) y (pc + 3) lv (.ref r :: st) M1) : T X emb (g.bind k) y pc lv stk M := T_callSN (emb' := eR) z av st d hs hz hlk him hR hst hM kk
/-- ends -/
theorem T_iret {v : Int32} (d : decode (mdC y) pc = .ok (.ireturn, 1)) (hr : mdR y = some .int) : T X eI (some (v, M)) y pc lv [.int v] M := by
  intro r M' h wd p l e R s m args below meth c H locs cells slots Q ls hC hF hl hret
  cases h
  exact hret H locs pc ls hF ⟨d, .int, hr, rfl⟩
theorem T_zret {v : Int32} (d : decode (mdC y) pc = .ok (.ireturn, 1)) (hr : mdR y = some .boolean) : T X eI (gd (v == 0 || v == 1) (some (v, M))) y pc lv [.int v] M := by
  intro r M' h wd p l e R s m args below meth c H locs cells slots Q ls hC hF hl hret
  obtain ⟨hg, h⟩ := gd_some h
  cases h
  refine hret H locs pc ls hF ⟨d, .boolean, hr, ?_⟩
  simp only [Bool.or_eq_true, beq_iff_eq] at hg
  rcases hg with rfl | rfl <;> decide +kernel
theorem T_zret0 (d : decode (mdC y) pc = .ok (.ireturn, 1)) (hr : mdR y = some .boolean) : T X eI (some (0, M)) y pc lv [.int 0] M := by
  intro r M' h wd p l e R s m args below meth c H locs cells slots Q ls hC hF hl hret
  cases h
  exact hret H locs pc ls hF ⟨d, .boolean, hr, by decide +kernel⟩
theorem T_zret1 (d : decode (mdC y) pc = .ok (.ireturn, 1)) (hr : mdR y = some .boolean) : T X eI (some (1, M)) y pc lv [.int 1] M := by
  intro r M' h wd p l e R s m args below meth c H locs cells slots Q ls hC hF hl hret
  cases h
  exact hret H locs pc ls hF ⟨d, .boolean, hr, by decide +kernel⟩
theorem T_lret {v : Int64} (d : decode (mdC y) pc = .ok (.lreturn, 1)) (hr : mdR y = some .long) : T X eL (some (v, M)) y pc lv [.long v] M := by
  intro r M' h wd p l e R s m args below meth c H locs cells slots Q ls hC hF hl hret
  cases h
  exact hret H locs pc ls hF ⟨d, hr⟩
theorem T_vret (d : decode (mdC y) pc = .ok (.return_, 1)) (hr : mdR y = none) : T X eV (some ((), M)) y pc lv [] M := by
  intro r M' h wd p l e R s m args below meth c H locs cells slots Q ls hC hF hl hret
  cases h
  exact hret H locs pc ls hF ⟨d, hr⟩
theorem T_aret {v : Nat} {n : String} (d : decode (mdC y) pc = .ok (.areturn, 1)) (hr : mdR y = some (.object n)) : T X eR (some (v, M)) y pc lv [.ref v] M := by
  intro r M' h wd p l e R s m args below meth c H locs cells slots Q ls hC hF hl hret
  cases h
  exact hret H locs pc ls hF ⟨d, n, hr⟩
/-- the same locals, fewer, in another order -/
theorem T_sub (ks : List Nat) {lv' : List (Nat × Value)} (h : lv_pick lv ks = lv') (k : T X emb o y pc lv' st M) : T X emb o y pc lv st M := by
  intro r M' ho wd p l e R s m args below meth c H locs cells slots Q ls hC hF hl hr
  refine k r M' ho wd p l e R s m args below meth c H locs cells slots Q ls hC hF (lv_sub hl ks ?_) hr
  subst h
  unfold lv_pick
  rw [List.map_filterMap]
  congr 1
  funext i
  rw [List.getElem?_map]
theorem T_ite {c : Prop} [Decidable c] (k1 : c → T X emb o y pc lv st M) (k2 : ¬ c → T X emb o2 y pc lv st M) : T X emb (if c then o else o2) y pc lv st M := by
  by_cases h : c
  · rw [if_pos h]; exact k1 h
  · rw [if_neg h]; exact k2 h
theorem T_gd {b : Bool} (k : b = true → T X emb o y pc lv st M) : T X emb (gd b o) y pc lv st M := by
  intro r M' h
  obtain ⟨hg, h⟩ := gd_some h
  exact k hg r M' h
theorem T_mw {k : Mem → Option (α × Mem)} (h : ∀ M1, T X emb (k M1) y pc lv st M1) : T X emb (mw M k) y pc lv st M := h M
theorem T_iw {v : Int32} {k : Int32 → Option (α × Mem)} (h : ∀ v, T X emb (k v) y pc lv (.int v :: st) M) : T X emb (iw v k) y pc lv (.int v :: st) M := h v
theorem T_lw {v : Int64} {k : Int64 → Option (α × Mem)} (h : ∀ v, T X emb (k v) y pc lv (.long v :: st) M) : T X emb (lw v k) y pc lv (.long v :: st) M := h v
theorem T_none : T X emb none y pc lv st M := fun r M' h => by cases h
/-- a constant of the pool -/
theorem T_ldc {idx : Nat} {v : Int32} (d : decode (mdC y) pc = .ok (.ldc idx, 2)) (hw : Cond.constant (mdN y).cls idx v ∈ tbG) (k : T X emb o y (pc + 2) lv (.int v :: st) M) : T X emb o y pc lv st M := by
  intro r M' h wd p l e R s m args below meth c H locs cells slots Q ls hC hF hl hr
  exact lv_ldc hC.1 hC.2.1 hC.2.2.2.1 (hC.2.2.2.2.1 _ hw) d (k r M' h wd p l e R s m args below meth c H locs cells slots Q ls hC hF hl hr)
theorem T_ldcw {idx : Nat} {v : Int32} (d : decode (mdC y) pc = .ok (.ldc_w idx, 3)) (hw : Cond.constant (mdN y).cls idx v ∈ tbG) (k : T X emb o y (pc + 3) lv (.int v :: st) M) : T X emb o y pc lv st M := by
  intro r M' h wd p l e R s m args below meth c H locs cells slots Q ls hC hF hl hr
  exact lv_ldcw hC.1 hC.2.1 hC.2.2.2.1 (hC.2.2.2.2.1 _ hw) d (k r M' h wd p l e R s m args below meth c H locs cells slots Q ls hC hF hl hr)
theorem T_ldc2 {idx : Nat} {v : Int64} (d : decode (mdC y) pc = .ok (.ldc2_w idx, 3)) (hw : Cond.constantLong (mdN y).cls idx v ∈ tbG) (k : T X emb o y (pc + 3) lv (.long v :: st) M) : T X emb o y pc lv st M := by
  intro r M' h wd p l e R s m args below meth c H locs cells slots Q ls hC hF hl hr
  exact lv_ldc2 hC.1 hC.2.1 hC.2.2.2.1 (hC.2.2.2.2.1 _ hw) d (k r M' h wd p l e R s m args below meth c H locs cells slots Q ls hC hF hl hr)
/-- what the tables say of a class's fields -/
def FOk (c : Nat) (q : vw_C) : Prop := vwCl[c]? = some q ∧ (∀ w ∈ u_ws q.1 q.2.1 q.2.2, w ∈ tbG) ∧ NF c = q.2.2 ∧ (∃ ty : Nat → FieldType, ∀ k, k < q.2.2 → parseFieldDescriptor (q.2.1 k).2.2.1 = some (ty k)) ∧ ∀ a, a < q.2.2 → ∀ b, b < q.2.2 → a ≠ b → (q.2.1 a).2.1 ≠ (q.2.1 b).2.1
theorem fs_at {wd : WD} {M : Mem} {c i k : Nat} (h : k < NF c) : ((List.range (NF c)).map (fv wd M c i))[k]? = some (fv wd M c i k) := by rw [List.getElem?_map, List.getElem?_range h]; rfl
theorem T_getI {i c idx : Nat} {q : vw_C} (k : Nat) (hF0 : FOk c q) (hob : KD[i]? = some (.inl c)) (hk : k < q.2.2) (ht : FT c k = 0) (d : decode (mdC y) pc = .ok (.getfield idx, 3)) (hw : Cond.fieldLink (mdN y).cls idx (q.2.1 k).1 (q.2.1 k).2.1 (q.2.1 k).2.2.1 ∈ tbG) (kk : T X emb o y (pc + 3) lv (.int (M.1 i k) :: st) M) : T X emb o y pc lv (.ref i :: st) M := by
  intro r M' h wd p l e R s m args below meth c H locs cells slots Q ls hC hF hl hr
  have hfs := fs_at (wd := wd) (M := M) (i := i) (k := k) (show k < NF _ by rw [hF0.2.2.1]; exact hk)
  rw [show fv wd M _ i k = .int (M.1 i k) by simp [fv, ht]] at hfs
  exact va_get hC.1 hC.2.1 hC.2.2.2.2.1 hF0.2.1 hC.2.2.2.1 hF.1 hF.2.1 i (by rw [cw_get _ _ (KD_lt hob), ent_obj hob]) hF0.1 k hk (hC.2.2.2.2.1 _ hw) (fun _ h9 => h9) hfs d (kk r M' h wd p l e R s m args below meth c H locs cells slots Q ls hC hF hl hr)
theorem T_getL {i c idx : Nat} {q : vw_C} (k : Nat) (hF0 : FOk c q) (hob : KD[i]? = some (.inl c)) (hk : k < q.2.2) (ht : FT c k = 1) (d : decode (mdC y) pc = .ok (.getfield idx, 3)) (hw : Cond.fieldLink (mdN y).cls idx (q.2.1 k).1 (q.2.1 k).2.1 (q.2.1 k).2.2.1 ∈ tbG) (kk : T X emb o y (pc + 3) lv (.long (M.2 i k) :: st) M) : T X emb o y pc lv (.ref i :: st) M := by
  intro r M' h wd p l e R s m args below meth c H locs cells slots Q ls hC hF hl hr
  have hfs := fs_at (wd := wd) (M := M) (i := i) (k := k) (show k < NF _ by rw [hF0.2.2.1]; exact hk)
  rw [show fv wd M _ i k = .long (M.2 i k) by simp [fv, ht]] at hfs
  exact va_get hC.1 hC.2.1 hC.2.2.2.2.1 hF0.2.1 hC.2.2.2.1 hF.1 hF.2.1 i (by rw [cw_get _ _ (KD_lt hob), ent_obj hob]) hF0.1 k hk (hC.2.2.2.2.1 _ hw) (fun _ h9 => h9) hfs d (kk r M' h wd p l e R s m args below meth c H locs cells slots Q ls hC hF hl hr)
theorem T_getR {i c idx : Nat} {q : vw_C} (k : Nat) (hF0 : FOk c q) (hob : KD[i]? = some (.inl c)) (hk : k < q.2.2) (ht : FT c k = 2) (d : decode (mdC y) pc = .ok (.getfield idx, 3)) (hw : Cond.fieldLink (mdN y).cls idx (q.2.1 k).1 (q.2.1 k).2.1 (q.2.1 k).2.2.1 ∈ tbG) (kk : T X emb o y (pc + 3) lv (.ref (rf i k) :: st) M) : T X emb o y pc lv (.ref i :: st) M := by
  intro r M' h wd p l e R s m args below meth c H locs cells slots Q ls hC hF hl hr
  have hfs := fs_at (wd := wd) (M := M) (i := i) (k := k) (show k < NF _ by rw [hF0.2.2.1]; exact hk)
  rw [show fv wd M _ i k = .ref (wd.1 (rf i k)) by simp [fv, ht]] at hfs
  exact va_get hC.1 hC.2.1 hC.2.2.2.2.1 hF0.2.1 hC.2.2.2.1 hF.1 hF.2.1 i (by rw [cw_get _ _ (KD_lt hob), ent_obj hob]) hF0.1 k hk (hC.2.2.2.2.1 _ hw) (fun _ h9 => h9) hfs d (kk r M' h wd p l e R s m args below meth c H locs cells slots Q ls hC hF hl hr)
theorem T_putI {i c idx : Nat} {q : vw_C} {x : Int32} {ty : FieldType} (k : Nat) (hF0 : FOk c q) (hob : KD[i]? = some (.inl c)) (hk : k < q.2.2) (ht : FT c k = 0) (hfin : (q.2.1 k).2.2.2 = false) (hd : parseFieldDescriptor (q.2.1 k).2.2.1 = some ty) (hn : narrow ty (.int x) = .int x) (hft : fits ty (.int x) = true) (d : decode (mdC y) pc = .ok (.putfield idx, 3)) (hw : Cond.fieldLink (mdN y).cls idx (q.2.1 k).1 (q.2.1 k).2.1 (q.2.1 k).2.2.1 ∈ tbG) (kk : T X emb o y (pc + 3) lv st (mI M i k x)) : T X emb o y pc lv (.int x :: .ref i :: st) M := by
  intro r M' h wd p l e R s m args below meth c H locs cells slots Q ls hC hF hl hr
  obtain ⟨ty0, hty0⟩ := hF0.2.2.2.1
  have hi := KD_lt hob
  refine va_put (v := .int x) hC.1 hC.2.1 hC.2.2.2.2.1 hF0.2.1 ty0 hty0 hF0.2.2.2.2 hC.2.2.2.1 hF.1 hF.2.1 hF.2.2.1 hF.2.2.2.1 i (by rw [cw_get _ _ hi, ent_obj hob]) hF0.1 k hk (hC.2.2.2.2.1 _ hw) (fun _ h9 => h9) hfin hd hn hft (by rw [List.length_map, List.length_range, hF0.2.2.1]; exact hk) d (fun H1 locs1 hP1 hD1 hS1 => ?_)
  have e9 := cw_set (wd := wd) (M := M) (M' := mI M i k x) hi (ent_putI hob ht) (fun j hj => ⟨mR_ne hj, rfl⟩)
  rw [e9] at hP1 hD1
  exact kk r M' h wd p l e R s m args below meth c H1 locs1 cells slots Q ls hC ⟨hF.1, hP1, hD1, hS1, hF.2.2.2.2⟩ hl hr
theorem T_putL {i c idx : Nat} {q : vw_C} {x : Int64} (k : Nat) (hF0 : FOk c q) (hob : KD[i]? = some (.inl c)) (hk : k < q.2.2) (ht : FT c k = 1) (hfin : (q.2.1 k).2.2.2 = false) (hd : parseFieldDescriptor (q.2.1 k).2.2.1 = some .long) (d : decode (mdC y) pc = .ok (.putfield idx, 3)) (hw : Cond.fieldLink (mdN y).cls idx (q.2.1 k).1 (q.2.1 k).2.1 (q.2.1 k).2.2.1 ∈ tbG) (kk : T X emb o y (pc + 3) lv st (mL M i k x)) : T X emb o y pc lv (.long x :: .ref i :: st) M := by
  intro r M' h wd p l e R s m args below meth c H locs cells slots Q ls hC hF hl hr
  obtain ⟨ty0, hty0⟩ := hF0.2.2.2.1
  have hi := KD_lt hob
  refine va_put (v := .long x) hC.1 hC.2.1 hC.2.2.2.2.1 hF0.2.1 ty0 hty0 hF0.2.2.2.2 hC.2.2.2.1 hF.1 hF.2.1 hF.2.2.1 hF.2.2.2.1 i (by rw [cw_get _ _ hi, ent_obj hob]) hF0.1 k hk (hC.2.2.2.2.1 _ hw) (fun _ h9 => h9) hfin hd rfl rfl (by rw [List.length_map, List.length_range, hF0.2.2.1]; exact hk) d (fun H1 locs1 hP1 hD1 hS1 => ?_)
  have e9 := cw_set (wd := wd) (M := M) (M' := mL M i k x) hi (ent_putL hob ht) (fun j hj => ⟨rfl, mRL_ne hj⟩)
  rw [e9] at hP1 hD1
  exact kk r M' h wd p l e R s m args below meth c H1 locs1 cells slots Q ls hC ⟨hF.1, hP1, hD1, hS1, hF.2.2.2.2⟩ hl hr
theorem T_iald {a n : Nat} {j : Int32} (hob : KD[a]? = some (.inr (0, n))) (d : decode (mdC y) pc = .ok (.iaload, 1)) (k : T X emb o y (pc + 1) lv (.int (M.1 a j.toNatClampNeg) :: st) M) : T X emb (gd (ib j n) o) y pc lv (.int j :: .ref a :: st) M := by
  intro r M' h wd p l e R s m args below meth c H locs cells slots Q ls hC hF hl hr
  obtain ⟨hg, h⟩ := gd_some h
  exact va_iald hC.1 hC.2.1 hF.1 hF.2.1 a 0 (by rw [cw_get _ _ (KD_lt hob), ent_int hob]) rfl (ib_in hg) d (k r M' h wd p l e R s m args below meth c H locs cells slots Q ls hC hF hl hr)
theorem T_zald {a n : Nat} {j : Int32} (hob : KD[a]? = some (.inr (2, n))) (d : decode (mdC y) pc = .ok (.baload, 1)) (k : T X emb o y (pc + 1) lv (.int (M.1 a j.toNatClampNeg) :: st) M) : T X emb (gd (ib j n) o) y pc lv (.int j :: .ref a :: st) M := by
  intro r M' h wd p l e R s m args below meth c H locs cells slots Q ls hC hF hl hr
  obtain ⟨hg, h⟩ := gd_some h
  exact va_zald hC.1 hC.2.1 hF.1 hF.2.1 a 2 (by rw [cw_get _ _ (KD_lt hob), ent_bool hob]) rfl (ib_in hg) d (k r M' h wd p l e R s m args below meth c H locs cells slots Q ls hC hF hl hr)
theorem T_lald {a n : Nat} {j : Int32} (hob : KD[a]? = some (.inr (1, n))) (d : decode (mdC y) pc = .ok (.laload, 1)) (k : T X emb o y (pc + 1) lv (.long (M.2 a j.toNatClampNeg) :: st) M) : T X emb (gd (ib j n) o) y pc lv (.int j :: .ref a :: st) M := by
  intro r M' h wd p l e R s m args below meth c H locs cells slots Q ls hC hF hl hr
  obtain ⟨hg, h⟩ := gd_some h
  exact va_lald hC.1 hC.2.1 hF.1 hF.2.1 a 1 (by rw [cw_get _ _ (KD_lt hob), ent_long hob]) rfl (ib_in hg) d (k r M' h wd p l e R s m args below meth c H locs cells slots Q ls hC hF hl hr)
theorem T_alen {a t n : Nat} {v : Int32} (hob : KD[a]? = some (.inr (0, n))) (hv : Int32.ofNat n = v) (d : decode (mdC y) pc = .ok (.arraylength, 1)) (k : T X emb o y (pc + 1) lv (.int v :: st) M) : T X emb o y pc lv (.ref a :: st) M := by
  intro r M' h wd p l e R s m args below meth c H locs cells slots Q ls hC hF hl hr
  exact va_alen hC.1 hC.2.1 hF.1 hF.2.1 a 0 (by rw [cw_get _ _ (KD_lt hob), ent_int hob]) rfl hv d (k r M' h wd p l e R s m args below meth c H locs cells slots Q ls hC hF hl hr)
theorem T_iast {a n : Nat} {j x : Int32} (hob : KD[a]? = some (.inr (0, n))) (d : decode (mdC y) pc = .ok (.iastore, 1)) (k : T X emb o y (pc + 1) lv st (mI M a j.toNatClampNeg x)) : T X emb (gd (ib j n) o) y pc lv (.int x :: .int j :: .ref a :: st) M := by
  intro r M' h wd p l e R s m args below meth c H locs cells slots Q ls hC hF hl hr
  obtain ⟨hg, h⟩ := gd_some h
  have hi := KD_lt hob
  refine va_iast hC.1 hC.2.1 hF.1 hF.2.1 hF.2.2.1 hF.2.2.2.1 a 0 (by rw [cw_get _ _ hi, ent_int hob]) rfl (ib_in hg) d (fun H1 locs1 hP1 hD1 hS1 => ?_)
  have e9 := cw_set (wd := wd) (M := M) (M' := mI M a j.toNatClampNeg x) hi (ent_int hob) (fun j hj => ⟨mR_ne hj, rfl⟩)
  rw [show (mI M a j.toNatClampNeg x).1 a = upd (M.1 a) j.toNatClampNeg x from mR_at] at e9
  rw [e9] at hP1 hD1
  exact k r M' h wd p l e R s m args below meth c H1 locs1 cells slots Q ls hC ⟨hF.1, hP1, hD1, hS1, hF.2.2.2.2⟩ hl hr
theorem T_zast {a n : Nat} {j x : Int32} (hob : KD[a]? = some (.inr (2, n))) (d : decode (mdC y) pc = .ok (.bastore, 1)) (k : T X emb o y (pc + 1) lv st (mI M a j.toNatClampNeg (vp_nar .boolean x))) : T X emb (gd (ib j n) o) y pc lv (.int x :: .int j :: .ref a :: st) M := by
  intro r M' h wd p l e R s m args below meth c H locs cells slots Q ls hC hF hl hr
  obtain ⟨hg, h⟩ := gd_some h
  have hi := KD_lt hob
  refine va_zast hC.1 hC.2.1 hF.1 hF.2.1 hF.2.2.1 hF.2.2.2.1 a 2 (by rw [cw_get _ _ hi, ent_bool hob]) rfl (ib_in hg) d (fun H1 locs1 hP1 hD1 hS1 => ?_)
  have e9 := cw_set (wd := wd) (M := M) (M' := mI M a j.toNatClampNeg (vp_nar .boolean x)) hi (ent_bool hob) (fun j hj => ⟨mR_ne hj, rfl⟩)
  rw [show (mI M a j.toNatClampNeg (vp_nar .boolean x)).1 a = upd (M.1 a) j.toNatClampNeg (vp_nar .boolean x) from mR_at] at e9
  rw [e9] at hP1 hD1
  exact k r M' h wd p l e R s m args below meth c H1 locs1 cells slots Q ls hC ⟨hF.1, hP1, hD1, hS1, hF.2.2.2.2⟩ hl hr
theorem T_last {a n : Nat} {j : Int32} {x : Int64} (hob : KD[a]? = some (.inr (1, n))) (d : decode (mdC y) pc = .ok (.lastore, 1)) (k : T X emb o y (pc + 1) lv st (mL M a j.toNatClampNeg x)) : T X emb (gd (ib j n) o) y pc lv (.long x :: .int j :: .ref a :: st) M := by
  intro r M' h wd p l e R s m args below meth c H locs cells slots Q ls hC hF hl hr
  obtain ⟨hg, h⟩ := gd_some h
  have hi := KD_lt hob
  refine va_last hC.1 hC.2.1 hF.1 hF.2.1 hF.2.2.1 hF.2.2.2.1 a 1 (by rw [cw_get _ _ hi, ent_long hob]) rfl (ib_in hg) d (fun H1 locs1 hP1 hD1 hS1 => ?_)
  have e9 := cw_set (wd := wd) (M := M) (M' := mL M a j.toNatClampNeg x) hi (ent_long hob) (fun j hj => ⟨rfl, mRL_ne hj⟩)
  rw [show (mL M a j.toNatClampNeg x).2 a = vp_updL (M.2 a) j.toNatClampNeg x from mRL_at] at e9
  rw [e9] at hP1 hD1
  exact k r M' h wd p l e R s m args below meth c H1 locs1 cells slots Q ls hC ⟨hF.1, hP1, hD1, hS1, hF.2.2.2.2⟩ hl hr
/-- the script, and the kinds drawn -/
theorem T_sld {j : Int32} (d : decode (mdC y) pc = .ok (.iaload, 1)) (k : T X emb o y (pc + 1) lv (.int (X.2 j.toNatClampNeg) :: st) M) : T X emb (gd (ib j X.1) o) y pc lv (.int j :: .ref 1000 :: st) M := by
  intro r M' h wd p l e R s m args below meth c H locs cells slots Q ls hC hF hl hr
  obtain ⟨hg, h⟩ := gd_some h
  have hX := hF.2.2.2.2.1
  exact va_sld hC.1 hC.2.1 hX.1 (by have := hX.2.1; have := hX.2.2.2.2.2; omega) (fun z => by have := hX.2.1; unfold AA at z; omega) hF.2.2.2.1 (ib_in hg) d (k r M' h wd p l e R s m args below meth c H locs cells slots Q ls hC hF hl hr)
theorem T_slen (d : decode (mdC y) pc = .ok (.arraylength, 1)) (k : T X emb o y (pc + 1) lv (.int (Int32.ofNat X.1) :: st) M) : T X emb o y pc lv (.ref 1000 :: st) M := by
  intro r M' h wd p l e R s m args below meth c H locs cells slots Q ls hC hF hl hr
  have hX := hF.2.2.2.2.1
  exact va_slen hC.1 hC.2.1 hX.1 (by have := hX.2.1; have := hX.2.2.2.2.2; omega) (fun z => by have := hX.2.1; unfold AA at z; omega) hF.2.2.2.1 d (k r M' h wd p l e R s m args below meth c H locs cells slots Q ls hC hF hl hr)
theorem T_dld {j : Int32} (d : decode (mdC y) pc = .ok (.iaload, 1)) (k : T X emb o y (pc + 1) lv (.int (dk j.toNatClampNeg) :: st) M) : T X emb (gd (ib j 8) o) y pc lv (.int j :: .ref 1001 :: st) M := by
  intro r M' h wd p l e R s m args below meth c H locs cells slots Q ls hC hF hl hr
  obtain ⟨hg, h⟩ := gd_some h
  have hX := hF.2.2.2.2.1
  exact va_ti hC.1 hC.2.1 hX.2.2.1 hF.2.2.2.1 (ib_in hg) rfl d (k r M' h wd p l e R s m args below meth c H locs cells slots Q ls hC hF hl hr)
theorem T_gets {idx : Nat} {host : String} (d : decode (mdC y) pc = .ok (.getstatic idx, 3)) (hw : Cond.fieldLinkNest (mdN y).cls idx "BathBaskets" "DRAWN_KINDS" "[I" host ∈ lw_tbl) (k : T X emb o y (pc + 3) lv (.ref 1001 :: st) M) : T X emb o y pc lv st M := by
  intro r M' h wd p l e R s m args below meth c H locs cells slots Q ls hC hF hl hr
  have hX := hF.2.2.2.2.1
  exact va_getsN hC.1 hC.2.1 hX.2.2.2.2.1 hF.2.2.2.1 hC.2.2.2.1 (va_Nw.use rfl (hF.2.2.2.2.2.2 _ _ _ _ _ _ hw)) (fun _ h9 => h9) d (k r M' h wd p l e R s m args below meth c H locs cells slots Q ls hC hF hl hr)
/-- a row copied over another -/
theorem T_copyi {idx a b na nb : Nat} {sp dp n : Int32} (ha : KD[a]? = some (.inr (0, na))) (hb : KD[b]? = some (.inr (0, nb))) (d : decode (mdC y) pc = .ok (.invokestatic idx, 3)) (hlk : Cond.methodLink (mdN y).cls idx arraycopyName ∈ tbG) (hnat : Cond.native arraycopyName ∈ tbG) (hstat : Cond.static arraycopyName ∈ tbG) (hini : Cond.initialized "java/lang/System" ∈ tbG) (h1 : ¬ sp < 0) (h2 : ¬ dp < 0) (h3 : ¬ n < 0) (h4 : sp.toNatClampNeg + n.toNatClampNeg ≤ na) (h5 : dp.toNatClampNeg + n.toNatClampNeg ≤ nb) (hfr : 1 ≤ mdF y) (hlo : (st.map fun v => v.category).sum + (nativeFrameWords "java/lang/System" "arraycopy" 5 + 11) ≤ mdW y)
    (k : T X emb o y (pc + 3) lv st (mR M b (va_cpy (M.1 a) (M.1 b) sp.toNatClampNeg dp.toNatClampNeg n.toNatClampNeg))) : T X emb o y pc lv (.int n :: .int dp :: .ref b :: .int sp :: .ref a :: st) M := by
  intro r M' h wd p l e R s m args below meth c H locs cells slots Q ls hC hF hl hr
  have hia := KD_lt ha
  have hib := KD_lt hb
  refine va_copyi hC.1 hC.2.1 (by rw [hl.1]; exact hC.2.2.1) hC.2.2.2.1 (hC.2.2.2.2.1 _ hlk) (hC.2.2.2.2.1 _ hnat) (hC.2.2.2.2.1 _ hstat) (hC.2.2.2.2.1 _ hini) hF.1 hF.2.1 hF.2.2.1 hF.2.2.2.1 a b 0 0 (by rw [cw_get _ _ hia, ent_int ha]) (by rw [cw_get _ _ hib, ent_int hb]) rfl rfl rfl h1 h2 h3 h4 h5 (fun _ _ => rfl) (Nat.le_trans hfr hC.2.2.2.2.2.1) (Nat.le_trans (by rw [st_sum]; exact hlo) hC.2.2.2.2.2.2.1) d (fun H1 locs1 hP1 hD1 hS1 => ?_)
  have e9 := cw_set (wd := wd) (M := M) (M' := mR M b (va_cpy (M.1 a) (M.1 b) sp.toNatClampNeg dp.toNatClampNeg n.toNatClampNeg)) hib (ent_int hb) (fun j hj => ⟨mR_ne hj, rfl⟩)
  rw [mR_at] at e9
  rw [e9] at hP1 hD1
  exact k r M' h wd p l e R s m args below meth c H1 locs1 cells slots Q ls hC ⟨hF.1, hP1, hD1, hS1, hF.2.2.2.2⟩ hl hr
/-- switches -/
theorem T_tabIn {dflt lo hi : Int} {offs : Array Int} {len : Nat} {x : Int32} {off : Int} (tgt : Nat) (d : decode (mdC y) pc = .ok (.tableswitch dflt lo hi offs, len)) (h1 : ¬ x.toInt < lo) (h2 : ¬ hi < x.toInt) (ho : offs[(x.toInt - lo).toNat]? = some off) (ht : (pc : Int) + off = (tgt : Int)) (k : T X emb o y tgt lv st M) : T X emb o y pc lv (.int x :: st) M := by
  intro r M' h wd p l e R s m args below meth c H locs cells slots Q ls hC hF hl hr
  exact lv_tableIn hC.1 hC.2.1 d h1 h2 ho ht (k r M' h wd p l e R s m args below meth c H locs cells slots Q ls hC hF hl hr)
theorem T_tabOut {dflt lo hi : Int} {offs : Array Int} {len : Nat} {x : Int32} (tgt : Nat) (d : decode (mdC y) pc = .ok (.tableswitch dflt lo hi offs, len)) (h1 : x.toInt < lo ∨ hi < x.toInt) (ht : (pc : Int) + dflt = (tgt : Int)) (k : T X emb o y tgt lv st M) : T X emb o y pc lv (.int x :: st) M := by
  intro r M' h wd p l e R s m args below meth c H locs cells slots Q ls hC hF hl hr
  exact lv_tableOut hC.1 hC.2.1 d h1 ht (k r M' h wd p l e R s m args below meth c H locs cells slots Q ls hC hF hl hr)
theorem T_look {dflt : Int} {ps : Array (Int × Int)} {len : Nat} {x : Int32} {off : Int} (tgt : Nat) (d : decode (mdC y) pc = .ok (.lookupswitch dflt ps, len)) (hp : (ps.toList.zip (ps.toList.drop 1)).all (fun (a, next) => a.1 < next.1) = true) (ho : Op.lookupswitch.offset ps.toList dflt x.toInt = off) (ht : (pc : Int) + off = (tgt : Int)) (k : T X emb o y tgt lv st M) : T X emb o y pc lv (.int x :: st) M := by
  intro r M' h wd p l e R s m args below meth c H locs cells slots Q ls hC hF hl hr
  exact lv_lookup hC.1 hC.2.1 d hp ho ht (k r M' h wd p l e R s m args below meth c H locs cells slots Q ls hC hF hl hr)
theorem tab_out {n : Nat} {lo hi : Int} {x : Int32} (hn : hi = lo + n - 1) (h : ∀ j : Nat, j < n → ¬ x.toInt = lo + j) : x.toInt < lo ∨ hi < x.toInt := by
  by_cases h1 : x.toInt < lo
  · exact Or.inl h1
  · refine Or.inr ?_
    by_cases h2 : hi < x.toInt
    · exact h2
    · exact absurd (show x.toInt = lo + ((x.toInt - lo).toNat : Nat) by omega) (h _ (by omega))
theorem T_iadd {a b : Int32} (d : decode (mdC y) pc = .ok (.iadd, 1)) (k : T X emb o y (pc + 1) lv (.int (a + b) :: st) M) : T X emb o y pc lv (.int b :: .int a :: st) M := by
  intro r M' h wd p l e R s m args below meth c H locs cells slots Q ls hC hF hl hr
  exact lv_iadd hC.1 hC.2.1 d (k r M' h wd p l e R s m args below meth c H locs cells slots Q ls hC hF hl hr)
theorem T_isub {a b : Int32} (d : decode (mdC y) pc = .ok (.isub, 1)) (k : T X emb o y (pc + 1) lv (.int (a - b) :: st) M) : T X emb o y pc lv (.int b :: .int a :: st) M := by
  intro r M' h wd p l e R s m args below meth c H locs cells slots Q ls hC hF hl hr
  exact lv_isub hC.1 hC.2.1 d (k r M' h wd p l e R s m args below meth c H locs cells slots Q ls hC hF hl hr)
theorem T_imul {a b : Int32} (d : decode (mdC y) pc = .ok (.imul, 1)) (k : T X emb o y (pc + 1) lv (.int (a * b) :: st) M) : T X emb o y pc lv (.int b :: .int a :: st) M := by
  intro r M' h wd p l e R s m args below meth c H locs cells slots Q ls hC hF hl hr
  exact lv_imul hC.1 hC.2.1 d (k r M' h wd p l e R s m args below meth c H locs cells slots Q ls hC hF hl hr)
theorem T_iand {a b : Int32} (d : decode (mdC y) pc = .ok (.iand, 1)) (k : T X emb o y (pc + 1) lv (.int (a &&& b) :: st) M) : T X emb o y pc lv (.int b :: .int a :: st) M := by
  intro r M' h wd p l e R s m args below meth c H locs cells slots Q ls hC hF hl hr
  exact lv_iand hC.1 hC.2.1 d (k r M' h wd p l e R s m args below meth c H locs cells slots Q ls hC hF hl hr)
theorem T_ior {a b : Int32} (d : decode (mdC y) pc = .ok (.ior, 1)) (k : T X emb o y (pc + 1) lv (.int (a ||| b) :: st) M) : T X emb o y pc lv (.int b :: .int a :: st) M := by
  intro r M' h wd p l e R s m args below meth c H locs cells slots Q ls hC hF hl hr
  exact lv_ior hC.1 hC.2.1 d (k r M' h wd p l e R s m args below meth c H locs cells slots Q ls hC hF hl hr)
theorem T_ixor {a b : Int32} (d : decode (mdC y) pc = .ok (.ixor, 1)) (k : T X emb o y (pc + 1) lv (.int (a ^^^ b) :: st) M) : T X emb o y pc lv (.int b :: .int a :: st) M := by
  intro r M' h wd p l e R s m args below meth c H locs cells slots Q ls hC hF hl hr
  exact lv_ixor hC.1 hC.2.1 d (k r M' h wd p l e R s m args below meth c H locs cells slots Q ls hC hF hl hr)
theorem T_ishl {a b : Int32} (d : decode (mdC y) pc = .ok (.ishl, 1)) (k : T X emb o y (pc + 1) lv (.int (a <<< (b &&& 31)) :: st) M) : T X emb o y pc lv (.int b :: .int a :: st) M := by
  intro r M' h wd p l e R s m args below meth c H locs cells slots Q ls hC hF hl hr
  exact lv_ishl hC.1 hC.2.1 d (k r M' h wd p l e R s m args below meth c H locs cells slots Q ls hC hF hl hr)
theorem T_ishr {a b : Int32} (d : decode (mdC y) pc = .ok (.ishr, 1)) (k : T X emb o y (pc + 1) lv (.int (a >>> (b &&& 31)) :: st) M) : T X emb o y pc lv (.int b :: .int a :: st) M := by
  intro r M' h wd p l e R s m args below meth c H locs cells slots Q ls hC hF hl hr
  exact lv_ishr hC.1 hC.2.1 d (k r M' h wd p l e R s m args below meth c H locs cells slots Q ls hC hF hl hr)
theorem T_ladd {a b : Int64} (d : decode (mdC y) pc = .ok (.ladd, 1)) (k : T X emb o y (pc + 1) lv (.long (a + b) :: st) M) : T X emb o y pc lv (.long b :: .long a :: st) M := by
  intro r M' h wd p l e R s m args below meth c H locs cells slots Q ls hC hF hl hr
  exact lv_ladd hC.1 hC.2.1 d (k r M' h wd p l e R s m args below meth c H locs cells slots Q ls hC hF hl hr)
theorem T_lsub {a b : Int64} (d : decode (mdC y) pc = .ok (.lsub, 1)) (k : T X emb o y (pc + 1) lv (.long (a - b) :: st) M) : T X emb o y pc lv (.long b :: .long a :: st) M := by
  intro r M' h wd p l e R s m args below meth c H locs cells slots Q ls hC hF hl hr
  exact lv_lsub hC.1 hC.2.1 d (k r M' h wd p l e R s m args below meth c H locs cells slots Q ls hC hF hl hr)
theorem T_lmul {a b : Int64} (d : decode (mdC y) pc = .ok (.lmul, 1)) (k : T X emb o y (pc + 1) lv (.long (a * b) :: st) M) : T X emb o y pc lv (.long b :: .long a :: st) M := by
  intro r M' h wd p l e R s m args below meth c H locs cells slots Q ls hC hF hl hr
  exact lv_lmul hC.1 hC.2.1 d (k r M' h wd p l e R s m args below meth c H locs cells slots Q ls hC hF hl hr)
theorem T_iushr {a b : Int32} (d : decode (mdC y) pc = .ok (.iushr, 1)) (k : T X emb o y (pc + 1) lv (.int ((a.toUInt32 >>> (b.toUInt32 &&& Int32.toUInt32 31)).toInt32) :: st) M) : T X emb o y pc lv (.int b :: .int a :: st) M := by
  intro r M' h wd p l e R s m args below meth c H locs cells slots Q ls hC hF hl hr
  exact lv_iushr hC.1 hC.2.1 d rfl (k r M' h wd p l e R s m args below meth c H locs cells slots Q ls hC hF hl hr)
theorem T_ineg {a : Int32} (d : decode (mdC y) pc = .ok (.ineg, 1)) (k : T X emb o y (pc + 1) lv (.int (-a) :: st) M) : T X emb o y pc lv (.int a :: st) M := by
  intro r M' h wd p l e R s m args below meth c H locs cells slots Q ls hC hF hl hr
  exact lv_ineg hC.1 hC.2.1 d (k r M' h wd p l e R s m args below meth c H locs cells slots Q ls hC hF hl hr)
theorem T_i2l {a : Int32} (d : decode (mdC y) pc = .ok (.i2l, 1)) (k : T X emb o y (pc + 1) lv (.long a.toInt64 :: st) M) : T X emb o y pc lv (.int a :: st) M := by
  intro r M' h wd p l e R s m args below meth c H locs cells slots Q ls hC hF hl hr
  exact lv_i2l hC.1 hC.2.1 d rfl (k r M' h wd p l e R s m args below meth c H locs cells slots Q ls hC hF hl hr)
theorem T_l2i {a : Int64} (d : decode (mdC y) pc = .ok (.l2i, 1)) (k : T X emb o y (pc + 1) lv (.int a.toInt32 :: st) M) : T X emb o y pc lv (.long a :: st) M := by
  intro r M' h wd p l e R s m args below meth c H locs cells slots Q ls hC hF hl hr
  exact lv_l2i hC.1 hC.2.1 d rfl (k r M' h wd p l e R s m args below meth c H locs cells slots Q ls hC hF hl hr)
theorem T_lcmp {a b : Int64} (d : decode (mdC y) pc = .ok (.lcmp, 1)) (k : T X emb o y (pc + 1) lv (.int (lg_cmp a b) :: st) M) : T X emb o y pc lv (.long b :: .long a :: st) M := by
  intro r M' h wd p l e R s m args below meth c H locs cells slots Q ls hC hF hl hr
  exact W.lcmp hC.1 hC.2.1 d (k r M' h wd p l e R s m args below meth c H locs cells slots Q ls hC hF hl hr)
theorem T_iconst {n : Int} {v : Int32} (hv : Int32.ofInt n = v) (d : decode (mdC y) pc = .ok (.iconst n, 1)) (k : T X emb o y (pc + 1) lv (.int v :: st) M) : T X emb o y pc lv (st) M := by
  intro r M' h wd p l e R s m args below meth c H locs cells slots Q ls hC hF hl hr
  exact lv_iconst hC.1 hC.2.1 d hv (k r M' h wd p l e R s m args below meth c H locs cells slots Q ls hC hF hl hr)
theorem T_bipush {n : Int} {v : Int32} (hv : (Int8.ofInt n).toInt32 = v) (d : decode (mdC y) pc = .ok (.bipush n, 2)) (k : T X emb o y (pc + 2) lv (.int v :: st) M) : T X emb o y pc lv (st) M := by
  intro r M' h wd p l e R s m args below meth c H locs cells slots Q ls hC hF hl hr
  exact lv_bipush hC.1 hC.2.1 d hv (k r M' h wd p l e R s m args below meth c H locs cells slots Q ls hC hF hl hr)
theorem T_sipush {n : Int} {v : Int32} (hv : (Int16.ofInt n).toInt32 = v) (d : decode (mdC y) pc = .ok (.sipush n, 3)) (k : T X emb o y (pc + 3) lv (.int v :: st) M) : T X emb o y pc lv (st) M := by
  intro r M' h wd p l e R s m args below meth c H locs cells slots Q ls hC hF hl hr
  exact lv_sipush hC.1 hC.2.1 d hv (k r M' h wd p l e R s m args below meth c H locs cells slots Q ls hC hF hl hr)
theorem T_lconst {n : Fin 2} {v : Int64} (hv : Int64.ofNat (n : Nat) = v) (d : decode (mdC y) pc = .ok (.lconst n, 1)) (k : T X emb o y (pc + 1) lv (.long v :: st) M) : T X emb o y pc lv (st) M := by
  intro r M' h wd p l e R s m args below meth c H locs cells slots Q ls hC hF hl hr
  exact lv_lconst hC.1 hC.2.1 d hv (k r M' h wd p l e R s m args below meth c H locs cells slots Q ls hC hF hl hr)
theorem T_dup {v : Value} (hv : (v.category == 1) = true) (d : decode (mdC y) pc = .ok (.dup, 1)) (k : T X emb o y (pc + 1) lv (v :: v :: st) M) : T X emb o y pc lv (v :: st) M := by
  intro r M' h wd p l e R s m args below meth c H locs cells slots Q ls hC hF hl hr
  exact lv_dup hC.1 hC.2.1 d (rv_cat1 hv) (k r M' h wd p l e R s m args below meth c H locs cells slots Q ls hC hF hl hr)
theorem T_pop {v : Value} (hv : (v.category == 1) = true) (d : decode (mdC y) pc = .ok (.pop, 1)) (k : T X emb o y (pc + 1) lv (st) M) : T X emb o y pc lv (v :: st) M := by
  intro r M' h wd p l e R s m args below meth c H locs cells slots Q ls hC hF hl hr
  exact lv_pop hC.1 hC.2.1 d (rv_cat1 hv) (k r M' h wd p l e R s m args below meth c H locs cells slots Q ls hC hF hl hr)
theorem T_dup2 {v u : Value} (hv : (v.category == 1) = true) (hu : (u.category == 1) = true) (d : decode (mdC y) pc = .ok (.dup2, 1)) (k : T X emb o y (pc + 1) lv (v :: u :: v :: u :: st) M) : T X emb o y pc lv (v :: u :: st) M := by
  intro r M' h wd p l e R s m args below meth c H locs cells slots Q ls hC hF hl hr
  exact lv_dup2_11 hC.1 hC.2.1 d (rv_cat1 hv) (rv_cat1 hu) (k r M' h wd p l e R s m args below meth c H locs cells slots Q ls hC hF hl hr)
theorem T_dup_x1 {v u : Value} (hv : (v.category == 1) = true) (hu : (u.category == 1) = true) (d : decode (mdC y) pc = .ok (.dup_x1, 1)) (k : T X emb o y (pc + 1) lv (v :: u :: v :: st) M) : T X emb o y pc lv (v :: u :: st) M := by
  intro r M' h wd p l e R s m args below meth c H locs cells slots Q ls hC hF hl hr
  exact lv_dup_x1 hC.1 hC.2.1 d (rv_cat1 hv) (rv_cat1 hu) (k r M' h wd p l e R s m args below meth c H locs cells slots Q ls hC hF hl hr)
theorem T_iload_n (q : Nat) {k : Fin 4} {i : Nat} {x : Int32} (d : decode (mdC y) pc = .ok (.iload_n k, 1)) (hi : (k : Nat) = i) (hq : lv[q]? = some (i, .int x)) (kk : T X emb o y (pc + 1) lv (.int x :: st) M) : T X emb o y pc lv st M := by
  intro r M' h wd p l e R s m args below meth c H locs cells slots Q ls hC hF hl hr
  exact lv_iload_n hC.1 hC.2.1 d hi (lv_at hl q (rq_get hq)) (kk r M' h wd p l e R s m args below meth c H locs cells slots Q ls hC hF hl hr)
theorem T_iload (q : Nat) {i : Nat} {x : Int32} (d : decode (mdC y) pc = .ok (.iload i, 2)) (hq : lv[q]? = some (i, .int x)) (kk : T X emb o y (pc + 2) lv (.int x :: st) M) : T X emb o y pc lv st M := by
  intro r M' h wd p l e R s m args below meth c H locs cells slots Q ls hC hF hl hr
  exact lv_iload hC.1 hC.2.1 d (lv_at hl q (rq_get hq)) (kk r M' h wd p l e R s m args below meth c H locs cells slots Q ls hC hF hl hr)
theorem T_istore_n (lv' : List (Nat × Value)) {k : Fin 4} {i : Nat} {x : Int32} (d : decode (mdC y) pc = .ok (.istore_n k, 1)) (hi : (k : Nat) = i) (hn : i < mdL y) (hq : (i, .int x) :: lv.filter (fun q => !(q.1 == i) && !(q.1 + 1 == i && q.2.category == 2)) = lv') (kk : T X emb o y (pc + 1) lv' st M) : T X emb o y pc lv (.int x :: st) M := by
  intro r M' h wd p l e R s m args below meth c H locs cells slots Q ls hC hF hl hr
  exact lv_istore_n hC.1 hC.2.1 d hi hl hn (rq_st hq) (fun ls' hl' => kk r M' h wd p l e R s m args below meth c H locs cells slots Q ls' hC hF hl' hr)
theorem T_istore (lv' : List (Nat × Value)) {i : Nat} {x : Int32} (d : decode (mdC y) pc = .ok (.istore i, 2)) (hn : i < mdL y) (hq : (i, .int x) :: lv.filter (fun q => !(q.1 == i) && !(q.1 + 1 == i && q.2.category == 2)) = lv') (kk : T X emb o y (pc + 2) lv' st M) : T X emb o y pc lv (.int x :: st) M := by
  intro r M' h wd p l e R s m args below meth c H locs cells slots Q ls hC hF hl hr
  exact lv_istore hC.1 hC.2.1 d hl hn (rq_st hq) (fun ls' hl' => kk r M' h wd p l e R s m args below meth c H locs cells slots Q ls' hC hF hl' hr)
theorem T_lload_n (q : Nat) {k : Fin 4} {i : Nat} {x : Int64} (d : decode (mdC y) pc = .ok (.lload_n k, 1)) (hi : (k : Nat) = i) (hq : lv[q]? = some (i, .long x)) (kk : T X emb o y (pc + 1) lv (.long x :: st) M) : T X emb o y pc lv st M := by
  intro r M' h wd p l e R s m args below meth c H locs cells slots Q ls hC hF hl hr
  exact lv_lload_n hC.1 hC.2.1 d hi (lv_at hl q (rq_get hq)) (kk r M' h wd p l e R s m args below meth c H locs cells slots Q ls hC hF hl hr)
theorem T_lload (q : Nat) {i : Nat} {x : Int64} (d : decode (mdC y) pc = .ok (.lload i, 2)) (hq : lv[q]? = some (i, .long x)) (kk : T X emb o y (pc + 2) lv (.long x :: st) M) : T X emb o y pc lv st M := by
  intro r M' h wd p l e R s m args below meth c H locs cells slots Q ls hC hF hl hr
  exact lv_lload hC.1 hC.2.1 d (lv_at hl q (rq_get hq)) (kk r M' h wd p l e R s m args below meth c H locs cells slots Q ls hC hF hl hr)
theorem T_lstore_n (lv' : List (Nat × Value)) {k : Fin 4} {i : Nat} {x : Int64} (d : decode (mdC y) pc = .ok (.lstore_n k, 1)) (hi : (k : Nat) = i) (hn : i + 1 < mdL y) (hq : (i, .long x) :: lv.filter (fun q => !(q.1 == i) && (!(q.1 == i + 1) && !(q.1 + 1 == i && q.2.category == 2))) = lv') (kk : T X emb o y (pc + 1) lv' st M) : T X emb o y pc lv (.long x :: st) M := by
  intro r M' h wd p l e R s m args below meth c H locs cells slots Q ls hC hF hl hr
  exact lv_lstore_n hC.1 hC.2.1 d hi hl hn (rq_stl hq) (fun ls' hl' => kk r M' h wd p l e R s m args below meth c H locs cells slots Q ls' hC hF hl' hr)
theorem T_lstore (lv' : List (Nat × Value)) {i : Nat} {x : Int64} (d : decode (mdC y) pc = .ok (.lstore i, 2)) (hn : i + 1 < mdL y) (hq : (i, .long x) :: lv.filter (fun q => !(q.1 == i) && (!(q.1 == i + 1) && !(q.1 + 1 == i && q.2.category == 2))) = lv') (kk : T X emb o y (pc + 2) lv' st M) : T X emb o y pc lv (.long x :: st) M := by
  intro r M' h wd p l e R s m args below meth c H locs cells slots Q ls hC hF hl hr
  exact lv_lstore hC.1 hC.2.1 d hl hn (rq_stl hq) (fun ls' hl' => kk r M' h wd p l e R s m args below meth c H locs cells slots Q ls' hC hF hl' hr)
theorem T_aload_n (q : Nat) {k : Fin 4} {i : Nat} {x : Nat} (d : decode (mdC y) pc = .ok (.aload_n k, 1)) (hi : (k : Nat) = i) (hq : lv[q]? = some (i, .ref x)) (kk : T X emb o y (pc + 1) lv (.ref x :: st) M) : T X emb o y pc lv st M := by
  intro r M' h wd p l e R s m args below meth c H locs cells slots Q ls hC hF hl hr
  exact lv_aload_n hC.1 hC.2.1 d hi (lv_at hl q (rq_get hq)) (kk r M' h wd p l e R s m args below meth c H locs cells slots Q ls hC hF hl hr)
theorem T_aload (q : Nat) {i : Nat} {x : Nat} (d : decode (mdC y) pc = .ok (.aload i, 2)) (hq : lv[q]? = some (i, .ref x)) (kk : T X emb o y (pc + 2) lv (.ref x :: st) M) : T X emb o y pc lv st M := by
  intro r M' h wd p l e R s m args below meth c H locs cells slots Q ls hC hF hl hr
  exact lv_aload hC.1 hC.2.1 d (lv_at hl q (rq_get hq)) (kk r M' h wd p l e R s m args below meth c H locs cells slots Q ls hC hF hl hr)
theorem T_astore_n (lv' : List (Nat × Value)) {k : Fin 4} {i : Nat} {x : Nat} (d : decode (mdC y) pc = .ok (.astore_n k, 1)) (hi : (k : Nat) = i) (hn : i < mdL y) (hq : (i, .ref x) :: lv.filter (fun q => !(q.1 == i) && !(q.1 + 1 == i && q.2.category == 2)) = lv') (kk : T X emb o y (pc + 1) lv' st M) : T X emb o y pc lv (.ref x :: st) M := by
  intro r M' h wd p l e R s m args below meth c H locs cells slots Q ls hC hF hl hr
  exact lv_astore_n hC.1 hC.2.1 d hi hl hn (rq_st hq) (fun ls' hl' => kk r M' h wd p l e R s m args below meth c H locs cells slots Q ls' hC hF hl' hr)
theorem T_astore (lv' : List (Nat × Value)) {i : Nat} {x : Nat} (d : decode (mdC y) pc = .ok (.astore i, 2)) (hn : i < mdL y) (hq : (i, .ref x) :: lv.filter (fun q => !(q.1 == i) && !(q.1 + 1 == i && q.2.category == 2)) = lv') (kk : T X emb o y (pc + 2) lv' st M) : T X emb o y pc lv (.ref x :: st) M := by
  intro r M' h wd p l e R s m args below meth c H locs cells slots Q ls hC hF hl hr
  exact lv_astore hC.1 hC.2.1 d hl hn (rq_st hq) (fun ls' hl' => kk r M' h wd p l e R s m args below meth c H locs cells slots Q ls' hC hF hl' hr)
theorem T_iinc (q : Nat) (lv' : List (Nat × Value)) {i : Nat} {n : Int} {x v : Int32} (d : decode (mdC y) pc = .ok (.iinc i n, 3)) (hq : lv[q]? = some (i, .int x)) (hv : Int32.ofInt n = v) (hn : i < mdL y) (hl' : (i, .int (x + v)) :: lv.filter (fun q => !(q.1 == i) && !(q.1 + 1 == i && q.2.category == 2)) = lv') (kk : T X emb o y (pc + 3) lv' st M) : T X emb o y pc lv st M := by
  intro r M' h wd p l e R s m args below meth c H locs cells slots Q ls hC hF hl hr
  exact lv_iinc hC.1 hC.2.1 d hl (rq_get hq) (by rw [hv]) hn (rq_st hl') (fun ls' hl' => kk r M' h wd p l e R s m args below meth c H locs cells slots Q ls' hC hF hl' hr)
theorem T_if_eq {x : Int32} {off : Int} (tgt : Nat) (d : decode (mdC y) pc = .ok (.ifCond .eq off, 3)) (ht : (pc : Int) + off = (tgt : Int)) (k1 : T X emb o y (tgt) lv st M) (k2 : T X emb o2 y (pc + 3) lv st M) : T X emb (if x = 0 then o else o2) y pc lv (.int x :: st) M := by
  intro r M' h wd p l e R s m args below meth c H locs cells slots Q ls hC hF hl hr
  exact lv_if_eq hC.1 hC.2.1 d ht (fun hc => k1 r M' (by rw [if_pos hc] at h; exact h) wd p l e R s m args below meth c H locs cells slots Q ls hC hF hl hr) (fun hc => k2 r M' (by rw [if_neg hc] at h; exact h) wd p l e R s m args below meth c H locs cells slots Q ls hC hF hl hr)
theorem T_if_ne {x : Int32} {off : Int} (tgt : Nat) (d : decode (mdC y) pc = .ok (.ifCond .ne off, 3)) (ht : (pc : Int) + off = (tgt : Int)) (k1 : T X emb o y (pc + 3) lv st M) (k2 : T X emb o2 y (tgt) lv st M) : T X emb (if x = 0 then o else o2) y pc lv (.int x :: st) M := by
  intro r M' h wd p l e R s m args below meth c H locs cells slots Q ls hC hF hl hr
  exact lv_if_ne hC.1 hC.2.1 d ht (fun hc => k2 r M' (by rw [if_neg hc] at h; exact h) wd p l e R s m args below meth c H locs cells slots Q ls hC hF hl hr) (fun hc => k1 r M' (by rw [if_pos hc] at h; exact h) wd p l e R s m args below meth c H locs cells slots Q ls hC hF hl hr)
theorem T_if_lt {x : Int32} {off : Int} (tgt : Nat) (d : decode (mdC y) pc = .ok (.ifCond .lt off, 3)) (ht : (pc : Int) + off = (tgt : Int)) (k1 : T X emb o y (tgt) lv st M) (k2 : T X emb o2 y (pc + 3) lv st M) : T X emb (if x < 0 then o else o2) y pc lv (.int x :: st) M := by
  intro r M' h wd p l e R s m args below meth c H locs cells slots Q ls hC hF hl hr
  exact lv_if_lt hC.1 hC.2.1 d ht (fun hc => k1 r M' (by rw [if_pos hc] at h; exact h) wd p l e R s m args below meth c H locs cells slots Q ls hC hF hl hr) (fun hc => k2 r M' (by rw [if_neg hc] at h; exact h) wd p l e R s m args below meth c H locs cells slots Q ls hC hF hl hr)
theorem T_if_ge {x : Int32} {off : Int} (tgt : Nat) (d : decode (mdC y) pc = .ok (.ifCond .ge off, 3)) (ht : (pc : Int) + off = (tgt : Int)) (k1 : T X emb o y (tgt) lv st M) (k2 : T X emb o2 y (pc + 3) lv st M) : T X emb (if 0 ≤ x then o else o2) y pc lv (.int x :: st) M := by
  intro r M' h wd p l e R s m args below meth c H locs cells slots Q ls hC hF hl hr
  exact lv_if_ge hC.1 hC.2.1 d ht (fun hc => k1 r M' (by rw [if_pos hc] at h; exact h) wd p l e R s m args below meth c H locs cells slots Q ls hC hF hl hr) (fun hc => k2 r M' (by rw [if_neg hc] at h; exact h) wd p l e R s m args below meth c H locs cells slots Q ls hC hF hl hr)
theorem T_if_gt {x : Int32} {off : Int} (tgt : Nat) (d : decode (mdC y) pc = .ok (.ifCond .gt off, 3)) (ht : (pc : Int) + off = (tgt : Int)) (k1 : T X emb o y (tgt) lv st M) (k2 : T X emb o2 y (pc + 3) lv st M) : T X emb (if 0 < x then o else o2) y pc lv (.int x :: st) M := by
  intro r M' h wd p l e R s m args below meth c H locs cells slots Q ls hC hF hl hr
  exact lv_if_gt hC.1 hC.2.1 d ht (fun hc => k1 r M' (by rw [if_pos hc] at h; exact h) wd p l e R s m args below meth c H locs cells slots Q ls hC hF hl hr) (fun hc => k2 r M' (by rw [if_neg hc] at h; exact h) wd p l e R s m args below meth c H locs cells slots Q ls hC hF hl hr)
theorem T_if_le {x : Int32} {off : Int} (tgt : Nat) (d : decode (mdC y) pc = .ok (.ifCond .le off, 3)) (ht : (pc : Int) + off = (tgt : Int)) (k1 : T X emb o y (tgt) lv st M) (k2 : T X emb o2 y (pc + 3) lv st M) : T X emb (if x ≤ 0 then o else o2) y pc lv (.int x :: st) M := by
  intro r M' h wd p l e R s m args below meth c H locs cells slots Q ls hC hF hl hr
  exact lv_if_le hC.1 hC.2.1 d ht (fun hc => k1 r M' (by rw [if_pos hc] at h; exact h) wd p l e R s m args below meth c H locs cells slots Q ls hC hF hl hr) (fun hc => k2 r M' (by rw [if_neg hc] at h; exact h) wd p l e R s m args below meth c H locs cells slots Q ls hC hF hl hr)
theorem T_icmp_eq {x z : Int32} {off : Int} (tgt : Nat) (d : decode (mdC y) pc = .ok (.if_icmp .eq off, 3)) (ht : (pc : Int) + off = (tgt : Int)) (k1 : T X emb o y (tgt) lv st M) (k2 : T X emb o2 y (pc + 3) lv st M) : T X emb (if x = z then o else o2) y pc lv (.int z :: .int x :: st) M := by
  intro r M' h wd p l e R s m args below meth c H locs cells slots Q ls hC hF hl hr
  exact lv_icmp_eq hC.1 hC.2.1 d ht (fun hc => k1 r M' (by rw [if_pos hc] at h; exact h) wd p l e R s m args below meth c H locs cells slots Q ls hC hF hl hr) (fun hc => k2 r M' (by rw [if_neg hc] at h; exact h) wd p l e R s m args below meth c H locs cells slots Q ls hC hF hl hr)
theorem T_icmp_ne {x z : Int32} {off : Int} (tgt : Nat) (d : decode (mdC y) pc = .ok (.if_icmp .ne off, 3)) (ht : (pc : Int) + off = (tgt : Int)) (k1 : T X emb o y (pc + 3) lv st M) (k2 : T X emb o2 y (tgt) lv st M) : T X emb (if x = z then o else o2) y pc lv (.int z :: .int x :: st) M := by
  intro r M' h wd p l e R s m args below meth c H locs cells slots Q ls hC hF hl hr
  exact lv_icmp_ne hC.1 hC.2.1 d ht (fun hc => k2 r M' (by rw [if_neg hc] at h; exact h) wd p l e R s m args below meth c H locs cells slots Q ls hC hF hl hr) (fun hc => k1 r M' (by rw [if_pos hc] at h; exact h) wd p l e R s m args below meth c H locs cells slots Q ls hC hF hl hr)
theorem T_icmp_lt {x z : Int32} {off : Int} (tgt : Nat) (d : decode (mdC y) pc = .ok (.if_icmp .lt off, 3)) (ht : (pc : Int) + off = (tgt : Int)) (k1 : T X emb o y (tgt) lv st M) (k2 : T X emb o2 y (pc + 3) lv st M) : T X emb (if x < z then o else o2) y pc lv (.int z :: .int x :: st) M := by
  intro r M' h wd p l e R s m args below meth c H locs cells slots Q ls hC hF hl hr
  exact lv_icmp_lt hC.1 hC.2.1 d ht (fun hc => k1 r M' (by rw [if_pos hc] at h; exact h) wd p l e R s m args below meth c H locs cells slots Q ls hC hF hl hr) (fun hc => k2 r M' (by rw [if_neg hc] at h; exact h) wd p l e R s m args below meth c H locs cells slots Q ls hC hF hl hr)
theorem T_icmp_ge {x z : Int32} {off : Int} (tgt : Nat) (d : decode (mdC y) pc = .ok (.if_icmp .ge off, 3)) (ht : (pc : Int) + off = (tgt : Int)) (k1 : T X emb o y (tgt) lv st M) (k2 : T X emb o2 y (pc + 3) lv st M) : T X emb (if z ≤ x then o else o2) y pc lv (.int z :: .int x :: st) M := by
  intro r M' h wd p l e R s m args below meth c H locs cells slots Q ls hC hF hl hr
  exact lv_icmp_ge hC.1 hC.2.1 d ht (fun hc => k1 r M' (by rw [if_pos hc] at h; exact h) wd p l e R s m args below meth c H locs cells slots Q ls hC hF hl hr) (fun hc => k2 r M' (by rw [if_neg hc] at h; exact h) wd p l e R s m args below meth c H locs cells slots Q ls hC hF hl hr)
theorem T_icmp_gt {x z : Int32} {off : Int} (tgt : Nat) (d : decode (mdC y) pc = .ok (.if_icmp .gt off, 3)) (ht : (pc : Int) + off = (tgt : Int)) (k1 : T X emb o y (tgt) lv st M) (k2 : T X emb o2 y (pc + 3) lv st M) : T X emb (if z < x then o else o2) y pc lv (.int z :: .int x :: st) M := by
  intro r M' h wd p l e R s m args below meth c H locs cells slots Q ls hC hF hl hr
  exact lv_icmp_gt hC.1 hC.2.1 d ht (fun hc => k1 r M' (by rw [if_pos hc] at h; exact h) wd p l e R s m args below meth c H locs cells slots Q ls hC hF hl hr) (fun hc => k2 r M' (by rw [if_neg hc] at h; exact h) wd p l e R s m args below meth c H locs cells slots Q ls hC hF hl hr)
theorem T_icmp_le {x z : Int32} {off : Int} (tgt : Nat) (d : decode (mdC y) pc = .ok (.if_icmp .le off, 3)) (ht : (pc : Int) + off = (tgt : Int)) (k1 : T X emb o y (tgt) lv st M) (k2 : T X emb o2 y (pc + 3) lv st M) : T X emb (if x ≤ z then o else o2) y pc lv (.int z :: .int x :: st) M := by
  intro r M' h wd p l e R s m args below meth c H locs cells slots Q ls hC hF hl hr
  exact lv_icmp_le hC.1 hC.2.1 d ht (fun hc => k1 r M' (by rw [if_pos hc] at h; exact h) wd p l e R s m args below meth c H locs cells slots Q ls hC hF hl hr) (fun hc => k2 r M' (by rw [if_neg hc] at h; exact h) wd p l e R s m args below meth c H locs cells slots Q ls hC hF hl hr)
theorem T_goto {off : Int} (tgt : Nat) (d : decode (mdC y) pc = .ok (.goto off, 3)) (ht : (pc : Int) + off = (tgt : Int)) (k : T X emb o y tgt lv st M) : T X emb o y pc lv st M := by
  intro r M' h wd p l e R s m args below meth c H locs cells slots Q ls hC hF hl hr
  exact lv_goto hC.1 hC.2.1 d ht (k r M' h wd p l e R s m args below meth c H locs cells slots Q ls hC hF hl hr)
theorem T_idiv {a b : Int32} (d : decode (mdC y) pc = .ok (.idiv, 1)) (k : T X emb o y (pc + 1) lv (.int (a / b) :: st) M) : T X emb (gd (!(b == 0)) o) y pc lv (.int b :: .int a :: st) M := by
  intro r M' h wd p l e R s m args below meth c H locs cells slots Q ls hC hF hl hr
  obtain ⟨hg, h⟩ := gd_some h
  exact lv_idiv hC.1 hC.2.1 d (by simpa using hg) (k r M' h wd p l e R s m args below meth c H locs cells slots Q ls hC hF hl hr)
theorem T_irem {a b : Int32} (d : decode (mdC y) pc = .ok (.irem, 1)) (k : T X emb o y (pc + 1) lv (.int (a - a / b * b) :: st) M) : T X emb (gd (!(b == 0)) o) y pc lv (.int b :: .int a :: st) M := by
  intro r M' h wd p l e R s m args below meth c H locs cells slots Q ls hC hF hl hr
  obtain ⟨hg, h⟩ := gd_some h
  exact lv_irem hC.1 hC.2.1 d (by simpa using hg) (k r M' h wd p l e R s m args below meth c H locs cells slots Q ls hC hF hl hr)
theorem T_ldiv {a b : Int64} (d : decode (mdC y) pc = .ok (.ldiv, 1)) (k : T X emb o y (pc + 1) lv (.long (a / b) :: st) M) : T X emb (gd (!(b == 0)) o) y pc lv (.long b :: .long a :: st) M := by
  intro r M' h wd p l e R s m args below meth c H locs cells slots Q ls hC hF hl hr
  obtain ⟨hg, h⟩ := gd_some h
  exact lv_ldiv hC.1 hC.2.1 d (by simpa using hg) (k r M' h wd p l e R s m args below meth c H locs cells slots Q ls hC hF hl hr)
theorem T_lrem {a b : Int64} (d : decode (mdC y) pc = .ok (.lrem, 1)) (k : T X emb o y (pc + 1) lv (.long (a - a / b * b) :: st) M) : T X emb (gd (!(b == 0)) o) y pc lv (.long b :: .long a :: st) M := by
  intro r M' h wd p l e R s m args below meth c H locs cells slots Q ls hC hF hl hr
  obtain ⟨hg, h⟩ := gd_some h
  exact lv_lrem hC.1 hC.2.1 d (by simpa using hg) (k r M' h wd p l e R s m args below meth c H locs cells slots Q ls hC hF hl hr)
end ROWS
