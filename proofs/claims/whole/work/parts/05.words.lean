def FU : Nat := 2000
def md_L_law : MD := (x, code, 4, ret, 9, 316)
theorem kd_0 : KD[0]? = some (.inl 11) := rfl
theorem kd_45 : KD[45]? = some (.inl 12) := rfl
theorem FOk_0 : FOk 0 (RX0, TX0, 8) := ⟨rfl, tb_in [100, 102, 104, 106, 108, 110, 112, 114] (by decide +kernel) (by decide +kernel), rfl, ⟨tyX0, tyX0_ok⟩, nmX0⟩
theorem FOk_1 : FOk 1 (RX1, TX1, 3) := ⟨rfl, tb_in [223, 225, 227] (by decide +kernel) (by decide +kernel), rfl, ⟨tyX1, tyX1_ok⟩, nmX1⟩
theorem FOk_2 : FOk 2 (RX2, TX2, 7) := ⟨rfl, tb_in [197, 199, 201, 203, 205, 207, 209] (by decide +kernel) (by decide +kernel), rfl, ⟨tyX2, tyX2_ok⟩, nmX2⟩
theorem FOk_3 : FOk 3 (RX3, TX3, 3) := ⟨rfl, tb_in [259, 261, 263] (by decide +kernel) (by decide +kernel), rfl, ⟨tyX3, tyX3_ok⟩, nmX3⟩
theorem FOk_4 : FOk 4 (RX4, TX4, 3) := ⟨rfl, tb_in [168, 170, 172] (by decide +kernel) (by decide +kernel), rfl, ⟨tyX4, tyX4_ok⟩, nmX4⟩
theorem FOk_5 : FOk 5 (RX5, TX5, 5) := ⟨rfl, tb_in [281, 283, 285, 287, 289] (by decide +kernel) (by decide +kernel), rfl, ⟨tyX5, tyX5_ok⟩, nmX5⟩
theorem FOk_6 : FOk 6 (RX6, TX6, 3) := ⟨rfl, tb_in [241, 243, 245] (by decide +kernel) (by decide +kernel), rfl, ⟨tyX6, tyX6_ok⟩, nmX6⟩
theorem FOk_7 : FOk 7 (RX7, TX7, 3) := ⟨rfl, tb_in [131, 133, 135] (by decide +kernel) (by decide +kernel), rfl, ⟨tyX7, tyX7_ok⟩, nmX7⟩
theorem FOk_8 : FOk 8 (RX8, TX8, 2) := ⟨rfl, tb_in [148, 150] (by decide +kernel) (by decide +kernel), rfl, ⟨tyX8, tyX8_ok⟩, nmX8⟩
theorem FOk_9 : FOk 9 (RX9, TX9, 2) := ⟨rfl, tb_in [311, 313] (by decide +kernel) (by decide +kernel), rfl, ⟨tyX9, tyX9_ok⟩, nmX9⟩
theorem FOk_10 : FOk 10 (RX10, TX10, 1) := ⟨rfl, tb_in [299] (by decide +kernel) (by decide +kernel), rfl, ⟨tyX10, tyX10_ok⟩, nmX10⟩
theorem FOk_11 : FOk 11 (RX11, TX11, 12) := ⟨rfl, tb_in [329, 331, 333, 335, 337, 339, 341, 343, 345, 347, 349, 351] (by decide +kernel) (by decide +kernel), rfl, ⟨tyX11, tyX11_ok⟩, nmX11⟩
theorem FOk_12 : FOk 12 (RX12, TX12, 31) := ⟨rfl, tb_in [744, 746, 748, 750, 752, 754, 756, 758, 760, 762, 764, 766, 768, 770, 772, 774, 776, 778, 780, 782, 784, 786, 788, 790, 792, 794, 796, 798, 800, 802, 804] (by decide +kernel) (by decide +kernel), rfl, ⟨tyX12, tyX12_ok⟩, nmX12⟩
theorem kf_0_0 {i : Nat} (h : KD[i]? = some (.inl 0)) : KD[rf i 0]? = some (.inr (0, 10)) := by
  have h0 : ∀ i, i < 62 → KD[i]? = some (.inl 0) → KD[rf i 0]? = some (.inr (0, 10)) := by decide +kernel
  exact h0 i (KD_lt h) h
theorem kf_0_1 {i : Nat} (h : KD[i]? = some (.inl 0)) : KD[rf i 1]? = some (.inr (0, 10)) := by
  have h0 : ∀ i, i < 62 → KD[i]? = some (.inl 0) → KD[rf i 1]? = some (.inr (0, 10)) := by decide +kernel
  exact h0 i (KD_lt h) h
theorem kf_0_2 {i : Nat} (h : KD[i]? = some (.inl 0)) : KD[rf i 2]? = some (.inr (0, 10)) := by
  have h0 : ∀ i, i < 62 → KD[i]? = some (.inl 0) → KD[rf i 2]? = some (.inr (0, 10)) := by decide +kernel
  exact h0 i (KD_lt h) h
theorem kf_1_0 {i : Nat} (h : KD[i]? = some (.inl 1)) : KD[rf i 0]? = some (.inr (0, 1024)) := by
  have h0 : ∀ i, i < 62 → KD[i]? = some (.inl 1) → KD[rf i 0]? = some (.inr (0, 1024)) := by decide +kernel
  exact h0 i (KD_lt h) h
theorem kf_2_0 {i : Nat} (h : KD[i]? = some (.inl 2)) : KD[rf i 0]? = some (.inl 0) := by
  have h0 : ∀ i, i < 62 → KD[i]? = some (.inl 2) → KD[rf i 0]? = some (.inl 0) := by decide +kernel
  exact h0 i (KD_lt h) h
theorem kf_3_0 {i : Nat} (h : KD[i]? = some (.inl 3)) : KD[rf i 0]? = some (.inr (0, 6)) := by
  have h0 : ∀ i, i < 62 → KD[i]? = some (.inl 3) → KD[rf i 0]? = some (.inr (0, 6)) := by decide +kernel
  exact h0 i (KD_lt h) h
theorem kf_4_0 {i : Nat} (h : KD[i]? = some (.inl 4)) : KD[rf i 0]? = some (.inl 0) := by
  have h0 : ∀ i, i < 62 → KD[i]? = some (.inl 4) → KD[rf i 0]? = some (.inl 0) := by decide +kernel
  exact h0 i (KD_lt h) h
theorem kf_4_1 {i : Nat} (h : KD[i]? = some (.inl 4)) : KD[rf i 1]? = some (.inl 7) := by
  have h0 : ∀ i, i < 62 → KD[i]? = some (.inl 4) → KD[rf i 1]? = some (.inl 7) := by decide +kernel
  exact h0 i (KD_lt h) h
theorem kf_5_0 {i : Nat} (h : KD[i]? = some (.inl 5)) : KD[rf i 0]? = some (.inr (0, 64)) := by
  have h0 : ∀ i, i < 62 → KD[i]? = some (.inl 5) → KD[rf i 0]? = some (.inr (0, 64)) := by decide +kernel
  exact h0 i (KD_lt h) h
theorem kf_5_1 {i : Nat} (h : KD[i]? = some (.inl 5)) : KD[rf i 1]? = some (.inr (0, 8)) := by
  have h0 : ∀ i, i < 62 → KD[i]? = some (.inl 5) → KD[rf i 1]? = some (.inr (0, 8)) := by decide +kernel
  exact h0 i (KD_lt h) h
theorem kf_6_0 {i : Nat} (h : KD[i]? = some (.inl 6)) : KD[rf i 0]? = some (.inr (0, 256)) := by
  have h0 : ∀ i, i < 62 → KD[i]? = some (.inl 6) → KD[rf i 0]? = some (.inr (0, 256)) := by decide +kernel
  exact h0 i (KD_lt h) h
theorem kf_6_1 {i : Nat} (h : KD[i]? = some (.inl 6)) : KD[rf i 1]? = some (.inr (0, 8)) := by
  have h0 : ∀ i, i < 62 → KD[i]? = some (.inl 6) → KD[rf i 1]? = some (.inr (0, 8)) := by decide +kernel
  exact h0 i (KD_lt h) h
theorem kf_7_0 {i : Nat} (h : KD[i]? = some (.inl 7)) : KD[rf i 0]? = some (.inr (0, 8)) := by
  have h0 : ∀ i, i < 62 → KD[i]? = some (.inl 7) → KD[rf i 0]? = some (.inr (0, 8)) := by decide +kernel
  exact h0 i (KD_lt h) h
theorem kf_7_1 {i : Nat} (h : KD[i]? = some (.inl 7)) : KD[rf i 1]? = some (.inr (0, 8)) := by
  have h0 : ∀ i, i < 62 → KD[i]? = some (.inl 7) → KD[rf i 1]? = some (.inr (0, 8)) := by decide +kernel
  exact h0 i (KD_lt h) h
theorem kf_8_0 {i : Nat} (h : KD[i]? = some (.inl 8)) : KD[rf i 0]? = some (.inr (0, 60)) := by
  have h0 : ∀ i, i < 62 → KD[i]? = some (.inl 8) → KD[rf i 0]? = some (.inr (0, 60)) := by decide +kernel
  exact h0 i (KD_lt h) h
theorem kf_9_0 {i : Nat} (h : KD[i]? = some (.inl 9)) : KD[rf i 0]? = some (.inr (1, 13)) := by
  have h0 : ∀ i, i < 62 → KD[i]? = some (.inl 9) → KD[rf i 0]? = some (.inr (1, 13)) := by decide +kernel
  exact h0 i (KD_lt h) h
theorem kf_10_0 {i : Nat} (h : KD[i]? = some (.inl 10)) : KD[rf i 0]? = some (.inr (0, 21)) := by
  have h0 : ∀ i, i < 62 → KD[i]? = some (.inl 10) → KD[rf i 0]? = some (.inr (0, 21)) := by decide +kernel
  exact h0 i (KD_lt h) h
theorem kf_11_0 {i : Nat} (h : KD[i]? = some (.inl 11)) : KD[rf i 0]? = some (.inl 0) := by
  have h0 : ∀ i, i < 62 → KD[i]? = some (.inl 11) → KD[rf i 0]? = some (.inl 0) := by decide +kernel
  exact h0 i (KD_lt h) h
theorem kf_11_1 {i : Nat} (h : KD[i]? = some (.inl 11)) : KD[rf i 1]? = some (.inl 7) := by
  have h0 : ∀ i, i < 62 → KD[i]? = some (.inl 11) → KD[rf i 1]? = some (.inl 7) := by decide +kernel
  exact h0 i (KD_lt h) h
theorem kf_11_2 {i : Nat} (h : KD[i]? = some (.inl 11)) : KD[rf i 2]? = some (.inl 8) := by
  have h0 : ∀ i, i < 62 → KD[i]? = some (.inl 11) → KD[rf i 2]? = some (.inl 8) := by decide +kernel
  exact h0 i (KD_lt h) h
theorem kf_11_3 {i : Nat} (h : KD[i]? = some (.inl 11)) : KD[rf i 3]? = some (.inl 4) := by
  have h0 : ∀ i, i < 62 → KD[i]? = some (.inl 11) → KD[rf i 3]? = some (.inl 4) := by decide +kernel
  exact h0 i (KD_lt h) h
theorem kf_11_4 {i : Nat} (h : KD[i]? = some (.inl 11)) : KD[rf i 4]? = some (.inl 4) := by
  have h0 : ∀ i, i < 62 → KD[i]? = some (.inl 11) → KD[rf i 4]? = some (.inl 4) := by decide +kernel
  exact h0 i (KD_lt h) h
theorem kf_11_5 {i : Nat} (h : KD[i]? = some (.inl 11)) : KD[rf i 5]? = some (.inl 2) := by
  have h0 : ∀ i, i < 62 → KD[i]? = some (.inl 11) → KD[rf i 5]? = some (.inl 2) := by decide +kernel
  exact h0 i (KD_lt h) h
theorem kf_11_6 {i : Nat} (h : KD[i]? = some (.inl 11)) : KD[rf i 6]? = some (.inl 1) := by
  have h0 : ∀ i, i < 62 → KD[i]? = some (.inl 11) → KD[rf i 6]? = some (.inl 1) := by decide +kernel
  exact h0 i (KD_lt h) h
theorem kf_11_7 {i : Nat} (h : KD[i]? = some (.inl 11)) : KD[rf i 7]? = some (.inl 6) := by
  have h0 : ∀ i, i < 62 → KD[i]? = some (.inl 11) → KD[rf i 7]? = some (.inl 6) := by decide +kernel
  exact h0 i (KD_lt h) h
theorem kf_11_8 {i : Nat} (h : KD[i]? = some (.inl 11)) : KD[rf i 8]? = some (.inl 3) := by
  have h0 : ∀ i, i < 62 → KD[i]? = some (.inl 11) → KD[rf i 8]? = some (.inl 3) := by decide +kernel
  exact h0 i (KD_lt h) h
theorem kf_11_9 {i : Nat} (h : KD[i]? = some (.inl 11)) : KD[rf i 9]? = some (.inl 5) := by
  have h0 : ∀ i, i < 62 → KD[i]? = some (.inl 11) → KD[rf i 9]? = some (.inl 5) := by decide +kernel
  exact h0 i (KD_lt h) h
theorem kf_11_10 {i : Nat} (h : KD[i]? = some (.inl 11)) : KD[rf i 10]? = some (.inl 10) := by
  have h0 : ∀ i, i < 62 → KD[i]? = some (.inl 11) → KD[rf i 10]? = some (.inl 10) := by decide +kernel
  exact h0 i (KD_lt h) h
theorem kf_11_11 {i : Nat} (h : KD[i]? = some (.inl 11)) : KD[rf i 11]? = some (.inl 9) := by
  have h0 : ∀ i, i < 62 → KD[i]? = some (.inl 11) → KD[rf i 11]? = some (.inl 9) := by decide +kernel
  exact h0 i (KD_lt h) h
theorem kf_12_0 {i : Nat} (h : KD[i]? = some (.inl 12)) : KD[rf i 0]? = some (.inr (0, 10)) := by
  have h0 : ∀ i, i < 62 → KD[i]? = some (.inl 12) → KD[rf i 0]? = some (.inr (0, 10)) := by decide +kernel
  exact h0 i (KD_lt h) h
theorem kf_12_1 {i : Nat} (h : KD[i]? = some (.inl 12)) : KD[rf i 1]? = some (.inr (0, 10)) := by
  have h0 : ∀ i, i < 62 → KD[i]? = some (.inl 12) → KD[rf i 1]? = some (.inr (0, 10)) := by decide +kernel
  exact h0 i (KD_lt h) h
theorem kf_12_2 {i : Nat} (h : KD[i]? = some (.inl 12)) : KD[rf i 2]? = some (.inr (0, 10)) := by
  have h0 : ∀ i, i < 62 → KD[i]? = some (.inl 12) → KD[rf i 2]? = some (.inr (0, 10)) := by decide +kernel
  exact h0 i (KD_lt h) h
theorem kf_12_8 {i : Nat} (h : KD[i]? = some (.inl 12)) : KD[rf i 8]? = some (.inr (0, 8)) := by
  have h0 : ∀ i, i < 62 → KD[i]? = some (.inl 12) → KD[rf i 8]? = some (.inr (0, 8)) := by decide +kernel
  exact h0 i (KD_lt h) h
theorem kf_12_9 {i : Nat} (h : KD[i]? = some (.inl 12)) : KD[rf i 9]? = some (.inr (0, 8)) := by
  have h0 : ∀ i, i < 62 → KD[i]? = some (.inl 12) → KD[rf i 9]? = some (.inr (0, 8)) := by decide +kernel
  exact h0 i (KD_lt h) h
theorem kf_12_11 {i : Nat} (h : KD[i]? = some (.inl 12)) : KD[rf i 11]? = some (.inr (0, 60)) := by
  have h0 : ∀ i, i < 62 → KD[i]? = some (.inl 12) → KD[rf i 11]? = some (.inr (0, 60)) := by decide +kernel
  exact h0 i (KD_lt h) h
theorem kf_12_13 {i : Nat} (h : KD[i]? = some (.inl 12)) : KD[rf i 13]? = some (.inr (0, 60)) := by
  have h0 : ∀ i, i < 62 → KD[i]? = some (.inl 12) → KD[rf i 13]? = some (.inr (0, 60)) := by decide +kernel
  exact h0 i (KD_lt h) h
theorem kf_12_14 {i : Nat} (h : KD[i]? = some (.inl 12)) : KD[rf i 14]? = some (.inr (0, 60)) := by
  have h0 : ∀ i, i < 62 → KD[i]? = some (.inl 12) → KD[rf i 14]? = some (.inr (0, 60)) := by decide +kernel
  exact h0 i (KD_lt h) h
theorem kf_12_17 {i : Nat} (h : KD[i]? = some (.inl 12)) : KD[rf i 17]? = some (.inr (0, 24)) := by
  have h0 : ∀ i, i < 62 → KD[i]? = some (.inl 12) → KD[rf i 17]? = some (.inr (0, 24)) := by decide +kernel
  exact h0 i (KD_lt h) h
theorem kf_12_22 {i : Nat} (h : KD[i]? = some (.inl 12)) : KD[rf i 22]? = some (.inr (0, 9216)) := by
  have h0 : ∀ i, i < 62 → KD[i]? = some (.inl 12) → KD[rf i 22]? = some (.inr (0, 9216)) := by decide +kernel
  exact h0 i (KD_lt h) h
theorem kf_12_23 {i : Nat} (h : KD[i]? = some (.inl 12)) : KD[rf i 23]? = some (.inr (0, 6)) := by
  have h0 : ∀ i, i < 62 → KD[i]? = some (.inl 12) → KD[rf i 23]? = some (.inr (0, 6)) := by decide +kernel
  exact h0 i (KD_lt h) h
theorem kf_12_24 {i : Nat} (h : KD[i]? = some (.inl 12)) : KD[rf i 24]? = some (.inr (0, 8)) := by
  have h0 : ∀ i, i < 62 → KD[i]? = some (.inl 12) → KD[rf i 24]? = some (.inr (0, 8)) := by decide +kernel
  exact h0 i (KD_lt h) h
theorem kf_12_25 {i : Nat} (h : KD[i]? = some (.inl 12)) : KD[rf i 25]? = some (.inr (2, 441)) := by
  have h0 : ∀ i, i < 62 → KD[i]? = some (.inl 12) → KD[rf i 25]? = some (.inr (2, 441)) := by decide +kernel
  exact h0 i (KD_lt h) h
theorem kf_12_26 {i : Nat} (h : KD[i]? = some (.inl 12)) : KD[rf i 26]? = some (.inr (1, 14)) := by
  have h0 : ∀ i, i < 62 → KD[i]? = some (.inl 12) → KD[rf i 26]? = some (.inr (1, 14)) := by decide +kernel
  exact h0 i (KD_lt h) h
theorem kf_12_27 {i : Nat} (h : KD[i]? = some (.inl 12)) : KD[rf i 27]? = some (.inr (0, 120)) := by
  have h0 : ∀ i, i < 62 → KD[i]? = some (.inl 12) → KD[rf i 27]? = some (.inr (0, 120)) := by decide +kernel
  exact h0 i (KD_lt h) h
theorem kf_12_28 {i : Nat} (h : KD[i]? = some (.inl 12)) : KD[rf i 28]? = some (.inr (2, 2)) := by
  have h0 : ∀ i, i < 62 → KD[i]? = some (.inl 12) → KD[rf i 28]? = some (.inr (2, 2)) := by decide +kernel
  exact h0 i (KD_lt h) h
theorem tb_0 : Cond.selects "BathBaskets" ⟨"BathBaskets", "playEvening", "()I"⟩ ⟨"BathBaskets", "playEvening", "()I"⟩ ∈ tbG := mem_tb 0 (by decide +kernel) (by decide +kernel)
theorem tb_1 : Cond.selects "BathBaskets$Evening" ⟨"BathBaskets$Evening", "playAct", "(II)V"⟩ ⟨"BathBaskets$Evening", "playAct", "(II)V"⟩ ∈ tbG := mem_tb 1 (by decide +kernel) (by decide +kernel)
theorem tb_2 : Cond.selects "BathBaskets$Bath" ⟨"BathBaskets$Bath", "whyTooLate", "(I)I"⟩ ⟨"BathBaskets$Bath", "whyTooLate", "(I)I"⟩ ∈ tbG := mem_tb 2 (by decide +kernel) (by decide +kernel)
theorem tb_3 : Cond.selects "BathBaskets$Bath" ⟨"BathBaskets$Bath", "whyNotMoved", "(III)I"⟩ ⟨"BathBaskets$Bath", "whyNotMoved", "(III)I"⟩ ∈ tbG := mem_tb 3 (by decide +kernel) (by decide +kernel)
theorem tb_4 : Cond.selects "BathBaskets$Evening" ⟨"BathBaskets$Evening", "noteLoss", "(II)V"⟩ ⟨"BathBaskets$Evening", "noteLoss", "(II)V"⟩ ∈ tbG := mem_tb 4 (by decide +kernel) (by decide +kernel)
theorem tb_5 : Cond.selects "BathBaskets$Choice" ⟨"BathBaskets$Choice", "sumMinutes", "(LBathBaskets$Bath;)V"⟩ ⟨"BathBaskets$Choice", "sumMinutes", "(LBathBaskets$Bath;)V"⟩ ∈ tbG := mem_tb 5 (by decide +kernel) (by decide +kernel)
theorem tb_6 : Cond.selects "BathBaskets$Choice" ⟨"BathBaskets$Choice", "joinThings", "(LBathBaskets$Bath;)V"⟩ ⟨"BathBaskets$Choice", "joinThings", "(LBathBaskets$Bath;)V"⟩ ∈ tbG := mem_tb 6 (by decide +kernel) (by decide +kernel)
theorem tb_7 : Cond.selects "BathBaskets$Matching" ⟨"BathBaskets$Matching", "joinHomes", "(LBathBaskets$Bath;)V"⟩ ⟨"BathBaskets$Matching", "joinHomes", "(LBathBaskets$Bath;)V"⟩ ∈ tbG := mem_tb 7 (by decide +kernel) (by decide +kernel)
theorem tb_8 : Cond.selects "BathBaskets$Matching" ⟨"BathBaskets$Matching", "mostAtOnce", "(II)I"⟩ ⟨"BathBaskets$Matching", "mostAtOnce", "(II)I"⟩ ∈ tbG := mem_tb 8 (by decide +kernel) (by decide +kernel)
theorem tb_9 : Cond.selects "BathBaskets$Matching" ⟨"BathBaskets$Matching", "leastBasket", "(IIII)I"⟩ ⟨"BathBaskets$Matching", "leastBasket", "(IIII)I"⟩ ∈ tbG := mem_tb 9 (by decide +kernel) (by decide +kernel)
theorem tb_10 : Cond.selects "BathBaskets$Laws" ⟨"BathBaskets$Laws", "mostLeftAfter", "(I)I"⟩ ⟨"BathBaskets$Laws", "mostLeftAfter", "(I)I"⟩ ∈ tbG := mem_tb 10 (by decide +kernel) (by decide +kernel)
theorem tb_11 : Cond.selects "BathBaskets" ⟨"BathBaskets", "imageOf", "(I)LBathBaskets$Image;"⟩ ⟨"BathBaskets", "imageOf", "(I)LBathBaskets$Image;"⟩ ∈ tbG := mem_tb 11 (by decide +kernel) (by decide +kernel)
theorem tb_12 : Cond.selects "BathBaskets" ⟨"BathBaskets", "toldPlainly", "(I)I"⟩ ⟨"BathBaskets", "toldPlainly", "(I)I"⟩ ∈ tbG := mem_tb 12 (by decide +kernel) (by decide +kernel)
theorem tb_13 : Cond.selects "BathBasketsModel" ⟨"BathBasketsModel", "wrongMany", "()I"⟩ ⟨"BathBasketsModel", "wrongMany", "()I"⟩ ∈ tbG := mem_tb 13 (by decide +kernel) (by decide +kernel)
theorem tb_14 : Cond.selects "BathBasketsModel" ⟨"BathBasketsModel", "readOn", "(II)I"⟩ ⟨"BathBasketsModel", "readOn", "(II)I"⟩ ∈ tbG := mem_tb 14 (by decide +kernel) (by decide +kernel)
theorem tb_15 : Cond.selects "BathBasketsModel" ⟨"BathBasketsModel", "begin", "(I)I"⟩ ⟨"BathBasketsModel", "begin", "(I)I"⟩ ∈ tbG := mem_tb 15 (by decide +kernel) (by decide +kernel)
theorem tb_16 : Cond.selects "BathBasketsModel" ⟨"BathBasketsModel", "close", "(II)I"⟩ ⟨"BathBasketsModel", "close", "(II)I"⟩ ∈ tbG := mem_tb 16 (by decide +kernel) (by decide +kernel)
theorem tb_17 : Cond.selects "BathBasketsModel" ⟨"BathBasketsModel", "refusal", "()I"⟩ ⟨"BathBasketsModel", "refusal", "()I"⟩ ∈ tbG := mem_tb 17 (by decide +kernel) (by decide +kernel)
theorem tb_18 : Cond.selects "BathBasketsModel" ⟨"BathBasketsModel", "keepNow", "()V"⟩ ⟨"BathBasketsModel", "keepNow", "()V"⟩ ∈ tbG := mem_tb 18 (by decide +kernel) (by decide +kernel)
theorem tb_19 : Cond.selects "BathBasketsModel" ⟨"BathBasketsModel", "goEvenings", "()V"⟩ ⟨"BathBasketsModel", "goEvenings", "()V"⟩ ∈ tbG := mem_tb 19 (by decide +kernel) (by decide +kernel)
theorem tb_20 : Cond.selects "BathBasketsModel" ⟨"BathBasketsModel", "whyNot", "(II)I"⟩ ⟨"BathBasketsModel", "whyNot", "(II)I"⟩ ∈ tbG := mem_tb 20 (by decide +kernel) (by decide +kernel)
theorem tb_21 : Cond.selects "BathBasketsModel" ⟨"BathBasketsModel", "inHere", "()I"⟩ ⟨"BathBasketsModel", "inHere", "()I"⟩ ∈ tbG := mem_tb 21 (by decide +kernel) (by decide +kernel)
theorem tb_22 : Cond.selects "BathBasketsModel" ⟨"BathBasketsModel", "goOne", "(I)V"⟩ ⟨"BathBasketsModel", "goOne", "(I)V"⟩ ∈ tbG := mem_tb 22 (by decide +kernel) (by decide +kernel)
theorem tb_23 : Cond.selects "BathBasketsModel" ⟨"BathBasketsModel", "happen", "(II)V"⟩ ⟨"BathBasketsModel", "happen", "(II)V"⟩ ∈ tbG := mem_tb 23 (by decide +kernel) (by decide +kernel)
theorem tb_24 : Cond.selects "BathBasketsModel" ⟨"BathBasketsModel", "go", "(I)V"⟩ ⟨"BathBasketsModel", "go", "(I)V"⟩ ∈ tbG := mem_tb 24 (by decide +kernel) (by decide +kernel)
theorem tb_25 : Cond.selects "BathBasketsModel" ⟨"BathBasketsModel", "look", "()V"⟩ ⟨"BathBasketsModel", "look", "()V"⟩ ∈ tbG := mem_tb 25 (by decide +kernel) (by decide +kernel)
theorem tb_26 : Cond.selects "BathBasketsModel" ⟨"BathBasketsModel", "lay", "(I)V"⟩ ⟨"BathBasketsModel", "lay", "(I)V"⟩ ∈ tbG := mem_tb 26 (by decide +kernel) (by decide +kernel)
theorem tb_27 : Cond.selects "BathBasketsModel" ⟨"BathBasketsModel", "take", "(I)V"⟩ ⟨"BathBasketsModel", "take", "(I)V"⟩ ∈ tbG := mem_tb 27 (by decide +kernel) (by decide +kernel)
theorem tb_28 : Cond.selects "BathBasketsModel" ⟨"BathBasketsModel", "change", "(I)V"⟩ ⟨"BathBasketsModel", "change", "(I)V"⟩ ∈ tbG := mem_tb 28 (by decide +kernel) (by decide +kernel)
theorem tb_29 : Cond.selects "BathBasketsModel" ⟨"BathBasketsModel", "back", "(I)I"⟩ ⟨"BathBasketsModel", "back", "(I)I"⟩ ∈ tbG := mem_tb 29 (by decide +kernel) (by decide +kernel)
theorem tb_30 : Cond.selects "BathBasketsModel" ⟨"BathBasketsModel", "minutesBy", "(II)I"⟩ ⟨"BathBasketsModel", "minutesBy", "(II)I"⟩ ∈ tbG := mem_tb 30 (by decide +kernel) (by decide +kernel)
theorem tb_31 : Cond.selects "BathBasketsModel" ⟨"BathBasketsModel", "shownBy", "(I)I"⟩ ⟨"BathBasketsModel", "shownBy", "(I)I"⟩ ∈ tbG := mem_tb 31 (by decide +kernel) (by decide +kernel)
theorem tb_32 : Cond.selects "BathBasketsModel" ⟨"BathBasketsModel", "mostFrom", "(III)I"⟩ ⟨"BathBasketsModel", "mostFrom", "(III)I"⟩ ∈ tbG := mem_tb 32 (by decide +kernel) (by decide +kernel)
theorem tb_33 : Cond.selects "BathBasketsModel" ⟨"BathBasketsModel", "canOwn", "(IIII)Z"⟩ ⟨"BathBasketsModel", "canOwn", "(IIII)Z"⟩ ∈ tbG := mem_tb 33 (by decide +kernel) (by decide +kernel)
theorem tb_34 : Cond.selects "BathBasketsModel" ⟨"BathBasketsModel", "ownerOf", "(III)I"⟩ ⟨"BathBasketsModel", "ownerOf", "(III)I"⟩ ∈ tbG := mem_tb 34 (by decide +kernel) (by decide +kernel)
theorem tb_35 : Cond.selects "BathBasketsModel" ⟨"BathBasketsModel", "readHooks", "(I)Z"⟩ ⟨"BathBasketsModel", "readHooks", "(I)Z"⟩ ∈ tbG := mem_tb 35 (by decide +kernel) (by decide +kernel)
theorem tb_36 : Cond.selects "BathBasketsModel" ⟨"BathBasketsModel", "isFit", "(I)Z"⟩ ⟨"BathBasketsModel", "isFit", "(I)Z"⟩ ∈ tbG := mem_tb 36 (by decide +kernel) (by decide +kernel)
theorem tb_37 : Cond.selects "BathBasketsModel" ⟨"BathBasketsModel", "mostLeft", "(I)I"⟩ ⟨"BathBasketsModel", "mostLeft", "(I)I"⟩ ∈ tbG := mem_tb 37 (by decide +kernel) (by decide +kernel)
theorem tb_38 : Cond.selects "BathBasketsModel" ⟨"BathBasketsModel", "leastTakeWins", "(II)Z"⟩ ⟨"BathBasketsModel", "leastTakeWins", "(II)Z"⟩ ∈ tbG := mem_tb 38 (by decide +kernel) (by decide +kernel)
theorem tb_39 : Cond.selects "BathBasketsModel" ⟨"BathBasketsModel", "leastTake", "(II)I"⟩ ⟨"BathBasketsModel", "leastTake", "(II)I"⟩ ∈ tbG := mem_tb 39 (by decide +kernel) (by decide +kernel)
theorem tb_40 : Cond.selects "BathBasketsModel" ⟨"BathBasketsModel", "passAll", "()V"⟩ ⟨"BathBasketsModel", "passAll", "()V"⟩ ∈ tbG := mem_tb 40 (by decide +kernel) (by decide +kernel)
theorem tb_41 : Cond.selects "BathBasketsModel" ⟨"BathBasketsModel", "pass", "(I)I"⟩ ⟨"BathBasketsModel", "pass", "(I)I"⟩ ∈ tbG := mem_tb 41 (by decide +kernel) (by decide +kernel)
theorem tb_42 : Cond.selects "BathBasketsModel" ⟨"BathBasketsModel", "passRow", "([II)V"⟩ ⟨"BathBasketsModel", "passRow", "([II)V"⟩ ∈ tbG := mem_tb 42 (by decide +kernel) (by decide +kernel)
theorem tb_44 : Cond.initialized "BathBaskets" ∈ tbG := mem_tb 44 (by decide +kernel) (by decide +kernel)
theorem tb_45 : Cond.initialized "BathBaskets$Bath" ∈ tbG := mem_tb 45 (by decide +kernel) (by decide +kernel)
theorem tb_46 : Cond.initialized "BathBaskets$Notes" ∈ tbG := mem_tb 46 (by decide +kernel) (by decide +kernel)
theorem tb_47 : Cond.initialized "BathBaskets$Pad" ∈ tbG := mem_tb 47 (by decide +kernel) (by decide +kernel)
theorem tb_49 : Cond.initialized "BathBaskets$Evening" ∈ tbG := mem_tb 49 (by decide +kernel) (by decide +kernel)
theorem tb_50 : Cond.initialized "BathBaskets$Choice" ∈ tbG := mem_tb 50 (by decide +kernel) (by decide +kernel)
theorem tb_51 : Cond.initialized "BathBaskets$Matching" ∈ tbG := mem_tb 51 (by decide +kernel) (by decide +kernel)
theorem tb_52 : Cond.initialized "BathBaskets$Hooks" ∈ tbG := mem_tb 52 (by decide +kernel) (by decide +kernel)
theorem tb_53 : Cond.initialized "BathBaskets$Laws" ∈ tbG := mem_tb 53 (by decide +kernel) (by decide +kernel)
theorem tb_54 : Cond.initialized "BathBaskets$TwoPiles" ∈ tbG := mem_tb 54 (by decide +kernel) (by decide +kernel)
theorem tb_55 : Cond.initialized "BathBaskets$Swim" ∈ tbG := mem_tb 55 (by decide +kernel) (by decide +kernel)
theorem tb_56 : Cond.initialized "BathBasketsModel" ∈ tbG := mem_tb 56 (by decide +kernel) (by decide +kernel)
theorem tb_57 : Cond.initialized "java/lang/System" ∈ tbG := mem_tb 57 (by decide +kernel) (by decide +kernel)
theorem tb_58 : Cond.initialized "java/lang/Math" ∈ tbG := mem_tb 58 (by decide +kernel) (by decide +kernel)
theorem tb_59 : Cond.initialized "java/lang/Integer" ∈ tbG := mem_tb 59 (by decide +kernel) (by decide +kernel)
theorem tb_74 : Cond.fieldLink "BathBaskets$Bath" 9 "BathBaskets$Bath" "standing" "[I" ∈ tbG := mem_tb 74 (by decide +kernel) (by decide +kernel)
theorem tb_75 : Cond.fieldLink "BathBaskets$Choice" 50 "BathBaskets$Bath" "standing" "[I" ∈ tbG := mem_tb 75 (by decide +kernel) (by decide +kernel)
theorem tb_76 : Cond.fieldLink "BathBaskets$Evening" 85 "BathBaskets$Bath" "standing" "[I" ∈ tbG := mem_tb 76 (by decide +kernel) (by decide +kernel)
theorem tb_77 : Cond.fieldLink "BathBaskets" 152 "BathBaskets$Bath" "standing" "[I" ∈ tbG := mem_tb 77 (by decide +kernel) (by decide +kernel)
theorem tb_78 : Cond.fieldLink "BathBaskets$Bath" 15 "BathBaskets$Bath" "things" "[I" ∈ tbG := mem_tb 78 (by decide +kernel) (by decide +kernel)
theorem tb_79 : Cond.fieldLink "BathBaskets" 100 "BathBaskets$Bath" "things" "[I" ∈ tbG := mem_tb 79 (by decide +kernel) (by decide +kernel)
theorem tb_80 : Cond.fieldLink "BathBaskets$Matching" 38 "BathBaskets$Bath" "things" "[I" ∈ tbG := mem_tb 80 (by decide +kernel) (by decide +kernel)
theorem tb_81 : Cond.fieldLink "BathBaskets$Choice" 69 "BathBaskets$Bath" "things" "[I" ∈ tbG := mem_tb 81 (by decide +kernel) (by decide +kernel)
theorem tb_82 : Cond.fieldLink "BathBaskets$Bath" 18 "BathBaskets$Bath" "minutes" "[I" ∈ tbG := mem_tb 82 (by decide +kernel) (by decide +kernel)
theorem tb_83 : Cond.fieldLink "BathBaskets" 104 "BathBaskets$Bath" "minutes" "[I" ∈ tbG := mem_tb 83 (by decide +kernel) (by decide +kernel)
theorem tb_84 : Cond.fieldLink "BathBaskets$Choice" 47 "BathBaskets$Bath" "minutes" "[I" ∈ tbG := mem_tb 84 (by decide +kernel) (by decide +kernel)
theorem tb_85 : Cond.fieldLink "BathBaskets$Bath" 31 "BathBaskets$Bath" "cabin" "I" ∈ tbG := mem_tb 85 (by decide +kernel) (by decide +kernel)
theorem tb_86 : Cond.fieldLink "BathBaskets$Choice" 40 "BathBaskets$Bath" "cabin" "I" ∈ tbG := mem_tb 86 (by decide +kernel) (by decide +kernel)
theorem tb_87 : Cond.fieldLink "BathBaskets$Evening" 68 "BathBaskets$Bath" "cabin" "I" ∈ tbG := mem_tb 87 (by decide +kernel) (by decide +kernel)
theorem tb_88 : Cond.fieldLink "BathBaskets" 121 "BathBaskets$Bath" "cabin" "I" ∈ tbG := mem_tb 88 (by decide +kernel) (by decide +kernel)
theorem tb_89 : Cond.fieldLink "BathBaskets$Bath" 34 "BathBaskets$Bath" "has" "I" ∈ tbG := mem_tb 89 (by decide +kernel) (by decide +kernel)
theorem tb_90 : Cond.fieldLink "BathBaskets" 124 "BathBaskets$Bath" "has" "I" ∈ tbG := mem_tb 90 (by decide +kernel) (by decide +kernel)
theorem tb_91 : Cond.fieldLink "BathBaskets$Bath" 37 "BathBaskets$Bath" "seen" "I" ∈ tbG := mem_tb 91 (by decide +kernel) (by decide +kernel)
theorem tb_92 : Cond.fieldLink "BathBaskets$Choice" 66 "BathBaskets$Bath" "seen" "I" ∈ tbG := mem_tb 92 (by decide +kernel) (by decide +kernel)
theorem tb_93 : Cond.fieldLink "BathBaskets" 127 "BathBaskets$Bath" "seen" "I" ∈ tbG := mem_tb 93 (by decide +kernel) (by decide +kernel)
theorem tb_94 : Cond.fieldLink "BathBaskets$Choice" 31 "BathBaskets$Bath" "now" "I" ∈ tbG := mem_tb 94 (by decide +kernel) (by decide +kernel)
theorem tb_95 : Cond.fieldLink "BathBaskets$Bath" 40 "BathBaskets$Bath" "now" "I" ∈ tbG := mem_tb 95 (by decide +kernel) (by decide +kernel)
theorem tb_96 : Cond.fieldLink "BathBaskets" 114 "BathBaskets$Bath" "now" "I" ∈ tbG := mem_tb 96 (by decide +kernel) (by decide +kernel)
theorem tb_97 : Cond.fieldLink "BathBaskets$Bath" 21 "BathBaskets$Bath" "bell" "I" ∈ tbG := mem_tb 97 (by decide +kernel) (by decide +kernel)
theorem tb_98 : Cond.fieldLink "BathBaskets$Choice" 26 "BathBaskets$Bath" "bell" "I" ∈ tbG := mem_tb 98 (by decide +kernel) (by decide +kernel)
theorem tb_99 : Cond.fieldLink "BathBaskets" 118 "BathBaskets$Bath" "bell" "I" ∈ tbG := mem_tb 99 (by decide +kernel) (by decide +kernel)
theorem tb_124 : Cond.fieldLink "BathBaskets$Notes" 7 "BathBaskets$Notes" "days" "[I" ∈ tbG := mem_tb 124 (by decide +kernel) (by decide +kernel)
theorem tb_125 : Cond.fieldLink "BathBaskets$Laws" 29 "BathBaskets$Notes" "days" "[I" ∈ tbG := mem_tb 125 (by decide +kernel) (by decide +kernel)
theorem tb_126 : Cond.fieldLink "BathBaskets$Notes" 13 "BathBaskets$Notes" "things" "[I" ∈ tbG := mem_tb 126 (by decide +kernel) (by decide +kernel)
theorem tb_127 : Cond.fieldLink "BathBaskets$Laws" 36 "BathBaskets$Notes" "things" "[I" ∈ tbG := mem_tb 127 (by decide +kernel) (by decide +kernel)
theorem tb_128 : Cond.fieldLink "BathBaskets$Notes" 22 "BathBaskets$Notes" "count" "I" ∈ tbG := mem_tb 128 (by decide +kernel) (by decide +kernel)
theorem tb_129 : Cond.fieldLink "BathBaskets$Laws" 26 "BathBaskets$Notes" "count" "I" ∈ tbG := mem_tb 129 (by decide +kernel) (by decide +kernel)
theorem tb_130 : Cond.fieldLink "BathBaskets" 206 "BathBaskets$Notes" "count" "I" ∈ tbG := mem_tb 130 (by decide +kernel) (by decide +kernel)
theorem tb_144 : Cond.fieldLink "BathBaskets$Pad" 9 "BathBaskets$Pad" "signs" "[I" ∈ tbG := mem_tb 144 (by decide +kernel) (by decide +kernel)
theorem tb_145 : Cond.fieldLink "BathBaskets$Pad" 15 "BathBaskets$Pad" "count" "I" ∈ tbG := mem_tb 145 (by decide +kernel) (by decide +kernel)
theorem tb_146 : Cond.fieldLink "BathBaskets$Evening" 41 "BathBaskets$Pad" "count" "I" ∈ tbG := mem_tb 146 (by decide +kernel) (by decide +kernel)
theorem tb_147 : Cond.fieldLink "BathBaskets" 133 "BathBaskets$Pad" "count" "I" ∈ tbG := mem_tb 147 (by decide +kernel) (by decide +kernel)
theorem tb_164 : Cond.fieldLink "BathBaskets" 271 "BathBaskets$Image" "bath" "LBathBaskets$Bath;" ∈ tbG := mem_tb 164 (by decide +kernel) (by decide +kernel)
theorem tb_166 : Cond.fieldLink "BathBaskets" 272 "BathBaskets$Image" "notes" "LBathBaskets$Notes;" ∈ tbG := mem_tb 166 (by decide +kernel) (by decide +kernel)
theorem tb_167 : Cond.fieldLink "BathBaskets" 275 "BathBaskets$Image" "isKept" "Z" ∈ tbG := mem_tb 167 (by decide +kernel) (by decide +kernel)
theorem tb_183 : Cond.fieldLink "BathBaskets$Evening" 12 "BathBaskets$Evening" "bath" "LBathBaskets$Bath;" ∈ tbG := mem_tb 183 (by decide +kernel) (by decide +kernel)
theorem tb_184 : Cond.fieldLink "BathBaskets" 151 "BathBaskets$Evening" "bath" "LBathBaskets$Bath;" ∈ tbG := mem_tb 184 (by decide +kernel) (by decide +kernel)
theorem tb_185 : Cond.fieldLink "BathBaskets$Evening" 22 "BathBaskets$Evening" "acts" "I" ∈ tbG := mem_tb 185 (by decide +kernel) (by decide +kernel)
theorem tb_186 : Cond.fieldLink "BathBaskets" 165 "BathBaskets$Evening" "acts" "I" ∈ tbG := mem_tb 186 (by decide +kernel) (by decide +kernel)
theorem tb_187 : Cond.fieldLink "BathBaskets$Evening" 26 "BathBaskets$Evening" "stoppedAt" "I" ∈ tbG := mem_tb 187 (by decide +kernel) (by decide +kernel)
theorem tb_188 : Cond.fieldLink "BathBaskets" 145 "BathBaskets$Evening" "stoppedAt" "I" ∈ tbG := mem_tb 188 (by decide +kernel) (by decide +kernel)
theorem tb_189 : Cond.fieldLink "BathBaskets$Evening" 29 "BathBaskets$Evening" "why" "I" ∈ tbG := mem_tb 189 (by decide +kernel) (by decide +kernel)
theorem tb_190 : Cond.fieldLink "BathBaskets" 148 "BathBaskets$Evening" "why" "I" ∈ tbG := mem_tb 190 (by decide +kernel) (by decide +kernel)
theorem tb_191 : Cond.fieldLink "BathBaskets$Evening" 32 "BathBaskets$Evening" "goneThrough" "I" ∈ tbG := mem_tb 191 (by decide +kernel) (by decide +kernel)
theorem tb_192 : Cond.fieldLink "BathBaskets" 142 "BathBaskets$Evening" "goneThrough" "I" ∈ tbG := mem_tb 192 (by decide +kernel) (by decide +kernel)
theorem tb_193 : Cond.fieldLink "BathBaskets$Evening" 35 "BathBaskets$Evening" "lostBy" "I" ∈ tbG := mem_tb 193 (by decide +kernel) (by decide +kernel)
theorem tb_194 : Cond.fieldLink "BathBaskets" 155 "BathBaskets$Evening" "lostBy" "I" ∈ tbG := mem_tb 194 (by decide +kernel) (by decide +kernel)
theorem tb_195 : Cond.fieldLink "BathBaskets$Evening" 38 "BathBaskets$Evening" "lostCabin" "I" ∈ tbG := mem_tb 195 (by decide +kernel) (by decide +kernel)
theorem tb_196 : Cond.fieldLink "BathBaskets" 158 "BathBaskets$Evening" "lostCabin" "I" ∈ tbG := mem_tb 196 (by decide +kernel) (by decide +kernel)
theorem tb_218 : Cond.fieldLink "BathBaskets$Choice" 9 "BathBaskets$Choice" "totals" "[I" ∈ tbG := mem_tb 218 (by decide +kernel) (by decide +kernel)
theorem tb_219 : Cond.fieldLink "BathBaskets$Choice" 19 "BathBaskets$Choice" "size" "I" ∈ tbG := mem_tb 219 (by decide +kernel) (by decide +kernel)
theorem tb_220 : Cond.fieldLink "BathBaskets" 172 "BathBaskets$Choice" "size" "I" ∈ tbG := mem_tb 220 (by decide +kernel) (by decide +kernel)
theorem tb_221 : Cond.fieldLink "BathBaskets$Choice" 23 "BathBaskets$Choice" "members" "I" ∈ tbG := mem_tb 221 (by decide +kernel) (by decide +kernel)
theorem tb_222 : Cond.fieldLink "BathBaskets" 175 "BathBaskets$Choice" "members" "I" ∈ tbG := mem_tb 222 (by decide +kernel) (by decide +kernel)
theorem tb_236 : Cond.fieldLink "BathBaskets$Matching" 9 "BathBaskets$Matching" "homes" "[I" ∈ tbG := mem_tb 236 (by decide +kernel) (by decide +kernel)
theorem tb_237 : Cond.fieldLink "BathBaskets$Matching" 15 "BathBaskets$Matching" "basketOf" "[I" ∈ tbG := mem_tb 237 (by decide +kernel) (by decide +kernel)
theorem tb_238 : Cond.fieldLink "BathBaskets" 188 "BathBaskets$Matching" "basketOf" "[I" ∈ tbG := mem_tb 238 (by decide +kernel) (by decide +kernel)
theorem tb_239 : Cond.fieldLink "BathBaskets$Matching" 26 "BathBaskets$Matching" "size" "I" ∈ tbG := mem_tb 239 (by decide +kernel) (by decide +kernel)
theorem tb_240 : Cond.fieldLink "BathBaskets" 187 "BathBaskets$Matching" "size" "I" ∈ tbG := mem_tb 240 (by decide +kernel) (by decide +kernel)
theorem tb_254 : Cond.fieldLink "BathBaskets$Hooks" 7 "BathBaskets$Hooks" "whose" "[I" ∈ tbG := mem_tb 254 (by decide +kernel) (by decide +kernel)
theorem tb_255 : Cond.fieldLink "BathBaskets$Hooks" 23 "BathBaskets$Hooks" "changes" "I" ∈ tbG := mem_tb 255 (by decide +kernel) (by decide +kernel)
theorem tb_256 : Cond.fieldLink "BathBaskets" 197 "BathBaskets$Hooks" "changes" "I" ∈ tbG := mem_tb 256 (by decide +kernel) (by decide +kernel)
theorem tb_257 : Cond.fieldLink "BathBaskets$Hooks" 27 "BathBaskets$Hooks" "rounds" "I" ∈ tbG := mem_tb 257 (by decide +kernel) (by decide +kernel)
theorem tb_258 : Cond.fieldLink "BathBaskets" 200 "BathBaskets$Hooks" "rounds" "I" ∈ tbG := mem_tb 258 (by decide +kernel) (by decide +kernel)
theorem tb_272 : Cond.fieldLink "BathBaskets$Laws" 9 "BathBaskets$Laws" "fitting" "[I" ∈ tbG := mem_tb 272 (by decide +kernel) (by decide +kernel)
theorem tb_273 : Cond.fieldLink "BathBaskets" 212 "BathBaskets$Laws" "fitting" "[I" ∈ tbG := mem_tb 273 (by decide +kernel) (by decide +kernel)
theorem tb_274 : Cond.fieldLink "BathBaskets$Laws" 15 "BathBaskets$Laws" "left" "[I" ∈ tbG := mem_tb 274 (by decide +kernel) (by decide +kernel)
theorem tb_275 : Cond.fieldLink "BathBaskets$Laws" 18 "BathBaskets$Laws" "count" "I" ∈ tbG := mem_tb 275 (by decide +kernel) (by decide +kernel)
theorem tb_276 : Cond.fieldLink "BathBaskets" 211 "BathBaskets$Laws" "count" "I" ∈ tbG := mem_tb 276 (by decide +kernel) (by decide +kernel)
theorem tb_277 : Cond.fieldLink "BathBaskets$Laws" 39 "BathBaskets$Laws" "bestDay" "I" ∈ tbG := mem_tb 277 (by decide +kernel) (by decide +kernel)
theorem tb_278 : Cond.fieldLink "BathBaskets" 218 "BathBaskets$Laws" "bestDay" "I" ∈ tbG := mem_tb 278 (by decide +kernel) (by decide +kernel)
theorem tb_279 : Cond.fieldLink "BathBaskets$Laws" 42 "BathBaskets$Laws" "mostLeft" "I" ∈ tbG := mem_tb 279 (by decide +kernel) (by decide +kernel)
theorem tb_280 : Cond.fieldLink "BathBaskets" 221 "BathBaskets$Laws" "mostLeft" "I" ∈ tbG := mem_tb 280 (by decide +kernel) (by decide +kernel)
theorem tb_298 : Cond.fieldLink "BathBaskets$TwoPiles" 9 "BathBaskets$TwoPiles" "lostWith" "[I" ∈ tbG := mem_tb 298 (by decide +kernel) (by decide +kernel)
theorem tb_308 : Cond.fieldLink "BathBaskets$Swim" 9 "BathBaskets$Swim" "ways" "[J" ∈ tbG := mem_tb 308 (by decide +kernel) (by decide +kernel)
theorem tb_309 : Cond.fieldLink "BathBaskets$Swim" 15 "BathBaskets$Swim" "allWays" "J" ∈ tbG := mem_tb 309 (by decide +kernel) (by decide +kernel)
theorem tb_310 : Cond.fieldLink "BathBaskets" 244 "BathBaskets$Swim" "allWays" "J" ∈ tbG := mem_tb 310 (by decide +kernel) (by decide +kernel)
theorem tb_317 : Cond.fieldLink "BathBaskets" 12 "BathBaskets" "bath" "LBathBaskets$Bath;" ∈ tbG := mem_tb 317 (by decide +kernel) (by decide +kernel)
theorem tb_318 : Cond.fieldLink "BathBaskets" 19 "BathBaskets" "notes" "LBathBaskets$Notes;" ∈ tbG := mem_tb 318 (by decide +kernel) (by decide +kernel)
theorem tb_319 : Cond.fieldLink "BathBaskets" 26 "BathBaskets" "pad" "LBathBaskets$Pad;" ∈ tbG := mem_tb 319 (by decide +kernel) (by decide +kernel)
theorem tb_320 : Cond.fieldLink "BathBaskets" 33 "BathBaskets" "firstImage" "LBathBaskets$Image;" ∈ tbG := mem_tb 320 (by decide +kernel) (by decide +kernel)
theorem tb_321 : Cond.fieldLink "BathBaskets" 37 "BathBaskets" "secondImage" "LBathBaskets$Image;" ∈ tbG := mem_tb 321 (by decide +kernel) (by decide +kernel)
theorem tb_322 : Cond.fieldLink "BathBaskets" 43 "BathBaskets" "evening" "LBathBaskets$Evening;" ∈ tbG := mem_tb 322 (by decide +kernel) (by decide +kernel)
theorem tb_323 : Cond.fieldLink "BathBaskets" 50 "BathBaskets" "choice" "LBathBaskets$Choice;" ∈ tbG := mem_tb 323 (by decide +kernel) (by decide +kernel)
theorem tb_324 : Cond.fieldLink "BathBaskets" 57 "BathBaskets" "matching" "LBathBaskets$Matching;" ∈ tbG := mem_tb 324 (by decide +kernel) (by decide +kernel)
theorem tb_325 : Cond.fieldLink "BathBaskets" 64 "BathBaskets" "hooks" "LBathBaskets$Hooks;" ∈ tbG := mem_tb 325 (by decide +kernel) (by decide +kernel)
theorem tb_326 : Cond.fieldLink "BathBaskets" 71 "BathBaskets" "laws" "LBathBaskets$Laws;" ∈ tbG := mem_tb 326 (by decide +kernel) (by decide +kernel)
theorem tb_327 : Cond.fieldLink "BathBaskets" 78 "BathBaskets" "twoPiles" "LBathBaskets$TwoPiles;" ∈ tbG := mem_tb 327 (by decide +kernel) (by decide +kernel)
theorem tb_328 : Cond.fieldLink "BathBaskets" 85 "BathBaskets" "swim" "LBathBaskets$Swim;" ∈ tbG := mem_tb 328 (by decide +kernel) (by decide +kernel)
theorem tb_354 : Cond.methodLink "BathBasketsLaw" 13 ⟨"BathBaskets", "basket", "(III)I"⟩ ∈ tbG := mem_tb 354 (by decide +kernel) (by decide +kernel)
theorem tb_355 : Cond.instanceMethod ⟨"BathBaskets", "basket", "(III)I"⟩ ∈ tbG := mem_tb 355 (by decide +kernel) (by decide +kernel)
theorem tb_356 : Cond.selects "BathBaskets" ⟨"BathBaskets", "basket", "(III)I"⟩ ⟨"BathBaskets", "basket", "(III)I"⟩ ∈ tbG := mem_tb 356 (by decide +kernel) (by decide +kernel)
theorem tb_358 : Cond.methodLink "BathBaskets" 89 ⟨"BathBaskets", "isCabin", "(I)Z"⟩ ∈ tbG := mem_tb 358 (by decide +kernel) (by decide +kernel)
theorem tb_359 : Cond.static ⟨"BathBaskets", "isCabin", "(I)Z"⟩ ∈ tbG := mem_tb 359 (by decide +kernel) (by decide +kernel)
theorem tb_361 : Cond.methodLink "BathBaskets" 96 ⟨"BathBaskets", "isWithin", "(III)Z"⟩ ∈ tbG := mem_tb 361 (by decide +kernel) (by decide +kernel)
theorem tb_362 : Cond.static ⟨"BathBaskets", "isWithin", "(III)Z"⟩ ∈ tbG := mem_tb 362 (by decide +kernel) (by decide +kernel)
theorem tb_364 : Cond.methodLink "BathBaskets" 93 ⟨"BathBaskets", "isThingSet", "(I)Z"⟩ ∈ tbG := mem_tb 364 (by decide +kernel) (by decide +kernel)
theorem tb_365 : Cond.static ⟨"BathBaskets", "isThingSet", "(I)Z"⟩ ∈ tbG := mem_tb 365 (by decide +kernel) (by decide +kernel)
theorem tb_367 : Cond.methodLink "BathBasketsLaw" 18 ⟨"BathBaskets", "right", "()I"⟩ ∈ tbG := mem_tb 367 (by decide +kernel) (by decide +kernel)
theorem tb_368 : Cond.instanceMethod ⟨"BathBaskets", "right", "()I"⟩ ∈ tbG := mem_tb 368 (by decide +kernel) (by decide +kernel)
theorem tb_369 : Cond.selects "BathBaskets" ⟨"BathBaskets", "right", "()I"⟩ ⟨"BathBaskets", "right", "()I"⟩ ∈ tbG := mem_tb 369 (by decide +kernel) (by decide +kernel)
theorem tb_371 : Cond.methodLink "BathBaskets" 107 ⟨"BathBaskets$Bath", "strangers", "()I"⟩ ∈ tbG := mem_tb 371 (by decide +kernel) (by decide +kernel)
theorem tb_372 : Cond.instanceMethod ⟨"BathBaskets$Bath", "strangers", "()I"⟩ ∈ tbG := mem_tb 372 (by decide +kernel) (by decide +kernel)
theorem tb_373 : Cond.selects "BathBaskets$Bath" ⟨"BathBaskets$Bath", "strangers", "()I"⟩ ⟨"BathBaskets$Bath", "strangers", "()I"⟩ ∈ tbG := mem_tb 373 (by decide +kernel) (by decide +kernel)
theorem tb_375 : Cond.methodLink "BathBaskets" 111 ⟨"BathBaskets$Bath", "putRight", "()V"⟩ ∈ tbG := mem_tb 375 (by decide +kernel) (by decide +kernel)
theorem tb_376 : Cond.instanceMethod ⟨"BathBaskets$Bath", "putRight", "()V"⟩ ∈ tbG := mem_tb 376 (by decide +kernel) (by decide +kernel)
theorem tb_377 : Cond.selects "BathBaskets$Bath" ⟨"BathBaskets$Bath", "putRight", "()V"⟩ ⟨"BathBaskets$Bath", "putRight", "()V"⟩ ∈ tbG := mem_tb 377 (by decide +kernel) (by decide +kernel)
theorem tb_379 : Cond.methodLink "BathBasketsLaw" 23 ⟨"BathBaskets", "clock", "(II)I"⟩ ∈ tbG := mem_tb 379 (by decide +kernel) (by decide +kernel)
theorem tb_380 : Cond.instanceMethod ⟨"BathBaskets", "clock", "(II)I"⟩ ∈ tbG := mem_tb 380 (by decide +kernel) (by decide +kernel)
theorem tb_381 : Cond.selects "BathBaskets" ⟨"BathBaskets", "clock", "(II)I"⟩ ⟨"BathBaskets", "clock", "(II)I"⟩ ∈ tbG := mem_tb 381 (by decide +kernel) (by decide +kernel)
theorem tb_383 : Cond.methodLink "BathBasketsLaw" 28 ⟨"BathBaskets", "attendant", "(III)I"⟩ ∈ tbG := mem_tb 383 (by decide +kernel) (by decide +kernel)
theorem tb_384 : Cond.instanceMethod ⟨"BathBaskets", "attendant", "(III)I"⟩ ∈ tbG := mem_tb 384 (by decide +kernel) (by decide +kernel)
theorem tb_385 : Cond.selects "BathBaskets" ⟨"BathBaskets", "attendant", "(III)I"⟩ ⟨"BathBaskets", "attendant", "(III)I"⟩ ∈ tbG := mem_tb 385 (by decide +kernel) (by decide +kernel)
theorem tb_387 : Cond.methodLink "BathBasketsLaw" 32 ⟨"BathBaskets", "say", "(I)I"⟩ ∈ tbG := mem_tb 387 (by decide +kernel) (by decide +kernel)
theorem tb_388 : Cond.instanceMethod ⟨"BathBaskets", "say", "(I)I"⟩ ∈ tbG := mem_tb 388 (by decide +kernel) (by decide +kernel)
theorem tb_389 : Cond.selects "BathBaskets" ⟨"BathBaskets", "say", "(I)I"⟩ ⟨"BathBaskets", "say", "(I)I"⟩ ∈ tbG := mem_tb 389 (by decide +kernel) (by decide +kernel)
theorem tb_391 : Cond.methodLink "BathBaskets" 130 ⟨"BathBaskets$Pad", "write", "(I)Z"⟩ ∈ tbG := mem_tb 391 (by decide +kernel) (by decide +kernel)
theorem tb_392 : Cond.instanceMethod ⟨"BathBaskets$Pad", "write", "(I)Z"⟩ ∈ tbG := mem_tb 392 (by decide +kernel) (by decide +kernel)
theorem tb_393 : Cond.selects "BathBaskets$Pad" ⟨"BathBaskets$Pad", "write", "(I)Z"⟩ ⟨"BathBaskets$Pad", "write", "(I)Z"⟩ ∈ tbG := mem_tb 393 (by decide +kernel) (by decide +kernel)
theorem tb_395 : Cond.methodLink "BathBasketsLaw" 37 ⟨"BathBaskets", "wipe", "()I"⟩ ∈ tbG := mem_tb 395 (by decide +kernel) (by decide +kernel)
theorem tb_396 : Cond.instanceMethod ⟨"BathBaskets", "wipe", "()I"⟩ ∈ tbG := mem_tb 396 (by decide +kernel) (by decide +kernel)
theorem tb_397 : Cond.selects "BathBaskets" ⟨"BathBaskets", "wipe", "()I"⟩ ⟨"BathBaskets", "wipe", "()I"⟩ ∈ tbG := mem_tb 397 (by decide +kernel) (by decide +kernel)
theorem tb_399 : Cond.methodLink "BathBasketsLaw" 41 ⟨"BathBaskets", "fault", "()I"⟩ ∈ tbG := mem_tb 399 (by decide +kernel) (by decide +kernel)
theorem tb_400 : Cond.instanceMethod ⟨"BathBaskets", "fault", "()I"⟩ ∈ tbG := mem_tb 400 (by decide +kernel) (by decide +kernel)
theorem tb_401 : Cond.selects "BathBaskets" ⟨"BathBaskets", "fault", "()I"⟩ ⟨"BathBaskets", "fault", "()I"⟩ ∈ tbG := mem_tb 401 (by decide +kernel) (by decide +kernel)
theorem tb_403 : Cond.methodLink "BathBaskets" 136 ⟨"BathBaskets$Pad", "faultPlace", "()I"⟩ ∈ tbG := mem_tb 403 (by decide +kernel) (by decide +kernel)
theorem tb_404 : Cond.instanceMethod ⟨"BathBaskets$Pad", "faultPlace", "()I"⟩ ∈ tbG := mem_tb 404 (by decide +kernel) (by decide +kernel)
theorem tb_405 : Cond.selects "BathBaskets$Pad" ⟨"BathBaskets$Pad", "faultPlace", "()I"⟩ ⟨"BathBaskets$Pad", "faultPlace", "()I"⟩ ∈ tbG := mem_tb 405 (by decide +kernel) (by decide +kernel)
theorem tb_407 : Cond.methodLink "BathBaskets$Pad" 19 ⟨"BathBaskets$Pad", "ends", "(II)Z"⟩ ∈ tbG := mem_tb 407 (by decide +kernel) (by decide +kernel)
theorem tb_408 : Cond.static ⟨"BathBaskets$Pad", "ends", "(II)Z"⟩ ∈ tbG := mem_tb 408 (by decide +kernel) (by decide +kernel)
theorem tb_410 : Cond.methodLink "BathBaskets$Pad" 30 ⟨"BathBaskets$Pad", "isLetter", "(I)Z"⟩ ∈ tbG := mem_tb 410 (by decide +kernel) (by decide +kernel)
theorem tb_411 : Cond.static ⟨"BathBaskets$Pad", "isLetter", "(I)Z"⟩ ∈ tbG := mem_tb 411 (by decide +kernel) (by decide +kernel)
theorem tb_413 : Cond.methodLinkNest "BathBaskets$Pad" 36 ⟨"BathBaskets", "isCabin", "(I)Z"⟩ "BathBaskets" ∈ lw_tbl := List.mem_of_getElem? (i := 413) (by decide +kernel)
theorem tb_414 : Cond.methodLinkNest "BathBaskets$Pad" 33 ⟨"BathBaskets", "isThing", "(I)Z"⟩ "BathBaskets" ∈ lw_tbl := List.mem_of_getElem? (i := 414) (by decide +kernel)
theorem tb_415 : Cond.static ⟨"BathBaskets", "isThing", "(I)Z"⟩ ∈ tbG := mem_tb 415 (by decide +kernel) (by decide +kernel)
theorem tb_417 : Cond.methodLink "BathBaskets$Pad" 23 ⟨"BathBaskets$Pad", "begins", "(I)Z"⟩ ∈ tbG := mem_tb 417 (by decide +kernel) (by decide +kernel)
theorem tb_418 : Cond.static ⟨"BathBaskets$Pad", "begins", "(I)Z"⟩ ∈ tbG := mem_tb 418 (by decide +kernel) (by decide +kernel)
theorem tb_420 : Cond.methodLink "BathBaskets$Pad" 27 ⟨"BathBaskets$Pad", "isOfTwo", "(I)Z"⟩ ∈ tbG := mem_tb 420 (by decide +kernel) (by decide +kernel)
theorem tb_421 : Cond.static ⟨"BathBaskets$Pad", "isOfTwo", "(I)Z"⟩ ∈ tbG := mem_tb 421 (by decide +kernel) (by decide +kernel)
theorem tb_423 : Cond.methodLink "BathBasketsLaw" 45 ⟨"BathBaskets", "judge", "(I)I"⟩ ∈ tbG := mem_tb 423 (by decide +kernel) (by decide +kernel)
theorem tb_424 : Cond.instanceMethod ⟨"BathBaskets", "judge", "(I)I"⟩ ∈ tbG := mem_tb 424 (by decide +kernel) (by decide +kernel)
theorem tb_425 : Cond.selects "BathBaskets" ⟨"BathBaskets", "judge", "(I)I"⟩ ⟨"BathBaskets", "judge", "(I)I"⟩ ∈ tbG := mem_tb 425 (by decide +kernel) (by decide +kernel)
theorem tb_427 : Cond.methodLink "BathBaskets" 139 ⟨"BathBaskets", "playEvening", "()I"⟩ ∈ tbG := mem_tb 427 (by decide +kernel) (by decide +kernel)
theorem tb_429 : Cond.instanceMethod ⟨"BathBaskets", "playEvening", "()I"⟩ ∈ tbG := mem_tb 429 (by decide +kernel) (by decide +kernel)
theorem tb_431 : Cond.methodLink "BathBaskets" 288 ⟨"BathBaskets$Evening", "play", "(LBathBaskets$Bath;LBathBaskets$Pad;)V"⟩ ∈ tbG := mem_tb 431 (by decide +kernel) (by decide +kernel)
theorem tb_432 : Cond.instanceMethod ⟨"BathBaskets$Evening", "play", "(LBathBaskets$Bath;LBathBaskets$Pad;)V"⟩ ∈ tbG := mem_tb 432 (by decide +kernel) (by decide +kernel)
theorem tb_433 : Cond.selects "BathBaskets$Evening" ⟨"BathBaskets$Evening", "play", "(LBathBaskets$Bath;LBathBaskets$Pad;)V"⟩ ⟨"BathBaskets$Evening", "play", "(LBathBaskets$Bath;LBathBaskets$Pad;)V"⟩ ∈ tbG := mem_tb 433 (by decide +kernel) (by decide +kernel)
theorem tb_435 : Cond.methodLink "BathBaskets$Evening" 18 ⟨"BathBaskets$Bath", "takeOver", "(LBathBaskets$Bath;)V"⟩ ∈ tbG := mem_tb 435 (by decide +kernel) (by decide +kernel)
theorem tb_436 : Cond.instanceMethod ⟨"BathBaskets$Bath", "takeOver", "(LBathBaskets$Bath;)V"⟩ ∈ tbG := mem_tb 436 (by decide +kernel) (by decide +kernel)
theorem tb_437 : Cond.selects "BathBaskets$Bath" ⟨"BathBaskets$Bath", "takeOver", "(LBathBaskets$Bath;)V"⟩ ⟨"BathBaskets$Bath", "takeOver", "(LBathBaskets$Bath;)V"⟩ ∈ tbG := mem_tb 437 (by decide +kernel) (by decide +kernel)
theorem tb_439 : Cond.methodLink "BathBaskets$Bath" 25 ⟨"java/lang/System", "arraycopy", "(Ljava/lang/Object;ILjava/lang/Object;II)V"⟩ ∈ tbG := mem_tb 439 (by decide +kernel) (by decide +kernel)
theorem tb_440 : Cond.static ⟨"java/lang/System", "arraycopy", "(Ljava/lang/Object;ILjava/lang/Object;II)V"⟩ ∈ tbG := mem_tb 440 (by decide +kernel) (by decide +kernel)
theorem tb_441 : Cond.native ⟨"java/lang/System", "arraycopy", "(Ljava/lang/Object;ILjava/lang/Object;II)V"⟩ ∈ tbG := mem_tb 441 (by decide +kernel) (by decide +kernel)
theorem tb_442 : Cond.methodLink "BathBaskets$Evening" 46 ⟨"BathBaskets$Pad", "kindAt", "(I)I"⟩ ∈ tbG := mem_tb 442 (by decide +kernel) (by decide +kernel)
theorem tb_443 : Cond.instanceMethod ⟨"BathBaskets$Pad", "kindAt", "(I)I"⟩ ∈ tbG := mem_tb 443 (by decide +kernel) (by decide +kernel)
theorem tb_444 : Cond.selects "BathBaskets$Pad" ⟨"BathBaskets$Pad", "kindAt", "(I)I"⟩ ⟨"BathBaskets$Pad", "kindAt", "(I)I"⟩ ∈ tbG := mem_tb 444 (by decide +kernel) (by decide +kernel)
theorem tb_446 : Cond.methodLink "BathBaskets$Evening" 50 ⟨"BathBaskets$Pad", "operandAt", "(I)I"⟩ ∈ tbG := mem_tb 446 (by decide +kernel) (by decide +kernel)
theorem tb_447 : Cond.instanceMethod ⟨"BathBaskets$Pad", "operandAt", "(I)I"⟩ ∈ tbG := mem_tb 447 (by decide +kernel) (by decide +kernel)
theorem tb_448 : Cond.selects "BathBaskets$Pad" ⟨"BathBaskets$Pad", "operandAt", "(I)I"⟩ ⟨"BathBaskets$Pad", "operandAt", "(I)I"⟩ ∈ tbG := mem_tb 448 (by decide +kernel) (by decide +kernel)
theorem tb_450 : Cond.methodLink "BathBaskets$Evening" 53 ⟨"BathBaskets$Evening", "playAct", "(II)V"⟩ ∈ tbG := mem_tb 450 (by decide +kernel) (by decide +kernel)
theorem tb_452 : Cond.instanceMethod ⟨"BathBaskets$Evening", "playAct", "(II)V"⟩ ∈ tbG := mem_tb 452 (by decide +kernel) (by decide +kernel)
theorem tb_454 : Cond.methodLink "BathBaskets$Evening" 60 ⟨"BathBaskets$Bath", "whyNot", "(II)I"⟩ ∈ tbG := mem_tb 454 (by decide +kernel) (by decide +kernel)
theorem tb_455 : Cond.instanceMethod ⟨"BathBaskets$Bath", "whyNot", "(II)I"⟩ ∈ tbG := mem_tb 455 (by decide +kernel) (by decide +kernel)
theorem tb_456 : Cond.selects "BathBaskets$Bath" ⟨"BathBaskets$Bath", "whyNot", "(II)I"⟩ ⟨"BathBaskets$Bath", "whyNot", "(II)I"⟩ ∈ tbG := mem_tb 456 (by decide +kernel) (by decide +kernel)
theorem tb_458 : Cond.methodLink "BathBaskets$Bath" 43 ⟨"java/lang/Math", "abs", "(I)I"⟩ ∈ tbG := mem_tb 458 (by decide +kernel) (by decide +kernel)
theorem tb_459 : Cond.static ⟨"java/lang/Math", "abs", "(I)I"⟩ ∈ tbG := mem_tb 459 (by decide +kernel) (by decide +kernel)
theorem tb_461 : Cond.methodLink "BathBaskets$Bath" 49 ⟨"BathBaskets$Bath", "whyTooLate", "(I)I"⟩ ∈ tbG := mem_tb 461 (by decide +kernel) (by decide +kernel)
theorem tb_463 : Cond.instanceMethod ⟨"BathBaskets$Bath", "whyTooLate", "(I)I"⟩ ∈ tbG := mem_tb 463 (by decide +kernel) (by decide +kernel)
theorem tb_465 : Cond.methodLink "BathBaskets$Bath" 52 ⟨"BathBaskets$Bath", "basketHere", "()I"⟩ ∈ tbG := mem_tb 465 (by decide +kernel) (by decide +kernel)
theorem tb_466 : Cond.instanceMethod ⟨"BathBaskets$Bath", "basketHere", "()I"⟩ ∈ tbG := mem_tb 466 (by decide +kernel) (by decide +kernel)
theorem tb_467 : Cond.selects "BathBaskets$Bath" ⟨"BathBaskets$Bath", "basketHere", "()I"⟩ ⟨"BathBaskets$Bath", "basketHere", "()I"⟩ ∈ tbG := mem_tb 467 (by decide +kernel) (by decide +kernel)
theorem tb_469 : Cond.methodLink "BathBaskets$Bath" 56 ⟨"BathBaskets$Bath", "whyNotMoved", "(III)I"⟩ ∈ tbG := mem_tb 469 (by decide +kernel) (by decide +kernel)
theorem tb_471 : Cond.instanceMethod ⟨"BathBaskets$Bath", "whyNotMoved", "(III)I"⟩ ∈ tbG := mem_tb 471 (by decide +kernel) (by decide +kernel)
theorem tb_473 : Cond.methodLinkNest "BathBaskets$Bath" 60 ⟨"BathBaskets", "isIn", "(II)Z"⟩ "BathBaskets" ∈ lw_tbl := List.mem_of_getElem? (i := 473) (by decide +kernel)
theorem tb_474 : Cond.static ⟨"BathBaskets", "isIn", "(II)Z"⟩ ∈ tbG := mem_tb 474 (by decide +kernel) (by decide +kernel)
theorem tb_476 : Cond.methodLink "BathBaskets$Evening" 64 ⟨"BathBaskets$Bath", "basketHere", "()I"⟩ ∈ tbG := mem_tb 476 (by decide +kernel) (by decide +kernel)
theorem tb_477 : Cond.methodLink "BathBaskets$Evening" 71 ⟨"java/lang/Math", "min", "(II)I"⟩ ∈ tbG := mem_tb 477 (by decide +kernel) (by decide +kernel)
theorem tb_478 : Cond.static ⟨"java/lang/Math", "min", "(II)I"⟩ ∈ tbG := mem_tb 478 (by decide +kernel) (by decide +kernel)
theorem tb_480 : Cond.methodLink "BathBaskets$Evening" 76 ⟨"java/lang/Math", "max", "(II)I"⟩ ∈ tbG := mem_tb 480 (by decide +kernel) (by decide +kernel)
theorem tb_481 : Cond.static ⟨"java/lang/Math", "max", "(II)I"⟩ ∈ tbG := mem_tb 481 (by decide +kernel) (by decide +kernel)
theorem tb_483 : Cond.methodLink "BathBaskets$Evening" 79 ⟨"BathBaskets$Evening", "noteLoss", "(II)V"⟩ ∈ tbG := mem_tb 483 (by decide +kernel) (by decide +kernel)
theorem tb_485 : Cond.instanceMethod ⟨"BathBaskets$Evening", "noteLoss", "(II)V"⟩ ∈ tbG := mem_tb 485 (by decide +kernel) (by decide +kernel)
theorem tb_487 : Cond.methodLink "BathBaskets$Evening" 82 ⟨"BathBaskets$Bath", "perform", "(II)V"⟩ ∈ tbG := mem_tb 487 (by decide +kernel) (by decide +kernel)
theorem tb_488 : Cond.instanceMethod ⟨"BathBaskets$Bath", "perform", "(II)V"⟩ ∈ tbG := mem_tb 488 (by decide +kernel) (by decide +kernel)
theorem tb_489 : Cond.selects "BathBaskets$Bath" ⟨"BathBaskets$Bath", "perform", "(II)V"⟩ ⟨"BathBaskets$Bath", "perform", "(II)V"⟩ ∈ tbG := mem_tb 489 (by decide +kernel) (by decide +kernel)
theorem tb_491 : Cond.methodLink "BathBaskets$Evening" 57 ⟨"BathBaskets$Pad", "widthAt", "(I)I"⟩ ∈ tbG := mem_tb 491 (by decide +kernel) (by decide +kernel)
theorem tb_492 : Cond.instanceMethod ⟨"BathBaskets$Pad", "widthAt", "(I)I"⟩ ∈ tbG := mem_tb 492 (by decide +kernel) (by decide +kernel)
theorem tb_493 : Cond.selects "BathBaskets$Pad" ⟨"BathBaskets$Pad", "widthAt", "(I)I"⟩ ⟨"BathBaskets$Pad", "widthAt", "(I)I"⟩ ∈ tbG := mem_tb 493 (by decide +kernel) (by decide +kernel)
theorem tb_495 : Cond.methodLink "BathBasketsLaw" 49 ⟨"BathBaskets", "behind", "(II)I"⟩ ∈ tbG := mem_tb 495 (by decide +kernel) (by decide +kernel)
theorem tb_496 : Cond.instanceMethod ⟨"BathBaskets", "behind", "(II)I"⟩ ∈ tbG := mem_tb 496 (by decide +kernel) (by decide +kernel)
theorem tb_497 : Cond.selects "BathBaskets" ⟨"BathBaskets", "behind", "(II)I"⟩ ⟨"BathBaskets", "behind", "(II)I"⟩ ∈ tbG := mem_tb 497 (by decide +kernel) (by decide +kernel)
theorem tb_499 : Cond.methodLink "BathBasketsLaw" 53 ⟨"BathBaskets", "his", "(I)I"⟩ ∈ tbG := mem_tb 499 (by decide +kernel) (by decide +kernel)
theorem tb_500 : Cond.instanceMethod ⟨"BathBaskets", "his", "(I)I"⟩ ∈ tbG := mem_tb 500 (by decide +kernel) (by decide +kernel)
theorem tb_501 : Cond.selects "BathBaskets" ⟨"BathBaskets", "his", "(I)I"⟩ ⟨"BathBaskets", "his", "(I)I"⟩ ∈ tbG := mem_tb 501 (by decide +kernel) (by decide +kernel)
theorem tb_503 : Cond.methodLink "BathBasketsLaw" 57 ⟨"BathBaskets", "wrong", "(I)I"⟩ ∈ tbG := mem_tb 503 (by decide +kernel) (by decide +kernel)
theorem tb_504 : Cond.instanceMethod ⟨"BathBaskets", "wrong", "(I)I"⟩ ∈ tbG := mem_tb 504 (by decide +kernel) (by decide +kernel)
theorem tb_505 : Cond.selects "BathBaskets" ⟨"BathBaskets", "wrong", "(I)I"⟩ ⟨"BathBaskets", "wrong", "(I)I"⟩ ∈ tbG := mem_tb 505 (by decide +kernel) (by decide +kernel)
theorem tb_507 : Cond.methodLink "BathBasketsLaw" 61 ⟨"BathBaskets", "done", "()I"⟩ ∈ tbG := mem_tb 507 (by decide +kernel) (by decide +kernel)
theorem tb_508 : Cond.instanceMethod ⟨"BathBaskets", "done", "()I"⟩ ∈ tbG := mem_tb 508 (by decide +kernel) (by decide +kernel)
theorem tb_509 : Cond.selects "BathBaskets" ⟨"BathBaskets", "done", "()I"⟩ ⟨"BathBaskets", "done", "()I"⟩ ∈ tbG := mem_tb 509 (by decide +kernel) (by decide +kernel)
theorem tb_511 : Cond.methodLink "BathBaskets" 161 ⟨"BathBaskets$Bath", "takeOver", "(LBathBaskets$Bath;)V"⟩ ∈ tbG := mem_tb 511 (by decide +kernel) (by decide +kernel)
theorem tb_512 : Cond.methodLink "BathBasketsLaw" 65 ⟨"BathBaskets", "round", "(II)I"⟩ ∈ tbG := mem_tb 512 (by decide +kernel) (by decide +kernel)
theorem tb_513 : Cond.instanceMethod ⟨"BathBaskets", "round", "(II)I"⟩ ∈ tbG := mem_tb 513 (by decide +kernel) (by decide +kernel)
theorem tb_514 : Cond.selects "BathBaskets" ⟨"BathBaskets", "round", "(II)I"⟩ ⟨"BathBaskets", "round", "(II)I"⟩ ∈ tbG := mem_tb 514 (by decide +kernel) (by decide +kernel)
theorem tb_516 : Cond.methodLink "BathBaskets" 168 ⟨"BathBaskets$Choice", "planRound", "(LBathBaskets$Bath;I)V"⟩ ∈ tbG := mem_tb 516 (by decide +kernel) (by decide +kernel)
theorem tb_517 : Cond.instanceMethod ⟨"BathBaskets$Choice", "planRound", "(LBathBaskets$Bath;I)V"⟩ ∈ tbG := mem_tb 517 (by decide +kernel) (by decide +kernel)
theorem tb_518 : Cond.selects "BathBaskets$Choice" ⟨"BathBaskets$Choice", "planRound", "(LBathBaskets$Bath;I)V"⟩ ⟨"BathBaskets$Choice", "planRound", "(LBathBaskets$Bath;I)V"⟩ ∈ tbG := mem_tb 518 (by decide +kernel) (by decide +kernel)
theorem tb_520 : Cond.methodLink "BathBaskets$Choice" 15 ⟨"BathBaskets$Choice", "sumMinutes", "(LBathBaskets$Bath;)V"⟩ ∈ tbG := mem_tb 520 (by decide +kernel) (by decide +kernel)
theorem tb_522 : Cond.instanceMethod ⟨"BathBaskets$Choice", "sumMinutes", "(LBathBaskets$Bath;)V"⟩ ∈ tbG := mem_tb 522 (by decide +kernel) (by decide +kernel)
theorem tb_524 : Cond.methodLink "BathBaskets$Choice" 34 ⟨"java/lang/Integer", "bitCount", "(I)I"⟩ ∈ tbG := mem_tb 524 (by decide +kernel) (by decide +kernel)
theorem tb_525 : Cond.static ⟨"java/lang/Integer", "bitCount", "(I)I"⟩ ∈ tbG := mem_tb 525 (by decide +kernel) (by decide +kernel)
theorem tb_527 : Cond.constant "java/lang/Integer" 265 (1431655765 : Int32) ∈ tbG := mem_tb 527 (by decide +kernel) (by decide +kernel)
theorem tb_528 : Cond.constant "java/lang/Integer" 266 (858993459 : Int32) ∈ tbG := mem_tb 528 (by decide +kernel) (by decide +kernel)
theorem tb_529 : Cond.constant "java/lang/Integer" 267 (252645135 : Int32) ∈ tbG := mem_tb 529 (by decide +kernel) (by decide +kernel)
theorem tb_530 : Cond.methodLink "BathBaskets$Choice" 43 ⟨"BathBaskets$Choice", "walk", "(III)I"⟩ ∈ tbG := mem_tb 530 (by decide +kernel) (by decide +kernel)
theorem tb_531 : Cond.static ⟨"BathBaskets$Choice", "walk", "(III)I"⟩ ∈ tbG := mem_tb 531 (by decide +kernel) (by decide +kernel)
theorem tb_533 : Cond.methodLinkNest "BathBaskets$Choice" 53 ⟨"BathBaskets", "isIn", "(II)Z"⟩ "BathBaskets" ∈ lw_tbl := List.mem_of_getElem? (i := 533) (by decide +kernel)
theorem tb_534 : Cond.methodLink "BathBaskets$Choice" 57 ⟨"java/lang/Math", "min", "(II)I"⟩ ∈ tbG := mem_tb 534 (by decide +kernel) (by decide +kernel)
theorem tb_535 : Cond.methodLink "BathBasketsLaw" 69 ⟨"BathBaskets", "show", "(II)I"⟩ ∈ tbG := mem_tb 535 (by decide +kernel) (by decide +kernel)
theorem tb_536 : Cond.instanceMethod ⟨"BathBaskets", "show", "(II)I"⟩ ∈ tbG := mem_tb 536 (by decide +kernel) (by decide +kernel)
theorem tb_537 : Cond.selects "BathBaskets" ⟨"BathBaskets", "show", "(II)I"⟩ ⟨"BathBaskets", "show", "(II)I"⟩ ∈ tbG := mem_tb 537 (by decide +kernel) (by decide +kernel)
theorem tb_539 : Cond.methodLink "BathBaskets" 178 ⟨"BathBaskets$Choice", "uncover", "(LBathBaskets$Bath;I)V"⟩ ∈ tbG := mem_tb 539 (by decide +kernel) (by decide +kernel)
theorem tb_540 : Cond.instanceMethod ⟨"BathBaskets$Choice", "uncover", "(LBathBaskets$Bath;I)V"⟩ ∈ tbG := mem_tb 540 (by decide +kernel) (by decide +kernel)
theorem tb_541 : Cond.selects "BathBaskets$Choice" ⟨"BathBaskets$Choice", "uncover", "(LBathBaskets$Bath;I)V"⟩ ⟨"BathBaskets$Choice", "uncover", "(LBathBaskets$Bath;I)V"⟩ ∈ tbG := mem_tb 541 (by decide +kernel) (by decide +kernel)
theorem tb_543 : Cond.methodLink "BathBaskets$Choice" 63 ⟨"BathBaskets$Choice", "joinThings", "(LBathBaskets$Bath;)V"⟩ ∈ tbG := mem_tb 543 (by decide +kernel) (by decide +kernel)
theorem tb_545 : Cond.instanceMethod ⟨"BathBaskets$Choice", "joinThings", "(LBathBaskets$Bath;)V"⟩ ∈ tbG := mem_tb 545 (by decide +kernel) (by decide +kernel)
theorem tb_547 : Cond.methodLink "BathBasketsLaw" 73 ⟨"BathBaskets", "owners", "(II)I"⟩ ∈ tbG := mem_tb 547 (by decide +kernel) (by decide +kernel)
theorem tb_548 : Cond.instanceMethod ⟨"BathBaskets", "owners", "(II)I"⟩ ∈ tbG := mem_tb 548 (by decide +kernel) (by decide +kernel)
theorem tb_549 : Cond.selects "BathBaskets" ⟨"BathBaskets", "owners", "(II)I"⟩ ⟨"BathBaskets", "owners", "(II)I"⟩ ∈ tbG := mem_tb 549 (by decide +kernel) (by decide +kernel)
theorem tb_551 : Cond.methodLink "BathBaskets" 181 ⟨"BathBaskets", "isThing", "(I)Z"⟩ ∈ tbG := mem_tb 551 (by decide +kernel) (by decide +kernel)
theorem tb_552 : Cond.methodLink "BathBaskets" 184 ⟨"BathBaskets$Matching", "pair", "(LBathBaskets$Bath;I)V"⟩ ∈ tbG := mem_tb 552 (by decide +kernel) (by decide +kernel)
theorem tb_553 : Cond.instanceMethod ⟨"BathBaskets$Matching", "pair", "(LBathBaskets$Bath;I)V"⟩ ∈ tbG := mem_tb 553 (by decide +kernel) (by decide +kernel)
theorem tb_554 : Cond.selects "BathBaskets$Matching" ⟨"BathBaskets$Matching", "pair", "(LBathBaskets$Bath;I)V"⟩ ⟨"BathBaskets$Matching", "pair", "(LBathBaskets$Bath;I)V"⟩ ∈ tbG := mem_tb 554 (by decide +kernel) (by decide +kernel)
theorem tb_556 : Cond.methodLink "BathBaskets$Matching" 18 ⟨"BathBaskets$Matching", "joinHomes", "(LBathBaskets$Bath;)V"⟩ ∈ tbG := mem_tb 556 (by decide +kernel) (by decide +kernel)
theorem tb_558 : Cond.instanceMethod ⟨"BathBaskets$Matching", "joinHomes", "(LBathBaskets$Bath;)V"⟩ ∈ tbG := mem_tb 558 (by decide +kernel) (by decide +kernel)
theorem tb_560 : Cond.methodLinkNest "BathBaskets$Matching" 30 ⟨"BathBaskets", "isIn", "(II)Z"⟩ "BathBaskets" ∈ lw_tbl := List.mem_of_getElem? (i := 560) (by decide +kernel)
theorem tb_561 : Cond.methodLink "BathBaskets$Matching" 22 ⟨"BathBaskets$Matching", "mostAtOnce", "(II)I"⟩ ∈ tbG := mem_tb 561 (by decide +kernel) (by decide +kernel)
theorem tb_563 : Cond.instanceMethod ⟨"BathBaskets$Matching", "mostAtOnce", "(II)I"⟩ ∈ tbG := mem_tb 563 (by decide +kernel) (by decide +kernel)
theorem tb_565 : Cond.methodLink "BathBaskets$Matching" 43 ⟨"java/lang/Integer", "bitCount", "(I)I"⟩ ∈ tbG := mem_tb 565 (by decide +kernel) (by decide +kernel)
theorem tb_566 : Cond.methodLink "BathBaskets$Matching" 49 ⟨"java/lang/Math", "min", "(II)I"⟩ ∈ tbG := mem_tb 566 (by decide +kernel) (by decide +kernel)
theorem tb_567 : Cond.methodLink "BathBaskets$Matching" 34 ⟨"BathBaskets$Matching", "leastBasket", "(IIII)I"⟩ ∈ tbG := mem_tb 567 (by decide +kernel) (by decide +kernel)
theorem tb_569 : Cond.instanceMethod ⟨"BathBaskets$Matching", "leastBasket", "(IIII)I"⟩ ∈ tbG := mem_tb 569 (by decide +kernel) (by decide +kernel)
theorem tb_571 : Cond.methodLink "BathBasketsLaw" 77 ⟨"BathBaskets", "towels", "(II)I"⟩ ∈ tbG := mem_tb 571 (by decide +kernel) (by decide +kernel)
theorem tb_572 : Cond.instanceMethod ⟨"BathBaskets", "towels", "(II)I"⟩ ∈ tbG := mem_tb 572 (by decide +kernel) (by decide +kernel)
theorem tb_573 : Cond.selects "BathBaskets" ⟨"BathBaskets", "towels", "(II)I"⟩ ⟨"BathBaskets", "towels", "(II)I"⟩ ∈ tbG := mem_tb 573 (by decide +kernel) (by decide +kernel)
theorem tb_575 : Cond.methodLink "BathBaskets" 191 ⟨"BathBaskets$Hooks", "hang", "(I)Z"⟩ ∈ tbG := mem_tb 575 (by decide +kernel) (by decide +kernel)
theorem tb_576 : Cond.instanceMethod ⟨"BathBaskets$Hooks", "hang", "(I)Z"⟩ ∈ tbG := mem_tb 576 (by decide +kernel) (by decide +kernel)
theorem tb_577 : Cond.selects "BathBaskets$Hooks" ⟨"BathBaskets$Hooks", "hang", "(I)Z"⟩ ⟨"BathBaskets$Hooks", "hang", "(I)Z"⟩ ∈ tbG := mem_tb 577 (by decide +kernel) (by decide +kernel)
theorem tb_579 : Cond.methodLinkNest "BathBaskets$Hooks" 13 ⟨"BathBaskets", "isWithin", "(III)Z"⟩ "BathBaskets" ∈ lw_tbl := List.mem_of_getElem? (i := 579) (by decide +kernel)
theorem tb_580 : Cond.methodLinkNest "BathBaskets$Hooks" 19 ⟨"BathBaskets", "isIn", "(II)Z"⟩ "BathBaskets" ∈ lw_tbl := List.mem_of_getElem? (i := 580) (by decide +kernel)
theorem tb_581 : Cond.methodLink "BathBaskets" 194 ⟨"BathBaskets$Hooks", "follow", "()V"⟩ ∈ tbG := mem_tb 581 (by decide +kernel) (by decide +kernel)
theorem tb_582 : Cond.instanceMethod ⟨"BathBaskets$Hooks", "follow", "()V"⟩ ∈ tbG := mem_tb 582 (by decide +kernel) (by decide +kernel)
theorem tb_583 : Cond.selects "BathBaskets$Hooks" ⟨"BathBaskets$Hooks", "follow", "()V"⟩ ⟨"BathBaskets$Hooks", "follow", "()V"⟩ ∈ tbG := mem_tb 583 (by decide +kernel) (by decide +kernel)
theorem tb_585 : Cond.methodLink "BathBaskets$Hooks" 30 ⟨"BathBaskets$Hooks", "leastMultiple", "(II)I"⟩ ∈ tbG := mem_tb 585 (by decide +kernel) (by decide +kernel)
theorem tb_586 : Cond.static ⟨"BathBaskets$Hooks", "leastMultiple", "(II)I"⟩ ∈ tbG := mem_tb 586 (by decide +kernel) (by decide +kernel)
theorem tb_588 : Cond.methodLink "BathBasketsLaw" 81 ⟨"BathBaskets", "found", "(II)I"⟩ ∈ tbG := mem_tb 588 (by decide +kernel) (by decide +kernel)
theorem tb_589 : Cond.instanceMethod ⟨"BathBaskets", "found", "(II)I"⟩ ∈ tbG := mem_tb 589 (by decide +kernel) (by decide +kernel)
theorem tb_590 : Cond.selects "BathBaskets" ⟨"BathBaskets", "found", "(II)I"⟩ ⟨"BathBaskets", "found", "(II)I"⟩ ∈ tbG := mem_tb 590 (by decide +kernel) (by decide +kernel)
theorem tb_592 : Cond.methodLink "BathBaskets" 203 ⟨"BathBaskets$Notes", "write", "(II)Z"⟩ ∈ tbG := mem_tb 592 (by decide +kernel) (by decide +kernel)
theorem tb_593 : Cond.instanceMethod ⟨"BathBaskets$Notes", "write", "(II)Z"⟩ ∈ tbG := mem_tb 593 (by decide +kernel) (by decide +kernel)
theorem tb_594 : Cond.selects "BathBaskets$Notes" ⟨"BathBaskets$Notes", "write", "(II)Z"⟩ ⟨"BathBaskets$Notes", "write", "(II)Z"⟩ ∈ tbG := mem_tb 594 (by decide +kernel) (by decide +kernel)
theorem tb_596 : Cond.methodLink "BathBasketsLaw" 85 ⟨"BathBaskets", "forget", "()I"⟩ ∈ tbG := mem_tb 596 (by decide +kernel) (by decide +kernel)
theorem tb_597 : Cond.instanceMethod ⟨"BathBaskets", "forget", "()I"⟩ ∈ tbG := mem_tb 597 (by decide +kernel) (by decide +kernel)
theorem tb_598 : Cond.selects "BathBaskets" ⟨"BathBaskets", "forget", "()I"⟩ ⟨"BathBaskets", "forget", "()I"⟩ ∈ tbG := mem_tb 598 (by decide +kernel) (by decide +kernel)
theorem tb_600 : Cond.methodLink "BathBasketsLaw" 89 ⟨"BathBaskets", "fits", "(I)I"⟩ ∈ tbG := mem_tb 600 (by decide +kernel) (by decide +kernel)
theorem tb_601 : Cond.instanceMethod ⟨"BathBaskets", "fits", "(I)I"⟩ ∈ tbG := mem_tb 601 (by decide +kernel) (by decide +kernel)
theorem tb_602 : Cond.selects "BathBaskets" ⟨"BathBaskets", "fits", "(I)I"⟩ ⟨"BathBaskets", "fits", "(I)I"⟩ ∈ tbG := mem_tb 602 (by decide +kernel) (by decide +kernel)
theorem tb_604 : Cond.methodLink "BathBaskets" 207 ⟨"BathBaskets$Laws", "gather", "(LBathBaskets$Notes;)V"⟩ ∈ tbG := mem_tb 604 (by decide +kernel) (by decide +kernel)
theorem tb_605 : Cond.instanceMethod ⟨"BathBaskets$Laws", "gather", "(LBathBaskets$Notes;)V"⟩ ∈ tbG := mem_tb 605 (by decide +kernel) (by decide +kernel)
theorem tb_606 : Cond.selects "BathBaskets$Laws" ⟨"BathBaskets$Laws", "gather", "(LBathBaskets$Notes;)V"⟩ ⟨"BathBaskets$Laws", "gather", "(LBathBaskets$Notes;)V"⟩ ∈ tbG := mem_tb 606 (by decide +kernel) (by decide +kernel)
theorem tb_608 : Cond.methodLink "BathBaskets$Laws" 22 ⟨"BathBaskets$Laws", "agree", "(LBathBaskets$Notes;II)Z"⟩ ∈ tbG := mem_tb 608 (by decide +kernel) (by decide +kernel)
theorem tb_609 : Cond.static ⟨"BathBaskets$Laws", "agree", "(LBathBaskets$Notes;II)Z"⟩ ∈ tbG := mem_tb 609 (by decide +kernel) (by decide +kernel)
theorem tb_611 : Cond.methodLink "BathBaskets$Laws" 32 ⟨"BathBaskets$Laws", "thingOn", "(III)I"⟩ ∈ tbG := mem_tb 611 (by decide +kernel) (by decide +kernel)
theorem tb_612 : Cond.static ⟨"BathBaskets$Laws", "thingOn", "(III)I"⟩ ∈ tbG := mem_tb 612 (by decide +kernel) (by decide +kernel)
theorem tb_614 : Cond.methodLink "BathBasketsLaw" 93 ⟨"BathBaskets", "ask", "(I)I"⟩ ∈ tbG := mem_tb 614 (by decide +kernel) (by decide +kernel)
theorem tb_615 : Cond.instanceMethod ⟨"BathBaskets", "ask", "(I)I"⟩ ∈ tbG := mem_tb 615 (by decide +kernel) (by decide +kernel)
theorem tb_616 : Cond.selects "BathBaskets" ⟨"BathBaskets", "ask", "(I)I"⟩ ⟨"BathBaskets", "ask", "(I)I"⟩ ∈ tbG := mem_tb 616 (by decide +kernel) (by decide +kernel)
theorem tb_618 : Cond.methodLink "BathBaskets" 215 ⟨"BathBaskets$Laws", "chooseDay", "()V"⟩ ∈ tbG := mem_tb 618 (by decide +kernel) (by decide +kernel)
theorem tb_619 : Cond.instanceMethod ⟨"BathBaskets$Laws", "chooseDay", "()V"⟩ ∈ tbG := mem_tb 619 (by decide +kernel) (by decide +kernel)
theorem tb_620 : Cond.selects "BathBaskets$Laws" ⟨"BathBaskets$Laws", "chooseDay", "()V"⟩ ⟨"BathBaskets$Laws", "chooseDay", "()V"⟩ ∈ tbG := mem_tb 620 (by decide +kernel) (by decide +kernel)
theorem tb_622 : Cond.methodLink "BathBaskets$Laws" 45 ⟨"BathBaskets$Laws", "mostLeftAfter", "(I)I"⟩ ∈ tbG := mem_tb 622 (by decide +kernel) (by decide +kernel)
theorem tb_624 : Cond.instanceMethod ⟨"BathBaskets$Laws", "mostLeftAfter", "(I)I"⟩ ∈ tbG := mem_tb 624 (by decide +kernel) (by decide +kernel)
theorem tb_626 : Cond.methodLink "BathBaskets$Laws" 49 ⟨"java/lang/Math", "max", "(II)I"⟩ ∈ tbG := mem_tb 626 (by decide +kernel) (by decide +kernel)
theorem tb_627 : Cond.methodLink "BathBasketsLaw" 97 ⟨"BathBaskets", "piles", "(III)I"⟩ ∈ tbG := mem_tb 627 (by decide +kernel) (by decide +kernel)
theorem tb_628 : Cond.instanceMethod ⟨"BathBaskets", "piles", "(III)I"⟩ ∈ tbG := mem_tb 628 (by decide +kernel) (by decide +kernel)
theorem tb_629 : Cond.selects "BathBaskets" ⟨"BathBaskets", "piles", "(III)I"⟩ ⟨"BathBaskets", "piles", "(III)I"⟩ ∈ tbG := mem_tb 629 (by decide +kernel) (by decide +kernel)
theorem tb_631 : Cond.methodLink "BathBaskets" 224 ⟨"BathBaskets$TwoPiles", "winningTake", "(II)I"⟩ ∈ tbG := mem_tb 631 (by decide +kernel) (by decide +kernel)
theorem tb_632 : Cond.instanceMethod ⟨"BathBaskets$TwoPiles", "winningTake", "(II)I"⟩ ∈ tbG := mem_tb 632 (by decide +kernel) (by decide +kernel)
theorem tb_633 : Cond.selects "BathBaskets$TwoPiles" ⟨"BathBaskets$TwoPiles", "winningTake", "(II)I"⟩ ⟨"BathBaskets$TwoPiles", "winningTake", "(II)I"⟩ ∈ tbG := mem_tb 633 (by decide +kernel) (by decide +kernel)
theorem tb_635 : Cond.methodLink "BathBaskets" 228 ⟨"BathBaskets$TwoPiles", "isLost", "(II)Z"⟩ ∈ tbG := mem_tb 635 (by decide +kernel) (by decide +kernel)
theorem tb_636 : Cond.instanceMethod ⟨"BathBaskets$TwoPiles", "isLost", "(II)Z"⟩ ∈ tbG := mem_tb 636 (by decide +kernel) (by decide +kernel)
theorem tb_637 : Cond.selects "BathBaskets$TwoPiles" ⟨"BathBaskets$TwoPiles", "isLost", "(II)Z"⟩ ⟨"BathBaskets$TwoPiles", "isLost", "(II)Z"⟩ ∈ tbG := mem_tb 637 (by decide +kernel) (by decide +kernel)
theorem tb_639 : Cond.methodLink "BathBasketsLaw" 101 ⟨"BathBaskets", "lengths", "(IIIII)J"⟩ ∈ tbG := mem_tb 639 (by decide +kernel) (by decide +kernel)
theorem tb_640 : Cond.instanceMethod ⟨"BathBaskets", "lengths", "(IIIII)J"⟩ ∈ tbG := mem_tb 640 (by decide +kernel) (by decide +kernel)
theorem tb_641 : Cond.selects "BathBaskets" ⟨"BathBaskets", "lengths", "(IIIII)J"⟩ ⟨"BathBaskets", "lengths", "(IIIII)J"⟩ ∈ tbG := mem_tb 641 (by decide +kernel) (by decide +kernel)
theorem tb_643 : Cond.constantLong "BathBaskets" 231 (-1000000000000000002 : Int64) ∈ tbG := mem_tb 643 (by decide +kernel) (by decide +kernel)
theorem tb_644 : Cond.methodLink "BathBaskets" 233 ⟨"BathBaskets$Swim", "spread", "(II)V"⟩ ∈ tbG := mem_tb 644 (by decide +kernel) (by decide +kernel)
theorem tb_645 : Cond.instanceMethod ⟨"BathBaskets$Swim", "spread", "(II)V"⟩ ∈ tbG := mem_tb 645 (by decide +kernel) (by decide +kernel)
theorem tb_646 : Cond.selects "BathBaskets$Swim" ⟨"BathBaskets$Swim", "spread", "(II)V"⟩ ⟨"BathBaskets$Swim", "spread", "(II)V"⟩ ∈ tbG := mem_tb 646 (by decide +kernel) (by decide +kernel)
theorem tb_648 : Cond.constantLong "BathBaskets$Swim" 19 (10 : Int64) ∈ tbG := mem_tb 648 (by decide +kernel) (by decide +kernel)
theorem tb_649 : Cond.methodLink "BathBaskets" 237 ⟨"BathBaskets$Swim", "waysToReach", "(I)J"⟩ ∈ tbG := mem_tb 649 (by decide +kernel) (by decide +kernel)
theorem tb_650 : Cond.instanceMethod ⟨"BathBaskets$Swim", "waysToReach", "(I)J"⟩ ∈ tbG := mem_tb 650 (by decide +kernel) (by decide +kernel)
theorem tb_651 : Cond.selects "BathBaskets$Swim" ⟨"BathBaskets$Swim", "waysToReach", "(I)J"⟩ ⟨"BathBaskets$Swim", "waysToReach", "(I)J"⟩ ∈ tbG := mem_tb 651 (by decide +kernel) (by decide +kernel)
theorem tb_653 : Cond.methodLink "BathBaskets" 241 ⟨"BathBaskets$Swim", "lengthsUpTo", "(I)J"⟩ ∈ tbG := mem_tb 653 (by decide +kernel) (by decide +kernel)
theorem tb_654 : Cond.instanceMethod ⟨"BathBaskets$Swim", "lengthsUpTo", "(I)J"⟩ ∈ tbG := mem_tb 654 (by decide +kernel) (by decide +kernel)
theorem tb_655 : Cond.selects "BathBaskets$Swim" ⟨"BathBaskets$Swim", "lengthsUpTo", "(I)J"⟩ ⟨"BathBaskets$Swim", "lengthsUpTo", "(I)J"⟩ ∈ tbG := mem_tb 655 (by decide +kernel) (by decide +kernel)
theorem tb_657 : Cond.methodLink "BathBaskets$Swim" 21 ⟨"java/lang/Math", "min", "(II)I"⟩ ∈ tbG := mem_tb 657 (by decide +kernel) (by decide +kernel)
theorem tb_658 : Cond.methodLink "BathBaskets" 248 ⟨"BathBaskets", "greatestDivisor", "(JJ)J"⟩ ∈ tbG := mem_tb 658 (by decide +kernel) (by decide +kernel)
theorem tb_659 : Cond.static ⟨"BathBaskets", "greatestDivisor", "(JJ)J"⟩ ∈ tbG := mem_tb 659 (by decide +kernel) (by decide +kernel)
theorem tb_661 : Cond.methodLink "BathBaskets" 252 ⟨"java/lang/Math", "max", "(JJ)J"⟩ ∈ tbG := mem_tb 661 (by decide +kernel) (by decide +kernel)
theorem tb_662 : Cond.static ⟨"java/lang/Math", "max", "(JJ)J"⟩ ∈ tbG := mem_tb 662 (by decide +kernel) (by decide +kernel)
theorem tb_664 : Cond.methodLink "BathBasketsLaw" 106 ⟨"BathBaskets", "year", "(III)I"⟩ ∈ tbG := mem_tb 664 (by decide +kernel) (by decide +kernel)
theorem tb_665 : Cond.instanceMethod ⟨"BathBaskets", "year", "(III)I"⟩ ∈ tbG := mem_tb 665 (by decide +kernel) (by decide +kernel)
theorem tb_666 : Cond.selects "BathBaskets" ⟨"BathBaskets", "year", "(III)I"⟩ ⟨"BathBaskets", "year", "(III)I"⟩ ∈ tbG := mem_tb 666 (by decide +kernel) (by decide +kernel)
theorem tb_668 : Cond.methodLink "BathBaskets" 257 ⟨"BathBaskets$Evening", "draw", "(LBathBaskets$Bath;II)V"⟩ ∈ tbG := mem_tb 668 (by decide +kernel) (by decide +kernel)
theorem tb_669 : Cond.instanceMethod ⟨"BathBaskets$Evening", "draw", "(LBathBaskets$Bath;II)V"⟩ ∈ tbG := mem_tb 669 (by decide +kernel) (by decide +kernel)
theorem tb_670 : Cond.selects "BathBaskets$Evening" ⟨"BathBaskets$Evening", "draw", "(LBathBaskets$Bath;II)V"⟩ ⟨"BathBaskets$Evening", "draw", "(LBathBaskets$Bath;II)V"⟩ ∈ tbG := mem_tb 670 (by decide +kernel) (by decide +kernel)
theorem tb_672 : Cond.constant "BathBaskets$Evening" 89 (65537 : Int32) ∈ tbG := mem_tb 672 (by decide +kernel) (by decide +kernel)
theorem tb_673 : Cond.fieldLinkNest "BathBaskets$Evening" 90 "BathBaskets" "DRAWN_KINDS" "[I" "BathBaskets" ∈ lw_tbl := List.mem_of_getElem? (i := 673) (by decide +kernel)
theorem tb_675 : Cond.methodLink "BathBaskets" 261 ⟨"java/lang/Integer", "bitCount", "(I)I"⟩ ∈ tbG := mem_tb 675 (by decide +kernel) (by decide +kernel)
theorem tb_676 : Cond.methodLink "BathBasketsLaw" 110 ⟨"BathBaskets", "image", "(I)I"⟩ ∈ tbG := mem_tb 676 (by decide +kernel) (by decide +kernel)
theorem tb_677 : Cond.instanceMethod ⟨"BathBaskets", "image", "(I)I"⟩ ∈ tbG := mem_tb 677 (by decide +kernel) (by decide +kernel)
theorem tb_678 : Cond.selects "BathBaskets" ⟨"BathBaskets", "image", "(I)I"⟩ ⟨"BathBaskets", "image", "(I)I"⟩ ∈ tbG := mem_tb 678 (by decide +kernel) (by decide +kernel)
theorem tb_680 : Cond.methodLink "BathBaskets" 267 ⟨"BathBaskets", "imageOf", "(I)LBathBaskets$Image;"⟩ ∈ tbG := mem_tb 680 (by decide +kernel) (by decide +kernel)
theorem tb_682 : Cond.instanceMethod ⟨"BathBaskets", "imageOf", "(I)LBathBaskets$Image;"⟩ ∈ tbG := mem_tb 682 (by decide +kernel) (by decide +kernel)
theorem tb_684 : Cond.methodLink "BathBaskets" 273 ⟨"BathBaskets$Notes", "takeOver", "(LBathBaskets$Notes;)V"⟩ ∈ tbG := mem_tb 684 (by decide +kernel) (by decide +kernel)
theorem tb_685 : Cond.instanceMethod ⟨"BathBaskets$Notes", "takeOver", "(LBathBaskets$Notes;)V"⟩ ∈ tbG := mem_tb 685 (by decide +kernel) (by decide +kernel)
theorem tb_686 : Cond.selects "BathBaskets$Notes" ⟨"BathBaskets$Notes", "takeOver", "(LBathBaskets$Notes;)V"⟩ ⟨"BathBaskets$Notes", "takeOver", "(LBathBaskets$Notes;)V"⟩ ∈ tbG := mem_tb 686 (by decide +kernel) (by decide +kernel)
theorem tb_688 : Cond.methodLink "BathBaskets$Notes" 16 ⟨"java/lang/System", "arraycopy", "(Ljava/lang/Object;ILjava/lang/Object;II)V"⟩ ∈ tbG := mem_tb 688 (by decide +kernel) (by decide +kernel)
theorem tb_689 : Cond.methodLink "BathBasketsLaw" 114 ⟨"BathBaskets", "restore", "(I)I"⟩ ∈ tbG := mem_tb 689 (by decide +kernel) (by decide +kernel)
theorem tb_690 : Cond.instanceMethod ⟨"BathBaskets", "restore", "(I)I"⟩ ∈ tbG := mem_tb 690 (by decide +kernel) (by decide +kernel)
theorem tb_691 : Cond.selects "BathBaskets" ⟨"BathBaskets", "restore", "(I)I"⟩ ⟨"BathBaskets", "restore", "(I)I"⟩ ∈ tbG := mem_tb 691 (by decide +kernel) (by decide +kernel)
theorem tb_693 : Cond.methodLink "BathBasketsLaw" 118 ⟨"BathBaskets", "told", "(I)I"⟩ ∈ tbG := mem_tb 693 (by decide +kernel) (by decide +kernel)
theorem tb_694 : Cond.instanceMethod ⟨"BathBaskets", "told", "(I)I"⟩ ∈ tbG := mem_tb 694 (by decide +kernel) (by decide +kernel)
theorem tb_695 : Cond.selects "BathBaskets" ⟨"BathBaskets", "told", "(I)I"⟩ ⟨"BathBaskets", "told", "(I)I"⟩ ∈ tbG := mem_tb 695 (by decide +kernel) (by decide +kernel)
theorem tb_697 : Cond.methodLink "BathBaskets" 279 ⟨"BathBaskets", "toldPlainly", "(I)I"⟩ ∈ tbG := mem_tb 697 (by decide +kernel) (by decide +kernel)
theorem tb_699 : Cond.instanceMethod ⟨"BathBaskets", "toldPlainly", "(I)I"⟩ ∈ tbG := mem_tb 699 (by decide +kernel) (by decide +kernel)
theorem tb_701 : Cond.methodLink "BathBaskets" 282 ⟨"java/lang/Math", "floorDiv", "(II)I"⟩ ∈ tbG := mem_tb 701 (by decide +kernel) (by decide +kernel)
theorem tb_702 : Cond.static ⟨"java/lang/Math", "floorDiv", "(II)I"⟩ ∈ tbG := mem_tb 702 (by decide +kernel) (by decide +kernel)
theorem tb_704 : Cond.methodLink "BathBaskets" 285 ⟨"java/lang/Math", "floorMod", "(II)I"⟩ ∈ tbG := mem_tb 704 (by decide +kernel) (by decide +kernel)
theorem tb_705 : Cond.static ⟨"java/lang/Math", "floorMod", "(II)I"⟩ ∈ tbG := mem_tb 705 (by decide +kernel) (by decide +kernel)
theorem tb_713 : Cond.fieldLink "BathBasketsModel" 7 "BathBasketsModel" "stands" "[I" ∈ tbG := mem_tb 713 (by decide +kernel) (by decide +kernel)
theorem tb_714 : Cond.fieldLink "BathBasketsModel" 13 "BathBasketsModel" "things" "[I" ∈ tbG := mem_tb 714 (by decide +kernel) (by decide +kernel)
theorem tb_715 : Cond.fieldLink "BathBasketsModel" 16 "BathBasketsModel" "wants" "[I" ∈ tbG := mem_tb 715 (by decide +kernel) (by decide +kernel)
theorem tb_716 : Cond.fieldLink "BathBasketsModel" 87 "BathBasketsModel" "place" "I" ∈ tbG := mem_tb 716 (by decide +kernel) (by decide +kernel)
theorem tb_717 : Cond.fieldLink "BathBasketsModel" 90 "BathBasketsModel" "has" "I" ∈ tbG := mem_tb 717 (by decide +kernel) (by decide +kernel)
theorem tb_718 : Cond.fieldLink "BathBasketsModel" 93 "BathBasketsModel" "hasSeen" "I" ∈ tbG := mem_tb 718 (by decide +kernel) (by decide +kernel)
theorem tb_719 : Cond.fieldLink "BathBasketsModel" 84 "BathBasketsModel" "now" "I" ∈ tbG := mem_tb 719 (by decide +kernel) (by decide +kernel)
theorem tb_720 : Cond.fieldLink "BathBasketsModel" 60 "BathBasketsModel" "bell" "I" ∈ tbG := mem_tb 720 (by decide +kernel) (by decide +kernel)
theorem tb_721 : Cond.fieldLink "BathBasketsModel" 19 "BathBasketsModel" "noteDay" "[I" ∈ tbG := mem_tb 721 (by decide +kernel) (by decide +kernel)
theorem tb_722 : Cond.fieldLink "BathBasketsModel" 22 "BathBasketsModel" "noteThing" "[I" ∈ tbG := mem_tb 722 (by decide +kernel) (by decide +kernel)
theorem tb_723 : Cond.fieldLink "BathBasketsModel" 239 "BathBasketsModel" "notes" "I" ∈ tbG := mem_tb 723 (by decide +kernel) (by decide +kernel)
theorem tb_724 : Cond.fieldLink "BathBasketsModel" 25 "BathBasketsModel" "pad" "[I" ∈ tbG := mem_tb 724 (by decide +kernel) (by decide +kernel)
theorem tb_725 : Cond.fieldLink "BathBasketsModel" 100 "BathBasketsModel" "padMany" "I" ∈ tbG := mem_tb 725 (by decide +kernel) (by decide +kernel)
theorem tb_726 : Cond.fieldLink "BathBasketsModel" 28 "BathBasketsModel" "act" "[I" ∈ tbG := mem_tb 726 (by decide +kernel) (by decide +kernel)
theorem tb_727 : Cond.fieldLink "BathBasketsModel" 31 "BathBasketsModel" "which" "[I" ∈ tbG := mem_tb 727 (by decide +kernel) (by decide +kernel)
theorem tb_728 : Cond.fieldLink "BathBasketsModel" 103 "BathBasketsModel" "acts" "I" ∈ tbG := mem_tb 728 (by decide +kernel) (by decide +kernel)
theorem tb_729 : Cond.fieldLink "BathBasketsModel" 138 "BathBasketsModel" "lookedInto" "I" ∈ tbG := mem_tb 729 (by decide +kernel) (by decide +kernel)
theorem tb_730 : Cond.fieldLink "BathBasketsModel" 34 "BathBasketsModel" "had" "[I" ∈ tbG := mem_tb 730 (by decide +kernel) (by decide +kernel)
theorem tb_731 : Cond.fieldLink "BathBasketsModel" 167 "BathBasketsModel" "badAct" "I" ∈ tbG := mem_tb 731 (by decide +kernel) (by decide +kernel)
theorem tb_732 : Cond.fieldLink "BathBasketsModel" 170 "BathBasketsModel" "badWhy" "I" ∈ tbG := mem_tb 732 (by decide +kernel) (by decide +kernel)
theorem tb_733 : Cond.fieldLink "BathBasketsModel" 161 "BathBasketsModel" "wrongAct" "I" ∈ tbG := mem_tb 733 (by decide +kernel) (by decide +kernel)
theorem tb_734 : Cond.fieldLink "BathBasketsModel" 164 "BathBasketsModel" "wrongCabin" "I" ∈ tbG := mem_tb 734 (by decide +kernel) (by decide +kernel)
theorem tb_735 : Cond.fieldLink "BathBasketsModel" 37 "BathBasketsModel" "most" "[I" ∈ tbG := mem_tb 735 (by decide +kernel) (by decide +kernel)
theorem tb_736 : Cond.fieldLink "BathBasketsModel" 40 "BathBasketsModel" "hook" "[I" ∈ tbG := mem_tb 736 (by decide +kernel) (by decide +kernel)
theorem tb_737 : Cond.fieldLink "BathBasketsModel" 43 "BathBasketsModel" "byThing" "[I" ∈ tbG := mem_tb 737 (by decide +kernel) (by decide +kernel)
theorem tb_738 : Cond.fieldLink "BathBasketsModel" 46 "BathBasketsModel" "wins" "[Z" ∈ tbG := mem_tb 738 (by decide +kernel) (by decide +kernel)
theorem tb_739 : Cond.fieldLink "BathBasketsModel" 50 "BathBasketsModel" "parts" "[J" ∈ tbG := mem_tb 739 (by decide +kernel) (by decide +kernel)
theorem tb_740 : Cond.fieldLink "BathBasketsModel" 54 "BathBasketsModel" "kept" "[I" ∈ tbG := mem_tb 740 (by decide +kernel) (by decide +kernel)
theorem tb_741 : Cond.fieldLink "BathBasketsModel" 57 "BathBasketsModel" "isKept" "[Z" ∈ tbG := mem_tb 741 (by decide +kernel) (by decide +kernel)
theorem tb_742 : Cond.fieldLink "BathBasketsModel" 282 "BathBasketsModel" "keptAt" "I" ∈ tbG := mem_tb 742 (by decide +kernel) (by decide +kernel)
theorem tb_743 : Cond.fieldLink "BathBasketsModel" 278 "BathBasketsModel" "isWriting" "Z" ∈ tbG := mem_tb 743 (by decide +kernel) (by decide +kernel)
theorem tb_808 : Cond.methodLink "BathBasketsLaw" 17 ⟨"BathBasketsModel", "basket", "(III)I"⟩ ∈ tbG := mem_tb 808 (by decide +kernel) (by decide +kernel)
theorem tb_809 : Cond.instanceMethod ⟨"BathBasketsModel", "basket", "(III)I"⟩ ∈ tbG := mem_tb 809 (by decide +kernel) (by decide +kernel)
theorem tb_810 : Cond.selects "BathBasketsModel" ⟨"BathBasketsModel", "basket", "(III)I"⟩ ⟨"BathBasketsModel", "basket", "(III)I"⟩ ∈ tbG := mem_tb 810 (by decide +kernel) (by decide +kernel)
theorem tb_812 : Cond.methodLink "BathBasketsModel" 72 ⟨"BathBasketsModel", "isCabin", "(I)Z"⟩ ∈ tbG := mem_tb 812 (by decide +kernel) (by decide +kernel)
theorem tb_813 : Cond.static ⟨"BathBasketsModel", "isCabin", "(I)Z"⟩ ∈ tbG := mem_tb 813 (by decide +kernel) (by decide +kernel)
theorem tb_815 : Cond.constantLong "BathBasketsModel" 64 (9 : Int64) ∈ tbG := mem_tb 815 (by decide +kernel) (by decide +kernel)
theorem tb_816 : Cond.methodLink "BathBasketsModel" 66 ⟨"BathBasketsModel", "in", "(JJJ)Z"⟩ ∈ tbG := mem_tb 816 (by decide +kernel) (by decide +kernel)
theorem tb_817 : Cond.static ⟨"BathBasketsModel", "in", "(JJJ)Z"⟩ ∈ tbG := mem_tb 817 (by decide +kernel) (by decide +kernel)
theorem tb_819 : Cond.constantLong "BathBasketsModel" 76 (255 : Int64) ∈ tbG := mem_tb 819 (by decide +kernel) (by decide +kernel)
theorem tb_820 : Cond.methodLink "BathBasketsLaw" 22 ⟨"BathBasketsModel", "right", "()I"⟩ ∈ tbG := mem_tb 820 (by decide +kernel) (by decide +kernel)
theorem tb_821 : Cond.instanceMethod ⟨"BathBasketsModel", "right", "()I"⟩ ∈ tbG := mem_tb 821 (by decide +kernel) (by decide +kernel)
theorem tb_822 : Cond.selects "BathBasketsModel" ⟨"BathBasketsModel", "right", "()I"⟩ ⟨"BathBasketsModel", "right", "()I"⟩ ∈ tbG := mem_tb 822 (by decide +kernel) (by decide +kernel)
theorem tb_824 : Cond.methodLink "BathBasketsModel" 78 ⟨"BathBasketsModel", "wrongMany", "()I"⟩ ∈ tbG := mem_tb 824 (by decide +kernel) (by decide +kernel)
theorem tb_826 : Cond.instanceMethod ⟨"BathBasketsModel", "wrongMany", "()I"⟩ ∈ tbG := mem_tb 826 (by decide +kernel) (by decide +kernel)
theorem tb_828 : Cond.methodLink "BathBasketsLaw" 27 ⟨"BathBasketsModel", "clock", "(II)I"⟩ ∈ tbG := mem_tb 828 (by decide +kernel) (by decide +kernel)
theorem tb_829 : Cond.instanceMethod ⟨"BathBasketsModel", "clock", "(II)I"⟩ ∈ tbG := mem_tb 829 (by decide +kernel) (by decide +kernel)
theorem tb_830 : Cond.selects "BathBasketsModel" ⟨"BathBasketsModel", "clock", "(II)I"⟩ ⟨"BathBasketsModel", "clock", "(II)I"⟩ ∈ tbG := mem_tb 830 (by decide +kernel) (by decide +kernel)
theorem tb_832 : Cond.constantLong "BathBasketsModel" 82 (99 : Int64) ∈ tbG := mem_tb 832 (by decide +kernel) (by decide +kernel)
theorem tb_833 : Cond.methodLink "BathBasketsLaw" 31 ⟨"BathBasketsModel", "attendant", "(III)I"⟩ ∈ tbG := mem_tb 833 (by decide +kernel) (by decide +kernel)
theorem tb_834 : Cond.instanceMethod ⟨"BathBasketsModel", "attendant", "(III)I"⟩ ∈ tbG := mem_tb 834 (by decide +kernel) (by decide +kernel)
theorem tb_835 : Cond.selects "BathBasketsModel" ⟨"BathBasketsModel", "attendant", "(III)I"⟩ ⟨"BathBasketsModel", "attendant", "(III)I"⟩ ∈ tbG := mem_tb 835 (by decide +kernel) (by decide +kernel)
theorem tb_837 : Cond.methodLink "BathBasketsLaw" 36 ⟨"BathBasketsModel", "say", "(I)I"⟩ ∈ tbG := mem_tb 837 (by decide +kernel) (by decide +kernel)
theorem tb_838 : Cond.instanceMethod ⟨"BathBasketsModel", "say", "(I)I"⟩ ∈ tbG := mem_tb 838 (by decide +kernel) (by decide +kernel)
theorem tb_839 : Cond.selects "BathBasketsModel" ⟨"BathBasketsModel", "say", "(I)I"⟩ ⟨"BathBasketsModel", "say", "(I)I"⟩ ∈ tbG := mem_tb 839 (by decide +kernel) (by decide +kernel)
theorem tb_841 : Cond.constantLong "BathBasketsModel" 96 (33 : Int64) ∈ tbG := mem_tb 841 (by decide +kernel) (by decide +kernel)
theorem tb_842 : Cond.constantLong "BathBasketsModel" 98 (126 : Int64) ∈ tbG := mem_tb 842 (by decide +kernel) (by decide +kernel)
theorem tb_843 : Cond.methodLink "BathBasketsLaw" 40 ⟨"BathBasketsModel", "wipe", "()I"⟩ ∈ tbG := mem_tb 843 (by decide +kernel) (by decide +kernel)
theorem tb_844 : Cond.instanceMethod ⟨"BathBasketsModel", "wipe", "()I"⟩ ∈ tbG := mem_tb 844 (by decide +kernel) (by decide +kernel)
theorem tb_845 : Cond.selects "BathBasketsModel" ⟨"BathBasketsModel", "wipe", "()I"⟩ ⟨"BathBasketsModel", "wipe", "()I"⟩ ∈ tbG := mem_tb 845 (by decide +kernel) (by decide +kernel)
theorem tb_847 : Cond.methodLink "BathBasketsLaw" 44 ⟨"BathBasketsModel", "fault", "()I"⟩ ∈ tbG := mem_tb 847 (by decide +kernel) (by decide +kernel)
theorem tb_848 : Cond.instanceMethod ⟨"BathBasketsModel", "fault", "()I"⟩ ∈ tbG := mem_tb 848 (by decide +kernel) (by decide +kernel)
theorem tb_849 : Cond.selects "BathBasketsModel" ⟨"BathBasketsModel", "fault", "()I"⟩ ⟨"BathBasketsModel", "fault", "()I"⟩ ∈ tbG := mem_tb 849 (by decide +kernel) (by decide +kernel)
theorem tb_851 : Cond.methodLink "BathBasketsModel" 125 ⟨"BathBasketsModel", "readOn", "(II)I"⟩ ∈ tbG := mem_tb 851 (by decide +kernel) (by decide +kernel)
theorem tb_853 : Cond.instanceMethod ⟨"BathBasketsModel", "readOn", "(II)I"⟩ ∈ tbG := mem_tb 853 (by decide +kernel) (by decide +kernel)
theorem tb_855 : Cond.methodLink "BathBasketsModel" 117 ⟨"BathBasketsModel", "begin", "(I)I"⟩ ∈ tbG := mem_tb 855 (by decide +kernel) (by decide +kernel)
theorem tb_857 : Cond.instanceMethod ⟨"BathBasketsModel", "begin", "(I)I"⟩ ∈ tbG := mem_tb 857 (by decide +kernel) (by decide +kernel)
theorem tb_859 : Cond.methodLink "BathBasketsModel" 110 ⟨"BathBasketsModel", "close", "(II)I"⟩ ∈ tbG := mem_tb 859 (by decide +kernel) (by decide +kernel)
theorem tb_861 : Cond.instanceMethod ⟨"BathBasketsModel", "close", "(II)I"⟩ ∈ tbG := mem_tb 861 (by decide +kernel) (by decide +kernel)
theorem tb_863 : Cond.methodLink "BathBasketsModel" 114 ⟨"BathBasketsModel", "isLetter", "(I)Z"⟩ ∈ tbG := mem_tb 863 (by decide +kernel) (by decide +kernel)
theorem tb_864 : Cond.static ⟨"BathBasketsModel", "isLetter", "(I)Z"⟩ ∈ tbG := mem_tb 864 (by decide +kernel) (by decide +kernel)
theorem tb_866 : Cond.constantLong "BathBasketsModel" 106 (65 : Int64) ∈ tbG := mem_tb 866 (by decide +kernel) (by decide +kernel)
theorem tb_867 : Cond.constantLong "BathBasketsModel" 108 (74 : Int64) ∈ tbG := mem_tb 867 (by decide +kernel) (by decide +kernel)
theorem tb_868 : Cond.constantLong "BathBasketsModel" 121 (48 : Int64) ∈ tbG := mem_tb 868 (by decide +kernel) (by decide +kernel)
theorem tb_869 : Cond.constantLong "BathBasketsModel" 123 (55 : Int64) ∈ tbG := mem_tb 869 (by decide +kernel) (by decide +kernel)
theorem tb_870 : Cond.methodLink "BathBasketsLaw" 48 ⟨"BathBasketsModel", "judge", "(I)I"⟩ ∈ tbG := mem_tb 870 (by decide +kernel) (by decide +kernel)
theorem tb_871 : Cond.instanceMethod ⟨"BathBasketsModel", "judge", "(I)I"⟩ ∈ tbG := mem_tb 871 (by decide +kernel) (by decide +kernel)
theorem tb_872 : Cond.selects "BathBasketsModel" ⟨"BathBasketsModel", "judge", "(I)I"⟩ ⟨"BathBasketsModel", "judge", "(I)I"⟩ ∈ tbG := mem_tb 872 (by decide +kernel) (by decide +kernel)
theorem tb_874 : Cond.constantLong "BathBasketsModel" 188 (2 : Int64) ∈ tbG := mem_tb 874 (by decide +kernel) (by decide +kernel)
theorem tb_875 : Cond.methodLink "BathBasketsModel" 190 ⟨"BathBasketsModel", "refusal", "()I"⟩ ∈ tbG := mem_tb 875 (by decide +kernel) (by decide +kernel)
theorem tb_877 : Cond.instanceMethod ⟨"BathBasketsModel", "refusal", "()I"⟩ ∈ tbG := mem_tb 877 (by decide +kernel) (by decide +kernel)
theorem tb_879 : Cond.methodLink "BathBasketsModel" 179 ⟨"BathBasketsModel", "keepNow", "()V"⟩ ∈ tbG := mem_tb 879 (by decide +kernel) (by decide +kernel)
theorem tb_881 : Cond.instanceMethod ⟨"BathBasketsModel", "keepNow", "()V"⟩ ∈ tbG := mem_tb 881 (by decide +kernel) (by decide +kernel)
theorem tb_883 : Cond.methodLink "BathBasketsModel" 182 ⟨"BathBasketsModel", "fault", "()I"⟩ ∈ tbG := mem_tb 883 (by decide +kernel) (by decide +kernel)
theorem tb_884 : Cond.methodLink "BathBasketsModel" 185 ⟨"BathBasketsModel", "goEvenings", "()V"⟩ ∈ tbG := mem_tb 884 (by decide +kernel) (by decide +kernel)
theorem tb_886 : Cond.instanceMethod ⟨"BathBasketsModel", "goEvenings", "()V"⟩ ∈ tbG := mem_tb 886 (by decide +kernel) (by decide +kernel)
theorem tb_888 : Cond.methodLink "BathBasketsModel" 173 ⟨"BathBasketsModel", "whyNot", "(II)I"⟩ ∈ tbG := mem_tb 888 (by decide +kernel) (by decide +kernel)
theorem tb_890 : Cond.instanceMethod ⟨"BathBasketsModel", "whyNot", "(II)I"⟩ ∈ tbG := mem_tb 890 (by decide +kernel) (by decide +kernel)
theorem tb_892 : Cond.methodLink "BathBasketsModel" 128 ⟨"BathBasketsModel", "apart", "(II)I"⟩ ∈ tbG := mem_tb 892 (by decide +kernel) (by decide +kernel)
theorem tb_893 : Cond.static ⟨"BathBasketsModel", "apart", "(II)I"⟩ ∈ tbG := mem_tb 893 (by decide +kernel) (by decide +kernel)
theorem tb_895 : Cond.methodLink "BathBasketsModel" 131 ⟨"BathBasketsModel", "isIn", "(II)Z"⟩ ∈ tbG := mem_tb 895 (by decide +kernel) (by decide +kernel)
theorem tb_896 : Cond.static ⟨"BathBasketsModel", "isIn", "(II)Z"⟩ ∈ tbG := mem_tb 896 (by decide +kernel) (by decide +kernel)
theorem tb_898 : Cond.methodLink "BathBasketsModel" 135 ⟨"BathBasketsModel", "inHere", "()I"⟩ ∈ tbG := mem_tb 898 (by decide +kernel) (by decide +kernel)
theorem tb_900 : Cond.instanceMethod ⟨"BathBasketsModel", "inHere", "()I"⟩ ∈ tbG := mem_tb 900 (by decide +kernel) (by decide +kernel)
theorem tb_902 : Cond.methodLink "BathBasketsModel" 176 ⟨"BathBasketsModel", "goOne", "(I)V"⟩ ∈ tbG := mem_tb 902 (by decide +kernel) (by decide +kernel)
theorem tb_904 : Cond.instanceMethod ⟨"BathBasketsModel", "goOne", "(I)V"⟩ ∈ tbG := mem_tb 904 (by decide +kernel) (by decide +kernel)
theorem tb_906 : Cond.methodLink "BathBasketsModel" 157 ⟨"BathBasketsModel", "happen", "(II)V"⟩ ∈ tbG := mem_tb 906 (by decide +kernel) (by decide +kernel)
theorem tb_908 : Cond.instanceMethod ⟨"BathBasketsModel", "happen", "(II)V"⟩ ∈ tbG := mem_tb 908 (by decide +kernel) (by decide +kernel)
theorem tb_910 : Cond.methodLink "BathBasketsModel" 141 ⟨"BathBasketsModel", "go", "(I)V"⟩ ∈ tbG := mem_tb 910 (by decide +kernel) (by decide +kernel)
theorem tb_912 : Cond.instanceMethod ⟨"BathBasketsModel", "go", "(I)V"⟩ ∈ tbG := mem_tb 912 (by decide +kernel) (by decide +kernel)
theorem tb_914 : Cond.methodLink "BathBasketsModel" 145 ⟨"BathBasketsModel", "look", "()V"⟩ ∈ tbG := mem_tb 914 (by decide +kernel) (by decide +kernel)
theorem tb_916 : Cond.instanceMethod ⟨"BathBasketsModel", "look", "()V"⟩ ∈ tbG := mem_tb 916 (by decide +kernel) (by decide +kernel)
theorem tb_918 : Cond.methodLink "BathBasketsModel" 148 ⟨"BathBasketsModel", "lay", "(I)V"⟩ ∈ tbG := mem_tb 918 (by decide +kernel) (by decide +kernel)
theorem tb_920 : Cond.instanceMethod ⟨"BathBasketsModel", "lay", "(I)V"⟩ ∈ tbG := mem_tb 920 (by decide +kernel) (by decide +kernel)
theorem tb_922 : Cond.methodLink "BathBasketsModel" 151 ⟨"BathBasketsModel", "take", "(I)V"⟩ ∈ tbG := mem_tb 922 (by decide +kernel) (by decide +kernel)
theorem tb_924 : Cond.instanceMethod ⟨"BathBasketsModel", "take", "(I)V"⟩ ∈ tbG := mem_tb 924 (by decide +kernel) (by decide +kernel)
theorem tb_926 : Cond.methodLink "BathBasketsModel" 154 ⟨"BathBasketsModel", "change", "(I)V"⟩ ∈ tbG := mem_tb 926 (by decide +kernel) (by decide +kernel)
theorem tb_928 : Cond.instanceMethod ⟨"BathBasketsModel", "change", "(I)V"⟩ ∈ tbG := mem_tb 928 (by decide +kernel) (by decide +kernel)
theorem tb_930 : Cond.methodLink "BathBasketsModel" 193 ⟨"BathBasketsModel", "back", "(I)I"⟩ ∈ tbG := mem_tb 930 (by decide +kernel) (by decide +kernel)
theorem tb_932 : Cond.instanceMethod ⟨"BathBasketsModel", "back", "(I)I"⟩ ∈ tbG := mem_tb 932 (by decide +kernel) (by decide +kernel)
theorem tb_934 : Cond.methodLink "BathBasketsLaw" 52 ⟨"BathBasketsModel", "behind", "(II)I"⟩ ∈ tbG := mem_tb 934 (by decide +kernel) (by decide +kernel)
theorem tb_935 : Cond.instanceMethod ⟨"BathBasketsModel", "behind", "(II)I"⟩ ∈ tbG := mem_tb 935 (by decide +kernel) (by decide +kernel)
theorem tb_936 : Cond.selects "BathBasketsModel" ⟨"BathBasketsModel", "behind", "(II)I"⟩ ⟨"BathBasketsModel", "behind", "(II)I"⟩ ∈ tbG := mem_tb 936 (by decide +kernel) (by decide +kernel)
theorem tb_938 : Cond.methodLink "BathBasketsLaw" 56 ⟨"BathBasketsModel", "his", "(I)I"⟩ ∈ tbG := mem_tb 938 (by decide +kernel) (by decide +kernel)
theorem tb_939 : Cond.instanceMethod ⟨"BathBasketsModel", "his", "(I)I"⟩ ∈ tbG := mem_tb 939 (by decide +kernel) (by decide +kernel)
theorem tb_940 : Cond.selects "BathBasketsModel" ⟨"BathBasketsModel", "his", "(I)I"⟩ ⟨"BathBasketsModel", "his", "(I)I"⟩ ∈ tbG := mem_tb 940 (by decide +kernel) (by decide +kernel)
theorem tb_942 : Cond.constantLong "BathBasketsModel" 196 (3 : Int64) ∈ tbG := mem_tb 942 (by decide +kernel) (by decide +kernel)
theorem tb_943 : Cond.methodLink "BathBasketsLaw" 60 ⟨"BathBasketsModel", "wrong", "(I)I"⟩ ∈ tbG := mem_tb 943 (by decide +kernel) (by decide +kernel)
theorem tb_944 : Cond.instanceMethod ⟨"BathBasketsModel", "wrong", "(I)I"⟩ ∈ tbG := mem_tb 944 (by decide +kernel) (by decide +kernel)
theorem tb_945 : Cond.selects "BathBasketsModel" ⟨"BathBasketsModel", "wrong", "(I)I"⟩ ⟨"BathBasketsModel", "wrong", "(I)I"⟩ ∈ tbG := mem_tb 945 (by decide +kernel) (by decide +kernel)
theorem tb_947 : Cond.methodLink "BathBasketsLaw" 64 ⟨"BathBasketsModel", "done", "()I"⟩ ∈ tbG := mem_tb 947 (by decide +kernel) (by decide +kernel)
theorem tb_948 : Cond.instanceMethod ⟨"BathBasketsModel", "done", "()I"⟩ ∈ tbG := mem_tb 948 (by decide +kernel) (by decide +kernel)
theorem tb_949 : Cond.selects "BathBasketsModel" ⟨"BathBasketsModel", "done", "()I"⟩ ⟨"BathBasketsModel", "done", "()I"⟩ ∈ tbG := mem_tb 949 (by decide +kernel) (by decide +kernel)
theorem tb_951 : Cond.methodLink "BathBasketsLaw" 68 ⟨"BathBasketsModel", "round", "(II)I"⟩ ∈ tbG := mem_tb 951 (by decide +kernel) (by decide +kernel)
theorem tb_952 : Cond.instanceMethod ⟨"BathBasketsModel", "round", "(II)I"⟩ ∈ tbG := mem_tb 952 (by decide +kernel) (by decide +kernel)
theorem tb_953 : Cond.selects "BathBasketsModel" ⟨"BathBasketsModel", "round", "(II)I"⟩ ⟨"BathBasketsModel", "round", "(II)I"⟩ ∈ tbG := mem_tb 953 (by decide +kernel) (by decide +kernel)
theorem tb_955 : Cond.methodLink "BathBasketsModel" 204 ⟨"BathBasketsModel", "ones", "(I)I"⟩ ∈ tbG := mem_tb 955 (by decide +kernel) (by decide +kernel)
theorem tb_956 : Cond.static ⟨"BathBasketsModel", "ones", "(I)I"⟩ ∈ tbG := mem_tb 956 (by decide +kernel) (by decide +kernel)
theorem tb_958 : Cond.methodLink "BathBasketsModel" 207 ⟨"BathBasketsModel", "minutesBy", "(II)I"⟩ ∈ tbG := mem_tb 958 (by decide +kernel) (by decide +kernel)
theorem tb_960 : Cond.instanceMethod ⟨"BathBasketsModel", "minutesBy", "(II)I"⟩ ∈ tbG := mem_tb 960 (by decide +kernel) (by decide +kernel)
theorem tb_962 : Cond.methodLink "BathBasketsModel" 198 ⟨"BathBasketsModel", "less", "(II)I"⟩ ∈ tbG := mem_tb 962 (by decide +kernel) (by decide +kernel)
theorem tb_963 : Cond.static ⟨"BathBasketsModel", "less", "(II)I"⟩ ∈ tbG := mem_tb 963 (by decide +kernel) (by decide +kernel)
theorem tb_965 : Cond.methodLink "BathBasketsModel" 201 ⟨"BathBasketsModel", "more", "(II)I"⟩ ∈ tbG := mem_tb 965 (by decide +kernel) (by decide +kernel)
theorem tb_966 : Cond.static ⟨"BathBasketsModel", "more", "(II)I"⟩ ∈ tbG := mem_tb 966 (by decide +kernel) (by decide +kernel)
theorem tb_968 : Cond.methodLink "BathBasketsLaw" 72 ⟨"BathBasketsModel", "show", "(II)I"⟩ ∈ tbG := mem_tb 968 (by decide +kernel) (by decide +kernel)
theorem tb_969 : Cond.instanceMethod ⟨"BathBasketsModel", "show", "(II)I"⟩ ∈ tbG := mem_tb 969 (by decide +kernel) (by decide +kernel)
theorem tb_970 : Cond.selects "BathBasketsModel" ⟨"BathBasketsModel", "show", "(II)I"⟩ ⟨"BathBasketsModel", "show", "(II)I"⟩ ∈ tbG := mem_tb 970 (by decide +kernel) (by decide +kernel)
theorem tb_972 : Cond.methodLink "BathBasketsModel" 210 ⟨"BathBasketsModel", "shownBy", "(I)I"⟩ ∈ tbG := mem_tb 972 (by decide +kernel) (by decide +kernel)
theorem tb_974 : Cond.instanceMethod ⟨"BathBasketsModel", "shownBy", "(I)I"⟩ ∈ tbG := mem_tb 974 (by decide +kernel) (by decide +kernel)
theorem tb_976 : Cond.methodLink "BathBasketsLaw" 76 ⟨"BathBasketsModel", "owners", "(II)I"⟩ ∈ tbG := mem_tb 976 (by decide +kernel) (by decide +kernel)
theorem tb_977 : Cond.instanceMethod ⟨"BathBasketsModel", "owners", "(II)I"⟩ ∈ tbG := mem_tb 977 (by decide +kernel) (by decide +kernel)
theorem tb_978 : Cond.selects "BathBasketsModel" ⟨"BathBasketsModel", "owners", "(II)I"⟩ ⟨"BathBasketsModel", "owners", "(II)I"⟩ ∈ tbG := mem_tb 978 (by decide +kernel) (by decide +kernel)
theorem tb_980 : Cond.constantLong "BathBasketsModel" 217 (-1 : Int64) ∈ tbG := mem_tb 980 (by decide +kernel) (by decide +kernel)
theorem tb_981 : Cond.constantLong "BathBasketsModel" 70 (7 : Int64) ∈ tbG := mem_tb 981 (by decide +kernel) (by decide +kernel)
theorem tb_982 : Cond.methodLink "BathBasketsModel" 219 ⟨"BathBasketsModel", "mostFrom", "(III)I"⟩ ∈ tbG := mem_tb 982 (by decide +kernel) (by decide +kernel)
theorem tb_984 : Cond.instanceMethod ⟨"BathBasketsModel", "mostFrom", "(III)I"⟩ ∈ tbG := mem_tb 984 (by decide +kernel) (by decide +kernel)
theorem tb_986 : Cond.methodLink "BathBasketsModel" 213 ⟨"BathBasketsModel", "canOwn", "(IIII)Z"⟩ ∈ tbG := mem_tb 986 (by decide +kernel) (by decide +kernel)
theorem tb_988 : Cond.instanceMethod ⟨"BathBasketsModel", "canOwn", "(IIII)Z"⟩ ∈ tbG := mem_tb 988 (by decide +kernel) (by decide +kernel)
theorem tb_990 : Cond.methodLink "BathBasketsModel" 223 ⟨"BathBasketsModel", "ownerOf", "(III)I"⟩ ∈ tbG := mem_tb 990 (by decide +kernel) (by decide +kernel)
theorem tb_992 : Cond.instanceMethod ⟨"BathBasketsModel", "ownerOf", "(III)I"⟩ ∈ tbG := mem_tb 992 (by decide +kernel) (by decide +kernel)
theorem tb_994 : Cond.methodLink "BathBasketsLaw" 80 ⟨"BathBasketsModel", "towels", "(II)I"⟩ ∈ tbG := mem_tb 994 (by decide +kernel) (by decide +kernel)
theorem tb_995 : Cond.instanceMethod ⟨"BathBasketsModel", "towels", "(II)I"⟩ ∈ tbG := mem_tb 995 (by decide +kernel) (by decide +kernel)
theorem tb_996 : Cond.selects "BathBasketsModel" ⟨"BathBasketsModel", "towels", "(II)I"⟩ ⟨"BathBasketsModel", "towels", "(II)I"⟩ ∈ tbG := mem_tb 996 (by decide +kernel) (by decide +kernel)
theorem tb_998 : Cond.constantLong "BathBasketsModel" 226 (999999 : Int64) ∈ tbG := mem_tb 998 (by decide +kernel) (by decide +kernel)
theorem tb_999 : Cond.methodLink "BathBasketsModel" 228 ⟨"BathBasketsModel", "readHooks", "(I)Z"⟩ ∈ tbG := mem_tb 999 (by decide +kernel) (by decide +kernel)
theorem tb_1001 : Cond.instanceMethod ⟨"BathBasketsModel", "readHooks", "(I)Z"⟩ ∈ tbG := mem_tb 1001 (by decide +kernel) (by decide +kernel)
theorem tb_1003 : Cond.methodLink "BathBasketsModel" 231 ⟨"BathBasketsModel", "common", "(II)I"⟩ ∈ tbG := mem_tb 1003 (by decide +kernel) (by decide +kernel)
theorem tb_1004 : Cond.static ⟨"BathBasketsModel", "common", "(II)I"⟩ ∈ tbG := mem_tb 1004 (by decide +kernel) (by decide +kernel)
theorem tb_1006 : Cond.methodLink "BathBasketsLaw" 84 ⟨"BathBasketsModel", "found", "(II)I"⟩ ∈ tbG := mem_tb 1006 (by decide +kernel) (by decide +kernel)
theorem tb_1007 : Cond.instanceMethod ⟨"BathBasketsModel", "found", "(II)I"⟩ ∈ tbG := mem_tb 1007 (by decide +kernel) (by decide +kernel)
theorem tb_1008 : Cond.selects "BathBasketsModel" ⟨"BathBasketsModel", "found", "(II)I"⟩ ⟨"BathBasketsModel", "found", "(II)I"⟩ ∈ tbG := mem_tb 1008 (by decide +kernel) (by decide +kernel)
theorem tb_1010 : Cond.methodLink "BathBasketsModel" 234 ⟨"BathBasketsModel", "isThing", "(I)Z"⟩ ∈ tbG := mem_tb 1010 (by decide +kernel) (by decide +kernel)
theorem tb_1011 : Cond.static ⟨"BathBasketsModel", "isThing", "(I)Z"⟩ ∈ tbG := mem_tb 1011 (by decide +kernel) (by decide +kernel)
theorem tb_1013 : Cond.constantLong "BathBasketsModel" 237 (60 : Int64) ∈ tbG := mem_tb 1013 (by decide +kernel) (by decide +kernel)
theorem tb_1014 : Cond.methodLink "BathBasketsLaw" 88 ⟨"BathBasketsModel", "forget", "()I"⟩ ∈ tbG := mem_tb 1014 (by decide +kernel) (by decide +kernel)
theorem tb_1015 : Cond.instanceMethod ⟨"BathBasketsModel", "forget", "()I"⟩ ∈ tbG := mem_tb 1015 (by decide +kernel) (by decide +kernel)
theorem tb_1016 : Cond.selects "BathBasketsModel" ⟨"BathBasketsModel", "forget", "()I"⟩ ⟨"BathBasketsModel", "forget", "()I"⟩ ∈ tbG := mem_tb 1016 (by decide +kernel) (by decide +kernel)
theorem tb_1018 : Cond.methodLink "BathBasketsLaw" 92 ⟨"BathBasketsModel", "fits", "(I)I"⟩ ∈ tbG := mem_tb 1018 (by decide +kernel) (by decide +kernel)
theorem tb_1019 : Cond.instanceMethod ⟨"BathBasketsModel", "fits", "(I)I"⟩ ∈ tbG := mem_tb 1019 (by decide +kernel) (by decide +kernel)
theorem tb_1020 : Cond.selects "BathBasketsModel" ⟨"BathBasketsModel", "fits", "(I)I"⟩ ⟨"BathBasketsModel", "fits", "(I)I"⟩ ∈ tbG := mem_tb 1020 (by decide +kernel) (by decide +kernel)
theorem tb_1022 : Cond.methodLink "BathBasketsModel" 245 ⟨"BathBasketsModel", "isFit", "(I)Z"⟩ ∈ tbG := mem_tb 1022 (by decide +kernel) (by decide +kernel)
theorem tb_1024 : Cond.instanceMethod ⟨"BathBasketsModel", "isFit", "(I)Z"⟩ ∈ tbG := mem_tb 1024 (by decide +kernel) (by decide +kernel)
theorem tb_1026 : Cond.methodLink "BathBasketsModel" 242 ⟨"BathBasketsModel", "foundBy", "(II)I"⟩ ∈ tbG := mem_tb 1026 (by decide +kernel) (by decide +kernel)
theorem tb_1027 : Cond.static ⟨"BathBasketsModel", "foundBy", "(II)I"⟩ ∈ tbG := mem_tb 1027 (by decide +kernel) (by decide +kernel)
theorem tb_1029 : Cond.methodLink "BathBasketsLaw" 96 ⟨"BathBasketsModel", "ask", "(I)I"⟩ ∈ tbG := mem_tb 1029 (by decide +kernel) (by decide +kernel)
theorem tb_1030 : Cond.instanceMethod ⟨"BathBasketsModel", "ask", "(I)I"⟩ ∈ tbG := mem_tb 1030 (by decide +kernel) (by decide +kernel)
theorem tb_1031 : Cond.selects "BathBasketsModel" ⟨"BathBasketsModel", "ask", "(I)I"⟩ ⟨"BathBasketsModel", "ask", "(I)I"⟩ ∈ tbG := mem_tb 1031 (by decide +kernel) (by decide +kernel)
theorem tb_1033 : Cond.methodLink "BathBasketsModel" 248 ⟨"BathBasketsModel", "mostLeft", "(I)I"⟩ ∈ tbG := mem_tb 1033 (by decide +kernel) (by decide +kernel)
theorem tb_1035 : Cond.instanceMethod ⟨"BathBasketsModel", "mostLeft", "(I)I"⟩ ∈ tbG := mem_tb 1035 (by decide +kernel) (by decide +kernel)
theorem tb_1037 : Cond.methodLink "BathBasketsLaw" 100 ⟨"BathBasketsModel", "piles", "(III)I"⟩ ∈ tbG := mem_tb 1037 (by decide +kernel) (by decide +kernel)
theorem tb_1038 : Cond.instanceMethod ⟨"BathBasketsModel", "piles", "(III)I"⟩ ∈ tbG := mem_tb 1038 (by decide +kernel) (by decide +kernel)
theorem tb_1039 : Cond.selects "BathBasketsModel" ⟨"BathBasketsModel", "piles", "(III)I"⟩ ⟨"BathBasketsModel", "piles", "(III)I"⟩ ∈ tbG := mem_tb 1039 (by decide +kernel) (by decide +kernel)
theorem tb_1041 : Cond.constantLong "BathBasketsModel" 251 (20 : Int64) ∈ tbG := mem_tb 1041 (by decide +kernel) (by decide +kernel)
theorem tb_1042 : Cond.methodLink "BathBasketsModel" 253 ⟨"BathBasketsModel", "leastTakeWins", "(II)Z"⟩ ∈ tbG := mem_tb 1042 (by decide +kernel) (by decide +kernel)
theorem tb_1044 : Cond.instanceMethod ⟨"BathBasketsModel", "leastTakeWins", "(II)Z"⟩ ∈ tbG := mem_tb 1044 (by decide +kernel) (by decide +kernel)
theorem tb_1046 : Cond.methodLink "BathBasketsModel" 256 ⟨"BathBasketsModel", "leastTake", "(II)I"⟩ ∈ tbG := mem_tb 1046 (by decide +kernel) (by decide +kernel)
theorem tb_1048 : Cond.instanceMethod ⟨"BathBasketsModel", "leastTake", "(II)I"⟩ ∈ tbG := mem_tb 1048 (by decide +kernel) (by decide +kernel)
theorem tb_1050 : Cond.methodLink "BathBasketsLaw" 105 ⟨"BathBasketsModel", "lengths", "(IIIII)J"⟩ ∈ tbG := mem_tb 1050 (by decide +kernel) (by decide +kernel)
theorem tb_1051 : Cond.instanceMethod ⟨"BathBasketsModel", "lengths", "(IIIII)J"⟩ ∈ tbG := mem_tb 1051 (by decide +kernel) (by decide +kernel)
theorem tb_1052 : Cond.selects "BathBasketsModel" ⟨"BathBasketsModel", "lengths", "(IIIII)J"⟩ ⟨"BathBasketsModel", "lengths", "(IIIII)J"⟩ ∈ tbG := mem_tb 1052 (by decide +kernel) (by decide +kernel)
theorem tb_1054 : Cond.constantLong "BathBasketsModel" 259 (12 : Int64) ∈ tbG := mem_tb 1054 (by decide +kernel) (by decide +kernel)
theorem tb_1055 : Cond.constantLong "BathBasketsModel" 261 (10 : Int64) ∈ tbG := mem_tb 1055 (by decide +kernel) (by decide +kernel)
theorem tb_1056 : Cond.constantLong "BathBasketsModel" 263 (-1000000000000000002 : Int64) ∈ tbG := mem_tb 1056 (by decide +kernel) (by decide +kernel)
theorem tb_1057 : Cond.methodLink "BathBasketsModel" 265 ⟨"BathBasketsModel", "lowest", "(JJI)J"⟩ ∈ tbG := mem_tb 1057 (by decide +kernel) (by decide +kernel)
theorem tb_1058 : Cond.static ⟨"BathBasketsModel", "lowest", "(JJI)J"⟩ ∈ tbG := mem_tb 1058 (by decide +kernel) (by decide +kernel)
theorem tb_1060 : Cond.methodLink "BathBasketsLaw" 109 ⟨"BathBasketsModel", "year", "(III)I"⟩ ∈ tbG := mem_tb 1060 (by decide +kernel) (by decide +kernel)
theorem tb_1061 : Cond.instanceMethod ⟨"BathBasketsModel", "year", "(III)I"⟩ ∈ tbG := mem_tb 1061 (by decide +kernel) (by decide +kernel)
theorem tb_1062 : Cond.selects "BathBasketsModel" ⟨"BathBasketsModel", "year", "(III)I"⟩ ⟨"BathBasketsModel", "year", "(III)I"⟩ ∈ tbG := mem_tb 1062 (by decide +kernel) (by decide +kernel)
theorem tb_1064 : Cond.constantLong "BathBasketsModel" 269 (9999 : Int64) ∈ tbG := mem_tb 1064 (by decide +kernel) (by decide +kernel)
theorem tb_1065 : Cond.constantLong "BathBasketsModel" 271 (75 : Int64) ∈ tbG := mem_tb 1065 (by decide +kernel) (by decide +kernel)
theorem tb_1066 : Cond.constantLong "BathBasketsModel" 273 (65537 : Int64) ∈ tbG := mem_tb 1066 (by decide +kernel) (by decide +kernel)
theorem tb_1067 : Cond.methodLink "BathBasketsModel" 275 ⟨"BathBasketsModel", "actBy", "(I)I"⟩ ∈ tbG := mem_tb 1067 (by decide +kernel) (by decide +kernel)
theorem tb_1068 : Cond.static ⟨"BathBasketsModel", "actBy", "(I)I"⟩ ∈ tbG := mem_tb 1068 (by decide +kernel) (by decide +kernel)
theorem tb_1070 : Cond.methodLink "BathBasketsLaw" 113 ⟨"BathBasketsModel", "image", "(I)I"⟩ ∈ tbG := mem_tb 1070 (by decide +kernel) (by decide +kernel)
theorem tb_1071 : Cond.instanceMethod ⟨"BathBasketsModel", "image", "(I)I"⟩ ∈ tbG := mem_tb 1071 (by decide +kernel) (by decide +kernel)
theorem tb_1072 : Cond.selects "BathBasketsModel" ⟨"BathBasketsModel", "image", "(I)I"⟩ ⟨"BathBasketsModel", "image", "(I)I"⟩ ∈ tbG := mem_tb 1072 (by decide +kernel) (by decide +kernel)
theorem tb_1074 : Cond.methodLink "BathBasketsModel" 292 ⟨"BathBasketsModel", "passAll", "()V"⟩ ∈ tbG := mem_tb 1074 (by decide +kernel) (by decide +kernel)
theorem tb_1076 : Cond.instanceMethod ⟨"BathBasketsModel", "passAll", "()V"⟩ ∈ tbG := mem_tb 1076 (by decide +kernel) (by decide +kernel)
theorem tb_1078 : Cond.methodLink "BathBasketsModel" 285 ⟨"BathBasketsModel", "pass", "(I)I"⟩ ∈ tbG := mem_tb 1078 (by decide +kernel) (by decide +kernel)
theorem tb_1080 : Cond.instanceMethod ⟨"BathBasketsModel", "pass", "(I)I"⟩ ∈ tbG := mem_tb 1080 (by decide +kernel) (by decide +kernel)
theorem tb_1082 : Cond.methodLink "BathBasketsModel" 288 ⟨"BathBasketsModel", "passRow", "([II)V"⟩ ∈ tbG := mem_tb 1082 (by decide +kernel) (by decide +kernel)
theorem tb_1084 : Cond.instanceMethod ⟨"BathBasketsModel", "passRow", "([II)V"⟩ ∈ tbG := mem_tb 1084 (by decide +kernel) (by decide +kernel)
theorem tb_1086 : Cond.methodLink "BathBasketsLaw" 117 ⟨"BathBasketsModel", "restore", "(I)I"⟩ ∈ tbG := mem_tb 1086 (by decide +kernel) (by decide +kernel)
theorem tb_1087 : Cond.instanceMethod ⟨"BathBasketsModel", "restore", "(I)I"⟩ ∈ tbG := mem_tb 1087 (by decide +kernel) (by decide +kernel)
theorem tb_1088 : Cond.selects "BathBasketsModel" ⟨"BathBasketsModel", "restore", "(I)I"⟩ ⟨"BathBasketsModel", "restore", "(I)I"⟩ ∈ tbG := mem_tb 1088 (by decide +kernel) (by decide +kernel)
theorem tb_1090 : Cond.methodLink "BathBasketsLaw" 121 ⟨"BathBasketsModel", "told", "(I)I"⟩ ∈ tbG := mem_tb 1090 (by decide +kernel) (by decide +kernel)
theorem tb_1091 : Cond.instanceMethod ⟨"BathBasketsModel", "told", "(I)I"⟩ ∈ tbG := mem_tb 1091 (by decide +kernel) (by decide +kernel)
theorem tb_1092 : Cond.selects "BathBasketsModel" ⟨"BathBasketsModel", "told", "(I)I"⟩ ⟨"BathBasketsModel", "told", "(I)I"⟩ ∈ tbG := mem_tb 1092 (by decide +kernel) (by decide +kernel)
theorem tb_1094 : Cond.constantLong "BathBasketsModel" 295 (100 : Int64) ∈ tbG := mem_tb 1094 (by decide +kernel) (by decide +kernel)
theorem tb_1095 : Cond.constantLong "BathBasketsModel" 297 (199 : Int64) ∈ tbG := mem_tb 1095 (by decide +kernel) (by decide +kernel)
theorem tb_1096 : Cond.constantLong "BathBasketsModel" 299 (19 : Int64) ∈ tbG := mem_tb 1096 (by decide +kernel) (by decide +kernel)
def md_X0_takeOver : MD := (yX0_takeOver, cX0_takeOver, 2, none, 1, 18)
theorem ok_X0_takeOver : MOk md_X0_takeOver 1 := ⟨mem_tb 438 (by decide +kernel) (by decide +kernel), tb_45, by decide, by decide, by decide +kernel⟩
def md_X0_putRight : MD := (yX0_putRight, cX0_putRight, 2, none, 0, 0)
theorem ok_X0_putRight : MOk md_X0_putRight 0 := ⟨mem_tb 378 (by decide +kernel) (by decide +kernel), tb_45, by decide, by decide, by decide +kernel⟩
def md_X0_strangers : MD := (yX0_strangers, cX0_strangers, 3, some .int, 0, 0)
theorem ok_X0_strangers : MOk md_X0_strangers 0 := ⟨mem_tb 374 (by decide +kernel) (by decide +kernel), tb_45, by decide, by decide, by decide +kernel⟩
def md_X0_basketHere : MD := (yX0_basketHere, cX0_basketHere, 1, some .int, 0, 0)
theorem ok_X0_basketHere : MOk md_X0_basketHere 0 := ⟨mem_tb 468 (by decide +kernel) (by decide +kernel), tb_45, by decide, by decide, by decide +kernel⟩
def md_X11_isIn : MD := (yX11_isIn, cX11_isIn, 2, some .boolean, 0, 0)
theorem ok_X11_isIn : MOk md_X11_isIn 2 := ⟨mem_tb 475 (by decide +kernel) (by decide +kernel), tb_44, by decide, by decide, by decide +kernel⟩
def md_X0_whyNotMoved : MD := (yX0_whyNotMoved, cX0_whyNotMoved, 4, some .int, 1, 21)
theorem ok_X0_whyNotMoved : MOk md_X0_whyNotMoved 3 := ⟨mem_tb 472 (by decide +kernel) (by decide +kernel), tb_45, by decide, by decide, by decide +kernel⟩
def md_X0_whyTooLate : MD := (yX0_whyTooLate, cX0_whyTooLate, 2, some .int, 0, 0)
theorem ok_X0_whyTooLate : MOk md_X0_whyTooLate 1 := ⟨mem_tb 464 (by decide +kernel) (by decide +kernel), tb_45, by decide, by decide, by decide +kernel⟩
def md_J9_abs_0f7a4 : MD := (yJ9_abs_0f7a4, cJ9_abs_0f7a4, 1, some .int, 0, 0)
theorem ok_J9_abs_0f7a4 : MOk md_J9_abs_0f7a4 1 := ⟨mem_tb 460 (by decide +kernel) (by decide +kernel), tb_58, by decide, by decide, by decide +kernel⟩
def md_X0_whyNot : MD := (yX0_whyNot, cX0_whyNot, 3, some .int, 2, 44)
theorem ok_X0_whyNot : MOk md_X0_whyNot 2 := ⟨mem_tb 457 (by decide +kernel) (by decide +kernel), tb_45, by decide, by decide, by decide +kernel⟩
def md_X0_perform : MD := (yX0_perform, cX0_perform, 4, none, 1, 20)
theorem ok_X0_perform : MOk md_X0_perform 2 := ⟨mem_tb 490 (by decide +kernel) (by decide +kernel), tb_45, by decide, by decide, by decide +kernel⟩
def md_X1_sumMinutes : MD := (yX1_sumMinutes, cX1_sumMinutes, 6, none, 0, 0)
theorem ok_X1_sumMinutes : MOk md_X1_sumMinutes 1 := ⟨mem_tb 523 (by decide +kernel) (by decide +kernel), tb_50, by decide, by decide, by decide +kernel⟩
def md_J6_bitCount_0f7a4 : MD := (yJ6_bitCount_0f7a4, cJ6_bitCount_0f7a4, 1, some .int, 0, 0)
theorem ok_J6_bitCount_0f7a4 : MOk md_J6_bitCount_0f7a4 1 := ⟨mem_tb 526 (by decide +kernel) (by decide +kernel), tb_59, by decide, by decide, by decide +kernel⟩
def md_J9_min_7cf53 : MD := (yJ9_min_7cf53, cJ9_min_7cf53, 2, some .int, 0, 0)
theorem ok_J9_min_7cf53 : MOk md_J9_min_7cf53 2 := ⟨mem_tb 479 (by decide +kernel) (by decide +kernel), tb_58, by decide, by decide, by decide +kernel⟩
def md_X1_walk : MD := (yX1_walk, cX1_walk, 8, some .int, 1, 21)
theorem ok_X1_walk : MOk md_X1_walk 3 := ⟨mem_tb 532 (by decide +kernel) (by decide +kernel), tb_50, by decide, by decide, by decide +kernel⟩
def md_X1_planRound : MD := (yX1_planRound, cX1_planRound, 6, none, 2, 48)
theorem ok_X1_planRound : MOk md_X1_planRound 2 := ⟨mem_tb 519 (by decide +kernel) (by decide +kernel), tb_50, by decide, by decide, by decide +kernel⟩
def md_X1_joinThings : MD := (yX1_joinThings, cX1_joinThings, 5, none, 0, 0)
theorem ok_X1_joinThings : MOk md_X1_joinThings 1 := ⟨mem_tb 546 (by decide +kernel) (by decide +kernel), tb_50, by decide, by decide, by decide +kernel⟩
def md_X1_uncover : MD := (yX1_uncover, cX1_uncover, 6, none, 1, 24)
theorem ok_X1_uncover : MOk md_X1_uncover 2 := ⟨mem_tb 542 (by decide +kernel) (by decide +kernel), tb_50, by decide, by decide, by decide +kernel⟩
def md_X11_isWithin : MD := (yX11_isWithin, cX11_isWithin, 3, some .boolean, 0, 0)
theorem ok_X11_isWithin : MOk md_X11_isWithin 3 := ⟨mem_tb 363 (by decide +kernel) (by decide +kernel), tb_44, by decide, by decide, by decide +kernel⟩
def md_X11_isCabin : MD := (yX11_isCabin, cX11_isCabin, 1, some .boolean, 1, 22)
theorem ok_X11_isCabin : MOk md_X11_isCabin 1 := ⟨mem_tb 360 (by decide +kernel) (by decide +kernel), tb_44, by decide, by decide, by decide +kernel⟩
def md_X8_isLetter : MD := (yX8_isLetter, cX8_isLetter, 1, some .boolean, 2, 42)
theorem ok_X8_isLetter : MOk md_X8_isLetter 1 := ⟨mem_tb 412 (by decide +kernel) (by decide +kernel), tb_47, by decide, by decide, by decide +kernel⟩
def md_X8_kindAt : MD := (yX8_kindAt, cX8_kindAt, 2, some .int, 3, 62)
theorem ok_X8_kindAt : MOk md_X8_kindAt 1 := ⟨mem_tb 445 (by decide +kernel) (by decide +kernel), tb_47, by decide, by decide, by decide +kernel⟩
def md_X8_isOfTwo : MD := (yX8_isOfTwo, cX8_isOfTwo, 1, some .boolean, 0, 0)
theorem ok_X8_isOfTwo : MOk md_X8_isOfTwo 1 := ⟨mem_tb 422 (by decide +kernel) (by decide +kernel), tb_47, by decide, by decide, by decide +kernel⟩
def md_X8_operandAt : MD := (yX8_operandAt, cX8_operandAt, 3, some .int, 3, 62)
theorem ok_X8_operandAt : MOk md_X8_operandAt 1 := ⟨mem_tb 449 (by decide +kernel) (by decide +kernel), tb_47, by decide, by decide, by decide +kernel⟩
def md_J9_max_7cf53 : MD := (yJ9_max_7cf53, cJ9_max_7cf53, 2, some .int, 0, 0)
theorem ok_J9_max_7cf53 : MOk md_J9_max_7cf53 2 := ⟨mem_tb 482 (by decide +kernel) (by decide +kernel), tb_58, by decide, by decide, by decide +kernel⟩
def md_X2_noteLoss : MD := (yX2_noteLoss, cX2_noteLoss, 3, none, 0, 0)
theorem ok_X2_noteLoss : MOk md_X2_noteLoss 2 := ⟨mem_tb 486 (by decide +kernel) (by decide +kernel), tb_49, by decide, by decide, by decide +kernel⟩
def md_X2_playAct : MD := (yX2_playAct, cX2_playAct, 4, none, 3, 66)
theorem ok_X2_playAct : MOk md_X2_playAct 2 := ⟨mem_tb 453 (by decide +kernel) (by decide +kernel), tb_49, by decide, by decide, by decide +kernel⟩
def md_X8_widthAt : MD := (yX8_widthAt, cX8_widthAt, 2, some .int, 1, 20)
theorem ok_X8_widthAt : MOk md_X8_widthAt 1 := ⟨mem_tb 494 (by decide +kernel) (by decide +kernel), tb_47, by decide, by decide, by decide +kernel⟩
def md_X2_play : MD := (yX2_play, cX2_play, 4, none, 4, 89)
theorem ok_X2_play : MOk md_X2_play 2 := ⟨mem_tb 434 (by decide +kernel) (by decide +kernel), tb_49, by decide, by decide, by decide +kernel⟩
def md_X2_draw : MD := (yX2_draw, cX2_draw, 9, none, 3, 66)
theorem ok_X2_draw : MOk md_X2_draw 3 := ⟨mem_tb 671 (by decide +kernel) (by decide +kernel), tb_49, by decide, by decide, by decide +kernel⟩
def md_X3_hang : MD := (yX3_hang, cX3_hang, 6, some .boolean, 1, 22)
theorem ok_X3_hang : MOk md_X3_hang 1 := ⟨mem_tb 578 (by decide +kernel) (by decide +kernel), tb_52, by decide, by decide, by decide +kernel⟩
def md_X3_leastMultiple : MD := (yX3_leastMultiple, cX3_leastMultiple, 4, some .int, 0, 0)
theorem ok_X3_leastMultiple : MOk md_X3_leastMultiple 2 := ⟨mem_tb 587 (by decide +kernel) (by decide +kernel), tb_52, by decide, by decide, by decide +kernel⟩
def md_X3_follow : MD := (yX3_follow, cX3_follow, 5, none, 1, 23)
theorem ok_X3_follow : MOk md_X3_follow 0 := ⟨mem_tb 584 (by decide +kernel) (by decide +kernel), tb_52, by decide, by decide, by decide +kernel⟩
def md_X5_thingOn : MD := (yX5_thingOn, cX5_thingOn, 3, some .int, 0, 0)
theorem ok_X5_thingOn : MOk md_X5_thingOn 3 := ⟨mem_tb 613 (by decide +kernel) (by decide +kernel), tb_53, by decide, by decide, by decide +kernel⟩
def md_X5_agree : MD := (yX5_agree, cX5_agree, 4, some .boolean, 1, 22)
theorem ok_X5_agree : MOk md_X5_agree 3 := ⟨mem_tb 610 (by decide +kernel) (by decide +kernel), tb_53, by decide, by decide, by decide +kernel⟩
def md_X5_gather : MD := (yX5_gather, cX5_gather, 4, none, 2, 45)
theorem ok_X5_gather : MOk md_X5_gather 1 := ⟨mem_tb 607 (by decide +kernel) (by decide +kernel), tb_53, by decide, by decide, by decide +kernel⟩
def md_X5_mostLeftAfter : MD := (yX5_mostLeftAfter, cX5_mostLeftAfter, 5, some .int, 1, 22)
theorem ok_X5_mostLeftAfter : MOk md_X5_mostLeftAfter 1 := ⟨mem_tb 625 (by decide +kernel) (by decide +kernel), tb_53, by decide, by decide, by decide +kernel⟩
def md_X5_chooseDay : MD := (yX5_chooseDay, cX5_chooseDay, 3, none, 2, 46)
theorem ok_X5_chooseDay : MOk md_X5_chooseDay 0 := ⟨mem_tb 621 (by decide +kernel) (by decide +kernel), tb_53, by decide, by decide, by decide +kernel⟩
def md_X6_joinHomes : MD := (yX6_joinHomes, cX6_joinHomes, 6, none, 1, 21)
theorem ok_X6_joinHomes : MOk md_X6_joinHomes 1 := ⟨mem_tb 559 (by decide +kernel) (by decide +kernel), tb_51, by decide, by decide, by decide +kernel⟩
def md_X6_mostAtOnce : MD := (yX6_mostAtOnce, cX6_mostAtOnce, 6, some .int, 1, 21)
theorem ok_X6_mostAtOnce : MOk md_X6_mostAtOnce 2 := ⟨mem_tb 564 (by decide +kernel) (by decide +kernel), tb_51, by decide, by decide, by decide +kernel⟩
def md_X6_leastBasket : MD := (yX6_leastBasket, cX6_leastBasket, 6, some .int, 2, 46)
theorem ok_X6_leastBasket : MOk md_X6_leastBasket 4 := ⟨mem_tb 570 (by decide +kernel) (by decide +kernel), tb_51, by decide, by decide, by decide +kernel⟩
def md_X6_pair : MD := (yX6_pair, cX6_pair, 7, none, 3, 71)
theorem ok_X6_pair : MOk md_X6_pair 2 := ⟨mem_tb 555 (by decide +kernel) (by decide +kernel), tb_51, by decide, by decide, by decide +kernel⟩
def md_X7_takeOver : MD := (yX7_takeOver, cX7_takeOver, 2, none, 1, 18)
theorem ok_X7_takeOver : MOk md_X7_takeOver 1 := ⟨mem_tb 687 (by decide +kernel) (by decide +kernel), tb_46, by decide, by decide, by decide +kernel⟩
def md_X7_write : MD := (yX7_write, cX7_write, 3, some .boolean, 0, 0)
theorem ok_X7_write : MOk md_X7_write 2 := ⟨mem_tb 595 (by decide +kernel) (by decide +kernel), tb_46, by decide, by decide, by decide +kernel⟩
def md_X8_write : MD := (yX8_write, cX8_write, 2, some .boolean, 0, 0)
theorem ok_X8_write : MOk md_X8_write 1 := ⟨mem_tb 394 (by decide +kernel) (by decide +kernel), tb_47, by decide, by decide, by decide +kernel⟩
def md_X8_begins : MD := (yX8_begins, cX8_begins, 1, some .boolean, 3, 62)
theorem ok_X8_begins : MOk md_X8_begins 1 := ⟨mem_tb 419 (by decide +kernel) (by decide +kernel), tb_47, by decide, by decide, by decide +kernel⟩
def md_X11_isThing : MD := (yX11_isThing, cX11_isThing, 1, some .boolean, 1, 22)
theorem ok_X11_isThing : MOk md_X11_isThing 1 := ⟨mem_tb 416 (by decide +kernel) (by decide +kernel), tb_44, by decide, by decide, by decide +kernel⟩
def md_X8_ends : MD := (yX8_ends, cX8_ends, 2, some .boolean, 3, 62)
theorem ok_X8_ends : MOk md_X8_ends 2 := ⟨mem_tb 409 (by decide +kernel) (by decide +kernel), tb_47, by decide, by decide, by decide +kernel⟩
def md_X8_faultPlace : MD := (yX8_faultPlace, cX8_faultPlace, 3, some .int, 4, 83)
theorem ok_X8_faultPlace : MOk md_X8_faultPlace 0 := ⟨mem_tb 406 (by decide +kernel) (by decide +kernel), tb_47, by decide, by decide, by decide +kernel⟩
def md_X9_spread : MD := (yX9_spread, cX9_spread, 5, none, 0, 0)
theorem ok_X9_spread : MOk md_X9_spread 2 := ⟨mem_tb 647 (by decide +kernel) (by decide +kernel), tb_55, by decide, by decide, by decide +kernel⟩
def md_X9_waysToReach : MD := (yX9_waysToReach, cX9_waysToReach, 5, some .long, 0, 0)
theorem ok_X9_waysToReach : MOk md_X9_waysToReach 1 := ⟨mem_tb 652 (by decide +kernel) (by decide +kernel), tb_55, by decide, by decide, by decide +kernel⟩
def md_X9_lengthsUpTo : MD := (yX9_lengthsUpTo, cX9_lengthsUpTo, 5, some .long, 1, 21)
theorem ok_X9_lengthsUpTo : MOk md_X9_lengthsUpTo 1 := ⟨mem_tb 656 (by decide +kernel) (by decide +kernel), tb_55, by decide, by decide, by decide +kernel⟩
def md_X10_isLost : MD := (yX10_isLost, cX10_isLost, 3, some .boolean, 0, 0)
theorem ok_X10_isLost : MOk md_X10_isLost 2 := ⟨mem_tb 638 (by decide +kernel) (by decide +kernel), tb_54, by decide, by decide, by decide +kernel⟩
def md_X10_winningTake : MD := (yX10_winningTake, cX10_winningTake, 7, some .int, 0, 0)
theorem ok_X10_winningTake : MOk md_X10_winningTake 2 := ⟨mem_tb 634 (by decide +kernel) (by decide +kernel), tb_54, by decide, by decide, by decide +kernel⟩
def md_X11_isThingSet : MD := (yX11_isThingSet, cX11_isThingSet, 1, some .boolean, 1, 22)
theorem ok_X11_isThingSet : MOk md_X11_isThingSet 1 := ⟨mem_tb 366 (by decide +kernel) (by decide +kernel), tb_44, by decide, by decide, by decide +kernel⟩
def md_X11_basket : MD := (yX11_basket, cX11_basket, 5, some .int, 2, 42)
theorem ok_X11_basket : MOk md_X11_basket 3 := ⟨mem_tb 357 (by decide +kernel) (by decide +kernel), tb_44, by decide, by decide, by decide +kernel⟩
def md_X11_right : MD := (yX11_right, cX11_right, 2, some .int, 1, 22)
theorem ok_X11_right : MOk md_X11_right 0 := ⟨mem_tb 370 (by decide +kernel) (by decide +kernel), tb_44, by decide, by decide, by decide +kernel⟩
def md_X11_clock : MD := (yX11_clock, cX11_clock, 4, some .int, 1, 22)
theorem ok_X11_clock : MOk md_X11_clock 2 := ⟨mem_tb 382 (by decide +kernel) (by decide +kernel), tb_44, by decide, by decide, by decide +kernel⟩
def md_X11_attendant : MD := (yX11_attendant, cX11_attendant, 5, some .int, 2, 42)
theorem ok_X11_attendant : MOk md_X11_attendant 3 := ⟨mem_tb 386 (by decide +kernel) (by decide +kernel), tb_44, by decide, by decide, by decide +kernel⟩
def md_X11_say : MD := (yX11_say, cX11_say, 2, some .int, 1, 22)
theorem ok_X11_say : MOk md_X11_say 1 := ⟨mem_tb 390 (by decide +kernel) (by decide +kernel), tb_44, by decide, by decide, by decide +kernel⟩
def md_X11_wipe : MD := (yX11_wipe, cX11_wipe, 2, some .int, 0, 0)
theorem ok_X11_wipe : MOk md_X11_wipe 0 := ⟨mem_tb 398 (by decide +kernel) (by decide +kernel), tb_44, by decide, by decide, by decide +kernel⟩
def md_X11_fault : MD := (yX11_fault, cX11_fault, 1, some .int, 5, 105)
theorem ok_X11_fault : MOk md_X11_fault 0 := ⟨mem_tb 402 (by decide +kernel) (by decide +kernel), tb_44, by decide, by decide, by decide +kernel⟩
def md_X11_playEvening : MD := (yX11_playEvening, cX11_playEvening, 1, some .int, 5, 112)
theorem ok_X11_playEvening : MOk md_X11_playEvening 0 := ⟨mem_tb 430 (by decide +kernel) (by decide +kernel), tb_44, by decide, by decide, by decide +kernel⟩
def md_X11_judge : MD := (yX11_judge, cX11_judge, 3, some .int, 6, 132)
theorem ok_X11_judge : MOk md_X11_judge 1 := ⟨mem_tb 426 (by decide +kernel) (by decide +kernel), tb_44, by decide, by decide, by decide +kernel⟩
def md_X11_behind : MD := (yX11_behind, cX11_behind, 5, some .int, 6, 132)
theorem ok_X11_behind : MOk md_X11_behind 2 := ⟨mem_tb 498 (by decide +kernel) (by decide +kernel), tb_44, by decide, by decide, by decide +kernel⟩
def md_X11_his : MD := (yX11_his, cX11_his, 3, some .int, 6, 132)
theorem ok_X11_his : MOk md_X11_his 1 := ⟨mem_tb 502 (by decide +kernel) (by decide +kernel), tb_44, by decide, by decide, by decide +kernel⟩
def md_X11_wrong : MD := (yX11_wrong, cX11_wrong, 3, some .int, 6, 132)
theorem ok_X11_wrong : MOk md_X11_wrong 1 := ⟨mem_tb 506 (by decide +kernel) (by decide +kernel), tb_44, by decide, by decide, by decide +kernel⟩
def md_X11_done : MD := (yX11_done, cX11_done, 2, some .int, 6, 132)
theorem ok_X11_done : MOk md_X11_done 0 := ⟨mem_tb 510 (by decide +kernel) (by decide +kernel), tb_44, by decide, by decide, by decide +kernel⟩
def md_X11_round : MD := (yX11_round, cX11_round, 3, some .int, 3, 73)
theorem ok_X11_round : MOk md_X11_round 2 := ⟨mem_tb 515 (by decide +kernel) (by decide +kernel), tb_44, by decide, by decide, by decide +kernel⟩
def md_X11_show : MD := (yX11_show, cX11_show, 3, some .int, 2, 49)
theorem ok_X11_show : MOk md_X11_show 2 := ⟨mem_tb 538 (by decide +kernel) (by decide +kernel), tb_44, by decide, by decide, by decide +kernel⟩
def md_X11_owners : MD := (yX11_owners, cX11_owners, 3, some .int, 4, 97)
theorem ok_X11_owners : MOk md_X11_owners 2 := ⟨mem_tb 550 (by decide +kernel) (by decide +kernel), tb_44, by decide, by decide, by decide +kernel⟩
def md_X11_towels : MD := (yX11_towels, cX11_towels, 3, some .int, 2, 47)
theorem ok_X11_towels : MOk md_X11_towels 2 := ⟨mem_tb 574 (by decide +kernel) (by decide +kernel), tb_44, by decide, by decide, by decide +kernel⟩
def md_X11_found : MD := (yX11_found, cX11_found, 3, some .int, 2, 42)
theorem ok_X11_found : MOk md_X11_found 2 := ⟨mem_tb 591 (by decide +kernel) (by decide +kernel), tb_44, by decide, by decide, by decide +kernel⟩
def md_X11_forget : MD := (yX11_forget, cX11_forget, 2, some .int, 0, 0)
theorem ok_X11_forget : MOk md_X11_forget 0 := ⟨mem_tb 599 (by decide +kernel) (by decide +kernel), tb_44, by decide, by decide, by decide +kernel⟩
def md_X11_fits : MD := (yX11_fits, cX11_fits, 2, some .int, 3, 68)
theorem ok_X11_fits : MOk md_X11_fits 1 := ⟨mem_tb 603 (by decide +kernel) (by decide +kernel), tb_44, by decide, by decide, by decide +kernel⟩
def md_X11_ask : MD := (yX11_ask, cX11_ask, 2, some .int, 3, 68)
theorem ok_X11_ask : MOk md_X11_ask 1 := ⟨mem_tb 617 (by decide +kernel) (by decide +kernel), tb_44, by decide, by decide, by decide +kernel⟩
def md_X11_piles : MD := (yX11_piles, cX11_piles, 4, some .int, 1, 26)
theorem ok_X11_piles : MOk md_X11_piles 3 := ⟨mem_tb 630 (by decide +kernel) (by decide +kernel), tb_44, by decide, by decide, by decide +kernel⟩
def md_X11_greatestDivisor : MD := (yX11_greatestDivisor, cX11_greatestDivisor, 11, some .long, 0, 0)
theorem ok_X11_greatestDivisor : MOk md_X11_greatestDivisor 2 := ⟨mem_tb 660 (by decide +kernel) (by decide +kernel), tb_44, by decide, by decide, by decide +kernel⟩
def md_J9_max_f86c9 : MD := (yJ9_max_f86c9, cJ9_max_f86c9, 4, some .long, 0, 0)
theorem ok_J9_max_f86c9 : MOk md_J9_max_f86c9 2 := ⟨mem_tb 663 (by decide +kernel) (by decide +kernel), tb_58, by decide, by decide, by decide +kernel⟩
def md_X11_lengths : MD := (yX11_lengths, cX11_lengths, 10, some .long, 2, 45)
theorem ok_X11_lengths : MOk md_X11_lengths 5 := ⟨mem_tb 642 (by decide +kernel) (by decide +kernel), tb_44, by decide, by decide, by decide +kernel⟩
def md_X11_year : MD := (yX11_year, cX11_year, 4, some .int, 4, 94)
theorem ok_X11_year : MOk md_X11_year 3 := ⟨mem_tb 667 (by decide +kernel) (by decide +kernel), tb_44, by decide, by decide, by decide +kernel⟩
def md_X11_imageOf : MD := (yX11_imageOf, cX11_imageOf, 2, some (.object "BathBaskets$Image"), 0, 0)
theorem ok_X11_imageOf : MOk md_X11_imageOf 1 := ⟨mem_tb 683 (by decide +kernel) (by decide +kernel), tb_44, by decide, by decide, by decide +kernel⟩
def md_X11_image : MD := (yX11_image, cX11_image, 3, some .int, 2, 39)
theorem ok_X11_image : MOk md_X11_image 1 := ⟨mem_tb 679 (by decide +kernel) (by decide +kernel), tb_44, by decide, by decide, by decide +kernel⟩
def md_X11_restore : MD := (yX11_restore, cX11_restore, 3, some .int, 2, 39)
theorem ok_X11_restore : MOk md_X11_restore 1 := ⟨mem_tb 692 (by decide +kernel) (by decide +kernel), tb_44, by decide, by decide, by decide +kernel⟩
def md_J9_floorDiv_7cf53 : MD := (yJ9_floorDiv_7cf53, cJ9_floorDiv_7cf53, 3, some .int, 0, 0)
theorem ok_J9_floorDiv_7cf53 : MOk md_J9_floorDiv_7cf53 2 := ⟨mem_tb 703 (by decide +kernel) (by decide +kernel), tb_58, by decide, by decide, by decide +kernel⟩
def md_J9_floorMod_7cf53 : MD := (yJ9_floorMod_7cf53, cJ9_floorMod_7cf53, 3, some .int, 0, 0)
theorem ok_J9_floorMod_7cf53 : MOk md_J9_floorMod_7cf53 2 := ⟨mem_tb 706 (by decide +kernel) (by decide +kernel), tb_58, by decide, by decide, by decide +kernel⟩
def md_X11_toldPlainly : MD := (yX11_toldPlainly, cX11_toldPlainly, 2, some .int, 0, 0)
theorem ok_X11_toldPlainly : MOk md_X11_toldPlainly 1 := ⟨mem_tb 700 (by decide +kernel) (by decide +kernel), tb_44, by decide, by decide, by decide +kernel⟩
def md_X11_told : MD := (yX11_told, cX11_told, 4, some .int, 2, 42)
theorem ok_X11_told : MOk md_X11_told 1 := ⟨mem_tb 696 (by decide +kernel) (by decide +kernel), tb_44, by decide, by decide, by decide +kernel⟩
def md_X12_in : MD := (yX12_in, cX12_in, 6, some .boolean, 0, 0)
theorem ok_X12_in : MOk md_X12_in 3 := ⟨mem_tb 818 (by decide +kernel) (by decide +kernel), tb_56, by decide, by decide, by decide +kernel⟩
def md_X12_ones : MD := (yX12_ones, cX12_ones, 3, some .int, 0, 0)
theorem ok_X12_ones : MOk md_X12_ones 1 := ⟨mem_tb 957 (by decide +kernel) (by decide +kernel), tb_56, by decide, by decide, by decide +kernel⟩
def md_X12_isCabin : MD := (yX12_isCabin, cX12_isCabin, 1, some .boolean, 1, 25)
theorem ok_X12_isCabin : MOk md_X12_isCabin 1 := ⟨mem_tb 814 (by decide +kernel) (by decide +kernel), tb_56, by decide, by decide, by decide +kernel⟩
def md_X12_isThing : MD := (yX12_isThing, cX12_isThing, 1, some .boolean, 1, 25)
theorem ok_X12_isThing : MOk md_X12_isThing 1 := ⟨mem_tb 1012 (by decide +kernel) (by decide +kernel), tb_56, by decide, by decide, by decide +kernel⟩
def md_X12_isIn : MD := (yX12_isIn, cX12_isIn, 2, some .boolean, 0, 0)
theorem ok_X12_isIn : MOk md_X12_isIn 2 := ⟨mem_tb 897 (by decide +kernel) (by decide +kernel), tb_56, by decide, by decide, by decide +kernel⟩
def md_X12_apart : MD := (yX12_apart, cX12_apart, 2, some .int, 0, 0)
theorem ok_X12_apart : MOk md_X12_apart 2 := ⟨mem_tb 894 (by decide +kernel) (by decide +kernel), tb_56, by decide, by decide, by decide +kernel⟩
def md_X12_basket : MD := (yX12_basket, cX12_basket, 5, some .int, 2, 45)
theorem ok_X12_basket : MOk md_X12_basket 3 := ⟨mem_tb 811 (by decide +kernel) (by decide +kernel), tb_56, by decide, by decide, by decide +kernel⟩
def md_X12_wrongMany : MD := (yX12_wrongMany, cX12_wrongMany, 3, some .int, 0, 0)
theorem ok_X12_wrongMany : MOk md_X12_wrongMany 0 := ⟨mem_tb 827 (by decide +kernel) (by decide +kernel), tb_56, by decide, by decide, by decide +kernel⟩
def md_X12_right : MD := (yX12_right, cX12_right, 3, some .int, 1, 22)
theorem ok_X12_right : MOk md_X12_right 0 := ⟨mem_tb 823 (by decide +kernel) (by decide +kernel), tb_56, by decide, by decide, by decide +kernel⟩
def md_X12_clock : MD := (yX12_clock, cX12_clock, 4, some .int, 1, 25)
theorem ok_X12_clock : MOk md_X12_clock 2 := ⟨mem_tb 831 (by decide +kernel) (by decide +kernel), tb_56, by decide, by decide, by decide +kernel⟩
def md_X12_attendant : MD := (yX12_attendant, cX12_attendant, 5, some .int, 2, 45)
theorem ok_X12_attendant : MOk md_X12_attendant 3 := ⟨mem_tb 836 (by decide +kernel) (by decide +kernel), tb_56, by decide, by decide, by decide +kernel⟩
def md_X12_say : MD := (yX12_say, cX12_say, 2, some .int, 1, 25)
theorem ok_X12_say : MOk md_X12_say 1 := ⟨mem_tb 840 (by decide +kernel) (by decide +kernel), tb_56, by decide, by decide, by decide +kernel⟩
def md_X12_wipe : MD := (yX12_wipe, cX12_wipe, 2, some .int, 0, 0)
theorem ok_X12_wipe : MOk md_X12_wipe 0 := ⟨mem_tb 846 (by decide +kernel) (by decide +kernel), tb_56, by decide, by decide, by decide +kernel⟩
def md_X12_close : MD := (yX12_close, cX12_close, 3, some .int, 0, 0)
theorem ok_X12_close : MOk md_X12_close 2 := ⟨mem_tb 862 (by decide +kernel) (by decide +kernel), tb_56, by decide, by decide, by decide +kernel⟩
def md_X12_isLetter : MD := (yX12_isLetter, cX12_isLetter, 1, some .boolean, 1, 25)
theorem ok_X12_isLetter : MOk md_X12_isLetter 1 := ⟨mem_tb 865 (by decide +kernel) (by decide +kernel), tb_56, by decide, by decide, by decide +kernel⟩
def md_X12_begin : MD := (yX12_begin, cX12_begin, 2, some .int, 2, 45)
theorem ok_X12_begin : MOk md_X12_begin 1 := ⟨mem_tb 858 (by decide +kernel) (by decide +kernel), tb_56, by decide, by decide, by decide +kernel⟩
def md_X12_readOn : MD := (yX12_readOn, cX12_readOn, 3, some .int, 3, 66)
theorem ok_X12_readOn : MOk md_X12_readOn 2 := ⟨mem_tb 854 (by decide +kernel) (by decide +kernel), tb_56, by decide, by decide, by decide +kernel⟩
def md_X12_fault : MD := (yX12_fault, cX12_fault, 3, some .int, 4, 88)
theorem ok_X12_fault : MOk md_X12_fault 0 := ⟨mem_tb 850 (by decide +kernel) (by decide +kernel), tb_56, by decide, by decide, by decide +kernel⟩
def md_X12_inHere : MD := (yX12_inHere, cX12_inHere, 1, some .int, 0, 0)
theorem ok_X12_inHere : MOk md_X12_inHere 0 := ⟨mem_tb 901 (by decide +kernel) (by decide +kernel), tb_56, by decide, by decide, by decide +kernel⟩
def md_X12_whyNot : MD := (yX12_whyNot, cX12_whyNot, 3, some .int, 1, 21)
theorem ok_X12_whyNot : MOk md_X12_whyNot 2 := ⟨mem_tb 891 (by decide +kernel) (by decide +kernel), tb_56, by decide, by decide, by decide +kernel⟩
def md_X12_go : MD := (yX12_go, cX12_go, 2, none, 1, 21)
theorem ok_X12_go : MOk md_X12_go 1 := ⟨mem_tb 913 (by decide +kernel) (by decide +kernel), tb_56, by decide, by decide, by decide +kernel⟩
def md_X12_look : MD := (yX12_look, cX12_look, 1, none, 1, 20)
theorem ok_X12_look : MOk md_X12_look 0 := ⟨mem_tb 917 (by decide +kernel) (by decide +kernel), tb_56, by decide, by decide, by decide +kernel⟩
def md_X12_take : MD := (yX12_take, cX12_take, 2, none, 0, 0)
theorem ok_X12_take : MOk md_X12_take 1 := ⟨mem_tb 925 (by decide +kernel) (by decide +kernel), tb_56, by decide, by decide, by decide +kernel⟩
def md_X12_lay : MD := (yX12_lay, cX12_lay, 2, none, 0, 0)
theorem ok_X12_lay : MOk md_X12_lay 1 := ⟨mem_tb 921 (by decide +kernel) (by decide +kernel), tb_56, by decide, by decide, by decide +kernel⟩
def md_X12_change : MD := (yX12_change, cX12_change, 3, none, 0, 0)
theorem ok_X12_change : MOk md_X12_change 1 := ⟨mem_tb 929 (by decide +kernel) (by decide +kernel), tb_56, by decide, by decide, by decide +kernel⟩
def md_X12_happen : MD := (yX12_happen, cX12_happen, 3, none, 2, 42)
theorem ok_X12_happen : MOk md_X12_happen 2 := ⟨mem_tb 909 (by decide +kernel) (by decide +kernel), tb_56, by decide, by decide, by decide +kernel⟩
def md_X12_keepNow : MD := (yX12_keepNow, cX12_keepNow, 2, none, 0, 0)
theorem ok_X12_keepNow : MOk md_X12_keepNow 0 := ⟨mem_tb 882 (by decide +kernel) (by decide +kernel), tb_56, by decide, by decide, by decide +kernel⟩
def md_X12_back : MD := (yX12_back, cX12_back, 3, some .int, 0, 0)
theorem ok_X12_back : MOk md_X12_back 1 := ⟨mem_tb 933 (by decide +kernel) (by decide +kernel), tb_56, by decide, by decide, by decide +kernel⟩
def md_X12_goOne : MD := (yX12_goOne, cX12_goOne, 7, none, 3, 64)
theorem ok_X12_goOne : MOk md_X12_goOne 1 := ⟨mem_tb 905 (by decide +kernel) (by decide +kernel), tb_56, by decide, by decide, by decide +kernel⟩
def md_X12_goEvenings : MD := (yX12_goEvenings, cX12_goEvenings, 3, none, 4, 90)
theorem ok_X12_goEvenings : MOk md_X12_goEvenings 0 := ⟨mem_tb 887 (by decide +kernel) (by decide +kernel), tb_56, by decide, by decide, by decide +kernel⟩
def md_X12_refusal : MD := (yX12_refusal, cX12_refusal, 1, some .int, 5, 112)
theorem ok_X12_refusal : MOk md_X12_refusal 0 := ⟨mem_tb 878 (by decide +kernel) (by decide +kernel), tb_56, by decide, by decide, by decide +kernel⟩
def md_X12_judge : MD := (yX12_judge, cX12_judge, 3, some .int, 6, 132)
theorem ok_X12_judge : MOk md_X12_judge 1 := ⟨mem_tb 873 (by decide +kernel) (by decide +kernel), tb_56, by decide, by decide, by decide +kernel⟩
def md_X12_behind : MD := (yX12_behind, cX12_behind, 4, some .int, 6, 132)
theorem ok_X12_behind : MOk md_X12_behind 2 := ⟨mem_tb 937 (by decide +kernel) (by decide +kernel), tb_56, by decide, by decide, by decide +kernel⟩
def md_X12_his : MD := (yX12_his, cX12_his, 3, some .int, 6, 132)
theorem ok_X12_his : MOk md_X12_his 1 := ⟨mem_tb 941 (by decide +kernel) (by decide +kernel), tb_56, by decide, by decide, by decide +kernel⟩
def md_X12_wrong : MD := (yX12_wrong, cX12_wrong, 3, some .int, 6, 132)
theorem ok_X12_wrong : MOk md_X12_wrong 1 := ⟨mem_tb 946 (by decide +kernel) (by decide +kernel), tb_56, by decide, by decide, by decide +kernel⟩
def md_X12_done : MD := (yX12_done, cX12_done, 2, some .int, 6, 132)
theorem ok_X12_done : MOk md_X12_done 0 := ⟨mem_tb 950 (by decide +kernel) (by decide +kernel), tb_56, by decide, by decide, by decide +kernel⟩
def md_X12_less : MD := (yX12_less, cX12_less, 2, some .int, 0, 0)
theorem ok_X12_less : MOk md_X12_less 2 := ⟨mem_tb 964 (by decide +kernel) (by decide +kernel), tb_56, by decide, by decide, by decide +kernel⟩
def md_X12_more : MD := (yX12_more, cX12_more, 2, some .int, 0, 0)
theorem ok_X12_more : MOk md_X12_more 2 := ⟨mem_tb 967 (by decide +kernel) (by decide +kernel), tb_56, by decide, by decide, by decide +kernel⟩
def md_X12_minutesBy : MD := (yX12_minutesBy, cX12_minutesBy, 8, some .int, 1, 21)
theorem ok_X12_minutesBy : MOk md_X12_minutesBy 2 := ⟨mem_tb 961 (by decide +kernel) (by decide +kernel), tb_56, by decide, by decide, by decide +kernel⟩
def md_X12_round : MD := (yX12_round, cX12_round, 6, some .int, 2, 48)
theorem ok_X12_round : MOk md_X12_round 2 := ⟨mem_tb 954 (by decide +kernel) (by decide +kernel), tb_56, by decide, by decide, by decide +kernel⟩
def md_X12_shownBy : MD := (yX12_shownBy, cX12_shownBy, 4, some .int, 1, 21)
theorem ok_X12_shownBy : MOk md_X12_shownBy 1 := ⟨mem_tb 975 (by decide +kernel) (by decide +kernel), tb_56, by decide, by decide, by decide +kernel⟩
def md_X12_show : MD := (yX12_show, cX12_show, 6, some .int, 2, 44)
theorem ok_X12_show : MOk md_X12_show 2 := ⟨mem_tb 971 (by decide +kernel) (by decide +kernel), tb_56, by decide, by decide, by decide +kernel⟩
def md_X12_canOwn : MD := (yX12_canOwn, cX12_canOwn, 5, some .boolean, 1, 21)
theorem ok_X12_canOwn : MOk md_X12_canOwn 4 := ⟨mem_tb 989 (by decide +kernel) (by decide +kernel), tb_56, by decide, by decide, by decide +kernel⟩
def md_X12_mostFrom : MD := (yX12_mostFrom, cX12_mostFrom, 7, some .int, 2, 45)
theorem ok_X12_mostFrom : MOk md_X12_mostFrom 3 := ⟨mem_tb 985 (by decide +kernel) (by decide +kernel), tb_56, by decide, by decide, by decide +kernel⟩
def md_X12_ownerOf : MD := (yX12_ownerOf, cX12_ownerOf, 8, some .int, 2, 45)
theorem ok_X12_ownerOf : MOk md_X12_ownerOf 3 := ⟨mem_tb 993 (by decide +kernel) (by decide +kernel), tb_56, by decide, by decide, by decide +kernel⟩
def md_X12_owners : MD := (yX12_owners, cX12_owners, 6, some .int, 3, 72)
theorem ok_X12_owners : MOk md_X12_owners 2 := ⟨mem_tb 979 (by decide +kernel) (by decide +kernel), tb_56, by decide, by decide, by decide +kernel⟩
def md_X12_readHooks : MD := (yX12_readHooks, cX12_readHooks, 5, some .boolean, 0, 0)
theorem ok_X12_readHooks : MOk md_X12_readHooks 1 := ⟨mem_tb 1002 (by decide +kernel) (by decide +kernel), tb_56, by decide, by decide, by decide +kernel⟩
def md_X12_common : MD := (yX12_common, cX12_common, 5, some .int, 0, 0)
theorem ok_X12_common : MOk md_X12_common 2 := ⟨mem_tb 1005 (by decide +kernel) (by decide +kernel), tb_56, by decide, by decide, by decide +kernel⟩
def md_X12_towels : MD := (yX12_towels, cX12_towels, 9, some .int, 1, 25)
theorem ok_X12_towels : MOk md_X12_towels 2 := ⟨mem_tb 997 (by decide +kernel) (by decide +kernel), tb_56, by decide, by decide, by decide +kernel⟩
def md_X12_found : MD := (yX12_found, cX12_found, 3, some .int, 2, 45)
theorem ok_X12_found : MOk md_X12_found 2 := ⟨mem_tb 1009 (by decide +kernel) (by decide +kernel), tb_56, by decide, by decide, by decide +kernel⟩
def md_X12_forget : MD := (yX12_forget, cX12_forget, 2, some .int, 0, 0)
theorem ok_X12_forget : MOk md_X12_forget 0 := ⟨mem_tb 1017 (by decide +kernel) (by decide +kernel), tb_56, by decide, by decide, by decide +kernel⟩
def md_X12_foundBy : MD := (yX12_foundBy, cX12_foundBy, 2, some .int, 0, 0)
theorem ok_X12_foundBy : MOk md_X12_foundBy 2 := ⟨mem_tb 1028 (by decide +kernel) (by decide +kernel), tb_56, by decide, by decide, by decide +kernel⟩
def md_X12_isFit : MD := (yX12_isFit, cX12_isFit, 4, some .boolean, 1, 21)
theorem ok_X12_isFit : MOk md_X12_isFit 1 := ⟨mem_tb 1025 (by decide +kernel) (by decide +kernel), tb_56, by decide, by decide, by decide +kernel⟩
def md_X12_fits : MD := (yX12_fits, cX12_fits, 4, some .int, 2, 44)
theorem ok_X12_fits : MOk md_X12_fits 1 := ⟨mem_tb 1021 (by decide +kernel) (by decide +kernel), tb_56, by decide, by decide, by decide +kernel⟩
def md_X12_mostLeft : MD := (yX12_mostLeft, cX12_mostLeft, 4, some .int, 2, 44)
theorem ok_X12_mostLeft : MOk md_X12_mostLeft 1 := ⟨mem_tb 1036 (by decide +kernel) (by decide +kernel), tb_56, by decide, by decide, by decide +kernel⟩
def md_X12_ask : MD := (yX12_ask, cX12_ask, 6, some .int, 3, 67)
theorem ok_X12_ask : MOk md_X12_ask 1 := ⟨mem_tb 1032 (by decide +kernel) (by decide +kernel), tb_56, by decide, by decide, by decide +kernel⟩
def md_X12_leastTake : MD := (yX12_leastTake, cX12_leastTake, 7, some .int, 0, 0)
theorem ok_X12_leastTake : MOk md_X12_leastTake 2 := ⟨mem_tb 1049 (by decide +kernel) (by decide +kernel), tb_56, by decide, by decide, by decide +kernel⟩
def md_X12_leastTakeWins : MD := (yX12_leastTakeWins, cX12_leastTakeWins, 7, some .boolean, 0, 0)
theorem ok_X12_leastTakeWins : MOk md_X12_leastTakeWins 2 := ⟨mem_tb 1045 (by decide +kernel) (by decide +kernel), tb_56, by decide, by decide, by decide +kernel⟩
def md_X12_piles : MD := (yX12_piles, cX12_piles, 6, some .int, 1, 26)
theorem ok_X12_piles : MOk md_X12_piles 3 := ⟨mem_tb 1040 (by decide +kernel) (by decide +kernel), tb_56, by decide, by decide, by decide +kernel⟩
def md_X12_lowest : MD := (yX12_lowest, cX12_lowest, 11, some .long, 0, 0)
theorem ok_X12_lowest : MOk md_X12_lowest 3 := ⟨mem_tb 1059 (by decide +kernel) (by decide +kernel), tb_56, by decide, by decide, by decide +kernel⟩
def md_X12_lengths : MD := (yX12_lengths, cX12_lengths, 13, some .long, 1, 30)
theorem ok_X12_lengths : MOk md_X12_lengths 5 := ⟨mem_tb 1053 (by decide +kernel) (by decide +kernel), tb_56, by decide, by decide, by decide +kernel⟩
def md_X12_actBy : MD := (yX12_actBy, cX12_actBy, 1, some .int, 0, 0)
theorem ok_X12_actBy : MOk md_X12_actBy 1 := ⟨mem_tb 1069 (by decide +kernel) (by decide +kernel), tb_56, by decide, by decide, by decide +kernel⟩
def md_X12_year : MD := (yX12_year, cX12_year, 8, some .int, 3, 64)
theorem ok_X12_year : MOk md_X12_year 3 := ⟨mem_tb 1063 (by decide +kernel) (by decide +kernel), tb_56, by decide, by decide, by decide +kernel⟩
def md_X12_pass : MD := (yX12_pass, cX12_pass, 3, some .int, 0, 0)
theorem ok_X12_pass : MOk md_X12_pass 1 := ⟨mem_tb 1081 (by decide +kernel) (by decide +kernel), tb_56, by decide, by decide, by decide +kernel⟩
def md_X12_passRow : MD := (yX12_passRow, cX12_passRow, 4, none, 1, 22)
theorem ok_X12_passRow : MOk md_X12_passRow 2 := ⟨mem_tb 1085 (by decide +kernel) (by decide +kernel), tb_56, by decide, by decide, by decide +kernel⟩
def md_X12_passAll : MD := (yX12_passAll, cX12_passAll, 1, none, 2, 45)
theorem ok_X12_passAll : MOk md_X12_passAll 0 := ⟨mem_tb 1077 (by decide +kernel) (by decide +kernel), tb_56, by decide, by decide, by decide +kernel⟩
def md_X12_image : MD := (yX12_image, cX12_image, 2, some .int, 3, 65)
theorem ok_X12_image : MOk md_X12_image 1 := ⟨mem_tb 1073 (by decide +kernel) (by decide +kernel), tb_56, by decide, by decide, by decide +kernel⟩
def md_X12_restore : MD := (yX12_restore, cX12_restore, 2, some .int, 3, 65)
theorem ok_X12_restore : MOk md_X12_restore 1 := ⟨mem_tb 1089 (by decide +kernel) (by decide +kernel), tb_56, by decide, by decide, by decide +kernel⟩
def md_X12_told : MD := (yX12_told, cX12_told, 3, some .int, 1, 25)
theorem ok_X12_told : MOk md_X12_told 1 := ⟨mem_tb 1093 (by decide +kernel) (by decide +kernel), tb_56, by decide, by decide, by decide +kernel⟩
