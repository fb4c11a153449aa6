section
-- ===== PART A: goes FIRST, ahead of the names: the tables' words, and 'selects' of the private methods out of them =====
/-- a private method of a class that the tables say can be made, by its rows of tables_1 -/
def lw_okq (q : MethodName × Nat) : Prop := (q.1.cls ≠ "java/lang/invoke/MethodHandle" ∧ q.1.cls ≠ "java/lang/invoke/VarHandle") ∧ Cond.instantiable q.1.cls q.2 ∈ tables_1 ∧ Cond.privateMethod q.1 ∈ tables_1 ∧ Cond.instanceMethod q.1 ∈ tables_1
theorem lw_p0 : lw_okq (⟨"BathBaskets", "playEvening", "()I"⟩, 12) := ⟨⟨by decide +kernel, by decide +kernel⟩, List.mem_of_getElem? (i := 18) (by decide +kernel), List.mem_of_getElem? (i := 385) (by decide +kernel), List.mem_of_getElem? (i := 386) (by decide +kernel)⟩
theorem lw_p1 : lw_okq (⟨"BathBaskets$Evening", "playAct", "(II)V"⟩, 7) := ⟨⟨by decide +kernel, by decide +kernel⟩, List.mem_of_getElem? (i := 133) (by decide +kernel), List.mem_of_getElem? (i := 408) (by decide +kernel), List.mem_of_getElem? (i := 409) (by decide +kernel)⟩
theorem lw_p2 : lw_okq (⟨"BathBaskets$Bath", "whyTooLate", "(I)I"⟩, 8) := ⟨⟨by decide +kernel, by decide +kernel⟩, List.mem_of_getElem? (i := 26) (by decide +kernel), List.mem_of_getElem? (i := 419) (by decide +kernel), List.mem_of_getElem? (i := 420) (by decide +kernel)⟩
theorem lw_p3 : lw_okq (⟨"BathBaskets$Bath", "whyNotMoved", "(III)I"⟩, 8) := ⟨⟨by decide +kernel, by decide +kernel⟩, List.mem_of_getElem? (i := 26) (by decide +kernel), List.mem_of_getElem? (i := 427) (by decide +kernel), List.mem_of_getElem? (i := 428) (by decide +kernel)⟩
theorem lw_p4 : lw_okq (⟨"BathBaskets$Evening", "noteLoss", "(II)V"⟩, 7) := ⟨⟨by decide +kernel, by decide +kernel⟩, List.mem_of_getElem? (i := 133) (by decide +kernel), List.mem_of_getElem? (i := 441) (by decide +kernel), List.mem_of_getElem? (i := 442) (by decide +kernel)⟩
theorem lw_p5 : lw_okq (⟨"BathBaskets$Choice", "sumMinutes", "(LBathBaskets$Bath;)V"⟩, 3) := ⟨⟨by decide +kernel, by decide +kernel⟩, List.mem_of_getElem? (i := 170) (by decide +kernel), List.mem_of_getElem? (i := 478) (by decide +kernel), List.mem_of_getElem? (i := 479) (by decide +kernel)⟩
theorem lw_p6 : lw_okq (⟨"BathBaskets$Choice", "joinThings", "(LBathBaskets$Bath;)V"⟩, 3) := ⟨⟨by decide +kernel, by decide +kernel⟩, List.mem_of_getElem? (i := 170) (by decide +kernel), List.mem_of_getElem? (i := 501) (by decide +kernel), List.mem_of_getElem? (i := 502) (by decide +kernel)⟩
theorem lw_p7 : lw_okq (⟨"BathBaskets$Matching", "joinHomes", "(LBathBaskets$Bath;)V"⟩, 3) := ⟨⟨by decide +kernel, by decide +kernel⟩, List.mem_of_getElem? (i := 188) (by decide +kernel), List.mem_of_getElem? (i := 514) (by decide +kernel), List.mem_of_getElem? (i := 515) (by decide +kernel)⟩
theorem lw_p8 : lw_okq (⟨"BathBaskets$Matching", "mostAtOnce", "(II)I"⟩, 3) := ⟨⟨by decide +kernel, by decide +kernel⟩, List.mem_of_getElem? (i := 188) (by decide +kernel), List.mem_of_getElem? (i := 519) (by decide +kernel), List.mem_of_getElem? (i := 520) (by decide +kernel)⟩
theorem lw_p9 : lw_okq (⟨"BathBaskets$Matching", "leastBasket", "(IIII)I"⟩, 3) := ⟨⟨by decide +kernel, by decide +kernel⟩, List.mem_of_getElem? (i := 188) (by decide +kernel), List.mem_of_getElem? (i := 525) (by decide +kernel), List.mem_of_getElem? (i := 526) (by decide +kernel)⟩
theorem lw_p10 : lw_okq (⟨"BathBaskets$Laws", "mostLeftAfter", "(I)I"⟩, 5) := ⟨⟨by decide +kernel, by decide +kernel⟩, List.mem_of_getElem? (i := 224) (by decide +kernel), List.mem_of_getElem? (i := 580) (by decide +kernel), List.mem_of_getElem? (i := 581) (by decide +kernel)⟩
theorem lw_p11 : lw_okq (⟨"BathBaskets", "imageOf", "(I)LBathBaskets$Image;"⟩, 12) := ⟨⟨by decide +kernel, by decide +kernel⟩, List.mem_of_getElem? (i := 18) (by decide +kernel), List.mem_of_getElem? (i := 638) (by decide +kernel), List.mem_of_getElem? (i := 639) (by decide +kernel)⟩
theorem lw_p12 : lw_okq (⟨"BathBaskets", "toldPlainly", "(I)I"⟩, 12) := ⟨⟨by decide +kernel, by decide +kernel⟩, List.mem_of_getElem? (i := 18) (by decide +kernel), List.mem_of_getElem? (i := 655) (by decide +kernel), List.mem_of_getElem? (i := 656) (by decide +kernel)⟩
theorem lw_p13 : lw_okq (⟨"BathBasketsModel", "wrongMany", "()I"⟩, 31) := ⟨⟨by decide +kernel, by decide +kernel⟩, List.mem_of_getElem? (i := 665) (by decide +kernel), List.mem_of_getElem? (i := 782) (by decide +kernel), List.mem_of_getElem? (i := 783) (by decide +kernel)⟩
theorem lw_p14 : lw_okq (⟨"BathBasketsModel", "readOn", "(II)I"⟩, 31) := ⟨⟨by decide +kernel, by decide +kernel⟩, List.mem_of_getElem? (i := 665) (by decide +kernel), List.mem_of_getElem? (i := 809) (by decide +kernel), List.mem_of_getElem? (i := 810) (by decide +kernel)⟩
theorem lw_p15 : lw_okq (⟨"BathBasketsModel", "begin", "(I)I"⟩, 31) := ⟨⟨by decide +kernel, by decide +kernel⟩, List.mem_of_getElem? (i := 665) (by decide +kernel), List.mem_of_getElem? (i := 813) (by decide +kernel), List.mem_of_getElem? (i := 814) (by decide +kernel)⟩
def lw_privs_1 : List (MethodName × Nat) := [(⟨"BathBaskets", "playEvening", "()I"⟩, 12), (⟨"BathBaskets$Evening", "playAct", "(II)V"⟩, 7), (⟨"BathBaskets$Bath", "whyTooLate", "(I)I"⟩, 8), (⟨"BathBaskets$Bath", "whyNotMoved", "(III)I"⟩, 8), (⟨"BathBaskets$Evening", "noteLoss", "(II)V"⟩, 7), (⟨"BathBaskets$Choice", "sumMinutes", "(LBathBaskets$Bath;)V"⟩, 3), (⟨"BathBaskets$Choice", "joinThings", "(LBathBaskets$Bath;)V"⟩, 3), (⟨"BathBaskets$Matching", "joinHomes", "(LBathBaskets$Bath;)V"⟩, 3), (⟨"BathBaskets$Matching", "mostAtOnce", "(II)I"⟩, 3), (⟨"BathBaskets$Matching", "leastBasket", "(IIII)I"⟩, 3), (⟨"BathBaskets$Laws", "mostLeftAfter", "(I)I"⟩, 5), (⟨"BathBaskets", "imageOf", "(I)LBathBaskets$Image;"⟩, 12), (⟨"BathBaskets", "toldPlainly", "(I)I"⟩, 12), (⟨"BathBasketsModel", "wrongMany", "()I"⟩, 31), (⟨"BathBasketsModel", "readOn", "(II)I"⟩, 31), (⟨"BathBasketsModel", "begin", "(I)I"⟩, 31)]
theorem lw_r1 : ∀ q ∈ lw_privs_1, lw_okq q := List.forall_mem_cons.mpr ⟨lw_p0, List.forall_mem_cons.mpr ⟨lw_p1, List.forall_mem_cons.mpr ⟨lw_p2, List.forall_mem_cons.mpr ⟨lw_p3, List.forall_mem_cons.mpr ⟨lw_p4, List.forall_mem_cons.mpr ⟨lw_p5, List.forall_mem_cons.mpr ⟨lw_p6, List.forall_mem_cons.mpr ⟨lw_p7, List.forall_mem_cons.mpr ⟨lw_p8, List.forall_mem_cons.mpr ⟨lw_p9, List.forall_mem_cons.mpr ⟨lw_p10, List.forall_mem_cons.mpr ⟨lw_p11, List.forall_mem_cons.mpr ⟨lw_p12, List.forall_mem_cons.mpr ⟨lw_p13, List.forall_mem_cons.mpr ⟨lw_p14, List.forall_mem_cons.mpr ⟨lw_p15, fun _ h => absurd h List.not_mem_nil⟩⟩⟩⟩⟩⟩⟩⟩⟩⟩⟩⟩⟩⟩⟩⟩
theorem lw_p16 : lw_okq (⟨"BathBasketsModel", "close", "(II)I"⟩, 31) := ⟨⟨by decide +kernel, by decide +kernel⟩, List.mem_of_getElem? (i := 665) (by decide +kernel), List.mem_of_getElem? (i := 817) (by decide +kernel), List.mem_of_getElem? (i := 818) (by decide +kernel)⟩
theorem lw_p17 : lw_okq (⟨"BathBasketsModel", "refusal", "()I"⟩, 31) := ⟨⟨by decide +kernel, by decide +kernel⟩, List.mem_of_getElem? (i := 665) (by decide +kernel), List.mem_of_getElem? (i := 833) (by decide +kernel), List.mem_of_getElem? (i := 834) (by decide +kernel)⟩
theorem lw_p18 : lw_okq (⟨"BathBasketsModel", "keepNow", "()V"⟩, 31) := ⟨⟨by decide +kernel, by decide +kernel⟩, List.mem_of_getElem? (i := 665) (by decide +kernel), List.mem_of_getElem? (i := 837) (by decide +kernel), List.mem_of_getElem? (i := 838) (by decide +kernel)⟩
theorem lw_p19 : lw_okq (⟨"BathBasketsModel", "goEvenings", "()V"⟩, 31) := ⟨⟨by decide +kernel, by decide +kernel⟩, List.mem_of_getElem? (i := 665) (by decide +kernel), List.mem_of_getElem? (i := 842) (by decide +kernel), List.mem_of_getElem? (i := 843) (by decide +kernel)⟩
theorem lw_p20 : lw_okq (⟨"BathBasketsModel", "whyNot", "(II)I"⟩, 31) := ⟨⟨by decide +kernel, by decide +kernel⟩, List.mem_of_getElem? (i := 665) (by decide +kernel), List.mem_of_getElem? (i := 846) (by decide +kernel), List.mem_of_getElem? (i := 847) (by decide +kernel)⟩
theorem lw_p21 : lw_okq (⟨"BathBasketsModel", "inHere", "()I"⟩, 31) := ⟨⟨by decide +kernel, by decide +kernel⟩, List.mem_of_getElem? (i := 665) (by decide +kernel), List.mem_of_getElem? (i := 856) (by decide +kernel), List.mem_of_getElem? (i := 857) (by decide +kernel)⟩
theorem lw_p22 : lw_okq (⟨"BathBasketsModel", "goOne", "(I)V"⟩, 31) := ⟨⟨by decide +kernel, by decide +kernel⟩, List.mem_of_getElem? (i := 665) (by decide +kernel), List.mem_of_getElem? (i := 860) (by decide +kernel), List.mem_of_getElem? (i := 861) (by decide +kernel)⟩
theorem lw_p23 : lw_okq (⟨"BathBasketsModel", "happen", "(II)V"⟩, 31) := ⟨⟨by decide +kernel, by decide +kernel⟩, List.mem_of_getElem? (i := 665) (by decide +kernel), List.mem_of_getElem? (i := 864) (by decide +kernel), List.mem_of_getElem? (i := 865) (by decide +kernel)⟩
theorem lw_p24 : lw_okq (⟨"BathBasketsModel", "go", "(I)V"⟩, 31) := ⟨⟨by decide +kernel, by decide +kernel⟩, List.mem_of_getElem? (i := 665) (by decide +kernel), List.mem_of_getElem? (i := 868) (by decide +kernel), List.mem_of_getElem? (i := 869) (by decide +kernel)⟩
theorem lw_p25 : lw_okq (⟨"BathBasketsModel", "look", "()V"⟩, 31) := ⟨⟨by decide +kernel, by decide +kernel⟩, List.mem_of_getElem? (i := 665) (by decide +kernel), List.mem_of_getElem? (i := 872) (by decide +kernel), List.mem_of_getElem? (i := 873) (by decide +kernel)⟩
theorem lw_p26 : lw_okq (⟨"BathBasketsModel", "lay", "(I)V"⟩, 31) := ⟨⟨by decide +kernel, by decide +kernel⟩, List.mem_of_getElem? (i := 665) (by decide +kernel), List.mem_of_getElem? (i := 876) (by decide +kernel), List.mem_of_getElem? (i := 877) (by decide +kernel)⟩
theorem lw_p27 : lw_okq (⟨"BathBasketsModel", "take", "(I)V"⟩, 31) := ⟨⟨by decide +kernel, by decide +kernel⟩, List.mem_of_getElem? (i := 665) (by decide +kernel), List.mem_of_getElem? (i := 880) (by decide +kernel), List.mem_of_getElem? (i := 881) (by decide +kernel)⟩
theorem lw_p28 : lw_okq (⟨"BathBasketsModel", "change", "(I)V"⟩, 31) := ⟨⟨by decide +kernel, by decide +kernel⟩, List.mem_of_getElem? (i := 665) (by decide +kernel), List.mem_of_getElem? (i := 884) (by decide +kernel), List.mem_of_getElem? (i := 885) (by decide +kernel)⟩
theorem lw_p29 : lw_okq (⟨"BathBasketsModel", "back", "(I)I"⟩, 31) := ⟨⟨by decide +kernel, by decide +kernel⟩, List.mem_of_getElem? (i := 665) (by decide +kernel), List.mem_of_getElem? (i := 888) (by decide +kernel), List.mem_of_getElem? (i := 889) (by decide +kernel)⟩
theorem lw_p30 : lw_okq (⟨"BathBasketsModel", "minutesBy", "(II)I"⟩, 31) := ⟨⟨by decide +kernel, by decide +kernel⟩, List.mem_of_getElem? (i := 665) (by decide +kernel), List.mem_of_getElem? (i := 916) (by decide +kernel), List.mem_of_getElem? (i := 917) (by decide +kernel)⟩
theorem lw_p31 : lw_okq (⟨"BathBasketsModel", "shownBy", "(I)I"⟩, 31) := ⟨⟨by decide +kernel, by decide +kernel⟩, List.mem_of_getElem? (i := 665) (by decide +kernel), List.mem_of_getElem? (i := 930) (by decide +kernel), List.mem_of_getElem? (i := 931) (by decide +kernel)⟩
def lw_privs_2 : List (MethodName × Nat) := [(⟨"BathBasketsModel", "close", "(II)I"⟩, 31), (⟨"BathBasketsModel", "refusal", "()I"⟩, 31), (⟨"BathBasketsModel", "keepNow", "()V"⟩, 31), (⟨"BathBasketsModel", "goEvenings", "()V"⟩, 31), (⟨"BathBasketsModel", "whyNot", "(II)I"⟩, 31), (⟨"BathBasketsModel", "inHere", "()I"⟩, 31), (⟨"BathBasketsModel", "goOne", "(I)V"⟩, 31), (⟨"BathBasketsModel", "happen", "(II)V"⟩, 31), (⟨"BathBasketsModel", "go", "(I)V"⟩, 31), (⟨"BathBasketsModel", "look", "()V"⟩, 31), (⟨"BathBasketsModel", "lay", "(I)V"⟩, 31), (⟨"BathBasketsModel", "take", "(I)V"⟩, 31), (⟨"BathBasketsModel", "change", "(I)V"⟩, 31), (⟨"BathBasketsModel", "back", "(I)I"⟩, 31), (⟨"BathBasketsModel", "minutesBy", "(II)I"⟩, 31), (⟨"BathBasketsModel", "shownBy", "(I)I"⟩, 31)]
theorem lw_r2 : ∀ q ∈ lw_privs_2, lw_okq q := List.forall_mem_cons.mpr ⟨lw_p16, List.forall_mem_cons.mpr ⟨lw_p17, List.forall_mem_cons.mpr ⟨lw_p18, List.forall_mem_cons.mpr ⟨lw_p19, List.forall_mem_cons.mpr ⟨lw_p20, List.forall_mem_cons.mpr ⟨lw_p21, List.forall_mem_cons.mpr ⟨lw_p22, List.forall_mem_cons.mpr ⟨lw_p23, List.forall_mem_cons.mpr ⟨lw_p24, List.forall_mem_cons.mpr ⟨lw_p25, List.forall_mem_cons.mpr ⟨lw_p26, List.forall_mem_cons.mpr ⟨lw_p27, List.forall_mem_cons.mpr ⟨lw_p28, List.forall_mem_cons.mpr ⟨lw_p29, List.forall_mem_cons.mpr ⟨lw_p30, List.forall_mem_cons.mpr ⟨lw_p31, fun _ h => absurd h List.not_mem_nil⟩⟩⟩⟩⟩⟩⟩⟩⟩⟩⟩⟩⟩⟩⟩⟩
theorem lw_p32 : lw_okq (⟨"BathBasketsModel", "mostFrom", "(III)I"⟩, 31) := ⟨⟨by decide +kernel, by decide +kernel⟩, List.mem_of_getElem? (i := 665) (by decide +kernel), List.mem_of_getElem? (i := 940) (by decide +kernel), List.mem_of_getElem? (i := 941) (by decide +kernel)⟩
theorem lw_p33 : lw_okq (⟨"BathBasketsModel", "canOwn", "(IIII)Z"⟩, 31) := ⟨⟨by decide +kernel, by decide +kernel⟩, List.mem_of_getElem? (i := 665) (by decide +kernel), List.mem_of_getElem? (i := 944) (by decide +kernel), List.mem_of_getElem? (i := 945) (by decide +kernel)⟩
theorem lw_p34 : lw_okq (⟨"BathBasketsModel", "ownerOf", "(III)I"⟩, 31) := ⟨⟨by decide +kernel, by decide +kernel⟩, List.mem_of_getElem? (i := 665) (by decide +kernel), List.mem_of_getElem? (i := 948) (by decide +kernel), List.mem_of_getElem? (i := 949) (by decide +kernel)⟩
theorem lw_p35 : lw_okq (⟨"BathBasketsModel", "readHooks", "(I)Z"⟩, 31) := ⟨⟨by decide +kernel, by decide +kernel⟩, List.mem_of_getElem? (i := 665) (by decide +kernel), List.mem_of_getElem? (i := 957) (by decide +kernel), List.mem_of_getElem? (i := 958) (by decide +kernel)⟩
theorem lw_p36 : lw_okq (⟨"BathBasketsModel", "isFit", "(I)Z"⟩, 31) := ⟨⟨by decide +kernel, by decide +kernel⟩, List.mem_of_getElem? (i := 665) (by decide +kernel), List.mem_of_getElem? (i := 980) (by decide +kernel), List.mem_of_getElem? (i := 981) (by decide +kernel)⟩
theorem lw_p37 : lw_okq (⟨"BathBasketsModel", "mostLeft", "(I)I"⟩, 31) := ⟨⟨by decide +kernel, by decide +kernel⟩, List.mem_of_getElem? (i := 665) (by decide +kernel), List.mem_of_getElem? (i := 991) (by decide +kernel), List.mem_of_getElem? (i := 992) (by decide +kernel)⟩
theorem lw_p38 : lw_okq (⟨"BathBasketsModel", "leastTakeWins", "(II)Z"⟩, 31) := ⟨⟨by decide +kernel, by decide +kernel⟩, List.mem_of_getElem? (i := 665) (by decide +kernel), List.mem_of_getElem? (i := 1000) (by decide +kernel), List.mem_of_getElem? (i := 1001) (by decide +kernel)⟩
theorem lw_p39 : lw_okq (⟨"BathBasketsModel", "leastTake", "(II)I"⟩, 31) := ⟨⟨by decide +kernel, by decide +kernel⟩, List.mem_of_getElem? (i := 665) (by decide +kernel), List.mem_of_getElem? (i := 1004) (by decide +kernel), List.mem_of_getElem? (i := 1005) (by decide +kernel)⟩
theorem lw_p40 : lw_okq (⟨"BathBasketsModel", "passAll", "()V"⟩, 31) := ⟨⟨by decide +kernel, by decide +kernel⟩, List.mem_of_getElem? (i := 665) (by decide +kernel), List.mem_of_getElem? (i := 1032) (by decide +kernel), List.mem_of_getElem? (i := 1033) (by decide +kernel)⟩
theorem lw_p41 : lw_okq (⟨"BathBasketsModel", "pass", "(I)I"⟩, 31) := ⟨⟨by decide +kernel, by decide +kernel⟩, List.mem_of_getElem? (i := 665) (by decide +kernel), List.mem_of_getElem? (i := 1036) (by decide +kernel), List.mem_of_getElem? (i := 1037) (by decide +kernel)⟩
theorem lw_p42 : lw_okq (⟨"BathBasketsModel", "passRow", "([II)V"⟩, 31) := ⟨⟨by decide +kernel, by decide +kernel⟩, List.mem_of_getElem? (i := 665) (by decide +kernel), List.mem_of_getElem? (i := 1040) (by decide +kernel), List.mem_of_getElem? (i := 1041) (by decide +kernel)⟩
def lw_privs_3 : List (MethodName × Nat) := [(⟨"BathBasketsModel", "mostFrom", "(III)I"⟩, 31), (⟨"BathBasketsModel", "canOwn", "(IIII)Z"⟩, 31), (⟨"BathBasketsModel", "ownerOf", "(III)I"⟩, 31), (⟨"BathBasketsModel", "readHooks", "(I)Z"⟩, 31), (⟨"BathBasketsModel", "isFit", "(I)Z"⟩, 31), (⟨"BathBasketsModel", "mostLeft", "(I)I"⟩, 31), (⟨"BathBasketsModel", "leastTakeWins", "(II)Z"⟩, 31), (⟨"BathBasketsModel", "leastTake", "(II)I"⟩, 31), (⟨"BathBasketsModel", "passAll", "()V"⟩, 31), (⟨"BathBasketsModel", "pass", "(I)I"⟩, 31), (⟨"BathBasketsModel", "passRow", "([II)V"⟩, 31)]
theorem lw_r3 : ∀ q ∈ lw_privs_3, lw_okq q := List.forall_mem_cons.mpr ⟨lw_p32, List.forall_mem_cons.mpr ⟨lw_p33, List.forall_mem_cons.mpr ⟨lw_p34, List.forall_mem_cons.mpr ⟨lw_p35, List.forall_mem_cons.mpr ⟨lw_p36, List.forall_mem_cons.mpr ⟨lw_p37, List.forall_mem_cons.mpr ⟨lw_p38, List.forall_mem_cons.mpr ⟨lw_p39, List.forall_mem_cons.mpr ⟨lw_p40, List.forall_mem_cons.mpr ⟨lw_p41, List.forall_mem_cons.mpr ⟨lw_p42, fun _ h => absurd h List.not_mem_nil⟩⟩⟩⟩⟩⟩⟩⟩⟩⟩⟩
def lw_privs : List (MethodName × Nat) := lw_privs_1 ++ (lw_privs_2 ++ (lw_privs_3))
def lw_tbl : List Cond := k2_sels lw_privs ++ tables_1
theorem lw_privs_ok : ∀ q ∈ lw_privs, lw_okq q := by
  show ∀ q ∈ lw_privs_1 ++ (lw_privs_2 ++ (lw_privs_3)), lw_okq q
  exact List.forall_mem_append.mpr ⟨lw_r1, List.forall_mem_append.mpr ⟨lw_r2, lw_r3⟩⟩
end
section
def RX0 : String := "BathBaskets$Bath"
def TX0 : u_T := fun k => match k with
  | 0 => ("BathBaskets$Bath", "standing", "[I", true)
  | 1 => ("BathBaskets$Bath", "things", "[I", true)
  | 2 => ("BathBaskets$Bath", "minutes", "[I", true)
  | 3 => ("BathBaskets$Bath", "cabin", "I", false)
  | 4 => ("BathBaskets$Bath", "has", "I", false)
  | 5 => ("BathBaskets$Bath", "seen", "I", false)
  | 6 => ("BathBaskets$Bath", "now", "I", false)
  | _ => ("BathBaskets$Bath", "bell", "I", false)
def tyX0 : Nat → FieldType := fun k => match k with
  | 0 => .array .int
  | 1 => .array .int
  | 2 => .array .int
  | 3 => .int
  | 4 => .int
  | 5 => .int
  | 6 => .int
  | _ => .int
abbrev wsX00 : List Cond := u_ws RX0 TX0 8
theorem nmX0 : ∀ a, a < 8 → ∀ b, b < 8 → a ≠ b → (TX0 a).2.1 ≠ (TX0 b).2.1 := by decide +kernel
theorem tyX0_ok : ∀ k, k < 8 → parseFieldDescriptor (TX0 k).2.2.1 = some (tyX0 k) := by decide +kernel
abbrev cX0_init : ByteArray := prog_2_method_1_code
def yX0_init : MethodName := ⟨RX0, "<init>", "()V"⟩
abbrev cX0_takeOver : ByteArray := prog_2_method_2_code
def yX0_takeOver : MethodName := ⟨RX0, "takeOver", "(LBathBaskets$Bath;)V"⟩
abbrev cX0_putRight : ByteArray := prog_2_method_3_code
def yX0_putRight : MethodName := ⟨RX0, "putRight", "()V"⟩
abbrev cX0_strangers : ByteArray := prog_2_method_4_code
def yX0_strangers : MethodName := ⟨RX0, "strangers", "()I"⟩
abbrev cX0_basketHere : ByteArray := prog_2_method_5_code
def yX0_basketHere : MethodName := ⟨RX0, "basketHere", "()I"⟩
abbrev cX0_whyNot : ByteArray := prog_2_method_6_code
def yX0_whyNot : MethodName := ⟨RX0, "whyNot", "(II)I"⟩
abbrev cX0_whyNotMoved : ByteArray := prog_2_method_7_code
def yX0_whyNotMoved : MethodName := ⟨RX0, "whyNotMoved", "(III)I"⟩
abbrev cX0_whyTooLate : ByteArray := prog_2_method_8_code
def yX0_whyTooLate : MethodName := ⟨RX0, "whyTooLate", "(I)I"⟩
abbrev cX0_perform : ByteArray := prog_2_method_9_code
def yX0_perform : MethodName := ⟨RX0, "perform", "(II)V"⟩
def RX1 : String := "BathBaskets$Choice"
def TX1 : u_T := fun k => match k with
  | 0 => ("BathBaskets$Choice", "totals", "[I", true)
  | 1 => ("BathBaskets$Choice", "size", "I", false)
  | _ => ("BathBaskets$Choice", "members", "I", false)
def tyX1 : Nat → FieldType := fun k => match k with
  | 0 => .array .int
  | 1 => .int
  | _ => .int
abbrev wsX10 : List Cond := u_ws RX1 TX1 3
theorem nmX1 : ∀ a, a < 3 → ∀ b, b < 3 → a ≠ b → (TX1 a).2.1 ≠ (TX1 b).2.1 := by decide +kernel
theorem tyX1_ok : ∀ k, k < 3 → parseFieldDescriptor (TX1 k).2.2.1 = some (tyX1 k) := by decide +kernel
abbrev cX1_init : ByteArray := prog_3_method_1_code
def yX1_init : MethodName := ⟨RX1, "<init>", "()V"⟩
abbrev cX1_planRound : ByteArray := prog_3_method_2_code
def yX1_planRound : MethodName := ⟨RX1, "planRound", "(LBathBaskets$Bath;I)V"⟩
abbrev cX1_sumMinutes : ByteArray := prog_3_method_3_code
def yX1_sumMinutes : MethodName := ⟨RX1, "sumMinutes", "(LBathBaskets$Bath;)V"⟩
abbrev cX1_walk : ByteArray := prog_3_method_4_code
def yX1_walk : MethodName := ⟨RX1, "walk", "(III)I"⟩
abbrev cX1_uncover : ByteArray := prog_3_method_5_code
def yX1_uncover : MethodName := ⟨RX1, "uncover", "(LBathBaskets$Bath;I)V"⟩
abbrev cX1_joinThings : ByteArray := prog_3_method_6_code
def yX1_joinThings : MethodName := ⟨RX1, "joinThings", "(LBathBaskets$Bath;)V"⟩
def RX2 : String := "BathBaskets$Evening"
def TX2 : u_T := fun k => match k with
  | 0 => ("BathBaskets$Evening", "bath", "LBathBaskets$Bath;", true)
  | 1 => ("BathBaskets$Evening", "acts", "I", false)
  | 2 => ("BathBaskets$Evening", "stoppedAt", "I", false)
  | 3 => ("BathBaskets$Evening", "why", "I", false)
  | 4 => ("BathBaskets$Evening", "goneThrough", "I", false)
  | 5 => ("BathBaskets$Evening", "lostBy", "I", false)
  | _ => ("BathBaskets$Evening", "lostCabin", "I", false)
def tyX2 : Nat → FieldType := fun k => match k with
  | 0 => .object "BathBaskets$Bath"
  | 1 => .int
  | 2 => .int
  | 3 => .int
  | 4 => .int
  | 5 => .int
  | _ => .int
abbrev wsX20 : List Cond := u_ws RX2 TX2 7
theorem nmX2 : ∀ a, a < 7 → ∀ b, b < 7 → a ≠ b → (TX2 a).2.1 ≠ (TX2 b).2.1 := by decide +kernel
theorem tyX2_ok : ∀ k, k < 7 → parseFieldDescriptor (TX2 k).2.2.1 = some (tyX2 k) := by decide +kernel
abbrev cX2_init : ByteArray := prog_4_method_1_code
def yX2_init : MethodName := ⟨RX2, "<init>", "()V"⟩
abbrev cX2_play : ByteArray := prog_4_method_2_code
def yX2_play : MethodName := ⟨RX2, "play", "(LBathBaskets$Bath;LBathBaskets$Pad;)V"⟩
abbrev cX2_playAct : ByteArray := prog_4_method_3_code
def yX2_playAct : MethodName := ⟨RX2, "playAct", "(II)V"⟩
abbrev cX2_noteLoss : ByteArray := prog_4_method_4_code
def yX2_noteLoss : MethodName := ⟨RX2, "noteLoss", "(II)V"⟩
abbrev cX2_draw : ByteArray := prog_4_method_5_code
def yX2_draw : MethodName := ⟨RX2, "draw", "(LBathBaskets$Bath;II)V"⟩
def RX3 : String := "BathBaskets$Hooks"
def TX3 : u_T := fun k => match k with
  | 0 => ("BathBaskets$Hooks", "whose", "[I", true)
  | 1 => ("BathBaskets$Hooks", "changes", "I", false)
  | _ => ("BathBaskets$Hooks", "rounds", "I", false)
def tyX3 : Nat → FieldType := fun k => match k with
  | 0 => .array .int
  | 1 => .int
  | _ => .int
abbrev wsX30 : List Cond := u_ws RX3 TX3 3
theorem nmX3 : ∀ a, a < 3 → ∀ b, b < 3 → a ≠ b → (TX3 a).2.1 ≠ (TX3 b).2.1 := by decide +kernel
theorem tyX3_ok : ∀ k, k < 3 → parseFieldDescriptor (TX3 k).2.2.1 = some (tyX3 k) := by decide +kernel
abbrev cX3_init : ByteArray := prog_5_method_1_code
def yX3_init : MethodName := ⟨RX3, "<init>", "()V"⟩
abbrev cX3_hang : ByteArray := prog_5_method_2_code
def yX3_hang : MethodName := ⟨RX3, "hang", "(I)Z"⟩
abbrev cX3_follow : ByteArray := prog_5_method_3_code
def yX3_follow : MethodName := ⟨RX3, "follow", "()V"⟩
abbrev cX3_leastMultiple : ByteArray := prog_5_method_4_code
def yX3_leastMultiple : MethodName := ⟨RX3, "leastMultiple", "(II)I"⟩
def RX4 : String := "BathBaskets$Image"
def TX4 : u_T := fun k => match k with
  | 0 => ("BathBaskets$Image", "bath", "LBathBaskets$Bath;", true)
  | 1 => ("BathBaskets$Image", "notes", "LBathBaskets$Notes;", true)
  | _ => ("BathBaskets$Image", "isKept", "Z", false)
def tyX4 : Nat → FieldType := fun k => match k with
  | 0 => .object "BathBaskets$Bath"
  | 1 => .object "BathBaskets$Notes"
  | _ => .boolean
abbrev wsX40 : List Cond := u_ws RX4 TX4 3
theorem nmX4 : ∀ a, a < 3 → ∀ b, b < 3 → a ≠ b → (TX4 a).2.1 ≠ (TX4 b).2.1 := by decide +kernel
theorem tyX4_ok : ∀ k, k < 3 → parseFieldDescriptor (TX4 k).2.2.1 = some (tyX4 k) := by decide +kernel
abbrev cX4_init : ByteArray := prog_6_method_1_code
def yX4_init : MethodName := ⟨RX4, "<init>", "()V"⟩
def RX5 : String := "BathBaskets$Laws"
def TX5 : u_T := fun k => match k with
  | 0 => ("BathBaskets$Laws", "fitting", "[I", true)
  | 1 => ("BathBaskets$Laws", "left", "[I", true)
  | 2 => ("BathBaskets$Laws", "count", "I", false)
  | 3 => ("BathBaskets$Laws", "bestDay", "I", false)
  | _ => ("BathBaskets$Laws", "mostLeft", "I", false)
def tyX5 : Nat → FieldType := fun k => match k with
  | 0 => .array .int
  | 1 => .array .int
  | 2 => .int
  | 3 => .int
  | _ => .int
abbrev wsX50 : List Cond := u_ws RX5 TX5 5
theorem nmX5 : ∀ a, a < 5 → ∀ b, b < 5 → a ≠ b → (TX5 a).2.1 ≠ (TX5 b).2.1 := by decide +kernel
theorem tyX5_ok : ∀ k, k < 5 → parseFieldDescriptor (TX5 k).2.2.1 = some (tyX5 k) := by decide +kernel
abbrev cX5_init : ByteArray := prog_7_method_1_code
def yX5_init : MethodName := ⟨RX5, "<init>", "()V"⟩
abbrev cX5_gather : ByteArray := prog_7_method_2_code
def yX5_gather : MethodName := ⟨RX5, "gather", "(LBathBaskets$Notes;)V"⟩
abbrev cX5_agree : ByteArray := prog_7_method_3_code
def yX5_agree : MethodName := ⟨RX5, "agree", "(LBathBaskets$Notes;II)Z"⟩
abbrev cX5_thingOn : ByteArray := prog_7_method_4_code
def yX5_thingOn : MethodName := ⟨RX5, "thingOn", "(III)I"⟩
abbrev cX5_chooseDay : ByteArray := prog_7_method_5_code
def yX5_chooseDay : MethodName := ⟨RX5, "chooseDay", "()V"⟩
abbrev cX5_mostLeftAfter : ByteArray := prog_7_method_6_code
def yX5_mostLeftAfter : MethodName := ⟨RX5, "mostLeftAfter", "(I)I"⟩
def RX6 : String := "BathBaskets$Matching"
def TX6 : u_T := fun k => match k with
  | 0 => ("BathBaskets$Matching", "homes", "[I", true)
  | 1 => ("BathBaskets$Matching", "basketOf", "[I", true)
  | _ => ("BathBaskets$Matching", "size", "I", false)
def tyX6 : Nat → FieldType := fun k => match k with
  | 0 => .array .int
  | 1 => .array .int
  | _ => .int
abbrev wsX60 : List Cond := u_ws RX6 TX6 3
theorem nmX6 : ∀ a, a < 3 → ∀ b, b < 3 → a ≠ b → (TX6 a).2.1 ≠ (TX6 b).2.1 := by decide +kernel
theorem tyX6_ok : ∀ k, k < 3 → parseFieldDescriptor (TX6 k).2.2.1 = some (tyX6 k) := by decide +kernel
abbrev cX6_init : ByteArray := prog_8_method_1_code
def yX6_init : MethodName := ⟨RX6, "<init>", "()V"⟩
abbrev cX6_pair : ByteArray := prog_8_method_2_code
def yX6_pair : MethodName := ⟨RX6, "pair", "(LBathBaskets$Bath;I)V"⟩
abbrev cX6_joinHomes : ByteArray := prog_8_method_3_code
def yX6_joinHomes : MethodName := ⟨RX6, "joinHomes", "(LBathBaskets$Bath;)V"⟩
abbrev cX6_leastBasket : ByteArray := prog_8_method_4_code
def yX6_leastBasket : MethodName := ⟨RX6, "leastBasket", "(IIII)I"⟩
abbrev cX6_mostAtOnce : ByteArray := prog_8_method_5_code
def yX6_mostAtOnce : MethodName := ⟨RX6, "mostAtOnce", "(II)I"⟩
def RX7 : String := "BathBaskets$Notes"
def TX7 : u_T := fun k => match k with
  | 0 => ("BathBaskets$Notes", "days", "[I", true)
  | 1 => ("BathBaskets$Notes", "things", "[I", true)
  | _ => ("BathBaskets$Notes", "count", "I", false)
def tyX7 : Nat → FieldType := fun k => match k with
  | 0 => .array .int
  | 1 => .array .int
  | _ => .int
abbrev wsX70 : List Cond := u_ws RX7 TX7 3
theorem nmX7 : ∀ a, a < 3 → ∀ b, b < 3 → a ≠ b → (TX7 a).2.1 ≠ (TX7 b).2.1 := by decide +kernel
theorem tyX7_ok : ∀ k, k < 3 → parseFieldDescriptor (TX7 k).2.2.1 = some (tyX7 k) := by decide +kernel
abbrev cX7_init : ByteArray := prog_9_method_1_code
def yX7_init : MethodName := ⟨RX7, "<init>", "()V"⟩
abbrev cX7_takeOver : ByteArray := prog_9_method_2_code
def yX7_takeOver : MethodName := ⟨RX7, "takeOver", "(LBathBaskets$Notes;)V"⟩
abbrev cX7_write : ByteArray := prog_9_method_3_code
def yX7_write : MethodName := ⟨RX7, "write", "(II)Z"⟩
def RX8 : String := "BathBaskets$Pad"
def TX8 : u_T := fun k => match k with
  | 0 => ("BathBaskets$Pad", "signs", "[I", true)
  | _ => ("BathBaskets$Pad", "count", "I", false)
def tyX8 : Nat → FieldType := fun k => match k with
  | 0 => .array .int
  | _ => .int
abbrev wsX80 : List Cond := u_ws RX8 TX8 2
theorem nmX8 : ∀ a, a < 2 → ∀ b, b < 2 → a ≠ b → (TX8 a).2.1 ≠ (TX8 b).2.1 := by decide +kernel
theorem tyX8_ok : ∀ k, k < 2 → parseFieldDescriptor (TX8 k).2.2.1 = some (tyX8 k) := by decide +kernel
abbrev cX8_init : ByteArray := prog_10_method_1_code
def yX8_init : MethodName := ⟨RX8, "<init>", "()V"⟩
abbrev cX8_write : ByteArray := prog_10_method_2_code
def yX8_write : MethodName := ⟨RX8, "write", "(I)Z"⟩
abbrev cX8_faultPlace : ByteArray := prog_10_method_3_code
def yX8_faultPlace : MethodName := ⟨RX8, "faultPlace", "()I"⟩
abbrev cX8_kindAt : ByteArray := prog_10_method_4_code
def yX8_kindAt : MethodName := ⟨RX8, "kindAt", "(I)I"⟩
abbrev cX8_operandAt : ByteArray := prog_10_method_5_code
def yX8_operandAt : MethodName := ⟨RX8, "operandAt", "(I)I"⟩
abbrev cX8_widthAt : ByteArray := prog_10_method_6_code
def yX8_widthAt : MethodName := ⟨RX8, "widthAt", "(I)I"⟩
abbrev cX8_begins : ByteArray := prog_10_method_7_code
def yX8_begins : MethodName := ⟨RX8, "begins", "(I)Z"⟩
abbrev cX8_ends : ByteArray := prog_10_method_8_code
def yX8_ends : MethodName := ⟨RX8, "ends", "(II)Z"⟩
abbrev cX8_isOfTwo : ByteArray := prog_10_method_9_code
def yX8_isOfTwo : MethodName := ⟨RX8, "isOfTwo", "(I)Z"⟩
abbrev cX8_isLetter : ByteArray := prog_10_method_10_code
def yX8_isLetter : MethodName := ⟨RX8, "isLetter", "(I)Z"⟩
def RX9 : String := "BathBaskets$Swim"
def TX9 : u_T := fun k => match k with
  | 0 => ("BathBaskets$Swim", "ways", "[J", true)
  | _ => ("BathBaskets$Swim", "allWays", "J", false)
def tyX9 : Nat → FieldType := fun k => match k with
  | 0 => .array .long
  | _ => .long
abbrev wsX90 : List Cond := u_ws RX9 TX9 2
theorem nmX9 : ∀ a, a < 2 → ∀ b, b < 2 → a ≠ b → (TX9 a).2.1 ≠ (TX9 b).2.1 := by decide +kernel
theorem tyX9_ok : ∀ k, k < 2 → parseFieldDescriptor (TX9 k).2.2.1 = some (tyX9 k) := by decide +kernel
abbrev cX9_init : ByteArray := prog_11_method_1_code
def yX9_init : MethodName := ⟨RX9, "<init>", "()V"⟩
abbrev cX9_spread : ByteArray := prog_11_method_2_code
def yX9_spread : MethodName := ⟨RX9, "spread", "(II)V"⟩
abbrev cX9_waysToReach : ByteArray := prog_11_method_3_code
def yX9_waysToReach : MethodName := ⟨RX9, "waysToReach", "(I)J"⟩
abbrev cX9_lengthsUpTo : ByteArray := prog_11_method_4_code
def yX9_lengthsUpTo : MethodName := ⟨RX9, "lengthsUpTo", "(I)J"⟩
def RX10 : String := "BathBaskets$TwoPiles"
def TX10 : u_T := fun k => match k with
  | _ => ("BathBaskets$TwoPiles", "lostWith", "[I", true)
def tyX10 : Nat → FieldType := fun k => match k with
  | _ => .array .int
abbrev wsX100 : List Cond := u_ws RX10 TX10 1
theorem nmX10 : ∀ a, a < 1 → ∀ b, b < 1 → a ≠ b → (TX10 a).2.1 ≠ (TX10 b).2.1 := by decide +kernel
theorem tyX10_ok : ∀ k, k < 1 → parseFieldDescriptor (TX10 k).2.2.1 = some (tyX10 k) := by decide +kernel
abbrev cX10_init : ByteArray := prog_12_method_1_code
def yX10_init : MethodName := ⟨RX10, "<init>", "()V"⟩
abbrev cX10_isLost : ByteArray := prog_12_method_2_code
def yX10_isLost : MethodName := ⟨RX10, "isLost", "(II)Z"⟩
abbrev cX10_winningTake : ByteArray := prog_12_method_3_code
def yX10_winningTake : MethodName := ⟨RX10, "winningTake", "(II)I"⟩
def RX11 : String := "BathBaskets"
def TX11 : u_T := fun k => match k with
  | 0 => ("BathBaskets", "bath", "LBathBaskets$Bath;", true)
  | 1 => ("BathBaskets", "notes", "LBathBaskets$Notes;", true)
  | 2 => ("BathBaskets", "pad", "LBathBaskets$Pad;", true)
  | 3 => ("BathBaskets", "firstImage", "LBathBaskets$Image;", true)
  | 4 => ("BathBaskets", "secondImage", "LBathBaskets$Image;", true)
  | 5 => ("BathBaskets", "evening", "LBathBaskets$Evening;", true)
  | 6 => ("BathBaskets", "choice", "LBathBaskets$Choice;", true)
  | 7 => ("BathBaskets", "matching", "LBathBaskets$Matching;", true)
  | 8 => ("BathBaskets", "hooks", "LBathBaskets$Hooks;", true)
  | 9 => ("BathBaskets", "laws", "LBathBaskets$Laws;", true)
  | 10 => ("BathBaskets", "twoPiles", "LBathBaskets$TwoPiles;", true)
  | _ => ("BathBaskets", "swim", "LBathBaskets$Swim;", true)
def tyX11 : Nat → FieldType := fun k => match k with
  | 0 => .object "BathBaskets$Bath"
  | 1 => .object "BathBaskets$Notes"
  | 2 => .object "BathBaskets$Pad"
  | 3 => .object "BathBaskets$Image"
  | 4 => .object "BathBaskets$Image"
  | 5 => .object "BathBaskets$Evening"
  | 6 => .object "BathBaskets$Choice"
  | 7 => .object "BathBaskets$Matching"
  | 8 => .object "BathBaskets$Hooks"
  | 9 => .object "BathBaskets$Laws"
  | 10 => .object "BathBaskets$TwoPiles"
  | _ => .object "BathBaskets$Swim"
abbrev wsX110 : List Cond := u_ws RX11 TX11 12
theorem nmX11 : ∀ a, a < 12 → ∀ b, b < 12 → a ≠ b → (TX11 a).2.1 ≠ (TX11 b).2.1 := by decide +kernel
theorem tyX11_ok : ∀ k, k < 12 → parseFieldDescriptor (TX11 k).2.2.1 = some (tyX11 k) := by decide +kernel
abbrev cX11_init : ByteArray := prog_1_method_1_code
def yX11_init : MethodName := ⟨RX11, "<init>", "()V"⟩
abbrev cX11_basket : ByteArray := prog_1_method_2_code
def yX11_basket : MethodName := ⟨RX11, "basket", "(III)I"⟩
abbrev cX11_right : ByteArray := prog_1_method_3_code
def yX11_right : MethodName := ⟨RX11, "right", "()I"⟩
abbrev cX11_clock : ByteArray := prog_1_method_4_code
def yX11_clock : MethodName := ⟨RX11, "clock", "(II)I"⟩
abbrev cX11_attendant : ByteArray := prog_1_method_5_code
def yX11_attendant : MethodName := ⟨RX11, "attendant", "(III)I"⟩
abbrev cX11_say : ByteArray := prog_1_method_6_code
def yX11_say : MethodName := ⟨RX11, "say", "(I)I"⟩
abbrev cX11_wipe : ByteArray := prog_1_method_7_code
def yX11_wipe : MethodName := ⟨RX11, "wipe", "()I"⟩
abbrev cX11_fault : ByteArray := prog_1_method_8_code
def yX11_fault : MethodName := ⟨RX11, "fault", "()I"⟩
abbrev cX11_judge : ByteArray := prog_1_method_9_code
def yX11_judge : MethodName := ⟨RX11, "judge", "(I)I"⟩
abbrev cX11_behind : ByteArray := prog_1_method_10_code
def yX11_behind : MethodName := ⟨RX11, "behind", "(II)I"⟩
abbrev cX11_his : ByteArray := prog_1_method_11_code
def yX11_his : MethodName := ⟨RX11, "his", "(I)I"⟩
abbrev cX11_wrong : ByteArray := prog_1_method_12_code
def yX11_wrong : MethodName := ⟨RX11, "wrong", "(I)I"⟩
abbrev cX11_done : ByteArray := prog_1_method_13_code
def yX11_done : MethodName := ⟨RX11, "done", "()I"⟩
abbrev cX11_round : ByteArray := prog_1_method_14_code
def yX11_round : MethodName := ⟨RX11, "round", "(II)I"⟩
abbrev cX11_show : ByteArray := prog_1_method_15_code
def yX11_show : MethodName := ⟨RX11, "show", "(II)I"⟩
abbrev cX11_owners : ByteArray := prog_1_method_16_code
def yX11_owners : MethodName := ⟨RX11, "owners", "(II)I"⟩
abbrev cX11_towels : ByteArray := prog_1_method_17_code
def yX11_towels : MethodName := ⟨RX11, "towels", "(II)I"⟩
abbrev cX11_found : ByteArray := prog_1_method_18_code
def yX11_found : MethodName := ⟨RX11, "found", "(II)I"⟩
abbrev cX11_forget : ByteArray := prog_1_method_19_code
def yX11_forget : MethodName := ⟨RX11, "forget", "()I"⟩
abbrev cX11_fits : ByteArray := prog_1_method_20_code
def yX11_fits : MethodName := ⟨RX11, "fits", "(I)I"⟩
abbrev cX11_ask : ByteArray := prog_1_method_21_code
def yX11_ask : MethodName := ⟨RX11, "ask", "(I)I"⟩
abbrev cX11_piles : ByteArray := prog_1_method_22_code
def yX11_piles : MethodName := ⟨RX11, "piles", "(III)I"⟩
abbrev cX11_lengths : ByteArray := prog_1_method_23_code
def yX11_lengths : MethodName := ⟨RX11, "lengths", "(IIIII)J"⟩
abbrev cX11_year : ByteArray := prog_1_method_24_code
def yX11_year : MethodName := ⟨RX11, "year", "(III)I"⟩
abbrev cX11_image : ByteArray := prog_1_method_25_code
def yX11_image : MethodName := ⟨RX11, "image", "(I)I"⟩
abbrev cX11_restore : ByteArray := prog_1_method_26_code
def yX11_restore : MethodName := ⟨RX11, "restore", "(I)I"⟩
abbrev cX11_told : ByteArray := prog_1_method_27_code
def yX11_told : MethodName := ⟨RX11, "told", "(I)I"⟩
abbrev cX11_toldPlainly : ByteArray := prog_1_method_28_code
def yX11_toldPlainly : MethodName := ⟨RX11, "toldPlainly", "(I)I"⟩
abbrev cX11_playEvening : ByteArray := prog_1_method_29_code
def yX11_playEvening : MethodName := ⟨RX11, "playEvening", "()I"⟩
abbrev cX11_imageOf : ByteArray := prog_1_method_30_code
def yX11_imageOf : MethodName := ⟨RX11, "imageOf", "(I)LBathBaskets$Image;"⟩
abbrev cX11_isWithin : ByteArray := prog_1_method_31_code
def yX11_isWithin : MethodName := ⟨RX11, "isWithin", "(III)Z"⟩
abbrev cX11_isCabin : ByteArray := prog_1_method_32_code
def yX11_isCabin : MethodName := ⟨RX11, "isCabin", "(I)Z"⟩
abbrev cX11_isThing : ByteArray := prog_1_method_33_code
def yX11_isThing : MethodName := ⟨RX11, "isThing", "(I)Z"⟩
abbrev cX11_isThingSet : ByteArray := prog_1_method_34_code
def yX11_isThingSet : MethodName := ⟨RX11, "isThingSet", "(I)Z"⟩
abbrev cX11_isIn : ByteArray := prog_1_method_35_code
def yX11_isIn : MethodName := ⟨RX11, "isIn", "(II)Z"⟩
abbrev cX11_greatestDivisor : ByteArray := prog_1_method_36_code
def yX11_greatestDivisor : MethodName := ⟨RX11, "greatestDivisor", "(JJ)J"⟩
def RX12 : String := "BathBasketsModel"
def TX12 : u_T := fun k => match k with
  | 0 => ("BathBasketsModel", "stands", "[I", true)
  | 1 => ("BathBasketsModel", "things", "[I", true)
  | 2 => ("BathBasketsModel", "wants", "[I", true)
  | 3 => ("BathBasketsModel", "place", "I", false)
  | 4 => ("BathBasketsModel", "has", "I", false)
  | 5 => ("BathBasketsModel", "hasSeen", "I", false)
  | 6 => ("BathBasketsModel", "now", "I", false)
  | 7 => ("BathBasketsModel", "bell", "I", false)
  | 8 => ("BathBasketsModel", "noteDay", "[I", true)
  | 9 => ("BathBasketsModel", "noteThing", "[I", true)
  | 10 => ("BathBasketsModel", "notes", "I", false)
  | 11 => ("BathBasketsModel", "pad", "[I", true)
  | 12 => ("BathBasketsModel", "padMany", "I", false)
  | 13 => ("BathBasketsModel", "act", "[I", true)
  | 14 => ("BathBasketsModel", "which", "[I", true)
  | 15 => ("BathBasketsModel", "acts", "I", false)
  | 16 => ("BathBasketsModel", "lookedInto", "I", false)
  | 17 => ("BathBasketsModel", "had", "[I", true)
  | 18 => ("BathBasketsModel", "badAct", "I", false)
  | 19 => ("BathBasketsModel", "badWhy", "I", false)
  | 20 => ("BathBasketsModel", "wrongAct", "I", false)
  | 21 => ("BathBasketsModel", "wrongCabin", "I", false)
  | 22 => ("BathBasketsModel", "most", "[I", true)
  | 23 => ("BathBasketsModel", "hook", "[I", true)
  | 24 => ("BathBasketsModel", "byThing", "[I", true)
  | 25 => ("BathBasketsModel", "wins", "[Z", true)
  | 26 => ("BathBasketsModel", "parts", "[J", true)
  | 27 => ("BathBasketsModel", "kept", "[I", true)
  | 28 => ("BathBasketsModel", "isKept", "[Z", true)
  | 29 => ("BathBasketsModel", "keptAt", "I", false)
  | _ => ("BathBasketsModel", "isWriting", "Z", false)
def tyX12 : Nat → FieldType := fun k => match k with
  | 0 => .array .int
  | 1 => .array .int
  | 2 => .array .int
  | 3 => .int
  | 4 => .int
  | 5 => .int
  | 6 => .int
  | 7 => .int
  | 8 => .array .int
  | 9 => .array .int
  | 10 => .int
  | 11 => .array .int
  | 12 => .int
  | 13 => .array .int
  | 14 => .array .int
  | 15 => .int
  | 16 => .int
  | 17 => .array .int
  | 18 => .int
  | 19 => .int
  | 20 => .int
  | 21 => .int
  | 22 => .array .int
  | 23 => .array .int
  | 24 => .array .int
  | 25 => .array .boolean
  | 26 => .array .long
  | 27 => .array .int
  | 28 => .array .boolean
  | 29 => .int
  | _ => .boolean
abbrev wsX120 : List Cond := u_ws RX12 TX12 31
theorem nmX12 : ∀ a, a < 31 → ∀ b, b < 31 → a ≠ b → (TX12 a).2.1 ≠ (TX12 b).2.1 := by decide +kernel
theorem tyX12_ok : ∀ k, k < 31 → parseFieldDescriptor (TX12 k).2.2.1 = some (tyX12 k) := by decide +kernel
abbrev cX12_init : ByteArray := prog_14_method_1_code
def yX12_init : MethodName := ⟨RX12, "<init>", "()V"⟩
abbrev cX12_in : ByteArray := prog_14_method_3_code
def yX12_in : MethodName := ⟨RX12, "in", "(JJJ)Z"⟩
abbrev cX12_ones : ByteArray := prog_14_method_4_code
def yX12_ones : MethodName := ⟨RX12, "ones", "(I)I"⟩
abbrev cX12_isCabin : ByteArray := prog_14_method_5_code
def yX12_isCabin : MethodName := ⟨RX12, "isCabin", "(I)Z"⟩
abbrev cX12_isThing : ByteArray := prog_14_method_6_code
def yX12_isThing : MethodName := ⟨RX12, "isThing", "(I)Z"⟩
abbrev cX12_isIn : ByteArray := prog_14_method_7_code
def yX12_isIn : MethodName := ⟨RX12, "isIn", "(II)Z"⟩
abbrev cX12_apart : ByteArray := prog_14_method_8_code
def yX12_apart : MethodName := ⟨RX12, "apart", "(II)I"⟩
abbrev cX12_basket : ByteArray := prog_14_method_9_code
def yX12_basket : MethodName := ⟨RX12, "basket", "(III)I"⟩
abbrev cX12_wrongMany : ByteArray := prog_14_method_10_code
def yX12_wrongMany : MethodName := ⟨RX12, "wrongMany", "()I"⟩
abbrev cX12_right : ByteArray := prog_14_method_11_code
def yX12_right : MethodName := ⟨RX12, "right", "()I"⟩
abbrev cX12_clock : ByteArray := prog_14_method_12_code
def yX12_clock : MethodName := ⟨RX12, "clock", "(II)I"⟩
abbrev cX12_attendant : ByteArray := prog_14_method_13_code
def yX12_attendant : MethodName := ⟨RX12, "attendant", "(III)I"⟩
abbrev cX12_say : ByteArray := prog_14_method_14_code
def yX12_say : MethodName := ⟨RX12, "say", "(I)I"⟩
abbrev cX12_wipe : ByteArray := prog_14_method_15_code
def yX12_wipe : MethodName := ⟨RX12, "wipe", "()I"⟩
abbrev cX12_close : ByteArray := prog_14_method_16_code
def yX12_close : MethodName := ⟨RX12, "close", "(II)I"⟩
abbrev cX12_isLetter : ByteArray := prog_14_method_17_code
def yX12_isLetter : MethodName := ⟨RX12, "isLetter", "(I)Z"⟩
abbrev cX12_begin : ByteArray := prog_14_method_18_code
def yX12_begin : MethodName := ⟨RX12, "begin", "(I)I"⟩
abbrev cX12_readOn : ByteArray := prog_14_method_19_code
def yX12_readOn : MethodName := ⟨RX12, "readOn", "(II)I"⟩
abbrev cX12_fault : ByteArray := prog_14_method_20_code
def yX12_fault : MethodName := ⟨RX12, "fault", "()I"⟩
abbrev cX12_inHere : ByteArray := prog_14_method_21_code
def yX12_inHere : MethodName := ⟨RX12, "inHere", "()I"⟩
abbrev cX12_whyNot : ByteArray := prog_14_method_22_code
def yX12_whyNot : MethodName := ⟨RX12, "whyNot", "(II)I"⟩
abbrev cX12_go : ByteArray := prog_14_method_23_code
def yX12_go : MethodName := ⟨RX12, "go", "(I)V"⟩
abbrev cX12_look : ByteArray := prog_14_method_24_code
def yX12_look : MethodName := ⟨RX12, "look", "()V"⟩
abbrev cX12_take : ByteArray := prog_14_method_25_code
def yX12_take : MethodName := ⟨RX12, "take", "(I)V"⟩
abbrev cX12_lay : ByteArray := prog_14_method_26_code
def yX12_lay : MethodName := ⟨RX12, "lay", "(I)V"⟩
abbrev cX12_change : ByteArray := prog_14_method_27_code
def yX12_change : MethodName := ⟨RX12, "change", "(I)V"⟩
abbrev cX12_happen : ByteArray := prog_14_method_28_code
def yX12_happen : MethodName := ⟨RX12, "happen", "(II)V"⟩
abbrev cX12_keepNow : ByteArray := prog_14_method_29_code
def yX12_keepNow : MethodName := ⟨RX12, "keepNow", "()V"⟩
abbrev cX12_back : ByteArray := prog_14_method_30_code
def yX12_back : MethodName := ⟨RX12, "back", "(I)I"⟩
abbrev cX12_goOne : ByteArray := prog_14_method_31_code
def yX12_goOne : MethodName := ⟨RX12, "goOne", "(I)V"⟩
abbrev cX12_goEvenings : ByteArray := prog_14_method_32_code
def yX12_goEvenings : MethodName := ⟨RX12, "goEvenings", "()V"⟩
abbrev cX12_refusal : ByteArray := prog_14_method_33_code
def yX12_refusal : MethodName := ⟨RX12, "refusal", "()I"⟩
abbrev cX12_judge : ByteArray := prog_14_method_34_code
def yX12_judge : MethodName := ⟨RX12, "judge", "(I)I"⟩
abbrev cX12_behind : ByteArray := prog_14_method_35_code
def yX12_behind : MethodName := ⟨RX12, "behind", "(II)I"⟩
abbrev cX12_his : ByteArray := prog_14_method_36_code
def yX12_his : MethodName := ⟨RX12, "his", "(I)I"⟩
abbrev cX12_wrong : ByteArray := prog_14_method_37_code
def yX12_wrong : MethodName := ⟨RX12, "wrong", "(I)I"⟩
abbrev cX12_done : ByteArray := prog_14_method_38_code
def yX12_done : MethodName := ⟨RX12, "done", "()I"⟩
abbrev cX12_less : ByteArray := prog_14_method_39_code
def yX12_less : MethodName := ⟨RX12, "less", "(II)I"⟩
abbrev cX12_more : ByteArray := prog_14_method_40_code
def yX12_more : MethodName := ⟨RX12, "more", "(II)I"⟩
abbrev cX12_minutesBy : ByteArray := prog_14_method_41_code
def yX12_minutesBy : MethodName := ⟨RX12, "minutesBy", "(II)I"⟩
abbrev cX12_round : ByteArray := prog_14_method_42_code
def yX12_round : MethodName := ⟨RX12, "round", "(II)I"⟩
abbrev cX12_shownBy : ByteArray := prog_14_method_43_code
def yX12_shownBy : MethodName := ⟨RX12, "shownBy", "(I)I"⟩
abbrev cX12_show : ByteArray := prog_14_method_44_code
def yX12_show : MethodName := ⟨RX12, "show", "(II)I"⟩
abbrev cX12_canOwn : ByteArray := prog_14_method_45_code
def yX12_canOwn : MethodName := ⟨RX12, "canOwn", "(IIII)Z"⟩
abbrev cX12_mostFrom : ByteArray := prog_14_method_46_code
def yX12_mostFrom : MethodName := ⟨RX12, "mostFrom", "(III)I"⟩
abbrev cX12_ownerOf : ByteArray := prog_14_method_47_code
def yX12_ownerOf : MethodName := ⟨RX12, "ownerOf", "(III)I"⟩
abbrev cX12_owners : ByteArray := prog_14_method_48_code
def yX12_owners : MethodName := ⟨RX12, "owners", "(II)I"⟩
abbrev cX12_readHooks : ByteArray := prog_14_method_49_code
def yX12_readHooks : MethodName := ⟨RX12, "readHooks", "(I)Z"⟩
abbrev cX12_common : ByteArray := prog_14_method_50_code
def yX12_common : MethodName := ⟨RX12, "common", "(II)I"⟩
abbrev cX12_towels : ByteArray := prog_14_method_51_code
def yX12_towels : MethodName := ⟨RX12, "towels", "(II)I"⟩
abbrev cX12_found : ByteArray := prog_14_method_52_code
def yX12_found : MethodName := ⟨RX12, "found", "(II)I"⟩
abbrev cX12_forget : ByteArray := prog_14_method_53_code
def yX12_forget : MethodName := ⟨RX12, "forget", "()I"⟩
abbrev cX12_foundBy : ByteArray := prog_14_method_54_code
def yX12_foundBy : MethodName := ⟨RX12, "foundBy", "(II)I"⟩
abbrev cX12_isFit : ByteArray := prog_14_method_55_code
def yX12_isFit : MethodName := ⟨RX12, "isFit", "(I)Z"⟩
abbrev cX12_fits : ByteArray := prog_14_method_56_code
def yX12_fits : MethodName := ⟨RX12, "fits", "(I)I"⟩
abbrev cX12_mostLeft : ByteArray := prog_14_method_57_code
def yX12_mostLeft : MethodName := ⟨RX12, "mostLeft", "(I)I"⟩
abbrev cX12_ask : ByteArray := prog_14_method_58_code
def yX12_ask : MethodName := ⟨RX12, "ask", "(I)I"⟩
abbrev cX12_leastTake : ByteArray := prog_14_method_59_code
def yX12_leastTake : MethodName := ⟨RX12, "leastTake", "(II)I"⟩
abbrev cX12_piles : ByteArray := prog_14_method_60_code
def yX12_piles : MethodName := ⟨RX12, "piles", "(III)I"⟩
abbrev cX12_leastTakeWins : ByteArray := prog_14_method_61_code
def yX12_leastTakeWins : MethodName := ⟨RX12, "leastTakeWins", "(II)Z"⟩
abbrev cX12_lowest : ByteArray := prog_14_method_62_code
def yX12_lowest : MethodName := ⟨RX12, "lowest", "(JJI)J"⟩
abbrev cX12_lengths : ByteArray := prog_14_method_63_code
def yX12_lengths : MethodName := ⟨RX12, "lengths", "(IIIII)J"⟩
abbrev cX12_actBy : ByteArray := prog_14_method_64_code
def yX12_actBy : MethodName := ⟨RX12, "actBy", "(I)I"⟩
abbrev cX12_year : ByteArray := prog_14_method_65_code
def yX12_year : MethodName := ⟨RX12, "year", "(III)I"⟩
abbrev cX12_pass : ByteArray := prog_14_method_66_code
def yX12_pass : MethodName := ⟨RX12, "pass", "(I)I"⟩
abbrev cX12_passRow : ByteArray := prog_14_method_67_code
def yX12_passRow : MethodName := ⟨RX12, "passRow", "([II)V"⟩
abbrev cX12_passAll : ByteArray := prog_14_method_68_code
def yX12_passAll : MethodName := ⟨RX12, "passAll", "()V"⟩
abbrev cX12_image : ByteArray := prog_14_method_69_code
def yX12_image : MethodName := ⟨RX12, "image", "(I)I"⟩
abbrev cX12_restore : ByteArray := prog_14_method_70_code
def yX12_restore : MethodName := ⟨RX12, "restore", "(I)I"⟩
abbrev cX12_told : ByteArray := prog_14_method_71_code
def yX12_told : MethodName := ⟨RX12, "told", "(I)I"⟩
def RJ6 : String := "java/lang/Integer"
abbrev cJ6_bitCount_0f7a4 : ByteArray := prog_15_method_49_code
def yJ6_bitCount_0f7a4 : MethodName := ⟨RJ6, "bitCount", "(I)I"⟩
def RJ9 : String := "java/lang/Math"
abbrev cJ9_floorDiv_7cf53 : ByteArray := prog_16_method_47_code
def yJ9_floorDiv_7cf53 : MethodName := ⟨RJ9, "floorDiv", "(II)I"⟩
abbrev cJ9_floorMod_7cf53 : ByteArray := prog_16_method_50_code
def yJ9_floorMod_7cf53 : MethodName := ⟨RJ9, "floorMod", "(II)I"⟩
abbrev cJ9_abs_0f7a4 : ByteArray := prog_16_method_59_code
def yJ9_abs_0f7a4 : MethodName := ⟨RJ9, "abs", "(I)I"⟩
abbrev cJ9_max_7cf53 : ByteArray := prog_16_method_65_code
def yJ9_max_7cf53 : MethodName := ⟨RJ9, "max", "(II)I"⟩
abbrev cJ9_max_f86c9 : ByteArray := prog_16_method_66_code
def yJ9_max_f86c9 : MethodName := ⟨RJ9, "max", "(JJ)J"⟩
abbrev cJ9_min_7cf53 : ByteArray := prog_16_method_69_code
def yJ9_min_7cf53 : MethodName := ⟨RJ9, "min", "(II)I"⟩
def RJ10 : String := "java/lang/System"
def RL : String := "BathBasketsLaw"
abbrev cL_law : ByteArray := code
def yL_law : MethodName := ⟨RL, "law", "([I)Z"⟩
abbrev vwCl : List vw_C := [(RX0, TX0, 8), (RX1, TX1, 3), (RX2, TX2, 7), (RX3, TX3, 3), (RX4, TX4, 3), (RX5, TX5, 5), (RX6, TX6, 3), (RX7, TX7, 3), (RX8, TX8, 2), (RX9, TX9, 2), (RX10, TX10, 1), (RX11, TX11, 12), (RX12, TX12, 31)]
end
section
theorem dX0_init_0 : decode cX0_init 0 = .ok (.aload_n 0, 1) := by decide +kernel
theorem dX0_init_1 : decode cX0_init 1 = .ok (.invokespecial 3, 3) := by decide +kernel
theorem dX0_init_4 : decode cX0_init 4 = .ok (.aload_n 0, 1) := by decide +kernel
theorem dX0_init_5 : decode cX0_init 5 = .ok (.bipush 10, 2) := by decide +kernel
theorem dX0_init_7 : decode cX0_init 7 = .ok (.newarray .int, 2) := by decide +kernel
theorem dX0_init_9 : decode cX0_init 9 = .ok (.putfield 9, 3) := by decide +kernel
theorem dX0_init_12 : decode cX0_init 12 = .ok (.aload_n 0, 1) := by decide +kernel
theorem dX0_init_13 : decode cX0_init 13 = .ok (.bipush 10, 2) := by decide +kernel
theorem dX0_init_15 : decode cX0_init 15 = .ok (.newarray .int, 2) := by decide +kernel
theorem dX0_init_17 : decode cX0_init 17 = .ok (.putfield 15, 3) := by decide +kernel
theorem dX0_init_20 : decode cX0_init 20 = .ok (.aload_n 0, 1) := by decide +kernel
theorem dX0_init_21 : decode cX0_init 21 = .ok (.bipush 10, 2) := by decide +kernel
theorem dX0_init_23 : decode cX0_init 23 = .ok (.newarray .int, 2) := by decide +kernel
theorem dX0_init_25 : decode cX0_init 25 = .ok (.putfield 18, 3) := by decide +kernel
theorem dX0_init_28 : decode cX0_init 28 = .ok (.iconst 0, 1) := by decide +kernel
theorem dX0_init_29 : decode cX0_init 29 = .ok (.istore_n 1, 1) := by decide +kernel
theorem dX0_init_30 : decode cX0_init 30 = .ok (.iload_n 1, 1) := by decide +kernel
theorem dX0_init_31 : decode cX0_init 31 = .ok (.bipush 10, 2) := by decide +kernel
theorem dX0_init_33 : decode cX0_init 33 = .ok (.if_icmp .ge 23, 3) := by decide +kernel
theorem dX0_init_36 : decode cX0_init 36 = .ok (.aload_n 0, 1) := by decide +kernel
theorem dX0_init_37 : decode cX0_init 37 = .ok (.getfield 9, 3) := by decide +kernel
theorem dX0_init_40 : decode cX0_init 40 = .ok (.iload_n 1, 1) := by decide +kernel
theorem dX0_init_41 : decode cX0_init 41 = .ok (.iload_n 1, 1) := by decide +kernel
theorem dX0_init_42 : decode cX0_init 42 = .ok (.iastore, 1) := by decide +kernel
theorem dX0_init_43 : decode cX0_init 43 = .ok (.aload_n 0, 1) := by decide +kernel
theorem dX0_init_44 : decode cX0_init 44 = .ok (.getfield 18, 3) := by decide +kernel
theorem dX0_init_47 : decode cX0_init 47 = .ok (.iload_n 1, 1) := by decide +kernel
theorem dX0_init_48 : decode cX0_init 48 = .ok (.iconst 3, 1) := by decide +kernel
theorem dX0_init_49 : decode cX0_init 49 = .ok (.iastore, 1) := by decide +kernel
theorem dX0_init_50 : decode cX0_init 50 = .ok (.iinc 1 1, 3) := by decide +kernel
theorem dX0_init_53 : decode cX0_init 53 = .ok (.goto (-23), 3) := by decide +kernel
theorem dX0_init_56 : decode cX0_init 56 = .ok (.aload_n 0, 1) := by decide +kernel
theorem dX0_init_57 : decode cX0_init 57 = .ok (.bipush 60, 2) := by decide +kernel
theorem dX0_init_59 : decode cX0_init 59 = .ok (.putfield 21, 3) := by decide +kernel
theorem dX0_init_62 : decode cX0_init 62 = .ok (.return_, 1) := by decide +kernel
theorem dX0_takeOver_0 : decode cX0_takeOver 0 = .ok (.aload_n 1, 1) := by decide +kernel
theorem dX0_takeOver_1 : decode cX0_takeOver 1 = .ok (.getfield 9, 3) := by decide +kernel
theorem dX0_takeOver_4 : decode cX0_takeOver 4 = .ok (.iconst 0, 1) := by decide +kernel
theorem dX0_takeOver_5 : decode cX0_takeOver 5 = .ok (.aload_n 0, 1) := by decide +kernel
theorem dX0_takeOver_6 : decode cX0_takeOver 6 = .ok (.getfield 9, 3) := by decide +kernel
theorem dX0_takeOver_9 : decode cX0_takeOver 9 = .ok (.iconst 0, 1) := by decide +kernel
theorem dX0_takeOver_10 : decode cX0_takeOver 10 = .ok (.bipush 10, 2) := by decide +kernel
theorem dX0_takeOver_12 : decode cX0_takeOver 12 = .ok (.invokestatic 25, 3) := by decide +kernel
theorem dX0_takeOver_15 : decode cX0_takeOver 15 = .ok (.aload_n 1, 1) := by decide +kernel
theorem dX0_takeOver_16 : decode cX0_takeOver 16 = .ok (.getfield 15, 3) := by decide +kernel
theorem dX0_takeOver_19 : decode cX0_takeOver 19 = .ok (.iconst 0, 1) := by decide +kernel
theorem dX0_takeOver_20 : decode cX0_takeOver 20 = .ok (.aload_n 0, 1) := by decide +kernel
theorem dX0_takeOver_21 : decode cX0_takeOver 21 = .ok (.getfield 15, 3) := by decide +kernel
theorem dX0_takeOver_24 : decode cX0_takeOver 24 = .ok (.iconst 0, 1) := by decide +kernel
theorem dX0_takeOver_25 : decode cX0_takeOver 25 = .ok (.bipush 10, 2) := by decide +kernel
theorem dX0_takeOver_27 : decode cX0_takeOver 27 = .ok (.invokestatic 25, 3) := by decide +kernel
theorem dX0_takeOver_30 : decode cX0_takeOver 30 = .ok (.aload_n 1, 1) := by decide +kernel
theorem dX0_takeOver_31 : decode cX0_takeOver 31 = .ok (.getfield 18, 3) := by decide +kernel
theorem dX0_takeOver_34 : decode cX0_takeOver 34 = .ok (.iconst 0, 1) := by decide +kernel
theorem dX0_takeOver_35 : decode cX0_takeOver 35 = .ok (.aload_n 0, 1) := by decide +kernel
theorem dX0_takeOver_36 : decode cX0_takeOver 36 = .ok (.getfield 18, 3) := by decide +kernel
theorem dX0_takeOver_39 : decode cX0_takeOver 39 = .ok (.iconst 0, 1) := by decide +kernel
theorem dX0_takeOver_40 : decode cX0_takeOver 40 = .ok (.bipush 10, 2) := by decide +kernel
theorem dX0_takeOver_42 : decode cX0_takeOver 42 = .ok (.invokestatic 25, 3) := by decide +kernel
theorem dX0_takeOver_45 : decode cX0_takeOver 45 = .ok (.aload_n 0, 1) := by decide +kernel
theorem dX0_takeOver_46 : decode cX0_takeOver 46 = .ok (.aload_n 1, 1) := by decide +kernel
theorem dX0_takeOver_47 : decode cX0_takeOver 47 = .ok (.getfield 31, 3) := by decide +kernel
theorem dX0_takeOver_50 : decode cX0_takeOver 50 = .ok (.putfield 31, 3) := by decide +kernel
theorem dX0_takeOver_53 : decode cX0_takeOver 53 = .ok (.aload_n 0, 1) := by decide +kernel
theorem dX0_takeOver_54 : decode cX0_takeOver 54 = .ok (.aload_n 1, 1) := by decide +kernel
theorem dX0_takeOver_55 : decode cX0_takeOver 55 = .ok (.getfield 34, 3) := by decide +kernel
theorem dX0_takeOver_58 : decode cX0_takeOver 58 = .ok (.putfield 34, 3) := by decide +kernel
theorem dX0_takeOver_61 : decode cX0_takeOver 61 = .ok (.aload_n 0, 1) := by decide +kernel
theorem dX0_takeOver_62 : decode cX0_takeOver 62 = .ok (.aload_n 1, 1) := by decide +kernel
theorem dX0_takeOver_63 : decode cX0_takeOver 63 = .ok (.getfield 37, 3) := by decide +kernel
theorem dX0_takeOver_66 : decode cX0_takeOver 66 = .ok (.putfield 37, 3) := by decide +kernel
theorem dX0_takeOver_69 : decode cX0_takeOver 69 = .ok (.aload_n 0, 1) := by decide +kernel
theorem dX0_takeOver_70 : decode cX0_takeOver 70 = .ok (.aload_n 1, 1) := by decide +kernel
theorem dX0_takeOver_71 : decode cX0_takeOver 71 = .ok (.getfield 40, 3) := by decide +kernel
theorem dX0_takeOver_74 : decode cX0_takeOver 74 = .ok (.putfield 40, 3) := by decide +kernel
theorem dX0_takeOver_77 : decode cX0_takeOver 77 = .ok (.aload_n 0, 1) := by decide +kernel
theorem dX0_takeOver_78 : decode cX0_takeOver 78 = .ok (.aload_n 1, 1) := by decide +kernel
theorem dX0_takeOver_79 : decode cX0_takeOver 79 = .ok (.getfield 21, 3) := by decide +kernel
theorem dX0_takeOver_82 : decode cX0_takeOver 82 = .ok (.putfield 21, 3) := by decide +kernel
theorem dX0_takeOver_85 : decode cX0_takeOver 85 = .ok (.return_, 1) := by decide +kernel
theorem dX0_putRight_0 : decode cX0_putRight 0 = .ok (.iconst 0, 1) := by decide +kernel
theorem dX0_putRight_1 : decode cX0_putRight 1 = .ok (.istore_n 1, 1) := by decide +kernel
theorem dX0_putRight_2 : decode cX0_putRight 2 = .ok (.iload_n 1, 1) := by decide +kernel
theorem dX0_putRight_3 : decode cX0_putRight 3 = .ok (.bipush 10, 2) := by decide +kernel
theorem dX0_putRight_5 : decode cX0_putRight 5 = .ok (.if_icmp .ge 16, 3) := by decide +kernel
theorem dX0_putRight_8 : decode cX0_putRight 8 = .ok (.aload_n 0, 1) := by decide +kernel
theorem dX0_putRight_9 : decode cX0_putRight 9 = .ok (.getfield 9, 3) := by decide +kernel
theorem dX0_putRight_12 : decode cX0_putRight 12 = .ok (.iload_n 1, 1) := by decide +kernel
theorem dX0_putRight_13 : decode cX0_putRight 13 = .ok (.iload_n 1, 1) := by decide +kernel
theorem dX0_putRight_14 : decode cX0_putRight 14 = .ok (.iastore, 1) := by decide +kernel
theorem dX0_putRight_15 : decode cX0_putRight 15 = .ok (.iinc 1 1, 3) := by decide +kernel
theorem dX0_putRight_18 : decode cX0_putRight 18 = .ok (.goto (-16), 3) := by decide +kernel
theorem dX0_putRight_21 : decode cX0_putRight 21 = .ok (.return_, 1) := by decide +kernel
theorem dX0_strangers_0 : decode cX0_strangers 0 = .ok (.iconst 0, 1) := by decide +kernel
theorem dX0_strangers_1 : decode cX0_strangers 1 = .ok (.istore_n 1, 1) := by decide +kernel
theorem dX0_strangers_2 : decode cX0_strangers 2 = .ok (.iconst 0, 1) := by decide +kernel
theorem dX0_strangers_3 : decode cX0_strangers 3 = .ok (.istore_n 2, 1) := by decide +kernel
theorem dX0_strangers_4 : decode cX0_strangers 4 = .ok (.iload_n 2, 1) := by decide +kernel
theorem dX0_strangers_5 : decode cX0_strangers 5 = .ok (.bipush 10, 2) := by decide +kernel
theorem dX0_strangers_7 : decode cX0_strangers 7 = .ok (.if_icmp .ge 22, 3) := by decide +kernel
theorem dX0_strangers_10 : decode cX0_strangers 10 = .ok (.aload_n 0, 1) := by decide +kernel
theorem dX0_strangers_11 : decode cX0_strangers 11 = .ok (.getfield 9, 3) := by decide +kernel
theorem dX0_strangers_14 : decode cX0_strangers 14 = .ok (.iload_n 2, 1) := by decide +kernel
theorem dX0_strangers_15 : decode cX0_strangers 15 = .ok (.iaload, 1) := by decide +kernel
theorem dX0_strangers_16 : decode cX0_strangers 16 = .ok (.iload_n 2, 1) := by decide +kernel
theorem dX0_strangers_17 : decode cX0_strangers 17 = .ok (.if_icmp .eq 6, 3) := by decide +kernel
theorem dX0_strangers_20 : decode cX0_strangers 20 = .ok (.iinc 1 1, 3) := by decide +kernel
theorem dX0_strangers_23 : decode cX0_strangers 23 = .ok (.iinc 2 1, 3) := by decide +kernel
theorem dX0_strangers_26 : decode cX0_strangers 26 = .ok (.goto (-22), 3) := by decide +kernel
theorem dX0_strangers_29 : decode cX0_strangers 29 = .ok (.iload_n 1, 1) := by decide +kernel
theorem dX0_strangers_30 : decode cX0_strangers 30 = .ok (.ireturn, 1) := by decide +kernel
theorem dX0_basketHere_0 : decode cX0_basketHere 0 = .ok (.aload_n 0, 1) := by decide +kernel
theorem dX0_basketHere_1 : decode cX0_basketHere 1 = .ok (.getfield 9, 3) := by decide +kernel
theorem dX0_basketHere_4 : decode cX0_basketHere 4 = .ok (.aload_n 0, 1) := by decide +kernel
theorem dX0_basketHere_5 : decode cX0_basketHere 5 = .ok (.getfield 31, 3) := by decide +kernel
theorem dX0_basketHere_8 : decode cX0_basketHere 8 = .ok (.iaload, 1) := by decide +kernel
theorem dX0_basketHere_9 : decode cX0_basketHere 9 = .ok (.ireturn, 1) := by decide +kernel
theorem dX0_whyNot_0 : decode cX0_whyNot 0 = .ok (.iload_n 1, 1) := by decide +kernel
theorem dX0_whyNot_1 : decode cX0_whyNot 1 = .ok (.lookupswitch 143 #[(43, 91), (45, 110), (61, 129), (63, 77), (65, 51)], 51) := by decide +kernel
theorem dX0_whyNot_52 : decode cX0_whyNot 52 = .ok (.iload_n 2, 1) := by decide +kernel
theorem dX0_whyNot_53 : decode cX0_whyNot 53 = .ok (.aload_n 0, 1) := by decide +kernel
theorem dX0_whyNot_54 : decode cX0_whyNot 54 = .ok (.getfield 31, 3) := by decide +kernel
theorem dX0_whyNot_57 : decode cX0_whyNot 57 = .ok (.if_icmp .ne 7, 3) := by decide +kernel
theorem dX0_whyNot_60 : decode cX0_whyNot 60 = .ok (.iconst 1, 1) := by decide +kernel
theorem dX0_whyNot_61 : decode cX0_whyNot 61 = .ok (.goto 16, 3) := by decide +kernel
theorem dX0_whyNot_64 : decode cX0_whyNot 64 = .ok (.aload_n 0, 1) := by decide +kernel
theorem dX0_whyNot_65 : decode cX0_whyNot 65 = .ok (.iload_n 2, 1) := by decide +kernel
theorem dX0_whyNot_66 : decode cX0_whyNot 66 = .ok (.aload_n 0, 1) := by decide +kernel
theorem dX0_whyNot_67 : decode cX0_whyNot 67 = .ok (.getfield 31, 3) := by decide +kernel
theorem dX0_whyNot_70 : decode cX0_whyNot 70 = .ok (.isub, 1) := by decide +kernel
theorem dX0_whyNot_71 : decode cX0_whyNot 71 = .ok (.invokestatic 43, 3) := by decide +kernel
theorem dX0_whyNot_74 : decode cX0_whyNot 74 = .ok (.invokevirtual 49, 3) := by decide +kernel
theorem dX0_whyNot_77 : decode cX0_whyNot 77 = .ok (.ireturn, 1) := by decide +kernel
theorem dX0_whyNot_78 : decode cX0_whyNot 78 = .ok (.aload_n 0, 1) := by decide +kernel
theorem dX0_whyNot_79 : decode cX0_whyNot 79 = .ok (.aload_n 0, 1) := by decide +kernel
theorem dX0_whyNot_80 : decode cX0_whyNot 80 = .ok (.getfield 18, 3) := by decide +kernel
theorem dX0_whyNot_83 : decode cX0_whyNot 83 = .ok (.aload_n 0, 1) := by decide +kernel
theorem dX0_whyNot_84 : decode cX0_whyNot 84 = .ok (.invokevirtual 52, 3) := by decide +kernel
theorem dX0_whyNot_87 : decode cX0_whyNot 87 = .ok (.iaload, 1) := by decide +kernel
theorem dX0_whyNot_88 : decode cX0_whyNot 88 = .ok (.invokevirtual 49, 3) := by decide +kernel
theorem dX0_whyNot_91 : decode cX0_whyNot 91 = .ok (.ireturn, 1) := by decide +kernel
theorem dX0_whyNot_92 : decode cX0_whyNot 92 = .ok (.aload_n 0, 1) := by decide +kernel
theorem dX0_whyNot_93 : decode cX0_whyNot 93 = .ok (.aload_n 0, 1) := by decide +kernel
theorem dX0_whyNot_94 : decode cX0_whyNot 94 = .ok (.getfield 34, 3) := by decide +kernel
theorem dX0_whyNot_97 : decode cX0_whyNot 97 = .ok (.aload_n 0, 1) := by decide +kernel
theorem dX0_whyNot_98 : decode cX0_whyNot 98 = .ok (.getfield 15, 3) := by decide +kernel
theorem dX0_whyNot_101 : decode cX0_whyNot 101 = .ok (.aload_n 0, 1) := by decide +kernel
theorem dX0_whyNot_102 : decode cX0_whyNot 102 = .ok (.invokevirtual 52, 3) := by decide +kernel
theorem dX0_whyNot_105 : decode cX0_whyNot 105 = .ok (.iaload, 1) := by decide +kernel
theorem dX0_whyNot_106 : decode cX0_whyNot 106 = .ok (.iload_n 2, 1) := by decide +kernel
theorem dX0_whyNot_107 : decode cX0_whyNot 107 = .ok (.invokevirtual 56, 3) := by decide +kernel
theorem dX0_whyNot_110 : decode cX0_whyNot 110 = .ok (.ireturn, 1) := by decide +kernel
theorem dX0_whyNot_111 : decode cX0_whyNot 111 = .ok (.aload_n 0, 1) := by decide +kernel
theorem dX0_whyNot_112 : decode cX0_whyNot 112 = .ok (.aload_n 0, 1) := by decide +kernel
theorem dX0_whyNot_113 : decode cX0_whyNot 113 = .ok (.getfield 15, 3) := by decide +kernel
theorem dX0_whyNot_116 : decode cX0_whyNot 116 = .ok (.aload_n 0, 1) := by decide +kernel
theorem dX0_whyNot_117 : decode cX0_whyNot 117 = .ok (.invokevirtual 52, 3) := by decide +kernel
theorem dX0_whyNot_120 : decode cX0_whyNot 120 = .ok (.iaload, 1) := by decide +kernel
theorem dX0_whyNot_121 : decode cX0_whyNot 121 = .ok (.aload_n 0, 1) := by decide +kernel
theorem dX0_whyNot_122 : decode cX0_whyNot 122 = .ok (.getfield 34, 3) := by decide +kernel
theorem dX0_whyNot_125 : decode cX0_whyNot 125 = .ok (.iload_n 2, 1) := by decide +kernel
theorem dX0_whyNot_126 : decode cX0_whyNot 126 = .ok (.invokevirtual 56, 3) := by decide +kernel
theorem dX0_whyNot_129 : decode cX0_whyNot 129 = .ok (.ireturn, 1) := by decide +kernel
theorem dX0_whyNot_130 : decode cX0_whyNot 130 = .ok (.iload_n 2, 1) := by decide +kernel
theorem dX0_whyNot_131 : decode cX0_whyNot 131 = .ok (.aload_n 0, 1) := by decide +kernel
theorem dX0_whyNot_132 : decode cX0_whyNot 132 = .ok (.getfield 31, 3) := by decide +kernel
theorem dX0_whyNot_135 : decode cX0_whyNot 135 = .ok (.if_icmp .ne 7, 3) := by decide +kernel
theorem dX0_whyNot_138 : decode cX0_whyNot 138 = .ok (.iconst 1, 1) := by decide +kernel
theorem dX0_whyNot_139 : decode cX0_whyNot 139 = .ok (.goto 4, 3) := by decide +kernel
theorem dX0_whyNot_142 : decode cX0_whyNot 142 = .ok (.iconst 0, 1) := by decide +kernel
theorem dX0_whyNot_143 : decode cX0_whyNot 143 = .ok (.ireturn, 1) := by decide +kernel
theorem dX0_whyNot_144 : decode cX0_whyNot 144 = .ok (.aload_n 0, 1) := by decide +kernel
theorem dX0_whyNot_145 : decode cX0_whyNot 145 = .ok (.iconst 1, 1) := by decide +kernel
theorem dX0_whyNot_146 : decode cX0_whyNot 146 = .ok (.invokevirtual 49, 3) := by decide +kernel
theorem dX0_whyNot_149 : decode cX0_whyNot 149 = .ok (.ireturn, 1) := by decide +kernel
theorem dX0_whyNotMoved_0 : decode cX0_whyNotMoved 0 = .ok (.iload_n 1, 1) := by decide +kernel
theorem dX0_whyNotMoved_1 : decode cX0_whyNotMoved 1 = .ok (.iload_n 3, 1) := by decide +kernel
theorem dX0_whyNotMoved_2 : decode cX0_whyNotMoved 2 = .ok (.invokestatic 60, 3) := by decide +kernel
theorem dX0_whyNotMoved_5 : decode cX0_whyNotMoved 5 = .ok (.ifCond .ne 5, 3) := by decide +kernel
theorem dX0_whyNotMoved_8 : decode cX0_whyNotMoved 8 = .ok (.iconst 2, 1) := by decide +kernel
theorem dX0_whyNotMoved_9 : decode cX0_whyNotMoved 9 = .ok (.ireturn, 1) := by decide +kernel
theorem dX0_whyNotMoved_10 : decode cX0_whyNotMoved 10 = .ok (.iload_n 2, 1) := by decide +kernel
theorem dX0_whyNotMoved_11 : decode cX0_whyNotMoved 11 = .ok (.iload_n 3, 1) := by decide +kernel
theorem dX0_whyNotMoved_12 : decode cX0_whyNotMoved 12 = .ok (.invokestatic 60, 3) := by decide +kernel
theorem dX0_whyNotMoved_15 : decode cX0_whyNotMoved 15 = .ok (.ifCond .eq 7, 3) := by decide +kernel
theorem dX0_whyNotMoved_18 : decode cX0_whyNotMoved 18 = .ok (.iconst 3, 1) := by decide +kernel
theorem dX0_whyNotMoved_19 : decode cX0_whyNotMoved 19 = .ok (.goto 4, 3) := by decide +kernel
theorem dX0_whyNotMoved_22 : decode cX0_whyNotMoved 22 = .ok (.iconst 0, 1) := by decide +kernel
theorem dX0_whyNotMoved_23 : decode cX0_whyNotMoved 23 = .ok (.ireturn, 1) := by decide +kernel
theorem dX0_whyTooLate_0 : decode cX0_whyTooLate 0 = .ok (.aload_n 0, 1) := by decide +kernel
theorem dX0_whyTooLate_1 : decode cX0_whyTooLate 1 = .ok (.getfield 40, 3) := by decide +kernel
theorem dX0_whyTooLate_4 : decode cX0_whyTooLate 4 = .ok (.iload_n 1, 1) := by decide +kernel
theorem dX0_whyTooLate_5 : decode cX0_whyTooLate 5 = .ok (.iadd, 1) := by decide +kernel
theorem dX0_whyTooLate_6 : decode cX0_whyTooLate 6 = .ok (.aload_n 0, 1) := by decide +kernel
theorem dX0_whyTooLate_7 : decode cX0_whyTooLate 7 = .ok (.getfield 21, 3) := by decide +kernel
theorem dX0_whyTooLate_10 : decode cX0_whyTooLate 10 = .ok (.if_icmp .le 7, 3) := by decide +kernel
theorem dX0_whyTooLate_13 : decode cX0_whyTooLate 13 = .ok (.iconst 4, 1) := by decide +kernel
theorem dX0_whyTooLate_14 : decode cX0_whyTooLate 14 = .ok (.goto 4, 3) := by decide +kernel
theorem dX0_whyTooLate_17 : decode cX0_whyTooLate 17 = .ok (.iconst 0, 1) := by decide +kernel
theorem dX0_whyTooLate_18 : decode cX0_whyTooLate 18 = .ok (.ireturn, 1) := by decide +kernel
theorem dX0_perform_0 : decode cX0_perform 0 = .ok (.aload_n 0, 1) := by decide +kernel
theorem dX0_perform_1 : decode cX0_perform 1 = .ok (.invokevirtual 52, 3) := by decide +kernel
theorem dX0_perform_4 : decode cX0_perform 4 = .ok (.istore_n 3, 1) := by decide +kernel
theorem dX0_perform_5 : decode cX0_perform 5 = .ok (.iload_n 1, 1) := by decide +kernel
theorem dX0_perform_6 : decode cX0_perform 6 = .ok (.lookupswitch 204 #[(43, 109), (45, 138), (61, 179), (63, 76), (65, 50)], 50) := by decide +kernel
theorem dX0_perform_56 : decode cX0_perform 56 = .ok (.aload_n 0, 1) := by decide +kernel
theorem dX0_perform_57 : decode cX0_perform 57 = .ok (.dup, 1) := by decide +kernel
theorem dX0_perform_58 : decode cX0_perform 58 = .ok (.getfield 40, 3) := by decide +kernel
theorem dX0_perform_61 : decode cX0_perform 61 = .ok (.iload_n 2, 1) := by decide +kernel
theorem dX0_perform_62 : decode cX0_perform 62 = .ok (.aload_n 0, 1) := by decide +kernel
theorem dX0_perform_63 : decode cX0_perform 63 = .ok (.getfield 31, 3) := by decide +kernel
theorem dX0_perform_66 : decode cX0_perform 66 = .ok (.isub, 1) := by decide +kernel
theorem dX0_perform_67 : decode cX0_perform 67 = .ok (.invokestatic 43, 3) := by decide +kernel
theorem dX0_perform_70 : decode cX0_perform 70 = .ok (.iadd, 1) := by decide +kernel
theorem dX0_perform_71 : decode cX0_perform 71 = .ok (.putfield 40, 3) := by decide +kernel
theorem dX0_perform_74 : decode cX0_perform 74 = .ok (.aload_n 0, 1) := by decide +kernel
theorem dX0_perform_75 : decode cX0_perform 75 = .ok (.iload_n 2, 1) := by decide +kernel
theorem dX0_perform_76 : decode cX0_perform 76 = .ok (.putfield 31, 3) := by decide +kernel
theorem dX0_perform_79 : decode cX0_perform 79 = .ok (.goto 141, 3) := by decide +kernel
theorem dX0_perform_82 : decode cX0_perform 82 = .ok (.aload_n 0, 1) := by decide +kernel
theorem dX0_perform_83 : decode cX0_perform 83 = .ok (.dup, 1) := by decide +kernel
theorem dX0_perform_84 : decode cX0_perform 84 = .ok (.getfield 40, 3) := by decide +kernel
theorem dX0_perform_87 : decode cX0_perform 87 = .ok (.aload_n 0, 1) := by decide +kernel
theorem dX0_perform_88 : decode cX0_perform 88 = .ok (.getfield 18, 3) := by decide +kernel
theorem dX0_perform_91 : decode cX0_perform 91 = .ok (.iload_n 3, 1) := by decide +kernel
theorem dX0_perform_92 : decode cX0_perform 92 = .ok (.iaload, 1) := by decide +kernel
theorem dX0_perform_93 : decode cX0_perform 93 = .ok (.iadd, 1) := by decide +kernel
theorem dX0_perform_94 : decode cX0_perform 94 = .ok (.putfield 40, 3) := by decide +kernel
theorem dX0_perform_97 : decode cX0_perform 97 = .ok (.aload_n 0, 1) := by decide +kernel
theorem dX0_perform_98 : decode cX0_perform 98 = .ok (.dup, 1) := by decide +kernel
theorem dX0_perform_99 : decode cX0_perform 99 = .ok (.getfield 37, 3) := by decide +kernel
theorem dX0_perform_102 : decode cX0_perform 102 = .ok (.aload_n 0, 1) := by decide +kernel
theorem dX0_perform_103 : decode cX0_perform 103 = .ok (.getfield 15, 3) := by decide +kernel
theorem dX0_perform_106 : decode cX0_perform 106 = .ok (.iload_n 3, 1) := by decide +kernel
theorem dX0_perform_107 : decode cX0_perform 107 = .ok (.iaload, 1) := by decide +kernel
theorem dX0_perform_108 : decode cX0_perform 108 = .ok (.ior, 1) := by decide +kernel
theorem dX0_perform_109 : decode cX0_perform 109 = .ok (.putfield 37, 3) := by decide +kernel
theorem dX0_perform_112 : decode cX0_perform 112 = .ok (.goto 108, 3) := by decide +kernel
theorem dX0_perform_115 : decode cX0_perform 115 = .ok (.aload_n 0, 1) := by decide +kernel
theorem dX0_perform_116 : decode cX0_perform 116 = .ok (.dup, 1) := by decide +kernel
theorem dX0_perform_117 : decode cX0_perform 117 = .ok (.getfield 34, 3) := by decide +kernel
theorem dX0_perform_120 : decode cX0_perform 120 = .ok (.iconst 1, 1) := by decide +kernel
theorem dX0_perform_121 : decode cX0_perform 121 = .ok (.iload_n 2, 1) := by decide +kernel
theorem dX0_perform_122 : decode cX0_perform 122 = .ok (.ishl, 1) := by decide +kernel
theorem dX0_perform_123 : decode cX0_perform 123 = .ok (.iconst (-1), 1) := by decide +kernel
theorem dX0_perform_124 : decode cX0_perform 124 = .ok (.ixor, 1) := by decide +kernel
theorem dX0_perform_125 : decode cX0_perform 125 = .ok (.iand, 1) := by decide +kernel
theorem dX0_perform_126 : decode cX0_perform 126 = .ok (.putfield 34, 3) := by decide +kernel
theorem dX0_perform_129 : decode cX0_perform 129 = .ok (.aload_n 0, 1) := by decide +kernel
theorem dX0_perform_130 : decode cX0_perform 130 = .ok (.getfield 15, 3) := by decide +kernel
theorem dX0_perform_133 : decode cX0_perform 133 = .ok (.iload_n 3, 1) := by decide +kernel
theorem dX0_perform_134 : decode cX0_perform 134 = .ok (.dup2, 1) := by decide +kernel
theorem dX0_perform_135 : decode cX0_perform 135 = .ok (.iaload, 1) := by decide +kernel
theorem dX0_perform_136 : decode cX0_perform 136 = .ok (.iconst 1, 1) := by decide +kernel
theorem dX0_perform_137 : decode cX0_perform 137 = .ok (.iload_n 2, 1) := by decide +kernel
theorem dX0_perform_138 : decode cX0_perform 138 = .ok (.ishl, 1) := by decide +kernel
theorem dX0_perform_139 : decode cX0_perform 139 = .ok (.ior, 1) := by decide +kernel
theorem dX0_perform_140 : decode cX0_perform 140 = .ok (.iastore, 1) := by decide +kernel
theorem dX0_perform_141 : decode cX0_perform 141 = .ok (.goto 79, 3) := by decide +kernel
theorem dX0_perform_144 : decode cX0_perform 144 = .ok (.aload_n 0, 1) := by decide +kernel
theorem dX0_perform_145 : decode cX0_perform 145 = .ok (.getfield 15, 3) := by decide +kernel
theorem dX0_perform_148 : decode cX0_perform 148 = .ok (.iload_n 3, 1) := by decide +kernel
theorem dX0_perform_149 : decode cX0_perform 149 = .ok (.dup2, 1) := by decide +kernel
theorem dX0_perform_150 : decode cX0_perform 150 = .ok (.iaload, 1) := by decide +kernel
theorem dX0_perform_151 : decode cX0_perform 151 = .ok (.iconst 1, 1) := by decide +kernel
theorem dX0_perform_152 : decode cX0_perform 152 = .ok (.iload_n 2, 1) := by decide +kernel
theorem dX0_perform_153 : decode cX0_perform 153 = .ok (.ishl, 1) := by decide +kernel
theorem dX0_perform_154 : decode cX0_perform 154 = .ok (.iconst (-1), 1) := by decide +kernel
theorem dX0_perform_155 : decode cX0_perform 155 = .ok (.ixor, 1) := by decide +kernel
theorem dX0_perform_156 : decode cX0_perform 156 = .ok (.iand, 1) := by decide +kernel
theorem dX0_perform_157 : decode cX0_perform 157 = .ok (.iastore, 1) := by decide +kernel
theorem dX0_perform_158 : decode cX0_perform 158 = .ok (.aload_n 0, 1) := by decide +kernel
theorem dX0_perform_159 : decode cX0_perform 159 = .ok (.dup, 1) := by decide +kernel
theorem dX0_perform_160 : decode cX0_perform 160 = .ok (.getfield 34, 3) := by decide +kernel
theorem dX0_perform_163 : decode cX0_perform 163 = .ok (.iconst 1, 1) := by decide +kernel
theorem dX0_perform_164 : decode cX0_perform 164 = .ok (.iload_n 2, 1) := by decide +kernel
theorem dX0_perform_165 : decode cX0_perform 165 = .ok (.ishl, 1) := by decide +kernel
theorem dX0_perform_166 : decode cX0_perform 166 = .ok (.ior, 1) := by decide +kernel
theorem dX0_perform_167 : decode cX0_perform 167 = .ok (.putfield 34, 3) := by decide +kernel
theorem dX0_perform_170 : decode cX0_perform 170 = .ok (.aload_n 0, 1) := by decide +kernel
theorem dX0_perform_171 : decode cX0_perform 171 = .ok (.dup, 1) := by decide +kernel
theorem dX0_perform_172 : decode cX0_perform 172 = .ok (.getfield 37, 3) := by decide +kernel
theorem dX0_perform_175 : decode cX0_perform 175 = .ok (.iconst 1, 1) := by decide +kernel
theorem dX0_perform_176 : decode cX0_perform 176 = .ok (.iload_n 2, 1) := by decide +kernel
theorem dX0_perform_177 : decode cX0_perform 177 = .ok (.ishl, 1) := by decide +kernel
theorem dX0_perform_178 : decode cX0_perform 178 = .ok (.ior, 1) := by decide +kernel
theorem dX0_perform_179 : decode cX0_perform 179 = .ok (.putfield 37, 3) := by decide +kernel
theorem dX0_perform_182 : decode cX0_perform 182 = .ok (.goto 38, 3) := by decide +kernel
theorem dX0_perform_185 : decode cX0_perform 185 = .ok (.aload_n 0, 1) := by decide +kernel
theorem dX0_perform_186 : decode cX0_perform 186 = .ok (.getfield 9, 3) := by decide +kernel
theorem dX0_perform_189 : decode cX0_perform 189 = .ok (.aload_n 0, 1) := by decide +kernel
theorem dX0_perform_190 : decode cX0_perform 190 = .ok (.getfield 31, 3) := by decide +kernel
theorem dX0_perform_193 : decode cX0_perform 193 = .ok (.aload_n 0, 1) := by decide +kernel
theorem dX0_perform_194 : decode cX0_perform 194 = .ok (.getfield 9, 3) := by decide +kernel
theorem dX0_perform_197 : decode cX0_perform 197 = .ok (.iload_n 2, 1) := by decide +kernel
theorem dX0_perform_198 : decode cX0_perform 198 = .ok (.iaload, 1) := by decide +kernel
theorem dX0_perform_199 : decode cX0_perform 199 = .ok (.iastore, 1) := by decide +kernel
theorem dX0_perform_200 : decode cX0_perform 200 = .ok (.aload_n 0, 1) := by decide +kernel
theorem dX0_perform_201 : decode cX0_perform 201 = .ok (.getfield 9, 3) := by decide +kernel
theorem dX0_perform_204 : decode cX0_perform 204 = .ok (.iload_n 2, 1) := by decide +kernel
theorem dX0_perform_205 : decode cX0_perform 205 = .ok (.iload_n 3, 1) := by decide +kernel
theorem dX0_perform_206 : decode cX0_perform 206 = .ok (.iastore, 1) := by decide +kernel
theorem dX0_perform_207 : decode cX0_perform 207 = .ok (.goto 13, 3) := by decide +kernel
theorem dX0_perform_210 : decode cX0_perform 210 = .ok (.aload_n 0, 1) := by decide +kernel
theorem dX0_perform_211 : decode cX0_perform 211 = .ok (.dup, 1) := by decide +kernel
theorem dX0_perform_212 : decode cX0_perform 212 = .ok (.getfield 40, 3) := by decide +kernel
theorem dX0_perform_215 : decode cX0_perform 215 = .ok (.iconst 1, 1) := by decide +kernel
theorem dX0_perform_216 : decode cX0_perform 216 = .ok (.iadd, 1) := by decide +kernel
theorem dX0_perform_217 : decode cX0_perform 217 = .ok (.putfield 40, 3) := by decide +kernel
theorem dX0_perform_220 : decode cX0_perform 220 = .ok (.return_, 1) := by decide +kernel
theorem dX1_init_0 : decode cX1_init 0 = .ok (.aload_n 0, 1) := by decide +kernel
theorem dX1_init_1 : decode cX1_init 1 = .ok (.invokespecial 3, 3) := by decide +kernel
theorem dX1_init_4 : decode cX1_init 4 = .ok (.aload_n 0, 1) := by decide +kernel
theorem dX1_init_5 : decode cX1_init 5 = .ok (.sipush 1024, 3) := by decide +kernel
theorem dX1_init_8 : decode cX1_init 8 = .ok (.newarray .int, 2) := by decide +kernel
theorem dX1_init_10 : decode cX1_init 10 = .ok (.putfield 9, 3) := by decide +kernel
theorem dX1_init_13 : decode cX1_init 13 = .ok (.return_, 1) := by decide +kernel
theorem dX1_planRound_0 : decode cX1_planRound 0 = .ok (.aload_n 0, 1) := by decide +kernel
theorem dX1_planRound_1 : decode cX1_planRound 1 = .ok (.aload_n 1, 1) := by decide +kernel
theorem dX1_planRound_2 : decode cX1_planRound 2 = .ok (.invokevirtual 15, 3) := by decide +kernel
theorem dX1_planRound_5 : decode cX1_planRound 5 = .ok (.aload_n 0, 1) := by decide +kernel
theorem dX1_planRound_6 : decode cX1_planRound 6 = .ok (.bipush (-6), 2) := by decide +kernel
theorem dX1_planRound_8 : decode cX1_planRound 8 = .ok (.putfield 19, 3) := by decide +kernel
theorem dX1_planRound_11 : decode cX1_planRound 11 = .ok (.aload_n 0, 1) := by decide +kernel
theorem dX1_planRound_12 : decode cX1_planRound 12 = .ok (.bipush (-6), 2) := by decide +kernel
theorem dX1_planRound_14 : decode cX1_planRound 14 = .ok (.putfield 23, 3) := by decide +kernel
theorem dX1_planRound_17 : decode cX1_planRound 17 = .ok (.aload_n 1, 1) := by decide +kernel
theorem dX1_planRound_18 : decode cX1_planRound 18 = .ok (.getfield 26, 3) := by decide +kernel
theorem dX1_planRound_21 : decode cX1_planRound 21 = .ok (.aload_n 1, 1) := by decide +kernel
theorem dX1_planRound_22 : decode cX1_planRound 22 = .ok (.getfield 31, 3) := by decide +kernel
theorem dX1_planRound_25 : decode cX1_planRound 25 = .ok (.isub, 1) := by decide +kernel
theorem dX1_planRound_26 : decode cX1_planRound 26 = .ok (.istore_n 3, 1) := by decide +kernel
theorem dX1_planRound_27 : decode cX1_planRound 27 = .ok (.iconst 0, 1) := by decide +kernel
theorem dX1_planRound_28 : decode cX1_planRound 28 = .ok (.istore 4, 2) := by decide +kernel
theorem dX1_planRound_30 : decode cX1_planRound 30 = .ok (.iload 4, 2) := by decide +kernel
theorem dX1_planRound_32 : decode cX1_planRound 32 = .ok (.sipush 1024, 3) := by decide +kernel
theorem dX1_planRound_35 : decode cX1_planRound 35 = .ok (.if_icmp .ge 59, 3) := by decide +kernel
theorem dX1_planRound_38 : decode cX1_planRound 38 = .ok (.iload 4, 2) := by decide +kernel
theorem dX1_planRound_40 : decode cX1_planRound 40 = .ok (.invokestatic 34, 3) := by decide +kernel
theorem dX1_planRound_43 : decode cX1_planRound 43 = .ok (.istore 5, 2) := by decide +kernel
theorem dX1_planRound_45 : decode cX1_planRound 45 = .ok (.iload 5, 2) := by decide +kernel
theorem dX1_planRound_47 : decode cX1_planRound 47 = .ok (.aload_n 0, 1) := by decide +kernel
theorem dX1_planRound_48 : decode cX1_planRound 48 = .ok (.getfield 19, 3) := by decide +kernel
theorem dX1_planRound_51 : decode cX1_planRound 51 = .ok (.if_icmp .le 37, 3) := by decide +kernel
theorem dX1_planRound_54 : decode cX1_planRound 54 = .ok (.aload_n 0, 1) := by decide +kernel
theorem dX1_planRound_55 : decode cX1_planRound 55 = .ok (.getfield 9, 3) := by decide +kernel
theorem dX1_planRound_58 : decode cX1_planRound 58 = .ok (.iload 4, 2) := by decide +kernel
theorem dX1_planRound_60 : decode cX1_planRound 60 = .ok (.iaload, 1) := by decide +kernel
theorem dX1_planRound_61 : decode cX1_planRound 61 = .ok (.iload 4, 2) := by decide +kernel
theorem dX1_planRound_63 : decode cX1_planRound 63 = .ok (.aload_n 1, 1) := by decide +kernel
theorem dX1_planRound_64 : decode cX1_planRound 64 = .ok (.getfield 40, 3) := by decide +kernel
theorem dX1_planRound_67 : decode cX1_planRound 67 = .ok (.iload_n 2, 1) := by decide +kernel
theorem dX1_planRound_68 : decode cX1_planRound 68 = .ok (.invokestatic 43, 3) := by decide +kernel
theorem dX1_planRound_71 : decode cX1_planRound 71 = .ok (.iadd, 1) := by decide +kernel
theorem dX1_planRound_72 : decode cX1_planRound 72 = .ok (.iload_n 3, 1) := by decide +kernel
theorem dX1_planRound_73 : decode cX1_planRound 73 = .ok (.if_icmp .gt 15, 3) := by decide +kernel
theorem dX1_planRound_76 : decode cX1_planRound 76 = .ok (.aload_n 0, 1) := by decide +kernel
theorem dX1_planRound_77 : decode cX1_planRound 77 = .ok (.iload 5, 2) := by decide +kernel
theorem dX1_planRound_79 : decode cX1_planRound 79 = .ok (.putfield 19, 3) := by decide +kernel
theorem dX1_planRound_82 : decode cX1_planRound 82 = .ok (.aload_n 0, 1) := by decide +kernel
theorem dX1_planRound_83 : decode cX1_planRound 83 = .ok (.iload 4, 2) := by decide +kernel
theorem dX1_planRound_85 : decode cX1_planRound 85 = .ok (.putfield 23, 3) := by decide +kernel
theorem dX1_planRound_88 : decode cX1_planRound 88 = .ok (.iinc 4 1, 3) := by decide +kernel
theorem dX1_planRound_91 : decode cX1_planRound 91 = .ok (.goto (-61), 3) := by decide +kernel
theorem dX1_planRound_94 : decode cX1_planRound 94 = .ok (.return_, 1) := by decide +kernel
theorem dX1_sumMinutes_0 : decode cX1_sumMinutes 0 = .ok (.aload_n 0, 1) := by decide +kernel
theorem dX1_sumMinutes_1 : decode cX1_sumMinutes 1 = .ok (.getfield 9, 3) := by decide +kernel
theorem dX1_sumMinutes_4 : decode cX1_sumMinutes 4 = .ok (.iconst 0, 1) := by decide +kernel
theorem dX1_sumMinutes_5 : decode cX1_sumMinutes 5 = .ok (.iconst 0, 1) := by decide +kernel
theorem dX1_sumMinutes_6 : decode cX1_sumMinutes 6 = .ok (.iastore, 1) := by decide +kernel
theorem dX1_sumMinutes_7 : decode cX1_sumMinutes 7 = .ok (.iconst 0, 1) := by decide +kernel
theorem dX1_sumMinutes_8 : decode cX1_sumMinutes 8 = .ok (.istore_n 2, 1) := by decide +kernel
theorem dX1_sumMinutes_9 : decode cX1_sumMinutes 9 = .ok (.iload_n 2, 1) := by decide +kernel
theorem dX1_sumMinutes_10 : decode cX1_sumMinutes 10 = .ok (.bipush 10, 2) := by decide +kernel
theorem dX1_sumMinutes_12 : decode cX1_sumMinutes 12 = .ok (.if_icmp .ge 60, 3) := by decide +kernel
theorem dX1_sumMinutes_15 : decode cX1_sumMinutes 15 = .ok (.iconst 1, 1) := by decide +kernel
theorem dX1_sumMinutes_16 : decode cX1_sumMinutes 16 = .ok (.iload_n 2, 1) := by decide +kernel
theorem dX1_sumMinutes_17 : decode cX1_sumMinutes 17 = .ok (.ishl, 1) := by decide +kernel
theorem dX1_sumMinutes_18 : decode cX1_sumMinutes 18 = .ok (.istore_n 3, 1) := by decide +kernel
theorem dX1_sumMinutes_19 : decode cX1_sumMinutes 19 = .ok (.aload_n 1, 1) := by decide +kernel
theorem dX1_sumMinutes_20 : decode cX1_sumMinutes 20 = .ok (.getfield 47, 3) := by decide +kernel
theorem dX1_sumMinutes_23 : decode cX1_sumMinutes 23 = .ok (.aload_n 1, 1) := by decide +kernel
theorem dX1_sumMinutes_24 : decode cX1_sumMinutes 24 = .ok (.getfield 50, 3) := by decide +kernel
theorem dX1_sumMinutes_27 : decode cX1_sumMinutes 27 = .ok (.iload_n 2, 1) := by decide +kernel
theorem dX1_sumMinutes_28 : decode cX1_sumMinutes 28 = .ok (.iaload, 1) := by decide +kernel
theorem dX1_sumMinutes_29 : decode cX1_sumMinutes 29 = .ok (.iaload, 1) := by decide +kernel
theorem dX1_sumMinutes_30 : decode cX1_sumMinutes 30 = .ok (.istore 4, 2) := by decide +kernel
theorem dX1_sumMinutes_32 : decode cX1_sumMinutes 32 = .ok (.iconst 0, 1) := by decide +kernel
theorem dX1_sumMinutes_33 : decode cX1_sumMinutes 33 = .ok (.istore 5, 2) := by decide +kernel
theorem dX1_sumMinutes_35 : decode cX1_sumMinutes 35 = .ok (.iload 5, 2) := by decide +kernel
theorem dX1_sumMinutes_37 : decode cX1_sumMinutes 37 = .ok (.iload_n 3, 1) := by decide +kernel
theorem dX1_sumMinutes_38 : decode cX1_sumMinutes 38 = .ok (.if_icmp .ge 28, 3) := by decide +kernel
theorem dX1_sumMinutes_41 : decode cX1_sumMinutes 41 = .ok (.aload_n 0, 1) := by decide +kernel
theorem dX1_sumMinutes_42 : decode cX1_sumMinutes 42 = .ok (.getfield 9, 3) := by decide +kernel
theorem dX1_sumMinutes_45 : decode cX1_sumMinutes 45 = .ok (.iload_n 3, 1) := by decide +kernel
theorem dX1_sumMinutes_46 : decode cX1_sumMinutes 46 = .ok (.iload 5, 2) := by decide +kernel
theorem dX1_sumMinutes_48 : decode cX1_sumMinutes 48 = .ok (.ior, 1) := by decide +kernel
theorem dX1_sumMinutes_49 : decode cX1_sumMinutes 49 = .ok (.aload_n 0, 1) := by decide +kernel
theorem dX1_sumMinutes_50 : decode cX1_sumMinutes 50 = .ok (.getfield 9, 3) := by decide +kernel
theorem dX1_sumMinutes_53 : decode cX1_sumMinutes 53 = .ok (.iload 5, 2) := by decide +kernel
theorem dX1_sumMinutes_55 : decode cX1_sumMinutes 55 = .ok (.iaload, 1) := by decide +kernel
theorem dX1_sumMinutes_56 : decode cX1_sumMinutes 56 = .ok (.iload 4, 2) := by decide +kernel
theorem dX1_sumMinutes_58 : decode cX1_sumMinutes 58 = .ok (.iadd, 1) := by decide +kernel
theorem dX1_sumMinutes_59 : decode cX1_sumMinutes 59 = .ok (.iastore, 1) := by decide +kernel
theorem dX1_sumMinutes_60 : decode cX1_sumMinutes 60 = .ok (.iinc 5 1, 3) := by decide +kernel
theorem dX1_sumMinutes_63 : decode cX1_sumMinutes 63 = .ok (.goto (-28), 3) := by decide +kernel
theorem dX1_sumMinutes_66 : decode cX1_sumMinutes 66 = .ok (.iinc 2 1, 3) := by decide +kernel
theorem dX1_sumMinutes_69 : decode cX1_sumMinutes 69 = .ok (.goto (-60), 3) := by decide +kernel
theorem dX1_sumMinutes_72 : decode cX1_sumMinutes 72 = .ok (.return_, 1) := by decide +kernel
theorem dX1_walk_0 : decode cX1_walk 0 = .ok (.iload_n 0, 1) := by decide +kernel
theorem dX1_walk_1 : decode cX1_walk 1 = .ok (.iconst 1, 1) := by decide +kernel
theorem dX1_walk_2 : decode cX1_walk 2 = .ok (.iload_n 1, 1) := by decide +kernel
theorem dX1_walk_3 : decode cX1_walk 3 = .ok (.ishl, 1) := by decide +kernel
theorem dX1_walk_4 : decode cX1_walk 4 = .ok (.ior, 1) := by decide +kernel
theorem dX1_walk_5 : decode cX1_walk 5 = .ok (.iconst 1, 1) := by decide +kernel
theorem dX1_walk_6 : decode cX1_walk 6 = .ok (.iload_n 2, 1) := by decide +kernel
theorem dX1_walk_7 : decode cX1_walk 7 = .ok (.ishl, 1) := by decide +kernel
theorem dX1_walk_8 : decode cX1_walk 8 = .ok (.ior, 1) := by decide +kernel
theorem dX1_walk_9 : decode cX1_walk 9 = .ok (.istore_n 3, 1) := by decide +kernel
theorem dX1_walk_10 : decode cX1_walk 10 = .ok (.iconst 0, 1) := by decide +kernel
theorem dX1_walk_11 : decode cX1_walk 11 = .ok (.istore 4, 2) := by decide +kernel
theorem dX1_walk_13 : decode cX1_walk 13 = .ok (.iload 4, 2) := by decide +kernel
theorem dX1_walk_15 : decode cX1_walk 15 = .ok (.bipush 10, 2) := by decide +kernel
theorem dX1_walk_17 : decode cX1_walk 17 = .ok (.if_icmp .ge 18, 3) := by decide +kernel
theorem dX1_walk_20 : decode cX1_walk 20 = .ok (.iload_n 3, 1) := by decide +kernel
theorem dX1_walk_21 : decode cX1_walk 21 = .ok (.iload 4, 2) := by decide +kernel
theorem dX1_walk_23 : decode cX1_walk 23 = .ok (.invokestatic 53, 3) := by decide +kernel
theorem dX1_walk_26 : decode cX1_walk 26 = .ok (.ifCond .ne 9, 3) := by decide +kernel
theorem dX1_walk_29 : decode cX1_walk 29 = .ok (.iinc 4 1, 3) := by decide +kernel
theorem dX1_walk_32 : decode cX1_walk 32 = .ok (.goto (-19), 3) := by decide +kernel
theorem dX1_walk_35 : decode cX1_walk 35 = .ok (.bipush 9, 2) := by decide +kernel
theorem dX1_walk_37 : decode cX1_walk 37 = .ok (.istore 5, 2) := by decide +kernel
theorem dX1_walk_39 : decode cX1_walk 39 = .ok (.iload 5, 2) := by decide +kernel
theorem dX1_walk_41 : decode cX1_walk 41 = .ok (.ifCond .le 18, 3) := by decide +kernel
theorem dX1_walk_44 : decode cX1_walk 44 = .ok (.iload_n 3, 1) := by decide +kernel
theorem dX1_walk_45 : decode cX1_walk 45 = .ok (.iload 5, 2) := by decide +kernel
theorem dX1_walk_47 : decode cX1_walk 47 = .ok (.invokestatic 53, 3) := by decide +kernel
theorem dX1_walk_50 : decode cX1_walk 50 = .ok (.ifCond .ne 9, 3) := by decide +kernel
theorem dX1_walk_53 : decode cX1_walk 53 = .ok (.iinc 5 (-1), 3) := by decide +kernel
theorem dX1_walk_56 : decode cX1_walk 56 = .ok (.goto (-17), 3) := by decide +kernel
theorem dX1_walk_59 : decode cX1_walk 59 = .ok (.iload_n 1, 1) := by decide +kernel
theorem dX1_walk_60 : decode cX1_walk 60 = .ok (.iload 4, 2) := by decide +kernel
theorem dX1_walk_62 : decode cX1_walk 62 = .ok (.isub, 1) := by decide +kernel
theorem dX1_walk_63 : decode cX1_walk 63 = .ok (.iload 5, 2) := by decide +kernel
theorem dX1_walk_65 : decode cX1_walk 65 = .ok (.iadd, 1) := by decide +kernel
theorem dX1_walk_66 : decode cX1_walk 66 = .ok (.iload_n 2, 1) := by decide +kernel
theorem dX1_walk_67 : decode cX1_walk 67 = .ok (.isub, 1) := by decide +kernel
theorem dX1_walk_68 : decode cX1_walk 68 = .ok (.istore 6, 2) := by decide +kernel
theorem dX1_walk_70 : decode cX1_walk 70 = .ok (.iload 5, 2) := by decide +kernel
theorem dX1_walk_72 : decode cX1_walk 72 = .ok (.iload_n 1, 1) := by decide +kernel
theorem dX1_walk_73 : decode cX1_walk 73 = .ok (.isub, 1) := by decide +kernel
theorem dX1_walk_74 : decode cX1_walk 74 = .ok (.iload_n 2, 1) := by decide +kernel
theorem dX1_walk_75 : decode cX1_walk 75 = .ok (.iadd, 1) := by decide +kernel
theorem dX1_walk_76 : decode cX1_walk 76 = .ok (.iload 4, 2) := by decide +kernel
theorem dX1_walk_78 : decode cX1_walk 78 = .ok (.isub, 1) := by decide +kernel
theorem dX1_walk_79 : decode cX1_walk 79 = .ok (.istore 7, 2) := by decide +kernel
theorem dX1_walk_81 : decode cX1_walk 81 = .ok (.iload 5, 2) := by decide +kernel
theorem dX1_walk_83 : decode cX1_walk 83 = .ok (.iload 4, 2) := by decide +kernel
theorem dX1_walk_85 : decode cX1_walk 85 = .ok (.isub, 1) := by decide +kernel
theorem dX1_walk_86 : decode cX1_walk 86 = .ok (.iload 6, 2) := by decide +kernel
theorem dX1_walk_88 : decode cX1_walk 88 = .ok (.iload 7, 2) := by decide +kernel
theorem dX1_walk_90 : decode cX1_walk 90 = .ok (.invokestatic 57, 3) := by decide +kernel
theorem dX1_walk_93 : decode cX1_walk 93 = .ok (.iadd, 1) := by decide +kernel
theorem dX1_walk_94 : decode cX1_walk 94 = .ok (.ireturn, 1) := by decide +kernel
theorem dX1_uncover_0 : decode cX1_uncover 0 = .ok (.aload_n 0, 1) := by decide +kernel
theorem dX1_uncover_1 : decode cX1_uncover 1 = .ok (.aload_n 1, 1) := by decide +kernel
theorem dX1_uncover_2 : decode cX1_uncover 2 = .ok (.invokevirtual 63, 3) := by decide +kernel
theorem dX1_uncover_5 : decode cX1_uncover 5 = .ok (.aload_n 0, 1) := by decide +kernel
theorem dX1_uncover_6 : decode cX1_uncover 6 = .ok (.bipush (-6), 2) := by decide +kernel
theorem dX1_uncover_8 : decode cX1_uncover 8 = .ok (.putfield 19, 3) := by decide +kernel
theorem dX1_uncover_11 : decode cX1_uncover 11 = .ok (.aload_n 0, 1) := by decide +kernel
theorem dX1_uncover_12 : decode cX1_uncover 12 = .ok (.bipush (-6), 2) := by decide +kernel
theorem dX1_uncover_14 : decode cX1_uncover 14 = .ok (.putfield 23, 3) := by decide +kernel
theorem dX1_uncover_17 : decode cX1_uncover 17 = .ok (.iload_n 2, 1) := by decide +kernel
theorem dX1_uncover_18 : decode cX1_uncover 18 = .ok (.aload_n 1, 1) := by decide +kernel
theorem dX1_uncover_19 : decode cX1_uncover 19 = .ok (.getfield 66, 3) := by decide +kernel
theorem dX1_uncover_22 : decode cX1_uncover 22 = .ok (.iconst (-1), 1) := by decide +kernel
theorem dX1_uncover_23 : decode cX1_uncover 23 = .ok (.ixor, 1) := by decide +kernel
theorem dX1_uncover_24 : decode cX1_uncover 24 = .ok (.iand, 1) := by decide +kernel
theorem dX1_uncover_25 : decode cX1_uncover 25 = .ok (.istore_n 3, 1) := by decide +kernel
theorem dX1_uncover_26 : decode cX1_uncover 26 = .ok (.iconst 0, 1) := by decide +kernel
theorem dX1_uncover_27 : decode cX1_uncover 27 = .ok (.istore 4, 2) := by decide +kernel
theorem dX1_uncover_29 : decode cX1_uncover 29 = .ok (.iload 4, 2) := by decide +kernel
theorem dX1_uncover_31 : decode cX1_uncover 31 = .ok (.sipush 1024, 3) := by decide +kernel
theorem dX1_uncover_34 : decode cX1_uncover 34 = .ok (.if_icmp .ge 60, 3) := by decide +kernel
theorem dX1_uncover_37 : decode cX1_uncover 37 = .ok (.iload_n 3, 1) := by decide +kernel
theorem dX1_uncover_38 : decode cX1_uncover 38 = .ok (.aload_n 0, 1) := by decide +kernel
theorem dX1_uncover_39 : decode cX1_uncover 39 = .ok (.getfield 9, 3) := by decide +kernel
theorem dX1_uncover_42 : decode cX1_uncover 42 = .ok (.iload 4, 2) := by decide +kernel
theorem dX1_uncover_44 : decode cX1_uncover 44 = .ok (.iaload, 1) := by decide +kernel
theorem dX1_uncover_45 : decode cX1_uncover 45 = .ok (.iconst (-1), 1) := by decide +kernel
theorem dX1_uncover_46 : decode cX1_uncover 46 = .ok (.ixor, 1) := by decide +kernel
theorem dX1_uncover_47 : decode cX1_uncover 47 = .ok (.iand, 1) := by decide +kernel
theorem dX1_uncover_48 : decode cX1_uncover 48 = .ok (.ifCond .ne 40, 3) := by decide +kernel
theorem dX1_uncover_51 : decode cX1_uncover 51 = .ok (.iload 4, 2) := by decide +kernel
theorem dX1_uncover_53 : decode cX1_uncover 53 = .ok (.invokestatic 34, 3) := by decide +kernel
theorem dX1_uncover_56 : decode cX1_uncover 56 = .ok (.istore 5, 2) := by decide +kernel
theorem dX1_uncover_58 : decode cX1_uncover 58 = .ok (.aload_n 0, 1) := by decide +kernel
theorem dX1_uncover_59 : decode cX1_uncover 59 = .ok (.getfield 19, 3) := by decide +kernel
theorem dX1_uncover_62 : decode cX1_uncover 62 = .ok (.bipush (-6), 2) := by decide +kernel
theorem dX1_uncover_64 : decode cX1_uncover 64 = .ok (.if_icmp .eq 12, 3) := by decide +kernel
theorem dX1_uncover_67 : decode cX1_uncover 67 = .ok (.iload 5, 2) := by decide +kernel
theorem dX1_uncover_69 : decode cX1_uncover 69 = .ok (.aload_n 0, 1) := by decide +kernel
theorem dX1_uncover_70 : decode cX1_uncover 70 = .ok (.getfield 19, 3) := by decide +kernel
theorem dX1_uncover_73 : decode cX1_uncover 73 = .ok (.if_icmp .ge 15, 3) := by decide +kernel
theorem dX1_uncover_76 : decode cX1_uncover 76 = .ok (.aload_n 0, 1) := by decide +kernel
theorem dX1_uncover_77 : decode cX1_uncover 77 = .ok (.iload 5, 2) := by decide +kernel
theorem dX1_uncover_79 : decode cX1_uncover 79 = .ok (.putfield 19, 3) := by decide +kernel
theorem dX1_uncover_82 : decode cX1_uncover 82 = .ok (.aload_n 0, 1) := by decide +kernel
theorem dX1_uncover_83 : decode cX1_uncover 83 = .ok (.iload 4, 2) := by decide +kernel
theorem dX1_uncover_85 : decode cX1_uncover 85 = .ok (.putfield 23, 3) := by decide +kernel
theorem dX1_uncover_88 : decode cX1_uncover 88 = .ok (.iinc 4 1, 3) := by decide +kernel
theorem dX1_uncover_91 : decode cX1_uncover 91 = .ok (.goto (-62), 3) := by decide +kernel
theorem dX1_uncover_94 : decode cX1_uncover 94 = .ok (.return_, 1) := by decide +kernel
theorem dX1_joinThings_0 : decode cX1_joinThings 0 = .ok (.aload_n 0, 1) := by decide +kernel
theorem dX1_joinThings_1 : decode cX1_joinThings 1 = .ok (.getfield 9, 3) := by decide +kernel
theorem dX1_joinThings_4 : decode cX1_joinThings 4 = .ok (.iconst 0, 1) := by decide +kernel
theorem dX1_joinThings_5 : decode cX1_joinThings 5 = .ok (.iconst 0, 1) := by decide +kernel
theorem dX1_joinThings_6 : decode cX1_joinThings 6 = .ok (.iastore, 1) := by decide +kernel
theorem dX1_joinThings_7 : decode cX1_joinThings 7 = .ok (.iconst 0, 1) := by decide +kernel
theorem dX1_joinThings_8 : decode cX1_joinThings 8 = .ok (.istore_n 2, 1) := by decide +kernel
theorem dX1_joinThings_9 : decode cX1_joinThings 9 = .ok (.iload_n 2, 1) := by decide +kernel
theorem dX1_joinThings_10 : decode cX1_joinThings 10 = .ok (.bipush 10, 2) := by decide +kernel
theorem dX1_joinThings_12 : decode cX1_joinThings 12 = .ok (.if_icmp .ge 51, 3) := by decide +kernel
theorem dX1_joinThings_15 : decode cX1_joinThings 15 = .ok (.iconst 1, 1) := by decide +kernel
theorem dX1_joinThings_16 : decode cX1_joinThings 16 = .ok (.iload_n 2, 1) := by decide +kernel
theorem dX1_joinThings_17 : decode cX1_joinThings 17 = .ok (.ishl, 1) := by decide +kernel
theorem dX1_joinThings_18 : decode cX1_joinThings 18 = .ok (.istore_n 3, 1) := by decide +kernel
theorem dX1_joinThings_19 : decode cX1_joinThings 19 = .ok (.iconst 0, 1) := by decide +kernel
theorem dX1_joinThings_20 : decode cX1_joinThings 20 = .ok (.istore 4, 2) := by decide +kernel
theorem dX1_joinThings_22 : decode cX1_joinThings 22 = .ok (.iload 4, 2) := by decide +kernel
theorem dX1_joinThings_24 : decode cX1_joinThings 24 = .ok (.iload_n 3, 1) := by decide +kernel
theorem dX1_joinThings_25 : decode cX1_joinThings 25 = .ok (.if_icmp .ge 32, 3) := by decide +kernel
theorem dX1_joinThings_28 : decode cX1_joinThings 28 = .ok (.aload_n 0, 1) := by decide +kernel
theorem dX1_joinThings_29 : decode cX1_joinThings 29 = .ok (.getfield 9, 3) := by decide +kernel
theorem dX1_joinThings_32 : decode cX1_joinThings 32 = .ok (.iload_n 3, 1) := by decide +kernel
theorem dX1_joinThings_33 : decode cX1_joinThings 33 = .ok (.iload 4, 2) := by decide +kernel
theorem dX1_joinThings_35 : decode cX1_joinThings 35 = .ok (.ior, 1) := by decide +kernel
theorem dX1_joinThings_36 : decode cX1_joinThings 36 = .ok (.aload_n 0, 1) := by decide +kernel
theorem dX1_joinThings_37 : decode cX1_joinThings 37 = .ok (.getfield 9, 3) := by decide +kernel
theorem dX1_joinThings_40 : decode cX1_joinThings 40 = .ok (.iload 4, 2) := by decide +kernel
theorem dX1_joinThings_42 : decode cX1_joinThings 42 = .ok (.iaload, 1) := by decide +kernel
theorem dX1_joinThings_43 : decode cX1_joinThings 43 = .ok (.aload_n 1, 1) := by decide +kernel
theorem dX1_joinThings_44 : decode cX1_joinThings 44 = .ok (.getfield 69, 3) := by decide +kernel
theorem dX1_joinThings_47 : decode cX1_joinThings 47 = .ok (.iload_n 2, 1) := by decide +kernel
theorem dX1_joinThings_48 : decode cX1_joinThings 48 = .ok (.iaload, 1) := by decide +kernel
theorem dX1_joinThings_49 : decode cX1_joinThings 49 = .ok (.ior, 1) := by decide +kernel
theorem dX1_joinThings_50 : decode cX1_joinThings 50 = .ok (.iastore, 1) := by decide +kernel
theorem dX1_joinThings_51 : decode cX1_joinThings 51 = .ok (.iinc 4 1, 3) := by decide +kernel
theorem dX1_joinThings_54 : decode cX1_joinThings 54 = .ok (.goto (-32), 3) := by decide +kernel
theorem dX1_joinThings_57 : decode cX1_joinThings 57 = .ok (.iinc 2 1, 3) := by decide +kernel
theorem dX1_joinThings_60 : decode cX1_joinThings 60 = .ok (.goto (-51), 3) := by decide +kernel
theorem dX1_joinThings_63 : decode cX1_joinThings 63 = .ok (.return_, 1) := by decide +kernel
theorem dX2_init_0 : decode cX2_init 0 = .ok (.aload_n 0, 1) := by decide +kernel
theorem dX2_init_1 : decode cX2_init 1 = .ok (.invokespecial 3, 3) := by decide +kernel
theorem dX2_init_4 : decode cX2_init 4 = .ok (.aload_n 0, 1) := by decide +kernel
theorem dX2_init_5 : decode cX2_init 5 = .ok (.new 9, 3) := by decide +kernel
theorem dX2_init_8 : decode cX2_init 8 = .ok (.dup, 1) := by decide +kernel
theorem dX2_init_9 : decode cX2_init 9 = .ok (.invokespecial 11, 3) := by decide +kernel
theorem dX2_init_12 : decode cX2_init 12 = .ok (.putfield 12, 3) := by decide +kernel
theorem dX2_init_15 : decode cX2_init 15 = .ok (.return_, 1) := by decide +kernel
theorem dX2_play_0 : decode cX2_play 0 = .ok (.aload_n 0, 1) := by decide +kernel
theorem dX2_play_1 : decode cX2_play 1 = .ok (.getfield 12, 3) := by decide +kernel
theorem dX2_play_4 : decode cX2_play 4 = .ok (.aload_n 1, 1) := by decide +kernel
theorem dX2_play_5 : decode cX2_play 5 = .ok (.invokevirtual 18, 3) := by decide +kernel
theorem dX2_play_8 : decode cX2_play 8 = .ok (.aload_n 0, 1) := by decide +kernel
theorem dX2_play_9 : decode cX2_play 9 = .ok (.iconst 0, 1) := by decide +kernel
theorem dX2_play_10 : decode cX2_play 10 = .ok (.putfield 22, 3) := by decide +kernel
theorem dX2_play_13 : decode cX2_play 13 = .ok (.aload_n 0, 1) := by decide +kernel
theorem dX2_play_14 : decode cX2_play 14 = .ok (.bipush (-6), 2) := by decide +kernel
theorem dX2_play_16 : decode cX2_play 16 = .ok (.putfield 26, 3) := by decide +kernel
theorem dX2_play_19 : decode cX2_play 19 = .ok (.aload_n 0, 1) := by decide +kernel
theorem dX2_play_20 : decode cX2_play 20 = .ok (.bipush (-6), 2) := by decide +kernel
theorem dX2_play_22 : decode cX2_play 22 = .ok (.putfield 29, 3) := by decide +kernel
theorem dX2_play_25 : decode cX2_play 25 = .ok (.aload_n 0, 1) := by decide +kernel
theorem dX2_play_26 : decode cX2_play 26 = .ok (.iconst 0, 1) := by decide +kernel
theorem dX2_play_27 : decode cX2_play 27 = .ok (.putfield 32, 3) := by decide +kernel
theorem dX2_play_30 : decode cX2_play 30 = .ok (.aload_n 0, 1) := by decide +kernel
theorem dX2_play_31 : decode cX2_play 31 = .ok (.bipush (-6), 2) := by decide +kernel
theorem dX2_play_33 : decode cX2_play 33 = .ok (.putfield 35, 3) := by decide +kernel
theorem dX2_play_36 : decode cX2_play 36 = .ok (.aload_n 0, 1) := by decide +kernel
theorem dX2_play_37 : decode cX2_play 37 = .ok (.bipush (-6), 2) := by decide +kernel
theorem dX2_play_39 : decode cX2_play 39 = .ok (.putfield 38, 3) := by decide +kernel
theorem dX2_play_42 : decode cX2_play 42 = .ok (.iconst 0, 1) := by decide +kernel
theorem dX2_play_43 : decode cX2_play 43 = .ok (.istore_n 3, 1) := by decide +kernel
theorem dX2_play_44 : decode cX2_play 44 = .ok (.iload_n 3, 1) := by decide +kernel
theorem dX2_play_45 : decode cX2_play 45 = .ok (.aload_n 2, 1) := by decide +kernel
theorem dX2_play_46 : decode cX2_play 46 = .ok (.getfield 41, 3) := by decide +kernel
theorem dX2_play_49 : decode cX2_play 49 = .ok (.if_icmp .ge 37, 3) := by decide +kernel
theorem dX2_play_52 : decode cX2_play 52 = .ok (.aload_n 0, 1) := by decide +kernel
theorem dX2_play_53 : decode cX2_play 53 = .ok (.getfield 26, 3) := by decide +kernel
theorem dX2_play_56 : decode cX2_play 56 = .ok (.bipush (-6), 2) := by decide +kernel
theorem dX2_play_58 : decode cX2_play 58 = .ok (.if_icmp .ne 28, 3) := by decide +kernel
theorem dX2_play_61 : decode cX2_play 61 = .ok (.aload_n 0, 1) := by decide +kernel
theorem dX2_play_62 : decode cX2_play 62 = .ok (.aload_n 2, 1) := by decide +kernel
theorem dX2_play_63 : decode cX2_play 63 = .ok (.iload_n 3, 1) := by decide +kernel
theorem dX2_play_64 : decode cX2_play 64 = .ok (.invokevirtual 46, 3) := by decide +kernel
theorem dX2_play_67 : decode cX2_play 67 = .ok (.aload_n 2, 1) := by decide +kernel
theorem dX2_play_68 : decode cX2_play 68 = .ok (.iload_n 3, 1) := by decide +kernel
theorem dX2_play_69 : decode cX2_play 69 = .ok (.invokevirtual 50, 3) := by decide +kernel
theorem dX2_play_72 : decode cX2_play 72 = .ok (.invokevirtual 53, 3) := by decide +kernel
theorem dX2_play_75 : decode cX2_play 75 = .ok (.iload_n 3, 1) := by decide +kernel
theorem dX2_play_76 : decode cX2_play 76 = .ok (.aload_n 2, 1) := by decide +kernel
theorem dX2_play_77 : decode cX2_play 77 = .ok (.iload_n 3, 1) := by decide +kernel
theorem dX2_play_78 : decode cX2_play 78 = .ok (.invokevirtual 57, 3) := by decide +kernel
theorem dX2_play_81 : decode cX2_play 81 = .ok (.iadd, 1) := by decide +kernel
theorem dX2_play_82 : decode cX2_play 82 = .ok (.istore_n 3, 1) := by decide +kernel
theorem dX2_play_83 : decode cX2_play 83 = .ok (.goto (-39), 3) := by decide +kernel
theorem dX2_play_86 : decode cX2_play 86 = .ok (.return_, 1) := by decide +kernel
theorem dX2_playAct_0 : decode cX2_playAct 0 = .ok (.aload_n 0, 1) := by decide +kernel
theorem dX2_playAct_1 : decode cX2_playAct 1 = .ok (.getfield 12, 3) := by decide +kernel
theorem dX2_playAct_4 : decode cX2_playAct 4 = .ok (.iload_n 1, 1) := by decide +kernel
theorem dX2_playAct_5 : decode cX2_playAct 5 = .ok (.iload_n 2, 1) := by decide +kernel
theorem dX2_playAct_6 : decode cX2_playAct 6 = .ok (.invokevirtual 60, 3) := by decide +kernel
theorem dX2_playAct_9 : decode cX2_playAct 9 = .ok (.istore_n 3, 1) := by decide +kernel
theorem dX2_playAct_10 : decode cX2_playAct 10 = .ok (.iload_n 3, 1) := by decide +kernel
theorem dX2_playAct_11 : decode cX2_playAct 11 = .ok (.ifCond .eq 17, 3) := by decide +kernel
theorem dX2_playAct_14 : decode cX2_playAct 14 = .ok (.aload_n 0, 1) := by decide +kernel
theorem dX2_playAct_15 : decode cX2_playAct 15 = .ok (.aload_n 0, 1) := by decide +kernel
theorem dX2_playAct_16 : decode cX2_playAct 16 = .ok (.getfield 22, 3) := by decide +kernel
theorem dX2_playAct_19 : decode cX2_playAct 19 = .ok (.putfield 26, 3) := by decide +kernel
theorem dX2_playAct_22 : decode cX2_playAct 22 = .ok (.aload_n 0, 1) := by decide +kernel
theorem dX2_playAct_23 : decode cX2_playAct 23 = .ok (.iload_n 3, 1) := by decide +kernel
theorem dX2_playAct_24 : decode cX2_playAct 24 = .ok (.putfield 29, 3) := by decide +kernel
theorem dX2_playAct_27 : decode cX2_playAct 27 = .ok (.return_, 1) := by decide +kernel
theorem dX2_playAct_28 : decode cX2_playAct 28 = .ok (.iload_n 1, 1) := by decide +kernel
theorem dX2_playAct_29 : decode cX2_playAct 29 = .ok (.bipush 63, 2) := by decide +kernel
theorem dX2_playAct_31 : decode cX2_playAct 31 = .ok (.if_icmp .ne 21, 3) := by decide +kernel
theorem dX2_playAct_34 : decode cX2_playAct 34 = .ok (.aload_n 0, 1) := by decide +kernel
theorem dX2_playAct_35 : decode cX2_playAct 35 = .ok (.dup, 1) := by decide +kernel
theorem dX2_playAct_36 : decode cX2_playAct 36 = .ok (.getfield 32, 3) := by decide +kernel
theorem dX2_playAct_39 : decode cX2_playAct 39 = .ok (.iconst 1, 1) := by decide +kernel
theorem dX2_playAct_40 : decode cX2_playAct 40 = .ok (.aload_n 0, 1) := by decide +kernel
theorem dX2_playAct_41 : decode cX2_playAct 41 = .ok (.getfield 12, 3) := by decide +kernel
theorem dX2_playAct_44 : decode cX2_playAct 44 = .ok (.invokevirtual 64, 3) := by decide +kernel
theorem dX2_playAct_47 : decode cX2_playAct 47 = .ok (.ishl, 1) := by decide +kernel
theorem dX2_playAct_48 : decode cX2_playAct 48 = .ok (.ior, 1) := by decide +kernel
theorem dX2_playAct_49 : decode cX2_playAct 49 = .ok (.putfield 32, 3) := by decide +kernel
theorem dX2_playAct_52 : decode cX2_playAct 52 = .ok (.iload_n 1, 1) := by decide +kernel
theorem dX2_playAct_53 : decode cX2_playAct 53 = .ok (.bipush 61, 2) := by decide +kernel
theorem dX2_playAct_55 : decode cX2_playAct 55 = .ok (.if_icmp .ne 38, 3) := by decide +kernel
theorem dX2_playAct_58 : decode cX2_playAct 58 = .ok (.aload_n 0, 1) := by decide +kernel
theorem dX2_playAct_59 : decode cX2_playAct 59 = .ok (.getfield 35, 3) := by decide +kernel
theorem dX2_playAct_62 : decode cX2_playAct 62 = .ok (.bipush (-6), 2) := by decide +kernel
theorem dX2_playAct_64 : decode cX2_playAct 64 = .ok (.if_icmp .ne 29, 3) := by decide +kernel
theorem dX2_playAct_67 : decode cX2_playAct 67 = .ok (.aload_n 0, 1) := by decide +kernel
theorem dX2_playAct_68 : decode cX2_playAct 68 = .ok (.aload_n 0, 1) := by decide +kernel
theorem dX2_playAct_69 : decode cX2_playAct 69 = .ok (.getfield 12, 3) := by decide +kernel
theorem dX2_playAct_72 : decode cX2_playAct 72 = .ok (.getfield 68, 3) := by decide +kernel
theorem dX2_playAct_75 : decode cX2_playAct 75 = .ok (.iload_n 2, 1) := by decide +kernel
theorem dX2_playAct_76 : decode cX2_playAct 76 = .ok (.invokestatic 71, 3) := by decide +kernel
theorem dX2_playAct_79 : decode cX2_playAct 79 = .ok (.aload_n 0, 1) := by decide +kernel
theorem dX2_playAct_80 : decode cX2_playAct 80 = .ok (.getfield 12, 3) := by decide +kernel
theorem dX2_playAct_83 : decode cX2_playAct 83 = .ok (.getfield 68, 3) := by decide +kernel
theorem dX2_playAct_86 : decode cX2_playAct 86 = .ok (.iload_n 2, 1) := by decide +kernel
theorem dX2_playAct_87 : decode cX2_playAct 87 = .ok (.invokestatic 76, 3) := by decide +kernel
theorem dX2_playAct_90 : decode cX2_playAct 90 = .ok (.invokevirtual 79, 3) := by decide +kernel
theorem dX2_playAct_93 : decode cX2_playAct 93 = .ok (.aload_n 0, 1) := by decide +kernel
theorem dX2_playAct_94 : decode cX2_playAct 94 = .ok (.getfield 12, 3) := by decide +kernel
theorem dX2_playAct_97 : decode cX2_playAct 97 = .ok (.iload_n 1, 1) := by decide +kernel
theorem dX2_playAct_98 : decode cX2_playAct 98 = .ok (.iload_n 2, 1) := by decide +kernel
theorem dX2_playAct_99 : decode cX2_playAct 99 = .ok (.invokevirtual 82, 3) := by decide +kernel
theorem dX2_playAct_102 : decode cX2_playAct 102 = .ok (.aload_n 0, 1) := by decide +kernel
theorem dX2_playAct_103 : decode cX2_playAct 103 = .ok (.dup, 1) := by decide +kernel
theorem dX2_playAct_104 : decode cX2_playAct 104 = .ok (.getfield 22, 3) := by decide +kernel
theorem dX2_playAct_107 : decode cX2_playAct 107 = .ok (.iconst 1, 1) := by decide +kernel
theorem dX2_playAct_108 : decode cX2_playAct 108 = .ok (.iadd, 1) := by decide +kernel
theorem dX2_playAct_109 : decode cX2_playAct 109 = .ok (.putfield 22, 3) := by decide +kernel
theorem dX2_playAct_112 : decode cX2_playAct 112 = .ok (.return_, 1) := by decide +kernel
theorem dX2_noteLoss_0 : decode cX2_noteLoss 0 = .ok (.aload_n 0, 1) := by decide +kernel
theorem dX2_noteLoss_1 : decode cX2_noteLoss 1 = .ok (.getfield 12, 3) := by decide +kernel
theorem dX2_noteLoss_4 : decode cX2_noteLoss 4 = .ok (.getfield 85, 3) := by decide +kernel
theorem dX2_noteLoss_7 : decode cX2_noteLoss 7 = .ok (.iload_n 1, 1) := by decide +kernel
theorem dX2_noteLoss_8 : decode cX2_noteLoss 8 = .ok (.iaload, 1) := by decide +kernel
theorem dX2_noteLoss_9 : decode cX2_noteLoss 9 = .ok (.iload_n 1, 1) := by decide +kernel
theorem dX2_noteLoss_10 : decode cX2_noteLoss 10 = .ok (.if_icmp .ne 19, 3) := by decide +kernel
theorem dX2_noteLoss_13 : decode cX2_noteLoss 13 = .ok (.aload_n 0, 1) := by decide +kernel
theorem dX2_noteLoss_14 : decode cX2_noteLoss 14 = .ok (.aload_n 0, 1) := by decide +kernel
theorem dX2_noteLoss_15 : decode cX2_noteLoss 15 = .ok (.getfield 22, 3) := by decide +kernel
theorem dX2_noteLoss_18 : decode cX2_noteLoss 18 = .ok (.putfield 35, 3) := by decide +kernel
theorem dX2_noteLoss_21 : decode cX2_noteLoss 21 = .ok (.aload_n 0, 1) := by decide +kernel
theorem dX2_noteLoss_22 : decode cX2_noteLoss 22 = .ok (.iload_n 1, 1) := by decide +kernel
theorem dX2_noteLoss_23 : decode cX2_noteLoss 23 = .ok (.putfield 38, 3) := by decide +kernel
theorem dX2_noteLoss_26 : decode cX2_noteLoss 26 = .ok (.goto 29, 3) := by decide +kernel
theorem dX2_noteLoss_29 : decode cX2_noteLoss 29 = .ok (.aload_n 0, 1) := by decide +kernel
theorem dX2_noteLoss_30 : decode cX2_noteLoss 30 = .ok (.getfield 12, 3) := by decide +kernel
theorem dX2_noteLoss_33 : decode cX2_noteLoss 33 = .ok (.getfield 85, 3) := by decide +kernel
theorem dX2_noteLoss_36 : decode cX2_noteLoss 36 = .ok (.iload_n 2, 1) := by decide +kernel
theorem dX2_noteLoss_37 : decode cX2_noteLoss 37 = .ok (.iaload, 1) := by decide +kernel
theorem dX2_noteLoss_38 : decode cX2_noteLoss 38 = .ok (.iload_n 2, 1) := by decide +kernel
theorem dX2_noteLoss_39 : decode cX2_noteLoss 39 = .ok (.if_icmp .ne 16, 3) := by decide +kernel
theorem dX2_noteLoss_42 : decode cX2_noteLoss 42 = .ok (.aload_n 0, 1) := by decide +kernel
theorem dX2_noteLoss_43 : decode cX2_noteLoss 43 = .ok (.aload_n 0, 1) := by decide +kernel
theorem dX2_noteLoss_44 : decode cX2_noteLoss 44 = .ok (.getfield 22, 3) := by decide +kernel
theorem dX2_noteLoss_47 : decode cX2_noteLoss 47 = .ok (.putfield 35, 3) := by decide +kernel
theorem dX2_noteLoss_50 : decode cX2_noteLoss 50 = .ok (.aload_n 0, 1) := by decide +kernel
theorem dX2_noteLoss_51 : decode cX2_noteLoss 51 = .ok (.iload_n 2, 1) := by decide +kernel
theorem dX2_noteLoss_52 : decode cX2_noteLoss 52 = .ok (.putfield 38, 3) := by decide +kernel
theorem dX2_noteLoss_55 : decode cX2_noteLoss 55 = .ok (.return_, 1) := by decide +kernel
end
section
theorem dX2_draw_0 : decode cX2_draw 0 = .ok (.aload_n 0, 1) := by decide +kernel
theorem dX2_draw_1 : decode cX2_draw 1 = .ok (.getfield 12, 3) := by decide +kernel
theorem dX2_draw_4 : decode cX2_draw 4 = .ok (.aload_n 1, 1) := by decide +kernel
theorem dX2_draw_5 : decode cX2_draw 5 = .ok (.invokevirtual 18, 3) := by decide +kernel
theorem dX2_draw_8 : decode cX2_draw 8 = .ok (.iload_n 2, 1) := by decide +kernel
theorem dX2_draw_9 : decode cX2_draw 9 = .ok (.istore 4, 2) := by decide +kernel
theorem dX2_draw_11 : decode cX2_draw 11 = .ok (.iconst 0, 1) := by decide +kernel
theorem dX2_draw_12 : decode cX2_draw 12 = .ok (.istore 5, 2) := by decide +kernel
theorem dX2_draw_14 : decode cX2_draw 14 = .ok (.iload 5, 2) := by decide +kernel
theorem dX2_draw_16 : decode cX2_draw 16 = .ok (.iload_n 3, 1) := by decide +kernel
theorem dX2_draw_17 : decode cX2_draw 17 = .ok (.if_icmp .ge 94, 3) := by decide +kernel
theorem dX2_draw_20 : decode cX2_draw 20 = .ok (.bipush 75, 2) := by decide +kernel
theorem dX2_draw_22 : decode cX2_draw 22 = .ok (.iload 4, 2) := by decide +kernel
theorem dX2_draw_24 : decode cX2_draw 24 = .ok (.imul, 1) := by decide +kernel
theorem dX2_draw_25 : decode cX2_draw 25 = .ok (.bipush 74, 2) := by decide +kernel
theorem dX2_draw_27 : decode cX2_draw 27 = .ok (.iadd, 1) := by decide +kernel
theorem dX2_draw_28 : decode cX2_draw 28 = .ok (.ldc 89, 2) := by decide +kernel
theorem dX2_draw_30 : decode cX2_draw 30 = .ok (.irem, 1) := by decide +kernel
theorem dX2_draw_31 : decode cX2_draw 31 = .ok (.istore 4, 2) := by decide +kernel
theorem dX2_draw_33 : decode cX2_draw 33 = .ok (.getstatic 90, 3) := by decide +kernel
theorem dX2_draw_36 : decode cX2_draw 36 = .ok (.iload 4, 2) := by decide +kernel
theorem dX2_draw_38 : decode cX2_draw 38 = .ok (.bipush 8, 2) := by decide +kernel
theorem dX2_draw_40 : decode cX2_draw 40 = .ok (.irem, 1) := by decide +kernel
theorem dX2_draw_41 : decode cX2_draw 41 = .ok (.iaload, 1) := by decide +kernel
theorem dX2_draw_42 : decode cX2_draw 42 = .ok (.istore 6, 2) := by decide +kernel
theorem dX2_draw_44 : decode cX2_draw 44 = .ok (.iload 4, 2) := by decide +kernel
theorem dX2_draw_46 : decode cX2_draw 46 = .ok (.bipush 8, 2) := by decide +kernel
theorem dX2_draw_48 : decode cX2_draw 48 = .ok (.idiv, 1) := by decide +kernel
theorem dX2_draw_49 : decode cX2_draw 49 = .ok (.istore 7, 2) := by decide +kernel
theorem dX2_draw_51 : decode cX2_draw 51 = .ok (.iload 6, 2) := by decide +kernel
theorem dX2_draw_53 : decode cX2_draw 53 = .ok (.bipush 43, 2) := by decide +kernel
theorem dX2_draw_55 : decode cX2_draw 55 = .ok (.if_icmp .eq 10, 3) := by decide +kernel
theorem dX2_draw_58 : decode cX2_draw 58 = .ok (.iload 6, 2) := by decide +kernel
theorem dX2_draw_60 : decode cX2_draw 60 = .ok (.bipush 45, 2) := by decide +kernel
theorem dX2_draw_62 : decode cX2_draw 62 = .ok (.if_icmp .ne 11, 3) := by decide +kernel
theorem dX2_draw_65 : decode cX2_draw 65 = .ok (.iload 7, 2) := by decide +kernel
theorem dX2_draw_67 : decode cX2_draw 67 = .ok (.bipush 8, 2) := by decide +kernel
theorem dX2_draw_69 : decode cX2_draw 69 = .ok (.irem, 1) := by decide +kernel
theorem dX2_draw_70 : decode cX2_draw 70 = .ok (.goto 8, 3) := by decide +kernel
theorem dX2_draw_73 : decode cX2_draw 73 = .ok (.iload 7, 2) := by decide +kernel
theorem dX2_draw_75 : decode cX2_draw 75 = .ok (.bipush 10, 2) := by decide +kernel
theorem dX2_draw_77 : decode cX2_draw 77 = .ok (.irem, 1) := by decide +kernel
theorem dX2_draw_78 : decode cX2_draw 78 = .ok (.istore 8, 2) := by decide +kernel
theorem dX2_draw_80 : decode cX2_draw 80 = .ok (.aload_n 0, 1) := by decide +kernel
theorem dX2_draw_81 : decode cX2_draw 81 = .ok (.getfield 12, 3) := by decide +kernel
theorem dX2_draw_84 : decode cX2_draw 84 = .ok (.iload 6, 2) := by decide +kernel
theorem dX2_draw_86 : decode cX2_draw 86 = .ok (.iload 8, 2) := by decide +kernel
theorem dX2_draw_88 : decode cX2_draw 88 = .ok (.invokevirtual 60, 3) := by decide +kernel
theorem dX2_draw_91 : decode cX2_draw 91 = .ok (.ifCond .ne 14, 3) := by decide +kernel
theorem dX2_draw_94 : decode cX2_draw 94 = .ok (.aload_n 0, 1) := by decide +kernel
theorem dX2_draw_95 : decode cX2_draw 95 = .ok (.getfield 12, 3) := by decide +kernel
theorem dX2_draw_98 : decode cX2_draw 98 = .ok (.iload 6, 2) := by decide +kernel
theorem dX2_draw_100 : decode cX2_draw 100 = .ok (.iload 8, 2) := by decide +kernel
theorem dX2_draw_102 : decode cX2_draw 102 = .ok (.invokevirtual 82, 3) := by decide +kernel
theorem dX2_draw_105 : decode cX2_draw 105 = .ok (.iinc 5 1, 3) := by decide +kernel
theorem dX2_draw_108 : decode cX2_draw 108 = .ok (.goto (-94), 3) := by decide +kernel
theorem dX2_draw_111 : decode cX2_draw 111 = .ok (.return_, 1) := by decide +kernel
theorem dX3_init_0 : decode cX3_init 0 = .ok (.aload_n 0, 1) := by decide +kernel
theorem dX3_init_1 : decode cX3_init 1 = .ok (.invokespecial 1, 3) := by decide +kernel
theorem dX3_init_4 : decode cX3_init 4 = .ok (.aload_n 0, 1) := by decide +kernel
theorem dX3_init_5 : decode cX3_init 5 = .ok (.bipush 6, 2) := by decide +kernel
theorem dX3_init_7 : decode cX3_init 7 = .ok (.newarray .int, 2) := by decide +kernel
theorem dX3_init_9 : decode cX3_init 9 = .ok (.putfield 7, 3) := by decide +kernel
theorem dX3_init_12 : decode cX3_init 12 = .ok (.return_, 1) := by decide +kernel
theorem dX3_hang_0 : decode cX3_hang 0 = .ok (.iload_n 1, 1) := by decide +kernel
theorem dX3_hang_1 : decode cX3_hang 1 = .ok (.istore_n 2, 1) := by decide +kernel
theorem dX3_hang_2 : decode cX3_hang 2 = .ok (.iconst 0, 1) := by decide +kernel
theorem dX3_hang_3 : decode cX3_hang 3 = .ok (.istore_n 3, 1) := by decide +kernel
theorem dX3_hang_4 : decode cX3_hang 4 = .ok (.aload_n 0, 1) := by decide +kernel
theorem dX3_hang_5 : decode cX3_hang 5 = .ok (.getfield 7, 3) := by decide +kernel
theorem dX3_hang_8 : decode cX3_hang 8 = .ok (.arraylength, 1) := by decide +kernel
theorem dX3_hang_9 : decode cX3_hang 9 = .ok (.iconst 1, 1) := by decide +kernel
theorem dX3_hang_10 : decode cX3_hang 10 = .ok (.isub, 1) := by decide +kernel
theorem dX3_hang_11 : decode cX3_hang 11 = .ok (.istore 4, 2) := by decide +kernel
theorem dX3_hang_13 : decode cX3_hang 13 = .ok (.iload 4, 2) := by decide +kernel
theorem dX3_hang_15 : decode cX3_hang 15 = .ok (.ifCond .lt 63, 3) := by decide +kernel
theorem dX3_hang_18 : decode cX3_hang 18 = .ok (.iload_n 2, 1) := by decide +kernel
theorem dX3_hang_19 : decode cX3_hang 19 = .ok (.bipush 10, 2) := by decide +kernel
theorem dX3_hang_21 : decode cX3_hang 21 = .ok (.irem, 1) := by decide +kernel
theorem dX3_hang_22 : decode cX3_hang 22 = .ok (.istore 5, 2) := by decide +kernel
theorem dX3_hang_24 : decode cX3_hang 24 = .ok (.iload 5, 2) := by decide +kernel
theorem dX3_hang_26 : decode cX3_hang 26 = .ok (.iconst 0, 1) := by decide +kernel
theorem dX3_hang_27 : decode cX3_hang 27 = .ok (.aload_n 0, 1) := by decide +kernel
theorem dX3_hang_28 : decode cX3_hang 28 = .ok (.getfield 7, 3) := by decide +kernel
theorem dX3_hang_31 : decode cX3_hang 31 = .ok (.arraylength, 1) := by decide +kernel
theorem dX3_hang_32 : decode cX3_hang 32 = .ok (.iconst 1, 1) := by decide +kernel
theorem dX3_hang_33 : decode cX3_hang 33 = .ok (.isub, 1) := by decide +kernel
theorem dX3_hang_34 : decode cX3_hang 34 = .ok (.invokestatic 13, 3) := by decide +kernel
theorem dX3_hang_37 : decode cX3_hang 37 = .ok (.ifCond .eq 12, 3) := by decide +kernel
theorem dX3_hang_40 : decode cX3_hang 40 = .ok (.iload_n 3, 1) := by decide +kernel
theorem dX3_hang_41 : decode cX3_hang 41 = .ok (.iload 5, 2) := by decide +kernel
theorem dX3_hang_43 : decode cX3_hang 43 = .ok (.invokestatic 19, 3) := by decide +kernel
theorem dX3_hang_46 : decode cX3_hang 46 = .ok (.ifCond .eq 5, 3) := by decide +kernel
theorem dX3_hang_49 : decode cX3_hang 49 = .ok (.iconst 0, 1) := by decide +kernel
theorem dX3_hang_50 : decode cX3_hang 50 = .ok (.ireturn, 1) := by decide +kernel
theorem dX3_hang_51 : decode cX3_hang 51 = .ok (.iload_n 3, 1) := by decide +kernel
theorem dX3_hang_52 : decode cX3_hang 52 = .ok (.iconst 1, 1) := by decide +kernel
theorem dX3_hang_53 : decode cX3_hang 53 = .ok (.iload 5, 2) := by decide +kernel
theorem dX3_hang_55 : decode cX3_hang 55 = .ok (.ishl, 1) := by decide +kernel
theorem dX3_hang_56 : decode cX3_hang 56 = .ok (.ior, 1) := by decide +kernel
theorem dX3_hang_57 : decode cX3_hang 57 = .ok (.istore_n 3, 1) := by decide +kernel
theorem dX3_hang_58 : decode cX3_hang 58 = .ok (.aload_n 0, 1) := by decide +kernel
theorem dX3_hang_59 : decode cX3_hang 59 = .ok (.getfield 7, 3) := by decide +kernel
theorem dX3_hang_62 : decode cX3_hang 62 = .ok (.iload 4, 2) := by decide +kernel
theorem dX3_hang_64 : decode cX3_hang 64 = .ok (.iload 5, 2) := by decide +kernel
theorem dX3_hang_66 : decode cX3_hang 66 = .ok (.iastore, 1) := by decide +kernel
theorem dX3_hang_67 : decode cX3_hang 67 = .ok (.iload_n 2, 1) := by decide +kernel
theorem dX3_hang_68 : decode cX3_hang 68 = .ok (.bipush 10, 2) := by decide +kernel
theorem dX3_hang_70 : decode cX3_hang 70 = .ok (.idiv, 1) := by decide +kernel
theorem dX3_hang_71 : decode cX3_hang 71 = .ok (.istore_n 2, 1) := by decide +kernel
theorem dX3_hang_72 : decode cX3_hang 72 = .ok (.iinc 4 (-1), 3) := by decide +kernel
theorem dX3_hang_75 : decode cX3_hang 75 = .ok (.goto (-62), 3) := by decide +kernel
theorem dX3_hang_78 : decode cX3_hang 78 = .ok (.iload_n 2, 1) := by decide +kernel
theorem dX3_hang_79 : decode cX3_hang 79 = .ok (.ifCond .ne 7, 3) := by decide +kernel
theorem dX3_hang_82 : decode cX3_hang 82 = .ok (.iconst 1, 1) := by decide +kernel
theorem dX3_hang_83 : decode cX3_hang 83 = .ok (.goto 4, 3) := by decide +kernel
theorem dX3_hang_86 : decode cX3_hang 86 = .ok (.iconst 0, 1) := by decide +kernel
theorem dX3_hang_87 : decode cX3_hang 87 = .ok (.ireturn, 1) := by decide +kernel
theorem dX3_follow_0 : decode cX3_follow 0 = .ok (.aload_n 0, 1) := by decide +kernel
theorem dX3_follow_1 : decode cX3_follow 1 = .ok (.iconst 0, 1) := by decide +kernel
theorem dX3_follow_2 : decode cX3_follow 2 = .ok (.putfield 23, 3) := by decide +kernel
theorem dX3_follow_5 : decode cX3_follow 5 = .ok (.aload_n 0, 1) := by decide +kernel
theorem dX3_follow_6 : decode cX3_follow 6 = .ok (.iconst 1, 1) := by decide +kernel
theorem dX3_follow_7 : decode cX3_follow 7 = .ok (.putfield 27, 3) := by decide +kernel
theorem dX3_follow_10 : decode cX3_follow 10 = .ok (.iconst 0, 1) := by decide +kernel
theorem dX3_follow_11 : decode cX3_follow 11 = .ok (.istore_n 1, 1) := by decide +kernel
theorem dX3_follow_12 : decode cX3_follow 12 = .ok (.iconst 0, 1) := by decide +kernel
theorem dX3_follow_13 : decode cX3_follow 13 = .ok (.istore_n 2, 1) := by decide +kernel
theorem dX3_follow_14 : decode cX3_follow 14 = .ok (.iload_n 2, 1) := by decide +kernel
theorem dX3_follow_15 : decode cX3_follow 15 = .ok (.aload_n 0, 1) := by decide +kernel
theorem dX3_follow_16 : decode cX3_follow 16 = .ok (.getfield 7, 3) := by decide +kernel
theorem dX3_follow_19 : decode cX3_follow 19 = .ok (.arraylength, 1) := by decide +kernel
theorem dX3_follow_20 : decode cX3_follow 20 = .ok (.if_icmp .ge 82, 3) := by decide +kernel
theorem dX3_follow_23 : decode cX3_follow 23 = .ok (.iconst 0, 1) := by decide +kernel
theorem dX3_follow_24 : decode cX3_follow 24 = .ok (.istore_n 3, 1) := by decide +kernel
theorem dX3_follow_25 : decode cX3_follow 25 = .ok (.iload_n 2, 1) := by decide +kernel
theorem dX3_follow_26 : decode cX3_follow 26 = .ok (.istore 4, 2) := by decide +kernel
theorem dX3_follow_28 : decode cX3_follow 28 = .ok (.iload_n 3, 1) := by decide +kernel
theorem dX3_follow_29 : decode cX3_follow 29 = .ok (.aload_n 0, 1) := by decide +kernel
theorem dX3_follow_30 : decode cX3_follow 30 = .ok (.getfield 7, 3) := by decide +kernel
theorem dX3_follow_33 : decode cX3_follow 33 = .ok (.arraylength, 1) := by decide +kernel
theorem dX3_follow_34 : decode cX3_follow 34 = .ok (.if_icmp .ge 34, 3) := by decide +kernel
theorem dX3_follow_37 : decode cX3_follow 37 = .ok (.iload_n 1, 1) := by decide +kernel
theorem dX3_follow_38 : decode cX3_follow 38 = .ok (.iload 4, 2) := by decide +kernel
theorem dX3_follow_40 : decode cX3_follow 40 = .ok (.invokestatic 19, 3) := by decide +kernel
theorem dX3_follow_43 : decode cX3_follow 43 = .ok (.ifCond .ne 25, 3) := by decide +kernel
theorem dX3_follow_46 : decode cX3_follow 46 = .ok (.iload_n 1, 1) := by decide +kernel
theorem dX3_follow_47 : decode cX3_follow 47 = .ok (.iconst 1, 1) := by decide +kernel
theorem dX3_follow_48 : decode cX3_follow 48 = .ok (.iload 4, 2) := by decide +kernel
theorem dX3_follow_50 : decode cX3_follow 50 = .ok (.ishl, 1) := by decide +kernel
theorem dX3_follow_51 : decode cX3_follow 51 = .ok (.ior, 1) := by decide +kernel
theorem dX3_follow_52 : decode cX3_follow 52 = .ok (.istore_n 1, 1) := by decide +kernel
theorem dX3_follow_53 : decode cX3_follow 53 = .ok (.aload_n 0, 1) := by decide +kernel
theorem dX3_follow_54 : decode cX3_follow 54 = .ok (.getfield 7, 3) := by decide +kernel
theorem dX3_follow_57 : decode cX3_follow 57 = .ok (.iload 4, 2) := by decide +kernel
theorem dX3_follow_59 : decode cX3_follow 59 = .ok (.iaload, 1) := by decide +kernel
theorem dX3_follow_60 : decode cX3_follow 60 = .ok (.istore 4, 2) := by decide +kernel
theorem dX3_follow_62 : decode cX3_follow 62 = .ok (.iinc 3 1, 3) := by decide +kernel
theorem dX3_follow_65 : decode cX3_follow 65 = .ok (.goto (-37), 3) := by decide +kernel
theorem dX3_follow_68 : decode cX3_follow 68 = .ok (.iload_n 3, 1) := by decide +kernel
theorem dX3_follow_69 : decode cX3_follow 69 = .ok (.ifCond .le 27, 3) := by decide +kernel
theorem dX3_follow_72 : decode cX3_follow 72 = .ok (.aload_n 0, 1) := by decide +kernel
theorem dX3_follow_73 : decode cX3_follow 73 = .ok (.dup, 1) := by decide +kernel
theorem dX3_follow_74 : decode cX3_follow 74 = .ok (.getfield 23, 3) := by decide +kernel
theorem dX3_follow_77 : decode cX3_follow 77 = .ok (.iload_n 3, 1) := by decide +kernel
theorem dX3_follow_78 : decode cX3_follow 78 = .ok (.iconst 1, 1) := by decide +kernel
theorem dX3_follow_79 : decode cX3_follow 79 = .ok (.isub, 1) := by decide +kernel
theorem dX3_follow_80 : decode cX3_follow 80 = .ok (.iadd, 1) := by decide +kernel
theorem dX3_follow_81 : decode cX3_follow 81 = .ok (.putfield 23, 3) := by decide +kernel
theorem dX3_follow_84 : decode cX3_follow 84 = .ok (.aload_n 0, 1) := by decide +kernel
theorem dX3_follow_85 : decode cX3_follow 85 = .ok (.aload_n 0, 1) := by decide +kernel
theorem dX3_follow_86 : decode cX3_follow 86 = .ok (.getfield 27, 3) := by decide +kernel
theorem dX3_follow_89 : decode cX3_follow 89 = .ok (.iload_n 3, 1) := by decide +kernel
theorem dX3_follow_90 : decode cX3_follow 90 = .ok (.invokestatic 30, 3) := by decide +kernel
theorem dX3_follow_93 : decode cX3_follow 93 = .ok (.putfield 27, 3) := by decide +kernel
theorem dX3_follow_96 : decode cX3_follow 96 = .ok (.iinc 2 1, 3) := by decide +kernel
theorem dX3_follow_99 : decode cX3_follow 99 = .ok (.goto (-85), 3) := by decide +kernel
theorem dX3_follow_102 : decode cX3_follow 102 = .ok (.return_, 1) := by decide +kernel
theorem dX3_leastMultiple_0 : decode cX3_leastMultiple 0 = .ok (.iload_n 0, 1) := by decide +kernel
theorem dX3_leastMultiple_1 : decode cX3_leastMultiple 1 = .ok (.istore_n 2, 1) := by decide +kernel
theorem dX3_leastMultiple_2 : decode cX3_leastMultiple 2 = .ok (.iconst 1, 1) := by decide +kernel
theorem dX3_leastMultiple_3 : decode cX3_leastMultiple 3 = .ok (.istore_n 3, 1) := by decide +kernel
theorem dX3_leastMultiple_4 : decode cX3_leastMultiple 4 = .ok (.iload_n 3, 1) := by decide +kernel
theorem dX3_leastMultiple_5 : decode cX3_leastMultiple 5 = .ok (.iload_n 1, 1) := by decide +kernel
theorem dX3_leastMultiple_6 : decode cX3_leastMultiple 6 = .ok (.if_icmp .ge 19, 3) := by decide +kernel
theorem dX3_leastMultiple_9 : decode cX3_leastMultiple 9 = .ok (.iload_n 2, 1) := by decide +kernel
theorem dX3_leastMultiple_10 : decode cX3_leastMultiple 10 = .ok (.iload_n 1, 1) := by decide +kernel
theorem dX3_leastMultiple_11 : decode cX3_leastMultiple 11 = .ok (.irem, 1) := by decide +kernel
theorem dX3_leastMultiple_12 : decode cX3_leastMultiple 12 = .ok (.ifCond .eq 13, 3) := by decide +kernel
theorem dX3_leastMultiple_15 : decode cX3_leastMultiple 15 = .ok (.iload_n 2, 1) := by decide +kernel
theorem dX3_leastMultiple_16 : decode cX3_leastMultiple 16 = .ok (.iload_n 0, 1) := by decide +kernel
theorem dX3_leastMultiple_17 : decode cX3_leastMultiple 17 = .ok (.iadd, 1) := by decide +kernel
theorem dX3_leastMultiple_18 : decode cX3_leastMultiple 18 = .ok (.istore_n 2, 1) := by decide +kernel
theorem dX3_leastMultiple_19 : decode cX3_leastMultiple 19 = .ok (.iinc 3 1, 3) := by decide +kernel
theorem dX3_leastMultiple_22 : decode cX3_leastMultiple 22 = .ok (.goto (-18), 3) := by decide +kernel
theorem dX3_leastMultiple_25 : decode cX3_leastMultiple 25 = .ok (.iload_n 2, 1) := by decide +kernel
theorem dX3_leastMultiple_26 : decode cX3_leastMultiple 26 = .ok (.ireturn, 1) := by decide +kernel
theorem dX4_init_0 : decode cX4_init 0 = .ok (.aload_n 0, 1) := by decide +kernel
theorem dX4_init_1 : decode cX4_init 1 = .ok (.invokespecial 1, 3) := by decide +kernel
theorem dX4_init_4 : decode cX4_init 4 = .ok (.aload_n 0, 1) := by decide +kernel
theorem dX4_init_5 : decode cX4_init 5 = .ok (.new 7, 3) := by decide +kernel
theorem dX4_init_8 : decode cX4_init 8 = .ok (.dup, 1) := by decide +kernel
theorem dX4_init_9 : decode cX4_init 9 = .ok (.invokespecial 9, 3) := by decide +kernel
theorem dX4_init_12 : decode cX4_init 12 = .ok (.putfield 10, 3) := by decide +kernel
theorem dX4_init_15 : decode cX4_init 15 = .ok (.aload_n 0, 1) := by decide +kernel
theorem dX4_init_16 : decode cX4_init 16 = .ok (.new 16, 3) := by decide +kernel
theorem dX4_init_19 : decode cX4_init 19 = .ok (.dup, 1) := by decide +kernel
theorem dX4_init_20 : decode cX4_init 20 = .ok (.invokespecial 18, 3) := by decide +kernel
theorem dX4_init_23 : decode cX4_init 23 = .ok (.putfield 19, 3) := by decide +kernel
theorem dX4_init_26 : decode cX4_init 26 = .ok (.return_, 1) := by decide +kernel
theorem dX5_init_0 : decode cX5_init 0 = .ok (.aload_n 0, 1) := by decide +kernel
theorem dX5_init_1 : decode cX5_init 1 = .ok (.invokespecial 3, 3) := by decide +kernel
theorem dX5_init_4 : decode cX5_init 4 = .ok (.aload_n 0, 1) := by decide +kernel
theorem dX5_init_5 : decode cX5_init 5 = .ok (.bipush 64, 2) := by decide +kernel
theorem dX5_init_7 : decode cX5_init 7 = .ok (.newarray .int, 2) := by decide +kernel
theorem dX5_init_9 : decode cX5_init 9 = .ok (.putfield 9, 3) := by decide +kernel
theorem dX5_init_12 : decode cX5_init 12 = .ok (.aload_n 0, 1) := by decide +kernel
theorem dX5_init_13 : decode cX5_init 13 = .ok (.bipush 8, 2) := by decide +kernel
theorem dX5_init_15 : decode cX5_init 15 = .ok (.newarray .int, 2) := by decide +kernel
theorem dX5_init_17 : decode cX5_init 17 = .ok (.putfield 15, 3) := by decide +kernel
theorem dX5_init_20 : decode cX5_init 20 = .ok (.return_, 1) := by decide +kernel
theorem dX5_gather_0 : decode cX5_gather 0 = .ok (.aload_n 0, 1) := by decide +kernel
theorem dX5_gather_1 : decode cX5_gather 1 = .ok (.iconst 0, 1) := by decide +kernel
theorem dX5_gather_2 : decode cX5_gather 2 = .ok (.putfield 18, 3) := by decide +kernel
theorem dX5_gather_5 : decode cX5_gather 5 = .ok (.iconst 0, 1) := by decide +kernel
theorem dX5_gather_6 : decode cX5_gather 6 = .ok (.istore_n 2, 1) := by decide +kernel
theorem dX5_gather_7 : decode cX5_gather 7 = .ok (.iload_n 2, 1) := by decide +kernel
theorem dX5_gather_8 : decode cX5_gather 8 = .ok (.bipush 8, 2) := by decide +kernel
theorem dX5_gather_10 : decode cX5_gather 10 = .ok (.if_icmp .ge 57, 3) := by decide +kernel
theorem dX5_gather_13 : decode cX5_gather 13 = .ok (.iconst 0, 1) := by decide +kernel
theorem dX5_gather_14 : decode cX5_gather 14 = .ok (.istore_n 3, 1) := by decide +kernel
theorem dX5_gather_15 : decode cX5_gather 15 = .ok (.iload_n 3, 1) := by decide +kernel
theorem dX5_gather_16 : decode cX5_gather 16 = .ok (.bipush 8, 2) := by decide +kernel
theorem dX5_gather_18 : decode cX5_gather 18 = .ok (.if_icmp .ge 43, 3) := by decide +kernel
theorem dX5_gather_21 : decode cX5_gather 21 = .ok (.aload_n 1, 1) := by decide +kernel
theorem dX5_gather_22 : decode cX5_gather 22 = .ok (.iload_n 2, 1) := by decide +kernel
theorem dX5_gather_23 : decode cX5_gather 23 = .ok (.iload_n 3, 1) := by decide +kernel
theorem dX5_gather_24 : decode cX5_gather 24 = .ok (.invokestatic 22, 3) := by decide +kernel
theorem dX5_gather_27 : decode cX5_gather 27 = .ok (.ifCond .eq 28, 3) := by decide +kernel
theorem dX5_gather_30 : decode cX5_gather 30 = .ok (.aload_n 0, 1) := by decide +kernel
theorem dX5_gather_31 : decode cX5_gather 31 = .ok (.getfield 9, 3) := by decide +kernel
theorem dX5_gather_34 : decode cX5_gather 34 = .ok (.aload_n 0, 1) := by decide +kernel
theorem dX5_gather_35 : decode cX5_gather 35 = .ok (.getfield 18, 3) := by decide +kernel
theorem dX5_gather_38 : decode cX5_gather 38 = .ok (.bipush 10, 2) := by decide +kernel
theorem dX5_gather_40 : decode cX5_gather 40 = .ok (.iload_n 2, 1) := by decide +kernel
theorem dX5_gather_41 : decode cX5_gather 41 = .ok (.imul, 1) := by decide +kernel
theorem dX5_gather_42 : decode cX5_gather 42 = .ok (.iload_n 3, 1) := by decide +kernel
theorem dX5_gather_43 : decode cX5_gather 43 = .ok (.iadd, 1) := by decide +kernel
theorem dX5_gather_44 : decode cX5_gather 44 = .ok (.iastore, 1) := by decide +kernel
theorem dX5_gather_45 : decode cX5_gather 45 = .ok (.aload_n 0, 1) := by decide +kernel
theorem dX5_gather_46 : decode cX5_gather 46 = .ok (.dup, 1) := by decide +kernel
theorem dX5_gather_47 : decode cX5_gather 47 = .ok (.getfield 18, 3) := by decide +kernel
theorem dX5_gather_50 : decode cX5_gather 50 = .ok (.iconst 1, 1) := by decide +kernel
theorem dX5_gather_51 : decode cX5_gather 51 = .ok (.iadd, 1) := by decide +kernel
theorem dX5_gather_52 : decode cX5_gather 52 = .ok (.putfield 18, 3) := by decide +kernel
theorem dX5_gather_55 : decode cX5_gather 55 = .ok (.iinc 3 1, 3) := by decide +kernel
theorem dX5_gather_58 : decode cX5_gather 58 = .ok (.goto (-43), 3) := by decide +kernel
theorem dX5_gather_61 : decode cX5_gather 61 = .ok (.iinc 2 1, 3) := by decide +kernel
theorem dX5_gather_64 : decode cX5_gather 64 = .ok (.goto (-57), 3) := by decide +kernel
theorem dX5_gather_67 : decode cX5_gather 67 = .ok (.return_, 1) := by decide +kernel
theorem dX5_agree_0 : decode cX5_agree 0 = .ok (.iconst 0, 1) := by decide +kernel
theorem dX5_agree_1 : decode cX5_agree 1 = .ok (.istore_n 3, 1) := by decide +kernel
theorem dX5_agree_2 : decode cX5_agree 2 = .ok (.iload_n 3, 1) := by decide +kernel
theorem dX5_agree_3 : decode cX5_agree 3 = .ok (.aload_n 0, 1) := by decide +kernel
theorem dX5_agree_4 : decode cX5_agree 4 = .ok (.getfield 26, 3) := by decide +kernel
theorem dX5_agree_7 : decode cX5_agree 7 = .ok (.if_icmp .ge 31, 3) := by decide +kernel
theorem dX5_agree_10 : decode cX5_agree 10 = .ok (.aload_n 0, 1) := by decide +kernel
theorem dX5_agree_11 : decode cX5_agree 11 = .ok (.getfield 29, 3) := by decide +kernel
theorem dX5_agree_14 : decode cX5_agree 14 = .ok (.iload_n 3, 1) := by decide +kernel
theorem dX5_agree_15 : decode cX5_agree 15 = .ok (.iaload, 1) := by decide +kernel
theorem dX5_agree_16 : decode cX5_agree 16 = .ok (.iload_n 1, 1) := by decide +kernel
theorem dX5_agree_17 : decode cX5_agree 17 = .ok (.iload_n 2, 1) := by decide +kernel
theorem dX5_agree_18 : decode cX5_agree 18 = .ok (.invokestatic 32, 3) := by decide +kernel
theorem dX5_agree_21 : decode cX5_agree 21 = .ok (.aload_n 0, 1) := by decide +kernel
theorem dX5_agree_22 : decode cX5_agree 22 = .ok (.getfield 36, 3) := by decide +kernel
theorem dX5_agree_25 : decode cX5_agree 25 = .ok (.iload_n 3, 1) := by decide +kernel
theorem dX5_agree_26 : decode cX5_agree 26 = .ok (.iaload, 1) := by decide +kernel
theorem dX5_agree_27 : decode cX5_agree 27 = .ok (.if_icmp .eq 5, 3) := by decide +kernel
theorem dX5_agree_30 : decode cX5_agree 30 = .ok (.iconst 0, 1) := by decide +kernel
theorem dX5_agree_31 : decode cX5_agree 31 = .ok (.ireturn, 1) := by decide +kernel
theorem dX5_agree_32 : decode cX5_agree 32 = .ok (.iinc 3 1, 3) := by decide +kernel
theorem dX5_agree_35 : decode cX5_agree 35 = .ok (.goto (-33), 3) := by decide +kernel
theorem dX5_agree_38 : decode cX5_agree 38 = .ok (.iconst 1, 1) := by decide +kernel
theorem dX5_agree_39 : decode cX5_agree 39 = .ok (.ireturn, 1) := by decide +kernel
theorem dX5_thingOn_0 : decode cX5_thingOn 0 = .ok (.iload_n 1, 1) := by decide +kernel
theorem dX5_thingOn_1 : decode cX5_thingOn 1 = .ok (.iload_n 0, 1) := by decide +kernel
theorem dX5_thingOn_2 : decode cX5_thingOn 2 = .ok (.imul, 1) := by decide +kernel
theorem dX5_thingOn_3 : decode cX5_thingOn 3 = .ok (.iload_n 2, 1) := by decide +kernel
theorem dX5_thingOn_4 : decode cX5_thingOn 4 = .ok (.iadd, 1) := by decide +kernel
theorem dX5_thingOn_5 : decode cX5_thingOn 5 = .ok (.bipush 8, 2) := by decide +kernel
theorem dX5_thingOn_7 : decode cX5_thingOn 7 = .ok (.irem, 1) := by decide +kernel
theorem dX5_thingOn_8 : decode cX5_thingOn 8 = .ok (.ireturn, 1) := by decide +kernel
theorem dX5_chooseDay_0 : decode cX5_chooseDay 0 = .ok (.aload_n 0, 1) := by decide +kernel
theorem dX5_chooseDay_1 : decode cX5_chooseDay 1 = .ok (.bipush (-6), 2) := by decide +kernel
theorem dX5_chooseDay_3 : decode cX5_chooseDay 3 = .ok (.putfield 39, 3) := by decide +kernel
theorem dX5_chooseDay_6 : decode cX5_chooseDay 6 = .ok (.aload_n 0, 1) := by decide +kernel
theorem dX5_chooseDay_7 : decode cX5_chooseDay 7 = .ok (.bipush (-6), 2) := by decide +kernel
theorem dX5_chooseDay_9 : decode cX5_chooseDay 9 = .ok (.putfield 42, 3) := by decide +kernel
theorem dX5_chooseDay_12 : decode cX5_chooseDay 12 = .ok (.aload_n 0, 1) := by decide +kernel
theorem dX5_chooseDay_13 : decode cX5_chooseDay 13 = .ok (.getfield 18, 3) := by decide +kernel
theorem dX5_chooseDay_16 : decode cX5_chooseDay 16 = .ok (.ifCond .ne 4, 3) := by decide +kernel
theorem dX5_chooseDay_19 : decode cX5_chooseDay 19 = .ok (.return_, 1) := by decide +kernel
theorem dX5_chooseDay_20 : decode cX5_chooseDay 20 = .ok (.iconst 0, 1) := by decide +kernel
theorem dX5_chooseDay_21 : decode cX5_chooseDay 21 = .ok (.istore_n 1, 1) := by decide +kernel
theorem dX5_chooseDay_22 : decode cX5_chooseDay 22 = .ok (.iload_n 1, 1) := by decide +kernel
theorem dX5_chooseDay_23 : decode cX5_chooseDay 23 = .ok (.bipush 8, 2) := by decide +kernel
theorem dX5_chooseDay_25 : decode cX5_chooseDay 25 = .ok (.if_icmp .ge 42, 3) := by decide +kernel
theorem dX5_chooseDay_28 : decode cX5_chooseDay 28 = .ok (.aload_n 0, 1) := by decide +kernel
theorem dX5_chooseDay_29 : decode cX5_chooseDay 29 = .ok (.iload_n 1, 1) := by decide +kernel
theorem dX5_chooseDay_30 : decode cX5_chooseDay 30 = .ok (.invokevirtual 45, 3) := by decide +kernel
theorem dX5_chooseDay_33 : decode cX5_chooseDay 33 = .ok (.istore_n 2, 1) := by decide +kernel
theorem dX5_chooseDay_34 : decode cX5_chooseDay 34 = .ok (.aload_n 0, 1) := by decide +kernel
theorem dX5_chooseDay_35 : decode cX5_chooseDay 35 = .ok (.getfield 39, 3) := by decide +kernel
theorem dX5_chooseDay_38 : decode cX5_chooseDay 38 = .ok (.bipush (-6), 2) := by decide +kernel
theorem dX5_chooseDay_40 : decode cX5_chooseDay 40 = .ok (.if_icmp .eq 11, 3) := by decide +kernel
theorem dX5_chooseDay_43 : decode cX5_chooseDay 43 = .ok (.iload_n 2, 1) := by decide +kernel
theorem dX5_chooseDay_44 : decode cX5_chooseDay 44 = .ok (.aload_n 0, 1) := by decide +kernel
theorem dX5_chooseDay_45 : decode cX5_chooseDay 45 = .ok (.getfield 42, 3) := by decide +kernel
theorem dX5_chooseDay_48 : decode cX5_chooseDay 48 = .ok (.if_icmp .ge 13, 3) := by decide +kernel
theorem dX5_chooseDay_51 : decode cX5_chooseDay 51 = .ok (.aload_n 0, 1) := by decide +kernel
theorem dX5_chooseDay_52 : decode cX5_chooseDay 52 = .ok (.iload_n 1, 1) := by decide +kernel
theorem dX5_chooseDay_53 : decode cX5_chooseDay 53 = .ok (.putfield 39, 3) := by decide +kernel
theorem dX5_chooseDay_56 : decode cX5_chooseDay 56 = .ok (.aload_n 0, 1) := by decide +kernel
theorem dX5_chooseDay_57 : decode cX5_chooseDay 57 = .ok (.iload_n 2, 1) := by decide +kernel
theorem dX5_chooseDay_58 : decode cX5_chooseDay 58 = .ok (.putfield 42, 3) := by decide +kernel
theorem dX5_chooseDay_61 : decode cX5_chooseDay 61 = .ok (.iinc 1 1, 3) := by decide +kernel
theorem dX5_chooseDay_64 : decode cX5_chooseDay 64 = .ok (.goto (-42), 3) := by decide +kernel
theorem dX5_chooseDay_67 : decode cX5_chooseDay 67 = .ok (.return_, 1) := by decide +kernel
theorem dX5_mostLeftAfter_0 : decode cX5_mostLeftAfter 0 = .ok (.iconst 0, 1) := by decide +kernel
theorem dX5_mostLeftAfter_1 : decode cX5_mostLeftAfter 1 = .ok (.istore_n 2, 1) := by decide +kernel
theorem dX5_mostLeftAfter_2 : decode cX5_mostLeftAfter 2 = .ok (.iload_n 2, 1) := by decide +kernel
theorem dX5_mostLeftAfter_3 : decode cX5_mostLeftAfter 3 = .ok (.bipush 8, 2) := by decide +kernel
theorem dX5_mostLeftAfter_5 : decode cX5_mostLeftAfter 5 = .ok (.if_icmp .ge 16, 3) := by decide +kernel
theorem dX5_mostLeftAfter_8 : decode cX5_mostLeftAfter 8 = .ok (.aload_n 0, 1) := by decide +kernel
theorem dX5_mostLeftAfter_9 : decode cX5_mostLeftAfter 9 = .ok (.getfield 15, 3) := by decide +kernel
theorem dX5_mostLeftAfter_12 : decode cX5_mostLeftAfter 12 = .ok (.iload_n 2, 1) := by decide +kernel
theorem dX5_mostLeftAfter_13 : decode cX5_mostLeftAfter 13 = .ok (.iconst 0, 1) := by decide +kernel
theorem dX5_mostLeftAfter_14 : decode cX5_mostLeftAfter 14 = .ok (.iastore, 1) := by decide +kernel
theorem dX5_mostLeftAfter_15 : decode cX5_mostLeftAfter 15 = .ok (.iinc 2 1, 3) := by decide +kernel
theorem dX5_mostLeftAfter_18 : decode cX5_mostLeftAfter 18 = .ok (.goto (-16), 3) := by decide +kernel
theorem dX5_mostLeftAfter_21 : decode cX5_mostLeftAfter 21 = .ok (.iconst 0, 1) := by decide +kernel
theorem dX5_mostLeftAfter_22 : decode cX5_mostLeftAfter 22 = .ok (.istore_n 2, 1) := by decide +kernel
theorem dX5_mostLeftAfter_23 : decode cX5_mostLeftAfter 23 = .ok (.iconst 0, 1) := by decide +kernel
theorem dX5_mostLeftAfter_24 : decode cX5_mostLeftAfter 24 = .ok (.istore_n 3, 1) := by decide +kernel
theorem dX5_mostLeftAfter_25 : decode cX5_mostLeftAfter 25 = .ok (.iload_n 3, 1) := by decide +kernel
theorem dX5_mostLeftAfter_26 : decode cX5_mostLeftAfter 26 = .ok (.aload_n 0, 1) := by decide +kernel
theorem dX5_mostLeftAfter_27 : decode cX5_mostLeftAfter 27 = .ok (.getfield 18, 3) := by decide +kernel
theorem dX5_mostLeftAfter_30 : decode cX5_mostLeftAfter 30 = .ok (.if_icmp .ge 56, 3) := by decide +kernel
theorem dX5_mostLeftAfter_33 : decode cX5_mostLeftAfter 33 = .ok (.iload_n 1, 1) := by decide +kernel
theorem dX5_mostLeftAfter_34 : decode cX5_mostLeftAfter 34 = .ok (.aload_n 0, 1) := by decide +kernel
theorem dX5_mostLeftAfter_35 : decode cX5_mostLeftAfter 35 = .ok (.getfield 9, 3) := by decide +kernel
theorem dX5_mostLeftAfter_38 : decode cX5_mostLeftAfter 38 = .ok (.iload_n 3, 1) := by decide +kernel
theorem dX5_mostLeftAfter_39 : decode cX5_mostLeftAfter 39 = .ok (.iaload, 1) := by decide +kernel
theorem dX5_mostLeftAfter_40 : decode cX5_mostLeftAfter 40 = .ok (.bipush 10, 2) := by decide +kernel
theorem dX5_mostLeftAfter_42 : decode cX5_mostLeftAfter 42 = .ok (.idiv, 1) := by decide +kernel
theorem dX5_mostLeftAfter_43 : decode cX5_mostLeftAfter 43 = .ok (.aload_n 0, 1) := by decide +kernel
theorem dX5_mostLeftAfter_44 : decode cX5_mostLeftAfter 44 = .ok (.getfield 9, 3) := by decide +kernel
theorem dX5_mostLeftAfter_47 : decode cX5_mostLeftAfter 47 = .ok (.iload_n 3, 1) := by decide +kernel
theorem dX5_mostLeftAfter_48 : decode cX5_mostLeftAfter 48 = .ok (.iaload, 1) := by decide +kernel
theorem dX5_mostLeftAfter_49 : decode cX5_mostLeftAfter 49 = .ok (.bipush 10, 2) := by decide +kernel
theorem dX5_mostLeftAfter_51 : decode cX5_mostLeftAfter 51 = .ok (.irem, 1) := by decide +kernel
theorem dX5_mostLeftAfter_52 : decode cX5_mostLeftAfter 52 = .ok (.invokestatic 32, 3) := by decide +kernel
theorem dX5_mostLeftAfter_55 : decode cX5_mostLeftAfter 55 = .ok (.istore 4, 2) := by decide +kernel
theorem dX5_mostLeftAfter_57 : decode cX5_mostLeftAfter 57 = .ok (.aload_n 0, 1) := by decide +kernel
theorem dX5_mostLeftAfter_58 : decode cX5_mostLeftAfter 58 = .ok (.getfield 15, 3) := by decide +kernel
theorem dX5_mostLeftAfter_61 : decode cX5_mostLeftAfter 61 = .ok (.iload 4, 2) := by decide +kernel
theorem dX5_mostLeftAfter_63 : decode cX5_mostLeftAfter 63 = .ok (.dup2, 1) := by decide +kernel
theorem dX5_mostLeftAfter_64 : decode cX5_mostLeftAfter 64 = .ok (.iaload, 1) := by decide +kernel
theorem dX5_mostLeftAfter_65 : decode cX5_mostLeftAfter 65 = .ok (.iconst 1, 1) := by decide +kernel
theorem dX5_mostLeftAfter_66 : decode cX5_mostLeftAfter 66 = .ok (.iadd, 1) := by decide +kernel
theorem dX5_mostLeftAfter_67 : decode cX5_mostLeftAfter 67 = .ok (.iastore, 1) := by decide +kernel
theorem dX5_mostLeftAfter_68 : decode cX5_mostLeftAfter 68 = .ok (.iload_n 2, 1) := by decide +kernel
theorem dX5_mostLeftAfter_69 : decode cX5_mostLeftAfter 69 = .ok (.aload_n 0, 1) := by decide +kernel
theorem dX5_mostLeftAfter_70 : decode cX5_mostLeftAfter 70 = .ok (.getfield 15, 3) := by decide +kernel
theorem dX5_mostLeftAfter_73 : decode cX5_mostLeftAfter 73 = .ok (.iload 4, 2) := by decide +kernel
theorem dX5_mostLeftAfter_75 : decode cX5_mostLeftAfter 75 = .ok (.iaload, 1) := by decide +kernel
theorem dX5_mostLeftAfter_76 : decode cX5_mostLeftAfter 76 = .ok (.invokestatic 49, 3) := by decide +kernel
theorem dX5_mostLeftAfter_79 : decode cX5_mostLeftAfter 79 = .ok (.istore_n 2, 1) := by decide +kernel
theorem dX5_mostLeftAfter_80 : decode cX5_mostLeftAfter 80 = .ok (.iinc 3 1, 3) := by decide +kernel
theorem dX5_mostLeftAfter_83 : decode cX5_mostLeftAfter 83 = .ok (.goto (-58), 3) := by decide +kernel
theorem dX5_mostLeftAfter_86 : decode cX5_mostLeftAfter 86 = .ok (.iload_n 2, 1) := by decide +kernel
theorem dX5_mostLeftAfter_87 : decode cX5_mostLeftAfter 87 = .ok (.ireturn, 1) := by decide +kernel
theorem dX6_init_0 : decode cX6_init 0 = .ok (.aload_n 0, 1) := by decide +kernel
theorem dX6_init_1 : decode cX6_init 1 = .ok (.invokespecial 3, 3) := by decide +kernel
theorem dX6_init_4 : decode cX6_init 4 = .ok (.aload_n 0, 1) := by decide +kernel
theorem dX6_init_5 : decode cX6_init 5 = .ok (.sipush 256, 3) := by decide +kernel
theorem dX6_init_8 : decode cX6_init 8 = .ok (.newarray .int, 2) := by decide +kernel
theorem dX6_init_10 : decode cX6_init 10 = .ok (.putfield 9, 3) := by decide +kernel
theorem dX6_init_13 : decode cX6_init 13 = .ok (.aload_n 0, 1) := by decide +kernel
theorem dX6_init_14 : decode cX6_init 14 = .ok (.bipush 8, 2) := by decide +kernel
theorem dX6_init_16 : decode cX6_init 16 = .ok (.newarray .int, 2) := by decide +kernel
theorem dX6_init_18 : decode cX6_init 18 = .ok (.putfield 15, 3) := by decide +kernel
theorem dX6_init_21 : decode cX6_init 21 = .ok (.return_, 1) := by decide +kernel
theorem dX6_pair_0 : decode cX6_pair 0 = .ok (.aload_n 0, 1) := by decide +kernel
theorem dX6_pair_1 : decode cX6_pair 1 = .ok (.aload_n 1, 1) := by decide +kernel
theorem dX6_pair_2 : decode cX6_pair 2 = .ok (.invokevirtual 18, 3) := by decide +kernel
theorem dX6_pair_5 : decode cX6_pair 5 = .ok (.sipush 1023, 3) := by decide +kernel
theorem dX6_pair_8 : decode cX6_pair 8 = .ok (.istore_n 3, 1) := by decide +kernel
theorem dX6_pair_9 : decode cX6_pair 9 = .ok (.iload_n 2, 1) := by decide +kernel
theorem dX6_pair_10 : decode cX6_pair 10 = .ok (.istore 4, 2) := by decide +kernel
theorem dX6_pair_12 : decode cX6_pair 12 = .ok (.aload_n 0, 1) := by decide +kernel
theorem dX6_pair_13 : decode cX6_pair 13 = .ok (.aload_n 0, 1) := by decide +kernel
theorem dX6_pair_14 : decode cX6_pair 14 = .ok (.iload_n 2, 1) := by decide +kernel
theorem dX6_pair_15 : decode cX6_pair 15 = .ok (.iload_n 3, 1) := by decide +kernel
theorem dX6_pair_16 : decode cX6_pair 16 = .ok (.invokevirtual 22, 3) := by decide +kernel
theorem dX6_pair_19 : decode cX6_pair 19 = .ok (.putfield 26, 3) := by decide +kernel
theorem dX6_pair_22 : decode cX6_pair 22 = .ok (.aload_n 0, 1) := by decide +kernel
theorem dX6_pair_23 : decode cX6_pair 23 = .ok (.getfield 26, 3) := by decide +kernel
theorem dX6_pair_26 : decode cX6_pair 26 = .ok (.istore 5, 2) := by decide +kernel
theorem dX6_pair_28 : decode cX6_pair 28 = .ok (.iconst 0, 1) := by decide +kernel
theorem dX6_pair_29 : decode cX6_pair 29 = .ok (.istore 6, 2) := by decide +kernel
theorem dX6_pair_31 : decode cX6_pair 31 = .ok (.iload 6, 2) := by decide +kernel
theorem dX6_pair_33 : decode cX6_pair 33 = .ok (.bipush 8, 2) := by decide +kernel
theorem dX6_pair_35 : decode cX6_pair 35 = .ok (.if_icmp .ge 90, 3) := by decide +kernel
theorem dX6_pair_38 : decode cX6_pair 38 = .ok (.iload 4, 2) := by decide +kernel
theorem dX6_pair_40 : decode cX6_pair 40 = .ok (.iconst 1, 1) := by decide +kernel
theorem dX6_pair_41 : decode cX6_pair 41 = .ok (.iload 6, 2) := by decide +kernel
theorem dX6_pair_43 : decode cX6_pair 43 = .ok (.ishl, 1) := by decide +kernel
theorem dX6_pair_44 : decode cX6_pair 44 = .ok (.iconst (-1), 1) := by decide +kernel
theorem dX6_pair_45 : decode cX6_pair 45 = .ok (.ixor, 1) := by decide +kernel
theorem dX6_pair_46 : decode cX6_pair 46 = .ok (.iand, 1) := by decide +kernel
theorem dX6_pair_47 : decode cX6_pair 47 = .ok (.istore 4, 2) := by decide +kernel
theorem dX6_pair_49 : decode cX6_pair 49 = .ok (.aload_n 0, 1) := by decide +kernel
theorem dX6_pair_50 : decode cX6_pair 50 = .ok (.getfield 15, 3) := by decide +kernel
theorem dX6_pair_53 : decode cX6_pair 53 = .ok (.iload 6, 2) := by decide +kernel
theorem dX6_pair_55 : decode cX6_pair 55 = .ok (.iload_n 2, 1) := by decide +kernel
theorem dX6_pair_56 : decode cX6_pair 56 = .ok (.iload 6, 2) := by decide +kernel
theorem dX6_pair_58 : decode cX6_pair 58 = .ok (.invokestatic 30, 3) := by decide +kernel
theorem dX6_pair_61 : decode cX6_pair 61 = .ok (.ifCond .eq 26, 3) := by decide +kernel
theorem dX6_pair_64 : decode cX6_pair 64 = .ok (.aload_n 0, 1) := by decide +kernel
theorem dX6_pair_65 : decode cX6_pair 65 = .ok (.aload_n 0, 1) := by decide +kernel
theorem dX6_pair_66 : decode cX6_pair 66 = .ok (.getfield 9, 3) := by decide +kernel
theorem dX6_pair_69 : decode cX6_pair 69 = .ok (.iconst 1, 1) := by decide +kernel
theorem dX6_pair_70 : decode cX6_pair 70 = .ok (.iload 6, 2) := by decide +kernel
theorem dX6_pair_72 : decode cX6_pair 72 = .ok (.ishl, 1) := by decide +kernel
theorem dX6_pair_73 : decode cX6_pair 73 = .ok (.iaload, 1) := by decide +kernel
theorem dX6_pair_74 : decode cX6_pair 74 = .ok (.iload_n 3, 1) := by decide +kernel
theorem dX6_pair_75 : decode cX6_pair 75 = .ok (.iand, 1) := by decide +kernel
theorem dX6_pair_76 : decode cX6_pair 76 = .ok (.iload 4, 2) := by decide +kernel
theorem dX6_pair_78 : decode cX6_pair 78 = .ok (.iload_n 3, 1) := by decide +kernel
theorem dX6_pair_79 : decode cX6_pair 79 = .ok (.iload 5, 2) := by decide +kernel
theorem dX6_pair_81 : decode cX6_pair 81 = .ok (.invokevirtual 34, 3) := by decide +kernel
theorem dX6_pair_84 : decode cX6_pair 84 = .ok (.goto 5, 3) := by decide +kernel
theorem dX6_pair_87 : decode cX6_pair 87 = .ok (.bipush (-6), 2) := by decide +kernel
theorem dX6_pair_89 : decode cX6_pair 89 = .ok (.iastore, 1) := by decide +kernel
theorem dX6_pair_90 : decode cX6_pair 90 = .ok (.aload_n 0, 1) := by decide +kernel
theorem dX6_pair_91 : decode cX6_pair 91 = .ok (.getfield 15, 3) := by decide +kernel
theorem dX6_pair_94 : decode cX6_pair 94 = .ok (.iload 6, 2) := by decide +kernel
theorem dX6_pair_96 : decode cX6_pair 96 = .ok (.iaload, 1) := by decide +kernel
theorem dX6_pair_97 : decode cX6_pair 97 = .ok (.bipush (-6), 2) := by decide +kernel
theorem dX6_pair_99 : decode cX6_pair 99 = .ok (.if_icmp .eq 20, 3) := by decide +kernel
theorem dX6_pair_102 : decode cX6_pair 102 = .ok (.iload_n 3, 1) := by decide +kernel
theorem dX6_pair_103 : decode cX6_pair 103 = .ok (.iconst 1, 1) := by decide +kernel
theorem dX6_pair_104 : decode cX6_pair 104 = .ok (.aload_n 0, 1) := by decide +kernel
theorem dX6_pair_105 : decode cX6_pair 105 = .ok (.getfield 15, 3) := by decide +kernel
theorem dX6_pair_108 : decode cX6_pair 108 = .ok (.iload 6, 2) := by decide +kernel
theorem dX6_pair_110 : decode cX6_pair 110 = .ok (.iaload, 1) := by decide +kernel
theorem dX6_pair_111 : decode cX6_pair 111 = .ok (.ishl, 1) := by decide +kernel
theorem dX6_pair_112 : decode cX6_pair 112 = .ok (.iconst (-1), 1) := by decide +kernel
theorem dX6_pair_113 : decode cX6_pair 113 = .ok (.ixor, 1) := by decide +kernel
theorem dX6_pair_114 : decode cX6_pair 114 = .ok (.iand, 1) := by decide +kernel
theorem dX6_pair_115 : decode cX6_pair 115 = .ok (.istore_n 3, 1) := by decide +kernel
theorem dX6_pair_116 : decode cX6_pair 116 = .ok (.iinc 5 (-1), 3) := by decide +kernel
theorem dX6_pair_119 : decode cX6_pair 119 = .ok (.iinc 6 1, 3) := by decide +kernel
theorem dX6_pair_122 : decode cX6_pair 122 = .ok (.goto (-91), 3) := by decide +kernel
theorem dX6_pair_125 : decode cX6_pair 125 = .ok (.return_, 1) := by decide +kernel
theorem dX6_joinHomes_0 : decode cX6_joinHomes 0 = .ok (.aload_n 0, 1) := by decide +kernel
theorem dX6_joinHomes_1 : decode cX6_joinHomes 1 = .ok (.getfield 9, 3) := by decide +kernel
theorem dX6_joinHomes_4 : decode cX6_joinHomes 4 = .ok (.iconst 0, 1) := by decide +kernel
theorem dX6_joinHomes_5 : decode cX6_joinHomes 5 = .ok (.iconst 0, 1) := by decide +kernel
theorem dX6_joinHomes_6 : decode cX6_joinHomes 6 = .ok (.iastore, 1) := by decide +kernel
theorem dX6_joinHomes_7 : decode cX6_joinHomes 7 = .ok (.iconst 0, 1) := by decide +kernel
theorem dX6_joinHomes_8 : decode cX6_joinHomes 8 = .ok (.istore_n 2, 1) := by decide +kernel
theorem dX6_joinHomes_9 : decode cX6_joinHomes 9 = .ok (.iload_n 2, 1) := by decide +kernel
theorem dX6_joinHomes_10 : decode cX6_joinHomes 10 = .ok (.bipush 8, 2) := by decide +kernel
theorem dX6_joinHomes_12 : decode cX6_joinHomes 12 = .ok (.if_icmp .ge 89, 3) := by decide +kernel
theorem dX6_joinHomes_15 : decode cX6_joinHomes 15 = .ok (.iconst 1, 1) := by decide +kernel
theorem dX6_joinHomes_16 : decode cX6_joinHomes 16 = .ok (.iload_n 2, 1) := by decide +kernel
theorem dX6_joinHomes_17 : decode cX6_joinHomes 17 = .ok (.ishl, 1) := by decide +kernel
theorem dX6_joinHomes_18 : decode cX6_joinHomes 18 = .ok (.istore_n 3, 1) := by decide +kernel
theorem dX6_joinHomes_19 : decode cX6_joinHomes 19 = .ok (.iconst 0, 1) := by decide +kernel
theorem dX6_joinHomes_20 : decode cX6_joinHomes 20 = .ok (.istore 4, 2) := by decide +kernel
theorem dX6_joinHomes_22 : decode cX6_joinHomes 22 = .ok (.iconst 0, 1) := by decide +kernel
theorem dX6_joinHomes_23 : decode cX6_joinHomes 23 = .ok (.istore 5, 2) := by decide +kernel
theorem dX6_joinHomes_25 : decode cX6_joinHomes 25 = .ok (.iload 5, 2) := by decide +kernel
theorem dX6_joinHomes_27 : decode cX6_joinHomes 27 = .ok (.bipush 10, 2) := by decide +kernel
theorem dX6_joinHomes_29 : decode cX6_joinHomes 29 = .ok (.if_icmp .ge 32, 3) := by decide +kernel
theorem dX6_joinHomes_32 : decode cX6_joinHomes 32 = .ok (.aload_n 1, 1) := by decide +kernel
theorem dX6_joinHomes_33 : decode cX6_joinHomes 33 = .ok (.getfield 38, 3) := by decide +kernel
theorem dX6_joinHomes_36 : decode cX6_joinHomes 36 = .ok (.iload 5, 2) := by decide +kernel
theorem dX6_joinHomes_38 : decode cX6_joinHomes 38 = .ok (.iaload, 1) := by decide +kernel
theorem dX6_joinHomes_39 : decode cX6_joinHomes 39 = .ok (.iload_n 2, 1) := by decide +kernel
theorem dX6_joinHomes_40 : decode cX6_joinHomes 40 = .ok (.invokestatic 30, 3) := by decide +kernel
theorem dX6_joinHomes_43 : decode cX6_joinHomes 43 = .ok (.ifCond .eq 12, 3) := by decide +kernel
theorem dX6_joinHomes_46 : decode cX6_joinHomes 46 = .ok (.iload 4, 2) := by decide +kernel
theorem dX6_joinHomes_48 : decode cX6_joinHomes 48 = .ok (.iconst 1, 1) := by decide +kernel
theorem dX6_joinHomes_49 : decode cX6_joinHomes 49 = .ok (.iload 5, 2) := by decide +kernel
theorem dX6_joinHomes_51 : decode cX6_joinHomes 51 = .ok (.ishl, 1) := by decide +kernel
theorem dX6_joinHomes_52 : decode cX6_joinHomes 52 = .ok (.ior, 1) := by decide +kernel
theorem dX6_joinHomes_53 : decode cX6_joinHomes 53 = .ok (.istore 4, 2) := by decide +kernel
theorem dX6_joinHomes_55 : decode cX6_joinHomes 55 = .ok (.iinc 5 1, 3) := by decide +kernel
theorem dX6_joinHomes_58 : decode cX6_joinHomes 58 = .ok (.goto (-33), 3) := by decide +kernel
theorem dX6_joinHomes_61 : decode cX6_joinHomes 61 = .ok (.iconst 0, 1) := by decide +kernel
theorem dX6_joinHomes_62 : decode cX6_joinHomes 62 = .ok (.istore 5, 2) := by decide +kernel
theorem dX6_joinHomes_64 : decode cX6_joinHomes 64 = .ok (.iload 5, 2) := by decide +kernel
theorem dX6_joinHomes_66 : decode cX6_joinHomes 66 = .ok (.iload_n 3, 1) := by decide +kernel
theorem dX6_joinHomes_67 : decode cX6_joinHomes 67 = .ok (.if_icmp .ge 28, 3) := by decide +kernel
theorem dX6_joinHomes_70 : decode cX6_joinHomes 70 = .ok (.aload_n 0, 1) := by decide +kernel
theorem dX6_joinHomes_71 : decode cX6_joinHomes 71 = .ok (.getfield 9, 3) := by decide +kernel
theorem dX6_joinHomes_74 : decode cX6_joinHomes 74 = .ok (.iload_n 3, 1) := by decide +kernel
theorem dX6_joinHomes_75 : decode cX6_joinHomes 75 = .ok (.iload 5, 2) := by decide +kernel
theorem dX6_joinHomes_77 : decode cX6_joinHomes 77 = .ok (.ior, 1) := by decide +kernel
theorem dX6_joinHomes_78 : decode cX6_joinHomes 78 = .ok (.aload_n 0, 1) := by decide +kernel
theorem dX6_joinHomes_79 : decode cX6_joinHomes 79 = .ok (.getfield 9, 3) := by decide +kernel
theorem dX6_joinHomes_82 : decode cX6_joinHomes 82 = .ok (.iload 5, 2) := by decide +kernel
theorem dX6_joinHomes_84 : decode cX6_joinHomes 84 = .ok (.iaload, 1) := by decide +kernel
theorem dX6_joinHomes_85 : decode cX6_joinHomes 85 = .ok (.iload 4, 2) := by decide +kernel
theorem dX6_joinHomes_87 : decode cX6_joinHomes 87 = .ok (.ior, 1) := by decide +kernel
theorem dX6_joinHomes_88 : decode cX6_joinHomes 88 = .ok (.iastore, 1) := by decide +kernel
theorem dX6_joinHomes_89 : decode cX6_joinHomes 89 = .ok (.iinc 5 1, 3) := by decide +kernel
theorem dX6_joinHomes_92 : decode cX6_joinHomes 92 = .ok (.goto (-28), 3) := by decide +kernel
theorem dX6_joinHomes_95 : decode cX6_joinHomes 95 = .ok (.iinc 2 1, 3) := by decide +kernel
theorem dX6_joinHomes_98 : decode cX6_joinHomes 98 = .ok (.goto (-89), 3) := by decide +kernel
theorem dX6_joinHomes_101 : decode cX6_joinHomes 101 = .ok (.return_, 1) := by decide +kernel
theorem dX6_leastBasket_0 : decode cX6_leastBasket 0 = .ok (.iconst 0, 1) := by decide +kernel
theorem dX6_leastBasket_1 : decode cX6_leastBasket 1 = .ok (.istore 5, 2) := by decide +kernel
theorem dX6_leastBasket_3 : decode cX6_leastBasket 3 = .ok (.iload 5, 2) := by decide +kernel
theorem dX6_leastBasket_5 : decode cX6_leastBasket 5 = .ok (.bipush 10, 2) := by decide +kernel
theorem dX6_leastBasket_7 : decode cX6_leastBasket 7 = .ok (.if_icmp .ge 41, 3) := by decide +kernel
theorem dX6_leastBasket_10 : decode cX6_leastBasket 10 = .ok (.iload_n 1, 1) := by decide +kernel
theorem dX6_leastBasket_11 : decode cX6_leastBasket 11 = .ok (.iload 5, 2) := by decide +kernel
theorem dX6_leastBasket_13 : decode cX6_leastBasket 13 = .ok (.invokestatic 30, 3) := by decide +kernel
theorem dX6_leastBasket_16 : decode cX6_leastBasket 16 = .ok (.ifCond .eq 26, 3) := by decide +kernel
theorem dX6_leastBasket_19 : decode cX6_leastBasket 19 = .ok (.aload_n 0, 1) := by decide +kernel
theorem dX6_leastBasket_20 : decode cX6_leastBasket 20 = .ok (.iload_n 2, 1) := by decide +kernel
theorem dX6_leastBasket_21 : decode cX6_leastBasket 21 = .ok (.iload_n 3, 1) := by decide +kernel
theorem dX6_leastBasket_22 : decode cX6_leastBasket 22 = .ok (.iconst 1, 1) := by decide +kernel
theorem dX6_leastBasket_23 : decode cX6_leastBasket 23 = .ok (.iload 5, 2) := by decide +kernel
theorem dX6_leastBasket_25 : decode cX6_leastBasket 25 = .ok (.ishl, 1) := by decide +kernel
theorem dX6_leastBasket_26 : decode cX6_leastBasket 26 = .ok (.iconst (-1), 1) := by decide +kernel
theorem dX6_leastBasket_27 : decode cX6_leastBasket 27 = .ok (.ixor, 1) := by decide +kernel
theorem dX6_leastBasket_28 : decode cX6_leastBasket 28 = .ok (.iand, 1) := by decide +kernel
theorem dX6_leastBasket_29 : decode cX6_leastBasket 29 = .ok (.invokevirtual 22, 3) := by decide +kernel
theorem dX6_leastBasket_32 : decode cX6_leastBasket 32 = .ok (.iconst 1, 1) := by decide +kernel
theorem dX6_leastBasket_33 : decode cX6_leastBasket 33 = .ok (.iadd, 1) := by decide +kernel
theorem dX6_leastBasket_34 : decode cX6_leastBasket 34 = .ok (.iload 4, 2) := by decide +kernel
theorem dX6_leastBasket_36 : decode cX6_leastBasket 36 = .ok (.if_icmp .ne 6, 3) := by decide +kernel
theorem dX6_leastBasket_39 : decode cX6_leastBasket 39 = .ok (.iload 5, 2) := by decide +kernel
theorem dX6_leastBasket_41 : decode cX6_leastBasket 41 = .ok (.ireturn, 1) := by decide +kernel
theorem dX6_leastBasket_42 : decode cX6_leastBasket 42 = .ok (.iinc 5 1, 3) := by decide +kernel
theorem dX6_leastBasket_45 : decode cX6_leastBasket 45 = .ok (.goto (-42), 3) := by decide +kernel
theorem dX6_leastBasket_48 : decode cX6_leastBasket 48 = .ok (.bipush (-6), 2) := by decide +kernel
theorem dX6_leastBasket_50 : decode cX6_leastBasket 50 = .ok (.ireturn, 1) := by decide +kernel
theorem dX6_mostAtOnce_0 : decode cX6_mostAtOnce 0 = .ok (.iload_n 1, 1) := by decide +kernel
theorem dX6_mostAtOnce_1 : decode cX6_mostAtOnce 1 = .ok (.invokestatic 43, 3) := by decide +kernel
theorem dX6_mostAtOnce_4 : decode cX6_mostAtOnce 4 = .ok (.istore_n 3, 1) := by decide +kernel
theorem dX6_mostAtOnce_5 : decode cX6_mostAtOnce 5 = .ok (.iload_n 1, 1) := by decide +kernel
theorem dX6_mostAtOnce_6 : decode cX6_mostAtOnce 6 = .ok (.istore 4, 2) := by decide +kernel
theorem dX6_mostAtOnce_8 : decode cX6_mostAtOnce 8 = .ok (.iload 4, 2) := by decide +kernel
theorem dX6_mostAtOnce_10 : decode cX6_mostAtOnce 10 = .ok (.ifCond .le 45, 3) := by decide +kernel
theorem dX6_mostAtOnce_13 : decode cX6_mostAtOnce 13 = .ok (.iload_n 1, 1) := by decide +kernel
theorem dX6_mostAtOnce_14 : decode cX6_mostAtOnce 14 = .ok (.iload 4, 2) := by decide +kernel
theorem dX6_mostAtOnce_16 : decode cX6_mostAtOnce 16 = .ok (.iconst (-1), 1) := by decide +kernel
theorem dX6_mostAtOnce_17 : decode cX6_mostAtOnce 17 = .ok (.ixor, 1) := by decide +kernel
theorem dX6_mostAtOnce_18 : decode cX6_mostAtOnce 18 = .ok (.iand, 1) := by decide +kernel
theorem dX6_mostAtOnce_19 : decode cX6_mostAtOnce 19 = .ok (.invokestatic 43, 3) := by decide +kernel
theorem dX6_mostAtOnce_22 : decode cX6_mostAtOnce 22 = .ok (.aload_n 0, 1) := by decide +kernel
theorem dX6_mostAtOnce_23 : decode cX6_mostAtOnce 23 = .ok (.getfield 9, 3) := by decide +kernel
theorem dX6_mostAtOnce_26 : decode cX6_mostAtOnce 26 = .ok (.iload 4, 2) := by decide +kernel
theorem dX6_mostAtOnce_28 : decode cX6_mostAtOnce 28 = .ok (.iaload, 1) := by decide +kernel
theorem dX6_mostAtOnce_29 : decode cX6_mostAtOnce 29 = .ok (.iload_n 2, 1) := by decide +kernel
theorem dX6_mostAtOnce_30 : decode cX6_mostAtOnce 30 = .ok (.iand, 1) := by decide +kernel
theorem dX6_mostAtOnce_31 : decode cX6_mostAtOnce 31 = .ok (.invokestatic 43, 3) := by decide +kernel
theorem dX6_mostAtOnce_34 : decode cX6_mostAtOnce 34 = .ok (.iadd, 1) := by decide +kernel
theorem dX6_mostAtOnce_35 : decode cX6_mostAtOnce 35 = .ok (.istore 5, 2) := by decide +kernel
theorem dX6_mostAtOnce_37 : decode cX6_mostAtOnce 37 = .ok (.iload_n 3, 1) := by decide +kernel
theorem dX6_mostAtOnce_38 : decode cX6_mostAtOnce 38 = .ok (.iload 5, 2) := by decide +kernel
theorem dX6_mostAtOnce_40 : decode cX6_mostAtOnce 40 = .ok (.invokestatic 49, 3) := by decide +kernel
theorem dX6_mostAtOnce_43 : decode cX6_mostAtOnce 43 = .ok (.istore_n 3, 1) := by decide +kernel
theorem dX6_mostAtOnce_44 : decode cX6_mostAtOnce 44 = .ok (.iload 4, 2) := by decide +kernel
theorem dX6_mostAtOnce_46 : decode cX6_mostAtOnce 46 = .ok (.iconst 1, 1) := by decide +kernel
theorem dX6_mostAtOnce_47 : decode cX6_mostAtOnce 47 = .ok (.isub, 1) := by decide +kernel
theorem dX6_mostAtOnce_48 : decode cX6_mostAtOnce 48 = .ok (.iload_n 1, 1) := by decide +kernel
theorem dX6_mostAtOnce_49 : decode cX6_mostAtOnce 49 = .ok (.iand, 1) := by decide +kernel
theorem dX6_mostAtOnce_50 : decode cX6_mostAtOnce 50 = .ok (.istore 4, 2) := by decide +kernel
theorem dX6_mostAtOnce_52 : decode cX6_mostAtOnce 52 = .ok (.goto (-44), 3) := by decide +kernel
theorem dX6_mostAtOnce_55 : decode cX6_mostAtOnce 55 = .ok (.iload_n 3, 1) := by decide +kernel
theorem dX6_mostAtOnce_56 : decode cX6_mostAtOnce 56 = .ok (.ireturn, 1) := by decide +kernel
theorem dX7_init_0 : decode cX7_init 0 = .ok (.aload_n 0, 1) := by decide +kernel
theorem dX7_init_1 : decode cX7_init 1 = .ok (.invokespecial 1, 3) := by decide +kernel
theorem dX7_init_4 : decode cX7_init 4 = .ok (.aload_n 0, 1) := by decide +kernel
theorem dX7_init_5 : decode cX7_init 5 = .ok (.bipush 8, 2) := by decide +kernel
theorem dX7_init_7 : decode cX7_init 7 = .ok (.newarray .int, 2) := by decide +kernel
theorem dX7_init_9 : decode cX7_init 9 = .ok (.putfield 7, 3) := by decide +kernel
theorem dX7_init_12 : decode cX7_init 12 = .ok (.aload_n 0, 1) := by decide +kernel
theorem dX7_init_13 : decode cX7_init 13 = .ok (.bipush 8, 2) := by decide +kernel
theorem dX7_init_15 : decode cX7_init 15 = .ok (.newarray .int, 2) := by decide +kernel
theorem dX7_init_17 : decode cX7_init 17 = .ok (.putfield 13, 3) := by decide +kernel
theorem dX7_init_20 : decode cX7_init 20 = .ok (.return_, 1) := by decide +kernel
theorem dX7_takeOver_0 : decode cX7_takeOver 0 = .ok (.aload_n 1, 1) := by decide +kernel
theorem dX7_takeOver_1 : decode cX7_takeOver 1 = .ok (.getfield 7, 3) := by decide +kernel
theorem dX7_takeOver_4 : decode cX7_takeOver 4 = .ok (.iconst 0, 1) := by decide +kernel
theorem dX7_takeOver_5 : decode cX7_takeOver 5 = .ok (.aload_n 0, 1) := by decide +kernel
theorem dX7_takeOver_6 : decode cX7_takeOver 6 = .ok (.getfield 7, 3) := by decide +kernel
theorem dX7_takeOver_9 : decode cX7_takeOver 9 = .ok (.iconst 0, 1) := by decide +kernel
theorem dX7_takeOver_10 : decode cX7_takeOver 10 = .ok (.aload_n 0, 1) := by decide +kernel
theorem dX7_takeOver_11 : decode cX7_takeOver 11 = .ok (.getfield 7, 3) := by decide +kernel
theorem dX7_takeOver_14 : decode cX7_takeOver 14 = .ok (.arraylength, 1) := by decide +kernel
theorem dX7_takeOver_15 : decode cX7_takeOver 15 = .ok (.invokestatic 16, 3) := by decide +kernel
theorem dX7_takeOver_18 : decode cX7_takeOver 18 = .ok (.aload_n 1, 1) := by decide +kernel
theorem dX7_takeOver_19 : decode cX7_takeOver 19 = .ok (.getfield 13, 3) := by decide +kernel
theorem dX7_takeOver_22 : decode cX7_takeOver 22 = .ok (.iconst 0, 1) := by decide +kernel
theorem dX7_takeOver_23 : decode cX7_takeOver 23 = .ok (.aload_n 0, 1) := by decide +kernel
theorem dX7_takeOver_24 : decode cX7_takeOver 24 = .ok (.getfield 13, 3) := by decide +kernel
theorem dX7_takeOver_27 : decode cX7_takeOver 27 = .ok (.iconst 0, 1) := by decide +kernel
theorem dX7_takeOver_28 : decode cX7_takeOver 28 = .ok (.aload_n 0, 1) := by decide +kernel
theorem dX7_takeOver_29 : decode cX7_takeOver 29 = .ok (.getfield 13, 3) := by decide +kernel
theorem dX7_takeOver_32 : decode cX7_takeOver 32 = .ok (.arraylength, 1) := by decide +kernel
theorem dX7_takeOver_33 : decode cX7_takeOver 33 = .ok (.invokestatic 16, 3) := by decide +kernel
theorem dX7_takeOver_36 : decode cX7_takeOver 36 = .ok (.aload_n 0, 1) := by decide +kernel
theorem dX7_takeOver_37 : decode cX7_takeOver 37 = .ok (.aload_n 1, 1) := by decide +kernel
theorem dX7_takeOver_38 : decode cX7_takeOver 38 = .ok (.getfield 22, 3) := by decide +kernel
theorem dX7_takeOver_41 : decode cX7_takeOver 41 = .ok (.putfield 22, 3) := by decide +kernel
theorem dX7_takeOver_44 : decode cX7_takeOver 44 = .ok (.return_, 1) := by decide +kernel
theorem dX7_write_0 : decode cX7_write 0 = .ok (.aload_n 0, 1) := by decide +kernel
theorem dX7_write_1 : decode cX7_write 1 = .ok (.getfield 22, 3) := by decide +kernel
theorem dX7_write_4 : decode cX7_write 4 = .ok (.aload_n 0, 1) := by decide +kernel
theorem dX7_write_5 : decode cX7_write 5 = .ok (.getfield 7, 3) := by decide +kernel
theorem dX7_write_8 : decode cX7_write 8 = .ok (.arraylength, 1) := by decide +kernel
theorem dX7_write_9 : decode cX7_write 9 = .ok (.if_icmp .lt 5, 3) := by decide +kernel
theorem dX7_write_12 : decode cX7_write 12 = .ok (.iconst 0, 1) := by decide +kernel
theorem dX7_write_13 : decode cX7_write 13 = .ok (.ireturn, 1) := by decide +kernel
theorem dX7_write_14 : decode cX7_write 14 = .ok (.aload_n 0, 1) := by decide +kernel
theorem dX7_write_15 : decode cX7_write 15 = .ok (.getfield 7, 3) := by decide +kernel
theorem dX7_write_18 : decode cX7_write 18 = .ok (.aload_n 0, 1) := by decide +kernel
theorem dX7_write_19 : decode cX7_write 19 = .ok (.getfield 22, 3) := by decide +kernel
theorem dX7_write_22 : decode cX7_write 22 = .ok (.iload_n 1, 1) := by decide +kernel
theorem dX7_write_23 : decode cX7_write 23 = .ok (.iastore, 1) := by decide +kernel
theorem dX7_write_24 : decode cX7_write 24 = .ok (.aload_n 0, 1) := by decide +kernel
theorem dX7_write_25 : decode cX7_write 25 = .ok (.getfield 13, 3) := by decide +kernel
theorem dX7_write_28 : decode cX7_write 28 = .ok (.aload_n 0, 1) := by decide +kernel
theorem dX7_write_29 : decode cX7_write 29 = .ok (.getfield 22, 3) := by decide +kernel
theorem dX7_write_32 : decode cX7_write 32 = .ok (.iload_n 2, 1) := by decide +kernel
theorem dX7_write_33 : decode cX7_write 33 = .ok (.iastore, 1) := by decide +kernel
theorem dX7_write_34 : decode cX7_write 34 = .ok (.aload_n 0, 1) := by decide +kernel
theorem dX7_write_35 : decode cX7_write 35 = .ok (.dup, 1) := by decide +kernel
theorem dX7_write_36 : decode cX7_write 36 = .ok (.getfield 22, 3) := by decide +kernel
theorem dX7_write_39 : decode cX7_write 39 = .ok (.iconst 1, 1) := by decide +kernel
theorem dX7_write_40 : decode cX7_write 40 = .ok (.iadd, 1) := by decide +kernel
theorem dX7_write_41 : decode cX7_write 41 = .ok (.putfield 22, 3) := by decide +kernel
theorem dX7_write_44 : decode cX7_write 44 = .ok (.iconst 1, 1) := by decide +kernel
theorem dX7_write_45 : decode cX7_write 45 = .ok (.ireturn, 1) := by decide +kernel
theorem dX8_init_0 : decode cX8_init 0 = .ok (.aload_n 0, 1) := by decide +kernel
theorem dX8_init_1 : decode cX8_init 1 = .ok (.invokespecial 3, 3) := by decide +kernel
theorem dX8_init_4 : decode cX8_init 4 = .ok (.aload_n 0, 1) := by decide +kernel
theorem dX8_init_5 : decode cX8_init 5 = .ok (.bipush 60, 2) := by decide +kernel
theorem dX8_init_7 : decode cX8_init 7 = .ok (.newarray .int, 2) := by decide +kernel
theorem dX8_init_9 : decode cX8_init 9 = .ok (.putfield 9, 3) := by decide +kernel
theorem dX8_init_12 : decode cX8_init 12 = .ok (.return_, 1) := by decide +kernel
theorem dX8_write_0 : decode cX8_write 0 = .ok (.aload_n 0, 1) := by decide +kernel
theorem dX8_write_1 : decode cX8_write 1 = .ok (.getfield 15, 3) := by decide +kernel
theorem dX8_write_4 : decode cX8_write 4 = .ok (.aload_n 0, 1) := by decide +kernel
theorem dX8_write_5 : decode cX8_write 5 = .ok (.getfield 9, 3) := by decide +kernel
theorem dX8_write_8 : decode cX8_write 8 = .ok (.arraylength, 1) := by decide +kernel
theorem dX8_write_9 : decode cX8_write 9 = .ok (.if_icmp .lt 5, 3) := by decide +kernel
theorem dX8_write_12 : decode cX8_write 12 = .ok (.iconst 0, 1) := by decide +kernel
theorem dX8_write_13 : decode cX8_write 13 = .ok (.ireturn, 1) := by decide +kernel
theorem dX8_write_14 : decode cX8_write 14 = .ok (.aload_n 0, 1) := by decide +kernel
theorem dX8_write_15 : decode cX8_write 15 = .ok (.getfield 9, 3) := by decide +kernel
theorem dX8_write_18 : decode cX8_write 18 = .ok (.aload_n 0, 1) := by decide +kernel
theorem dX8_write_19 : decode cX8_write 19 = .ok (.getfield 15, 3) := by decide +kernel
theorem dX8_write_22 : decode cX8_write 22 = .ok (.iload_n 1, 1) := by decide +kernel
theorem dX8_write_23 : decode cX8_write 23 = .ok (.iastore, 1) := by decide +kernel
theorem dX8_write_24 : decode cX8_write 24 = .ok (.aload_n 0, 1) := by decide +kernel
theorem dX8_write_25 : decode cX8_write 25 = .ok (.dup, 1) := by decide +kernel
theorem dX8_write_26 : decode cX8_write 26 = .ok (.getfield 15, 3) := by decide +kernel
theorem dX8_write_29 : decode cX8_write 29 = .ok (.iconst 1, 1) := by decide +kernel
theorem dX8_write_30 : decode cX8_write 30 = .ok (.iadd, 1) := by decide +kernel
theorem dX8_write_31 : decode cX8_write 31 = .ok (.putfield 15, 3) := by decide +kernel
theorem dX8_write_34 : decode cX8_write 34 = .ok (.iconst 1, 1) := by decide +kernel
theorem dX8_write_35 : decode cX8_write 35 = .ok (.ireturn, 1) := by decide +kernel
end
section
theorem dX8_faultPlace_0 : decode cX8_faultPlace 0 = .ok (.iconst 0, 1) := by decide +kernel
theorem dX8_faultPlace_1 : decode cX8_faultPlace 1 = .ok (.istore_n 1, 1) := by decide +kernel
theorem dX8_faultPlace_2 : decode cX8_faultPlace 2 = .ok (.iconst 0, 1) := by decide +kernel
theorem dX8_faultPlace_3 : decode cX8_faultPlace 3 = .ok (.istore_n 2, 1) := by decide +kernel
theorem dX8_faultPlace_4 : decode cX8_faultPlace 4 = .ok (.iload_n 2, 1) := by decide +kernel
theorem dX8_faultPlace_5 : decode cX8_faultPlace 5 = .ok (.aload_n 0, 1) := by decide +kernel
theorem dX8_faultPlace_6 : decode cX8_faultPlace 6 = .ok (.getfield 15, 3) := by decide +kernel
theorem dX8_faultPlace_9 : decode cX8_faultPlace 9 = .ok (.if_icmp .ge 72, 3) := by decide +kernel
theorem dX8_faultPlace_12 : decode cX8_faultPlace 12 = .ok (.iload_n 1, 1) := by decide +kernel
theorem dX8_faultPlace_13 : decode cX8_faultPlace 13 = .ok (.ifCond .eq 26, 3) := by decide +kernel
theorem dX8_faultPlace_16 : decode cX8_faultPlace 16 = .ok (.aload_n 0, 1) := by decide +kernel
theorem dX8_faultPlace_17 : decode cX8_faultPlace 17 = .ok (.getfield 9, 3) := by decide +kernel
theorem dX8_faultPlace_20 : decode cX8_faultPlace 20 = .ok (.iload_n 2, 1) := by decide +kernel
theorem dX8_faultPlace_21 : decode cX8_faultPlace 21 = .ok (.iconst 1, 1) := by decide +kernel
theorem dX8_faultPlace_22 : decode cX8_faultPlace 22 = .ok (.isub, 1) := by decide +kernel
theorem dX8_faultPlace_23 : decode cX8_faultPlace 23 = .ok (.iaload, 1) := by decide +kernel
theorem dX8_faultPlace_24 : decode cX8_faultPlace 24 = .ok (.aload_n 0, 1) := by decide +kernel
theorem dX8_faultPlace_25 : decode cX8_faultPlace 25 = .ok (.getfield 9, 3) := by decide +kernel
theorem dX8_faultPlace_28 : decode cX8_faultPlace 28 = .ok (.iload_n 2, 1) := by decide +kernel
theorem dX8_faultPlace_29 : decode cX8_faultPlace 29 = .ok (.iaload, 1) := by decide +kernel
theorem dX8_faultPlace_30 : decode cX8_faultPlace 30 = .ok (.invokestatic 19, 3) := by decide +kernel
theorem dX8_faultPlace_33 : decode cX8_faultPlace 33 = .ok (.ifCond .ne 20, 3) := by decide +kernel
theorem dX8_faultPlace_36 : decode cX8_faultPlace 36 = .ok (.goto 15, 3) := by decide +kernel
theorem dX8_faultPlace_39 : decode cX8_faultPlace 39 = .ok (.aload_n 0, 1) := by decide +kernel
theorem dX8_faultPlace_40 : decode cX8_faultPlace 40 = .ok (.getfield 9, 3) := by decide +kernel
theorem dX8_faultPlace_43 : decode cX8_faultPlace 43 = .ok (.iload_n 2, 1) := by decide +kernel
theorem dX8_faultPlace_44 : decode cX8_faultPlace 44 = .ok (.iaload, 1) := by decide +kernel
theorem dX8_faultPlace_45 : decode cX8_faultPlace 45 = .ok (.invokestatic 23, 3) := by decide +kernel
theorem dX8_faultPlace_48 : decode cX8_faultPlace 48 = .ok (.ifCond .ne 5, 3) := by decide +kernel
theorem dX8_faultPlace_51 : decode cX8_faultPlace 51 = .ok (.iload_n 2, 1) := by decide +kernel
theorem dX8_faultPlace_52 : decode cX8_faultPlace 52 = .ok (.ireturn, 1) := by decide +kernel
theorem dX8_faultPlace_53 : decode cX8_faultPlace 53 = .ok (.iload_n 1, 1) := by decide +kernel
theorem dX8_faultPlace_54 : decode cX8_faultPlace 54 = .ok (.ifCond .ne 19, 3) := by decide +kernel
theorem dX8_faultPlace_57 : decode cX8_faultPlace 57 = .ok (.aload_n 0, 1) := by decide +kernel
theorem dX8_faultPlace_58 : decode cX8_faultPlace 58 = .ok (.getfield 9, 3) := by decide +kernel
theorem dX8_faultPlace_61 : decode cX8_faultPlace 61 = .ok (.iload_n 2, 1) := by decide +kernel
theorem dX8_faultPlace_62 : decode cX8_faultPlace 62 = .ok (.iaload, 1) := by decide +kernel
theorem dX8_faultPlace_63 : decode cX8_faultPlace 63 = .ok (.invokestatic 27, 3) := by decide +kernel
theorem dX8_faultPlace_66 : decode cX8_faultPlace 66 = .ok (.ifCond .eq 7, 3) := by decide +kernel
theorem dX8_faultPlace_69 : decode cX8_faultPlace 69 = .ok (.iconst 1, 1) := by decide +kernel
theorem dX8_faultPlace_70 : decode cX8_faultPlace 70 = .ok (.goto 4, 3) := by decide +kernel
theorem dX8_faultPlace_73 : decode cX8_faultPlace 73 = .ok (.iconst 0, 1) := by decide +kernel
theorem dX8_faultPlace_74 : decode cX8_faultPlace 74 = .ok (.istore_n 1, 1) := by decide +kernel
theorem dX8_faultPlace_75 : decode cX8_faultPlace 75 = .ok (.iinc 2 1, 3) := by decide +kernel
theorem dX8_faultPlace_78 : decode cX8_faultPlace 78 = .ok (.goto (-74), 3) := by decide +kernel
theorem dX8_faultPlace_81 : decode cX8_faultPlace 81 = .ok (.iload_n 1, 1) := by decide +kernel
theorem dX8_faultPlace_82 : decode cX8_faultPlace 82 = .ok (.ifCond .eq 10, 3) := by decide +kernel
theorem dX8_faultPlace_85 : decode cX8_faultPlace 85 = .ok (.aload_n 0, 1) := by decide +kernel
theorem dX8_faultPlace_86 : decode cX8_faultPlace 86 = .ok (.getfield 15, 3) := by decide +kernel
theorem dX8_faultPlace_89 : decode cX8_faultPlace 89 = .ok (.goto 5, 3) := by decide +kernel
theorem dX8_faultPlace_92 : decode cX8_faultPlace 92 = .ok (.bipush (-6), 2) := by decide +kernel
theorem dX8_faultPlace_94 : decode cX8_faultPlace 94 = .ok (.ireturn, 1) := by decide +kernel
theorem dX8_kindAt_0 : decode cX8_kindAt 0 = .ok (.aload_n 0, 1) := by decide +kernel
theorem dX8_kindAt_1 : decode cX8_kindAt 1 = .ok (.getfield 9, 3) := by decide +kernel
theorem dX8_kindAt_4 : decode cX8_kindAt 4 = .ok (.iload_n 1, 1) := by decide +kernel
theorem dX8_kindAt_5 : decode cX8_kindAt 5 = .ok (.iaload, 1) := by decide +kernel
theorem dX8_kindAt_6 : decode cX8_kindAt 6 = .ok (.invokestatic 30, 3) := by decide +kernel
theorem dX8_kindAt_9 : decode cX8_kindAt 9 = .ok (.ifCond .eq 8, 3) := by decide +kernel
theorem dX8_kindAt_12 : decode cX8_kindAt 12 = .ok (.bipush 65, 2) := by decide +kernel
theorem dX8_kindAt_14 : decode cX8_kindAt 14 = .ok (.goto 9, 3) := by decide +kernel
theorem dX8_kindAt_17 : decode cX8_kindAt 17 = .ok (.aload_n 0, 1) := by decide +kernel
theorem dX8_kindAt_18 : decode cX8_kindAt 18 = .ok (.getfield 9, 3) := by decide +kernel
theorem dX8_kindAt_21 : decode cX8_kindAt 21 = .ok (.iload_n 1, 1) := by decide +kernel
theorem dX8_kindAt_22 : decode cX8_kindAt 22 = .ok (.iaload, 1) := by decide +kernel
theorem dX8_kindAt_23 : decode cX8_kindAt 23 = .ok (.ireturn, 1) := by decide +kernel
theorem dX8_operandAt_0 : decode cX8_operandAt 0 = .ok (.aload_n 0, 1) := by decide +kernel
theorem dX8_operandAt_1 : decode cX8_operandAt 1 = .ok (.getfield 9, 3) := by decide +kernel
theorem dX8_operandAt_4 : decode cX8_operandAt 4 = .ok (.iload_n 1, 1) := by decide +kernel
theorem dX8_operandAt_5 : decode cX8_operandAt 5 = .ok (.iaload, 1) := by decide +kernel
theorem dX8_operandAt_6 : decode cX8_operandAt 6 = .ok (.invokestatic 27, 3) := by decide +kernel
theorem dX8_operandAt_9 : decode cX8_operandAt 9 = .ok (.ifCond .ne 13, 3) := by decide +kernel
theorem dX8_operandAt_12 : decode cX8_operandAt 12 = .ok (.aload_n 0, 1) := by decide +kernel
theorem dX8_operandAt_13 : decode cX8_operandAt 13 = .ok (.getfield 9, 3) := by decide +kernel
theorem dX8_operandAt_16 : decode cX8_operandAt 16 = .ok (.iload_n 1, 1) := by decide +kernel
theorem dX8_operandAt_17 : decode cX8_operandAt 17 = .ok (.iaload, 1) := by decide +kernel
theorem dX8_operandAt_18 : decode cX8_operandAt 18 = .ok (.bipush 65, 2) := by decide +kernel
theorem dX8_operandAt_20 : decode cX8_operandAt 20 = .ok (.isub, 1) := by decide +kernel
theorem dX8_operandAt_21 : decode cX8_operandAt 21 = .ok (.ireturn, 1) := by decide +kernel
theorem dX8_operandAt_22 : decode cX8_operandAt 22 = .ok (.iload_n 1, 1) := by decide +kernel
theorem dX8_operandAt_23 : decode cX8_operandAt 23 = .ok (.iconst 1, 1) := by decide +kernel
theorem dX8_operandAt_24 : decode cX8_operandAt 24 = .ok (.iadd, 1) := by decide +kernel
theorem dX8_operandAt_25 : decode cX8_operandAt 25 = .ok (.aload_n 0, 1) := by decide +kernel
theorem dX8_operandAt_26 : decode cX8_operandAt 26 = .ok (.getfield 15, 3) := by decide +kernel
theorem dX8_operandAt_29 : decode cX8_operandAt 29 = .ok (.if_icmp .ge 14, 3) := by decide +kernel
theorem dX8_operandAt_32 : decode cX8_operandAt 32 = .ok (.aload_n 0, 1) := by decide +kernel
theorem dX8_operandAt_33 : decode cX8_operandAt 33 = .ok (.getfield 9, 3) := by decide +kernel
theorem dX8_operandAt_36 : decode cX8_operandAt 36 = .ok (.iload_n 1, 1) := by decide +kernel
theorem dX8_operandAt_37 : decode cX8_operandAt 37 = .ok (.iconst 1, 1) := by decide +kernel
theorem dX8_operandAt_38 : decode cX8_operandAt 38 = .ok (.iadd, 1) := by decide +kernel
theorem dX8_operandAt_39 : decode cX8_operandAt 39 = .ok (.iaload, 1) := by decide +kernel
theorem dX8_operandAt_40 : decode cX8_operandAt 40 = .ok (.goto 5, 3) := by decide +kernel
theorem dX8_operandAt_43 : decode cX8_operandAt 43 = .ok (.bipush 65, 2) := by decide +kernel
theorem dX8_operandAt_45 : decode cX8_operandAt 45 = .ok (.istore_n 2, 1) := by decide +kernel
theorem dX8_operandAt_46 : decode cX8_operandAt 46 = .ok (.iload_n 2, 1) := by decide +kernel
theorem dX8_operandAt_47 : decode cX8_operandAt 47 = .ok (.invokestatic 30, 3) := by decide +kernel
theorem dX8_operandAt_50 : decode cX8_operandAt 50 = .ok (.ifCond .eq 10, 3) := by decide +kernel
theorem dX8_operandAt_53 : decode cX8_operandAt 53 = .ok (.iload_n 2, 1) := by decide +kernel
theorem dX8_operandAt_54 : decode cX8_operandAt 54 = .ok (.bipush 65, 2) := by decide +kernel
theorem dX8_operandAt_56 : decode cX8_operandAt 56 = .ok (.isub, 1) := by decide +kernel
theorem dX8_operandAt_57 : decode cX8_operandAt 57 = .ok (.goto 7, 3) := by decide +kernel
theorem dX8_operandAt_60 : decode cX8_operandAt 60 = .ok (.iload_n 2, 1) := by decide +kernel
theorem dX8_operandAt_61 : decode cX8_operandAt 61 = .ok (.bipush 48, 2) := by decide +kernel
theorem dX8_operandAt_63 : decode cX8_operandAt 63 = .ok (.isub, 1) := by decide +kernel
theorem dX8_operandAt_64 : decode cX8_operandAt 64 = .ok (.ireturn, 1) := by decide +kernel
theorem dX8_widthAt_0 : decode cX8_widthAt 0 = .ok (.aload_n 0, 1) := by decide +kernel
theorem dX8_widthAt_1 : decode cX8_widthAt 1 = .ok (.getfield 9, 3) := by decide +kernel
theorem dX8_widthAt_4 : decode cX8_widthAt 4 = .ok (.iload_n 1, 1) := by decide +kernel
theorem dX8_widthAt_5 : decode cX8_widthAt 5 = .ok (.iaload, 1) := by decide +kernel
theorem dX8_widthAt_6 : decode cX8_widthAt 6 = .ok (.invokestatic 27, 3) := by decide +kernel
theorem dX8_widthAt_9 : decode cX8_widthAt 9 = .ok (.ifCond .eq 7, 3) := by decide +kernel
theorem dX8_widthAt_12 : decode cX8_widthAt 12 = .ok (.iconst 2, 1) := by decide +kernel
theorem dX8_widthAt_13 : decode cX8_widthAt 13 = .ok (.goto 4, 3) := by decide +kernel
theorem dX8_widthAt_16 : decode cX8_widthAt 16 = .ok (.iconst 1, 1) := by decide +kernel
theorem dX8_widthAt_17 : decode cX8_widthAt 17 = .ok (.ireturn, 1) := by decide +kernel
theorem dX8_begins_0 : decode cX8_begins 0 = .ok (.iload_n 0, 1) := by decide +kernel
theorem dX8_begins_1 : decode cX8_begins 1 = .ok (.invokestatic 30, 3) := by decide +kernel
theorem dX8_begins_4 : decode cX8_begins 4 = .ok (.ifCond .ne 22, 3) := by decide +kernel
theorem dX8_begins_7 : decode cX8_begins 7 = .ok (.iload_n 0, 1) := by decide +kernel
theorem dX8_begins_8 : decode cX8_begins 8 = .ok (.bipush 63, 2) := by decide +kernel
theorem dX8_begins_10 : decode cX8_begins 10 = .ok (.if_icmp .eq 16, 3) := by decide +kernel
theorem dX8_begins_13 : decode cX8_begins 13 = .ok (.iload_n 0, 1) := by decide +kernel
theorem dX8_begins_14 : decode cX8_begins 14 = .ok (.bipush 46, 2) := by decide +kernel
theorem dX8_begins_16 : decode cX8_begins 16 = .ok (.if_icmp .eq 10, 3) := by decide +kernel
theorem dX8_begins_19 : decode cX8_begins 19 = .ok (.iload_n 0, 1) := by decide +kernel
theorem dX8_begins_20 : decode cX8_begins 20 = .ok (.invokestatic 27, 3) := by decide +kernel
theorem dX8_begins_23 : decode cX8_begins 23 = .ok (.ifCond .eq 7, 3) := by decide +kernel
theorem dX8_begins_26 : decode cX8_begins 26 = .ok (.iconst 1, 1) := by decide +kernel
theorem dX8_begins_27 : decode cX8_begins 27 = .ok (.goto 4, 3) := by decide +kernel
theorem dX8_begins_30 : decode cX8_begins 30 = .ok (.iconst 0, 1) := by decide +kernel
theorem dX8_begins_31 : decode cX8_begins 31 = .ok (.ireturn, 1) := by decide +kernel
theorem dX8_ends_0 : decode cX8_ends 0 = .ok (.iload_n 0, 1) := by decide +kernel
theorem dX8_ends_1 : decode cX8_ends 1 = .ok (.bipush 61, 2) := by decide +kernel
theorem dX8_ends_3 : decode cX8_ends 3 = .ok (.if_icmp .ne 10, 3) := by decide +kernel
theorem dX8_ends_6 : decode cX8_ends 6 = .ok (.iload_n 1, 1) := by decide +kernel
theorem dX8_ends_7 : decode cX8_ends 7 = .ok (.invokestatic 30, 3) := by decide +kernel
theorem dX8_ends_10 : decode cX8_ends 10 = .ok (.goto 10, 3) := by decide +kernel
theorem dX8_ends_13 : decode cX8_ends 13 = .ok (.iload_n 1, 1) := by decide +kernel
theorem dX8_ends_14 : decode cX8_ends 14 = .ok (.bipush 48, 2) := by decide +kernel
theorem dX8_ends_16 : decode cX8_ends 16 = .ok (.isub, 1) := by decide +kernel
theorem dX8_ends_17 : decode cX8_ends 17 = .ok (.invokestatic 33, 3) := by decide +kernel
theorem dX8_ends_20 : decode cX8_ends 20 = .ok (.ireturn, 1) := by decide +kernel
theorem dX8_isOfTwo_0 : decode cX8_isOfTwo 0 = .ok (.iload_n 0, 1) := by decide +kernel
theorem dX8_isOfTwo_1 : decode cX8_isOfTwo 1 = .ok (.bipush 43, 2) := by decide +kernel
theorem dX8_isOfTwo_3 : decode cX8_isOfTwo 3 = .ok (.if_icmp .eq 15, 3) := by decide +kernel
theorem dX8_isOfTwo_6 : decode cX8_isOfTwo 6 = .ok (.iload_n 0, 1) := by decide +kernel
theorem dX8_isOfTwo_7 : decode cX8_isOfTwo 7 = .ok (.bipush 45, 2) := by decide +kernel
theorem dX8_isOfTwo_9 : decode cX8_isOfTwo 9 = .ok (.if_icmp .eq 9, 3) := by decide +kernel
theorem dX8_isOfTwo_12 : decode cX8_isOfTwo 12 = .ok (.iload_n 0, 1) := by decide +kernel
theorem dX8_isOfTwo_13 : decode cX8_isOfTwo 13 = .ok (.bipush 61, 2) := by decide +kernel
theorem dX8_isOfTwo_15 : decode cX8_isOfTwo 15 = .ok (.if_icmp .ne 7, 3) := by decide +kernel
theorem dX8_isOfTwo_18 : decode cX8_isOfTwo 18 = .ok (.iconst 1, 1) := by decide +kernel
theorem dX8_isOfTwo_19 : decode cX8_isOfTwo 19 = .ok (.goto 4, 3) := by decide +kernel
theorem dX8_isOfTwo_22 : decode cX8_isOfTwo 22 = .ok (.iconst 0, 1) := by decide +kernel
theorem dX8_isOfTwo_23 : decode cX8_isOfTwo 23 = .ok (.ireturn, 1) := by decide +kernel
theorem dX8_isLetter_0 : decode cX8_isLetter 0 = .ok (.iload_n 0, 1) := by decide +kernel
theorem dX8_isLetter_1 : decode cX8_isLetter 1 = .ok (.bipush 65, 2) := by decide +kernel
theorem dX8_isLetter_3 : decode cX8_isLetter 3 = .ok (.isub, 1) := by decide +kernel
theorem dX8_isLetter_4 : decode cX8_isLetter 4 = .ok (.invokestatic 36, 3) := by decide +kernel
theorem dX8_isLetter_7 : decode cX8_isLetter 7 = .ok (.ireturn, 1) := by decide +kernel
theorem dX9_init_0 : decode cX9_init 0 = .ok (.aload_n 0, 1) := by decide +kernel
theorem dX9_init_1 : decode cX9_init 1 = .ok (.invokespecial 3, 3) := by decide +kernel
theorem dX9_init_4 : decode cX9_init 4 = .ok (.aload_n 0, 1) := by decide +kernel
theorem dX9_init_5 : decode cX9_init 5 = .ok (.bipush 13, 2) := by decide +kernel
theorem dX9_init_7 : decode cX9_init 7 = .ok (.newarray .long, 2) := by decide +kernel
theorem dX9_init_9 : decode cX9_init 9 = .ok (.putfield 9, 3) := by decide +kernel
theorem dX9_init_12 : decode cX9_init 12 = .ok (.return_, 1) := by decide +kernel
theorem dX9_spread_0 : decode cX9_spread 0 = .ok (.iconst 0, 1) := by decide +kernel
theorem dX9_spread_1 : decode cX9_spread 1 = .ok (.istore_n 3, 1) := by decide +kernel
theorem dX9_spread_2 : decode cX9_spread 2 = .ok (.iload_n 3, 1) := by decide +kernel
theorem dX9_spread_3 : decode cX9_spread 3 = .ok (.bipush 12, 2) := by decide +kernel
theorem dX9_spread_5 : decode cX9_spread 5 = .ok (.if_icmp .gt 16, 3) := by decide +kernel
theorem dX9_spread_8 : decode cX9_spread 8 = .ok (.aload_n 0, 1) := by decide +kernel
theorem dX9_spread_9 : decode cX9_spread 9 = .ok (.getfield 9, 3) := by decide +kernel
theorem dX9_spread_12 : decode cX9_spread 12 = .ok (.iload_n 3, 1) := by decide +kernel
theorem dX9_spread_13 : decode cX9_spread 13 = .ok (.lconst 0, 1) := by decide +kernel
theorem dX9_spread_14 : decode cX9_spread 14 = .ok (.lastore, 1) := by decide +kernel
theorem dX9_spread_15 : decode cX9_spread 15 = .ok (.iinc 3 1, 3) := by decide +kernel
theorem dX9_spread_18 : decode cX9_spread 18 = .ok (.goto (-16), 3) := by decide +kernel
theorem dX9_spread_21 : decode cX9_spread 21 = .ok (.aload_n 0, 1) := by decide +kernel
theorem dX9_spread_22 : decode cX9_spread 22 = .ok (.getfield 9, 3) := by decide +kernel
theorem dX9_spread_25 : decode cX9_spread 25 = .ok (.iconst 0, 1) := by decide +kernel
theorem dX9_spread_26 : decode cX9_spread 26 = .ok (.lconst 1, 1) := by decide +kernel
theorem dX9_spread_27 : decode cX9_spread 27 = .ok (.lastore, 1) := by decide +kernel
theorem dX9_spread_28 : decode cX9_spread 28 = .ok (.aload_n 0, 1) := by decide +kernel
theorem dX9_spread_29 : decode cX9_spread 29 = .ok (.lconst 1, 1) := by decide +kernel
theorem dX9_spread_30 : decode cX9_spread 30 = .ok (.putfield 15, 3) := by decide +kernel
theorem dX9_spread_33 : decode cX9_spread 33 = .ok (.iconst 0, 1) := by decide +kernel
theorem dX9_spread_34 : decode cX9_spread 34 = .ok (.istore_n 3, 1) := by decide +kernel
theorem dX9_spread_35 : decode cX9_spread 35 = .ok (.iload_n 3, 1) := by decide +kernel
theorem dX9_spread_36 : decode cX9_spread 36 = .ok (.iload_n 1, 1) := by decide +kernel
theorem dX9_spread_37 : decode cX9_spread 37 = .ok (.if_icmp .ge 83, 3) := by decide +kernel
theorem dX9_spread_40 : decode cX9_spread 40 = .ok (.bipush 12, 2) := by decide +kernel
theorem dX9_spread_42 : decode cX9_spread 42 = .ok (.istore 4, 2) := by decide +kernel
theorem dX9_spread_44 : decode cX9_spread 44 = .ok (.iload 4, 2) := by decide +kernel
theorem dX9_spread_46 : decode cX9_spread 46 = .ok (.ifCond .le 42, 3) := by decide +kernel
theorem dX9_spread_49 : decode cX9_spread 49 = .ok (.aload_n 0, 1) := by decide +kernel
theorem dX9_spread_50 : decode cX9_spread 50 = .ok (.getfield 9, 3) := by decide +kernel
theorem dX9_spread_53 : decode cX9_spread 53 = .ok (.iload 4, 2) := by decide +kernel
theorem dX9_spread_55 : decode cX9_spread 55 = .ok (.aload_n 0, 1) := by decide +kernel
theorem dX9_spread_56 : decode cX9_spread 56 = .ok (.getfield 9, 3) := by decide +kernel
theorem dX9_spread_59 : decode cX9_spread 59 = .ok (.iload 4, 2) := by decide +kernel
theorem dX9_spread_61 : decode cX9_spread 61 = .ok (.laload, 1) := by decide +kernel
theorem dX9_spread_62 : decode cX9_spread 62 = .ok (.bipush 10, 2) := by decide +kernel
theorem dX9_spread_64 : decode cX9_spread 64 = .ok (.iload_n 2, 1) := by decide +kernel
theorem dX9_spread_65 : decode cX9_spread 65 = .ok (.isub, 1) := by decide +kernel
theorem dX9_spread_66 : decode cX9_spread 66 = .ok (.i2l, 1) := by decide +kernel
theorem dX9_spread_67 : decode cX9_spread 67 = .ok (.lmul, 1) := by decide +kernel
theorem dX9_spread_68 : decode cX9_spread 68 = .ok (.aload_n 0, 1) := by decide +kernel
theorem dX9_spread_69 : decode cX9_spread 69 = .ok (.getfield 9, 3) := by decide +kernel
theorem dX9_spread_72 : decode cX9_spread 72 = .ok (.iload 4, 2) := by decide +kernel
theorem dX9_spread_74 : decode cX9_spread 74 = .ok (.iconst 1, 1) := by decide +kernel
theorem dX9_spread_75 : decode cX9_spread 75 = .ok (.isub, 1) := by decide +kernel
theorem dX9_spread_76 : decode cX9_spread 76 = .ok (.laload, 1) := by decide +kernel
theorem dX9_spread_77 : decode cX9_spread 77 = .ok (.iload_n 2, 1) := by decide +kernel
theorem dX9_spread_78 : decode cX9_spread 78 = .ok (.i2l, 1) := by decide +kernel
theorem dX9_spread_79 : decode cX9_spread 79 = .ok (.lmul, 1) := by decide +kernel
theorem dX9_spread_80 : decode cX9_spread 80 = .ok (.ladd, 1) := by decide +kernel
theorem dX9_spread_81 : decode cX9_spread 81 = .ok (.lastore, 1) := by decide +kernel
theorem dX9_spread_82 : decode cX9_spread 82 = .ok (.iinc 4 (-1), 3) := by decide +kernel
theorem dX9_spread_85 : decode cX9_spread 85 = .ok (.goto (-41), 3) := by decide +kernel
theorem dX9_spread_88 : decode cX9_spread 88 = .ok (.aload_n 0, 1) := by decide +kernel
theorem dX9_spread_89 : decode cX9_spread 89 = .ok (.getfield 9, 3) := by decide +kernel
theorem dX9_spread_92 : decode cX9_spread 92 = .ok (.iconst 0, 1) := by decide +kernel
theorem dX9_spread_93 : decode cX9_spread 93 = .ok (.dup2, 1) := by decide +kernel
theorem dX9_spread_94 : decode cX9_spread 94 = .ok (.laload, 1) := by decide +kernel
theorem dX9_spread_95 : decode cX9_spread 95 = .ok (.bipush 10, 2) := by decide +kernel
theorem dX9_spread_97 : decode cX9_spread 97 = .ok (.iload_n 2, 1) := by decide +kernel
theorem dX9_spread_98 : decode cX9_spread 98 = .ok (.isub, 1) := by decide +kernel
theorem dX9_spread_99 : decode cX9_spread 99 = .ok (.i2l, 1) := by decide +kernel
theorem dX9_spread_100 : decode cX9_spread 100 = .ok (.lmul, 1) := by decide +kernel
theorem dX9_spread_101 : decode cX9_spread 101 = .ok (.lastore, 1) := by decide +kernel
theorem dX9_spread_102 : decode cX9_spread 102 = .ok (.aload_n 0, 1) := by decide +kernel
theorem dX9_spread_103 : decode cX9_spread 103 = .ok (.dup, 1) := by decide +kernel
theorem dX9_spread_104 : decode cX9_spread 104 = .ok (.getfield 15, 3) := by decide +kernel
theorem dX9_spread_107 : decode cX9_spread 107 = .ok (.ldc2_w 19, 3) := by decide +kernel
theorem dX9_spread_110 : decode cX9_spread 110 = .ok (.lmul, 1) := by decide +kernel
theorem dX9_spread_111 : decode cX9_spread 111 = .ok (.putfield 15, 3) := by decide +kernel
theorem dX9_spread_114 : decode cX9_spread 114 = .ok (.iinc 3 1, 3) := by decide +kernel
theorem dX9_spread_117 : decode cX9_spread 117 = .ok (.goto (-82), 3) := by decide +kernel
theorem dX9_spread_120 : decode cX9_spread 120 = .ok (.return_, 1) := by decide +kernel
theorem dX9_waysToReach_0 : decode cX9_waysToReach 0 = .ok (.lconst 0, 1) := by decide +kernel
theorem dX9_waysToReach_1 : decode cX9_waysToReach 1 = .ok (.lstore_n 2, 1) := by decide +kernel
theorem dX9_waysToReach_2 : decode cX9_waysToReach 2 = .ok (.iload_n 1, 1) := by decide +kernel
theorem dX9_waysToReach_3 : decode cX9_waysToReach 3 = .ok (.istore 4, 2) := by decide +kernel
theorem dX9_waysToReach_5 : decode cX9_waysToReach 5 = .ok (.iload 4, 2) := by decide +kernel
theorem dX9_waysToReach_7 : decode cX9_waysToReach 7 = .ok (.bipush 12, 2) := by decide +kernel
theorem dX9_waysToReach_9 : decode cX9_waysToReach 9 = .ok (.if_icmp .gt 19, 3) := by decide +kernel
theorem dX9_waysToReach_12 : decode cX9_waysToReach 12 = .ok (.lload_n 2, 1) := by decide +kernel
theorem dX9_waysToReach_13 : decode cX9_waysToReach 13 = .ok (.aload_n 0, 1) := by decide +kernel
theorem dX9_waysToReach_14 : decode cX9_waysToReach 14 = .ok (.getfield 9, 3) := by decide +kernel
theorem dX9_waysToReach_17 : decode cX9_waysToReach 17 = .ok (.iload 4, 2) := by decide +kernel
theorem dX9_waysToReach_19 : decode cX9_waysToReach 19 = .ok (.laload, 1) := by decide +kernel
theorem dX9_waysToReach_20 : decode cX9_waysToReach 20 = .ok (.ladd, 1) := by decide +kernel
theorem dX9_waysToReach_21 : decode cX9_waysToReach 21 = .ok (.lstore_n 2, 1) := by decide +kernel
theorem dX9_waysToReach_22 : decode cX9_waysToReach 22 = .ok (.iinc 4 1, 3) := by decide +kernel
theorem dX9_waysToReach_25 : decode cX9_waysToReach 25 = .ok (.goto (-20), 3) := by decide +kernel
theorem dX9_waysToReach_28 : decode cX9_waysToReach 28 = .ok (.lload_n 2, 1) := by decide +kernel
theorem dX9_waysToReach_29 : decode cX9_waysToReach 29 = .ok (.lreturn, 1) := by decide +kernel
theorem dX9_lengthsUpTo_0 : decode cX9_lengthsUpTo 0 = .ok (.lconst 0, 1) := by decide +kernel
theorem dX9_lengthsUpTo_1 : decode cX9_lengthsUpTo 1 = .ok (.lstore_n 2, 1) := by decide +kernel
theorem dX9_lengthsUpTo_2 : decode cX9_lengthsUpTo 2 = .ok (.iconst 1, 1) := by decide +kernel
theorem dX9_lengthsUpTo_3 : decode cX9_lengthsUpTo 3 = .ok (.istore 4, 2) := by decide +kernel
theorem dX9_lengthsUpTo_5 : decode cX9_lengthsUpTo 5 = .ok (.iload 4, 2) := by decide +kernel
theorem dX9_lengthsUpTo_7 : decode cX9_lengthsUpTo 7 = .ok (.bipush 12, 2) := by decide +kernel
theorem dX9_lengthsUpTo_9 : decode cX9_lengthsUpTo 9 = .ok (.if_icmp .gt 27, 3) := by decide +kernel
theorem dX9_lengthsUpTo_12 : decode cX9_lengthsUpTo 12 = .ok (.lload_n 2, 1) := by decide +kernel
theorem dX9_lengthsUpTo_13 : decode cX9_lengthsUpTo 13 = .ok (.iload 4, 2) := by decide +kernel
theorem dX9_lengthsUpTo_15 : decode cX9_lengthsUpTo 15 = .ok (.iload_n 1, 1) := by decide +kernel
theorem dX9_lengthsUpTo_16 : decode cX9_lengthsUpTo 16 = .ok (.invokestatic 21, 3) := by decide +kernel
theorem dX9_lengthsUpTo_19 : decode cX9_lengthsUpTo 19 = .ok (.i2l, 1) := by decide +kernel
theorem dX9_lengthsUpTo_20 : decode cX9_lengthsUpTo 20 = .ok (.aload_n 0, 1) := by decide +kernel
theorem dX9_lengthsUpTo_21 : decode cX9_lengthsUpTo 21 = .ok (.getfield 9, 3) := by decide +kernel
theorem dX9_lengthsUpTo_24 : decode cX9_lengthsUpTo 24 = .ok (.iload 4, 2) := by decide +kernel
theorem dX9_lengthsUpTo_26 : decode cX9_lengthsUpTo 26 = .ok (.laload, 1) := by decide +kernel
theorem dX9_lengthsUpTo_27 : decode cX9_lengthsUpTo 27 = .ok (.lmul, 1) := by decide +kernel
theorem dX9_lengthsUpTo_28 : decode cX9_lengthsUpTo 28 = .ok (.ladd, 1) := by decide +kernel
theorem dX9_lengthsUpTo_29 : decode cX9_lengthsUpTo 29 = .ok (.lstore_n 2, 1) := by decide +kernel
theorem dX9_lengthsUpTo_30 : decode cX9_lengthsUpTo 30 = .ok (.iinc 4 1, 3) := by decide +kernel
theorem dX9_lengthsUpTo_33 : decode cX9_lengthsUpTo 33 = .ok (.goto (-28), 3) := by decide +kernel
theorem dX9_lengthsUpTo_36 : decode cX9_lengthsUpTo 36 = .ok (.lload_n 2, 1) := by decide +kernel
theorem dX9_lengthsUpTo_37 : decode cX9_lengthsUpTo 37 = .ok (.lreturn, 1) := by decide +kernel
theorem dX10_init_0 : decode cX10_init 0 = .ok (.aload_n 0, 1) := by decide +kernel
theorem dX10_init_1 : decode cX10_init 1 = .ok (.invokespecial 3, 3) := by decide +kernel
theorem dX10_init_4 : decode cX10_init 4 = .ok (.aload_n 0, 1) := by decide +kernel
theorem dX10_init_5 : decode cX10_init 5 = .ok (.bipush 21, 2) := by decide +kernel
theorem dX10_init_7 : decode cX10_init 7 = .ok (.newarray .int, 2) := by decide +kernel
theorem dX10_init_9 : decode cX10_init 9 = .ok (.putfield 9, 3) := by decide +kernel
theorem dX10_init_12 : decode cX10_init 12 = .ok (.iconst 0, 1) := by decide +kernel
theorem dX10_init_13 : decode cX10_init 13 = .ok (.istore_n 1, 1) := by decide +kernel
theorem dX10_init_14 : decode cX10_init 14 = .ok (.iload_n 1, 1) := by decide +kernel
theorem dX10_init_15 : decode cX10_init 15 = .ok (.bipush 20, 2) := by decide +kernel
theorem dX10_init_17 : decode cX10_init 17 = .ok (.if_icmp .gt 17, 3) := by decide +kernel
theorem dX10_init_20 : decode cX10_init 20 = .ok (.aload_n 0, 1) := by decide +kernel
theorem dX10_init_21 : decode cX10_init 21 = .ok (.getfield 9, 3) := by decide +kernel
theorem dX10_init_24 : decode cX10_init 24 = .ok (.iload_n 1, 1) := by decide +kernel
theorem dX10_init_25 : decode cX10_init 25 = .ok (.bipush (-6), 2) := by decide +kernel
theorem dX10_init_27 : decode cX10_init 27 = .ok (.iastore, 1) := by decide +kernel
theorem dX10_init_28 : decode cX10_init 28 = .ok (.iinc 1 1, 3) := by decide +kernel
theorem dX10_init_31 : decode cX10_init 31 = .ok (.goto (-17), 3) := by decide +kernel
theorem dX10_init_34 : decode cX10_init 34 = .ok (.iconst 0, 1) := by decide +kernel
theorem dX10_init_35 : decode cX10_init 35 = .ok (.istore_n 1, 1) := by decide +kernel
theorem dX10_init_36 : decode cX10_init 36 = .ok (.iconst 0, 1) := by decide +kernel
theorem dX10_init_37 : decode cX10_init 37 = .ok (.istore_n 2, 1) := by decide +kernel
theorem dX10_init_38 : decode cX10_init 38 = .ok (.iload_n 2, 1) := by decide +kernel
theorem dX10_init_39 : decode cX10_init 39 = .ok (.bipush 20, 2) := by decide +kernel
theorem dX10_init_41 : decode cX10_init 41 = .ok (.if_icmp .gt 49, 3) := by decide +kernel
theorem dX10_init_44 : decode cX10_init 44 = .ok (.aload_n 0, 1) := by decide +kernel
theorem dX10_init_45 : decode cX10_init 45 = .ok (.getfield 9, 3) := by decide +kernel
theorem dX10_init_48 : decode cX10_init 48 = .ok (.iload_n 2, 1) := by decide +kernel
theorem dX10_init_49 : decode cX10_init 49 = .ok (.iaload, 1) := by decide +kernel
theorem dX10_init_50 : decode cX10_init 50 = .ok (.bipush (-6), 2) := by decide +kernel
theorem dX10_init_52 : decode cX10_init 52 = .ok (.if_icmp .ne 32, 3) := by decide +kernel
theorem dX10_init_55 : decode cX10_init 55 = .ok (.aload_n 0, 1) := by decide +kernel
theorem dX10_init_56 : decode cX10_init 56 = .ok (.getfield 9, 3) := by decide +kernel
theorem dX10_init_59 : decode cX10_init 59 = .ok (.iload_n 2, 1) := by decide +kernel
theorem dX10_init_60 : decode cX10_init 60 = .ok (.iload_n 2, 1) := by decide +kernel
theorem dX10_init_61 : decode cX10_init 61 = .ok (.iload_n 1, 1) := by decide +kernel
theorem dX10_init_62 : decode cX10_init 62 = .ok (.iadd, 1) := by decide +kernel
theorem dX10_init_63 : decode cX10_init 63 = .ok (.iastore, 1) := by decide +kernel
theorem dX10_init_64 : decode cX10_init 64 = .ok (.iload_n 2, 1) := by decide +kernel
theorem dX10_init_65 : decode cX10_init 65 = .ok (.iload_n 1, 1) := by decide +kernel
theorem dX10_init_66 : decode cX10_init 66 = .ok (.iadd, 1) := by decide +kernel
theorem dX10_init_67 : decode cX10_init 67 = .ok (.bipush 20, 2) := by decide +kernel
theorem dX10_init_69 : decode cX10_init 69 = .ok (.if_icmp .gt 12, 3) := by decide +kernel
theorem dX10_init_72 : decode cX10_init 72 = .ok (.aload_n 0, 1) := by decide +kernel
theorem dX10_init_73 : decode cX10_init 73 = .ok (.getfield 9, 3) := by decide +kernel
theorem dX10_init_76 : decode cX10_init 76 = .ok (.iload_n 2, 1) := by decide +kernel
theorem dX10_init_77 : decode cX10_init 77 = .ok (.iload_n 1, 1) := by decide +kernel
theorem dX10_init_78 : decode cX10_init 78 = .ok (.iadd, 1) := by decide +kernel
theorem dX10_init_79 : decode cX10_init 79 = .ok (.iload_n 2, 1) := by decide +kernel
theorem dX10_init_80 : decode cX10_init 80 = .ok (.iastore, 1) := by decide +kernel
theorem dX10_init_81 : decode cX10_init 81 = .ok (.iinc 1 1, 3) := by decide +kernel
theorem dX10_init_84 : decode cX10_init 84 = .ok (.iinc 2 1, 3) := by decide +kernel
theorem dX10_init_87 : decode cX10_init 87 = .ok (.goto (-49), 3) := by decide +kernel
theorem dX10_init_90 : decode cX10_init 90 = .ok (.return_, 1) := by decide +kernel
theorem dX10_isLost_0 : decode cX10_isLost 0 = .ok (.aload_n 0, 1) := by decide +kernel
theorem dX10_isLost_1 : decode cX10_isLost 1 = .ok (.getfield 9, 3) := by decide +kernel
theorem dX10_isLost_4 : decode cX10_isLost 4 = .ok (.iload_n 1, 1) := by decide +kernel
theorem dX10_isLost_5 : decode cX10_isLost 5 = .ok (.iaload, 1) := by decide +kernel
theorem dX10_isLost_6 : decode cX10_isLost 6 = .ok (.iload_n 2, 1) := by decide +kernel
theorem dX10_isLost_7 : decode cX10_isLost 7 = .ok (.if_icmp .ne 7, 3) := by decide +kernel
theorem dX10_isLost_10 : decode cX10_isLost 10 = .ok (.iconst 1, 1) := by decide +kernel
theorem dX10_isLost_11 : decode cX10_isLost 11 = .ok (.goto 4, 3) := by decide +kernel
theorem dX10_isLost_14 : decode cX10_isLost 14 = .ok (.iconst 0, 1) := by decide +kernel
theorem dX10_isLost_15 : decode cX10_isLost 15 = .ok (.ireturn, 1) := by decide +kernel
theorem dX10_winningTake_0 : decode cX10_winningTake 0 = .ok (.iconst 0, 1) := by decide +kernel
theorem dX10_winningTake_1 : decode cX10_winningTake 1 = .ok (.istore_n 3, 1) := by decide +kernel
theorem dX10_winningTake_2 : decode cX10_winningTake 2 = .ok (.iload_n 3, 1) := by decide +kernel
theorem dX10_winningTake_3 : decode cX10_winningTake 3 = .ok (.iload_n 1, 1) := by decide +kernel
theorem dX10_winningTake_4 : decode cX10_winningTake 4 = .ok (.if_icmp .gt 90, 3) := by decide +kernel
theorem dX10_winningTake_7 : decode cX10_winningTake 7 = .ok (.iload_n 2, 1) := by decide +kernel
theorem dX10_winningTake_8 : decode cX10_winningTake 8 = .ok (.aload_n 0, 1) := by decide +kernel
theorem dX10_winningTake_9 : decode cX10_winningTake 9 = .ok (.getfield 9, 3) := by decide +kernel
theorem dX10_winningTake_12 : decode cX10_winningTake 12 = .ok (.iload_n 1, 1) := by decide +kernel
theorem dX10_winningTake_13 : decode cX10_winningTake 13 = .ok (.iload_n 3, 1) := by decide +kernel
theorem dX10_winningTake_14 : decode cX10_winningTake 14 = .ok (.isub, 1) := by decide +kernel
theorem dX10_winningTake_15 : decode cX10_winningTake 15 = .ok (.iaload, 1) := by decide +kernel
theorem dX10_winningTake_16 : decode cX10_winningTake 16 = .ok (.isub, 1) := by decide +kernel
theorem dX10_winningTake_17 : decode cX10_winningTake 17 = .ok (.istore 4, 2) := by decide +kernel
theorem dX10_winningTake_19 : decode cX10_winningTake 19 = .ok (.iload_n 3, 1) := by decide +kernel
theorem dX10_winningTake_20 : decode cX10_winningTake 20 = .ok (.ifCond .ne 7, 3) := by decide +kernel
theorem dX10_winningTake_23 : decode cX10_winningTake 23 = .ok (.iconst 1, 1) := by decide +kernel
theorem dX10_winningTake_24 : decode cX10_winningTake 24 = .ok (.goto 4, 3) := by decide +kernel
theorem dX10_winningTake_27 : decode cX10_winningTake 27 = .ok (.iconst 0, 1) := by decide +kernel
theorem dX10_winningTake_28 : decode cX10_winningTake 28 = .ok (.iload 4, 2) := by decide +kernel
theorem dX10_winningTake_30 : decode cX10_winningTake 30 = .ok (.ifCond .ne 7, 3) := by decide +kernel
theorem dX10_winningTake_33 : decode cX10_winningTake 33 = .ok (.iconst 1, 1) := by decide +kernel
theorem dX10_winningTake_34 : decode cX10_winningTake 34 = .ok (.goto 4, 3) := by decide +kernel
theorem dX10_winningTake_37 : decode cX10_winningTake 37 = .ok (.iconst 0, 1) := by decide +kernel
theorem dX10_winningTake_38 : decode cX10_winningTake 38 = .ok (.if_icmp .eq 7, 3) := by decide +kernel
theorem dX10_winningTake_41 : decode cX10_winningTake 41 = .ok (.iconst 1, 1) := by decide +kernel
theorem dX10_winningTake_42 : decode cX10_winningTake 42 = .ok (.goto 4, 3) := by decide +kernel
theorem dX10_winningTake_45 : decode cX10_winningTake 45 = .ok (.iconst 0, 1) := by decide +kernel
theorem dX10_winningTake_46 : decode cX10_winningTake 46 = .ok (.istore 5, 2) := by decide +kernel
theorem dX10_winningTake_48 : decode cX10_winningTake 48 = .ok (.iload_n 3, 1) := by decide +kernel
theorem dX10_winningTake_49 : decode cX10_winningTake 49 = .ok (.iload 4, 2) := by decide +kernel
theorem dX10_winningTake_51 : decode cX10_winningTake 51 = .ok (.if_icmp .ne 11, 3) := by decide +kernel
theorem dX10_winningTake_54 : decode cX10_winningTake 54 = .ok (.iload_n 3, 1) := by decide +kernel
theorem dX10_winningTake_55 : decode cX10_winningTake 55 = .ok (.ifCond .le 7, 3) := by decide +kernel
theorem dX10_winningTake_58 : decode cX10_winningTake 58 = .ok (.iconst 1, 1) := by decide +kernel
theorem dX10_winningTake_59 : decode cX10_winningTake 59 = .ok (.goto 4, 3) := by decide +kernel
theorem dX10_winningTake_62 : decode cX10_winningTake 62 = .ok (.iconst 0, 1) := by decide +kernel
theorem dX10_winningTake_63 : decode cX10_winningTake 63 = .ok (.istore 6, 2) := by decide +kernel
theorem dX10_winningTake_65 : decode cX10_winningTake 65 = .ok (.iload 4, 2) := by decide +kernel
theorem dX10_winningTake_67 : decode cX10_winningTake 67 = .ok (.ifCond .lt 21, 3) := by decide +kernel
theorem dX10_winningTake_70 : decode cX10_winningTake 70 = .ok (.iload 5, 2) := by decide +kernel
theorem dX10_winningTake_72 : decode cX10_winningTake 72 = .ok (.ifCond .ne 8, 3) := by decide +kernel
theorem dX10_winningTake_75 : decode cX10_winningTake 75 = .ok (.iload 6, 2) := by decide +kernel
theorem dX10_winningTake_77 : decode cX10_winningTake 77 = .ok (.ifCond .eq 11, 3) := by decide +kernel
theorem dX10_winningTake_80 : decode cX10_winningTake 80 = .ok (.bipush 100, 2) := by decide +kernel
theorem dX10_winningTake_82 : decode cX10_winningTake 82 = .ok (.iload_n 3, 1) := by decide +kernel
theorem dX10_winningTake_83 : decode cX10_winningTake 83 = .ok (.imul, 1) := by decide +kernel
theorem dX10_winningTake_84 : decode cX10_winningTake 84 = .ok (.iload 4, 2) := by decide +kernel
theorem dX10_winningTake_86 : decode cX10_winningTake 86 = .ok (.iadd, 1) := by decide +kernel
theorem dX10_winningTake_87 : decode cX10_winningTake 87 = .ok (.ireturn, 1) := by decide +kernel
theorem dX10_winningTake_88 : decode cX10_winningTake 88 = .ok (.iinc 3 1, 3) := by decide +kernel
theorem dX10_winningTake_91 : decode cX10_winningTake 91 = .ok (.goto (-89), 3) := by decide +kernel
theorem dX10_winningTake_94 : decode cX10_winningTake 94 = .ok (.bipush (-6), 2) := by decide +kernel
theorem dX10_winningTake_96 : decode cX10_winningTake 96 = .ok (.ireturn, 1) := by decide +kernel
theorem dX11_init_0 : decode cX11_init 0 = .ok (.aload_n 0, 1) := by decide +kernel
theorem dX11_init_1 : decode cX11_init 1 = .ok (.invokespecial 3, 3) := by decide +kernel
theorem dX11_init_4 : decode cX11_init 4 = .ok (.aload_n 0, 1) := by decide +kernel
theorem dX11_init_5 : decode cX11_init 5 = .ok (.new 9, 3) := by decide +kernel
theorem dX11_init_8 : decode cX11_init 8 = .ok (.dup, 1) := by decide +kernel
theorem dX11_init_9 : decode cX11_init 9 = .ok (.invokespecial 11, 3) := by decide +kernel
theorem dX11_init_12 : decode cX11_init 12 = .ok (.putfield 12, 3) := by decide +kernel
theorem dX11_init_15 : decode cX11_init 15 = .ok (.aload_n 0, 1) := by decide +kernel
theorem dX11_init_16 : decode cX11_init 16 = .ok (.new 16, 3) := by decide +kernel
theorem dX11_init_19 : decode cX11_init 19 = .ok (.dup, 1) := by decide +kernel
theorem dX11_init_20 : decode cX11_init 20 = .ok (.invokespecial 18, 3) := by decide +kernel
theorem dX11_init_23 : decode cX11_init 23 = .ok (.putfield 19, 3) := by decide +kernel
theorem dX11_init_26 : decode cX11_init 26 = .ok (.aload_n 0, 1) := by decide +kernel
theorem dX11_init_27 : decode cX11_init 27 = .ok (.new 23, 3) := by decide +kernel
theorem dX11_init_30 : decode cX11_init 30 = .ok (.dup, 1) := by decide +kernel
theorem dX11_init_31 : decode cX11_init 31 = .ok (.invokespecial 25, 3) := by decide +kernel
theorem dX11_init_34 : decode cX11_init 34 = .ok (.putfield 26, 3) := by decide +kernel
theorem dX11_init_37 : decode cX11_init 37 = .ok (.aload_n 0, 1) := by decide +kernel
theorem dX11_init_38 : decode cX11_init 38 = .ok (.new 30, 3) := by decide +kernel
theorem dX11_init_41 : decode cX11_init 41 = .ok (.dup, 1) := by decide +kernel
theorem dX11_init_42 : decode cX11_init 42 = .ok (.invokespecial 32, 3) := by decide +kernel
theorem dX11_init_45 : decode cX11_init 45 = .ok (.putfield 33, 3) := by decide +kernel
theorem dX11_init_48 : decode cX11_init 48 = .ok (.aload_n 0, 1) := by decide +kernel
theorem dX11_init_49 : decode cX11_init 49 = .ok (.new 30, 3) := by decide +kernel
theorem dX11_init_52 : decode cX11_init 52 = .ok (.dup, 1) := by decide +kernel
theorem dX11_init_53 : decode cX11_init 53 = .ok (.invokespecial 32, 3) := by decide +kernel
theorem dX11_init_56 : decode cX11_init 56 = .ok (.putfield 37, 3) := by decide +kernel
theorem dX11_init_59 : decode cX11_init 59 = .ok (.aload_n 0, 1) := by decide +kernel
theorem dX11_init_60 : decode cX11_init 60 = .ok (.new 40, 3) := by decide +kernel
theorem dX11_init_63 : decode cX11_init 63 = .ok (.dup, 1) := by decide +kernel
theorem dX11_init_64 : decode cX11_init 64 = .ok (.invokespecial 42, 3) := by decide +kernel
theorem dX11_init_67 : decode cX11_init 67 = .ok (.putfield 43, 3) := by decide +kernel
theorem dX11_init_70 : decode cX11_init 70 = .ok (.aload_n 0, 1) := by decide +kernel
theorem dX11_init_71 : decode cX11_init 71 = .ok (.new 47, 3) := by decide +kernel
theorem dX11_init_74 : decode cX11_init 74 = .ok (.dup, 1) := by decide +kernel
theorem dX11_init_75 : decode cX11_init 75 = .ok (.invokespecial 49, 3) := by decide +kernel
theorem dX11_init_78 : decode cX11_init 78 = .ok (.putfield 50, 3) := by decide +kernel
theorem dX11_init_81 : decode cX11_init 81 = .ok (.aload_n 0, 1) := by decide +kernel
theorem dX11_init_82 : decode cX11_init 82 = .ok (.new 54, 3) := by decide +kernel
theorem dX11_init_85 : decode cX11_init 85 = .ok (.dup, 1) := by decide +kernel
theorem dX11_init_86 : decode cX11_init 86 = .ok (.invokespecial 56, 3) := by decide +kernel
theorem dX11_init_89 : decode cX11_init 89 = .ok (.putfield 57, 3) := by decide +kernel
theorem dX11_init_92 : decode cX11_init 92 = .ok (.aload_n 0, 1) := by decide +kernel
theorem dX11_init_93 : decode cX11_init 93 = .ok (.new 61, 3) := by decide +kernel
theorem dX11_init_96 : decode cX11_init 96 = .ok (.dup, 1) := by decide +kernel
theorem dX11_init_97 : decode cX11_init 97 = .ok (.invokespecial 63, 3) := by decide +kernel
theorem dX11_init_100 : decode cX11_init 100 = .ok (.putfield 64, 3) := by decide +kernel
theorem dX11_init_103 : decode cX11_init 103 = .ok (.aload_n 0, 1) := by decide +kernel
theorem dX11_init_104 : decode cX11_init 104 = .ok (.new 68, 3) := by decide +kernel
theorem dX11_init_107 : decode cX11_init 107 = .ok (.dup, 1) := by decide +kernel
theorem dX11_init_108 : decode cX11_init 108 = .ok (.invokespecial 70, 3) := by decide +kernel
theorem dX11_init_111 : decode cX11_init 111 = .ok (.putfield 71, 3) := by decide +kernel
theorem dX11_init_114 : decode cX11_init 114 = .ok (.aload_n 0, 1) := by decide +kernel
theorem dX11_init_115 : decode cX11_init 115 = .ok (.new 75, 3) := by decide +kernel
theorem dX11_init_118 : decode cX11_init 118 = .ok (.dup, 1) := by decide +kernel
theorem dX11_init_119 : decode cX11_init 119 = .ok (.invokespecial 77, 3) := by decide +kernel
theorem dX11_init_122 : decode cX11_init 122 = .ok (.putfield 78, 3) := by decide +kernel
theorem dX11_init_125 : decode cX11_init 125 = .ok (.aload_n 0, 1) := by decide +kernel
theorem dX11_init_126 : decode cX11_init 126 = .ok (.new 82, 3) := by decide +kernel
theorem dX11_init_129 : decode cX11_init 129 = .ok (.dup, 1) := by decide +kernel
theorem dX11_init_130 : decode cX11_init 130 = .ok (.invokespecial 84, 3) := by decide +kernel
theorem dX11_init_133 : decode cX11_init 133 = .ok (.putfield 85, 3) := by decide +kernel
theorem dX11_init_136 : decode cX11_init 136 = .ok (.return_, 1) := by decide +kernel
theorem dX11_basket_0 : decode cX11_basket 0 = .ok (.iload_n 1, 1) := by decide +kernel
theorem dX11_basket_1 : decode cX11_basket 1 = .ok (.invokestatic 89, 3) := by decide +kernel
theorem dX11_basket_4 : decode cX11_basket 4 = .ok (.ifCond .ne 5, 3) := by decide +kernel
theorem dX11_basket_7 : decode cX11_basket 7 = .ok (.iconst (-1), 1) := by decide +kernel
theorem dX11_basket_8 : decode cX11_basket 8 = .ok (.ireturn, 1) := by decide +kernel
theorem dX11_basket_9 : decode cX11_basket 9 = .ok (.iload_n 2, 1) := by decide +kernel
theorem dX11_basket_10 : decode cX11_basket 10 = .ok (.invokestatic 93, 3) := by decide +kernel
theorem dX11_basket_13 : decode cX11_basket 13 = .ok (.ifCond .eq 13, 3) := by decide +kernel
theorem dX11_basket_16 : decode cX11_basket 16 = .ok (.iload_n 3, 1) := by decide +kernel
theorem dX11_basket_17 : decode cX11_basket 17 = .ok (.iconst 1, 1) := by decide +kernel
theorem dX11_basket_18 : decode cX11_basket 18 = .ok (.bipush 9, 2) := by decide +kernel
theorem dX11_basket_20 : decode cX11_basket 20 = .ok (.invokestatic 96, 3) := by decide +kernel
theorem dX11_basket_23 : decode cX11_basket 23 = .ok (.ifCond .ne 6, 3) := by decide +kernel
theorem dX11_basket_26 : decode cX11_basket 26 = .ok (.bipush (-2), 2) := by decide +kernel
theorem dX11_basket_28 : decode cX11_basket 28 = .ok (.ireturn, 1) := by decide +kernel
theorem dX11_basket_29 : decode cX11_basket 29 = .ok (.bipush 10, 2) := by decide +kernel
theorem dX11_basket_31 : decode cX11_basket 31 = .ok (.aload_n 0, 1) := by decide +kernel
theorem dX11_basket_32 : decode cX11_basket 32 = .ok (.getfield 12, 3) := by decide +kernel
theorem dX11_basket_35 : decode cX11_basket 35 = .ok (.getfield 100, 3) := by decide +kernel
theorem dX11_basket_38 : decode cX11_basket 38 = .ok (.iload_n 1, 1) := by decide +kernel
theorem dX11_basket_39 : decode cX11_basket 39 = .ok (.iaload, 1) := by decide +kernel
theorem dX11_basket_40 : decode cX11_basket 40 = .ok (.imul, 1) := by decide +kernel
theorem dX11_basket_41 : decode cX11_basket 41 = .ok (.aload_n 0, 1) := by decide +kernel
theorem dX11_basket_42 : decode cX11_basket 42 = .ok (.getfield 12, 3) := by decide +kernel
theorem dX11_basket_45 : decode cX11_basket 45 = .ok (.getfield 104, 3) := by decide +kernel
theorem dX11_basket_48 : decode cX11_basket 48 = .ok (.iload_n 1, 1) := by decide +kernel
theorem dX11_basket_49 : decode cX11_basket 49 = .ok (.iaload, 1) := by decide +kernel
theorem dX11_basket_50 : decode cX11_basket 50 = .ok (.iadd, 1) := by decide +kernel
theorem dX11_basket_51 : decode cX11_basket 51 = .ok (.istore 4, 2) := by decide +kernel
theorem dX11_basket_53 : decode cX11_basket 53 = .ok (.aload_n 0, 1) := by decide +kernel
theorem dX11_basket_54 : decode cX11_basket 54 = .ok (.getfield 12, 3) := by decide +kernel
theorem dX11_basket_57 : decode cX11_basket 57 = .ok (.getfield 100, 3) := by decide +kernel
theorem dX11_basket_60 : decode cX11_basket 60 = .ok (.iload_n 1, 1) := by decide +kernel
theorem dX11_basket_61 : decode cX11_basket 61 = .ok (.iload_n 2, 1) := by decide +kernel
theorem dX11_basket_62 : decode cX11_basket 62 = .ok (.iastore, 1) := by decide +kernel
theorem dX11_basket_63 : decode cX11_basket 63 = .ok (.aload_n 0, 1) := by decide +kernel
theorem dX11_basket_64 : decode cX11_basket 64 = .ok (.getfield 12, 3) := by decide +kernel
theorem dX11_basket_67 : decode cX11_basket 67 = .ok (.getfield 104, 3) := by decide +kernel
theorem dX11_basket_70 : decode cX11_basket 70 = .ok (.iload_n 1, 1) := by decide +kernel
theorem dX11_basket_71 : decode cX11_basket 71 = .ok (.iload_n 3, 1) := by decide +kernel
theorem dX11_basket_72 : decode cX11_basket 72 = .ok (.iastore, 1) := by decide +kernel
theorem dX11_basket_73 : decode cX11_basket 73 = .ok (.iload 4, 2) := by decide +kernel
theorem dX11_basket_75 : decode cX11_basket 75 = .ok (.ireturn, 1) := by decide +kernel
theorem dX11_right_0 : decode cX11_right 0 = .ok (.aload_n 0, 1) := by decide +kernel
theorem dX11_right_1 : decode cX11_right 1 = .ok (.getfield 12, 3) := by decide +kernel
theorem dX11_right_4 : decode cX11_right 4 = .ok (.invokevirtual 107, 3) := by decide +kernel
theorem dX11_right_7 : decode cX11_right 7 = .ok (.istore_n 1, 1) := by decide +kernel
theorem dX11_right_8 : decode cX11_right 8 = .ok (.aload_n 0, 1) := by decide +kernel
theorem dX11_right_9 : decode cX11_right 9 = .ok (.getfield 12, 3) := by decide +kernel
theorem dX11_right_12 : decode cX11_right 12 = .ok (.invokevirtual 111, 3) := by decide +kernel
theorem dX11_right_15 : decode cX11_right 15 = .ok (.iload_n 1, 1) := by decide +kernel
theorem dX11_right_16 : decode cX11_right 16 = .ok (.ireturn, 1) := by decide +kernel
theorem dX11_clock_0 : decode cX11_clock 0 = .ok (.iload_n 1, 1) := by decide +kernel
theorem dX11_clock_1 : decode cX11_clock 1 = .ok (.iconst 0, 1) := by decide +kernel
theorem dX11_clock_2 : decode cX11_clock 2 = .ok (.bipush 99, 2) := by decide +kernel
theorem dX11_clock_4 : decode cX11_clock 4 = .ok (.invokestatic 96, 3) := by decide +kernel
theorem dX11_clock_7 : decode cX11_clock 7 = .ok (.ifCond .eq 13, 3) := by decide +kernel
theorem dX11_clock_10 : decode cX11_clock 10 = .ok (.iload_n 2, 1) := by decide +kernel
theorem dX11_clock_11 : decode cX11_clock 11 = .ok (.iconst 0, 1) := by decide +kernel
theorem dX11_clock_12 : decode cX11_clock 12 = .ok (.bipush 99, 2) := by decide +kernel
theorem dX11_clock_14 : decode cX11_clock 14 = .ok (.invokestatic 96, 3) := by decide +kernel
theorem dX11_clock_17 : decode cX11_clock 17 = .ok (.ifCond .ne 6, 3) := by decide +kernel
theorem dX11_clock_20 : decode cX11_clock 20 = .ok (.bipush (-2), 2) := by decide +kernel
theorem dX11_clock_22 : decode cX11_clock 22 = .ok (.ireturn, 1) := by decide +kernel
theorem dX11_clock_23 : decode cX11_clock 23 = .ok (.bipush 100, 2) := by decide +kernel
theorem dX11_clock_25 : decode cX11_clock 25 = .ok (.aload_n 0, 1) := by decide +kernel
theorem dX11_clock_26 : decode cX11_clock 26 = .ok (.getfield 12, 3) := by decide +kernel
theorem dX11_clock_29 : decode cX11_clock 29 = .ok (.getfield 114, 3) := by decide +kernel
theorem dX11_clock_32 : decode cX11_clock 32 = .ok (.imul, 1) := by decide +kernel
theorem dX11_clock_33 : decode cX11_clock 33 = .ok (.aload_n 0, 1) := by decide +kernel
theorem dX11_clock_34 : decode cX11_clock 34 = .ok (.getfield 12, 3) := by decide +kernel
theorem dX11_clock_37 : decode cX11_clock 37 = .ok (.getfield 118, 3) := by decide +kernel
theorem dX11_clock_40 : decode cX11_clock 40 = .ok (.iadd, 1) := by decide +kernel
theorem dX11_clock_41 : decode cX11_clock 41 = .ok (.istore_n 3, 1) := by decide +kernel
theorem dX11_clock_42 : decode cX11_clock 42 = .ok (.aload_n 0, 1) := by decide +kernel
theorem dX11_clock_43 : decode cX11_clock 43 = .ok (.getfield 12, 3) := by decide +kernel
theorem dX11_clock_46 : decode cX11_clock 46 = .ok (.iload_n 1, 1) := by decide +kernel
theorem dX11_clock_47 : decode cX11_clock 47 = .ok (.putfield 114, 3) := by decide +kernel
theorem dX11_clock_50 : decode cX11_clock 50 = .ok (.aload_n 0, 1) := by decide +kernel
theorem dX11_clock_51 : decode cX11_clock 51 = .ok (.getfield 12, 3) := by decide +kernel
theorem dX11_clock_54 : decode cX11_clock 54 = .ok (.iload_n 2, 1) := by decide +kernel
theorem dX11_clock_55 : decode cX11_clock 55 = .ok (.putfield 118, 3) := by decide +kernel
theorem dX11_clock_58 : decode cX11_clock 58 = .ok (.iload_n 3, 1) := by decide +kernel
theorem dX11_clock_59 : decode cX11_clock 59 = .ok (.ireturn, 1) := by decide +kernel
theorem dX11_attendant_0 : decode cX11_attendant 0 = .ok (.iload_n 1, 1) := by decide +kernel
theorem dX11_attendant_1 : decode cX11_attendant 1 = .ok (.invokestatic 89, 3) := by decide +kernel
theorem dX11_attendant_4 : decode cX11_attendant 4 = .ok (.ifCond .ne 5, 3) := by decide +kernel
theorem dX11_attendant_7 : decode cX11_attendant 7 = .ok (.iconst (-1), 1) := by decide +kernel
theorem dX11_attendant_8 : decode cX11_attendant 8 = .ok (.ireturn, 1) := by decide +kernel
theorem dX11_attendant_9 : decode cX11_attendant 9 = .ok (.iload_n 2, 1) := by decide +kernel
theorem dX11_attendant_10 : decode cX11_attendant 10 = .ok (.invokestatic 93, 3) := by decide +kernel
theorem dX11_attendant_13 : decode cX11_attendant 13 = .ok (.ifCond .eq 10, 3) := by decide +kernel
theorem dX11_attendant_16 : decode cX11_attendant 16 = .ok (.iload_n 3, 1) := by decide +kernel
theorem dX11_attendant_17 : decode cX11_attendant 17 = .ok (.invokestatic 93, 3) := by decide +kernel
theorem dX11_attendant_20 : decode cX11_attendant 20 = .ok (.ifCond .ne 6, 3) := by decide +kernel
theorem dX11_attendant_23 : decode cX11_attendant 23 = .ok (.bipush (-2), 2) := by decide +kernel
theorem dX11_attendant_25 : decode cX11_attendant 25 = .ok (.ireturn, 1) := by decide +kernel
theorem dX11_attendant_26 : decode cX11_attendant 26 = .ok (.aload_n 0, 1) := by decide +kernel
theorem dX11_attendant_27 : decode cX11_attendant 27 = .ok (.getfield 12, 3) := by decide +kernel
theorem dX11_attendant_30 : decode cX11_attendant 30 = .ok (.getfield 121, 3) := by decide +kernel
theorem dX11_attendant_33 : decode cX11_attendant 33 = .ok (.istore 4, 2) := by decide +kernel
theorem dX11_attendant_35 : decode cX11_attendant 35 = .ok (.aload_n 0, 1) := by decide +kernel
theorem dX11_attendant_36 : decode cX11_attendant 36 = .ok (.getfield 12, 3) := by decide +kernel
theorem dX11_attendant_39 : decode cX11_attendant 39 = .ok (.iload_n 1, 1) := by decide +kernel
theorem dX11_attendant_40 : decode cX11_attendant 40 = .ok (.putfield 121, 3) := by decide +kernel
theorem dX11_attendant_43 : decode cX11_attendant 43 = .ok (.aload_n 0, 1) := by decide +kernel
theorem dX11_attendant_44 : decode cX11_attendant 44 = .ok (.getfield 12, 3) := by decide +kernel
theorem dX11_attendant_47 : decode cX11_attendant 47 = .ok (.iload_n 2, 1) := by decide +kernel
theorem dX11_attendant_48 : decode cX11_attendant 48 = .ok (.putfield 124, 3) := by decide +kernel
theorem dX11_attendant_51 : decode cX11_attendant 51 = .ok (.aload_n 0, 1) := by decide +kernel
theorem dX11_attendant_52 : decode cX11_attendant 52 = .ok (.getfield 12, 3) := by decide +kernel
theorem dX11_attendant_55 : decode cX11_attendant 55 = .ok (.iload_n 3, 1) := by decide +kernel
theorem dX11_attendant_56 : decode cX11_attendant 56 = .ok (.putfield 127, 3) := by decide +kernel
theorem dX11_attendant_59 : decode cX11_attendant 59 = .ok (.iload 4, 2) := by decide +kernel
theorem dX11_attendant_61 : decode cX11_attendant 61 = .ok (.ireturn, 1) := by decide +kernel
theorem dX11_say_0 : decode cX11_say 0 = .ok (.iload_n 1, 1) := by decide +kernel
theorem dX11_say_1 : decode cX11_say 1 = .ok (.bipush 33, 2) := by decide +kernel
theorem dX11_say_3 : decode cX11_say 3 = .ok (.bipush 126, 2) := by decide +kernel
theorem dX11_say_5 : decode cX11_say 5 = .ok (.invokestatic 96, 3) := by decide +kernel
theorem dX11_say_8 : decode cX11_say 8 = .ok (.ifCond .ne 6, 3) := by decide +kernel
theorem dX11_say_11 : decode cX11_say 11 = .ok (.bipush (-2), 2) := by decide +kernel
theorem dX11_say_13 : decode cX11_say 13 = .ok (.ireturn, 1) := by decide +kernel
theorem dX11_say_14 : decode cX11_say 14 = .ok (.aload_n 0, 1) := by decide +kernel
theorem dX11_say_15 : decode cX11_say 15 = .ok (.getfield 26, 3) := by decide +kernel
theorem dX11_say_18 : decode cX11_say 18 = .ok (.iload_n 1, 1) := by decide +kernel
theorem dX11_say_19 : decode cX11_say 19 = .ok (.invokevirtual 130, 3) := by decide +kernel
theorem dX11_say_22 : decode cX11_say 22 = .ok (.ifCond .eq 13, 3) := by decide +kernel
theorem dX11_say_25 : decode cX11_say 25 = .ok (.aload_n 0, 1) := by decide +kernel
theorem dX11_say_26 : decode cX11_say 26 = .ok (.getfield 26, 3) := by decide +kernel
theorem dX11_say_29 : decode cX11_say 29 = .ok (.getfield 133, 3) := by decide +kernel
theorem dX11_say_32 : decode cX11_say 32 = .ok (.goto 5, 3) := by decide +kernel
theorem dX11_say_35 : decode cX11_say 35 = .ok (.bipush (-4), 2) := by decide +kernel
theorem dX11_say_37 : decode cX11_say 37 = .ok (.ireturn, 1) := by decide +kernel
theorem dX11_wipe_0 : decode cX11_wipe 0 = .ok (.aload_n 0, 1) := by decide +kernel
theorem dX11_wipe_1 : decode cX11_wipe 1 = .ok (.getfield 26, 3) := by decide +kernel
theorem dX11_wipe_4 : decode cX11_wipe 4 = .ok (.getfield 133, 3) := by decide +kernel
theorem dX11_wipe_7 : decode cX11_wipe 7 = .ok (.istore_n 1, 1) := by decide +kernel
theorem dX11_wipe_8 : decode cX11_wipe 8 = .ok (.aload_n 0, 1) := by decide +kernel
theorem dX11_wipe_9 : decode cX11_wipe 9 = .ok (.getfield 26, 3) := by decide +kernel
theorem dX11_wipe_12 : decode cX11_wipe 12 = .ok (.iconst 0, 1) := by decide +kernel
theorem dX11_wipe_13 : decode cX11_wipe 13 = .ok (.putfield 133, 3) := by decide +kernel
theorem dX11_wipe_16 : decode cX11_wipe 16 = .ok (.iload_n 1, 1) := by decide +kernel
theorem dX11_wipe_17 : decode cX11_wipe 17 = .ok (.ireturn, 1) := by decide +kernel
theorem dX11_fault_0 : decode cX11_fault 0 = .ok (.aload_n 0, 1) := by decide +kernel
theorem dX11_fault_1 : decode cX11_fault 1 = .ok (.getfield 26, 3) := by decide +kernel
theorem dX11_fault_4 : decode cX11_fault 4 = .ok (.invokevirtual 136, 3) := by decide +kernel
theorem dX11_fault_7 : decode cX11_fault 7 = .ok (.ireturn, 1) := by decide +kernel
theorem dX11_judge_0 : decode cX11_judge 0 = .ok (.iload_n 1, 1) := by decide +kernel
theorem dX11_judge_1 : decode cX11_judge 1 = .ok (.iconst 0, 1) := by decide +kernel
theorem dX11_judge_2 : decode cX11_judge 2 = .ok (.iconst 2, 1) := by decide +kernel
theorem dX11_judge_3 : decode cX11_judge 3 = .ok (.invokestatic 96, 3) := by decide +kernel
theorem dX11_judge_6 : decode cX11_judge 6 = .ok (.ifCond .ne 6, 3) := by decide +kernel
theorem dX11_judge_9 : decode cX11_judge 9 = .ok (.bipush (-2), 2) := by decide +kernel
theorem dX11_judge_11 : decode cX11_judge 11 = .ok (.ireturn, 1) := by decide +kernel
theorem dX11_judge_12 : decode cX11_judge 12 = .ok (.aload_n 0, 1) := by decide +kernel
theorem dX11_judge_13 : decode cX11_judge 13 = .ok (.invokevirtual 139, 3) := by decide +kernel
theorem dX11_judge_16 : decode cX11_judge 16 = .ok (.istore_n 2, 1) := by decide +kernel
theorem dX11_judge_17 : decode cX11_judge 17 = .ok (.iload_n 2, 1) := by decide +kernel
theorem dX11_judge_18 : decode cX11_judge 18 = .ok (.bipush (-5), 2) := by decide +kernel
theorem dX11_judge_20 : decode cX11_judge 20 = .ok (.if_icmp .eq 14, 3) := by decide +kernel
theorem dX11_judge_23 : decode cX11_judge 23 = .ok (.iload_n 1, 1) := by decide +kernel
theorem dX11_judge_24 : decode cX11_judge 24 = .ok (.iconst 2, 1) := by decide +kernel
theorem dX11_judge_25 : decode cX11_judge 25 = .ok (.if_icmp .ne 11, 3) := by decide +kernel
theorem dX11_judge_28 : decode cX11_judge 28 = .ok (.iload_n 2, 1) := by decide +kernel
theorem dX11_judge_29 : decode cX11_judge 29 = .ok (.bipush (-3), 2) := by decide +kernel
theorem dX11_judge_31 : decode cX11_judge 31 = .ok (.if_icmp .ne 5, 3) := by decide +kernel
theorem dX11_judge_34 : decode cX11_judge 34 = .ok (.iload_n 2, 1) := by decide +kernel
theorem dX11_judge_35 : decode cX11_judge 35 = .ok (.ireturn, 1) := by decide +kernel
theorem dX11_judge_36 : decode cX11_judge 36 = .ok (.iload_n 1, 1) := by decide +kernel
theorem dX11_judge_37 : decode cX11_judge 37 = .ok (.iconst 2, 1) := by decide +kernel
theorem dX11_judge_38 : decode cX11_judge 38 = .ok (.if_icmp .ne 11, 3) := by decide +kernel
theorem dX11_judge_41 : decode cX11_judge 41 = .ok (.aload_n 0, 1) := by decide +kernel
theorem dX11_judge_42 : decode cX11_judge 42 = .ok (.getfield 43, 3) := by decide +kernel
theorem dX11_judge_45 : decode cX11_judge 45 = .ok (.getfield 142, 3) := by decide +kernel
theorem dX11_judge_48 : decode cX11_judge 48 = .ok (.ireturn, 1) := by decide +kernel
theorem dX11_judge_49 : decode cX11_judge 49 = .ok (.iload_n 1, 1) := by decide +kernel
theorem dX11_judge_50 : decode cX11_judge 50 = .ok (.ifCond .ne 13, 3) := by decide +kernel
theorem dX11_judge_53 : decode cX11_judge 53 = .ok (.aload_n 0, 1) := by decide +kernel
theorem dX11_judge_54 : decode cX11_judge 54 = .ok (.getfield 43, 3) := by decide +kernel
theorem dX11_judge_57 : decode cX11_judge 57 = .ok (.getfield 145, 3) := by decide +kernel
theorem dX11_judge_60 : decode cX11_judge 60 = .ok (.goto 10, 3) := by decide +kernel
theorem dX11_judge_63 : decode cX11_judge 63 = .ok (.aload_n 0, 1) := by decide +kernel
theorem dX11_judge_64 : decode cX11_judge 64 = .ok (.getfield 43, 3) := by decide +kernel
theorem dX11_judge_67 : decode cX11_judge 67 = .ok (.getfield 148, 3) := by decide +kernel
theorem dX11_judge_70 : decode cX11_judge 70 = .ok (.ireturn, 1) := by decide +kernel
theorem dX11_behind_0 : decode cX11_behind 0 = .ok (.iload_n 1, 1) := by decide +kernel
theorem dX11_behind_1 : decode cX11_behind 1 = .ok (.invokestatic 89, 3) := by decide +kernel
theorem dX11_behind_4 : decode cX11_behind 4 = .ok (.ifCond .ne 5, 3) := by decide +kernel
theorem dX11_behind_7 : decode cX11_behind 7 = .ok (.iconst (-1), 1) := by decide +kernel
theorem dX11_behind_8 : decode cX11_behind 8 = .ok (.ireturn, 1) := by decide +kernel
theorem dX11_behind_9 : decode cX11_behind 9 = .ok (.iload_n 2, 1) := by decide +kernel
theorem dX11_behind_10 : decode cX11_behind 10 = .ok (.iconst 0, 1) := by decide +kernel
theorem dX11_behind_11 : decode cX11_behind 11 = .ok (.iconst 1, 1) := by decide +kernel
theorem dX11_behind_12 : decode cX11_behind 12 = .ok (.invokestatic 96, 3) := by decide +kernel
theorem dX11_behind_15 : decode cX11_behind 15 = .ok (.ifCond .ne 6, 3) := by decide +kernel
theorem dX11_behind_18 : decode cX11_behind 18 = .ok (.bipush (-2), 2) := by decide +kernel
theorem dX11_behind_20 : decode cX11_behind 20 = .ok (.ireturn, 1) := by decide +kernel
theorem dX11_behind_21 : decode cX11_behind 21 = .ok (.aload_n 0, 1) := by decide +kernel
theorem dX11_behind_22 : decode cX11_behind 22 = .ok (.invokevirtual 139, 3) := by decide +kernel
theorem dX11_behind_25 : decode cX11_behind 25 = .ok (.istore_n 3, 1) := by decide +kernel
theorem dX11_behind_26 : decode cX11_behind 26 = .ok (.iload_n 3, 1) := by decide +kernel
theorem dX11_behind_27 : decode cX11_behind 27 = .ok (.ifCond .eq 5, 3) := by decide +kernel
theorem dX11_behind_30 : decode cX11_behind 30 = .ok (.iload_n 3, 1) := by decide +kernel
theorem dX11_behind_31 : decode cX11_behind 31 = .ok (.ireturn, 1) := by decide +kernel
theorem dX11_behind_32 : decode cX11_behind 32 = .ok (.aload_n 0, 1) := by decide +kernel
theorem dX11_behind_33 : decode cX11_behind 33 = .ok (.getfield 43, 3) := by decide +kernel
theorem dX11_behind_36 : decode cX11_behind 36 = .ok (.getfield 151, 3) := by decide +kernel
theorem dX11_behind_39 : decode cX11_behind 39 = .ok (.getfield 152, 3) := by decide +kernel
theorem dX11_behind_42 : decode cX11_behind 42 = .ok (.iload_n 1, 1) := by decide +kernel
theorem dX11_behind_43 : decode cX11_behind 43 = .ok (.iaload, 1) := by decide +kernel
theorem dX11_behind_44 : decode cX11_behind 44 = .ok (.istore 4, 2) := by decide +kernel
theorem dX11_behind_46 : decode cX11_behind 46 = .ok (.iload_n 2, 1) := by decide +kernel
theorem dX11_behind_47 : decode cX11_behind 47 = .ok (.ifCond .ne 8, 3) := by decide +kernel
theorem dX11_behind_50 : decode cX11_behind 50 = .ok (.iload 4, 2) := by decide +kernel
theorem dX11_behind_52 : decode cX11_behind 52 = .ok (.goto 16, 3) := by decide +kernel
theorem dX11_behind_55 : decode cX11_behind 55 = .ok (.aload_n 0, 1) := by decide +kernel
theorem dX11_behind_56 : decode cX11_behind 56 = .ok (.getfield 43, 3) := by decide +kernel
theorem dX11_behind_59 : decode cX11_behind 59 = .ok (.getfield 151, 3) := by decide +kernel
theorem dX11_behind_62 : decode cX11_behind 62 = .ok (.getfield 100, 3) := by decide +kernel
theorem dX11_behind_65 : decode cX11_behind 65 = .ok (.iload 4, 2) := by decide +kernel
theorem dX11_behind_67 : decode cX11_behind 67 = .ok (.iaload, 1) := by decide +kernel
theorem dX11_behind_68 : decode cX11_behind 68 = .ok (.ireturn, 1) := by decide +kernel
end
section
theorem dX11_his_0 : decode cX11_his 0 = .ok (.iload_n 1, 1) := by decide +kernel
theorem dX11_his_1 : decode cX11_his 1 = .ok (.iconst 0, 1) := by decide +kernel
theorem dX11_his_2 : decode cX11_his 2 = .ok (.iconst 3, 1) := by decide +kernel
theorem dX11_his_3 : decode cX11_his 3 = .ok (.invokestatic 96, 3) := by decide +kernel
theorem dX11_his_6 : decode cX11_his 6 = .ok (.ifCond .ne 6, 3) := by decide +kernel
theorem dX11_his_9 : decode cX11_his 9 = .ok (.bipush (-2), 2) := by decide +kernel
theorem dX11_his_11 : decode cX11_his 11 = .ok (.ireturn, 1) := by decide +kernel
theorem dX11_his_12 : decode cX11_his 12 = .ok (.aload_n 0, 1) := by decide +kernel
theorem dX11_his_13 : decode cX11_his 13 = .ok (.invokevirtual 139, 3) := by decide +kernel
theorem dX11_his_16 : decode cX11_his 16 = .ok (.istore_n 2, 1) := by decide +kernel
theorem dX11_his_17 : decode cX11_his 17 = .ok (.iload_n 2, 1) := by decide +kernel
theorem dX11_his_18 : decode cX11_his 18 = .ok (.ifCond .eq 5, 3) := by decide +kernel
theorem dX11_his_21 : decode cX11_his 21 = .ok (.iload_n 2, 1) := by decide +kernel
theorem dX11_his_22 : decode cX11_his 22 = .ok (.ireturn, 1) := by decide +kernel
theorem dX11_his_23 : decode cX11_his 23 = .ok (.iload_n 1, 1) := by decide +kernel
theorem dX11_his_24 : decode cX11_his 24 = .ok (.tableswitch 61 0 2 #[28, 39, 50], 28) := by decide +kernel
theorem dX11_his_52 : decode cX11_his 52 = .ok (.aload_n 0, 1) := by decide +kernel
theorem dX11_his_53 : decode cX11_his 53 = .ok (.getfield 43, 3) := by decide +kernel
theorem dX11_his_56 : decode cX11_his 56 = .ok (.getfield 151, 3) := by decide +kernel
theorem dX11_his_59 : decode cX11_his 59 = .ok (.getfield 121, 3) := by decide +kernel
theorem dX11_his_62 : decode cX11_his 62 = .ok (.ireturn, 1) := by decide +kernel
theorem dX11_his_63 : decode cX11_his 63 = .ok (.aload_n 0, 1) := by decide +kernel
theorem dX11_his_64 : decode cX11_his 64 = .ok (.getfield 43, 3) := by decide +kernel
theorem dX11_his_67 : decode cX11_his 67 = .ok (.getfield 151, 3) := by decide +kernel
theorem dX11_his_70 : decode cX11_his 70 = .ok (.getfield 124, 3) := by decide +kernel
theorem dX11_his_73 : decode cX11_his 73 = .ok (.ireturn, 1) := by decide +kernel
theorem dX11_his_74 : decode cX11_his 74 = .ok (.aload_n 0, 1) := by decide +kernel
theorem dX11_his_75 : decode cX11_his 75 = .ok (.getfield 43, 3) := by decide +kernel
theorem dX11_his_78 : decode cX11_his 78 = .ok (.getfield 151, 3) := by decide +kernel
theorem dX11_his_81 : decode cX11_his 81 = .ok (.getfield 127, 3) := by decide +kernel
theorem dX11_his_84 : decode cX11_his 84 = .ok (.ireturn, 1) := by decide +kernel
theorem dX11_his_85 : decode cX11_his 85 = .ok (.aload_n 0, 1) := by decide +kernel
theorem dX11_his_86 : decode cX11_his 86 = .ok (.getfield 43, 3) := by decide +kernel
theorem dX11_his_89 : decode cX11_his 89 = .ok (.getfield 151, 3) := by decide +kernel
theorem dX11_his_92 : decode cX11_his 92 = .ok (.getfield 114, 3) := by decide +kernel
theorem dX11_his_95 : decode cX11_his 95 = .ok (.ireturn, 1) := by decide +kernel
theorem dX11_wrong_0 : decode cX11_wrong 0 = .ok (.iload_n 1, 1) := by decide +kernel
theorem dX11_wrong_1 : decode cX11_wrong 1 = .ok (.iconst 0, 1) := by decide +kernel
theorem dX11_wrong_2 : decode cX11_wrong 2 = .ok (.iconst 2, 1) := by decide +kernel
theorem dX11_wrong_3 : decode cX11_wrong 3 = .ok (.invokestatic 96, 3) := by decide +kernel
theorem dX11_wrong_6 : decode cX11_wrong 6 = .ok (.ifCond .ne 6, 3) := by decide +kernel
theorem dX11_wrong_9 : decode cX11_wrong 9 = .ok (.bipush (-2), 2) := by decide +kernel
theorem dX11_wrong_11 : decode cX11_wrong 11 = .ok (.ireturn, 1) := by decide +kernel
theorem dX11_wrong_12 : decode cX11_wrong 12 = .ok (.aload_n 0, 1) := by decide +kernel
theorem dX11_wrong_13 : decode cX11_wrong 13 = .ok (.invokevirtual 139, 3) := by decide +kernel
theorem dX11_wrong_16 : decode cX11_wrong 16 = .ok (.istore_n 2, 1) := by decide +kernel
theorem dX11_wrong_17 : decode cX11_wrong 17 = .ok (.iload_n 2, 1) := by decide +kernel
theorem dX11_wrong_18 : decode cX11_wrong 18 = .ok (.ifCond .eq 5, 3) := by decide +kernel
theorem dX11_wrong_21 : decode cX11_wrong 21 = .ok (.iload_n 2, 1) := by decide +kernel
theorem dX11_wrong_22 : decode cX11_wrong 22 = .ok (.ireturn, 1) := by decide +kernel
theorem dX11_wrong_23 : decode cX11_wrong 23 = .ok (.iload_n 1, 1) := by decide +kernel
theorem dX11_wrong_24 : decode cX11_wrong 24 = .ok (.ifCond .ne 14, 3) := by decide +kernel
theorem dX11_wrong_27 : decode cX11_wrong 27 = .ok (.aload_n 0, 1) := by decide +kernel
theorem dX11_wrong_28 : decode cX11_wrong 28 = .ok (.getfield 43, 3) := by decide +kernel
theorem dX11_wrong_31 : decode cX11_wrong 31 = .ok (.getfield 151, 3) := by decide +kernel
theorem dX11_wrong_34 : decode cX11_wrong 34 = .ok (.invokevirtual 107, 3) := by decide +kernel
theorem dX11_wrong_37 : decode cX11_wrong 37 = .ok (.ireturn, 1) := by decide +kernel
theorem dX11_wrong_38 : decode cX11_wrong 38 = .ok (.iload_n 1, 1) := by decide +kernel
theorem dX11_wrong_39 : decode cX11_wrong 39 = .ok (.iconst 1, 1) := by decide +kernel
theorem dX11_wrong_40 : decode cX11_wrong 40 = .ok (.if_icmp .ne 13, 3) := by decide +kernel
theorem dX11_wrong_43 : decode cX11_wrong 43 = .ok (.aload_n 0, 1) := by decide +kernel
theorem dX11_wrong_44 : decode cX11_wrong 44 = .ok (.getfield 43, 3) := by decide +kernel
theorem dX11_wrong_47 : decode cX11_wrong 47 = .ok (.getfield 155, 3) := by decide +kernel
theorem dX11_wrong_50 : decode cX11_wrong 50 = .ok (.goto 10, 3) := by decide +kernel
theorem dX11_wrong_53 : decode cX11_wrong 53 = .ok (.aload_n 0, 1) := by decide +kernel
theorem dX11_wrong_54 : decode cX11_wrong 54 = .ok (.getfield 43, 3) := by decide +kernel
theorem dX11_wrong_57 : decode cX11_wrong 57 = .ok (.getfield 158, 3) := by decide +kernel
theorem dX11_wrong_60 : decode cX11_wrong 60 = .ok (.ireturn, 1) := by decide +kernel
theorem dX11_done_0 : decode cX11_done 0 = .ok (.aload_n 0, 1) := by decide +kernel
theorem dX11_done_1 : decode cX11_done 1 = .ok (.invokevirtual 139, 3) := by decide +kernel
theorem dX11_done_4 : decode cX11_done 4 = .ok (.istore_n 1, 1) := by decide +kernel
theorem dX11_done_5 : decode cX11_done 5 = .ok (.iload_n 1, 1) := by decide +kernel
theorem dX11_done_6 : decode cX11_done 6 = .ok (.ifCond .eq 5, 3) := by decide +kernel
theorem dX11_done_9 : decode cX11_done 9 = .ok (.iload_n 1, 1) := by decide +kernel
theorem dX11_done_10 : decode cX11_done 10 = .ok (.ireturn, 1) := by decide +kernel
theorem dX11_done_11 : decode cX11_done 11 = .ok (.aload_n 0, 1) := by decide +kernel
theorem dX11_done_12 : decode cX11_done 12 = .ok (.getfield 12, 3) := by decide +kernel
theorem dX11_done_15 : decode cX11_done 15 = .ok (.aload_n 0, 1) := by decide +kernel
theorem dX11_done_16 : decode cX11_done 16 = .ok (.getfield 43, 3) := by decide +kernel
theorem dX11_done_19 : decode cX11_done 19 = .ok (.getfield 151, 3) := by decide +kernel
theorem dX11_done_22 : decode cX11_done 22 = .ok (.invokevirtual 161, 3) := by decide +kernel
theorem dX11_done_25 : decode cX11_done 25 = .ok (.aload_n 0, 1) := by decide +kernel
theorem dX11_done_26 : decode cX11_done 26 = .ok (.getfield 26, 3) := by decide +kernel
theorem dX11_done_29 : decode cX11_done 29 = .ok (.iconst 0, 1) := by decide +kernel
theorem dX11_done_30 : decode cX11_done 30 = .ok (.putfield 133, 3) := by decide +kernel
theorem dX11_done_33 : decode cX11_done 33 = .ok (.aload_n 0, 1) := by decide +kernel
theorem dX11_done_34 : decode cX11_done 34 = .ok (.getfield 43, 3) := by decide +kernel
theorem dX11_done_37 : decode cX11_done 37 = .ok (.getfield 165, 3) := by decide +kernel
theorem dX11_done_40 : decode cX11_done 40 = .ok (.ireturn, 1) := by decide +kernel
theorem dX11_round_0 : decode cX11_round 0 = .ok (.iload_n 1, 1) := by decide +kernel
theorem dX11_round_1 : decode cX11_round 1 = .ok (.invokestatic 89, 3) := by decide +kernel
theorem dX11_round_4 : decode cX11_round 4 = .ok (.ifCond .ne 5, 3) := by decide +kernel
theorem dX11_round_7 : decode cX11_round 7 = .ok (.iconst (-1), 1) := by decide +kernel
theorem dX11_round_8 : decode cX11_round 8 = .ok (.ireturn, 1) := by decide +kernel
theorem dX11_round_9 : decode cX11_round 9 = .ok (.iload_n 2, 1) := by decide +kernel
theorem dX11_round_10 : decode cX11_round 10 = .ok (.iconst 0, 1) := by decide +kernel
theorem dX11_round_11 : decode cX11_round 11 = .ok (.iconst 1, 1) := by decide +kernel
theorem dX11_round_12 : decode cX11_round 12 = .ok (.invokestatic 96, 3) := by decide +kernel
theorem dX11_round_15 : decode cX11_round 15 = .ok (.ifCond .ne 6, 3) := by decide +kernel
theorem dX11_round_18 : decode cX11_round 18 = .ok (.bipush (-2), 2) := by decide +kernel
theorem dX11_round_20 : decode cX11_round 20 = .ok (.ireturn, 1) := by decide +kernel
theorem dX11_round_21 : decode cX11_round 21 = .ok (.aload_n 0, 1) := by decide +kernel
theorem dX11_round_22 : decode cX11_round 22 = .ok (.getfield 50, 3) := by decide +kernel
theorem dX11_round_25 : decode cX11_round 25 = .ok (.aload_n 0, 1) := by decide +kernel
theorem dX11_round_26 : decode cX11_round 26 = .ok (.getfield 12, 3) := by decide +kernel
theorem dX11_round_29 : decode cX11_round 29 = .ok (.iload_n 1, 1) := by decide +kernel
theorem dX11_round_30 : decode cX11_round 30 = .ok (.invokevirtual 168, 3) := by decide +kernel
theorem dX11_round_33 : decode cX11_round 33 = .ok (.iload_n 2, 1) := by decide +kernel
theorem dX11_round_34 : decode cX11_round 34 = .ok (.ifCond .ne 13, 3) := by decide +kernel
theorem dX11_round_37 : decode cX11_round 37 = .ok (.aload_n 0, 1) := by decide +kernel
theorem dX11_round_38 : decode cX11_round 38 = .ok (.getfield 50, 3) := by decide +kernel
theorem dX11_round_41 : decode cX11_round 41 = .ok (.getfield 172, 3) := by decide +kernel
theorem dX11_round_44 : decode cX11_round 44 = .ok (.goto 10, 3) := by decide +kernel
theorem dX11_round_47 : decode cX11_round 47 = .ok (.aload_n 0, 1) := by decide +kernel
theorem dX11_round_48 : decode cX11_round 48 = .ok (.getfield 50, 3) := by decide +kernel
theorem dX11_round_51 : decode cX11_round 51 = .ok (.getfield 175, 3) := by decide +kernel
theorem dX11_round_54 : decode cX11_round 54 = .ok (.ireturn, 1) := by decide +kernel
theorem dX11_show_0 : decode cX11_show 0 = .ok (.iload_n 1, 1) := by decide +kernel
theorem dX11_show_1 : decode cX11_show 1 = .ok (.invokestatic 93, 3) := by decide +kernel
theorem dX11_show_4 : decode cX11_show 4 = .ok (.ifCond .eq 12, 3) := by decide +kernel
theorem dX11_show_7 : decode cX11_show 7 = .ok (.iload_n 2, 1) := by decide +kernel
theorem dX11_show_8 : decode cX11_show 8 = .ok (.iconst 0, 1) := by decide +kernel
theorem dX11_show_9 : decode cX11_show 9 = .ok (.iconst 1, 1) := by decide +kernel
theorem dX11_show_10 : decode cX11_show 10 = .ok (.invokestatic 96, 3) := by decide +kernel
theorem dX11_show_13 : decode cX11_show 13 = .ok (.ifCond .ne 6, 3) := by decide +kernel
theorem dX11_show_16 : decode cX11_show 16 = .ok (.bipush (-2), 2) := by decide +kernel
theorem dX11_show_18 : decode cX11_show 18 = .ok (.ireturn, 1) := by decide +kernel
theorem dX11_show_19 : decode cX11_show 19 = .ok (.aload_n 0, 1) := by decide +kernel
theorem dX11_show_20 : decode cX11_show 20 = .ok (.getfield 50, 3) := by decide +kernel
theorem dX11_show_23 : decode cX11_show 23 = .ok (.aload_n 0, 1) := by decide +kernel
theorem dX11_show_24 : decode cX11_show 24 = .ok (.getfield 12, 3) := by decide +kernel
theorem dX11_show_27 : decode cX11_show 27 = .ok (.iload_n 1, 1) := by decide +kernel
theorem dX11_show_28 : decode cX11_show 28 = .ok (.invokevirtual 178, 3) := by decide +kernel
theorem dX11_show_31 : decode cX11_show 31 = .ok (.iload_n 2, 1) := by decide +kernel
theorem dX11_show_32 : decode cX11_show 32 = .ok (.ifCond .ne 13, 3) := by decide +kernel
theorem dX11_show_35 : decode cX11_show 35 = .ok (.aload_n 0, 1) := by decide +kernel
theorem dX11_show_36 : decode cX11_show 36 = .ok (.getfield 50, 3) := by decide +kernel
theorem dX11_show_39 : decode cX11_show 39 = .ok (.getfield 172, 3) := by decide +kernel
theorem dX11_show_42 : decode cX11_show 42 = .ok (.goto 10, 3) := by decide +kernel
theorem dX11_show_45 : decode cX11_show 45 = .ok (.aload_n 0, 1) := by decide +kernel
theorem dX11_show_46 : decode cX11_show 46 = .ok (.getfield 50, 3) := by decide +kernel
theorem dX11_show_49 : decode cX11_show 49 = .ok (.getfield 175, 3) := by decide +kernel
theorem dX11_show_52 : decode cX11_show 52 = .ok (.ireturn, 1) := by decide +kernel
theorem dX11_owners_0 : decode cX11_owners 0 = .ok (.iload_n 2, 1) := by decide +kernel
theorem dX11_owners_1 : decode cX11_owners 1 = .ok (.iconst (-1), 1) := by decide +kernel
theorem dX11_owners_2 : decode cX11_owners 2 = .ok (.if_icmp .eq 12, 3) := by decide +kernel
theorem dX11_owners_5 : decode cX11_owners 5 = .ok (.iload_n 2, 1) := by decide +kernel
theorem dX11_owners_6 : decode cX11_owners 6 = .ok (.invokestatic 181, 3) := by decide +kernel
theorem dX11_owners_9 : decode cX11_owners 9 = .ok (.ifCond .ne 5, 3) := by decide +kernel
theorem dX11_owners_12 : decode cX11_owners 12 = .ok (.iconst (-1), 1) := by decide +kernel
theorem dX11_owners_13 : decode cX11_owners 13 = .ok (.ireturn, 1) := by decide +kernel
theorem dX11_owners_14 : decode cX11_owners 14 = .ok (.iload_n 1, 1) := by decide +kernel
theorem dX11_owners_15 : decode cX11_owners 15 = .ok (.invokestatic 93, 3) := by decide +kernel
theorem dX11_owners_18 : decode cX11_owners 18 = .ok (.ifCond .ne 6, 3) := by decide +kernel
theorem dX11_owners_21 : decode cX11_owners 21 = .ok (.bipush (-2), 2) := by decide +kernel
theorem dX11_owners_23 : decode cX11_owners 23 = .ok (.ireturn, 1) := by decide +kernel
theorem dX11_owners_24 : decode cX11_owners 24 = .ok (.aload_n 0, 1) := by decide +kernel
theorem dX11_owners_25 : decode cX11_owners 25 = .ok (.getfield 57, 3) := by decide +kernel
theorem dX11_owners_28 : decode cX11_owners 28 = .ok (.aload_n 0, 1) := by decide +kernel
theorem dX11_owners_29 : decode cX11_owners 29 = .ok (.getfield 12, 3) := by decide +kernel
theorem dX11_owners_32 : decode cX11_owners 32 = .ok (.iload_n 1, 1) := by decide +kernel
theorem dX11_owners_33 : decode cX11_owners 33 = .ok (.invokevirtual 184, 3) := by decide +kernel
theorem dX11_owners_36 : decode cX11_owners 36 = .ok (.iload_n 2, 1) := by decide +kernel
theorem dX11_owners_37 : decode cX11_owners 37 = .ok (.iconst (-1), 1) := by decide +kernel
theorem dX11_owners_38 : decode cX11_owners 38 = .ok (.if_icmp .ne 13, 3) := by decide +kernel
theorem dX11_owners_41 : decode cX11_owners 41 = .ok (.aload_n 0, 1) := by decide +kernel
theorem dX11_owners_42 : decode cX11_owners 42 = .ok (.getfield 57, 3) := by decide +kernel
theorem dX11_owners_45 : decode cX11_owners 45 = .ok (.getfield 187, 3) := by decide +kernel
theorem dX11_owners_48 : decode cX11_owners 48 = .ok (.goto 12, 3) := by decide +kernel
theorem dX11_owners_51 : decode cX11_owners 51 = .ok (.aload_n 0, 1) := by decide +kernel
theorem dX11_owners_52 : decode cX11_owners 52 = .ok (.getfield 57, 3) := by decide +kernel
theorem dX11_owners_55 : decode cX11_owners 55 = .ok (.getfield 188, 3) := by decide +kernel
theorem dX11_owners_58 : decode cX11_owners 58 = .ok (.iload_n 2, 1) := by decide +kernel
theorem dX11_owners_59 : decode cX11_owners 59 = .ok (.iaload, 1) := by decide +kernel
theorem dX11_owners_60 : decode cX11_owners 60 = .ok (.ireturn, 1) := by decide +kernel
theorem dX11_towels_0 : decode cX11_towels 0 = .ok (.iload_n 2, 1) := by decide +kernel
theorem dX11_towels_1 : decode cX11_towels 1 = .ok (.iconst 0, 1) := by decide +kernel
theorem dX11_towels_2 : decode cX11_towels 2 = .ok (.iconst 1, 1) := by decide +kernel
theorem dX11_towels_3 : decode cX11_towels 3 = .ok (.invokestatic 96, 3) := by decide +kernel
theorem dX11_towels_6 : decode cX11_towels 6 = .ok (.ifCond .eq 14, 3) := by decide +kernel
theorem dX11_towels_9 : decode cX11_towels 9 = .ok (.aload_n 0, 1) := by decide +kernel
theorem dX11_towels_10 : decode cX11_towels 10 = .ok (.getfield 64, 3) := by decide +kernel
theorem dX11_towels_13 : decode cX11_towels 13 = .ok (.iload_n 1, 1) := by decide +kernel
theorem dX11_towels_14 : decode cX11_towels 14 = .ok (.invokevirtual 191, 3) := by decide +kernel
theorem dX11_towels_17 : decode cX11_towels 17 = .ok (.ifCond .ne 6, 3) := by decide +kernel
theorem dX11_towels_20 : decode cX11_towels 20 = .ok (.bipush (-2), 2) := by decide +kernel
theorem dX11_towels_22 : decode cX11_towels 22 = .ok (.ireturn, 1) := by decide +kernel
theorem dX11_towels_23 : decode cX11_towels 23 = .ok (.aload_n 0, 1) := by decide +kernel
theorem dX11_towels_24 : decode cX11_towels 24 = .ok (.getfield 64, 3) := by decide +kernel
theorem dX11_towels_27 : decode cX11_towels 27 = .ok (.invokevirtual 194, 3) := by decide +kernel
theorem dX11_towels_30 : decode cX11_towels 30 = .ok (.iload_n 2, 1) := by decide +kernel
theorem dX11_towels_31 : decode cX11_towels 31 = .ok (.ifCond .ne 13, 3) := by decide +kernel
theorem dX11_towels_34 : decode cX11_towels 34 = .ok (.aload_n 0, 1) := by decide +kernel
theorem dX11_towels_35 : decode cX11_towels 35 = .ok (.getfield 64, 3) := by decide +kernel
theorem dX11_towels_38 : decode cX11_towels 38 = .ok (.getfield 197, 3) := by decide +kernel
theorem dX11_towels_41 : decode cX11_towels 41 = .ok (.goto 10, 3) := by decide +kernel
theorem dX11_towels_44 : decode cX11_towels 44 = .ok (.aload_n 0, 1) := by decide +kernel
theorem dX11_towels_45 : decode cX11_towels 45 = .ok (.getfield 64, 3) := by decide +kernel
theorem dX11_towels_48 : decode cX11_towels 48 = .ok (.getfield 200, 3) := by decide +kernel
theorem dX11_towels_51 : decode cX11_towels 51 = .ok (.ireturn, 1) := by decide +kernel
theorem dX11_found_0 : decode cX11_found 0 = .ok (.iload_n 2, 1) := by decide +kernel
theorem dX11_found_1 : decode cX11_found 1 = .ok (.invokestatic 181, 3) := by decide +kernel
theorem dX11_found_4 : decode cX11_found 4 = .ok (.ifCond .ne 5, 3) := by decide +kernel
theorem dX11_found_7 : decode cX11_found 7 = .ok (.iconst (-1), 1) := by decide +kernel
theorem dX11_found_8 : decode cX11_found 8 = .ok (.ireturn, 1) := by decide +kernel
theorem dX11_found_9 : decode cX11_found 9 = .ok (.iload_n 1, 1) := by decide +kernel
theorem dX11_found_10 : decode cX11_found 10 = .ok (.iconst 0, 1) := by decide +kernel
theorem dX11_found_11 : decode cX11_found 11 = .ok (.bipush 60, 2) := by decide +kernel
theorem dX11_found_13 : decode cX11_found 13 = .ok (.invokestatic 96, 3) := by decide +kernel
theorem dX11_found_16 : decode cX11_found 16 = .ok (.ifCond .ne 6, 3) := by decide +kernel
theorem dX11_found_19 : decode cX11_found 19 = .ok (.bipush (-2), 2) := by decide +kernel
theorem dX11_found_21 : decode cX11_found 21 = .ok (.ireturn, 1) := by decide +kernel
theorem dX11_found_22 : decode cX11_found 22 = .ok (.aload_n 0, 1) := by decide +kernel
theorem dX11_found_23 : decode cX11_found 23 = .ok (.getfield 19, 3) := by decide +kernel
theorem dX11_found_26 : decode cX11_found 26 = .ok (.iload_n 1, 1) := by decide +kernel
theorem dX11_found_27 : decode cX11_found 27 = .ok (.iload_n 2, 1) := by decide +kernel
theorem dX11_found_28 : decode cX11_found 28 = .ok (.invokevirtual 203, 3) := by decide +kernel
theorem dX11_found_31 : decode cX11_found 31 = .ok (.ifCond .eq 13, 3) := by decide +kernel
theorem dX11_found_34 : decode cX11_found 34 = .ok (.aload_n 0, 1) := by decide +kernel
theorem dX11_found_35 : decode cX11_found 35 = .ok (.getfield 19, 3) := by decide +kernel
theorem dX11_found_38 : decode cX11_found 38 = .ok (.getfield 206, 3) := by decide +kernel
theorem dX11_found_41 : decode cX11_found 41 = .ok (.goto 5, 3) := by decide +kernel
theorem dX11_found_44 : decode cX11_found 44 = .ok (.bipush (-4), 2) := by decide +kernel
theorem dX11_found_46 : decode cX11_found 46 = .ok (.ireturn, 1) := by decide +kernel
theorem dX11_forget_0 : decode cX11_forget 0 = .ok (.aload_n 0, 1) := by decide +kernel
theorem dX11_forget_1 : decode cX11_forget 1 = .ok (.getfield 19, 3) := by decide +kernel
theorem dX11_forget_4 : decode cX11_forget 4 = .ok (.getfield 206, 3) := by decide +kernel
theorem dX11_forget_7 : decode cX11_forget 7 = .ok (.istore_n 1, 1) := by decide +kernel
theorem dX11_forget_8 : decode cX11_forget 8 = .ok (.aload_n 0, 1) := by decide +kernel
theorem dX11_forget_9 : decode cX11_forget 9 = .ok (.getfield 19, 3) := by decide +kernel
theorem dX11_forget_12 : decode cX11_forget 12 = .ok (.iconst 0, 1) := by decide +kernel
theorem dX11_forget_13 : decode cX11_forget 13 = .ok (.putfield 206, 3) := by decide +kernel
theorem dX11_forget_16 : decode cX11_forget 16 = .ok (.iload_n 1, 1) := by decide +kernel
theorem dX11_forget_17 : decode cX11_forget 17 = .ok (.ireturn, 1) := by decide +kernel
theorem dX11_fits_0 : decode cX11_fits 0 = .ok (.aload_n 0, 1) := by decide +kernel
theorem dX11_fits_1 : decode cX11_fits 1 = .ok (.getfield 71, 3) := by decide +kernel
theorem dX11_fits_4 : decode cX11_fits 4 = .ok (.aload_n 0, 1) := by decide +kernel
theorem dX11_fits_5 : decode cX11_fits 5 = .ok (.getfield 19, 3) := by decide +kernel
theorem dX11_fits_8 : decode cX11_fits 8 = .ok (.invokevirtual 207, 3) := by decide +kernel
theorem dX11_fits_11 : decode cX11_fits 11 = .ok (.iload_n 1, 1) := by decide +kernel
theorem dX11_fits_12 : decode cX11_fits 12 = .ok (.iconst (-1), 1) := by decide +kernel
theorem dX11_fits_13 : decode cX11_fits 13 = .ok (.if_icmp .ne 11, 3) := by decide +kernel
theorem dX11_fits_16 : decode cX11_fits 16 = .ok (.aload_n 0, 1) := by decide +kernel
theorem dX11_fits_17 : decode cX11_fits 17 = .ok (.getfield 71, 3) := by decide +kernel
theorem dX11_fits_20 : decode cX11_fits 20 = .ok (.getfield 211, 3) := by decide +kernel
theorem dX11_fits_23 : decode cX11_fits 23 = .ok (.ireturn, 1) := by decide +kernel
theorem dX11_fits_24 : decode cX11_fits 24 = .ok (.iload_n 1, 1) := by decide +kernel
theorem dX11_fits_25 : decode cX11_fits 25 = .ok (.iconst 0, 1) := by decide +kernel
theorem dX11_fits_26 : decode cX11_fits 26 = .ok (.aload_n 0, 1) := by decide +kernel
theorem dX11_fits_27 : decode cX11_fits 27 = .ok (.getfield 71, 3) := by decide +kernel
theorem dX11_fits_30 : decode cX11_fits 30 = .ok (.getfield 211, 3) := by decide +kernel
theorem dX11_fits_33 : decode cX11_fits 33 = .ok (.iconst 1, 1) := by decide +kernel
theorem dX11_fits_34 : decode cX11_fits 34 = .ok (.isub, 1) := by decide +kernel
theorem dX11_fits_35 : decode cX11_fits 35 = .ok (.invokestatic 96, 3) := by decide +kernel
theorem dX11_fits_38 : decode cX11_fits 38 = .ok (.ifCond .eq 15, 3) := by decide +kernel
theorem dX11_fits_41 : decode cX11_fits 41 = .ok (.aload_n 0, 1) := by decide +kernel
theorem dX11_fits_42 : decode cX11_fits 42 = .ok (.getfield 71, 3) := by decide +kernel
theorem dX11_fits_45 : decode cX11_fits 45 = .ok (.getfield 212, 3) := by decide +kernel
theorem dX11_fits_48 : decode cX11_fits 48 = .ok (.iload_n 1, 1) := by decide +kernel
theorem dX11_fits_49 : decode cX11_fits 49 = .ok (.iaload, 1) := by decide +kernel
theorem dX11_fits_50 : decode cX11_fits 50 = .ok (.goto 5, 3) := by decide +kernel
theorem dX11_fits_53 : decode cX11_fits 53 = .ok (.bipush (-6), 2) := by decide +kernel
theorem dX11_fits_55 : decode cX11_fits 55 = .ok (.ireturn, 1) := by decide +kernel
theorem dX11_ask_0 : decode cX11_ask 0 = .ok (.iload_n 1, 1) := by decide +kernel
theorem dX11_ask_1 : decode cX11_ask 1 = .ok (.iconst 0, 1) := by decide +kernel
theorem dX11_ask_2 : decode cX11_ask 2 = .ok (.iconst 1, 1) := by decide +kernel
theorem dX11_ask_3 : decode cX11_ask 3 = .ok (.invokestatic 96, 3) := by decide +kernel
theorem dX11_ask_6 : decode cX11_ask 6 = .ok (.ifCond .ne 6, 3) := by decide +kernel
theorem dX11_ask_9 : decode cX11_ask 9 = .ok (.bipush (-2), 2) := by decide +kernel
theorem dX11_ask_11 : decode cX11_ask 11 = .ok (.ireturn, 1) := by decide +kernel
theorem dX11_ask_12 : decode cX11_ask 12 = .ok (.aload_n 0, 1) := by decide +kernel
theorem dX11_ask_13 : decode cX11_ask 13 = .ok (.getfield 71, 3) := by decide +kernel
theorem dX11_ask_16 : decode cX11_ask 16 = .ok (.aload_n 0, 1) := by decide +kernel
theorem dX11_ask_17 : decode cX11_ask 17 = .ok (.getfield 19, 3) := by decide +kernel
theorem dX11_ask_20 : decode cX11_ask 20 = .ok (.invokevirtual 207, 3) := by decide +kernel
theorem dX11_ask_23 : decode cX11_ask 23 = .ok (.aload_n 0, 1) := by decide +kernel
theorem dX11_ask_24 : decode cX11_ask 24 = .ok (.getfield 71, 3) := by decide +kernel
theorem dX11_ask_27 : decode cX11_ask 27 = .ok (.invokevirtual 215, 3) := by decide +kernel
theorem dX11_ask_30 : decode cX11_ask 30 = .ok (.iload_n 1, 1) := by decide +kernel
theorem dX11_ask_31 : decode cX11_ask 31 = .ok (.ifCond .ne 13, 3) := by decide +kernel
theorem dX11_ask_34 : decode cX11_ask 34 = .ok (.aload_n 0, 1) := by decide +kernel
theorem dX11_ask_35 : decode cX11_ask 35 = .ok (.getfield 71, 3) := by decide +kernel
theorem dX11_ask_38 : decode cX11_ask 38 = .ok (.getfield 218, 3) := by decide +kernel
theorem dX11_ask_41 : decode cX11_ask 41 = .ok (.goto 10, 3) := by decide +kernel
theorem dX11_ask_44 : decode cX11_ask 44 = .ok (.aload_n 0, 1) := by decide +kernel
theorem dX11_ask_45 : decode cX11_ask 45 = .ok (.getfield 71, 3) := by decide +kernel
theorem dX11_ask_48 : decode cX11_ask 48 = .ok (.getfield 221, 3) := by decide +kernel
theorem dX11_ask_51 : decode cX11_ask 51 = .ok (.ireturn, 1) := by decide +kernel
theorem dX11_piles_0 : decode cX11_piles 0 = .ok (.iload_n 1, 1) := by decide +kernel
theorem dX11_piles_1 : decode cX11_piles 1 = .ok (.iconst 0, 1) := by decide +kernel
theorem dX11_piles_2 : decode cX11_piles 2 = .ok (.bipush 20, 2) := by decide +kernel
theorem dX11_piles_4 : decode cX11_piles 4 = .ok (.invokestatic 96, 3) := by decide +kernel
theorem dX11_piles_7 : decode cX11_piles 7 = .ok (.ifCond .eq 22, 3) := by decide +kernel
theorem dX11_piles_10 : decode cX11_piles 10 = .ok (.iload_n 2, 1) := by decide +kernel
theorem dX11_piles_11 : decode cX11_piles 11 = .ok (.iconst 0, 1) := by decide +kernel
theorem dX11_piles_12 : decode cX11_piles 12 = .ok (.bipush 20, 2) := by decide +kernel
theorem dX11_piles_14 : decode cX11_piles 14 = .ok (.invokestatic 96, 3) := by decide +kernel
theorem dX11_piles_17 : decode cX11_piles 17 = .ok (.ifCond .eq 12, 3) := by decide +kernel
theorem dX11_piles_20 : decode cX11_piles 20 = .ok (.iload_n 3, 1) := by decide +kernel
theorem dX11_piles_21 : decode cX11_piles 21 = .ok (.iconst 0, 1) := by decide +kernel
theorem dX11_piles_22 : decode cX11_piles 22 = .ok (.iconst 1, 1) := by decide +kernel
theorem dX11_piles_23 : decode cX11_piles 23 = .ok (.invokestatic 96, 3) := by decide +kernel
theorem dX11_piles_26 : decode cX11_piles 26 = .ok (.ifCond .ne 6, 3) := by decide +kernel
theorem dX11_piles_29 : decode cX11_piles 29 = .ok (.bipush (-2), 2) := by decide +kernel
theorem dX11_piles_31 : decode cX11_piles 31 = .ok (.ireturn, 1) := by decide +kernel
theorem dX11_piles_32 : decode cX11_piles 32 = .ok (.iload_n 3, 1) := by decide +kernel
theorem dX11_piles_33 : decode cX11_piles 33 = .ok (.iconst 1, 1) := by decide +kernel
theorem dX11_piles_34 : decode cX11_piles 34 = .ok (.if_icmp .ne 13, 3) := by decide +kernel
theorem dX11_piles_37 : decode cX11_piles 37 = .ok (.aload_n 0, 1) := by decide +kernel
theorem dX11_piles_38 : decode cX11_piles 38 = .ok (.getfield 78, 3) := by decide +kernel
theorem dX11_piles_41 : decode cX11_piles 41 = .ok (.iload_n 1, 1) := by decide +kernel
theorem dX11_piles_42 : decode cX11_piles 42 = .ok (.iload_n 2, 1) := by decide +kernel
theorem dX11_piles_43 : decode cX11_piles 43 = .ok (.invokevirtual 224, 3) := by decide +kernel
theorem dX11_piles_46 : decode cX11_piles 46 = .ok (.ireturn, 1) := by decide +kernel
theorem dX11_piles_47 : decode cX11_piles 47 = .ok (.aload_n 0, 1) := by decide +kernel
theorem dX11_piles_48 : decode cX11_piles 48 = .ok (.getfield 78, 3) := by decide +kernel
theorem dX11_piles_51 : decode cX11_piles 51 = .ok (.iload_n 1, 1) := by decide +kernel
theorem dX11_piles_52 : decode cX11_piles 52 = .ok (.iload_n 2, 1) := by decide +kernel
theorem dX11_piles_53 : decode cX11_piles 53 = .ok (.invokevirtual 228, 3) := by decide +kernel
theorem dX11_piles_56 : decode cX11_piles 56 = .ok (.ifCond .eq 7, 3) := by decide +kernel
theorem dX11_piles_59 : decode cX11_piles 59 = .ok (.iconst 0, 1) := by decide +kernel
theorem dX11_piles_60 : decode cX11_piles 60 = .ok (.goto 4, 3) := by decide +kernel
theorem dX11_piles_63 : decode cX11_piles 63 = .ok (.iconst 1, 1) := by decide +kernel
theorem dX11_piles_64 : decode cX11_piles 64 = .ok (.ireturn, 1) := by decide +kernel
theorem dX11_lengths_0 : decode cX11_lengths 0 = .ok (.iload_n 1, 1) := by decide +kernel
theorem dX11_lengths_1 : decode cX11_lengths 1 = .ok (.iconst 0, 1) := by decide +kernel
theorem dX11_lengths_2 : decode cX11_lengths 2 = .ok (.bipush 12, 2) := by decide +kernel
theorem dX11_lengths_4 : decode cX11_lengths 4 = .ok (.invokestatic 96, 3) := by decide +kernel
theorem dX11_lengths_7 : decode cX11_lengths 7 = .ok (.ifCond .eq 43, 3) := by decide +kernel
theorem dX11_lengths_10 : decode cX11_lengths 10 = .ok (.iload_n 2, 1) := by decide +kernel
theorem dX11_lengths_11 : decode cX11_lengths 11 = .ok (.iconst 0, 1) := by decide +kernel
theorem dX11_lengths_12 : decode cX11_lengths 12 = .ok (.bipush 12, 2) := by decide +kernel
theorem dX11_lengths_14 : decode cX11_lengths 14 = .ok (.invokestatic 96, 3) := by decide +kernel
theorem dX11_lengths_17 : decode cX11_lengths 17 = .ok (.ifCond .eq 33, 3) := by decide +kernel
theorem dX11_lengths_20 : decode cX11_lengths 20 = .ok (.iload_n 3, 1) := by decide +kernel
theorem dX11_lengths_21 : decode cX11_lengths 21 = .ok (.iconst 0, 1) := by decide +kernel
theorem dX11_lengths_22 : decode cX11_lengths 22 = .ok (.bipush 10, 2) := by decide +kernel
theorem dX11_lengths_24 : decode cX11_lengths 24 = .ok (.invokestatic 96, 3) := by decide +kernel
theorem dX11_lengths_27 : decode cX11_lengths 27 = .ok (.ifCond .eq 23, 3) := by decide +kernel
theorem dX11_lengths_30 : decode cX11_lengths 30 = .ok (.iload 4, 2) := by decide +kernel
theorem dX11_lengths_32 : decode cX11_lengths 32 = .ok (.iconst 0, 1) := by decide +kernel
theorem dX11_lengths_33 : decode cX11_lengths 33 = .ok (.iconst 1, 1) := by decide +kernel
theorem dX11_lengths_34 : decode cX11_lengths 34 = .ok (.invokestatic 96, 3) := by decide +kernel
theorem dX11_lengths_37 : decode cX11_lengths 37 = .ok (.ifCond .eq 13, 3) := by decide +kernel
theorem dX11_lengths_40 : decode cX11_lengths 40 = .ok (.iload 5, 2) := by decide +kernel
theorem dX11_lengths_42 : decode cX11_lengths 42 = .ok (.iconst 0, 1) := by decide +kernel
theorem dX11_lengths_43 : decode cX11_lengths 43 = .ok (.iconst 1, 1) := by decide +kernel
theorem dX11_lengths_44 : decode cX11_lengths 44 = .ok (.invokestatic 96, 3) := by decide +kernel
theorem dX11_lengths_47 : decode cX11_lengths 47 = .ok (.ifCond .ne 7, 3) := by decide +kernel
theorem dX11_lengths_50 : decode cX11_lengths 50 = .ok (.ldc2_w 231, 3) := by decide +kernel
theorem dX11_lengths_53 : decode cX11_lengths 53 = .ok (.lreturn, 1) := by decide +kernel
theorem dX11_lengths_54 : decode cX11_lengths 54 = .ok (.aload_n 0, 1) := by decide +kernel
theorem dX11_lengths_55 : decode cX11_lengths 55 = .ok (.getfield 85, 3) := by decide +kernel
theorem dX11_lengths_58 : decode cX11_lengths 58 = .ok (.iload_n 2, 1) := by decide +kernel
theorem dX11_lengths_59 : decode cX11_lengths 59 = .ok (.iload_n 3, 1) := by decide +kernel
theorem dX11_lengths_60 : decode cX11_lengths 60 = .ok (.invokevirtual 233, 3) := by decide +kernel
theorem dX11_lengths_63 : decode cX11_lengths 63 = .ok (.iload 4, 2) := by decide +kernel
theorem dX11_lengths_65 : decode cX11_lengths 65 = .ok (.ifCond .ne 14, 3) := by decide +kernel
theorem dX11_lengths_68 : decode cX11_lengths 68 = .ok (.aload_n 0, 1) := by decide +kernel
theorem dX11_lengths_69 : decode cX11_lengths 69 = .ok (.getfield 85, 3) := by decide +kernel
theorem dX11_lengths_72 : decode cX11_lengths 72 = .ok (.iload_n 1, 1) := by decide +kernel
theorem dX11_lengths_73 : decode cX11_lengths 73 = .ok (.invokevirtual 237, 3) := by decide +kernel
theorem dX11_lengths_76 : decode cX11_lengths 76 = .ok (.goto 11, 3) := by decide +kernel
theorem dX11_lengths_79 : decode cX11_lengths 79 = .ok (.aload_n 0, 1) := by decide +kernel
theorem dX11_lengths_80 : decode cX11_lengths 80 = .ok (.getfield 85, 3) := by decide +kernel
theorem dX11_lengths_83 : decode cX11_lengths 83 = .ok (.iload_n 1, 1) := by decide +kernel
theorem dX11_lengths_84 : decode cX11_lengths 84 = .ok (.invokevirtual 241, 3) := by decide +kernel
theorem dX11_lengths_87 : decode cX11_lengths 87 = .ok (.lstore 6, 2) := by decide +kernel
theorem dX11_lengths_89 : decode cX11_lengths 89 = .ok (.lconst 1, 1) := by decide +kernel
theorem dX11_lengths_90 : decode cX11_lengths 90 = .ok (.lload 6, 2) := by decide +kernel
theorem dX11_lengths_92 : decode cX11_lengths 92 = .ok (.aload_n 0, 1) := by decide +kernel
theorem dX11_lengths_93 : decode cX11_lengths 93 = .ok (.getfield 85, 3) := by decide +kernel
theorem dX11_lengths_96 : decode cX11_lengths 96 = .ok (.getfield 244, 3) := by decide +kernel
theorem dX11_lengths_99 : decode cX11_lengths 99 = .ok (.invokestatic 248, 3) := by decide +kernel
theorem dX11_lengths_102 : decode cX11_lengths 102 = .ok (.invokestatic 252, 3) := by decide +kernel
theorem dX11_lengths_105 : decode cX11_lengths 105 = .ok (.lstore 8, 2) := by decide +kernel
theorem dX11_lengths_107 : decode cX11_lengths 107 = .ok (.iload 5, 2) := by decide +kernel
theorem dX11_lengths_109 : decode cX11_lengths 109 = .ok (.ifCond .ne 8, 3) := by decide +kernel
theorem dX11_lengths_112 : decode cX11_lengths 112 = .ok (.lload 6, 2) := by decide +kernel
theorem dX11_lengths_114 : decode cX11_lengths 114 = .ok (.goto 10, 3) := by decide +kernel
theorem dX11_lengths_117 : decode cX11_lengths 117 = .ok (.aload_n 0, 1) := by decide +kernel
theorem dX11_lengths_118 : decode cX11_lengths 118 = .ok (.getfield 85, 3) := by decide +kernel
theorem dX11_lengths_121 : decode cX11_lengths 121 = .ok (.getfield 244, 3) := by decide +kernel
theorem dX11_lengths_124 : decode cX11_lengths 124 = .ok (.lload 8, 2) := by decide +kernel
theorem dX11_lengths_126 : decode cX11_lengths 126 = .ok (.ldiv, 1) := by decide +kernel
theorem dX11_lengths_127 : decode cX11_lengths 127 = .ok (.lreturn, 1) := by decide +kernel
theorem dX11_year_0 : decode cX11_year 0 = .ok (.iload_n 1, 1) := by decide +kernel
theorem dX11_year_1 : decode cX11_year 1 = .ok (.iconst 0, 1) := by decide +kernel
theorem dX11_year_2 : decode cX11_year 2 = .ok (.sipush 9999, 3) := by decide +kernel
theorem dX11_year_5 : decode cX11_year 5 = .ok (.invokestatic 96, 3) := by decide +kernel
theorem dX11_year_8 : decode cX11_year 8 = .ok (.ifCond .eq 22, 3) := by decide +kernel
theorem dX11_year_11 : decode cX11_year 11 = .ok (.iload_n 2, 1) := by decide +kernel
theorem dX11_year_12 : decode cX11_year 12 = .ok (.iconst 1, 1) := by decide +kernel
theorem dX11_year_13 : decode cX11_year 13 = .ok (.bipush 99, 2) := by decide +kernel
theorem dX11_year_15 : decode cX11_year 15 = .ok (.invokestatic 96, 3) := by decide +kernel
theorem dX11_year_18 : decode cX11_year 18 = .ok (.ifCond .eq 12, 3) := by decide +kernel
theorem dX11_year_21 : decode cX11_year 21 = .ok (.iload_n 3, 1) := by decide +kernel
theorem dX11_year_22 : decode cX11_year 22 = .ok (.iconst 0, 1) := by decide +kernel
theorem dX11_year_23 : decode cX11_year 23 = .ok (.iconst 2, 1) := by decide +kernel
theorem dX11_year_24 : decode cX11_year 24 = .ok (.invokestatic 96, 3) := by decide +kernel
theorem dX11_year_27 : decode cX11_year 27 = .ok (.ifCond .ne 6, 3) := by decide +kernel
theorem dX11_year_30 : decode cX11_year 30 = .ok (.bipush (-2), 2) := by decide +kernel
theorem dX11_year_32 : decode cX11_year 32 = .ok (.ireturn, 1) := by decide +kernel
theorem dX11_year_33 : decode cX11_year 33 = .ok (.aload_n 0, 1) := by decide +kernel
theorem dX11_year_34 : decode cX11_year 34 = .ok (.getfield 43, 3) := by decide +kernel
theorem dX11_year_37 : decode cX11_year 37 = .ok (.aload_n 0, 1) := by decide +kernel
theorem dX11_year_38 : decode cX11_year 38 = .ok (.getfield 12, 3) := by decide +kernel
theorem dX11_year_41 : decode cX11_year 41 = .ok (.iload_n 1, 1) := by decide +kernel
theorem dX11_year_42 : decode cX11_year 42 = .ok (.iload_n 2, 1) := by decide +kernel
theorem dX11_year_43 : decode cX11_year 43 = .ok (.invokevirtual 257, 3) := by decide +kernel
theorem dX11_year_46 : decode cX11_year 46 = .ok (.iload_n 3, 1) := by decide +kernel
theorem dX11_year_47 : decode cX11_year 47 = .ok (.ifCond .ne 14, 3) := by decide +kernel
theorem dX11_year_50 : decode cX11_year 50 = .ok (.aload_n 0, 1) := by decide +kernel
theorem dX11_year_51 : decode cX11_year 51 = .ok (.getfield 43, 3) := by decide +kernel
theorem dX11_year_54 : decode cX11_year 54 = .ok (.getfield 151, 3) := by decide +kernel
theorem dX11_year_57 : decode cX11_year 57 = .ok (.getfield 114, 3) := by decide +kernel
theorem dX11_year_60 : decode cX11_year 60 = .ok (.ireturn, 1) := by decide +kernel
theorem dX11_year_61 : decode cX11_year 61 = .ok (.iload_n 3, 1) := by decide +kernel
theorem dX11_year_62 : decode cX11_year 62 = .ok (.iconst 1, 1) := by decide +kernel
theorem dX11_year_63 : decode cX11_year 63 = .ok (.if_icmp .ne 19, 3) := by decide +kernel
theorem dX11_year_66 : decode cX11_year 66 = .ok (.aload_n 0, 1) := by decide +kernel
theorem dX11_year_67 : decode cX11_year 67 = .ok (.getfield 43, 3) := by decide +kernel
theorem dX11_year_70 : decode cX11_year 70 = .ok (.getfield 151, 3) := by decide +kernel
theorem dX11_year_73 : decode cX11_year 73 = .ok (.getfield 127, 3) := by decide +kernel
theorem dX11_year_76 : decode cX11_year 76 = .ok (.invokestatic 261, 3) := by decide +kernel
theorem dX11_year_79 : decode cX11_year 79 = .ok (.goto 13, 3) := by decide +kernel
theorem dX11_year_82 : decode cX11_year 82 = .ok (.aload_n 0, 1) := by decide +kernel
theorem dX11_year_83 : decode cX11_year 83 = .ok (.getfield 43, 3) := by decide +kernel
theorem dX11_year_86 : decode cX11_year 86 = .ok (.getfield 151, 3) := by decide +kernel
theorem dX11_year_89 : decode cX11_year 89 = .ok (.invokevirtual 107, 3) := by decide +kernel
theorem dX11_year_92 : decode cX11_year 92 = .ok (.ireturn, 1) := by decide +kernel
theorem dX11_image_0 : decode cX11_image 0 = .ok (.iload_n 1, 1) := by decide +kernel
theorem dX11_image_1 : decode cX11_image 1 = .ok (.iconst 0, 1) := by decide +kernel
theorem dX11_image_2 : decode cX11_image 2 = .ok (.iconst 1, 1) := by decide +kernel
theorem dX11_image_3 : decode cX11_image 3 = .ok (.invokestatic 96, 3) := by decide +kernel
theorem dX11_image_6 : decode cX11_image 6 = .ok (.ifCond .ne 6, 3) := by decide +kernel
theorem dX11_image_9 : decode cX11_image 9 = .ok (.bipush (-2), 2) := by decide +kernel
theorem dX11_image_11 : decode cX11_image 11 = .ok (.ireturn, 1) := by decide +kernel
theorem dX11_image_12 : decode cX11_image 12 = .ok (.aload_n 0, 1) := by decide +kernel
theorem dX11_image_13 : decode cX11_image 13 = .ok (.iload_n 1, 1) := by decide +kernel
theorem dX11_image_14 : decode cX11_image 14 = .ok (.invokevirtual 267, 3) := by decide +kernel
theorem dX11_image_17 : decode cX11_image 17 = .ok (.astore_n 2, 1) := by decide +kernel
theorem dX11_image_18 : decode cX11_image 18 = .ok (.aload_n 2, 1) := by decide +kernel
theorem dX11_image_19 : decode cX11_image 19 = .ok (.getfield 271, 3) := by decide +kernel
theorem dX11_image_22 : decode cX11_image 22 = .ok (.aload_n 0, 1) := by decide +kernel
theorem dX11_image_23 : decode cX11_image 23 = .ok (.getfield 12, 3) := by decide +kernel
theorem dX11_image_26 : decode cX11_image 26 = .ok (.invokevirtual 161, 3) := by decide +kernel
theorem dX11_image_29 : decode cX11_image 29 = .ok (.aload_n 2, 1) := by decide +kernel
theorem dX11_image_30 : decode cX11_image 30 = .ok (.getfield 272, 3) := by decide +kernel
theorem dX11_image_33 : decode cX11_image 33 = .ok (.aload_n 0, 1) := by decide +kernel
theorem dX11_image_34 : decode cX11_image 34 = .ok (.getfield 19, 3) := by decide +kernel
theorem dX11_image_37 : decode cX11_image 37 = .ok (.invokevirtual 273, 3) := by decide +kernel
theorem dX11_image_40 : decode cX11_image 40 = .ok (.aload_n 2, 1) := by decide +kernel
theorem dX11_image_41 : decode cX11_image 41 = .ok (.iconst 1, 1) := by decide +kernel
theorem dX11_image_42 : decode cX11_image 42 = .ok (.putfield 275, 3) := by decide +kernel
theorem dX11_image_45 : decode cX11_image 45 = .ok (.iconst 1, 1) := by decide +kernel
theorem dX11_image_46 : decode cX11_image 46 = .ok (.ireturn, 1) := by decide +kernel
theorem dX11_restore_0 : decode cX11_restore 0 = .ok (.iload_n 1, 1) := by decide +kernel
theorem dX11_restore_1 : decode cX11_restore 1 = .ok (.iconst 0, 1) := by decide +kernel
theorem dX11_restore_2 : decode cX11_restore 2 = .ok (.iconst 1, 1) := by decide +kernel
theorem dX11_restore_3 : decode cX11_restore 3 = .ok (.invokestatic 96, 3) := by decide +kernel
theorem dX11_restore_6 : decode cX11_restore 6 = .ok (.ifCond .ne 6, 3) := by decide +kernel
theorem dX11_restore_9 : decode cX11_restore 9 = .ok (.bipush (-2), 2) := by decide +kernel
theorem dX11_restore_11 : decode cX11_restore 11 = .ok (.ireturn, 1) := by decide +kernel
theorem dX11_restore_12 : decode cX11_restore 12 = .ok (.aload_n 0, 1) := by decide +kernel
theorem dX11_restore_13 : decode cX11_restore 13 = .ok (.iload_n 1, 1) := by decide +kernel
theorem dX11_restore_14 : decode cX11_restore 14 = .ok (.invokevirtual 267, 3) := by decide +kernel
theorem dX11_restore_17 : decode cX11_restore 17 = .ok (.astore_n 2, 1) := by decide +kernel
theorem dX11_restore_18 : decode cX11_restore 18 = .ok (.aload_n 2, 1) := by decide +kernel
theorem dX11_restore_19 : decode cX11_restore 19 = .ok (.getfield 275, 3) := by decide +kernel
theorem dX11_restore_22 : decode cX11_restore 22 = .ok (.ifCond .ne 6, 3) := by decide +kernel
theorem dX11_restore_25 : decode cX11_restore 25 = .ok (.bipush (-3), 2) := by decide +kernel
theorem dX11_restore_27 : decode cX11_restore 27 = .ok (.ireturn, 1) := by decide +kernel
theorem dX11_restore_28 : decode cX11_restore 28 = .ok (.aload_n 0, 1) := by decide +kernel
theorem dX11_restore_29 : decode cX11_restore 29 = .ok (.getfield 12, 3) := by decide +kernel
theorem dX11_restore_32 : decode cX11_restore 32 = .ok (.aload_n 2, 1) := by decide +kernel
theorem dX11_restore_33 : decode cX11_restore 33 = .ok (.getfield 271, 3) := by decide +kernel
theorem dX11_restore_36 : decode cX11_restore 36 = .ok (.invokevirtual 161, 3) := by decide +kernel
theorem dX11_restore_39 : decode cX11_restore 39 = .ok (.aload_n 0, 1) := by decide +kernel
theorem dX11_restore_40 : decode cX11_restore 40 = .ok (.getfield 19, 3) := by decide +kernel
theorem dX11_restore_43 : decode cX11_restore 43 = .ok (.aload_n 2, 1) := by decide +kernel
theorem dX11_restore_44 : decode cX11_restore 44 = .ok (.getfield 272, 3) := by decide +kernel
theorem dX11_restore_47 : decode cX11_restore 47 = .ok (.invokevirtual 273, 3) := by decide +kernel
theorem dX11_restore_50 : decode cX11_restore 50 = .ok (.iconst 1, 1) := by decide +kernel
theorem dX11_restore_51 : decode cX11_restore 51 = .ok (.ireturn, 1) := by decide +kernel
theorem dX11_told_0 : decode cX11_told 0 = .ok (.iload_n 1, 1) := by decide +kernel
theorem dX11_told_1 : decode cX11_told 1 = .ok (.iconst 0, 1) := by decide +kernel
theorem dX11_told_2 : decode cX11_told 2 = .ok (.bipush 6, 2) := by decide +kernel
theorem dX11_told_4 : decode cX11_told 4 = .ok (.invokestatic 96, 3) := by decide +kernel
theorem dX11_told_7 : decode cX11_told 7 = .ok (.ifCond .eq 9, 3) := by decide +kernel
theorem dX11_told_10 : decode cX11_told 10 = .ok (.aload_n 0, 1) := by decide +kernel
theorem dX11_told_11 : decode cX11_told 11 = .ok (.iload_n 1, 1) := by decide +kernel
theorem dX11_told_12 : decode cX11_told 12 = .ok (.invokevirtual 279, 3) := by decide +kernel
theorem dX11_told_15 : decode cX11_told 15 = .ok (.ireturn, 1) := by decide +kernel
theorem dX11_told_16 : decode cX11_told 16 = .ok (.iload_n 1, 1) := by decide +kernel
theorem dX11_told_17 : decode cX11_told 17 = .ok (.bipush 10, 2) := by decide +kernel
theorem dX11_told_19 : decode cX11_told 19 = .ok (.bipush 19, 2) := by decide +kernel
theorem dX11_told_21 : decode cX11_told 21 = .ok (.invokestatic 96, 3) := by decide +kernel
theorem dX11_told_24 : decode cX11_told 24 = .ok (.ifCond .eq 16, 3) := by decide +kernel
theorem dX11_told_27 : decode cX11_told 27 = .ok (.aload_n 0, 1) := by decide +kernel
theorem dX11_told_28 : decode cX11_told 28 = .ok (.getfield 12, 3) := by decide +kernel
theorem dX11_told_31 : decode cX11_told 31 = .ok (.getfield 152, 3) := by decide +kernel
theorem dX11_told_34 : decode cX11_told 34 = .ok (.iload_n 1, 1) := by decide +kernel
theorem dX11_told_35 : decode cX11_told 35 = .ok (.bipush 10, 2) := by decide +kernel
theorem dX11_told_37 : decode cX11_told 37 = .ok (.isub, 1) := by decide +kernel
theorem dX11_told_38 : decode cX11_told 38 = .ok (.iaload, 1) := by decide +kernel
theorem dX11_told_39 : decode cX11_told 39 = .ok (.ireturn, 1) := by decide +kernel
theorem dX11_told_40 : decode cX11_told 40 = .ok (.iload_n 1, 1) := by decide +kernel
theorem dX11_told_41 : decode cX11_told 41 = .ok (.bipush 10, 2) := by decide +kernel
theorem dX11_told_43 : decode cX11_told 43 = .ok (.invokestatic 282, 3) := by decide +kernel
theorem dX11_told_46 : decode cX11_told 46 = .ok (.bipush 10, 2) := by decide +kernel
theorem dX11_told_48 : decode cX11_told 48 = .ok (.isub, 1) := by decide +kernel
theorem dX11_told_49 : decode cX11_told 49 = .ok (.istore_n 2, 1) := by decide +kernel
theorem dX11_told_50 : decode cX11_told 50 = .ok (.iload_n 1, 1) := by decide +kernel
theorem dX11_told_51 : decode cX11_told 51 = .ok (.bipush 10, 2) := by decide +kernel
theorem dX11_told_53 : decode cX11_told 53 = .ok (.invokestatic 285, 3) := by decide +kernel
theorem dX11_told_56 : decode cX11_told 56 = .ok (.istore_n 3, 1) := by decide +kernel
theorem dX11_told_57 : decode cX11_told 57 = .ok (.iload_n 2, 1) := by decide +kernel
theorem dX11_told_58 : decode cX11_told 58 = .ok (.invokestatic 89, 3) := by decide +kernel
theorem dX11_told_61 : decode cX11_told 61 = .ok (.ifCond .eq 8, 3) := by decide +kernel
theorem dX11_told_64 : decode cX11_told 64 = .ok (.iload_n 3, 1) := by decide +kernel
theorem dX11_told_65 : decode cX11_told 65 = .ok (.iconst 1, 1) := by decide +kernel
theorem dX11_told_66 : decode cX11_told 66 = .ok (.if_icmp .le 6, 3) := by decide +kernel
theorem dX11_told_69 : decode cX11_told 69 = .ok (.bipush (-2), 2) := by decide +kernel
theorem dX11_told_71 : decode cX11_told 71 = .ok (.ireturn, 1) := by decide +kernel
theorem dX11_told_72 : decode cX11_told 72 = .ok (.iload_n 3, 1) := by decide +kernel
theorem dX11_told_73 : decode cX11_told 73 = .ok (.ifCond .ne 15, 3) := by decide +kernel
theorem dX11_told_76 : decode cX11_told 76 = .ok (.aload_n 0, 1) := by decide +kernel
theorem dX11_told_77 : decode cX11_told 77 = .ok (.getfield 12, 3) := by decide +kernel
theorem dX11_told_80 : decode cX11_told 80 = .ok (.getfield 100, 3) := by decide +kernel
theorem dX11_told_83 : decode cX11_told 83 = .ok (.iload_n 2, 1) := by decide +kernel
theorem dX11_told_84 : decode cX11_told 84 = .ok (.iaload, 1) := by decide +kernel
theorem dX11_told_85 : decode cX11_told 85 = .ok (.goto 12, 3) := by decide +kernel
theorem dX11_told_88 : decode cX11_told 88 = .ok (.aload_n 0, 1) := by decide +kernel
theorem dX11_told_89 : decode cX11_told 89 = .ok (.getfield 12, 3) := by decide +kernel
theorem dX11_told_92 : decode cX11_told 92 = .ok (.getfield 104, 3) := by decide +kernel
theorem dX11_told_95 : decode cX11_told 95 = .ok (.iload_n 2, 1) := by decide +kernel
theorem dX11_told_96 : decode cX11_told 96 = .ok (.iaload, 1) := by decide +kernel
theorem dX11_told_97 : decode cX11_told 97 = .ok (.ireturn, 1) := by decide +kernel
theorem dX11_toldPlainly_0 : decode cX11_toldPlainly 0 = .ok (.iload_n 1, 1) := by decide +kernel
theorem dX11_toldPlainly_1 : decode cX11_toldPlainly 1 = .ok (.tableswitch 87 0 5 #[39, 47, 55, 63, 71, 79], 39) := by decide +kernel
theorem dX11_toldPlainly_40 : decode cX11_toldPlainly 40 = .ok (.aload_n 0, 1) := by decide +kernel
theorem dX11_toldPlainly_41 : decode cX11_toldPlainly 41 = .ok (.getfield 26, 3) := by decide +kernel
theorem dX11_toldPlainly_44 : decode cX11_toldPlainly 44 = .ok (.getfield 133, 3) := by decide +kernel
theorem dX11_toldPlainly_47 : decode cX11_toldPlainly 47 = .ok (.ireturn, 1) := by decide +kernel
theorem dX11_toldPlainly_48 : decode cX11_toldPlainly 48 = .ok (.aload_n 0, 1) := by decide +kernel
theorem dX11_toldPlainly_49 : decode cX11_toldPlainly 49 = .ok (.getfield 12, 3) := by decide +kernel
theorem dX11_toldPlainly_52 : decode cX11_toldPlainly 52 = .ok (.getfield 121, 3) := by decide +kernel
theorem dX11_toldPlainly_55 : decode cX11_toldPlainly 55 = .ok (.ireturn, 1) := by decide +kernel
theorem dX11_toldPlainly_56 : decode cX11_toldPlainly 56 = .ok (.aload_n 0, 1) := by decide +kernel
theorem dX11_toldPlainly_57 : decode cX11_toldPlainly 57 = .ok (.getfield 12, 3) := by decide +kernel
theorem dX11_toldPlainly_60 : decode cX11_toldPlainly 60 = .ok (.getfield 124, 3) := by decide +kernel
theorem dX11_toldPlainly_63 : decode cX11_toldPlainly 63 = .ok (.ireturn, 1) := by decide +kernel
theorem dX11_toldPlainly_64 : decode cX11_toldPlainly 64 = .ok (.aload_n 0, 1) := by decide +kernel
theorem dX11_toldPlainly_65 : decode cX11_toldPlainly 65 = .ok (.getfield 12, 3) := by decide +kernel
theorem dX11_toldPlainly_68 : decode cX11_toldPlainly 68 = .ok (.getfield 127, 3) := by decide +kernel
theorem dX11_toldPlainly_71 : decode cX11_toldPlainly 71 = .ok (.ireturn, 1) := by decide +kernel
theorem dX11_toldPlainly_72 : decode cX11_toldPlainly 72 = .ok (.aload_n 0, 1) := by decide +kernel
theorem dX11_toldPlainly_73 : decode cX11_toldPlainly 73 = .ok (.getfield 12, 3) := by decide +kernel
theorem dX11_toldPlainly_76 : decode cX11_toldPlainly 76 = .ok (.getfield 114, 3) := by decide +kernel
theorem dX11_toldPlainly_79 : decode cX11_toldPlainly 79 = .ok (.ireturn, 1) := by decide +kernel
theorem dX11_toldPlainly_80 : decode cX11_toldPlainly 80 = .ok (.aload_n 0, 1) := by decide +kernel
theorem dX11_toldPlainly_81 : decode cX11_toldPlainly 81 = .ok (.getfield 12, 3) := by decide +kernel
theorem dX11_toldPlainly_84 : decode cX11_toldPlainly 84 = .ok (.getfield 118, 3) := by decide +kernel
theorem dX11_toldPlainly_87 : decode cX11_toldPlainly 87 = .ok (.ireturn, 1) := by decide +kernel
theorem dX11_toldPlainly_88 : decode cX11_toldPlainly 88 = .ok (.aload_n 0, 1) := by decide +kernel
theorem dX11_toldPlainly_89 : decode cX11_toldPlainly 89 = .ok (.getfield 19, 3) := by decide +kernel
theorem dX11_toldPlainly_92 : decode cX11_toldPlainly 92 = .ok (.getfield 206, 3) := by decide +kernel
theorem dX11_toldPlainly_95 : decode cX11_toldPlainly 95 = .ok (.ireturn, 1) := by decide +kernel
theorem dX11_playEvening_0 : decode cX11_playEvening 0 = .ok (.aload_n 0, 1) := by decide +kernel
theorem dX11_playEvening_1 : decode cX11_playEvening 1 = .ok (.getfield 26, 3) := by decide +kernel
theorem dX11_playEvening_4 : decode cX11_playEvening 4 = .ok (.invokevirtual 136, 3) := by decide +kernel
theorem dX11_playEvening_7 : decode cX11_playEvening 7 = .ok (.bipush (-6), 2) := by decide +kernel
theorem dX11_playEvening_9 : decode cX11_playEvening 9 = .ok (.if_icmp .eq 6, 3) := by decide +kernel
theorem dX11_playEvening_12 : decode cX11_playEvening 12 = .ok (.bipush (-5), 2) := by decide +kernel
theorem dX11_playEvening_14 : decode cX11_playEvening 14 = .ok (.ireturn, 1) := by decide +kernel
theorem dX11_playEvening_15 : decode cX11_playEvening 15 = .ok (.aload_n 0, 1) := by decide +kernel
theorem dX11_playEvening_16 : decode cX11_playEvening 16 = .ok (.getfield 43, 3) := by decide +kernel
theorem dX11_playEvening_19 : decode cX11_playEvening 19 = .ok (.aload_n 0, 1) := by decide +kernel
theorem dX11_playEvening_20 : decode cX11_playEvening 20 = .ok (.getfield 12, 3) := by decide +kernel
theorem dX11_playEvening_23 : decode cX11_playEvening 23 = .ok (.aload_n 0, 1) := by decide +kernel
theorem dX11_playEvening_24 : decode cX11_playEvening 24 = .ok (.getfield 26, 3) := by decide +kernel
theorem dX11_playEvening_27 : decode cX11_playEvening 27 = .ok (.invokevirtual 288, 3) := by decide +kernel
theorem dX11_playEvening_30 : decode cX11_playEvening 30 = .ok (.aload_n 0, 1) := by decide +kernel
theorem dX11_playEvening_31 : decode cX11_playEvening 31 = .ok (.getfield 43, 3) := by decide +kernel
theorem dX11_playEvening_34 : decode cX11_playEvening 34 = .ok (.getfield 145, 3) := by decide +kernel
theorem dX11_playEvening_37 : decode cX11_playEvening 37 = .ok (.bipush (-6), 2) := by decide +kernel
theorem dX11_playEvening_39 : decode cX11_playEvening 39 = .ok (.if_icmp .ne 7, 3) := by decide +kernel
theorem dX11_playEvening_42 : decode cX11_playEvening 42 = .ok (.iconst 0, 1) := by decide +kernel
theorem dX11_playEvening_43 : decode cX11_playEvening 43 = .ok (.goto 5, 3) := by decide +kernel
theorem dX11_playEvening_46 : decode cX11_playEvening 46 = .ok (.bipush (-3), 2) := by decide +kernel
theorem dX11_playEvening_48 : decode cX11_playEvening 48 = .ok (.ireturn, 1) := by decide +kernel
theorem dX11_imageOf_0 : decode cX11_imageOf 0 = .ok (.iload_n 1, 1) := by decide +kernel
theorem dX11_imageOf_1 : decode cX11_imageOf 1 = .ok (.ifCond .ne 10, 3) := by decide +kernel
theorem dX11_imageOf_4 : decode cX11_imageOf 4 = .ok (.aload_n 0, 1) := by decide +kernel
theorem dX11_imageOf_5 : decode cX11_imageOf 5 = .ok (.getfield 33, 3) := by decide +kernel
theorem dX11_imageOf_8 : decode cX11_imageOf 8 = .ok (.goto 7, 3) := by decide +kernel
theorem dX11_imageOf_11 : decode cX11_imageOf 11 = .ok (.aload_n 0, 1) := by decide +kernel
theorem dX11_imageOf_12 : decode cX11_imageOf 12 = .ok (.getfield 37, 3) := by decide +kernel
theorem dX11_imageOf_15 : decode cX11_imageOf 15 = .ok (.areturn, 1) := by decide +kernel
theorem dX11_isWithin_0 : decode cX11_isWithin 0 = .ok (.iload_n 0, 1) := by decide +kernel
theorem dX11_isWithin_1 : decode cX11_isWithin 1 = .ok (.iload_n 1, 1) := by decide +kernel
theorem dX11_isWithin_2 : decode cX11_isWithin 2 = .ok (.if_icmp .lt 12, 3) := by decide +kernel
theorem dX11_isWithin_5 : decode cX11_isWithin 5 = .ok (.iload_n 0, 1) := by decide +kernel
theorem dX11_isWithin_6 : decode cX11_isWithin 6 = .ok (.iload_n 2, 1) := by decide +kernel
theorem dX11_isWithin_7 : decode cX11_isWithin 7 = .ok (.if_icmp .gt 7, 3) := by decide +kernel
theorem dX11_isWithin_10 : decode cX11_isWithin 10 = .ok (.iconst 1, 1) := by decide +kernel
theorem dX11_isWithin_11 : decode cX11_isWithin 11 = .ok (.goto 4, 3) := by decide +kernel
theorem dX11_isWithin_14 : decode cX11_isWithin 14 = .ok (.iconst 0, 1) := by decide +kernel
theorem dX11_isWithin_15 : decode cX11_isWithin 15 = .ok (.ireturn, 1) := by decide +kernel
theorem dX11_isCabin_0 : decode cX11_isCabin 0 = .ok (.iload_n 0, 1) := by decide +kernel
theorem dX11_isCabin_1 : decode cX11_isCabin 1 = .ok (.iconst 0, 1) := by decide +kernel
theorem dX11_isCabin_2 : decode cX11_isCabin 2 = .ok (.bipush 9, 2) := by decide +kernel
theorem dX11_isCabin_4 : decode cX11_isCabin 4 = .ok (.invokestatic 96, 3) := by decide +kernel
theorem dX11_isCabin_7 : decode cX11_isCabin 7 = .ok (.ireturn, 1) := by decide +kernel
theorem dX11_isThing_0 : decode cX11_isThing 0 = .ok (.iload_n 0, 1) := by decide +kernel
theorem dX11_isThing_1 : decode cX11_isThing 1 = .ok (.iconst 0, 1) := by decide +kernel
theorem dX11_isThing_2 : decode cX11_isThing 2 = .ok (.bipush 7, 2) := by decide +kernel
theorem dX11_isThing_4 : decode cX11_isThing 4 = .ok (.invokestatic 96, 3) := by decide +kernel
theorem dX11_isThing_7 : decode cX11_isThing 7 = .ok (.ireturn, 1) := by decide +kernel
theorem dX11_isThingSet_0 : decode cX11_isThingSet 0 = .ok (.iload_n 0, 1) := by decide +kernel
theorem dX11_isThingSet_1 : decode cX11_isThingSet 1 = .ok (.iconst 0, 1) := by decide +kernel
theorem dX11_isThingSet_2 : decode cX11_isThingSet 2 = .ok (.sipush 255, 3) := by decide +kernel
theorem dX11_isThingSet_5 : decode cX11_isThingSet 5 = .ok (.invokestatic 96, 3) := by decide +kernel
theorem dX11_isThingSet_8 : decode cX11_isThingSet 8 = .ok (.ireturn, 1) := by decide +kernel
theorem dX11_isIn_0 : decode cX11_isIn 0 = .ok (.iload_n 0, 1) := by decide +kernel
theorem dX11_isIn_1 : decode cX11_isIn 1 = .ok (.iload_n 1, 1) := by decide +kernel
theorem dX11_isIn_2 : decode cX11_isIn 2 = .ok (.ishr, 1) := by decide +kernel
theorem dX11_isIn_3 : decode cX11_isIn 3 = .ok (.iconst 1, 1) := by decide +kernel
theorem dX11_isIn_4 : decode cX11_isIn 4 = .ok (.iand, 1) := by decide +kernel
theorem dX11_isIn_5 : decode cX11_isIn 5 = .ok (.iconst 1, 1) := by decide +kernel
theorem dX11_isIn_6 : decode cX11_isIn 6 = .ok (.if_icmp .ne 7, 3) := by decide +kernel
theorem dX11_isIn_9 : decode cX11_isIn 9 = .ok (.iconst 1, 1) := by decide +kernel
theorem dX11_isIn_10 : decode cX11_isIn 10 = .ok (.goto 4, 3) := by decide +kernel
theorem dX11_isIn_13 : decode cX11_isIn 13 = .ok (.iconst 0, 1) := by decide +kernel
theorem dX11_isIn_14 : decode cX11_isIn 14 = .ok (.ireturn, 1) := by decide +kernel
theorem dX11_greatestDivisor_0 : decode cX11_greatestDivisor 0 = .ok (.lload_n 0, 1) := by decide +kernel
theorem dX11_greatestDivisor_1 : decode cX11_greatestDivisor 1 = .ok (.lstore 4, 2) := by decide +kernel
theorem dX11_greatestDivisor_3 : decode cX11_greatestDivisor 3 = .ok (.lload_n 2, 1) := by decide +kernel
theorem dX11_greatestDivisor_4 : decode cX11_greatestDivisor 4 = .ok (.lstore 6, 2) := by decide +kernel
theorem dX11_greatestDivisor_6 : decode cX11_greatestDivisor 6 = .ok (.iconst 0, 1) := by decide +kernel
theorem dX11_greatestDivisor_7 : decode cX11_greatestDivisor 7 = .ok (.istore 8, 2) := by decide +kernel
theorem dX11_greatestDivisor_9 : decode cX11_greatestDivisor 9 = .ok (.iload 8, 2) := by decide +kernel
theorem dX11_greatestDivisor_11 : decode cX11_greatestDivisor 11 = .ok (.bipush 100, 2) := by decide +kernel
theorem dX11_greatestDivisor_13 : decode cX11_greatestDivisor 13 = .ok (.if_icmp .ge 31, 3) := by decide +kernel
theorem dX11_greatestDivisor_16 : decode cX11_greatestDivisor 16 = .ok (.lload 6, 2) := by decide +kernel
theorem dX11_greatestDivisor_18 : decode cX11_greatestDivisor 18 = .ok (.lconst 0, 1) := by decide +kernel
theorem dX11_greatestDivisor_19 : decode cX11_greatestDivisor 19 = .ok (.lcmp, 1) := by decide +kernel
theorem dX11_greatestDivisor_20 : decode cX11_greatestDivisor 20 = .ok (.ifCond .eq 24, 3) := by decide +kernel
theorem dX11_greatestDivisor_23 : decode cX11_greatestDivisor 23 = .ok (.lload 4, 2) := by decide +kernel
theorem dX11_greatestDivisor_25 : decode cX11_greatestDivisor 25 = .ok (.lload 6, 2) := by decide +kernel
theorem dX11_greatestDivisor_27 : decode cX11_greatestDivisor 27 = .ok (.lrem, 1) := by decide +kernel
theorem dX11_greatestDivisor_28 : decode cX11_greatestDivisor 28 = .ok (.lstore 9, 2) := by decide +kernel
theorem dX11_greatestDivisor_30 : decode cX11_greatestDivisor 30 = .ok (.lload 6, 2) := by decide +kernel
theorem dX11_greatestDivisor_32 : decode cX11_greatestDivisor 32 = .ok (.lstore 4, 2) := by decide +kernel
theorem dX11_greatestDivisor_34 : decode cX11_greatestDivisor 34 = .ok (.lload 9, 2) := by decide +kernel
theorem dX11_greatestDivisor_36 : decode cX11_greatestDivisor 36 = .ok (.lstore 6, 2) := by decide +kernel
theorem dX11_greatestDivisor_38 : decode cX11_greatestDivisor 38 = .ok (.iinc 8 1, 3) := by decide +kernel
theorem dX11_greatestDivisor_41 : decode cX11_greatestDivisor 41 = .ok (.goto (-32), 3) := by decide +kernel
theorem dX11_greatestDivisor_44 : decode cX11_greatestDivisor 44 = .ok (.lload 4, 2) := by decide +kernel
theorem dX11_greatestDivisor_46 : decode cX11_greatestDivisor 46 = .ok (.lreturn, 1) := by decide +kernel
end
section
theorem dX12_init_0 : decode cX12_init 0 = .ok (.aload_n 0, 1) := by decide +kernel
theorem dX12_init_1 : decode cX12_init 1 = .ok (.invokespecial 1, 3) := by decide +kernel
theorem dX12_init_4 : decode cX12_init 4 = .ok (.aload_n 0, 1) := by decide +kernel
theorem dX12_init_5 : decode cX12_init 5 = .ok (.bipush 10, 2) := by decide +kernel
theorem dX12_init_7 : decode cX12_init 7 = .ok (.newarray .int, 2) := by decide +kernel
theorem dX12_init_9 : decode cX12_init 9 = .ok (.putfield 7, 3) := by decide +kernel
theorem dX12_init_12 : decode cX12_init 12 = .ok (.aload_n 0, 1) := by decide +kernel
theorem dX12_init_13 : decode cX12_init 13 = .ok (.bipush 10, 2) := by decide +kernel
theorem dX12_init_15 : decode cX12_init 15 = .ok (.newarray .int, 2) := by decide +kernel
theorem dX12_init_17 : decode cX12_init 17 = .ok (.putfield 13, 3) := by decide +kernel
theorem dX12_init_20 : decode cX12_init 20 = .ok (.aload_n 0, 1) := by decide +kernel
theorem dX12_init_21 : decode cX12_init 21 = .ok (.bipush 10, 2) := by decide +kernel
theorem dX12_init_23 : decode cX12_init 23 = .ok (.newarray .int, 2) := by decide +kernel
theorem dX12_init_25 : decode cX12_init 25 = .ok (.putfield 16, 3) := by decide +kernel
theorem dX12_init_28 : decode cX12_init 28 = .ok (.aload_n 0, 1) := by decide +kernel
theorem dX12_init_29 : decode cX12_init 29 = .ok (.bipush 8, 2) := by decide +kernel
theorem dX12_init_31 : decode cX12_init 31 = .ok (.newarray .int, 2) := by decide +kernel
theorem dX12_init_33 : decode cX12_init 33 = .ok (.putfield 19, 3) := by decide +kernel
theorem dX12_init_36 : decode cX12_init 36 = .ok (.aload_n 0, 1) := by decide +kernel
theorem dX12_init_37 : decode cX12_init 37 = .ok (.bipush 8, 2) := by decide +kernel
theorem dX12_init_39 : decode cX12_init 39 = .ok (.newarray .int, 2) := by decide +kernel
theorem dX12_init_41 : decode cX12_init 41 = .ok (.putfield 22, 3) := by decide +kernel
theorem dX12_init_44 : decode cX12_init 44 = .ok (.aload_n 0, 1) := by decide +kernel
theorem dX12_init_45 : decode cX12_init 45 = .ok (.bipush 60, 2) := by decide +kernel
theorem dX12_init_47 : decode cX12_init 47 = .ok (.newarray .int, 2) := by decide +kernel
theorem dX12_init_49 : decode cX12_init 49 = .ok (.putfield 25, 3) := by decide +kernel
theorem dX12_init_52 : decode cX12_init 52 = .ok (.aload_n 0, 1) := by decide +kernel
theorem dX12_init_53 : decode cX12_init 53 = .ok (.bipush 60, 2) := by decide +kernel
theorem dX12_init_55 : decode cX12_init 55 = .ok (.newarray .int, 2) := by decide +kernel
theorem dX12_init_57 : decode cX12_init 57 = .ok (.putfield 28, 3) := by decide +kernel
theorem dX12_init_60 : decode cX12_init 60 = .ok (.aload_n 0, 1) := by decide +kernel
theorem dX12_init_61 : decode cX12_init 61 = .ok (.bipush 60, 2) := by decide +kernel
theorem dX12_init_63 : decode cX12_init 63 = .ok (.newarray .int, 2) := by decide +kernel
theorem dX12_init_65 : decode cX12_init 65 = .ok (.putfield 31, 3) := by decide +kernel
theorem dX12_init_68 : decode cX12_init 68 = .ok (.aload_n 0, 1) := by decide +kernel
theorem dX12_init_69 : decode cX12_init 69 = .ok (.bipush 24, 2) := by decide +kernel
theorem dX12_init_71 : decode cX12_init 71 = .ok (.newarray .int, 2) := by decide +kernel
theorem dX12_init_73 : decode cX12_init 73 = .ok (.putfield 34, 3) := by decide +kernel
theorem dX12_init_76 : decode cX12_init 76 = .ok (.aload_n 0, 1) := by decide +kernel
theorem dX12_init_77 : decode cX12_init 77 = .ok (.sipush 9216, 3) := by decide +kernel
theorem dX12_init_80 : decode cX12_init 80 = .ok (.newarray .int, 2) := by decide +kernel
theorem dX12_init_82 : decode cX12_init 82 = .ok (.putfield 37, 3) := by decide +kernel
theorem dX12_init_85 : decode cX12_init 85 = .ok (.aload_n 0, 1) := by decide +kernel
theorem dX12_init_86 : decode cX12_init 86 = .ok (.bipush 6, 2) := by decide +kernel
theorem dX12_init_88 : decode cX12_init 88 = .ok (.newarray .int, 2) := by decide +kernel
theorem dX12_init_90 : decode cX12_init 90 = .ok (.putfield 40, 3) := by decide +kernel
theorem dX12_init_93 : decode cX12_init 93 = .ok (.aload_n 0, 1) := by decide +kernel
theorem dX12_init_94 : decode cX12_init 94 = .ok (.bipush 8, 2) := by decide +kernel
theorem dX12_init_96 : decode cX12_init 96 = .ok (.newarray .int, 2) := by decide +kernel
theorem dX12_init_98 : decode cX12_init 98 = .ok (.putfield 43, 3) := by decide +kernel
theorem dX12_init_101 : decode cX12_init 101 = .ok (.aload_n 0, 1) := by decide +kernel
theorem dX12_init_102 : decode cX12_init 102 = .ok (.sipush 441, 3) := by decide +kernel
theorem dX12_init_105 : decode cX12_init 105 = .ok (.newarray .boolean, 2) := by decide +kernel
theorem dX12_init_107 : decode cX12_init 107 = .ok (.putfield 46, 3) := by decide +kernel
theorem dX12_init_110 : decode cX12_init 110 = .ok (.aload_n 0, 1) := by decide +kernel
theorem dX12_init_111 : decode cX12_init 111 = .ok (.bipush 14, 2) := by decide +kernel
theorem dX12_init_113 : decode cX12_init 113 = .ok (.newarray .long, 2) := by decide +kernel
theorem dX12_init_115 : decode cX12_init 115 = .ok (.putfield 50, 3) := by decide +kernel
theorem dX12_init_118 : decode cX12_init 118 = .ok (.aload_n 0, 1) := by decide +kernel
theorem dX12_init_119 : decode cX12_init 119 = .ok (.bipush 120, 2) := by decide +kernel
theorem dX12_init_121 : decode cX12_init 121 = .ok (.newarray .int, 2) := by decide +kernel
theorem dX12_init_123 : decode cX12_init 123 = .ok (.putfield 54, 3) := by decide +kernel
theorem dX12_init_126 : decode cX12_init 126 = .ok (.aload_n 0, 1) := by decide +kernel
theorem dX12_init_127 : decode cX12_init 127 = .ok (.iconst 2, 1) := by decide +kernel
theorem dX12_init_128 : decode cX12_init 128 = .ok (.newarray .boolean, 2) := by decide +kernel
theorem dX12_init_130 : decode cX12_init 130 = .ok (.putfield 57, 3) := by decide +kernel
theorem dX12_init_133 : decode cX12_init 133 = .ok (.aload_n 0, 1) := by decide +kernel
theorem dX12_init_134 : decode cX12_init 134 = .ok (.bipush 60, 2) := by decide +kernel
theorem dX12_init_136 : decode cX12_init 136 = .ok (.putfield 60, 3) := by decide +kernel
theorem dX12_init_139 : decode cX12_init 139 = .ok (.iconst 0, 1) := by decide +kernel
theorem dX12_init_140 : decode cX12_init 140 = .ok (.istore_n 1, 1) := by decide +kernel
theorem dX12_init_141 : decode cX12_init 141 = .ok (.iload_n 1, 1) := by decide +kernel
theorem dX12_init_142 : decode cX12_init 142 = .ok (.bipush 10, 2) := by decide +kernel
theorem dX12_init_144 : decode cX12_init 144 = .ok (.if_icmp .ge 23, 3) := by decide +kernel
theorem dX12_init_147 : decode cX12_init 147 = .ok (.aload_n 0, 1) := by decide +kernel
theorem dX12_init_148 : decode cX12_init 148 = .ok (.getfield 7, 3) := by decide +kernel
theorem dX12_init_151 : decode cX12_init 151 = .ok (.iload_n 1, 1) := by decide +kernel
theorem dX12_init_152 : decode cX12_init 152 = .ok (.iload_n 1, 1) := by decide +kernel
theorem dX12_init_153 : decode cX12_init 153 = .ok (.iastore, 1) := by decide +kernel
theorem dX12_init_154 : decode cX12_init 154 = .ok (.aload_n 0, 1) := by decide +kernel
theorem dX12_init_155 : decode cX12_init 155 = .ok (.getfield 16, 3) := by decide +kernel
theorem dX12_init_158 : decode cX12_init 158 = .ok (.iload_n 1, 1) := by decide +kernel
theorem dX12_init_159 : decode cX12_init 159 = .ok (.iconst 3, 1) := by decide +kernel
theorem dX12_init_160 : decode cX12_init 160 = .ok (.iastore, 1) := by decide +kernel
theorem dX12_init_161 : decode cX12_init 161 = .ok (.iinc 1 1, 3) := by decide +kernel
theorem dX12_init_164 : decode cX12_init 164 = .ok (.goto (-23), 3) := by decide +kernel
theorem dX12_init_167 : decode cX12_init 167 = .ok (.return_, 1) := by decide +kernel
theorem dX12_in_0 : decode cX12_in 0 = .ok (.lload_n 0, 1) := by decide +kernel
theorem dX12_in_1 : decode cX12_in 1 = .ok (.lload_n 2, 1) := by decide +kernel
theorem dX12_in_2 : decode cX12_in 2 = .ok (.lcmp, 1) := by decide +kernel
theorem dX12_in_3 : decode cX12_in 3 = .ok (.ifCond .lt 14, 3) := by decide +kernel
theorem dX12_in_6 : decode cX12_in 6 = .ok (.lload_n 0, 1) := by decide +kernel
theorem dX12_in_7 : decode cX12_in 7 = .ok (.lload 4, 2) := by decide +kernel
theorem dX12_in_9 : decode cX12_in 9 = .ok (.lcmp, 1) := by decide +kernel
theorem dX12_in_10 : decode cX12_in 10 = .ok (.ifCond .gt 7, 3) := by decide +kernel
theorem dX12_in_13 : decode cX12_in 13 = .ok (.iconst 1, 1) := by decide +kernel
theorem dX12_in_14 : decode cX12_in 14 = .ok (.goto 4, 3) := by decide +kernel
theorem dX12_in_17 : decode cX12_in 17 = .ok (.iconst 0, 1) := by decide +kernel
theorem dX12_in_18 : decode cX12_in 18 = .ok (.ireturn, 1) := by decide +kernel
theorem dX12_ones_0 : decode cX12_ones 0 = .ok (.iconst 0, 1) := by decide +kernel
theorem dX12_ones_1 : decode cX12_ones 1 = .ok (.istore_n 1, 1) := by decide +kernel
theorem dX12_ones_2 : decode cX12_ones 2 = .ok (.iload_n 0, 1) := by decide +kernel
theorem dX12_ones_3 : decode cX12_ones 3 = .ok (.istore_n 2, 1) := by decide +kernel
theorem dX12_ones_4 : decode cX12_ones 4 = .ok (.iload_n 2, 1) := by decide +kernel
theorem dX12_ones_5 : decode cX12_ones 5 = .ok (.ifCond .eq 15, 3) := by decide +kernel
theorem dX12_ones_8 : decode cX12_ones 8 = .ok (.iinc 1 1, 3) := by decide +kernel
theorem dX12_ones_11 : decode cX12_ones 11 = .ok (.iload_n 2, 1) := by decide +kernel
theorem dX12_ones_12 : decode cX12_ones 12 = .ok (.iload_n 2, 1) := by decide +kernel
theorem dX12_ones_13 : decode cX12_ones 13 = .ok (.iconst 1, 1) := by decide +kernel
theorem dX12_ones_14 : decode cX12_ones 14 = .ok (.isub, 1) := by decide +kernel
theorem dX12_ones_15 : decode cX12_ones 15 = .ok (.iand, 1) := by decide +kernel
theorem dX12_ones_16 : decode cX12_ones 16 = .ok (.istore_n 2, 1) := by decide +kernel
theorem dX12_ones_17 : decode cX12_ones 17 = .ok (.goto (-13), 3) := by decide +kernel
theorem dX12_ones_20 : decode cX12_ones 20 = .ok (.iload_n 1, 1) := by decide +kernel
theorem dX12_ones_21 : decode cX12_ones 21 = .ok (.ireturn, 1) := by decide +kernel
theorem dX12_isCabin_0 : decode cX12_isCabin 0 = .ok (.iload_n 0, 1) := by decide +kernel
theorem dX12_isCabin_1 : decode cX12_isCabin 1 = .ok (.i2l, 1) := by decide +kernel
theorem dX12_isCabin_2 : decode cX12_isCabin 2 = .ok (.lconst 0, 1) := by decide +kernel
theorem dX12_isCabin_3 : decode cX12_isCabin 3 = .ok (.ldc2_w 64, 3) := by decide +kernel
theorem dX12_isCabin_6 : decode cX12_isCabin 6 = .ok (.invokestatic 66, 3) := by decide +kernel
theorem dX12_isCabin_9 : decode cX12_isCabin 9 = .ok (.ireturn, 1) := by decide +kernel
theorem dX12_isThing_0 : decode cX12_isThing 0 = .ok (.iload_n 0, 1) := by decide +kernel
theorem dX12_isThing_1 : decode cX12_isThing 1 = .ok (.i2l, 1) := by decide +kernel
theorem dX12_isThing_2 : decode cX12_isThing 2 = .ok (.lconst 0, 1) := by decide +kernel
theorem dX12_isThing_3 : decode cX12_isThing 3 = .ok (.ldc2_w 70, 3) := by decide +kernel
theorem dX12_isThing_6 : decode cX12_isThing 6 = .ok (.invokestatic 66, 3) := by decide +kernel
theorem dX12_isThing_9 : decode cX12_isThing 9 = .ok (.ireturn, 1) := by decide +kernel
theorem dX12_isIn_0 : decode cX12_isIn 0 = .ok (.iload_n 0, 1) := by decide +kernel
theorem dX12_isIn_1 : decode cX12_isIn 1 = .ok (.iload_n 1, 1) := by decide +kernel
theorem dX12_isIn_2 : decode cX12_isIn 2 = .ok (.ishr, 1) := by decide +kernel
theorem dX12_isIn_3 : decode cX12_isIn 3 = .ok (.iconst 1, 1) := by decide +kernel
theorem dX12_isIn_4 : decode cX12_isIn 4 = .ok (.iand, 1) := by decide +kernel
theorem dX12_isIn_5 : decode cX12_isIn 5 = .ok (.iconst 1, 1) := by decide +kernel
theorem dX12_isIn_6 : decode cX12_isIn 6 = .ok (.if_icmp .ne 7, 3) := by decide +kernel
theorem dX12_isIn_9 : decode cX12_isIn 9 = .ok (.iconst 1, 1) := by decide +kernel
theorem dX12_isIn_10 : decode cX12_isIn 10 = .ok (.goto 4, 3) := by decide +kernel
theorem dX12_isIn_13 : decode cX12_isIn 13 = .ok (.iconst 0, 1) := by decide +kernel
theorem dX12_isIn_14 : decode cX12_isIn 14 = .ok (.ireturn, 1) := by decide +kernel
theorem dX12_apart_0 : decode cX12_apart 0 = .ok (.iload_n 0, 1) := by decide +kernel
theorem dX12_apart_1 : decode cX12_apart 1 = .ok (.iload_n 1, 1) := by decide +kernel
theorem dX12_apart_2 : decode cX12_apart 2 = .ok (.if_icmp .le 9, 3) := by decide +kernel
theorem dX12_apart_5 : decode cX12_apart 5 = .ok (.iload_n 0, 1) := by decide +kernel
theorem dX12_apart_6 : decode cX12_apart 6 = .ok (.iload_n 1, 1) := by decide +kernel
theorem dX12_apart_7 : decode cX12_apart 7 = .ok (.isub, 1) := by decide +kernel
theorem dX12_apart_8 : decode cX12_apart 8 = .ok (.goto 6, 3) := by decide +kernel
theorem dX12_apart_11 : decode cX12_apart 11 = .ok (.iload_n 1, 1) := by decide +kernel
theorem dX12_apart_12 : decode cX12_apart 12 = .ok (.iload_n 0, 1) := by decide +kernel
theorem dX12_apart_13 : decode cX12_apart 13 = .ok (.isub, 1) := by decide +kernel
theorem dX12_apart_14 : decode cX12_apart 14 = .ok (.ireturn, 1) := by decide +kernel
theorem dX12_basket_0 : decode cX12_basket 0 = .ok (.iload_n 1, 1) := by decide +kernel
theorem dX12_basket_1 : decode cX12_basket 1 = .ok (.invokestatic 72, 3) := by decide +kernel
theorem dX12_basket_4 : decode cX12_basket 4 = .ok (.ifCond .ne 5, 3) := by decide +kernel
theorem dX12_basket_7 : decode cX12_basket 7 = .ok (.iconst (-1), 1) := by decide +kernel
theorem dX12_basket_8 : decode cX12_basket 8 = .ok (.ireturn, 1) := by decide +kernel
theorem dX12_basket_9 : decode cX12_basket 9 = .ok (.iload_n 2, 1) := by decide +kernel
theorem dX12_basket_10 : decode cX12_basket 10 = .ok (.i2l, 1) := by decide +kernel
theorem dX12_basket_11 : decode cX12_basket 11 = .ok (.lconst 0, 1) := by decide +kernel
theorem dX12_basket_12 : decode cX12_basket 12 = .ok (.ldc2_w 76, 3) := by decide +kernel
theorem dX12_basket_15 : decode cX12_basket 15 = .ok (.invokestatic 66, 3) := by decide +kernel
theorem dX12_basket_18 : decode cX12_basket 18 = .ok (.ifCond .eq 15, 3) := by decide +kernel
theorem dX12_basket_21 : decode cX12_basket 21 = .ok (.iload_n 3, 1) := by decide +kernel
theorem dX12_basket_22 : decode cX12_basket 22 = .ok (.i2l, 1) := by decide +kernel
theorem dX12_basket_23 : decode cX12_basket 23 = .ok (.lconst 1, 1) := by decide +kernel
theorem dX12_basket_24 : decode cX12_basket 24 = .ok (.ldc2_w 64, 3) := by decide +kernel
theorem dX12_basket_27 : decode cX12_basket 27 = .ok (.invokestatic 66, 3) := by decide +kernel
theorem dX12_basket_30 : decode cX12_basket 30 = .ok (.ifCond .ne 6, 3) := by decide +kernel
theorem dX12_basket_33 : decode cX12_basket 33 = .ok (.bipush (-2), 2) := by decide +kernel
theorem dX12_basket_35 : decode cX12_basket 35 = .ok (.ireturn, 1) := by decide +kernel
theorem dX12_basket_36 : decode cX12_basket 36 = .ok (.bipush 10, 2) := by decide +kernel
theorem dX12_basket_38 : decode cX12_basket 38 = .ok (.aload_n 0, 1) := by decide +kernel
theorem dX12_basket_39 : decode cX12_basket 39 = .ok (.getfield 13, 3) := by decide +kernel
theorem dX12_basket_42 : decode cX12_basket 42 = .ok (.iload_n 1, 1) := by decide +kernel
theorem dX12_basket_43 : decode cX12_basket 43 = .ok (.iaload, 1) := by decide +kernel
theorem dX12_basket_44 : decode cX12_basket 44 = .ok (.imul, 1) := by decide +kernel
theorem dX12_basket_45 : decode cX12_basket 45 = .ok (.aload_n 0, 1) := by decide +kernel
theorem dX12_basket_46 : decode cX12_basket 46 = .ok (.getfield 16, 3) := by decide +kernel
theorem dX12_basket_49 : decode cX12_basket 49 = .ok (.iload_n 1, 1) := by decide +kernel
theorem dX12_basket_50 : decode cX12_basket 50 = .ok (.iaload, 1) := by decide +kernel
theorem dX12_basket_51 : decode cX12_basket 51 = .ok (.iadd, 1) := by decide +kernel
theorem dX12_basket_52 : decode cX12_basket 52 = .ok (.istore 4, 2) := by decide +kernel
theorem dX12_basket_54 : decode cX12_basket 54 = .ok (.aload_n 0, 1) := by decide +kernel
theorem dX12_basket_55 : decode cX12_basket 55 = .ok (.getfield 13, 3) := by decide +kernel
theorem dX12_basket_58 : decode cX12_basket 58 = .ok (.iload_n 1, 1) := by decide +kernel
theorem dX12_basket_59 : decode cX12_basket 59 = .ok (.iload_n 2, 1) := by decide +kernel
theorem dX12_basket_60 : decode cX12_basket 60 = .ok (.iastore, 1) := by decide +kernel
theorem dX12_basket_61 : decode cX12_basket 61 = .ok (.aload_n 0, 1) := by decide +kernel
theorem dX12_basket_62 : decode cX12_basket 62 = .ok (.getfield 16, 3) := by decide +kernel
theorem dX12_basket_65 : decode cX12_basket 65 = .ok (.iload_n 1, 1) := by decide +kernel
theorem dX12_basket_66 : decode cX12_basket 66 = .ok (.iload_n 3, 1) := by decide +kernel
theorem dX12_basket_67 : decode cX12_basket 67 = .ok (.iastore, 1) := by decide +kernel
theorem dX12_basket_68 : decode cX12_basket 68 = .ok (.iload 4, 2) := by decide +kernel
theorem dX12_basket_70 : decode cX12_basket 70 = .ok (.ireturn, 1) := by decide +kernel
theorem dX12_wrongMany_0 : decode cX12_wrongMany 0 = .ok (.iconst 0, 1) := by decide +kernel
theorem dX12_wrongMany_1 : decode cX12_wrongMany 1 = .ok (.istore_n 1, 1) := by decide +kernel
theorem dX12_wrongMany_2 : decode cX12_wrongMany 2 = .ok (.iconst 0, 1) := by decide +kernel
theorem dX12_wrongMany_3 : decode cX12_wrongMany 3 = .ok (.istore_n 2, 1) := by decide +kernel
theorem dX12_wrongMany_4 : decode cX12_wrongMany 4 = .ok (.iload_n 2, 1) := by decide +kernel
theorem dX12_wrongMany_5 : decode cX12_wrongMany 5 = .ok (.bipush 10, 2) := by decide +kernel
theorem dX12_wrongMany_7 : decode cX12_wrongMany 7 = .ok (.if_icmp .ge 27, 3) := by decide +kernel
theorem dX12_wrongMany_10 : decode cX12_wrongMany 10 = .ok (.iload_n 1, 1) := by decide +kernel
theorem dX12_wrongMany_11 : decode cX12_wrongMany 11 = .ok (.aload_n 0, 1) := by decide +kernel
theorem dX12_wrongMany_12 : decode cX12_wrongMany 12 = .ok (.getfield 7, 3) := by decide +kernel
theorem dX12_wrongMany_15 : decode cX12_wrongMany 15 = .ok (.iload_n 2, 1) := by decide +kernel
theorem dX12_wrongMany_16 : decode cX12_wrongMany 16 = .ok (.iaload, 1) := by decide +kernel
theorem dX12_wrongMany_17 : decode cX12_wrongMany 17 = .ok (.iload_n 2, 1) := by decide +kernel
theorem dX12_wrongMany_18 : decode cX12_wrongMany 18 = .ok (.if_icmp .ne 7, 3) := by decide +kernel
theorem dX12_wrongMany_21 : decode cX12_wrongMany 21 = .ok (.iconst 0, 1) := by decide +kernel
theorem dX12_wrongMany_22 : decode cX12_wrongMany 22 = .ok (.goto 4, 3) := by decide +kernel
theorem dX12_wrongMany_25 : decode cX12_wrongMany 25 = .ok (.iconst 1, 1) := by decide +kernel
theorem dX12_wrongMany_26 : decode cX12_wrongMany 26 = .ok (.iadd, 1) := by decide +kernel
theorem dX12_wrongMany_27 : decode cX12_wrongMany 27 = .ok (.istore_n 1, 1) := by decide +kernel
theorem dX12_wrongMany_28 : decode cX12_wrongMany 28 = .ok (.iinc 2 1, 3) := by decide +kernel
theorem dX12_wrongMany_31 : decode cX12_wrongMany 31 = .ok (.goto (-27), 3) := by decide +kernel
theorem dX12_wrongMany_34 : decode cX12_wrongMany 34 = .ok (.iload_n 1, 1) := by decide +kernel
theorem dX12_wrongMany_35 : decode cX12_wrongMany 35 = .ok (.ireturn, 1) := by decide +kernel
theorem dX12_right_0 : decode cX12_right 0 = .ok (.aload_n 0, 1) := by decide +kernel
theorem dX12_right_1 : decode cX12_right 1 = .ok (.invokevirtual 78, 3) := by decide +kernel
theorem dX12_right_4 : decode cX12_right 4 = .ok (.istore_n 1, 1) := by decide +kernel
theorem dX12_right_5 : decode cX12_right 5 = .ok (.iconst 0, 1) := by decide +kernel
theorem dX12_right_6 : decode cX12_right 6 = .ok (.istore_n 2, 1) := by decide +kernel
theorem dX12_right_7 : decode cX12_right 7 = .ok (.iload_n 2, 1) := by decide +kernel
theorem dX12_right_8 : decode cX12_right 8 = .ok (.bipush 10, 2) := by decide +kernel
theorem dX12_right_10 : decode cX12_right 10 = .ok (.if_icmp .ge 16, 3) := by decide +kernel
theorem dX12_right_13 : decode cX12_right 13 = .ok (.aload_n 0, 1) := by decide +kernel
theorem dX12_right_14 : decode cX12_right 14 = .ok (.getfield 7, 3) := by decide +kernel
theorem dX12_right_17 : decode cX12_right 17 = .ok (.iload_n 2, 1) := by decide +kernel
theorem dX12_right_18 : decode cX12_right 18 = .ok (.iload_n 2, 1) := by decide +kernel
theorem dX12_right_19 : decode cX12_right 19 = .ok (.iastore, 1) := by decide +kernel
theorem dX12_right_20 : decode cX12_right 20 = .ok (.iinc 2 1, 3) := by decide +kernel
theorem dX12_right_23 : decode cX12_right 23 = .ok (.goto (-16), 3) := by decide +kernel
theorem dX12_right_26 : decode cX12_right 26 = .ok (.iload_n 1, 1) := by decide +kernel
theorem dX12_right_27 : decode cX12_right 27 = .ok (.ireturn, 1) := by decide +kernel
theorem dX12_clock_0 : decode cX12_clock 0 = .ok (.iload_n 1, 1) := by decide +kernel
theorem dX12_clock_1 : decode cX12_clock 1 = .ok (.i2l, 1) := by decide +kernel
theorem dX12_clock_2 : decode cX12_clock 2 = .ok (.lconst 0, 1) := by decide +kernel
theorem dX12_clock_3 : decode cX12_clock 3 = .ok (.ldc2_w 82, 3) := by decide +kernel
theorem dX12_clock_6 : decode cX12_clock 6 = .ok (.invokestatic 66, 3) := by decide +kernel
theorem dX12_clock_9 : decode cX12_clock 9 = .ok (.ifCond .eq 15, 3) := by decide +kernel
theorem dX12_clock_12 : decode cX12_clock 12 = .ok (.iload_n 2, 1) := by decide +kernel
theorem dX12_clock_13 : decode cX12_clock 13 = .ok (.i2l, 1) := by decide +kernel
theorem dX12_clock_14 : decode cX12_clock 14 = .ok (.lconst 0, 1) := by decide +kernel
theorem dX12_clock_15 : decode cX12_clock 15 = .ok (.ldc2_w 82, 3) := by decide +kernel
theorem dX12_clock_18 : decode cX12_clock 18 = .ok (.invokestatic 66, 3) := by decide +kernel
theorem dX12_clock_21 : decode cX12_clock 21 = .ok (.ifCond .ne 6, 3) := by decide +kernel
theorem dX12_clock_24 : decode cX12_clock 24 = .ok (.bipush (-2), 2) := by decide +kernel
theorem dX12_clock_26 : decode cX12_clock 26 = .ok (.ireturn, 1) := by decide +kernel
theorem dX12_clock_27 : decode cX12_clock 27 = .ok (.bipush 100, 2) := by decide +kernel
theorem dX12_clock_29 : decode cX12_clock 29 = .ok (.aload_n 0, 1) := by decide +kernel
theorem dX12_clock_30 : decode cX12_clock 30 = .ok (.getfield 84, 3) := by decide +kernel
theorem dX12_clock_33 : decode cX12_clock 33 = .ok (.imul, 1) := by decide +kernel
theorem dX12_clock_34 : decode cX12_clock 34 = .ok (.aload_n 0, 1) := by decide +kernel
theorem dX12_clock_35 : decode cX12_clock 35 = .ok (.getfield 60, 3) := by decide +kernel
theorem dX12_clock_38 : decode cX12_clock 38 = .ok (.iadd, 1) := by decide +kernel
theorem dX12_clock_39 : decode cX12_clock 39 = .ok (.istore_n 3, 1) := by decide +kernel
theorem dX12_clock_40 : decode cX12_clock 40 = .ok (.aload_n 0, 1) := by decide +kernel
theorem dX12_clock_41 : decode cX12_clock 41 = .ok (.iload_n 1, 1) := by decide +kernel
theorem dX12_clock_42 : decode cX12_clock 42 = .ok (.putfield 84, 3) := by decide +kernel
theorem dX12_clock_45 : decode cX12_clock 45 = .ok (.aload_n 0, 1) := by decide +kernel
theorem dX12_clock_46 : decode cX12_clock 46 = .ok (.iload_n 2, 1) := by decide +kernel
theorem dX12_clock_47 : decode cX12_clock 47 = .ok (.putfield 60, 3) := by decide +kernel
theorem dX12_clock_50 : decode cX12_clock 50 = .ok (.iload_n 3, 1) := by decide +kernel
theorem dX12_clock_51 : decode cX12_clock 51 = .ok (.ireturn, 1) := by decide +kernel
theorem dX12_attendant_0 : decode cX12_attendant 0 = .ok (.iload_n 1, 1) := by decide +kernel
theorem dX12_attendant_1 : decode cX12_attendant 1 = .ok (.invokestatic 72, 3) := by decide +kernel
theorem dX12_attendant_4 : decode cX12_attendant 4 = .ok (.ifCond .ne 5, 3) := by decide +kernel
theorem dX12_attendant_7 : decode cX12_attendant 7 = .ok (.iconst (-1), 1) := by decide +kernel
theorem dX12_attendant_8 : decode cX12_attendant 8 = .ok (.ireturn, 1) := by decide +kernel
theorem dX12_attendant_9 : decode cX12_attendant 9 = .ok (.iload_n 2, 1) := by decide +kernel
theorem dX12_attendant_10 : decode cX12_attendant 10 = .ok (.i2l, 1) := by decide +kernel
theorem dX12_attendant_11 : decode cX12_attendant 11 = .ok (.lconst 0, 1) := by decide +kernel
theorem dX12_attendant_12 : decode cX12_attendant 12 = .ok (.ldc2_w 76, 3) := by decide +kernel
theorem dX12_attendant_15 : decode cX12_attendant 15 = .ok (.invokestatic 66, 3) := by decide +kernel
theorem dX12_attendant_18 : decode cX12_attendant 18 = .ok (.ifCond .eq 15, 3) := by decide +kernel
theorem dX12_attendant_21 : decode cX12_attendant 21 = .ok (.iload_n 3, 1) := by decide +kernel
theorem dX12_attendant_22 : decode cX12_attendant 22 = .ok (.i2l, 1) := by decide +kernel
theorem dX12_attendant_23 : decode cX12_attendant 23 = .ok (.lconst 0, 1) := by decide +kernel
theorem dX12_attendant_24 : decode cX12_attendant 24 = .ok (.ldc2_w 76, 3) := by decide +kernel
theorem dX12_attendant_27 : decode cX12_attendant 27 = .ok (.invokestatic 66, 3) := by decide +kernel
theorem dX12_attendant_30 : decode cX12_attendant 30 = .ok (.ifCond .ne 6, 3) := by decide +kernel
theorem dX12_attendant_33 : decode cX12_attendant 33 = .ok (.bipush (-2), 2) := by decide +kernel
theorem dX12_attendant_35 : decode cX12_attendant 35 = .ok (.ireturn, 1) := by decide +kernel
theorem dX12_attendant_36 : decode cX12_attendant 36 = .ok (.aload_n 0, 1) := by decide +kernel
theorem dX12_attendant_37 : decode cX12_attendant 37 = .ok (.getfield 87, 3) := by decide +kernel
theorem dX12_attendant_40 : decode cX12_attendant 40 = .ok (.istore 4, 2) := by decide +kernel
theorem dX12_attendant_42 : decode cX12_attendant 42 = .ok (.aload_n 0, 1) := by decide +kernel
theorem dX12_attendant_43 : decode cX12_attendant 43 = .ok (.iload_n 1, 1) := by decide +kernel
theorem dX12_attendant_44 : decode cX12_attendant 44 = .ok (.putfield 87, 3) := by decide +kernel
theorem dX12_attendant_47 : decode cX12_attendant 47 = .ok (.aload_n 0, 1) := by decide +kernel
theorem dX12_attendant_48 : decode cX12_attendant 48 = .ok (.iload_n 2, 1) := by decide +kernel
theorem dX12_attendant_49 : decode cX12_attendant 49 = .ok (.putfield 90, 3) := by decide +kernel
theorem dX12_attendant_52 : decode cX12_attendant 52 = .ok (.aload_n 0, 1) := by decide +kernel
theorem dX12_attendant_53 : decode cX12_attendant 53 = .ok (.iload_n 3, 1) := by decide +kernel
theorem dX12_attendant_54 : decode cX12_attendant 54 = .ok (.putfield 93, 3) := by decide +kernel
theorem dX12_attendant_57 : decode cX12_attendant 57 = .ok (.iload 4, 2) := by decide +kernel
theorem dX12_attendant_59 : decode cX12_attendant 59 = .ok (.ireturn, 1) := by decide +kernel
theorem dX12_say_0 : decode cX12_say 0 = .ok (.iload_n 1, 1) := by decide +kernel
theorem dX12_say_1 : decode cX12_say 1 = .ok (.i2l, 1) := by decide +kernel
theorem dX12_say_2 : decode cX12_say 2 = .ok (.ldc2_w 96, 3) := by decide +kernel
theorem dX12_say_5 : decode cX12_say 5 = .ok (.ldc2_w 98, 3) := by decide +kernel
theorem dX12_say_8 : decode cX12_say 8 = .ok (.invokestatic 66, 3) := by decide +kernel
theorem dX12_say_11 : decode cX12_say 11 = .ok (.ifCond .ne 6, 3) := by decide +kernel
theorem dX12_say_14 : decode cX12_say 14 = .ok (.bipush (-2), 2) := by decide +kernel
theorem dX12_say_16 : decode cX12_say 16 = .ok (.ireturn, 1) := by decide +kernel
theorem dX12_say_17 : decode cX12_say 17 = .ok (.aload_n 0, 1) := by decide +kernel
theorem dX12_say_18 : decode cX12_say 18 = .ok (.getfield 100, 3) := by decide +kernel
theorem dX12_say_21 : decode cX12_say 21 = .ok (.bipush 60, 2) := by decide +kernel
theorem dX12_say_23 : decode cX12_say 23 = .ok (.if_icmp .ne 6, 3) := by decide +kernel
theorem dX12_say_26 : decode cX12_say 26 = .ok (.bipush (-4), 2) := by decide +kernel
theorem dX12_say_28 : decode cX12_say 28 = .ok (.ireturn, 1) := by decide +kernel
theorem dX12_say_29 : decode cX12_say 29 = .ok (.aload_n 0, 1) := by decide +kernel
theorem dX12_say_30 : decode cX12_say 30 = .ok (.getfield 25, 3) := by decide +kernel
theorem dX12_say_33 : decode cX12_say 33 = .ok (.aload_n 0, 1) := by decide +kernel
theorem dX12_say_34 : decode cX12_say 34 = .ok (.getfield 100, 3) := by decide +kernel
theorem dX12_say_37 : decode cX12_say 37 = .ok (.iload_n 1, 1) := by decide +kernel
theorem dX12_say_38 : decode cX12_say 38 = .ok (.iastore, 1) := by decide +kernel
theorem dX12_say_39 : decode cX12_say 39 = .ok (.aload_n 0, 1) := by decide +kernel
theorem dX12_say_40 : decode cX12_say 40 = .ok (.dup, 1) := by decide +kernel
theorem dX12_say_41 : decode cX12_say 41 = .ok (.getfield 100, 3) := by decide +kernel
theorem dX12_say_44 : decode cX12_say 44 = .ok (.iconst 1, 1) := by decide +kernel
theorem dX12_say_45 : decode cX12_say 45 = .ok (.iadd, 1) := by decide +kernel
theorem dX12_say_46 : decode cX12_say 46 = .ok (.putfield 100, 3) := by decide +kernel
theorem dX12_say_49 : decode cX12_say 49 = .ok (.aload_n 0, 1) := by decide +kernel
theorem dX12_say_50 : decode cX12_say 50 = .ok (.getfield 100, 3) := by decide +kernel
theorem dX12_say_53 : decode cX12_say 53 = .ok (.ireturn, 1) := by decide +kernel
theorem dX12_wipe_0 : decode cX12_wipe 0 = .ok (.aload_n 0, 1) := by decide +kernel
theorem dX12_wipe_1 : decode cX12_wipe 1 = .ok (.getfield 100, 3) := by decide +kernel
theorem dX12_wipe_4 : decode cX12_wipe 4 = .ok (.istore_n 1, 1) := by decide +kernel
theorem dX12_wipe_5 : decode cX12_wipe 5 = .ok (.aload_n 0, 1) := by decide +kernel
theorem dX12_wipe_6 : decode cX12_wipe 6 = .ok (.iconst 0, 1) := by decide +kernel
theorem dX12_wipe_7 : decode cX12_wipe 7 = .ok (.putfield 100, 3) := by decide +kernel
theorem dX12_wipe_10 : decode cX12_wipe 10 = .ok (.iload_n 1, 1) := by decide +kernel
theorem dX12_wipe_11 : decode cX12_wipe 11 = .ok (.ireturn, 1) := by decide +kernel
theorem dX12_close_0 : decode cX12_close 0 = .ok (.aload_n 0, 1) := by decide +kernel
theorem dX12_close_1 : decode cX12_close 1 = .ok (.getfield 28, 3) := by decide +kernel
theorem dX12_close_4 : decode cX12_close 4 = .ok (.aload_n 0, 1) := by decide +kernel
theorem dX12_close_5 : decode cX12_close 5 = .ok (.getfield 103, 3) := by decide +kernel
theorem dX12_close_8 : decode cX12_close 8 = .ok (.iload_n 1, 1) := by decide +kernel
theorem dX12_close_9 : decode cX12_close 9 = .ok (.iastore, 1) := by decide +kernel
theorem dX12_close_10 : decode cX12_close 10 = .ok (.aload_n 0, 1) := by decide +kernel
theorem dX12_close_11 : decode cX12_close 11 = .ok (.getfield 31, 3) := by decide +kernel
theorem dX12_close_14 : decode cX12_close 14 = .ok (.aload_n 0, 1) := by decide +kernel
theorem dX12_close_15 : decode cX12_close 15 = .ok (.getfield 103, 3) := by decide +kernel
theorem dX12_close_18 : decode cX12_close 18 = .ok (.iload_n 2, 1) := by decide +kernel
theorem dX12_close_19 : decode cX12_close 19 = .ok (.iastore, 1) := by decide +kernel
theorem dX12_close_20 : decode cX12_close 20 = .ok (.aload_n 0, 1) := by decide +kernel
theorem dX12_close_21 : decode cX12_close 21 = .ok (.dup, 1) := by decide +kernel
theorem dX12_close_22 : decode cX12_close 22 = .ok (.getfield 103, 3) := by decide +kernel
theorem dX12_close_25 : decode cX12_close 25 = .ok (.iconst 1, 1) := by decide +kernel
theorem dX12_close_26 : decode cX12_close 26 = .ok (.iadd, 1) := by decide +kernel
theorem dX12_close_27 : decode cX12_close 27 = .ok (.putfield 103, 3) := by decide +kernel
theorem dX12_close_30 : decode cX12_close 30 = .ok (.iconst 0, 1) := by decide +kernel
theorem dX12_close_31 : decode cX12_close 31 = .ok (.ireturn, 1) := by decide +kernel
theorem dX12_isLetter_0 : decode cX12_isLetter 0 = .ok (.iload_n 0, 1) := by decide +kernel
theorem dX12_isLetter_1 : decode cX12_isLetter 1 = .ok (.i2l, 1) := by decide +kernel
theorem dX12_isLetter_2 : decode cX12_isLetter 2 = .ok (.ldc2_w 106, 3) := by decide +kernel
theorem dX12_isLetter_5 : decode cX12_isLetter 5 = .ok (.ldc2_w 108, 3) := by decide +kernel
theorem dX12_isLetter_8 : decode cX12_isLetter 8 = .ok (.invokestatic 66, 3) := by decide +kernel
theorem dX12_isLetter_11 : decode cX12_isLetter 11 = .ok (.ireturn, 1) := by decide +kernel
theorem dX12_begin_0 : decode cX12_begin 0 = .ok (.iload_n 1, 1) := by decide +kernel
theorem dX12_begin_1 : decode cX12_begin 1 = .ok (.lookupswitch 71 #[(43, 65), (45, 67), (46, 58), (61, 69), (63, 51)], 51) := by decide +kernel
theorem dX12_begin_52 : decode cX12_begin 52 = .ok (.aload_n 0, 1) := by decide +kernel
theorem dX12_begin_53 : decode cX12_begin 53 = .ok (.iconst 1, 1) := by decide +kernel
theorem dX12_begin_54 : decode cX12_begin 54 = .ok (.iconst 0, 1) := by decide +kernel
theorem dX12_begin_55 : decode cX12_begin 55 = .ok (.invokevirtual 110, 3) := by decide +kernel
theorem dX12_begin_58 : decode cX12_begin 58 = .ok (.ireturn, 1) := by decide +kernel
theorem dX12_begin_59 : decode cX12_begin 59 = .ok (.aload_n 0, 1) := by decide +kernel
theorem dX12_begin_60 : decode cX12_begin 60 = .ok (.iconst 5, 1) := by decide +kernel
theorem dX12_begin_61 : decode cX12_begin 61 = .ok (.iconst 0, 1) := by decide +kernel
theorem dX12_begin_62 : decode cX12_begin 62 = .ok (.invokevirtual 110, 3) := by decide +kernel
theorem dX12_begin_65 : decode cX12_begin 65 = .ok (.ireturn, 1) := by decide +kernel
theorem dX12_begin_66 : decode cX12_begin 66 = .ok (.iconst 1, 1) := by decide +kernel
theorem dX12_begin_67 : decode cX12_begin 67 = .ok (.ireturn, 1) := by decide +kernel
theorem dX12_begin_68 : decode cX12_begin 68 = .ok (.iconst 2, 1) := by decide +kernel
theorem dX12_begin_69 : decode cX12_begin 69 = .ok (.ireturn, 1) := by decide +kernel
theorem dX12_begin_70 : decode cX12_begin 70 = .ok (.iconst 3, 1) := by decide +kernel
theorem dX12_begin_71 : decode cX12_begin 71 = .ok (.ireturn, 1) := by decide +kernel
theorem dX12_begin_72 : decode cX12_begin 72 = .ok (.iload_n 1, 1) := by decide +kernel
theorem dX12_begin_73 : decode cX12_begin 73 = .ok (.invokestatic 114, 3) := by decide +kernel
theorem dX12_begin_76 : decode cX12_begin 76 = .ok (.ifCond .eq 15, 3) := by decide +kernel
theorem dX12_begin_79 : decode cX12_begin 79 = .ok (.aload_n 0, 1) := by decide +kernel
theorem dX12_begin_80 : decode cX12_begin 80 = .ok (.iconst 0, 1) := by decide +kernel
theorem dX12_begin_81 : decode cX12_begin 81 = .ok (.iload_n 1, 1) := by decide +kernel
theorem dX12_begin_82 : decode cX12_begin 82 = .ok (.bipush 65, 2) := by decide +kernel
theorem dX12_begin_84 : decode cX12_begin 84 = .ok (.isub, 1) := by decide +kernel
theorem dX12_begin_85 : decode cX12_begin 85 = .ok (.invokevirtual 110, 3) := by decide +kernel
theorem dX12_begin_88 : decode cX12_begin 88 = .ok (.goto 5, 3) := by decide +kernel
theorem dX12_begin_91 : decode cX12_begin 91 = .ok (.bipush (-6), 2) := by decide +kernel
theorem dX12_begin_93 : decode cX12_begin 93 = .ok (.ireturn, 1) := by decide +kernel
theorem dX12_readOn_0 : decode cX12_readOn 0 = .ok (.iload_n 1, 1) := by decide +kernel
theorem dX12_readOn_1 : decode cX12_readOn 1 = .ok (.ifCond .ne 9, 3) := by decide +kernel
theorem dX12_readOn_4 : decode cX12_readOn 4 = .ok (.aload_n 0, 1) := by decide +kernel
theorem dX12_readOn_5 : decode cX12_readOn 5 = .ok (.iload_n 2, 1) := by decide +kernel
theorem dX12_readOn_6 : decode cX12_readOn 6 = .ok (.invokevirtual 117, 3) := by decide +kernel
theorem dX12_readOn_9 : decode cX12_readOn 9 = .ok (.ireturn, 1) := by decide +kernel
theorem dX12_readOn_10 : decode cX12_readOn 10 = .ok (.iload_n 1, 1) := by decide +kernel
theorem dX12_readOn_11 : decode cX12_readOn 11 = .ok (.iconst 3, 1) := by decide +kernel
theorem dX12_readOn_12 : decode cX12_readOn 12 = .ok (.if_icmp .ne 25, 3) := by decide +kernel
theorem dX12_readOn_15 : decode cX12_readOn 15 = .ok (.iload_n 2, 1) := by decide +kernel
theorem dX12_readOn_16 : decode cX12_readOn 16 = .ok (.invokestatic 114, 3) := by decide +kernel
theorem dX12_readOn_19 : decode cX12_readOn 19 = .ok (.ifCond .eq 15, 3) := by decide +kernel
theorem dX12_readOn_22 : decode cX12_readOn 22 = .ok (.aload_n 0, 1) := by decide +kernel
theorem dX12_readOn_23 : decode cX12_readOn 23 = .ok (.iconst 4, 1) := by decide +kernel
theorem dX12_readOn_24 : decode cX12_readOn 24 = .ok (.iload_n 2, 1) := by decide +kernel
theorem dX12_readOn_25 : decode cX12_readOn 25 = .ok (.bipush 65, 2) := by decide +kernel
theorem dX12_readOn_27 : decode cX12_readOn 27 = .ok (.isub, 1) := by decide +kernel
theorem dX12_readOn_28 : decode cX12_readOn 28 = .ok (.invokevirtual 110, 3) := by decide +kernel
theorem dX12_readOn_31 : decode cX12_readOn 31 = .ok (.goto 5, 3) := by decide +kernel
theorem dX12_readOn_34 : decode cX12_readOn 34 = .ok (.bipush (-6), 2) := by decide +kernel
theorem dX12_readOn_36 : decode cX12_readOn 36 = .ok (.ireturn, 1) := by decide +kernel
theorem dX12_readOn_37 : decode cX12_readOn 37 = .ok (.iload_n 2, 1) := by decide +kernel
theorem dX12_readOn_38 : decode cX12_readOn 38 = .ok (.i2l, 1) := by decide +kernel
theorem dX12_readOn_39 : decode cX12_readOn 39 = .ok (.ldc2_w 121, 3) := by decide +kernel
theorem dX12_readOn_42 : decode cX12_readOn 42 = .ok (.ldc2_w 123, 3) := by decide +kernel
theorem dX12_readOn_45 : decode cX12_readOn 45 = .ok (.invokestatic 66, 3) := by decide +kernel
theorem dX12_readOn_48 : decode cX12_readOn 48 = .ok (.ifCond .eq 24, 3) := by decide +kernel
theorem dX12_readOn_51 : decode cX12_readOn 51 = .ok (.aload_n 0, 1) := by decide +kernel
theorem dX12_readOn_52 : decode cX12_readOn 52 = .ok (.iload_n 1, 1) := by decide +kernel
theorem dX12_readOn_53 : decode cX12_readOn 53 = .ok (.iconst 1, 1) := by decide +kernel
theorem dX12_readOn_54 : decode cX12_readOn 54 = .ok (.if_icmp .ne 7, 3) := by decide +kernel
theorem dX12_readOn_57 : decode cX12_readOn 57 = .ok (.iconst 2, 1) := by decide +kernel
theorem dX12_readOn_58 : decode cX12_readOn 58 = .ok (.goto 4, 3) := by decide +kernel
theorem dX12_readOn_61 : decode cX12_readOn 61 = .ok (.iconst 3, 1) := by decide +kernel
theorem dX12_readOn_62 : decode cX12_readOn 62 = .ok (.iload_n 2, 1) := by decide +kernel
theorem dX12_readOn_63 : decode cX12_readOn 63 = .ok (.bipush 48, 2) := by decide +kernel
theorem dX12_readOn_65 : decode cX12_readOn 65 = .ok (.isub, 1) := by decide +kernel
theorem dX12_readOn_66 : decode cX12_readOn 66 = .ok (.invokevirtual 110, 3) := by decide +kernel
theorem dX12_readOn_69 : decode cX12_readOn 69 = .ok (.goto 5, 3) := by decide +kernel
theorem dX12_readOn_72 : decode cX12_readOn 72 = .ok (.bipush (-6), 2) := by decide +kernel
theorem dX12_readOn_74 : decode cX12_readOn 74 = .ok (.ireturn, 1) := by decide +kernel
theorem dX12_fault_0 : decode cX12_fault 0 = .ok (.aload_n 0, 1) := by decide +kernel
theorem dX12_fault_1 : decode cX12_fault 1 = .ok (.iconst 0, 1) := by decide +kernel
theorem dX12_fault_2 : decode cX12_fault 2 = .ok (.putfield 103, 3) := by decide +kernel
theorem dX12_fault_5 : decode cX12_fault 5 = .ok (.iconst 0, 1) := by decide +kernel
theorem dX12_fault_6 : decode cX12_fault 6 = .ok (.istore_n 1, 1) := by decide +kernel
theorem dX12_fault_7 : decode cX12_fault 7 = .ok (.iconst 0, 1) := by decide +kernel
theorem dX12_fault_8 : decode cX12_fault 8 = .ok (.istore_n 2, 1) := by decide +kernel
theorem dX12_fault_9 : decode cX12_fault 9 = .ok (.iload_n 2, 1) := by decide +kernel
theorem dX12_fault_10 : decode cX12_fault 10 = .ok (.aload_n 0, 1) := by decide +kernel
theorem dX12_fault_11 : decode cX12_fault 11 = .ok (.getfield 100, 3) := by decide +kernel
theorem dX12_fault_14 : decode cX12_fault 14 = .ok (.if_icmp .ge 27, 3) := by decide +kernel
theorem dX12_fault_17 : decode cX12_fault 17 = .ok (.aload_n 0, 1) := by decide +kernel
theorem dX12_fault_18 : decode cX12_fault 18 = .ok (.iload_n 1, 1) := by decide +kernel
theorem dX12_fault_19 : decode cX12_fault 19 = .ok (.aload_n 0, 1) := by decide +kernel
theorem dX12_fault_20 : decode cX12_fault 20 = .ok (.getfield 25, 3) := by decide +kernel
theorem dX12_fault_23 : decode cX12_fault 23 = .ok (.iload_n 2, 1) := by decide +kernel
theorem dX12_fault_24 : decode cX12_fault 24 = .ok (.iaload, 1) := by decide +kernel
theorem dX12_fault_25 : decode cX12_fault 25 = .ok (.invokevirtual 125, 3) := by decide +kernel
theorem dX12_fault_28 : decode cX12_fault 28 = .ok (.istore_n 1, 1) := by decide +kernel
theorem dX12_fault_29 : decode cX12_fault 29 = .ok (.iload_n 1, 1) := by decide +kernel
theorem dX12_fault_30 : decode cX12_fault 30 = .ok (.ifCond .ge 5, 3) := by decide +kernel
theorem dX12_fault_33 : decode cX12_fault 33 = .ok (.iload_n 2, 1) := by decide +kernel
theorem dX12_fault_34 : decode cX12_fault 34 = .ok (.ireturn, 1) := by decide +kernel
theorem dX12_fault_35 : decode cX12_fault 35 = .ok (.iinc 2 1, 3) := by decide +kernel
theorem dX12_fault_38 : decode cX12_fault 38 = .ok (.goto (-29), 3) := by decide +kernel
theorem dX12_fault_41 : decode cX12_fault 41 = .ok (.iload_n 1, 1) := by decide +kernel
theorem dX12_fault_42 : decode cX12_fault 42 = .ok (.ifCond .ne 8, 3) := by decide +kernel
theorem dX12_fault_45 : decode cX12_fault 45 = .ok (.bipush (-6), 2) := by decide +kernel
theorem dX12_fault_47 : decode cX12_fault 47 = .ok (.goto 7, 3) := by decide +kernel
theorem dX12_fault_50 : decode cX12_fault 50 = .ok (.aload_n 0, 1) := by decide +kernel
theorem dX12_fault_51 : decode cX12_fault 51 = .ok (.getfield 100, 3) := by decide +kernel
theorem dX12_fault_54 : decode cX12_fault 54 = .ok (.ireturn, 1) := by decide +kernel
theorem dX12_inHere_0 : decode cX12_inHere 0 = .ok (.aload_n 0, 1) := by decide +kernel
theorem dX12_inHere_1 : decode cX12_inHere 1 = .ok (.getfield 13, 3) := by decide +kernel
theorem dX12_inHere_4 : decode cX12_inHere 4 = .ok (.aload_n 0, 1) := by decide +kernel
theorem dX12_inHere_5 : decode cX12_inHere 5 = .ok (.getfield 7, 3) := by decide +kernel
theorem dX12_inHere_8 : decode cX12_inHere 8 = .ok (.aload_n 0, 1) := by decide +kernel
theorem dX12_inHere_9 : decode cX12_inHere 9 = .ok (.getfield 87, 3) := by decide +kernel
theorem dX12_inHere_12 : decode cX12_inHere 12 = .ok (.iaload, 1) := by decide +kernel
theorem dX12_inHere_13 : decode cX12_inHere 13 = .ok (.iaload, 1) := by decide +kernel
theorem dX12_inHere_14 : decode cX12_inHere 14 = .ok (.ireturn, 1) := by decide +kernel
theorem dX12_whyNot_0 : decode cX12_whyNot 0 = .ok (.iload_n 1, 1) := by decide +kernel
theorem dX12_whyNot_1 : decode cX12_whyNot 1 = .ok (.tableswitch 183 0 4 #[35, 73, 105, 137, 169], 35) := by decide +kernel
theorem dX12_whyNot_36 : decode cX12_whyNot 36 = .ok (.iload_n 2, 1) := by decide +kernel
theorem dX12_whyNot_37 : decode cX12_whyNot 37 = .ok (.aload_n 0, 1) := by decide +kernel
theorem dX12_whyNot_38 : decode cX12_whyNot 38 = .ok (.getfield 87, 3) := by decide +kernel
theorem dX12_whyNot_41 : decode cX12_whyNot 41 = .ok (.if_icmp .ne 7, 3) := by decide +kernel
theorem dX12_whyNot_44 : decode cX12_whyNot 44 = .ok (.iconst 1, 1) := by decide +kernel
theorem dX12_whyNot_45 : decode cX12_whyNot 45 = .ok (.goto 28, 3) := by decide +kernel
theorem dX12_whyNot_48 : decode cX12_whyNot 48 = .ok (.aload_n 0, 1) := by decide +kernel
theorem dX12_whyNot_49 : decode cX12_whyNot 49 = .ok (.getfield 84, 3) := by decide +kernel
theorem dX12_whyNot_52 : decode cX12_whyNot 52 = .ok (.iload_n 2, 1) := by decide +kernel
theorem dX12_whyNot_53 : decode cX12_whyNot 53 = .ok (.aload_n 0, 1) := by decide +kernel
theorem dX12_whyNot_54 : decode cX12_whyNot 54 = .ok (.getfield 87, 3) := by decide +kernel
theorem dX12_whyNot_57 : decode cX12_whyNot 57 = .ok (.invokestatic 128, 3) := by decide +kernel
theorem dX12_whyNot_60 : decode cX12_whyNot 60 = .ok (.iadd, 1) := by decide +kernel
theorem dX12_whyNot_61 : decode cX12_whyNot 61 = .ok (.aload_n 0, 1) := by decide +kernel
theorem dX12_whyNot_62 : decode cX12_whyNot 62 = .ok (.getfield 60, 3) := by decide +kernel
theorem dX12_whyNot_65 : decode cX12_whyNot 65 = .ok (.if_icmp .le 7, 3) := by decide +kernel
theorem dX12_whyNot_68 : decode cX12_whyNot 68 = .ok (.iconst 4, 1) := by decide +kernel
theorem dX12_whyNot_69 : decode cX12_whyNot 69 = .ok (.goto 4, 3) := by decide +kernel
theorem dX12_whyNot_72 : decode cX12_whyNot 72 = .ok (.iconst 0, 1) := by decide +kernel
theorem dX12_whyNot_73 : decode cX12_whyNot 73 = .ok (.ireturn, 1) := by decide +kernel
theorem dX12_whyNot_74 : decode cX12_whyNot 74 = .ok (.aload_n 0, 1) := by decide +kernel
theorem dX12_whyNot_75 : decode cX12_whyNot 75 = .ok (.getfield 84, 3) := by decide +kernel
theorem dX12_whyNot_78 : decode cX12_whyNot 78 = .ok (.aload_n 0, 1) := by decide +kernel
theorem dX12_whyNot_79 : decode cX12_whyNot 79 = .ok (.getfield 16, 3) := by decide +kernel
theorem dX12_whyNot_82 : decode cX12_whyNot 82 = .ok (.aload_n 0, 1) := by decide +kernel
theorem dX12_whyNot_83 : decode cX12_whyNot 83 = .ok (.getfield 7, 3) := by decide +kernel
theorem dX12_whyNot_86 : decode cX12_whyNot 86 = .ok (.aload_n 0, 1) := by decide +kernel
theorem dX12_whyNot_87 : decode cX12_whyNot 87 = .ok (.getfield 87, 3) := by decide +kernel
theorem dX12_whyNot_90 : decode cX12_whyNot 90 = .ok (.iaload, 1) := by decide +kernel
theorem dX12_whyNot_91 : decode cX12_whyNot 91 = .ok (.iaload, 1) := by decide +kernel
theorem dX12_whyNot_92 : decode cX12_whyNot 92 = .ok (.iadd, 1) := by decide +kernel
theorem dX12_whyNot_93 : decode cX12_whyNot 93 = .ok (.aload_n 0, 1) := by decide +kernel
theorem dX12_whyNot_94 : decode cX12_whyNot 94 = .ok (.getfield 60, 3) := by decide +kernel
theorem dX12_whyNot_97 : decode cX12_whyNot 97 = .ok (.if_icmp .le 7, 3) := by decide +kernel
theorem dX12_whyNot_100 : decode cX12_whyNot 100 = .ok (.iconst 4, 1) := by decide +kernel
theorem dX12_whyNot_101 : decode cX12_whyNot 101 = .ok (.goto 4, 3) := by decide +kernel
theorem dX12_whyNot_104 : decode cX12_whyNot 104 = .ok (.iconst 0, 1) := by decide +kernel
theorem dX12_whyNot_105 : decode cX12_whyNot 105 = .ok (.ireturn, 1) := by decide +kernel
theorem dX12_whyNot_106 : decode cX12_whyNot 106 = .ok (.aload_n 0, 1) := by decide +kernel
theorem dX12_whyNot_107 : decode cX12_whyNot 107 = .ok (.getfield 90, 3) := by decide +kernel
theorem dX12_whyNot_110 : decode cX12_whyNot 110 = .ok (.iload_n 2, 1) := by decide +kernel
theorem dX12_whyNot_111 : decode cX12_whyNot 111 = .ok (.invokestatic 131, 3) := by decide +kernel
theorem dX12_whyNot_114 : decode cX12_whyNot 114 = .ok (.ifCond .ne 7, 3) := by decide +kernel
theorem dX12_whyNot_117 : decode cX12_whyNot 117 = .ok (.iconst 2, 1) := by decide +kernel
theorem dX12_whyNot_118 : decode cX12_whyNot 118 = .ok (.goto 19, 3) := by decide +kernel
theorem dX12_whyNot_121 : decode cX12_whyNot 121 = .ok (.aload_n 0, 1) := by decide +kernel
theorem dX12_whyNot_122 : decode cX12_whyNot 122 = .ok (.invokevirtual 135, 3) := by decide +kernel
theorem dX12_whyNot_125 : decode cX12_whyNot 125 = .ok (.iload_n 2, 1) := by decide +kernel
theorem dX12_whyNot_126 : decode cX12_whyNot 126 = .ok (.invokestatic 131, 3) := by decide +kernel
theorem dX12_whyNot_129 : decode cX12_whyNot 129 = .ok (.ifCond .eq 7, 3) := by decide +kernel
theorem dX12_whyNot_132 : decode cX12_whyNot 132 = .ok (.iconst 3, 1) := by decide +kernel
theorem dX12_whyNot_133 : decode cX12_whyNot 133 = .ok (.goto 4, 3) := by decide +kernel
theorem dX12_whyNot_136 : decode cX12_whyNot 136 = .ok (.iconst 0, 1) := by decide +kernel
theorem dX12_whyNot_137 : decode cX12_whyNot 137 = .ok (.ireturn, 1) := by decide +kernel
theorem dX12_whyNot_138 : decode cX12_whyNot 138 = .ok (.aload_n 0, 1) := by decide +kernel
theorem dX12_whyNot_139 : decode cX12_whyNot 139 = .ok (.invokevirtual 135, 3) := by decide +kernel
theorem dX12_whyNot_142 : decode cX12_whyNot 142 = .ok (.iload_n 2, 1) := by decide +kernel
theorem dX12_whyNot_143 : decode cX12_whyNot 143 = .ok (.invokestatic 131, 3) := by decide +kernel
theorem dX12_whyNot_146 : decode cX12_whyNot 146 = .ok (.ifCond .ne 7, 3) := by decide +kernel
theorem dX12_whyNot_149 : decode cX12_whyNot 149 = .ok (.iconst 2, 1) := by decide +kernel
theorem dX12_whyNot_150 : decode cX12_whyNot 150 = .ok (.goto 19, 3) := by decide +kernel
theorem dX12_whyNot_153 : decode cX12_whyNot 153 = .ok (.aload_n 0, 1) := by decide +kernel
theorem dX12_whyNot_154 : decode cX12_whyNot 154 = .ok (.getfield 90, 3) := by decide +kernel
theorem dX12_whyNot_157 : decode cX12_whyNot 157 = .ok (.iload_n 2, 1) := by decide +kernel
theorem dX12_whyNot_158 : decode cX12_whyNot 158 = .ok (.invokestatic 131, 3) := by decide +kernel
theorem dX12_whyNot_161 : decode cX12_whyNot 161 = .ok (.ifCond .eq 7, 3) := by decide +kernel
theorem dX12_whyNot_164 : decode cX12_whyNot 164 = .ok (.iconst 3, 1) := by decide +kernel
theorem dX12_whyNot_165 : decode cX12_whyNot 165 = .ok (.goto 4, 3) := by decide +kernel
theorem dX12_whyNot_168 : decode cX12_whyNot 168 = .ok (.iconst 0, 1) := by decide +kernel
theorem dX12_whyNot_169 : decode cX12_whyNot 169 = .ok (.ireturn, 1) := by decide +kernel
theorem dX12_whyNot_170 : decode cX12_whyNot 170 = .ok (.iload_n 2, 1) := by decide +kernel
theorem dX12_whyNot_171 : decode cX12_whyNot 171 = .ok (.aload_n 0, 1) := by decide +kernel
theorem dX12_whyNot_172 : decode cX12_whyNot 172 = .ok (.getfield 87, 3) := by decide +kernel
theorem dX12_whyNot_175 : decode cX12_whyNot 175 = .ok (.if_icmp .ne 7, 3) := by decide +kernel
theorem dX12_whyNot_178 : decode cX12_whyNot 178 = .ok (.iconst 1, 1) := by decide +kernel
theorem dX12_whyNot_179 : decode cX12_whyNot 179 = .ok (.goto 4, 3) := by decide +kernel
theorem dX12_whyNot_182 : decode cX12_whyNot 182 = .ok (.iconst 0, 1) := by decide +kernel
theorem dX12_whyNot_183 : decode cX12_whyNot 183 = .ok (.ireturn, 1) := by decide +kernel
theorem dX12_whyNot_184 : decode cX12_whyNot 184 = .ok (.aload_n 0, 1) := by decide +kernel
theorem dX12_whyNot_185 : decode cX12_whyNot 185 = .ok (.getfield 84, 3) := by decide +kernel
theorem dX12_whyNot_188 : decode cX12_whyNot 188 = .ok (.iconst 1, 1) := by decide +kernel
theorem dX12_whyNot_189 : decode cX12_whyNot 189 = .ok (.iadd, 1) := by decide +kernel
theorem dX12_whyNot_190 : decode cX12_whyNot 190 = .ok (.aload_n 0, 1) := by decide +kernel
theorem dX12_whyNot_191 : decode cX12_whyNot 191 = .ok (.getfield 60, 3) := by decide +kernel
theorem dX12_whyNot_194 : decode cX12_whyNot 194 = .ok (.if_icmp .le 7, 3) := by decide +kernel
theorem dX12_whyNot_197 : decode cX12_whyNot 197 = .ok (.iconst 4, 1) := by decide +kernel
theorem dX12_whyNot_198 : decode cX12_whyNot 198 = .ok (.goto 4, 3) := by decide +kernel
theorem dX12_whyNot_201 : decode cX12_whyNot 201 = .ok (.iconst 0, 1) := by decide +kernel
theorem dX12_whyNot_202 : decode cX12_whyNot 202 = .ok (.ireturn, 1) := by decide +kernel
theorem dX12_go_0 : decode cX12_go 0 = .ok (.aload_n 0, 1) := by decide +kernel
theorem dX12_go_1 : decode cX12_go 1 = .ok (.dup, 1) := by decide +kernel
theorem dX12_go_2 : decode cX12_go 2 = .ok (.getfield 84, 3) := by decide +kernel
theorem dX12_go_5 : decode cX12_go 5 = .ok (.iload_n 1, 1) := by decide +kernel
theorem dX12_go_6 : decode cX12_go 6 = .ok (.aload_n 0, 1) := by decide +kernel
theorem dX12_go_7 : decode cX12_go 7 = .ok (.getfield 87, 3) := by decide +kernel
theorem dX12_go_10 : decode cX12_go 10 = .ok (.invokestatic 128, 3) := by decide +kernel
theorem dX12_go_13 : decode cX12_go 13 = .ok (.iadd, 1) := by decide +kernel
theorem dX12_go_14 : decode cX12_go 14 = .ok (.putfield 84, 3) := by decide +kernel
theorem dX12_go_17 : decode cX12_go 17 = .ok (.aload_n 0, 1) := by decide +kernel
theorem dX12_go_18 : decode cX12_go 18 = .ok (.iload_n 1, 1) := by decide +kernel
theorem dX12_go_19 : decode cX12_go 19 = .ok (.putfield 87, 3) := by decide +kernel
theorem dX12_go_22 : decode cX12_go 22 = .ok (.return_, 1) := by decide +kernel
theorem dX12_look_0 : decode cX12_look 0 = .ok (.aload_n 0, 1) := by decide +kernel
theorem dX12_look_1 : decode cX12_look 1 = .ok (.dup, 1) := by decide +kernel
theorem dX12_look_2 : decode cX12_look 2 = .ok (.getfield 84, 3) := by decide +kernel
theorem dX12_look_5 : decode cX12_look 5 = .ok (.aload_n 0, 1) := by decide +kernel
theorem dX12_look_6 : decode cX12_look 6 = .ok (.getfield 16, 3) := by decide +kernel
theorem dX12_look_9 : decode cX12_look 9 = .ok (.aload_n 0, 1) := by decide +kernel
theorem dX12_look_10 : decode cX12_look 10 = .ok (.getfield 7, 3) := by decide +kernel
theorem dX12_look_13 : decode cX12_look 13 = .ok (.aload_n 0, 1) := by decide +kernel
theorem dX12_look_14 : decode cX12_look 14 = .ok (.getfield 87, 3) := by decide +kernel
theorem dX12_look_17 : decode cX12_look 17 = .ok (.iaload, 1) := by decide +kernel
theorem dX12_look_18 : decode cX12_look 18 = .ok (.iaload, 1) := by decide +kernel
theorem dX12_look_19 : decode cX12_look 19 = .ok (.iadd, 1) := by decide +kernel
theorem dX12_look_20 : decode cX12_look 20 = .ok (.putfield 84, 3) := by decide +kernel
theorem dX12_look_23 : decode cX12_look 23 = .ok (.aload_n 0, 1) := by decide +kernel
theorem dX12_look_24 : decode cX12_look 24 = .ok (.dup, 1) := by decide +kernel
theorem dX12_look_25 : decode cX12_look 25 = .ok (.getfield 93, 3) := by decide +kernel
theorem dX12_look_28 : decode cX12_look 28 = .ok (.aload_n 0, 1) := by decide +kernel
theorem dX12_look_29 : decode cX12_look 29 = .ok (.invokevirtual 135, 3) := by decide +kernel
theorem dX12_look_32 : decode cX12_look 32 = .ok (.ior, 1) := by decide +kernel
theorem dX12_look_33 : decode cX12_look 33 = .ok (.putfield 93, 3) := by decide +kernel
theorem dX12_look_36 : decode cX12_look 36 = .ok (.aload_n 0, 1) := by decide +kernel
theorem dX12_look_37 : decode cX12_look 37 = .ok (.dup, 1) := by decide +kernel
theorem dX12_look_38 : decode cX12_look 38 = .ok (.getfield 138, 3) := by decide +kernel
theorem dX12_look_41 : decode cX12_look 41 = .ok (.iconst 1, 1) := by decide +kernel
theorem dX12_look_42 : decode cX12_look 42 = .ok (.aload_n 0, 1) := by decide +kernel
theorem dX12_look_43 : decode cX12_look 43 = .ok (.getfield 7, 3) := by decide +kernel
theorem dX12_look_46 : decode cX12_look 46 = .ok (.aload_n 0, 1) := by decide +kernel
theorem dX12_look_47 : decode cX12_look 47 = .ok (.getfield 87, 3) := by decide +kernel
theorem dX12_look_50 : decode cX12_look 50 = .ok (.iaload, 1) := by decide +kernel
theorem dX12_look_51 : decode cX12_look 51 = .ok (.ishl, 1) := by decide +kernel
theorem dX12_look_52 : decode cX12_look 52 = .ok (.ior, 1) := by decide +kernel
theorem dX12_look_53 : decode cX12_look 53 = .ok (.putfield 138, 3) := by decide +kernel
theorem dX12_look_56 : decode cX12_look 56 = .ok (.return_, 1) := by decide +kernel
theorem dX12_take_0 : decode cX12_take 0 = .ok (.aload_n 0, 1) := by decide +kernel
theorem dX12_take_1 : decode cX12_take 1 = .ok (.getfield 13, 3) := by decide +kernel
theorem dX12_take_4 : decode cX12_take 4 = .ok (.aload_n 0, 1) := by decide +kernel
theorem dX12_take_5 : decode cX12_take 5 = .ok (.getfield 7, 3) := by decide +kernel
theorem dX12_take_8 : decode cX12_take 8 = .ok (.aload_n 0, 1) := by decide +kernel
theorem dX12_take_9 : decode cX12_take 9 = .ok (.getfield 87, 3) := by decide +kernel
theorem dX12_take_12 : decode cX12_take 12 = .ok (.iaload, 1) := by decide +kernel
theorem dX12_take_13 : decode cX12_take 13 = .ok (.dup2, 1) := by decide +kernel
theorem dX12_take_14 : decode cX12_take 14 = .ok (.iaload, 1) := by decide +kernel
theorem dX12_take_15 : decode cX12_take 15 = .ok (.iconst 1, 1) := by decide +kernel
theorem dX12_take_16 : decode cX12_take 16 = .ok (.iload_n 1, 1) := by decide +kernel
theorem dX12_take_17 : decode cX12_take 17 = .ok (.ishl, 1) := by decide +kernel
theorem dX12_take_18 : decode cX12_take 18 = .ok (.iconst (-1), 1) := by decide +kernel
theorem dX12_take_19 : decode cX12_take 19 = .ok (.ixor, 1) := by decide +kernel
theorem dX12_take_20 : decode cX12_take 20 = .ok (.iand, 1) := by decide +kernel
theorem dX12_take_21 : decode cX12_take 21 = .ok (.iastore, 1) := by decide +kernel
theorem dX12_take_22 : decode cX12_take 22 = .ok (.aload_n 0, 1) := by decide +kernel
theorem dX12_take_23 : decode cX12_take 23 = .ok (.dup, 1) := by decide +kernel
theorem dX12_take_24 : decode cX12_take 24 = .ok (.getfield 90, 3) := by decide +kernel
theorem dX12_take_27 : decode cX12_take 27 = .ok (.iconst 1, 1) := by decide +kernel
theorem dX12_take_28 : decode cX12_take 28 = .ok (.iload_n 1, 1) := by decide +kernel
theorem dX12_take_29 : decode cX12_take 29 = .ok (.ishl, 1) := by decide +kernel
theorem dX12_take_30 : decode cX12_take 30 = .ok (.ior, 1) := by decide +kernel
theorem dX12_take_31 : decode cX12_take 31 = .ok (.putfield 90, 3) := by decide +kernel
theorem dX12_take_34 : decode cX12_take 34 = .ok (.aload_n 0, 1) := by decide +kernel
theorem dX12_take_35 : decode cX12_take 35 = .ok (.dup, 1) := by decide +kernel
theorem dX12_take_36 : decode cX12_take 36 = .ok (.getfield 93, 3) := by decide +kernel
theorem dX12_take_39 : decode cX12_take 39 = .ok (.iconst 1, 1) := by decide +kernel
theorem dX12_take_40 : decode cX12_take 40 = .ok (.iload_n 1, 1) := by decide +kernel
theorem dX12_take_41 : decode cX12_take 41 = .ok (.ishl, 1) := by decide +kernel
theorem dX12_take_42 : decode cX12_take 42 = .ok (.ior, 1) := by decide +kernel
theorem dX12_take_43 : decode cX12_take 43 = .ok (.putfield 93, 3) := by decide +kernel
theorem dX12_take_46 : decode cX12_take 46 = .ok (.return_, 1) := by decide +kernel
theorem dX12_lay_0 : decode cX12_lay 0 = .ok (.aload_n 0, 1) := by decide +kernel
theorem dX12_lay_1 : decode cX12_lay 1 = .ok (.getfield 13, 3) := by decide +kernel
theorem dX12_lay_4 : decode cX12_lay 4 = .ok (.aload_n 0, 1) := by decide +kernel
theorem dX12_lay_5 : decode cX12_lay 5 = .ok (.getfield 7, 3) := by decide +kernel
theorem dX12_lay_8 : decode cX12_lay 8 = .ok (.aload_n 0, 1) := by decide +kernel
theorem dX12_lay_9 : decode cX12_lay 9 = .ok (.getfield 87, 3) := by decide +kernel
theorem dX12_lay_12 : decode cX12_lay 12 = .ok (.iaload, 1) := by decide +kernel
theorem dX12_lay_13 : decode cX12_lay 13 = .ok (.dup2, 1) := by decide +kernel
theorem dX12_lay_14 : decode cX12_lay 14 = .ok (.iaload, 1) := by decide +kernel
theorem dX12_lay_15 : decode cX12_lay 15 = .ok (.iconst 1, 1) := by decide +kernel
theorem dX12_lay_16 : decode cX12_lay 16 = .ok (.iload_n 1, 1) := by decide +kernel
theorem dX12_lay_17 : decode cX12_lay 17 = .ok (.ishl, 1) := by decide +kernel
theorem dX12_lay_18 : decode cX12_lay 18 = .ok (.ior, 1) := by decide +kernel
theorem dX12_lay_19 : decode cX12_lay 19 = .ok (.iastore, 1) := by decide +kernel
theorem dX12_lay_20 : decode cX12_lay 20 = .ok (.aload_n 0, 1) := by decide +kernel
theorem dX12_lay_21 : decode cX12_lay 21 = .ok (.dup, 1) := by decide +kernel
theorem dX12_lay_22 : decode cX12_lay 22 = .ok (.getfield 90, 3) := by decide +kernel
theorem dX12_lay_25 : decode cX12_lay 25 = .ok (.iconst 1, 1) := by decide +kernel
theorem dX12_lay_26 : decode cX12_lay 26 = .ok (.iload_n 1, 1) := by decide +kernel
theorem dX12_lay_27 : decode cX12_lay 27 = .ok (.ishl, 1) := by decide +kernel
theorem dX12_lay_28 : decode cX12_lay 28 = .ok (.iconst (-1), 1) := by decide +kernel
theorem dX12_lay_29 : decode cX12_lay 29 = .ok (.ixor, 1) := by decide +kernel
theorem dX12_lay_30 : decode cX12_lay 30 = .ok (.iand, 1) := by decide +kernel
theorem dX12_lay_31 : decode cX12_lay 31 = .ok (.putfield 90, 3) := by decide +kernel
theorem dX12_lay_34 : decode cX12_lay 34 = .ok (.return_, 1) := by decide +kernel
theorem dX12_change_0 : decode cX12_change 0 = .ok (.aload_n 0, 1) := by decide +kernel
theorem dX12_change_1 : decode cX12_change 1 = .ok (.getfield 7, 3) := by decide +kernel
theorem dX12_change_4 : decode cX12_change 4 = .ok (.aload_n 0, 1) := by decide +kernel
theorem dX12_change_5 : decode cX12_change 5 = .ok (.getfield 87, 3) := by decide +kernel
theorem dX12_change_8 : decode cX12_change 8 = .ok (.iaload, 1) := by decide +kernel
theorem dX12_change_9 : decode cX12_change 9 = .ok (.istore_n 2, 1) := by decide +kernel
theorem dX12_change_10 : decode cX12_change 10 = .ok (.aload_n 0, 1) := by decide +kernel
theorem dX12_change_11 : decode cX12_change 11 = .ok (.getfield 7, 3) := by decide +kernel
theorem dX12_change_14 : decode cX12_change 14 = .ok (.aload_n 0, 1) := by decide +kernel
theorem dX12_change_15 : decode cX12_change 15 = .ok (.getfield 87, 3) := by decide +kernel
theorem dX12_change_18 : decode cX12_change 18 = .ok (.aload_n 0, 1) := by decide +kernel
theorem dX12_change_19 : decode cX12_change 19 = .ok (.getfield 7, 3) := by decide +kernel
theorem dX12_change_22 : decode cX12_change 22 = .ok (.iload_n 1, 1) := by decide +kernel
theorem dX12_change_23 : decode cX12_change 23 = .ok (.iaload, 1) := by decide +kernel
theorem dX12_change_24 : decode cX12_change 24 = .ok (.iastore, 1) := by decide +kernel
theorem dX12_change_25 : decode cX12_change 25 = .ok (.aload_n 0, 1) := by decide +kernel
theorem dX12_change_26 : decode cX12_change 26 = .ok (.getfield 7, 3) := by decide +kernel
theorem dX12_change_29 : decode cX12_change 29 = .ok (.iload_n 1, 1) := by decide +kernel
theorem dX12_change_30 : decode cX12_change 30 = .ok (.iload_n 2, 1) := by decide +kernel
theorem dX12_change_31 : decode cX12_change 31 = .ok (.iastore, 1) := by decide +kernel
theorem dX12_change_32 : decode cX12_change 32 = .ok (.return_, 1) := by decide +kernel
end
section
theorem dX12_happen_0 : decode cX12_happen 0 = .ok (.iload_n 1, 1) := by decide +kernel
theorem dX12_happen_1 : decode cX12_happen 1 = .ok (.tableswitch 74 0 4 #[35, 43, 50, 58, 66], 35) := by decide +kernel
theorem dX12_happen_36 : decode cX12_happen 36 = .ok (.aload_n 0, 1) := by decide +kernel
theorem dX12_happen_37 : decode cX12_happen 37 = .ok (.iload_n 2, 1) := by decide +kernel
theorem dX12_happen_38 : decode cX12_happen 38 = .ok (.invokevirtual 141, 3) := by decide +kernel
theorem dX12_happen_41 : decode cX12_happen 41 = .ok (.goto 44, 3) := by decide +kernel
theorem dX12_happen_44 : decode cX12_happen 44 = .ok (.aload_n 0, 1) := by decide +kernel
theorem dX12_happen_45 : decode cX12_happen 45 = .ok (.invokevirtual 145, 3) := by decide +kernel
theorem dX12_happen_48 : decode cX12_happen 48 = .ok (.goto 37, 3) := by decide +kernel
theorem dX12_happen_51 : decode cX12_happen 51 = .ok (.aload_n 0, 1) := by decide +kernel
theorem dX12_happen_52 : decode cX12_happen 52 = .ok (.iload_n 2, 1) := by decide +kernel
theorem dX12_happen_53 : decode cX12_happen 53 = .ok (.invokevirtual 148, 3) := by decide +kernel
theorem dX12_happen_56 : decode cX12_happen 56 = .ok (.goto 29, 3) := by decide +kernel
theorem dX12_happen_59 : decode cX12_happen 59 = .ok (.aload_n 0, 1) := by decide +kernel
theorem dX12_happen_60 : decode cX12_happen 60 = .ok (.iload_n 2, 1) := by decide +kernel
theorem dX12_happen_61 : decode cX12_happen 61 = .ok (.invokevirtual 151, 3) := by decide +kernel
theorem dX12_happen_64 : decode cX12_happen 64 = .ok (.goto 21, 3) := by decide +kernel
theorem dX12_happen_67 : decode cX12_happen 67 = .ok (.aload_n 0, 1) := by decide +kernel
theorem dX12_happen_68 : decode cX12_happen 68 = .ok (.iload_n 2, 1) := by decide +kernel
theorem dX12_happen_69 : decode cX12_happen 69 = .ok (.invokevirtual 154, 3) := by decide +kernel
theorem dX12_happen_72 : decode cX12_happen 72 = .ok (.goto 13, 3) := by decide +kernel
theorem dX12_happen_75 : decode cX12_happen 75 = .ok (.aload_n 0, 1) := by decide +kernel
theorem dX12_happen_76 : decode cX12_happen 76 = .ok (.dup, 1) := by decide +kernel
theorem dX12_happen_77 : decode cX12_happen 77 = .ok (.getfield 84, 3) := by decide +kernel
theorem dX12_happen_80 : decode cX12_happen 80 = .ok (.iconst 1, 1) := by decide +kernel
theorem dX12_happen_81 : decode cX12_happen 81 = .ok (.iadd, 1) := by decide +kernel
theorem dX12_happen_82 : decode cX12_happen 82 = .ok (.putfield 84, 3) := by decide +kernel
theorem dX12_happen_85 : decode cX12_happen 85 = .ok (.return_, 1) := by decide +kernel
theorem dX12_keepNow_0 : decode cX12_keepNow 0 = .ok (.iconst 0, 1) := by decide +kernel
theorem dX12_keepNow_1 : decode cX12_keepNow 1 = .ok (.istore_n 1, 1) := by decide +kernel
theorem dX12_keepNow_2 : decode cX12_keepNow 2 = .ok (.iload_n 1, 1) := by decide +kernel
theorem dX12_keepNow_3 : decode cX12_keepNow 3 = .ok (.bipush 10, 2) := by decide +kernel
theorem dX12_keepNow_5 : decode cX12_keepNow 5 = .ok (.if_icmp .ge 36, 3) := by decide +kernel
theorem dX12_keepNow_8 : decode cX12_keepNow 8 = .ok (.aload_n 0, 1) := by decide +kernel
theorem dX12_keepNow_9 : decode cX12_keepNow 9 = .ok (.getfield 34, 3) := by decide +kernel
theorem dX12_keepNow_12 : decode cX12_keepNow 12 = .ok (.iload_n 1, 1) := by decide +kernel
theorem dX12_keepNow_13 : decode cX12_keepNow 13 = .ok (.aload_n 0, 1) := by decide +kernel
theorem dX12_keepNow_14 : decode cX12_keepNow 14 = .ok (.getfield 7, 3) := by decide +kernel
theorem dX12_keepNow_17 : decode cX12_keepNow 17 = .ok (.iload_n 1, 1) := by decide +kernel
theorem dX12_keepNow_18 : decode cX12_keepNow 18 = .ok (.iaload, 1) := by decide +kernel
theorem dX12_keepNow_19 : decode cX12_keepNow 19 = .ok (.iastore, 1) := by decide +kernel
theorem dX12_keepNow_20 : decode cX12_keepNow 20 = .ok (.aload_n 0, 1) := by decide +kernel
theorem dX12_keepNow_21 : decode cX12_keepNow 21 = .ok (.getfield 34, 3) := by decide +kernel
theorem dX12_keepNow_24 : decode cX12_keepNow 24 = .ok (.bipush 10, 2) := by decide +kernel
theorem dX12_keepNow_26 : decode cX12_keepNow 26 = .ok (.iload_n 1, 1) := by decide +kernel
theorem dX12_keepNow_27 : decode cX12_keepNow 27 = .ok (.iadd, 1) := by decide +kernel
theorem dX12_keepNow_28 : decode cX12_keepNow 28 = .ok (.aload_n 0, 1) := by decide +kernel
theorem dX12_keepNow_29 : decode cX12_keepNow 29 = .ok (.getfield 13, 3) := by decide +kernel
theorem dX12_keepNow_32 : decode cX12_keepNow 32 = .ok (.iload_n 1, 1) := by decide +kernel
theorem dX12_keepNow_33 : decode cX12_keepNow 33 = .ok (.iaload, 1) := by decide +kernel
theorem dX12_keepNow_34 : decode cX12_keepNow 34 = .ok (.iastore, 1) := by decide +kernel
theorem dX12_keepNow_35 : decode cX12_keepNow 35 = .ok (.iinc 1 1, 3) := by decide +kernel
theorem dX12_keepNow_38 : decode cX12_keepNow 38 = .ok (.goto (-36), 3) := by decide +kernel
theorem dX12_keepNow_41 : decode cX12_keepNow 41 = .ok (.aload_n 0, 1) := by decide +kernel
theorem dX12_keepNow_42 : decode cX12_keepNow 42 = .ok (.getfield 34, 3) := by decide +kernel
theorem dX12_keepNow_45 : decode cX12_keepNow 45 = .ok (.bipush 20, 2) := by decide +kernel
theorem dX12_keepNow_47 : decode cX12_keepNow 47 = .ok (.aload_n 0, 1) := by decide +kernel
theorem dX12_keepNow_48 : decode cX12_keepNow 48 = .ok (.getfield 87, 3) := by decide +kernel
theorem dX12_keepNow_51 : decode cX12_keepNow 51 = .ok (.iastore, 1) := by decide +kernel
theorem dX12_keepNow_52 : decode cX12_keepNow 52 = .ok (.aload_n 0, 1) := by decide +kernel
theorem dX12_keepNow_53 : decode cX12_keepNow 53 = .ok (.getfield 34, 3) := by decide +kernel
theorem dX12_keepNow_56 : decode cX12_keepNow 56 = .ok (.bipush 21, 2) := by decide +kernel
theorem dX12_keepNow_58 : decode cX12_keepNow 58 = .ok (.aload_n 0, 1) := by decide +kernel
theorem dX12_keepNow_59 : decode cX12_keepNow 59 = .ok (.getfield 90, 3) := by decide +kernel
theorem dX12_keepNow_62 : decode cX12_keepNow 62 = .ok (.iastore, 1) := by decide +kernel
theorem dX12_keepNow_63 : decode cX12_keepNow 63 = .ok (.aload_n 0, 1) := by decide +kernel
theorem dX12_keepNow_64 : decode cX12_keepNow 64 = .ok (.getfield 34, 3) := by decide +kernel
theorem dX12_keepNow_67 : decode cX12_keepNow 67 = .ok (.bipush 22, 2) := by decide +kernel
theorem dX12_keepNow_69 : decode cX12_keepNow 69 = .ok (.aload_n 0, 1) := by decide +kernel
theorem dX12_keepNow_70 : decode cX12_keepNow 70 = .ok (.getfield 93, 3) := by decide +kernel
theorem dX12_keepNow_73 : decode cX12_keepNow 73 = .ok (.iastore, 1) := by decide +kernel
theorem dX12_keepNow_74 : decode cX12_keepNow 74 = .ok (.aload_n 0, 1) := by decide +kernel
theorem dX12_keepNow_75 : decode cX12_keepNow 75 = .ok (.getfield 34, 3) := by decide +kernel
theorem dX12_keepNow_78 : decode cX12_keepNow 78 = .ok (.bipush 23, 2) := by decide +kernel
theorem dX12_keepNow_80 : decode cX12_keepNow 80 = .ok (.aload_n 0, 1) := by decide +kernel
theorem dX12_keepNow_81 : decode cX12_keepNow 81 = .ok (.getfield 84, 3) := by decide +kernel
theorem dX12_keepNow_84 : decode cX12_keepNow 84 = .ok (.iastore, 1) := by decide +kernel
theorem dX12_keepNow_85 : decode cX12_keepNow 85 = .ok (.return_, 1) := by decide +kernel
theorem dX12_back_0 : decode cX12_back 0 = .ok (.iconst 0, 1) := by decide +kernel
theorem dX12_back_1 : decode cX12_back 1 = .ok (.istore_n 2, 1) := by decide +kernel
theorem dX12_back_2 : decode cX12_back 2 = .ok (.iload_n 2, 1) := by decide +kernel
theorem dX12_back_3 : decode cX12_back 3 = .ok (.bipush 10, 2) := by decide +kernel
theorem dX12_back_5 : decode cX12_back 5 = .ok (.if_icmp .ge 36, 3) := by decide +kernel
theorem dX12_back_8 : decode cX12_back 8 = .ok (.aload_n 0, 1) := by decide +kernel
theorem dX12_back_9 : decode cX12_back 9 = .ok (.getfield 7, 3) := by decide +kernel
theorem dX12_back_12 : decode cX12_back 12 = .ok (.iload_n 2, 1) := by decide +kernel
theorem dX12_back_13 : decode cX12_back 13 = .ok (.aload_n 0, 1) := by decide +kernel
theorem dX12_back_14 : decode cX12_back 14 = .ok (.getfield 34, 3) := by decide +kernel
theorem dX12_back_17 : decode cX12_back 17 = .ok (.iload_n 2, 1) := by decide +kernel
theorem dX12_back_18 : decode cX12_back 18 = .ok (.iaload, 1) := by decide +kernel
theorem dX12_back_19 : decode cX12_back 19 = .ok (.iastore, 1) := by decide +kernel
theorem dX12_back_20 : decode cX12_back 20 = .ok (.aload_n 0, 1) := by decide +kernel
theorem dX12_back_21 : decode cX12_back 21 = .ok (.getfield 13, 3) := by decide +kernel
theorem dX12_back_24 : decode cX12_back 24 = .ok (.iload_n 2, 1) := by decide +kernel
theorem dX12_back_25 : decode cX12_back 25 = .ok (.aload_n 0, 1) := by decide +kernel
theorem dX12_back_26 : decode cX12_back 26 = .ok (.getfield 34, 3) := by decide +kernel
theorem dX12_back_29 : decode cX12_back 29 = .ok (.bipush 10, 2) := by decide +kernel
theorem dX12_back_31 : decode cX12_back 31 = .ok (.iload_n 2, 1) := by decide +kernel
theorem dX12_back_32 : decode cX12_back 32 = .ok (.iadd, 1) := by decide +kernel
theorem dX12_back_33 : decode cX12_back 33 = .ok (.iaload, 1) := by decide +kernel
theorem dX12_back_34 : decode cX12_back 34 = .ok (.iastore, 1) := by decide +kernel
theorem dX12_back_35 : decode cX12_back 35 = .ok (.iinc 2 1, 3) := by decide +kernel
theorem dX12_back_38 : decode cX12_back 38 = .ok (.goto (-36), 3) := by decide +kernel
theorem dX12_back_41 : decode cX12_back 41 = .ok (.aload_n 0, 1) := by decide +kernel
theorem dX12_back_42 : decode cX12_back 42 = .ok (.aload_n 0, 1) := by decide +kernel
theorem dX12_back_43 : decode cX12_back 43 = .ok (.getfield 34, 3) := by decide +kernel
theorem dX12_back_46 : decode cX12_back 46 = .ok (.bipush 20, 2) := by decide +kernel
theorem dX12_back_48 : decode cX12_back 48 = .ok (.iaload, 1) := by decide +kernel
theorem dX12_back_49 : decode cX12_back 49 = .ok (.putfield 87, 3) := by decide +kernel
theorem dX12_back_52 : decode cX12_back 52 = .ok (.aload_n 0, 1) := by decide +kernel
theorem dX12_back_53 : decode cX12_back 53 = .ok (.aload_n 0, 1) := by decide +kernel
theorem dX12_back_54 : decode cX12_back 54 = .ok (.getfield 34, 3) := by decide +kernel
theorem dX12_back_57 : decode cX12_back 57 = .ok (.bipush 21, 2) := by decide +kernel
theorem dX12_back_59 : decode cX12_back 59 = .ok (.iaload, 1) := by decide +kernel
theorem dX12_back_60 : decode cX12_back 60 = .ok (.putfield 90, 3) := by decide +kernel
theorem dX12_back_63 : decode cX12_back 63 = .ok (.aload_n 0, 1) := by decide +kernel
theorem dX12_back_64 : decode cX12_back 64 = .ok (.aload_n 0, 1) := by decide +kernel
theorem dX12_back_65 : decode cX12_back 65 = .ok (.getfield 34, 3) := by decide +kernel
theorem dX12_back_68 : decode cX12_back 68 = .ok (.bipush 22, 2) := by decide +kernel
theorem dX12_back_70 : decode cX12_back 70 = .ok (.iaload, 1) := by decide +kernel
theorem dX12_back_71 : decode cX12_back 71 = .ok (.putfield 93, 3) := by decide +kernel
theorem dX12_back_74 : decode cX12_back 74 = .ok (.aload_n 0, 1) := by decide +kernel
theorem dX12_back_75 : decode cX12_back 75 = .ok (.aload_n 0, 1) := by decide +kernel
theorem dX12_back_76 : decode cX12_back 76 = .ok (.getfield 34, 3) := by decide +kernel
theorem dX12_back_79 : decode cX12_back 79 = .ok (.bipush 23, 2) := by decide +kernel
theorem dX12_back_81 : decode cX12_back 81 = .ok (.iaload, 1) := by decide +kernel
theorem dX12_back_82 : decode cX12_back 82 = .ok (.putfield 84, 3) := by decide +kernel
theorem dX12_back_85 : decode cX12_back 85 = .ok (.iload_n 1, 1) := by decide +kernel
theorem dX12_back_86 : decode cX12_back 86 = .ok (.ireturn, 1) := by decide +kernel
theorem dX12_goOne_0 : decode cX12_goOne 0 = .ok (.aload_n 0, 1) := by decide +kernel
theorem dX12_goOne_1 : decode cX12_goOne 1 = .ok (.getfield 87, 3) := by decide +kernel
theorem dX12_goOne_4 : decode cX12_goOne 4 = .ok (.istore_n 2, 1) := by decide +kernel
theorem dX12_goOne_5 : decode cX12_goOne 5 = .ok (.aload_n 0, 1) := by decide +kernel
theorem dX12_goOne_6 : decode cX12_goOne 6 = .ok (.getfield 31, 3) := by decide +kernel
theorem dX12_goOne_9 : decode cX12_goOne 9 = .ok (.iload_n 1, 1) := by decide +kernel
theorem dX12_goOne_10 : decode cX12_goOne 10 = .ok (.iaload, 1) := by decide +kernel
theorem dX12_goOne_11 : decode cX12_goOne 11 = .ok (.istore_n 3, 1) := by decide +kernel
theorem dX12_goOne_12 : decode cX12_goOne 12 = .ok (.aload_n 0, 1) := by decide +kernel
theorem dX12_goOne_13 : decode cX12_goOne 13 = .ok (.getfield 7, 3) := by decide +kernel
theorem dX12_goOne_16 : decode cX12_goOne 16 = .ok (.iload_n 2, 1) := by decide +kernel
theorem dX12_goOne_17 : decode cX12_goOne 17 = .ok (.iaload, 1) := by decide +kernel
theorem dX12_goOne_18 : decode cX12_goOne 18 = .ok (.iload_n 2, 1) := by decide +kernel
theorem dX12_goOne_19 : decode cX12_goOne 19 = .ok (.if_icmp .ne 7, 3) := by decide +kernel
theorem dX12_goOne_22 : decode cX12_goOne 22 = .ok (.iconst 1, 1) := by decide +kernel
theorem dX12_goOne_23 : decode cX12_goOne 23 = .ok (.goto 4, 3) := by decide +kernel
theorem dX12_goOne_26 : decode cX12_goOne 26 = .ok (.iconst 0, 1) := by decide +kernel
theorem dX12_goOne_27 : decode cX12_goOne 27 = .ok (.istore 4, 2) := by decide +kernel
theorem dX12_goOne_29 : decode cX12_goOne 29 = .ok (.aload_n 0, 1) := by decide +kernel
theorem dX12_goOne_30 : decode cX12_goOne 30 = .ok (.getfield 28, 3) := by decide +kernel
theorem dX12_goOne_33 : decode cX12_goOne 33 = .ok (.iload_n 1, 1) := by decide +kernel
theorem dX12_goOne_34 : decode cX12_goOne 34 = .ok (.iaload, 1) := by decide +kernel
theorem dX12_goOne_35 : decode cX12_goOne 35 = .ok (.iconst 4, 1) := by decide +kernel
theorem dX12_goOne_36 : decode cX12_goOne 36 = .ok (.if_icmp .ne 17, 3) := by decide +kernel
theorem dX12_goOne_39 : decode cX12_goOne 39 = .ok (.aload_n 0, 1) := by decide +kernel
theorem dX12_goOne_40 : decode cX12_goOne 40 = .ok (.getfield 7, 3) := by decide +kernel
theorem dX12_goOne_43 : decode cX12_goOne 43 = .ok (.iload_n 3, 1) := by decide +kernel
theorem dX12_goOne_44 : decode cX12_goOne 44 = .ok (.iaload, 1) := by decide +kernel
theorem dX12_goOne_45 : decode cX12_goOne 45 = .ok (.iload_n 3, 1) := by decide +kernel
theorem dX12_goOne_46 : decode cX12_goOne 46 = .ok (.if_icmp .ne 7, 3) := by decide +kernel
theorem dX12_goOne_49 : decode cX12_goOne 49 = .ok (.iconst 1, 1) := by decide +kernel
theorem dX12_goOne_50 : decode cX12_goOne 50 = .ok (.goto 4, 3) := by decide +kernel
theorem dX12_goOne_53 : decode cX12_goOne 53 = .ok (.iconst 0, 1) := by decide +kernel
theorem dX12_goOne_54 : decode cX12_goOne 54 = .ok (.istore 5, 2) := by decide +kernel
theorem dX12_goOne_56 : decode cX12_goOne 56 = .ok (.aload_n 0, 1) := by decide +kernel
theorem dX12_goOne_57 : decode cX12_goOne 57 = .ok (.aload_n 0, 1) := by decide +kernel
theorem dX12_goOne_58 : decode cX12_goOne 58 = .ok (.getfield 28, 3) := by decide +kernel
theorem dX12_goOne_61 : decode cX12_goOne 61 = .ok (.iload_n 1, 1) := by decide +kernel
theorem dX12_goOne_62 : decode cX12_goOne 62 = .ok (.iaload, 1) := by decide +kernel
theorem dX12_goOne_63 : decode cX12_goOne 63 = .ok (.aload_n 0, 1) := by decide +kernel
theorem dX12_goOne_64 : decode cX12_goOne 64 = .ok (.getfield 31, 3) := by decide +kernel
theorem dX12_goOne_67 : decode cX12_goOne 67 = .ok (.iload_n 1, 1) := by decide +kernel
theorem dX12_goOne_68 : decode cX12_goOne 68 = .ok (.iaload, 1) := by decide +kernel
theorem dX12_goOne_69 : decode cX12_goOne 69 = .ok (.invokevirtual 157, 3) := by decide +kernel
theorem dX12_goOne_72 : decode cX12_goOne 72 = .ok (.aload_n 0, 1) := by decide +kernel
theorem dX12_goOne_73 : decode cX12_goOne 73 = .ok (.getfield 28, 3) := by decide +kernel
theorem dX12_goOne_76 : decode cX12_goOne 76 = .ok (.iload_n 1, 1) := by decide +kernel
theorem dX12_goOne_77 : decode cX12_goOne 77 = .ok (.iaload, 1) := by decide +kernel
theorem dX12_goOne_78 : decode cX12_goOne 78 = .ok (.iconst 4, 1) := by decide +kernel
theorem dX12_goOne_79 : decode cX12_goOne 79 = .ok (.if_icmp .ne 17, 3) := by decide +kernel
theorem dX12_goOne_82 : decode cX12_goOne 82 = .ok (.iload 4, 2) := by decide +kernel
theorem dX12_goOne_84 : decode cX12_goOne 84 = .ok (.ifCond .ne 8, 3) := by decide +kernel
theorem dX12_goOne_87 : decode cX12_goOne 87 = .ok (.iload 5, 2) := by decide +kernel
theorem dX12_goOne_89 : decode cX12_goOne 89 = .ok (.ifCond .eq 7, 3) := by decide +kernel
theorem dX12_goOne_92 : decode cX12_goOne 92 = .ok (.iconst 1, 1) := by decide +kernel
theorem dX12_goOne_93 : decode cX12_goOne 93 = .ok (.goto 4, 3) := by decide +kernel
theorem dX12_goOne_96 : decode cX12_goOne 96 = .ok (.iconst 0, 1) := by decide +kernel
theorem dX12_goOne_97 : decode cX12_goOne 97 = .ok (.istore 6, 2) := by decide +kernel
theorem dX12_goOne_99 : decode cX12_goOne 99 = .ok (.iload 6, 2) := by decide +kernel
theorem dX12_goOne_101 : decode cX12_goOne 101 = .ok (.ifCond .eq 47, 3) := by decide +kernel
theorem dX12_goOne_104 : decode cX12_goOne 104 = .ok (.aload_n 0, 1) := by decide +kernel
theorem dX12_goOne_105 : decode cX12_goOne 105 = .ok (.getfield 161, 3) := by decide +kernel
theorem dX12_goOne_108 : decode cX12_goOne 108 = .ok (.ifCond .ge 40, 3) := by decide +kernel
theorem dX12_goOne_111 : decode cX12_goOne 111 = .ok (.aload_n 0, 1) := by decide +kernel
theorem dX12_goOne_112 : decode cX12_goOne 112 = .ok (.iload_n 1, 1) := by decide +kernel
theorem dX12_goOne_113 : decode cX12_goOne 113 = .ok (.putfield 161, 3) := by decide +kernel
theorem dX12_goOne_116 : decode cX12_goOne 116 = .ok (.aload_n 0, 1) := by decide +kernel
theorem dX12_goOne_117 : decode cX12_goOne 117 = .ok (.iload 5, 2) := by decide +kernel
theorem dX12_goOne_119 : decode cX12_goOne 119 = .ok (.ifCond .ne 7, 3) := by decide +kernel
theorem dX12_goOne_122 : decode cX12_goOne 122 = .ok (.iload_n 2, 1) := by decide +kernel
theorem dX12_goOne_123 : decode cX12_goOne 123 = .ok (.goto 22, 3) := by decide +kernel
theorem dX12_goOne_126 : decode cX12_goOne 126 = .ok (.iload 4, 2) := by decide +kernel
theorem dX12_goOne_128 : decode cX12_goOne 128 = .ok (.ifCond .ne 7, 3) := by decide +kernel
theorem dX12_goOne_131 : decode cX12_goOne 131 = .ok (.iload_n 3, 1) := by decide +kernel
theorem dX12_goOne_132 : decode cX12_goOne 132 = .ok (.goto 13, 3) := by decide +kernel
theorem dX12_goOne_135 : decode cX12_goOne 135 = .ok (.iload_n 2, 1) := by decide +kernel
theorem dX12_goOne_136 : decode cX12_goOne 136 = .ok (.iload_n 3, 1) := by decide +kernel
theorem dX12_goOne_137 : decode cX12_goOne 137 = .ok (.if_icmp .ge 7, 3) := by decide +kernel
theorem dX12_goOne_140 : decode cX12_goOne 140 = .ok (.iload_n 2, 1) := by decide +kernel
theorem dX12_goOne_141 : decode cX12_goOne 141 = .ok (.goto 4, 3) := by decide +kernel
theorem dX12_goOne_144 : decode cX12_goOne 144 = .ok (.iload_n 3, 1) := by decide +kernel
theorem dX12_goOne_145 : decode cX12_goOne 145 = .ok (.putfield 164, 3) := by decide +kernel
theorem dX12_goOne_148 : decode cX12_goOne 148 = .ok (.return_, 1) := by decide +kernel
theorem dX12_goEvenings_0 : decode cX12_goEvenings 0 = .ok (.aload_n 0, 1) := by decide +kernel
theorem dX12_goEvenings_1 : decode cX12_goEvenings 1 = .ok (.bipush (-6), 2) := by decide +kernel
theorem dX12_goEvenings_3 : decode cX12_goEvenings 3 = .ok (.putfield 167, 3) := by decide +kernel
theorem dX12_goEvenings_6 : decode cX12_goEvenings 6 = .ok (.aload_n 0, 1) := by decide +kernel
theorem dX12_goEvenings_7 : decode cX12_goEvenings 7 = .ok (.bipush (-6), 2) := by decide +kernel
theorem dX12_goEvenings_9 : decode cX12_goEvenings 9 = .ok (.putfield 170, 3) := by decide +kernel
theorem dX12_goEvenings_12 : decode cX12_goEvenings 12 = .ok (.aload_n 0, 1) := by decide +kernel
theorem dX12_goEvenings_13 : decode cX12_goEvenings 13 = .ok (.iconst 0, 1) := by decide +kernel
theorem dX12_goEvenings_14 : decode cX12_goEvenings 14 = .ok (.putfield 138, 3) := by decide +kernel
theorem dX12_goEvenings_17 : decode cX12_goEvenings 17 = .ok (.aload_n 0, 1) := by decide +kernel
theorem dX12_goEvenings_18 : decode cX12_goEvenings 18 = .ok (.bipush (-6), 2) := by decide +kernel
theorem dX12_goEvenings_20 : decode cX12_goEvenings 20 = .ok (.putfield 161, 3) := by decide +kernel
theorem dX12_goEvenings_23 : decode cX12_goEvenings 23 = .ok (.aload_n 0, 1) := by decide +kernel
theorem dX12_goEvenings_24 : decode cX12_goEvenings 24 = .ok (.bipush (-6), 2) := by decide +kernel
theorem dX12_goEvenings_26 : decode cX12_goEvenings 26 = .ok (.putfield 164, 3) := by decide +kernel
theorem dX12_goEvenings_29 : decode cX12_goEvenings 29 = .ok (.iconst 0, 1) := by decide +kernel
theorem dX12_goEvenings_30 : decode cX12_goEvenings 30 = .ok (.istore_n 1, 1) := by decide +kernel
theorem dX12_goEvenings_31 : decode cX12_goEvenings 31 = .ok (.iload_n 1, 1) := by decide +kernel
theorem dX12_goEvenings_32 : decode cX12_goEvenings 32 = .ok (.aload_n 0, 1) := by decide +kernel
theorem dX12_goEvenings_33 : decode cX12_goEvenings 33 = .ok (.getfield 103, 3) := by decide +kernel
theorem dX12_goEvenings_36 : decode cX12_goEvenings 36 = .ok (.if_icmp .ge 70, 3) := by decide +kernel
theorem dX12_goEvenings_39 : decode cX12_goEvenings 39 = .ok (.aload_n 0, 1) := by decide +kernel
theorem dX12_goEvenings_40 : decode cX12_goEvenings 40 = .ok (.getfield 167, 3) := by decide +kernel
theorem dX12_goEvenings_43 : decode cX12_goEvenings 43 = .ok (.ifCond .ge 63, 3) := by decide +kernel
theorem dX12_goEvenings_46 : decode cX12_goEvenings 46 = .ok (.aload_n 0, 1) := by decide +kernel
theorem dX12_goEvenings_47 : decode cX12_goEvenings 47 = .ok (.aload_n 0, 1) := by decide +kernel
theorem dX12_goEvenings_48 : decode cX12_goEvenings 48 = .ok (.getfield 28, 3) := by decide +kernel
theorem dX12_goEvenings_51 : decode cX12_goEvenings 51 = .ok (.iload_n 1, 1) := by decide +kernel
theorem dX12_goEvenings_52 : decode cX12_goEvenings 52 = .ok (.iaload, 1) := by decide +kernel
theorem dX12_goEvenings_53 : decode cX12_goEvenings 53 = .ok (.aload_n 0, 1) := by decide +kernel
theorem dX12_goEvenings_54 : decode cX12_goEvenings 54 = .ok (.getfield 31, 3) := by decide +kernel
theorem dX12_goEvenings_57 : decode cX12_goEvenings 57 = .ok (.iload_n 1, 1) := by decide +kernel
theorem dX12_goEvenings_58 : decode cX12_goEvenings 58 = .ok (.iaload, 1) := by decide +kernel
theorem dX12_goEvenings_59 : decode cX12_goEvenings 59 = .ok (.invokevirtual 173, 3) := by decide +kernel
theorem dX12_goEvenings_62 : decode cX12_goEvenings 62 = .ok (.istore_n 2, 1) := by decide +kernel
theorem dX12_goEvenings_63 : decode cX12_goEvenings 63 = .ok (.aload_n 0, 1) := by decide +kernel
theorem dX12_goEvenings_64 : decode cX12_goEvenings 64 = .ok (.iload_n 2, 1) := by decide +kernel
theorem dX12_goEvenings_65 : decode cX12_goEvenings 65 = .ok (.ifCond .le 7, 3) := by decide +kernel
theorem dX12_goEvenings_68 : decode cX12_goEvenings 68 = .ok (.iload_n 1, 1) := by decide +kernel
theorem dX12_goEvenings_69 : decode cX12_goEvenings 69 = .ok (.goto 5, 3) := by decide +kernel
theorem dX12_goEvenings_72 : decode cX12_goEvenings 72 = .ok (.bipush (-6), 2) := by decide +kernel
theorem dX12_goEvenings_74 : decode cX12_goEvenings 74 = .ok (.putfield 167, 3) := by decide +kernel
theorem dX12_goEvenings_77 : decode cX12_goEvenings 77 = .ok (.aload_n 0, 1) := by decide +kernel
theorem dX12_goEvenings_78 : decode cX12_goEvenings 78 = .ok (.iload_n 2, 1) := by decide +kernel
theorem dX12_goEvenings_79 : decode cX12_goEvenings 79 = .ok (.ifCond .le 7, 3) := by decide +kernel
theorem dX12_goEvenings_82 : decode cX12_goEvenings 82 = .ok (.iload_n 2, 1) := by decide +kernel
theorem dX12_goEvenings_83 : decode cX12_goEvenings 83 = .ok (.goto 5, 3) := by decide +kernel
theorem dX12_goEvenings_86 : decode cX12_goEvenings 86 = .ok (.bipush (-6), 2) := by decide +kernel
theorem dX12_goEvenings_88 : decode cX12_goEvenings 88 = .ok (.putfield 170, 3) := by decide +kernel
theorem dX12_goEvenings_91 : decode cX12_goEvenings 91 = .ok (.iload_n 2, 1) := by decide +kernel
theorem dX12_goEvenings_92 : decode cX12_goEvenings 92 = .ok (.ifCond .ne 8, 3) := by decide +kernel
theorem dX12_goEvenings_95 : decode cX12_goEvenings 95 = .ok (.aload_n 0, 1) := by decide +kernel
theorem dX12_goEvenings_96 : decode cX12_goEvenings 96 = .ok (.iload_n 1, 1) := by decide +kernel
theorem dX12_goEvenings_97 : decode cX12_goEvenings 97 = .ok (.invokevirtual 176, 3) := by decide +kernel
theorem dX12_goEvenings_100 : decode cX12_goEvenings 100 = .ok (.iinc 1 1, 3) := by decide +kernel
theorem dX12_goEvenings_103 : decode cX12_goEvenings 103 = .ok (.goto (-72), 3) := by decide +kernel
theorem dX12_goEvenings_106 : decode cX12_goEvenings 106 = .ok (.return_, 1) := by decide +kernel
theorem dX12_refusal_0 : decode cX12_refusal 0 = .ok (.aload_n 0, 1) := by decide +kernel
theorem dX12_refusal_1 : decode cX12_refusal 1 = .ok (.invokevirtual 179, 3) := by decide +kernel
theorem dX12_refusal_4 : decode cX12_refusal 4 = .ok (.aload_n 0, 1) := by decide +kernel
theorem dX12_refusal_5 : decode cX12_refusal 5 = .ok (.invokevirtual 182, 3) := by decide +kernel
theorem dX12_refusal_8 : decode cX12_refusal 8 = .ok (.ifCond .lt 6, 3) := by decide +kernel
theorem dX12_refusal_11 : decode cX12_refusal 11 = .ok (.bipush (-5), 2) := by decide +kernel
theorem dX12_refusal_13 : decode cX12_refusal 13 = .ok (.ireturn, 1) := by decide +kernel
theorem dX12_refusal_14 : decode cX12_refusal 14 = .ok (.aload_n 0, 1) := by decide +kernel
theorem dX12_refusal_15 : decode cX12_refusal 15 = .ok (.invokevirtual 185, 3) := by decide +kernel
theorem dX12_refusal_18 : decode cX12_refusal 18 = .ok (.aload_n 0, 1) := by decide +kernel
theorem dX12_refusal_19 : decode cX12_refusal 19 = .ok (.getfield 167, 3) := by decide +kernel
theorem dX12_refusal_22 : decode cX12_refusal 22 = .ok (.ifCond .lt 8, 3) := by decide +kernel
theorem dX12_refusal_25 : decode cX12_refusal 25 = .ok (.bipush (-3), 2) := by decide +kernel
theorem dX12_refusal_27 : decode cX12_refusal 27 = .ok (.goto 5, 3) := by decide +kernel
theorem dX12_refusal_30 : decode cX12_refusal 30 = .ok (.bipush (-6), 2) := by decide +kernel
theorem dX12_refusal_32 : decode cX12_refusal 32 = .ok (.ireturn, 1) := by decide +kernel
theorem dX12_judge_0 : decode cX12_judge 0 = .ok (.iload_n 1, 1) := by decide +kernel
theorem dX12_judge_1 : decode cX12_judge 1 = .ok (.i2l, 1) := by decide +kernel
theorem dX12_judge_2 : decode cX12_judge 2 = .ok (.lconst 0, 1) := by decide +kernel
theorem dX12_judge_3 : decode cX12_judge 3 = .ok (.ldc2_w 188, 3) := by decide +kernel
theorem dX12_judge_6 : decode cX12_judge 6 = .ok (.invokestatic 66, 3) := by decide +kernel
theorem dX12_judge_9 : decode cX12_judge 9 = .ok (.ifCond .ne 6, 3) := by decide +kernel
theorem dX12_judge_12 : decode cX12_judge 12 = .ok (.bipush (-2), 2) := by decide +kernel
theorem dX12_judge_14 : decode cX12_judge 14 = .ok (.ireturn, 1) := by decide +kernel
theorem dX12_judge_15 : decode cX12_judge 15 = .ok (.aload_n 0, 1) := by decide +kernel
theorem dX12_judge_16 : decode cX12_judge 16 = .ok (.aload_n 0, 1) := by decide +kernel
theorem dX12_judge_17 : decode cX12_judge 17 = .ok (.invokevirtual 190, 3) := by decide +kernel
theorem dX12_judge_20 : decode cX12_judge 20 = .ok (.invokevirtual 193, 3) := by decide +kernel
theorem dX12_judge_23 : decode cX12_judge 23 = .ok (.istore_n 2, 1) := by decide +kernel
theorem dX12_judge_24 : decode cX12_judge 24 = .ok (.iload_n 2, 1) := by decide +kernel
theorem dX12_judge_25 : decode cX12_judge 25 = .ok (.bipush (-5), 2) := by decide +kernel
theorem dX12_judge_27 : decode cX12_judge 27 = .ok (.if_icmp .eq 14, 3) := by decide +kernel
theorem dX12_judge_30 : decode cX12_judge 30 = .ok (.iload_n 1, 1) := by decide +kernel
theorem dX12_judge_31 : decode cX12_judge 31 = .ok (.iconst 1, 1) := by decide +kernel
theorem dX12_judge_32 : decode cX12_judge 32 = .ok (.if_icmp .le 11, 3) := by decide +kernel
theorem dX12_judge_35 : decode cX12_judge 35 = .ok (.iload_n 2, 1) := by decide +kernel
theorem dX12_judge_36 : decode cX12_judge 36 = .ok (.bipush (-3), 2) := by decide +kernel
theorem dX12_judge_38 : decode cX12_judge 38 = .ok (.if_icmp .ne 5, 3) := by decide +kernel
theorem dX12_judge_41 : decode cX12_judge 41 = .ok (.iload_n 2, 1) := by decide +kernel
theorem dX12_judge_42 : decode cX12_judge 42 = .ok (.ireturn, 1) := by decide +kernel
theorem dX12_judge_43 : decode cX12_judge 43 = .ok (.iload_n 1, 1) := by decide +kernel
theorem dX12_judge_44 : decode cX12_judge 44 = .ok (.ifCond .ne 10, 3) := by decide +kernel
theorem dX12_judge_47 : decode cX12_judge 47 = .ok (.aload_n 0, 1) := by decide +kernel
theorem dX12_judge_48 : decode cX12_judge 48 = .ok (.getfield 167, 3) := by decide +kernel
theorem dX12_judge_51 : decode cX12_judge 51 = .ok (.goto 19, 3) := by decide +kernel
theorem dX12_judge_54 : decode cX12_judge 54 = .ok (.iload_n 1, 1) := by decide +kernel
theorem dX12_judge_55 : decode cX12_judge 55 = .ok (.iconst 1, 1) := by decide +kernel
theorem dX12_judge_56 : decode cX12_judge 56 = .ok (.if_icmp .ne 10, 3) := by decide +kernel
theorem dX12_judge_59 : decode cX12_judge 59 = .ok (.aload_n 0, 1) := by decide +kernel
theorem dX12_judge_60 : decode cX12_judge 60 = .ok (.getfield 170, 3) := by decide +kernel
theorem dX12_judge_63 : decode cX12_judge 63 = .ok (.goto 7, 3) := by decide +kernel
theorem dX12_judge_66 : decode cX12_judge 66 = .ok (.aload_n 0, 1) := by decide +kernel
theorem dX12_judge_67 : decode cX12_judge 67 = .ok (.getfield 138, 3) := by decide +kernel
theorem dX12_judge_70 : decode cX12_judge 70 = .ok (.ireturn, 1) := by decide +kernel
theorem dX12_behind_0 : decode cX12_behind 0 = .ok (.iload_n 1, 1) := by decide +kernel
theorem dX12_behind_1 : decode cX12_behind 1 = .ok (.invokestatic 72, 3) := by decide +kernel
theorem dX12_behind_4 : decode cX12_behind 4 = .ok (.ifCond .ne 5, 3) := by decide +kernel
theorem dX12_behind_7 : decode cX12_behind 7 = .ok (.iconst (-1), 1) := by decide +kernel
theorem dX12_behind_8 : decode cX12_behind 8 = .ok (.ireturn, 1) := by decide +kernel
theorem dX12_behind_9 : decode cX12_behind 9 = .ok (.iload_n 2, 1) := by decide +kernel
theorem dX12_behind_10 : decode cX12_behind 10 = .ok (.i2l, 1) := by decide +kernel
theorem dX12_behind_11 : decode cX12_behind 11 = .ok (.lconst 0, 1) := by decide +kernel
theorem dX12_behind_12 : decode cX12_behind 12 = .ok (.lconst 1, 1) := by decide +kernel
theorem dX12_behind_13 : decode cX12_behind 13 = .ok (.invokestatic 66, 3) := by decide +kernel
theorem dX12_behind_16 : decode cX12_behind 16 = .ok (.ifCond .ne 6, 3) := by decide +kernel
theorem dX12_behind_19 : decode cX12_behind 19 = .ok (.bipush (-2), 2) := by decide +kernel
theorem dX12_behind_21 : decode cX12_behind 21 = .ok (.ireturn, 1) := by decide +kernel
theorem dX12_behind_22 : decode cX12_behind 22 = .ok (.aload_n 0, 1) := by decide +kernel
theorem dX12_behind_23 : decode cX12_behind 23 = .ok (.invokevirtual 190, 3) := by decide +kernel
theorem dX12_behind_26 : decode cX12_behind 26 = .ok (.istore_n 3, 1) := by decide +kernel
theorem dX12_behind_27 : decode cX12_behind 27 = .ok (.aload_n 0, 1) := by decide +kernel
theorem dX12_behind_28 : decode cX12_behind 28 = .ok (.iload_n 3, 1) := by decide +kernel
theorem dX12_behind_29 : decode cX12_behind 29 = .ok (.bipush (-6), 2) := by decide +kernel
theorem dX12_behind_31 : decode cX12_behind 31 = .ok (.if_icmp .eq 7, 3) := by decide +kernel
theorem dX12_behind_34 : decode cX12_behind 34 = .ok (.iload_n 3, 1) := by decide +kernel
theorem dX12_behind_35 : decode cX12_behind 35 = .ok (.goto 27, 3) := by decide +kernel
theorem dX12_behind_38 : decode cX12_behind 38 = .ok (.iload_n 2, 1) := by decide +kernel
theorem dX12_behind_39 : decode cX12_behind 39 = .ok (.ifCond .ne 12, 3) := by decide +kernel
theorem dX12_behind_42 : decode cX12_behind 42 = .ok (.aload_n 0, 1) := by decide +kernel
theorem dX12_behind_43 : decode cX12_behind 43 = .ok (.getfield 7, 3) := by decide +kernel
theorem dX12_behind_46 : decode cX12_behind 46 = .ok (.iload_n 1, 1) := by decide +kernel
theorem dX12_behind_47 : decode cX12_behind 47 = .ok (.iaload, 1) := by decide +kernel
theorem dX12_behind_48 : decode cX12_behind 48 = .ok (.goto 14, 3) := by decide +kernel
theorem dX12_behind_51 : decode cX12_behind 51 = .ok (.aload_n 0, 1) := by decide +kernel
theorem dX12_behind_52 : decode cX12_behind 52 = .ok (.getfield 13, 3) := by decide +kernel
theorem dX12_behind_55 : decode cX12_behind 55 = .ok (.aload_n 0, 1) := by decide +kernel
theorem dX12_behind_56 : decode cX12_behind 56 = .ok (.getfield 7, 3) := by decide +kernel
theorem dX12_behind_59 : decode cX12_behind 59 = .ok (.iload_n 1, 1) := by decide +kernel
theorem dX12_behind_60 : decode cX12_behind 60 = .ok (.iaload, 1) := by decide +kernel
theorem dX12_behind_61 : decode cX12_behind 61 = .ok (.iaload, 1) := by decide +kernel
theorem dX12_behind_62 : decode cX12_behind 62 = .ok (.invokevirtual 193, 3) := by decide +kernel
theorem dX12_behind_65 : decode cX12_behind 65 = .ok (.ireturn, 1) := by decide +kernel
theorem dX12_his_0 : decode cX12_his 0 = .ok (.iload_n 1, 1) := by decide +kernel
theorem dX12_his_1 : decode cX12_his 1 = .ok (.i2l, 1) := by decide +kernel
theorem dX12_his_2 : decode cX12_his 2 = .ok (.lconst 0, 1) := by decide +kernel
theorem dX12_his_3 : decode cX12_his 3 = .ok (.ldc2_w 196, 3) := by decide +kernel
theorem dX12_his_6 : decode cX12_his 6 = .ok (.invokestatic 66, 3) := by decide +kernel
theorem dX12_his_9 : decode cX12_his 9 = .ok (.ifCond .ne 6, 3) := by decide +kernel
theorem dX12_his_12 : decode cX12_his 12 = .ok (.bipush (-2), 2) := by decide +kernel
theorem dX12_his_14 : decode cX12_his 14 = .ok (.ireturn, 1) := by decide +kernel
theorem dX12_his_15 : decode cX12_his 15 = .ok (.aload_n 0, 1) := by decide +kernel
theorem dX12_his_16 : decode cX12_his 16 = .ok (.invokevirtual 190, 3) := by decide +kernel
theorem dX12_his_19 : decode cX12_his 19 = .ok (.istore_n 2, 1) := by decide +kernel
theorem dX12_his_20 : decode cX12_his 20 = .ok (.aload_n 0, 1) := by decide +kernel
theorem dX12_his_21 : decode cX12_his 21 = .ok (.iload_n 2, 1) := by decide +kernel
theorem dX12_his_22 : decode cX12_his 22 = .ok (.bipush (-6), 2) := by decide +kernel
theorem dX12_his_24 : decode cX12_his 24 = .ok (.if_icmp .eq 7, 3) := by decide +kernel
theorem dX12_his_27 : decode cX12_his 27 = .ok (.iload_n 2, 1) := by decide +kernel
theorem dX12_his_28 : decode cX12_his 28 = .ok (.goto 42, 3) := by decide +kernel
theorem dX12_his_31 : decode cX12_his 31 = .ok (.iload_n 1, 1) := by decide +kernel
theorem dX12_his_32 : decode cX12_his 32 = .ok (.ifCond .ne 10, 3) := by decide +kernel
theorem dX12_his_35 : decode cX12_his 35 = .ok (.aload_n 0, 1) := by decide +kernel
theorem dX12_his_36 : decode cX12_his 36 = .ok (.getfield 87, 3) := by decide +kernel
theorem dX12_his_39 : decode cX12_his 39 = .ok (.goto 31, 3) := by decide +kernel
theorem dX12_his_42 : decode cX12_his 42 = .ok (.iload_n 1, 1) := by decide +kernel
theorem dX12_his_43 : decode cX12_his 43 = .ok (.iconst 1, 1) := by decide +kernel
theorem dX12_his_44 : decode cX12_his 44 = .ok (.if_icmp .ne 10, 3) := by decide +kernel
theorem dX12_his_47 : decode cX12_his 47 = .ok (.aload_n 0, 1) := by decide +kernel
theorem dX12_his_48 : decode cX12_his 48 = .ok (.getfield 90, 3) := by decide +kernel
theorem dX12_his_51 : decode cX12_his 51 = .ok (.goto 19, 3) := by decide +kernel
theorem dX12_his_54 : decode cX12_his 54 = .ok (.iload_n 1, 1) := by decide +kernel
theorem dX12_his_55 : decode cX12_his 55 = .ok (.iconst 2, 1) := by decide +kernel
theorem dX12_his_56 : decode cX12_his 56 = .ok (.if_icmp .ne 10, 3) := by decide +kernel
theorem dX12_his_59 : decode cX12_his 59 = .ok (.aload_n 0, 1) := by decide +kernel
theorem dX12_his_60 : decode cX12_his 60 = .ok (.getfield 93, 3) := by decide +kernel
theorem dX12_his_63 : decode cX12_his 63 = .ok (.goto 7, 3) := by decide +kernel
theorem dX12_his_66 : decode cX12_his 66 = .ok (.aload_n 0, 1) := by decide +kernel
theorem dX12_his_67 : decode cX12_his 67 = .ok (.getfield 84, 3) := by decide +kernel
theorem dX12_his_70 : decode cX12_his 70 = .ok (.invokevirtual 193, 3) := by decide +kernel
theorem dX12_his_73 : decode cX12_his 73 = .ok (.ireturn, 1) := by decide +kernel
theorem dX12_wrong_0 : decode cX12_wrong 0 = .ok (.iload_n 1, 1) := by decide +kernel
theorem dX12_wrong_1 : decode cX12_wrong 1 = .ok (.i2l, 1) := by decide +kernel
theorem dX12_wrong_2 : decode cX12_wrong 2 = .ok (.lconst 0, 1) := by decide +kernel
theorem dX12_wrong_3 : decode cX12_wrong 3 = .ok (.ldc2_w 188, 3) := by decide +kernel
theorem dX12_wrong_6 : decode cX12_wrong 6 = .ok (.invokestatic 66, 3) := by decide +kernel
theorem dX12_wrong_9 : decode cX12_wrong 9 = .ok (.ifCond .ne 6, 3) := by decide +kernel
theorem dX12_wrong_12 : decode cX12_wrong 12 = .ok (.bipush (-2), 2) := by decide +kernel
theorem dX12_wrong_14 : decode cX12_wrong 14 = .ok (.ireturn, 1) := by decide +kernel
theorem dX12_wrong_15 : decode cX12_wrong 15 = .ok (.aload_n 0, 1) := by decide +kernel
theorem dX12_wrong_16 : decode cX12_wrong 16 = .ok (.invokevirtual 190, 3) := by decide +kernel
theorem dX12_wrong_19 : decode cX12_wrong 19 = .ok (.istore_n 2, 1) := by decide +kernel
theorem dX12_wrong_20 : decode cX12_wrong 20 = .ok (.aload_n 0, 1) := by decide +kernel
theorem dX12_wrong_21 : decode cX12_wrong 21 = .ok (.iload_n 2, 1) := by decide +kernel
theorem dX12_wrong_22 : decode cX12_wrong 22 = .ok (.bipush (-6), 2) := by decide +kernel
theorem dX12_wrong_24 : decode cX12_wrong 24 = .ok (.if_icmp .eq 7, 3) := by decide +kernel
theorem dX12_wrong_27 : decode cX12_wrong 27 = .ok (.iload_n 2, 1) := by decide +kernel
theorem dX12_wrong_28 : decode cX12_wrong 28 = .ok (.goto 30, 3) := by decide +kernel
theorem dX12_wrong_31 : decode cX12_wrong 31 = .ok (.iload_n 1, 1) := by decide +kernel
theorem dX12_wrong_32 : decode cX12_wrong 32 = .ok (.ifCond .ne 10, 3) := by decide +kernel
theorem dX12_wrong_35 : decode cX12_wrong 35 = .ok (.aload_n 0, 1) := by decide +kernel
theorem dX12_wrong_36 : decode cX12_wrong 36 = .ok (.invokevirtual 78, 3) := by decide +kernel
theorem dX12_wrong_39 : decode cX12_wrong 39 = .ok (.goto 19, 3) := by decide +kernel
theorem dX12_wrong_42 : decode cX12_wrong 42 = .ok (.iload_n 1, 1) := by decide +kernel
theorem dX12_wrong_43 : decode cX12_wrong 43 = .ok (.iconst 1, 1) := by decide +kernel
theorem dX12_wrong_44 : decode cX12_wrong 44 = .ok (.if_icmp .ne 10, 3) := by decide +kernel
theorem dX12_wrong_47 : decode cX12_wrong 47 = .ok (.aload_n 0, 1) := by decide +kernel
theorem dX12_wrong_48 : decode cX12_wrong 48 = .ok (.getfield 161, 3) := by decide +kernel
theorem dX12_wrong_51 : decode cX12_wrong 51 = .ok (.goto 7, 3) := by decide +kernel
theorem dX12_wrong_54 : decode cX12_wrong 54 = .ok (.aload_n 0, 1) := by decide +kernel
theorem dX12_wrong_55 : decode cX12_wrong 55 = .ok (.getfield 164, 3) := by decide +kernel
theorem dX12_wrong_58 : decode cX12_wrong 58 = .ok (.invokevirtual 193, 3) := by decide +kernel
theorem dX12_wrong_61 : decode cX12_wrong 61 = .ok (.ireturn, 1) := by decide +kernel
theorem dX12_done_0 : decode cX12_done 0 = .ok (.aload_n 0, 1) := by decide +kernel
theorem dX12_done_1 : decode cX12_done 1 = .ok (.invokevirtual 190, 3) := by decide +kernel
theorem dX12_done_4 : decode cX12_done 4 = .ok (.istore_n 1, 1) := by decide +kernel
theorem dX12_done_5 : decode cX12_done 5 = .ok (.iload_n 1, 1) := by decide +kernel
theorem dX12_done_6 : decode cX12_done 6 = .ok (.bipush (-6), 2) := by decide +kernel
theorem dX12_done_8 : decode cX12_done 8 = .ok (.if_icmp .eq 9, 3) := by decide +kernel
theorem dX12_done_11 : decode cX12_done 11 = .ok (.aload_n 0, 1) := by decide +kernel
theorem dX12_done_12 : decode cX12_done 12 = .ok (.iload_n 1, 1) := by decide +kernel
theorem dX12_done_13 : decode cX12_done 13 = .ok (.invokevirtual 193, 3) := by decide +kernel
theorem dX12_done_16 : decode cX12_done 16 = .ok (.ireturn, 1) := by decide +kernel
theorem dX12_done_17 : decode cX12_done 17 = .ok (.aload_n 0, 1) := by decide +kernel
theorem dX12_done_18 : decode cX12_done 18 = .ok (.iconst 0, 1) := by decide +kernel
theorem dX12_done_19 : decode cX12_done 19 = .ok (.putfield 100, 3) := by decide +kernel
theorem dX12_done_22 : decode cX12_done 22 = .ok (.aload_n 0, 1) := by decide +kernel
theorem dX12_done_23 : decode cX12_done 23 = .ok (.getfield 103, 3) := by decide +kernel
theorem dX12_done_26 : decode cX12_done 26 = .ok (.ireturn, 1) := by decide +kernel
theorem dX12_less_0 : decode cX12_less 0 = .ok (.iload_n 0, 1) := by decide +kernel
theorem dX12_less_1 : decode cX12_less 1 = .ok (.iload_n 1, 1) := by decide +kernel
theorem dX12_less_2 : decode cX12_less 2 = .ok (.if_icmp .ge 7, 3) := by decide +kernel
theorem dX12_less_5 : decode cX12_less 5 = .ok (.iload_n 0, 1) := by decide +kernel
theorem dX12_less_6 : decode cX12_less 6 = .ok (.goto 4, 3) := by decide +kernel
theorem dX12_less_9 : decode cX12_less 9 = .ok (.iload_n 1, 1) := by decide +kernel
theorem dX12_less_10 : decode cX12_less 10 = .ok (.ireturn, 1) := by decide +kernel
theorem dX12_more_0 : decode cX12_more 0 = .ok (.iload_n 0, 1) := by decide +kernel
theorem dX12_more_1 : decode cX12_more 1 = .ok (.iload_n 1, 1) := by decide +kernel
theorem dX12_more_2 : decode cX12_more 2 = .ok (.if_icmp .le 7, 3) := by decide +kernel
theorem dX12_more_5 : decode cX12_more 5 = .ok (.iload_n 0, 1) := by decide +kernel
theorem dX12_more_6 : decode cX12_more 6 = .ok (.goto 4, 3) := by decide +kernel
theorem dX12_more_9 : decode cX12_more 9 = .ok (.iload_n 1, 1) := by decide +kernel
theorem dX12_more_10 : decode cX12_more 10 = .ok (.ireturn, 1) := by decide +kernel
theorem dX12_minutesBy_0 : decode cX12_minutesBy 0 = .ok (.aload_n 0, 1) := by decide +kernel
theorem dX12_minutesBy_1 : decode cX12_minutesBy 1 = .ok (.getfield 87, 3) := by decide +kernel
theorem dX12_minutesBy_4 : decode cX12_minutesBy 4 = .ok (.iload_n 2, 1) := by decide +kernel
theorem dX12_minutesBy_5 : decode cX12_minutesBy 5 = .ok (.invokestatic 198, 3) := by decide +kernel
theorem dX12_minutesBy_8 : decode cX12_minutesBy 8 = .ok (.istore_n 3, 1) := by decide +kernel
theorem dX12_minutesBy_9 : decode cX12_minutesBy 9 = .ok (.aload_n 0, 1) := by decide +kernel
theorem dX12_minutesBy_10 : decode cX12_minutesBy 10 = .ok (.getfield 87, 3) := by decide +kernel
theorem dX12_minutesBy_13 : decode cX12_minutesBy 13 = .ok (.iload_n 2, 1) := by decide +kernel
theorem dX12_minutesBy_14 : decode cX12_minutesBy 14 = .ok (.invokestatic 201, 3) := by decide +kernel
theorem dX12_minutesBy_17 : decode cX12_minutesBy 17 = .ok (.istore 4, 2) := by decide +kernel
theorem dX12_minutesBy_19 : decode cX12_minutesBy 19 = .ok (.iconst 0, 1) := by decide +kernel
theorem dX12_minutesBy_20 : decode cX12_minutesBy 20 = .ok (.istore 5, 2) := by decide +kernel
theorem dX12_minutesBy_22 : decode cX12_minutesBy 22 = .ok (.iconst 0, 1) := by decide +kernel
theorem dX12_minutesBy_23 : decode cX12_minutesBy 23 = .ok (.istore 6, 2) := by decide +kernel
theorem dX12_minutesBy_25 : decode cX12_minutesBy 25 = .ok (.iload 6, 2) := by decide +kernel
theorem dX12_minutesBy_27 : decode cX12_minutesBy 27 = .ok (.bipush 10, 2) := by decide +kernel
theorem dX12_minutesBy_29 : decode cX12_minutesBy 29 = .ok (.if_icmp .ge 51, 3) := by decide +kernel
theorem dX12_minutesBy_32 : decode cX12_minutesBy 32 = .ok (.iload_n 1, 1) := by decide +kernel
theorem dX12_minutesBy_33 : decode cX12_minutesBy 33 = .ok (.iload 6, 2) := by decide +kernel
theorem dX12_minutesBy_35 : decode cX12_minutesBy 35 = .ok (.invokestatic 131, 3) := by decide +kernel
theorem dX12_minutesBy_38 : decode cX12_minutesBy 38 = .ok (.ifCond .eq 36, 3) := by decide +kernel
theorem dX12_minutesBy_41 : decode cX12_minutesBy 41 = .ok (.iload_n 3, 1) := by decide +kernel
theorem dX12_minutesBy_42 : decode cX12_minutesBy 42 = .ok (.iload 6, 2) := by decide +kernel
theorem dX12_minutesBy_44 : decode cX12_minutesBy 44 = .ok (.invokestatic 198, 3) := by decide +kernel
theorem dX12_minutesBy_47 : decode cX12_minutesBy 47 = .ok (.istore_n 3, 1) := by decide +kernel
theorem dX12_minutesBy_48 : decode cX12_minutesBy 48 = .ok (.iload 4, 2) := by decide +kernel
theorem dX12_minutesBy_50 : decode cX12_minutesBy 50 = .ok (.iload 6, 2) := by decide +kernel
theorem dX12_minutesBy_52 : decode cX12_minutesBy 52 = .ok (.invokestatic 201, 3) := by decide +kernel
theorem dX12_minutesBy_55 : decode cX12_minutesBy 55 = .ok (.istore 4, 2) := by decide +kernel
theorem dX12_minutesBy_57 : decode cX12_minutesBy 57 = .ok (.iload 5, 2) := by decide +kernel
theorem dX12_minutesBy_59 : decode cX12_minutesBy 59 = .ok (.aload_n 0, 1) := by decide +kernel
theorem dX12_minutesBy_60 : decode cX12_minutesBy 60 = .ok (.getfield 16, 3) := by decide +kernel
theorem dX12_minutesBy_63 : decode cX12_minutesBy 63 = .ok (.aload_n 0, 1) := by decide +kernel
theorem dX12_minutesBy_64 : decode cX12_minutesBy 64 = .ok (.getfield 7, 3) := by decide +kernel
theorem dX12_minutesBy_67 : decode cX12_minutesBy 67 = .ok (.iload 6, 2) := by decide +kernel
theorem dX12_minutesBy_69 : decode cX12_minutesBy 69 = .ok (.iaload, 1) := by decide +kernel
theorem dX12_minutesBy_70 : decode cX12_minutesBy 70 = .ok (.iaload, 1) := by decide +kernel
theorem dX12_minutesBy_71 : decode cX12_minutesBy 71 = .ok (.iadd, 1) := by decide +kernel
theorem dX12_minutesBy_72 : decode cX12_minutesBy 72 = .ok (.istore 5, 2) := by decide +kernel
theorem dX12_minutesBy_74 : decode cX12_minutesBy 74 = .ok (.iinc 6 1, 3) := by decide +kernel
theorem dX12_minutesBy_77 : decode cX12_minutesBy 77 = .ok (.goto (-52), 3) := by decide +kernel
theorem dX12_minutesBy_80 : decode cX12_minutesBy 80 = .ok (.aload_n 0, 1) := by decide +kernel
theorem dX12_minutesBy_81 : decode cX12_minutesBy 81 = .ok (.getfield 87, 3) := by decide +kernel
theorem dX12_minutesBy_84 : decode cX12_minutesBy 84 = .ok (.iload_n 3, 1) := by decide +kernel
theorem dX12_minutesBy_85 : decode cX12_minutesBy 85 = .ok (.isub, 1) := by decide +kernel
theorem dX12_minutesBy_86 : decode cX12_minutesBy 86 = .ok (.iload 4, 2) := by decide +kernel
theorem dX12_minutesBy_88 : decode cX12_minutesBy 88 = .ok (.iadd, 1) := by decide +kernel
theorem dX12_minutesBy_89 : decode cX12_minutesBy 89 = .ok (.iload_n 3, 1) := by decide +kernel
theorem dX12_minutesBy_90 : decode cX12_minutesBy 90 = .ok (.isub, 1) := by decide +kernel
theorem dX12_minutesBy_91 : decode cX12_minutesBy 91 = .ok (.iload 4, 2) := by decide +kernel
theorem dX12_minutesBy_93 : decode cX12_minutesBy 93 = .ok (.iadd, 1) := by decide +kernel
theorem dX12_minutesBy_94 : decode cX12_minutesBy 94 = .ok (.iload_n 2, 1) := by decide +kernel
theorem dX12_minutesBy_95 : decode cX12_minutesBy 95 = .ok (.isub, 1) := by decide +kernel
theorem dX12_minutesBy_96 : decode cX12_minutesBy 96 = .ok (.istore 6, 2) := by decide +kernel
theorem dX12_minutesBy_98 : decode cX12_minutesBy 98 = .ok (.iload 4, 2) := by decide +kernel
theorem dX12_minutesBy_100 : decode cX12_minutesBy 100 = .ok (.aload_n 0, 1) := by decide +kernel
theorem dX12_minutesBy_101 : decode cX12_minutesBy 101 = .ok (.getfield 87, 3) := by decide +kernel
theorem dX12_minutesBy_104 : decode cX12_minutesBy 104 = .ok (.isub, 1) := by decide +kernel
theorem dX12_minutesBy_105 : decode cX12_minutesBy 105 = .ok (.iload 4, 2) := by decide +kernel
theorem dX12_minutesBy_107 : decode cX12_minutesBy 107 = .ok (.iadd, 1) := by decide +kernel
theorem dX12_minutesBy_108 : decode cX12_minutesBy 108 = .ok (.iload_n 3, 1) := by decide +kernel
theorem dX12_minutesBy_109 : decode cX12_minutesBy 109 = .ok (.isub, 1) := by decide +kernel
theorem dX12_minutesBy_110 : decode cX12_minutesBy 110 = .ok (.iload_n 2, 1) := by decide +kernel
theorem dX12_minutesBy_111 : decode cX12_minutesBy 111 = .ok (.iadd, 1) := by decide +kernel
theorem dX12_minutesBy_112 : decode cX12_minutesBy 112 = .ok (.iload_n 3, 1) := by decide +kernel
theorem dX12_minutesBy_113 : decode cX12_minutesBy 113 = .ok (.isub, 1) := by decide +kernel
theorem dX12_minutesBy_114 : decode cX12_minutesBy 114 = .ok (.istore 7, 2) := by decide +kernel
theorem dX12_minutesBy_116 : decode cX12_minutesBy 116 = .ok (.iload 5, 2) := by decide +kernel
theorem dX12_minutesBy_118 : decode cX12_minutesBy 118 = .ok (.iload 6, 2) := by decide +kernel
theorem dX12_minutesBy_120 : decode cX12_minutesBy 120 = .ok (.iload 7, 2) := by decide +kernel
theorem dX12_minutesBy_122 : decode cX12_minutesBy 122 = .ok (.invokestatic 198, 3) := by decide +kernel
theorem dX12_minutesBy_125 : decode cX12_minutesBy 125 = .ok (.iadd, 1) := by decide +kernel
theorem dX12_minutesBy_126 : decode cX12_minutesBy 126 = .ok (.ireturn, 1) := by decide +kernel
theorem dX12_round_0 : decode cX12_round 0 = .ok (.iload_n 1, 1) := by decide +kernel
theorem dX12_round_1 : decode cX12_round 1 = .ok (.invokestatic 72, 3) := by decide +kernel
theorem dX12_round_4 : decode cX12_round 4 = .ok (.ifCond .ne 5, 3) := by decide +kernel
theorem dX12_round_7 : decode cX12_round 7 = .ok (.iconst (-1), 1) := by decide +kernel
theorem dX12_round_8 : decode cX12_round 8 = .ok (.ireturn, 1) := by decide +kernel
theorem dX12_round_9 : decode cX12_round 9 = .ok (.iload_n 2, 1) := by decide +kernel
theorem dX12_round_10 : decode cX12_round 10 = .ok (.i2l, 1) := by decide +kernel
theorem dX12_round_11 : decode cX12_round 11 = .ok (.lconst 0, 1) := by decide +kernel
theorem dX12_round_12 : decode cX12_round 12 = .ok (.lconst 1, 1) := by decide +kernel
theorem dX12_round_13 : decode cX12_round 13 = .ok (.invokestatic 66, 3) := by decide +kernel
theorem dX12_round_16 : decode cX12_round 16 = .ok (.ifCond .ne 6, 3) := by decide +kernel
theorem dX12_round_19 : decode cX12_round 19 = .ok (.bipush (-2), 2) := by decide +kernel
theorem dX12_round_21 : decode cX12_round 21 = .ok (.ireturn, 1) := by decide +kernel
theorem dX12_round_22 : decode cX12_round 22 = .ok (.bipush (-6), 2) := by decide +kernel
theorem dX12_round_24 : decode cX12_round 24 = .ok (.istore_n 3, 1) := by decide +kernel
theorem dX12_round_25 : decode cX12_round 25 = .ok (.iconst 0, 1) := by decide +kernel
theorem dX12_round_26 : decode cX12_round 26 = .ok (.istore 4, 2) := by decide +kernel
theorem dX12_round_28 : decode cX12_round 28 = .ok (.iload 4, 2) := by decide +kernel
theorem dX12_round_30 : decode cX12_round 30 = .ok (.sipush 1024, 3) := by decide +kernel
theorem dX12_round_33 : decode cX12_round 33 = .ok (.if_icmp .ge 63, 3) := by decide +kernel
theorem dX12_round_36 : decode cX12_round 36 = .ok (.iload_n 3, 1) := by decide +kernel
theorem dX12_round_37 : decode cX12_round 37 = .ok (.ifCond .lt 15, 3) := by decide +kernel
theorem dX12_round_40 : decode cX12_round 40 = .ok (.iload 4, 2) := by decide +kernel
theorem dX12_round_42 : decode cX12_round 42 = .ok (.invokestatic 204, 3) := by decide +kernel
theorem dX12_round_45 : decode cX12_round 45 = .ok (.iload_n 3, 1) := by decide +kernel
theorem dX12_round_46 : decode cX12_round 46 = .ok (.invokestatic 204, 3) := by decide +kernel
theorem dX12_round_49 : decode cX12_round 49 = .ok (.if_icmp .le 7, 3) := by decide +kernel
theorem dX12_round_52 : decode cX12_round 52 = .ok (.iconst 1, 1) := by decide +kernel
theorem dX12_round_53 : decode cX12_round 53 = .ok (.goto 4, 3) := by decide +kernel
theorem dX12_round_56 : decode cX12_round 56 = .ok (.iconst 0, 1) := by decide +kernel
theorem dX12_round_57 : decode cX12_round 57 = .ok (.istore 5, 2) := by decide +kernel
theorem dX12_round_59 : decode cX12_round 59 = .ok (.iload 5, 2) := by decide +kernel
theorem dX12_round_61 : decode cX12_round 61 = .ok (.ifCond .eq 27, 3) := by decide +kernel
theorem dX12_round_64 : decode cX12_round 64 = .ok (.aload_n 0, 1) := by decide +kernel
theorem dX12_round_65 : decode cX12_round 65 = .ok (.getfield 84, 3) := by decide +kernel
theorem dX12_round_68 : decode cX12_round 68 = .ok (.aload_n 0, 1) := by decide +kernel
theorem dX12_round_69 : decode cX12_round 69 = .ok (.iload 4, 2) := by decide +kernel
theorem dX12_round_71 : decode cX12_round 71 = .ok (.iload_n 1, 1) := by decide +kernel
theorem dX12_round_72 : decode cX12_round 72 = .ok (.invokevirtual 207, 3) := by decide +kernel
theorem dX12_round_75 : decode cX12_round 75 = .ok (.iadd, 1) := by decide +kernel
theorem dX12_round_76 : decode cX12_round 76 = .ok (.aload_n 0, 1) := by decide +kernel
theorem dX12_round_77 : decode cX12_round 77 = .ok (.getfield 60, 3) := by decide +kernel
theorem dX12_round_80 : decode cX12_round 80 = .ok (.if_icmp .gt 8, 3) := by decide +kernel
theorem dX12_round_83 : decode cX12_round 83 = .ok (.iload 4, 2) := by decide +kernel
theorem dX12_round_85 : decode cX12_round 85 = .ok (.goto 4, 3) := by decide +kernel
theorem dX12_round_88 : decode cX12_round 88 = .ok (.iload_n 3, 1) := by decide +kernel
theorem dX12_round_89 : decode cX12_round 89 = .ok (.istore_n 3, 1) := by decide +kernel
theorem dX12_round_90 : decode cX12_round 90 = .ok (.iinc 4 1, 3) := by decide +kernel
theorem dX12_round_93 : decode cX12_round 93 = .ok (.goto (-65), 3) := by decide +kernel
theorem dX12_round_96 : decode cX12_round 96 = .ok (.iload_n 3, 1) := by decide +kernel
theorem dX12_round_97 : decode cX12_round 97 = .ok (.ifCond .lt 8, 3) := by decide +kernel
theorem dX12_round_100 : decode cX12_round 100 = .ok (.iload_n 2, 1) := by decide +kernel
theorem dX12_round_101 : decode cX12_round 101 = .ok (.iconst 1, 1) := by decide +kernel
theorem dX12_round_102 : decode cX12_round 102 = .ok (.if_icmp .ne 7, 3) := by decide +kernel
theorem dX12_round_105 : decode cX12_round 105 = .ok (.iload_n 3, 1) := by decide +kernel
theorem dX12_round_106 : decode cX12_round 106 = .ok (.goto 7, 3) := by decide +kernel
theorem dX12_round_109 : decode cX12_round 109 = .ok (.iload_n 3, 1) := by decide +kernel
theorem dX12_round_110 : decode cX12_round 110 = .ok (.invokestatic 204, 3) := by decide +kernel
theorem dX12_round_113 : decode cX12_round 113 = .ok (.ireturn, 1) := by decide +kernel
theorem dX12_shownBy_0 : decode cX12_shownBy 0 = .ok (.aload_n 0, 1) := by decide +kernel
theorem dX12_shownBy_1 : decode cX12_shownBy 1 = .ok (.getfield 93, 3) := by decide +kernel
theorem dX12_shownBy_4 : decode cX12_shownBy 4 = .ok (.istore_n 2, 1) := by decide +kernel
theorem dX12_shownBy_5 : decode cX12_shownBy 5 = .ok (.iconst 0, 1) := by decide +kernel
theorem dX12_shownBy_6 : decode cX12_shownBy 6 = .ok (.istore_n 3, 1) := by decide +kernel
theorem dX12_shownBy_7 : decode cX12_shownBy 7 = .ok (.iload_n 3, 1) := by decide +kernel
theorem dX12_shownBy_8 : decode cX12_shownBy 8 = .ok (.bipush 10, 2) := by decide +kernel
theorem dX12_shownBy_10 : decode cX12_shownBy 10 = .ok (.if_icmp .ge 30, 3) := by decide +kernel
theorem dX12_shownBy_13 : decode cX12_shownBy 13 = .ok (.iload_n 2, 1) := by decide +kernel
theorem dX12_shownBy_14 : decode cX12_shownBy 14 = .ok (.iload_n 1, 1) := by decide +kernel
theorem dX12_shownBy_15 : decode cX12_shownBy 15 = .ok (.iload_n 3, 1) := by decide +kernel
theorem dX12_shownBy_16 : decode cX12_shownBy 16 = .ok (.invokestatic 131, 3) := by decide +kernel
theorem dX12_shownBy_19 : decode cX12_shownBy 19 = .ok (.ifCond .eq 12, 3) := by decide +kernel
theorem dX12_shownBy_22 : decode cX12_shownBy 22 = .ok (.aload_n 0, 1) := by decide +kernel
theorem dX12_shownBy_23 : decode cX12_shownBy 23 = .ok (.getfield 13, 3) := by decide +kernel
theorem dX12_shownBy_26 : decode cX12_shownBy 26 = .ok (.iload_n 3, 1) := by decide +kernel
theorem dX12_shownBy_27 : decode cX12_shownBy 27 = .ok (.iaload, 1) := by decide +kernel
theorem dX12_shownBy_28 : decode cX12_shownBy 28 = .ok (.goto 4, 3) := by decide +kernel
theorem dX12_shownBy_31 : decode cX12_shownBy 31 = .ok (.iconst 0, 1) := by decide +kernel
theorem dX12_shownBy_32 : decode cX12_shownBy 32 = .ok (.ior, 1) := by decide +kernel
theorem dX12_shownBy_33 : decode cX12_shownBy 33 = .ok (.istore_n 2, 1) := by decide +kernel
theorem dX12_shownBy_34 : decode cX12_shownBy 34 = .ok (.iinc 3 1, 3) := by decide +kernel
theorem dX12_shownBy_37 : decode cX12_shownBy 37 = .ok (.goto (-30), 3) := by decide +kernel
theorem dX12_shownBy_40 : decode cX12_shownBy 40 = .ok (.iload_n 2, 1) := by decide +kernel
theorem dX12_shownBy_41 : decode cX12_shownBy 41 = .ok (.ireturn, 1) := by decide +kernel
theorem dX12_show_0 : decode cX12_show 0 = .ok (.iload_n 1, 1) := by decide +kernel
theorem dX12_show_1 : decode cX12_show 1 = .ok (.i2l, 1) := by decide +kernel
theorem dX12_show_2 : decode cX12_show 2 = .ok (.lconst 0, 1) := by decide +kernel
theorem dX12_show_3 : decode cX12_show 3 = .ok (.ldc2_w 76, 3) := by decide +kernel
theorem dX12_show_6 : decode cX12_show 6 = .ok (.invokestatic 66, 3) := by decide +kernel
theorem dX12_show_9 : decode cX12_show 9 = .ok (.ifCond .eq 13, 3) := by decide +kernel
theorem dX12_show_12 : decode cX12_show 12 = .ok (.iload_n 2, 1) := by decide +kernel
theorem dX12_show_13 : decode cX12_show 13 = .ok (.i2l, 1) := by decide +kernel
theorem dX12_show_14 : decode cX12_show 14 = .ok (.lconst 0, 1) := by decide +kernel
theorem dX12_show_15 : decode cX12_show 15 = .ok (.lconst 1, 1) := by decide +kernel
theorem dX12_show_16 : decode cX12_show 16 = .ok (.invokestatic 66, 3) := by decide +kernel
theorem dX12_show_19 : decode cX12_show 19 = .ok (.ifCond .ne 6, 3) := by decide +kernel
theorem dX12_show_22 : decode cX12_show 22 = .ok (.bipush (-2), 2) := by decide +kernel
theorem dX12_show_24 : decode cX12_show 24 = .ok (.ireturn, 1) := by decide +kernel
theorem dX12_show_25 : decode cX12_show 25 = .ok (.bipush (-6), 2) := by decide +kernel
theorem dX12_show_27 : decode cX12_show 27 = .ok (.istore_n 3, 1) := by decide +kernel
theorem dX12_show_28 : decode cX12_show 28 = .ok (.iconst 0, 1) := by decide +kernel
theorem dX12_show_29 : decode cX12_show 29 = .ok (.istore 4, 2) := by decide +kernel
theorem dX12_show_31 : decode cX12_show 31 = .ok (.iload 4, 2) := by decide +kernel
theorem dX12_show_33 : decode cX12_show 33 = .ok (.sipush 1024, 3) := by decide +kernel
theorem dX12_show_36 : decode cX12_show 36 = .ok (.if_icmp .ge 57, 3) := by decide +kernel
theorem dX12_show_39 : decode cX12_show 39 = .ok (.iload_n 3, 1) := by decide +kernel
theorem dX12_show_40 : decode cX12_show 40 = .ok (.ifCond .lt 15, 3) := by decide +kernel
theorem dX12_show_43 : decode cX12_show 43 = .ok (.iload 4, 2) := by decide +kernel
theorem dX12_show_45 : decode cX12_show 45 = .ok (.invokestatic 204, 3) := by decide +kernel
theorem dX12_show_48 : decode cX12_show 48 = .ok (.iload_n 3, 1) := by decide +kernel
theorem dX12_show_49 : decode cX12_show 49 = .ok (.invokestatic 204, 3) := by decide +kernel
theorem dX12_show_52 : decode cX12_show 52 = .ok (.if_icmp .ge 7, 3) := by decide +kernel
theorem dX12_show_55 : decode cX12_show 55 = .ok (.iconst 1, 1) := by decide +kernel
theorem dX12_show_56 : decode cX12_show 56 = .ok (.goto 4, 3) := by decide +kernel
theorem dX12_show_59 : decode cX12_show 59 = .ok (.iconst 0, 1) := by decide +kernel
theorem dX12_show_60 : decode cX12_show 60 = .ok (.istore 5, 2) := by decide +kernel
theorem dX12_show_62 : decode cX12_show 62 = .ok (.iload 5, 2) := by decide +kernel
theorem dX12_show_64 : decode cX12_show 64 = .ok (.ifCond .eq 21, 3) := by decide +kernel
theorem dX12_show_67 : decode cX12_show 67 = .ok (.iload_n 1, 1) := by decide +kernel
theorem dX12_show_68 : decode cX12_show 68 = .ok (.aload_n 0, 1) := by decide +kernel
theorem dX12_show_69 : decode cX12_show 69 = .ok (.iload 4, 2) := by decide +kernel
theorem dX12_show_71 : decode cX12_show 71 = .ok (.invokevirtual 210, 3) := by decide +kernel
theorem dX12_show_74 : decode cX12_show 74 = .ok (.iconst (-1), 1) := by decide +kernel
theorem dX12_show_75 : decode cX12_show 75 = .ok (.ixor, 1) := by decide +kernel
theorem dX12_show_76 : decode cX12_show 76 = .ok (.iand, 1) := by decide +kernel
theorem dX12_show_77 : decode cX12_show 77 = .ok (.ifCond .ne 8, 3) := by decide +kernel
theorem dX12_show_80 : decode cX12_show 80 = .ok (.iload 4, 2) := by decide +kernel
theorem dX12_show_82 : decode cX12_show 82 = .ok (.goto 4, 3) := by decide +kernel
theorem dX12_show_85 : decode cX12_show 85 = .ok (.iload_n 3, 1) := by decide +kernel
theorem dX12_show_86 : decode cX12_show 86 = .ok (.istore_n 3, 1) := by decide +kernel
theorem dX12_show_87 : decode cX12_show 87 = .ok (.iinc 4 1, 3) := by decide +kernel
theorem dX12_show_90 : decode cX12_show 90 = .ok (.goto (-59), 3) := by decide +kernel
theorem dX12_show_93 : decode cX12_show 93 = .ok (.iload_n 3, 1) := by decide +kernel
theorem dX12_show_94 : decode cX12_show 94 = .ok (.ifCond .lt 8, 3) := by decide +kernel
theorem dX12_show_97 : decode cX12_show 97 = .ok (.iload_n 2, 1) := by decide +kernel
theorem dX12_show_98 : decode cX12_show 98 = .ok (.iconst 1, 1) := by decide +kernel
theorem dX12_show_99 : decode cX12_show 99 = .ok (.if_icmp .ne 7, 3) := by decide +kernel
theorem dX12_show_102 : decode cX12_show 102 = .ok (.iload_n 3, 1) := by decide +kernel
theorem dX12_show_103 : decode cX12_show 103 = .ok (.goto 7, 3) := by decide +kernel
theorem dX12_show_106 : decode cX12_show 106 = .ok (.iload_n 3, 1) := by decide +kernel
theorem dX12_show_107 : decode cX12_show 107 = .ok (.invokestatic 204, 3) := by decide +kernel
theorem dX12_show_110 : decode cX12_show 110 = .ok (.ireturn, 1) := by decide +kernel
theorem dX12_canOwn_0 : decode cX12_canOwn 0 = .ok (.iload_n 1, 1) := by decide +kernel
theorem dX12_canOwn_1 : decode cX12_canOwn 1 = .ok (.iload_n 2, 1) := by decide +kernel
theorem dX12_canOwn_2 : decode cX12_canOwn 2 = .ok (.invokestatic 131, 3) := by decide +kernel
theorem dX12_canOwn_5 : decode cX12_canOwn 5 = .ok (.ifCond .eq 29, 3) := by decide +kernel
theorem dX12_canOwn_8 : decode cX12_canOwn 8 = .ok (.aload_n 0, 1) := by decide +kernel
theorem dX12_canOwn_9 : decode cX12_canOwn 9 = .ok (.getfield 13, 3) := by decide +kernel
theorem dX12_canOwn_12 : decode cX12_canOwn 12 = .ok (.iload_n 3, 1) := by decide +kernel
theorem dX12_canOwn_13 : decode cX12_canOwn 13 = .ok (.iaload, 1) := by decide +kernel
theorem dX12_canOwn_14 : decode cX12_canOwn 14 = .ok (.iload_n 2, 1) := by decide +kernel
theorem dX12_canOwn_15 : decode cX12_canOwn 15 = .ok (.invokestatic 131, 3) := by decide +kernel
theorem dX12_canOwn_18 : decode cX12_canOwn 18 = .ok (.ifCond .eq 16, 3) := by decide +kernel
theorem dX12_canOwn_21 : decode cX12_canOwn 21 = .ok (.iload 4, 2) := by decide +kernel
theorem dX12_canOwn_23 : decode cX12_canOwn 23 = .ok (.iload_n 3, 1) := by decide +kernel
theorem dX12_canOwn_24 : decode cX12_canOwn 24 = .ok (.invokestatic 131, 3) := by decide +kernel
theorem dX12_canOwn_27 : decode cX12_canOwn 27 = .ok (.ifCond .ne 7, 3) := by decide +kernel
theorem dX12_canOwn_30 : decode cX12_canOwn 30 = .ok (.iconst 1, 1) := by decide +kernel
theorem dX12_canOwn_31 : decode cX12_canOwn 31 = .ok (.goto 4, 3) := by decide +kernel
theorem dX12_canOwn_34 : decode cX12_canOwn 34 = .ok (.iconst 0, 1) := by decide +kernel
theorem dX12_canOwn_35 : decode cX12_canOwn 35 = .ok (.ireturn, 1) := by decide +kernel
end
section
theorem dX12_mostFrom_0 : decode cX12_mostFrom 0 = .ok (.aload_n 0, 1) := by decide +kernel
theorem dX12_mostFrom_1 : decode cX12_mostFrom 1 = .ok (.getfield 37, 3) := by decide +kernel
theorem dX12_mostFrom_4 : decode cX12_mostFrom 4 = .ok (.sipush 1024, 3) := by decide +kernel
theorem dX12_mostFrom_7 : decode cX12_mostFrom 7 = .ok (.iload_n 2, 1) := by decide +kernel
theorem dX12_mostFrom_8 : decode cX12_mostFrom 8 = .ok (.iconst 1, 1) := by decide +kernel
theorem dX12_mostFrom_9 : decode cX12_mostFrom 9 = .ok (.iadd, 1) := by decide +kernel
theorem dX12_mostFrom_10 : decode cX12_mostFrom 10 = .ok (.imul, 1) := by decide +kernel
theorem dX12_mostFrom_11 : decode cX12_mostFrom 11 = .ok (.iload_n 3, 1) := by decide +kernel
theorem dX12_mostFrom_12 : decode cX12_mostFrom 12 = .ok (.iadd, 1) := by decide +kernel
theorem dX12_mostFrom_13 : decode cX12_mostFrom 13 = .ok (.iaload, 1) := by decide +kernel
theorem dX12_mostFrom_14 : decode cX12_mostFrom 14 = .ok (.istore 4, 2) := by decide +kernel
theorem dX12_mostFrom_16 : decode cX12_mostFrom 16 = .ok (.iconst 0, 1) := by decide +kernel
theorem dX12_mostFrom_17 : decode cX12_mostFrom 17 = .ok (.istore 5, 2) := by decide +kernel
theorem dX12_mostFrom_19 : decode cX12_mostFrom 19 = .ok (.iload 5, 2) := by decide +kernel
theorem dX12_mostFrom_21 : decode cX12_mostFrom 21 = .ok (.bipush 10, 2) := by decide +kernel
theorem dX12_mostFrom_23 : decode cX12_mostFrom 23 = .ok (.if_icmp .ge 57, 3) := by decide +kernel
theorem dX12_mostFrom_26 : decode cX12_mostFrom 26 = .ok (.aload_n 0, 1) := by decide +kernel
theorem dX12_mostFrom_27 : decode cX12_mostFrom 27 = .ok (.iload_n 1, 1) := by decide +kernel
theorem dX12_mostFrom_28 : decode cX12_mostFrom 28 = .ok (.iload_n 2, 1) := by decide +kernel
theorem dX12_mostFrom_29 : decode cX12_mostFrom 29 = .ok (.iload 5, 2) := by decide +kernel
theorem dX12_mostFrom_31 : decode cX12_mostFrom 31 = .ok (.iload_n 3, 1) := by decide +kernel
theorem dX12_mostFrom_32 : decode cX12_mostFrom 32 = .ok (.invokevirtual 213, 3) := by decide +kernel
theorem dX12_mostFrom_35 : decode cX12_mostFrom 35 = .ok (.ifCond .eq 27, 3) := by decide +kernel
theorem dX12_mostFrom_38 : decode cX12_mostFrom 38 = .ok (.aload_n 0, 1) := by decide +kernel
theorem dX12_mostFrom_39 : decode cX12_mostFrom 39 = .ok (.getfield 37, 3) := by decide +kernel
theorem dX12_mostFrom_42 : decode cX12_mostFrom 42 = .ok (.sipush 1024, 3) := by decide +kernel
theorem dX12_mostFrom_45 : decode cX12_mostFrom 45 = .ok (.iload_n 2, 1) := by decide +kernel
theorem dX12_mostFrom_46 : decode cX12_mostFrom 46 = .ok (.iconst 1, 1) := by decide +kernel
theorem dX12_mostFrom_47 : decode cX12_mostFrom 47 = .ok (.iadd, 1) := by decide +kernel
theorem dX12_mostFrom_48 : decode cX12_mostFrom 48 = .ok (.imul, 1) := by decide +kernel
theorem dX12_mostFrom_49 : decode cX12_mostFrom 49 = .ok (.iload_n 3, 1) := by decide +kernel
theorem dX12_mostFrom_50 : decode cX12_mostFrom 50 = .ok (.iconst 1, 1) := by decide +kernel
theorem dX12_mostFrom_51 : decode cX12_mostFrom 51 = .ok (.iload 5, 2) := by decide +kernel
theorem dX12_mostFrom_53 : decode cX12_mostFrom 53 = .ok (.ishl, 1) := by decide +kernel
theorem dX12_mostFrom_54 : decode cX12_mostFrom 54 = .ok (.ior, 1) := by decide +kernel
theorem dX12_mostFrom_55 : decode cX12_mostFrom 55 = .ok (.iadd, 1) := by decide +kernel
theorem dX12_mostFrom_56 : decode cX12_mostFrom 56 = .ok (.iaload, 1) := by decide +kernel
theorem dX12_mostFrom_57 : decode cX12_mostFrom 57 = .ok (.iconst 1, 1) := by decide +kernel
theorem dX12_mostFrom_58 : decode cX12_mostFrom 58 = .ok (.iadd, 1) := by decide +kernel
theorem dX12_mostFrom_59 : decode cX12_mostFrom 59 = .ok (.goto 4, 3) := by decide +kernel
theorem dX12_mostFrom_62 : decode cX12_mostFrom 62 = .ok (.iconst 0, 1) := by decide +kernel
theorem dX12_mostFrom_63 : decode cX12_mostFrom 63 = .ok (.istore 6, 2) := by decide +kernel
theorem dX12_mostFrom_65 : decode cX12_mostFrom 65 = .ok (.iload 4, 2) := by decide +kernel
theorem dX12_mostFrom_67 : decode cX12_mostFrom 67 = .ok (.iload 6, 2) := by decide +kernel
theorem dX12_mostFrom_69 : decode cX12_mostFrom 69 = .ok (.invokestatic 201, 3) := by decide +kernel
theorem dX12_mostFrom_72 : decode cX12_mostFrom 72 = .ok (.istore 4, 2) := by decide +kernel
theorem dX12_mostFrom_74 : decode cX12_mostFrom 74 = .ok (.iinc 5 1, 3) := by decide +kernel
theorem dX12_mostFrom_77 : decode cX12_mostFrom 77 = .ok (.goto (-58), 3) := by decide +kernel
theorem dX12_mostFrom_80 : decode cX12_mostFrom 80 = .ok (.iload 4, 2) := by decide +kernel
theorem dX12_mostFrom_82 : decode cX12_mostFrom 82 = .ok (.ireturn, 1) := by decide +kernel
theorem dX12_ownerOf_0 : decode cX12_ownerOf 0 = .ok (.bipush (-6), 2) := by decide +kernel
theorem dX12_ownerOf_2 : decode cX12_ownerOf 2 = .ok (.istore 4, 2) := by decide +kernel
theorem dX12_ownerOf_4 : decode cX12_ownerOf 4 = .ok (.bipush 9, 2) := by decide +kernel
theorem dX12_ownerOf_6 : decode cX12_ownerOf 6 = .ok (.istore 5, 2) := by decide +kernel
theorem dX12_ownerOf_8 : decode cX12_ownerOf 8 = .ok (.iload 5, 2) := by decide +kernel
theorem dX12_ownerOf_10 : decode cX12_ownerOf 10 = .ok (.ifCond .lt 82, 3) := by decide +kernel
theorem dX12_ownerOf_13 : decode cX12_ownerOf 13 = .ok (.aload_n 0, 1) := by decide +kernel
theorem dX12_ownerOf_14 : decode cX12_ownerOf 14 = .ok (.iload_n 1, 1) := by decide +kernel
theorem dX12_ownerOf_15 : decode cX12_ownerOf 15 = .ok (.iload_n 2, 1) := by decide +kernel
theorem dX12_ownerOf_16 : decode cX12_ownerOf 16 = .ok (.iload 5, 2) := by decide +kernel
theorem dX12_ownerOf_18 : decode cX12_ownerOf 18 = .ok (.iload_n 3, 1) := by decide +kernel
theorem dX12_ownerOf_19 : decode cX12_ownerOf 19 = .ok (.invokevirtual 213, 3) := by decide +kernel
theorem dX12_ownerOf_22 : decode cX12_ownerOf 22 = .ok (.istore 6, 2) := by decide +kernel
theorem dX12_ownerOf_24 : decode cX12_ownerOf 24 = .ok (.iload 6, 2) := by decide +kernel
theorem dX12_ownerOf_26 : decode cX12_ownerOf 26 = .ok (.ifCond .eq 43, 3) := by decide +kernel
theorem dX12_ownerOf_29 : decode cX12_ownerOf 29 = .ok (.aload_n 0, 1) := by decide +kernel
theorem dX12_ownerOf_30 : decode cX12_ownerOf 30 = .ok (.getfield 37, 3) := by decide +kernel
theorem dX12_ownerOf_33 : decode cX12_ownerOf 33 = .ok (.sipush 1024, 3) := by decide +kernel
theorem dX12_ownerOf_36 : decode cX12_ownerOf 36 = .ok (.iload_n 2, 1) := by decide +kernel
theorem dX12_ownerOf_37 : decode cX12_ownerOf 37 = .ok (.iconst 1, 1) := by decide +kernel
theorem dX12_ownerOf_38 : decode cX12_ownerOf 38 = .ok (.iadd, 1) := by decide +kernel
theorem dX12_ownerOf_39 : decode cX12_ownerOf 39 = .ok (.imul, 1) := by decide +kernel
theorem dX12_ownerOf_40 : decode cX12_ownerOf 40 = .ok (.iload_n 3, 1) := by decide +kernel
theorem dX12_ownerOf_41 : decode cX12_ownerOf 41 = .ok (.iconst 1, 1) := by decide +kernel
theorem dX12_ownerOf_42 : decode cX12_ownerOf 42 = .ok (.iload 5, 2) := by decide +kernel
theorem dX12_ownerOf_44 : decode cX12_ownerOf 44 = .ok (.ishl, 1) := by decide +kernel
theorem dX12_ownerOf_45 : decode cX12_ownerOf 45 = .ok (.ior, 1) := by decide +kernel
theorem dX12_ownerOf_46 : decode cX12_ownerOf 46 = .ok (.iadd, 1) := by decide +kernel
theorem dX12_ownerOf_47 : decode cX12_ownerOf 47 = .ok (.iaload, 1) := by decide +kernel
theorem dX12_ownerOf_48 : decode cX12_ownerOf 48 = .ok (.iconst 1, 1) := by decide +kernel
theorem dX12_ownerOf_49 : decode cX12_ownerOf 49 = .ok (.iadd, 1) := by decide +kernel
theorem dX12_ownerOf_50 : decode cX12_ownerOf 50 = .ok (.aload_n 0, 1) := by decide +kernel
theorem dX12_ownerOf_51 : decode cX12_ownerOf 51 = .ok (.getfield 37, 3) := by decide +kernel
theorem dX12_ownerOf_54 : decode cX12_ownerOf 54 = .ok (.sipush 1024, 3) := by decide +kernel
theorem dX12_ownerOf_57 : decode cX12_ownerOf 57 = .ok (.iload_n 2, 1) := by decide +kernel
theorem dX12_ownerOf_58 : decode cX12_ownerOf 58 = .ok (.imul, 1) := by decide +kernel
theorem dX12_ownerOf_59 : decode cX12_ownerOf 59 = .ok (.iload_n 3, 1) := by decide +kernel
theorem dX12_ownerOf_60 : decode cX12_ownerOf 60 = .ok (.iadd, 1) := by decide +kernel
theorem dX12_ownerOf_61 : decode cX12_ownerOf 61 = .ok (.iaload, 1) := by decide +kernel
theorem dX12_ownerOf_62 : decode cX12_ownerOf 62 = .ok (.if_icmp .ne 7, 3) := by decide +kernel
theorem dX12_ownerOf_65 : decode cX12_ownerOf 65 = .ok (.iconst 1, 1) := by decide +kernel
theorem dX12_ownerOf_66 : decode cX12_ownerOf 66 = .ok (.goto 4, 3) := by decide +kernel
theorem dX12_ownerOf_69 : decode cX12_ownerOf 69 = .ok (.iconst 0, 1) := by decide +kernel
theorem dX12_ownerOf_70 : decode cX12_ownerOf 70 = .ok (.istore 7, 2) := by decide +kernel
theorem dX12_ownerOf_72 : decode cX12_ownerOf 72 = .ok (.iload 7, 2) := by decide +kernel
theorem dX12_ownerOf_74 : decode cX12_ownerOf 74 = .ok (.ifCond .eq 8, 3) := by decide +kernel
theorem dX12_ownerOf_77 : decode cX12_ownerOf 77 = .ok (.iload 5, 2) := by decide +kernel
theorem dX12_ownerOf_79 : decode cX12_ownerOf 79 = .ok (.goto 5, 3) := by decide +kernel
theorem dX12_ownerOf_82 : decode cX12_ownerOf 82 = .ok (.iload 4, 2) := by decide +kernel
theorem dX12_ownerOf_84 : decode cX12_ownerOf 84 = .ok (.istore 4, 2) := by decide +kernel
theorem dX12_ownerOf_86 : decode cX12_ownerOf 86 = .ok (.iinc 5 (-1), 3) := by decide +kernel
theorem dX12_ownerOf_89 : decode cX12_ownerOf 89 = .ok (.goto (-81), 3) := by decide +kernel
theorem dX12_ownerOf_92 : decode cX12_ownerOf 92 = .ok (.iload 4, 2) := by decide +kernel
theorem dX12_ownerOf_94 : decode cX12_ownerOf 94 = .ok (.ireturn, 1) := by decide +kernel
theorem dX12_owners_0 : decode cX12_owners 0 = .ok (.iload_n 2, 1) := by decide +kernel
theorem dX12_owners_1 : decode cX12_owners 1 = .ok (.i2l, 1) := by decide +kernel
theorem dX12_owners_2 : decode cX12_owners 2 = .ok (.ldc2_w 217, 3) := by decide +kernel
theorem dX12_owners_5 : decode cX12_owners 5 = .ok (.ldc2_w 70, 3) := by decide +kernel
theorem dX12_owners_8 : decode cX12_owners 8 = .ok (.invokestatic 66, 3) := by decide +kernel
theorem dX12_owners_11 : decode cX12_owners 11 = .ok (.ifCond .ne 5, 3) := by decide +kernel
theorem dX12_owners_14 : decode cX12_owners 14 = .ok (.iconst (-1), 1) := by decide +kernel
theorem dX12_owners_15 : decode cX12_owners 15 = .ok (.ireturn, 1) := by decide +kernel
theorem dX12_owners_16 : decode cX12_owners 16 = .ok (.iload_n 1, 1) := by decide +kernel
theorem dX12_owners_17 : decode cX12_owners 17 = .ok (.i2l, 1) := by decide +kernel
theorem dX12_owners_18 : decode cX12_owners 18 = .ok (.lconst 0, 1) := by decide +kernel
theorem dX12_owners_19 : decode cX12_owners 19 = .ok (.ldc2_w 76, 3) := by decide +kernel
theorem dX12_owners_22 : decode cX12_owners 22 = .ok (.invokestatic 66, 3) := by decide +kernel
theorem dX12_owners_25 : decode cX12_owners 25 = .ok (.ifCond .ne 6, 3) := by decide +kernel
theorem dX12_owners_28 : decode cX12_owners 28 = .ok (.bipush (-2), 2) := by decide +kernel
theorem dX12_owners_30 : decode cX12_owners 30 = .ok (.ireturn, 1) := by decide +kernel
theorem dX12_owners_31 : decode cX12_owners 31 = .ok (.iconst 0, 1) := by decide +kernel
theorem dX12_owners_32 : decode cX12_owners 32 = .ok (.istore_n 3, 1) := by decide +kernel
theorem dX12_owners_33 : decode cX12_owners 33 = .ok (.iload_n 3, 1) := by decide +kernel
theorem dX12_owners_34 : decode cX12_owners 34 = .ok (.sipush 1024, 3) := by decide +kernel
theorem dX12_owners_37 : decode cX12_owners 37 = .ok (.if_icmp .ge 20, 3) := by decide +kernel
theorem dX12_owners_40 : decode cX12_owners 40 = .ok (.aload_n 0, 1) := by decide +kernel
theorem dX12_owners_41 : decode cX12_owners 41 = .ok (.getfield 37, 3) := by decide +kernel
theorem dX12_owners_44 : decode cX12_owners 44 = .ok (.sipush 8192, 3) := by decide +kernel
theorem dX12_owners_47 : decode cX12_owners 47 = .ok (.iload_n 3, 1) := by decide +kernel
theorem dX12_owners_48 : decode cX12_owners 48 = .ok (.iadd, 1) := by decide +kernel
theorem dX12_owners_49 : decode cX12_owners 49 = .ok (.iconst 0, 1) := by decide +kernel
theorem dX12_owners_50 : decode cX12_owners 50 = .ok (.iastore, 1) := by decide +kernel
theorem dX12_owners_51 : decode cX12_owners 51 = .ok (.iinc 3 1, 3) := by decide +kernel
theorem dX12_owners_54 : decode cX12_owners 54 = .ok (.goto (-21), 3) := by decide +kernel
theorem dX12_owners_57 : decode cX12_owners 57 = .ok (.bipush 7, 2) := by decide +kernel
theorem dX12_owners_59 : decode cX12_owners 59 = .ok (.istore_n 3, 1) := by decide +kernel
theorem dX12_owners_60 : decode cX12_owners 60 = .ok (.iload_n 3, 1) := by decide +kernel
theorem dX12_owners_61 : decode cX12_owners 61 = .ok (.ifCond .lt 47, 3) := by decide +kernel
theorem dX12_owners_64 : decode cX12_owners 64 = .ok (.iconst 0, 1) := by decide +kernel
theorem dX12_owners_65 : decode cX12_owners 65 = .ok (.istore 4, 2) := by decide +kernel
theorem dX12_owners_67 : decode cX12_owners 67 = .ok (.iload 4, 2) := by decide +kernel
theorem dX12_owners_69 : decode cX12_owners 69 = .ok (.sipush 1024, 3) := by decide +kernel
theorem dX12_owners_72 : decode cX12_owners 72 = .ok (.if_icmp .ge 30, 3) := by decide +kernel
theorem dX12_owners_75 : decode cX12_owners 75 = .ok (.aload_n 0, 1) := by decide +kernel
theorem dX12_owners_76 : decode cX12_owners 76 = .ok (.getfield 37, 3) := by decide +kernel
theorem dX12_owners_79 : decode cX12_owners 79 = .ok (.sipush 1024, 3) := by decide +kernel
theorem dX12_owners_82 : decode cX12_owners 82 = .ok (.iload_n 3, 1) := by decide +kernel
theorem dX12_owners_83 : decode cX12_owners 83 = .ok (.imul, 1) := by decide +kernel
theorem dX12_owners_84 : decode cX12_owners 84 = .ok (.iload 4, 2) := by decide +kernel
theorem dX12_owners_86 : decode cX12_owners 86 = .ok (.iadd, 1) := by decide +kernel
theorem dX12_owners_87 : decode cX12_owners 87 = .ok (.aload_n 0, 1) := by decide +kernel
theorem dX12_owners_88 : decode cX12_owners 88 = .ok (.iload_n 1, 1) := by decide +kernel
theorem dX12_owners_89 : decode cX12_owners 89 = .ok (.iload_n 3, 1) := by decide +kernel
theorem dX12_owners_90 : decode cX12_owners 90 = .ok (.iload 4, 2) := by decide +kernel
theorem dX12_owners_92 : decode cX12_owners 92 = .ok (.invokevirtual 219, 3) := by decide +kernel
theorem dX12_owners_95 : decode cX12_owners 95 = .ok (.iastore, 1) := by decide +kernel
theorem dX12_owners_96 : decode cX12_owners 96 = .ok (.iinc 4 1, 3) := by decide +kernel
theorem dX12_owners_99 : decode cX12_owners 99 = .ok (.goto (-32), 3) := by decide +kernel
theorem dX12_owners_102 : decode cX12_owners 102 = .ok (.iinc 3 (-1), 3) := by decide +kernel
theorem dX12_owners_105 : decode cX12_owners 105 = .ok (.goto (-45), 3) := by decide +kernel
theorem dX12_owners_108 : decode cX12_owners 108 = .ok (.iload_n 2, 1) := by decide +kernel
theorem dX12_owners_109 : decode cX12_owners 109 = .ok (.ifCond .ge 10, 3) := by decide +kernel
theorem dX12_owners_112 : decode cX12_owners 112 = .ok (.aload_n 0, 1) := by decide +kernel
theorem dX12_owners_113 : decode cX12_owners 113 = .ok (.getfield 37, 3) := by decide +kernel
theorem dX12_owners_116 : decode cX12_owners 116 = .ok (.iconst 0, 1) := by decide +kernel
theorem dX12_owners_117 : decode cX12_owners 117 = .ok (.iaload, 1) := by decide +kernel
theorem dX12_owners_118 : decode cX12_owners 118 = .ok (.ireturn, 1) := by decide +kernel
theorem dX12_owners_119 : decode cX12_owners 119 = .ok (.iconst 0, 1) := by decide +kernel
theorem dX12_owners_120 : decode cX12_owners 120 = .ok (.istore_n 3, 1) := by decide +kernel
theorem dX12_owners_121 : decode cX12_owners 121 = .ok (.iconst 0, 1) := by decide +kernel
theorem dX12_owners_122 : decode cX12_owners 122 = .ok (.istore 4, 2) := by decide +kernel
theorem dX12_owners_124 : decode cX12_owners 124 = .ok (.iload 4, 2) := by decide +kernel
theorem dX12_owners_126 : decode cX12_owners 126 = .ok (.iload_n 2, 1) := by decide +kernel
theorem dX12_owners_127 : decode cX12_owners 127 = .ok (.if_icmp .ge 35, 3) := by decide +kernel
theorem dX12_owners_130 : decode cX12_owners 130 = .ok (.aload_n 0, 1) := by decide +kernel
theorem dX12_owners_131 : decode cX12_owners 131 = .ok (.iload_n 1, 1) := by decide +kernel
theorem dX12_owners_132 : decode cX12_owners 132 = .ok (.iload 4, 2) := by decide +kernel
theorem dX12_owners_134 : decode cX12_owners 134 = .ok (.iload_n 3, 1) := by decide +kernel
theorem dX12_owners_135 : decode cX12_owners 135 = .ok (.invokevirtual 223, 3) := by decide +kernel
theorem dX12_owners_138 : decode cX12_owners 138 = .ok (.istore 5, 2) := by decide +kernel
theorem dX12_owners_140 : decode cX12_owners 140 = .ok (.iload_n 3, 1) := by decide +kernel
theorem dX12_owners_141 : decode cX12_owners 141 = .ok (.iload 5, 2) := by decide +kernel
theorem dX12_owners_143 : decode cX12_owners 143 = .ok (.ifCond .ge 7, 3) := by decide +kernel
theorem dX12_owners_146 : decode cX12_owners 146 = .ok (.iconst 0, 1) := by decide +kernel
theorem dX12_owners_147 : decode cX12_owners 147 = .ok (.goto 7, 3) := by decide +kernel
theorem dX12_owners_150 : decode cX12_owners 150 = .ok (.iconst 1, 1) := by decide +kernel
theorem dX12_owners_151 : decode cX12_owners 151 = .ok (.iload 5, 2) := by decide +kernel
theorem dX12_owners_153 : decode cX12_owners 153 = .ok (.ishl, 1) := by decide +kernel
theorem dX12_owners_154 : decode cX12_owners 154 = .ok (.ior, 1) := by decide +kernel
theorem dX12_owners_155 : decode cX12_owners 155 = .ok (.istore_n 3, 1) := by decide +kernel
theorem dX12_owners_156 : decode cX12_owners 156 = .ok (.iinc 4 1, 3) := by decide +kernel
theorem dX12_owners_159 : decode cX12_owners 159 = .ok (.goto (-35), 3) := by decide +kernel
theorem dX12_owners_162 : decode cX12_owners 162 = .ok (.aload_n 0, 1) := by decide +kernel
theorem dX12_owners_163 : decode cX12_owners 163 = .ok (.iload_n 1, 1) := by decide +kernel
theorem dX12_owners_164 : decode cX12_owners 164 = .ok (.iload_n 2, 1) := by decide +kernel
theorem dX12_owners_165 : decode cX12_owners 165 = .ok (.iload_n 3, 1) := by decide +kernel
theorem dX12_owners_166 : decode cX12_owners 166 = .ok (.invokevirtual 223, 3) := by decide +kernel
theorem dX12_owners_169 : decode cX12_owners 169 = .ok (.ireturn, 1) := by decide +kernel
theorem dX12_readHooks_0 : decode cX12_readHooks 0 = .ok (.iload_n 1, 1) := by decide +kernel
theorem dX12_readHooks_1 : decode cX12_readHooks 1 = .ok (.istore_n 2, 1) := by decide +kernel
theorem dX12_readHooks_2 : decode cX12_readHooks 2 = .ok (.iconst 0, 1) := by decide +kernel
theorem dX12_readHooks_3 : decode cX12_readHooks 3 = .ok (.istore_n 3, 1) := by decide +kernel
theorem dX12_readHooks_4 : decode cX12_readHooks 4 = .ok (.iconst 5, 1) := by decide +kernel
theorem dX12_readHooks_5 : decode cX12_readHooks 5 = .ok (.istore 4, 2) := by decide +kernel
theorem dX12_readHooks_7 : decode cX12_readHooks 7 = .ok (.iload 4, 2) := by decide +kernel
theorem dX12_readHooks_9 : decode cX12_readHooks 9 = .ok (.ifCond .lt 37, 3) := by decide +kernel
theorem dX12_readHooks_12 : decode cX12_readHooks 12 = .ok (.aload_n 0, 1) := by decide +kernel
theorem dX12_readHooks_13 : decode cX12_readHooks 13 = .ok (.getfield 40, 3) := by decide +kernel
theorem dX12_readHooks_16 : decode cX12_readHooks 16 = .ok (.iload 4, 2) := by decide +kernel
theorem dX12_readHooks_18 : decode cX12_readHooks 18 = .ok (.iload_n 2, 1) := by decide +kernel
theorem dX12_readHooks_19 : decode cX12_readHooks 19 = .ok (.bipush 10, 2) := by decide +kernel
theorem dX12_readHooks_21 : decode cX12_readHooks 21 = .ok (.irem, 1) := by decide +kernel
theorem dX12_readHooks_22 : decode cX12_readHooks 22 = .ok (.iastore, 1) := by decide +kernel
theorem dX12_readHooks_23 : decode cX12_readHooks 23 = .ok (.iload_n 3, 1) := by decide +kernel
theorem dX12_readHooks_24 : decode cX12_readHooks 24 = .ok (.iconst 1, 1) := by decide +kernel
theorem dX12_readHooks_25 : decode cX12_readHooks 25 = .ok (.aload_n 0, 1) := by decide +kernel
theorem dX12_readHooks_26 : decode cX12_readHooks 26 = .ok (.getfield 40, 3) := by decide +kernel
theorem dX12_readHooks_29 : decode cX12_readHooks 29 = .ok (.iload 4, 2) := by decide +kernel
theorem dX12_readHooks_31 : decode cX12_readHooks 31 = .ok (.iaload, 1) := by decide +kernel
theorem dX12_readHooks_32 : decode cX12_readHooks 32 = .ok (.ishl, 1) := by decide +kernel
theorem dX12_readHooks_33 : decode cX12_readHooks 33 = .ok (.ior, 1) := by decide +kernel
theorem dX12_readHooks_34 : decode cX12_readHooks 34 = .ok (.istore_n 3, 1) := by decide +kernel
theorem dX12_readHooks_35 : decode cX12_readHooks 35 = .ok (.iload_n 2, 1) := by decide +kernel
theorem dX12_readHooks_36 : decode cX12_readHooks 36 = .ok (.bipush 10, 2) := by decide +kernel
theorem dX12_readHooks_38 : decode cX12_readHooks 38 = .ok (.idiv, 1) := by decide +kernel
theorem dX12_readHooks_39 : decode cX12_readHooks 39 = .ok (.istore_n 2, 1) := by decide +kernel
theorem dX12_readHooks_40 : decode cX12_readHooks 40 = .ok (.iinc 4 (-1), 3) := by decide +kernel
theorem dX12_readHooks_43 : decode cX12_readHooks 43 = .ok (.goto (-36), 3) := by decide +kernel
theorem dX12_readHooks_46 : decode cX12_readHooks 46 = .ok (.iload_n 2, 1) := by decide +kernel
theorem dX12_readHooks_47 : decode cX12_readHooks 47 = .ok (.ifCond .ne 13, 3) := by decide +kernel
theorem dX12_readHooks_50 : decode cX12_readHooks 50 = .ok (.iload_n 3, 1) := by decide +kernel
theorem dX12_readHooks_51 : decode cX12_readHooks 51 = .ok (.bipush 63, 2) := by decide +kernel
theorem dX12_readHooks_53 : decode cX12_readHooks 53 = .ok (.if_icmp .ne 7, 3) := by decide +kernel
theorem dX12_readHooks_56 : decode cX12_readHooks 56 = .ok (.iconst 1, 1) := by decide +kernel
theorem dX12_readHooks_57 : decode cX12_readHooks 57 = .ok (.goto 4, 3) := by decide +kernel
theorem dX12_readHooks_60 : decode cX12_readHooks 60 = .ok (.iconst 0, 1) := by decide +kernel
theorem dX12_readHooks_61 : decode cX12_readHooks 61 = .ok (.ireturn, 1) := by decide +kernel
theorem dX12_common_0 : decode cX12_common 0 = .ok (.iload_n 0, 1) := by decide +kernel
theorem dX12_common_1 : decode cX12_common 1 = .ok (.istore_n 2, 1) := by decide +kernel
theorem dX12_common_2 : decode cX12_common 2 = .ok (.iload_n 1, 1) := by decide +kernel
theorem dX12_common_3 : decode cX12_common 3 = .ok (.istore_n 3, 1) := by decide +kernel
theorem dX12_common_4 : decode cX12_common 4 = .ok (.iload_n 3, 1) := by decide +kernel
theorem dX12_common_5 : decode cX12_common 5 = .ok (.ifCond .eq 16, 3) := by decide +kernel
theorem dX12_common_8 : decode cX12_common 8 = .ok (.iload_n 2, 1) := by decide +kernel
theorem dX12_common_9 : decode cX12_common 9 = .ok (.iload_n 3, 1) := by decide +kernel
theorem dX12_common_10 : decode cX12_common 10 = .ok (.irem, 1) := by decide +kernel
theorem dX12_common_11 : decode cX12_common 11 = .ok (.istore 4, 2) := by decide +kernel
theorem dX12_common_13 : decode cX12_common 13 = .ok (.iload_n 3, 1) := by decide +kernel
theorem dX12_common_14 : decode cX12_common 14 = .ok (.istore_n 2, 1) := by decide +kernel
theorem dX12_common_15 : decode cX12_common 15 = .ok (.iload 4, 2) := by decide +kernel
theorem dX12_common_17 : decode cX12_common 17 = .ok (.istore_n 3, 1) := by decide +kernel
theorem dX12_common_18 : decode cX12_common 18 = .ok (.goto (-14), 3) := by decide +kernel
theorem dX12_common_21 : decode cX12_common 21 = .ok (.iload_n 2, 1) := by decide +kernel
theorem dX12_common_22 : decode cX12_common 22 = .ok (.ireturn, 1) := by decide +kernel
theorem dX12_towels_0 : decode cX12_towels 0 = .ok (.iload_n 1, 1) := by decide +kernel
theorem dX12_towels_1 : decode cX12_towels 1 = .ok (.i2l, 1) := by decide +kernel
theorem dX12_towels_2 : decode cX12_towels 2 = .ok (.lconst 0, 1) := by decide +kernel
theorem dX12_towels_3 : decode cX12_towels 3 = .ok (.ldc2_w 226, 3) := by decide +kernel
theorem dX12_towels_6 : decode cX12_towels 6 = .ok (.invokestatic 66, 3) := by decide +kernel
theorem dX12_towels_9 : decode cX12_towels 9 = .ok (.ifCond .eq 21, 3) := by decide +kernel
theorem dX12_towels_12 : decode cX12_towels 12 = .ok (.aload_n 0, 1) := by decide +kernel
theorem dX12_towels_13 : decode cX12_towels 13 = .ok (.iload_n 1, 1) := by decide +kernel
theorem dX12_towels_14 : decode cX12_towels 14 = .ok (.invokevirtual 228, 3) := by decide +kernel
theorem dX12_towels_17 : decode cX12_towels 17 = .ok (.ifCond .eq 13, 3) := by decide +kernel
theorem dX12_towels_20 : decode cX12_towels 20 = .ok (.iload_n 2, 1) := by decide +kernel
theorem dX12_towels_21 : decode cX12_towels 21 = .ok (.i2l, 1) := by decide +kernel
theorem dX12_towels_22 : decode cX12_towels 22 = .ok (.lconst 0, 1) := by decide +kernel
theorem dX12_towels_23 : decode cX12_towels 23 = .ok (.lconst 1, 1) := by decide +kernel
theorem dX12_towels_24 : decode cX12_towels 24 = .ok (.invokestatic 66, 3) := by decide +kernel
theorem dX12_towels_27 : decode cX12_towels 27 = .ok (.ifCond .ne 6, 3) := by decide +kernel
theorem dX12_towels_30 : decode cX12_towels 30 = .ok (.bipush (-2), 2) := by decide +kernel
theorem dX12_towels_32 : decode cX12_towels 32 = .ok (.ireturn, 1) := by decide +kernel
theorem dX12_towels_33 : decode cX12_towels 33 = .ok (.iconst 0, 1) := by decide +kernel
theorem dX12_towels_34 : decode cX12_towels 34 = .ok (.istore_n 3, 1) := by decide +kernel
theorem dX12_towels_35 : decode cX12_towels 35 = .ok (.iconst 0, 1) := by decide +kernel
theorem dX12_towels_36 : decode cX12_towels 36 = .ok (.istore 4, 2) := by decide +kernel
theorem dX12_towels_38 : decode cX12_towels 38 = .ok (.iconst 1, 1) := by decide +kernel
theorem dX12_towels_39 : decode cX12_towels 39 = .ok (.istore 5, 2) := by decide +kernel
theorem dX12_towels_41 : decode cX12_towels 41 = .ok (.iconst 0, 1) := by decide +kernel
theorem dX12_towels_42 : decode cX12_towels 42 = .ok (.istore 6, 2) := by decide +kernel
theorem dX12_towels_44 : decode cX12_towels 44 = .ok (.iload 6, 2) := by decide +kernel
theorem dX12_towels_46 : decode cX12_towels 46 = .ok (.bipush 6, 2) := by decide +kernel
theorem dX12_towels_48 : decode cX12_towels 48 = .ok (.if_icmp .ge 87, 3) := by decide +kernel
theorem dX12_towels_51 : decode cX12_towels 51 = .ok (.iconst 0, 1) := by decide +kernel
theorem dX12_towels_52 : decode cX12_towels 52 = .ok (.istore 7, 2) := by decide +kernel
theorem dX12_towels_54 : decode cX12_towels 54 = .ok (.iload 6, 2) := by decide +kernel
theorem dX12_towels_56 : decode cX12_towels 56 = .ok (.istore 8, 2) := by decide +kernel
theorem dX12_towels_58 : decode cX12_towels 58 = .ok (.iload_n 3, 1) := by decide +kernel
theorem dX12_towels_59 : decode cX12_towels 59 = .ok (.iload 8, 2) := by decide +kernel
theorem dX12_towels_61 : decode cX12_towels 61 = .ok (.invokestatic 131, 3) := by decide +kernel
theorem dX12_towels_64 : decode cX12_towels 64 = .ok (.ifCond .ne 25, 3) := by decide +kernel
theorem dX12_towels_67 : decode cX12_towels 67 = .ok (.iload_n 3, 1) := by decide +kernel
theorem dX12_towels_68 : decode cX12_towels 68 = .ok (.iconst 1, 1) := by decide +kernel
theorem dX12_towels_69 : decode cX12_towels 69 = .ok (.iload 8, 2) := by decide +kernel
theorem dX12_towels_71 : decode cX12_towels 71 = .ok (.ishl, 1) := by decide +kernel
theorem dX12_towels_72 : decode cX12_towels 72 = .ok (.ior, 1) := by decide +kernel
theorem dX12_towels_73 : decode cX12_towels 73 = .ok (.istore_n 3, 1) := by decide +kernel
theorem dX12_towels_74 : decode cX12_towels 74 = .ok (.iinc 7 1, 3) := by decide +kernel
theorem dX12_towels_77 : decode cX12_towels 77 = .ok (.aload_n 0, 1) := by decide +kernel
theorem dX12_towels_78 : decode cX12_towels 78 = .ok (.getfield 40, 3) := by decide +kernel
theorem dX12_towels_81 : decode cX12_towels 81 = .ok (.iload 8, 2) := by decide +kernel
theorem dX12_towels_83 : decode cX12_towels 83 = .ok (.iaload, 1) := by decide +kernel
theorem dX12_towels_84 : decode cX12_towels 84 = .ok (.istore 8, 2) := by decide +kernel
theorem dX12_towels_86 : decode cX12_towels 86 = .ok (.goto (-28), 3) := by decide +kernel
theorem dX12_towels_89 : decode cX12_towels 89 = .ok (.iload 4, 2) := by decide +kernel
theorem dX12_towels_91 : decode cX12_towels 91 = .ok (.iload 7, 2) := by decide +kernel
theorem dX12_towels_93 : decode cX12_towels 93 = .ok (.ifCond .le 7, 3) := by decide +kernel
theorem dX12_towels_96 : decode cX12_towels 96 = .ok (.iconst 1, 1) := by decide +kernel
theorem dX12_towels_97 : decode cX12_towels 97 = .ok (.goto 4, 3) := by decide +kernel
theorem dX12_towels_100 : decode cX12_towels 100 = .ok (.iconst 0, 1) := by decide +kernel
theorem dX12_towels_101 : decode cX12_towels 101 = .ok (.iadd, 1) := by decide +kernel
theorem dX12_towels_102 : decode cX12_towels 102 = .ok (.istore 4, 2) := by decide +kernel
theorem dX12_towels_104 : decode cX12_towels 104 = .ok (.iload 7, 2) := by decide +kernel
theorem dX12_towels_106 : decode cX12_towels 106 = .ok (.ifCond .le 19, 3) := by decide +kernel
theorem dX12_towels_109 : decode cX12_towels 109 = .ok (.iload 5, 2) := by decide +kernel
theorem dX12_towels_111 : decode cX12_towels 111 = .ok (.iload 5, 2) := by decide +kernel
theorem dX12_towels_113 : decode cX12_towels 113 = .ok (.iload 7, 2) := by decide +kernel
theorem dX12_towels_115 : decode cX12_towels 115 = .ok (.invokestatic 231, 3) := by decide +kernel
theorem dX12_towels_118 : decode cX12_towels 118 = .ok (.idiv, 1) := by decide +kernel
theorem dX12_towels_119 : decode cX12_towels 119 = .ok (.iload 7, 2) := by decide +kernel
theorem dX12_towels_121 : decode cX12_towels 121 = .ok (.imul, 1) := by decide +kernel
theorem dX12_towels_122 : decode cX12_towels 122 = .ok (.goto 5, 3) := by decide +kernel
theorem dX12_towels_125 : decode cX12_towels 125 = .ok (.iload 5, 2) := by decide +kernel
theorem dX12_towels_127 : decode cX12_towels 127 = .ok (.istore 5, 2) := by decide +kernel
theorem dX12_towels_129 : decode cX12_towels 129 = .ok (.iinc 6 1, 3) := by decide +kernel
theorem dX12_towels_132 : decode cX12_towels 132 = .ok (.goto (-88), 3) := by decide +kernel
theorem dX12_towels_135 : decode cX12_towels 135 = .ok (.iload_n 2, 1) := by decide +kernel
theorem dX12_towels_136 : decode cX12_towels 136 = .ok (.ifCond .ne 11, 3) := by decide +kernel
theorem dX12_towels_139 : decode cX12_towels 139 = .ok (.bipush 6, 2) := by decide +kernel
theorem dX12_towels_141 : decode cX12_towels 141 = .ok (.iload 4, 2) := by decide +kernel
theorem dX12_towels_143 : decode cX12_towels 143 = .ok (.isub, 1) := by decide +kernel
theorem dX12_towels_144 : decode cX12_towels 144 = .ok (.goto 5, 3) := by decide +kernel
theorem dX12_towels_147 : decode cX12_towels 147 = .ok (.iload 5, 2) := by decide +kernel
theorem dX12_towels_149 : decode cX12_towels 149 = .ok (.ireturn, 1) := by decide +kernel
theorem dX12_found_0 : decode cX12_found 0 = .ok (.iload_n 2, 1) := by decide +kernel
theorem dX12_found_1 : decode cX12_found 1 = .ok (.invokestatic 234, 3) := by decide +kernel
theorem dX12_found_4 : decode cX12_found 4 = .ok (.ifCond .ne 5, 3) := by decide +kernel
theorem dX12_found_7 : decode cX12_found 7 = .ok (.iconst (-1), 1) := by decide +kernel
theorem dX12_found_8 : decode cX12_found 8 = .ok (.ireturn, 1) := by decide +kernel
theorem dX12_found_9 : decode cX12_found 9 = .ok (.iload_n 1, 1) := by decide +kernel
theorem dX12_found_10 : decode cX12_found 10 = .ok (.i2l, 1) := by decide +kernel
theorem dX12_found_11 : decode cX12_found 11 = .ok (.lconst 0, 1) := by decide +kernel
theorem dX12_found_12 : decode cX12_found 12 = .ok (.ldc2_w 237, 3) := by decide +kernel
theorem dX12_found_15 : decode cX12_found 15 = .ok (.invokestatic 66, 3) := by decide +kernel
theorem dX12_found_18 : decode cX12_found 18 = .ok (.ifCond .ne 6, 3) := by decide +kernel
theorem dX12_found_21 : decode cX12_found 21 = .ok (.bipush (-2), 2) := by decide +kernel
theorem dX12_found_23 : decode cX12_found 23 = .ok (.ireturn, 1) := by decide +kernel
theorem dX12_found_24 : decode cX12_found 24 = .ok (.aload_n 0, 1) := by decide +kernel
theorem dX12_found_25 : decode cX12_found 25 = .ok (.getfield 239, 3) := by decide +kernel
theorem dX12_found_28 : decode cX12_found 28 = .ok (.bipush 8, 2) := by decide +kernel
theorem dX12_found_30 : decode cX12_found 30 = .ok (.if_icmp .ne 6, 3) := by decide +kernel
theorem dX12_found_33 : decode cX12_found 33 = .ok (.bipush (-4), 2) := by decide +kernel
theorem dX12_found_35 : decode cX12_found 35 = .ok (.ireturn, 1) := by decide +kernel
theorem dX12_found_36 : decode cX12_found 36 = .ok (.aload_n 0, 1) := by decide +kernel
theorem dX12_found_37 : decode cX12_found 37 = .ok (.getfield 19, 3) := by decide +kernel
theorem dX12_found_40 : decode cX12_found 40 = .ok (.aload_n 0, 1) := by decide +kernel
theorem dX12_found_41 : decode cX12_found 41 = .ok (.getfield 239, 3) := by decide +kernel
theorem dX12_found_44 : decode cX12_found 44 = .ok (.iload_n 1, 1) := by decide +kernel
theorem dX12_found_45 : decode cX12_found 45 = .ok (.iastore, 1) := by decide +kernel
theorem dX12_found_46 : decode cX12_found 46 = .ok (.aload_n 0, 1) := by decide +kernel
theorem dX12_found_47 : decode cX12_found 47 = .ok (.getfield 22, 3) := by decide +kernel
theorem dX12_found_50 : decode cX12_found 50 = .ok (.aload_n 0, 1) := by decide +kernel
theorem dX12_found_51 : decode cX12_found 51 = .ok (.getfield 239, 3) := by decide +kernel
theorem dX12_found_54 : decode cX12_found 54 = .ok (.iload_n 2, 1) := by decide +kernel
theorem dX12_found_55 : decode cX12_found 55 = .ok (.iastore, 1) := by decide +kernel
theorem dX12_found_56 : decode cX12_found 56 = .ok (.aload_n 0, 1) := by decide +kernel
theorem dX12_found_57 : decode cX12_found 57 = .ok (.dup, 1) := by decide +kernel
theorem dX12_found_58 : decode cX12_found 58 = .ok (.getfield 239, 3) := by decide +kernel
theorem dX12_found_61 : decode cX12_found 61 = .ok (.iconst 1, 1) := by decide +kernel
theorem dX12_found_62 : decode cX12_found 62 = .ok (.iadd, 1) := by decide +kernel
theorem dX12_found_63 : decode cX12_found 63 = .ok (.putfield 239, 3) := by decide +kernel
theorem dX12_found_66 : decode cX12_found 66 = .ok (.aload_n 0, 1) := by decide +kernel
theorem dX12_found_67 : decode cX12_found 67 = .ok (.getfield 239, 3) := by decide +kernel
theorem dX12_found_70 : decode cX12_found 70 = .ok (.ireturn, 1) := by decide +kernel
theorem dX12_forget_0 : decode cX12_forget 0 = .ok (.aload_n 0, 1) := by decide +kernel
theorem dX12_forget_1 : decode cX12_forget 1 = .ok (.getfield 239, 3) := by decide +kernel
theorem dX12_forget_4 : decode cX12_forget 4 = .ok (.istore_n 1, 1) := by decide +kernel
theorem dX12_forget_5 : decode cX12_forget 5 = .ok (.aload_n 0, 1) := by decide +kernel
theorem dX12_forget_6 : decode cX12_forget 6 = .ok (.iconst 0, 1) := by decide +kernel
theorem dX12_forget_7 : decode cX12_forget 7 = .ok (.putfield 239, 3) := by decide +kernel
theorem dX12_forget_10 : decode cX12_forget 10 = .ok (.iload_n 1, 1) := by decide +kernel
theorem dX12_forget_11 : decode cX12_forget 11 = .ok (.ireturn, 1) := by decide +kernel
theorem dX12_foundBy_0 : decode cX12_foundBy 0 = .ok (.iload_n 0, 1) := by decide +kernel
theorem dX12_foundBy_1 : decode cX12_foundBy 1 = .ok (.bipush 10, 2) := by decide +kernel
theorem dX12_foundBy_3 : decode cX12_foundBy 3 = .ok (.idiv, 1) := by decide +kernel
theorem dX12_foundBy_4 : decode cX12_foundBy 4 = .ok (.iload_n 1, 1) := by decide +kernel
theorem dX12_foundBy_5 : decode cX12_foundBy 5 = .ok (.imul, 1) := by decide +kernel
theorem dX12_foundBy_6 : decode cX12_foundBy 6 = .ok (.iload_n 0, 1) := by decide +kernel
theorem dX12_foundBy_7 : decode cX12_foundBy 7 = .ok (.bipush 10, 2) := by decide +kernel
theorem dX12_foundBy_9 : decode cX12_foundBy 9 = .ok (.irem, 1) := by decide +kernel
theorem dX12_foundBy_10 : decode cX12_foundBy 10 = .ok (.iadd, 1) := by decide +kernel
theorem dX12_foundBy_11 : decode cX12_foundBy 11 = .ok (.bipush 8, 2) := by decide +kernel
theorem dX12_foundBy_13 : decode cX12_foundBy 13 = .ok (.irem, 1) := by decide +kernel
theorem dX12_foundBy_14 : decode cX12_foundBy 14 = .ok (.ireturn, 1) := by decide +kernel
theorem dX12_isFit_0 : decode cX12_isFit 0 = .ok (.iload_n 1, 1) := by decide +kernel
theorem dX12_isFit_1 : decode cX12_isFit 1 = .ok (.bipush 10, 2) := by decide +kernel
theorem dX12_isFit_3 : decode cX12_isFit 3 = .ok (.irem, 1) := by decide +kernel
theorem dX12_isFit_4 : decode cX12_isFit 4 = .ok (.bipush 8, 2) := by decide +kernel
theorem dX12_isFit_6 : decode cX12_isFit 6 = .ok (.if_icmp .ge 7, 3) := by decide +kernel
theorem dX12_isFit_9 : decode cX12_isFit 9 = .ok (.iconst 1, 1) := by decide +kernel
theorem dX12_isFit_10 : decode cX12_isFit 10 = .ok (.goto 4, 3) := by decide +kernel
theorem dX12_isFit_13 : decode cX12_isFit 13 = .ok (.iconst 0, 1) := by decide +kernel
theorem dX12_isFit_14 : decode cX12_isFit 14 = .ok (.istore_n 2, 1) := by decide +kernel
theorem dX12_isFit_15 : decode cX12_isFit 15 = .ok (.iconst 0, 1) := by decide +kernel
theorem dX12_isFit_16 : decode cX12_isFit 16 = .ok (.istore_n 3, 1) := by decide +kernel
theorem dX12_isFit_17 : decode cX12_isFit 17 = .ok (.iload_n 3, 1) := by decide +kernel
theorem dX12_isFit_18 : decode cX12_isFit 18 = .ok (.aload_n 0, 1) := by decide +kernel
theorem dX12_isFit_19 : decode cX12_isFit 19 = .ok (.getfield 239, 3) := by decide +kernel
theorem dX12_isFit_22 : decode cX12_isFit 22 = .ok (.if_icmp .ge 38, 3) := by decide +kernel
theorem dX12_isFit_25 : decode cX12_isFit 25 = .ok (.iload_n 2, 1) := by decide +kernel
theorem dX12_isFit_26 : decode cX12_isFit 26 = .ok (.ifCond .eq 26, 3) := by decide +kernel
theorem dX12_isFit_29 : decode cX12_isFit 29 = .ok (.iload_n 1, 1) := by decide +kernel
theorem dX12_isFit_30 : decode cX12_isFit 30 = .ok (.aload_n 0, 1) := by decide +kernel
theorem dX12_isFit_31 : decode cX12_isFit 31 = .ok (.getfield 19, 3) := by decide +kernel
theorem dX12_isFit_34 : decode cX12_isFit 34 = .ok (.iload_n 3, 1) := by decide +kernel
theorem dX12_isFit_35 : decode cX12_isFit 35 = .ok (.iaload, 1) := by decide +kernel
theorem dX12_isFit_36 : decode cX12_isFit 36 = .ok (.invokestatic 242, 3) := by decide +kernel
theorem dX12_isFit_39 : decode cX12_isFit 39 = .ok (.aload_n 0, 1) := by decide +kernel
theorem dX12_isFit_40 : decode cX12_isFit 40 = .ok (.getfield 22, 3) := by decide +kernel
theorem dX12_isFit_43 : decode cX12_isFit 43 = .ok (.iload_n 3, 1) := by decide +kernel
theorem dX12_isFit_44 : decode cX12_isFit 44 = .ok (.iaload, 1) := by decide +kernel
theorem dX12_isFit_45 : decode cX12_isFit 45 = .ok (.if_icmp .ne 7, 3) := by decide +kernel
theorem dX12_isFit_48 : decode cX12_isFit 48 = .ok (.iconst 1, 1) := by decide +kernel
theorem dX12_isFit_49 : decode cX12_isFit 49 = .ok (.goto 4, 3) := by decide +kernel
theorem dX12_isFit_52 : decode cX12_isFit 52 = .ok (.iconst 0, 1) := by decide +kernel
theorem dX12_isFit_53 : decode cX12_isFit 53 = .ok (.istore_n 2, 1) := by decide +kernel
theorem dX12_isFit_54 : decode cX12_isFit 54 = .ok (.iinc 3 1, 3) := by decide +kernel
theorem dX12_isFit_57 : decode cX12_isFit 57 = .ok (.goto (-40), 3) := by decide +kernel
theorem dX12_isFit_60 : decode cX12_isFit 60 = .ok (.iload_n 2, 1) := by decide +kernel
theorem dX12_isFit_61 : decode cX12_isFit 61 = .ok (.ireturn, 1) := by decide +kernel
theorem dX12_fits_0 : decode cX12_fits 0 = .ok (.iconst 0, 1) := by decide +kernel
theorem dX12_fits_1 : decode cX12_fits 1 = .ok (.istore_n 2, 1) := by decide +kernel
theorem dX12_fits_2 : decode cX12_fits 2 = .ok (.iconst 0, 1) := by decide +kernel
theorem dX12_fits_3 : decode cX12_fits 3 = .ok (.istore_n 3, 1) := by decide +kernel
theorem dX12_fits_4 : decode cX12_fits 4 = .ok (.iload_n 3, 1) := by decide +kernel
theorem dX12_fits_5 : decode cX12_fits 5 = .ok (.bipush 80, 2) := by decide +kernel
theorem dX12_fits_7 : decode cX12_fits 7 = .ok (.if_icmp .ge 27, 3) := by decide +kernel
theorem dX12_fits_10 : decode cX12_fits 10 = .ok (.aload_n 0, 1) := by decide +kernel
theorem dX12_fits_11 : decode cX12_fits 11 = .ok (.iload_n 3, 1) := by decide +kernel
theorem dX12_fits_12 : decode cX12_fits 12 = .ok (.invokevirtual 245, 3) := by decide +kernel
theorem dX12_fits_15 : decode cX12_fits 15 = .ok (.ifCond .eq 13, 3) := by decide +kernel
theorem dX12_fits_18 : decode cX12_fits 18 = .ok (.iload_n 2, 1) := by decide +kernel
theorem dX12_fits_19 : decode cX12_fits 19 = .ok (.iload_n 1, 1) := by decide +kernel
theorem dX12_fits_20 : decode cX12_fits 20 = .ok (.if_icmp .ne 5, 3) := by decide +kernel
theorem dX12_fits_23 : decode cX12_fits 23 = .ok (.iload_n 3, 1) := by decide +kernel
theorem dX12_fits_24 : decode cX12_fits 24 = .ok (.ireturn, 1) := by decide +kernel
theorem dX12_fits_25 : decode cX12_fits 25 = .ok (.iinc 2 1, 3) := by decide +kernel
theorem dX12_fits_28 : decode cX12_fits 28 = .ok (.iinc 3 1, 3) := by decide +kernel
theorem dX12_fits_31 : decode cX12_fits 31 = .ok (.goto (-27), 3) := by decide +kernel
theorem dX12_fits_34 : decode cX12_fits 34 = .ok (.iload_n 1, 1) := by decide +kernel
theorem dX12_fits_35 : decode cX12_fits 35 = .ok (.iconst (-1), 1) := by decide +kernel
theorem dX12_fits_36 : decode cX12_fits 36 = .ok (.if_icmp .ne 7, 3) := by decide +kernel
theorem dX12_fits_39 : decode cX12_fits 39 = .ok (.iload_n 2, 1) := by decide +kernel
theorem dX12_fits_40 : decode cX12_fits 40 = .ok (.goto 5, 3) := by decide +kernel
theorem dX12_fits_43 : decode cX12_fits 43 = .ok (.bipush (-6), 2) := by decide +kernel
theorem dX12_fits_45 : decode cX12_fits 45 = .ok (.ireturn, 1) := by decide +kernel
theorem dX12_mostLeft_0 : decode cX12_mostLeft 0 = .ok (.iconst 0, 1) := by decide +kernel
theorem dX12_mostLeft_1 : decode cX12_mostLeft 1 = .ok (.istore_n 2, 1) := by decide +kernel
theorem dX12_mostLeft_2 : decode cX12_mostLeft 2 = .ok (.iconst 0, 1) := by decide +kernel
theorem dX12_mostLeft_3 : decode cX12_mostLeft 3 = .ok (.istore_n 3, 1) := by decide +kernel
theorem dX12_mostLeft_4 : decode cX12_mostLeft 4 = .ok (.iload_n 3, 1) := by decide +kernel
theorem dX12_mostLeft_5 : decode cX12_mostLeft 5 = .ok (.bipush 8, 2) := by decide +kernel
theorem dX12_mostLeft_7 : decode cX12_mostLeft 7 = .ok (.if_icmp .ge 16, 3) := by decide +kernel
theorem dX12_mostLeft_10 : decode cX12_mostLeft 10 = .ok (.aload_n 0, 1) := by decide +kernel
theorem dX12_mostLeft_11 : decode cX12_mostLeft 11 = .ok (.getfield 43, 3) := by decide +kernel
theorem dX12_mostLeft_14 : decode cX12_mostLeft 14 = .ok (.iload_n 3, 1) := by decide +kernel
theorem dX12_mostLeft_15 : decode cX12_mostLeft 15 = .ok (.iconst 0, 1) := by decide +kernel
theorem dX12_mostLeft_16 : decode cX12_mostLeft 16 = .ok (.iastore, 1) := by decide +kernel
theorem dX12_mostLeft_17 : decode cX12_mostLeft 17 = .ok (.iinc 3 1, 3) := by decide +kernel
theorem dX12_mostLeft_20 : decode cX12_mostLeft 20 = .ok (.goto (-16), 3) := by decide +kernel
theorem dX12_mostLeft_23 : decode cX12_mostLeft 23 = .ok (.iconst 0, 1) := by decide +kernel
theorem dX12_mostLeft_24 : decode cX12_mostLeft 24 = .ok (.istore_n 3, 1) := by decide +kernel
theorem dX12_mostLeft_25 : decode cX12_mostLeft 25 = .ok (.iload_n 3, 1) := by decide +kernel
theorem dX12_mostLeft_26 : decode cX12_mostLeft 26 = .ok (.bipush 80, 2) := by decide +kernel
theorem dX12_mostLeft_28 : decode cX12_mostLeft 28 = .ok (.if_icmp .ge 46, 3) := by decide +kernel
theorem dX12_mostLeft_31 : decode cX12_mostLeft 31 = .ok (.aload_n 0, 1) := by decide +kernel
theorem dX12_mostLeft_32 : decode cX12_mostLeft 32 = .ok (.iload_n 3, 1) := by decide +kernel
theorem dX12_mostLeft_33 : decode cX12_mostLeft 33 = .ok (.invokevirtual 245, 3) := by decide +kernel
theorem dX12_mostLeft_36 : decode cX12_mostLeft 36 = .ok (.ifCond .eq 32, 3) := by decide +kernel
theorem dX12_mostLeft_39 : decode cX12_mostLeft 39 = .ok (.aload_n 0, 1) := by decide +kernel
theorem dX12_mostLeft_40 : decode cX12_mostLeft 40 = .ok (.getfield 43, 3) := by decide +kernel
theorem dX12_mostLeft_43 : decode cX12_mostLeft 43 = .ok (.iload_n 3, 1) := by decide +kernel
theorem dX12_mostLeft_44 : decode cX12_mostLeft 44 = .ok (.iload_n 1, 1) := by decide +kernel
theorem dX12_mostLeft_45 : decode cX12_mostLeft 45 = .ok (.invokestatic 242, 3) := by decide +kernel
theorem dX12_mostLeft_48 : decode cX12_mostLeft 48 = .ok (.dup2, 1) := by decide +kernel
theorem dX12_mostLeft_49 : decode cX12_mostLeft 49 = .ok (.iaload, 1) := by decide +kernel
theorem dX12_mostLeft_50 : decode cX12_mostLeft 50 = .ok (.iconst 1, 1) := by decide +kernel
theorem dX12_mostLeft_51 : decode cX12_mostLeft 51 = .ok (.iadd, 1) := by decide +kernel
theorem dX12_mostLeft_52 : decode cX12_mostLeft 52 = .ok (.iastore, 1) := by decide +kernel
theorem dX12_mostLeft_53 : decode cX12_mostLeft 53 = .ok (.iload_n 2, 1) := by decide +kernel
theorem dX12_mostLeft_54 : decode cX12_mostLeft 54 = .ok (.aload_n 0, 1) := by decide +kernel
theorem dX12_mostLeft_55 : decode cX12_mostLeft 55 = .ok (.getfield 43, 3) := by decide +kernel
theorem dX12_mostLeft_58 : decode cX12_mostLeft 58 = .ok (.iload_n 3, 1) := by decide +kernel
theorem dX12_mostLeft_59 : decode cX12_mostLeft 59 = .ok (.iload_n 1, 1) := by decide +kernel
theorem dX12_mostLeft_60 : decode cX12_mostLeft 60 = .ok (.invokestatic 242, 3) := by decide +kernel
theorem dX12_mostLeft_63 : decode cX12_mostLeft 63 = .ok (.iaload, 1) := by decide +kernel
theorem dX12_mostLeft_64 : decode cX12_mostLeft 64 = .ok (.invokestatic 201, 3) := by decide +kernel
theorem dX12_mostLeft_67 : decode cX12_mostLeft 67 = .ok (.istore_n 2, 1) := by decide +kernel
theorem dX12_mostLeft_68 : decode cX12_mostLeft 68 = .ok (.iinc 3 1, 3) := by decide +kernel
theorem dX12_mostLeft_71 : decode cX12_mostLeft 71 = .ok (.goto (-46), 3) := by decide +kernel
theorem dX12_mostLeft_74 : decode cX12_mostLeft 74 = .ok (.iload_n 2, 1) := by decide +kernel
theorem dX12_mostLeft_75 : decode cX12_mostLeft 75 = .ok (.ireturn, 1) := by decide +kernel
theorem dX12_ask_0 : decode cX12_ask 0 = .ok (.iload_n 1, 1) := by decide +kernel
theorem dX12_ask_1 : decode cX12_ask 1 = .ok (.i2l, 1) := by decide +kernel
theorem dX12_ask_2 : decode cX12_ask 2 = .ok (.lconst 0, 1) := by decide +kernel
theorem dX12_ask_3 : decode cX12_ask 3 = .ok (.lconst 1, 1) := by decide +kernel
theorem dX12_ask_4 : decode cX12_ask 4 = .ok (.invokestatic 66, 3) := by decide +kernel
theorem dX12_ask_7 : decode cX12_ask 7 = .ok (.ifCond .ne 6, 3) := by decide +kernel
theorem dX12_ask_10 : decode cX12_ask 10 = .ok (.bipush (-2), 2) := by decide +kernel
theorem dX12_ask_12 : decode cX12_ask 12 = .ok (.ireturn, 1) := by decide +kernel
theorem dX12_ask_13 : decode cX12_ask 13 = .ok (.iconst 0, 1) := by decide +kernel
theorem dX12_ask_14 : decode cX12_ask 14 = .ok (.istore_n 2, 1) := by decide +kernel
theorem dX12_ask_15 : decode cX12_ask 15 = .ok (.aload_n 0, 1) := by decide +kernel
theorem dX12_ask_16 : decode cX12_ask 16 = .ok (.iconst 0, 1) := by decide +kernel
theorem dX12_ask_17 : decode cX12_ask 17 = .ok (.invokevirtual 248, 3) := by decide +kernel
theorem dX12_ask_20 : decode cX12_ask 20 = .ok (.istore_n 3, 1) := by decide +kernel
theorem dX12_ask_21 : decode cX12_ask 21 = .ok (.iconst 1, 1) := by decide +kernel
theorem dX12_ask_22 : decode cX12_ask 22 = .ok (.istore 4, 2) := by decide +kernel
theorem dX12_ask_24 : decode cX12_ask 24 = .ok (.iload 4, 2) := by decide +kernel
theorem dX12_ask_26 : decode cX12_ask 26 = .ok (.bipush 60, 2) := by decide +kernel
theorem dX12_ask_28 : decode cX12_ask 28 = .ok (.if_icmp .gt 37, 3) := by decide +kernel
theorem dX12_ask_31 : decode cX12_ask 31 = .ok (.aload_n 0, 1) := by decide +kernel
theorem dX12_ask_32 : decode cX12_ask 32 = .ok (.iload 4, 2) := by decide +kernel
theorem dX12_ask_34 : decode cX12_ask 34 = .ok (.invokevirtual 248, 3) := by decide +kernel
theorem dX12_ask_37 : decode cX12_ask 37 = .ok (.istore 5, 2) := by decide +kernel
theorem dX12_ask_39 : decode cX12_ask 39 = .ok (.iload 5, 2) := by decide +kernel
theorem dX12_ask_41 : decode cX12_ask 41 = .ok (.iload_n 3, 1) := by decide +kernel
theorem dX12_ask_42 : decode cX12_ask 42 = .ok (.if_icmp .ge 8, 3) := by decide +kernel
theorem dX12_ask_45 : decode cX12_ask 45 = .ok (.iload 4, 2) := by decide +kernel
theorem dX12_ask_47 : decode cX12_ask 47 = .ok (.goto 4, 3) := by decide +kernel
theorem dX12_ask_50 : decode cX12_ask 50 = .ok (.iload_n 2, 1) := by decide +kernel
theorem dX12_ask_51 : decode cX12_ask 51 = .ok (.istore_n 2, 1) := by decide +kernel
theorem dX12_ask_52 : decode cX12_ask 52 = .ok (.iload_n 3, 1) := by decide +kernel
theorem dX12_ask_53 : decode cX12_ask 53 = .ok (.iload 5, 2) := by decide +kernel
theorem dX12_ask_55 : decode cX12_ask 55 = .ok (.invokestatic 198, 3) := by decide +kernel
theorem dX12_ask_58 : decode cX12_ask 58 = .ok (.istore_n 3, 1) := by decide +kernel
theorem dX12_ask_59 : decode cX12_ask 59 = .ok (.iinc 4 1, 3) := by decide +kernel
theorem dX12_ask_62 : decode cX12_ask 62 = .ok (.goto (-38), 3) := by decide +kernel
theorem dX12_ask_65 : decode cX12_ask 65 = .ok (.iload_n 3, 1) := by decide +kernel
theorem dX12_ask_66 : decode cX12_ask 66 = .ok (.ifCond .ne 8, 3) := by decide +kernel
theorem dX12_ask_69 : decode cX12_ask 69 = .ok (.bipush (-6), 2) := by decide +kernel
theorem dX12_ask_71 : decode cX12_ask 71 = .ok (.goto 12, 3) := by decide +kernel
theorem dX12_ask_74 : decode cX12_ask 74 = .ok (.iload_n 1, 1) := by decide +kernel
theorem dX12_ask_75 : decode cX12_ask 75 = .ok (.ifCond .ne 7, 3) := by decide +kernel
theorem dX12_ask_78 : decode cX12_ask 78 = .ok (.iload_n 2, 1) := by decide +kernel
theorem dX12_ask_79 : decode cX12_ask 79 = .ok (.goto 4, 3) := by decide +kernel
theorem dX12_ask_82 : decode cX12_ask 82 = .ok (.iload_n 3, 1) := by decide +kernel
theorem dX12_ask_83 : decode cX12_ask 83 = .ok (.ireturn, 1) := by decide +kernel
theorem dX12_leastTake_0 : decode cX12_leastTake 0 = .ok (.bipush (-6), 2) := by decide +kernel
theorem dX12_leastTake_2 : decode cX12_leastTake 2 = .ok (.istore_n 3, 1) := by decide +kernel
theorem dX12_leastTake_3 : decode cX12_leastTake 3 = .ok (.iload_n 1, 1) := by decide +kernel
theorem dX12_leastTake_4 : decode cX12_leastTake 4 = .ok (.istore 4, 2) := by decide +kernel
theorem dX12_leastTake_6 : decode cX12_leastTake 6 = .ok (.iload 4, 2) := by decide +kernel
theorem dX12_leastTake_8 : decode cX12_leastTake 8 = .ok (.ifCond .lt 93, 3) := by decide +kernel
theorem dX12_leastTake_11 : decode cX12_leastTake 11 = .ok (.iload_n 2, 1) := by decide +kernel
theorem dX12_leastTake_12 : decode cX12_leastTake 12 = .ok (.istore 5, 2) := by decide +kernel
theorem dX12_leastTake_14 : decode cX12_leastTake 14 = .ok (.iload 5, 2) := by decide +kernel
theorem dX12_leastTake_16 : decode cX12_leastTake 16 = .ok (.ifCond .lt 79, 3) := by decide +kernel
theorem dX12_leastTake_19 : decode cX12_leastTake 19 = .ok (.iload 4, 2) := by decide +kernel
theorem dX12_leastTake_21 : decode cX12_leastTake 21 = .ok (.iload 5, 2) := by decide +kernel
theorem dX12_leastTake_23 : decode cX12_leastTake 23 = .ok (.iadd, 1) := by decide +kernel
theorem dX12_leastTake_24 : decode cX12_leastTake 24 = .ok (.ifCond .le 24, 3) := by decide +kernel
theorem dX12_leastTake_27 : decode cX12_leastTake 27 = .ok (.iload 4, 2) := by decide +kernel
theorem dX12_leastTake_29 : decode cX12_leastTake 29 = .ok (.ifCond .eq 15, 3) := by decide +kernel
theorem dX12_leastTake_32 : decode cX12_leastTake 32 = .ok (.iload 5, 2) := by decide +kernel
theorem dX12_leastTake_34 : decode cX12_leastTake 34 = .ok (.ifCond .eq 10, 3) := by decide +kernel
theorem dX12_leastTake_37 : decode cX12_leastTake 37 = .ok (.iload 4, 2) := by decide +kernel
theorem dX12_leastTake_39 : decode cX12_leastTake 39 = .ok (.iload 5, 2) := by decide +kernel
theorem dX12_leastTake_41 : decode cX12_leastTake 41 = .ok (.if_icmp .ne 7, 3) := by decide +kernel
theorem dX12_leastTake_44 : decode cX12_leastTake 44 = .ok (.iconst 1, 1) := by decide +kernel
theorem dX12_leastTake_45 : decode cX12_leastTake 45 = .ok (.goto 4, 3) := by decide +kernel
theorem dX12_leastTake_48 : decode cX12_leastTake 48 = .ok (.iconst 0, 1) := by decide +kernel
theorem dX12_leastTake_49 : decode cX12_leastTake 49 = .ok (.istore 6, 2) := by decide +kernel
theorem dX12_leastTake_51 : decode cX12_leastTake 51 = .ok (.iload 6, 2) := by decide +kernel
theorem dX12_leastTake_53 : decode cX12_leastTake 53 = .ok (.ifCond .eq 34, 3) := by decide +kernel
theorem dX12_leastTake_56 : decode cX12_leastTake 56 = .ok (.aload_n 0, 1) := by decide +kernel
theorem dX12_leastTake_57 : decode cX12_leastTake 57 = .ok (.getfield 46, 3) := by decide +kernel
theorem dX12_leastTake_60 : decode cX12_leastTake 60 = .ok (.bipush 21, 2) := by decide +kernel
theorem dX12_leastTake_62 : decode cX12_leastTake 62 = .ok (.iload_n 1, 1) := by decide +kernel
theorem dX12_leastTake_63 : decode cX12_leastTake 63 = .ok (.iload 4, 2) := by decide +kernel
theorem dX12_leastTake_65 : decode cX12_leastTake 65 = .ok (.isub, 1) := by decide +kernel
theorem dX12_leastTake_66 : decode cX12_leastTake 66 = .ok (.imul, 1) := by decide +kernel
theorem dX12_leastTake_67 : decode cX12_leastTake 67 = .ok (.iload_n 2, 1) := by decide +kernel
theorem dX12_leastTake_68 : decode cX12_leastTake 68 = .ok (.iadd, 1) := by decide +kernel
theorem dX12_leastTake_69 : decode cX12_leastTake 69 = .ok (.iload 5, 2) := by decide +kernel
theorem dX12_leastTake_71 : decode cX12_leastTake 71 = .ok (.isub, 1) := by decide +kernel
theorem dX12_leastTake_72 : decode cX12_leastTake 72 = .ok (.baload, 1) := by decide +kernel
theorem dX12_leastTake_73 : decode cX12_leastTake 73 = .ok (.ifCond .ne 14, 3) := by decide +kernel
theorem dX12_leastTake_76 : decode cX12_leastTake 76 = .ok (.bipush 100, 2) := by decide +kernel
theorem dX12_leastTake_78 : decode cX12_leastTake 78 = .ok (.iload 4, 2) := by decide +kernel
theorem dX12_leastTake_80 : decode cX12_leastTake 80 = .ok (.imul, 1) := by decide +kernel
theorem dX12_leastTake_81 : decode cX12_leastTake 81 = .ok (.iload 5, 2) := by decide +kernel
theorem dX12_leastTake_83 : decode cX12_leastTake 83 = .ok (.iadd, 1) := by decide +kernel
theorem dX12_leastTake_84 : decode cX12_leastTake 84 = .ok (.goto 4, 3) := by decide +kernel
theorem dX12_leastTake_87 : decode cX12_leastTake 87 = .ok (.iload_n 3, 1) := by decide +kernel
theorem dX12_leastTake_88 : decode cX12_leastTake 88 = .ok (.istore_n 3, 1) := by decide +kernel
theorem dX12_leastTake_89 : decode cX12_leastTake 89 = .ok (.iinc 5 (-1), 3) := by decide +kernel
theorem dX12_leastTake_92 : decode cX12_leastTake 92 = .ok (.goto (-78), 3) := by decide +kernel
theorem dX12_leastTake_95 : decode cX12_leastTake 95 = .ok (.iinc 4 (-1), 3) := by decide +kernel
theorem dX12_leastTake_98 : decode cX12_leastTake 98 = .ok (.goto (-92), 3) := by decide +kernel
theorem dX12_leastTake_101 : decode cX12_leastTake 101 = .ok (.iload_n 3, 1) := by decide +kernel
theorem dX12_leastTake_102 : decode cX12_leastTake 102 = .ok (.ireturn, 1) := by decide +kernel
theorem dX12_piles_0 : decode cX12_piles 0 = .ok (.iload_n 1, 1) := by decide +kernel
theorem dX12_piles_1 : decode cX12_piles 1 = .ok (.i2l, 1) := by decide +kernel
theorem dX12_piles_2 : decode cX12_piles 2 = .ok (.lconst 0, 1) := by decide +kernel
theorem dX12_piles_3 : decode cX12_piles 3 = .ok (.ldc2_w 251, 3) := by decide +kernel
theorem dX12_piles_6 : decode cX12_piles 6 = .ok (.invokestatic 66, 3) := by decide +kernel
theorem dX12_piles_9 : decode cX12_piles 9 = .ok (.ifCond .eq 25, 3) := by decide +kernel
theorem dX12_piles_12 : decode cX12_piles 12 = .ok (.iload_n 2, 1) := by decide +kernel
theorem dX12_piles_13 : decode cX12_piles 13 = .ok (.i2l, 1) := by decide +kernel
theorem dX12_piles_14 : decode cX12_piles 14 = .ok (.lconst 0, 1) := by decide +kernel
theorem dX12_piles_15 : decode cX12_piles 15 = .ok (.ldc2_w 251, 3) := by decide +kernel
theorem dX12_piles_18 : decode cX12_piles 18 = .ok (.invokestatic 66, 3) := by decide +kernel
theorem dX12_piles_21 : decode cX12_piles 21 = .ok (.ifCond .eq 13, 3) := by decide +kernel
theorem dX12_piles_24 : decode cX12_piles 24 = .ok (.iload_n 3, 1) := by decide +kernel
theorem dX12_piles_25 : decode cX12_piles 25 = .ok (.i2l, 1) := by decide +kernel
theorem dX12_piles_26 : decode cX12_piles 26 = .ok (.lconst 0, 1) := by decide +kernel
theorem dX12_piles_27 : decode cX12_piles 27 = .ok (.lconst 1, 1) := by decide +kernel
theorem dX12_piles_28 : decode cX12_piles 28 = .ok (.invokestatic 66, 3) := by decide +kernel
theorem dX12_piles_31 : decode cX12_piles 31 = .ok (.ifCond .ne 6, 3) := by decide +kernel
theorem dX12_piles_34 : decode cX12_piles 34 = .ok (.bipush (-2), 2) := by decide +kernel
theorem dX12_piles_36 : decode cX12_piles 36 = .ok (.ireturn, 1) := by decide +kernel
theorem dX12_piles_37 : decode cX12_piles 37 = .ok (.iconst 0, 1) := by decide +kernel
theorem dX12_piles_38 : decode cX12_piles 38 = .ok (.istore 4, 2) := by decide +kernel
theorem dX12_piles_40 : decode cX12_piles 40 = .ok (.iload 4, 2) := by decide +kernel
theorem dX12_piles_42 : decode cX12_piles 42 = .ok (.iload_n 1, 1) := by decide +kernel
theorem dX12_piles_43 : decode cX12_piles 43 = .ok (.if_icmp .gt 59, 3) := by decide +kernel
theorem dX12_piles_46 : decode cX12_piles 46 = .ok (.iconst 0, 1) := by decide +kernel
theorem dX12_piles_47 : decode cX12_piles 47 = .ok (.istore 5, 2) := by decide +kernel
theorem dX12_piles_49 : decode cX12_piles 49 = .ok (.iload 5, 2) := by decide +kernel
theorem dX12_piles_51 : decode cX12_piles 51 = .ok (.iload_n 2, 1) := by decide +kernel
theorem dX12_piles_52 : decode cX12_piles 52 = .ok (.if_icmp .gt 44, 3) := by decide +kernel
theorem dX12_piles_55 : decode cX12_piles 55 = .ok (.aload_n 0, 1) := by decide +kernel
theorem dX12_piles_56 : decode cX12_piles 56 = .ok (.getfield 46, 3) := by decide +kernel
theorem dX12_piles_59 : decode cX12_piles 59 = .ok (.bipush 21, 2) := by decide +kernel
theorem dX12_piles_61 : decode cX12_piles 61 = .ok (.iload 4, 2) := by decide +kernel
theorem dX12_piles_63 : decode cX12_piles 63 = .ok (.imul, 1) := by decide +kernel
theorem dX12_piles_64 : decode cX12_piles 64 = .ok (.iload 5, 2) := by decide +kernel
theorem dX12_piles_66 : decode cX12_piles 66 = .ok (.iadd, 1) := by decide +kernel
theorem dX12_piles_67 : decode cX12_piles 67 = .ok (.iconst 0, 1) := by decide +kernel
theorem dX12_piles_68 : decode cX12_piles 68 = .ok (.bastore, 1) := by decide +kernel
theorem dX12_piles_69 : decode cX12_piles 69 = .ok (.aload_n 0, 1) := by decide +kernel
theorem dX12_piles_70 : decode cX12_piles 70 = .ok (.getfield 46, 3) := by decide +kernel
theorem dX12_piles_73 : decode cX12_piles 73 = .ok (.bipush 21, 2) := by decide +kernel
theorem dX12_piles_75 : decode cX12_piles 75 = .ok (.iload 4, 2) := by decide +kernel
theorem dX12_piles_77 : decode cX12_piles 77 = .ok (.imul, 1) := by decide +kernel
theorem dX12_piles_78 : decode cX12_piles 78 = .ok (.iload 5, 2) := by decide +kernel
theorem dX12_piles_80 : decode cX12_piles 80 = .ok (.iadd, 1) := by decide +kernel
theorem dX12_piles_81 : decode cX12_piles 81 = .ok (.aload_n 0, 1) := by decide +kernel
theorem dX12_piles_82 : decode cX12_piles 82 = .ok (.iload 4, 2) := by decide +kernel
theorem dX12_piles_84 : decode cX12_piles 84 = .ok (.iload 5, 2) := by decide +kernel
theorem dX12_piles_86 : decode cX12_piles 86 = .ok (.invokevirtual 253, 3) := by decide +kernel
theorem dX12_piles_89 : decode cX12_piles 89 = .ok (.bastore, 1) := by decide +kernel
theorem dX12_piles_90 : decode cX12_piles 90 = .ok (.iinc 5 1, 3) := by decide +kernel
theorem dX12_piles_93 : decode cX12_piles 93 = .ok (.goto (-44), 3) := by decide +kernel
theorem dX12_piles_96 : decode cX12_piles 96 = .ok (.iinc 4 1, 3) := by decide +kernel
theorem dX12_piles_99 : decode cX12_piles 99 = .ok (.goto (-59), 3) := by decide +kernel
theorem dX12_piles_102 : decode cX12_piles 102 = .ok (.iload_n 3, 1) := by decide +kernel
theorem dX12_piles_103 : decode cX12_piles 103 = .ok (.iconst 1, 1) := by decide +kernel
theorem dX12_piles_104 : decode cX12_piles 104 = .ok (.if_icmp .ne 12, 3) := by decide +kernel
theorem dX12_piles_107 : decode cX12_piles 107 = .ok (.aload_n 0, 1) := by decide +kernel
theorem dX12_piles_108 : decode cX12_piles 108 = .ok (.iload_n 1, 1) := by decide +kernel
theorem dX12_piles_109 : decode cX12_piles 109 = .ok (.iload_n 2, 1) := by decide +kernel
theorem dX12_piles_110 : decode cX12_piles 110 = .ok (.invokevirtual 256, 3) := by decide +kernel
theorem dX12_piles_113 : decode cX12_piles 113 = .ok (.goto 22, 3) := by decide +kernel
theorem dX12_piles_116 : decode cX12_piles 116 = .ok (.aload_n 0, 1) := by decide +kernel
theorem dX12_piles_117 : decode cX12_piles 117 = .ok (.getfield 46, 3) := by decide +kernel
theorem dX12_piles_120 : decode cX12_piles 120 = .ok (.bipush 21, 2) := by decide +kernel
theorem dX12_piles_122 : decode cX12_piles 122 = .ok (.iload_n 1, 1) := by decide +kernel
theorem dX12_piles_123 : decode cX12_piles 123 = .ok (.imul, 1) := by decide +kernel
theorem dX12_piles_124 : decode cX12_piles 124 = .ok (.iload_n 2, 1) := by decide +kernel
theorem dX12_piles_125 : decode cX12_piles 125 = .ok (.iadd, 1) := by decide +kernel
theorem dX12_piles_126 : decode cX12_piles 126 = .ok (.baload, 1) := by decide +kernel
theorem dX12_piles_127 : decode cX12_piles 127 = .ok (.ifCond .eq 7, 3) := by decide +kernel
theorem dX12_piles_130 : decode cX12_piles 130 = .ok (.iconst 1, 1) := by decide +kernel
theorem dX12_piles_131 : decode cX12_piles 131 = .ok (.goto 4, 3) := by decide +kernel
theorem dX12_piles_134 : decode cX12_piles 134 = .ok (.iconst 0, 1) := by decide +kernel
theorem dX12_piles_135 : decode cX12_piles 135 = .ok (.ireturn, 1) := by decide +kernel
end
section
theorem dX12_leastTakeWins_0 : decode cX12_leastTakeWins 0 = .ok (.iconst 0, 1) := by decide +kernel
theorem dX12_leastTakeWins_1 : decode cX12_leastTakeWins 1 = .ok (.istore_n 3, 1) := by decide +kernel
theorem dX12_leastTakeWins_2 : decode cX12_leastTakeWins 2 = .ok (.iconst 0, 1) := by decide +kernel
theorem dX12_leastTakeWins_3 : decode cX12_leastTakeWins 3 = .ok (.istore 4, 2) := by decide +kernel
theorem dX12_leastTakeWins_5 : decode cX12_leastTakeWins 5 = .ok (.iload 4, 2) := by decide +kernel
theorem dX12_leastTakeWins_7 : decode cX12_leastTakeWins 7 = .ok (.iload_n 1, 1) := by decide +kernel
theorem dX12_leastTakeWins_8 : decode cX12_leastTakeWins 8 = .ok (.if_icmp .gt 91, 3) := by decide +kernel
theorem dX12_leastTakeWins_11 : decode cX12_leastTakeWins 11 = .ok (.iconst 0, 1) := by decide +kernel
theorem dX12_leastTakeWins_12 : decode cX12_leastTakeWins 12 = .ok (.istore 5, 2) := by decide +kernel
theorem dX12_leastTakeWins_14 : decode cX12_leastTakeWins 14 = .ok (.iload 5, 2) := by decide +kernel
theorem dX12_leastTakeWins_16 : decode cX12_leastTakeWins 16 = .ok (.iload_n 2, 1) := by decide +kernel
theorem dX12_leastTakeWins_17 : decode cX12_leastTakeWins 17 = .ok (.if_icmp .gt 76, 3) := by decide +kernel
theorem dX12_leastTakeWins_20 : decode cX12_leastTakeWins 20 = .ok (.iload 4, 2) := by decide +kernel
theorem dX12_leastTakeWins_22 : decode cX12_leastTakeWins 22 = .ok (.iload 5, 2) := by decide +kernel
theorem dX12_leastTakeWins_24 : decode cX12_leastTakeWins 24 = .ok (.iadd, 1) := by decide +kernel
theorem dX12_leastTakeWins_25 : decode cX12_leastTakeWins 25 = .ok (.ifCond .le 24, 3) := by decide +kernel
theorem dX12_leastTakeWins_28 : decode cX12_leastTakeWins 28 = .ok (.iload 4, 2) := by decide +kernel
theorem dX12_leastTakeWins_30 : decode cX12_leastTakeWins 30 = .ok (.ifCond .eq 15, 3) := by decide +kernel
theorem dX12_leastTakeWins_33 : decode cX12_leastTakeWins 33 = .ok (.iload 5, 2) := by decide +kernel
theorem dX12_leastTakeWins_35 : decode cX12_leastTakeWins 35 = .ok (.ifCond .eq 10, 3) := by decide +kernel
theorem dX12_leastTakeWins_38 : decode cX12_leastTakeWins 38 = .ok (.iload 4, 2) := by decide +kernel
theorem dX12_leastTakeWins_40 : decode cX12_leastTakeWins 40 = .ok (.iload 5, 2) := by decide +kernel
theorem dX12_leastTakeWins_42 : decode cX12_leastTakeWins 42 = .ok (.if_icmp .ne 7, 3) := by decide +kernel
theorem dX12_leastTakeWins_45 : decode cX12_leastTakeWins 45 = .ok (.iconst 1, 1) := by decide +kernel
theorem dX12_leastTakeWins_46 : decode cX12_leastTakeWins 46 = .ok (.goto 4, 3) := by decide +kernel
theorem dX12_leastTakeWins_49 : decode cX12_leastTakeWins 49 = .ok (.iconst 0, 1) := by decide +kernel
theorem dX12_leastTakeWins_50 : decode cX12_leastTakeWins 50 = .ok (.istore 6, 2) := by decide +kernel
theorem dX12_leastTakeWins_52 : decode cX12_leastTakeWins 52 = .ok (.iload_n 3, 1) := by decide +kernel
theorem dX12_leastTakeWins_53 : decode cX12_leastTakeWins 53 = .ok (.ifCond .ne 28, 3) := by decide +kernel
theorem dX12_leastTakeWins_56 : decode cX12_leastTakeWins 56 = .ok (.iload 6, 2) := by decide +kernel
theorem dX12_leastTakeWins_58 : decode cX12_leastTakeWins 58 = .ok (.ifCond .eq 27, 3) := by decide +kernel
theorem dX12_leastTakeWins_61 : decode cX12_leastTakeWins 61 = .ok (.aload_n 0, 1) := by decide +kernel
theorem dX12_leastTakeWins_62 : decode cX12_leastTakeWins 62 = .ok (.getfield 46, 3) := by decide +kernel
theorem dX12_leastTakeWins_65 : decode cX12_leastTakeWins 65 = .ok (.bipush 21, 2) := by decide +kernel
theorem dX12_leastTakeWins_67 : decode cX12_leastTakeWins 67 = .ok (.iload_n 1, 1) := by decide +kernel
theorem dX12_leastTakeWins_68 : decode cX12_leastTakeWins 68 = .ok (.iload 4, 2) := by decide +kernel
theorem dX12_leastTakeWins_70 : decode cX12_leastTakeWins 70 = .ok (.isub, 1) := by decide +kernel
theorem dX12_leastTakeWins_71 : decode cX12_leastTakeWins 71 = .ok (.imul, 1) := by decide +kernel
theorem dX12_leastTakeWins_72 : decode cX12_leastTakeWins 72 = .ok (.iload_n 2, 1) := by decide +kernel
theorem dX12_leastTakeWins_73 : decode cX12_leastTakeWins 73 = .ok (.iadd, 1) := by decide +kernel
theorem dX12_leastTakeWins_74 : decode cX12_leastTakeWins 74 = .ok (.iload 5, 2) := by decide +kernel
theorem dX12_leastTakeWins_76 : decode cX12_leastTakeWins 76 = .ok (.isub, 1) := by decide +kernel
theorem dX12_leastTakeWins_77 : decode cX12_leastTakeWins 77 = .ok (.baload, 1) := by decide +kernel
theorem dX12_leastTakeWins_78 : decode cX12_leastTakeWins 78 = .ok (.ifCond .ne 7, 3) := by decide +kernel
theorem dX12_leastTakeWins_81 : decode cX12_leastTakeWins 81 = .ok (.iconst 1, 1) := by decide +kernel
theorem dX12_leastTakeWins_82 : decode cX12_leastTakeWins 82 = .ok (.goto 4, 3) := by decide +kernel
theorem dX12_leastTakeWins_85 : decode cX12_leastTakeWins 85 = .ok (.iconst 0, 1) := by decide +kernel
theorem dX12_leastTakeWins_86 : decode cX12_leastTakeWins 86 = .ok (.istore_n 3, 1) := by decide +kernel
theorem dX12_leastTakeWins_87 : decode cX12_leastTakeWins 87 = .ok (.iinc 5 1, 3) := by decide +kernel
theorem dX12_leastTakeWins_90 : decode cX12_leastTakeWins 90 = .ok (.goto (-76), 3) := by decide +kernel
theorem dX12_leastTakeWins_93 : decode cX12_leastTakeWins 93 = .ok (.iinc 4 1, 3) := by decide +kernel
theorem dX12_leastTakeWins_96 : decode cX12_leastTakeWins 96 = .ok (.goto (-91), 3) := by decide +kernel
theorem dX12_leastTakeWins_99 : decode cX12_leastTakeWins 99 = .ok (.iload_n 3, 1) := by decide +kernel
theorem dX12_leastTakeWins_100 : decode cX12_leastTakeWins 100 = .ok (.ireturn, 1) := by decide +kernel
theorem dX12_lowest_0 : decode cX12_lowest 0 = .ok (.lload_n 2, 1) := by decide +kernel
theorem dX12_lowest_1 : decode cX12_lowest 1 = .ok (.lstore 5, 2) := by decide +kernel
theorem dX12_lowest_3 : decode cX12_lowest 3 = .ok (.lload_n 0, 1) := by decide +kernel
theorem dX12_lowest_4 : decode cX12_lowest 4 = .ok (.lstore 7, 2) := by decide +kernel
theorem dX12_lowest_6 : decode cX12_lowest 6 = .ok (.lload 7, 2) := by decide +kernel
theorem dX12_lowest_8 : decode cX12_lowest 8 = .ok (.lconst 0, 1) := by decide +kernel
theorem dX12_lowest_9 : decode cX12_lowest 9 = .ok (.lcmp, 1) := by decide +kernel
theorem dX12_lowest_10 : decode cX12_lowest 10 = .ok (.ifCond .eq 21, 3) := by decide +kernel
theorem dX12_lowest_13 : decode cX12_lowest 13 = .ok (.lload 5, 2) := by decide +kernel
theorem dX12_lowest_15 : decode cX12_lowest 15 = .ok (.lload 7, 2) := by decide +kernel
theorem dX12_lowest_17 : decode cX12_lowest 17 = .ok (.lrem, 1) := by decide +kernel
theorem dX12_lowest_18 : decode cX12_lowest 18 = .ok (.lstore 9, 2) := by decide +kernel
theorem dX12_lowest_20 : decode cX12_lowest 20 = .ok (.lload 7, 2) := by decide +kernel
theorem dX12_lowest_22 : decode cX12_lowest 22 = .ok (.lstore 5, 2) := by decide +kernel
theorem dX12_lowest_24 : decode cX12_lowest 24 = .ok (.lload 9, 2) := by decide +kernel
theorem dX12_lowest_26 : decode cX12_lowest 26 = .ok (.lstore 7, 2) := by decide +kernel
theorem dX12_lowest_28 : decode cX12_lowest 28 = .ok (.goto (-22), 3) := by decide +kernel
theorem dX12_lowest_31 : decode cX12_lowest 31 = .ok (.iload 4, 2) := by decide +kernel
theorem dX12_lowest_33 : decode cX12_lowest 33 = .ok (.ifCond .ne 10, 3) := by decide +kernel
theorem dX12_lowest_36 : decode cX12_lowest 36 = .ok (.lload_n 0, 1) := by decide +kernel
theorem dX12_lowest_37 : decode cX12_lowest 37 = .ok (.lload 5, 2) := by decide +kernel
theorem dX12_lowest_39 : decode cX12_lowest 39 = .ok (.ldiv, 1) := by decide +kernel
theorem dX12_lowest_40 : decode cX12_lowest 40 = .ok (.goto 7, 3) := by decide +kernel
theorem dX12_lowest_43 : decode cX12_lowest 43 = .ok (.lload_n 2, 1) := by decide +kernel
theorem dX12_lowest_44 : decode cX12_lowest 44 = .ok (.lload 5, 2) := by decide +kernel
theorem dX12_lowest_46 : decode cX12_lowest 46 = .ok (.ldiv, 1) := by decide +kernel
theorem dX12_lowest_47 : decode cX12_lowest 47 = .ok (.lreturn, 1) := by decide +kernel
theorem dX12_lengths_0 : decode cX12_lengths 0 = .ok (.iload_n 1, 1) := by decide +kernel
theorem dX12_lengths_1 : decode cX12_lengths 1 = .ok (.i2l, 1) := by decide +kernel
theorem dX12_lengths_2 : decode cX12_lengths 2 = .ok (.lconst 0, 1) := by decide +kernel
theorem dX12_lengths_3 : decode cX12_lengths 3 = .ok (.ldc2_w 259, 3) := by decide +kernel
theorem dX12_lengths_6 : decode cX12_lengths 6 = .ok (.invokestatic 66, 3) := by decide +kernel
theorem dX12_lengths_9 : decode cX12_lengths 9 = .ok (.ifCond .eq 49, 3) := by decide +kernel
theorem dX12_lengths_12 : decode cX12_lengths 12 = .ok (.iload_n 2, 1) := by decide +kernel
theorem dX12_lengths_13 : decode cX12_lengths 13 = .ok (.i2l, 1) := by decide +kernel
theorem dX12_lengths_14 : decode cX12_lengths 14 = .ok (.lconst 0, 1) := by decide +kernel
theorem dX12_lengths_15 : decode cX12_lengths 15 = .ok (.ldc2_w 259, 3) := by decide +kernel
theorem dX12_lengths_18 : decode cX12_lengths 18 = .ok (.invokestatic 66, 3) := by decide +kernel
theorem dX12_lengths_21 : decode cX12_lengths 21 = .ok (.ifCond .eq 37, 3) := by decide +kernel
theorem dX12_lengths_24 : decode cX12_lengths 24 = .ok (.iload_n 3, 1) := by decide +kernel
theorem dX12_lengths_25 : decode cX12_lengths 25 = .ok (.i2l, 1) := by decide +kernel
theorem dX12_lengths_26 : decode cX12_lengths 26 = .ok (.lconst 0, 1) := by decide +kernel
theorem dX12_lengths_27 : decode cX12_lengths 27 = .ok (.ldc2_w 261, 3) := by decide +kernel
theorem dX12_lengths_30 : decode cX12_lengths 30 = .ok (.invokestatic 66, 3) := by decide +kernel
theorem dX12_lengths_33 : decode cX12_lengths 33 = .ok (.ifCond .eq 25, 3) := by decide +kernel
theorem dX12_lengths_36 : decode cX12_lengths 36 = .ok (.iload 4, 2) := by decide +kernel
theorem dX12_lengths_38 : decode cX12_lengths 38 = .ok (.i2l, 1) := by decide +kernel
theorem dX12_lengths_39 : decode cX12_lengths 39 = .ok (.lconst 0, 1) := by decide +kernel
theorem dX12_lengths_40 : decode cX12_lengths 40 = .ok (.lconst 1, 1) := by decide +kernel
theorem dX12_lengths_41 : decode cX12_lengths 41 = .ok (.invokestatic 66, 3) := by decide +kernel
theorem dX12_lengths_44 : decode cX12_lengths 44 = .ok (.ifCond .eq 14, 3) := by decide +kernel
theorem dX12_lengths_47 : decode cX12_lengths 47 = .ok (.iload 5, 2) := by decide +kernel
theorem dX12_lengths_49 : decode cX12_lengths 49 = .ok (.i2l, 1) := by decide +kernel
theorem dX12_lengths_50 : decode cX12_lengths 50 = .ok (.lconst 0, 1) := by decide +kernel
theorem dX12_lengths_51 : decode cX12_lengths 51 = .ok (.lconst 1, 1) := by decide +kernel
theorem dX12_lengths_52 : decode cX12_lengths 52 = .ok (.invokestatic 66, 3) := by decide +kernel
theorem dX12_lengths_55 : decode cX12_lengths 55 = .ok (.ifCond .ne 7, 3) := by decide +kernel
theorem dX12_lengths_58 : decode cX12_lengths 58 = .ok (.ldc2_w 263, 3) := by decide +kernel
theorem dX12_lengths_61 : decode cX12_lengths 61 = .ok (.lreturn, 1) := by decide +kernel
theorem dX12_lengths_62 : decode cX12_lengths 62 = .ok (.iconst 0, 1) := by decide +kernel
theorem dX12_lengths_63 : decode cX12_lengths 63 = .ok (.istore 6, 2) := by decide +kernel
theorem dX12_lengths_65 : decode cX12_lengths 65 = .ok (.iload 6, 2) := by decide +kernel
theorem dX12_lengths_67 : decode cX12_lengths 67 = .ok (.bipush 14, 2) := by decide +kernel
theorem dX12_lengths_69 : decode cX12_lengths 69 = .ok (.if_icmp .ge 26, 3) := by decide +kernel
theorem dX12_lengths_72 : decode cX12_lengths 72 = .ok (.aload_n 0, 1) := by decide +kernel
theorem dX12_lengths_73 : decode cX12_lengths 73 = .ok (.getfield 50, 3) := by decide +kernel
theorem dX12_lengths_76 : decode cX12_lengths 76 = .ok (.iload 6, 2) := by decide +kernel
theorem dX12_lengths_78 : decode cX12_lengths 78 = .ok (.iload 6, 2) := by decide +kernel
theorem dX12_lengths_80 : decode cX12_lengths 80 = .ok (.ifCond .ne 7, 3) := by decide +kernel
theorem dX12_lengths_83 : decode cX12_lengths 83 = .ok (.lconst 1, 1) := by decide +kernel
theorem dX12_lengths_84 : decode cX12_lengths 84 = .ok (.goto 4, 3) := by decide +kernel
theorem dX12_lengths_87 : decode cX12_lengths 87 = .ok (.lconst 0, 1) := by decide +kernel
theorem dX12_lengths_88 : decode cX12_lengths 88 = .ok (.lastore, 1) := by decide +kernel
theorem dX12_lengths_89 : decode cX12_lengths 89 = .ok (.iinc 6 1, 3) := by decide +kernel
theorem dX12_lengths_92 : decode cX12_lengths 92 = .ok (.goto (-27), 3) := by decide +kernel
theorem dX12_lengths_95 : decode cX12_lengths 95 = .ok (.lconst 1, 1) := by decide +kernel
theorem dX12_lengths_96 : decode cX12_lengths 96 = .ok (.lstore 6, 2) := by decide +kernel
theorem dX12_lengths_98 : decode cX12_lengths 98 = .ok (.iconst 0, 1) := by decide +kernel
theorem dX12_lengths_99 : decode cX12_lengths 99 = .ok (.istore 8, 2) := by decide +kernel
theorem dX12_lengths_101 : decode cX12_lengths 101 = .ok (.iload 8, 2) := by decide +kernel
theorem dX12_lengths_103 : decode cX12_lengths 103 = .ok (.iload_n 2, 1) := by decide +kernel
theorem dX12_lengths_104 : decode cX12_lengths 104 = .ok (.if_icmp .ge 75, 3) := by decide +kernel
theorem dX12_lengths_107 : decode cX12_lengths 107 = .ok (.lload 6, 2) := by decide +kernel
theorem dX12_lengths_109 : decode cX12_lengths 109 = .ok (.ldc2_w 261, 3) := by decide +kernel
theorem dX12_lengths_112 : decode cX12_lengths 112 = .ok (.lmul, 1) := by decide +kernel
theorem dX12_lengths_113 : decode cX12_lengths 113 = .ok (.lstore 6, 2) := by decide +kernel
theorem dX12_lengths_115 : decode cX12_lengths 115 = .ok (.bipush 13, 2) := by decide +kernel
theorem dX12_lengths_117 : decode cX12_lengths 117 = .ok (.istore 9, 2) := by decide +kernel
theorem dX12_lengths_119 : decode cX12_lengths 119 = .ok (.iload 9, 2) := by decide +kernel
theorem dX12_lengths_121 : decode cX12_lengths 121 = .ok (.ifCond .lt 52, 3) := by decide +kernel
theorem dX12_lengths_124 : decode cX12_lengths 124 = .ok (.aload_n 0, 1) := by decide +kernel
theorem dX12_lengths_125 : decode cX12_lengths 125 = .ok (.getfield 50, 3) := by decide +kernel
theorem dX12_lengths_128 : decode cX12_lengths 128 = .ok (.iload 9, 2) := by decide +kernel
theorem dX12_lengths_130 : decode cX12_lengths 130 = .ok (.ldc2_w 261, 3) := by decide +kernel
theorem dX12_lengths_133 : decode cX12_lengths 133 = .ok (.iload_n 3, 1) := by decide +kernel
theorem dX12_lengths_134 : decode cX12_lengths 134 = .ok (.i2l, 1) := by decide +kernel
theorem dX12_lengths_135 : decode cX12_lengths 135 = .ok (.lsub, 1) := by decide +kernel
theorem dX12_lengths_136 : decode cX12_lengths 136 = .ok (.aload_n 0, 1) := by decide +kernel
theorem dX12_lengths_137 : decode cX12_lengths 137 = .ok (.getfield 50, 3) := by decide +kernel
theorem dX12_lengths_140 : decode cX12_lengths 140 = .ok (.iload 9, 2) := by decide +kernel
theorem dX12_lengths_142 : decode cX12_lengths 142 = .ok (.laload, 1) := by decide +kernel
theorem dX12_lengths_143 : decode cX12_lengths 143 = .ok (.lmul, 1) := by decide +kernel
theorem dX12_lengths_144 : decode cX12_lengths 144 = .ok (.iload 9, 2) := by decide +kernel
theorem dX12_lengths_146 : decode cX12_lengths 146 = .ok (.ifCond .le 18, 3) := by decide +kernel
theorem dX12_lengths_149 : decode cX12_lengths 149 = .ok (.iload_n 3, 1) := by decide +kernel
theorem dX12_lengths_150 : decode cX12_lengths 150 = .ok (.i2l, 1) := by decide +kernel
theorem dX12_lengths_151 : decode cX12_lengths 151 = .ok (.aload_n 0, 1) := by decide +kernel
theorem dX12_lengths_152 : decode cX12_lengths 152 = .ok (.getfield 50, 3) := by decide +kernel
theorem dX12_lengths_155 : decode cX12_lengths 155 = .ok (.iload 9, 2) := by decide +kernel
theorem dX12_lengths_157 : decode cX12_lengths 157 = .ok (.iconst 1, 1) := by decide +kernel
theorem dX12_lengths_158 : decode cX12_lengths 158 = .ok (.isub, 1) := by decide +kernel
theorem dX12_lengths_159 : decode cX12_lengths 159 = .ok (.laload, 1) := by decide +kernel
theorem dX12_lengths_160 : decode cX12_lengths 160 = .ok (.lmul, 1) := by decide +kernel
theorem dX12_lengths_161 : decode cX12_lengths 161 = .ok (.goto 4, 3) := by decide +kernel
theorem dX12_lengths_164 : decode cX12_lengths 164 = .ok (.lconst 0, 1) := by decide +kernel
theorem dX12_lengths_165 : decode cX12_lengths 165 = .ok (.ladd, 1) := by decide +kernel
theorem dX12_lengths_166 : decode cX12_lengths 166 = .ok (.lastore, 1) := by decide +kernel
theorem dX12_lengths_167 : decode cX12_lengths 167 = .ok (.iinc 9 (-1), 3) := by decide +kernel
theorem dX12_lengths_170 : decode cX12_lengths 170 = .ok (.goto (-51), 3) := by decide +kernel
theorem dX12_lengths_173 : decode cX12_lengths 173 = .ok (.iinc 8 1, 3) := by decide +kernel
theorem dX12_lengths_176 : decode cX12_lengths 176 = .ok (.goto (-75), 3) := by decide +kernel
theorem dX12_lengths_179 : decode cX12_lengths 179 = .ok (.lconst 0, 1) := by decide +kernel
theorem dX12_lengths_180 : decode cX12_lengths 180 = .ok (.lstore 8, 2) := by decide +kernel
theorem dX12_lengths_182 : decode cX12_lengths 182 = .ok (.lconst 0, 1) := by decide +kernel
theorem dX12_lengths_183 : decode cX12_lengths 183 = .ok (.lstore 10, 2) := by decide +kernel
theorem dX12_lengths_185 : decode cX12_lengths 185 = .ok (.iconst 0, 1) := by decide +kernel
theorem dX12_lengths_186 : decode cX12_lengths 186 = .ok (.istore 12, 2) := by decide +kernel
theorem dX12_lengths_188 : decode cX12_lengths 188 = .ok (.iload 12, 2) := by decide +kernel
theorem dX12_lengths_190 : decode cX12_lengths 190 = .ok (.iload_n 2, 1) := by decide +kernel
theorem dX12_lengths_191 : decode cX12_lengths 191 = .ok (.if_icmp .gt 51, 3) := by decide +kernel
theorem dX12_lengths_194 : decode cX12_lengths 194 = .ok (.lload 8, 2) := by decide +kernel
theorem dX12_lengths_196 : decode cX12_lengths 196 = .ok (.iload 12, 2) := by decide +kernel
theorem dX12_lengths_198 : decode cX12_lengths 198 = .ok (.iload_n 1, 1) := by decide +kernel
theorem dX12_lengths_199 : decode cX12_lengths 199 = .ok (.if_icmp .lt 13, 3) := by decide +kernel
theorem dX12_lengths_202 : decode cX12_lengths 202 = .ok (.aload_n 0, 1) := by decide +kernel
theorem dX12_lengths_203 : decode cX12_lengths 203 = .ok (.getfield 50, 3) := by decide +kernel
theorem dX12_lengths_206 : decode cX12_lengths 206 = .ok (.iload 12, 2) := by decide +kernel
theorem dX12_lengths_208 : decode cX12_lengths 208 = .ok (.laload, 1) := by decide +kernel
theorem dX12_lengths_209 : decode cX12_lengths 209 = .ok (.goto 4, 3) := by decide +kernel
theorem dX12_lengths_212 : decode cX12_lengths 212 = .ok (.lconst 0, 1) := by decide +kernel
theorem dX12_lengths_213 : decode cX12_lengths 213 = .ok (.ladd, 1) := by decide +kernel
theorem dX12_lengths_214 : decode cX12_lengths 214 = .ok (.lstore 8, 2) := by decide +kernel
theorem dX12_lengths_216 : decode cX12_lengths 216 = .ok (.lload 10, 2) := by decide +kernel
theorem dX12_lengths_218 : decode cX12_lengths 218 = .ok (.iload 12, 2) := by decide +kernel
theorem dX12_lengths_220 : decode cX12_lengths 220 = .ok (.iload_n 1, 1) := by decide +kernel
theorem dX12_lengths_221 : decode cX12_lengths 221 = .ok (.invokestatic 198, 3) := by decide +kernel
theorem dX12_lengths_224 : decode cX12_lengths 224 = .ok (.i2l, 1) := by decide +kernel
theorem dX12_lengths_225 : decode cX12_lengths 225 = .ok (.aload_n 0, 1) := by decide +kernel
theorem dX12_lengths_226 : decode cX12_lengths 226 = .ok (.getfield 50, 3) := by decide +kernel
theorem dX12_lengths_229 : decode cX12_lengths 229 = .ok (.iload 12, 2) := by decide +kernel
theorem dX12_lengths_231 : decode cX12_lengths 231 = .ok (.laload, 1) := by decide +kernel
theorem dX12_lengths_232 : decode cX12_lengths 232 = .ok (.lmul, 1) := by decide +kernel
theorem dX12_lengths_233 : decode cX12_lengths 233 = .ok (.ladd, 1) := by decide +kernel
theorem dX12_lengths_234 : decode cX12_lengths 234 = .ok (.lstore 10, 2) := by decide +kernel
theorem dX12_lengths_236 : decode cX12_lengths 236 = .ok (.iinc 12 1, 3) := by decide +kernel
theorem dX12_lengths_239 : decode cX12_lengths 239 = .ok (.goto (-51), 3) := by decide +kernel
theorem dX12_lengths_242 : decode cX12_lengths 242 = .ok (.iload 4, 2) := by decide +kernel
theorem dX12_lengths_244 : decode cX12_lengths 244 = .ok (.ifCond .ne 8, 3) := by decide +kernel
theorem dX12_lengths_247 : decode cX12_lengths 247 = .ok (.lload 8, 2) := by decide +kernel
theorem dX12_lengths_249 : decode cX12_lengths 249 = .ok (.goto 5, 3) := by decide +kernel
theorem dX12_lengths_252 : decode cX12_lengths 252 = .ok (.lload 10, 2) := by decide +kernel
theorem dX12_lengths_254 : decode cX12_lengths 254 = .ok (.lload 6, 2) := by decide +kernel
theorem dX12_lengths_256 : decode cX12_lengths 256 = .ok (.iload 5, 2) := by decide +kernel
theorem dX12_lengths_258 : decode cX12_lengths 258 = .ok (.invokestatic 265, 3) := by decide +kernel
theorem dX12_lengths_261 : decode cX12_lengths 261 = .ok (.lreturn, 1) := by decide +kernel
theorem dX12_actBy_0 : decode cX12_actBy 0 = .ok (.iload_n 0, 1) := by decide +kernel
theorem dX12_actBy_1 : decode cX12_actBy 1 = .ok (.tableswitch 53 0 6 #[43, 43, 45, 45, 47, 49, 51], 43) := by decide +kernel
theorem dX12_actBy_44 : decode cX12_actBy 44 = .ok (.iconst 0, 1) := by decide +kernel
theorem dX12_actBy_45 : decode cX12_actBy 45 = .ok (.ireturn, 1) := by decide +kernel
theorem dX12_actBy_46 : decode cX12_actBy 46 = .ok (.iconst 1, 1) := by decide +kernel
theorem dX12_actBy_47 : decode cX12_actBy 47 = .ok (.ireturn, 1) := by decide +kernel
theorem dX12_actBy_48 : decode cX12_actBy 48 = .ok (.iconst 2, 1) := by decide +kernel
theorem dX12_actBy_49 : decode cX12_actBy 49 = .ok (.ireturn, 1) := by decide +kernel
theorem dX12_actBy_50 : decode cX12_actBy 50 = .ok (.iconst 3, 1) := by decide +kernel
theorem dX12_actBy_51 : decode cX12_actBy 51 = .ok (.ireturn, 1) := by decide +kernel
theorem dX12_actBy_52 : decode cX12_actBy 52 = .ok (.iconst 4, 1) := by decide +kernel
theorem dX12_actBy_53 : decode cX12_actBy 53 = .ok (.ireturn, 1) := by decide +kernel
theorem dX12_actBy_54 : decode cX12_actBy 54 = .ok (.iconst 5, 1) := by decide +kernel
theorem dX12_actBy_55 : decode cX12_actBy 55 = .ok (.ireturn, 1) := by decide +kernel
theorem dX12_year_0 : decode cX12_year 0 = .ok (.iload_n 1, 1) := by decide +kernel
theorem dX12_year_1 : decode cX12_year 1 = .ok (.i2l, 1) := by decide +kernel
theorem dX12_year_2 : decode cX12_year 2 = .ok (.lconst 0, 1) := by decide +kernel
theorem dX12_year_3 : decode cX12_year 3 = .ok (.ldc2_w 269, 3) := by decide +kernel
theorem dX12_year_6 : decode cX12_year 6 = .ok (.invokestatic 66, 3) := by decide +kernel
theorem dX12_year_9 : decode cX12_year 9 = .ok (.ifCond .eq 27, 3) := by decide +kernel
theorem dX12_year_12 : decode cX12_year 12 = .ok (.iload_n 2, 1) := by decide +kernel
theorem dX12_year_13 : decode cX12_year 13 = .ok (.i2l, 1) := by decide +kernel
theorem dX12_year_14 : decode cX12_year 14 = .ok (.lconst 1, 1) := by decide +kernel
theorem dX12_year_15 : decode cX12_year 15 = .ok (.ldc2_w 82, 3) := by decide +kernel
theorem dX12_year_18 : decode cX12_year 18 = .ok (.invokestatic 66, 3) := by decide +kernel
theorem dX12_year_21 : decode cX12_year 21 = .ok (.ifCond .eq 15, 3) := by decide +kernel
theorem dX12_year_24 : decode cX12_year 24 = .ok (.iload_n 3, 1) := by decide +kernel
theorem dX12_year_25 : decode cX12_year 25 = .ok (.i2l, 1) := by decide +kernel
theorem dX12_year_26 : decode cX12_year 26 = .ok (.lconst 0, 1) := by decide +kernel
theorem dX12_year_27 : decode cX12_year 27 = .ok (.ldc2_w 188, 3) := by decide +kernel
theorem dX12_year_30 : decode cX12_year 30 = .ok (.invokestatic 66, 3) := by decide +kernel
theorem dX12_year_33 : decode cX12_year 33 = .ok (.ifCond .ne 6, 3) := by decide +kernel
theorem dX12_year_36 : decode cX12_year 36 = .ok (.bipush (-2), 2) := by decide +kernel
theorem dX12_year_38 : decode cX12_year 38 = .ok (.ireturn, 1) := by decide +kernel
theorem dX12_year_39 : decode cX12_year 39 = .ok (.aload_n 0, 1) := by decide +kernel
theorem dX12_year_40 : decode cX12_year 40 = .ok (.invokevirtual 179, 3) := by decide +kernel
theorem dX12_year_43 : decode cX12_year 43 = .ok (.iload_n 1, 1) := by decide +kernel
theorem dX12_year_44 : decode cX12_year 44 = .ok (.istore 4, 2) := by decide +kernel
theorem dX12_year_46 : decode cX12_year 46 = .ok (.iconst 0, 1) := by decide +kernel
theorem dX12_year_47 : decode cX12_year 47 = .ok (.istore 5, 2) := by decide +kernel
theorem dX12_year_49 : decode cX12_year 49 = .ok (.iload 5, 2) := by decide +kernel
theorem dX12_year_51 : decode cX12_year 51 = .ok (.iload_n 2, 1) := by decide +kernel
theorem dX12_year_52 : decode cX12_year 52 = .ok (.if_icmp .ge 83, 3) := by decide +kernel
theorem dX12_year_55 : decode cX12_year 55 = .ok (.ldc2_w 271, 3) := by decide +kernel
theorem dX12_year_58 : decode cX12_year 58 = .ok (.iload 4, 2) := by decide +kernel
theorem dX12_year_60 : decode cX12_year 60 = .ok (.i2l, 1) := by decide +kernel
theorem dX12_year_61 : decode cX12_year 61 = .ok (.lmul, 1) := by decide +kernel
theorem dX12_year_62 : decode cX12_year 62 = .ok (.ldc2_w 108, 3) := by decide +kernel
theorem dX12_year_65 : decode cX12_year 65 = .ok (.ladd, 1) := by decide +kernel
theorem dX12_year_66 : decode cX12_year 66 = .ok (.ldc2_w 273, 3) := by decide +kernel
theorem dX12_year_69 : decode cX12_year 69 = .ok (.lrem, 1) := by decide +kernel
theorem dX12_year_70 : decode cX12_year 70 = .ok (.l2i, 1) := by decide +kernel
theorem dX12_year_71 : decode cX12_year 71 = .ok (.istore 4, 2) := by decide +kernel
theorem dX12_year_73 : decode cX12_year 73 = .ok (.iload 4, 2) := by decide +kernel
theorem dX12_year_75 : decode cX12_year 75 = .ok (.bipush 8, 2) := by decide +kernel
theorem dX12_year_77 : decode cX12_year 77 = .ok (.irem, 1) := by decide +kernel
theorem dX12_year_78 : decode cX12_year 78 = .ok (.invokestatic 275, 3) := by decide +kernel
theorem dX12_year_81 : decode cX12_year 81 = .ok (.istore 6, 2) := by decide +kernel
theorem dX12_year_83 : decode cX12_year 83 = .ok (.iload 4, 2) := by decide +kernel
theorem dX12_year_85 : decode cX12_year 85 = .ok (.bipush 8, 2) := by decide +kernel
theorem dX12_year_87 : decode cX12_year 87 = .ok (.idiv, 1) := by decide +kernel
theorem dX12_year_88 : decode cX12_year 88 = .ok (.iload 6, 2) := by decide +kernel
theorem dX12_year_90 : decode cX12_year 90 = .ok (.iconst 2, 1) := by decide +kernel
theorem dX12_year_91 : decode cX12_year 91 = .ok (.if_icmp .eq 9, 3) := by decide +kernel
theorem dX12_year_94 : decode cX12_year 94 = .ok (.iload 6, 2) := by decide +kernel
theorem dX12_year_96 : decode cX12_year 96 = .ok (.iconst 3, 1) := by decide +kernel
theorem dX12_year_97 : decode cX12_year 97 = .ok (.if_icmp .ne 8, 3) := by decide +kernel
theorem dX12_year_100 : decode cX12_year 100 = .ok (.bipush 8, 2) := by decide +kernel
theorem dX12_year_102 : decode cX12_year 102 = .ok (.goto 5, 3) := by decide +kernel
theorem dX12_year_105 : decode cX12_year 105 = .ok (.bipush 10, 2) := by decide +kernel
theorem dX12_year_107 : decode cX12_year 107 = .ok (.irem, 1) := by decide +kernel
theorem dX12_year_108 : decode cX12_year 108 = .ok (.istore 7, 2) := by decide +kernel
theorem dX12_year_110 : decode cX12_year 110 = .ok (.aload_n 0, 1) := by decide +kernel
theorem dX12_year_111 : decode cX12_year 111 = .ok (.iload 6, 2) := by decide +kernel
theorem dX12_year_113 : decode cX12_year 113 = .ok (.iload 7, 2) := by decide +kernel
theorem dX12_year_115 : decode cX12_year 115 = .ok (.invokevirtual 173, 3) := by decide +kernel
theorem dX12_year_118 : decode cX12_year 118 = .ok (.ifCond .ne 11, 3) := by decide +kernel
theorem dX12_year_121 : decode cX12_year 121 = .ok (.aload_n 0, 1) := by decide +kernel
theorem dX12_year_122 : decode cX12_year 122 = .ok (.iload 6, 2) := by decide +kernel
theorem dX12_year_124 : decode cX12_year 124 = .ok (.iload 7, 2) := by decide +kernel
theorem dX12_year_126 : decode cX12_year 126 = .ok (.invokevirtual 157, 3) := by decide +kernel
theorem dX12_year_129 : decode cX12_year 129 = .ok (.iinc 5 1, 3) := by decide +kernel
theorem dX12_year_132 : decode cX12_year 132 = .ok (.goto (-83), 3) := by decide +kernel
theorem dX12_year_135 : decode cX12_year 135 = .ok (.iload_n 3, 1) := by decide +kernel
theorem dX12_year_136 : decode cX12_year 136 = .ok (.ifCond .ne 10, 3) := by decide +kernel
theorem dX12_year_139 : decode cX12_year 139 = .ok (.aload_n 0, 1) := by decide +kernel
theorem dX12_year_140 : decode cX12_year 140 = .ok (.getfield 84, 3) := by decide +kernel
theorem dX12_year_143 : decode cX12_year 143 = .ok (.goto 22, 3) := by decide +kernel
theorem dX12_year_146 : decode cX12_year 146 = .ok (.iload_n 3, 1) := by decide +kernel
theorem dX12_year_147 : decode cX12_year 147 = .ok (.iconst 1, 1) := by decide +kernel
theorem dX12_year_148 : decode cX12_year 148 = .ok (.if_icmp .ne 13, 3) := by decide +kernel
theorem dX12_year_151 : decode cX12_year 151 = .ok (.aload_n 0, 1) := by decide +kernel
theorem dX12_year_152 : decode cX12_year 152 = .ok (.getfield 93, 3) := by decide +kernel
theorem dX12_year_155 : decode cX12_year 155 = .ok (.invokestatic 204, 3) := by decide +kernel
theorem dX12_year_158 : decode cX12_year 158 = .ok (.goto 7, 3) := by decide +kernel
theorem dX12_year_161 : decode cX12_year 161 = .ok (.aload_n 0, 1) := by decide +kernel
theorem dX12_year_162 : decode cX12_year 162 = .ok (.invokevirtual 78, 3) := by decide +kernel
theorem dX12_year_165 : decode cX12_year 165 = .ok (.istore 5, 2) := by decide +kernel
theorem dX12_year_167 : decode cX12_year 167 = .ok (.aload_n 0, 1) := by decide +kernel
theorem dX12_year_168 : decode cX12_year 168 = .ok (.iload 5, 2) := by decide +kernel
theorem dX12_year_170 : decode cX12_year 170 = .ok (.invokevirtual 193, 3) := by decide +kernel
theorem dX12_year_173 : decode cX12_year 173 = .ok (.ireturn, 1) := by decide +kernel
theorem dX12_pass_0 : decode cX12_pass 0 = .ok (.aload_n 0, 1) := by decide +kernel
theorem dX12_pass_1 : decode cX12_pass 1 = .ok (.getfield 278, 3) := by decide +kernel
theorem dX12_pass_4 : decode cX12_pass 4 = .ok (.ifCond .eq 7, 3) := by decide +kernel
theorem dX12_pass_7 : decode cX12_pass 7 = .ok (.iload_n 1, 1) := by decide +kernel
theorem dX12_pass_8 : decode cX12_pass 8 = .ok (.goto 12, 3) := by decide +kernel
theorem dX12_pass_11 : decode cX12_pass 11 = .ok (.aload_n 0, 1) := by decide +kernel
theorem dX12_pass_12 : decode cX12_pass 12 = .ok (.getfield 54, 3) := by decide +kernel
theorem dX12_pass_15 : decode cX12_pass 15 = .ok (.aload_n 0, 1) := by decide +kernel
theorem dX12_pass_16 : decode cX12_pass 16 = .ok (.getfield 282, 3) := by decide +kernel
theorem dX12_pass_19 : decode cX12_pass 19 = .ok (.iaload, 1) := by decide +kernel
theorem dX12_pass_20 : decode cX12_pass 20 = .ok (.istore_n 2, 1) := by decide +kernel
theorem dX12_pass_21 : decode cX12_pass 21 = .ok (.aload_n 0, 1) := by decide +kernel
theorem dX12_pass_22 : decode cX12_pass 22 = .ok (.getfield 54, 3) := by decide +kernel
theorem dX12_pass_25 : decode cX12_pass 25 = .ok (.aload_n 0, 1) := by decide +kernel
theorem dX12_pass_26 : decode cX12_pass 26 = .ok (.getfield 282, 3) := by decide +kernel
theorem dX12_pass_29 : decode cX12_pass 29 = .ok (.iload_n 2, 1) := by decide +kernel
theorem dX12_pass_30 : decode cX12_pass 30 = .ok (.iastore, 1) := by decide +kernel
theorem dX12_pass_31 : decode cX12_pass 31 = .ok (.aload_n 0, 1) := by decide +kernel
theorem dX12_pass_32 : decode cX12_pass 32 = .ok (.dup, 1) := by decide +kernel
theorem dX12_pass_33 : decode cX12_pass 33 = .ok (.getfield 282, 3) := by decide +kernel
theorem dX12_pass_36 : decode cX12_pass 36 = .ok (.iconst 1, 1) := by decide +kernel
theorem dX12_pass_37 : decode cX12_pass 37 = .ok (.iadd, 1) := by decide +kernel
theorem dX12_pass_38 : decode cX12_pass 38 = .ok (.putfield 282, 3) := by decide +kernel
theorem dX12_pass_41 : decode cX12_pass 41 = .ok (.iload_n 2, 1) := by decide +kernel
theorem dX12_pass_42 : decode cX12_pass 42 = .ok (.ireturn, 1) := by decide +kernel
theorem dX12_passRow_0 : decode cX12_passRow 0 = .ok (.iconst 0, 1) := by decide +kernel
theorem dX12_passRow_1 : decode cX12_passRow 1 = .ok (.istore_n 3, 1) := by decide +kernel
theorem dX12_passRow_2 : decode cX12_passRow 2 = .ok (.iload_n 3, 1) := by decide +kernel
theorem dX12_passRow_3 : decode cX12_passRow 3 = .ok (.iload_n 2, 1) := by decide +kernel
theorem dX12_passRow_4 : decode cX12_passRow 4 = .ok (.if_icmp .ge 19, 3) := by decide +kernel
theorem dX12_passRow_7 : decode cX12_passRow 7 = .ok (.aload_n 1, 1) := by decide +kernel
theorem dX12_passRow_8 : decode cX12_passRow 8 = .ok (.iload_n 3, 1) := by decide +kernel
theorem dX12_passRow_9 : decode cX12_passRow 9 = .ok (.aload_n 0, 1) := by decide +kernel
theorem dX12_passRow_10 : decode cX12_passRow 10 = .ok (.aload_n 1, 1) := by decide +kernel
theorem dX12_passRow_11 : decode cX12_passRow 11 = .ok (.iload_n 3, 1) := by decide +kernel
theorem dX12_passRow_12 : decode cX12_passRow 12 = .ok (.iaload, 1) := by decide +kernel
theorem dX12_passRow_13 : decode cX12_passRow 13 = .ok (.invokevirtual 285, 3) := by decide +kernel
theorem dX12_passRow_16 : decode cX12_passRow 16 = .ok (.iastore, 1) := by decide +kernel
theorem dX12_passRow_17 : decode cX12_passRow 17 = .ok (.iinc 3 1, 3) := by decide +kernel
theorem dX12_passRow_20 : decode cX12_passRow 20 = .ok (.goto (-18), 3) := by decide +kernel
theorem dX12_passRow_23 : decode cX12_passRow 23 = .ok (.return_, 1) := by decide +kernel
theorem dX12_passAll_0 : decode cX12_passAll 0 = .ok (.aload_n 0, 1) := by decide +kernel
theorem dX12_passAll_1 : decode cX12_passAll 1 = .ok (.aload_n 0, 1) := by decide +kernel
theorem dX12_passAll_2 : decode cX12_passAll 2 = .ok (.aload_n 0, 1) := by decide +kernel
theorem dX12_passAll_3 : decode cX12_passAll 3 = .ok (.getfield 87, 3) := by decide +kernel
theorem dX12_passAll_6 : decode cX12_passAll 6 = .ok (.invokevirtual 285, 3) := by decide +kernel
theorem dX12_passAll_9 : decode cX12_passAll 9 = .ok (.putfield 87, 3) := by decide +kernel
theorem dX12_passAll_12 : decode cX12_passAll 12 = .ok (.aload_n 0, 1) := by decide +kernel
theorem dX12_passAll_13 : decode cX12_passAll 13 = .ok (.aload_n 0, 1) := by decide +kernel
theorem dX12_passAll_14 : decode cX12_passAll 14 = .ok (.aload_n 0, 1) := by decide +kernel
theorem dX12_passAll_15 : decode cX12_passAll 15 = .ok (.getfield 90, 3) := by decide +kernel
theorem dX12_passAll_18 : decode cX12_passAll 18 = .ok (.invokevirtual 285, 3) := by decide +kernel
theorem dX12_passAll_21 : decode cX12_passAll 21 = .ok (.putfield 90, 3) := by decide +kernel
theorem dX12_passAll_24 : decode cX12_passAll 24 = .ok (.aload_n 0, 1) := by decide +kernel
theorem dX12_passAll_25 : decode cX12_passAll 25 = .ok (.aload_n 0, 1) := by decide +kernel
theorem dX12_passAll_26 : decode cX12_passAll 26 = .ok (.aload_n 0, 1) := by decide +kernel
theorem dX12_passAll_27 : decode cX12_passAll 27 = .ok (.getfield 93, 3) := by decide +kernel
theorem dX12_passAll_30 : decode cX12_passAll 30 = .ok (.invokevirtual 285, 3) := by decide +kernel
theorem dX12_passAll_33 : decode cX12_passAll 33 = .ok (.putfield 93, 3) := by decide +kernel
theorem dX12_passAll_36 : decode cX12_passAll 36 = .ok (.aload_n 0, 1) := by decide +kernel
theorem dX12_passAll_37 : decode cX12_passAll 37 = .ok (.aload_n 0, 1) := by decide +kernel
theorem dX12_passAll_38 : decode cX12_passAll 38 = .ok (.aload_n 0, 1) := by decide +kernel
theorem dX12_passAll_39 : decode cX12_passAll 39 = .ok (.getfield 84, 3) := by decide +kernel
theorem dX12_passAll_42 : decode cX12_passAll 42 = .ok (.invokevirtual 285, 3) := by decide +kernel
theorem dX12_passAll_45 : decode cX12_passAll 45 = .ok (.putfield 84, 3) := by decide +kernel
theorem dX12_passAll_48 : decode cX12_passAll 48 = .ok (.aload_n 0, 1) := by decide +kernel
theorem dX12_passAll_49 : decode cX12_passAll 49 = .ok (.aload_n 0, 1) := by decide +kernel
theorem dX12_passAll_50 : decode cX12_passAll 50 = .ok (.aload_n 0, 1) := by decide +kernel
theorem dX12_passAll_51 : decode cX12_passAll 51 = .ok (.getfield 60, 3) := by decide +kernel
theorem dX12_passAll_54 : decode cX12_passAll 54 = .ok (.invokevirtual 285, 3) := by decide +kernel
theorem dX12_passAll_57 : decode cX12_passAll 57 = .ok (.putfield 60, 3) := by decide +kernel
theorem dX12_passAll_60 : decode cX12_passAll 60 = .ok (.aload_n 0, 1) := by decide +kernel
theorem dX12_passAll_61 : decode cX12_passAll 61 = .ok (.aload_n 0, 1) := by decide +kernel
theorem dX12_passAll_62 : decode cX12_passAll 62 = .ok (.aload_n 0, 1) := by decide +kernel
theorem dX12_passAll_63 : decode cX12_passAll 63 = .ok (.getfield 239, 3) := by decide +kernel
theorem dX12_passAll_66 : decode cX12_passAll 66 = .ok (.invokevirtual 285, 3) := by decide +kernel
theorem dX12_passAll_69 : decode cX12_passAll 69 = .ok (.putfield 239, 3) := by decide +kernel
theorem dX12_passAll_72 : decode cX12_passAll 72 = .ok (.aload_n 0, 1) := by decide +kernel
theorem dX12_passAll_73 : decode cX12_passAll 73 = .ok (.aload_n 0, 1) := by decide +kernel
theorem dX12_passAll_74 : decode cX12_passAll 74 = .ok (.getfield 7, 3) := by decide +kernel
theorem dX12_passAll_77 : decode cX12_passAll 77 = .ok (.bipush 10, 2) := by decide +kernel
theorem dX12_passAll_79 : decode cX12_passAll 79 = .ok (.invokevirtual 288, 3) := by decide +kernel
theorem dX12_passAll_82 : decode cX12_passAll 82 = .ok (.aload_n 0, 1) := by decide +kernel
theorem dX12_passAll_83 : decode cX12_passAll 83 = .ok (.aload_n 0, 1) := by decide +kernel
theorem dX12_passAll_84 : decode cX12_passAll 84 = .ok (.getfield 13, 3) := by decide +kernel
theorem dX12_passAll_87 : decode cX12_passAll 87 = .ok (.bipush 10, 2) := by decide +kernel
theorem dX12_passAll_89 : decode cX12_passAll 89 = .ok (.invokevirtual 288, 3) := by decide +kernel
theorem dX12_passAll_92 : decode cX12_passAll 92 = .ok (.aload_n 0, 1) := by decide +kernel
theorem dX12_passAll_93 : decode cX12_passAll 93 = .ok (.aload_n 0, 1) := by decide +kernel
theorem dX12_passAll_94 : decode cX12_passAll 94 = .ok (.getfield 16, 3) := by decide +kernel
theorem dX12_passAll_97 : decode cX12_passAll 97 = .ok (.bipush 10, 2) := by decide +kernel
theorem dX12_passAll_99 : decode cX12_passAll 99 = .ok (.invokevirtual 288, 3) := by decide +kernel
theorem dX12_passAll_102 : decode cX12_passAll 102 = .ok (.aload_n 0, 1) := by decide +kernel
theorem dX12_passAll_103 : decode cX12_passAll 103 = .ok (.aload_n 0, 1) := by decide +kernel
theorem dX12_passAll_104 : decode cX12_passAll 104 = .ok (.getfield 19, 3) := by decide +kernel
theorem dX12_passAll_107 : decode cX12_passAll 107 = .ok (.bipush 8, 2) := by decide +kernel
theorem dX12_passAll_109 : decode cX12_passAll 109 = .ok (.invokevirtual 288, 3) := by decide +kernel
theorem dX12_passAll_112 : decode cX12_passAll 112 = .ok (.aload_n 0, 1) := by decide +kernel
theorem dX12_passAll_113 : decode cX12_passAll 113 = .ok (.aload_n 0, 1) := by decide +kernel
theorem dX12_passAll_114 : decode cX12_passAll 114 = .ok (.getfield 22, 3) := by decide +kernel
theorem dX12_passAll_117 : decode cX12_passAll 117 = .ok (.bipush 8, 2) := by decide +kernel
theorem dX12_passAll_119 : decode cX12_passAll 119 = .ok (.invokevirtual 288, 3) := by decide +kernel
theorem dX12_passAll_122 : decode cX12_passAll 122 = .ok (.return_, 1) := by decide +kernel
theorem dX12_image_0 : decode cX12_image 0 = .ok (.iload_n 1, 1) := by decide +kernel
theorem dX12_image_1 : decode cX12_image 1 = .ok (.i2l, 1) := by decide +kernel
theorem dX12_image_2 : decode cX12_image 2 = .ok (.lconst 0, 1) := by decide +kernel
theorem dX12_image_3 : decode cX12_image 3 = .ok (.lconst 1, 1) := by decide +kernel
theorem dX12_image_4 : decode cX12_image 4 = .ok (.invokestatic 66, 3) := by decide +kernel
theorem dX12_image_7 : decode cX12_image 7 = .ok (.ifCond .ne 6, 3) := by decide +kernel
theorem dX12_image_10 : decode cX12_image 10 = .ok (.bipush (-2), 2) := by decide +kernel
theorem dX12_image_12 : decode cX12_image 12 = .ok (.ireturn, 1) := by decide +kernel
theorem dX12_image_13 : decode cX12_image 13 = .ok (.aload_n 0, 1) := by decide +kernel
theorem dX12_image_14 : decode cX12_image 14 = .ok (.bipush 60, 2) := by decide +kernel
theorem dX12_image_16 : decode cX12_image 16 = .ok (.iload_n 1, 1) := by decide +kernel
theorem dX12_image_17 : decode cX12_image 17 = .ok (.imul, 1) := by decide +kernel
theorem dX12_image_18 : decode cX12_image 18 = .ok (.putfield 282, 3) := by decide +kernel
theorem dX12_image_21 : decode cX12_image 21 = .ok (.aload_n 0, 1) := by decide +kernel
theorem dX12_image_22 : decode cX12_image 22 = .ok (.iconst 1, 1) := by decide +kernel
theorem dX12_image_23 : decode cX12_image 23 = .ok (.putfield 278, 3) := by decide +kernel
theorem dX12_image_26 : decode cX12_image 26 = .ok (.aload_n 0, 1) := by decide +kernel
theorem dX12_image_27 : decode cX12_image 27 = .ok (.invokevirtual 292, 3) := by decide +kernel
theorem dX12_image_30 : decode cX12_image 30 = .ok (.aload_n 0, 1) := by decide +kernel
theorem dX12_image_31 : decode cX12_image 31 = .ok (.getfield 57, 3) := by decide +kernel
theorem dX12_image_34 : decode cX12_image 34 = .ok (.iload_n 1, 1) := by decide +kernel
theorem dX12_image_35 : decode cX12_image 35 = .ok (.iconst 1, 1) := by decide +kernel
theorem dX12_image_36 : decode cX12_image 36 = .ok (.bastore, 1) := by decide +kernel
theorem dX12_image_37 : decode cX12_image 37 = .ok (.iconst 1, 1) := by decide +kernel
theorem dX12_image_38 : decode cX12_image 38 = .ok (.ireturn, 1) := by decide +kernel
theorem dX12_restore_0 : decode cX12_restore 0 = .ok (.iload_n 1, 1) := by decide +kernel
theorem dX12_restore_1 : decode cX12_restore 1 = .ok (.i2l, 1) := by decide +kernel
theorem dX12_restore_2 : decode cX12_restore 2 = .ok (.lconst 0, 1) := by decide +kernel
theorem dX12_restore_3 : decode cX12_restore 3 = .ok (.lconst 1, 1) := by decide +kernel
theorem dX12_restore_4 : decode cX12_restore 4 = .ok (.invokestatic 66, 3) := by decide +kernel
theorem dX12_restore_7 : decode cX12_restore 7 = .ok (.ifCond .ne 6, 3) := by decide +kernel
theorem dX12_restore_10 : decode cX12_restore 10 = .ok (.bipush (-2), 2) := by decide +kernel
theorem dX12_restore_12 : decode cX12_restore 12 = .ok (.ireturn, 1) := by decide +kernel
theorem dX12_restore_13 : decode cX12_restore 13 = .ok (.aload_n 0, 1) := by decide +kernel
theorem dX12_restore_14 : decode cX12_restore 14 = .ok (.getfield 57, 3) := by decide +kernel
theorem dX12_restore_17 : decode cX12_restore 17 = .ok (.iload_n 1, 1) := by decide +kernel
theorem dX12_restore_18 : decode cX12_restore 18 = .ok (.baload, 1) := by decide +kernel
theorem dX12_restore_19 : decode cX12_restore 19 = .ok (.ifCond .ne 6, 3) := by decide +kernel
theorem dX12_restore_22 : decode cX12_restore 22 = .ok (.bipush (-3), 2) := by decide +kernel
theorem dX12_restore_24 : decode cX12_restore 24 = .ok (.ireturn, 1) := by decide +kernel
theorem dX12_restore_25 : decode cX12_restore 25 = .ok (.aload_n 0, 1) := by decide +kernel
theorem dX12_restore_26 : decode cX12_restore 26 = .ok (.bipush 60, 2) := by decide +kernel
theorem dX12_restore_28 : decode cX12_restore 28 = .ok (.iload_n 1, 1) := by decide +kernel
theorem dX12_restore_29 : decode cX12_restore 29 = .ok (.imul, 1) := by decide +kernel
theorem dX12_restore_30 : decode cX12_restore 30 = .ok (.putfield 282, 3) := by decide +kernel
theorem dX12_restore_33 : decode cX12_restore 33 = .ok (.aload_n 0, 1) := by decide +kernel
theorem dX12_restore_34 : decode cX12_restore 34 = .ok (.iconst 0, 1) := by decide +kernel
theorem dX12_restore_35 : decode cX12_restore 35 = .ok (.putfield 278, 3) := by decide +kernel
theorem dX12_restore_38 : decode cX12_restore 38 = .ok (.aload_n 0, 1) := by decide +kernel
theorem dX12_restore_39 : decode cX12_restore 39 = .ok (.invokevirtual 292, 3) := by decide +kernel
theorem dX12_restore_42 : decode cX12_restore 42 = .ok (.iconst 1, 1) := by decide +kernel
theorem dX12_restore_43 : decode cX12_restore 43 = .ok (.ireturn, 1) := by decide +kernel
theorem dX12_told_0 : decode cX12_told 0 = .ok (.iload_n 1, 1) := by decide +kernel
theorem dX12_told_1 : decode cX12_told 1 = .ok (.i2l, 1) := by decide +kernel
theorem dX12_told_2 : decode cX12_told 2 = .ok (.ldc2_w 295, 3) := by decide +kernel
theorem dX12_told_5 : decode cX12_told 5 = .ok (.ldc2_w 297, 3) := by decide +kernel
theorem dX12_told_8 : decode cX12_told 8 = .ok (.invokestatic 66, 3) := by decide +kernel
theorem dX12_told_11 : decode cX12_told 11 = .ok (.ifCond .eq 47, 3) := by decide +kernel
theorem dX12_told_14 : decode cX12_told 14 = .ok (.iload_n 1, 1) := by decide +kernel
theorem dX12_told_15 : decode cX12_told 15 = .ok (.bipush 100, 2) := by decide +kernel
theorem dX12_told_17 : decode cX12_told 17 = .ok (.isub, 1) := by decide +kernel
theorem dX12_told_18 : decode cX12_told 18 = .ok (.bipush 10, 2) := by decide +kernel
theorem dX12_told_20 : decode cX12_told 20 = .ok (.idiv, 1) := by decide +kernel
theorem dX12_told_21 : decode cX12_told 21 = .ok (.istore_n 2, 1) := by decide +kernel
theorem dX12_told_22 : decode cX12_told 22 = .ok (.iload_n 1, 1) := by decide +kernel
theorem dX12_told_23 : decode cX12_told 23 = .ok (.bipush 10, 2) := by decide +kernel
theorem dX12_told_25 : decode cX12_told 25 = .ok (.irem, 1) := by decide +kernel
theorem dX12_told_26 : decode cX12_told 26 = .ok (.ifCond .ne 12, 3) := by decide +kernel
theorem dX12_told_29 : decode cX12_told 29 = .ok (.aload_n 0, 1) := by decide +kernel
theorem dX12_told_30 : decode cX12_told 30 = .ok (.getfield 13, 3) := by decide +kernel
theorem dX12_told_33 : decode cX12_told 33 = .ok (.iload_n 2, 1) := by decide +kernel
theorem dX12_told_34 : decode cX12_told 34 = .ok (.iaload, 1) := by decide +kernel
theorem dX12_told_35 : decode cX12_told 35 = .ok (.goto 22, 3) := by decide +kernel
theorem dX12_told_38 : decode cX12_told 38 = .ok (.iload_n 1, 1) := by decide +kernel
theorem dX12_told_39 : decode cX12_told 39 = .ok (.bipush 10, 2) := by decide +kernel
theorem dX12_told_41 : decode cX12_told 41 = .ok (.irem, 1) := by decide +kernel
theorem dX12_told_42 : decode cX12_told 42 = .ok (.iconst 1, 1) := by decide +kernel
theorem dX12_told_43 : decode cX12_told 43 = .ok (.if_icmp .ne 12, 3) := by decide +kernel
theorem dX12_told_46 : decode cX12_told 46 = .ok (.aload_n 0, 1) := by decide +kernel
theorem dX12_told_47 : decode cX12_told 47 = .ok (.getfield 16, 3) := by decide +kernel
theorem dX12_told_50 : decode cX12_told 50 = .ok (.iload_n 2, 1) := by decide +kernel
theorem dX12_told_51 : decode cX12_told 51 = .ok (.iaload, 1) := by decide +kernel
theorem dX12_told_52 : decode cX12_told 52 = .ok (.goto 5, 3) := by decide +kernel
theorem dX12_told_55 : decode cX12_told 55 = .ok (.bipush (-2), 2) := by decide +kernel
theorem dX12_told_57 : decode cX12_told 57 = .ok (.ireturn, 1) := by decide +kernel
theorem dX12_told_58 : decode cX12_told 58 = .ok (.iload_n 1, 1) := by decide +kernel
theorem dX12_told_59 : decode cX12_told 59 = .ok (.i2l, 1) := by decide +kernel
theorem dX12_told_60 : decode cX12_told 60 = .ok (.ldc2_w 261, 3) := by decide +kernel
theorem dX12_told_63 : decode cX12_told 63 = .ok (.ldc2_w 299, 3) := by decide +kernel
theorem dX12_told_66 : decode cX12_told 66 = .ok (.invokestatic 66, 3) := by decide +kernel
theorem dX12_told_69 : decode cX12_told 69 = .ok (.ifCond .eq 13, 3) := by decide +kernel
theorem dX12_told_72 : decode cX12_told 72 = .ok (.aload_n 0, 1) := by decide +kernel
theorem dX12_told_73 : decode cX12_told 73 = .ok (.getfield 7, 3) := by decide +kernel
theorem dX12_told_76 : decode cX12_told 76 = .ok (.iload_n 1, 1) := by decide +kernel
theorem dX12_told_77 : decode cX12_told 77 = .ok (.bipush 10, 2) := by decide +kernel
theorem dX12_told_79 : decode cX12_told 79 = .ok (.isub, 1) := by decide +kernel
theorem dX12_told_80 : decode cX12_told 80 = .ok (.iaload, 1) := by decide +kernel
theorem dX12_told_81 : decode cX12_told 81 = .ok (.ireturn, 1) := by decide +kernel
theorem dX12_told_82 : decode cX12_told 82 = .ok (.iload_n 1, 1) := by decide +kernel
theorem dX12_told_83 : decode cX12_told 83 = .ok (.tableswitch 76 0 6 #[41, 46, 51, 56, 61, 66, 71], 41) := by decide +kernel
theorem dX12_told_124 : decode cX12_told 124 = .ok (.aload_n 0, 1) := by decide +kernel
theorem dX12_told_125 : decode cX12_told 125 = .ok (.getfield 100, 3) := by decide +kernel
theorem dX12_told_128 : decode cX12_told 128 = .ok (.ireturn, 1) := by decide +kernel
theorem dX12_told_129 : decode cX12_told 129 = .ok (.aload_n 0, 1) := by decide +kernel
theorem dX12_told_130 : decode cX12_told 130 = .ok (.getfield 87, 3) := by decide +kernel
theorem dX12_told_133 : decode cX12_told 133 = .ok (.ireturn, 1) := by decide +kernel
theorem dX12_told_134 : decode cX12_told 134 = .ok (.aload_n 0, 1) := by decide +kernel
theorem dX12_told_135 : decode cX12_told 135 = .ok (.getfield 90, 3) := by decide +kernel
theorem dX12_told_138 : decode cX12_told 138 = .ok (.ireturn, 1) := by decide +kernel
theorem dX12_told_139 : decode cX12_told 139 = .ok (.aload_n 0, 1) := by decide +kernel
theorem dX12_told_140 : decode cX12_told 140 = .ok (.getfield 93, 3) := by decide +kernel
theorem dX12_told_143 : decode cX12_told 143 = .ok (.ireturn, 1) := by decide +kernel
theorem dX12_told_144 : decode cX12_told 144 = .ok (.aload_n 0, 1) := by decide +kernel
theorem dX12_told_145 : decode cX12_told 145 = .ok (.getfield 84, 3) := by decide +kernel
theorem dX12_told_148 : decode cX12_told 148 = .ok (.ireturn, 1) := by decide +kernel
theorem dX12_told_149 : decode cX12_told 149 = .ok (.aload_n 0, 1) := by decide +kernel
theorem dX12_told_150 : decode cX12_told 150 = .ok (.getfield 60, 3) := by decide +kernel
theorem dX12_told_153 : decode cX12_told 153 = .ok (.ireturn, 1) := by decide +kernel
theorem dX12_told_154 : decode cX12_told 154 = .ok (.aload_n 0, 1) := by decide +kernel
theorem dX12_told_155 : decode cX12_told 155 = .ok (.getfield 239, 3) := by decide +kernel
theorem dX12_told_158 : decode cX12_told 158 = .ok (.ireturn, 1) := by decide +kernel
theorem dX12_told_159 : decode cX12_told 159 = .ok (.bipush (-2), 2) := by decide +kernel
theorem dX12_told_161 : decode cX12_told 161 = .ok (.ireturn, 1) := by decide +kernel
theorem dJ6_bitCount_0f7a4_0 : decode cJ6_bitCount_0f7a4 0 = .ok (.iload_n 0, 1) := by decide +kernel
theorem dJ6_bitCount_0f7a4_1 : decode cJ6_bitCount_0f7a4 1 = .ok (.iload_n 0, 1) := by decide +kernel
theorem dJ6_bitCount_0f7a4_2 : decode cJ6_bitCount_0f7a4 2 = .ok (.iconst 1, 1) := by decide +kernel
theorem dJ6_bitCount_0f7a4_3 : decode cJ6_bitCount_0f7a4 3 = .ok (.iushr, 1) := by decide +kernel
theorem dJ6_bitCount_0f7a4_4 : decode cJ6_bitCount_0f7a4 4 = .ok (.ldc_w 265, 3) := by decide +kernel
theorem dJ6_bitCount_0f7a4_7 : decode cJ6_bitCount_0f7a4 7 = .ok (.iand, 1) := by decide +kernel
theorem dJ6_bitCount_0f7a4_8 : decode cJ6_bitCount_0f7a4 8 = .ok (.isub, 1) := by decide +kernel
theorem dJ6_bitCount_0f7a4_9 : decode cJ6_bitCount_0f7a4 9 = .ok (.istore_n 0, 1) := by decide +kernel
theorem dJ6_bitCount_0f7a4_10 : decode cJ6_bitCount_0f7a4 10 = .ok (.iload_n 0, 1) := by decide +kernel
theorem dJ6_bitCount_0f7a4_11 : decode cJ6_bitCount_0f7a4 11 = .ok (.ldc_w 266, 3) := by decide +kernel
theorem dJ6_bitCount_0f7a4_14 : decode cJ6_bitCount_0f7a4 14 = .ok (.iand, 1) := by decide +kernel
theorem dJ6_bitCount_0f7a4_15 : decode cJ6_bitCount_0f7a4 15 = .ok (.iload_n 0, 1) := by decide +kernel
theorem dJ6_bitCount_0f7a4_16 : decode cJ6_bitCount_0f7a4 16 = .ok (.iconst 2, 1) := by decide +kernel
theorem dJ6_bitCount_0f7a4_17 : decode cJ6_bitCount_0f7a4 17 = .ok (.iushr, 1) := by decide +kernel
theorem dJ6_bitCount_0f7a4_18 : decode cJ6_bitCount_0f7a4 18 = .ok (.ldc_w 266, 3) := by decide +kernel
theorem dJ6_bitCount_0f7a4_21 : decode cJ6_bitCount_0f7a4 21 = .ok (.iand, 1) := by decide +kernel
theorem dJ6_bitCount_0f7a4_22 : decode cJ6_bitCount_0f7a4 22 = .ok (.iadd, 1) := by decide +kernel
theorem dJ6_bitCount_0f7a4_23 : decode cJ6_bitCount_0f7a4 23 = .ok (.istore_n 0, 1) := by decide +kernel
theorem dJ6_bitCount_0f7a4_24 : decode cJ6_bitCount_0f7a4 24 = .ok (.iload_n 0, 1) := by decide +kernel
theorem dJ6_bitCount_0f7a4_25 : decode cJ6_bitCount_0f7a4 25 = .ok (.iload_n 0, 1) := by decide +kernel
theorem dJ6_bitCount_0f7a4_26 : decode cJ6_bitCount_0f7a4 26 = .ok (.iconst 4, 1) := by decide +kernel
theorem dJ6_bitCount_0f7a4_27 : decode cJ6_bitCount_0f7a4 27 = .ok (.iushr, 1) := by decide +kernel
theorem dJ6_bitCount_0f7a4_28 : decode cJ6_bitCount_0f7a4 28 = .ok (.iadd, 1) := by decide +kernel
theorem dJ6_bitCount_0f7a4_29 : decode cJ6_bitCount_0f7a4 29 = .ok (.ldc_w 267, 3) := by decide +kernel
theorem dJ6_bitCount_0f7a4_32 : decode cJ6_bitCount_0f7a4 32 = .ok (.iand, 1) := by decide +kernel
theorem dJ6_bitCount_0f7a4_33 : decode cJ6_bitCount_0f7a4 33 = .ok (.istore_n 0, 1) := by decide +kernel
theorem dJ6_bitCount_0f7a4_34 : decode cJ6_bitCount_0f7a4 34 = .ok (.iload_n 0, 1) := by decide +kernel
theorem dJ6_bitCount_0f7a4_35 : decode cJ6_bitCount_0f7a4 35 = .ok (.iload_n 0, 1) := by decide +kernel
theorem dJ6_bitCount_0f7a4_36 : decode cJ6_bitCount_0f7a4 36 = .ok (.bipush 8, 2) := by decide +kernel
theorem dJ6_bitCount_0f7a4_38 : decode cJ6_bitCount_0f7a4 38 = .ok (.iushr, 1) := by decide +kernel
theorem dJ6_bitCount_0f7a4_39 : decode cJ6_bitCount_0f7a4 39 = .ok (.iadd, 1) := by decide +kernel
theorem dJ6_bitCount_0f7a4_40 : decode cJ6_bitCount_0f7a4 40 = .ok (.istore_n 0, 1) := by decide +kernel
theorem dJ6_bitCount_0f7a4_41 : decode cJ6_bitCount_0f7a4 41 = .ok (.iload_n 0, 1) := by decide +kernel
theorem dJ6_bitCount_0f7a4_42 : decode cJ6_bitCount_0f7a4 42 = .ok (.iload_n 0, 1) := by decide +kernel
theorem dJ6_bitCount_0f7a4_43 : decode cJ6_bitCount_0f7a4 43 = .ok (.bipush 16, 2) := by decide +kernel
theorem dJ6_bitCount_0f7a4_45 : decode cJ6_bitCount_0f7a4 45 = .ok (.iushr, 1) := by decide +kernel
theorem dJ6_bitCount_0f7a4_46 : decode cJ6_bitCount_0f7a4 46 = .ok (.iadd, 1) := by decide +kernel
theorem dJ6_bitCount_0f7a4_47 : decode cJ6_bitCount_0f7a4 47 = .ok (.istore_n 0, 1) := by decide +kernel
theorem dJ6_bitCount_0f7a4_48 : decode cJ6_bitCount_0f7a4 48 = .ok (.iload_n 0, 1) := by decide +kernel
theorem dJ6_bitCount_0f7a4_49 : decode cJ6_bitCount_0f7a4 49 = .ok (.bipush 63, 2) := by decide +kernel
theorem dJ6_bitCount_0f7a4_51 : decode cJ6_bitCount_0f7a4 51 = .ok (.iand, 1) := by decide +kernel
theorem dJ6_bitCount_0f7a4_52 : decode cJ6_bitCount_0f7a4 52 = .ok (.ireturn, 1) := by decide +kernel
theorem dJ9_floorDiv_7cf53_0 : decode cJ9_floorDiv_7cf53 0 = .ok (.iload_n 0, 1) := by decide +kernel
theorem dJ9_floorDiv_7cf53_1 : decode cJ9_floorDiv_7cf53 1 = .ok (.iload_n 1, 1) := by decide +kernel
theorem dJ9_floorDiv_7cf53_2 : decode cJ9_floorDiv_7cf53 2 = .ok (.idiv, 1) := by decide +kernel
theorem dJ9_floorDiv_7cf53_3 : decode cJ9_floorDiv_7cf53 3 = .ok (.istore_n 2, 1) := by decide +kernel
theorem dJ9_floorDiv_7cf53_4 : decode cJ9_floorDiv_7cf53 4 = .ok (.iload_n 0, 1) := by decide +kernel
theorem dJ9_floorDiv_7cf53_5 : decode cJ9_floorDiv_7cf53 5 = .ok (.iload_n 1, 1) := by decide +kernel
theorem dJ9_floorDiv_7cf53_6 : decode cJ9_floorDiv_7cf53 6 = .ok (.ixor, 1) := by decide +kernel
theorem dJ9_floorDiv_7cf53_7 : decode cJ9_floorDiv_7cf53 7 = .ok (.ifCond .ge 14, 3) := by decide +kernel
theorem dJ9_floorDiv_7cf53_10 : decode cJ9_floorDiv_7cf53 10 = .ok (.iload_n 2, 1) := by decide +kernel
theorem dJ9_floorDiv_7cf53_11 : decode cJ9_floorDiv_7cf53 11 = .ok (.iload_n 1, 1) := by decide +kernel
theorem dJ9_floorDiv_7cf53_12 : decode cJ9_floorDiv_7cf53 12 = .ok (.imul, 1) := by decide +kernel
theorem dJ9_floorDiv_7cf53_13 : decode cJ9_floorDiv_7cf53 13 = .ok (.iload_n 0, 1) := by decide +kernel
theorem dJ9_floorDiv_7cf53_14 : decode cJ9_floorDiv_7cf53 14 = .ok (.if_icmp .eq 7, 3) := by decide +kernel
theorem dJ9_floorDiv_7cf53_17 : decode cJ9_floorDiv_7cf53 17 = .ok (.iload_n 2, 1) := by decide +kernel
theorem dJ9_floorDiv_7cf53_18 : decode cJ9_floorDiv_7cf53 18 = .ok (.iconst 1, 1) := by decide +kernel
theorem dJ9_floorDiv_7cf53_19 : decode cJ9_floorDiv_7cf53 19 = .ok (.isub, 1) := by decide +kernel
theorem dJ9_floorDiv_7cf53_20 : decode cJ9_floorDiv_7cf53 20 = .ok (.ireturn, 1) := by decide +kernel
theorem dJ9_floorDiv_7cf53_21 : decode cJ9_floorDiv_7cf53 21 = .ok (.iload_n 2, 1) := by decide +kernel
theorem dJ9_floorDiv_7cf53_22 : decode cJ9_floorDiv_7cf53 22 = .ok (.ireturn, 1) := by decide +kernel
theorem dJ9_floorMod_7cf53_0 : decode cJ9_floorMod_7cf53 0 = .ok (.iload_n 0, 1) := by decide +kernel
theorem dJ9_floorMod_7cf53_1 : decode cJ9_floorMod_7cf53 1 = .ok (.iload_n 1, 1) := by decide +kernel
theorem dJ9_floorMod_7cf53_2 : decode cJ9_floorMod_7cf53 2 = .ok (.irem, 1) := by decide +kernel
theorem dJ9_floorMod_7cf53_3 : decode cJ9_floorMod_7cf53 3 = .ok (.istore_n 2, 1) := by decide +kernel
theorem dJ9_floorMod_7cf53_4 : decode cJ9_floorMod_7cf53 4 = .ok (.iload_n 0, 1) := by decide +kernel
theorem dJ9_floorMod_7cf53_5 : decode cJ9_floorMod_7cf53 5 = .ok (.iload_n 1, 1) := by decide +kernel
theorem dJ9_floorMod_7cf53_6 : decode cJ9_floorMod_7cf53 6 = .ok (.ixor, 1) := by decide +kernel
theorem dJ9_floorMod_7cf53_7 : decode cJ9_floorMod_7cf53 7 = .ok (.ifCond .ge 11, 3) := by decide +kernel
theorem dJ9_floorMod_7cf53_10 : decode cJ9_floorMod_7cf53 10 = .ok (.iload_n 2, 1) := by decide +kernel
theorem dJ9_floorMod_7cf53_11 : decode cJ9_floorMod_7cf53 11 = .ok (.ifCond .eq 7, 3) := by decide +kernel
theorem dJ9_floorMod_7cf53_14 : decode cJ9_floorMod_7cf53 14 = .ok (.iload_n 2, 1) := by decide +kernel
theorem dJ9_floorMod_7cf53_15 : decode cJ9_floorMod_7cf53 15 = .ok (.iload_n 1, 1) := by decide +kernel
theorem dJ9_floorMod_7cf53_16 : decode cJ9_floorMod_7cf53 16 = .ok (.iadd, 1) := by decide +kernel
theorem dJ9_floorMod_7cf53_17 : decode cJ9_floorMod_7cf53 17 = .ok (.ireturn, 1) := by decide +kernel
theorem dJ9_floorMod_7cf53_18 : decode cJ9_floorMod_7cf53 18 = .ok (.iload_n 2, 1) := by decide +kernel
theorem dJ9_floorMod_7cf53_19 : decode cJ9_floorMod_7cf53 19 = .ok (.ireturn, 1) := by decide +kernel
theorem dJ9_abs_0f7a4_0 : decode cJ9_abs_0f7a4 0 = .ok (.iload_n 0, 1) := by decide +kernel
theorem dJ9_abs_0f7a4_1 : decode cJ9_abs_0f7a4 1 = .ok (.ifCond .ge 8, 3) := by decide +kernel
theorem dJ9_abs_0f7a4_4 : decode cJ9_abs_0f7a4 4 = .ok (.iload_n 0, 1) := by decide +kernel
theorem dJ9_abs_0f7a4_5 : decode cJ9_abs_0f7a4 5 = .ok (.ineg, 1) := by decide +kernel
theorem dJ9_abs_0f7a4_6 : decode cJ9_abs_0f7a4 6 = .ok (.goto 4, 3) := by decide +kernel
theorem dJ9_abs_0f7a4_9 : decode cJ9_abs_0f7a4 9 = .ok (.iload_n 0, 1) := by decide +kernel
theorem dJ9_abs_0f7a4_10 : decode cJ9_abs_0f7a4 10 = .ok (.ireturn, 1) := by decide +kernel
theorem dJ9_max_7cf53_0 : decode cJ9_max_7cf53 0 = .ok (.iload_n 0, 1) := by decide +kernel
theorem dJ9_max_7cf53_1 : decode cJ9_max_7cf53 1 = .ok (.iload_n 1, 1) := by decide +kernel
theorem dJ9_max_7cf53_2 : decode cJ9_max_7cf53 2 = .ok (.if_icmp .lt 7, 3) := by decide +kernel
theorem dJ9_max_7cf53_5 : decode cJ9_max_7cf53 5 = .ok (.iload_n 0, 1) := by decide +kernel
theorem dJ9_max_7cf53_6 : decode cJ9_max_7cf53 6 = .ok (.goto 4, 3) := by decide +kernel
theorem dJ9_max_7cf53_9 : decode cJ9_max_7cf53 9 = .ok (.iload_n 1, 1) := by decide +kernel
theorem dJ9_max_7cf53_10 : decode cJ9_max_7cf53 10 = .ok (.ireturn, 1) := by decide +kernel
theorem dJ9_max_f86c9_0 : decode cJ9_max_f86c9 0 = .ok (.lload_n 0, 1) := by decide +kernel
theorem dJ9_max_f86c9_1 : decode cJ9_max_f86c9 1 = .ok (.lload_n 2, 1) := by decide +kernel
theorem dJ9_max_f86c9_2 : decode cJ9_max_f86c9 2 = .ok (.lcmp, 1) := by decide +kernel
theorem dJ9_max_f86c9_3 : decode cJ9_max_f86c9 3 = .ok (.ifCond .lt 7, 3) := by decide +kernel
theorem dJ9_max_f86c9_6 : decode cJ9_max_f86c9 6 = .ok (.lload_n 0, 1) := by decide +kernel
theorem dJ9_max_f86c9_7 : decode cJ9_max_f86c9 7 = .ok (.goto 4, 3) := by decide +kernel
theorem dJ9_max_f86c9_10 : decode cJ9_max_f86c9 10 = .ok (.lload_n 2, 1) := by decide +kernel
theorem dJ9_max_f86c9_11 : decode cJ9_max_f86c9 11 = .ok (.lreturn, 1) := by decide +kernel
theorem dJ9_min_7cf53_0 : decode cJ9_min_7cf53 0 = .ok (.iload_n 0, 1) := by decide +kernel
theorem dJ9_min_7cf53_1 : decode cJ9_min_7cf53 1 = .ok (.iload_n 1, 1) := by decide +kernel
theorem dJ9_min_7cf53_2 : decode cJ9_min_7cf53 2 = .ok (.if_icmp .gt 7, 3) := by decide +kernel
theorem dJ9_min_7cf53_5 : decode cJ9_min_7cf53 5 = .ok (.iload_n 0, 1) := by decide +kernel
theorem dJ9_min_7cf53_6 : decode cJ9_min_7cf53 6 = .ok (.goto 4, 3) := by decide +kernel
theorem dJ9_min_7cf53_9 : decode cJ9_min_7cf53 9 = .ok (.iload_n 1, 1) := by decide +kernel
theorem dJ9_min_7cf53_10 : decode cJ9_min_7cf53 10 = .ok (.ireturn, 1) := by decide +kernel
end
section
theorem dL_law_0 : decode cL_law 0 = .ok (.new 7, 3) := by decide +kernel
theorem dL_law_3 : decode cL_law 3 = .ok (.dup, 1) := by decide +kernel
theorem dL_law_4 : decode cL_law 4 = .ok (.invokespecial 9, 3) := by decide +kernel
theorem dL_law_7 : decode cL_law 7 = .ok (.astore_n 1, 1) := by decide +kernel
theorem dL_law_8 : decode cL_law 8 = .ok (.new 10, 3) := by decide +kernel
theorem dL_law_11 : decode cL_law 11 = .ok (.dup, 1) := by decide +kernel
theorem dL_law_12 : decode cL_law 12 = .ok (.invokespecial 12, 3) := by decide +kernel
theorem dL_law_15 : decode cL_law 15 = .ok (.astore_n 2, 1) := by decide +kernel
theorem dL_law_16 : decode cL_law 16 = .ok (.iconst 0, 1) := by decide +kernel
theorem dL_law_17 : decode cL_law 17 = .ok (.istore_n 3, 1) := by decide +kernel
theorem dL_law_18 : decode cL_law 18 = .ok (.iload_n 3, 1) := by decide +kernel
theorem dL_law_19 : decode cL_law 19 = .ok (.aload_n 0, 1) := by decide +kernel
theorem dL_law_20 : decode cL_law 20 = .ok (.arraylength, 1) := by decide +kernel
theorem dL_law_21 : decode cL_law 21 = .ok (.bipush 6, 2) := by decide +kernel
theorem dL_law_23 : decode cL_law 23 = .ok (.isub, 1) := by decide +kernel
theorem dL_law_24 : decode cL_law 24 = .ok (.if_icmp .gt 873, 3) := by decide +kernel
theorem dL_law_27 : decode cL_law 27 = .ok (.aload_n 0, 1) := by decide +kernel
theorem dL_law_28 : decode cL_law 28 = .ok (.iload_n 3, 1) := by decide +kernel
theorem dL_law_29 : decode cL_law 29 = .ok (.iaload, 1) := by decide +kernel
theorem dL_law_30 : decode cL_law 30 = .ok (.bipush 31, 2) := by decide +kernel
theorem dL_law_32 : decode cL_law 32 = .ok (.iand, 1) := by decide +kernel
theorem dL_law_33 : decode cL_law 33 = .ok (.tableswitch 858 0 25 #[119, 162, 175, 208, 251, 274, 287, 300, 323, 356, 379, 402, 415, 448, 481, 514, 547, 580, 593, 616, 639, 682, 746, 789, 812, 835], 119) := by decide +kernel
theorem dL_law_152 : decode cL_law 152 = .ok (.aload_n 1, 1) := by decide +kernel
theorem dL_law_153 : decode cL_law 153 = .ok (.aload_n 0, 1) := by decide +kernel
theorem dL_law_154 : decode cL_law 154 = .ok (.iload_n 3, 1) := by decide +kernel
theorem dL_law_155 : decode cL_law 155 = .ok (.iconst 1, 1) := by decide +kernel
theorem dL_law_156 : decode cL_law 156 = .ok (.iadd, 1) := by decide +kernel
theorem dL_law_157 : decode cL_law 157 = .ok (.iaload, 1) := by decide +kernel
theorem dL_law_158 : decode cL_law 158 = .ok (.aload_n 0, 1) := by decide +kernel
theorem dL_law_159 : decode cL_law 159 = .ok (.iload_n 3, 1) := by decide +kernel
theorem dL_law_160 : decode cL_law 160 = .ok (.iconst 2, 1) := by decide +kernel
theorem dL_law_161 : decode cL_law 161 = .ok (.iadd, 1) := by decide +kernel
theorem dL_law_162 : decode cL_law 162 = .ok (.iaload, 1) := by decide +kernel
theorem dL_law_163 : decode cL_law 163 = .ok (.aload_n 0, 1) := by decide +kernel
theorem dL_law_164 : decode cL_law 164 = .ok (.iload_n 3, 1) := by decide +kernel
theorem dL_law_165 : decode cL_law 165 = .ok (.iconst 3, 1) := by decide +kernel
theorem dL_law_166 : decode cL_law 166 = .ok (.iadd, 1) := by decide +kernel
theorem dL_law_167 : decode cL_law 167 = .ok (.iaload, 1) := by decide +kernel
theorem dL_law_168 : decode cL_law 168 = .ok (.invokevirtual 13, 3) := by decide +kernel
theorem dL_law_171 : decode cL_law 171 = .ok (.aload_n 2, 1) := by decide +kernel
theorem dL_law_172 : decode cL_law 172 = .ok (.aload_n 0, 1) := by decide +kernel
theorem dL_law_173 : decode cL_law 173 = .ok (.iload_n 3, 1) := by decide +kernel
theorem dL_law_174 : decode cL_law 174 = .ok (.iconst 1, 1) := by decide +kernel
theorem dL_law_175 : decode cL_law 175 = .ok (.iadd, 1) := by decide +kernel
theorem dL_law_176 : decode cL_law 176 = .ok (.iaload, 1) := by decide +kernel
theorem dL_law_177 : decode cL_law 177 = .ok (.aload_n 0, 1) := by decide +kernel
theorem dL_law_178 : decode cL_law 178 = .ok (.iload_n 3, 1) := by decide +kernel
theorem dL_law_179 : decode cL_law 179 = .ok (.iconst 2, 1) := by decide +kernel
theorem dL_law_180 : decode cL_law 180 = .ok (.iadd, 1) := by decide +kernel
theorem dL_law_181 : decode cL_law 181 = .ok (.iaload, 1) := by decide +kernel
theorem dL_law_182 : decode cL_law 182 = .ok (.aload_n 0, 1) := by decide +kernel
theorem dL_law_183 : decode cL_law 183 = .ok (.iload_n 3, 1) := by decide +kernel
theorem dL_law_184 : decode cL_law 184 = .ok (.iconst 3, 1) := by decide +kernel
theorem dL_law_185 : decode cL_law 185 = .ok (.iadd, 1) := by decide +kernel
theorem dL_law_186 : decode cL_law 186 = .ok (.iaload, 1) := by decide +kernel
theorem dL_law_187 : decode cL_law 187 = .ok (.invokevirtual 17, 3) := by decide +kernel
theorem dL_law_190 : decode cL_law 190 = .ok (.if_icmp .eq 701, 3) := by decide +kernel
theorem dL_law_193 : decode cL_law 193 = .ok (.iconst 0, 1) := by decide +kernel
theorem dL_law_194 : decode cL_law 194 = .ok (.ireturn, 1) := by decide +kernel
theorem dL_law_195 : decode cL_law 195 = .ok (.aload_n 1, 1) := by decide +kernel
theorem dL_law_196 : decode cL_law 196 = .ok (.invokevirtual 18, 3) := by decide +kernel
theorem dL_law_199 : decode cL_law 199 = .ok (.aload_n 2, 1) := by decide +kernel
theorem dL_law_200 : decode cL_law 200 = .ok (.invokevirtual 22, 3) := by decide +kernel
theorem dL_law_203 : decode cL_law 203 = .ok (.if_icmp .eq 688, 3) := by decide +kernel
theorem dL_law_206 : decode cL_law 206 = .ok (.iconst 0, 1) := by decide +kernel
theorem dL_law_207 : decode cL_law 207 = .ok (.ireturn, 1) := by decide +kernel
theorem dL_law_208 : decode cL_law 208 = .ok (.aload_n 1, 1) := by decide +kernel
theorem dL_law_209 : decode cL_law 209 = .ok (.aload_n 0, 1) := by decide +kernel
theorem dL_law_210 : decode cL_law 210 = .ok (.iload_n 3, 1) := by decide +kernel
theorem dL_law_211 : decode cL_law 211 = .ok (.iconst 1, 1) := by decide +kernel
theorem dL_law_212 : decode cL_law 212 = .ok (.iadd, 1) := by decide +kernel
theorem dL_law_213 : decode cL_law 213 = .ok (.iaload, 1) := by decide +kernel
theorem dL_law_214 : decode cL_law 214 = .ok (.aload_n 0, 1) := by decide +kernel
theorem dL_law_215 : decode cL_law 215 = .ok (.iload_n 3, 1) := by decide +kernel
theorem dL_law_216 : decode cL_law 216 = .ok (.iconst 2, 1) := by decide +kernel
theorem dL_law_217 : decode cL_law 217 = .ok (.iadd, 1) := by decide +kernel
theorem dL_law_218 : decode cL_law 218 = .ok (.iaload, 1) := by decide +kernel
theorem dL_law_219 : decode cL_law 219 = .ok (.invokevirtual 23, 3) := by decide +kernel
theorem dL_law_222 : decode cL_law 222 = .ok (.aload_n 2, 1) := by decide +kernel
theorem dL_law_223 : decode cL_law 223 = .ok (.aload_n 0, 1) := by decide +kernel
theorem dL_law_224 : decode cL_law 224 = .ok (.iload_n 3, 1) := by decide +kernel
theorem dL_law_225 : decode cL_law 225 = .ok (.iconst 1, 1) := by decide +kernel
theorem dL_law_226 : decode cL_law 226 = .ok (.iadd, 1) := by decide +kernel
theorem dL_law_227 : decode cL_law 227 = .ok (.iaload, 1) := by decide +kernel
theorem dL_law_228 : decode cL_law 228 = .ok (.aload_n 0, 1) := by decide +kernel
theorem dL_law_229 : decode cL_law 229 = .ok (.iload_n 3, 1) := by decide +kernel
theorem dL_law_230 : decode cL_law 230 = .ok (.iconst 2, 1) := by decide +kernel
theorem dL_law_231 : decode cL_law 231 = .ok (.iadd, 1) := by decide +kernel
theorem dL_law_232 : decode cL_law 232 = .ok (.iaload, 1) := by decide +kernel
theorem dL_law_233 : decode cL_law 233 = .ok (.invokevirtual 27, 3) := by decide +kernel
theorem dL_law_236 : decode cL_law 236 = .ok (.if_icmp .eq 655, 3) := by decide +kernel
theorem dL_law_239 : decode cL_law 239 = .ok (.iconst 0, 1) := by decide +kernel
theorem dL_law_240 : decode cL_law 240 = .ok (.ireturn, 1) := by decide +kernel
theorem dL_law_241 : decode cL_law 241 = .ok (.aload_n 1, 1) := by decide +kernel
theorem dL_law_242 : decode cL_law 242 = .ok (.aload_n 0, 1) := by decide +kernel
theorem dL_law_243 : decode cL_law 243 = .ok (.iload_n 3, 1) := by decide +kernel
theorem dL_law_244 : decode cL_law 244 = .ok (.iconst 1, 1) := by decide +kernel
theorem dL_law_245 : decode cL_law 245 = .ok (.iadd, 1) := by decide +kernel
theorem dL_law_246 : decode cL_law 246 = .ok (.iaload, 1) := by decide +kernel
theorem dL_law_247 : decode cL_law 247 = .ok (.aload_n 0, 1) := by decide +kernel
theorem dL_law_248 : decode cL_law 248 = .ok (.iload_n 3, 1) := by decide +kernel
theorem dL_law_249 : decode cL_law 249 = .ok (.iconst 2, 1) := by decide +kernel
theorem dL_law_250 : decode cL_law 250 = .ok (.iadd, 1) := by decide +kernel
theorem dL_law_251 : decode cL_law 251 = .ok (.iaload, 1) := by decide +kernel
theorem dL_law_252 : decode cL_law 252 = .ok (.aload_n 0, 1) := by decide +kernel
theorem dL_law_253 : decode cL_law 253 = .ok (.iload_n 3, 1) := by decide +kernel
theorem dL_law_254 : decode cL_law 254 = .ok (.iconst 3, 1) := by decide +kernel
theorem dL_law_255 : decode cL_law 255 = .ok (.iadd, 1) := by decide +kernel
theorem dL_law_256 : decode cL_law 256 = .ok (.iaload, 1) := by decide +kernel
theorem dL_law_257 : decode cL_law 257 = .ok (.invokevirtual 28, 3) := by decide +kernel
theorem dL_law_260 : decode cL_law 260 = .ok (.aload_n 2, 1) := by decide +kernel
theorem dL_law_261 : decode cL_law 261 = .ok (.aload_n 0, 1) := by decide +kernel
theorem dL_law_262 : decode cL_law 262 = .ok (.iload_n 3, 1) := by decide +kernel
theorem dL_law_263 : decode cL_law 263 = .ok (.iconst 1, 1) := by decide +kernel
theorem dL_law_264 : decode cL_law 264 = .ok (.iadd, 1) := by decide +kernel
theorem dL_law_265 : decode cL_law 265 = .ok (.iaload, 1) := by decide +kernel
theorem dL_law_266 : decode cL_law 266 = .ok (.aload_n 0, 1) := by decide +kernel
theorem dL_law_267 : decode cL_law 267 = .ok (.iload_n 3, 1) := by decide +kernel
theorem dL_law_268 : decode cL_law 268 = .ok (.iconst 2, 1) := by decide +kernel
theorem dL_law_269 : decode cL_law 269 = .ok (.iadd, 1) := by decide +kernel
theorem dL_law_270 : decode cL_law 270 = .ok (.iaload, 1) := by decide +kernel
theorem dL_law_271 : decode cL_law 271 = .ok (.aload_n 0, 1) := by decide +kernel
theorem dL_law_272 : decode cL_law 272 = .ok (.iload_n 3, 1) := by decide +kernel
theorem dL_law_273 : decode cL_law 273 = .ok (.iconst 3, 1) := by decide +kernel
theorem dL_law_274 : decode cL_law 274 = .ok (.iadd, 1) := by decide +kernel
theorem dL_law_275 : decode cL_law 275 = .ok (.iaload, 1) := by decide +kernel
theorem dL_law_276 : decode cL_law 276 = .ok (.invokevirtual 31, 3) := by decide +kernel
theorem dL_law_279 : decode cL_law 279 = .ok (.if_icmp .eq 612, 3) := by decide +kernel
theorem dL_law_282 : decode cL_law 282 = .ok (.iconst 0, 1) := by decide +kernel
theorem dL_law_283 : decode cL_law 283 = .ok (.ireturn, 1) := by decide +kernel
theorem dL_law_284 : decode cL_law 284 = .ok (.aload_n 1, 1) := by decide +kernel
theorem dL_law_285 : decode cL_law 285 = .ok (.aload_n 0, 1) := by decide +kernel
theorem dL_law_286 : decode cL_law 286 = .ok (.iload_n 3, 1) := by decide +kernel
theorem dL_law_287 : decode cL_law 287 = .ok (.iconst 1, 1) := by decide +kernel
theorem dL_law_288 : decode cL_law 288 = .ok (.iadd, 1) := by decide +kernel
theorem dL_law_289 : decode cL_law 289 = .ok (.iaload, 1) := by decide +kernel
theorem dL_law_290 : decode cL_law 290 = .ok (.invokevirtual 32, 3) := by decide +kernel
theorem dL_law_293 : decode cL_law 293 = .ok (.aload_n 2, 1) := by decide +kernel
theorem dL_law_294 : decode cL_law 294 = .ok (.aload_n 0, 1) := by decide +kernel
theorem dL_law_295 : decode cL_law 295 = .ok (.iload_n 3, 1) := by decide +kernel
theorem dL_law_296 : decode cL_law 296 = .ok (.iconst 1, 1) := by decide +kernel
theorem dL_law_297 : decode cL_law 297 = .ok (.iadd, 1) := by decide +kernel
theorem dL_law_298 : decode cL_law 298 = .ok (.iaload, 1) := by decide +kernel
theorem dL_law_299 : decode cL_law 299 = .ok (.invokevirtual 36, 3) := by decide +kernel
theorem dL_law_302 : decode cL_law 302 = .ok (.if_icmp .eq 589, 3) := by decide +kernel
theorem dL_law_305 : decode cL_law 305 = .ok (.iconst 0, 1) := by decide +kernel
theorem dL_law_306 : decode cL_law 306 = .ok (.ireturn, 1) := by decide +kernel
theorem dL_law_307 : decode cL_law 307 = .ok (.aload_n 1, 1) := by decide +kernel
theorem dL_law_308 : decode cL_law 308 = .ok (.invokevirtual 37, 3) := by decide +kernel
theorem dL_law_311 : decode cL_law 311 = .ok (.aload_n 2, 1) := by decide +kernel
theorem dL_law_312 : decode cL_law 312 = .ok (.invokevirtual 40, 3) := by decide +kernel
theorem dL_law_315 : decode cL_law 315 = .ok (.if_icmp .eq 576, 3) := by decide +kernel
theorem dL_law_318 : decode cL_law 318 = .ok (.iconst 0, 1) := by decide +kernel
theorem dL_law_319 : decode cL_law 319 = .ok (.ireturn, 1) := by decide +kernel
theorem dL_law_320 : decode cL_law 320 = .ok (.aload_n 1, 1) := by decide +kernel
theorem dL_law_321 : decode cL_law 321 = .ok (.invokevirtual 41, 3) := by decide +kernel
theorem dL_law_324 : decode cL_law 324 = .ok (.aload_n 2, 1) := by decide +kernel
theorem dL_law_325 : decode cL_law 325 = .ok (.invokevirtual 44, 3) := by decide +kernel
theorem dL_law_328 : decode cL_law 328 = .ok (.if_icmp .eq 563, 3) := by decide +kernel
theorem dL_law_331 : decode cL_law 331 = .ok (.iconst 0, 1) := by decide +kernel
theorem dL_law_332 : decode cL_law 332 = .ok (.ireturn, 1) := by decide +kernel
theorem dL_law_333 : decode cL_law 333 = .ok (.aload_n 1, 1) := by decide +kernel
theorem dL_law_334 : decode cL_law 334 = .ok (.aload_n 0, 1) := by decide +kernel
theorem dL_law_335 : decode cL_law 335 = .ok (.iload_n 3, 1) := by decide +kernel
theorem dL_law_336 : decode cL_law 336 = .ok (.iconst 1, 1) := by decide +kernel
theorem dL_law_337 : decode cL_law 337 = .ok (.iadd, 1) := by decide +kernel
theorem dL_law_338 : decode cL_law 338 = .ok (.iaload, 1) := by decide +kernel
theorem dL_law_339 : decode cL_law 339 = .ok (.invokevirtual 45, 3) := by decide +kernel
theorem dL_law_342 : decode cL_law 342 = .ok (.aload_n 2, 1) := by decide +kernel
theorem dL_law_343 : decode cL_law 343 = .ok (.aload_n 0, 1) := by decide +kernel
theorem dL_law_344 : decode cL_law 344 = .ok (.iload_n 3, 1) := by decide +kernel
theorem dL_law_345 : decode cL_law 345 = .ok (.iconst 1, 1) := by decide +kernel
theorem dL_law_346 : decode cL_law 346 = .ok (.iadd, 1) := by decide +kernel
theorem dL_law_347 : decode cL_law 347 = .ok (.iaload, 1) := by decide +kernel
theorem dL_law_348 : decode cL_law 348 = .ok (.invokevirtual 48, 3) := by decide +kernel
theorem dL_law_351 : decode cL_law 351 = .ok (.if_icmp .eq 540, 3) := by decide +kernel
theorem dL_law_354 : decode cL_law 354 = .ok (.iconst 0, 1) := by decide +kernel
theorem dL_law_355 : decode cL_law 355 = .ok (.ireturn, 1) := by decide +kernel
theorem dL_law_356 : decode cL_law 356 = .ok (.aload_n 1, 1) := by decide +kernel
theorem dL_law_357 : decode cL_law 357 = .ok (.aload_n 0, 1) := by decide +kernel
theorem dL_law_358 : decode cL_law 358 = .ok (.iload_n 3, 1) := by decide +kernel
theorem dL_law_359 : decode cL_law 359 = .ok (.iconst 1, 1) := by decide +kernel
theorem dL_law_360 : decode cL_law 360 = .ok (.iadd, 1) := by decide +kernel
theorem dL_law_361 : decode cL_law 361 = .ok (.iaload, 1) := by decide +kernel
theorem dL_law_362 : decode cL_law 362 = .ok (.aload_n 0, 1) := by decide +kernel
theorem dL_law_363 : decode cL_law 363 = .ok (.iload_n 3, 1) := by decide +kernel
theorem dL_law_364 : decode cL_law 364 = .ok (.iconst 2, 1) := by decide +kernel
theorem dL_law_365 : decode cL_law 365 = .ok (.iadd, 1) := by decide +kernel
theorem dL_law_366 : decode cL_law 366 = .ok (.iaload, 1) := by decide +kernel
theorem dL_law_367 : decode cL_law 367 = .ok (.invokevirtual 49, 3) := by decide +kernel
theorem dL_law_370 : decode cL_law 370 = .ok (.aload_n 2, 1) := by decide +kernel
theorem dL_law_371 : decode cL_law 371 = .ok (.aload_n 0, 1) := by decide +kernel
theorem dL_law_372 : decode cL_law 372 = .ok (.iload_n 3, 1) := by decide +kernel
theorem dL_law_373 : decode cL_law 373 = .ok (.iconst 1, 1) := by decide +kernel
theorem dL_law_374 : decode cL_law 374 = .ok (.iadd, 1) := by decide +kernel
theorem dL_law_375 : decode cL_law 375 = .ok (.iaload, 1) := by decide +kernel
theorem dL_law_376 : decode cL_law 376 = .ok (.aload_n 0, 1) := by decide +kernel
theorem dL_law_377 : decode cL_law 377 = .ok (.iload_n 3, 1) := by decide +kernel
theorem dL_law_378 : decode cL_law 378 = .ok (.iconst 2, 1) := by decide +kernel
theorem dL_law_379 : decode cL_law 379 = .ok (.iadd, 1) := by decide +kernel
theorem dL_law_380 : decode cL_law 380 = .ok (.iaload, 1) := by decide +kernel
theorem dL_law_381 : decode cL_law 381 = .ok (.invokevirtual 52, 3) := by decide +kernel
theorem dL_law_384 : decode cL_law 384 = .ok (.if_icmp .eq 507, 3) := by decide +kernel
theorem dL_law_387 : decode cL_law 387 = .ok (.iconst 0, 1) := by decide +kernel
theorem dL_law_388 : decode cL_law 388 = .ok (.ireturn, 1) := by decide +kernel
theorem dL_law_389 : decode cL_law 389 = .ok (.aload_n 1, 1) := by decide +kernel
theorem dL_law_390 : decode cL_law 390 = .ok (.aload_n 0, 1) := by decide +kernel
theorem dL_law_391 : decode cL_law 391 = .ok (.iload_n 3, 1) := by decide +kernel
theorem dL_law_392 : decode cL_law 392 = .ok (.iconst 1, 1) := by decide +kernel
theorem dL_law_393 : decode cL_law 393 = .ok (.iadd, 1) := by decide +kernel
theorem dL_law_394 : decode cL_law 394 = .ok (.iaload, 1) := by decide +kernel
theorem dL_law_395 : decode cL_law 395 = .ok (.invokevirtual 53, 3) := by decide +kernel
theorem dL_law_398 : decode cL_law 398 = .ok (.aload_n 2, 1) := by decide +kernel
theorem dL_law_399 : decode cL_law 399 = .ok (.aload_n 0, 1) := by decide +kernel
theorem dL_law_400 : decode cL_law 400 = .ok (.iload_n 3, 1) := by decide +kernel
theorem dL_law_401 : decode cL_law 401 = .ok (.iconst 1, 1) := by decide +kernel
theorem dL_law_402 : decode cL_law 402 = .ok (.iadd, 1) := by decide +kernel
theorem dL_law_403 : decode cL_law 403 = .ok (.iaload, 1) := by decide +kernel
theorem dL_law_404 : decode cL_law 404 = .ok (.invokevirtual 56, 3) := by decide +kernel
theorem dL_law_407 : decode cL_law 407 = .ok (.if_icmp .eq 484, 3) := by decide +kernel
theorem dL_law_410 : decode cL_law 410 = .ok (.iconst 0, 1) := by decide +kernel
theorem dL_law_411 : decode cL_law 411 = .ok (.ireturn, 1) := by decide +kernel
theorem dL_law_412 : decode cL_law 412 = .ok (.aload_n 1, 1) := by decide +kernel
theorem dL_law_413 : decode cL_law 413 = .ok (.aload_n 0, 1) := by decide +kernel
theorem dL_law_414 : decode cL_law 414 = .ok (.iload_n 3, 1) := by decide +kernel
theorem dL_law_415 : decode cL_law 415 = .ok (.iconst 1, 1) := by decide +kernel
theorem dL_law_416 : decode cL_law 416 = .ok (.iadd, 1) := by decide +kernel
theorem dL_law_417 : decode cL_law 417 = .ok (.iaload, 1) := by decide +kernel
theorem dL_law_418 : decode cL_law 418 = .ok (.invokevirtual 57, 3) := by decide +kernel
theorem dL_law_421 : decode cL_law 421 = .ok (.aload_n 2, 1) := by decide +kernel
theorem dL_law_422 : decode cL_law 422 = .ok (.aload_n 0, 1) := by decide +kernel
theorem dL_law_423 : decode cL_law 423 = .ok (.iload_n 3, 1) := by decide +kernel
theorem dL_law_424 : decode cL_law 424 = .ok (.iconst 1, 1) := by decide +kernel
theorem dL_law_425 : decode cL_law 425 = .ok (.iadd, 1) := by decide +kernel
theorem dL_law_426 : decode cL_law 426 = .ok (.iaload, 1) := by decide +kernel
theorem dL_law_427 : decode cL_law 427 = .ok (.invokevirtual 60, 3) := by decide +kernel
theorem dL_law_430 : decode cL_law 430 = .ok (.if_icmp .eq 461, 3) := by decide +kernel
theorem dL_law_433 : decode cL_law 433 = .ok (.iconst 0, 1) := by decide +kernel
theorem dL_law_434 : decode cL_law 434 = .ok (.ireturn, 1) := by decide +kernel
theorem dL_law_435 : decode cL_law 435 = .ok (.aload_n 1, 1) := by decide +kernel
theorem dL_law_436 : decode cL_law 436 = .ok (.invokevirtual 61, 3) := by decide +kernel
theorem dL_law_439 : decode cL_law 439 = .ok (.aload_n 2, 1) := by decide +kernel
theorem dL_law_440 : decode cL_law 440 = .ok (.invokevirtual 64, 3) := by decide +kernel
theorem dL_law_443 : decode cL_law 443 = .ok (.if_icmp .eq 448, 3) := by decide +kernel
theorem dL_law_446 : decode cL_law 446 = .ok (.iconst 0, 1) := by decide +kernel
theorem dL_law_447 : decode cL_law 447 = .ok (.ireturn, 1) := by decide +kernel
theorem dL_law_448 : decode cL_law 448 = .ok (.aload_n 1, 1) := by decide +kernel
theorem dL_law_449 : decode cL_law 449 = .ok (.aload_n 0, 1) := by decide +kernel
theorem dL_law_450 : decode cL_law 450 = .ok (.iload_n 3, 1) := by decide +kernel
theorem dL_law_451 : decode cL_law 451 = .ok (.iconst 1, 1) := by decide +kernel
theorem dL_law_452 : decode cL_law 452 = .ok (.iadd, 1) := by decide +kernel
theorem dL_law_453 : decode cL_law 453 = .ok (.iaload, 1) := by decide +kernel
theorem dL_law_454 : decode cL_law 454 = .ok (.aload_n 0, 1) := by decide +kernel
theorem dL_law_455 : decode cL_law 455 = .ok (.iload_n 3, 1) := by decide +kernel
theorem dL_law_456 : decode cL_law 456 = .ok (.iconst 2, 1) := by decide +kernel
theorem dL_law_457 : decode cL_law 457 = .ok (.iadd, 1) := by decide +kernel
theorem dL_law_458 : decode cL_law 458 = .ok (.iaload, 1) := by decide +kernel
theorem dL_law_459 : decode cL_law 459 = .ok (.invokevirtual 65, 3) := by decide +kernel
theorem dL_law_462 : decode cL_law 462 = .ok (.aload_n 2, 1) := by decide +kernel
theorem dL_law_463 : decode cL_law 463 = .ok (.aload_n 0, 1) := by decide +kernel
theorem dL_law_464 : decode cL_law 464 = .ok (.iload_n 3, 1) := by decide +kernel
theorem dL_law_465 : decode cL_law 465 = .ok (.iconst 1, 1) := by decide +kernel
theorem dL_law_466 : decode cL_law 466 = .ok (.iadd, 1) := by decide +kernel
theorem dL_law_467 : decode cL_law 467 = .ok (.iaload, 1) := by decide +kernel
theorem dL_law_468 : decode cL_law 468 = .ok (.aload_n 0, 1) := by decide +kernel
theorem dL_law_469 : decode cL_law 469 = .ok (.iload_n 3, 1) := by decide +kernel
theorem dL_law_470 : decode cL_law 470 = .ok (.iconst 2, 1) := by decide +kernel
theorem dL_law_471 : decode cL_law 471 = .ok (.iadd, 1) := by decide +kernel
theorem dL_law_472 : decode cL_law 472 = .ok (.iaload, 1) := by decide +kernel
theorem dL_law_473 : decode cL_law 473 = .ok (.invokevirtual 68, 3) := by decide +kernel
theorem dL_law_476 : decode cL_law 476 = .ok (.if_icmp .eq 415, 3) := by decide +kernel
theorem dL_law_479 : decode cL_law 479 = .ok (.iconst 0, 1) := by decide +kernel
theorem dL_law_480 : decode cL_law 480 = .ok (.ireturn, 1) := by decide +kernel
theorem dL_law_481 : decode cL_law 481 = .ok (.aload_n 1, 1) := by decide +kernel
theorem dL_law_482 : decode cL_law 482 = .ok (.aload_n 0, 1) := by decide +kernel
theorem dL_law_483 : decode cL_law 483 = .ok (.iload_n 3, 1) := by decide +kernel
theorem dL_law_484 : decode cL_law 484 = .ok (.iconst 1, 1) := by decide +kernel
theorem dL_law_485 : decode cL_law 485 = .ok (.iadd, 1) := by decide +kernel
theorem dL_law_486 : decode cL_law 486 = .ok (.iaload, 1) := by decide +kernel
theorem dL_law_487 : decode cL_law 487 = .ok (.aload_n 0, 1) := by decide +kernel
theorem dL_law_488 : decode cL_law 488 = .ok (.iload_n 3, 1) := by decide +kernel
theorem dL_law_489 : decode cL_law 489 = .ok (.iconst 2, 1) := by decide +kernel
theorem dL_law_490 : decode cL_law 490 = .ok (.iadd, 1) := by decide +kernel
theorem dL_law_491 : decode cL_law 491 = .ok (.iaload, 1) := by decide +kernel
theorem dL_law_492 : decode cL_law 492 = .ok (.invokevirtual 69, 3) := by decide +kernel
theorem dL_law_495 : decode cL_law 495 = .ok (.aload_n 2, 1) := by decide +kernel
theorem dL_law_496 : decode cL_law 496 = .ok (.aload_n 0, 1) := by decide +kernel
theorem dL_law_497 : decode cL_law 497 = .ok (.iload_n 3, 1) := by decide +kernel
theorem dL_law_498 : decode cL_law 498 = .ok (.iconst 1, 1) := by decide +kernel
theorem dL_law_499 : decode cL_law 499 = .ok (.iadd, 1) := by decide +kernel
theorem dL_law_500 : decode cL_law 500 = .ok (.iaload, 1) := by decide +kernel
theorem dL_law_501 : decode cL_law 501 = .ok (.aload_n 0, 1) := by decide +kernel
theorem dL_law_502 : decode cL_law 502 = .ok (.iload_n 3, 1) := by decide +kernel
theorem dL_law_503 : decode cL_law 503 = .ok (.iconst 2, 1) := by decide +kernel
theorem dL_law_504 : decode cL_law 504 = .ok (.iadd, 1) := by decide +kernel
theorem dL_law_505 : decode cL_law 505 = .ok (.iaload, 1) := by decide +kernel
theorem dL_law_506 : decode cL_law 506 = .ok (.invokevirtual 72, 3) := by decide +kernel
theorem dL_law_509 : decode cL_law 509 = .ok (.if_icmp .eq 382, 3) := by decide +kernel
theorem dL_law_512 : decode cL_law 512 = .ok (.iconst 0, 1) := by decide +kernel
theorem dL_law_513 : decode cL_law 513 = .ok (.ireturn, 1) := by decide +kernel
theorem dL_law_514 : decode cL_law 514 = .ok (.aload_n 1, 1) := by decide +kernel
theorem dL_law_515 : decode cL_law 515 = .ok (.aload_n 0, 1) := by decide +kernel
theorem dL_law_516 : decode cL_law 516 = .ok (.iload_n 3, 1) := by decide +kernel
theorem dL_law_517 : decode cL_law 517 = .ok (.iconst 1, 1) := by decide +kernel
theorem dL_law_518 : decode cL_law 518 = .ok (.iadd, 1) := by decide +kernel
theorem dL_law_519 : decode cL_law 519 = .ok (.iaload, 1) := by decide +kernel
theorem dL_law_520 : decode cL_law 520 = .ok (.aload_n 0, 1) := by decide +kernel
theorem dL_law_521 : decode cL_law 521 = .ok (.iload_n 3, 1) := by decide +kernel
theorem dL_law_522 : decode cL_law 522 = .ok (.iconst 2, 1) := by decide +kernel
theorem dL_law_523 : decode cL_law 523 = .ok (.iadd, 1) := by decide +kernel
theorem dL_law_524 : decode cL_law 524 = .ok (.iaload, 1) := by decide +kernel
theorem dL_law_525 : decode cL_law 525 = .ok (.invokevirtual 73, 3) := by decide +kernel
theorem dL_law_528 : decode cL_law 528 = .ok (.aload_n 2, 1) := by decide +kernel
theorem dL_law_529 : decode cL_law 529 = .ok (.aload_n 0, 1) := by decide +kernel
theorem dL_law_530 : decode cL_law 530 = .ok (.iload_n 3, 1) := by decide +kernel
theorem dL_law_531 : decode cL_law 531 = .ok (.iconst 1, 1) := by decide +kernel
theorem dL_law_532 : decode cL_law 532 = .ok (.iadd, 1) := by decide +kernel
theorem dL_law_533 : decode cL_law 533 = .ok (.iaload, 1) := by decide +kernel
theorem dL_law_534 : decode cL_law 534 = .ok (.aload_n 0, 1) := by decide +kernel
theorem dL_law_535 : decode cL_law 535 = .ok (.iload_n 3, 1) := by decide +kernel
theorem dL_law_536 : decode cL_law 536 = .ok (.iconst 2, 1) := by decide +kernel
theorem dL_law_537 : decode cL_law 537 = .ok (.iadd, 1) := by decide +kernel
theorem dL_law_538 : decode cL_law 538 = .ok (.iaload, 1) := by decide +kernel
theorem dL_law_539 : decode cL_law 539 = .ok (.invokevirtual 76, 3) := by decide +kernel
theorem dL_law_542 : decode cL_law 542 = .ok (.if_icmp .eq 349, 3) := by decide +kernel
theorem dL_law_545 : decode cL_law 545 = .ok (.iconst 0, 1) := by decide +kernel
theorem dL_law_546 : decode cL_law 546 = .ok (.ireturn, 1) := by decide +kernel
theorem dL_law_547 : decode cL_law 547 = .ok (.aload_n 1, 1) := by decide +kernel
theorem dL_law_548 : decode cL_law 548 = .ok (.aload_n 0, 1) := by decide +kernel
theorem dL_law_549 : decode cL_law 549 = .ok (.iload_n 3, 1) := by decide +kernel
theorem dL_law_550 : decode cL_law 550 = .ok (.iconst 1, 1) := by decide +kernel
theorem dL_law_551 : decode cL_law 551 = .ok (.iadd, 1) := by decide +kernel
theorem dL_law_552 : decode cL_law 552 = .ok (.iaload, 1) := by decide +kernel
theorem dL_law_553 : decode cL_law 553 = .ok (.aload_n 0, 1) := by decide +kernel
theorem dL_law_554 : decode cL_law 554 = .ok (.iload_n 3, 1) := by decide +kernel
theorem dL_law_555 : decode cL_law 555 = .ok (.iconst 2, 1) := by decide +kernel
theorem dL_law_556 : decode cL_law 556 = .ok (.iadd, 1) := by decide +kernel
theorem dL_law_557 : decode cL_law 557 = .ok (.iaload, 1) := by decide +kernel
theorem dL_law_558 : decode cL_law 558 = .ok (.invokevirtual 77, 3) := by decide +kernel
theorem dL_law_561 : decode cL_law 561 = .ok (.aload_n 2, 1) := by decide +kernel
theorem dL_law_562 : decode cL_law 562 = .ok (.aload_n 0, 1) := by decide +kernel
theorem dL_law_563 : decode cL_law 563 = .ok (.iload_n 3, 1) := by decide +kernel
theorem dL_law_564 : decode cL_law 564 = .ok (.iconst 1, 1) := by decide +kernel
theorem dL_law_565 : decode cL_law 565 = .ok (.iadd, 1) := by decide +kernel
theorem dL_law_566 : decode cL_law 566 = .ok (.iaload, 1) := by decide +kernel
theorem dL_law_567 : decode cL_law 567 = .ok (.aload_n 0, 1) := by decide +kernel
theorem dL_law_568 : decode cL_law 568 = .ok (.iload_n 3, 1) := by decide +kernel
theorem dL_law_569 : decode cL_law 569 = .ok (.iconst 2, 1) := by decide +kernel
theorem dL_law_570 : decode cL_law 570 = .ok (.iadd, 1) := by decide +kernel
theorem dL_law_571 : decode cL_law 571 = .ok (.iaload, 1) := by decide +kernel
theorem dL_law_572 : decode cL_law 572 = .ok (.invokevirtual 80, 3) := by decide +kernel
theorem dL_law_575 : decode cL_law 575 = .ok (.if_icmp .eq 316, 3) := by decide +kernel
theorem dL_law_578 : decode cL_law 578 = .ok (.iconst 0, 1) := by decide +kernel
theorem dL_law_579 : decode cL_law 579 = .ok (.ireturn, 1) := by decide +kernel
theorem dL_law_580 : decode cL_law 580 = .ok (.aload_n 1, 1) := by decide +kernel
theorem dL_law_581 : decode cL_law 581 = .ok (.aload_n 0, 1) := by decide +kernel
theorem dL_law_582 : decode cL_law 582 = .ok (.iload_n 3, 1) := by decide +kernel
theorem dL_law_583 : decode cL_law 583 = .ok (.iconst 1, 1) := by decide +kernel
theorem dL_law_584 : decode cL_law 584 = .ok (.iadd, 1) := by decide +kernel
theorem dL_law_585 : decode cL_law 585 = .ok (.iaload, 1) := by decide +kernel
theorem dL_law_586 : decode cL_law 586 = .ok (.aload_n 0, 1) := by decide +kernel
theorem dL_law_587 : decode cL_law 587 = .ok (.iload_n 3, 1) := by decide +kernel
theorem dL_law_588 : decode cL_law 588 = .ok (.iconst 2, 1) := by decide +kernel
theorem dL_law_589 : decode cL_law 589 = .ok (.iadd, 1) := by decide +kernel
theorem dL_law_590 : decode cL_law 590 = .ok (.iaload, 1) := by decide +kernel
theorem dL_law_591 : decode cL_law 591 = .ok (.invokevirtual 81, 3) := by decide +kernel
theorem dL_law_594 : decode cL_law 594 = .ok (.aload_n 2, 1) := by decide +kernel
theorem dL_law_595 : decode cL_law 595 = .ok (.aload_n 0, 1) := by decide +kernel
theorem dL_law_596 : decode cL_law 596 = .ok (.iload_n 3, 1) := by decide +kernel
theorem dL_law_597 : decode cL_law 597 = .ok (.iconst 1, 1) := by decide +kernel
theorem dL_law_598 : decode cL_law 598 = .ok (.iadd, 1) := by decide +kernel
theorem dL_law_599 : decode cL_law 599 = .ok (.iaload, 1) := by decide +kernel
theorem dL_law_600 : decode cL_law 600 = .ok (.aload_n 0, 1) := by decide +kernel
theorem dL_law_601 : decode cL_law 601 = .ok (.iload_n 3, 1) := by decide +kernel
theorem dL_law_602 : decode cL_law 602 = .ok (.iconst 2, 1) := by decide +kernel
theorem dL_law_603 : decode cL_law 603 = .ok (.iadd, 1) := by decide +kernel
theorem dL_law_604 : decode cL_law 604 = .ok (.iaload, 1) := by decide +kernel
theorem dL_law_605 : decode cL_law 605 = .ok (.invokevirtual 84, 3) := by decide +kernel
theorem dL_law_608 : decode cL_law 608 = .ok (.if_icmp .eq 283, 3) := by decide +kernel
theorem dL_law_611 : decode cL_law 611 = .ok (.iconst 0, 1) := by decide +kernel
theorem dL_law_612 : decode cL_law 612 = .ok (.ireturn, 1) := by decide +kernel
theorem dL_law_613 : decode cL_law 613 = .ok (.aload_n 1, 1) := by decide +kernel
theorem dL_law_614 : decode cL_law 614 = .ok (.invokevirtual 85, 3) := by decide +kernel
theorem dL_law_617 : decode cL_law 617 = .ok (.aload_n 2, 1) := by decide +kernel
theorem dL_law_618 : decode cL_law 618 = .ok (.invokevirtual 88, 3) := by decide +kernel
theorem dL_law_621 : decode cL_law 621 = .ok (.if_icmp .eq 270, 3) := by decide +kernel
theorem dL_law_624 : decode cL_law 624 = .ok (.iconst 0, 1) := by decide +kernel
theorem dL_law_625 : decode cL_law 625 = .ok (.ireturn, 1) := by decide +kernel
theorem dL_law_626 : decode cL_law 626 = .ok (.aload_n 1, 1) := by decide +kernel
theorem dL_law_627 : decode cL_law 627 = .ok (.aload_n 0, 1) := by decide +kernel
theorem dL_law_628 : decode cL_law 628 = .ok (.iload_n 3, 1) := by decide +kernel
theorem dL_law_629 : decode cL_law 629 = .ok (.iconst 1, 1) := by decide +kernel
theorem dL_law_630 : decode cL_law 630 = .ok (.iadd, 1) := by decide +kernel
theorem dL_law_631 : decode cL_law 631 = .ok (.iaload, 1) := by decide +kernel
theorem dL_law_632 : decode cL_law 632 = .ok (.invokevirtual 89, 3) := by decide +kernel
theorem dL_law_635 : decode cL_law 635 = .ok (.aload_n 2, 1) := by decide +kernel
theorem dL_law_636 : decode cL_law 636 = .ok (.aload_n 0, 1) := by decide +kernel
theorem dL_law_637 : decode cL_law 637 = .ok (.iload_n 3, 1) := by decide +kernel
theorem dL_law_638 : decode cL_law 638 = .ok (.iconst 1, 1) := by decide +kernel
theorem dL_law_639 : decode cL_law 639 = .ok (.iadd, 1) := by decide +kernel
theorem dL_law_640 : decode cL_law 640 = .ok (.iaload, 1) := by decide +kernel
theorem dL_law_641 : decode cL_law 641 = .ok (.invokevirtual 92, 3) := by decide +kernel
theorem dL_law_644 : decode cL_law 644 = .ok (.if_icmp .eq 247, 3) := by decide +kernel
theorem dL_law_647 : decode cL_law 647 = .ok (.iconst 0, 1) := by decide +kernel
theorem dL_law_648 : decode cL_law 648 = .ok (.ireturn, 1) := by decide +kernel
theorem dL_law_649 : decode cL_law 649 = .ok (.aload_n 1, 1) := by decide +kernel
theorem dL_law_650 : decode cL_law 650 = .ok (.aload_n 0, 1) := by decide +kernel
theorem dL_law_651 : decode cL_law 651 = .ok (.iload_n 3, 1) := by decide +kernel
theorem dL_law_652 : decode cL_law 652 = .ok (.iconst 1, 1) := by decide +kernel
theorem dL_law_653 : decode cL_law 653 = .ok (.iadd, 1) := by decide +kernel
theorem dL_law_654 : decode cL_law 654 = .ok (.iaload, 1) := by decide +kernel
theorem dL_law_655 : decode cL_law 655 = .ok (.invokevirtual 93, 3) := by decide +kernel
theorem dL_law_658 : decode cL_law 658 = .ok (.aload_n 2, 1) := by decide +kernel
theorem dL_law_659 : decode cL_law 659 = .ok (.aload_n 0, 1) := by decide +kernel
theorem dL_law_660 : decode cL_law 660 = .ok (.iload_n 3, 1) := by decide +kernel
theorem dL_law_661 : decode cL_law 661 = .ok (.iconst 1, 1) := by decide +kernel
theorem dL_law_662 : decode cL_law 662 = .ok (.iadd, 1) := by decide +kernel
theorem dL_law_663 : decode cL_law 663 = .ok (.iaload, 1) := by decide +kernel
theorem dL_law_664 : decode cL_law 664 = .ok (.invokevirtual 96, 3) := by decide +kernel
theorem dL_law_667 : decode cL_law 667 = .ok (.if_icmp .eq 224, 3) := by decide +kernel
theorem dL_law_670 : decode cL_law 670 = .ok (.iconst 0, 1) := by decide +kernel
theorem dL_law_671 : decode cL_law 671 = .ok (.ireturn, 1) := by decide +kernel
theorem dL_law_672 : decode cL_law 672 = .ok (.aload_n 1, 1) := by decide +kernel
theorem dL_law_673 : decode cL_law 673 = .ok (.aload_n 0, 1) := by decide +kernel
theorem dL_law_674 : decode cL_law 674 = .ok (.iload_n 3, 1) := by decide +kernel
theorem dL_law_675 : decode cL_law 675 = .ok (.iconst 1, 1) := by decide +kernel
theorem dL_law_676 : decode cL_law 676 = .ok (.iadd, 1) := by decide +kernel
theorem dL_law_677 : decode cL_law 677 = .ok (.iaload, 1) := by decide +kernel
theorem dL_law_678 : decode cL_law 678 = .ok (.aload_n 0, 1) := by decide +kernel
theorem dL_law_679 : decode cL_law 679 = .ok (.iload_n 3, 1) := by decide +kernel
theorem dL_law_680 : decode cL_law 680 = .ok (.iconst 2, 1) := by decide +kernel
theorem dL_law_681 : decode cL_law 681 = .ok (.iadd, 1) := by decide +kernel
theorem dL_law_682 : decode cL_law 682 = .ok (.iaload, 1) := by decide +kernel
theorem dL_law_683 : decode cL_law 683 = .ok (.aload_n 0, 1) := by decide +kernel
theorem dL_law_684 : decode cL_law 684 = .ok (.iload_n 3, 1) := by decide +kernel
theorem dL_law_685 : decode cL_law 685 = .ok (.iconst 3, 1) := by decide +kernel
theorem dL_law_686 : decode cL_law 686 = .ok (.iadd, 1) := by decide +kernel
theorem dL_law_687 : decode cL_law 687 = .ok (.iaload, 1) := by decide +kernel
theorem dL_law_688 : decode cL_law 688 = .ok (.invokevirtual 97, 3) := by decide +kernel
theorem dL_law_691 : decode cL_law 691 = .ok (.aload_n 2, 1) := by decide +kernel
theorem dL_law_692 : decode cL_law 692 = .ok (.aload_n 0, 1) := by decide +kernel
theorem dL_law_693 : decode cL_law 693 = .ok (.iload_n 3, 1) := by decide +kernel
theorem dL_law_694 : decode cL_law 694 = .ok (.iconst 1, 1) := by decide +kernel
theorem dL_law_695 : decode cL_law 695 = .ok (.iadd, 1) := by decide +kernel
theorem dL_law_696 : decode cL_law 696 = .ok (.iaload, 1) := by decide +kernel
theorem dL_law_697 : decode cL_law 697 = .ok (.aload_n 0, 1) := by decide +kernel
theorem dL_law_698 : decode cL_law 698 = .ok (.iload_n 3, 1) := by decide +kernel
theorem dL_law_699 : decode cL_law 699 = .ok (.iconst 2, 1) := by decide +kernel
theorem dL_law_700 : decode cL_law 700 = .ok (.iadd, 1) := by decide +kernel
theorem dL_law_701 : decode cL_law 701 = .ok (.iaload, 1) := by decide +kernel
theorem dL_law_702 : decode cL_law 702 = .ok (.aload_n 0, 1) := by decide +kernel
theorem dL_law_703 : decode cL_law 703 = .ok (.iload_n 3, 1) := by decide +kernel
theorem dL_law_704 : decode cL_law 704 = .ok (.iconst 3, 1) := by decide +kernel
theorem dL_law_705 : decode cL_law 705 = .ok (.iadd, 1) := by decide +kernel
theorem dL_law_706 : decode cL_law 706 = .ok (.iaload, 1) := by decide +kernel
theorem dL_law_707 : decode cL_law 707 = .ok (.invokevirtual 100, 3) := by decide +kernel
theorem dL_law_710 : decode cL_law 710 = .ok (.if_icmp .eq 181, 3) := by decide +kernel
theorem dL_law_713 : decode cL_law 713 = .ok (.iconst 0, 1) := by decide +kernel
theorem dL_law_714 : decode cL_law 714 = .ok (.ireturn, 1) := by decide +kernel
theorem dL_law_715 : decode cL_law 715 = .ok (.aload_n 1, 1) := by decide +kernel
theorem dL_law_716 : decode cL_law 716 = .ok (.aload_n 0, 1) := by decide +kernel
theorem dL_law_717 : decode cL_law 717 = .ok (.iload_n 3, 1) := by decide +kernel
theorem dL_law_718 : decode cL_law 718 = .ok (.iconst 1, 1) := by decide +kernel
theorem dL_law_719 : decode cL_law 719 = .ok (.iadd, 1) := by decide +kernel
theorem dL_law_720 : decode cL_law 720 = .ok (.iaload, 1) := by decide +kernel
theorem dL_law_721 : decode cL_law 721 = .ok (.aload_n 0, 1) := by decide +kernel
theorem dL_law_722 : decode cL_law 722 = .ok (.iload_n 3, 1) := by decide +kernel
theorem dL_law_723 : decode cL_law 723 = .ok (.iconst 2, 1) := by decide +kernel
theorem dL_law_724 : decode cL_law 724 = .ok (.iadd, 1) := by decide +kernel
theorem dL_law_725 : decode cL_law 725 = .ok (.iaload, 1) := by decide +kernel
theorem dL_law_726 : decode cL_law 726 = .ok (.aload_n 0, 1) := by decide +kernel
theorem dL_law_727 : decode cL_law 727 = .ok (.iload_n 3, 1) := by decide +kernel
theorem dL_law_728 : decode cL_law 728 = .ok (.iconst 3, 1) := by decide +kernel
theorem dL_law_729 : decode cL_law 729 = .ok (.iadd, 1) := by decide +kernel
theorem dL_law_730 : decode cL_law 730 = .ok (.iaload, 1) := by decide +kernel
theorem dL_law_731 : decode cL_law 731 = .ok (.aload_n 0, 1) := by decide +kernel
theorem dL_law_732 : decode cL_law 732 = .ok (.iload_n 3, 1) := by decide +kernel
theorem dL_law_733 : decode cL_law 733 = .ok (.iconst 4, 1) := by decide +kernel
theorem dL_law_734 : decode cL_law 734 = .ok (.iadd, 1) := by decide +kernel
theorem dL_law_735 : decode cL_law 735 = .ok (.iaload, 1) := by decide +kernel
theorem dL_law_736 : decode cL_law 736 = .ok (.aload_n 0, 1) := by decide +kernel
theorem dL_law_737 : decode cL_law 737 = .ok (.iload_n 3, 1) := by decide +kernel
theorem dL_law_738 : decode cL_law 738 = .ok (.iconst 5, 1) := by decide +kernel
theorem dL_law_739 : decode cL_law 739 = .ok (.iadd, 1) := by decide +kernel
theorem dL_law_740 : decode cL_law 740 = .ok (.iaload, 1) := by decide +kernel
theorem dL_law_741 : decode cL_law 741 = .ok (.invokevirtual 101, 3) := by decide +kernel
theorem dL_law_744 : decode cL_law 744 = .ok (.aload_n 2, 1) := by decide +kernel
theorem dL_law_745 : decode cL_law 745 = .ok (.aload_n 0, 1) := by decide +kernel
theorem dL_law_746 : decode cL_law 746 = .ok (.iload_n 3, 1) := by decide +kernel
theorem dL_law_747 : decode cL_law 747 = .ok (.iconst 1, 1) := by decide +kernel
theorem dL_law_748 : decode cL_law 748 = .ok (.iadd, 1) := by decide +kernel
theorem dL_law_749 : decode cL_law 749 = .ok (.iaload, 1) := by decide +kernel
theorem dL_law_750 : decode cL_law 750 = .ok (.aload_n 0, 1) := by decide +kernel
theorem dL_law_751 : decode cL_law 751 = .ok (.iload_n 3, 1) := by decide +kernel
theorem dL_law_752 : decode cL_law 752 = .ok (.iconst 2, 1) := by decide +kernel
theorem dL_law_753 : decode cL_law 753 = .ok (.iadd, 1) := by decide +kernel
theorem dL_law_754 : decode cL_law 754 = .ok (.iaload, 1) := by decide +kernel
theorem dL_law_755 : decode cL_law 755 = .ok (.aload_n 0, 1) := by decide +kernel
theorem dL_law_756 : decode cL_law 756 = .ok (.iload_n 3, 1) := by decide +kernel
theorem dL_law_757 : decode cL_law 757 = .ok (.iconst 3, 1) := by decide +kernel
theorem dL_law_758 : decode cL_law 758 = .ok (.iadd, 1) := by decide +kernel
theorem dL_law_759 : decode cL_law 759 = .ok (.iaload, 1) := by decide +kernel
theorem dL_law_760 : decode cL_law 760 = .ok (.aload_n 0, 1) := by decide +kernel
theorem dL_law_761 : decode cL_law 761 = .ok (.iload_n 3, 1) := by decide +kernel
theorem dL_law_762 : decode cL_law 762 = .ok (.iconst 4, 1) := by decide +kernel
theorem dL_law_763 : decode cL_law 763 = .ok (.iadd, 1) := by decide +kernel
theorem dL_law_764 : decode cL_law 764 = .ok (.iaload, 1) := by decide +kernel
theorem dL_law_765 : decode cL_law 765 = .ok (.aload_n 0, 1) := by decide +kernel
theorem dL_law_766 : decode cL_law 766 = .ok (.iload_n 3, 1) := by decide +kernel
theorem dL_law_767 : decode cL_law 767 = .ok (.iconst 5, 1) := by decide +kernel
theorem dL_law_768 : decode cL_law 768 = .ok (.iadd, 1) := by decide +kernel
theorem dL_law_769 : decode cL_law 769 = .ok (.iaload, 1) := by decide +kernel
theorem dL_law_770 : decode cL_law 770 = .ok (.invokevirtual 105, 3) := by decide +kernel
theorem dL_law_773 : decode cL_law 773 = .ok (.lcmp, 1) := by decide +kernel
theorem dL_law_774 : decode cL_law 774 = .ok (.ifCond .eq 117, 3) := by decide +kernel
theorem dL_law_777 : decode cL_law 777 = .ok (.iconst 0, 1) := by decide +kernel
theorem dL_law_778 : decode cL_law 778 = .ok (.ireturn, 1) := by decide +kernel
theorem dL_law_779 : decode cL_law 779 = .ok (.aload_n 1, 1) := by decide +kernel
theorem dL_law_780 : decode cL_law 780 = .ok (.aload_n 0, 1) := by decide +kernel
theorem dL_law_781 : decode cL_law 781 = .ok (.iload_n 3, 1) := by decide +kernel
theorem dL_law_782 : decode cL_law 782 = .ok (.iconst 1, 1) := by decide +kernel
theorem dL_law_783 : decode cL_law 783 = .ok (.iadd, 1) := by decide +kernel
theorem dL_law_784 : decode cL_law 784 = .ok (.iaload, 1) := by decide +kernel
theorem dL_law_785 : decode cL_law 785 = .ok (.aload_n 0, 1) := by decide +kernel
theorem dL_law_786 : decode cL_law 786 = .ok (.iload_n 3, 1) := by decide +kernel
theorem dL_law_787 : decode cL_law 787 = .ok (.iconst 2, 1) := by decide +kernel
theorem dL_law_788 : decode cL_law 788 = .ok (.iadd, 1) := by decide +kernel
theorem dL_law_789 : decode cL_law 789 = .ok (.iaload, 1) := by decide +kernel
theorem dL_law_790 : decode cL_law 790 = .ok (.aload_n 0, 1) := by decide +kernel
theorem dL_law_791 : decode cL_law 791 = .ok (.iload_n 3, 1) := by decide +kernel
theorem dL_law_792 : decode cL_law 792 = .ok (.iconst 3, 1) := by decide +kernel
theorem dL_law_793 : decode cL_law 793 = .ok (.iadd, 1) := by decide +kernel
theorem dL_law_794 : decode cL_law 794 = .ok (.iaload, 1) := by decide +kernel
theorem dL_law_795 : decode cL_law 795 = .ok (.invokevirtual 106, 3) := by decide +kernel
theorem dL_law_798 : decode cL_law 798 = .ok (.aload_n 2, 1) := by decide +kernel
theorem dL_law_799 : decode cL_law 799 = .ok (.aload_n 0, 1) := by decide +kernel
theorem dL_law_800 : decode cL_law 800 = .ok (.iload_n 3, 1) := by decide +kernel
theorem dL_law_801 : decode cL_law 801 = .ok (.iconst 1, 1) := by decide +kernel
theorem dL_law_802 : decode cL_law 802 = .ok (.iadd, 1) := by decide +kernel
theorem dL_law_803 : decode cL_law 803 = .ok (.iaload, 1) := by decide +kernel
theorem dL_law_804 : decode cL_law 804 = .ok (.aload_n 0, 1) := by decide +kernel
theorem dL_law_805 : decode cL_law 805 = .ok (.iload_n 3, 1) := by decide +kernel
theorem dL_law_806 : decode cL_law 806 = .ok (.iconst 2, 1) := by decide +kernel
theorem dL_law_807 : decode cL_law 807 = .ok (.iadd, 1) := by decide +kernel
theorem dL_law_808 : decode cL_law 808 = .ok (.iaload, 1) := by decide +kernel
theorem dL_law_809 : decode cL_law 809 = .ok (.aload_n 0, 1) := by decide +kernel
theorem dL_law_810 : decode cL_law 810 = .ok (.iload_n 3, 1) := by decide +kernel
theorem dL_law_811 : decode cL_law 811 = .ok (.iconst 3, 1) := by decide +kernel
theorem dL_law_812 : decode cL_law 812 = .ok (.iadd, 1) := by decide +kernel
theorem dL_law_813 : decode cL_law 813 = .ok (.iaload, 1) := by decide +kernel
theorem dL_law_814 : decode cL_law 814 = .ok (.invokevirtual 109, 3) := by decide +kernel
theorem dL_law_817 : decode cL_law 817 = .ok (.if_icmp .eq 74, 3) := by decide +kernel
theorem dL_law_820 : decode cL_law 820 = .ok (.iconst 0, 1) := by decide +kernel
theorem dL_law_821 : decode cL_law 821 = .ok (.ireturn, 1) := by decide +kernel
theorem dL_law_822 : decode cL_law 822 = .ok (.aload_n 1, 1) := by decide +kernel
theorem dL_law_823 : decode cL_law 823 = .ok (.aload_n 0, 1) := by decide +kernel
theorem dL_law_824 : decode cL_law 824 = .ok (.iload_n 3, 1) := by decide +kernel
theorem dL_law_825 : decode cL_law 825 = .ok (.iconst 1, 1) := by decide +kernel
theorem dL_law_826 : decode cL_law 826 = .ok (.iadd, 1) := by decide +kernel
theorem dL_law_827 : decode cL_law 827 = .ok (.iaload, 1) := by decide +kernel
theorem dL_law_828 : decode cL_law 828 = .ok (.invokevirtual 110, 3) := by decide +kernel
theorem dL_law_831 : decode cL_law 831 = .ok (.aload_n 2, 1) := by decide +kernel
theorem dL_law_832 : decode cL_law 832 = .ok (.aload_n 0, 1) := by decide +kernel
theorem dL_law_833 : decode cL_law 833 = .ok (.iload_n 3, 1) := by decide +kernel
theorem dL_law_834 : decode cL_law 834 = .ok (.iconst 1, 1) := by decide +kernel
theorem dL_law_835 : decode cL_law 835 = .ok (.iadd, 1) := by decide +kernel
theorem dL_law_836 : decode cL_law 836 = .ok (.iaload, 1) := by decide +kernel
theorem dL_law_837 : decode cL_law 837 = .ok (.invokevirtual 113, 3) := by decide +kernel
theorem dL_law_840 : decode cL_law 840 = .ok (.if_icmp .eq 51, 3) := by decide +kernel
theorem dL_law_843 : decode cL_law 843 = .ok (.iconst 0, 1) := by decide +kernel
theorem dL_law_844 : decode cL_law 844 = .ok (.ireturn, 1) := by decide +kernel
theorem dL_law_845 : decode cL_law 845 = .ok (.aload_n 1, 1) := by decide +kernel
theorem dL_law_846 : decode cL_law 846 = .ok (.aload_n 0, 1) := by decide +kernel
theorem dL_law_847 : decode cL_law 847 = .ok (.iload_n 3, 1) := by decide +kernel
theorem dL_law_848 : decode cL_law 848 = .ok (.iconst 1, 1) := by decide +kernel
theorem dL_law_849 : decode cL_law 849 = .ok (.iadd, 1) := by decide +kernel
theorem dL_law_850 : decode cL_law 850 = .ok (.iaload, 1) := by decide +kernel
theorem dL_law_851 : decode cL_law 851 = .ok (.invokevirtual 114, 3) := by decide +kernel
theorem dL_law_854 : decode cL_law 854 = .ok (.aload_n 2, 1) := by decide +kernel
theorem dL_law_855 : decode cL_law 855 = .ok (.aload_n 0, 1) := by decide +kernel
theorem dL_law_856 : decode cL_law 856 = .ok (.iload_n 3, 1) := by decide +kernel
theorem dL_law_857 : decode cL_law 857 = .ok (.iconst 1, 1) := by decide +kernel
theorem dL_law_858 : decode cL_law 858 = .ok (.iadd, 1) := by decide +kernel
theorem dL_law_859 : decode cL_law 859 = .ok (.iaload, 1) := by decide +kernel
theorem dL_law_860 : decode cL_law 860 = .ok (.invokevirtual 117, 3) := by decide +kernel
theorem dL_law_863 : decode cL_law 863 = .ok (.if_icmp .eq 28, 3) := by decide +kernel
theorem dL_law_866 : decode cL_law 866 = .ok (.iconst 0, 1) := by decide +kernel
theorem dL_law_867 : decode cL_law 867 = .ok (.ireturn, 1) := by decide +kernel
theorem dL_law_868 : decode cL_law 868 = .ok (.aload_n 1, 1) := by decide +kernel
theorem dL_law_869 : decode cL_law 869 = .ok (.aload_n 0, 1) := by decide +kernel
theorem dL_law_870 : decode cL_law 870 = .ok (.iload_n 3, 1) := by decide +kernel
theorem dL_law_871 : decode cL_law 871 = .ok (.iconst 1, 1) := by decide +kernel
theorem dL_law_872 : decode cL_law 872 = .ok (.iadd, 1) := by decide +kernel
theorem dL_law_873 : decode cL_law 873 = .ok (.iaload, 1) := by decide +kernel
theorem dL_law_874 : decode cL_law 874 = .ok (.invokevirtual 118, 3) := by decide +kernel
theorem dL_law_877 : decode cL_law 877 = .ok (.aload_n 2, 1) := by decide +kernel
theorem dL_law_878 : decode cL_law 878 = .ok (.aload_n 0, 1) := by decide +kernel
theorem dL_law_879 : decode cL_law 879 = .ok (.iload_n 3, 1) := by decide +kernel
theorem dL_law_880 : decode cL_law 880 = .ok (.iconst 1, 1) := by decide +kernel
theorem dL_law_881 : decode cL_law 881 = .ok (.iadd, 1) := by decide +kernel
theorem dL_law_882 : decode cL_law 882 = .ok (.iaload, 1) := by decide +kernel
theorem dL_law_883 : decode cL_law 883 = .ok (.invokevirtual 121, 3) := by decide +kernel
theorem dL_law_886 : decode cL_law 886 = .ok (.if_icmp .eq 5, 3) := by decide +kernel
theorem dL_law_889 : decode cL_law 889 = .ok (.iconst 0, 1) := by decide +kernel
theorem dL_law_890 : decode cL_law 890 = .ok (.ireturn, 1) := by decide +kernel
theorem dL_law_891 : decode cL_law 891 = .ok (.iinc 3 6, 3) := by decide +kernel
theorem dL_law_894 : decode cL_law 894 = .ok (.goto (-876), 3) := by decide +kernel
theorem dL_law_897 : decode cL_law 897 = .ok (.iconst 1, 1) := by decide +kernel
theorem dL_law_898 : decode cL_law 898 = .ok (.ireturn, 1) := by decide +kernel
end
section
/-! THE CORE: the fixed layout of the 62 cells, the abstract memory, and the judgement T ("what this pure function answers, the machine answers") with a row for each instruction. -/
abbrev Mem : Type := (Nat → Nat → Int32) × (Nat → Nat → Int64)
/-- what stands in each cell: an object of a class (its number in vwCl), or an array (0 int, 1 long, 2 boolean) of a length -/
def KD : List (Nat ⊕ (Nat × Nat)) := [.inl 11, .inl 0, .inr (0, 10), .inr (0, 10), .inr (0, 10), .inl 7, .inr (0, 8), .inr (0, 8), .inl 8, .inr (0, 60), .inl 4, .inl 0, .inr (0, 10), .inr (0, 10), .inr (0, 10), .inl 7, .inr (0, 8), .inr (0, 8), .inl 4, .inl 0, .inr (0, 10), .inr (0, 10), .inr (0, 10), .inl 7, .inr (0, 8), .inr (0, 8), .inl 2, .inl 0, .inr (0, 10), .inr (0, 10), .inr (0, 10), .inl 1, .inr (0, 1024), .inl 6, .inr (0, 256), .inr (0, 8), .inl 3, .inr (0, 6), .inl 5, .inr (0, 64), .inr (0, 8), .inl 10, .inr (0, 21), .inl 9, .inr (1, 13), .inl 12, .inr (0, 10), .inr (0, 10), .inr (0, 10), .inr (0, 8), .inr (0, 8), .inr (0, 60), .inr (0, 60), .inr (0, 60), .inr (0, 24), .inr (0, 9216), .inr (0, 6), .inr (0, 8), .inr (2, 441), .inr (1, 14), .inr (0, 120), .inr (2, 2)]
def RFt : List (List Nat) := [[1, 5, 8, 10, 18, 26, 31, 33, 36, 38, 41, 43], [2, 3, 4, 0, 0, 0, 0, 0], [], [], [], [6, 7, 0], [], [], [9, 0], [], [11, 15, 0], [12, 13, 14, 0, 0, 0, 0, 0], [], [], [], [16, 17, 0], [], [], [19, 23, 0], [20, 21, 22, 0, 0, 0, 0, 0], [], [], [], [24, 25, 0], [], [], [27, 0, 0, 0, 0, 0, 0], [28, 29, 30, 0, 0, 0, 0, 0], [], [], [], [32, 0, 0], [], [34, 35, 0], [], [], [37, 0, 0], [], [39, 40, 0, 0, 0], [], [], [42], [], [44, 0], [], [46, 47, 48, 0, 0, 0, 0, 0, 49, 50, 0, 51, 0, 52, 53, 0, 0, 54, 0, 0, 0, 0, 55, 56, 57, 58, 59, 60, 61, 0, 0], [], [], [], [], [], [], [], [], [], [], [], [], [], [], [], []]
def FTt : List (List Nat) := [[2, 2, 2, 0, 0, 0, 0, 0], [2, 0, 0], [2, 0, 0, 0, 0, 0, 0], [2, 0, 0], [2, 2, 0], [2, 2, 0, 0, 0], [2, 2, 0], [2, 2, 0], [2, 0], [2, 1], [2], [2, 2, 2, 2, 2, 2, 2, 2, 2, 2, 2, 2], [2, 2, 2, 0, 0, 0, 0, 0, 2, 2, 0, 2, 0, 2, 2, 0, 0, 2, 0, 0, 0, 0, 2, 2, 2, 2, 2, 2, 2, 0, 0]]
def NFt : List Nat := [8, 3, 7, 3, 3, 5, 3, 3, 2, 2, 1, 12, 31]
/-- the cell that a reference field holds -/
def rf (i k : Nat) : Nat := (RFt.getD i []).getD k 0
/-- a field's kind: 0 int or boolean, 1 long, 2 reference -/
def FT (c k : Nat) : Nat := (FTt.getD c []).getD k 0
def NF (c : Nat) : Nat := NFt.getD c 0
/-- a row of the memory set anew; a place of a row -/
def mR (M : Mem) (a : Nat) (f : Nat → Int32) : Mem := (fun i => if i = a then f else M.1 i, M.2)
def mRL (M : Mem) (a : Nat) (f : Nat → Int64) : Mem := (M.1, fun i => if i = a then f else M.2 i)
def mI (M : Mem) (a k : Nat) (x : Int32) : Mem := mR M a (upd (M.1 a) k x)
def mL (M : Mem) (a k : Nat) (x : Int64) : Mem := mRL M a (vp_updL (M.2 a) k x)
/-- the addresses, the classes' numbers, the array classes, the size of the heap when the law began -/
abbrev WD : Type := (Nat → Nat) × va_G × (Nat → ClassId) × Nat
def rv (wd : WD) : Value → Value
  | .ref i => .ref (wd.1 i)
  | v => v
def rq (wd : WD) (q : Nat × Value) : Nat × Value := (q.1, rv wd q.2)
theorem rv_cat (wd : WD) (v : Value) : (rv wd v).category = v.category := by cases v <;> rfl
theorem rv_cat1 {wd : WD} {v : Value} (h : (v.category == 1) = true) : (rv wd v).category = 1 := by rw [rv_cat]; simpa using h
theorem rq_get {wd : WD} {lv : List (Nat × Value)} {k i : Nat} {v : Value} (h : lv[k]? = some (i, v)) : (lv.map (rq wd))[k]? = some (i, rv wd v) := by rw [List.getElem?_map, h]; rfl
theorem rq_flt {wd : WD} (f : Nat × Value → Bool) (hf : ∀ q, f (rq wd q) = f q) (lv : List (Nat × Value)) : (lv.map (rq wd)).filter f = (lv.filter f).map (rq wd) := by
  induction lv with
  | nil => rfl
  | cons a t ih =>
    simp only [List.map_cons, List.filter_cons, hf, ih]
    split <;> rfl
theorem rq_st {wd : WD} {lv lv' : List (Nat × Value)} {i : Nat} {v : Value} (h : (i, v) :: lv.filter (fun q => !(q.1 == i) && !(q.1 + 1 == i && q.2.category == 2)) = lv') : (i, rv wd v) :: (lv.map (rq wd)).filter (fun q => !(q.1 == i) && !(q.1 + 1 == i && q.2.category == 2)) = lv'.map (rq wd) := by
  rw [rq_flt _ (fun q => by simp only [rq, rv_cat]), ← h]; rfl
theorem rq_stl {wd : WD} {lv lv' : List (Nat × Value)} {i : Nat} {v : Value} (h : (i, v) :: lv.filter (fun q => !(q.1 == i) && (!(q.1 == i + 1) && !(q.1 + 1 == i && q.2.category == 2))) = lv') : (i, rv wd v) :: (lv.map (rq wd)).filter (fun q => !(q.1 == i) && (!(q.1 == i + 1) && !(q.1 + 1 == i && q.2.category == 2))) = lv'.map (rq wd) := by
  rw [rq_flt _ (fun q => by simp only [rq, rv_cat]), ← h]; rfl
theorem rq_args (wd : WD) (av : List Value) : ∀ i : Nat, lv_args i (av.map (rv wd)) = (lv_args i av).map (rq wd) := by
  induction av with
  | nil => intro i; rfl
  | cons v t ih => intro i; simp only [List.map_cons, lv_args, rv_cat, ih]; rfl
/-- a field's value in the machine -/
def fv (wd : WD) (M : Mem) (c i k : Nat) : Value := if FT c k = 0 then .int (M.1 i k) else if FT c k = 1 then .long (M.2 i k) else .ref (wd.1 (rf i k))
def ent (wd : WD) (M : Mem) (i : Nat) : va_E := match KD[i]? with
  | some (.inl c) => .inr (c, (List.range (NF c)).map (fv wd M c i))
  | some (.inr (t, n)) => if t = 0 then .inl (wd.2.2.1 0, n, .inl (M.1 i)) else if t = 1 then .inl (wd.2.2.1 1, n, .inr (.inl (M.2 i))) else .inl (wd.2.2.1 2, n, .inl (M.1 i))
  | none => .inl (wd.2.2.1 0, 0, .inl (M.1 i))
theorem ent_obj {wd : WD} {M : Mem} {i c : Nat} (h : KD[i]? = some (.inl c)) : ent wd M i = .inr (c, (List.range (NF c)).map (fv wd M c i)) := by unfold ent; rw [h]
theorem ent_int {wd : WD} {M : Mem} {i n : Nat} (h : KD[i]? = some (.inr (0, n))) : ent wd M i = .inl (wd.2.2.1 0, n, .inl (M.1 i)) := by unfold ent; rw [h]; rfl
theorem ent_long {wd : WD} {M : Mem} {i n : Nat} (h : KD[i]? = some (.inr (1, n))) : ent wd M i = .inl (wd.2.2.1 1, n, .inr (.inl (M.2 i))) := by unfold ent; rw [h]; rfl
theorem ent_bool {wd : WD} {M : Mem} {i n : Nat} (h : KD[i]? = some (.inr (2, n))) : ent wd M i = .inl (wd.2.2.1 2, n, .inl (M.1 i)) := by unfold ent; rw [h]; rfl
theorem fv_congr {wd : WD} {M M' : Mem} {c i k : Nat} (h1 : M.1 i k = M'.1 i k) (h2 : M.2 i k = M'.2 i k) : fv wd M c i k = fv wd M' c i k := by unfold fv; rw [h1, h2]
theorem ent_congr {wd : WD} {M M' : Mem} {i : Nat} (h1 : M.1 i = M'.1 i) (h2 : M.2 i = M'.2 i) : ent wd M i = ent wd M' i := by
  unfold ent
  rw [h1, h2]
  split
  · congr 2
    apply List.map_congr_left
    intro k _
    exact fv_congr (by rw [h1]) (by rw [h2])
  · rfl
  · rfl
def cellsW (wd : WD) (M : Mem) : va_W := (List.range 62).map (fun i => (wd.1 i, ent wd M i))
theorem KD_len : KD.length = 62 := by decide +kernel
theorem KD_lt {i : Nat} {x : Nat ⊕ (Nat × Nat)} (h : KD[i]? = some x) : i < 62 := by
  have := (List.getElem?_eq_some_iff.mp h).1
  rw [KD_len] at this
  exact this
theorem cw_get (wd : WD) (M : Mem) {i : Nat} (h : i < 62) : (cellsW wd M)[i]? = some (wd.1 i, ent wd M i) := by
  unfold cellsW
  rw [List.getElem?_map, List.getElem?_range h]; rfl
theorem cw_len (wd : WD) (M : Mem) : (cellsW wd M).length = 62 := by unfold cellsW; rw [List.length_map, List.length_range]
/-- one cell of the world set anew -/
theorem cw_set {wd : WD} {M M' : Mem} {a : Nat} {e : va_E} (ha : a < 62) (he : ent wd M' a = e) (ho : ∀ i, i ≠ a → M'.1 i = M.1 i ∧ M'.2 i = M.2 i) : (cellsW wd M).set a (wd.1 a, e) = cellsW wd M' := by
  apply List.ext_getElem?
  intro i
  by_cases h : i = a
  · subst h
    rw [List.getElem?_set_self (by rw [cw_len]; exact ha), cw_get _ _ ha, he]
  · rw [List.getElem?_set_ne (Ne.symm h)]
    by_cases hi : i < 62
    · rw [cw_get _ _ hi, cw_get _ _ hi, ent_congr (ho i h).1 (ho i h).2]
    · rw [List.getElem?_eq_none (by rw [cw_len]; omega), List.getElem?_eq_none (by rw [cw_len]; omega)]
theorem mR_at {M : Mem} {a : Nat} {f : Nat → Int32} : (mR M a f).1 a = f := by simp [mR]
theorem mR_ne {M : Mem} {a i : Nat} {f : Nat → Int32} (h : i ≠ a) : (mR M a f).1 i = M.1 i := by simp [mR, h]
theorem mRL_at {M : Mem} {a : Nat} {f : Nat → Int64} : (mRL M a f).2 a = f := by simp [mRL]
theorem mRL_ne {M : Mem} {a i : Nat} {f : Nat → Int64} (h : i ≠ a) : (mRL M a f).2 i = M.2 i := by simp [mRL, h]
theorem ent_putI {wd : WD} {M : Mem} {a c k : Nat} {x : Int32} (h : KD[a]? = some (.inl c)) (hk : FT c k = 0) : ent wd (mI M a k x) a = .inr (c, ((List.range (NF c)).map (fv wd M c a)).set k (.int x)) := by
  rw [ent_obj h]
  congr 2
  apply List.ext_getElem?
  intro j
  by_cases hj : j < NF c
  · rw [List.getElem?_map, List.getElem?_range hj]
    by_cases e : j = k
    · subst e
      rw [List.getElem?_set_self (by rw [List.length_map, List.length_range]; exact hj)]
      simp [fv, hk, mI, mR_at, upd]
    · rw [List.getElem?_set_ne (Ne.symm e), List.getElem?_map, List.getElem?_range hj]
      simp only [Option.map_some]
      exact congrArg some (fv_congr (by simp [mI, mR_at, upd, e]) rfl)
  · rw [List.getElem?_eq_none (by simp; omega), List.getElem?_eq_none (by simp; omega)]
theorem ent_putL {wd : WD} {M : Mem} {a c k : Nat} {x : Int64} (h : KD[a]? = some (.inl c)) (hk : FT c k = 1) : ent wd (mL M a k x) a = .inr (c, ((List.range (NF c)).map (fv wd M c a)).set k (.long x)) := by
  rw [ent_obj h]
  congr 2
  apply List.ext_getElem?
  intro j
  by_cases hj : j < NF c
  · rw [List.getElem?_map, List.getElem?_range hj]
    by_cases e : j = k
    · subst e
      rw [List.getElem?_set_self (by rw [List.length_map, List.length_range]; exact hj)]
      simp [fv, hk, mL, mRL_at, vp_updL]
    · rw [List.getElem?_set_ne (Ne.symm e), List.getElem?_map, List.getElem?_range hj]
      simp only [Option.map_some]
      exact congrArg some (fv_congr rfl (by simp [mL, mRL_at, vp_updL, e]))
  · rw [List.getElem?_eq_none (by simp; omega), List.getElem?_eq_none (by simp; omega)]
/-! the tables' words: those that stay as they are (tbG), and those of nest mates (tbN) -/
def tbG : List Cond := lw_tbl.filter goodWord
def isNest : Cond → Bool
  | .methodLinkNest .. => true
  | .fieldLinkNest .. => true
  | _ => false
theorem mem_tb (i : Nat) {w : Cond} (h : lw_tbl[i]? = some w) (hg : goodWord w = true) : w ∈ tbG := List.mem_filter.mpr ⟨List.mem_of_getElem? h, hg⟩
theorem tb_in {ws : List Cond} (ps : List Nat) (hp : ws = ps.filterMap (fun i => lw_tbl[i]?)) (h : ws.all goodWord = true) : ∀ w ∈ ws, w ∈ tbG := by
  intro w hw
  have h1 := List.all_eq_true.mp h w hw
  rw [hp] at hw
  obtain ⟨i, -, hi⟩ := List.mem_filterMap.mp hw
  exact List.mem_filter.mpr ⟨List.mem_of_getElem? hi, h1⟩
theorem tb_good {w : Cond} (h : w ∈ tbG) : (w.onTables && w.keeps) = true ∨ ∃ ty, w = .arrayClass ty := good_of_word (List.mem_filter.mp h).2
/-- the nest mates' words hold -/
def NW (U : State) : Prop := (∀ a i x h, Cond.methodLinkNest a i x h ∈ lw_tbl → va_Nw (.methodLinkNest a i x h) U) ∧ ∀ a i b n d h, Cond.fieldLinkNest a i b n d h ∈ lw_tbl → va_Nw (.fieldLinkNest a i b n d h) U
theorem NW.warm {s U : State} (hW : s.WarmedH U.vm) (h : NW s) : NW U := ⟨fun a i x k hm => (h.1 a i x k hm).warmM hW, fun a i b n d k hm => (h.2 a i b n d k hm).warmF hW⟩
theorem NW.same {u U : State} (hv : u.vm = U.vm) (h : NW u) : NW U := ⟨fun a i x k hm => (h.1 a i x k hm).same rfl hv, fun a i b n d k hm => (h.2 a i b n d k hm).same rfl hv⟩
def dk (j : Nat) : Int32 := ([65, 65, 63, 63, 43, 45, 61, 46] : List Int32).getD j 0
abbrev Scr : Type := Nat × (Nat → Int32)
def AA (wd : WD) : Nat → Prop := fun q => wd.2.2.2 ≤ q
abbrev tyW (wd : WD) : List (ClassId × FieldType) := [(wd.2.2.1 0, .int), (wd.2.2.1 1, .long), (wd.2.2.1 2, .boolean)]
/-- what lies outside the world and is only read: the script (1000), the kinds drawn (1001) -/
def Ext (wd : WD) (X : Scr) (U : State) (H : Heap) : Prop := va_X (wd.1 1000) X.1 X.2 U H ∧ wd.1 1000 < wd.2.2.2 ∧ va_T .int (wd.1 1001) 8 (fun j => .int (dk j)) (AA wd) U H ∧ wd.1 1001 < wd.2.2.2 ∧ va_Z "BathBaskets" "DRAWN_KINDS" "[I" (.ref (wd.1 1001)) (AA wd) U H ∧ wd.2.2.2 ≤ H.size
theorem Ext.kept {wd : WD} {X : Scr} {U : State} {H H1 : Heap} (h : Ext wd X U H) (hz : H.size ≤ H1.size) (hq : ∀ q : Nat, q < H.size → ¬ AA wd q → H1[q]? = H[q]?) : Ext wd X U H1 := by
  obtain ⟨h1, h2, h3, h4, h5, h6⟩ := h
  have a1 : ¬ AA wd (wd.1 1000) := fun z => by unfold AA at z; omega
  exact ⟨h1.kept (hq _ (by omega) a1), h2, h3.kept hq, h4, h5.kept hq, by omega⟩
theorem Ext.moved {wd : WD} {X : Scr} {u U : State} {H : Heap} (hvm : u.vm.Alike U.vm) (h : Ext wd X u H) : Ext wd X U H := by
  obtain ⟨h1, h2, h3, h4, h5, h6⟩ := h
  exact ⟨h1.moved hvm, h2, h3.moved hvm, h4, h5.moved hvm, h6⟩
/-- the world: from a method's start -/
def World (wd : WD) (X : Scr) (M : Mem) (U : State) : Prop := va_K wd.2.1 vwCl (tyW wd) U ∧ va_P wd.2.1 vwCl (cellsW wd M) U.heap ∧ va_D (AA wd) (cellsW wd M) ∧ Ext wd X U U.heap ∧ NW U
/-- the world, within a method that began at s, the heap being H now -/
def Fr (wd : WD) (X : Scr) (M : Mem) (s : State) (H : Heap) (locs : List Loc) : Prop := va_K wd.2.1 vwCl (tyW wd) s ∧ va_P wd.2.1 vwCl (cellsW wd M) H ∧ va_D (AA wd) (cellsW wd M) ∧ va_S (AA wd) s.heap H locs ∧ Ext wd X s s.heap ∧ NW s
theorem Fr.world {wd : WD} {X : Scr} {M : Mem} {s : State} {H : Heap} {locs : List Loc} (h : Fr wd X M s H locs) (U : State) (hU : U.heap = H) (hW : s.WarmedH U.vm) : World wd X M U := by
  obtain ⟨hK, hP, hD, hS, hX, hN⟩ := h
  exact ⟨va_K.moved hW.alike hK, by rw [hU]; exact hP, hD, by rw [hU]; exact (hX.kept hS.1 (fun q h1 h2 => hS.2.1 q h1 h2)).moved hW.alike, hN.warm hW⟩
theorem World.blind {wd : WD} {X : Scr} {M : Mem} {av : List Value} : FrameBlind (va_Pc av (fun U => World wd X M U)) := by
  intro a U g mk ⟨h0, hK, hP, hD, hX, hN⟩
  exact ⟨h0, va_K.moved (u := U) (U := U.calling g mk a) (Vm.Alike.refl U.vm) hK, hP, hD, Ext.moved (u := U) (U := U.calling g mk a) (Vm.Alike.refl U.vm) hX, NW.same (u := U) (U := U.calling g mk a) rfl hN⟩
/-- a method: name, code, locals, result, frames and locals that it wants beneath it -/
abbrev MD : Type := MethodName × ByteArray × Nat × Option FieldType × Nat × Nat
abbrev mdN (y : MD) : MethodName := y.1
abbrev mdC (y : MD) : ByteArray := y.2.1
abbrev mdL (y : MD) : Nat := y.2.2.1
abbrev mdR (y : MD) : Option FieldType := y.2.2.2.1
abbrev mdF (y : MD) : Nat := y.2.2.2.2.1
abbrev mdW (y : MD) : Nat := y.2.2.2.2.2
def rmY (y : MD) : Room := { frames := mdF y, cells := 0, slots := 0, locals := mdW y }
def WSy (y : MD) : List Cond := .code (mdN y) (mdC y) (mdL y) (mdR y) :: tbG
def Cx (y : MD) (p : Program) (R : Room) (s : State) (m : MethodId) (args : Array Value) (c : Code) (cells slots : Nat) : Prop :=
  p.tables.exec = Jvm.exec ∧ c.code = mdC y ∧ c.maxLocals = mdL y ∧ s.vm.findClass (mdN y).cls = some m.cls ∧ (∀ w ∈ tbG, w.before args s = true) ∧ mdF y ≤ R.frames ∧ mdW y ≤ R.locals ∧ cells ≤ R.cells ∧ slots ≤ R.slots
/-- the end of a method: the instruction, and that the answer fits -/
def RetAt (y : MD) (pc : Nat) (r : Option Value) : Prop := match r with
  | none => decode (mdC y) pc = .ok (.return_, 1) ∧ mdR y = none
  | some (.int v) => decode (mdC y) pc = .ok (.ireturn, 1) ∧ ∃ ty, mdR y = some ty ∧ narrow ty (.int v) = .int v
  | some (.long _) => decode (mdC y) pc = .ok (.lreturn, 1) ∧ mdR y = some .long
  | some (.ref _) => decode (mdC y) pc = .ok (.areturn, 1) ∧ ∃ n, mdR y = some (.object n)
  | _ => False
def EE (X : Scr) (y : MD) (pc : Nat) (lv : List (Nat × Value)) (st : List Value) (M : Mem) (r : Option Value) (M' : Mem) : Prop :=
  ∀ (wd : WD) (p : Program) (l : Launch) (e : Env) (R : Room) (s : State) (m : MethodId) (args : Array Value) (below : List Frame) (meth : Method) (c : Code) (H : Heap) (locs : List Loc) (cells slots : Nat) (Q : State → Prop) (ls : Array Slot),
    Cx y p R s m args c cells slots → Fr wd X M s H locs → lv_has ls (mdL y) (lv.map (rq wd)) →
    (∀ (H' : Heap) (locs' : List Loc) (pc' : Nat) (ls' : Array Slot), Fr wd X M' s H' locs' → RetAt y pc' r → W p l e R s m args below meth c H' locs' cells slots Q (F0 m pc' ls' ((r.map (rv wd)).toList))) →
    W p l e R s m args below meth c H locs cells slots Q (F0 m pc ls (st.map (rv wd)))
/-- THE JUDGEMENT: where the pure text o answers (r, M'), the machine from here answers r and leaves M' -/
def T {α : Type} (X : Scr) (emb : α → Option Value) (o : Option (α × Mem)) (y : MD) (pc : Nat) (lv : List (Nat × Value)) (st : List Value) (M : Mem) : Prop := ∀ r M', o = some (r, M') → EE X y pc lv st M (emb r) M'
/-- a contract: on these arguments, from this memory, the answer, the memory behind it -/
def Ct (X : Scr) (y : MD) (av : List Value) (M : Mem) (r : Option Value) (M' : Mem) : Prop :=
  ∀ (wd : WD) (l : Launch), Met l (mdN y) (WSy y) (rmY y) (va_Pc (av.map (rv wd)) (fun U => World wd X M U)) (fun _ st oc t => oc = .returned (r.map (rv wd)) ∧ (va_P wd.2.1 vwCl (cellsW wd M') t.heap ∧ va_D (AA wd) (cellsW wd M')) ∧ va_F (AA wd) st t) 0 0 (AA wd)
def eI (r : Int32) : Option Value := some (.int r)
def eL (r : Int64) : Option Value := some (.long r)
def eV (_ : Unit) : Option Value := none
def eR (r : Nat) : Option Value := some (.ref r)
/-- a guard: what the machine would throw at -/
def gd {α : Type} (b : Bool) (o : Option α) : Option α := if b then o else none
/-- the memory, written, gets a name -/
def mw {α : Type} (M : Mem) (k : Mem → Option α) : Option α := k M
/-- a number gets a name -/
def iw {α : Type} (v : Int32) (k : Int32 → Option α) : Option α := k v
def lw {α : Type} (v : Int64) (k : Int64 → Option α) : Option α := k v
theorem gd_some {α : Type} {b : Bool} {o : Option α} {x : α} (h : gd b o = some x) : b = true ∧ o = some x := by
  unfold gd at h
  split at h
  · exact ⟨by assumption, h⟩
  · cases h
theorem gd_true {α : Type} {b : Bool} {o : Option α} (h : b = true) : gd b o = o := by unfold gd; rw [if_pos h]
/-- an index is within a row -/
def ib (j : Int32) (n : Nat) : Bool := decide (0 ≤ j.toInt) && decide (j.toInt < n)
theorem ib_in {j : Int32} {n : Nat} (h : ib j n = true) : vp_in j n := by
  unfold ib at h
  simp only [Bool.and_eq_true, decide_eq_true_eq] at h
  exact vp_in_iff.mpr h
/-- the kit's Met.ofW, for a method that no entry of the machine stands in for (java.lang.Math's among them) -/
theorem Met_ofWF {l : Launch} {y : MethodName} {ws ws' : List Cond} {rm : Room} {Pc : Array Value → State → Prop} {Qc : Array Value → State → Outcome → State → Prop} {mc ms : Nat} {free : Addr → Prop} {cc : ByteArray} {maxL : Nat} {ret : Option FieldType}
    (hy : plainFor y = true) (hw : ws = Cond.code y cc maxL ret :: ws')
    (body : ∀ p e s m args below meth c s₁, BodyLoose p l y (headSpec ws rm) cc maxL ret e s m args below meth c s₁ → c.maxLocals = maxL → Pc args s →
      W p l e (headSpec ws rm).room s m args below meth c s.heap [] 0 0 (MQ below Qc args s mc ms free) (entryFrame m args maxL)) : Met l y ws rm Pc Qc mc ms free := by
  refine MetFree.of_bodySF (code := cc) (maxLocals := maxL) (ret := ret) hy ?_ ?_
  · intro args s m h hn
    obtain ⟨meth, c, h1, h2, h3, h4, h5, h6, -, -⟩ := Cond.code_spec hn (atoms_spec (ws := ws) h _ (by rw [hw]; exact List.mem_cons_self))
    exact ⟨meth, c, h1, h2, h3, h4, h5, h6⟩
  · intro p e s m args below meth c s₁ B hml hP _
    have hh0 : s₁.heap = s.heap := by rw [B.state]; rfl
    obtain ⟨t, a1, o, b1, b2, b3⟩ := body p e s m args below meth c s₁ B hml hP s₁ hh0 (Stand.of_body B)
    exact ⟨t, o, a1, b1, b2, ⟨b3.1, b3.2⟩⟩
/-- the contract out of the walk from the entry -/
theorem Ct_of {α : Type} {X : Scr} {emb : α → Option Value} {o : Option (α × Mem)} {y : MD} {av : List Value} {M : Mem} (hy : plainFor (mdN y) = true) (hn : (lg_sl av).length ≤ mdL y) (h : T X emb o y 0 (lv_args 0 av) [] M) (r : α) (M' : Mem) (ho : o = some (r, M')) : Ct X y av M (emb r) M' := by
  intro wd l
  refine Met_ofWF (cc := mdC y) (maxL := mdL y) (ret := mdR y) hy rfl ?_
  intro p e s m args below meth c s₁ B hml hv
  obtain ⟨rfl, hK, hP, hD, hX, hN⟩ := hv
  have hts := atoms_spec (ws := WSy y) B.pre
  have hown : s.vm.findClass (mdN y).cls = some m.cls := findClass_of_methodNamed B.named
  have hlocks := B.notSynchronized
  have hr := B.returns
  have hlen : (lg_sl (av.map (rv wd))).length = (lg_sl av).length := by
    unfold lg_sl
    clear h hn ho hK hP hD hX hN B hlocks hown hts
    induction av with
    | nil => rfl
    | cons v t ih => simp only [List.map_cons, List.flatMap_cons, List.length_append, rv_cat, ih]; congr 1; split <;> rfl
  rw [lg_entry_eq]
  have hl := lv_entry (av.map (rv wd)) (n := mdL y) (by rw [hlen]; exact hn)
  rw [rq_args] at hl
  refine h r M' ho wd p l e _ s m _ below meth c s.heap [] 0 0 _ _ ⟨B.exec, B.bytes, hml, hown, fun w hw => hts w (List.mem_cons_of_mem _ hw), Nat.le_refl _, Nat.le_refl _, Nat.le_refl _, Nat.le_refl _⟩ ⟨hK, hP, hD, va_S.rf, hX, hN⟩ hl ?_
  intro H' locs' pc' ls' hF' hR
  obtain ⟨hK', hP', hD', hS', hX', hN'⟩ := hF'
  have post : ∀ t : State, t.heap = H' → ((va_P wd.2.1 vwCl (cellsW wd M') t.heap ∧ va_D (AA wd) (cellsW wd M')) ∧ va_F (AA wd) s t) := fun t ht => ⟨⟨by rw [ht]; exact hP', hD'⟩, hS'.F ht⟩
  unfold RetAt at hR
  generalize emb r = z at hR ⊢
  cases z with
  | none => exact W.vret B.exec B.bytes (hr.trans hR.2) (fun t ht _ => ⟨rfl, post t ht⟩) hS'.2.2 hR.1
  | some v =>
    cases v with
    | int v =>
      obtain ⟨h1, ty, h2, h3⟩ := hR
      exact W.zret B.exec B.bytes (hr.trans h2) h3 (fun t ht _ => ⟨rfl, post t ht⟩) hS'.2.2 h1
    | long v => exact W.lret B.exec B.bytes (hr.trans hR.2) (fun t ht _ => ⟨rfl, post t ht⟩) hS'.2.2 hR.1
    | ref a =>
      obtain ⟨h1, n, h2⟩ := hR
      exact W.aret B.exec B.bytes (hr.trans h2) (Or.inl ⟨n, rfl⟩) (Or.inr ⟨_, rfl⟩) (fun t ht _ => ⟨rfl, post t ht⟩) hS'.2.2 h1
    | _ => exact hR.elim
/-- behind a call of any result -/
theorem va_callx {p : Program} {l : Launch} {e : Env} {R : Room} {s : State} {m : MethodId} {args : Array Value} {below : List Frame} {meth : Method} {c : Code} {H : Heap} {locs : List Loc} {cells slots : Nat} {Q : State → Prop} {pc : Nat} {ls : Array Slot} {rest st0 : List Value} {A : Nat → Prop} {H0 : Heap} {v : Option Value} {B : State → Prop} (hr : va_Run p l e R s m args below meth c H locs cells slots 0 0 (F0 m pc ls st0) rest (fun st oc t => oc = .returned v ∧ B t ∧ va_F A st t) A) (hS : va_S A H0 H locs)
    (kk : ∀ (t : State) (H1 : Heap) (locs1 : List Loc), t.heap = H1 → B t → va_S A H0 H1 locs1 → W p l e R s m args below meth c H1 locs1 cells slots Q (F0 m (pc + 3) ls (v.toList ++ rest))) : W p l e R s m args below meth c H locs cells slots Q (F0 m pc ls st0) := by
  intro T hT X
  obtain ⟨v', st₀, t, T', L, h0, X', hL, e1, e2, ⟨hv, hb, hz, hk⟩, st⟩ := hr T hT X
  cases hv
  rw [h0] at hz hk
  obtain ⟨t2, a1, b1⟩ := kk t T'.heap (locs ++ L) e1.symm hb
    ⟨Nat.le_trans hS.1 (by rw [e1]; exact hz), fun q h1 h2 => by rw [e1, hk q (Nat.lt_of_lt_of_le h1 hS.1) h2]; exact hS.2.1 q h1 h2, fun q hq => by
      rcases List.mem_append.mp hq with h | h
      · exact hS.2.2 q h
      · exact hL q h⟩ T' rfl X'
  exact ⟨t2, st t2 a1, b1⟩
/-- what the tables say of a method that is called: its code, its class, its descriptor -/
def MOk (z : MD) (n : Nat) : Prop := Cond.code (mdN z) (mdC z) (mdL z) (mdR z) ∈ tbG ∧ Cond.initialized (mdN z).cls ∈ tbG ∧ (mdN z).cls ≠ "java/lang/invoke/MethodHandle" ∧ (mdN z).cls ≠ "java/lang/invoke/VarHandle" ∧ (parseMethodDescriptor (mdN z).desc).map (fun d => d.parameters.length) = some n
theorem ws_good {z : MD} {n : Nat} (h : MOk z n) : GoodIn tbG (WSy z) := by
  intro w hw
  rcases List.mem_cons.mp hw with rfl | hw
  · exact ⟨h.1, tb_good h.1⟩
  · exact ⟨hw, tb_good hw⟩
section ROWS
variable {α β : Type} {X : Scr} {emb : α → Option Value} {o o2 : Option (α × Mem)} {y : MD} {pc : Nat} {lv : List (Nat × Value)} {st : List Value} {M : Mem}
theorem st_sum {wd : WD} (st : List Value) : ((st.map (rv wd)).map fun v => v.category) = st.map fun v => v.category := by
  rw [List.map_map]
  apply List.map_congr_left
  intro v _
  exact rv_cat wd v
/-- invokevirtual: g is what the callee answers, k goes on with it -/
theorem T_callV {emb' : β → Option Value} {g : Option (β × Mem)} {k : β × Mem → Option (α × Mem)} (z : MD) (av st : List Value) {stk : List Value} {i c idx : Nat} {q : vw_C} (d : decode (mdC y) pc = .ok (.invokevirtual idx, 3)) (hob : KD[i]? = some (.inl c)) (hq : vwCl[c]? = some q) (hs : stk = av.reverse ++ .ref i :: st) (hz : MOk z av.length) (hlk : Cond.methodLink (mdN y).cls idx (mdN z) ∈ tbG) (him : Cond.instanceMethod (mdN z) ∈ tbG) (hse : Cond.selects q.1 (mdN z) (mdN z) ∈ tbG) (hR : mdF z + 1 ≤ mdF y ∧ 8 + (mdL z + 11) + mdW z ≤ mdW y) (hst : (st.map fun v => v.category).sum ≤ 8)
    (hM : ∀ r M1, g = some (r, M1) → Ct X z (.ref i :: av) M (emb' r) M1) (kk : ∀ r M1, T X emb (k (r, M1)) y (pc + 3) lv ((emb' r).toList ++ st) M1) : T X emb (g.bind k) y pc lv stk M := by
  intro r M' h wd p l e R s m args below meth c H locs cells slots Q ls hC hF hl hr
  obtain ⟨⟨r1, M1⟩, hg, hk⟩ := Option.bind_eq_some_iff.mp h
  subst hs
  obtain ⟨hx, hb, hml, hown, hts, hf1, hf2, hf3, hf4⟩ := hC
  have hi := KD_lt hob
  have hrecv := va_recv (a := wd.1 i) (q0 := i) hF.1 hF.2.1 hq (by rw [cw_get _ _ hi, ent_obj hob])
  have hw : ∀ w ∈ tbG, w.before args s = true := hts
  refine va_callx (v := (emb' r1).map (rv wd)) (va_runV (C := q.1) (b := wd.1 i) (As := av.map (rv wd)) (rest := st.map (rv wd)) (Ts := tbG) (own := (mdN y).cls) ⟨hx, hb, hml, hown, hw⟩ (hM r1 M1 hg wd l) ⟨callB_of (Ts := tbG) (n := av.length) hw (ws_good hz) rfl rfl rfl (hw _ hz.2.1) (hw _ hlk) hz.2.2 ⟨Nat.le_trans hR.1 hf1, Nat.le_trans hR.2 hf2⟩, hw _ him, hw _ hse⟩ ⟨World.blind, hrecv, fun U hU hW => ⟨rfl, hF.world U hU hW⟩⟩ rfl (by rw [List.length_map]) hl.1 (by simp [rv]) (lv_room (by rw [st_sum]; exact hst)) d ⟨hf3, hf4⟩) hF.2.2.2.1 ?_
  intro t H1 locs1 ht hB hS
  have hF1 : Fr wd X M1 s H1 locs1 := ⟨hF.1, by rw [← ht]; exact hB.1, hB.2, hS, hF.2.2.2.2.1, hF.2.2.2.2.2⟩
  have kk' := kk r1 M1 r M' hk wd p l e R s m args below meth c H1 locs1 cells slots Q ls ⟨hx, hb, hml, hown, hts, hf1, hf2, hf3, hf4⟩ hF1 hl hr
  rw [List.map_append] at kk'
  cases hz : emb' r1 <;> rw [hz] at kk' <;> exact kk'
theorem T_callS {emb' : β → Option Value} {g : Option (β × Mem)} {k : β × Mem → Option (α × Mem)} (z : MD) (av st : List Value) {stk : List Value} {idx : Nat} (d : decode (mdC y) pc = .ok (.invokestatic idx, 3)) (hs : stk = av.reverse ++ st) (hz : MOk z av.length) (hlk : Cond.methodLink (mdN y).cls idx (mdN z) ∈ tbG) (him : Cond.static (mdN z) ∈ tbG) (hR : mdF z + 1 ≤ mdF y ∧ 8 + (mdL z + 11) + mdW z ≤ mdW y) (hst : (st.map fun v => v.category).sum ≤ 8)
    (hM : ∀ r M1, g = some (r, M1) → Ct X z av M (emb' r) M1) (kk : ∀ r M1, T X emb (k (r, M1)) y (pc + 3) lv ((emb' r).toList ++ st) M1) : T X emb (g.bind k) y pc lv stk M := by
  intro r M' h wd p l e R s m args below meth c H locs cells slots Q ls hC hF hl hr
  obtain ⟨⟨r1, M1⟩, hg, hk⟩ := Option.bind_eq_some_iff.mp h
  subst hs
  obtain ⟨hx, hb, hml, hown, hts, hf1, hf2, hf3, hf4⟩ := hC
  have hw : ∀ w ∈ tbG, w.before args s = true := hts
  refine va_callx (v := (emb' r1).map (rv wd)) (va_runS (As := av.map (rv wd)) (rest := st.map (rv wd)) (Ts := tbG) (own := (mdN y).cls) ⟨hx, hb, hml, hown, hw⟩ (hM r1 M1 hg wd l) ⟨callB_of (Ts := tbG) (n := av.length) hw (ws_good hz) rfl rfl rfl (hw _ hz.2.1) (hw _ hlk) hz.2.2 ⟨Nat.le_trans hR.1 hf1, Nat.le_trans hR.2 hf2⟩, hw _ him⟩ ⟨World.blind, fun U hU hW => ⟨rfl, hF.world U hU hW⟩⟩ rfl (by rw [List.length_map]) hl.1 (by simp) (lv_room (by rw [st_sum]; exact hst)) d ⟨hf3, hf4⟩) hF.2.2.2.1 ?_
  intro t H1 locs1 ht hB hS
  have hF1 : Fr wd X M1 s H1 locs1 := ⟨hF.1, by rw [← ht]; exact hB.1, hB.2, hS, hF.2.2.2.2.1, hF.2.2.2.2.2⟩
  have kk' := kk r1 M1 r M' hk wd p l e R s m args below meth c H1 locs1 cells slots Q ls ⟨hx, hb, hml, hown, hts, hf1, hf2, hf3, hf4⟩ hF1 hl hr
  rw [List.map_append] at kk'
  cases hz : emb' r1 <;> rw [hz] at kk' <;> exact kk'
theorem T_callSN {emb' : β → Option Value} {g : Option (β × Mem)} {k : β × Mem → Option (α × Mem)} (z : MD) (av st : List Value) {stk : List Value} {idx : Nat} {host : String} (d : decode (mdC y) pc = .ok (.invokestatic idx, 3)) (hs : stk = av.reverse ++ st) (hz : MOk z av.length) (hlk : Cond.methodLinkNest (mdN y).cls idx (mdN z) host ∈ lw_tbl) (him : Cond.static (mdN z) ∈ tbG) (hR : mdF z + 1 ≤ mdF y ∧ 8 + (mdL z + 11) + mdW z ≤ mdW y) (hst : (st.map fun v => v.category).sum ≤ 8)
    (hM : ∀ r M1, g = some (r, M1) → Ct X z av M (emb' r) M1) (kk : ∀ r M1, T X emb (k (r, M1)) y (pc + 3) lv ((emb' r).toList ++ st) M1) : T X emb (g.bind k) y pc lv stk M := by
  intro r M' h wd p l e R s m args below meth c H locs cells slots Q ls hC hF hl hr
  obtain ⟨⟨r1, M1⟩, hg, hk⟩ := Option.bind_eq_some_iff.mp h
  subst hs
  obtain ⟨hx, hb, hml, hown, hts, hf1, hf2, hf3, hf4⟩ := hC
  have hw : ∀ w ∈ tbG, w.before args s = true := hts
  refine va_callx (v := (emb' r1).map (rv wd)) (va_runSN (As := av.map (rv wd)) (rest := st.map (rv wd)) (Ts := tbG) (own := (mdN y).cls) (host := host) ⟨hx, hb, hml, hown, hw⟩ (hM r1 M1 hg wd l) ⟨va_cnB (Ts := tbG) (n := av.length) hw (ws_good hz) rfl rfl rfl (hF.2.2.2.2.2.1 _ _ _ _ hlk) (hw _ hz.2.1) hz.2.2 ⟨Nat.le_trans hR.1 hf1, Nat.le_trans hR.2 hf2⟩, hw _ him, trivial⟩ ⟨World.blind, fun U hU hW => ⟨rfl, hF.world U hU hW⟩⟩ rfl (by rw [List.length_map]) hl.1 (by simp) (lv_room (by rw [st_sum]; exact hst)) d ⟨hf3, hf4⟩) hF.2.2.2.1 ?_
  intro t H1 locs1 ht hB hS
  have hF1 : Fr wd X M1 s H1 locs1 := ⟨hF.1, by rw [← ht]; exact hB.1, hB.2, hS, hF.2.2.2.2.1, hF.2.2.2.2.2⟩
  have kk' := kk r1 M1 r M' hk wd p l e R s m args below meth c H1 locs1 cells slots Q ls ⟨hx, hb, hml, hown, hts, hf1, hf2, hf3, hf4⟩ hF1 hl hr
  rw [List.map_append] at kk'
  cases hz : emb' r1 <;> rw [hz] at kk' <;> exact kk'
theorem T_callVI {g : Option (Int32 × Mem)} {k : Int32 × Mem → Option (α × Mem)} (z : MD) (av st : List Value) {stk : List Value} {i c idx : Nat} {q : vw_C} (d : decode (mdC y) pc = .ok (.invokevirtual idx, 3)) (hob : KD[i]? = some (.inl c)) (hq : vwCl[c]? = some q) (hs : stk = av.reverse ++ .ref i :: st) (hz : MOk z av.length) (hlk : Cond.methodLink (mdN y).cls idx (mdN z) ∈ tbG) (him : Cond.instanceMethod (mdN z) ∈ tbG) (hse : Cond.selects q.1 (mdN z) (mdN z) ∈ tbG) (hR : mdF z + 1 ≤ mdF y ∧ 8 + (mdL z + 11) + mdW z ≤ mdW y) (hst : (st.map fun v => v.category).sum ≤ 8) (hM : ∀ r M1, g = some (r, M1) → Ct X z (.ref i :: av) M (eI r) M1) (kk : ∀ r M1, T X emb (k (r, M1)) y (pc + 3) lv (.int r :: st) M1) : T X emb (g.bind k) y pc lv stk M := T_callV (emb' := eI) z av st d hob hq hs hz hlk him hse hR hst hM kk
theorem T_callVL {g : Option (Int64 × Mem)} {k : Int64 × Mem → Option (α × Mem)} (z : MD) (av st : List Value) {stk : List Value} {i c idx : Nat} {q : vw_C} (d : decode (mdC y) pc = .ok (.invokevirtual idx, 3)) (hob : KD[i]? = some (.inl c)) (hq : vwCl[c]? = some q) (hs : stk = av.reverse ++ .ref i :: st) (hz : MOk z av.length) (hlk : Cond.methodLink (mdN y).cls idx (mdN z) ∈ tbG) (him : Cond.instanceMethod (mdN z) ∈ tbG) (hse : Cond.selects q.1 (mdN z) (mdN z) ∈ tbG) (hR : mdF z + 1 ≤ mdF y ∧ 8 + (mdL z + 11) + mdW z ≤ mdW y) (hst : (st.map fun v => v.category).sum ≤ 8) (hM : ∀ r M1, g = some (r, M1) → Ct X z (.ref i :: av) M (eL r) M1) (kk : ∀ r M1, T X emb (k (r, M1)) y (pc + 3) lv (.long r :: st) M1) : T X emb (g.bind k) y pc lv stk M := T_callV (emb' := eL) z av st d hob hq hs hz hlk him hse hR hst hM kk
theorem T_callVU {g : Option (Unit × Mem)} {k : Unit × Mem → Option (α × Mem)} (z : MD) (av st : List Value) {stk : List Value} {i c idx : Nat} {q : vw_C} (d : decode (mdC y) pc = .ok (.invokevirtual idx, 3)) (hob : KD[i]? = some (.inl c)) (hq : vwCl[c]? = some q) (hs : stk = av.reverse ++ .ref i :: st) (hz : MOk z av.length) (hlk : Cond.methodLink (mdN y).cls idx (mdN z) ∈ tbG) (him : Cond.instanceMethod (mdN z) ∈ tbG) (hse : Cond.selects q.1 (mdN z) (mdN z) ∈ tbG) (hR : mdF z + 1 ≤ mdF y ∧ 8 + (mdL z + 11) + mdW z ≤ mdW y) (hst : (st.map fun v => v.category).sum ≤ 8) (hM : ∀ r M1, g = some (r, M1) → Ct X z (.ref i :: av) M (eV r) M1) (kk : ∀ r M1, T X emb (k (r, M1)) y (pc + 3) lv (st) M1) : T X emb (g.bind k) y pc lv stk M := T_callV (emb' := eV) z av st d hob hq hs hz hlk him hse hR hst hM kk
theorem T_callVR {g : Option (Nat × Mem)} {k : Nat × Mem → Option (α × Mem)} (z : MD) (av st : List Value) {stk : List Value} {i c idx : Nat} {q : vw_C} (d : decode (mdC y) pc = .ok (.invokevirtual idx, 3)) (hob : KD[i]? = some (.inl c)) (hq : vwCl[c]? = some q) (hs : stk = av.reverse ++ .ref i :: st) (hz : MOk z av.length) (hlk : Cond.methodLink (mdN y).cls idx (mdN z) ∈ tbG) (him : Cond.instanceMethod (mdN z) ∈ tbG) (hse : Cond.selects q.1 (mdN z) (mdN z) ∈ tbG) (hR : mdF z + 1 ≤ mdF y ∧ 8 + (mdL z + 11) + mdW z ≤ mdW y) (hst : (st.map fun v => v.category).sum ≤ 8) (hM : ∀ r M1, g = some (r, M1) → Ct X z (.ref i :: av) M (eR r) M1) (kk : ∀ r M1, T X emb (k (r, M1)) y (pc + 3) lv (.ref r :: st) M1) : T X emb (g.bind k) y pc lv stk M := T_callV (emb' := eR) z av st d hob hq hs hz hlk him hse hR hst hM kk
theorem T_callSI {g : Option (Int32 × Mem)} {k : Int32 × Mem → Option (α × Mem)} (z : MD) (av st : List Value) {stk : List Value} {idx : Nat} (d : decode (mdC y) pc = .ok (.invokestatic idx, 3)) (hs : stk = av.reverse ++ st) (hz : MOk z av.length) (hlk : Cond.methodLink (mdN y).cls idx (mdN z) ∈ tbG) (him : Cond.static (mdN z) ∈ tbG) (hR : mdF z + 1 ≤ mdF y ∧ 8 + (mdL z + 11) + mdW z ≤ mdW y) (hst : (st.map fun v => v.category).sum ≤ 8) (hM : ∀ r M1, g = some (r, M1) → Ct X z (av) M (eI r) M1) (kk : ∀ r M1, T X emb (k (r, M1)) y (pc + 3) lv (.int r :: st) M1) : T X emb (g.bind k) y pc lv stk M := T_callS (emb' := eI) z av st d hs hz hlk him hR hst hM kk
theorem T_callSL {g : Option (Int64 × Mem)} {k : Int64 × Mem → Option (α × Mem)} (z : MD) (av st : List Value) {stk : List Value} {idx : Nat} (d : decode (mdC y) pc = .ok (.invokestatic idx, 3)) (hs : stk = av.reverse ++ st) (hz : MOk z av.length) (hlk : Cond.methodLink (mdN y).cls idx (mdN z) ∈ tbG) (him : Cond.static (mdN z) ∈ tbG) (hR : mdF z + 1 ≤ mdF y ∧ 8 + (mdL z + 11) + mdW z ≤ mdW y) (hst : (st.map fun v => v.category).sum ≤ 8) (hM : ∀ r M1, g = some (r, M1) → Ct X z (av) M (eL r) M1) (kk : ∀ r M1, T X emb (k (r, M1)) y (pc + 3) lv (.long r :: st) M1) : T X emb (g.bind k) y pc lv stk M := T_callS (emb' := eL) z av st d hs hz hlk him hR hst hM kk
theorem T_callSU {g : Option (Unit × Mem)} {k : Unit × Mem → Option (α × Mem)} (z : MD) (av st : List Value) {stk : List Value} {idx : Nat} (d : decode (mdC y) pc = .ok (.invokestatic idx, 3)) (hs : stk = av.reverse ++ st) (hz : MOk z av.length) (hlk : Cond.methodLink (mdN y).cls idx (mdN z) ∈ tbG) (him : Cond.static (mdN z) ∈ tbG) (hR : mdF z + 1 ≤ mdF y ∧ 8 + (mdL z + 11) + mdW z ≤ mdW y) (hst : (st.map fun v => v.category).sum ≤ 8) (hM : ∀ r M1, g = some (r, M1) → Ct X z (av) M (eV r) M1) (kk : ∀ r M1, T X emb (k (r, M1)) y (pc + 3) lv (st) M1) : T X emb (g.bind k) y pc lv stk M := T_callS (emb' := eV) z av st d hs hz hlk him hR hst hM kk
theorem T_callSR {g : Option (Nat × Mem)} {k : Nat × Mem → Option (α × Mem)} (z : MD) (av st : List Value) {stk : List Value} {idx : Nat} (d : decode (mdC y) pc = .ok (.invokestatic idx, 3)) (hs : stk = av.reverse ++ st) (hz : MOk z av.length) (hlk : Cond.methodLink (mdN y).cls idx (mdN z) ∈ tbG) (him : Cond.static (mdN z) ∈ tbG) (hR : mdF z + 1 ≤ mdF y ∧ 8 + (mdL z + 11) + mdW z ≤ mdW y) (hst : (st.map fun v => v.category).sum ≤ 8) (hM : ∀ r M1, g = some (r, M1) → Ct X z (av) M (eR r) M1) (kk : ∀ r M1, T X emb (k (r, M1)) y (pc + 3) lv (.ref r :: st) M1) : T X emb (g.bind k) y pc lv stk M := T_callS (emb' := eR) z av st d hs hz hlk him hR hst hM kk
theorem T_callSNI {g : Option (Int32 × Mem)} {k : Int32 × Mem → Option (α × Mem)} (z : MD) (av st : List Value) {stk : List Value} {idx : Nat} {host : String} (d : decode (mdC y) pc = .ok (.invokestatic idx, 3)) (hs : stk = av.reverse ++ st) (hz : MOk z av.length) (hlk : Cond.methodLinkNest (mdN y).cls idx (mdN z) host ∈ lw_tbl) (him : Cond.static (mdN z) ∈ tbG) (hR : mdF z + 1 ≤ mdF y ∧ 8 + (mdL z + 11) + mdW z ≤ mdW y) (hst : (st.map fun v => v.category).sum ≤ 8) (hM : ∀ r M1, g = some (r, M1) → Ct X z (av) M (eI r) M1) (kk : ∀ r M1, T X emb (k (r, M1)) y (pc + 3) lv (.int r :: st) M1) : T X emb (g.bind k) y pc lv stk M := T_callSN (emb' := eI) z av st d hs hz hlk him hR hst hM kk
theorem T_callSNL {g : Option (Int64 × Mem)} {k : Int64 × Mem → Option (α × Mem)} (z : MD) (av st : List Value) {stk : List Value} {idx : Nat} {host : String} (d : decode (mdC y) pc = .ok (.invokestatic idx, 3)) (hs : stk = av.reverse ++ st) (hz : MOk z av.length) (hlk : Cond.methodLinkNest (mdN y).cls idx (mdN z) host ∈ lw_tbl) (him : Cond.static (mdN z) ∈ tbG) (hR : mdF z + 1 ≤ mdF y ∧ 8 + (mdL z + 11) + mdW z ≤ mdW y) (hst : (st.map fun v => v.category).sum ≤ 8) (hM : ∀ r M1, g = some (r, M1) → Ct X z (av) M (eL r) M1) (kk : ∀ r M1, T X emb (k (r, M1)) y (pc + 3) lv (.long r :: st) M1) : T X emb (g.bind k) y pc lv stk M := T_callSN (emb' := eL) z av st d hs hz hlk him hR hst hM kk
theorem T_callSNU {g : Option (Unit × Mem)} {k : Unit × Mem → Option (α × Mem)} (z : MD) (av st : List Value) {stk : List Value} {idx : Nat} {host : String} (d : decode (mdC y) pc = .ok (.invokestatic idx, 3)) (hs : stk = av.reverse ++ st) (hz : MOk z av.length) (hlk : Cond.methodLinkNest (mdN y).cls idx (mdN z) host ∈ lw_tbl) (him : Cond.static (mdN z) ∈ tbG) (hR : mdF z + 1 ≤ mdF y ∧ 8 + (mdL z + 11) + mdW z ≤ mdW y) (hst : (st.map fun v => v.category).sum ≤ 8) (hM : ∀ r M1, g = some (r, M1) → Ct X z (av) M (eV r) M1) (kk : ∀ r M1, T X emb (k (r, M1)) y (pc + 3) lv (st) M1) : T X emb (g.bind k) y pc lv stk M := T_callSN (emb' := eV) z av st d hs hz hlk him hR hst hM kk
theorem T_callSNR {g : Option (Nat × Mem)} {k : Nat × Mem → Option (α × Mem)} (z : MD) (av st : List Value) {stk : List Value} {idx : Nat} {host : String} (d : decode (mdC y) pc = .ok (.invokestatic idx, 3)) (hs : stk = av.reverse ++ st) (hz : MOk z av.length) (hlk : Cond.methodLinkNest (mdN y).cls idx (mdN z) host ∈ lw_tbl) (him : Cond.static (mdN z) ∈ tbG) (hR : mdF z + 1 ≤ mdF y ∧ 8 + (mdL z + 11) + mdW z ≤ mdW y) (hst : (st.map fun v => v.category).sum ≤ 8) (hM : ∀ r M1, g = some (r, M1) → Ct X z (av) M (eR r) M1) (kk : ∀ r M1, T X emb (k (r, M1)) y (pc + 3) lv (.ref r :: st) M1) : T X emb (g.bind k) y pc lv stk M := T_callSN (emb' := eR) z av st d hs hz hlk him hR hst hM kk
/-- ends -/
theorem T_iret {v : Int32} (d : decode (mdC y) pc = .ok (.ireturn, 1)) (hr : mdR y = some .int) : T X eI (some (v, M)) y pc lv [.int v] M := by
  intro r M' h wd p l e R s m args below meth c H locs cells slots Q ls hC hF hl hret
  cases h
  exact hret H locs pc ls hF ⟨d, .int, hr, rfl⟩
theorem T_zret {v : Int32} (d : decode (mdC y) pc = .ok (.ireturn, 1)) (hr : mdR y = some .boolean) : T X eI (gd (v == 0 || v == 1) (some (v, M))) y pc lv [.int v] M := by
  intro r M' h wd p l e R s m args below meth c H locs cells slots Q ls hC hF hl hret
  obtain ⟨hg, h⟩ := gd_some h
  cases h
  refine hret H locs pc ls hF ⟨d, .boolean, hr, ?_⟩
  simp only [Bool.or_eq_true, beq_iff_eq] at hg
  rcases hg with rfl | rfl <;> decide +kernel
theorem T_zret0 (d : decode (mdC y) pc = .ok (.ireturn, 1)) (hr : mdR y = some .boolean) : T X eI (some (0, M)) y pc lv [.int 0] M := by
  intro r M' h wd p l e R s m args below meth c H locs cells slots Q ls hC hF hl hret
  cases h
  exact hret H locs pc ls hF ⟨d, .boolean, hr, by decide +kernel⟩
theorem T_zret1 (d : decode (mdC y) pc = .ok (.ireturn, 1)) (hr : mdR y = some .boolean) : T X eI (some (1, M)) y pc lv [.int 1] M := by
  intro r M' h wd p l e R s m args below meth c H locs cells slots Q ls hC hF hl hret
  cases h
  exact hret H locs pc ls hF ⟨d, .boolean, hr, by decide +kernel⟩
theorem T_lret {v : Int64} (d : decode (mdC y) pc = .ok (.lreturn, 1)) (hr : mdR y = some .long) : T X eL (some (v, M)) y pc lv [.long v] M := by
  intro r M' h wd p l e R s m args below meth c H locs cells slots Q ls hC hF hl hret
  cases h
  exact hret H locs pc ls hF ⟨d, hr⟩
theorem T_vret (d : decode (mdC y) pc = .ok (.return_, 1)) (hr : mdR y = none) : T X eV (some ((), M)) y pc lv [] M := by
  intro r M' h wd p l e R s m args below meth c H locs cells slots Q ls hC hF hl hret
  cases h
  exact hret H locs pc ls hF ⟨d, hr⟩
theorem T_aret {v : Nat} {n : String} (d : decode (mdC y) pc = .ok (.areturn, 1)) (hr : mdR y = some (.object n)) : T X eR (some (v, M)) y pc lv [.ref v] M := by
  intro r M' h wd p l e R s m args below meth c H locs cells slots Q ls hC hF hl hret
  cases h
  exact hret H locs pc ls hF ⟨d, n, hr⟩
/-- the same locals, fewer, in another order -/
theorem T_sub (ks : List Nat) {lv' : List (Nat × Value)} (h : lv_pick lv ks = lv') (k : T X emb o y pc lv' st M) : T X emb o y pc lv st M := by
  intro r M' ho wd p l e R s m args below meth c H locs cells slots Q ls hC hF hl hr
  refine k r M' ho wd p l e R s m args below meth c H locs cells slots Q ls hC hF (lv_sub hl ks ?_) hr
  subst h
  unfold lv_pick
  rw [List.map_filterMap]
  congr 1
  funext i
  rw [List.getElem?_map]
theorem T_ite {c : Prop} [Decidable c] (k1 : c → T X emb o y pc lv st M) (k2 : ¬ c → T X emb o2 y pc lv st M) : T X emb (if c then o else o2) y pc lv st M := by
  by_cases h : c
  · rw [if_pos h]; exact k1 h
  · rw [if_neg h]; exact k2 h
theorem T_gd {b : Bool} (k : b = true → T X emb o y pc lv st M) : T X emb (gd b o) y pc lv st M := by
  intro r M' h
  obtain ⟨hg, h⟩ := gd_some h
  exact k hg r M' h
theorem T_mw {k : Mem → Option (α × Mem)} (h : ∀ M1, T X emb (k M1) y pc lv st M1) : T X emb (mw M k) y pc lv st M := h M
theorem T_iw {v : Int32} {k : Int32 → Option (α × Mem)} (h : ∀ v, T X emb (k v) y pc lv (.int v :: st) M) : T X emb (iw v k) y pc lv (.int v :: st) M := h v
theorem T_lw {v : Int64} {k : Int64 → Option (α × Mem)} (h : ∀ v, T X emb (k v) y pc lv (.long v :: st) M) : T X emb (lw v k) y pc lv (.long v :: st) M := h v
theorem T_none : T X emb none y pc lv st M := fun r M' h => by cases h
/-- a constant of the pool -/
theorem T_ldc {idx : Nat} {v : Int32} (d : decode (mdC y) pc = .ok (.ldc idx, 2)) (hw : Cond.constant (mdN y).cls idx v ∈ tbG) (k : T X emb o y (pc + 2) lv (.int v :: st) M) : T X emb o y pc lv st M := by
  intro r M' h wd p l e R s m args below meth c H locs cells slots Q ls hC hF hl hr
  exact lv_ldc hC.1 hC.2.1 hC.2.2.2.1 (hC.2.2.2.2.1 _ hw) d (k r M' h wd p l e R s m args below meth c H locs cells slots Q ls hC hF hl hr)
theorem T_ldcw {idx : Nat} {v : Int32} (d : decode (mdC y) pc = .ok (.ldc_w idx, 3)) (hw : Cond.constant (mdN y).cls idx v ∈ tbG) (k : T X emb o y (pc + 3) lv (.int v :: st) M) : T X emb o y pc lv st M := by
  intro r M' h wd p l e R s m args below meth c H locs cells slots Q ls hC hF hl hr
  exact lv_ldcw hC.1 hC.2.1 hC.2.2.2.1 (hC.2.2.2.2.1 _ hw) d (k r M' h wd p l e R s m args below meth c H locs cells slots Q ls hC hF hl hr)
theorem T_ldc2 {idx : Nat} {v : Int64} (d : decode (mdC y) pc = .ok (.ldc2_w idx, 3)) (hw : Cond.constantLong (mdN y).cls idx v ∈ tbG) (k : T X emb o y (pc + 3) lv (.long v :: st) M) : T X emb o y pc lv st M := by
  intro r M' h wd p l e R s m args below meth c H locs cells slots Q ls hC hF hl hr
  exact lv_ldc2 hC.1 hC.2.1 hC.2.2.2.1 (hC.2.2.2.2.1 _ hw) d (k r M' h wd p l e R s m args below meth c H locs cells slots Q ls hC hF hl hr)
/-- what the tables say of a class's fields -/
def FOk (c : Nat) (q : vw_C) : Prop := vwCl[c]? = some q ∧ (∀ w ∈ u_ws q.1 q.2.1 q.2.2, w ∈ tbG) ∧ NF c = q.2.2 ∧ (∃ ty : Nat → FieldType, ∀ k, k < q.2.2 → parseFieldDescriptor (q.2.1 k).2.2.1 = some (ty k)) ∧ ∀ a, a < q.2.2 → ∀ b, b < q.2.2 → a ≠ b → (q.2.1 a).2.1 ≠ (q.2.1 b).2.1
theorem fs_at {wd : WD} {M : Mem} {c i k : Nat} (h : k < NF c) : ((List.range (NF c)).map (fv wd M c i))[k]? = some (fv wd M c i k) := by rw [List.getElem?_map, List.getElem?_range h]; rfl
theorem T_getI {i c idx : Nat} {q : vw_C} (k : Nat) (hF0 : FOk c q) (hob : KD[i]? = some (.inl c)) (hk : k < q.2.2) (ht : FT c k = 0) (d : decode (mdC y) pc = .ok (.getfield idx, 3)) (hw : Cond.fieldLink (mdN y).cls idx (q.2.1 k).1 (q.2.1 k).2.1 (q.2.1 k).2.2.1 ∈ tbG) (kk : T X emb o y (pc + 3) lv (.int (M.1 i k) :: st) M) : T X emb o y pc lv (.ref i :: st) M := by
  intro r M' h wd p l e R s m args below meth c H locs cells slots Q ls hC hF hl hr
  have hfs := fs_at (wd := wd) (M := M) (i := i) (k := k) (show k < NF _ by rw [hF0.2.2.1]; exact hk)
  rw [show fv wd M _ i k = .int (M.1 i k) by simp [fv, ht]] at hfs
  exact va_get hC.1 hC.2.1 hC.2.2.2.2.1 hF0.2.1 hC.2.2.2.1 hF.1 hF.2.1 i (by rw [cw_get _ _ (KD_lt hob), ent_obj hob]) hF0.1 k hk (hC.2.2.2.2.1 _ hw) (fun _ h9 => h9) hfs d (kk r M' h wd p l e R s m args below meth c H locs cells slots Q ls hC hF hl hr)
theorem T_getL {i c idx : Nat} {q : vw_C} (k : Nat) (hF0 : FOk c q) (hob : KD[i]? = some (.inl c)) (hk : k < q.2.2) (ht : FT c k = 1) (d : decode (mdC y) pc = .ok (.getfield idx, 3)) (hw : Cond.fieldLink (mdN y).cls idx (q.2.1 k).1 (q.2.1 k).2.1 (q.2.1 k).2.2.1 ∈ tbG) (kk : T X emb o y (pc + 3) lv (.long (M.2 i k) :: st) M) : T X emb o y pc lv (.ref i :: st) M := by
  intro r M' h wd p l e R s m args below meth c H locs cells slots Q ls hC hF hl hr
  have hfs := fs_at (wd := wd) (M := M) (i := i) (k := k) (show k < NF _ by rw [hF0.2.2.1]; exact hk)
  rw [show fv wd M _ i k = .long (M.2 i k) by simp [fv, ht]] at hfs
  exact va_get hC.1 hC.2.1 hC.2.2.2.2.1 hF0.2.1 hC.2.2.2.1 hF.1 hF.2.1 i (by rw [cw_get _ _ (KD_lt hob), ent_obj hob]) hF0.1 k hk (hC.2.2.2.2.1 _ hw) (fun _ h9 => h9) hfs d (kk r M' h wd p l e R s m args below meth c H locs cells slots Q ls hC hF hl hr)
theorem T_getR {i c idx : Nat} {q : vw_C} (k : Nat) (hF0 : FOk c q) (hob : KD[i]? = some (.inl c)) (hk : k < q.2.2) (ht : FT c k = 2) (d : decode (mdC y) pc = .ok (.getfield idx, 3)) (hw : Cond.fieldLink (mdN y).cls idx (q.2.1 k).1 (q.2.1 k).2.1 (q.2.1 k).2.2.1 ∈ tbG) (kk : T X emb o y (pc + 3) lv (.ref (rf i k) :: st) M) : T X emb o y pc lv (.ref i :: st) M := by
  intro r M' h wd p l e R s m args below meth c H locs cells slots Q ls hC hF hl hr
  have hfs := fs_at (wd := wd) (M := M) (i := i) (k := k) (show k < NF _ by rw [hF0.2.2.1]; exact hk)
  rw [show fv wd M _ i k = .ref (wd.1 (rf i k)) by simp [fv, ht]] at hfs
  exact va_get hC.1 hC.2.1 hC.2.2.2.2.1 hF0.2.1 hC.2.2.2.1 hF.1 hF.2.1 i (by rw [cw_get _ _ (KD_lt hob), ent_obj hob]) hF0.1 k hk (hC.2.2.2.2.1 _ hw) (fun _ h9 => h9) hfs d (kk r M' h wd p l e R s m args below meth c H locs cells slots Q ls hC hF hl hr)
theorem T_putI {i c idx : Nat} {q : vw_C} {x : Int32} {ty : FieldType} (k : Nat) (hF0 : FOk c q) (hob : KD[i]? = some (.inl c)) (hk : k < q.2.2) (ht : FT c k = 0) (hfin : (q.2.1 k).2.2.2 = false) (hd : parseFieldDescriptor (q.2.1 k).2.2.1 = some ty) (hn : narrow ty (.int x) = .int x) (hft : fits ty (.int x) = true) (d : decode (mdC y) pc = .ok (.putfield idx, 3)) (hw : Cond.fieldLink (mdN y).cls idx (q.2.1 k).1 (q.2.1 k).2.1 (q.2.1 k).2.2.1 ∈ tbG) (kk : T X emb o y (pc + 3) lv st (mI M i k x)) : T X emb o y pc lv (.int x :: .ref i :: st) M := by
  intro r M' h wd p l e R s m args below meth c H locs cells slots Q ls hC hF hl hr
  obtain ⟨ty0, hty0⟩ := hF0.2.2.2.1
  have hi := KD_lt hob
  refine va_put (v := .int x) hC.1 hC.2.1 hC.2.2.2.2.1 hF0.2.1 ty0 hty0 hF0.2.2.2.2 hC.2.2.2.1 hF.1 hF.2.1 hF.2.2.1 hF.2.2.2.1 i (by rw [cw_get _ _ hi, ent_obj hob]) hF0.1 k hk (hC.2.2.2.2.1 _ hw) (fun _ h9 => h9) hfin hd hn hft (by rw [List.length_map, List.length_range, hF0.2.2.1]; exact hk) d (fun H1 locs1 hP1 hD1 hS1 => ?_)
  have e9 := cw_set (wd := wd) (M := M) (M' := mI M i k x) hi (ent_putI hob ht) (fun j hj => ⟨mR_ne hj, rfl⟩)
  rw [e9] at hP1 hD1
  exact kk r M' h wd p l e R s m args below meth c H1 locs1 cells slots Q ls hC ⟨hF.1, hP1, hD1, hS1, hF.2.2.2.2⟩ hl hr
theorem T_putL {i c idx : Nat} {q : vw_C} {x : Int64} (k : Nat) (hF0 : FOk c q) (hob : KD[i]? = some (.inl c)) (hk : k < q.2.2) (ht : FT c k = 1) (hfin : (q.2.1 k).2.2.2 = false) (hd : parseFieldDescriptor (q.2.1 k).2.2.1 = some .long) (d : decode (mdC y) pc = .ok (.putfield idx, 3)) (hw : Cond.fieldLink (mdN y).cls idx (q.2.1 k).1 (q.2.1 k).2.1 (q.2.1 k).2.2.1 ∈ tbG) (kk : T X emb o y (pc + 3) lv st (mL M i k x)) : T X emb o y pc lv (.long x :: .ref i :: st) M := by
  intro r M' h wd p l e R s m args below meth c H locs cells slots Q ls hC hF hl hr
  obtain ⟨ty0, hty0⟩ := hF0.2.2.2.1
  have hi := KD_lt hob
  refine va_put (v := .long x) hC.1 hC.2.1 hC.2.2.2.2.1 hF0.2.1 ty0 hty0 hF0.2.2.2.2 hC.2.2.2.1 hF.1 hF.2.1 hF.2.2.1 hF.2.2.2.1 i (by rw [cw_get _ _ hi, ent_obj hob]) hF0.1 k hk (hC.2.2.2.2.1 _ hw) (fun _ h9 => h9) hfin hd rfl rfl (by rw [List.length_map, List.length_range, hF0.2.2.1]; exact hk) d (fun H1 locs1 hP1 hD1 hS1 => ?_)
  have e9 := cw_set (wd := wd) (M := M) (M' := mL M i k x) hi (ent_putL hob ht) (fun j hj => ⟨rfl, mRL_ne hj⟩)
  rw [e9] at hP1 hD1
  exact kk r M' h wd p l e R s m args below meth c H1 locs1 cells slots Q ls hC ⟨hF.1, hP1, hD1, hS1, hF.2.2.2.2⟩ hl hr
theorem T_iald {a n : Nat} {j : Int32} (hob : KD[a]? = some (.inr (0, n))) (d : decode (mdC y) pc = .ok (.iaload, 1)) (k : T X emb o y (pc + 1) lv (.int (M.1 a j.toNatClampNeg) :: st) M) : T X emb (gd (ib j n) o) y pc lv (.int j :: .ref a :: st) M := by
  intro r M' h wd p l e R s m args below meth c H locs cells slots Q ls hC hF hl hr
  obtain ⟨hg, h⟩ := gd_some h
  exact va_iald hC.1 hC.2.1 hF.1 hF.2.1 a 0 (by rw [cw_get _ _ (KD_lt hob), ent_int hob]) rfl (ib_in hg) d (k r M' h wd p l e R s m args below meth c H locs cells slots Q ls hC hF hl hr)
theorem T_zald {a n : Nat} {j : Int32} (hob : KD[a]? = some (.inr (2, n))) (d : decode (mdC y) pc = .ok (.baload, 1)) (k : T X emb o y (pc + 1) lv (.int (M.1 a j.toNatClampNeg) :: st) M) : T X emb (gd (ib j n) o) y pc lv (.int j :: .ref a :: st) M := by
  intro r M' h wd p l e R s m args below meth c H locs cells slots Q ls hC hF hl hr
  obtain ⟨hg, h⟩ := gd_some h
  exact va_zald hC.1 hC.2.1 hF.1 hF.2.1 a 2 (by rw [cw_get _ _ (KD_lt hob), ent_bool hob]) rfl (ib_in hg) d (k r M' h wd p l e R s m args below meth c H locs cells slots Q ls hC hF hl hr)
theorem T_lald {a n : Nat} {j : Int32} (hob : KD[a]? = some (.inr (1, n))) (d : decode (mdC y) pc = .ok (.laload, 1)) (k : T X emb o y (pc + 1) lv (.long (M.2 a j.toNatClampNeg) :: st) M) : T X emb (gd (ib j n) o) y pc lv (.int j :: .ref a :: st) M := by
  intro r M' h wd p l e R s m args below meth c H locs cells slots Q ls hC hF hl hr
  obtain ⟨hg, h⟩ := gd_some h
  exact va_lald hC.1 hC.2.1 hF.1 hF.2.1 a 1 (by rw [cw_get _ _ (KD_lt hob), ent_long hob]) rfl (ib_in hg) d (k r M' h wd p l e R s m args below meth c H locs cells slots Q ls hC hF hl hr)
theorem T_alen {a t n : Nat} {v : Int32} (hob : KD[a]? = some (.inr (0, n))) (hv : Int32.ofNat n = v) (d : decode (mdC y) pc = .ok (.arraylength, 1)) (k : T X emb o y (pc + 1) lv (.int v :: st) M) : T X emb o y pc lv (.ref a :: st) M := by
  intro r M' h wd p l e R s m args below meth c H locs cells slots Q ls hC hF hl hr
  exact va_alen hC.1 hC.2.1 hF.1 hF.2.1 a 0 (by rw [cw_get _ _ (KD_lt hob), ent_int hob]) rfl hv d (k r M' h wd p l e R s m args below meth c H locs cells slots Q ls hC hF hl hr)
theorem T_iast {a n : Nat} {j x : Int32} (hob : KD[a]? = some (.inr (0, n))) (d : decode (mdC y) pc = .ok (.iastore, 1)) (k : T X emb o y (pc + 1) lv st (mI M a j.toNatClampNeg x)) : T X emb (gd (ib j n) o) y pc lv (.int x :: .int j :: .ref a :: st) M := by
  intro r M' h wd p l e R s m args below meth c H locs cells slots Q ls hC hF hl hr
  obtain ⟨hg, h⟩ := gd_some h
  have hi := KD_lt hob
  refine va_iast hC.1 hC.2.1 hF.1 hF.2.1 hF.2.2.1 hF.2.2.2.1 a 0 (by rw [cw_get _ _ hi, ent_int hob]) rfl (ib_in hg) d (fun H1 locs1 hP1 hD1 hS1 => ?_)
  have e9 := cw_set (wd := wd) (M := M) (M' := mI M a j.toNatClampNeg x) hi (ent_int hob) (fun j hj => ⟨mR_ne hj, rfl⟩)
  rw [show (mI M a j.toNatClampNeg x).1 a = upd (M.1 a) j.toNatClampNeg x from mR_at] at e9
  rw [e9] at hP1 hD1
  exact k r M' h wd p l e R s m args below meth c H1 locs1 cells slots Q ls hC ⟨hF.1, hP1, hD1, hS1, hF.2.2.2.2⟩ hl hr
theorem T_zast {a n : Nat} {j x : Int32} (hob : KD[a]? = some (.inr (2, n))) (d : decode (mdC y) pc = .ok (.bastore, 1)) (k : T X emb o y (pc + 1) lv st (mI M a j.toNatClampNeg (vp_nar .boolean x))) : T X emb (gd (ib j n) o) y pc lv (.int x :: .int j :: .ref a :: st) M := by
  intro r M' h wd p l e R s m args below meth c H locs cells slots Q ls hC hF hl hr
  obtain ⟨hg, h⟩ := gd_some h
  have hi := KD_lt hob
  refine va_zast hC.1 hC.2.1 hF.1 hF.2.1 hF.2.2.1 hF.2.2.2.1 a 2 (by rw [cw_get _ _ hi, ent_bool hob]) rfl (ib_in hg) d (fun H1 locs1 hP1 hD1 hS1 => ?_)
  have e9 := cw_set (wd := wd) (M := M) (M' := mI M a j.toNatClampNeg (vp_nar .boolean x)) hi (ent_bool hob) (fun j hj => ⟨mR_ne hj, rfl⟩)
  rw [show (mI M a j.toNatClampNeg (vp_nar .boolean x)).1 a = upd (M.1 a) j.toNatClampNeg (vp_nar .boolean x) from mR_at] at e9
  rw [e9] at hP1 hD1
  exact k r M' h wd p l e R s m args below meth c H1 locs1 cells slots Q ls hC ⟨hF.1, hP1, hD1, hS1, hF.2.2.2.2⟩ hl hr
theorem T_last {a n : Nat} {j : Int32} {x : Int64} (hob : KD[a]? = some (.inr (1, n))) (d : decode (mdC y) pc = .ok (.lastore, 1)) (k : T X emb o y (pc + 1) lv st (mL M a j.toNatClampNeg x)) : T X emb (gd (ib j n) o) y pc lv (.long x :: .int j :: .ref a :: st) M := by
  intro r M' h wd p l e R s m args below meth c H locs cells slots Q ls hC hF hl hr
  obtain ⟨hg, h⟩ := gd_some h
  have hi := KD_lt hob
  refine va_last hC.1 hC.2.1 hF.1 hF.2.1 hF.2.2.1 hF.2.2.2.1 a 1 (by rw [cw_get _ _ hi, ent_long hob]) rfl (ib_in hg) d (fun H1 locs1 hP1 hD1 hS1 => ?_)
  have e9 := cw_set (wd := wd) (M := M) (M' := mL M a j.toNatClampNeg x) hi (ent_long hob) (fun j hj => ⟨rfl, mRL_ne hj⟩)
  rw [show (mL M a j.toNatClampNeg x).2 a = vp_updL (M.2 a) j.toNatClampNeg x from mRL_at] at e9
  rw [e9] at hP1 hD1
  exact k r M' h wd p l e R s m args below meth c H1 locs1 cells slots Q ls hC ⟨hF.1, hP1, hD1, hS1, hF.2.2.2.2⟩ hl hr
/-- the script, and the kinds drawn -/
theorem T_sld {j : Int32} (d : decode (mdC y) pc = .ok (.iaload, 1)) (k : T X emb o y (pc + 1) lv (.int (X.2 j.toNatClampNeg) :: st) M) : T X emb (gd (ib j X.1) o) y pc lv (.int j :: .ref 1000 :: st) M := by
  intro r M' h wd p l e R s m args below meth c H locs cells slots Q ls hC hF hl hr
  obtain ⟨hg, h⟩ := gd_some h
  have hX := hF.2.2.2.2.1
  exact va_sld hC.1 hC.2.1 hX.1 (by have := hX.2.1; have := hX.2.2.2.2.2; omega) (fun z => by have := hX.2.1; unfold AA at z; omega) hF.2.2.2.1 (ib_in hg) d (k r M' h wd p l e R s m args below meth c H locs cells slots Q ls hC hF hl hr)
theorem T_slen (d : decode (mdC y) pc = .ok (.arraylength, 1)) (k : T X emb o y (pc + 1) lv (.int (Int32.ofNat X.1) :: st) M) : T X emb o y pc lv (.ref 1000 :: st) M := by
  intro r M' h wd p l e R s m args below meth c H locs cells slots Q ls hC hF hl hr
  have hX := hF.2.2.2.2.1
  exact va_slen hC.1 hC.2.1 hX.1 (by have := hX.2.1; have := hX.2.2.2.2.2; omega) (fun z => by have := hX.2.1; unfold AA at z; omega) hF.2.2.2.1 d (k r M' h wd p l e R s m args below meth c H locs cells slots Q ls hC hF hl hr)
theorem T_dld {j : Int32} (d : decode (mdC y) pc = .ok (.iaload, 1)) (k : T X emb o y (pc + 1) lv (.int (dk j.toNatClampNeg) :: st) M) : T X emb (gd (ib j 8) o) y pc lv (.int j :: .ref 1001 :: st) M := by
  intro r M' h wd p l e R s m args below meth c H locs cells slots Q ls hC hF hl hr
  obtain ⟨hg, h⟩ := gd_some h
  have hX := hF.2.2.2.2.1
  exact va_ti hC.1 hC.2.1 hX.2.2.1 hF.2.2.2.1 (ib_in hg) rfl d (k r M' h wd p l e R s m args below meth c H locs cells slots Q ls hC hF hl hr)
theorem T_gets {idx : Nat} {host : String} (d : decode (mdC y) pc = .ok (.getstatic idx, 3)) (hw : Cond.fieldLinkNest (mdN y).cls idx "BathBaskets" "DRAWN_KINDS" "[I" host ∈ lw_tbl) (k : T X emb o y (pc + 3) lv (.ref 1001 :: st) M) : T X emb o y pc lv st M := by
  intro r M' h wd p l e R s m args below meth c H locs cells slots Q ls hC hF hl hr
  have hX := hF.2.2.2.2.1
  exact va_getsN hC.1 hC.2.1 hX.2.2.2.2.1 hF.2.2.2.1 hC.2.2.2.1 (va_Nw.use rfl (hF.2.2.2.2.2.2 _ _ _ _ _ _ hw)) (fun _ h9 => h9) d (k r M' h wd p l e R s m args below meth c H locs cells slots Q ls hC hF hl hr)
/-- a row copied over another -/
theorem T_copyi {idx a b na nb : Nat} {sp dp n : Int32} (ha : KD[a]? = some (.inr (0, na))) (hb : KD[b]? = some (.inr (0, nb))) (d : decode (mdC y) pc = .ok (.invokestatic idx, 3)) (hlk : Cond.methodLink (mdN y).cls idx arraycopyName ∈ tbG) (hnat : Cond.native arraycopyName ∈ tbG) (hstat : Cond.static arraycopyName ∈ tbG) (hini : Cond.initialized "java/lang/System" ∈ tbG) (h1 : ¬ sp < 0) (h2 : ¬ dp < 0) (h3 : ¬ n < 0) (h4 : sp.toNatClampNeg + n.toNatClampNeg ≤ na) (h5 : dp.toNatClampNeg + n.toNatClampNeg ≤ nb) (hfr : 1 ≤ mdF y) (hlo : (st.map fun v => v.category).sum + (nativeFrameWords "java/lang/System" "arraycopy" 5 + 11) ≤ mdW y)
    (k : T X emb o y (pc + 3) lv st (mR M b (va_cpy (M.1 a) (M.1 b) sp.toNatClampNeg dp.toNatClampNeg n.toNatClampNeg))) : T X emb o y pc lv (.int n :: .int dp :: .ref b :: .int sp :: .ref a :: st) M := by
  intro r M' h wd p l e R s m args below meth c H locs cells slots Q ls hC hF hl hr
  have hia := KD_lt ha
  have hib := KD_lt hb
  refine va_copyi hC.1 hC.2.1 (by rw [hl.1]; exact hC.2.2.1) hC.2.2.2.1 (hC.2.2.2.2.1 _ hlk) (hC.2.2.2.2.1 _ hnat) (hC.2.2.2.2.1 _ hstat) (hC.2.2.2.2.1 _ hini) hF.1 hF.2.1 hF.2.2.1 hF.2.2.2.1 a b 0 0 (by rw [cw_get _ _ hia, ent_int ha]) (by rw [cw_get _ _ hib, ent_int hb]) rfl rfl rfl h1 h2 h3 h4 h5 (fun _ _ => rfl) (Nat.le_trans hfr hC.2.2.2.2.2.1) (Nat.le_trans (by rw [st_sum]; exact hlo) hC.2.2.2.2.2.2.1) d (fun H1 locs1 hP1 hD1 hS1 => ?_)
  have e9 := cw_set (wd := wd) (M := M) (M' := mR M b (va_cpy (M.1 a) (M.1 b) sp.toNatClampNeg dp.toNatClampNeg n.toNatClampNeg)) hib (ent_int hb) (fun j hj => ⟨mR_ne hj, rfl⟩)
  rw [mR_at] at e9
  rw [e9] at hP1 hD1
  exact k r M' h wd p l e R s m args below meth c H1 locs1 cells slots Q ls hC ⟨hF.1, hP1, hD1, hS1, hF.2.2.2.2⟩ hl hr
/-- switches -/
theorem T_tabIn {dflt lo hi : Int} {offs : Array Int} {len : Nat} {x : Int32} {off : Int} (tgt : Nat) (d : decode (mdC y) pc = .ok (.tableswitch dflt lo hi offs, len)) (h1 : ¬ x.toInt < lo) (h2 : ¬ hi < x.toInt) (ho : offs[(x.toInt - lo).toNat]? = some off) (ht : (pc : Int) + off = (tgt : Int)) (k : T X emb o y tgt lv st M) : T X emb o y pc lv (.int x :: st) M := by
  intro r M' h wd p l e R s m args below meth c H locs cells slots Q ls hC hF hl hr
  exact lv_tableIn hC.1 hC.2.1 d h1 h2 ho ht (k r M' h wd p l e R s m args below meth c H locs cells slots Q ls hC hF hl hr)
theorem T_tabOut {dflt lo hi : Int} {offs : Array Int} {len : Nat} {x : Int32} (tgt : Nat) (d : decode (mdC y) pc = .ok (.tableswitch dflt lo hi offs, len)) (h1 : x.toInt < lo ∨ hi < x.toInt) (ht : (pc : Int) + dflt = (tgt : Int)) (k : T X emb o y tgt lv st M) : T X emb o y pc lv (.int x :: st) M := by
  intro r M' h wd p l e R s m args below meth c H locs cells slots Q ls hC hF hl hr
  exact lv_tableOut hC.1 hC.2.1 d h1 ht (k r M' h wd p l e R s m args below meth c H locs cells slots Q ls hC hF hl hr)
theorem T_look {dflt : Int} {ps : Array (Int × Int)} {len : Nat} {x : Int32} {off : Int} (tgt : Nat) (d : decode (mdC y) pc = .ok (.lookupswitch dflt ps, len)) (hp : (ps.toList.zip (ps.toList.drop 1)).all (fun (a, next) => a.1 < next.1) = true) (ho : Op.lookupswitch.offset ps.toList dflt x.toInt = off) (ht : (pc : Int) + off = (tgt : Int)) (k : T X emb o y tgt lv st M) : T X emb o y pc lv (.int x :: st) M := by
  intro r M' h wd p l e R s m args below meth c H locs cells slots Q ls hC hF hl hr
  exact lv_lookup hC.1 hC.2.1 d hp ho ht (k r M' h wd p l e R s m args below meth c H locs cells slots Q ls hC hF hl hr)
theorem tab_out {n : Nat} {lo hi : Int} {x : Int32} (hn : hi = lo + n - 1) (h : ∀ j : Nat, j < n → ¬ x.toInt = lo + j) : x.toInt < lo ∨ hi < x.toInt := by
  by_cases h1 : x.toInt < lo
  · exact Or.inl h1
  · refine Or.inr ?_
    by_cases h2 : hi < x.toInt
    · exact h2
    · exact absurd (show x.toInt = lo + ((x.toInt - lo).toNat : Nat) by omega) (h _ (by omega))
theorem T_iadd {a b : Int32} (d : decode (mdC y) pc = .ok (.iadd, 1)) (k : T X emb o y (pc + 1) lv (.int (a + b) :: st) M) : T X emb o y pc lv (.int b :: .int a :: st) M := by
  intro r M' h wd p l e R s m args below meth c H locs cells slots Q ls hC hF hl hr
  exact lv_iadd hC.1 hC.2.1 d (k r M' h wd p l e R s m args below meth c H locs cells slots Q ls hC hF hl hr)
theorem T_isub {a b : Int32} (d : decode (mdC y) pc = .ok (.isub, 1)) (k : T X emb o y (pc + 1) lv (.int (a - b) :: st) M) : T X emb o y pc lv (.int b :: .int a :: st) M := by
  intro r M' h wd p l e R s m args below meth c H locs cells slots Q ls hC hF hl hr
  exact lv_isub hC.1 hC.2.1 d (k r M' h wd p l e R s m args below meth c H locs cells slots Q ls hC hF hl hr)
theorem T_imul {a b : Int32} (d : decode (mdC y) pc = .ok (.imul, 1)) (k : T X emb o y (pc + 1) lv (.int (a * b) :: st) M) : T X emb o y pc lv (.int b :: .int a :: st) M := by
  intro r M' h wd p l e R s m args below meth c H locs cells slots Q ls hC hF hl hr
  exact lv_imul hC.1 hC.2.1 d (k r M' h wd p l e R s m args below meth c H locs cells slots Q ls hC hF hl hr)
theorem T_iand {a b : Int32} (d : decode (mdC y) pc = .ok (.iand, 1)) (k : T X emb o y (pc + 1) lv (.int (a &&& b) :: st) M) : T X emb o y pc lv (.int b :: .int a :: st) M := by
  intro r M' h wd p l e R s m args below meth c H locs cells slots Q ls hC hF hl hr
  exact lv_iand hC.1 hC.2.1 d (k r M' h wd p l e R s m args below meth c H locs cells slots Q ls hC hF hl hr)
theorem T_ior {a b : Int32} (d : decode (mdC y) pc = .ok (.ior, 1)) (k : T X emb o y (pc + 1) lv (.int (a ||| b) :: st) M) : T X emb o y pc lv (.int b :: .int a :: st) M := by
  intro r M' h wd p l e R s m args below meth c H locs cells slots Q ls hC hF hl hr
  exact lv_ior hC.1 hC.2.1 d (k r M' h wd p l e R s m args below meth c H locs cells slots Q ls hC hF hl hr)
theorem T_ixor {a b : Int32} (d : decode (mdC y) pc = .ok (.ixor, 1)) (k : T X emb o y (pc + 1) lv (.int (a ^^^ b) :: st) M) : T X emb o y pc lv (.int b :: .int a :: st) M := by
  intro r M' h wd p l e R s m args below meth c H locs cells slots Q ls hC hF hl hr
  exact lv_ixor hC.1 hC.2.1 d (k r M' h wd p l e R s m args below meth c H locs cells slots Q ls hC hF hl hr)
theorem T_ishl {a b : Int32} (d : decode (mdC y) pc = .ok (.ishl, 1)) (k : T X emb o y (pc + 1) lv (.int (a <<< (b &&& 31)) :: st) M) : T X emb o y pc lv (.int b :: .int a :: st) M := by
  intro r M' h wd p l e R s m args below meth c H locs cells slots Q ls hC hF hl hr
  exact lv_ishl hC.1 hC.2.1 d (k r M' h wd p l e R s m args below meth c H locs cells slots Q ls hC hF hl hr)
theorem T_ishr {a b : Int32} (d : decode (mdC y) pc = .ok (.ishr, 1)) (k : T X emb o y (pc + 1) lv (.int (a >>> (b &&& 31)) :: st) M) : T X emb o y pc lv (.int b :: .int a :: st) M := by
  intro r M' h wd p l e R s m args below meth c H locs cells slots Q ls hC hF hl hr
  exact lv_ishr hC.1 hC.2.1 d (k r M' h wd p l e R s m args below meth c H locs cells slots Q ls hC hF hl hr)
theorem T_ladd {a b : Int64} (d : decode (mdC y) pc = .ok (.ladd, 1)) (k : T X emb o y (pc + 1) lv (.long (a + b) :: st) M) : T X emb o y pc lv (.long b :: .long a :: st) M := by
  intro r M' h wd p l e R s m args below meth c H locs cells slots Q ls hC hF hl hr
  exact lv_ladd hC.1 hC.2.1 d (k r M' h wd p l e R s m args below meth c H locs cells slots Q ls hC hF hl hr)
theorem T_lsub {a b : Int64} (d : decode (mdC y) pc = .ok (.lsub, 1)) (k : T X emb o y (pc + 1) lv (.long (a - b) :: st) M) : T X emb o y pc lv (.long b :: .long a :: st) M := by
  intro r M' h wd p l e R s m args below meth c H locs cells slots Q ls hC hF hl hr
  exact lv_lsub hC.1 hC.2.1 d (k r M' h wd p l e R s m args below meth c H locs cells slots Q ls hC hF hl hr)
theorem T_lmul {a b : Int64} (d : decode (mdC y) pc = .ok (.lmul, 1)) (k : T X emb o y (pc + 1) lv (.long (a * b) :: st) M) : T X emb o y pc lv (.long b :: .long a :: st) M := by
  intro r M' h wd p l e R s m args below meth c H locs cells slots Q ls hC hF hl hr
  exact lv_lmul hC.1 hC.2.1 d (k r M' h wd p l e R s m args below meth c H locs cells slots Q ls hC hF hl hr)
theorem T_iushr {a b : Int32} (d : decode (mdC y) pc = .ok (.iushr, 1)) (k : T X emb o y (pc + 1) lv (.int ((a.toUInt32 >>> (b.toUInt32 &&& Int32.toUInt32 31)).toInt32) :: st) M) : T X emb o y pc lv (.int b :: .int a :: st) M := by
  intro r M' h wd p l e R s m args below meth c H locs cells slots Q ls hC hF hl hr
  exact lv_iushr hC.1 hC.2.1 d rfl (k r M' h wd p l e R s m args below meth c H locs cells slots Q ls hC hF hl hr)
theorem T_ineg {a : Int32} (d : decode (mdC y) pc = .ok (.ineg, 1)) (k : T X emb o y (pc + 1) lv (.int (-a) :: st) M) : T X emb o y pc lv (.int a :: st) M := by
  intro r M' h wd p l e R s m args below meth c H locs cells slots Q ls hC hF hl hr
  exact lv_ineg hC.1 hC.2.1 d (k r M' h wd p l e R s m args below meth c H locs cells slots Q ls hC hF hl hr)
theorem T_i2l {a : Int32} (d : decode (mdC y) pc = .ok (.i2l, 1)) (k : T X emb o y (pc + 1) lv (.long a.toInt64 :: st) M) : T X emb o y pc lv (.int a :: st) M := by
  intro r M' h wd p l e R s m args below meth c H locs cells slots Q ls hC hF hl hr
  exact lv_i2l hC.1 hC.2.1 d rfl (k r M' h wd p l e R s m args below meth c H locs cells slots Q ls hC hF hl hr)
theorem T_l2i {a : Int64} (d : decode (mdC y) pc = .ok (.l2i, 1)) (k : T X emb o y (pc + 1) lv (.int a.toInt32 :: st) M) : T X emb o y pc lv (.long a :: st) M := by
  intro r M' h wd p l e R s m args below meth c H locs cells slots Q ls hC hF hl hr
  exact lv_l2i hC.1 hC.2.1 d rfl (k r M' h wd p l e R s m args below meth c H locs cells slots Q ls hC hF hl hr)
theorem T_lcmp {a b : Int64} (d : decode (mdC y) pc = .ok (.lcmp, 1)) (k : T X emb o y (pc + 1) lv (.int (lg_cmp a b) :: st) M) : T X emb o y pc lv (.long b :: .long a :: st) M := by
  intro r M' h wd p l e R s m args below meth c H locs cells slots Q ls hC hF hl hr
  exact W.lcmp hC.1 hC.2.1 d (k r M' h wd p l e R s m args below meth c H locs cells slots Q ls hC hF hl hr)
theorem T_iconst {n : Int} {v : Int32} (hv : Int32.ofInt n = v) (d : decode (mdC y) pc = .ok (.iconst n, 1)) (k : T X emb o y (pc + 1) lv (.int v :: st) M) : T X emb o y pc lv (st) M := by
  intro r M' h wd p l e R s m args below meth c H locs cells slots Q ls hC hF hl hr
  exact lv_iconst hC.1 hC.2.1 d hv (k r M' h wd p l e R s m args below meth c H locs cells slots Q ls hC hF hl hr)
theorem T_bipush {n : Int} {v : Int32} (hv : (Int8.ofInt n).toInt32 = v) (d : decode (mdC y) pc = .ok (.bipush n, 2)) (k : T X emb o y (pc + 2) lv (.int v :: st) M) : T X emb o y pc lv (st) M := by
  intro r M' h wd p l e R s m args below meth c H locs cells slots Q ls hC hF hl hr
  exact lv_bipush hC.1 hC.2.1 d hv (k r M' h wd p l e R s m args below meth c H locs cells slots Q ls hC hF hl hr)
theorem T_sipush {n : Int} {v : Int32} (hv : (Int16.ofInt n).toInt32 = v) (d : decode (mdC y) pc = .ok (.sipush n, 3)) (k : T X emb o y (pc + 3) lv (.int v :: st) M) : T X emb o y pc lv (st) M := by
  intro r M' h wd p l e R s m args below meth c H locs cells slots Q ls hC hF hl hr
  exact lv_sipush hC.1 hC.2.1 d hv (k r M' h wd p l e R s m args below meth c H locs cells slots Q ls hC hF hl hr)
theorem T_lconst {n : Fin 2} {v : Int64} (hv : Int64.ofNat (n : Nat) = v) (d : decode (mdC y) pc = .ok (.lconst n, 1)) (k : T X emb o y (pc + 1) lv (.long v :: st) M) : T X emb o y pc lv (st) M := by
  intro r M' h wd p l e R s m args below meth c H locs cells slots Q ls hC hF hl hr
  exact lv_lconst hC.1 hC.2.1 d hv (k r M' h wd p l e R s m args below meth c H locs cells slots Q ls hC hF hl hr)
theorem T_dup {v : Value} (hv : (v.category == 1) = true) (d : decode (mdC y) pc = .ok (.dup, 1)) (k : T X emb o y (pc + 1) lv (v :: v :: st) M) : T X emb o y pc lv (v :: st) M := by
  intro r M' h wd p l e R s m args below meth c H locs cells slots Q ls hC hF hl hr
  exact lv_dup hC.1 hC.2.1 d (rv_cat1 hv) (k r M' h wd p l e R s m args below meth c H locs cells slots Q ls hC hF hl hr)
theorem T_pop {v : Value} (hv : (v.category == 1) = true) (d : decode (mdC y) pc = .ok (.pop, 1)) (k : T X emb o y (pc + 1) lv (st) M) : T X emb o y pc lv (v :: st) M := by
  intro r M' h wd p l e R s m args below meth c H locs cells slots Q ls hC hF hl hr
  exact lv_pop hC.1 hC.2.1 d (rv_cat1 hv) (k r M' h wd p l e R s m args below meth c H locs cells slots Q ls hC hF hl hr)
theorem T_dup2 {v u : Value} (hv : (v.category == 1) = true) (hu : (u.category == 1) = true) (d : decode (mdC y) pc = .ok (.dup2, 1)) (k : T X emb o y (pc + 1) lv (v :: u :: v :: u :: st) M) : T X emb o y pc lv (v :: u :: st) M := by
  intro r M' h wd p l e R s m args below meth c H locs cells slots Q ls hC hF hl hr
  exact lv_dup2_11 hC.1 hC.2.1 d (rv_cat1 hv) (rv_cat1 hu) (k r M' h wd p l e R s m args below meth c H locs cells slots Q ls hC hF hl hr)
theorem T_dup_x1 {v u : Value} (hv : (v.category == 1) = true) (hu : (u.category == 1) = true) (d : decode (mdC y) pc = .ok (.dup_x1, 1)) (k : T X emb o y (pc + 1) lv (v :: u :: v :: st) M) : T X emb o y pc lv (v :: u :: st) M := by
  intro r M' h wd p l e R s m args below meth c H locs cells slots Q ls hC hF hl hr
  exact lv_dup_x1 hC.1 hC.2.1 d (rv_cat1 hv) (rv_cat1 hu) (k r M' h wd p l e R s m args below meth c H locs cells slots Q ls hC hF hl hr)
theorem T_iload_n (q : Nat) {k : Fin 4} {i : Nat} {x : Int32} (d : decode (mdC y) pc = .ok (.iload_n k, 1)) (hi : (k : Nat) = i) (hq : lv[q]? = some (i, .int x)) (kk : T X emb o y (pc + 1) lv (.int x :: st) M) : T X emb o y pc lv st M := by
  intro r M' h wd p l e R s m args below meth c H locs cells slots Q ls hC hF hl hr
  exact lv_iload_n hC.1 hC.2.1 d hi (lv_at hl q (rq_get hq)) (kk r M' h wd p l e R s m args below meth c H locs cells slots Q ls hC hF hl hr)
theorem T_iload (q : Nat) {i : Nat} {x : Int32} (d : decode (mdC y) pc = .ok (.iload i, 2)) (hq : lv[q]? = some (i, .int x)) (kk : T X emb o y (pc + 2) lv (.int x :: st) M) : T X emb o y pc lv st M := by
  intro r M' h wd p l e R s m args below meth c H locs cells slots Q ls hC hF hl hr
  exact lv_iload hC.1 hC.2.1 d (lv_at hl q (rq_get hq)) (kk r M' h wd p l e R s m args below meth c H locs cells slots Q ls hC hF hl hr)
theorem T_istore_n (lv' : List (Nat × Value)) {k : Fin 4} {i : Nat} {x : Int32} (d : decode (mdC y) pc = .ok (.istore_n k, 1)) (hi : (k : Nat) = i) (hn : i < mdL y) (hq : (i, .int x) :: lv.filter (fun q => !(q.1 == i) && !(q.1 + 1 == i && q.2.category == 2)) = lv') (kk : T X emb o y (pc + 1) lv' st M) : T X emb o y pc lv (.int x :: st) M := by
  intro r M' h wd p l e R s m args below meth c H locs cells slots Q ls hC hF hl hr
  exact lv_istore_n hC.1 hC.2.1 d hi hl hn (rq_st hq) (fun ls' hl' => kk r M' h wd p l e R s m args below meth c H locs cells slots Q ls' hC hF hl' hr)
theorem T_istore (lv' : List (Nat × Value)) {i : Nat} {x : Int32} (d : decode (mdC y) pc = .ok (.istore i, 2)) (hn : i < mdL y) (hq : (i, .int x) :: lv.filter (fun q => !(q.1 == i) && !(q.1 + 1 == i && q.2.category == 2)) = lv') (kk : T X emb o y (pc + 2) lv' st M) : T X emb o y pc lv (.int x :: st) M := by
  intro r M' h wd p l e R s m args below meth c H locs cells slots Q ls hC hF hl hr
  exact lv_istore hC.1 hC.2.1 d hl hn (rq_st hq) (fun ls' hl' => kk r M' h wd p l e R s m args below meth c H locs cells slots Q ls' hC hF hl' hr)
theorem T_lload_n (q : Nat) {k : Fin 4} {i : Nat} {x : Int64} (d : decode (mdC y) pc = .ok (.lload_n k, 1)) (hi : (k : Nat) = i) (hq : lv[q]? = some (i, .long x)) (kk : T X emb o y (pc + 1) lv (.long x :: st) M) : T X emb o y pc lv st M := by
  intro r M' h wd p l e R s m args below meth c H locs cells slots Q ls hC hF hl hr
  exact lv_lload_n hC.1 hC.2.1 d hi (lv_at hl q (rq_get hq)) (kk r M' h wd p l e R s m args below meth c H locs cells slots Q ls hC hF hl hr)
theorem T_lload (q : Nat) {i : Nat} {x : Int64} (d : decode (mdC y) pc = .ok (.lload i, 2)) (hq : lv[q]? = some (i, .long x)) (kk : T X emb o y (pc + 2) lv (.long x :: st) M) : T X emb o y pc lv st M := by
  intro r M' h wd p l e R s m args below meth c H locs cells slots Q ls hC hF hl hr
  exact lv_lload hC.1 hC.2.1 d (lv_at hl q (rq_get hq)) (kk r M' h wd p l e R s m args below meth c H locs cells slots Q ls hC hF hl hr)
theorem T_lstore_n (lv' : List (Nat × Value)) {k : Fin 4} {i : Nat} {x : Int64} (d : decode (mdC y) pc = .ok (.lstore_n k, 1)) (hi : (k : Nat) = i) (hn : i + 1 < mdL y) (hq : (i, .long x) :: lv.filter (fun q => !(q.1 == i) && (!(q.1 == i + 1) && !(q.1 + 1 == i && q.2.category == 2))) = lv') (kk : T X emb o y (pc + 1) lv' st M) : T X emb o y pc lv (.long x :: st) M := by
  intro r M' h wd p l e R s m args below meth c H locs cells slots Q ls hC hF hl hr
  exact lv_lstore_n hC.1 hC.2.1 d hi hl hn (rq_stl hq) (fun ls' hl' => kk r M' h wd p l e R s m args below meth c H locs cells slots Q ls' hC hF hl' hr)
theorem T_lstore (lv' : List (Nat × Value)) {i : Nat} {x : Int64} (d : decode (mdC y) pc = .ok (.lstore i, 2)) (hn : i + 1 < mdL y) (hq : (i, .long x) :: lv.filter (fun q => !(q.1 == i) && (!(q.1 == i + 1) && !(q.1 + 1 == i && q.2.category == 2))) = lv') (kk : T X emb o y (pc + 2) lv' st M) : T X emb o y pc lv (.long x :: st) M := by
  intro r M' h wd p l e R s m args below meth c H locs cells slots Q ls hC hF hl hr
  exact lv_lstore hC.1 hC.2.1 d hl hn (rq_stl hq) (fun ls' hl' => kk r M' h wd p l e R s m args below meth c H locs cells slots Q ls' hC hF hl' hr)
theorem T_aload_n (q : Nat) {k : Fin 4} {i : Nat} {x : Nat} (d : decode (mdC y) pc = .ok (.aload_n k, 1)) (hi : (k : Nat) = i) (hq : lv[q]? = some (i, .ref x)) (kk : T X emb o y (pc + 1) lv (.ref x :: st) M) : T X emb o y pc lv st M := by
  intro r M' h wd p l e R s m args below meth c H locs cells slots Q ls hC hF hl hr
  exact lv_aload_n hC.1 hC.2.1 d hi (lv_at hl q (rq_get hq)) (kk r M' h wd p l e R s m args below meth c H locs cells slots Q ls hC hF hl hr)
theorem T_aload (q : Nat) {i : Nat} {x : Nat} (d : decode (mdC y) pc = .ok (.aload i, 2)) (hq : lv[q]? = some (i, .ref x)) (kk : T X emb o y (pc + 2) lv (.ref x :: st) M) : T X emb o y pc lv st M := by
  intro r M' h wd p l e R s m args below meth c H locs cells slots Q ls hC hF hl hr
  exact lv_aload hC.1 hC.2.1 d (lv_at hl q (rq_get hq)) (kk r M' h wd p l e R s m args below meth c H locs cells slots Q ls hC hF hl hr)
theorem T_astore_n (lv' : List (Nat × Value)) {k : Fin 4} {i : Nat} {x : Nat} (d : decode (mdC y) pc = .ok (.astore_n k, 1)) (hi : (k : Nat) = i) (hn : i < mdL y) (hq : (i, .ref x) :: lv.filter (fun q => !(q.1 == i) && !(q.1 + 1 == i && q.2.category == 2)) = lv') (kk : T X emb o y (pc + 1) lv' st M) : T X emb o y pc lv (.ref x :: st) M := by
  intro r M' h wd p l e R s m args below meth c H locs cells slots Q ls hC hF hl hr
  exact lv_astore_n hC.1 hC.2.1 d hi hl hn (rq_st hq) (fun ls' hl' => kk r M' h wd p l e R s m args below meth c H locs cells slots Q ls' hC hF hl' hr)
theorem T_astore (lv' : List (Nat × Value)) {i : Nat} {x : Nat} (d : decode (mdC y) pc = .ok (.astore i, 2)) (hn : i < mdL y) (hq : (i, .ref x) :: lv.filter (fun q => !(q.1 == i) && !(q.1 + 1 == i && q.2.category == 2)) = lv') (kk : T X emb o y (pc + 2) lv' st M) : T X emb o y pc lv (.ref x :: st) M := by
  intro r M' h wd p l e R s m args below meth c H locs cells slots Q ls hC hF hl hr
  exact lv_astore hC.1 hC.2.1 d hl hn (rq_st hq) (fun ls' hl' => kk r M' h wd p l e R s m args below meth c H locs cells slots Q ls' hC hF hl' hr)
theorem T_iinc (q : Nat) (lv' : List (Nat × Value)) {i : Nat} {n : Int} {x v : Int32} (d : decode (mdC y) pc = .ok (.iinc i n, 3)) (hq : lv[q]? = some (i, .int x)) (hv : Int32.ofInt n = v) (hn : i < mdL y) (hl' : (i, .int (x + v)) :: lv.filter (fun q => !(q.1 == i) && !(q.1 + 1 == i && q.2.category == 2)) = lv') (kk : T X emb o y (pc + 3) lv' st M) : T X emb o y pc lv st M := by
  intro r M' h wd p l e R s m args below meth c H locs cells slots Q ls hC hF hl hr
  exact lv_iinc hC.1 hC.2.1 d hl (rq_get hq) (by rw [hv]) hn (rq_st hl') (fun ls' hl' => kk r M' h wd p l e R s m args below meth c H locs cells slots Q ls' hC hF hl' hr)
theorem T_if_eq {x : Int32} {off : Int} (tgt : Nat) (d : decode (mdC y) pc = .ok (.ifCond .eq off, 3)) (ht : (pc : Int) + off = (tgt : Int)) (k1 : T X emb o y (tgt) lv st M) (k2 : T X emb o2 y (pc + 3) lv st M) : T X emb (if x = 0 then o else o2) y pc lv (.int x :: st) M := by
  intro r M' h wd p l e R s m args below meth c H locs cells slots Q ls hC hF hl hr
  exact lv_if_eq hC.1 hC.2.1 d ht (fun hc => k1 r M' (by rw [if_pos hc] at h; exact h) wd p l e R s m args below meth c H locs cells slots Q ls hC hF hl hr) (fun hc => k2 r M' (by rw [if_neg hc] at h; exact h) wd p l e R s m args below meth c H locs cells slots Q ls hC hF hl hr)
theorem T_if_ne {x : Int32} {off : Int} (tgt : Nat) (d : decode (mdC y) pc = .ok (.ifCond .ne off, 3)) (ht : (pc : Int) + off = (tgt : Int)) (k1 : T X emb o y (pc + 3) lv st M) (k2 : T X emb o2 y (tgt) lv st M) : T X emb (if x = 0 then o else o2) y pc lv (.int x :: st) M := by
  intro r M' h wd p l e R s m args below meth c H locs cells slots Q ls hC hF hl hr
  exact lv_if_ne hC.1 hC.2.1 d ht (fun hc => k2 r M' (by rw [if_neg hc] at h; exact h) wd p l e R s m args below meth c H locs cells slots Q ls hC hF hl hr) (fun hc => k1 r M' (by rw [if_pos hc] at h; exact h) wd p l e R s m args below meth c H locs cells slots Q ls hC hF hl hr)
theorem T_if_lt {x : Int32} {off : Int} (tgt : Nat) (d : decode (mdC y) pc = .ok (.ifCond .lt off, 3)) (ht : (pc : Int) + off = (tgt : Int)) (k1 : T X emb o y (tgt) lv st M) (k2 : T X emb o2 y (pc + 3) lv st M) : T X emb (if x < 0 then o else o2) y pc lv (.int x :: st) M := by
  intro r M' h wd p l e R s m args below meth c H locs cells slots Q ls hC hF hl hr
  exact lv_if_lt hC.1 hC.2.1 d ht (fun hc => k1 r M' (by rw [if_pos hc] at h; exact h) wd p l e R s m args below meth c H locs cells slots Q ls hC hF hl hr) (fun hc => k2 r M' (by rw [if_neg hc] at h; exact h) wd p l e R s m args below meth c H locs cells slots Q ls hC hF hl hr)
theorem T_if_ge {x : Int32} {off : Int} (tgt : Nat) (d : decode (mdC y) pc = .ok (.ifCond .ge off, 3)) (ht : (pc : Int) + off = (tgt : Int)) (k1 : T X emb o y (tgt) lv st M) (k2 : T X emb o2 y (pc + 3) lv st M) : T X emb (if 0 ≤ x then o else o2) y pc lv (.int x :: st) M := by
  intro r M' h wd p l e R s m args below meth c H locs cells slots Q ls hC hF hl hr
  exact lv_if_ge hC.1 hC.2.1 d ht (fun hc => k1 r M' (by rw [if_pos hc] at h; exact h) wd p l e R s m args below meth c H locs cells slots Q ls hC hF hl hr) (fun hc => k2 r M' (by rw [if_neg hc] at h; exact h) wd p l e R s m args below meth c H locs cells slots Q ls hC hF hl hr)
theorem T_if_gt {x : Int32} {off : Int} (tgt : Nat) (d : decode (mdC y) pc = .ok (.ifCond .gt off, 3)) (ht : (pc : Int) + off = (tgt : Int)) (k1 : T X emb o y (tgt) lv st M) (k2 : T X emb o2 y (pc + 3) lv st M) : T X emb (if 0 < x then o else o2) y pc lv (.int x :: st) M := by
  intro r M' h wd p l e R s m args below meth c H locs cells slots Q ls hC hF hl hr
  exact lv_if_gt hC.1 hC.2.1 d ht (fun hc => k1 r M' (by rw [if_pos hc] at h; exact h) wd p l e R s m args below meth c H locs cells slots Q ls hC hF hl hr) (fun hc => k2 r M' (by rw [if_neg hc] at h; exact h) wd p l e R s m args below meth c H locs cells slots Q ls hC hF hl hr)
theorem T_if_le {x : Int32} {off : Int} (tgt : Nat) (d : decode (mdC y) pc = .ok (.ifCond .le off, 3)) (ht : (pc : Int) + off = (tgt : Int)) (k1 : T X emb o y (tgt) lv st M) (k2 : T X emb o2 y (pc + 3) lv st M) : T X emb (if x ≤ 0 then o else o2) y pc lv (.int x :: st) M := by
  intro r M' h wd p l e R s m args below meth c H locs cells slots Q ls hC hF hl hr
  exact lv_if_le hC.1 hC.2.1 d ht (fun hc => k1 r M' (by rw [if_pos hc] at h; exact h) wd p l e R s m args below meth c H locs cells slots Q ls hC hF hl hr) (fun hc => k2 r M' (by rw [if_neg hc] at h; exact h) wd p l e R s m args below meth c H locs cells slots Q ls hC hF hl hr)
theorem T_icmp_eq {x z : Int32} {off : Int} (tgt : Nat) (d : decode (mdC y) pc = .ok (.if_icmp .eq off, 3)) (ht : (pc : Int) + off = (tgt : Int)) (k1 : T X emb o y (tgt) lv st M) (k2 : T X emb o2 y (pc + 3) lv st M) : T X emb (if x = z then o else o2) y pc lv (.int z :: .int x :: st) M := by
  intro r M' h wd p l e R s m args below meth c H locs cells slots Q ls hC hF hl hr
  exact lv_icmp_eq hC.1 hC.2.1 d ht (fun hc => k1 r M' (by rw [if_pos hc] at h; exact h) wd p l e R s m args below meth c H locs cells slots Q ls hC hF hl hr) (fun hc => k2 r M' (by rw [if_neg hc] at h; exact h) wd p l e R s m args below meth c H locs cells slots Q ls hC hF hl hr)
theorem T_icmp_ne {x z : Int32} {off : Int} (tgt : Nat) (d : decode (mdC y) pc = .ok (.if_icmp .ne off, 3)) (ht : (pc : Int) + off = (tgt : Int)) (k1 : T X emb o y (pc + 3) lv st M) (k2 : T X emb o2 y (tgt) lv st M) : T X emb (if x = z then o else o2) y pc lv (.int z :: .int x :: st) M := by
  intro r M' h wd p l e R s m args below meth c H locs cells slots Q ls hC hF hl hr
  exact lv_icmp_ne hC.1 hC.2.1 d ht (fun hc => k2 r M' (by rw [if_neg hc] at h; exact h) wd p l e R s m args below meth c H locs cells slots Q ls hC hF hl hr) (fun hc => k1 r M' (by rw [if_pos hc] at h; exact h) wd p l e R s m args below meth c H locs cells slots Q ls hC hF hl hr)
theorem T_icmp_lt {x z : Int32} {off : Int} (tgt : Nat) (d : decode (mdC y) pc = .ok (.if_icmp .lt off, 3)) (ht : (pc : Int) + off = (tgt : Int)) (k1 : T X emb o y (tgt) lv st M) (k2 : T X emb o2 y (pc + 3) lv st M) : T X emb (if x < z then o else o2) y pc lv (.int z :: .int x :: st) M := by
  intro r M' h wd p l e R s m args below meth c H locs cells slots Q ls hC hF hl hr
  exact lv_icmp_lt hC.1 hC.2.1 d ht (fun hc => k1 r M' (by rw [if_pos hc] at h; exact h) wd p l e R s m args below meth c H locs cells slots Q ls hC hF hl hr) (fun hc => k2 r M' (by rw [if_neg hc] at h; exact h) wd p l e R s m args below meth c H locs cells slots Q ls hC hF hl hr)
theorem T_icmp_ge {x z : Int32} {off : Int} (tgt : Nat) (d : decode (mdC y) pc = .ok (.if_icmp .ge off, 3)) (ht : (pc : Int) + off = (tgt : Int)) (k1 : T X emb o y (tgt) lv st M) (k2 : T X emb o2 y (pc + 3) lv st M) : T X emb (if z ≤ x then o else o2) y pc lv (.int z :: .int x :: st) M := by
  intro r M' h wd p l e R s m args below meth c H locs cells slots Q ls hC hF hl hr
  exact lv_icmp_ge hC.1 hC.2.1 d ht (fun hc => k1 r M' (by rw [if_pos hc] at h; exact h) wd p l e R s m args below meth c H locs cells slots Q ls hC hF hl hr) (fun hc => k2 r M' (by rw [if_neg hc] at h; exact h) wd p l e R s m args below meth c H locs cells slots Q ls hC hF hl hr)
theorem T_icmp_gt {x z : Int32} {off : Int} (tgt : Nat) (d : decode (mdC y) pc = .ok (.if_icmp .gt off, 3)) (ht : (pc : Int) + off = (tgt : Int)) (k1 : T X emb o y (tgt) lv st M) (k2 : T X emb o2 y (pc + 3) lv st M) : T X emb (if z < x then o else o2) y pc lv (.int z :: .int x :: st) M := by
  intro r M' h wd p l e R s m args below meth c H locs cells slots Q ls hC hF hl hr
  exact lv_icmp_gt hC.1 hC.2.1 d ht (fun hc => k1 r M' (by rw [if_pos hc] at h; exact h) wd p l e R s m args below meth c H locs cells slots Q ls hC hF hl hr) (fun hc => k2 r M' (by rw [if_neg hc] at h; exact h) wd p l e R s m args below meth c H locs cells slots Q ls hC hF hl hr)
theorem T_icmp_le {x z : Int32} {off : Int} (tgt : Nat) (d : decode (mdC y) pc = .ok (.if_icmp .le off, 3)) (ht : (pc : Int) + off = (tgt : Int)) (k1 : T X emb o y (tgt) lv st M) (k2 : T X emb o2 y (pc + 3) lv st M) : T X emb (if x ≤ z then o else o2) y pc lv (.int z :: .int x :: st) M := by
  intro r M' h wd p l e R s m args below meth c H locs cells slots Q ls hC hF hl hr
  exact lv_icmp_le hC.1 hC.2.1 d ht (fun hc => k1 r M' (by rw [if_pos hc] at h; exact h) wd p l e R s m args below meth c H locs cells slots Q ls hC hF hl hr) (fun hc => k2 r M' (by rw [if_neg hc] at h; exact h) wd p l e R s m args below meth c H locs cells slots Q ls hC hF hl hr)
theorem T_goto {off : Int} (tgt : Nat) (d : decode (mdC y) pc = .ok (.goto off, 3)) (ht : (pc : Int) + off = (tgt : Int)) (k : T X emb o y tgt lv st M) : T X emb o y pc lv st M := by
  intro r M' h wd p l e R s m args below meth c H locs cells slots Q ls hC hF hl hr
  exact lv_goto hC.1 hC.2.1 d ht (k r M' h wd p l e R s m args below meth c H locs cells slots Q ls hC hF hl hr)
theorem T_idiv {a b : Int32} (d : decode (mdC y) pc = .ok (.idiv, 1)) (k : T X emb o y (pc + 1) lv (.int (a / b) :: st) M) : T X emb (gd (!(b == 0)) o) y pc lv (.int b :: .int a :: st) M := by
  intro r M' h wd p l e R s m args below meth c H locs cells slots Q ls hC hF hl hr
  obtain ⟨hg, h⟩ := gd_some h
  exact lv_idiv hC.1 hC.2.1 d (by simpa using hg) (k r M' h wd p l e R s m args below meth c H locs cells slots Q ls hC hF hl hr)
theorem T_irem {a b : Int32} (d : decode (mdC y) pc = .ok (.irem, 1)) (k : T X emb o y (pc + 1) lv (.int (a - a / b * b) :: st) M) : T X emb (gd (!(b == 0)) o) y pc lv (.int b :: .int a :: st) M := by
  intro r M' h wd p l e R s m args below meth c H locs cells slots Q ls hC hF hl hr
  obtain ⟨hg, h⟩ := gd_some h
  exact lv_irem hC.1 hC.2.1 d (by simpa using hg) (k r M' h wd p l e R s m args below meth c H locs cells slots Q ls hC hF hl hr)
theorem T_ldiv {a b : Int64} (d : decode (mdC y) pc = .ok (.ldiv, 1)) (k : T X emb o y (pc + 1) lv (.long (a / b) :: st) M) : T X emb (gd (!(b == 0)) o) y pc lv (.long b :: .long a :: st) M := by
  intro r M' h wd p l e R s m args below meth c H locs cells slots Q ls hC hF hl hr
  obtain ⟨hg, h⟩ := gd_some h
  exact lv_ldiv hC.1 hC.2.1 d (by simpa using hg) (k r M' h wd p l e R s m args below meth c H locs cells slots Q ls hC hF hl hr)
theorem T_lrem {a b : Int64} (d : decode (mdC y) pc = .ok (.lrem, 1)) (k : T X emb o y (pc + 1) lv (.long (a - a / b * b) :: st) M) : T X emb (gd (!(b == 0)) o) y pc lv (.long b :: .long a :: st) M := by
  intro r M' h wd p l e R s m args below meth c H locs cells slots Q ls hC hF hl hr
  obtain ⟨hg, h⟩ := gd_some h
  exact lv_lrem hC.1 hC.2.1 d (by simpa using hg) (k r M' h wd p l e R s m args below meth c H locs cells slots Q ls hC hF hl hr)
end ROWS
end
