-- ===== PART A: goes FIRST, ahead of the names: the tables' words, and 'selects' of the private methods out of them =====
/-- a private method of a class that the tables say can be made, by its rows of tables_1 -/
def lw_okq (q : MethodName × Nat) : Prop := (q.1.cls ≠ "java/lang/invoke/MethodHandle" ∧ q.1.cls ≠ "java/lang/invoke/VarHandle") ∧ Cond.instantiable q.1.cls q.2 ∈ tables_1 ∧ Cond.privateMethod q.1 ∈ tables_1 ∧ Cond.instanceMethod q.1 ∈ tables_1
theorem lw_p0 : lw_okq (⟨"DarkShares", "bad", "()I"⟩, 11) := ⟨⟨by decide +kernel, by decide +kernel⟩, List.mem_of_getElem? (i := 21) (by decide +kernel), List.mem_of_getElem? (i := 219) (by decide +kernel), List.mem_of_getElem? (i := 220) (by decide +kernel)⟩
theorem lw_p1 : lw_okq (⟨"DarkShares", "full", "()I"⟩, 11) := ⟨⟨by decide +kernel, by decide +kernel⟩, List.mem_of_getElem? (i := 21) (by decide +kernel), List.mem_of_getElem? (i := 223) (by decide +kernel), List.mem_of_getElem? (i := 224) (by decide +kernel)⟩
theorem lw_p2 : lw_okq (⟨"DarkShares", "isBoy", "(I)Z"⟩, 11) := ⟨⟨by decide +kernel, by decide +kernel⟩, List.mem_of_getElem? (i := 21) (by decide +kernel), List.mem_of_getElem? (i := 238) (by decide +kernel), List.mem_of_getElem? (i := 239) (by decide +kernel)⟩
theorem lw_p3 : lw_okq (⟨"DarkShares", "otherBad", "()I"⟩, 11) := ⟨⟨by decide +kernel, by decide +kernel⟩, List.mem_of_getElem? (i := 21) (by decide +kernel), List.mem_of_getElem? (i := 242) (by decide +kernel), List.mem_of_getElem? (i := 243) (by decide +kernel)⟩
theorem lw_p4 : lw_okq (⟨"DarkShares$Text", "next", "()V"⟩, 6) := ⟨⟨by decide +kernel, by decide +kernel⟩, List.mem_of_getElem? (i := 143) (by decide +kernel), List.mem_of_getElem? (i := 274) (by decide +kernel), List.mem_of_getElem? (i := 275) (by decide +kernel)⟩
theorem lw_p5 : lw_okq (⟨"DarkShares$Text", "tokenAt", "()I"⟩, 6) := ⟨⟨by decide +kernel, by decide +kernel⟩, List.mem_of_getElem? (i := 143) (by decide +kernel), List.mem_of_getElem? (i := 278) (by decide +kernel), List.mem_of_getElem? (i := 279) (by decide +kernel)⟩
theorem lw_p6 : lw_okq (⟨"DarkShares$Text", "item", "(LDarkShares$Night;)Z"⟩, 6) := ⟨⟨by decide +kernel, by decide +kernel⟩, List.mem_of_getElem? (i := 143) (by decide +kernel), List.mem_of_getElem? (i := 288) (by decide +kernel), List.mem_of_getElem? (i := 289) (by decide +kernel)⟩
theorem lw_p7 : lw_okq (⟨"DarkShares$Text", "isWord", "(Ljava/lang/String;)Z"⟩, 6) := ⟨⟨by decide +kernel, by decide +kernel⟩, List.mem_of_getElem? (i := 143) (by decide +kernel), List.mem_of_getElem? (i := 293) (by decide +kernel), List.mem_of_getElem? (i := 294) (by decide +kernel)⟩
theorem lw_p8 : lw_okq (⟨"DarkShares$Text", "stops", "()Z"⟩, 6) := ⟨⟨by decide +kernel, by decide +kernel⟩, List.mem_of_getElem? (i := 143) (by decide +kernel), List.mem_of_getElem? (i := 345) (by decide +kernel), List.mem_of_getElem? (i := 346) (by decide +kernel)⟩
theorem lw_p9 : lw_okq (⟨"DarkShares$Text", "boyItem", "(LDarkShares$Night;)Z"⟩, 6) := ⟨⟨by decide +kernel, by decide +kernel⟩, List.mem_of_getElem? (i := 143) (by decide +kernel), List.mem_of_getElem? (i := 350) (by decide +kernel), List.mem_of_getElem? (i := 351) (by decide +kernel)⟩
theorem lw_p10 : lw_okq (⟨"DarkShares$Text", "number", "(I)I"⟩, 6) := ⟨⟨by decide +kernel, by decide +kernel⟩, List.mem_of_getElem? (i := 143) (by decide +kernel), List.mem_of_getElem? (i := 354) (by decide +kernel), List.mem_of_getElem? (i := 355) (by decide +kernel)⟩
theorem lw_p11 : lw_okq (⟨"DarkShares$Text", "cellsItem", "(LDarkShares$Night;)Z"⟩, 6) := ⟨⟨by decide +kernel, by decide +kernel⟩, List.mem_of_getElem? (i := 143) (by decide +kernel), List.mem_of_getElem? (i := 360) (by decide +kernel), List.mem_of_getElem? (i := 361) (by decide +kernel)⟩
theorem lw_p12 : lw_okq (⟨"DarkShares", "no", "()I"⟩, 11) := ⟨⟨by decide +kernel, by decide +kernel⟩, List.mem_of_getElem? (i := 21) (by decide +kernel), List.mem_of_getElem? (i := 376) (by decide +kernel), List.mem_of_getElem? (i := 377) (by decide +kernel)⟩
theorem lw_p13 : lw_okq (⟨"DarkShares$Night", "kindOf", "(I)LDarkShares$Plain;"⟩, 10) := ⟨⟨by decide +kernel, by decide +kernel⟩, List.mem_of_getElem? (i := 72) (by decide +kernel), List.mem_of_getElem? (i := 423) (by decide +kernel), List.mem_of_getElem? (i := 424) (by decide +kernel)⟩
theorem lw_p14 : lw_okq (⟨"DarkShares$Pieces", "keepIfFewer", "(I)V"⟩, 3) := ⟨⟨by decide +kernel, by decide +kernel⟩, List.mem_of_getElem? (i := 124) (by decide +kernel), List.mem_of_getElem? (i := 500) (by decide +kernel), List.mem_of_getElem? (i := 501) (by decide +kernel)⟩
theorem lw_p15 : lw_okq (⟨"DarkShares$Night", "gains", "(II)Z"⟩, 10) := ⟨⟨by decide +kernel, by decide +kernel⟩, List.mem_of_getElem? (i := 72) (by decide +kernel), List.mem_of_getElem? (i := 524) (by decide +kernel), List.mem_of_getElem? (i := 525) (by decide +kernel)⟩
def lw_privs_1 : List (MethodName × Nat) := [(⟨"DarkShares", "bad", "()I"⟩, 11), (⟨"DarkShares", "full", "()I"⟩, 11), (⟨"DarkShares", "isBoy", "(I)Z"⟩, 11), (⟨"DarkShares", "otherBad", "()I"⟩, 11), (⟨"DarkShares$Text", "next", "()V"⟩, 6), (⟨"DarkShares$Text", "tokenAt", "()I"⟩, 6), (⟨"DarkShares$Text", "item", "(LDarkShares$Night;)Z"⟩, 6), (⟨"DarkShares$Text", "isWord", "(Ljava/lang/String;)Z"⟩, 6), (⟨"DarkShares$Text", "stops", "()Z"⟩, 6), (⟨"DarkShares$Text", "boyItem", "(LDarkShares$Night;)Z"⟩, 6), (⟨"DarkShares$Text", "number", "(I)I"⟩, 6), (⟨"DarkShares$Text", "cellsItem", "(LDarkShares$Night;)Z"⟩, 6), (⟨"DarkShares", "no", "()I"⟩, 11), (⟨"DarkShares$Night", "kindOf", "(I)LDarkShares$Plain;"⟩, 10), (⟨"DarkShares$Pieces", "keepIfFewer", "(I)V"⟩, 3), (⟨"DarkShares$Night", "gains", "(II)Z"⟩, 10)]
theorem lw_r1 : ∀ q ∈ lw_privs_1, lw_okq q := List.forall_mem_cons.mpr ⟨lw_p0, List.forall_mem_cons.mpr ⟨lw_p1, List.forall_mem_cons.mpr ⟨lw_p2, List.forall_mem_cons.mpr ⟨lw_p3, List.forall_mem_cons.mpr ⟨lw_p4, List.forall_mem_cons.mpr ⟨lw_p5, List.forall_mem_cons.mpr ⟨lw_p6, List.forall_mem_cons.mpr ⟨lw_p7, List.forall_mem_cons.mpr ⟨lw_p8, List.forall_mem_cons.mpr ⟨lw_p9, List.forall_mem_cons.mpr ⟨lw_p10, List.forall_mem_cons.mpr ⟨lw_p11, List.forall_mem_cons.mpr ⟨lw_p12, List.forall_mem_cons.mpr ⟨lw_p13, List.forall_mem_cons.mpr ⟨lw_p14, List.forall_mem_cons.mpr ⟨lw_p15, fun _ h => absurd h List.not_mem_nil⟩⟩⟩⟩⟩⟩⟩⟩⟩⟩⟩⟩⟩⟩⟩⟩
theorem lw_p16 : lw_okq (⟨"DarkShares$Night", "lossOf", "(I)I"⟩, 10) := ⟨⟨by decide +kernel, by decide +kernel⟩, List.mem_of_getElem? (i := 72) (by decide +kernel), List.mem_of_getElem? (i := 544) (by decide +kernel), List.mem_of_getElem? (i := 545) (by decide +kernel)⟩
theorem lw_p17 : lw_okq (⟨"DarkShares$Night", "fitsAll", "(ILDarkShares$Plain;)Z"⟩, 10) := ⟨⟨by decide +kernel, by decide +kernel⟩, List.mem_of_getElem? (i := 72) (by decide +kernel), List.mem_of_getElem? (i := 589) (by decide +kernel), List.mem_of_getElem? (i := 590) (by decide +kernel)⟩
theorem lw_p18 : lw_okq (⟨"DarkShares$Night", "mostAlike", "(II)I"⟩, 10) := ⟨⟨by decide +kernel, by decide +kernel⟩, List.mem_of_getElem? (i := 72) (by decide +kernel), List.mem_of_getElem? (i := 601) (by decide +kernel), List.mem_of_getElem? (i := 602) (by decide +kernel)⟩
theorem lw_p19 : lw_okq (⟨"DarkShares$Night", "howManyAs", "(III)I"⟩, 10) := ⟨⟨by decide +kernel, by decide +kernel⟩, List.mem_of_getElem? (i := 72) (by decide +kernel), List.mem_of_getElem? (i := 605) (by decide +kernel), List.mem_of_getElem? (i := 606) (by decide +kernel)⟩
theorem lw_p20 : lw_okq (⟨"DarkShares", "setFraction", "(II)V"⟩, 11) := ⟨⟨by decide +kernel, by decide +kernel⟩, List.mem_of_getElem? (i := 21) (by decide +kernel), List.mem_of_getElem? (i := 627) (by decide +kernel), List.mem_of_getElem? (i := 628) (by decide +kernel)⟩
theorem lw_p21 : lw_okq (⟨"DarkSharesModel", "begin", "()V"⟩, 28) := ⟨⟨by decide +kernel, by decide +kernel⟩, List.mem_of_getElem? (i := 688) (by decide +kernel), List.mem_of_getElem? (i := 694) (by decide +kernel), List.mem_of_getElem? (i := 695) (by decide +kernel)⟩
theorem lw_p22 : lw_okq (⟨"DarkSharesModel", "bad", "()I"⟩, 28) := ⟨⟨by decide +kernel, by decide +kernel⟩, List.mem_of_getElem? (i := 688) (by decide +kernel), List.mem_of_getElem? (i := 794) (by decide +kernel), List.mem_of_getElem? (i := 795) (by decide +kernel)⟩
theorem lw_p23 : lw_okq (⟨"DarkSharesModel", "full", "()I"⟩, 28) := ⟨⟨by decide +kernel, by decide +kernel⟩, List.mem_of_getElem? (i := 688) (by decide +kernel), List.mem_of_getElem? (i := 798) (by decide +kernel), List.mem_of_getElem? (i := 799) (by decide +kernel)⟩
theorem lw_p24 : lw_okq (⟨"DarkSharesModel", "addBoy", "(III)I"⟩, 28) := ⟨⟨by decide +kernel, by decide +kernel⟩, List.mem_of_getElem? (i := 688) (by decide +kernel), List.mem_of_getElem? (i := 802) (by decide +kernel), List.mem_of_getElem? (i := 803) (by decide +kernel)⟩
theorem lw_p25 : lw_okq (⟨"DarkSharesModel", "readsNight", "()I"⟩, 28) := ⟨⟨by decide +kernel, by decide +kernel⟩, List.mem_of_getElem? (i := 688) (by decide +kernel), List.mem_of_getElem? (i := 818) (by decide +kernel), List.mem_of_getElem? (i := 819) (by decide +kernel)⟩
theorem lw_p26 : lw_okq (⟨"DarkSharesModel", "skip", "()V"⟩, 28) := ⟨⟨by decide +kernel, by decide +kernel⟩, List.mem_of_getElem? (i := 688) (by decide +kernel), List.mem_of_getElem? (i := 822) (by decide +kernel), List.mem_of_getElem? (i := 823) (by decide +kernel)⟩
theorem lw_p27 : lw_okq (⟨"DarkSharesModel", "here", "()I"⟩, 28) := ⟨⟨by decide +kernel, by decide +kernel⟩, List.mem_of_getElem? (i := 688) (by decide +kernel), List.mem_of_getElem? (i := 826) (by decide +kernel), List.mem_of_getElem? (i := 827) (by decide +kernel)⟩
theorem lw_p28 : lw_okq (⟨"DarkSharesModel", "wordHere", "()I"⟩, 28) := ⟨⟨by decide +kernel, by decide +kernel⟩, List.mem_of_getElem? (i := 688) (by decide +kernel), List.mem_of_getElem? (i := 830) (by decide +kernel), List.mem_of_getElem? (i := 831) (by decide +kernel)⟩
theorem lw_p29 : lw_okq (⟨"DarkSharesModel", "wordSize", "()I"⟩, 28) := ⟨⟨by decide +kernel, by decide +kernel⟩, List.mem_of_getElem? (i := 688) (by decide +kernel), List.mem_of_getElem? (i := 834) (by decide +kernel), List.mem_of_getElem? (i := 835) (by decide +kernel)⟩
theorem lw_p30 : lw_okq (⟨"DarkSharesModel", "letter", "(I)I"⟩, 28) := ⟨⟨by decide +kernel, by decide +kernel⟩, List.mem_of_getElem? (i := 688) (by decide +kernel), List.mem_of_getElem? (i := 841) (by decide +kernel), List.mem_of_getElem? (i := 842) (by decide +kernel)⟩
theorem lw_p31 : lw_okq (⟨"DarkSharesModel", "ends", "()Z"⟩, 28) := ⟨⟨by decide +kernel, by decide +kernel⟩, List.mem_of_getElem? (i := 688) (by decide +kernel), List.mem_of_getElem? (i := 845) (by decide +kernel), List.mem_of_getElem? (i := 846) (by decide +kernel)⟩
def lw_privs_2 : List (MethodName × Nat) := [(⟨"DarkShares$Night", "lossOf", "(I)I"⟩, 10), (⟨"DarkShares$Night", "fitsAll", "(ILDarkShares$Plain;)Z"⟩, 10), (⟨"DarkShares$Night", "mostAlike", "(II)I"⟩, 10), (⟨"DarkShares$Night", "howManyAs", "(III)I"⟩, 10), (⟨"DarkShares", "setFraction", "(II)V"⟩, 11), (⟨"DarkSharesModel", "begin", "()V"⟩, 28), (⟨"DarkSharesModel", "bad", "()I"⟩, 28), (⟨"DarkSharesModel", "full", "()I"⟩, 28), (⟨"DarkSharesModel", "addBoy", "(III)I"⟩, 28), (⟨"DarkSharesModel", "readsNight", "()I"⟩, 28), (⟨"DarkSharesModel", "skip", "()V"⟩, 28), (⟨"DarkSharesModel", "here", "()I"⟩, 28), (⟨"DarkSharesModel", "wordHere", "()I"⟩, 28), (⟨"DarkSharesModel", "wordSize", "()I"⟩, 28), (⟨"DarkSharesModel", "letter", "(I)I"⟩, 28), (⟨"DarkSharesModel", "ends", "()Z"⟩, 28)]
theorem lw_r2 : ∀ q ∈ lw_privs_2, lw_okq q := List.forall_mem_cons.mpr ⟨lw_p16, List.forall_mem_cons.mpr ⟨lw_p17, List.forall_mem_cons.mpr ⟨lw_p18, List.forall_mem_cons.mpr ⟨lw_p19, List.forall_mem_cons.mpr ⟨lw_p20, List.forall_mem_cons.mpr ⟨lw_p21, List.forall_mem_cons.mpr ⟨lw_p22, List.forall_mem_cons.mpr ⟨lw_p23, List.forall_mem_cons.mpr ⟨lw_p24, List.forall_mem_cons.mpr ⟨lw_p25, List.forall_mem_cons.mpr ⟨lw_p26, List.forall_mem_cons.mpr ⟨lw_p27, List.forall_mem_cons.mpr ⟨lw_p28, List.forall_mem_cons.mpr ⟨lw_p29, List.forall_mem_cons.mpr ⟨lw_p30, List.forall_mem_cons.mpr ⟨lw_p31, fun _ h => absurd h List.not_mem_nil⟩⟩⟩⟩⟩⟩⟩⟩⟩⟩⟩⟩⟩⟩⟩⟩
theorem lw_p32 : lw_okq (⟨"DarkSharesModel", "readsItem", "()Z"⟩, 28) := ⟨⟨by decide +kernel, by decide +kernel⟩, List.mem_of_getElem? (i := 688) (by decide +kernel), List.mem_of_getElem? (i := 849) (by decide +kernel), List.mem_of_getElem? (i := 850) (by decide +kernel)⟩
theorem lw_p33 : lw_okq (⟨"DarkSharesModel", "readsBoy", "()Z"⟩, 28) := ⟨⟨by decide +kernel, by decide +kernel⟩, List.mem_of_getElem? (i := 688) (by decide +kernel), List.mem_of_getElem? (i := 853) (by decide +kernel), List.mem_of_getElem? (i := 854) (by decide +kernel)⟩
theorem lw_p34 : lw_okq (⟨"DarkSharesModel", "number", "(II)Z"⟩, 28) := ⟨⟨by decide +kernel, by decide +kernel⟩, List.mem_of_getElem? (i := 688) (by decide +kernel), List.mem_of_getElem? (i := 857) (by decide +kernel), List.mem_of_getElem? (i := 858) (by decide +kernel)⟩
theorem lw_p35 : lw_okq (⟨"DarkSharesModel", "readsCells", "()Z"⟩, 28) := ⟨⟨by decide +kernel, by decide +kernel⟩, List.mem_of_getElem? (i := 688) (by decide +kernel), List.mem_of_getElem? (i := 864) (by decide +kernel), List.mem_of_getElem? (i := 865) (by decide +kernel)⟩
theorem lw_p36 : lw_okq (⟨"DarkSharesModel", "isBoy", "(I)Z"⟩, 28) := ⟨⟨by decide +kernel, by decide +kernel⟩, List.mem_of_getElem? (i := 688) (by decide +kernel), List.mem_of_getElem? (i := 875) (by decide +kernel), List.mem_of_getElem? (i := 876) (by decide +kernel)⟩
theorem lw_p37 : lw_okq (⟨"DarkSharesModel", "ten", "()I"⟩, 28) := ⟨⟨by decide +kernel, by decide +kernel⟩, List.mem_of_getElem? (i := 688) (by decide +kernel), List.mem_of_getElem? (i := 879) (by decide +kernel), List.mem_of_getElem? (i := 880) (by decide +kernel)⟩
theorem lw_p38 : lw_okq (⟨"DarkSharesModel", "notes", "()V"⟩, 28) := ⟨⟨by decide +kernel, by decide +kernel⟩, List.mem_of_getElem? (i := 688) (by decide +kernel), List.mem_of_getElem? (i := 883) (by decide +kernel), List.mem_of_getElem? (i := 884) (by decide +kernel)⟩
theorem lw_p39 : lw_okq (⟨"DarkSharesModel", "no", "()I"⟩, 28) := ⟨⟨by decide +kernel, by decide +kernel⟩, List.mem_of_getElem? (i := 688) (by decide +kernel), List.mem_of_getElem? (i := 891) (by decide +kernel), List.mem_of_getElem? (i := 892) (by decide +kernel)⟩
theorem lw_p40 : lw_okq (⟨"DarkSharesModel", "changes", "(II)V"⟩, 28) := ⟨⟨by decide +kernel, by decide +kernel⟩, List.mem_of_getElem? (i := 688) (by decide +kernel), List.mem_of_getElem? (i := 895) (by decide +kernel), List.mem_of_getElem? (i := 896) (by decide +kernel)⟩
theorem lw_p41 : lw_okq (⟨"DarkSharesModel", "greyMany", "()I"⟩, 28) := ⟨⟨by decide +kernel, by decide +kernel⟩, List.mem_of_getElem? (i := 688) (by decide +kernel), List.mem_of_getElem? (i := 907) (by decide +kernel), List.mem_of_getElem? (i := 908) (by decide +kernel)⟩
theorem lw_p42 : lw_okq (⟨"DarkSharesModel", "setOf", "(I)I"⟩, 28) := ⟨⟨by decide +kernel, by decide +kernel⟩, List.mem_of_getElem? (i := 688) (by decide +kernel), List.mem_of_getElem? (i := 911) (by decide +kernel), List.mem_of_getElem? (i := 912) (by decide +kernel)⟩
theorem lw_p43 : lw_okq (⟨"DarkSharesModel", "ownWorth", "(I)I"⟩, 28) := ⟨⟨by decide +kernel, by decide +kernel⟩, List.mem_of_getElem? (i := 688) (by decide +kernel), List.mem_of_getElem? (i := 922) (by decide +kernel), List.mem_of_getElem? (i := 923) (by decide +kernel)⟩
theorem lw_p44 : lw_okq (⟨"DarkSharesModel", "worthOf", "(II)I"⟩, 28) := ⟨⟨by decide +kernel, by decide +kernel⟩, List.mem_of_getElem? (i := 688) (by decide +kernel), List.mem_of_getElem? (i := 926) (by decide +kernel), List.mem_of_getElem? (i := 927) (by decide +kernel)⟩
theorem lw_p45 : lw_okq (⟨"DarkSharesModel", "valueIn", "(III)I"⟩, 28) := ⟨⟨by decide +kernel, by decide +kernel⟩, List.mem_of_getElem? (i := 688) (by decide +kernel), List.mem_of_getElem? (i := 933) (by decide +kernel), List.mem_of_getElem? (i := 934) (by decide +kernel)⟩
theorem lw_p46 : lw_okq (⟨"DarkSharesModel", "isFair", "(II)Z"⟩, 28) := ⟨⟨by decide +kernel, by decide +kernel⟩, List.mem_of_getElem? (i := 688) (by decide +kernel), List.mem_of_getElem? (i := 960) (by decide +kernel), List.mem_of_getElem? (i := 961) (by decide +kernel)⟩
theorem lw_p47 : lw_okq (⟨"DarkSharesModel", "takenBy", "()I"⟩, 28) := ⟨⟨by decide +kernel, by decide +kernel⟩, List.mem_of_getElem? (i := 688) (by decide +kernel), List.mem_of_getElem? (i := 968) (by decide +kernel), List.mem_of_getElem? (i := 969) (by decide +kernel)⟩
def lw_privs_3 : List (MethodName × Nat) := [(⟨"DarkSharesModel", "readsItem", "()Z"⟩, 28), (⟨"DarkSharesModel", "readsBoy", "()Z"⟩, 28), (⟨"DarkSharesModel", "number", "(II)Z"⟩, 28), (⟨"DarkSharesModel", "readsCells", "()Z"⟩, 28), (⟨"DarkSharesModel", "isBoy", "(I)Z"⟩, 28), (⟨"DarkSharesModel", "ten", "()I"⟩, 28), (⟨"DarkSharesModel", "notes", "()V"⟩, 28), (⟨"DarkSharesModel", "no", "()I"⟩, 28), (⟨"DarkSharesModel", "changes", "(II)V"⟩, 28), (⟨"DarkSharesModel", "greyMany", "()I"⟩, 28), (⟨"DarkSharesModel", "setOf", "(I)I"⟩, 28), (⟨"DarkSharesModel", "ownWorth", "(I)I"⟩, 28), (⟨"DarkSharesModel", "worthOf", "(II)I"⟩, 28), (⟨"DarkSharesModel", "valueIn", "(III)I"⟩, 28), (⟨"DarkSharesModel", "isFair", "(II)Z"⟩, 28), (⟨"DarkSharesModel", "takenBy", "()I"⟩, 28)]
theorem lw_r3 : ∀ q ∈ lw_privs_3, lw_okq q := List.forall_mem_cons.mpr ⟨lw_p32, List.forall_mem_cons.mpr ⟨lw_p33, List.forall_mem_cons.mpr ⟨lw_p34, List.forall_mem_cons.mpr ⟨lw_p35, List.forall_mem_cons.mpr ⟨lw_p36, List.forall_mem_cons.mpr ⟨lw_p37, List.forall_mem_cons.mpr ⟨lw_p38, List.forall_mem_cons.mpr ⟨lw_p39, List.forall_mem_cons.mpr ⟨lw_p40, List.forall_mem_cons.mpr ⟨lw_p41, List.forall_mem_cons.mpr ⟨lw_p42, List.forall_mem_cons.mpr ⟨lw_p43, List.forall_mem_cons.mpr ⟨lw_p44, List.forall_mem_cons.mpr ⟨lw_p45, List.forall_mem_cons.mpr ⟨lw_p46, List.forall_mem_cons.mpr ⟨lw_p47, fun _ h => absurd h List.not_mem_nil⟩⟩⟩⟩⟩⟩⟩⟩⟩⟩⟩⟩⟩⟩⟩⟩
theorem lw_p48 : lw_okq (⟨"DarkSharesModel", "pieceEnd", "(II)I"⟩, 28) := ⟨⟨by decide +kernel, by decide +kernel⟩, List.mem_of_getElem? (i := 688) (by decide +kernel), List.mem_of_getElem? (i := 972) (by decide +kernel), List.mem_of_getElem? (i := 973) (by decide +kernel)⟩
theorem lw_p49 : lw_okq (⟨"DarkSharesModel", "nextLine", "()Z"⟩, 28) := ⟨⟨by decide +kernel, by decide +kernel⟩, List.mem_of_getElem? (i := 688) (by decide +kernel), List.mem_of_getElem? (i := 976) (by decide +kernel), List.mem_of_getElem? (i := 977) (by decide +kernel)⟩
theorem lw_p50 : lw_okq (⟨"DarkSharesModel", "isSwap", "(II)Z"⟩, 28) := ⟨⟨by decide +kernel, by decide +kernel⟩, List.mem_of_getElem? (i := 688) (by decide +kernel), List.mem_of_getElem? (i := 984) (by decide +kernel), List.mem_of_getElem? (i := 985) (by decide +kernel)⟩
theorem lw_p51 : lw_okq (⟨"DarkSharesModel", "puts", "()V"⟩, 28) := ⟨⟨by decide +kernel, by decide +kernel⟩, List.mem_of_getElem? (i := 688) (by decide +kernel), List.mem_of_getElem? (i := 992) (by decide +kernel), List.mem_of_getElem? (i := 993) (by decide +kernel)⟩
theorem lw_p52 : lw_okq (⟨"DarkSharesModel", "firstSwap", "()I"⟩, 28) := ⟨⟨by decide +kernel, by decide +kernel⟩, List.mem_of_getElem? (i := 688) (by decide +kernel), List.mem_of_getElem? (i := 996) (by decide +kernel), List.mem_of_getElem? (i := 997) (by decide +kernel)⟩
theorem lw_p53 : lw_okq (⟨"DarkSharesModel", "back", "()V"⟩, 28) := ⟨⟨by decide +kernel, by decide +kernel⟩, List.mem_of_getElem? (i := 688) (by decide +kernel), List.mem_of_getElem? (i := 1000) (by decide +kernel), List.mem_of_getElem? (i := 1001) (by decide +kernel)⟩
theorem lw_p54 : lw_okq (⟨"DarkSharesModel", "kindsOf", "(I)I"⟩, 28) := ⟨⟨by decide +kernel, by decide +kernel⟩, List.mem_of_getElem? (i := 688) (by decide +kernel), List.mem_of_getElem? (i := 1028) (by decide +kernel), List.mem_of_getElem? (i := 1029) (by decide +kernel)⟩
theorem lw_p55 : lw_okq (⟨"DarkSharesModel", "lay", "(JJ)V"⟩, 28) := ⟨⟨by decide +kernel, by decide +kernel⟩, List.mem_of_getElem? (i := 688) (by decide +kernel), List.mem_of_getElem? (i := 1048) (by decide +kernel), List.mem_of_getElem? (i := 1049) (by decide +kernel)⟩
theorem lw_p56 : lw_okq (⟨"DarkSharesModel", "countOf", "(I)I"⟩, 28) := ⟨⟨by decide +kernel, by decide +kernel⟩, List.mem_of_getElem? (i := 688) (by decide +kernel), List.mem_of_getElem? (i := 1082) (by decide +kernel), List.mem_of_getElem? (i := 1083) (by decide +kernel)⟩
theorem lw_p57 : lw_okq (⟨"DarkSharesModel", "allJam", "()I"⟩, 28) := ⟨⟨by decide +kernel, by decide +kernel⟩, List.mem_of_getElem? (i := 688) (by decide +kernel), List.mem_of_getElem? (i := 1086) (by decide +kernel), List.mem_of_getElem? (i := 1087) (by decide +kernel)⟩
theorem lw_p58 : lw_okq (⟨"DarkSharesModel", "mix", "(J)V"⟩, 28) := ⟨⟨by decide +kernel, by decide +kernel⟩, List.mem_of_getElem? (i := 688) (by decide +kernel), List.mem_of_getElem? (i := 1096) (by decide +kernel), List.mem_of_getElem? (i := 1097) (by decide +kernel)⟩
def lw_privs_4 : List (MethodName × Nat) := [(⟨"DarkSharesModel", "pieceEnd", "(II)I"⟩, 28), (⟨"DarkSharesModel", "nextLine", "()Z"⟩, 28), (⟨"DarkSharesModel", "isSwap", "(II)Z"⟩, 28), (⟨"DarkSharesModel", "puts", "()V"⟩, 28), (⟨"DarkSharesModel", "firstSwap", "()I"⟩, 28), (⟨"DarkSharesModel", "back", "()V"⟩, 28), (⟨"DarkSharesModel", "kindsOf", "(I)I"⟩, 28), (⟨"DarkSharesModel", "lay", "(JJ)V"⟩, 28), (⟨"DarkSharesModel", "countOf", "(I)I"⟩, 28), (⟨"DarkSharesModel", "allJam", "()I"⟩, 28), (⟨"DarkSharesModel", "mix", "(J)V"⟩, 28)]
theorem lw_r4 : ∀ q ∈ lw_privs_4, lw_okq q := List.forall_mem_cons.mpr ⟨lw_p48, List.forall_mem_cons.mpr ⟨lw_p49, List.forall_mem_cons.mpr ⟨lw_p50, List.forall_mem_cons.mpr ⟨lw_p51, List.forall_mem_cons.mpr ⟨lw_p52, List.forall_mem_cons.mpr ⟨lw_p53, List.forall_mem_cons.mpr ⟨lw_p54, List.forall_mem_cons.mpr ⟨lw_p55, List.forall_mem_cons.mpr ⟨lw_p56, List.forall_mem_cons.mpr ⟨lw_p57, List.forall_mem_cons.mpr ⟨lw_p58, fun _ h => absurd h List.not_mem_nil⟩⟩⟩⟩⟩⟩⟩⟩⟩⟩⟩
def lw_privs : List (MethodName × Nat) := lw_privs_1 ++ (lw_privs_2 ++ (lw_privs_3 ++ (lw_privs_4)))
def lw_tbl : List Cond := k2_sels lw_privs ++ tables_1
theorem lw_privs_ok : ∀ q ∈ lw_privs, lw_okq q := by
  show ∀ q ∈ lw_privs_1 ++ (lw_privs_2 ++ (lw_privs_3 ++ (lw_privs_4))), lw_okq q
  exact List.forall_mem_append.mpr ⟨lw_r1, List.forall_mem_append.mpr ⟨lw_r2, List.forall_mem_append.mpr ⟨lw_r3, lw_r4⟩⟩⟩
def RX0 : String := "DarkShares$Afraid"
def TX0 : u_T := fun k => match k with
  | _ => ("", "", "", false)
def tyX0 : Nat → FieldType := fun k => match k with
  | _ => .int
theorem nmX0 : ∀ a, a < 0 → ∀ b, b < 0 → a ≠ b → (TX0 a).2.1 ≠ (TX0 b).2.1 := by decide +kernel
theorem tyX0_ok : ∀ k, k < 0 → parseFieldDescriptor (TX0 k).2.2.1 = some (tyX0 k) := by decide +kernel
abbrev cX0_init : ByteArray := prog_2_method_1_code
def yX0_init : MethodName := ⟨RX0, "<init>", "()V"⟩
abbrev cX0_ofCell : ByteArray := prog_2_method_2_code
def yX0_ofCell : MethodName := ⟨RX0, "ofCell", "(IZ)I"⟩
def RX1 : String := "DarkShares$Night"
def TX1 : u_T := fun k => match k with
  | 0 => ("DarkShares$Night", "kinds", "[LDarkShares$Plain;", true)
  | 1 => ("DarkShares$Night", "kind", "[I", true)
  | 2 => ("DarkShares$Night", "need", "[I", true)
  | 3 => ("DarkShares$Night", "jam", "[I", true)
  | 4 => ("DarkShares$Night", "owner", "[I", true)
  | 5 => ("DarkShares$Night", "said", "[I", true)
  | 6 => ("DarkShares$Night", "past", "[I", true)
  | 7 => ("DarkShares$Night", "boys", "I", false)
  | 8 => ("DarkShares$Night", "notes", "I", false)
  | _ => ("DarkShares$Night", "undos", "I", false)
def tyX1 : Nat → FieldType := fun k => match k with
  | 0 => .array (.object "DarkShares$Plain")
  | 1 => .array .int
  | 2 => .array .int
  | 3 => .array .int
  | 4 => .array .int
  | 5 => .array .int
  | 6 => .array .int
  | 7 => .int
  | 8 => .int
  | _ => .int
theorem nmX1 : ∀ a, a < 10 → ∀ b, b < 10 → a ≠ b → (TX1 a).2.1 ≠ (TX1 b).2.1 := by decide +kernel
theorem tyX1_ok : ∀ k, k < 10 → parseFieldDescriptor (TX1 k).2.2.1 = some (tyX1 k) := by decide +kernel
abbrev cX1_init : ByteArray := prog_3_method_1_code
def yX1_init : MethodName := ⟨RX1, "<init>", "([LDarkShares$Plain;)V"⟩
abbrev cX1_wipe : ByteArray := prog_3_method_2_code
def yX1_wipe : MethodName := ⟨RX1, "wipe", "()V"⟩
abbrev cX1_becomes : ByteArray := prog_3_method_3_code
def yX1_becomes : MethodName := ⟨RX1, "becomes", "(LDarkShares$Night;)V"⟩
abbrev cX1_comes : ByteArray := prog_3_method_4_code
def yX1_comes : MethodName := ⟨RX1, "comes", "(III)I"⟩
abbrev cX1_putDown : ByteArray := prog_3_method_5_code
def yX1_putDown : MethodName := ⟨RX1, "putDown", "(IIII)I"⟩
abbrev cX1_remember : ByteArray := prog_3_method_6_code
def yX1_remember : MethodName := ⟨RX1, "remember", "()V"⟩
abbrev cX1_goBack : ByteArray := prog_3_method_7_code
def yX1_goBack : MethodName := ⟨RX1, "goBack", "()V"⟩
abbrev cX1_cellsOf : ByteArray := prog_3_method_8_code
def yX1_cellsOf : MethodName := ⟨RX1, "cellsOf", "(I)I"⟩
abbrev cX1_greyCells : ByteArray := prog_3_method_9_code
def yX1_greyCells : MethodName := ⟨RX1, "greyCells", "()I"⟩
abbrev cX1_allJam : ByteArray := prog_3_method_10_code
def yX1_allJam : MethodName := ⟨RX1, "allJam", "()I"⟩
abbrev cX1_kindOf : ByteArray := prog_3_method_11_code
def yX1_kindOf : MethodName := ⟨RX1, "kindOf", "(I)LDarkShares$Plain;"⟩
abbrev cX1_worthTo : ByteArray := prog_3_method_12_code
def yX1_worthTo : MethodName := ⟨RX1, "worthTo", "(II)I"⟩
abbrev cX1_ownWorth : ByteArray := prog_3_method_13_code
def yX1_ownWorth : MethodName := ⟨RX1, "ownWorth", "(I)I"⟩
abbrev cX1_haveEnough : ByteArray := prog_3_method_14_code
def yX1_haveEnough : MethodName := ⟨RX1, "haveEnough", "()I"⟩
abbrev cX1_enviedBy : ByteArray := prog_3_method_15_code
def yX1_enviedBy : MethodName := ⟨RX1, "enviedBy", "(I)I"⟩
abbrev cX1_isFair : ByteArray := prog_3_method_16_code
def yX1_isFair : MethodName := ⟨RX1, "isFair", "(II)Z"⟩
abbrev cX1_runFrom : ByteArray := prog_3_method_17_code
def yX1_runFrom : MethodName := ⟨RX1, "runFrom", "(I)I"⟩
abbrev cX1_ofUnlikeBoys : ByteArray := prog_3_method_18_code
def yX1_ofUnlikeBoys : MethodName := ⟨RX1, "ofUnlikeBoys", "(II)Z"⟩
abbrev cX1_changeHands : ByteArray := prog_3_method_19_code
def yX1_changeHands : MethodName := ⟨RX1, "changeHands", "(II)V"⟩
abbrev cX1_bothGain : ByteArray := prog_3_method_20_code
def yX1_bothGain : MethodName := ⟨RX1, "bothGain", "(II)Z"⟩
abbrev cX1_gains : ByteArray := prog_3_method_21_code
def yX1_gains : MethodName := ⟨RX1, "gains", "(II)Z"⟩
abbrev cX1_howManySwaps : ByteArray := prog_3_method_22_code
def yX1_howManySwaps : MethodName := ⟨RX1, "howManySwaps", "()I"⟩
abbrev cX1_swapAt : ByteArray := prog_3_method_23_code
def yX1_swapAt : MethodName := ⟨RX1, "swapAt", "(I)I"⟩
abbrev cX1_lossOf : ByteArray := prog_3_method_24_code
def yX1_lossOf : MethodName := ⟨RX1, "lossOf", "(I)I"⟩
abbrev cX1_saleBrings : ByteArray := prog_3_method_25_code
def yX1_saleBrings : MethodName := ⟨RX1, "saleBrings", "(II)I"⟩
abbrev cX1_bestBuyer : ByteArray := prog_3_method_26_code
def yX1_bestBuyer : MethodName := ⟨RX1, "bestBuyer", "(I)I"⟩
abbrev cX1_fittingKinds : ByteArray := prog_3_method_27_code
def yX1_fittingKinds : MethodName := ⟨RX1, "fittingKinds", "(I)I"⟩
abbrev cX1_fitsAll : ByteArray := prog_3_method_28_code
def yX1_fitsAll : MethodName := ⟨RX1, "fitsAll", "(ILDarkShares$Plain;)Z"⟩
abbrev cX1_tellingCell : ByteArray := prog_3_method_29_code
def yX1_tellingCell : MethodName := ⟨RX1, "tellingCell", "(I)I"⟩
abbrev cX1_mostAlike : ByteArray := prog_3_method_30_code
def yX1_mostAlike : MethodName := ⟨RX1, "mostAlike", "(II)I"⟩
abbrev cX1_howManyAs : ByteArray := prog_3_method_31_code
def yX1_howManyAs : MethodName := ⟨RX1, "howManyAs", "(III)I"⟩
abbrev cX1_robbedBy : ByteArray := prog_3_method_32_code
def yX1_robbedBy : MethodName := ⟨RX1, "robbedBy", "(II)I"⟩
abbrev cX1_tenfoldMean : ByteArray := prog_3_method_33_code
def yX1_tenfoldMean : MethodName := ⟨RX1, "tenfoldMean", "(II)I"⟩
abbrev cX1_mixInto : ByteArray := prog_3_method_34_code
def yX1_mixInto : MethodName := ⟨RX1, "mixInto", "(J)J"⟩
def RX2 : String := "DarkShares$Pieces"
def TX2 : u_T := fun k => match k with
  | 0 => ("DarkShares$Pieces", "order", "[I", true)
  | 1 => ("DarkShares$Pieces", "first", "[I", true)
  | _ => ("DarkShares$Pieces", "fewest", "I", false)
def tyX2 : Nat → FieldType := fun k => match k with
  | 0 => .array .int
  | 1 => .array .int
  | _ => .int
theorem nmX2 : ∀ a, a < 3 → ∀ b, b < 3 → a ≠ b → (TX2 a).2.1 ≠ (TX2 b).2.1 := by decide +kernel
theorem tyX2_ok : ∀ k, k < 3 → parseFieldDescriptor (TX2 k).2.2.1 = some (tyX2 k) := by decide +kernel
abbrev cX2_init : ByteArray := prog_4_method_1_code
def yX2_init : MethodName := ⟨RX2, "<init>", "()V"⟩
abbrev cX2_search : ByteArray := prog_4_method_2_code
def yX2_search : MethodName := ⟨RX2, "search", "(LDarkShares$Pieces;LDarkShares$Night;III)V"⟩
abbrev cX2_keepIfFewer : ByteArray := prog_4_method_3_code
def yX2_keepIfFewer : MethodName := ⟨RX2, "keepIfFewer", "(I)V"⟩
abbrev cX2_endOfPiece : ByteArray := prog_4_method_4_code
def yX2_endOfPiece : MethodName := ⟨RX2, "endOfPiece", "(LDarkShares$Night;II)I"⟩
def RX3 : String := "DarkShares$Plain"
def TX3 : u_T := fun k => match k with
  | _ => ("", "", "", false)
def tyX3 : Nat → FieldType := fun k => match k with
  | _ => .int
theorem nmX3 : ∀ a, a < 0 → ∀ b, b < 0 → a ≠ b → (TX3 a).2.1 ≠ (TX3 b).2.1 := by decide +kernel
theorem tyX3_ok : ∀ k, k < 0 → parseFieldDescriptor (TX3 k).2.2.1 = some (tyX3 k) := by decide +kernel
abbrev cX3_init : ByteArray := prog_5_method_1_code
def yX3_init : MethodName := ⟨RX3, "<init>", "()V"⟩
abbrev cX3_ofCell : ByteArray := prog_5_method_2_code
def yX3_ofCell : MethodName := ⟨RX3, "ofCell", "(IZ)I"⟩
def RX4 : String := "DarkShares$Prefect"
def TX4 : u_T := fun k => match k with
  | _ => ("", "", "", false)
def tyX4 : Nat → FieldType := fun k => match k with
  | _ => .int
theorem nmX4 : ∀ a, a < 0 → ∀ b, b < 0 → a ≠ b → (TX4 a).2.1 ≠ (TX4 b).2.1 := by decide +kernel
theorem tyX4_ok : ∀ k, k < 0 → parseFieldDescriptor (TX4 k).2.2.1 = some (tyX4 k) := by decide +kernel
abbrev cX4_init : ByteArray := prog_6_method_1_code
def yX4_init : MethodName := ⟨RX4, "<init>", "()V"⟩
abbrev cX4_ofCell : ByteArray := prog_6_method_2_code
def yX4_ofCell : MethodName := ⟨RX4, "ofCell", "(IZ)I"⟩
def RX5 : String := "DarkShares$Saver"
def TX5 : u_T := fun k => match k with
  | _ => ("", "", "", false)
def tyX5 : Nat → FieldType := fun k => match k with
  | _ => .int
theorem nmX5 : ∀ a, a < 0 → ∀ b, b < 0 → a ≠ b → (TX5 a).2.1 ≠ (TX5 b).2.1 := by decide +kernel
theorem tyX5_ok : ∀ k, k < 0 → parseFieldDescriptor (TX5 k).2.2.1 = some (tyX5 k) := by decide +kernel
abbrev cX5_init : ByteArray := prog_7_method_1_code
def yX5_init : MethodName := ⟨RX5, "<init>", "()V"⟩
abbrev cX5_ofCell : ByteArray := prog_7_method_2_code
def yX5_ofCell : MethodName := ⟨RX5, "ofCell", "(IZ)I"⟩
def RX6 : String := "DarkShares$Sleeper"
def TX6 : u_T := fun k => match k with
  | _ => ("", "", "", false)
def tyX6 : Nat → FieldType := fun k => match k with
  | _ => .int
theorem nmX6 : ∀ a, a < 0 → ∀ b, b < 0 → a ≠ b → (TX6 a).2.1 ≠ (TX6 b).2.1 := by decide +kernel
theorem tyX6_ok : ∀ k, k < 0 → parseFieldDescriptor (TX6 k).2.2.1 = some (tyX6 k) := by decide +kernel
abbrev cX6_init : ByteArray := prog_8_method_1_code
def yX6_init : MethodName := ⟨RX6, "<init>", "()V"⟩
abbrev cX6_ofCell : ByteArray := prog_8_method_2_code
def yX6_ofCell : MethodName := ⟨RX6, "ofCell", "(IZ)I"⟩
def RX7 : String := "DarkShares$Small"
def TX7 : u_T := fun k => match k with
  | _ => ("", "", "", false)
def tyX7 : Nat → FieldType := fun k => match k with
  | _ => .int
theorem nmX7 : ∀ a, a < 0 → ∀ b, b < 0 → a ≠ b → (TX7 a).2.1 ≠ (TX7 b).2.1 := by decide +kernel
theorem tyX7_ok : ∀ k, k < 0 → parseFieldDescriptor (TX7 k).2.2.1 = some (tyX7 k) := by decide +kernel
abbrev cX7_init : ByteArray := prog_9_method_1_code
def yX7_init : MethodName := ⟨RX7, "<init>", "()V"⟩
abbrev cX7_ofCell : ByteArray := prog_9_method_2_code
def yX7_ofCell : MethodName := ⟨RX7, "ofCell", "(IZ)I"⟩
def RX8 : String := "DarkShares$Text"
def TX8 : u_T := fun k => match k with
  | 0 => ("DarkShares$Text", "bytes", "[B", true)
  | 1 => ("DarkShares$Text", "length", "I", false)
  | 2 => ("DarkShares$Text", "at", "I", false)
  | 3 => ("DarkShares$Text", "token", "I", false)
  | 4 => ("DarkShares$Text", "start", "I", false)
  | _ => ("DarkShares$Text", "items", "I", false)
def tyX8 : Nat → FieldType := fun k => match k with
  | 0 => .array .byte
  | 1 => .int
  | 2 => .int
  | 3 => .int
  | 4 => .int
  | _ => .int
theorem nmX8 : ∀ a, a < 6 → ∀ b, b < 6 → a ≠ b → (TX8 a).2.1 ≠ (TX8 b).2.1 := by decide +kernel
theorem tyX8_ok : ∀ k, k < 6 → parseFieldDescriptor (TX8 k).2.2.1 = some (tyX8 k) := by decide +kernel
abbrev cX8_init : ByteArray := prog_10_method_1_code
def yX8_init : MethodName := ⟨RX8, "<init>", "()V"⟩
abbrev cX8_put : ByteArray := prog_10_method_2_code
def yX8_put : MethodName := ⟨RX8, "put", "(B)I"⟩
abbrev cX8_tell : ByteArray := prog_10_method_3_code
def yX8_tell : MethodName := ⟨RX8, "tell", "(LDarkShares$Night;)I"⟩
abbrev cX8_item : ByteArray := prog_10_method_4_code
def yX8_item : MethodName := ⟨RX8, "item", "(LDarkShares$Night;)Z"⟩
abbrev cX8_boyItem : ByteArray := prog_10_method_5_code
def yX8_boyItem : MethodName := ⟨RX8, "boyItem", "(LDarkShares$Night;)Z"⟩
abbrev cX8_cellsItem : ByteArray := prog_10_method_6_code
def yX8_cellsItem : MethodName := ⟨RX8, "cellsItem", "(LDarkShares$Night;)Z"⟩
abbrev cX8_stops : ByteArray := prog_10_method_7_code
def yX8_stops : MethodName := ⟨RX8, "stops", "()Z"⟩
abbrev cX8_number : ByteArray := prog_10_method_8_code
def yX8_number : MethodName := ⟨RX8, "number", "(I)I"⟩
abbrev cX8_isWord : ByteArray := prog_10_method_9_code
def yX8_isWord : MethodName := ⟨RX8, "isWord", "(Ljava/lang/String;)Z"⟩
abbrev cX8_next : ByteArray := prog_10_method_10_code
def yX8_next : MethodName := ⟨RX8, "next", "()V"⟩
abbrev cX8_tokenAt : ByteArray := prog_10_method_11_code
def yX8_tokenAt : MethodName := ⟨RX8, "tokenAt", "()I"⟩
abbrev cX8_isLetter : ByteArray := prog_10_method_12_code
def yX8_isLetter : MethodName := ⟨RX8, "isLetter", "(B)Z"⟩
abbrev cX8_isFigure : ByteArray := prog_10_method_13_code
def yX8_isFigure : MethodName := ⟨RX8, "isFigure", "(B)Z"⟩
def RX9 : String := "DarkShares"
def TX9 : u_T := fun k => match k with
  | 0 => ("DarkShares", "now", "LDarkShares$Night;", true)
  | 1 => ("DarkShares", "trial", "LDarkShares$Night;", true)
  | 2 => ("DarkShares", "images", "[LDarkShares$Night;", true)
  | 3 => ("DarkShares", "kept", "[Z", true)
  | 4 => ("DarkShares", "rows", "LDarkShares$Pieces;", true)
  | 5 => ("DarkShares", "text", "LDarkShares$Text;", true)
  | 6 => ("DarkShares", "above", "J", false)
  | 7 => ("DarkShares", "below", "J", false)
  | 8 => ("DarkShares", "bads", "I", false)
  | 9 => ("DarkShares", "noes", "I", false)
  | _ => ("DarkShares", "fulls", "I", false)
def tyX9 : Nat → FieldType := fun k => match k with
  | 0 => .object "DarkShares$Night"
  | 1 => .object "DarkShares$Night"
  | 2 => .array (.object "DarkShares$Night")
  | 3 => .array .boolean
  | 4 => .object "DarkShares$Pieces"
  | 5 => .object "DarkShares$Text"
  | 6 => .long
  | 7 => .long
  | 8 => .int
  | 9 => .int
  | _ => .int
theorem nmX9 : ∀ a, a < 11 → ∀ b, b < 11 → a ≠ b → (TX9 a).2.1 ≠ (TX9 b).2.1 := by decide +kernel
theorem tyX9_ok : ∀ k, k < 11 → parseFieldDescriptor (TX9 k).2.2.1 = some (tyX9 k) := by decide +kernel
abbrev cX9_init : ByteArray := prog_1_method_1_code
def yX9_init : MethodName := ⟨RX9, "<init>", "()V"⟩
abbrev cX9_night : ByteArray := prog_1_method_2_code
def yX9_night : MethodName := ⟨RX9, "night", "()I"⟩
abbrev cX9_boy : ByteArray := prog_1_method_3_code
def yX9_boy : MethodName := ⟨RX9, "boy", "(III)I"⟩
abbrev cX9_give : ByteArray := prog_1_method_4_code
def yX9_give : MethodName := ⟨RX9, "give", "(II)I"⟩
abbrev cX9_type : ByteArray := prog_1_method_5_code
def yX9_type : MethodName := ⟨RX9, "type", "(I)I"⟩
abbrev cX9_clear : ByteArray := prog_1_method_6_code
def yX9_clear : MethodName := ⟨RX9, "clear", "()I"⟩
abbrev cX9_read : ByteArray := prog_1_method_7_code
def yX9_read : MethodName := ⟨RX9, "read", "()I"⟩
abbrev cX9_swap : ByteArray := prog_1_method_8_code
def yX9_swap : MethodName := ⟨RX9, "swap", "(II)I"⟩
abbrev cX9_sell : ByteArray := prog_1_method_9_code
def yX9_sell : MethodName := ⟨RX9, "sell", "(III)I"⟩
abbrev cX9_undo : ByteArray := prog_1_method_10_code
def yX9_undo : MethodName := ⟨RX9, "undo", "()I"⟩
abbrev cX9_of : ByteArray := prog_1_method_11_code
def yX9_of : MethodName := ⟨RX9, "of", "(II)I"⟩
abbrev cX9_worth : ByteArray := prog_1_method_12_code
def yX9_worth : MethodName := ⟨RX9, "worth", "(II)I"⟩
abbrev cX9_whose : ByteArray := prog_1_method_13_code
def yX9_whose : MethodName := ⟨RX9, "whose", "(I)I"⟩
abbrev cX9_enough : ByteArray := prog_1_method_14_code
def yX9_enough : MethodName := ⟨RX9, "enough", "()I"⟩
abbrev cX9_envy : ByteArray := prog_1_method_15_code
def yX9_envy : MethodName := ⟨RX9, "envy", "(I)I"⟩
abbrev cX9_fair : ByteArray := prog_1_method_16_code
def yX9_fair : MethodName := ⟨RX9, "fair", "(I)I"⟩
abbrev cX9_pieces : ByteArray := prog_1_method_17_code
def yX9_pieces : MethodName := ⟨RX9, "pieces", "(I)I"⟩
abbrev cX9_swaps : ByteArray := prog_1_method_18_code
def yX9_swaps : MethodName := ⟨RX9, "swaps", "(I)I"⟩
abbrev cX9_steps : ByteArray := prog_1_method_19_code
def yX9_steps : MethodName := ⟨RX9, "steps", "()I"⟩
abbrev cX9_sale : ByteArray := prog_1_method_20_code
def yX9_sale : MethodName := ⟨RX9, "sale", "(II)I"⟩
abbrev cX9_longest : ByteArray := prog_1_method_21_code
def yX9_longest : MethodName := ⟨RX9, "longest", "(I)I"⟩
abbrev cX9_together : ByteArray := prog_1_method_22_code
def yX9_together : MethodName := ⟨RX9, "together", "(II)I"⟩
abbrev cX9_note : ByteArray := prog_1_method_23_code
def yX9_note : MethodName := ⟨RX9, "note", "(IIII)I"⟩
abbrev cX9_forget : ByteArray := prog_1_method_24_code
def yX9_forget : MethodName := ⟨RX9, "forget", "()I"⟩
abbrev cX9_is : ByteArray := prog_1_method_25_code
def yX9_is : MethodName := ⟨RX9, "is", "(I)I"⟩
abbrev cX9_asks : ByteArray := prog_1_method_26_code
def yX9_asks : MethodName := ⟨RX9, "asks", "(I)I"⟩
abbrev cX9_took : ByteArray := prog_1_method_27_code
def yX9_took : MethodName := ⟨RX9, "took", "(II)I"⟩
abbrev cX9_owls : ByteArray := prog_1_method_28_code
def yX9_owls : MethodName := ⟨RX9, "owls", "(II)I"⟩
abbrev cX9_terms : ByteArray := prog_1_method_29_code
def yX9_terms : MethodName := ⟨RX9, "terms", "(II)I"⟩
abbrev cX9_part : ByteArray := prog_1_method_30_code
def yX9_part : MethodName := ⟨RX9, "part", "(I)J"⟩
abbrev cX9_image : ByteArray := prog_1_method_31_code
def yX9_image : MethodName := ⟨RX9, "image", "(I)I"⟩
abbrev cX9_from : ByteArray := prog_1_method_32_code
def yX9_from : MethodName := ⟨RX9, "from", "(I)I"⟩
abbrev cX9_status : ByteArray := prog_1_method_33_code
def yX9_status : MethodName := ⟨RX9, "status", "(I)I"⟩
abbrev cX9_count : ByteArray := prog_1_method_34_code
def yX9_count : MethodName := ⟨RX9, "count", "(I)I"⟩
abbrev cX9_digest : ByteArray := prog_1_method_35_code
def yX9_digest : MethodName := ⟨RX9, "digest", "()J"⟩
abbrev cX9_bad : ByteArray := prog_1_method_36_code
def yX9_bad : MethodName := ⟨RX9, "bad", "()I"⟩
abbrev cX9_otherBad : ByteArray := prog_1_method_37_code
def yX9_otherBad : MethodName := ⟨RX9, "otherBad", "()I"⟩
abbrev cX9_no : ByteArray := prog_1_method_38_code
def yX9_no : MethodName := ⟨RX9, "no", "()I"⟩
abbrev cX9_full : ByteArray := prog_1_method_39_code
def yX9_full : MethodName := ⟨RX9, "full", "()I"⟩
abbrev cX9_isBoy : ByteArray := prog_1_method_40_code
def yX9_isBoy : MethodName := ⟨RX9, "isBoy", "(I)Z"⟩
abbrev cX9_isCell : ByteArray := prog_1_method_41_code
def yX9_isCell : MethodName := ⟨RX9, "isCell", "(I)Z"⟩
abbrev cX9_within : ByteArray := prog_1_method_42_code
def yX9_within : MethodName := ⟨RX9, "within", "(II)Z"⟩
abbrev cX9_has : ByteArray := prog_1_method_43_code
def yX9_has : MethodName := ⟨RX9, "has", "(II)Z"⟩
abbrev cX9_isMiddle : ByteArray := prog_1_method_44_code
def yX9_isMiddle : MethodName := ⟨RX9, "isMiddle", "(I)Z"⟩
abbrev cX9_drawn : ByteArray := prog_1_method_45_code
def yX9_drawn : MethodName := ⟨RX9, "drawn", "(J)J"⟩
abbrev cX9_cellBy : ByteArray := prog_1_method_46_code
def yX9_cellBy : MethodName := ⟨RX9, "cellBy", "(J)I"⟩
abbrev cX9_setFraction : ByteArray := prog_1_method_47_code
def yX9_setFraction : MethodName := ⟨RX9, "setFraction", "(II)V"⟩
abbrev cX9_commonDivisor : ByteArray := prog_1_method_48_code
def yX9_commonDivisor : MethodName := ⟨RX9, "commonDivisor", "(II)I"⟩
def RX10 : String := "DarkSharesModel"
def TX10 : u_T := fun k => match k with
  | 0 => ("DarkSharesModel", "refused", "[I", true)
  | 1 => ("DarkSharesModel", "many", "I", false)
  | 2 => ("DarkSharesModel", "noteMany", "I", false)
  | 3 => ("DarkSharesModel", "kinds", "[I", true)
  | 4 => ("DarkSharesModel", "needs", "[I", true)
  | 5 => ("DarkSharesModel", "jams", "[I", true)
  | 6 => ("DarkSharesModel", "owners", "[I", true)
  | 7 => ("DarkSharesModel", "noteBoy", "[I", true)
  | 8 => ("DarkSharesModel", "noteCell", "[I", true)
  | 9 => ("DarkSharesModel", "noteValue", "[I", true)
  | 10 => ("DarkSharesModel", "noteAhead", "[I", true)
  | 11 => ("DarkSharesModel", "text", "[I", true)
  | 12 => ("DarkSharesModel", "typed", "I", false)
  | 13 => ("DarkSharesModel", "readAt", "I", false)
  | 14 => ("DarkSharesModel", "readMany", "I", false)
  | 15 => ("DarkSharesModel", "readBoys", "[I", true)
  | 16 => ("DarkSharesModel", "readOwners", "[I", true)
  | 17 => ("DarkSharesModel", "readNumber", "I", false)
  | 18 => ("DarkSharesModel", "ahead", "[I", true)
  | 19 => ("DarkSharesModel", "undoMany", "I", false)
  | 20 => ("DarkSharesModel", "line", "[I", true)
  | 21 => ("DarkSharesModel", "bestLine", "[I", true)
  | 22 => ("DarkSharesModel", "aside", "[I", true)
  | 23 => ("DarkSharesModel", "above", "J", false)
  | 24 => ("DarkSharesModel", "below", "J", false)
  | 25 => ("DarkSharesModel", "images", "[I", true)
  | 26 => ("DarkSharesModel", "isKept", "[I", true)
  | _ => ("DarkSharesModel", "h0", "J", false)
def tyX10 : Nat → FieldType := fun k => match k with
  | 0 => .array .int
  | 1 => .int
  | 2 => .int
  | 3 => .array .int
  | 4 => .array .int
  | 5 => .array .int
  | 6 => .array .int
  | 7 => .array .int
  | 8 => .array .int
  | 9 => .array .int
  | 10 => .array .int
  | 11 => .array .int
  | 12 => .int
  | 13 => .int
  | 14 => .int
  | 15 => .array .int
  | 16 => .array .int
  | 17 => .int
  | 18 => .array .int
  | 19 => .int
  | 20 => .array .int
  | 21 => .array .int
  | 22 => .array .int
  | 23 => .long
  | 24 => .long
  | 25 => .array .int
  | 26 => .array .int
  | _ => .long
theorem nmX10 : ∀ a, a < 28 → ∀ b, b < 28 → a ≠ b → (TX10 a).2.1 ≠ (TX10 b).2.1 := by decide +kernel
theorem tyX10_ok : ∀ k, k < 28 → parseFieldDescriptor (TX10 k).2.2.1 = some (tyX10 k) := by decide +kernel
abbrev cX10_bad : ByteArray := prog_12_method_1_code
def yX10_bad : MethodName := ⟨RX10, "bad", "()I"⟩
abbrev cX10_ten : ByteArray := prog_12_method_2_code
def yX10_ten : MethodName := ⟨RX10, "ten", "()I"⟩
abbrev cX10_no : ByteArray := prog_12_method_3_code
def yX10_no : MethodName := ⟨RX10, "no", "()I"⟩
abbrev cX10_full : ByteArray := prog_12_method_4_code
def yX10_full : MethodName := ⟨RX10, "full", "()I"⟩
abbrev cX10_in : ByteArray := prog_12_method_5_code
def yX10_in : MethodName := ⟨RX10, "in", "(III)Z"⟩
abbrev cX10_has : ByteArray := prog_12_method_6_code
def yX10_has : MethodName := ⟨RX10, "has", "(II)Z"⟩
abbrev cX10_bits : ByteArray := prog_12_method_7_code
def yX10_bits : MethodName := ⟨RX10, "bits", "(I)I"⟩
abbrev cX10_init : ByteArray := prog_12_method_8_code
def yX10_init : MethodName := ⟨RX10, "<init>", "()V"⟩
abbrev cX10_begin : ByteArray := prog_12_method_9_code
def yX10_begin : MethodName := ⟨RX10, "begin", "()V"⟩
abbrev cX10_isBoy : ByteArray := prog_12_method_10_code
def yX10_isBoy : MethodName := ⟨RX10, "isBoy", "(I)Z"⟩
abbrev cX10_isCell : ByteArray := prog_12_method_11_code
def yX10_isCell : MethodName := ⟨RX10, "isCell", "(I)Z"⟩
abbrev cX10_night : ByteArray := prog_12_method_12_code
def yX10_night : MethodName := ⟨RX10, "night", "()I"⟩
abbrev cX10_addBoy : ByteArray := prog_12_method_13_code
def yX10_addBoy : MethodName := ⟨RX10, "addBoy", "(III)I"⟩
abbrev cX10_boy : ByteArray := prog_12_method_14_code
def yX10_boy : MethodName := ⟨RX10, "boy", "(III)I"⟩
abbrev cX10_type : ByteArray := prog_12_method_15_code
def yX10_type : MethodName := ⟨RX10, "type", "(I)I"⟩
abbrev cX10_clear : ByteArray := prog_12_method_16_code
def yX10_clear : MethodName := ⟨RX10, "clear", "()I"⟩
abbrev cX10_here : ByteArray := prog_12_method_17_code
def yX10_here : MethodName := ⟨RX10, "here", "()I"⟩
abbrev cX10_skip : ByteArray := prog_12_method_18_code
def yX10_skip : MethodName := ⟨RX10, "skip", "()V"⟩
abbrev cX10_isLetter : ByteArray := prog_12_method_19_code
def yX10_isLetter : MethodName := ⟨RX10, "isLetter", "(I)Z"⟩
abbrev cX10_isFigure : ByteArray := prog_12_method_20_code
def yX10_isFigure : MethodName := ⟨RX10, "isFigure", "(I)Z"⟩
abbrev cX10_wordSize : ByteArray := prog_12_method_21_code
def yX10_wordSize : MethodName := ⟨RX10, "wordSize", "()I"⟩
abbrev cX10_letter : ByteArray := prog_12_method_22_code
def yX10_letter : MethodName := ⟨RX10, "letter", "(I)I"⟩
abbrev cX10_wordHere : ByteArray := prog_12_method_23_code
def yX10_wordHere : MethodName := ⟨RX10, "wordHere", "()I"⟩
abbrev cX10_number : ByteArray := prog_12_method_24_code
def yX10_number : MethodName := ⟨RX10, "number", "(II)Z"⟩
abbrev cX10_ends : ByteArray := prog_12_method_25_code
def yX10_ends : MethodName := ⟨RX10, "ends", "()Z"⟩
abbrev cX10_readsBoy : ByteArray := prog_12_method_26_code
def yX10_readsBoy : MethodName := ⟨RX10, "readsBoy", "()Z"⟩
abbrev cX10_readsCells : ByteArray := prog_12_method_27_code
def yX10_readsCells : MethodName := ⟨RX10, "readsCells", "()Z"⟩
abbrev cX10_readsItem : ByteArray := prog_12_method_28_code
def yX10_readsItem : MethodName := ⟨RX10, "readsItem", "()Z"⟩
abbrev cX10_readsNight : ByteArray := prog_12_method_29_code
def yX10_readsNight : MethodName := ⟨RX10, "readsNight", "()I"⟩
abbrev cX10_read : ByteArray := prog_12_method_30_code
def yX10_read : MethodName := ⟨RX10, "read", "()I"⟩
abbrev cX10_valueBy : ByteArray := prog_12_method_31_code
def yX10_valueBy : MethodName := ⟨RX10, "valueBy", "(IIZ)I"⟩
abbrev cX10_valueIn : ByteArray := prog_12_method_32_code
def yX10_valueIn : MethodName := ⟨RX10, "valueIn", "(III)I"⟩
abbrev cX10_worthOf : ByteArray := prog_12_method_33_code
def yX10_worthOf : MethodName := ⟨RX10, "worthOf", "(II)I"⟩
abbrev cX10_setOf : ByteArray := prog_12_method_34_code
def yX10_setOf : MethodName := ⟨RX10, "setOf", "(I)I"⟩
abbrev cX10_ownWorth : ByteArray := prog_12_method_35_code
def yX10_ownWorth : MethodName := ⟨RX10, "ownWorth", "(I)I"⟩
abbrev cX10_notes : ByteArray := prog_12_method_36_code
def yX10_notes : MethodName := ⟨RX10, "notes", "()V"⟩
abbrev cX10_give : ByteArray := prog_12_method_37_code
def yX10_give : MethodName := ⟨RX10, "give", "(II)I"⟩
abbrev cX10_changes : ByteArray := prog_12_method_38_code
def yX10_changes : MethodName := ⟨RX10, "changes", "(II)V"⟩
abbrev cX10_swap : ByteArray := prog_12_method_39_code
def yX10_swap : MethodName := ⟨RX10, "swap", "(II)I"⟩
abbrev cX10_sell : ByteArray := prog_12_method_40_code
def yX10_sell : MethodName := ⟨RX10, "sell", "(III)I"⟩
abbrev cX10_greyMany : ByteArray := prog_12_method_41_code
def yX10_greyMany : MethodName := ⟨RX10, "greyMany", "()I"⟩
abbrev cX10_undo : ByteArray := prog_12_method_42_code
def yX10_undo : MethodName := ⟨RX10, "undo", "()I"⟩
abbrev cX10_of : ByteArray := prog_12_method_43_code
def yX10_of : MethodName := ⟨RX10, "of", "(II)I"⟩
abbrev cX10_worth : ByteArray := prog_12_method_44_code
def yX10_worth : MethodName := ⟨RX10, "worth", "(II)I"⟩
abbrev cX10_whose : ByteArray := prog_12_method_45_code
def yX10_whose : MethodName := ⟨RX10, "whose", "(I)I"⟩
abbrev cX10_enough : ByteArray := prog_12_method_46_code
def yX10_enough : MethodName := ⟨RX10, "enough", "()I"⟩
abbrev cX10_envy : ByteArray := prog_12_method_47_code
def yX10_envy : MethodName := ⟨RX10, "envy", "(I)I"⟩
abbrev cX10_isFair : ByteArray := prog_12_method_48_code
def yX10_isFair : MethodName := ⟨RX10, "isFair", "(II)Z"⟩
abbrev cX10_fair : ByteArray := prog_12_method_49_code
def yX10_fair : MethodName := ⟨RX10, "fair", "(I)I"⟩
abbrev cX10_pieceEnd : ByteArray := prog_12_method_50_code
def yX10_pieceEnd : MethodName := ⟨RX10, "pieceEnd", "(II)I"⟩
abbrev cX10_takenBy : ByteArray := prog_12_method_51_code
def yX10_takenBy : MethodName := ⟨RX10, "takenBy", "()I"⟩
abbrev cX10_nextLine : ByteArray := prog_12_method_52_code
def yX10_nextLine : MethodName := ⟨RX10, "nextLine", "()Z"⟩
abbrev cX10_pieces : ByteArray := prog_12_method_53_code
def yX10_pieces : MethodName := ⟨RX10, "pieces", "(I)I"⟩
abbrev cX10_isSwap : ByteArray := prog_12_method_54_code
def yX10_isSwap : MethodName := ⟨RX10, "isSwap", "(II)Z"⟩
abbrev cX10_swaps : ByteArray := prog_12_method_55_code
def yX10_swaps : MethodName := ⟨RX10, "swaps", "(I)I"⟩
abbrev cX10_puts : ByteArray := prog_12_method_56_code
def yX10_puts : MethodName := ⟨RX10, "puts", "()V"⟩
abbrev cX10_back : ByteArray := prog_12_method_57_code
def yX10_back : MethodName := ⟨RX10, "back", "()V"⟩
abbrev cX10_firstSwap : ByteArray := prog_12_method_58_code
def yX10_firstSwap : MethodName := ⟨RX10, "firstSwap", "()I"⟩
abbrev cX10_steps : ByteArray := prog_12_method_59_code
def yX10_steps : MethodName := ⟨RX10, "steps", "()I"⟩
abbrev cX10_sale : ByteArray := prog_12_method_60_code
def yX10_sale : MethodName := ⟨RX10, "sale", "(II)I"⟩
abbrev cX10_longest : ByteArray := prog_12_method_61_code
def yX10_longest : MethodName := ⟨RX10, "longest", "(I)I"⟩
abbrev cX10_together : ByteArray := prog_12_method_62_code
def yX10_together : MethodName := ⟨RX10, "together", "(II)I"⟩
abbrev cX10_note : ByteArray := prog_12_method_63_code
def yX10_note : MethodName := ⟨RX10, "note", "(IIII)I"⟩
abbrev cX10_forget : ByteArray := prog_12_method_64_code
def yX10_forget : MethodName := ⟨RX10, "forget", "()I"⟩
abbrev cX10_kindsOf : ByteArray := prog_12_method_65_code
def yX10_kindsOf : MethodName := ⟨RX10, "kindsOf", "(I)I"⟩
abbrev cX10_is : ByteArray := prog_12_method_66_code
def yX10_is : MethodName := ⟨RX10, "is", "(I)I"⟩
abbrev cX10_alike : ByteArray := prog_12_method_67_code
def yX10_alike : MethodName := ⟨RX10, "alike", "(II)I"⟩
abbrev cX10_asks : ByteArray := prog_12_method_68_code
def yX10_asks : MethodName := ⟨RX10, "asks", "(I)I"⟩
abbrev cX10_took : ByteArray := prog_12_method_69_code
def yX10_took : MethodName := ⟨RX10, "took", "(II)I"⟩
abbrev cX10_lay : ByteArray := prog_12_method_70_code
def yX10_lay : MethodName := ⟨RX10, "lay", "(JJ)V"⟩
abbrev cX10_owls : ByteArray := prog_12_method_71_code
def yX10_owls : MethodName := ⟨RX10, "owls", "(II)I"⟩
abbrev cX10_terms : ByteArray := prog_12_method_72_code
def yX10_terms : MethodName := ⟨RX10, "terms", "(II)I"⟩
abbrev cX10_part : ByteArray := prog_12_method_73_code
def yX10_part : MethodName := ⟨RX10, "part", "(I)J"⟩
abbrev cX10_image : ByteArray := prog_12_method_74_code
def yX10_image : MethodName := ⟨RX10, "image", "(I)I"⟩
abbrev cX10_from : ByteArray := prog_12_method_75_code
def yX10_from : MethodName := ⟨RX10, "from", "(I)I"⟩
abbrev cX10_status : ByteArray := prog_12_method_76_code
def yX10_status : MethodName := ⟨RX10, "status", "(I)I"⟩
abbrev cX10_allJam : ByteArray := prog_12_method_77_code
def yX10_allJam : MethodName := ⟨RX10, "allJam", "()I"⟩
abbrev cX10_countOf : ByteArray := prog_12_method_78_code
def yX10_countOf : MethodName := ⟨RX10, "countOf", "(I)I"⟩
abbrev cX10_count : ByteArray := prog_12_method_79_code
def yX10_count : MethodName := ⟨RX10, "count", "(I)I"⟩
abbrev cX10_mix : ByteArray := prog_12_method_80_code
def yX10_mix : MethodName := ⟨RX10, "mix", "(J)V"⟩
abbrev cX10_digest : ByteArray := prog_12_method_81_code
def yX10_digest : MethodName := ⟨RX10, "digest", "()J"⟩
def RJ6 : String := "java/lang/Integer"
abbrev cJ6_bitCount_0f7a4 : ByteArray := prog_13_method_49_code
def yJ6_bitCount_0f7a4 : MethodName := ⟨RJ6, "bitCount", "(I)I"⟩
def RJ9 : String := "java/lang/Math"
abbrev cJ9_max_7cf53 : ByteArray := prog_14_method_65_code
def yJ9_max_7cf53 : MethodName := ⟨RJ9, "max", "(II)I"⟩
def RJ0 : String := "java/lang/String"
abbrev cJ0_length_8abf5 : ByteArray := prog_15_method_54_code
def yJ0_length_8abf5 : MethodName := ⟨RJ0, "length", "()I"⟩
abbrev cJ0_charAt_5068e : ByteArray := prog_15_method_56_code
def yJ0_charAt_5068e : MethodName := ⟨RJ0, "charAt", "(I)C"⟩
abbrev cJ0_coder_7d493 : ByteArray := prog_15_method_152_code
def yJ0_coder_7d493 : MethodName := ⟨RJ0, "coder", "()B"⟩
abbrev cJ0_isLatin1_aae02 : ByteArray := prog_15_method_154_code
def yJ0_isLatin1_aae02 : MethodName := ⟨RJ0, "isLatin1", "()Z"⟩
abbrev cJ0_checkIndex_df160 : ByteArray := prog_15_method_155_code
def yJ0_checkIndex_df160 : MethodName := ⟨RJ0, "checkIndex", "(II)V"⟩
def RJ1 : String := "java/lang/StringLatin1"
abbrev cJ1_charAt_3b067 : ByteArray := prog_16_method_2_code
def yJ1_charAt_3b067 : MethodName := ⟨RJ1, "charAt", "([BI)C"⟩
def RJ2 : String := "java/lang/StringUTF16"
abbrev cJ2_getChar_3b067 : ByteArray := prog_17_method_5_code
def yJ2_getChar_3b067 : MethodName := ⟨RJ2, "getChar", "([BI)C"⟩
abbrev cJ2_length_9d52b : ByteArray := prog_17_method_6_code
def yJ2_length_9d52b : MethodName := ⟨RJ2, "length", "([B)I"⟩
abbrev cJ2_charAt_3b067 : ByteArray := prog_17_method_83_code
def yJ2_charAt_3b067 : MethodName := ⟨RJ2, "charAt", "([BI)C"⟩
abbrev cJ2_checkIndex_2214a : ByteArray := prog_17_method_91_code
def yJ2_checkIndex_2214a : MethodName := ⟨RJ2, "checkIndex", "(I[B)V"⟩
def RJ10 : String := "java/lang/System"
def RJ7 : String := "java/util/Arrays"
abbrev cJ7_fill_53178 : ByteArray := prog_19_method_103_code
def yJ7_fill_53178 : MethodName := ⟨RJ7, "fill", "([II)V"⟩
def RJ3 : String := "jdk/internal/util/Preconditions"
abbrev cJ3_checkIndex_8e157 : ByteArray := prog_20_method_11_code
def yJ3_checkIndex_8e157 : MethodName := ⟨RJ3, "checkIndex", "(IILjava/util/function/BiFunction;)I"⟩
def RL : String := "DarkSharesLaw"
abbrev cL_law : ByteArray := code
def yL_law : MethodName := ⟨RL, "law", "([I)Z"⟩
abbrev vwCl : List vw_C := [(RX0, TX0, 0), (RX1, TX1, 10), (RX2, TX2, 3), (RX3, TX3, 0), (RX4, TX4, 0), (RX5, TX5, 0), (RX6, TX6, 0), (RX7, TX7, 0), (RX8, TX8, 6), (RX9, TX9, 11), (RX10, TX10, 28)]
