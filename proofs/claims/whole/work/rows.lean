section
-- ===== PART A: goes FIRST, ahead of the names: the tables' words, and 'selects' of the private methods out of them =====
/-- a private method of a class that the tables say can be made, by its rows of tables_1 -/
def lw_okq (q : MethodName × Nat) : Prop := (q.1.cls ≠ "java/lang/invoke/MethodHandle" ∧ q.1.cls ≠ "java/lang/invoke/VarHandle") ∧ Cond.instantiable q.1.cls q.2 ∈ tables_1 ∧ Cond.privateMethod q.1 ∈ tables_1 ∧ Cond.instanceMethod q.1 ∈ tables_1
theorem lw_p0 : lw_okq (⟨"DarkShares", "bad", "()I"⟩, 11) := ⟨⟨by decide +kernel, by decide +kernel⟩, List.mem_of_getElem? (i := 21) (by decide +kernel), List.mem_of_getElem? (i := 219) (by decide +kernel), List.mem_of_getElem? (i := 220) (by decide +kernel)⟩
theorem lw_p1 : lw_okq (⟨"DarkShares", "full", "()I"⟩, 11) := ⟨⟨by decide +kernel, by decide +kernel⟩, List.mem_of_getElem? (i := 21) (by decide +kernel), List.mem_of_getElem? (i := 223) (by decide +kernel), List.mem_of_getElem? (i := 224) (by decide +kernel)⟩
theorem lw_p2 : lw_okq (⟨"DarkShares", "isBoy", "(I)Z"⟩, 11) := ⟨⟨by decide +kernel, by decide +kernel⟩, List.mem_of_getElem? (i := 21) (by decide +kernel), List.mem_of_getElem? (i := 238) (by decide +kernel), List.mem_of_getElem? (i := 239) (by decide +kernel)⟩
theorem lw_p3 : lw_okq (⟨"DarkShares", "otherBad", "()I"⟩, 11) := ⟨⟨by decide +kernel, by decide +kernel⟩, List.mem_of_getElem? (i := 21) (by decide +kernel), List.mem_of_getElem? (i := 242) (by decide +kernel), List.mem_of_getElem? (i := 243) (by decide +kernel)⟩
theorem lw_p4 : lw_okq (⟨"DarkShares$Text", "next", "()V"⟩, 6) := ⟨⟨by decide +kernel, by decide +kernel⟩, List.mem_of_getElem? (i := 143) (by decide +kernel), List.mem_of_getElem? (i := 274) (by decide +kernel), List.mem_of_getElem? (i := 275) (by decide +kernel)⟩
theorem lw_p5 : lw_okq (⟨"DarkShares$Text", "tokenAt", "()I"⟩, 6) := ⟨⟨by decide +kernel, by decide +kernel⟩, List.mem_of_getElem? (i := 143) (by decide +kernel), List.mem_of_getElem? (i := 278) (by decide +kernel), List.mem_of_getElem? (i := 279) (by decide +kernel)⟩
theorem lw_p6 : lw_okq (⟨"DarkShares$Text", "item", "(LDarkShares$Night;)Z"⟩, 6) := ⟨⟨by decide +kernel, by decide +kernel⟩, List.mem_of_getElem? (i := 143) (by decide +kernel), List.mem_of_getElem? (i := 288) (by decide +kernel), List.mem_of_getElem? (i := 289) (by decide +kernel)⟩
theorem lw_p7 : lw_okq (⟨"DarkShares$Text", "isWord", "(Ljava/lang/String;)Z"⟩, 6) := ⟨⟨by decide +kernel, by decide +kernel⟩, List.mem_of_getElem? (i := 143) (by decide +kernel), List.mem_of_getElem? (i := 293) (by decide +kernel), List.mem_of_getElem? (i := 294) (by decide +kernel)⟩
theorem lw_p8 : lw_okq (⟨"DarkShares$Text", "stops", "()Z"⟩, 6) := ⟨⟨by decide +kernel, by decide +kernel⟩, List.mem_of_getElem? (i := 143) (by decide +kernel), List.mem_of_getElem? (i := 345) (by decide +kernel), List.mem_of_getElem? (i := 346) (by decide +kernel)⟩
theorem lw_p9 : lw_okq (⟨"DarkShares$Text", "boyItem", "(LDarkShares$Night;)Z"⟩, 6) := ⟨⟨by decide +kernel, by decide +kernel⟩, List.mem_of_getElem? (i := 143) (by decide +kernel), List.mem_of_getElem? (i := 350) (by decide +kernel), List.mem_of_getElem? (i := 351) (by decide +kernel)⟩
theorem lw_p10 : lw_okq (⟨"DarkShares$Text", "number", "(I)I"⟩, 6) := ⟨⟨by decide +kernel, by decide +kernel⟩, List.mem_of_getElem? (i := 143) (by decide +kernel), List.mem_of_getElem? (i := 354) (by decide +kernel), List.mem_of_getElem? (i := 355) (by decide +kernel)⟩
theorem lw_p11 : lw_okq (⟨"DarkShares$Text", "cellsItem", "(LDarkShares$Night;)Z"⟩, 6) := ⟨⟨by decide +kernel, by decide +kernel⟩, List.mem_of_getElem? (i := 143) (by decide +kernel), List.mem_of_getElem? (i := 360) (by decide +kernel), List.mem_of_getElem? (i := 361) (by decide +kernel)⟩
theorem lw_p12 : lw_okq (⟨"DarkShares", "no", "()I"⟩, 11) := ⟨⟨by decide +kernel, by decide +kernel⟩, List.mem_of_getElem? (i := 21) (by decide +kernel), List.mem_of_getElem? (i := 376) (by decide +kernel), List.mem_of_getElem? (i := 377) (by decide +kernel)⟩
theorem lw_p13 : lw_okq (⟨"DarkShares$Night", "kindOf", "(I)LDarkShares$Plain;"⟩, 10) := ⟨⟨by decide +kernel, by decide +kernel⟩, List.mem_of_getElem? (i := 72) (by decide +kernel), List.mem_of_getElem? (i := 423) (by decide +kernel), List.mem_of_getElem? (i := 424) (by decide +kernel)⟩
theorem lw_p14 : lw_okq (⟨"DarkShares$Pieces", "keepIfFewer", "(I)V"⟩, 3) := ⟨⟨by decide +kernel, by decide +kernel⟩, List.mem_of_getElem? (i := 124) (by decide +kernel), List.mem_of_getElem? (i := 500) (by decide +kernel), List.mem_of_getElem? (i := 501) (by decide +kernel)⟩
theorem lw_p15 : lw_okq (⟨"DarkShares$Night", "gains", "(II)Z"⟩, 10) := ⟨⟨by decide +kernel, by decide +kernel⟩, List.mem_of_getElem? (i := 72) (by decide +kernel), List.mem_of_getElem? (i := 524) (by decide +kernel), List.mem_of_getElem? (i := 525) (by decide +kernel)⟩
def lw_privs_1 : List (MethodName × Nat) := [(⟨"DarkShares", "bad", "()I"⟩, 11), (⟨"DarkShares", "full", "()I"⟩, 11), (⟨"DarkShares", "isBoy", "(I)Z"⟩, 11), (⟨"DarkShares", "otherBad", "()I"⟩, 11), (⟨"DarkShares$Text", "next", "()V"⟩, 6), (⟨"DarkShares$Text", "tokenAt", "()I"⟩, 6), (⟨"DarkShares$Text", "item", "(LDarkShares$Night;)Z"⟩, 6), (⟨"DarkShares$Text", "isWord", "(Ljava/lang/String;)Z"⟩, 6), (⟨"DarkShares$Text", "stops", "()Z"⟩, 6), (⟨"DarkShares$Text", "boyItem", "(LDarkShares$Night;)Z"⟩, 6), (⟨"DarkShares$Text", "number", "(I)I"⟩, 6), (⟨"DarkShares$Text", "cellsItem", "(LDarkShares$Night;)Z"⟩, 6), (⟨"DarkShares", "no", "()I"⟩, 11), (⟨"DarkShares$Night", "kindOf", "(I)LDarkShares$Plain;"⟩, 10), (⟨"DarkShares$Pieces", "keepIfFewer", "(I)V"⟩, 3), (⟨"DarkShares$Night", "gains", "(II)Z"⟩, 10)]
theorem lw_r1 : ∀ q ∈ lw_privs_1, lw_okq q := List.forall_mem_cons.mpr ⟨lw_p0, List.forall_mem_cons.mpr ⟨lw_p1, List.forall_mem_cons.mpr ⟨lw_p2, List.forall_mem_cons.mpr ⟨lw_p3, List.forall_mem_cons.mpr ⟨lw_p4, List.forall_mem_cons.mpr ⟨lw_p5, List.forall_mem_cons.mpr ⟨lw_p6, List.forall_mem_cons.mpr ⟨lw_p7, List.forall_mem_cons.mpr ⟨lw_p8, List.forall_mem_cons.mpr ⟨lw_p9, List.forall_mem_cons.mpr ⟨lw_p10, List.forall_mem_cons.mpr ⟨lw_p11, List.forall_mem_cons.mpr ⟨lw_p12, List.forall_mem_cons.mpr ⟨lw_p13, List.forall_mem_cons.mpr ⟨lw_p14, List.forall_mem_cons.mpr ⟨lw_p15, fun _ h => absurd h List.not_mem_nil⟩⟩⟩⟩⟩⟩⟩⟩⟩⟩⟩⟩⟩⟩⟩⟩
theorem lw_p16 : lw_okq (⟨"DarkShares$Night", "lossOf", "(I)I"⟩, 10) := ⟨⟨by decide +kernel, by decide +kernel⟩, List.mem_of_getElem? (i := 72) (by decide +kernel), List.mem_of_getElem? (i := 544) (by decide +kernel), List.mem_of_getElem? (i := 545) (by decide +kernel)⟩
theorem lw_p17 : lw_okq (⟨"DarkShares$Night", "fitsAll", "(ILDarkShares$Plain;)Z"⟩, 10) := ⟨⟨by decide +kernel, by decide +kernel⟩, List.mem_of_getElem? (i := 72) (by decide +kernel), List.mem_of_getElem? (i := 589) (by decide +kernel), List.mem_of_getElem? (i := 590) (by decide +kernel)⟩
theorem lw_p18 : lw_okq (⟨"DarkShares$Night", "mostAlike", "(II)I"⟩, 10) := ⟨⟨by decide +kernel, by decide +kernel⟩, List.mem_of_getElem? (i := 72) (by decide +kernel), List.mem_of_getElem? (i := 601) (by decide +kernel), List.mem_of_getElem? (i := 602) (by decide +kernel)⟩
theorem lw_p19 : lw_okq (⟨"DarkShares$Night", "howManyAs", "(III)I"⟩, 10) := ⟨⟨by decide +kernel, by decide +kernel⟩, List.mem_of_getElem? (i := 72) (by decide +kernel), List.mem_of_getElem? (i := 605) (by decide +kernel), List.mem_of_getElem? (i := 606) (by decide +kernel)⟩
theorem lw_p20 : lw_okq (⟨"DarkShares", "setFraction", "(II)V"⟩, 11) := ⟨⟨by decide +kernel, by decide +kernel⟩, List.mem_of_getElem? (i := 21) (by decide +kernel), List.mem_of_getElem? (i := 627) (by decide +kernel), List.mem_of_getElem? (i := 628) (by decide +kernel)⟩
theorem lw_p21 : lw_okq (⟨"DarkSharesModel", "begin", "()V"⟩, 28) := ⟨⟨by decide +kernel, by decide +kernel⟩, List.mem_of_getElem? (i := 688) (by decide +kernel), List.mem_of_getElem? (i := 694) (by decide +kernel), List.mem_of_getElem? (i := 695) (by decide +kernel)⟩
theorem lw_p22 : lw_okq (⟨"DarkSharesModel", "bad", "()I"⟩, 28) := ⟨⟨by decide +kernel, by decide +kernel⟩, List.mem_of_getElem? (i := 688) (by decide +kernel), List.mem_of_getElem? (i := 794) (by decide +kernel), List.mem_of_getElem? (i := 795) (by decide +kernel)⟩
theorem lw_p23 : lw_okq (⟨"DarkSharesModel", "full", "()I"⟩, 28) := ⟨⟨by decide +kernel, by decide +kernel⟩, List.mem_of_getElem? (i := 688) (by decide +kernel), List.mem_of_getElem? (i := 798) (by decide +kernel), List.mem_of_getElem? (i := 799) (by decide +kernel)⟩
theorem lw_p24 : lw_okq (⟨"DarkSharesModel", "addBoy", "(III)I"⟩, 28) := ⟨⟨by decide +kernel, by decide +kernel⟩, List.mem_of_getElem? (i := 688) (by decide +kernel), List.mem_of_getElem? (i := 802) (by decide +kernel), List.mem_of_getElem? (i := 803) (by decide +kernel)⟩
theorem lw_p25 : lw_okq (⟨"DarkSharesModel", "readsNight", "()I"⟩, 28) := ⟨⟨by decide +kernel, by decide +kernel⟩, List.mem_of_getElem? (i := 688) (by decide +kernel), List.mem_of_getElem? (i := 818) (by decide +kernel), List.mem_of_getElem? (i := 819) (by decide +kernel)⟩
theorem lw_p26 : lw_okq (⟨"DarkSharesModel", "skip", "()V"⟩, 28) := ⟨⟨by decide +kernel, by decide +kernel⟩, List.mem_of_getElem? (i := 688) (by decide +kernel), List.mem_of_getElem? (i := 822) (by decide +kernel), List.mem_of_getElem? (i := 823) (by decide +kernel)⟩
theorem lw_p27 : lw_okq (⟨"DarkSharesModel", "here", "()I"⟩, 28) := ⟨⟨by decide +kernel, by decide +kernel⟩, List.mem_of_getElem? (i := 688) (by decide +kernel), List.mem_of_getElem? (i := 826) (by decide +kernel), List.mem_of_getElem? (i := 827) (by decide +kernel)⟩
theorem lw_p28 : lw_okq (⟨"DarkSharesModel", "wordHere", "()I"⟩, 28) := ⟨⟨by decide +kernel, by decide +kernel⟩, List.mem_of_getElem? (i := 688) (by decide +kernel), List.mem_of_getElem? (i := 830) (by decide +kernel), List.mem_of_getElem? (i := 831) (by decide +kernel)⟩
theorem lw_p29 : lw_okq (⟨"DarkSharesModel", "wordSize", "()I"⟩, 28) := ⟨⟨by decide +kernel, by decide +kernel⟩, List.mem_of_getElem? (i := 688) (by decide +kernel), List.mem_of_getElem? (i := 834) (by decide +kernel), List.mem_of_getElem? (i := 835) (by decide +kernel)⟩
theorem lw_p30 : lw_okq (⟨"DarkSharesModel", "letter", "(I)I"⟩, 28) := ⟨⟨by decide +kernel, by decide +kernel⟩, List.mem_of_getElem? (i := 688) (by decide +kernel), List.mem_of_getElem? (i := 841) (by decide +kernel), List.mem_of_getElem? (i := 842) (by decide +kernel)⟩
theorem lw_p31 : lw_okq (⟨"DarkSharesModel", "ends", "()Z"⟩, 28) := ⟨⟨by decide +kernel, by decide +kernel⟩, List.mem_of_getElem? (i := 688) (by decide +kernel), List.mem_of_getElem? (i := 845) (by decide +kernel), List.mem_of_getElem? (i := 846) (by decide +kernel)⟩
def lw_privs_2 : List (MethodName × Nat) := [(⟨"DarkShares$Night", "lossOf", "(I)I"⟩, 10), (⟨"DarkShares$Night", "fitsAll", "(ILDarkShares$Plain;)Z"⟩, 10), (⟨"DarkShares$Night", "mostAlike", "(II)I"⟩, 10), (⟨"DarkShares$Night", "howManyAs", "(III)I"⟩, 10), (⟨"DarkShares", "setFraction", "(II)V"⟩, 11), (⟨"DarkSharesModel", "begin", "()V"⟩, 28), (⟨"DarkSharesModel", "bad", "()I"⟩, 28), (⟨"DarkSharesModel", "full", "()I"⟩, 28), (⟨"DarkSharesModel", "addBoy", "(III)I"⟩, 28), (⟨"DarkSharesModel", "readsNight", "()I"⟩, 28), (⟨"DarkSharesModel", "skip", "()V"⟩, 28), (⟨"DarkSharesModel", "here", "()I"⟩, 28), (⟨"DarkSharesModel", "wordHere", "()I"⟩, 28), (⟨"DarkSharesModel", "wordSize", "()I"⟩, 28), (⟨"DarkSharesModel", "letter", "(I)I"⟩, 28), (⟨"DarkSharesModel", "ends", "()Z"⟩, 28)]
theorem lw_r2 : ∀ q ∈ lw_privs_2, lw_okq q := List.forall_mem_cons.mpr ⟨lw_p16, List.forall_mem_cons.mpr ⟨lw_p17, List.forall_mem_cons.mpr ⟨lw_p18, List.forall_mem_cons.mpr ⟨lw_p19, List.forall_mem_cons.mpr ⟨lw_p20, List.forall_mem_cons.mpr ⟨lw_p21, List.forall_mem_cons.mpr ⟨lw_p22, List.forall_mem_cons.mpr ⟨lw_p23, List.forall_mem_cons.mpr ⟨lw_p24, List.forall_mem_cons.mpr ⟨lw_p25, List.forall_mem_cons.mpr ⟨lw_p26, List.forall_mem_cons.mpr ⟨lw_p27, List.forall_mem_cons.mpr ⟨lw_p28, List.forall_mem_cons.mpr ⟨lw_p29, List.forall_mem_cons.mpr ⟨lw_p30, List.forall_mem_cons.mpr ⟨lw_p31, fun _ h => absurd h List.not_mem_nil⟩⟩⟩⟩⟩⟩⟩⟩⟩⟩⟩⟩⟩⟩⟩⟩
theorem lw_p32 : lw_okq (⟨"DarkSharesModel", "readsItem", "()Z"⟩, 28) := ⟨⟨by decide +kernel, by decide +kernel⟩, List.mem_of_getElem? (i := 688) (by decide +kernel), List.mem_of_getElem? (i := 849) (by decide +kernel), List.mem_of_getElem? (i := 850) (by decide +kernel)⟩
theorem lw_p33 : lw_okq (⟨"DarkSharesModel", "readsBoy", "()Z"⟩, 28) := ⟨⟨by decide +kernel, by decide +kernel⟩, List.mem_of_getElem? (i := 688) (by decide +kernel), List.mem_of_getElem? (i := 853) (by decide +kernel), List.mem_of_getElem? (i := 854) (by decide +kernel)⟩
theorem lw_p34 : lw_okq (⟨"DarkSharesModel", "number", "(II)Z"⟩, 28) := ⟨⟨by decide +kernel, by decide +kernel⟩, List.mem_of_getElem? (i := 688) (by decide +kernel), List.mem_of_getElem? (i := 857) (by decide +kernel), List.mem_of_getElem? (i := 858) (by decide +kernel)⟩
theorem lw_p35 : lw_okq (⟨"DarkSharesModel", "readsCells", "()Z"⟩, 28) := ⟨⟨by decide +kernel, by decide +kernel⟩, List.mem_of_getElem? (i := 688) (by decide +kernel), List.mem_of_getElem? (i := 864) (by decide +kernel), List.mem_of_getElem? (i := 865) (by decide +kernel)⟩
theorem lw_p36 : lw_okq (⟨"DarkSharesModel", "isBoy", "(I)Z"⟩, 28) := ⟨⟨by decide +kernel, by decide +kernel⟩, List.mem_of_getElem? (i := 688) (by decide +kernel), List.mem_of_getElem? (i := 875) (by decide +kernel), List.mem_of_getElem? (i := 876) (by decide +kernel)⟩
theorem lw_p37 : lw_okq (⟨"DarkSharesModel", "ten", "()I"⟩, 28) := ⟨⟨by decide +kernel, by decide +kernel⟩, List.mem_of_getElem? (i := 688) (by decide +kernel), List.mem_of_getElem? (i := 879) (by decide +kernel), List.mem_of_getElem? (i := 880) (by decide +kernel)⟩
theorem lw_p38 : lw_okq (⟨"DarkSharesModel", "notes", "()V"⟩, 28) := ⟨⟨by decide +kernel, by decide +kernel⟩, List.mem_of_getElem? (i := 688) (by decide +kernel), List.mem_of_getElem? (i := 883) (by decide +kernel), List.mem_of_getElem? (i := 884) (by decide +kernel)⟩
theorem lw_p39 : lw_okq (⟨"DarkSharesModel", "no", "()I"⟩, 28) := ⟨⟨by decide +kernel, by decide +kernel⟩, List.mem_of_getElem? (i := 688) (by decide +kernel), List.mem_of_getElem? (i := 891) (by decide +kernel), List.mem_of_getElem? (i := 892) (by decide +kernel)⟩
theorem lw_p40 : lw_okq (⟨"DarkSharesModel", "changes", "(II)V"⟩, 28) := ⟨⟨by decide +kernel, by decide +kernel⟩, List.mem_of_getElem? (i := 688) (by decide +kernel), List.mem_of_getElem? (i := 895) (by decide +kernel), List.mem_of_getElem? (i := 896) (by decide +kernel)⟩
theorem lw_p41 : lw_okq (⟨"DarkSharesModel", "greyMany", "()I"⟩, 28) := ⟨⟨by decide +kernel, by decide +kernel⟩, List.mem_of_getElem? (i := 688) (by decide +kernel), List.mem_of_getElem? (i := 907) (by decide +kernel), List.mem_of_getElem? (i := 908) (by decide +kernel)⟩
theorem lw_p42 : lw_okq (⟨"DarkSharesModel", "setOf", "(I)I"⟩, 28) := ⟨⟨by decide +kernel, by decide +kernel⟩, List.mem_of_getElem? (i := 688) (by decide +kernel), List.mem_of_getElem? (i := 911) (by decide +kernel), List.mem_of_getElem? (i := 912) (by decide +kernel)⟩
theorem lw_p43 : lw_okq (⟨"DarkSharesModel", "ownWorth", "(I)I"⟩, 28) := ⟨⟨by decide +kernel, by decide +kernel⟩, List.mem_of_getElem? (i := 688) (by decide +kernel), List.mem_of_getElem? (i := 922) (by decide +kernel), List.mem_of_getElem? (i := 923) (by decide +kernel)⟩
theorem lw_p44 : lw_okq (⟨"DarkSharesModel", "worthOf", "(II)I"⟩, 28) := ⟨⟨by decide +kernel, by decide +kernel⟩, List.mem_of_getElem? (i := 688) (by decide +kernel), List.mem_of_getElem? (i := 926) (by decide +kernel), List.mem_of_getElem? (i := 927) (by decide +kernel)⟩
theorem lw_p45 : lw_okq (⟨"DarkSharesModel", "valueIn", "(III)I"⟩, 28) := ⟨⟨by decide +kernel, by decide +kernel⟩, List.mem_of_getElem? (i := 688) (by decide +kernel), List.mem_of_getElem? (i := 933) (by decide +kernel), List.mem_of_getElem? (i := 934) (by decide +kernel)⟩
theorem lw_p46 : lw_okq (⟨"DarkSharesModel", "isFair", "(II)Z"⟩, 28) := ⟨⟨by decide +kernel, by decide +kernel⟩, List.mem_of_getElem? (i := 688) (by decide +kernel), List.mem_of_getElem? (i := 960) (by decide +kernel), List.mem_of_getElem? (i := 961) (by decide +kernel)⟩
theorem lw_p47 : lw_okq (⟨"DarkSharesModel", "takenBy", "()I"⟩, 28) := ⟨⟨by decide +kernel, by decide +kernel⟩, List.mem_of_getElem? (i := 688) (by decide +kernel), List.mem_of_getElem? (i := 968) (by decide +kernel), List.mem_of_getElem? (i := 969) (by decide +kernel)⟩
def lw_privs_3 : List (MethodName × Nat) := [(⟨"DarkSharesModel", "readsItem", "()Z"⟩, 28), (⟨"DarkSharesModel", "readsBoy", "()Z"⟩, 28), (⟨"DarkSharesModel", "number", "(II)Z"⟩, 28), (⟨"DarkSharesModel", "readsCells", "()Z"⟩, 28), (⟨"DarkSharesModel", "isBoy", "(I)Z"⟩, 28), (⟨"DarkSharesModel", "ten", "()I"⟩, 28), (⟨"DarkSharesModel", "notes", "()V"⟩, 28), (⟨"DarkSharesModel", "no", "()I"⟩, 28), (⟨"DarkSharesModel", "changes", "(II)V"⟩, 28), (⟨"DarkSharesModel", "greyMany", "()I"⟩, 28), (⟨"DarkSharesModel", "setOf", "(I)I"⟩, 28), (⟨"DarkSharesModel", "ownWorth", "(I)I"⟩, 28), (⟨"DarkSharesModel", "worthOf", "(II)I"⟩, 28), (⟨"DarkSharesModel", "valueIn", "(III)I"⟩, 28), (⟨"DarkSharesModel", "isFair", "(II)Z"⟩, 28), (⟨"DarkSharesModel", "takenBy", "()I"⟩, 28)]
theorem lw_r3 : ∀ q ∈ lw_privs_3, lw_okq q := List.forall_mem_cons.mpr ⟨lw_p32, List.forall_mem_cons.mpr ⟨lw_p33, List.forall_mem_cons.mpr ⟨lw_p34, List.forall_mem_cons.mpr ⟨lw_p35, List.forall_mem_cons.mpr ⟨lw_p36, List.forall_mem_cons.mpr ⟨lw_p37, List.forall_mem_cons.mpr ⟨lw_p38, List.forall_mem_cons.mpr ⟨lw_p39, List.forall_mem_cons.mpr ⟨lw_p40, List.forall_mem_cons.mpr ⟨lw_p41, List.forall_mem_cons.mpr ⟨lw_p42, List.forall_mem_cons.mpr ⟨lw_p43, List.forall_mem_cons.mpr ⟨lw_p44, List.forall_mem_cons.mpr ⟨lw_p45, List.forall_mem_cons.mpr ⟨lw_p46, List.forall_mem_cons.mpr ⟨lw_p47, fun _ h => absurd h List.not_mem_nil⟩⟩⟩⟩⟩⟩⟩⟩⟩⟩⟩⟩⟩⟩⟩⟩
theorem lw_p48 : lw_okq (⟨"DarkSharesModel", "pieceEnd", "(II)I"⟩, 28) := ⟨⟨by decide +kernel, by decide +kernel⟩, List.mem_of_getElem? (i := 688) (by decide +kernel), List.mem_of_getElem? (i := 972) (by decide +kernel), List.mem_of_getElem? (i := 973) (by decide +kernel)⟩
theorem lw_p49 : lw_okq (⟨"DarkSharesModel", "nextLine", "()Z"⟩, 28) := ⟨⟨by decide +kernel, by decide +kernel⟩, List.mem_of_getElem? (i := 688) (by decide +kernel), List.mem_of_getElem? (i := 976) (by decide +kernel), List.mem_of_getElem? (i := 977) (by decide +kernel)⟩
theorem lw_p50 : lw_okq (⟨"DarkSharesModel", "isSwap", "(II)Z"⟩, 28) := ⟨⟨by decide +kernel, by decide +kernel⟩, List.mem_of_getElem? (i := 688) (by decide +kernel), List.mem_of_getElem? (i := 984) (by decide +kernel), List.mem_of_getElem? (i := 985) (by decide +kernel)⟩
theorem lw_p51 : lw_okq (⟨"DarkSharesModel", "puts", "()V"⟩, 28) := ⟨⟨by decide +kernel, by decide +kernel⟩, List.mem_of_getElem? (i := 688) (by decide +kernel), List.mem_of_getElem? (i := 992) (by decide +kernel), List.mem_of_getElem? (i := 993) (by decide +kernel)⟩
theorem lw_p52 : lw_okq (⟨"DarkSharesModel", "firstSwap", "()I"⟩, 28) := ⟨⟨by decide +kernel, by decide +kernel⟩, List.mem_of_getElem? (i := 688) (by decide +kernel), List.mem_of_getElem? (i := 996) (by decide +kernel), List.mem_of_getElem? (i := 997) (by decide +kernel)⟩
theorem lw_p53 : lw_okq (⟨"DarkSharesModel", "back", "()V"⟩, 28) := ⟨⟨by decide +kernel, by decide +kernel⟩, List.mem_of_getElem? (i := 688) (by decide +kernel), List.mem_of_getElem? (i := 1000) (by decide +kernel), List.mem_of_getElem? (i := 1001) (by decide +kernel)⟩
theorem lw_p54 : lw_okq (⟨"DarkSharesModel", "kindsOf", "(I)I"⟩, 28) := ⟨⟨by decide +kernel, by decide +kernel⟩, List.mem_of_getElem? (i := 688) (by decide +kernel), List.mem_of_getElem? (i := 1028) (by decide +kernel), List.mem_of_getElem? (i := 1029) (by decide +kernel)⟩
theorem lw_p55 : lw_okq (⟨"DarkSharesModel", "lay", "(JJ)V"⟩, 28) := ⟨⟨by decide +kernel, by decide +kernel⟩, List.mem_of_getElem? (i := 688) (by decide +kernel), List.mem_of_getElem? (i := 1048) (by decide +kernel), List.mem_of_getElem? (i := 1049) (by decide +kernel)⟩
theorem lw_p56 : lw_okq (⟨"DarkSharesModel", "countOf", "(I)I"⟩, 28) := ⟨⟨by decide +kernel, by decide +kernel⟩, List.mem_of_getElem? (i := 688) (by decide +kernel), List.mem_of_getElem? (i := 1082) (by decide +kernel), List.mem_of_getElem? (i := 1083) (by decide +kernel)⟩
theorem lw_p57 : lw_okq (⟨"DarkSharesModel", "allJam", "()I"⟩, 28) := ⟨⟨by decide +kernel, by decide +kernel⟩, List.mem_of_getElem? (i := 688) (by decide +kernel), List.mem_of_getElem? (i := 1086) (by decide +kernel), List.mem_of_getElem? (i := 1087) (by decide +kernel)⟩
theorem lw_p58 : lw_okq (⟨"DarkSharesModel", "mix", "(J)V"⟩, 28) := ⟨⟨by decide +kernel, by decide +kernel⟩, List.mem_of_getElem? (i := 688) (by decide +kernel), List.mem_of_getElem? (i := 1096) (by decide +kernel), List.mem_of_getElem? (i := 1097) (by decide +kernel)⟩
def lw_privs_4 : List (MethodName × Nat) := [(⟨"DarkSharesModel", "pieceEnd", "(II)I"⟩, 28), (⟨"DarkSharesModel", "nextLine", "()Z"⟩, 28), (⟨"DarkSharesModel", "isSwap", "(II)Z"⟩, 28), (⟨"DarkSharesModel", "puts", "()V"⟩, 28), (⟨"DarkSharesModel", "firstSwap", "()I"⟩, 28), (⟨"DarkSharesModel", "back", "()V"⟩, 28), (⟨"DarkSharesModel", "kindsOf", "(I)I"⟩, 28), (⟨"DarkSharesModel", "lay", "(JJ)V"⟩, 28), (⟨"DarkSharesModel", "countOf", "(I)I"⟩, 28), (⟨"DarkSharesModel", "allJam", "()I"⟩, 28), (⟨"DarkSharesModel", "mix", "(J)V"⟩, 28)]
theorem lw_r4 : ∀ q ∈ lw_privs_4, lw_okq q := List.forall_mem_cons.mpr ⟨lw_p48, List.forall_mem_cons.mpr ⟨lw_p49, List.forall_mem_cons.mpr ⟨lw_p50, List.forall_mem_cons.mpr ⟨lw_p51, List.forall_mem_cons.mpr ⟨lw_p52, List.forall_mem_cons.mpr ⟨lw_p53, List.forall_mem_cons.mpr ⟨lw_p54, List.forall_mem_cons.mpr ⟨lw_p55, List.forall_mem_cons.mpr ⟨lw_p56, List.forall_mem_cons.mpr ⟨lw_p57, List.forall_mem_cons.mpr ⟨lw_p58, fun _ h => absurd h List.not_mem_nil⟩⟩⟩⟩⟩⟩⟩⟩⟩⟩⟩
def lw_privs : List (MethodName × Nat) := lw_privs_1 ++ (lw_privs_2 ++ (lw_privs_3 ++ (lw_privs_4)))
def lw_tbl : List Cond := k2_sels lw_privs ++ tables_1
theorem lw_privs_ok : ∀ q ∈ lw_privs, lw_okq q := by
  show ∀ q ∈ lw_privs_1 ++ (lw_privs_2 ++ (lw_privs_3 ++ (lw_privs_4))), lw_okq q
  exact List.forall_mem_append.mpr ⟨lw_r1, List.forall_mem_append.mpr ⟨lw_r2, List.forall_mem_append.mpr ⟨lw_r3, lw_r4⟩⟩⟩
def RX0 : String := "DarkShares$Afraid"
def TX0 : u_T := fun k => match k with
  | _ => ("", "", "", false)
def tyX0 : Nat → FieldType := fun k => match k with
  | _ => .int
theorem nmX0 : ∀ a, a < 0 → ∀ b, b < 0 → a ≠ b → (TX0 a).2.1 ≠ (TX0 b).2.1 := by decide +kernel
theorem tyX0_ok : ∀ k, k < 0 → parseFieldDescriptor (TX0 k).2.2.1 = some (tyX0 k) := by decide +kernel
abbrev cX0_init : ByteArray := prog_2_method_1_code
def yX0_init : MethodName := ⟨RX0, "<init>", "()V"⟩
abbrev cX0_ofCell : ByteArray := prog_2_method_2_code
def yX0_ofCell : MethodName := ⟨RX0, "ofCell", "(IZ)I"⟩
def RX1 : String := "DarkShares$Night"
def TX1 : u_T := fun k => match k with
  | 0 => ("DarkShares$Night", "kinds", "[LDarkShares$Plain;", true)
  | 1 => ("DarkShares$Night", "kind", "[I", true)
  | 2 => ("DarkShares$Night", "need", "[I", true)
  | 3 => ("DarkShares$Night", "jam", "[I", true)
  | 4 => ("DarkShares$Night", "owner", "[I", true)
  | 5 => ("DarkShares$Night", "said", "[I", true)
  | 6 => ("DarkShares$Night", "past", "[I", true)
  | 7 => ("DarkShares$Night", "boys", "I", false)
  | 8 => ("DarkShares$Night", "notes", "I", false)
  | _ => ("DarkShares$Night", "undos", "I", false)
def tyX1 : Nat → FieldType := fun k => match k with
  | 0 => .array (.object "DarkShares$Plain")
  | 1 => .array .int
  | 2 => .array .int
  | 3 => .array .int
  | 4 => .array .int
  | 5 => .array .int
  | 6 => .array .int
  | 7 => .int
  | 8 => .int
  | _ => .int
theorem nmX1 : ∀ a, a < 10 → ∀ b, b < 10 → a ≠ b → (TX1 a).2.1 ≠ (TX1 b).2.1 := by decide +kernel
theorem tyX1_ok : ∀ k, k < 10 → parseFieldDescriptor (TX1 k).2.2.1 = some (tyX1 k) := by decide +kernel
abbrev cX1_init : ByteArray := prog_3_method_1_code
def yX1_init : MethodName := ⟨RX1, "<init>", "([LDarkShares$Plain;)V"⟩
abbrev cX1_wipe : ByteArray := prog_3_method_2_code
def yX1_wipe : MethodName := ⟨RX1, "wipe", "()V"⟩
abbrev cX1_becomes : ByteArray := prog_3_method_3_code
def yX1_becomes : MethodName := ⟨RX1, "becomes", "(LDarkShares$Night;)V"⟩
abbrev cX1_comes : ByteArray := prog_3_method_4_code
def yX1_comes : MethodName := ⟨RX1, "comes", "(III)I"⟩
abbrev cX1_putDown : ByteArray := prog_3_method_5_code
def yX1_putDown : MethodName := ⟨RX1, "putDown", "(IIII)I"⟩
abbrev cX1_remember : ByteArray := prog_3_method_6_code
def yX1_remember : MethodName := ⟨RX1, "remember", "()V"⟩
abbrev cX1_goBack : ByteArray := prog_3_method_7_code
def yX1_goBack : MethodName := ⟨RX1, "goBack", "()V"⟩
abbrev cX1_cellsOf : ByteArray := prog_3_method_8_code
def yX1_cellsOf : MethodName := ⟨RX1, "cellsOf", "(I)I"⟩
abbrev cX1_greyCells : ByteArray := prog_3_method_9_code
def yX1_greyCells : MethodName := ⟨RX1, "greyCells", "()I"⟩
abbrev cX1_allJam : ByteArray := prog_3_method_10_code
def yX1_allJam : MethodName := ⟨RX1, "allJam", "()I"⟩
abbrev cX1_kindOf : ByteArray := prog_3_method_11_code
def yX1_kindOf : MethodName := ⟨RX1, "kindOf", "(I)LDarkShares$Plain;"⟩
abbrev cX1_worthTo : ByteArray := prog_3_method_12_code
def yX1_worthTo : MethodName := ⟨RX1, "worthTo", "(II)I"⟩
abbrev cX1_ownWorth : ByteArray := prog_3_method_13_code
def yX1_ownWorth : MethodName := ⟨RX1, "ownWorth", "(I)I"⟩
abbrev cX1_haveEnough : ByteArray := prog_3_method_14_code
def yX1_haveEnough : MethodName := ⟨RX1, "haveEnough", "()I"⟩
abbrev cX1_enviedBy : ByteArray := prog_3_method_15_code
def yX1_enviedBy : MethodName := ⟨RX1, "enviedBy", "(I)I"⟩
abbrev cX1_isFair : ByteArray := prog_3_method_16_code
def yX1_isFair : MethodName := ⟨RX1, "isFair", "(II)Z"⟩
abbrev cX1_runFrom : ByteArray := prog_3_method_17_code
def yX1_runFrom : MethodName := ⟨RX1, "runFrom", "(I)I"⟩
abbrev cX1_ofUnlikeBoys : ByteArray := prog_3_method_18_code
def yX1_ofUnlikeBoys : MethodName := ⟨RX1, "ofUnlikeBoys", "(II)Z"⟩
abbrev cX1_changeHands : ByteArray := prog_3_method_19_code
def yX1_changeHands : MethodName := ⟨RX1, "changeHands", "(II)V"⟩
abbrev cX1_bothGain : ByteArray := prog_3_method_20_code
def yX1_bothGain : MethodName := ⟨RX1, "bothGain", "(II)Z"⟩
abbrev cX1_gains : ByteArray := prog_3_method_21_code
def yX1_gains : MethodName := ⟨RX1, "gains", "(II)Z"⟩
abbrev cX1_howManySwaps : ByteArray := prog_3_method_22_code
def yX1_howManySwaps : MethodName := ⟨RX1, "howManySwaps", "()I"⟩
abbrev cX1_swapAt : ByteArray := prog_3_method_23_code
def yX1_swapAt : MethodName := ⟨RX1, "swapAt", "(I)I"⟩
abbrev cX1_lossOf : ByteArray := prog_3_method_24_code
def yX1_lossOf : MethodName := ⟨RX1, "lossOf", "(I)I"⟩
abbrev cX1_saleBrings : ByteArray := prog_3_method_25_code
def yX1_saleBrings : MethodName := ⟨RX1, "saleBrings", "(II)I"⟩
abbrev cX1_bestBuyer : ByteArray := prog_3_method_26_code
def yX1_bestBuyer : MethodName := ⟨RX1, "bestBuyer", "(I)I"⟩
abbrev cX1_fittingKinds : ByteArray := prog_3_method_27_code
def yX1_fittingKinds : MethodName := ⟨RX1, "fittingKinds", "(I)I"⟩
abbrev cX1_fitsAll : ByteArray := prog_3_method_28_code
def yX1_fitsAll : MethodName := ⟨RX1, "fitsAll", "(ILDarkShares$Plain;)Z"⟩
abbrev cX1_tellingCell : ByteArray := prog_3_method_29_code
def yX1_tellingCell : MethodName := ⟨RX1, "tellingCell", "(I)I"⟩
abbrev cX1_mostAlike : ByteArray := prog_3_method_30_code
def yX1_mostAlike : MethodName := ⟨RX1, "mostAlike", "(II)I"⟩
abbrev cX1_howManyAs : ByteArray := prog_3_method_31_code
def yX1_howManyAs : MethodName := ⟨RX1, "howManyAs", "(III)I"⟩
abbrev cX1_robbedBy : ByteArray := prog_3_method_32_code
def yX1_robbedBy : MethodName := ⟨RX1, "robbedBy", "(II)I"⟩
abbrev cX1_tenfoldMean : ByteArray := prog_3_method_33_code
def yX1_tenfoldMean : MethodName := ⟨RX1, "tenfoldMean", "(II)I"⟩
abbrev cX1_mixInto : ByteArray := prog_3_method_34_code
def yX1_mixInto : MethodName := ⟨RX1, "mixInto", "(J)J"⟩
def RX2 : String := "DarkShares$Pieces"
def TX2 : u_T := fun k => match k with
  | 0 => ("DarkShares$Pieces", "order", "[I", true)
  | 1 => ("DarkShares$Pieces", "first", "[I", true)
  | _ => ("DarkShares$Pieces", "fewest", "I", false)
def tyX2 : Nat → FieldType := fun k => match k with
  | 0 => .array .int
  | 1 => .array .int
  | _ => .int
theorem nmX2 : ∀ a, a < 3 → ∀ b, b < 3 → a ≠ b → (TX2 a).2.1 ≠ (TX2 b).2.1 := by decide +kernel
theorem tyX2_ok : ∀ k, k < 3 → parseFieldDescriptor (TX2 k).2.2.1 = some (tyX2 k) := by decide +kernel
abbrev cX2_init : ByteArray := prog_4_method_1_code
def yX2_init : MethodName := ⟨RX2, "<init>", "()V"⟩
abbrev cX2_search : ByteArray := prog_4_method_2_code
def yX2_search : MethodName := ⟨RX2, "search", "(LDarkShares$Pieces;LDarkShares$Night;III)V"⟩
abbrev cX2_keepIfFewer : ByteArray := prog_4_method_3_code
def yX2_keepIfFewer : MethodName := ⟨RX2, "keepIfFewer", "(I)V"⟩
abbrev cX2_endOfPiece : ByteArray := prog_4_method_4_code
def yX2_endOfPiece : MethodName := ⟨RX2, "endOfPiece", "(LDarkShares$Night;II)I"⟩
def RX3 : String := "DarkShares$Plain"
def TX3 : u_T := fun k => match k with
  | _ => ("", "", "", false)
def tyX3 : Nat → FieldType := fun k => match k with
  | _ => .int
theorem nmX3 : ∀ a, a < 0 → ∀ b, b < 0 → a ≠ b → (TX3 a).2.1 ≠ (TX3 b).2.1 := by decide +kernel
theorem tyX3_ok : ∀ k, k < 0 → parseFieldDescriptor (TX3 k).2.2.1 = some (tyX3 k) := by decide +kernel
abbrev cX3_init : ByteArray := prog_5_method_1_code
def yX3_init : MethodName := ⟨RX3, "<init>", "()V"⟩
abbrev cX3_ofCell : ByteArray := prog_5_method_2_code
def yX3_ofCell : MethodName := ⟨RX3, "ofCell", "(IZ)I"⟩
def RX4 : String := "DarkShares$Prefect"
def TX4 : u_T := fun k => match k with
  | _ => ("", "", "", false)
def tyX4 : Nat → FieldType := fun k => match k with
  | _ => .int
theorem nmX4 : ∀ a, a < 0 → ∀ b, b < 0 → a ≠ b → (TX4 a).2.1 ≠ (TX4 b).2.1 := by decide +kernel
theorem tyX4_ok : ∀ k, k < 0 → parseFieldDescriptor (TX4 k).2.2.1 = some (tyX4 k) := by decide +kernel
abbrev cX4_init : ByteArray := prog_6_method_1_code
def yX4_init : MethodName := ⟨RX4, "<init>", "()V"⟩
abbrev cX4_ofCell : ByteArray := prog_6_method_2_code
def yX4_ofCell : MethodName := ⟨RX4, "ofCell", "(IZ)I"⟩
def RX5 : String := "DarkShares$Saver"
def TX5 : u_T := fun k => match k with
  | _ => ("", "", "", false)
def tyX5 : Nat → FieldType := fun k => match k with
  | _ => .int
theorem nmX5 : ∀ a, a < 0 → ∀ b, b < 0 → a ≠ b → (TX5 a).2.1 ≠ (TX5 b).2.1 := by decide +kernel
theorem tyX5_ok : ∀ k, k < 0 → parseFieldDescriptor (TX5 k).2.2.1 = some (tyX5 k) := by decide +kernel
abbrev cX5_init : ByteArray := prog_7_method_1_code
def yX5_init : MethodName := ⟨RX5, "<init>", "()V"⟩
abbrev cX5_ofCell : ByteArray := prog_7_method_2_code
def yX5_ofCell : MethodName := ⟨RX5, "ofCell", "(IZ)I"⟩
def RX6 : String := "DarkShares$Sleeper"
def TX6 : u_T := fun k => match k with
  | _ => ("", "", "", false)
def tyX6 : Nat → FieldType := fun k => match k with
  | _ => .int
theorem nmX6 : ∀ a, a < 0 → ∀ b, b < 0 → a ≠ b → (TX6 a).2.1 ≠ (TX6 b).2.1 := by decide +kernel
theorem tyX6_ok : ∀ k, k < 0 → parseFieldDescriptor (TX6 k).2.2.1 = some (tyX6 k) := by decide +kernel
abbrev cX6_init : ByteArray := prog_8_method_1_code
def yX6_init : MethodName := ⟨RX6, "<init>", "()V"⟩
abbrev cX6_ofCell : ByteArray := prog_8_method_2_code
def yX6_ofCell : MethodName := ⟨RX6, "ofCell", "(IZ)I"⟩
def RX7 : String := "DarkShares$Small"
def TX7 : u_T := fun k => match k with
  | _ => ("", "", "", false)
def tyX7 : Nat → FieldType := fun k => match k with
  | _ => .int
theorem nmX7 : ∀ a, a < 0 → ∀ b, b < 0 → a ≠ b → (TX7 a).2.1 ≠ (TX7 b).2.1 := by decide +kernel
theorem tyX7_ok : ∀ k, k < 0 → parseFieldDescriptor (TX7 k).2.2.1 = some (tyX7 k) := by decide +kernel
abbrev cX7_init : ByteArray := prog_9_method_1_code
def yX7_init : MethodName := ⟨RX7, "<init>", "()V"⟩
abbrev cX7_ofCell : ByteArray := prog_9_method_2_code
def yX7_ofCell : MethodName := ⟨RX7, "ofCell", "(IZ)I"⟩
def RX8 : String := "DarkShares$Text"
def TX8 : u_T := fun k => match k with
  | 0 => ("DarkShares$Text", "bytes", "[B", true)
  | 1 => ("DarkShares$Text", "length", "I", false)
  | 2 => ("DarkShares$Text", "at", "I", false)
  | 3 => ("DarkShares$Text", "token", "I", false)
  | 4 => ("DarkShares$Text", "start", "I", false)
  | _ => ("DarkShares$Text", "items", "I", false)
def tyX8 : Nat → FieldType := fun k => match k with
  | 0 => .array .byte
  | 1 => .int
  | 2 => .int
  | 3 => .int
  | 4 => .int
  | _ => .int
theorem nmX8 : ∀ a, a < 6 → ∀ b, b < 6 → a ≠ b → (TX8 a).2.1 ≠ (TX8 b).2.1 := by decide +kernel
theorem tyX8_ok : ∀ k, k < 6 → parseFieldDescriptor (TX8 k).2.2.1 = some (tyX8 k) := by decide +kernel
abbrev cX8_init : ByteArray := prog_10_method_1_code
def yX8_init : MethodName := ⟨RX8, "<init>", "()V"⟩
abbrev cX8_put : ByteArray := prog_10_method_2_code
def yX8_put : MethodName := ⟨RX8, "put", "(B)I"⟩
abbrev cX8_tell : ByteArray := prog_10_method_3_code
def yX8_tell : MethodName := ⟨RX8, "tell", "(LDarkShares$Night;)I"⟩
abbrev cX8_item : ByteArray := prog_10_method_4_code
def yX8_item : MethodName := ⟨RX8, "item", "(LDarkShares$Night;)Z"⟩
abbrev cX8_boyItem : ByteArray := prog_10_method_5_code
def yX8_boyItem : MethodName := ⟨RX8, "boyItem", "(LDarkShares$Night;)Z"⟩
abbrev cX8_cellsItem : ByteArray := prog_10_method_6_code
def yX8_cellsItem : MethodName := ⟨RX8, "cellsItem", "(LDarkShares$Night;)Z"⟩
abbrev cX8_stops : ByteArray := prog_10_method_7_code
def yX8_stops : MethodName := ⟨RX8, "stops", "()Z"⟩
abbrev cX8_number : ByteArray := prog_10_method_8_code
def yX8_number : MethodName := ⟨RX8, "number", "(I)I"⟩
abbrev cX8_isWord : ByteArray := prog_10_method_9_code
def yX8_isWord : MethodName := ⟨RX8, "isWord", "(Ljava/lang/String;)Z"⟩
abbrev cX8_next : ByteArray := prog_10_method_10_code
def yX8_next : MethodName := ⟨RX8, "next", "()V"⟩
abbrev cX8_tokenAt : ByteArray := prog_10_method_11_code
def yX8_tokenAt : MethodName := ⟨RX8, "tokenAt", "()I"⟩
abbrev cX8_isLetter : ByteArray := prog_10_method_12_code
def yX8_isLetter : MethodName := ⟨RX8, "isLetter", "(B)Z"⟩
abbrev cX8_isFigure : ByteArray := prog_10_method_13_code
def yX8_isFigure : MethodName := ⟨RX8, "isFigure", "(B)Z"⟩
def RX9 : String := "DarkShares"
def TX9 : u_T := fun k => match k with
  | 0 => ("DarkShares", "now", "LDarkShares$Night;", true)
  | 1 => ("DarkShares", "trial", "LDarkShares$Night;", true)
  | 2 => ("DarkShares", "images", "[LDarkShares$Night;", true)
  | 3 => ("DarkShares", "kept", "[Z", true)
  | 4 => ("DarkShares", "rows", "LDarkShares$Pieces;", true)
  | 5 => ("DarkShares", "text", "LDarkShares$Text;", true)
  | 6 => ("DarkShares", "above", "J", false)
  | 7 => ("DarkShares", "below", "J", false)
  | 8 => ("DarkShares", "bads", "I", false)
  | 9 => ("DarkShares", "noes", "I", false)
  | _ => ("DarkShares", "fulls", "I", false)
def tyX9 : Nat → FieldType := fun k => match k with
  | 0 => .object "DarkShares$Night"
  | 1 => .object "DarkShares$Night"
  | 2 => .array (.object "DarkShares$Night")
  | 3 => .array .boolean
  | 4 => .object "DarkShares$Pieces"
  | 5 => .object "DarkShares$Text"
  | 6 => .long
  | 7 => .long
  | 8 => .int
  | 9 => .int
  | _ => .int
theorem nmX9 : ∀ a, a < 11 → ∀ b, b < 11 → a ≠ b → (TX9 a).2.1 ≠ (TX9 b).2.1 := by decide +kernel
theorem tyX9_ok : ∀ k, k < 11 → parseFieldDescriptor (TX9 k).2.2.1 = some (tyX9 k) := by decide +kernel
abbrev cX9_init : ByteArray := prog_1_method_1_code
def yX9_init : MethodName := ⟨RX9, "<init>", "()V"⟩
abbrev cX9_night : ByteArray := prog_1_method_2_code
def yX9_night : MethodName := ⟨RX9, "night", "()I"⟩
abbrev cX9_boy : ByteArray := prog_1_method_3_code
def yX9_boy : MethodName := ⟨RX9, "boy", "(III)I"⟩
abbrev cX9_give : ByteArray := prog_1_method_4_code
def yX9_give : MethodName := ⟨RX9, "give", "(II)I"⟩
abbrev cX9_type : ByteArray := prog_1_method_5_code
def yX9_type : MethodName := ⟨RX9, "type", "(I)I"⟩
abbrev cX9_clear : ByteArray := prog_1_method_6_code
def yX9_clear : MethodName := ⟨RX9, "clear", "()I"⟩
abbrev cX9_read : ByteArray := prog_1_method_7_code
def yX9_read : MethodName := ⟨RX9, "read", "()I"⟩
abbrev cX9_swap : ByteArray := prog_1_method_8_code
def yX9_swap : MethodName := ⟨RX9, "swap", "(II)I"⟩
abbrev cX9_sell : ByteArray := prog_1_method_9_code
def yX9_sell : MethodName := ⟨RX9, "sell", "(III)I"⟩
abbrev cX9_undo : ByteArray := prog_1_method_10_code
def yX9_undo : MethodName := ⟨RX9, "undo", "()I"⟩
abbrev cX9_of : ByteArray := prog_1_method_11_code
def yX9_of : MethodName := ⟨RX9, "of", "(II)I"⟩
abbrev cX9_worth : ByteArray := prog_1_method_12_code
def yX9_worth : MethodName := ⟨RX9, "worth", "(II)I"⟩
abbrev cX9_whose : ByteArray := prog_1_method_13_code
def yX9_whose : MethodName := ⟨RX9, "whose", "(I)I"⟩
abbrev cX9_enough : ByteArray := prog_1_method_14_code
def yX9_enough : MethodName := ⟨RX9, "enough", "()I"⟩
abbrev cX9_envy : ByteArray := prog_1_method_15_code
def yX9_envy : MethodName := ⟨RX9, "envy", "(I)I"⟩
abbrev cX9_fair : ByteArray := prog_1_method_16_code
def yX9_fair : MethodName := ⟨RX9, "fair", "(I)I"⟩
abbrev cX9_pieces : ByteArray := prog_1_method_17_code
def yX9_pieces : MethodName := ⟨RX9, "pieces", "(I)I"⟩
abbrev cX9_swaps : ByteArray := prog_1_method_18_code
def yX9_swaps : MethodName := ⟨RX9, "swaps", "(I)I"⟩
abbrev cX9_steps : ByteArray := prog_1_method_19_code
def yX9_steps : MethodName := ⟨RX9, "steps", "()I"⟩
abbrev cX9_sale : ByteArray := prog_1_method_20_code
def yX9_sale : MethodName := ⟨RX9, "sale", "(II)I"⟩
abbrev cX9_longest : ByteArray := prog_1_method_21_code
def yX9_longest : MethodName := ⟨RX9, "longest", "(I)I"⟩
abbrev cX9_together : ByteArray := prog_1_method_22_code
def yX9_together : MethodName := ⟨RX9, "together", "(II)I"⟩
abbrev cX9_note : ByteArray := prog_1_method_23_code
def yX9_note : MethodName := ⟨RX9, "note", "(IIII)I"⟩
abbrev cX9_forget : ByteArray := prog_1_method_24_code
def yX9_forget : MethodName := ⟨RX9, "forget", "()I"⟩
abbrev cX9_is : ByteArray := prog_1_method_25_code
def yX9_is : MethodName := ⟨RX9, "is", "(I)I"⟩
abbrev cX9_asks : ByteArray := prog_1_method_26_code
def yX9_asks : MethodName := ⟨RX9, "asks", "(I)I"⟩
abbrev cX9_took : ByteArray := prog_1_method_27_code
def yX9_took : MethodName := ⟨RX9, "took", "(II)I"⟩
abbrev cX9_owls : ByteArray := prog_1_method_28_code
def yX9_owls : MethodName := ⟨RX9, "owls", "(II)I"⟩
abbrev cX9_terms : ByteArray := prog_1_method_29_code
def yX9_terms : MethodName := ⟨RX9, "terms", "(II)I"⟩
abbrev cX9_part : ByteArray := prog_1_method_30_code
def yX9_part : MethodName := ⟨RX9, "part", "(I)J"⟩
abbrev cX9_image : ByteArray := prog_1_method_31_code
def yX9_image : MethodName := ⟨RX9, "image", "(I)I"⟩
abbrev cX9_from : ByteArray := prog_1_method_32_code
def yX9_from : MethodName := ⟨RX9, "from", "(I)I"⟩
abbrev cX9_status : ByteArray := prog_1_method_33_code
def yX9_status : MethodName := ⟨RX9, "status", "(I)I"⟩
abbrev cX9_count : ByteArray := prog_1_method_34_code
def yX9_count : MethodName := ⟨RX9, "count", "(I)I"⟩
abbrev cX9_digest : ByteArray := prog_1_method_35_code
def yX9_digest : MethodName := ⟨RX9, "digest", "()J"⟩
abbrev cX9_bad : ByteArray := prog_1_method_36_code
def yX9_bad : MethodName := ⟨RX9, "bad", "()I"⟩
abbrev cX9_otherBad : ByteArray := prog_1_method_37_code
def yX9_otherBad : MethodName := ⟨RX9, "otherBad", "()I"⟩
abbrev cX9_no : ByteArray := prog_1_method_38_code
def yX9_no : MethodName := ⟨RX9, "no", "()I"⟩
abbrev cX9_full : ByteArray := prog_1_method_39_code
def yX9_full : MethodName := ⟨RX9, "full", "()I"⟩
abbrev cX9_isBoy : ByteArray := prog_1_method_40_code
def yX9_isBoy : MethodName := ⟨RX9, "isBoy", "(I)Z"⟩
abbrev cX9_isCell : ByteArray := prog_1_method_41_code
def yX9_isCell : MethodName := ⟨RX9, "isCell", "(I)Z"⟩
abbrev cX9_within : ByteArray := prog_1_method_42_code
def yX9_within : MethodName := ⟨RX9, "within", "(II)Z"⟩
abbrev cX9_has : ByteArray := prog_1_method_43_code
def yX9_has : MethodName := ⟨RX9, "has", "(II)Z"⟩
abbrev cX9_isMiddle : ByteArray := prog_1_method_44_code
def yX9_isMiddle : MethodName := ⟨RX9, "isMiddle", "(I)Z"⟩
abbrev cX9_drawn : ByteArray := prog_1_method_45_code
def yX9_drawn : MethodName := ⟨RX9, "drawn", "(J)J"⟩
abbrev cX9_cellBy : ByteArray := prog_1_method_46_code
def yX9_cellBy : MethodName := ⟨RX9, "cellBy", "(J)I"⟩
abbrev cX9_setFraction : ByteArray := prog_1_method_47_code
def yX9_setFraction : MethodName := ⟨RX9, "setFraction", "(II)V"⟩
abbrev cX9_commonDivisor : ByteArray := prog_1_method_48_code
def yX9_commonDivisor : MethodName := ⟨RX9, "commonDivisor", "(II)I"⟩
def RX10 : String := "DarkSharesModel"
def TX10 : u_T := fun k => match k with
  | 0 => ("DarkSharesModel", "refused", "[I", true)
  | 1 => ("DarkSharesModel", "many", "I", false)
  | 2 => ("DarkSharesModel", "noteMany", "I", false)
  | 3 => ("DarkSharesModel", "kinds", "[I", true)
  | 4 => ("DarkSharesModel", "needs", "[I", true)
  | 5 => ("DarkSharesModel", "jams", "[I", true)
  | 6 => ("DarkSharesModel", "owners", "[I", true)
  | 7 => ("DarkSharesModel", "noteBoy", "[I", true)
  | 8 => ("DarkSharesModel", "noteCell", "[I", true)
  | 9 => ("DarkSharesModel", "noteValue", "[I", true)
  | 10 => ("DarkSharesModel", "noteAhead", "[I", true)
  | 11 => ("DarkSharesModel", "text", "[I", true)
  | 12 => ("DarkSharesModel", "typed", "I", false)
  | 13 => ("DarkSharesModel", "readAt", "I", false)
  | 14 => ("DarkSharesModel", "readMany", "I", false)
  | 15 => ("DarkSharesModel", "readBoys", "[I", true)
  | 16 => ("DarkSharesModel", "readOwners", "[I", true)
  | 17 => ("DarkSharesModel", "readNumber", "I", false)
  | 18 => ("DarkSharesModel", "ahead", "[I", true)
  | 19 => ("DarkSharesModel", "undoMany", "I", false)
  | 20 => ("DarkSharesModel", "line", "[I", true)
  | 21 => ("DarkSharesModel", "bestLine", "[I", true)
  | 22 => ("DarkSharesModel", "aside", "[I", true)
  | 23 => ("DarkSharesModel", "above", "J", false)
  | 24 => ("DarkSharesModel", "below", "J", false)
  | 25 => ("DarkSharesModel", "images", "[I", true)
  | 26 => ("DarkSharesModel", "isKept", "[I", true)
  | _ => ("DarkSharesModel", "h0", "J", false)
def tyX10 : Nat → FieldType := fun k => match k with
  | 0 => .array .int
  | 1 => .int
  | 2 => .int
  | 3 => .array .int
  | 4 => .array .int
  | 5 => .array .int
  | 6 => .array .int
  | 7 => .array .int
  | 8 => .array .int
  | 9 => .array .int
  | 10 => .array .int
  | 11 => .array .int
  | 12 => .int
  | 13 => .int
  | 14 => .int
  | 15 => .array .int
  | 16 => .array .int
  | 17 => .int
  | 18 => .array .int
  | 19 => .int
  | 20 => .array .int
  | 21 => .array .int
  | 22 => .array .int
  | 23 => .long
  | 24 => .long
  | 25 => .array .int
  | 26 => .array .int
  | _ => .long
theorem nmX10 : ∀ a, a < 28 → ∀ b, b < 28 → a ≠ b → (TX10 a).2.1 ≠ (TX10 b).2.1 := by decide +kernel
theorem tyX10_ok : ∀ k, k < 28 → parseFieldDescriptor (TX10 k).2.2.1 = some (tyX10 k) := by decide +kernel
abbrev cX10_bad : ByteArray := prog_12_method_1_code
def yX10_bad : MethodName := ⟨RX10, "bad", "()I"⟩
abbrev cX10_ten : ByteArray := prog_12_method_2_code
def yX10_ten : MethodName := ⟨RX10, "ten", "()I"⟩
abbrev cX10_no : ByteArray := prog_12_method_3_code
def yX10_no : MethodName := ⟨RX10, "no", "()I"⟩
abbrev cX10_full : ByteArray := prog_12_method_4_code
def yX10_full : MethodName := ⟨RX10, "full", "()I"⟩
abbrev cX10_in : ByteArray := prog_12_method_5_code
def yX10_in : MethodName := ⟨RX10, "in", "(III)Z"⟩
abbrev cX10_has : ByteArray := prog_12_method_6_code
def yX10_has : MethodName := ⟨RX10, "has", "(II)Z"⟩
abbrev cX10_bits : ByteArray := prog_12_method_7_code
def yX10_bits : MethodName := ⟨RX10, "bits", "(I)I"⟩
abbrev cX10_init : ByteArray := prog_12_method_8_code
def yX10_init : MethodName := ⟨RX10, "<init>", "()V"⟩
abbrev cX10_begin : ByteArray := prog_12_method_9_code
def yX10_begin : MethodName := ⟨RX10, "begin", "()V"⟩
abbrev cX10_isBoy : ByteArray := prog_12_method_10_code
def yX10_isBoy : MethodName := ⟨RX10, "isBoy", "(I)Z"⟩
abbrev cX10_isCell : ByteArray := prog_12_method_11_code
def yX10_isCell : MethodName := ⟨RX10, "isCell", "(I)Z"⟩
abbrev cX10_night : ByteArray := prog_12_method_12_code
def yX10_night : MethodName := ⟨RX10, "night", "()I"⟩
abbrev cX10_addBoy : ByteArray := prog_12_method_13_code
def yX10_addBoy : MethodName := ⟨RX10, "addBoy", "(III)I"⟩
abbrev cX10_boy : ByteArray := prog_12_method_14_code
def yX10_boy : MethodName := ⟨RX10, "boy", "(III)I"⟩
abbrev cX10_type : ByteArray := prog_12_method_15_code
def yX10_type : MethodName := ⟨RX10, "type", "(I)I"⟩
abbrev cX10_clear : ByteArray := prog_12_method_16_code
def yX10_clear : MethodName := ⟨RX10, "clear", "()I"⟩
abbrev cX10_here : ByteArray := prog_12_method_17_code
def yX10_here : MethodName := ⟨RX10, "here", "()I"⟩
abbrev cX10_skip : ByteArray := prog_12_method_18_code
def yX10_skip : MethodName := ⟨RX10, "skip", "()V"⟩
abbrev cX10_isLetter : ByteArray := prog_12_method_19_code
def yX10_isLetter : MethodName := ⟨RX10, "isLetter", "(I)Z"⟩
abbrev cX10_isFigure : ByteArray := prog_12_method_20_code
def yX10_isFigure : MethodName := ⟨RX10, "isFigure", "(I)Z"⟩
abbrev cX10_wordSize : ByteArray := prog_12_method_21_code
def yX10_wordSize : MethodName := ⟨RX10, "wordSize", "()I"⟩
abbrev cX10_letter : ByteArray := prog_12_method_22_code
def yX10_letter : MethodName := ⟨RX10, "letter", "(I)I"⟩
abbrev cX10_wordHere : ByteArray := prog_12_method_23_code
def yX10_wordHere : MethodName := ⟨RX10, "wordHere", "()I"⟩
abbrev cX10_number : ByteArray := prog_12_method_24_code
def yX10_number : MethodName := ⟨RX10, "number", "(II)Z"⟩
abbrev cX10_ends : ByteArray := prog_12_method_25_code
def yX10_ends : MethodName := ⟨RX10, "ends", "()Z"⟩
abbrev cX10_readsBoy : ByteArray := prog_12_method_26_code
def yX10_readsBoy : MethodName := ⟨RX10, "readsBoy", "()Z"⟩
abbrev cX10_readsCells : ByteArray := prog_12_method_27_code
def yX10_readsCells : MethodName := ⟨RX10, "readsCells", "()Z"⟩
abbrev cX10_readsItem : ByteArray := prog_12_method_28_code
def yX10_readsItem : MethodName := ⟨RX10, "readsItem", "()Z"⟩
abbrev cX10_readsNight : ByteArray := prog_12_method_29_code
def yX10_readsNight : MethodName := ⟨RX10, "readsNight", "()I"⟩
abbrev cX10_read : ByteArray := prog_12_method_30_code
def yX10_read : MethodName := ⟨RX10, "read", "()I"⟩
abbrev cX10_valueBy : ByteArray := prog_12_method_31_code
def yX10_valueBy : MethodName := ⟨RX10, "valueBy", "(IIZ)I"⟩
abbrev cX10_valueIn : ByteArray := prog_12_method_32_code
def yX10_valueIn : MethodName := ⟨RX10, "valueIn", "(III)I"⟩
abbrev cX10_worthOf : ByteArray := prog_12_method_33_code
def yX10_worthOf : MethodName := ⟨RX10, "worthOf", "(II)I"⟩
abbrev cX10_setOf : ByteArray := prog_12_method_34_code
def yX10_setOf : MethodName := ⟨RX10, "setOf", "(I)I"⟩
abbrev cX10_ownWorth : ByteArray := prog_12_method_35_code
def yX10_ownWorth : MethodName := ⟨RX10, "ownWorth", "(I)I"⟩
abbrev cX10_notes : ByteArray := prog_12_method_36_code
def yX10_notes : MethodName := ⟨RX10, "notes", "()V"⟩
abbrev cX10_give : ByteArray := prog_12_method_37_code
def yX10_give : MethodName := ⟨RX10, "give", "(II)I"⟩
abbrev cX10_changes : ByteArray := prog_12_method_38_code
def yX10_changes : MethodName := ⟨RX10, "changes", "(II)V"⟩
abbrev cX10_swap : ByteArray := prog_12_method_39_code
def yX10_swap : MethodName := ⟨RX10, "swap", "(II)I"⟩
abbrev cX10_sell : ByteArray := prog_12_method_40_code
def yX10_sell : MethodName := ⟨RX10, "sell", "(III)I"⟩
abbrev cX10_greyMany : ByteArray := prog_12_method_41_code
def yX10_greyMany : MethodName := ⟨RX10, "greyMany", "()I"⟩
abbrev cX10_undo : ByteArray := prog_12_method_42_code
def yX10_undo : MethodName := ⟨RX10, "undo", "()I"⟩
abbrev cX10_of : ByteArray := prog_12_method_43_code
def yX10_of : MethodName := ⟨RX10, "of", "(II)I"⟩
abbrev cX10_worth : ByteArray := prog_12_method_44_code
def yX10_worth : MethodName := ⟨RX10, "worth", "(II)I"⟩
abbrev cX10_whose : ByteArray := prog_12_method_45_code
def yX10_whose : MethodName := ⟨RX10, "whose", "(I)I"⟩
abbrev cX10_enough : ByteArray := prog_12_method_46_code
def yX10_enough : MethodName := ⟨RX10, "enough", "()I"⟩
abbrev cX10_envy : ByteArray := prog_12_method_47_code
def yX10_envy : MethodName := ⟨RX10, "envy", "(I)I"⟩
abbrev cX10_isFair : ByteArray := prog_12_method_48_code
def yX10_isFair : MethodName := ⟨RX10, "isFair", "(II)Z"⟩
abbrev cX10_fair : ByteArray := prog_12_method_49_code
def yX10_fair : MethodName := ⟨RX10, "fair", "(I)I"⟩
abbrev cX10_pieceEnd : ByteArray := prog_12_method_50_code
def yX10_pieceEnd : MethodName := ⟨RX10, "pieceEnd", "(II)I"⟩
abbrev cX10_takenBy : ByteArray := prog_12_method_51_code
def yX10_takenBy : MethodName := ⟨RX10, "takenBy", "()I"⟩
abbrev cX10_nextLine : ByteArray := prog_12_method_52_code
def yX10_nextLine : MethodName := ⟨RX10, "nextLine", "()Z"⟩
abbrev cX10_pieces : ByteArray := prog_12_method_53_code
def yX10_pieces : MethodName := ⟨RX10, "pieces", "(I)I"⟩
abbrev cX10_isSwap : ByteArray := prog_12_method_54_code
def yX10_isSwap : MethodName := ⟨RX10, "isSwap", "(II)Z"⟩
abbrev cX10_swaps : ByteArray := prog_12_method_55_code
def yX10_swaps : MethodName := ⟨RX10, "swaps", "(I)I"⟩
abbrev cX10_puts : ByteArray := prog_12_method_56_code
def yX10_puts : MethodName := ⟨RX10, "puts", "()V"⟩
abbrev cX10_back : ByteArray := prog_12_method_57_code
def yX10_back : MethodName := ⟨RX10, "back", "()V"⟩
abbrev cX10_firstSwap : ByteArray := prog_12_method_58_code
def yX10_firstSwap : MethodName := ⟨RX10, "firstSwap", "()I"⟩
abbrev cX10_steps : ByteArray := prog_12_method_59_code
def yX10_steps : MethodName := ⟨RX10, "steps", "()I"⟩
abbrev cX10_sale : ByteArray := prog_12_method_60_code
def yX10_sale : MethodName := ⟨RX10, "sale", "(II)I"⟩
abbrev cX10_longest : ByteArray := prog_12_method_61_code
def yX10_longest : MethodName := ⟨RX10, "longest", "(I)I"⟩
abbrev cX10_together : ByteArray := prog_12_method_62_code
def yX10_together : MethodName := ⟨RX10, "together", "(II)I"⟩
abbrev cX10_note : ByteArray := prog_12_method_63_code
def yX10_note : MethodName := ⟨RX10, "note", "(IIII)I"⟩
abbrev cX10_forget : ByteArray := prog_12_method_64_code
def yX10_forget : MethodName := ⟨RX10, "forget", "()I"⟩
abbrev cX10_kindsOf : ByteArray := prog_12_method_65_code
def yX10_kindsOf : MethodName := ⟨RX10, "kindsOf", "(I)I"⟩
abbrev cX10_is : ByteArray := prog_12_method_66_code
def yX10_is : MethodName := ⟨RX10, "is", "(I)I"⟩
abbrev cX10_alike : ByteArray := prog_12_method_67_code
def yX10_alike : MethodName := ⟨RX10, "alike", "(II)I"⟩
abbrev cX10_asks : ByteArray := prog_12_method_68_code
def yX10_asks : MethodName := ⟨RX10, "asks", "(I)I"⟩
abbrev cX10_took : ByteArray := prog_12_method_69_code
def yX10_took : MethodName := ⟨RX10, "took", "(II)I"⟩
abbrev cX10_lay : ByteArray := prog_12_method_70_code
def yX10_lay : MethodName := ⟨RX10, "lay", "(JJ)V"⟩
abbrev cX10_owls : ByteArray := prog_12_method_71_code
def yX10_owls : MethodName := ⟨RX10, "owls", "(II)I"⟩
abbrev cX10_terms : ByteArray := prog_12_method_72_code
def yX10_terms : MethodName := ⟨RX10, "terms", "(II)I"⟩
abbrev cX10_part : ByteArray := prog_12_method_73_code
def yX10_part : MethodName := ⟨RX10, "part", "(I)J"⟩
abbrev cX10_image : ByteArray := prog_12_method_74_code
def yX10_image : MethodName := ⟨RX10, "image", "(I)I"⟩
abbrev cX10_from : ByteArray := prog_12_method_75_code
def yX10_from : MethodName := ⟨RX10, "from", "(I)I"⟩
abbrev cX10_status : ByteArray := prog_12_method_76_code
def yX10_status : MethodName := ⟨RX10, "status", "(I)I"⟩
abbrev cX10_allJam : ByteArray := prog_12_method_77_code
def yX10_allJam : MethodName := ⟨RX10, "allJam", "()I"⟩
abbrev cX10_countOf : ByteArray := prog_12_method_78_code
def yX10_countOf : MethodName := ⟨RX10, "countOf", "(I)I"⟩
abbrev cX10_count : ByteArray := prog_12_method_79_code
def yX10_count : MethodName := ⟨RX10, "count", "(I)I"⟩
abbrev cX10_mix : ByteArray := prog_12_method_80_code
def yX10_mix : MethodName := ⟨RX10, "mix", "(J)V"⟩
abbrev cX10_digest : ByteArray := prog_12_method_81_code
def yX10_digest : MethodName := ⟨RX10, "digest", "()J"⟩
def RJ6 : String := "java/lang/Integer"
abbrev cJ6_bitCount_0f7a4 : ByteArray := prog_13_method_49_code
def yJ6_bitCount_0f7a4 : MethodName := ⟨RJ6, "bitCount", "(I)I"⟩
def RJ9 : String := "java/lang/Math"
abbrev cJ9_max_7cf53 : ByteArray := prog_14_method_65_code
def yJ9_max_7cf53 : MethodName := ⟨RJ9, "max", "(II)I"⟩
def RJ0 : String := "java/lang/String"
abbrev cJ0_length_8abf5 : ByteArray := prog_15_method_54_code
def yJ0_length_8abf5 : MethodName := ⟨RJ0, "length", "()I"⟩
abbrev cJ0_charAt_5068e : ByteArray := prog_15_method_56_code
def yJ0_charAt_5068e : MethodName := ⟨RJ0, "charAt", "(I)C"⟩
abbrev cJ0_coder_7d493 : ByteArray := prog_15_method_152_code
def yJ0_coder_7d493 : MethodName := ⟨RJ0, "coder", "()B"⟩
abbrev cJ0_isLatin1_aae02 : ByteArray := prog_15_method_154_code
def yJ0_isLatin1_aae02 : MethodName := ⟨RJ0, "isLatin1", "()Z"⟩
abbrev cJ0_checkIndex_df160 : ByteArray := prog_15_method_155_code
def yJ0_checkIndex_df160 : MethodName := ⟨RJ0, "checkIndex", "(II)V"⟩
def RJ1 : String := "java/lang/StringLatin1"
abbrev cJ1_charAt_3b067 : ByteArray := prog_16_method_2_code
def yJ1_charAt_3b067 : MethodName := ⟨RJ1, "charAt", "([BI)C"⟩
def RJ2 : String := "java/lang/StringUTF16"
abbrev cJ2_getChar_3b067 : ByteArray := prog_17_method_5_code
def yJ2_getChar_3b067 : MethodName := ⟨RJ2, "getChar", "([BI)C"⟩
abbrev cJ2_length_9d52b : ByteArray := prog_17_method_6_code
def yJ2_length_9d52b : MethodName := ⟨RJ2, "length", "([B)I"⟩
abbrev cJ2_charAt_3b067 : ByteArray := prog_17_method_83_code
def yJ2_charAt_3b067 : MethodName := ⟨RJ2, "charAt", "([BI)C"⟩
abbrev cJ2_checkIndex_2214a : ByteArray := prog_17_method_91_code
def yJ2_checkIndex_2214a : MethodName := ⟨RJ2, "checkIndex", "(I[B)V"⟩
def RJ10 : String := "java/lang/System"
def RJ7 : String := "java/util/Arrays"
abbrev cJ7_fill_53178 : ByteArray := prog_19_method_103_code
def yJ7_fill_53178 : MethodName := ⟨RJ7, "fill", "([II)V"⟩
def RJ3 : String := "jdk/internal/util/Preconditions"
abbrev cJ3_checkIndex_8e157 : ByteArray := prog_20_method_11_code
def yJ3_checkIndex_8e157 : MethodName := ⟨RJ3, "checkIndex", "(IILjava/util/function/BiFunction;)I"⟩
def RL : String := "DarkSharesLaw"
abbrev cL_law : ByteArray := code
def yL_law : MethodName := ⟨RL, "law", "([I)Z"⟩
abbrev vwCl : List vw_C := [(RX0, TX0, 0), (RX1, TX1, 10), (RX2, TX2, 3), (RX3, TX3, 0), (RX4, TX4, 0), (RX5, TX5, 0), (RX6, TX6, 0), (RX7, TX7, 0), (RX8, TX8, 6), (RX9, TX9, 11), (RX10, TX10, 28)]
end
section
theorem dX0_init_0 : decode cX0_init 0 = .ok (.aload_n 0, 1) := by decide +kernel
theorem dX0_init_1 : decode cX0_init 1 = .ok (.invokespecial 1, 3) := by decide +kernel
theorem dX0_init_4 : decode cX0_init 4 = .ok (.return_, 1) := by decide +kernel
theorem dX0_ofCell_0 : decode cX0_ofCell 0 = .ok (.iload_n 1, 1) := by decide +kernel
theorem dX0_ofCell_1 : decode cX0_ofCell 1 = .ok (.invokestatic 7, 3) := by decide +kernel
theorem dX0_ofCell_4 : decode cX0_ofCell 4 = .ok (.ifCond .eq 7, 3) := by decide +kernel
theorem dX0_ofCell_7 : decode cX0_ofCell 7 = .ok (.iconst 0, 1) := by decide +kernel
theorem dX0_ofCell_8 : decode cX0_ofCell 8 = .ok (.goto 9, 3) := by decide +kernel
theorem dX0_ofCell_11 : decode cX0_ofCell 11 = .ok (.aload_n 0, 1) := by decide +kernel
theorem dX0_ofCell_12 : decode cX0_ofCell 12 = .ok (.iload_n 1, 1) := by decide +kernel
theorem dX0_ofCell_13 : decode cX0_ofCell 13 = .ok (.iload_n 2, 1) := by decide +kernel
theorem dX0_ofCell_14 : decode cX0_ofCell 14 = .ok (.invokespecial 13, 3) := by decide +kernel
theorem dX0_ofCell_17 : decode cX0_ofCell 17 = .ok (.ireturn, 1) := by decide +kernel
theorem dX1_init_0 : decode cX1_init 0 = .ok (.aload_n 0, 1) := by decide +kernel
theorem dX1_init_1 : decode cX1_init 1 = .ok (.invokespecial 3, 3) := by decide +kernel
theorem dX1_init_4 : decode cX1_init 4 = .ok (.aload_n 0, 1) := by decide +kernel
theorem dX1_init_5 : decode cX1_init 5 = .ok (.iconst 5, 1) := by decide +kernel
theorem dX1_init_6 : decode cX1_init 6 = .ok (.newarray .int, 2) := by decide +kernel
theorem dX1_init_8 : decode cX1_init 8 = .ok (.putfield 9, 3) := by decide +kernel
theorem dX1_init_11 : decode cX1_init 11 = .ok (.aload_n 0, 1) := by decide +kernel
theorem dX1_init_12 : decode cX1_init 12 = .ok (.iconst 5, 1) := by decide +kernel
theorem dX1_init_13 : decode cX1_init 13 = .ok (.newarray .int, 2) := by decide +kernel
theorem dX1_init_15 : decode cX1_init 15 = .ok (.putfield 15, 3) := by decide +kernel
theorem dX1_init_18 : decode cX1_init 18 = .ok (.aload_n 0, 1) := by decide +kernel
theorem dX1_init_19 : decode cX1_init 19 = .ok (.iconst 5, 1) := by decide +kernel
theorem dX1_init_20 : decode cX1_init 20 = .ok (.newarray .int, 2) := by decide +kernel
theorem dX1_init_22 : decode cX1_init 22 = .ok (.putfield 18, 3) := by decide +kernel
theorem dX1_init_25 : decode cX1_init 25 = .ok (.aload_n 0, 1) := by decide +kernel
theorem dX1_init_26 : decode cX1_init 26 = .ok (.bipush 12, 2) := by decide +kernel
theorem dX1_init_28 : decode cX1_init 28 = .ok (.newarray .int, 2) := by decide +kernel
theorem dX1_init_30 : decode cX1_init 30 = .ok (.putfield 21, 3) := by decide +kernel
theorem dX1_init_33 : decode cX1_init 33 = .ok (.aload_n 0, 1) := by decide +kernel
theorem dX1_init_34 : decode cX1_init 34 = .ok (.bipush 24, 2) := by decide +kernel
theorem dX1_init_36 : decode cX1_init 36 = .ok (.newarray .int, 2) := by decide +kernel
theorem dX1_init_38 : decode cX1_init 38 = .ok (.putfield 24, 3) := by decide +kernel
theorem dX1_init_41 : decode cX1_init 41 = .ok (.aload_n 0, 1) := by decide +kernel
theorem dX1_init_42 : decode cX1_init 42 = .ok (.sipush 136, 3) := by decide +kernel
theorem dX1_init_45 : decode cX1_init 45 = .ok (.newarray .int, 2) := by decide +kernel
theorem dX1_init_47 : decode cX1_init 47 = .ok (.putfield 27, 3) := by decide +kernel
theorem dX1_init_50 : decode cX1_init 50 = .ok (.aload_n 0, 1) := by decide +kernel
theorem dX1_init_51 : decode cX1_init 51 = .ok (.aload_n 1, 1) := by decide +kernel
theorem dX1_init_52 : decode cX1_init 52 = .ok (.putfield 30, 3) := by decide +kernel
theorem dX1_init_55 : decode cX1_init 55 = .ok (.aload_n 0, 1) := by decide +kernel
theorem dX1_init_56 : decode cX1_init 56 = .ok (.getfield 21, 3) := by decide +kernel
theorem dX1_init_59 : decode cX1_init 59 = .ok (.iconst (-1), 1) := by decide +kernel
theorem dX1_init_60 : decode cX1_init 60 = .ok (.invokestatic 34, 3) := by decide +kernel
theorem dX1_init_63 : decode cX1_init 63 = .ok (.return_, 1) := by decide +kernel
theorem dX1_wipe_0 : decode cX1_wipe 0 = .ok (.aload_n 0, 1) := by decide +kernel
theorem dX1_wipe_1 : decode cX1_wipe 1 = .ok (.getfield 21, 3) := by decide +kernel
theorem dX1_wipe_4 : decode cX1_wipe 4 = .ok (.iconst (-1), 1) := by decide +kernel
theorem dX1_wipe_5 : decode cX1_wipe 5 = .ok (.invokestatic 34, 3) := by decide +kernel
theorem dX1_wipe_8 : decode cX1_wipe 8 = .ok (.aload_n 0, 1) := by decide +kernel
theorem dX1_wipe_9 : decode cX1_wipe 9 = .ok (.iconst 0, 1) := by decide +kernel
theorem dX1_wipe_10 : decode cX1_wipe 10 = .ok (.putfield 40, 3) := by decide +kernel
theorem dX1_wipe_13 : decode cX1_wipe 13 = .ok (.aload_n 0, 1) := by decide +kernel
theorem dX1_wipe_14 : decode cX1_wipe 14 = .ok (.iconst 0, 1) := by decide +kernel
theorem dX1_wipe_15 : decode cX1_wipe 15 = .ok (.putfield 44, 3) := by decide +kernel
theorem dX1_wipe_18 : decode cX1_wipe 18 = .ok (.aload_n 0, 1) := by decide +kernel
theorem dX1_wipe_19 : decode cX1_wipe 19 = .ok (.iconst 0, 1) := by decide +kernel
theorem dX1_wipe_20 : decode cX1_wipe 20 = .ok (.putfield 47, 3) := by decide +kernel
theorem dX1_wipe_23 : decode cX1_wipe 23 = .ok (.return_, 1) := by decide +kernel
theorem dX1_becomes_0 : decode cX1_becomes 0 = .ok (.aload_n 1, 1) := by decide +kernel
theorem dX1_becomes_1 : decode cX1_becomes 1 = .ok (.getfield 9, 3) := by decide +kernel
theorem dX1_becomes_4 : decode cX1_becomes 4 = .ok (.iconst 0, 1) := by decide +kernel
theorem dX1_becomes_5 : decode cX1_becomes 5 = .ok (.aload_n 0, 1) := by decide +kernel
theorem dX1_becomes_6 : decode cX1_becomes 6 = .ok (.getfield 9, 3) := by decide +kernel
theorem dX1_becomes_9 : decode cX1_becomes 9 = .ok (.iconst 0, 1) := by decide +kernel
theorem dX1_becomes_10 : decode cX1_becomes 10 = .ok (.iconst 5, 1) := by decide +kernel
theorem dX1_becomes_11 : decode cX1_becomes 11 = .ok (.invokestatic 50, 3) := by decide +kernel
theorem dX1_becomes_14 : decode cX1_becomes 14 = .ok (.aload_n 1, 1) := by decide +kernel
theorem dX1_becomes_15 : decode cX1_becomes 15 = .ok (.getfield 15, 3) := by decide +kernel
theorem dX1_becomes_18 : decode cX1_becomes 18 = .ok (.iconst 0, 1) := by decide +kernel
theorem dX1_becomes_19 : decode cX1_becomes 19 = .ok (.aload_n 0, 1) := by decide +kernel
theorem dX1_becomes_20 : decode cX1_becomes 20 = .ok (.getfield 15, 3) := by decide +kernel
theorem dX1_becomes_23 : decode cX1_becomes 23 = .ok (.iconst 0, 1) := by decide +kernel
theorem dX1_becomes_24 : decode cX1_becomes 24 = .ok (.iconst 5, 1) := by decide +kernel
theorem dX1_becomes_25 : decode cX1_becomes 25 = .ok (.invokestatic 50, 3) := by decide +kernel
theorem dX1_becomes_28 : decode cX1_becomes 28 = .ok (.aload_n 1, 1) := by decide +kernel
theorem dX1_becomes_29 : decode cX1_becomes 29 = .ok (.getfield 18, 3) := by decide +kernel
theorem dX1_becomes_32 : decode cX1_becomes 32 = .ok (.iconst 0, 1) := by decide +kernel
theorem dX1_becomes_33 : decode cX1_becomes 33 = .ok (.aload_n 0, 1) := by decide +kernel
theorem dX1_becomes_34 : decode cX1_becomes 34 = .ok (.getfield 18, 3) := by decide +kernel
theorem dX1_becomes_37 : decode cX1_becomes 37 = .ok (.iconst 0, 1) := by decide +kernel
theorem dX1_becomes_38 : decode cX1_becomes 38 = .ok (.iconst 5, 1) := by decide +kernel
theorem dX1_becomes_39 : decode cX1_becomes 39 = .ok (.invokestatic 50, 3) := by decide +kernel
theorem dX1_becomes_42 : decode cX1_becomes 42 = .ok (.aload_n 1, 1) := by decide +kernel
theorem dX1_becomes_43 : decode cX1_becomes 43 = .ok (.getfield 21, 3) := by decide +kernel
theorem dX1_becomes_46 : decode cX1_becomes 46 = .ok (.iconst 0, 1) := by decide +kernel
theorem dX1_becomes_47 : decode cX1_becomes 47 = .ok (.aload_n 0, 1) := by decide +kernel
theorem dX1_becomes_48 : decode cX1_becomes 48 = .ok (.getfield 21, 3) := by decide +kernel
theorem dX1_becomes_51 : decode cX1_becomes 51 = .ok (.iconst 0, 1) := by decide +kernel
theorem dX1_becomes_52 : decode cX1_becomes 52 = .ok (.bipush 12, 2) := by decide +kernel
theorem dX1_becomes_54 : decode cX1_becomes 54 = .ok (.invokestatic 50, 3) := by decide +kernel
theorem dX1_becomes_57 : decode cX1_becomes 57 = .ok (.aload_n 1, 1) := by decide +kernel
theorem dX1_becomes_58 : decode cX1_becomes 58 = .ok (.getfield 24, 3) := by decide +kernel
theorem dX1_becomes_61 : decode cX1_becomes 61 = .ok (.iconst 0, 1) := by decide +kernel
theorem dX1_becomes_62 : decode cX1_becomes 62 = .ok (.aload_n 0, 1) := by decide +kernel
theorem dX1_becomes_63 : decode cX1_becomes 63 = .ok (.getfield 24, 3) := by decide +kernel
theorem dX1_becomes_66 : decode cX1_becomes 66 = .ok (.iconst 0, 1) := by decide +kernel
theorem dX1_becomes_67 : decode cX1_becomes 67 = .ok (.bipush 24, 2) := by decide +kernel
theorem dX1_becomes_69 : decode cX1_becomes 69 = .ok (.invokestatic 50, 3) := by decide +kernel
theorem dX1_becomes_72 : decode cX1_becomes 72 = .ok (.aload_n 1, 1) := by decide +kernel
theorem dX1_becomes_73 : decode cX1_becomes 73 = .ok (.getfield 27, 3) := by decide +kernel
theorem dX1_becomes_76 : decode cX1_becomes 76 = .ok (.iconst 0, 1) := by decide +kernel
theorem dX1_becomes_77 : decode cX1_becomes 77 = .ok (.aload_n 0, 1) := by decide +kernel
theorem dX1_becomes_78 : decode cX1_becomes 78 = .ok (.getfield 27, 3) := by decide +kernel
theorem dX1_becomes_81 : decode cX1_becomes 81 = .ok (.iconst 0, 1) := by decide +kernel
theorem dX1_becomes_82 : decode cX1_becomes 82 = .ok (.sipush 136, 3) := by decide +kernel
theorem dX1_becomes_85 : decode cX1_becomes 85 = .ok (.invokestatic 50, 3) := by decide +kernel
theorem dX1_becomes_88 : decode cX1_becomes 88 = .ok (.aload_n 0, 1) := by decide +kernel
theorem dX1_becomes_89 : decode cX1_becomes 89 = .ok (.aload_n 1, 1) := by decide +kernel
theorem dX1_becomes_90 : decode cX1_becomes 90 = .ok (.getfield 40, 3) := by decide +kernel
theorem dX1_becomes_93 : decode cX1_becomes 93 = .ok (.putfield 40, 3) := by decide +kernel
theorem dX1_becomes_96 : decode cX1_becomes 96 = .ok (.aload_n 0, 1) := by decide +kernel
theorem dX1_becomes_97 : decode cX1_becomes 97 = .ok (.aload_n 1, 1) := by decide +kernel
theorem dX1_becomes_98 : decode cX1_becomes 98 = .ok (.getfield 44, 3) := by decide +kernel
theorem dX1_becomes_101 : decode cX1_becomes 101 = .ok (.putfield 44, 3) := by decide +kernel
theorem dX1_becomes_104 : decode cX1_becomes 104 = .ok (.aload_n 0, 1) := by decide +kernel
theorem dX1_becomes_105 : decode cX1_becomes 105 = .ok (.aload_n 1, 1) := by decide +kernel
theorem dX1_becomes_106 : decode cX1_becomes 106 = .ok (.getfield 47, 3) := by decide +kernel
theorem dX1_becomes_109 : decode cX1_becomes 109 = .ok (.putfield 47, 3) := by decide +kernel
theorem dX1_becomes_112 : decode cX1_becomes 112 = .ok (.return_, 1) := by decide +kernel
theorem dX1_comes_0 : decode cX1_comes 0 = .ok (.aload_n 0, 1) := by decide +kernel
theorem dX1_comes_1 : decode cX1_comes 1 = .ok (.getfield 40, 3) := by decide +kernel
theorem dX1_comes_4 : decode cX1_comes 4 = .ok (.iconst 5, 1) := by decide +kernel
theorem dX1_comes_5 : decode cX1_comes 5 = .ok (.if_icmp .lt 6, 3) := by decide +kernel
theorem dX1_comes_8 : decode cX1_comes 8 = .ok (.bipush (-4), 2) := by decide +kernel
theorem dX1_comes_10 : decode cX1_comes 10 = .ok (.ireturn, 1) := by decide +kernel
theorem dX1_comes_11 : decode cX1_comes 11 = .ok (.aload_n 0, 1) := by decide +kernel
theorem dX1_comes_12 : decode cX1_comes 12 = .ok (.getfield 9, 3) := by decide +kernel
theorem dX1_comes_15 : decode cX1_comes 15 = .ok (.aload_n 0, 1) := by decide +kernel
theorem dX1_comes_16 : decode cX1_comes 16 = .ok (.getfield 40, 3) := by decide +kernel
theorem dX1_comes_19 : decode cX1_comes 19 = .ok (.iload_n 1, 1) := by decide +kernel
theorem dX1_comes_20 : decode cX1_comes 20 = .ok (.iastore, 1) := by decide +kernel
theorem dX1_comes_21 : decode cX1_comes 21 = .ok (.aload_n 0, 1) := by decide +kernel
theorem dX1_comes_22 : decode cX1_comes 22 = .ok (.getfield 15, 3) := by decide +kernel
theorem dX1_comes_25 : decode cX1_comes 25 = .ok (.aload_n 0, 1) := by decide +kernel
theorem dX1_comes_26 : decode cX1_comes 26 = .ok (.getfield 40, 3) := by decide +kernel
theorem dX1_comes_29 : decode cX1_comes 29 = .ok (.iload_n 2, 1) := by decide +kernel
theorem dX1_comes_30 : decode cX1_comes 30 = .ok (.iastore, 1) := by decide +kernel
theorem dX1_comes_31 : decode cX1_comes 31 = .ok (.aload_n 0, 1) := by decide +kernel
theorem dX1_comes_32 : decode cX1_comes 32 = .ok (.getfield 18, 3) := by decide +kernel
theorem dX1_comes_35 : decode cX1_comes 35 = .ok (.aload_n 0, 1) := by decide +kernel
theorem dX1_comes_36 : decode cX1_comes 36 = .ok (.getfield 40, 3) := by decide +kernel
theorem dX1_comes_39 : decode cX1_comes 39 = .ok (.iload_n 3, 1) := by decide +kernel
theorem dX1_comes_40 : decode cX1_comes 40 = .ok (.iastore, 1) := by decide +kernel
theorem dX1_comes_41 : decode cX1_comes 41 = .ok (.aload_n 0, 1) := by decide +kernel
theorem dX1_comes_42 : decode cX1_comes 42 = .ok (.iconst 0, 1) := by decide +kernel
theorem dX1_comes_43 : decode cX1_comes 43 = .ok (.putfield 47, 3) := by decide +kernel
theorem dX1_comes_46 : decode cX1_comes 46 = .ok (.aload_n 0, 1) := by decide +kernel
theorem dX1_comes_47 : decode cX1_comes 47 = .ok (.dup, 1) := by decide +kernel
theorem dX1_comes_48 : decode cX1_comes 48 = .ok (.getfield 40, 3) := by decide +kernel
theorem dX1_comes_51 : decode cX1_comes 51 = .ok (.iconst 1, 1) := by decide +kernel
theorem dX1_comes_52 : decode cX1_comes 52 = .ok (.iadd, 1) := by decide +kernel
theorem dX1_comes_53 : decode cX1_comes 53 = .ok (.putfield 40, 3) := by decide +kernel
theorem dX1_comes_56 : decode cX1_comes 56 = .ok (.aload_n 0, 1) := by decide +kernel
theorem dX1_comes_57 : decode cX1_comes 57 = .ok (.getfield 40, 3) := by decide +kernel
theorem dX1_comes_60 : decode cX1_comes 60 = .ok (.iconst 1, 1) := by decide +kernel
theorem dX1_comes_61 : decode cX1_comes 61 = .ok (.isub, 1) := by decide +kernel
theorem dX1_comes_62 : decode cX1_comes 62 = .ok (.ireturn, 1) := by decide +kernel
theorem dX1_putDown_0 : decode cX1_putDown 0 = .ok (.aload_n 0, 1) := by decide +kernel
theorem dX1_putDown_1 : decode cX1_putDown 1 = .ok (.getfield 44, 3) := by decide +kernel
theorem dX1_putDown_4 : decode cX1_putDown 4 = .ok (.bipush 6, 2) := by decide +kernel
theorem dX1_putDown_6 : decode cX1_putDown 6 = .ok (.if_icmp .lt 6, 3) := by decide +kernel
theorem dX1_putDown_9 : decode cX1_putDown 9 = .ok (.bipush (-4), 2) := by decide +kernel
theorem dX1_putDown_11 : decode cX1_putDown 11 = .ok (.ireturn, 1) := by decide +kernel
theorem dX1_putDown_12 : decode cX1_putDown 12 = .ok (.aload_n 0, 1) := by decide +kernel
theorem dX1_putDown_13 : decode cX1_putDown 13 = .ok (.getfield 44, 3) := by decide +kernel
theorem dX1_putDown_16 : decode cX1_putDown 16 = .ok (.iconst 4, 1) := by decide +kernel
theorem dX1_putDown_17 : decode cX1_putDown 17 = .ok (.imul, 1) := by decide +kernel
theorem dX1_putDown_18 : decode cX1_putDown 18 = .ok (.istore 5, 2) := by decide +kernel
theorem dX1_putDown_20 : decode cX1_putDown 20 = .ok (.aload_n 0, 1) := by decide +kernel
theorem dX1_putDown_21 : decode cX1_putDown 21 = .ok (.getfield 24, 3) := by decide +kernel
theorem dX1_putDown_24 : decode cX1_putDown 24 = .ok (.iload 5, 2) := by decide +kernel
theorem dX1_putDown_26 : decode cX1_putDown 26 = .ok (.iload_n 1, 1) := by decide +kernel
theorem dX1_putDown_27 : decode cX1_putDown 27 = .ok (.iastore, 1) := by decide +kernel
theorem dX1_putDown_28 : decode cX1_putDown 28 = .ok (.aload_n 0, 1) := by decide +kernel
theorem dX1_putDown_29 : decode cX1_putDown 29 = .ok (.getfield 24, 3) := by decide +kernel
theorem dX1_putDown_32 : decode cX1_putDown 32 = .ok (.iload 5, 2) := by decide +kernel
theorem dX1_putDown_34 : decode cX1_putDown 34 = .ok (.iconst 1, 1) := by decide +kernel
theorem dX1_putDown_35 : decode cX1_putDown 35 = .ok (.iadd, 1) := by decide +kernel
theorem dX1_putDown_36 : decode cX1_putDown 36 = .ok (.iload_n 2, 1) := by decide +kernel
theorem dX1_putDown_37 : decode cX1_putDown 37 = .ok (.iastore, 1) := by decide +kernel
theorem dX1_putDown_38 : decode cX1_putDown 38 = .ok (.aload_n 0, 1) := by decide +kernel
theorem dX1_putDown_39 : decode cX1_putDown 39 = .ok (.getfield 24, 3) := by decide +kernel
theorem dX1_putDown_42 : decode cX1_putDown 42 = .ok (.iload 5, 2) := by decide +kernel
theorem dX1_putDown_44 : decode cX1_putDown 44 = .ok (.iconst 2, 1) := by decide +kernel
theorem dX1_putDown_45 : decode cX1_putDown 45 = .ok (.iadd, 1) := by decide +kernel
theorem dX1_putDown_46 : decode cX1_putDown 46 = .ok (.iload_n 3, 1) := by decide +kernel
theorem dX1_putDown_47 : decode cX1_putDown 47 = .ok (.iastore, 1) := by decide +kernel
theorem dX1_putDown_48 : decode cX1_putDown 48 = .ok (.aload_n 0, 1) := by decide +kernel
theorem dX1_putDown_49 : decode cX1_putDown 49 = .ok (.getfield 24, 3) := by decide +kernel
theorem dX1_putDown_52 : decode cX1_putDown 52 = .ok (.iload 5, 2) := by decide +kernel
theorem dX1_putDown_54 : decode cX1_putDown 54 = .ok (.iconst 3, 1) := by decide +kernel
theorem dX1_putDown_55 : decode cX1_putDown 55 = .ok (.iadd, 1) := by decide +kernel
theorem dX1_putDown_56 : decode cX1_putDown 56 = .ok (.iload 4, 2) := by decide +kernel
theorem dX1_putDown_58 : decode cX1_putDown 58 = .ok (.iastore, 1) := by decide +kernel
theorem dX1_putDown_59 : decode cX1_putDown 59 = .ok (.aload_n 0, 1) := by decide +kernel
theorem dX1_putDown_60 : decode cX1_putDown 60 = .ok (.dup, 1) := by decide +kernel
theorem dX1_putDown_61 : decode cX1_putDown 61 = .ok (.getfield 44, 3) := by decide +kernel
theorem dX1_putDown_64 : decode cX1_putDown 64 = .ok (.iconst 1, 1) := by decide +kernel
theorem dX1_putDown_65 : decode cX1_putDown 65 = .ok (.iadd, 1) := by decide +kernel
theorem dX1_putDown_66 : decode cX1_putDown 66 = .ok (.putfield 44, 3) := by decide +kernel
theorem dX1_putDown_69 : decode cX1_putDown 69 = .ok (.aload_n 0, 1) := by decide +kernel
theorem dX1_putDown_70 : decode cX1_putDown 70 = .ok (.getfield 44, 3) := by decide +kernel
theorem dX1_putDown_73 : decode cX1_putDown 73 = .ok (.ireturn, 1) := by decide +kernel
theorem dX1_remember_0 : decode cX1_remember 0 = .ok (.aload_n 0, 1) := by decide +kernel
theorem dX1_remember_1 : decode cX1_remember 1 = .ok (.getfield 47, 3) := by decide +kernel
theorem dX1_remember_4 : decode cX1_remember 4 = .ok (.bipush 8, 2) := by decide +kernel
theorem dX1_remember_6 : decode cX1_remember 6 = .ok (.if_icmp .lt 30, 3) := by decide +kernel
theorem dX1_remember_9 : decode cX1_remember 9 = .ok (.aload_n 0, 1) := by decide +kernel
theorem dX1_remember_10 : decode cX1_remember 10 = .ok (.bipush 7, 2) := by decide +kernel
theorem dX1_remember_12 : decode cX1_remember 12 = .ok (.putfield 47, 3) := by decide +kernel
theorem dX1_remember_15 : decode cX1_remember 15 = .ok (.aload_n 0, 1) := by decide +kernel
theorem dX1_remember_16 : decode cX1_remember 16 = .ok (.getfield 27, 3) := by decide +kernel
theorem dX1_remember_19 : decode cX1_remember 19 = .ok (.bipush 17, 2) := by decide +kernel
theorem dX1_remember_21 : decode cX1_remember 21 = .ok (.aload_n 0, 1) := by decide +kernel
theorem dX1_remember_22 : decode cX1_remember 22 = .ok (.getfield 27, 3) := by decide +kernel
theorem dX1_remember_25 : decode cX1_remember 25 = .ok (.iconst 0, 1) := by decide +kernel
theorem dX1_remember_26 : decode cX1_remember 26 = .ok (.aload_n 0, 1) := by decide +kernel
theorem dX1_remember_27 : decode cX1_remember 27 = .ok (.getfield 47, 3) := by decide +kernel
theorem dX1_remember_30 : decode cX1_remember 30 = .ok (.bipush 17, 2) := by decide +kernel
theorem dX1_remember_32 : decode cX1_remember 32 = .ok (.imul, 1) := by decide +kernel
theorem dX1_remember_33 : decode cX1_remember 33 = .ok (.invokestatic 50, 3) := by decide +kernel
theorem dX1_remember_36 : decode cX1_remember 36 = .ok (.aload_n 0, 1) := by decide +kernel
theorem dX1_remember_37 : decode cX1_remember 37 = .ok (.getfield 47, 3) := by decide +kernel
theorem dX1_remember_40 : decode cX1_remember 40 = .ok (.bipush 17, 2) := by decide +kernel
theorem dX1_remember_42 : decode cX1_remember 42 = .ok (.imul, 1) := by decide +kernel
theorem dX1_remember_43 : decode cX1_remember 43 = .ok (.istore_n 1, 1) := by decide +kernel
theorem dX1_remember_44 : decode cX1_remember 44 = .ok (.aload_n 0, 1) := by decide +kernel
theorem dX1_remember_45 : decode cX1_remember 45 = .ok (.getfield 21, 3) := by decide +kernel
theorem dX1_remember_48 : decode cX1_remember 48 = .ok (.iconst 0, 1) := by decide +kernel
theorem dX1_remember_49 : decode cX1_remember 49 = .ok (.aload_n 0, 1) := by decide +kernel
theorem dX1_remember_50 : decode cX1_remember 50 = .ok (.getfield 27, 3) := by decide +kernel
theorem dX1_remember_53 : decode cX1_remember 53 = .ok (.iload_n 1, 1) := by decide +kernel
theorem dX1_remember_54 : decode cX1_remember 54 = .ok (.bipush 12, 2) := by decide +kernel
theorem dX1_remember_56 : decode cX1_remember 56 = .ok (.invokestatic 50, 3) := by decide +kernel
theorem dX1_remember_59 : decode cX1_remember 59 = .ok (.aload_n 0, 1) := by decide +kernel
theorem dX1_remember_60 : decode cX1_remember 60 = .ok (.getfield 18, 3) := by decide +kernel
theorem dX1_remember_63 : decode cX1_remember 63 = .ok (.iconst 0, 1) := by decide +kernel
theorem dX1_remember_64 : decode cX1_remember 64 = .ok (.aload_n 0, 1) := by decide +kernel
theorem dX1_remember_65 : decode cX1_remember 65 = .ok (.getfield 27, 3) := by decide +kernel
theorem dX1_remember_68 : decode cX1_remember 68 = .ok (.iload_n 1, 1) := by decide +kernel
theorem dX1_remember_69 : decode cX1_remember 69 = .ok (.bipush 12, 2) := by decide +kernel
theorem dX1_remember_71 : decode cX1_remember 71 = .ok (.iadd, 1) := by decide +kernel
theorem dX1_remember_72 : decode cX1_remember 72 = .ok (.iconst 5, 1) := by decide +kernel
theorem dX1_remember_73 : decode cX1_remember 73 = .ok (.invokestatic 50, 3) := by decide +kernel
theorem dX1_remember_76 : decode cX1_remember 76 = .ok (.aload_n 0, 1) := by decide +kernel
theorem dX1_remember_77 : decode cX1_remember 77 = .ok (.dup, 1) := by decide +kernel
theorem dX1_remember_78 : decode cX1_remember 78 = .ok (.getfield 47, 3) := by decide +kernel
theorem dX1_remember_81 : decode cX1_remember 81 = .ok (.iconst 1, 1) := by decide +kernel
theorem dX1_remember_82 : decode cX1_remember 82 = .ok (.iadd, 1) := by decide +kernel
theorem dX1_remember_83 : decode cX1_remember 83 = .ok (.putfield 47, 3) := by decide +kernel
theorem dX1_remember_86 : decode cX1_remember 86 = .ok (.return_, 1) := by decide +kernel
theorem dX1_goBack_0 : decode cX1_goBack 0 = .ok (.aload_n 0, 1) := by decide +kernel
theorem dX1_goBack_1 : decode cX1_goBack 1 = .ok (.getfield 47, 3) := by decide +kernel
theorem dX1_goBack_4 : decode cX1_goBack 4 = .ok (.ifCond .gt 4, 3) := by decide +kernel
theorem dX1_goBack_7 : decode cX1_goBack 7 = .ok (.return_, 1) := by decide +kernel
theorem dX1_goBack_8 : decode cX1_goBack 8 = .ok (.aload_n 0, 1) := by decide +kernel
theorem dX1_goBack_9 : decode cX1_goBack 9 = .ok (.dup, 1) := by decide +kernel
theorem dX1_goBack_10 : decode cX1_goBack 10 = .ok (.getfield 47, 3) := by decide +kernel
theorem dX1_goBack_13 : decode cX1_goBack 13 = .ok (.iconst 1, 1) := by decide +kernel
theorem dX1_goBack_14 : decode cX1_goBack 14 = .ok (.isub, 1) := by decide +kernel
theorem dX1_goBack_15 : decode cX1_goBack 15 = .ok (.putfield 47, 3) := by decide +kernel
theorem dX1_goBack_18 : decode cX1_goBack 18 = .ok (.aload_n 0, 1) := by decide +kernel
theorem dX1_goBack_19 : decode cX1_goBack 19 = .ok (.getfield 47, 3) := by decide +kernel
theorem dX1_goBack_22 : decode cX1_goBack 22 = .ok (.bipush 17, 2) := by decide +kernel
theorem dX1_goBack_24 : decode cX1_goBack 24 = .ok (.imul, 1) := by decide +kernel
theorem dX1_goBack_25 : decode cX1_goBack 25 = .ok (.istore_n 1, 1) := by decide +kernel
theorem dX1_goBack_26 : decode cX1_goBack 26 = .ok (.aload_n 0, 1) := by decide +kernel
theorem dX1_goBack_27 : decode cX1_goBack 27 = .ok (.getfield 27, 3) := by decide +kernel
theorem dX1_goBack_30 : decode cX1_goBack 30 = .ok (.iload_n 1, 1) := by decide +kernel
theorem dX1_goBack_31 : decode cX1_goBack 31 = .ok (.aload_n 0, 1) := by decide +kernel
theorem dX1_goBack_32 : decode cX1_goBack 32 = .ok (.getfield 21, 3) := by decide +kernel
theorem dX1_goBack_35 : decode cX1_goBack 35 = .ok (.iconst 0, 1) := by decide +kernel
theorem dX1_goBack_36 : decode cX1_goBack 36 = .ok (.bipush 12, 2) := by decide +kernel
theorem dX1_goBack_38 : decode cX1_goBack 38 = .ok (.invokestatic 50, 3) := by decide +kernel
theorem dX1_goBack_41 : decode cX1_goBack 41 = .ok (.aload_n 0, 1) := by decide +kernel
theorem dX1_goBack_42 : decode cX1_goBack 42 = .ok (.getfield 27, 3) := by decide +kernel
theorem dX1_goBack_45 : decode cX1_goBack 45 = .ok (.iload_n 1, 1) := by decide +kernel
theorem dX1_goBack_46 : decode cX1_goBack 46 = .ok (.bipush 12, 2) := by decide +kernel
theorem dX1_goBack_48 : decode cX1_goBack 48 = .ok (.iadd, 1) := by decide +kernel
theorem dX1_goBack_49 : decode cX1_goBack 49 = .ok (.aload_n 0, 1) := by decide +kernel
theorem dX1_goBack_50 : decode cX1_goBack 50 = .ok (.getfield 18, 3) := by decide +kernel
theorem dX1_goBack_53 : decode cX1_goBack 53 = .ok (.iconst 0, 1) := by decide +kernel
theorem dX1_goBack_54 : decode cX1_goBack 54 = .ok (.iconst 5, 1) := by decide +kernel
theorem dX1_goBack_55 : decode cX1_goBack 55 = .ok (.invokestatic 50, 3) := by decide +kernel
theorem dX1_goBack_58 : decode cX1_goBack 58 = .ok (.return_, 1) := by decide +kernel
theorem dX1_cellsOf_0 : decode cX1_cellsOf 0 = .ok (.iconst 0, 1) := by decide +kernel
theorem dX1_cellsOf_1 : decode cX1_cellsOf 1 = .ok (.istore_n 2, 1) := by decide +kernel
theorem dX1_cellsOf_2 : decode cX1_cellsOf 2 = .ok (.iconst 0, 1) := by decide +kernel
theorem dX1_cellsOf_3 : decode cX1_cellsOf 3 = .ok (.istore_n 3, 1) := by decide +kernel
theorem dX1_cellsOf_4 : decode cX1_cellsOf 4 = .ok (.iload_n 3, 1) := by decide +kernel
theorem dX1_cellsOf_5 : decode cX1_cellsOf 5 = .ok (.bipush 12, 2) := by decide +kernel
theorem dX1_cellsOf_7 : decode cX1_cellsOf 7 = .ok (.if_icmp .ge 25, 3) := by decide +kernel
theorem dX1_cellsOf_10 : decode cX1_cellsOf 10 = .ok (.aload_n 0, 1) := by decide +kernel
theorem dX1_cellsOf_11 : decode cX1_cellsOf 11 = .ok (.getfield 21, 3) := by decide +kernel
theorem dX1_cellsOf_14 : decode cX1_cellsOf 14 = .ok (.iload_n 3, 1) := by decide +kernel
theorem dX1_cellsOf_15 : decode cX1_cellsOf 15 = .ok (.iaload, 1) := by decide +kernel
theorem dX1_cellsOf_16 : decode cX1_cellsOf 16 = .ok (.iload_n 1, 1) := by decide +kernel
theorem dX1_cellsOf_17 : decode cX1_cellsOf 17 = .ok (.if_icmp .ne 9, 3) := by decide +kernel
theorem dX1_cellsOf_20 : decode cX1_cellsOf 20 = .ok (.iload_n 2, 1) := by decide +kernel
theorem dX1_cellsOf_21 : decode cX1_cellsOf 21 = .ok (.iconst 1, 1) := by decide +kernel
theorem dX1_cellsOf_22 : decode cX1_cellsOf 22 = .ok (.iload_n 3, 1) := by decide +kernel
theorem dX1_cellsOf_23 : decode cX1_cellsOf 23 = .ok (.ishl, 1) := by decide +kernel
theorem dX1_cellsOf_24 : decode cX1_cellsOf 24 = .ok (.ior, 1) := by decide +kernel
theorem dX1_cellsOf_25 : decode cX1_cellsOf 25 = .ok (.istore_n 2, 1) := by decide +kernel
theorem dX1_cellsOf_26 : decode cX1_cellsOf 26 = .ok (.iinc 3 1, 3) := by decide +kernel
theorem dX1_cellsOf_29 : decode cX1_cellsOf 29 = .ok (.goto (-25), 3) := by decide +kernel
theorem dX1_cellsOf_32 : decode cX1_cellsOf 32 = .ok (.iload_n 2, 1) := by decide +kernel
theorem dX1_cellsOf_33 : decode cX1_cellsOf 33 = .ok (.ireturn, 1) := by decide +kernel
theorem dX1_greyCells_0 : decode cX1_greyCells 0 = .ok (.aload_n 0, 1) := by decide +kernel
theorem dX1_greyCells_1 : decode cX1_greyCells 1 = .ok (.iconst (-1), 1) := by decide +kernel
theorem dX1_greyCells_2 : decode cX1_greyCells 2 = .ok (.invokevirtual 56, 3) := by decide +kernel
theorem dX1_greyCells_5 : decode cX1_greyCells 5 = .ok (.invokestatic 60, 3) := by decide +kernel
theorem dX1_greyCells_8 : decode cX1_greyCells 8 = .ok (.ireturn, 1) := by decide +kernel
theorem dX1_allJam_0 : decode cX1_allJam 0 = .ok (.iconst 0, 1) := by decide +kernel
theorem dX1_allJam_1 : decode cX1_allJam 1 = .ok (.istore_n 1, 1) := by decide +kernel
theorem dX1_allJam_2 : decode cX1_allJam 2 = .ok (.iconst 0, 1) := by decide +kernel
theorem dX1_allJam_3 : decode cX1_allJam 3 = .ok (.istore_n 2, 1) := by decide +kernel
theorem dX1_allJam_4 : decode cX1_allJam 4 = .ok (.iload_n 2, 1) := by decide +kernel
theorem dX1_allJam_5 : decode cX1_allJam 5 = .ok (.aload_n 0, 1) := by decide +kernel
theorem dX1_allJam_6 : decode cX1_allJam 6 = .ok (.getfield 40, 3) := by decide +kernel
theorem dX1_allJam_9 : decode cX1_allJam 9 = .ok (.if_icmp .ge 18, 3) := by decide +kernel
theorem dX1_allJam_12 : decode cX1_allJam 12 = .ok (.iload_n 1, 1) := by decide +kernel
theorem dX1_allJam_13 : decode cX1_allJam 13 = .ok (.aload_n 0, 1) := by decide +kernel
theorem dX1_allJam_14 : decode cX1_allJam 14 = .ok (.getfield 18, 3) := by decide +kernel
theorem dX1_allJam_17 : decode cX1_allJam 17 = .ok (.iload_n 2, 1) := by decide +kernel
theorem dX1_allJam_18 : decode cX1_allJam 18 = .ok (.iaload, 1) := by decide +kernel
theorem dX1_allJam_19 : decode cX1_allJam 19 = .ok (.iadd, 1) := by decide +kernel
theorem dX1_allJam_20 : decode cX1_allJam 20 = .ok (.istore_n 1, 1) := by decide +kernel
theorem dX1_allJam_21 : decode cX1_allJam 21 = .ok (.iinc 2 1, 3) := by decide +kernel
theorem dX1_allJam_24 : decode cX1_allJam 24 = .ok (.goto (-20), 3) := by decide +kernel
theorem dX1_allJam_27 : decode cX1_allJam 27 = .ok (.iload_n 1, 1) := by decide +kernel
theorem dX1_allJam_28 : decode cX1_allJam 28 = .ok (.ireturn, 1) := by decide +kernel
theorem dX1_kindOf_0 : decode cX1_kindOf 0 = .ok (.aload_n 0, 1) := by decide +kernel
theorem dX1_kindOf_1 : decode cX1_kindOf 1 = .ok (.getfield 30, 3) := by decide +kernel
theorem dX1_kindOf_4 : decode cX1_kindOf 4 = .ok (.aload_n 0, 1) := by decide +kernel
theorem dX1_kindOf_5 : decode cX1_kindOf 5 = .ok (.getfield 9, 3) := by decide +kernel
theorem dX1_kindOf_8 : decode cX1_kindOf 8 = .ok (.iload_n 1, 1) := by decide +kernel
theorem dX1_kindOf_9 : decode cX1_kindOf 9 = .ok (.iaload, 1) := by decide +kernel
theorem dX1_kindOf_10 : decode cX1_kindOf 10 = .ok (.aaload, 1) := by decide +kernel
theorem dX1_kindOf_11 : decode cX1_kindOf 11 = .ok (.areturn, 1) := by decide +kernel
theorem dX1_worthTo_0 : decode cX1_worthTo 0 = .ok (.aload_n 0, 1) := by decide +kernel
theorem dX1_worthTo_1 : decode cX1_worthTo 1 = .ok (.iload_n 1, 1) := by decide +kernel
theorem dX1_worthTo_2 : decode cX1_worthTo 2 = .ok (.invokevirtual 65, 3) := by decide +kernel
theorem dX1_worthTo_5 : decode cX1_worthTo 5 = .ok (.astore_n 3, 1) := by decide +kernel
theorem dX1_worthTo_6 : decode cX1_worthTo 6 = .ok (.iconst 0, 1) := by decide +kernel
theorem dX1_worthTo_7 : decode cX1_worthTo 7 = .ok (.istore 4, 2) := by decide +kernel
theorem dX1_worthTo_9 : decode cX1_worthTo 9 = .ok (.iconst 0, 1) := by decide +kernel
theorem dX1_worthTo_10 : decode cX1_worthTo 10 = .ok (.istore 5, 2) := by decide +kernel
theorem dX1_worthTo_12 : decode cX1_worthTo 12 = .ok (.iload 5, 2) := by decide +kernel
theorem dX1_worthTo_14 : decode cX1_worthTo 14 = .ok (.bipush 12, 2) := by decide +kernel
theorem dX1_worthTo_16 : decode cX1_worthTo 16 = .ok (.if_icmp .ge 37, 3) := by decide +kernel
theorem dX1_worthTo_19 : decode cX1_worthTo 19 = .ok (.iload_n 2, 1) := by decide +kernel
theorem dX1_worthTo_20 : decode cX1_worthTo 20 = .ok (.iload 5, 2) := by decide +kernel
theorem dX1_worthTo_22 : decode cX1_worthTo 22 = .ok (.invokestatic 69, 3) := by decide +kernel
theorem dX1_worthTo_25 : decode cX1_worthTo 25 = .ok (.ifCond .eq 22, 3) := by decide +kernel
theorem dX1_worthTo_28 : decode cX1_worthTo 28 = .ok (.iload 4, 2) := by decide +kernel
theorem dX1_worthTo_30 : decode cX1_worthTo 30 = .ok (.aload_n 3, 1) := by decide +kernel
theorem dX1_worthTo_31 : decode cX1_worthTo 31 = .ok (.iload 5, 2) := by decide +kernel
theorem dX1_worthTo_33 : decode cX1_worthTo 33 = .ok (.iload_n 2, 1) := by decide +kernel
theorem dX1_worthTo_34 : decode cX1_worthTo 34 = .ok (.iload 5, 2) := by decide +kernel
theorem dX1_worthTo_36 : decode cX1_worthTo 36 = .ok (.iconst 1, 1) := by decide +kernel
theorem dX1_worthTo_37 : decode cX1_worthTo 37 = .ok (.isub, 1) := by decide +kernel
theorem dX1_worthTo_38 : decode cX1_worthTo 38 = .ok (.invokestatic 69, 3) := by decide +kernel
theorem dX1_worthTo_41 : decode cX1_worthTo 41 = .ok (.invokevirtual 73, 3) := by decide +kernel
theorem dX1_worthTo_44 : decode cX1_worthTo 44 = .ok (.iadd, 1) := by decide +kernel
theorem dX1_worthTo_45 : decode cX1_worthTo 45 = .ok (.istore 4, 2) := by decide +kernel
theorem dX1_worthTo_47 : decode cX1_worthTo 47 = .ok (.iinc 5 1, 3) := by decide +kernel
theorem dX1_worthTo_50 : decode cX1_worthTo 50 = .ok (.goto (-38), 3) := by decide +kernel
theorem dX1_worthTo_53 : decode cX1_worthTo 53 = .ok (.iload 4, 2) := by decide +kernel
theorem dX1_worthTo_55 : decode cX1_worthTo 55 = .ok (.ireturn, 1) := by decide +kernel
theorem dX1_ownWorth_0 : decode cX1_ownWorth 0 = .ok (.aload_n 0, 1) := by decide +kernel
theorem dX1_ownWorth_1 : decode cX1_ownWorth 1 = .ok (.iload_n 1, 1) := by decide +kernel
theorem dX1_ownWorth_2 : decode cX1_ownWorth 2 = .ok (.aload_n 0, 1) := by decide +kernel
theorem dX1_ownWorth_3 : decode cX1_ownWorth 3 = .ok (.iload_n 1, 1) := by decide +kernel
theorem dX1_ownWorth_4 : decode cX1_ownWorth 4 = .ok (.invokevirtual 56, 3) := by decide +kernel
theorem dX1_ownWorth_7 : decode cX1_ownWorth 7 = .ok (.invokevirtual 79, 3) := by decide +kernel
theorem dX1_ownWorth_10 : decode cX1_ownWorth 10 = .ok (.ireturn, 1) := by decide +kernel
theorem dX1_haveEnough_0 : decode cX1_haveEnough 0 = .ok (.iconst 0, 1) := by decide +kernel
theorem dX1_haveEnough_1 : decode cX1_haveEnough 1 = .ok (.istore_n 1, 1) := by decide +kernel
theorem dX1_haveEnough_2 : decode cX1_haveEnough 2 = .ok (.iconst 0, 1) := by decide +kernel
theorem dX1_haveEnough_3 : decode cX1_haveEnough 3 = .ok (.istore_n 2, 1) := by decide +kernel
theorem dX1_haveEnough_4 : decode cX1_haveEnough 4 = .ok (.iload_n 2, 1) := by decide +kernel
theorem dX1_haveEnough_5 : decode cX1_haveEnough 5 = .ok (.aload_n 0, 1) := by decide +kernel
theorem dX1_haveEnough_6 : decode cX1_haveEnough 6 = .ok (.getfield 40, 3) := by decide +kernel
theorem dX1_haveEnough_9 : decode cX1_haveEnough 9 = .ok (.if_icmp .ge 32, 3) := by decide +kernel
theorem dX1_haveEnough_12 : decode cX1_haveEnough 12 = .ok (.aload_n 0, 1) := by decide +kernel
theorem dX1_haveEnough_13 : decode cX1_haveEnough 13 = .ok (.iload_n 2, 1) := by decide +kernel
theorem dX1_haveEnough_14 : decode cX1_haveEnough 14 = .ok (.invokevirtual 56, 3) := by decide +kernel
theorem dX1_haveEnough_17 : decode cX1_haveEnough 17 = .ok (.invokestatic 60, 3) := by decide +kernel
theorem dX1_haveEnough_20 : decode cX1_haveEnough 20 = .ok (.aload_n 0, 1) := by decide +kernel
theorem dX1_haveEnough_21 : decode cX1_haveEnough 21 = .ok (.getfield 15, 3) := by decide +kernel
theorem dX1_haveEnough_24 : decode cX1_haveEnough 24 = .ok (.iload_n 2, 1) := by decide +kernel
theorem dX1_haveEnough_25 : decode cX1_haveEnough 25 = .ok (.iaload, 1) := by decide +kernel
theorem dX1_haveEnough_26 : decode cX1_haveEnough 26 = .ok (.if_icmp .lt 9, 3) := by decide +kernel
theorem dX1_haveEnough_29 : decode cX1_haveEnough 29 = .ok (.iload_n 1, 1) := by decide +kernel
theorem dX1_haveEnough_30 : decode cX1_haveEnough 30 = .ok (.iconst 1, 1) := by decide +kernel
theorem dX1_haveEnough_31 : decode cX1_haveEnough 31 = .ok (.iload_n 2, 1) := by decide +kernel
theorem dX1_haveEnough_32 : decode cX1_haveEnough 32 = .ok (.ishl, 1) := by decide +kernel
theorem dX1_haveEnough_33 : decode cX1_haveEnough 33 = .ok (.ior, 1) := by decide +kernel
theorem dX1_haveEnough_34 : decode cX1_haveEnough 34 = .ok (.istore_n 1, 1) := by decide +kernel
theorem dX1_haveEnough_35 : decode cX1_haveEnough 35 = .ok (.iinc 2 1, 3) := by decide +kernel
theorem dX1_haveEnough_38 : decode cX1_haveEnough 38 = .ok (.goto (-34), 3) := by decide +kernel
theorem dX1_haveEnough_41 : decode cX1_haveEnough 41 = .ok (.iload_n 1, 1) := by decide +kernel
theorem dX1_haveEnough_42 : decode cX1_haveEnough 42 = .ok (.ireturn, 1) := by decide +kernel
theorem dX1_enviedBy_0 : decode cX1_enviedBy 0 = .ok (.aload_n 0, 1) := by decide +kernel
theorem dX1_enviedBy_1 : decode cX1_enviedBy 1 = .ok (.iload_n 1, 1) := by decide +kernel
theorem dX1_enviedBy_2 : decode cX1_enviedBy 2 = .ok (.invokevirtual 83, 3) := by decide +kernel
theorem dX1_enviedBy_5 : decode cX1_enviedBy 5 = .ok (.istore_n 2, 1) := by decide +kernel
theorem dX1_enviedBy_6 : decode cX1_enviedBy 6 = .ok (.iconst 0, 1) := by decide +kernel
theorem dX1_enviedBy_7 : decode cX1_enviedBy 7 = .ok (.istore_n 3, 1) := by decide +kernel
theorem dX1_enviedBy_8 : decode cX1_enviedBy 8 = .ok (.iconst 0, 1) := by decide +kernel
theorem dX1_enviedBy_9 : decode cX1_enviedBy 9 = .ok (.istore 4, 2) := by decide +kernel
theorem dX1_enviedBy_11 : decode cX1_enviedBy 11 = .ok (.iload 4, 2) := by decide +kernel
theorem dX1_enviedBy_13 : decode cX1_enviedBy 13 = .ok (.aload_n 0, 1) := by decide +kernel
theorem dX1_enviedBy_14 : decode cX1_enviedBy 14 = .ok (.getfield 40, 3) := by decide +kernel
theorem dX1_enviedBy_17 : decode cX1_enviedBy 17 = .ok (.if_icmp .ge 31, 3) := by decide +kernel
theorem dX1_enviedBy_20 : decode cX1_enviedBy 20 = .ok (.aload_n 0, 1) := by decide +kernel
theorem dX1_enviedBy_21 : decode cX1_enviedBy 21 = .ok (.iload_n 1, 1) := by decide +kernel
theorem dX1_enviedBy_22 : decode cX1_enviedBy 22 = .ok (.aload_n 0, 1) := by decide +kernel
theorem dX1_enviedBy_23 : decode cX1_enviedBy 23 = .ok (.iload 4, 2) := by decide +kernel
theorem dX1_enviedBy_25 : decode cX1_enviedBy 25 = .ok (.invokevirtual 56, 3) := by decide +kernel
theorem dX1_enviedBy_28 : decode cX1_enviedBy 28 = .ok (.invokevirtual 79, 3) := by decide +kernel
theorem dX1_enviedBy_31 : decode cX1_enviedBy 31 = .ok (.iload_n 2, 1) := by decide +kernel
theorem dX1_enviedBy_32 : decode cX1_enviedBy 32 = .ok (.if_icmp .le 10, 3) := by decide +kernel
theorem dX1_enviedBy_35 : decode cX1_enviedBy 35 = .ok (.iload_n 3, 1) := by decide +kernel
theorem dX1_enviedBy_36 : decode cX1_enviedBy 36 = .ok (.iconst 1, 1) := by decide +kernel
theorem dX1_enviedBy_37 : decode cX1_enviedBy 37 = .ok (.iload 4, 2) := by decide +kernel
theorem dX1_enviedBy_39 : decode cX1_enviedBy 39 = .ok (.ishl, 1) := by decide +kernel
theorem dX1_enviedBy_40 : decode cX1_enviedBy 40 = .ok (.ior, 1) := by decide +kernel
theorem dX1_enviedBy_41 : decode cX1_enviedBy 41 = .ok (.istore_n 3, 1) := by decide +kernel
theorem dX1_enviedBy_42 : decode cX1_enviedBy 42 = .ok (.iinc 4 1, 3) := by decide +kernel
theorem dX1_enviedBy_45 : decode cX1_enviedBy 45 = .ok (.goto (-34), 3) := by decide +kernel
theorem dX1_enviedBy_48 : decode cX1_enviedBy 48 = .ok (.iload_n 3, 1) := by decide +kernel
theorem dX1_enviedBy_49 : decode cX1_enviedBy 49 = .ok (.ireturn, 1) := by decide +kernel
theorem dX1_isFair_0 : decode cX1_isFair 0 = .ok (.aload_n 0, 1) := by decide +kernel
theorem dX1_isFair_1 : decode cX1_isFair 1 = .ok (.iload_n 1, 1) := by decide +kernel
theorem dX1_isFair_2 : decode cX1_isFair 2 = .ok (.iload_n 2, 1) := by decide +kernel
theorem dX1_isFair_3 : decode cX1_isFair 3 = .ok (.invokevirtual 79, 3) := by decide +kernel
theorem dX1_isFair_6 : decode cX1_isFair 6 = .ok (.aload_n 0, 1) := by decide +kernel
theorem dX1_isFair_7 : decode cX1_isFair 7 = .ok (.getfield 40, 3) := by decide +kernel
theorem dX1_isFair_10 : decode cX1_isFair 10 = .ok (.imul, 1) := by decide +kernel
theorem dX1_isFair_11 : decode cX1_isFair 11 = .ok (.aload_n 0, 1) := by decide +kernel
theorem dX1_isFair_12 : decode cX1_isFair 12 = .ok (.iload_n 1, 1) := by decide +kernel
theorem dX1_isFair_13 : decode cX1_isFair 13 = .ok (.sipush 4095, 3) := by decide +kernel
theorem dX1_isFair_16 : decode cX1_isFair 16 = .ok (.invokevirtual 79, 3) := by decide +kernel
theorem dX1_isFair_19 : decode cX1_isFair 19 = .ok (.if_icmp .lt 7, 3) := by decide +kernel
theorem dX1_isFair_22 : decode cX1_isFair 22 = .ok (.iconst 1, 1) := by decide +kernel
theorem dX1_isFair_23 : decode cX1_isFair 23 = .ok (.goto 4, 3) := by decide +kernel
theorem dX1_isFair_26 : decode cX1_isFair 26 = .ok (.iconst 0, 1) := by decide +kernel
theorem dX1_isFair_27 : decode cX1_isFair 27 = .ok (.ireturn, 1) := by decide +kernel
theorem dX1_runFrom_0 : decode cX1_runFrom 0 = .ok (.aload_n 0, 1) := by decide +kernel
theorem dX1_runFrom_1 : decode cX1_runFrom 1 = .ok (.getfield 21, 3) := by decide +kernel
theorem dX1_runFrom_4 : decode cX1_runFrom 4 = .ok (.iload_n 1, 1) := by decide +kernel
theorem dX1_runFrom_5 : decode cX1_runFrom 5 = .ok (.iaload, 1) := by decide +kernel
theorem dX1_runFrom_6 : decode cX1_runFrom 6 = .ok (.istore_n 2, 1) := by decide +kernel
theorem dX1_runFrom_7 : decode cX1_runFrom 7 = .ok (.iload_n 2, 1) := by decide +kernel
theorem dX1_runFrom_8 : decode cX1_runFrom 8 = .ok (.iconst (-1), 1) := by decide +kernel
theorem dX1_runFrom_9 : decode cX1_runFrom 9 = .ok (.if_icmp .ne 5, 3) := by decide +kernel
theorem dX1_runFrom_12 : decode cX1_runFrom 12 = .ok (.iconst 0, 1) := by decide +kernel
theorem dX1_runFrom_13 : decode cX1_runFrom 13 = .ok (.ireturn, 1) := by decide +kernel
theorem dX1_runFrom_14 : decode cX1_runFrom 14 = .ok (.iload_n 1, 1) := by decide +kernel
theorem dX1_runFrom_15 : decode cX1_runFrom 15 = .ok (.istore_n 3, 1) := by decide +kernel
theorem dX1_runFrom_16 : decode cX1_runFrom 16 = .ok (.iload_n 3, 1) := by decide +kernel
theorem dX1_runFrom_17 : decode cX1_runFrom 17 = .ok (.bipush 12, 2) := by decide +kernel
theorem dX1_runFrom_19 : decode cX1_runFrom 19 = .ok (.if_icmp .ge 19, 3) := by decide +kernel
theorem dX1_runFrom_22 : decode cX1_runFrom 22 = .ok (.aload_n 0, 1) := by decide +kernel
theorem dX1_runFrom_23 : decode cX1_runFrom 23 = .ok (.getfield 21, 3) := by decide +kernel
theorem dX1_runFrom_26 : decode cX1_runFrom 26 = .ok (.iload_n 3, 1) := by decide +kernel
theorem dX1_runFrom_27 : decode cX1_runFrom 27 = .ok (.iaload, 1) := by decide +kernel
theorem dX1_runFrom_28 : decode cX1_runFrom 28 = .ok (.iload_n 2, 1) := by decide +kernel
theorem dX1_runFrom_29 : decode cX1_runFrom 29 = .ok (.if_icmp .ne 9, 3) := by decide +kernel
theorem dX1_runFrom_32 : decode cX1_runFrom 32 = .ok (.iinc 3 1, 3) := by decide +kernel
theorem dX1_runFrom_35 : decode cX1_runFrom 35 = .ok (.goto (-19), 3) := by decide +kernel
theorem dX1_runFrom_38 : decode cX1_runFrom 38 = .ok (.iload_n 3, 1) := by decide +kernel
theorem dX1_runFrom_39 : decode cX1_runFrom 39 = .ok (.iload_n 1, 1) := by decide +kernel
theorem dX1_runFrom_40 : decode cX1_runFrom 40 = .ok (.isub, 1) := by decide +kernel
theorem dX1_runFrom_41 : decode cX1_runFrom 41 = .ok (.ireturn, 1) := by decide +kernel
theorem dX1_ofUnlikeBoys_0 : decode cX1_ofUnlikeBoys 0 = .ok (.aload_n 0, 1) := by decide +kernel
theorem dX1_ofUnlikeBoys_1 : decode cX1_ofUnlikeBoys 1 = .ok (.getfield 21, 3) := by decide +kernel
theorem dX1_ofUnlikeBoys_4 : decode cX1_ofUnlikeBoys 4 = .ok (.iload_n 1, 1) := by decide +kernel
theorem dX1_ofUnlikeBoys_5 : decode cX1_ofUnlikeBoys 5 = .ok (.iaload, 1) := by decide +kernel
theorem dX1_ofUnlikeBoys_6 : decode cX1_ofUnlikeBoys 6 = .ok (.iconst (-1), 1) := by decide +kernel
theorem dX1_ofUnlikeBoys_7 : decode cX1_ofUnlikeBoys 7 = .ok (.if_icmp .eq 32, 3) := by decide +kernel
theorem dX1_ofUnlikeBoys_10 : decode cX1_ofUnlikeBoys 10 = .ok (.aload_n 0, 1) := by decide +kernel
theorem dX1_ofUnlikeBoys_11 : decode cX1_ofUnlikeBoys 11 = .ok (.getfield 21, 3) := by decide +kernel
theorem dX1_ofUnlikeBoys_14 : decode cX1_ofUnlikeBoys 14 = .ok (.iload_n 2, 1) := by decide +kernel
theorem dX1_ofUnlikeBoys_15 : decode cX1_ofUnlikeBoys 15 = .ok (.iaload, 1) := by decide +kernel
theorem dX1_ofUnlikeBoys_16 : decode cX1_ofUnlikeBoys 16 = .ok (.iconst (-1), 1) := by decide +kernel
theorem dX1_ofUnlikeBoys_17 : decode cX1_ofUnlikeBoys 17 = .ok (.if_icmp .eq 22, 3) := by decide +kernel
theorem dX1_ofUnlikeBoys_20 : decode cX1_ofUnlikeBoys 20 = .ok (.aload_n 0, 1) := by decide +kernel
theorem dX1_ofUnlikeBoys_21 : decode cX1_ofUnlikeBoys 21 = .ok (.getfield 21, 3) := by decide +kernel
theorem dX1_ofUnlikeBoys_24 : decode cX1_ofUnlikeBoys 24 = .ok (.iload_n 1, 1) := by decide +kernel
theorem dX1_ofUnlikeBoys_25 : decode cX1_ofUnlikeBoys 25 = .ok (.iaload, 1) := by decide +kernel
theorem dX1_ofUnlikeBoys_26 : decode cX1_ofUnlikeBoys 26 = .ok (.aload_n 0, 1) := by decide +kernel
theorem dX1_ofUnlikeBoys_27 : decode cX1_ofUnlikeBoys 27 = .ok (.getfield 21, 3) := by decide +kernel
theorem dX1_ofUnlikeBoys_30 : decode cX1_ofUnlikeBoys 30 = .ok (.iload_n 2, 1) := by decide +kernel
theorem dX1_ofUnlikeBoys_31 : decode cX1_ofUnlikeBoys 31 = .ok (.iaload, 1) := by decide +kernel
theorem dX1_ofUnlikeBoys_32 : decode cX1_ofUnlikeBoys 32 = .ok (.if_icmp .eq 7, 3) := by decide +kernel
theorem dX1_ofUnlikeBoys_35 : decode cX1_ofUnlikeBoys 35 = .ok (.iconst 1, 1) := by decide +kernel
theorem dX1_ofUnlikeBoys_36 : decode cX1_ofUnlikeBoys 36 = .ok (.goto 4, 3) := by decide +kernel
theorem dX1_ofUnlikeBoys_39 : decode cX1_ofUnlikeBoys 39 = .ok (.iconst 0, 1) := by decide +kernel
theorem dX1_ofUnlikeBoys_40 : decode cX1_ofUnlikeBoys 40 = .ok (.ireturn, 1) := by decide +kernel
theorem dX1_changeHands_0 : decode cX1_changeHands 0 = .ok (.aload_n 0, 1) := by decide +kernel
theorem dX1_changeHands_1 : decode cX1_changeHands 1 = .ok (.getfield 21, 3) := by decide +kernel
theorem dX1_changeHands_4 : decode cX1_changeHands 4 = .ok (.iload_n 1, 1) := by decide +kernel
theorem dX1_changeHands_5 : decode cX1_changeHands 5 = .ok (.iaload, 1) := by decide +kernel
theorem dX1_changeHands_6 : decode cX1_changeHands 6 = .ok (.istore_n 3, 1) := by decide +kernel
theorem dX1_changeHands_7 : decode cX1_changeHands 7 = .ok (.aload_n 0, 1) := by decide +kernel
theorem dX1_changeHands_8 : decode cX1_changeHands 8 = .ok (.getfield 21, 3) := by decide +kernel
theorem dX1_changeHands_11 : decode cX1_changeHands 11 = .ok (.iload_n 1, 1) := by decide +kernel
theorem dX1_changeHands_12 : decode cX1_changeHands 12 = .ok (.aload_n 0, 1) := by decide +kernel
theorem dX1_changeHands_13 : decode cX1_changeHands 13 = .ok (.getfield 21, 3) := by decide +kernel
theorem dX1_changeHands_16 : decode cX1_changeHands 16 = .ok (.iload_n 2, 1) := by decide +kernel
theorem dX1_changeHands_17 : decode cX1_changeHands 17 = .ok (.iaload, 1) := by decide +kernel
theorem dX1_changeHands_18 : decode cX1_changeHands 18 = .ok (.iastore, 1) := by decide +kernel
theorem dX1_changeHands_19 : decode cX1_changeHands 19 = .ok (.aload_n 0, 1) := by decide +kernel
theorem dX1_changeHands_20 : decode cX1_changeHands 20 = .ok (.getfield 21, 3) := by decide +kernel
theorem dX1_changeHands_23 : decode cX1_changeHands 23 = .ok (.iload_n 2, 1) := by decide +kernel
theorem dX1_changeHands_24 : decode cX1_changeHands 24 = .ok (.iload_n 3, 1) := by decide +kernel
theorem dX1_changeHands_25 : decode cX1_changeHands 25 = .ok (.iastore, 1) := by decide +kernel
theorem dX1_changeHands_26 : decode cX1_changeHands 26 = .ok (.return_, 1) := by decide +kernel
theorem dX1_bothGain_0 : decode cX1_bothGain 0 = .ok (.aload_n 0, 1) := by decide +kernel
theorem dX1_bothGain_1 : decode cX1_bothGain 1 = .ok (.iload_n 1, 1) := by decide +kernel
theorem dX1_bothGain_2 : decode cX1_bothGain 2 = .ok (.iload_n 2, 1) := by decide +kernel
theorem dX1_bothGain_3 : decode cX1_bothGain 3 = .ok (.invokevirtual 86, 3) := by decide +kernel
theorem dX1_bothGain_6 : decode cX1_bothGain 6 = .ok (.ifCond .ne 5, 3) := by decide +kernel
theorem dX1_bothGain_9 : decode cX1_bothGain 9 = .ok (.iconst 0, 1) := by decide +kernel
theorem dX1_bothGain_10 : decode cX1_bothGain 10 = .ok (.ireturn, 1) := by decide +kernel
theorem dX1_bothGain_11 : decode cX1_bothGain 11 = .ok (.iconst 1, 1) := by decide +kernel
theorem dX1_bothGain_12 : decode cX1_bothGain 12 = .ok (.iload_n 1, 1) := by decide +kernel
theorem dX1_bothGain_13 : decode cX1_bothGain 13 = .ok (.ishl, 1) := by decide +kernel
theorem dX1_bothGain_14 : decode cX1_bothGain 14 = .ok (.iconst 1, 1) := by decide +kernel
theorem dX1_bothGain_15 : decode cX1_bothGain 15 = .ok (.iload_n 2, 1) := by decide +kernel
theorem dX1_bothGain_16 : decode cX1_bothGain 16 = .ok (.ishl, 1) := by decide +kernel
theorem dX1_bothGain_17 : decode cX1_bothGain 17 = .ok (.ior, 1) := by decide +kernel
theorem dX1_bothGain_18 : decode cX1_bothGain 18 = .ok (.istore_n 3, 1) := by decide +kernel
theorem dX1_bothGain_19 : decode cX1_bothGain 19 = .ok (.aload_n 0, 1) := by decide +kernel
theorem dX1_bothGain_20 : decode cX1_bothGain 20 = .ok (.aload_n 0, 1) := by decide +kernel
theorem dX1_bothGain_21 : decode cX1_bothGain 21 = .ok (.getfield 21, 3) := by decide +kernel
theorem dX1_bothGain_24 : decode cX1_bothGain 24 = .ok (.iload_n 1, 1) := by decide +kernel
theorem dX1_bothGain_25 : decode cX1_bothGain 25 = .ok (.iaload, 1) := by decide +kernel
theorem dX1_bothGain_26 : decode cX1_bothGain 26 = .ok (.iload_n 3, 1) := by decide +kernel
theorem dX1_bothGain_27 : decode cX1_bothGain 27 = .ok (.invokevirtual 89, 3) := by decide +kernel
theorem dX1_bothGain_30 : decode cX1_bothGain 30 = .ok (.ifCond .eq 21, 3) := by decide +kernel
theorem dX1_bothGain_33 : decode cX1_bothGain 33 = .ok (.aload_n 0, 1) := by decide +kernel
theorem dX1_bothGain_34 : decode cX1_bothGain 34 = .ok (.aload_n 0, 1) := by decide +kernel
theorem dX1_bothGain_35 : decode cX1_bothGain 35 = .ok (.getfield 21, 3) := by decide +kernel
theorem dX1_bothGain_38 : decode cX1_bothGain 38 = .ok (.iload_n 2, 1) := by decide +kernel
theorem dX1_bothGain_39 : decode cX1_bothGain 39 = .ok (.iaload, 1) := by decide +kernel
theorem dX1_bothGain_40 : decode cX1_bothGain 40 = .ok (.iload_n 3, 1) := by decide +kernel
theorem dX1_bothGain_41 : decode cX1_bothGain 41 = .ok (.invokevirtual 89, 3) := by decide +kernel
theorem dX1_bothGain_44 : decode cX1_bothGain 44 = .ok (.ifCond .eq 7, 3) := by decide +kernel
theorem dX1_bothGain_47 : decode cX1_bothGain 47 = .ok (.iconst 1, 1) := by decide +kernel
theorem dX1_bothGain_48 : decode cX1_bothGain 48 = .ok (.goto 4, 3) := by decide +kernel
theorem dX1_bothGain_51 : decode cX1_bothGain 51 = .ok (.iconst 0, 1) := by decide +kernel
theorem dX1_bothGain_52 : decode cX1_bothGain 52 = .ok (.ireturn, 1) := by decide +kernel
theorem dX1_gains_0 : decode cX1_gains 0 = .ok (.aload_n 0, 1) := by decide +kernel
theorem dX1_gains_1 : decode cX1_gains 1 = .ok (.iload_n 1, 1) := by decide +kernel
theorem dX1_gains_2 : decode cX1_gains 2 = .ok (.invokevirtual 56, 3) := by decide +kernel
theorem dX1_gains_5 : decode cX1_gains 5 = .ok (.istore_n 3, 1) := by decide +kernel
theorem dX1_gains_6 : decode cX1_gains 6 = .ok (.aload_n 0, 1) := by decide +kernel
theorem dX1_gains_7 : decode cX1_gains 7 = .ok (.iload_n 1, 1) := by decide +kernel
theorem dX1_gains_8 : decode cX1_gains 8 = .ok (.iload_n 3, 1) := by decide +kernel
theorem dX1_gains_9 : decode cX1_gains 9 = .ok (.iload_n 2, 1) := by decide +kernel
theorem dX1_gains_10 : decode cX1_gains 10 = .ok (.ixor, 1) := by decide +kernel
theorem dX1_gains_11 : decode cX1_gains 11 = .ok (.invokevirtual 79, 3) := by decide +kernel
theorem dX1_gains_14 : decode cX1_gains 14 = .ok (.aload_n 0, 1) := by decide +kernel
theorem dX1_gains_15 : decode cX1_gains 15 = .ok (.iload_n 1, 1) := by decide +kernel
theorem dX1_gains_16 : decode cX1_gains 16 = .ok (.iload_n 3, 1) := by decide +kernel
theorem dX1_gains_17 : decode cX1_gains 17 = .ok (.invokevirtual 79, 3) := by decide +kernel
theorem dX1_gains_20 : decode cX1_gains 20 = .ok (.if_icmp .le 7, 3) := by decide +kernel
theorem dX1_gains_23 : decode cX1_gains 23 = .ok (.iconst 1, 1) := by decide +kernel
theorem dX1_gains_24 : decode cX1_gains 24 = .ok (.goto 4, 3) := by decide +kernel
theorem dX1_gains_27 : decode cX1_gains 27 = .ok (.iconst 0, 1) := by decide +kernel
theorem dX1_gains_28 : decode cX1_gains 28 = .ok (.ireturn, 1) := by decide +kernel
theorem dX1_howManySwaps_0 : decode cX1_howManySwaps 0 = .ok (.iconst 0, 1) := by decide +kernel
theorem dX1_howManySwaps_1 : decode cX1_howManySwaps 1 = .ok (.istore_n 1, 1) := by decide +kernel
theorem dX1_howManySwaps_2 : decode cX1_howManySwaps 2 = .ok (.iconst 0, 1) := by decide +kernel
theorem dX1_howManySwaps_3 : decode cX1_howManySwaps 3 = .ok (.istore_n 2, 1) := by decide +kernel
theorem dX1_howManySwaps_4 : decode cX1_howManySwaps 4 = .ok (.iload_n 2, 1) := by decide +kernel
theorem dX1_howManySwaps_5 : decode cX1_howManySwaps 5 = .ok (.bipush 12, 2) := by decide +kernel
theorem dX1_howManySwaps_7 : decode cX1_howManySwaps 7 = .ok (.if_icmp .ge 37, 3) := by decide +kernel
theorem dX1_howManySwaps_10 : decode cX1_howManySwaps 10 = .ok (.iload_n 2, 1) := by decide +kernel
theorem dX1_howManySwaps_11 : decode cX1_howManySwaps 11 = .ok (.iconst 1, 1) := by decide +kernel
theorem dX1_howManySwaps_12 : decode cX1_howManySwaps 12 = .ok (.iadd, 1) := by decide +kernel
theorem dX1_howManySwaps_13 : decode cX1_howManySwaps 13 = .ok (.istore_n 3, 1) := by decide +kernel
theorem dX1_howManySwaps_14 : decode cX1_howManySwaps 14 = .ok (.iload_n 3, 1) := by decide +kernel
theorem dX1_howManySwaps_15 : decode cX1_howManySwaps 15 = .ok (.bipush 12, 2) := by decide +kernel
theorem dX1_howManySwaps_17 : decode cX1_howManySwaps 17 = .ok (.if_icmp .ge 21, 3) := by decide +kernel
theorem dX1_howManySwaps_20 : decode cX1_howManySwaps 20 = .ok (.aload_n 0, 1) := by decide +kernel
theorem dX1_howManySwaps_21 : decode cX1_howManySwaps 21 = .ok (.iload_n 2, 1) := by decide +kernel
theorem dX1_howManySwaps_22 : decode cX1_howManySwaps 22 = .ok (.iload_n 3, 1) := by decide +kernel
theorem dX1_howManySwaps_23 : decode cX1_howManySwaps 23 = .ok (.invokevirtual 92, 3) := by decide +kernel
theorem dX1_howManySwaps_26 : decode cX1_howManySwaps 26 = .ok (.ifCond .eq 6, 3) := by decide +kernel
theorem dX1_howManySwaps_29 : decode cX1_howManySwaps 29 = .ok (.iinc 1 1, 3) := by decide +kernel
theorem dX1_howManySwaps_32 : decode cX1_howManySwaps 32 = .ok (.iinc 3 1, 3) := by decide +kernel
theorem dX1_howManySwaps_35 : decode cX1_howManySwaps 35 = .ok (.goto (-21), 3) := by decide +kernel
theorem dX1_howManySwaps_38 : decode cX1_howManySwaps 38 = .ok (.iinc 2 1, 3) := by decide +kernel
theorem dX1_howManySwaps_41 : decode cX1_howManySwaps 41 = .ok (.goto (-37), 3) := by decide +kernel
theorem dX1_howManySwaps_44 : decode cX1_howManySwaps 44 = .ok (.iload_n 1, 1) := by decide +kernel
theorem dX1_howManySwaps_45 : decode cX1_howManySwaps 45 = .ok (.ireturn, 1) := by decide +kernel
theorem dX1_swapAt_0 : decode cX1_swapAt 0 = .ok (.iconst 0, 1) := by decide +kernel
theorem dX1_swapAt_1 : decode cX1_swapAt 1 = .ok (.istore_n 2, 1) := by decide +kernel
theorem dX1_swapAt_2 : decode cX1_swapAt 2 = .ok (.iconst 0, 1) := by decide +kernel
theorem dX1_swapAt_3 : decode cX1_swapAt 3 = .ok (.istore_n 3, 1) := by decide +kernel
theorem dX1_swapAt_4 : decode cX1_swapAt 4 = .ok (.iload_n 3, 1) := by decide +kernel
theorem dX1_swapAt_5 : decode cX1_swapAt 5 = .ok (.bipush 12, 2) := by decide +kernel
theorem dX1_swapAt_7 : decode cX1_swapAt 7 = .ok (.if_icmp .ge 56, 3) := by decide +kernel
theorem dX1_swapAt_10 : decode cX1_swapAt 10 = .ok (.iload_n 3, 1) := by decide +kernel
theorem dX1_swapAt_11 : decode cX1_swapAt 11 = .ok (.iconst 1, 1) := by decide +kernel
theorem dX1_swapAt_12 : decode cX1_swapAt 12 = .ok (.iadd, 1) := by decide +kernel
theorem dX1_swapAt_13 : decode cX1_swapAt 13 = .ok (.istore 4, 2) := by decide +kernel
theorem dX1_swapAt_15 : decode cX1_swapAt 15 = .ok (.iload 4, 2) := by decide +kernel
theorem dX1_swapAt_17 : decode cX1_swapAt 17 = .ok (.bipush 12, 2) := by decide +kernel
theorem dX1_swapAt_19 : decode cX1_swapAt 19 = .ok (.if_icmp .ge 38, 3) := by decide +kernel
theorem dX1_swapAt_22 : decode cX1_swapAt 22 = .ok (.aload_n 0, 1) := by decide +kernel
theorem dX1_swapAt_23 : decode cX1_swapAt 23 = .ok (.iload_n 3, 1) := by decide +kernel
theorem dX1_swapAt_24 : decode cX1_swapAt 24 = .ok (.iload 4, 2) := by decide +kernel
theorem dX1_swapAt_26 : decode cX1_swapAt 26 = .ok (.invokevirtual 92, 3) := by decide +kernel
theorem dX1_swapAt_29 : decode cX1_swapAt 29 = .ok (.ifCond .ne 6, 3) := by decide +kernel
theorem dX1_swapAt_32 : decode cX1_swapAt 32 = .ok (.goto 19, 3) := by decide +kernel
theorem dX1_swapAt_35 : decode cX1_swapAt 35 = .ok (.iload_n 2, 1) := by decide +kernel
theorem dX1_swapAt_36 : decode cX1_swapAt 36 = .ok (.iload_n 1, 1) := by decide +kernel
theorem dX1_swapAt_37 : decode cX1_swapAt 37 = .ok (.if_icmp .ne 11, 3) := by decide +kernel
theorem dX1_swapAt_40 : decode cX1_swapAt 40 = .ok (.bipush 100, 2) := by decide +kernel
theorem dX1_swapAt_42 : decode cX1_swapAt 42 = .ok (.iload_n 3, 1) := by decide +kernel
theorem dX1_swapAt_43 : decode cX1_swapAt 43 = .ok (.imul, 1) := by decide +kernel
theorem dX1_swapAt_44 : decode cX1_swapAt 44 = .ok (.iload 4, 2) := by decide +kernel
theorem dX1_swapAt_46 : decode cX1_swapAt 46 = .ok (.iadd, 1) := by decide +kernel
theorem dX1_swapAt_47 : decode cX1_swapAt 47 = .ok (.ireturn, 1) := by decide +kernel
theorem dX1_swapAt_48 : decode cX1_swapAt 48 = .ok (.iinc 2 1, 3) := by decide +kernel
theorem dX1_swapAt_51 : decode cX1_swapAt 51 = .ok (.iinc 4 1, 3) := by decide +kernel
theorem dX1_swapAt_54 : decode cX1_swapAt 54 = .ok (.goto (-39), 3) := by decide +kernel
theorem dX1_swapAt_57 : decode cX1_swapAt 57 = .ok (.iinc 3 1, 3) := by decide +kernel
theorem dX1_swapAt_60 : decode cX1_swapAt 60 = .ok (.goto (-56), 3) := by decide +kernel
theorem dX1_swapAt_63 : decode cX1_swapAt 63 = .ok (.iconst (-1), 1) := by decide +kernel
theorem dX1_swapAt_64 : decode cX1_swapAt 64 = .ok (.ireturn, 1) := by decide +kernel
theorem dX1_lossOf_0 : decode cX1_lossOf 0 = .ok (.aload_n 0, 1) := by decide +kernel
theorem dX1_lossOf_1 : decode cX1_lossOf 1 = .ok (.getfield 21, 3) := by decide +kernel
theorem dX1_lossOf_4 : decode cX1_lossOf 4 = .ok (.iload_n 1, 1) := by decide +kernel
theorem dX1_lossOf_5 : decode cX1_lossOf 5 = .ok (.iaload, 1) := by decide +kernel
theorem dX1_lossOf_6 : decode cX1_lossOf 6 = .ok (.istore_n 2, 1) := by decide +kernel
theorem dX1_lossOf_7 : decode cX1_lossOf 7 = .ok (.iload_n 2, 1) := by decide +kernel
theorem dX1_lossOf_8 : decode cX1_lossOf 8 = .ok (.iconst (-1), 1) := by decide +kernel
theorem dX1_lossOf_9 : decode cX1_lossOf 9 = .ok (.if_icmp .ne 5, 3) := by decide +kernel
theorem dX1_lossOf_12 : decode cX1_lossOf 12 = .ok (.iconst 0, 1) := by decide +kernel
theorem dX1_lossOf_13 : decode cX1_lossOf 13 = .ok (.ireturn, 1) := by decide +kernel
theorem dX1_lossOf_14 : decode cX1_lossOf 14 = .ok (.aload_n 0, 1) := by decide +kernel
theorem dX1_lossOf_15 : decode cX1_lossOf 15 = .ok (.iload_n 2, 1) := by decide +kernel
theorem dX1_lossOf_16 : decode cX1_lossOf 16 = .ok (.invokevirtual 56, 3) := by decide +kernel
theorem dX1_lossOf_19 : decode cX1_lossOf 19 = .ok (.istore_n 3, 1) := by decide +kernel
theorem dX1_lossOf_20 : decode cX1_lossOf 20 = .ok (.aload_n 0, 1) := by decide +kernel
theorem dX1_lossOf_21 : decode cX1_lossOf 21 = .ok (.iload_n 2, 1) := by decide +kernel
theorem dX1_lossOf_22 : decode cX1_lossOf 22 = .ok (.iload_n 3, 1) := by decide +kernel
theorem dX1_lossOf_23 : decode cX1_lossOf 23 = .ok (.invokevirtual 79, 3) := by decide +kernel
theorem dX1_lossOf_26 : decode cX1_lossOf 26 = .ok (.aload_n 0, 1) := by decide +kernel
theorem dX1_lossOf_27 : decode cX1_lossOf 27 = .ok (.iload_n 2, 1) := by decide +kernel
theorem dX1_lossOf_28 : decode cX1_lossOf 28 = .ok (.iload_n 3, 1) := by decide +kernel
theorem dX1_lossOf_29 : decode cX1_lossOf 29 = .ok (.iconst 1, 1) := by decide +kernel
theorem dX1_lossOf_30 : decode cX1_lossOf 30 = .ok (.iload_n 1, 1) := by decide +kernel
theorem dX1_lossOf_31 : decode cX1_lossOf 31 = .ok (.ishl, 1) := by decide +kernel
theorem dX1_lossOf_32 : decode cX1_lossOf 32 = .ok (.iconst (-1), 1) := by decide +kernel
theorem dX1_lossOf_33 : decode cX1_lossOf 33 = .ok (.ixor, 1) := by decide +kernel
theorem dX1_lossOf_34 : decode cX1_lossOf 34 = .ok (.iand, 1) := by decide +kernel
theorem dX1_lossOf_35 : decode cX1_lossOf 35 = .ok (.invokevirtual 79, 3) := by decide +kernel
theorem dX1_lossOf_38 : decode cX1_lossOf 38 = .ok (.isub, 1) := by decide +kernel
theorem dX1_lossOf_39 : decode cX1_lossOf 39 = .ok (.ireturn, 1) := by decide +kernel
theorem dX1_saleBrings_0 : decode cX1_saleBrings 0 = .ok (.aload_n 0, 1) := by decide +kernel
theorem dX1_saleBrings_1 : decode cX1_saleBrings 1 = .ok (.iload_n 2, 1) := by decide +kernel
theorem dX1_saleBrings_2 : decode cX1_saleBrings 2 = .ok (.invokevirtual 56, 3) := by decide +kernel
theorem dX1_saleBrings_5 : decode cX1_saleBrings 5 = .ok (.istore_n 3, 1) := by decide +kernel
theorem dX1_saleBrings_6 : decode cX1_saleBrings 6 = .ok (.aload_n 0, 1) := by decide +kernel
theorem dX1_saleBrings_7 : decode cX1_saleBrings 7 = .ok (.iload_n 2, 1) := by decide +kernel
theorem dX1_saleBrings_8 : decode cX1_saleBrings 8 = .ok (.iload_n 3, 1) := by decide +kernel
theorem dX1_saleBrings_9 : decode cX1_saleBrings 9 = .ok (.iconst 1, 1) := by decide +kernel
theorem dX1_saleBrings_10 : decode cX1_saleBrings 10 = .ok (.iload_n 1, 1) := by decide +kernel
theorem dX1_saleBrings_11 : decode cX1_saleBrings 11 = .ok (.ishl, 1) := by decide +kernel
theorem dX1_saleBrings_12 : decode cX1_saleBrings 12 = .ok (.ior, 1) := by decide +kernel
theorem dX1_saleBrings_13 : decode cX1_saleBrings 13 = .ok (.invokevirtual 79, 3) := by decide +kernel
theorem dX1_saleBrings_16 : decode cX1_saleBrings 16 = .ok (.aload_n 0, 1) := by decide +kernel
theorem dX1_saleBrings_17 : decode cX1_saleBrings 17 = .ok (.iload_n 2, 1) := by decide +kernel
theorem dX1_saleBrings_18 : decode cX1_saleBrings 18 = .ok (.iload_n 3, 1) := by decide +kernel
theorem dX1_saleBrings_19 : decode cX1_saleBrings 19 = .ok (.invokevirtual 79, 3) := by decide +kernel
theorem dX1_saleBrings_22 : decode cX1_saleBrings 22 = .ok (.isub, 1) := by decide +kernel
theorem dX1_saleBrings_23 : decode cX1_saleBrings 23 = .ok (.aload_n 0, 1) := by decide +kernel
theorem dX1_saleBrings_24 : decode cX1_saleBrings 24 = .ok (.iload_n 1, 1) := by decide +kernel
theorem dX1_saleBrings_25 : decode cX1_saleBrings 25 = .ok (.invokevirtual 95, 3) := by decide +kernel
theorem dX1_saleBrings_28 : decode cX1_saleBrings 28 = .ok (.isub, 1) := by decide +kernel
theorem dX1_saleBrings_29 : decode cX1_saleBrings 29 = .ok (.ireturn, 1) := by decide +kernel
theorem dX1_bestBuyer_0 : decode cX1_bestBuyer 0 = .ok (.aload_n 0, 1) := by decide +kernel
theorem dX1_bestBuyer_1 : decode cX1_bestBuyer 1 = .ok (.iload_n 1, 1) := by decide +kernel
theorem dX1_bestBuyer_2 : decode cX1_bestBuyer 2 = .ok (.invokevirtual 95, 3) := by decide +kernel
theorem dX1_bestBuyer_5 : decode cX1_bestBuyer 5 = .ok (.istore_n 2, 1) := by decide +kernel
theorem dX1_bestBuyer_6 : decode cX1_bestBuyer 6 = .ok (.iconst (-1), 1) := by decide +kernel
theorem dX1_bestBuyer_7 : decode cX1_bestBuyer 7 = .ok (.istore_n 3, 1) := by decide +kernel
theorem dX1_bestBuyer_8 : decode cX1_bestBuyer 8 = .ok (.iconst 0, 1) := by decide +kernel
theorem dX1_bestBuyer_9 : decode cX1_bestBuyer 9 = .ok (.istore 4, 2) := by decide +kernel
theorem dX1_bestBuyer_11 : decode cX1_bestBuyer 11 = .ok (.iconst 0, 1) := by decide +kernel
theorem dX1_bestBuyer_12 : decode cX1_bestBuyer 12 = .ok (.istore 5, 2) := by decide +kernel
theorem dX1_bestBuyer_14 : decode cX1_bestBuyer 14 = .ok (.iload 5, 2) := by decide +kernel
theorem dX1_bestBuyer_16 : decode cX1_bestBuyer 16 = .ok (.aload_n 0, 1) := by decide +kernel
theorem dX1_bestBuyer_17 : decode cX1_bestBuyer 17 = .ok (.getfield 40, 3) := by decide +kernel
theorem dX1_bestBuyer_20 : decode cX1_bestBuyer 20 = .ok (.if_icmp .ge 57, 3) := by decide +kernel
theorem dX1_bestBuyer_23 : decode cX1_bestBuyer 23 = .ok (.iload 5, 2) := by decide +kernel
theorem dX1_bestBuyer_25 : decode cX1_bestBuyer 25 = .ok (.aload_n 0, 1) := by decide +kernel
theorem dX1_bestBuyer_26 : decode cX1_bestBuyer 26 = .ok (.getfield 21, 3) := by decide +kernel
theorem dX1_bestBuyer_29 : decode cX1_bestBuyer 29 = .ok (.iload_n 1, 1) := by decide +kernel
theorem dX1_bestBuyer_30 : decode cX1_bestBuyer 30 = .ok (.iaload, 1) := by decide +kernel
theorem dX1_bestBuyer_31 : decode cX1_bestBuyer 31 = .ok (.if_icmp .eq 40, 3) := by decide +kernel
theorem dX1_bestBuyer_34 : decode cX1_bestBuyer 34 = .ok (.aload_n 0, 1) := by decide +kernel
theorem dX1_bestBuyer_35 : decode cX1_bestBuyer 35 = .ok (.getfield 18, 3) := by decide +kernel
theorem dX1_bestBuyer_38 : decode cX1_bestBuyer 38 = .ok (.iload 5, 2) := by decide +kernel
theorem dX1_bestBuyer_40 : decode cX1_bestBuyer 40 = .ok (.iaload, 1) := by decide +kernel
theorem dX1_bestBuyer_41 : decode cX1_bestBuyer 41 = .ok (.iload_n 2, 1) := by decide +kernel
theorem dX1_bestBuyer_42 : decode cX1_bestBuyer 42 = .ok (.if_icmp .ge 6, 3) := by decide +kernel
theorem dX1_bestBuyer_45 : decode cX1_bestBuyer 45 = .ok (.goto 26, 3) := by decide +kernel
theorem dX1_bestBuyer_48 : decode cX1_bestBuyer 48 = .ok (.aload_n 0, 1) := by decide +kernel
theorem dX1_bestBuyer_49 : decode cX1_bestBuyer 49 = .ok (.iload_n 1, 1) := by decide +kernel
theorem dX1_bestBuyer_50 : decode cX1_bestBuyer 50 = .ok (.iload 5, 2) := by decide +kernel
theorem dX1_bestBuyer_52 : decode cX1_bestBuyer 52 = .ok (.invokevirtual 98, 3) := by decide +kernel
theorem dX1_bestBuyer_55 : decode cX1_bestBuyer 55 = .ok (.istore 6, 2) := by decide +kernel
theorem dX1_bestBuyer_57 : decode cX1_bestBuyer 57 = .ok (.iload 6, 2) := by decide +kernel
theorem dX1_bestBuyer_59 : decode cX1_bestBuyer 59 = .ok (.iload 4, 2) := by decide +kernel
theorem dX1_bestBuyer_61 : decode cX1_bestBuyer 61 = .ok (.if_icmp .le 10, 3) := by decide +kernel
theorem dX1_bestBuyer_64 : decode cX1_bestBuyer 64 = .ok (.iload 6, 2) := by decide +kernel
theorem dX1_bestBuyer_66 : decode cX1_bestBuyer 66 = .ok (.istore 4, 2) := by decide +kernel
theorem dX1_bestBuyer_68 : decode cX1_bestBuyer 68 = .ok (.iload 5, 2) := by decide +kernel
theorem dX1_bestBuyer_70 : decode cX1_bestBuyer 70 = .ok (.istore_n 3, 1) := by decide +kernel
theorem dX1_bestBuyer_71 : decode cX1_bestBuyer 71 = .ok (.iinc 5 1, 3) := by decide +kernel
theorem dX1_bestBuyer_74 : decode cX1_bestBuyer 74 = .ok (.goto (-60), 3) := by decide +kernel
theorem dX1_bestBuyer_77 : decode cX1_bestBuyer 77 = .ok (.iload_n 3, 1) := by decide +kernel
theorem dX1_bestBuyer_78 : decode cX1_bestBuyer 78 = .ok (.ireturn, 1) := by decide +kernel
theorem dX1_fittingKinds_0 : decode cX1_fittingKinds 0 = .ok (.iconst 0, 1) := by decide +kernel
theorem dX1_fittingKinds_1 : decode cX1_fittingKinds 1 = .ok (.istore_n 2, 1) := by decide +kernel
theorem dX1_fittingKinds_2 : decode cX1_fittingKinds 2 = .ok (.iconst 0, 1) := by decide +kernel
theorem dX1_fittingKinds_3 : decode cX1_fittingKinds 3 = .ok (.istore_n 3, 1) := by decide +kernel
theorem dX1_fittingKinds_4 : decode cX1_fittingKinds 4 = .ok (.iload_n 3, 1) := by decide +kernel
theorem dX1_fittingKinds_5 : decode cX1_fittingKinds 5 = .ok (.bipush 6, 2) := by decide +kernel
theorem dX1_fittingKinds_7 : decode cX1_fittingKinds 7 = .ok (.if_icmp .ge 29, 3) := by decide +kernel
theorem dX1_fittingKinds_10 : decode cX1_fittingKinds 10 = .ok (.aload_n 0, 1) := by decide +kernel
theorem dX1_fittingKinds_11 : decode cX1_fittingKinds 11 = .ok (.iload_n 1, 1) := by decide +kernel
theorem dX1_fittingKinds_12 : decode cX1_fittingKinds 12 = .ok (.aload_n 0, 1) := by decide +kernel
theorem dX1_fittingKinds_13 : decode cX1_fittingKinds 13 = .ok (.getfield 30, 3) := by decide +kernel
theorem dX1_fittingKinds_16 : decode cX1_fittingKinds 16 = .ok (.iload_n 3, 1) := by decide +kernel
theorem dX1_fittingKinds_17 : decode cX1_fittingKinds 17 = .ok (.aaload, 1) := by decide +kernel
theorem dX1_fittingKinds_18 : decode cX1_fittingKinds 18 = .ok (.invokevirtual 101, 3) := by decide +kernel
theorem dX1_fittingKinds_21 : decode cX1_fittingKinds 21 = .ok (.ifCond .eq 9, 3) := by decide +kernel
theorem dX1_fittingKinds_24 : decode cX1_fittingKinds 24 = .ok (.iload_n 2, 1) := by decide +kernel
theorem dX1_fittingKinds_25 : decode cX1_fittingKinds 25 = .ok (.iconst 1, 1) := by decide +kernel
theorem dX1_fittingKinds_26 : decode cX1_fittingKinds 26 = .ok (.iload_n 3, 1) := by decide +kernel
theorem dX1_fittingKinds_27 : decode cX1_fittingKinds 27 = .ok (.ishl, 1) := by decide +kernel
theorem dX1_fittingKinds_28 : decode cX1_fittingKinds 28 = .ok (.ior, 1) := by decide +kernel
theorem dX1_fittingKinds_29 : decode cX1_fittingKinds 29 = .ok (.istore_n 2, 1) := by decide +kernel
theorem dX1_fittingKinds_30 : decode cX1_fittingKinds 30 = .ok (.iinc 3 1, 3) := by decide +kernel
theorem dX1_fittingKinds_33 : decode cX1_fittingKinds 33 = .ok (.goto (-29), 3) := by decide +kernel
theorem dX1_fittingKinds_36 : decode cX1_fittingKinds 36 = .ok (.iload_n 2, 1) := by decide +kernel
theorem dX1_fittingKinds_37 : decode cX1_fittingKinds 37 = .ok (.ireturn, 1) := by decide +kernel
theorem dX1_fitsAll_0 : decode cX1_fitsAll 0 = .ok (.iconst 0, 1) := by decide +kernel
theorem dX1_fitsAll_1 : decode cX1_fitsAll 1 = .ok (.istore_n 3, 1) := by decide +kernel
theorem dX1_fitsAll_2 : decode cX1_fitsAll 2 = .ok (.iload_n 3, 1) := by decide +kernel
theorem dX1_fitsAll_3 : decode cX1_fitsAll 3 = .ok (.aload_n 0, 1) := by decide +kernel
theorem dX1_fitsAll_4 : decode cX1_fitsAll 4 = .ok (.getfield 44, 3) := by decide +kernel
theorem dX1_fitsAll_7 : decode cX1_fitsAll 7 = .ok (.if_icmp .ge 73, 3) := by decide +kernel
theorem dX1_fitsAll_10 : decode cX1_fitsAll 10 = .ok (.iload_n 3, 1) := by decide +kernel
theorem dX1_fitsAll_11 : decode cX1_fitsAll 11 = .ok (.iconst 4, 1) := by decide +kernel
theorem dX1_fitsAll_12 : decode cX1_fitsAll 12 = .ok (.imul, 1) := by decide +kernel
theorem dX1_fitsAll_13 : decode cX1_fitsAll 13 = .ok (.istore 4, 2) := by decide +kernel
theorem dX1_fitsAll_15 : decode cX1_fitsAll 15 = .ok (.aload_n 0, 1) := by decide +kernel
theorem dX1_fitsAll_16 : decode cX1_fitsAll 16 = .ok (.getfield 24, 3) := by decide +kernel
theorem dX1_fitsAll_19 : decode cX1_fitsAll 19 = .ok (.iload 4, 2) := by decide +kernel
theorem dX1_fitsAll_21 : decode cX1_fitsAll 21 = .ok (.iaload, 1) := by decide +kernel
theorem dX1_fitsAll_22 : decode cX1_fitsAll 22 = .ok (.iload_n 1, 1) := by decide +kernel
theorem dX1_fitsAll_23 : decode cX1_fitsAll 23 = .ok (.if_icmp .eq 6, 3) := by decide +kernel
theorem dX1_fitsAll_26 : decode cX1_fitsAll 26 = .ok (.goto 48, 3) := by decide +kernel
theorem dX1_fitsAll_29 : decode cX1_fitsAll 29 = .ok (.aload_n 2, 1) := by decide +kernel
theorem dX1_fitsAll_30 : decode cX1_fitsAll 30 = .ok (.aload_n 0, 1) := by decide +kernel
theorem dX1_fitsAll_31 : decode cX1_fitsAll 31 = .ok (.getfield 24, 3) := by decide +kernel
theorem dX1_fitsAll_34 : decode cX1_fitsAll 34 = .ok (.iload 4, 2) := by decide +kernel
theorem dX1_fitsAll_36 : decode cX1_fitsAll 36 = .ok (.iconst 1, 1) := by decide +kernel
theorem dX1_fitsAll_37 : decode cX1_fitsAll 37 = .ok (.iadd, 1) := by decide +kernel
theorem dX1_fitsAll_38 : decode cX1_fitsAll 38 = .ok (.iaload, 1) := by decide +kernel
theorem dX1_fitsAll_39 : decode cX1_fitsAll 39 = .ok (.aload_n 0, 1) := by decide +kernel
theorem dX1_fitsAll_40 : decode cX1_fitsAll 40 = .ok (.getfield 24, 3) := by decide +kernel
theorem dX1_fitsAll_43 : decode cX1_fitsAll 43 = .ok (.iload 4, 2) := by decide +kernel
theorem dX1_fitsAll_45 : decode cX1_fitsAll 45 = .ok (.iconst 3, 1) := by decide +kernel
theorem dX1_fitsAll_46 : decode cX1_fitsAll 46 = .ok (.iadd, 1) := by decide +kernel
theorem dX1_fitsAll_47 : decode cX1_fitsAll 47 = .ok (.iaload, 1) := by decide +kernel
theorem dX1_fitsAll_48 : decode cX1_fitsAll 48 = .ok (.iconst 1, 1) := by decide +kernel
theorem dX1_fitsAll_49 : decode cX1_fitsAll 49 = .ok (.if_icmp .ne 7, 3) := by decide +kernel
theorem dX1_fitsAll_52 : decode cX1_fitsAll 52 = .ok (.iconst 1, 1) := by decide +kernel
theorem dX1_fitsAll_53 : decode cX1_fitsAll 53 = .ok (.goto 4, 3) := by decide +kernel
theorem dX1_fitsAll_56 : decode cX1_fitsAll 56 = .ok (.iconst 0, 1) := by decide +kernel
theorem dX1_fitsAll_57 : decode cX1_fitsAll 57 = .ok (.invokevirtual 73, 3) := by decide +kernel
theorem dX1_fitsAll_60 : decode cX1_fitsAll 60 = .ok (.aload_n 0, 1) := by decide +kernel
theorem dX1_fitsAll_61 : decode cX1_fitsAll 61 = .ok (.getfield 24, 3) := by decide +kernel
theorem dX1_fitsAll_64 : decode cX1_fitsAll 64 = .ok (.iload 4, 2) := by decide +kernel
theorem dX1_fitsAll_66 : decode cX1_fitsAll 66 = .ok (.iconst 2, 1) := by decide +kernel
theorem dX1_fitsAll_67 : decode cX1_fitsAll 67 = .ok (.iadd, 1) := by decide +kernel
theorem dX1_fitsAll_68 : decode cX1_fitsAll 68 = .ok (.iaload, 1) := by decide +kernel
theorem dX1_fitsAll_69 : decode cX1_fitsAll 69 = .ok (.if_icmp .eq 5, 3) := by decide +kernel
theorem dX1_fitsAll_72 : decode cX1_fitsAll 72 = .ok (.iconst 0, 1) := by decide +kernel
theorem dX1_fitsAll_73 : decode cX1_fitsAll 73 = .ok (.ireturn, 1) := by decide +kernel
theorem dX1_fitsAll_74 : decode cX1_fitsAll 74 = .ok (.iinc 3 1, 3) := by decide +kernel
theorem dX1_fitsAll_77 : decode cX1_fitsAll 77 = .ok (.goto (-75), 3) := by decide +kernel
theorem dX1_fitsAll_80 : decode cX1_fitsAll 80 = .ok (.iconst 1, 1) := by decide +kernel
theorem dX1_fitsAll_81 : decode cX1_fitsAll 81 = .ok (.ireturn, 1) := by decide +kernel
theorem dX1_tellingCell_0 : decode cX1_tellingCell 0 = .ok (.iload_n 1, 1) := by decide +kernel
theorem dX1_tellingCell_1 : decode cX1_tellingCell 1 = .ok (.ifCond .ne 5, 3) := by decide +kernel
theorem dX1_tellingCell_4 : decode cX1_tellingCell 4 = .ok (.iconst (-1), 1) := by decide +kernel
theorem dX1_tellingCell_5 : decode cX1_tellingCell 5 = .ok (.ireturn, 1) := by decide +kernel
theorem dX1_tellingCell_6 : decode cX1_tellingCell 6 = .ok (.iconst (-1), 1) := by decide +kernel
theorem dX1_tellingCell_7 : decode cX1_tellingCell 7 = .ok (.istore_n 2, 1) := by decide +kernel
theorem dX1_tellingCell_8 : decode cX1_tellingCell 8 = .ok (.bipush 7, 2) := by decide +kernel
theorem dX1_tellingCell_10 : decode cX1_tellingCell 10 = .ok (.istore_n 3, 1) := by decide +kernel
theorem dX1_tellingCell_11 : decode cX1_tellingCell 11 = .ok (.iconst 0, 1) := by decide +kernel
theorem dX1_tellingCell_12 : decode cX1_tellingCell 12 = .ok (.istore 4, 2) := by decide +kernel
theorem dX1_tellingCell_14 : decode cX1_tellingCell 14 = .ok (.iload 4, 2) := by decide +kernel
theorem dX1_tellingCell_16 : decode cX1_tellingCell 16 = .ok (.bipush 12, 2) := by decide +kernel
theorem dX1_tellingCell_18 : decode cX1_tellingCell 18 = .ok (.if_icmp .ge 30, 3) := by decide +kernel
theorem dX1_tellingCell_21 : decode cX1_tellingCell 21 = .ok (.aload_n 0, 1) := by decide +kernel
theorem dX1_tellingCell_22 : decode cX1_tellingCell 22 = .ok (.iload_n 1, 1) := by decide +kernel
theorem dX1_tellingCell_23 : decode cX1_tellingCell 23 = .ok (.iload 4, 2) := by decide +kernel
theorem dX1_tellingCell_25 : decode cX1_tellingCell 25 = .ok (.invokevirtual 105, 3) := by decide +kernel
theorem dX1_tellingCell_28 : decode cX1_tellingCell 28 = .ok (.istore 5, 2) := by decide +kernel
theorem dX1_tellingCell_30 : decode cX1_tellingCell 30 = .ok (.iload 5, 2) := by decide +kernel
theorem dX1_tellingCell_32 : decode cX1_tellingCell 32 = .ok (.iload_n 3, 1) := by decide +kernel
theorem dX1_tellingCell_33 : decode cX1_tellingCell 33 = .ok (.if_icmp .ge 9, 3) := by decide +kernel
theorem dX1_tellingCell_36 : decode cX1_tellingCell 36 = .ok (.iload 5, 2) := by decide +kernel
theorem dX1_tellingCell_38 : decode cX1_tellingCell 38 = .ok (.istore_n 3, 1) := by decide +kernel
theorem dX1_tellingCell_39 : decode cX1_tellingCell 39 = .ok (.iload 4, 2) := by decide +kernel
theorem dX1_tellingCell_41 : decode cX1_tellingCell 41 = .ok (.istore_n 2, 1) := by decide +kernel
theorem dX1_tellingCell_42 : decode cX1_tellingCell 42 = .ok (.iinc 4 1, 3) := by decide +kernel
theorem dX1_tellingCell_45 : decode cX1_tellingCell 45 = .ok (.goto (-31), 3) := by decide +kernel
theorem dX1_tellingCell_48 : decode cX1_tellingCell 48 = .ok (.iload_n 2, 1) := by decide +kernel
theorem dX1_tellingCell_49 : decode cX1_tellingCell 49 = .ok (.ireturn, 1) := by decide +kernel
theorem dX1_mostAlike_0 : decode cX1_mostAlike 0 = .ok (.iconst 0, 1) := by decide +kernel
theorem dX1_mostAlike_1 : decode cX1_mostAlike 1 = .ok (.istore_n 3, 1) := by decide +kernel
theorem dX1_mostAlike_2 : decode cX1_mostAlike 2 = .ok (.iconst 0, 1) := by decide +kernel
theorem dX1_mostAlike_3 : decode cX1_mostAlike 3 = .ok (.istore 4, 2) := by decide +kernel
theorem dX1_mostAlike_5 : decode cX1_mostAlike 5 = .ok (.iload 4, 2) := by decide +kernel
theorem dX1_mostAlike_7 : decode cX1_mostAlike 7 = .ok (.bipush 6, 2) := by decide +kernel
theorem dX1_mostAlike_9 : decode cX1_mostAlike 9 = .ok (.if_icmp .ge 41, 3) := by decide +kernel
theorem dX1_mostAlike_12 : decode cX1_mostAlike 12 = .ok (.iload_n 1, 1) := by decide +kernel
theorem dX1_mostAlike_13 : decode cX1_mostAlike 13 = .ok (.iload 4, 2) := by decide +kernel
theorem dX1_mostAlike_15 : decode cX1_mostAlike 15 = .ok (.invokestatic 69, 3) := by decide +kernel
theorem dX1_mostAlike_18 : decode cX1_mostAlike 18 = .ok (.ifCond .eq 26, 3) := by decide +kernel
theorem dX1_mostAlike_21 : decode cX1_mostAlike 21 = .ok (.iload_n 3, 1) := by decide +kernel
theorem dX1_mostAlike_22 : decode cX1_mostAlike 22 = .ok (.aload_n 0, 1) := by decide +kernel
theorem dX1_mostAlike_23 : decode cX1_mostAlike 23 = .ok (.iload_n 1, 1) := by decide +kernel
theorem dX1_mostAlike_24 : decode cX1_mostAlike 24 = .ok (.iload_n 2, 1) := by decide +kernel
theorem dX1_mostAlike_25 : decode cX1_mostAlike 25 = .ok (.aload_n 0, 1) := by decide +kernel
theorem dX1_mostAlike_26 : decode cX1_mostAlike 26 = .ok (.getfield 30, 3) := by decide +kernel
theorem dX1_mostAlike_29 : decode cX1_mostAlike 29 = .ok (.iload 4, 2) := by decide +kernel
theorem dX1_mostAlike_31 : decode cX1_mostAlike 31 = .ok (.aaload, 1) := by decide +kernel
theorem dX1_mostAlike_32 : decode cX1_mostAlike 32 = .ok (.iload_n 2, 1) := by decide +kernel
theorem dX1_mostAlike_33 : decode cX1_mostAlike 33 = .ok (.iconst 0, 1) := by decide +kernel
theorem dX1_mostAlike_34 : decode cX1_mostAlike 34 = .ok (.invokevirtual 73, 3) := by decide +kernel
theorem dX1_mostAlike_37 : decode cX1_mostAlike 37 = .ok (.invokevirtual 108, 3) := by decide +kernel
theorem dX1_mostAlike_40 : decode cX1_mostAlike 40 = .ok (.invokestatic 112, 3) := by decide +kernel
theorem dX1_mostAlike_43 : decode cX1_mostAlike 43 = .ok (.istore_n 3, 1) := by decide +kernel
theorem dX1_mostAlike_44 : decode cX1_mostAlike 44 = .ok (.iinc 4 1, 3) := by decide +kernel
theorem dX1_mostAlike_47 : decode cX1_mostAlike 47 = .ok (.goto (-42), 3) := by decide +kernel
theorem dX1_mostAlike_50 : decode cX1_mostAlike 50 = .ok (.iload_n 3, 1) := by decide +kernel
theorem dX1_mostAlike_51 : decode cX1_mostAlike 51 = .ok (.ireturn, 1) := by decide +kernel
theorem dX1_howManyAs_0 : decode cX1_howManyAs 0 = .ok (.iconst 0, 1) := by decide +kernel
theorem dX1_howManyAs_1 : decode cX1_howManyAs 1 = .ok (.istore 4, 2) := by decide +kernel
theorem dX1_howManyAs_3 : decode cX1_howManyAs 3 = .ok (.iconst 0, 1) := by decide +kernel
theorem dX1_howManyAs_4 : decode cX1_howManyAs 4 = .ok (.istore 5, 2) := by decide +kernel
theorem dX1_howManyAs_6 : decode cX1_howManyAs 6 = .ok (.iload 5, 2) := by decide +kernel
theorem dX1_howManyAs_8 : decode cX1_howManyAs 8 = .ok (.bipush 6, 2) := by decide +kernel
theorem dX1_howManyAs_10 : decode cX1_howManyAs 10 = .ok (.if_icmp .ge 37, 3) := by decide +kernel
theorem dX1_howManyAs_13 : decode cX1_howManyAs 13 = .ok (.iload_n 1, 1) := by decide +kernel
theorem dX1_howManyAs_14 : decode cX1_howManyAs 14 = .ok (.iload 5, 2) := by decide +kernel
theorem dX1_howManyAs_16 : decode cX1_howManyAs 16 = .ok (.invokestatic 69, 3) := by decide +kernel
theorem dX1_howManyAs_19 : decode cX1_howManyAs 19 = .ok (.ifCond .eq 22, 3) := by decide +kernel
theorem dX1_howManyAs_22 : decode cX1_howManyAs 22 = .ok (.aload_n 0, 1) := by decide +kernel
theorem dX1_howManyAs_23 : decode cX1_howManyAs 23 = .ok (.getfield 30, 3) := by decide +kernel
theorem dX1_howManyAs_26 : decode cX1_howManyAs 26 = .ok (.iload 5, 2) := by decide +kernel
theorem dX1_howManyAs_28 : decode cX1_howManyAs 28 = .ok (.aaload, 1) := by decide +kernel
theorem dX1_howManyAs_29 : decode cX1_howManyAs 29 = .ok (.iload_n 2, 1) := by decide +kernel
theorem dX1_howManyAs_30 : decode cX1_howManyAs 30 = .ok (.iconst 0, 1) := by decide +kernel
theorem dX1_howManyAs_31 : decode cX1_howManyAs 31 = .ok (.invokevirtual 73, 3) := by decide +kernel
theorem dX1_howManyAs_34 : decode cX1_howManyAs 34 = .ok (.iload_n 3, 1) := by decide +kernel
theorem dX1_howManyAs_35 : decode cX1_howManyAs 35 = .ok (.if_icmp .ne 6, 3) := by decide +kernel
theorem dX1_howManyAs_38 : decode cX1_howManyAs 38 = .ok (.iinc 4 1, 3) := by decide +kernel
theorem dX1_howManyAs_41 : decode cX1_howManyAs 41 = .ok (.iinc 5 1, 3) := by decide +kernel
theorem dX1_howManyAs_44 : decode cX1_howManyAs 44 = .ok (.goto (-38), 3) := by decide +kernel
theorem dX1_howManyAs_47 : decode cX1_howManyAs 47 = .ok (.iload 4, 2) := by decide +kernel
theorem dX1_howManyAs_49 : decode cX1_howManyAs 49 = .ok (.ireturn, 1) := by decide +kernel
theorem dX1_robbedBy_0 : decode cX1_robbedBy 0 = .ok (.aload_n 0, 1) := by decide +kernel
theorem dX1_robbedBy_1 : decode cX1_robbedBy 1 = .ok (.iload_n 1, 1) := by decide +kernel
theorem dX1_robbedBy_2 : decode cX1_robbedBy 2 = .ok (.invokevirtual 56, 3) := by decide +kernel
theorem dX1_robbedBy_5 : decode cX1_robbedBy 5 = .ok (.istore_n 3, 1) := by decide +kernel
theorem dX1_robbedBy_6 : decode cX1_robbedBy 6 = .ok (.iload_n 3, 1) := by decide +kernel
theorem dX1_robbedBy_7 : decode cX1_robbedBy 7 = .ok (.iload_n 2, 1) := by decide +kernel
theorem dX1_robbedBy_8 : decode cX1_robbedBy 8 = .ok (.iconst (-1), 1) := by decide +kernel
theorem dX1_robbedBy_9 : decode cX1_robbedBy 9 = .ok (.ixor, 1) := by decide +kernel
theorem dX1_robbedBy_10 : decode cX1_robbedBy 10 = .ok (.iand, 1) := by decide +kernel
theorem dX1_robbedBy_11 : decode cX1_robbedBy 11 = .ok (.ifCond .eq 5, 3) := by decide +kernel
theorem dX1_robbedBy_14 : decode cX1_robbedBy 14 = .ok (.iconst 0, 1) := by decide +kernel
theorem dX1_robbedBy_15 : decode cX1_robbedBy 15 = .ok (.ireturn, 1) := by decide +kernel
theorem dX1_robbedBy_16 : decode cX1_robbedBy 16 = .ok (.iload_n 2, 1) := by decide +kernel
theorem dX1_robbedBy_17 : decode cX1_robbedBy 17 = .ok (.iload_n 3, 1) := by decide +kernel
theorem dX1_robbedBy_18 : decode cX1_robbedBy 18 = .ok (.iconst (-1), 1) := by decide +kernel
theorem dX1_robbedBy_19 : decode cX1_robbedBy 19 = .ok (.ixor, 1) := by decide +kernel
theorem dX1_robbedBy_20 : decode cX1_robbedBy 20 = .ok (.iand, 1) := by decide +kernel
theorem dX1_robbedBy_21 : decode cX1_robbedBy 21 = .ok (.istore 4, 2) := by decide +kernel
theorem dX1_robbedBy_23 : decode cX1_robbedBy 23 = .ok (.iconst 0, 1) := by decide +kernel
theorem dX1_robbedBy_24 : decode cX1_robbedBy 24 = .ok (.istore 5, 2) := by decide +kernel
theorem dX1_robbedBy_26 : decode cX1_robbedBy 26 = .ok (.iconst 0, 1) := by decide +kernel
theorem dX1_robbedBy_27 : decode cX1_robbedBy 27 = .ok (.istore 6, 2) := by decide +kernel
theorem dX1_robbedBy_29 : decode cX1_robbedBy 29 = .ok (.iload 6, 2) := by decide +kernel
theorem dX1_robbedBy_31 : decode cX1_robbedBy 31 = .ok (.aload_n 0, 1) := by decide +kernel
theorem dX1_robbedBy_32 : decode cX1_robbedBy 32 = .ok (.getfield 40, 3) := by decide +kernel
theorem dX1_robbedBy_35 : decode cX1_robbedBy 35 = .ok (.if_icmp .ge 38, 3) := by decide +kernel
theorem dX1_robbedBy_38 : decode cX1_robbedBy 38 = .ok (.iload 6, 2) := by decide +kernel
theorem dX1_robbedBy_40 : decode cX1_robbedBy 40 = .ok (.iload_n 1, 1) := by decide +kernel
theorem dX1_robbedBy_41 : decode cX1_robbedBy 41 = .ok (.if_icmp .eq 26, 3) := by decide +kernel
theorem dX1_robbedBy_44 : decode cX1_robbedBy 44 = .ok (.iload 4, 2) := by decide +kernel
theorem dX1_robbedBy_46 : decode cX1_robbedBy 46 = .ok (.aload_n 0, 1) := by decide +kernel
theorem dX1_robbedBy_47 : decode cX1_robbedBy 47 = .ok (.iload 6, 2) := by decide +kernel
theorem dX1_robbedBy_49 : decode cX1_robbedBy 49 = .ok (.invokevirtual 56, 3) := by decide +kernel
theorem dX1_robbedBy_52 : decode cX1_robbedBy 52 = .ok (.iconst (-1), 1) := by decide +kernel
theorem dX1_robbedBy_53 : decode cX1_robbedBy 53 = .ok (.ixor, 1) := by decide +kernel
theorem dX1_robbedBy_54 : decode cX1_robbedBy 54 = .ok (.iand, 1) := by decide +kernel
theorem dX1_robbedBy_55 : decode cX1_robbedBy 55 = .ok (.ifCond .ne 12, 3) := by decide +kernel
theorem dX1_robbedBy_58 : decode cX1_robbedBy 58 = .ok (.iload 5, 2) := by decide +kernel
theorem dX1_robbedBy_60 : decode cX1_robbedBy 60 = .ok (.iconst 1, 1) := by decide +kernel
theorem dX1_robbedBy_61 : decode cX1_robbedBy 61 = .ok (.iload 6, 2) := by decide +kernel
theorem dX1_robbedBy_63 : decode cX1_robbedBy 63 = .ok (.ishl, 1) := by decide +kernel
theorem dX1_robbedBy_64 : decode cX1_robbedBy 64 = .ok (.ior, 1) := by decide +kernel
theorem dX1_robbedBy_65 : decode cX1_robbedBy 65 = .ok (.istore 5, 2) := by decide +kernel
theorem dX1_robbedBy_67 : decode cX1_robbedBy 67 = .ok (.iinc 6 1, 3) := by decide +kernel
theorem dX1_robbedBy_70 : decode cX1_robbedBy 70 = .ok (.goto (-41), 3) := by decide +kernel
theorem dX1_robbedBy_73 : decode cX1_robbedBy 73 = .ok (.iload 5, 2) := by decide +kernel
theorem dX1_robbedBy_75 : decode cX1_robbedBy 75 = .ok (.ireturn, 1) := by decide +kernel
theorem dX1_tenfoldMean_0 : decode cX1_tenfoldMean 0 = .ok (.aload_n 0, 1) := by decide +kernel
theorem dX1_tenfoldMean_1 : decode cX1_tenfoldMean 1 = .ok (.iload_n 1, 1) := by decide +kernel
theorem dX1_tenfoldMean_2 : decode cX1_tenfoldMean 2 = .ok (.invokevirtual 56, 3) := by decide +kernel
theorem dX1_tenfoldMean_5 : decode cX1_tenfoldMean 5 = .ok (.istore_n 3, 1) := by decide +kernel
theorem dX1_tenfoldMean_6 : decode cX1_tenfoldMean 6 = .ok (.iconst 0, 1) := by decide +kernel
theorem dX1_tenfoldMean_7 : decode cX1_tenfoldMean 7 = .ok (.istore 4, 2) := by decide +kernel
theorem dX1_tenfoldMean_9 : decode cX1_tenfoldMean 9 = .ok (.iconst 0, 1) := by decide +kernel
theorem dX1_tenfoldMean_10 : decode cX1_tenfoldMean 10 = .ok (.istore 5, 2) := by decide +kernel
theorem dX1_tenfoldMean_12 : decode cX1_tenfoldMean 12 = .ok (.iload 5, 2) := by decide +kernel
theorem dX1_tenfoldMean_14 : decode cX1_tenfoldMean 14 = .ok (.bipush 12, 2) := by decide +kernel
theorem dX1_tenfoldMean_16 : decode cX1_tenfoldMean 16 = .ok (.if_icmp .ge 66, 3) := by decide +kernel
theorem dX1_tenfoldMean_19 : decode cX1_tenfoldMean 19 = .ok (.iload_n 3, 1) := by decide +kernel
theorem dX1_tenfoldMean_20 : decode cX1_tenfoldMean 20 = .ok (.iload 5, 2) := by decide +kernel
theorem dX1_tenfoldMean_22 : decode cX1_tenfoldMean 22 = .ok (.invokestatic 69, 3) := by decide +kernel
theorem dX1_tenfoldMean_25 : decode cX1_tenfoldMean 25 = .ok (.ifCond .ne 6, 3) := by decide +kernel
theorem dX1_tenfoldMean_28 : decode cX1_tenfoldMean 28 = .ok (.goto 48, 3) := by decide +kernel
theorem dX1_tenfoldMean_31 : decode cX1_tenfoldMean 31 = .ok (.aload_n 0, 1) := by decide +kernel
theorem dX1_tenfoldMean_32 : decode cX1_tenfoldMean 32 = .ok (.iload_n 1, 1) := by decide +kernel
theorem dX1_tenfoldMean_33 : decode cX1_tenfoldMean 33 = .ok (.invokevirtual 65, 3) := by decide +kernel
theorem dX1_tenfoldMean_36 : decode cX1_tenfoldMean 36 = .ok (.iload 5, 2) := by decide +kernel
theorem dX1_tenfoldMean_38 : decode cX1_tenfoldMean 38 = .ok (.iload_n 3, 1) := by decide +kernel
theorem dX1_tenfoldMean_39 : decode cX1_tenfoldMean 39 = .ok (.iload 5, 2) := by decide +kernel
theorem dX1_tenfoldMean_41 : decode cX1_tenfoldMean 41 = .ok (.iconst 1, 1) := by decide +kernel
theorem dX1_tenfoldMean_42 : decode cX1_tenfoldMean 42 = .ok (.isub, 1) := by decide +kernel
theorem dX1_tenfoldMean_43 : decode cX1_tenfoldMean 43 = .ok (.invokestatic 69, 3) := by decide +kernel
theorem dX1_tenfoldMean_46 : decode cX1_tenfoldMean 46 = .ok (.invokevirtual 73, 3) := by decide +kernel
theorem dX1_tenfoldMean_49 : decode cX1_tenfoldMean 49 = .ok (.istore 6, 2) := by decide +kernel
theorem dX1_tenfoldMean_51 : decode cX1_tenfoldMean 51 = .ok (.iload 4, 2) := by decide +kernel
theorem dX1_tenfoldMean_53 : decode cX1_tenfoldMean 53 = .ok (.iload 6, 2) := by decide +kernel
theorem dX1_tenfoldMean_55 : decode cX1_tenfoldMean 55 = .ok (.iload 5, 2) := by decide +kernel
theorem dX1_tenfoldMean_57 : decode cX1_tenfoldMean 57 = .ok (.invokestatic 117, 3) := by decide +kernel
theorem dX1_tenfoldMean_60 : decode cX1_tenfoldMean 60 = .ok (.ifCond .eq 10, 3) := by decide +kernel
theorem dX1_tenfoldMean_63 : decode cX1_tenfoldMean 63 = .ok (.bipush 10, 2) := by decide +kernel
theorem dX1_tenfoldMean_65 : decode cX1_tenfoldMean 65 = .ok (.iload_n 2, 1) := by decide +kernel
theorem dX1_tenfoldMean_66 : decode cX1_tenfoldMean 66 = .ok (.isub, 1) := by decide +kernel
theorem dX1_tenfoldMean_67 : decode cX1_tenfoldMean 67 = .ok (.goto 5, 3) := by decide +kernel
theorem dX1_tenfoldMean_70 : decode cX1_tenfoldMean 70 = .ok (.bipush 10, 2) := by decide +kernel
theorem dX1_tenfoldMean_72 : decode cX1_tenfoldMean 72 = .ok (.imul, 1) := by decide +kernel
theorem dX1_tenfoldMean_73 : decode cX1_tenfoldMean 73 = .ok (.iadd, 1) := by decide +kernel
theorem dX1_tenfoldMean_74 : decode cX1_tenfoldMean 74 = .ok (.istore 4, 2) := by decide +kernel
theorem dX1_tenfoldMean_76 : decode cX1_tenfoldMean 76 = .ok (.iinc 5 1, 3) := by decide +kernel
theorem dX1_tenfoldMean_79 : decode cX1_tenfoldMean 79 = .ok (.goto (-67), 3) := by decide +kernel
theorem dX1_tenfoldMean_82 : decode cX1_tenfoldMean 82 = .ok (.iload 4, 2) := by decide +kernel
theorem dX1_tenfoldMean_84 : decode cX1_tenfoldMean 84 = .ok (.ireturn, 1) := by decide +kernel
theorem dX1_mixInto_0 : decode cX1_mixInto 0 = .ok (.lload_n 1, 1) := by decide +kernel
theorem dX1_mixInto_1 : decode cX1_mixInto 1 = .ok (.lstore_n 3, 1) := by decide +kernel
theorem dX1_mixInto_2 : decode cX1_mixInto 2 = .ok (.iconst 0, 1) := by decide +kernel
theorem dX1_mixInto_3 : decode cX1_mixInto 3 = .ok (.istore 5, 2) := by decide +kernel
theorem dX1_mixInto_5 : decode cX1_mixInto 5 = .ok (.iload 5, 2) := by decide +kernel
theorem dX1_mixInto_7 : decode cX1_mixInto 7 = .ok (.aload_n 0, 1) := by decide +kernel
theorem dX1_mixInto_8 : decode cX1_mixInto 8 = .ok (.getfield 40, 3) := by decide +kernel
theorem dX1_mixInto_11 : decode cX1_mixInto 11 = .ok (.if_icmp .ge 54, 3) := by decide +kernel
theorem dX1_mixInto_14 : decode cX1_mixInto 14 = .ok (.ldc2_w 121, 3) := by decide +kernel
theorem dX1_mixInto_17 : decode cX1_mixInto 17 = .ok (.lload_n 3, 1) := by decide +kernel
theorem dX1_mixInto_18 : decode cX1_mixInto 18 = .ok (.lmul, 1) := by decide +kernel
theorem dX1_mixInto_19 : decode cX1_mixInto 19 = .ok (.aload_n 0, 1) := by decide +kernel
theorem dX1_mixInto_20 : decode cX1_mixInto 20 = .ok (.getfield 9, 3) := by decide +kernel
theorem dX1_mixInto_23 : decode cX1_mixInto 23 = .ok (.iload 5, 2) := by decide +kernel
theorem dX1_mixInto_25 : decode cX1_mixInto 25 = .ok (.iaload, 1) := by decide +kernel
theorem dX1_mixInto_26 : decode cX1_mixInto 26 = .ok (.i2l, 1) := by decide +kernel
theorem dX1_mixInto_27 : decode cX1_mixInto 27 = .ok (.ladd, 1) := by decide +kernel
theorem dX1_mixInto_28 : decode cX1_mixInto 28 = .ok (.lstore_n 3, 1) := by decide +kernel
theorem dX1_mixInto_29 : decode cX1_mixInto 29 = .ok (.ldc2_w 121, 3) := by decide +kernel
theorem dX1_mixInto_32 : decode cX1_mixInto 32 = .ok (.lload_n 3, 1) := by decide +kernel
theorem dX1_mixInto_33 : decode cX1_mixInto 33 = .ok (.lmul, 1) := by decide +kernel
theorem dX1_mixInto_34 : decode cX1_mixInto 34 = .ok (.aload_n 0, 1) := by decide +kernel
theorem dX1_mixInto_35 : decode cX1_mixInto 35 = .ok (.getfield 15, 3) := by decide +kernel
theorem dX1_mixInto_38 : decode cX1_mixInto 38 = .ok (.iload 5, 2) := by decide +kernel
theorem dX1_mixInto_40 : decode cX1_mixInto 40 = .ok (.iaload, 1) := by decide +kernel
theorem dX1_mixInto_41 : decode cX1_mixInto 41 = .ok (.i2l, 1) := by decide +kernel
theorem dX1_mixInto_42 : decode cX1_mixInto 42 = .ok (.ladd, 1) := by decide +kernel
theorem dX1_mixInto_43 : decode cX1_mixInto 43 = .ok (.lstore_n 3, 1) := by decide +kernel
theorem dX1_mixInto_44 : decode cX1_mixInto 44 = .ok (.ldc2_w 121, 3) := by decide +kernel
theorem dX1_mixInto_47 : decode cX1_mixInto 47 = .ok (.lload_n 3, 1) := by decide +kernel
theorem dX1_mixInto_48 : decode cX1_mixInto 48 = .ok (.lmul, 1) := by decide +kernel
theorem dX1_mixInto_49 : decode cX1_mixInto 49 = .ok (.aload_n 0, 1) := by decide +kernel
theorem dX1_mixInto_50 : decode cX1_mixInto 50 = .ok (.getfield 18, 3) := by decide +kernel
theorem dX1_mixInto_53 : decode cX1_mixInto 53 = .ok (.iload 5, 2) := by decide +kernel
theorem dX1_mixInto_55 : decode cX1_mixInto 55 = .ok (.iaload, 1) := by decide +kernel
theorem dX1_mixInto_56 : decode cX1_mixInto 56 = .ok (.i2l, 1) := by decide +kernel
theorem dX1_mixInto_57 : decode cX1_mixInto 57 = .ok (.ladd, 1) := by decide +kernel
theorem dX1_mixInto_58 : decode cX1_mixInto 58 = .ok (.lstore_n 3, 1) := by decide +kernel
theorem dX1_mixInto_59 : decode cX1_mixInto 59 = .ok (.iinc 5 1, 3) := by decide +kernel
theorem dX1_mixInto_62 : decode cX1_mixInto 62 = .ok (.goto (-57), 3) := by decide +kernel
theorem dX1_mixInto_65 : decode cX1_mixInto 65 = .ok (.iconst 0, 1) := by decide +kernel
theorem dX1_mixInto_66 : decode cX1_mixInto 66 = .ok (.istore 5, 2) := by decide +kernel
theorem dX1_mixInto_68 : decode cX1_mixInto 68 = .ok (.iload 5, 2) := by decide +kernel
theorem dX1_mixInto_70 : decode cX1_mixInto 70 = .ok (.bipush 12, 2) := by decide +kernel
theorem dX1_mixInto_72 : decode cX1_mixInto 72 = .ok (.if_icmp .ge 24, 3) := by decide +kernel
theorem dX1_mixInto_75 : decode cX1_mixInto 75 = .ok (.ldc2_w 121, 3) := by decide +kernel
theorem dX1_mixInto_78 : decode cX1_mixInto 78 = .ok (.lload_n 3, 1) := by decide +kernel
theorem dX1_mixInto_79 : decode cX1_mixInto 79 = .ok (.lmul, 1) := by decide +kernel
theorem dX1_mixInto_80 : decode cX1_mixInto 80 = .ok (.aload_n 0, 1) := by decide +kernel
theorem dX1_mixInto_81 : decode cX1_mixInto 81 = .ok (.getfield 21, 3) := by decide +kernel
theorem dX1_mixInto_84 : decode cX1_mixInto 84 = .ok (.iload 5, 2) := by decide +kernel
theorem dX1_mixInto_86 : decode cX1_mixInto 86 = .ok (.iaload, 1) := by decide +kernel
theorem dX1_mixInto_87 : decode cX1_mixInto 87 = .ok (.i2l, 1) := by decide +kernel
theorem dX1_mixInto_88 : decode cX1_mixInto 88 = .ok (.ladd, 1) := by decide +kernel
theorem dX1_mixInto_89 : decode cX1_mixInto 89 = .ok (.lstore_n 3, 1) := by decide +kernel
theorem dX1_mixInto_90 : decode cX1_mixInto 90 = .ok (.iinc 5 1, 3) := by decide +kernel
theorem dX1_mixInto_93 : decode cX1_mixInto 93 = .ok (.goto (-25), 3) := by decide +kernel
theorem dX1_mixInto_96 : decode cX1_mixInto 96 = .ok (.iconst 0, 1) := by decide +kernel
theorem dX1_mixInto_97 : decode cX1_mixInto 97 = .ok (.istore 5, 2) := by decide +kernel
theorem dX1_mixInto_99 : decode cX1_mixInto 99 = .ok (.iload 5, 2) := by decide +kernel
theorem dX1_mixInto_101 : decode cX1_mixInto 101 = .ok (.aload_n 0, 1) := by decide +kernel
theorem dX1_mixInto_102 : decode cX1_mixInto 102 = .ok (.getfield 44, 3) := by decide +kernel
theorem dX1_mixInto_105 : decode cX1_mixInto 105 = .ok (.iconst 4, 1) := by decide +kernel
theorem dX1_mixInto_106 : decode cX1_mixInto 106 = .ok (.imul, 1) := by decide +kernel
theorem dX1_mixInto_107 : decode cX1_mixInto 107 = .ok (.if_icmp .ge 24, 3) := by decide +kernel
theorem dX1_mixInto_110 : decode cX1_mixInto 110 = .ok (.ldc2_w 121, 3) := by decide +kernel
theorem dX1_mixInto_113 : decode cX1_mixInto 113 = .ok (.lload_n 3, 1) := by decide +kernel
theorem dX1_mixInto_114 : decode cX1_mixInto 114 = .ok (.lmul, 1) := by decide +kernel
theorem dX1_mixInto_115 : decode cX1_mixInto 115 = .ok (.aload_n 0, 1) := by decide +kernel
theorem dX1_mixInto_116 : decode cX1_mixInto 116 = .ok (.getfield 24, 3) := by decide +kernel
theorem dX1_mixInto_119 : decode cX1_mixInto 119 = .ok (.iload 5, 2) := by decide +kernel
theorem dX1_mixInto_121 : decode cX1_mixInto 121 = .ok (.iaload, 1) := by decide +kernel
theorem dX1_mixInto_122 : decode cX1_mixInto 122 = .ok (.i2l, 1) := by decide +kernel
theorem dX1_mixInto_123 : decode cX1_mixInto 123 = .ok (.ladd, 1) := by decide +kernel
theorem dX1_mixInto_124 : decode cX1_mixInto 124 = .ok (.lstore_n 3, 1) := by decide +kernel
theorem dX1_mixInto_125 : decode cX1_mixInto 125 = .ok (.iinc 5 1, 3) := by decide +kernel
theorem dX1_mixInto_128 : decode cX1_mixInto 128 = .ok (.goto (-29), 3) := by decide +kernel
theorem dX1_mixInto_131 : decode cX1_mixInto 131 = .ok (.lload_n 3, 1) := by decide +kernel
theorem dX1_mixInto_132 : decode cX1_mixInto 132 = .ok (.lreturn, 1) := by decide +kernel
theorem dX2_init_0 : decode cX2_init 0 = .ok (.aload_n 0, 1) := by decide +kernel
theorem dX2_init_1 : decode cX2_init 1 = .ok (.invokespecial 3, 3) := by decide +kernel
theorem dX2_init_4 : decode cX2_init 4 = .ok (.aload_n 0, 1) := by decide +kernel
theorem dX2_init_5 : decode cX2_init 5 = .ok (.iconst 5, 1) := by decide +kernel
theorem dX2_init_6 : decode cX2_init 6 = .ok (.newarray .int, 2) := by decide +kernel
theorem dX2_init_8 : decode cX2_init 8 = .ok (.putfield 9, 3) := by decide +kernel
theorem dX2_init_11 : decode cX2_init 11 = .ok (.aload_n 0, 1) := by decide +kernel
theorem dX2_init_12 : decode cX2_init 12 = .ok (.iconst 5, 1) := by decide +kernel
theorem dX2_init_13 : decode cX2_init 13 = .ok (.newarray .int, 2) := by decide +kernel
theorem dX2_init_15 : decode cX2_init 15 = .ok (.putfield 15, 3) := by decide +kernel
theorem dX2_init_18 : decode cX2_init 18 = .ok (.return_, 1) := by decide +kernel
theorem dX2_search_0 : decode cX2_search 0 = .ok (.iload_n 2, 1) := by decide +kernel
theorem dX2_search_1 : decode cX2_search 1 = .ok (.ifCond .ne 8, 3) := by decide +kernel
theorem dX2_search_4 : decode cX2_search 4 = .ok (.aload_n 0, 1) := by decide +kernel
theorem dX2_search_5 : decode cX2_search 5 = .ok (.iconst (-1), 1) := by decide +kernel
theorem dX2_search_6 : decode cX2_search 6 = .ok (.putfield 18, 3) := by decide +kernel
theorem dX2_search_9 : decode cX2_search 9 = .ok (.iload_n 2, 1) := by decide +kernel
theorem dX2_search_10 : decode cX2_search 10 = .ok (.aload_n 1, 1) := by decide +kernel
theorem dX2_search_11 : decode cX2_search 11 = .ok (.getfield 22, 3) := by decide +kernel
theorem dX2_search_14 : decode cX2_search 14 = .ok (.if_icmp .ge 8, 3) := by decide +kernel
theorem dX2_search_17 : decode cX2_search 17 = .ok (.iload_n 2, 1) := by decide +kernel
theorem dX2_search_18 : decode cX2_search 18 = .ok (.iconst 5, 1) := by decide +kernel
theorem dX2_search_19 : decode cX2_search 19 = .ok (.if_icmp .lt 10, 3) := by decide +kernel
theorem dX2_search_22 : decode cX2_search 22 = .ok (.aload_n 0, 1) := by decide +kernel
theorem dX2_search_23 : decode cX2_search 23 = .ok (.iload 4, 2) := by decide +kernel
theorem dX2_search_25 : decode cX2_search 25 = .ok (.invokevirtual 27, 3) := by decide +kernel
theorem dX2_search_28 : decode cX2_search 28 = .ok (.return_, 1) := by decide +kernel
theorem dX2_search_29 : decode cX2_search 29 = .ok (.iconst 0, 1) := by decide +kernel
theorem dX2_search_30 : decode cX2_search 30 = .ok (.istore 5, 2) := by decide +kernel
theorem dX2_search_32 : decode cX2_search 32 = .ok (.iload 5, 2) := by decide +kernel
theorem dX2_search_34 : decode cX2_search 34 = .ok (.aload_n 1, 1) := by decide +kernel
theorem dX2_search_35 : decode cX2_search 35 = .ok (.getfield 22, 3) := by decide +kernel
theorem dX2_search_38 : decode cX2_search 38 = .ok (.if_icmp .ge 64, 3) := by decide +kernel
theorem dX2_search_41 : decode cX2_search 41 = .ok (.iload_n 3, 1) := by decide +kernel
theorem dX2_search_42 : decode cX2_search 42 = .ok (.iload 5, 2) := by decide +kernel
theorem dX2_search_44 : decode cX2_search 44 = .ok (.invokestatic 31, 3) := by decide +kernel
theorem dX2_search_47 : decode cX2_search 47 = .ok (.ifCond .eq 6, 3) := by decide +kernel
theorem dX2_search_50 : decode cX2_search 50 = .ok (.goto 46, 3) := by decide +kernel
theorem dX2_search_53 : decode cX2_search 53 = .ok (.aload_n 1, 1) := by decide +kernel
theorem dX2_search_54 : decode cX2_search 54 = .ok (.iload 5, 2) := by decide +kernel
theorem dX2_search_56 : decode cX2_search 56 = .ok (.iload 4, 2) := by decide +kernel
theorem dX2_search_58 : decode cX2_search 58 = .ok (.invokestatic 35, 3) := by decide +kernel
theorem dX2_search_61 : decode cX2_search 61 = .ok (.istore 6, 2) := by decide +kernel
theorem dX2_search_63 : decode cX2_search 63 = .ok (.iload 6, 2) := by decide +kernel
theorem dX2_search_65 : decode cX2_search 65 = .ok (.iconst (-1), 1) := by decide +kernel
theorem dX2_search_66 : decode cX2_search 66 = .ok (.if_icmp .ne 6, 3) := by decide +kernel
theorem dX2_search_69 : decode cX2_search 69 = .ok (.goto 27, 3) := by decide +kernel
theorem dX2_search_72 : decode cX2_search 72 = .ok (.aload_n 0, 1) := by decide +kernel
theorem dX2_search_73 : decode cX2_search 73 = .ok (.getfield 9, 3) := by decide +kernel
theorem dX2_search_76 : decode cX2_search 76 = .ok (.iload_n 2, 1) := by decide +kernel
theorem dX2_search_77 : decode cX2_search 77 = .ok (.iload 5, 2) := by decide +kernel
theorem dX2_search_79 : decode cX2_search 79 = .ok (.iastore, 1) := by decide +kernel
theorem dX2_search_80 : decode cX2_search 80 = .ok (.aload_n 0, 1) := by decide +kernel
theorem dX2_search_81 : decode cX2_search 81 = .ok (.aload_n 1, 1) := by decide +kernel
theorem dX2_search_82 : decode cX2_search 82 = .ok (.iload_n 2, 1) := by decide +kernel
theorem dX2_search_83 : decode cX2_search 83 = .ok (.iconst 1, 1) := by decide +kernel
theorem dX2_search_84 : decode cX2_search 84 = .ok (.iadd, 1) := by decide +kernel
theorem dX2_search_85 : decode cX2_search 85 = .ok (.iload_n 3, 1) := by decide +kernel
theorem dX2_search_86 : decode cX2_search 86 = .ok (.iconst 1, 1) := by decide +kernel
theorem dX2_search_87 : decode cX2_search 87 = .ok (.iload 5, 2) := by decide +kernel
theorem dX2_search_89 : decode cX2_search 89 = .ok (.ishl, 1) := by decide +kernel
theorem dX2_search_90 : decode cX2_search 90 = .ok (.ior, 1) := by decide +kernel
theorem dX2_search_91 : decode cX2_search 91 = .ok (.iload 6, 2) := by decide +kernel
theorem dX2_search_93 : decode cX2_search 93 = .ok (.invokestatic 39, 3) := by decide +kernel
theorem dX2_search_96 : decode cX2_search 96 = .ok (.iinc 5 1, 3) := by decide +kernel
theorem dX2_search_99 : decode cX2_search 99 = .ok (.goto (-67), 3) := by decide +kernel
theorem dX2_search_102 : decode cX2_search 102 = .ok (.return_, 1) := by decide +kernel
theorem dX2_keepIfFewer_0 : decode cX2_keepIfFewer 0 = .ok (.aload_n 0, 1) := by decide +kernel
theorem dX2_keepIfFewer_1 : decode cX2_keepIfFewer 1 = .ok (.getfield 18, 3) := by decide +kernel
theorem dX2_keepIfFewer_4 : decode cX2_keepIfFewer 4 = .ok (.iconst (-1), 1) := by decide +kernel
theorem dX2_keepIfFewer_5 : decode cX2_keepIfFewer 5 = .ok (.if_icmp .eq 12, 3) := by decide +kernel
theorem dX2_keepIfFewer_8 : decode cX2_keepIfFewer 8 = .ok (.iload_n 1, 1) := by decide +kernel
theorem dX2_keepIfFewer_9 : decode cX2_keepIfFewer 9 = .ok (.aload_n 0, 1) := by decide +kernel
theorem dX2_keepIfFewer_10 : decode cX2_keepIfFewer 10 = .ok (.getfield 18, 3) := by decide +kernel
theorem dX2_keepIfFewer_13 : decode cX2_keepIfFewer 13 = .ok (.if_icmp .lt 4, 3) := by decide +kernel
theorem dX2_keepIfFewer_16 : decode cX2_keepIfFewer 16 = .ok (.return_, 1) := by decide +kernel
theorem dX2_keepIfFewer_17 : decode cX2_keepIfFewer 17 = .ok (.aload_n 0, 1) := by decide +kernel
theorem dX2_keepIfFewer_18 : decode cX2_keepIfFewer 18 = .ok (.iload_n 1, 1) := by decide +kernel
theorem dX2_keepIfFewer_19 : decode cX2_keepIfFewer 19 = .ok (.putfield 18, 3) := by decide +kernel
theorem dX2_keepIfFewer_22 : decode cX2_keepIfFewer 22 = .ok (.aload_n 0, 1) := by decide +kernel
theorem dX2_keepIfFewer_23 : decode cX2_keepIfFewer 23 = .ok (.getfield 9, 3) := by decide +kernel
theorem dX2_keepIfFewer_26 : decode cX2_keepIfFewer 26 = .ok (.iconst 0, 1) := by decide +kernel
theorem dX2_keepIfFewer_27 : decode cX2_keepIfFewer 27 = .ok (.aload_n 0, 1) := by decide +kernel
theorem dX2_keepIfFewer_28 : decode cX2_keepIfFewer 28 = .ok (.getfield 15, 3) := by decide +kernel
theorem dX2_keepIfFewer_31 : decode cX2_keepIfFewer 31 = .ok (.iconst 0, 1) := by decide +kernel
theorem dX2_keepIfFewer_32 : decode cX2_keepIfFewer 32 = .ok (.iconst 5, 1) := by decide +kernel
theorem dX2_keepIfFewer_33 : decode cX2_keepIfFewer 33 = .ok (.invokestatic 43, 3) := by decide +kernel
theorem dX2_keepIfFewer_36 : decode cX2_keepIfFewer 36 = .ok (.return_, 1) := by decide +kernel
theorem dX2_endOfPiece_0 : decode cX2_endOfPiece 0 = .ok (.iconst 0, 1) := by decide +kernel
theorem dX2_endOfPiece_1 : decode cX2_endOfPiece 1 = .ok (.istore_n 3, 1) := by decide +kernel
theorem dX2_endOfPiece_2 : decode cX2_endOfPiece 2 = .ok (.iload_n 2, 1) := by decide +kernel
theorem dX2_endOfPiece_3 : decode cX2_endOfPiece 3 = .ok (.istore 4, 2) := by decide +kernel
theorem dX2_endOfPiece_5 : decode cX2_endOfPiece 5 = .ok (.iload 4, 2) := by decide +kernel
theorem dX2_endOfPiece_7 : decode cX2_endOfPiece 7 = .ok (.bipush 12, 2) := by decide +kernel
theorem dX2_endOfPiece_9 : decode cX2_endOfPiece 9 = .ok (.if_icmp .gt 28, 3) := by decide +kernel
theorem dX2_endOfPiece_12 : decode cX2_endOfPiece 12 = .ok (.aload_n 0, 1) := by decide +kernel
theorem dX2_endOfPiece_13 : decode cX2_endOfPiece 13 = .ok (.iload_n 1, 1) := by decide +kernel
theorem dX2_endOfPiece_14 : decode cX2_endOfPiece 14 = .ok (.iload_n 3, 1) := by decide +kernel
theorem dX2_endOfPiece_15 : decode cX2_endOfPiece 15 = .ok (.invokevirtual 49, 3) := by decide +kernel
theorem dX2_endOfPiece_18 : decode cX2_endOfPiece 18 = .ok (.ifCond .eq 6, 3) := by decide +kernel
theorem dX2_endOfPiece_21 : decode cX2_endOfPiece 21 = .ok (.iload 4, 2) := by decide +kernel
theorem dX2_endOfPiece_23 : decode cX2_endOfPiece 23 = .ok (.ireturn, 1) := by decide +kernel
theorem dX2_endOfPiece_24 : decode cX2_endOfPiece 24 = .ok (.iload_n 3, 1) := by decide +kernel
theorem dX2_endOfPiece_25 : decode cX2_endOfPiece 25 = .ok (.iconst 1, 1) := by decide +kernel
theorem dX2_endOfPiece_26 : decode cX2_endOfPiece 26 = .ok (.iload 4, 2) := by decide +kernel
theorem dX2_endOfPiece_28 : decode cX2_endOfPiece 28 = .ok (.ishl, 1) := by decide +kernel
theorem dX2_endOfPiece_29 : decode cX2_endOfPiece 29 = .ok (.ior, 1) := by decide +kernel
theorem dX2_endOfPiece_30 : decode cX2_endOfPiece 30 = .ok (.istore_n 3, 1) := by decide +kernel
theorem dX2_endOfPiece_31 : decode cX2_endOfPiece 31 = .ok (.iinc 4 1, 3) := by decide +kernel
theorem dX2_endOfPiece_34 : decode cX2_endOfPiece 34 = .ok (.goto (-29), 3) := by decide +kernel
theorem dX2_endOfPiece_37 : decode cX2_endOfPiece 37 = .ok (.iconst (-1), 1) := by decide +kernel
theorem dX2_endOfPiece_38 : decode cX2_endOfPiece 38 = .ok (.ireturn, 1) := by decide +kernel
theorem dX3_init_0 : decode cX3_init 0 = .ok (.aload_n 0, 1) := by decide +kernel
theorem dX3_init_1 : decode cX3_init 1 = .ok (.invokespecial 1, 3) := by decide +kernel
theorem dX3_init_4 : decode cX3_init 4 = .ok (.return_, 1) := by decide +kernel
theorem dX3_ofCell_0 : decode cX3_ofCell 0 = .ok (.iconst 3, 1) := by decide +kernel
theorem dX3_ofCell_1 : decode cX3_ofCell 1 = .ok (.ireturn, 1) := by decide +kernel
theorem dX4_init_0 : decode cX4_init 0 = .ok (.aload_n 0, 1) := by decide +kernel
theorem dX4_init_1 : decode cX4_init 1 = .ok (.invokespecial 1, 3) := by decide +kernel
theorem dX4_init_4 : decode cX4_init 4 = .ok (.return_, 1) := by decide +kernel
theorem dX4_ofCell_0 : decode cX4_ofCell 0 = .ok (.aload_n 0, 1) := by decide +kernel
theorem dX4_ofCell_1 : decode cX4_ofCell 1 = .ok (.iload_n 1, 1) := by decide +kernel
theorem dX4_ofCell_2 : decode cX4_ofCell 2 = .ok (.iload_n 2, 1) := by decide +kernel
theorem dX4_ofCell_3 : decode cX4_ofCell 3 = .ok (.invokespecial 7, 3) := by decide +kernel
theorem dX4_ofCell_6 : decode cX4_ofCell 6 = .ok (.istore_n 3, 1) := by decide +kernel
theorem dX4_ofCell_7 : decode cX4_ofCell 7 = .ok (.iload_n 1, 1) := by decide +kernel
theorem dX4_ofCell_8 : decode cX4_ofCell 8 = .ok (.invokestatic 11, 3) := by decide +kernel
theorem dX4_ofCell_11 : decode cX4_ofCell 11 = .ok (.ifCond .eq 9, 3) := by decide +kernel
theorem dX4_ofCell_14 : decode cX4_ofCell 14 = .ok (.iconst 2, 1) := by decide +kernel
theorem dX4_ofCell_15 : decode cX4_ofCell 15 = .ok (.iload_n 3, 1) := by decide +kernel
theorem dX4_ofCell_16 : decode cX4_ofCell 16 = .ok (.imul, 1) := by decide +kernel
theorem dX4_ofCell_17 : decode cX4_ofCell 17 = .ok (.goto 4, 3) := by decide +kernel
theorem dX4_ofCell_20 : decode cX4_ofCell 20 = .ok (.iload_n 3, 1) := by decide +kernel
theorem dX4_ofCell_21 : decode cX4_ofCell 21 = .ok (.ireturn, 1) := by decide +kernel
theorem dX5_init_0 : decode cX5_init 0 = .ok (.aload_n 0, 1) := by decide +kernel
theorem dX5_init_1 : decode cX5_init 1 = .ok (.invokespecial 3, 3) := by decide +kernel
theorem dX5_init_4 : decode cX5_init 4 = .ok (.return_, 1) := by decide +kernel
theorem dX5_ofCell_0 : decode cX5_ofCell 0 = .ok (.aload_n 0, 1) := by decide +kernel
theorem dX5_ofCell_1 : decode cX5_ofCell 1 = .ok (.iload_n 1, 1) := by decide +kernel
theorem dX5_ofCell_2 : decode cX5_ofCell 2 = .ok (.iload_n 2, 1) := by decide +kernel
theorem dX5_ofCell_3 : decode cX5_ofCell 3 = .ok (.invokespecial 9, 3) := by decide +kernel
theorem dX5_ofCell_6 : decode cX5_ofCell 6 = .ok (.iconst 1, 1) := by decide +kernel
theorem dX5_ofCell_7 : decode cX5_ofCell 7 = .ok (.isub, 1) := by decide +kernel
theorem dX5_ofCell_8 : decode cX5_ofCell 8 = .ok (.istore_n 3, 1) := by decide +kernel
theorem dX5_ofCell_9 : decode cX5_ofCell 9 = .ok (.iload_n 1, 1) := by decide +kernel
theorem dX5_ofCell_10 : decode cX5_ofCell 10 = .ok (.bipush 11, 2) := by decide +kernel
theorem dX5_ofCell_12 : decode cX5_ofCell 12 = .ok (.if_icmp .ne 9, 3) := by decide +kernel
theorem dX5_ofCell_15 : decode cX5_ofCell 15 = .ok (.iload_n 3, 1) := by decide +kernel
theorem dX5_ofCell_16 : decode cX5_ofCell 16 = .ok (.iconst 3, 1) := by decide +kernel
theorem dX5_ofCell_17 : decode cX5_ofCell 17 = .ok (.iadd, 1) := by decide +kernel
theorem dX5_ofCell_18 : decode cX5_ofCell 18 = .ok (.goto 4, 3) := by decide +kernel
theorem dX5_ofCell_21 : decode cX5_ofCell 21 = .ok (.iload_n 3, 1) := by decide +kernel
theorem dX5_ofCell_22 : decode cX5_ofCell 22 = .ok (.ireturn, 1) := by decide +kernel
theorem dX6_init_0 : decode cX6_init 0 = .ok (.aload_n 0, 1) := by decide +kernel
theorem dX6_init_1 : decode cX6_init 1 = .ok (.invokespecial 1, 3) := by decide +kernel
theorem dX6_init_4 : decode cX6_init 4 = .ok (.return_, 1) := by decide +kernel
theorem dX6_ofCell_0 : decode cX6_ofCell 0 = .ok (.aload_n 0, 1) := by decide +kernel
theorem dX6_ofCell_1 : decode cX6_ofCell 1 = .ok (.iload_n 1, 1) := by decide +kernel
theorem dX6_ofCell_2 : decode cX6_ofCell 2 = .ok (.iload_n 2, 1) := by decide +kernel
theorem dX6_ofCell_3 : decode cX6_ofCell 3 = .ok (.invokespecial 7, 3) := by decide +kernel
theorem dX6_ofCell_6 : decode cX6_ofCell 6 = .ok (.istore_n 3, 1) := by decide +kernel
theorem dX6_ofCell_7 : decode cX6_ofCell 7 = .ok (.iload_n 2, 1) := by decide +kernel
theorem dX6_ofCell_8 : decode cX6_ofCell 8 = .ok (.ifCond .eq 9, 3) := by decide +kernel
theorem dX6_ofCell_11 : decode cX6_ofCell 11 = .ok (.iload_n 3, 1) := by decide +kernel
theorem dX6_ofCell_12 : decode cX6_ofCell 12 = .ok (.iconst 2, 1) := by decide +kernel
theorem dX6_ofCell_13 : decode cX6_ofCell 13 = .ok (.iadd, 1) := by decide +kernel
theorem dX6_ofCell_14 : decode cX6_ofCell 14 = .ok (.goto 4, 3) := by decide +kernel
theorem dX6_ofCell_17 : decode cX6_ofCell 17 = .ok (.iload_n 3, 1) := by decide +kernel
theorem dX6_ofCell_18 : decode cX6_ofCell 18 = .ok (.ireturn, 1) := by decide +kernel
theorem dX7_init_0 : decode cX7_init 0 = .ok (.aload_n 0, 1) := by decide +kernel
theorem dX7_init_1 : decode cX7_init 1 = .ok (.invokespecial 1, 3) := by decide +kernel
theorem dX7_init_4 : decode cX7_init 4 = .ok (.return_, 1) := by decide +kernel
theorem dX7_ofCell_0 : decode cX7_ofCell 0 = .ok (.aload_n 0, 1) := by decide +kernel
theorem dX7_ofCell_1 : decode cX7_ofCell 1 = .ok (.iload_n 1, 1) := by decide +kernel
theorem dX7_ofCell_2 : decode cX7_ofCell 2 = .ok (.iload_n 2, 1) := by decide +kernel
theorem dX7_ofCell_3 : decode cX7_ofCell 3 = .ok (.invokespecial 7, 3) := by decide +kernel
theorem dX7_ofCell_6 : decode cX7_ofCell 6 = .ok (.istore_n 3, 1) := by decide +kernel
theorem dX7_ofCell_7 : decode cX7_ofCell 7 = .ok (.iload_n 1, 1) := by decide +kernel
theorem dX7_ofCell_8 : decode cX7_ofCell 8 = .ok (.iconst 3, 1) := by decide +kernel
theorem dX7_ofCell_9 : decode cX7_ofCell 9 = .ok (.if_icmp .ge 9, 3) := by decide +kernel
theorem dX7_ofCell_12 : decode cX7_ofCell 12 = .ok (.iload_n 3, 1) := by decide +kernel
theorem dX7_ofCell_13 : decode cX7_ofCell 13 = .ok (.iconst 2, 1) := by decide +kernel
theorem dX7_ofCell_14 : decode cX7_ofCell 14 = .ok (.iadd, 1) := by decide +kernel
theorem dX7_ofCell_15 : decode cX7_ofCell 15 = .ok (.goto 4, 3) := by decide +kernel
theorem dX7_ofCell_18 : decode cX7_ofCell 18 = .ok (.iload_n 3, 1) := by decide +kernel
theorem dX7_ofCell_19 : decode cX7_ofCell 19 = .ok (.ireturn, 1) := by decide +kernel
theorem dX8_init_0 : decode cX8_init 0 = .ok (.aload_n 0, 1) := by decide +kernel
theorem dX8_init_1 : decode cX8_init 1 = .ok (.invokespecial 3, 3) := by decide +kernel
theorem dX8_init_4 : decode cX8_init 4 = .ok (.aload_n 0, 1) := by decide +kernel
theorem dX8_init_5 : decode cX8_init 5 = .ok (.sipush 150, 3) := by decide +kernel
theorem dX8_init_8 : decode cX8_init 8 = .ok (.newarray .byte, 2) := by decide +kernel
theorem dX8_init_10 : decode cX8_init 10 = .ok (.putfield 9, 3) := by decide +kernel
theorem dX8_init_13 : decode cX8_init 13 = .ok (.return_, 1) := by decide +kernel
theorem dX8_put_0 : decode cX8_put 0 = .ok (.aload_n 0, 1) := by decide +kernel
theorem dX8_put_1 : decode cX8_put 1 = .ok (.getfield 15, 3) := by decide +kernel
theorem dX8_put_4 : decode cX8_put 4 = .ok (.sipush 150, 3) := by decide +kernel
theorem dX8_put_7 : decode cX8_put 7 = .ok (.if_icmp .lt 6, 3) := by decide +kernel
theorem dX8_put_10 : decode cX8_put 10 = .ok (.bipush (-4), 2) := by decide +kernel
theorem dX8_put_12 : decode cX8_put 12 = .ok (.ireturn, 1) := by decide +kernel
theorem dX8_put_13 : decode cX8_put 13 = .ok (.aload_n 0, 1) := by decide +kernel
theorem dX8_put_14 : decode cX8_put 14 = .ok (.getfield 9, 3) := by decide +kernel
theorem dX8_put_17 : decode cX8_put 17 = .ok (.aload_n 0, 1) := by decide +kernel
theorem dX8_put_18 : decode cX8_put 18 = .ok (.getfield 15, 3) := by decide +kernel
theorem dX8_put_21 : decode cX8_put 21 = .ok (.iload_n 1, 1) := by decide +kernel
theorem dX8_put_22 : decode cX8_put 22 = .ok (.bastore, 1) := by decide +kernel
theorem dX8_put_23 : decode cX8_put 23 = .ok (.aload_n 0, 1) := by decide +kernel
theorem dX8_put_24 : decode cX8_put 24 = .ok (.dup, 1) := by decide +kernel
theorem dX8_put_25 : decode cX8_put 25 = .ok (.getfield 15, 3) := by decide +kernel
theorem dX8_put_28 : decode cX8_put 28 = .ok (.iconst 1, 1) := by decide +kernel
theorem dX8_put_29 : decode cX8_put 29 = .ok (.iadd, 1) := by decide +kernel
theorem dX8_put_30 : decode cX8_put 30 = .ok (.putfield 15, 3) := by decide +kernel
theorem dX8_put_33 : decode cX8_put 33 = .ok (.aload_n 0, 1) := by decide +kernel
theorem dX8_put_34 : decode cX8_put 34 = .ok (.getfield 15, 3) := by decide +kernel
theorem dX8_put_37 : decode cX8_put 37 = .ok (.ireturn, 1) := by decide +kernel
theorem dX8_tell_0 : decode cX8_tell 0 = .ok (.aload_n 0, 1) := by decide +kernel
theorem dX8_tell_1 : decode cX8_tell 1 = .ok (.iconst 0, 1) := by decide +kernel
theorem dX8_tell_2 : decode cX8_tell 2 = .ok (.putfield 19, 3) := by decide +kernel
theorem dX8_tell_5 : decode cX8_tell 5 = .ok (.aload_n 0, 1) := by decide +kernel
theorem dX8_tell_6 : decode cX8_tell 6 = .ok (.iconst 0, 1) := by decide +kernel
theorem dX8_tell_7 : decode cX8_tell 7 = .ok (.putfield 22, 3) := by decide +kernel
theorem dX8_tell_10 : decode cX8_tell 10 = .ok (.aload_n 1, 1) := by decide +kernel
theorem dX8_tell_11 : decode cX8_tell 11 = .ok (.invokevirtual 25, 3) := by decide +kernel
theorem dX8_tell_14 : decode cX8_tell 14 = .ok (.aload_n 0, 1) := by decide +kernel
theorem dX8_tell_15 : decode cX8_tell 15 = .ok (.invokevirtual 30, 3) := by decide +kernel
theorem dX8_tell_18 : decode cX8_tell 18 = .ok (.aload_n 0, 1) := by decide +kernel
theorem dX8_tell_19 : decode cX8_tell 19 = .ok (.getfield 22, 3) := by decide +kernel
theorem dX8_tell_22 : decode cX8_tell 22 = .ok (.ifCond .eq 21, 3) := by decide +kernel
theorem dX8_tell_25 : decode cX8_tell 25 = .ok (.aload_n 0, 1) := by decide +kernel
theorem dX8_tell_26 : decode cX8_tell 26 = .ok (.getfield 33, 3) := by decide +kernel
theorem dX8_tell_29 : decode cX8_tell 29 = .ok (.ifCond .eq 47, 3) := by decide +kernel
theorem dX8_tell_32 : decode cX8_tell 32 = .ok (.aload_n 0, 1) := by decide +kernel
theorem dX8_tell_33 : decode cX8_tell 33 = .ok (.getfield 22, 3) := by decide +kernel
theorem dX8_tell_36 : decode cX8_tell 36 = .ok (.aload_n 0, 1) := by decide +kernel
theorem dX8_tell_37 : decode cX8_tell 37 = .ok (.getfield 15, 3) := by decide +kernel
theorem dX8_tell_40 : decode cX8_tell 40 = .ok (.if_icmp .gt 36, 3) := by decide +kernel
theorem dX8_tell_43 : decode cX8_tell 43 = .ok (.aload_n 0, 1) := by decide +kernel
theorem dX8_tell_44 : decode cX8_tell 44 = .ok (.aload_n 1, 1) := by decide +kernel
theorem dX8_tell_45 : decode cX8_tell 45 = .ok (.invokevirtual 36, 3) := by decide +kernel
theorem dX8_tell_48 : decode cX8_tell 48 = .ok (.ifCond .ne 11, 3) := by decide +kernel
theorem dX8_tell_51 : decode cX8_tell 51 = .ok (.bipush (-10), 2) := by decide +kernel
theorem dX8_tell_53 : decode cX8_tell 53 = .ok (.aload_n 0, 1) := by decide +kernel
theorem dX8_tell_54 : decode cX8_tell 54 = .ok (.getfield 40, 3) := by decide +kernel
theorem dX8_tell_57 : decode cX8_tell 57 = .ok (.isub, 1) := by decide +kernel
theorem dX8_tell_58 : decode cX8_tell 58 = .ok (.ireturn, 1) := by decide +kernel
theorem dX8_tell_59 : decode cX8_tell 59 = .ok (.aload_n 0, 1) := by decide +kernel
theorem dX8_tell_60 : decode cX8_tell 60 = .ok (.dup, 1) := by decide +kernel
theorem dX8_tell_61 : decode cX8_tell 61 = .ok (.getfield 22, 3) := by decide +kernel
theorem dX8_tell_64 : decode cX8_tell 64 = .ok (.iconst 1, 1) := by decide +kernel
theorem dX8_tell_65 : decode cX8_tell 65 = .ok (.iadd, 1) := by decide +kernel
theorem dX8_tell_66 : decode cX8_tell 66 = .ok (.putfield 22, 3) := by decide +kernel
theorem dX8_tell_69 : decode cX8_tell 69 = .ok (.aload_n 0, 1) := by decide +kernel
theorem dX8_tell_70 : decode cX8_tell 70 = .ok (.invokevirtual 30, 3) := by decide +kernel
theorem dX8_tell_73 : decode cX8_tell 73 = .ok (.goto (-55), 3) := by decide +kernel
theorem dX8_tell_76 : decode cX8_tell 76 = .ok (.aload_n 0, 1) := by decide +kernel
theorem dX8_tell_77 : decode cX8_tell 77 = .ok (.getfield 22, 3) := by decide +kernel
theorem dX8_tell_80 : decode cX8_tell 80 = .ok (.ireturn, 1) := by decide +kernel
theorem dX8_item_0 : decode cX8_item 0 = .ok (.aload_n 0, 1) := by decide +kernel
theorem dX8_item_1 : decode cX8_item 1 = .ok (.getfield 22, 3) := by decide +kernel
theorem dX8_item_4 : decode cX8_item 4 = .ok (.ifCond .ne 25, 3) := by decide +kernel
theorem dX8_item_7 : decode cX8_item 7 = .ok (.aload_n 0, 1) := by decide +kernel
theorem dX8_item_8 : decode cX8_item 8 = .ok (.ldc 43, 2) := by decide +kernel
theorem dX8_item_10 : decode cX8_item 10 = .ok (.invokevirtual 45, 3) := by decide +kernel
theorem dX8_item_13 : decode cX8_item 13 = .ok (.ifCond .eq 14, 3) := by decide +kernel
theorem dX8_item_16 : decode cX8_item 16 = .ok (.aload_n 0, 1) := by decide +kernel
theorem dX8_item_17 : decode cX8_item 17 = .ok (.invokevirtual 49, 3) := by decide +kernel
theorem dX8_item_20 : decode cX8_item 20 = .ok (.ifCond .eq 7, 3) := by decide +kernel
theorem dX8_item_23 : decode cX8_item 23 = .ok (.iconst 1, 1) := by decide +kernel
theorem dX8_item_24 : decode cX8_item 24 = .ok (.goto 4, 3) := by decide +kernel
theorem dX8_item_27 : decode cX8_item 27 = .ok (.iconst 0, 1) := by decide +kernel
theorem dX8_item_28 : decode cX8_item 28 = .ok (.ireturn, 1) := by decide +kernel
theorem dX8_item_29 : decode cX8_item 29 = .ok (.aload_n 0, 1) := by decide +kernel
theorem dX8_item_30 : decode cX8_item 30 = .ok (.ldc 53, 2) := by decide +kernel
theorem dX8_item_32 : decode cX8_item 32 = .ok (.invokevirtual 45, 3) := by decide +kernel
theorem dX8_item_35 : decode cX8_item 35 = .ok (.ifCond .eq 9, 3) := by decide +kernel
theorem dX8_item_38 : decode cX8_item 38 = .ok (.aload_n 0, 1) := by decide +kernel
theorem dX8_item_39 : decode cX8_item 39 = .ok (.aload_n 1, 1) := by decide +kernel
theorem dX8_item_40 : decode cX8_item 40 = .ok (.invokevirtual 55, 3) := by decide +kernel
theorem dX8_item_43 : decode cX8_item 43 = .ok (.ireturn, 1) := by decide +kernel
theorem dX8_item_44 : decode cX8_item 44 = .ok (.aload_n 0, 1) := by decide +kernel
theorem dX8_item_45 : decode cX8_item 45 = .ok (.ldc 58, 2) := by decide +kernel
theorem dX8_item_47 : decode cX8_item 47 = .ok (.invokevirtual 45, 3) := by decide +kernel
theorem dX8_item_50 : decode cX8_item 50 = .ok (.ifCond .eq 15, 3) := by decide +kernel
theorem dX8_item_53 : decode cX8_item 53 = .ok (.aload_n 0, 1) := by decide +kernel
theorem dX8_item_54 : decode cX8_item 54 = .ok (.aload_n 1, 1) := by decide +kernel
theorem dX8_item_55 : decode cX8_item 55 = .ok (.invokevirtual 60, 3) := by decide +kernel
theorem dX8_item_58 : decode cX8_item 58 = .ok (.ifCond .eq 7, 3) := by decide +kernel
theorem dX8_item_61 : decode cX8_item 61 = .ok (.iconst 1, 1) := by decide +kernel
theorem dX8_item_62 : decode cX8_item 62 = .ok (.goto 4, 3) := by decide +kernel
theorem dX8_item_65 : decode cX8_item 65 = .ok (.iconst 0, 1) := by decide +kernel
theorem dX8_item_66 : decode cX8_item 66 = .ok (.ireturn, 1) := by decide +kernel
theorem dX8_boyItem_0 : decode cX8_boyItem 0 = .ok (.aload_n 1, 1) := by decide +kernel
theorem dX8_boyItem_1 : decode cX8_boyItem 1 = .ok (.getfield 63, 3) := by decide +kernel
theorem dX8_boyItem_4 : decode cX8_boyItem 4 = .ok (.iconst 5, 1) := by decide +kernel
theorem dX8_boyItem_5 : decode cX8_boyItem 5 = .ok (.if_icmp .lt 5, 3) := by decide +kernel
theorem dX8_boyItem_8 : decode cX8_boyItem 8 = .ok (.iconst 0, 1) := by decide +kernel
theorem dX8_boyItem_9 : decode cX8_boyItem 9 = .ok (.ireturn, 1) := by decide +kernel
theorem dX8_boyItem_10 : decode cX8_boyItem 10 = .ok (.aload_n 0, 1) := by decide +kernel
theorem dX8_boyItem_11 : decode cX8_boyItem 11 = .ok (.iconst 5, 1) := by decide +kernel
theorem dX8_boyItem_12 : decode cX8_boyItem 12 = .ok (.invokevirtual 66, 3) := by decide +kernel
theorem dX8_boyItem_15 : decode cX8_boyItem 15 = .ok (.istore_n 2, 1) := by decide +kernel
theorem dX8_boyItem_16 : decode cX8_boyItem 16 = .ok (.iload_n 2, 1) := by decide +kernel
theorem dX8_boyItem_17 : decode cX8_boyItem 17 = .ok (.iconst (-1), 1) := by decide +kernel
theorem dX8_boyItem_18 : decode cX8_boyItem 18 = .ok (.if_icmp .ne 5, 3) := by decide +kernel
theorem dX8_boyItem_21 : decode cX8_boyItem 21 = .ok (.iconst 0, 1) := by decide +kernel
theorem dX8_boyItem_22 : decode cX8_boyItem 22 = .ok (.ireturn, 1) := by decide +kernel
theorem dX8_boyItem_23 : decode cX8_boyItem 23 = .ok (.aload_n 0, 1) := by decide +kernel
theorem dX8_boyItem_24 : decode cX8_boyItem 24 = .ok (.bipush 12, 2) := by decide +kernel
theorem dX8_boyItem_26 : decode cX8_boyItem 26 = .ok (.invokevirtual 66, 3) := by decide +kernel
theorem dX8_boyItem_29 : decode cX8_boyItem 29 = .ok (.istore_n 3, 1) := by decide +kernel
theorem dX8_boyItem_30 : decode cX8_boyItem 30 = .ok (.iload_n 3, 1) := by decide +kernel
theorem dX8_boyItem_31 : decode cX8_boyItem 31 = .ok (.iconst (-1), 1) := by decide +kernel
theorem dX8_boyItem_32 : decode cX8_boyItem 32 = .ok (.if_icmp .ne 5, 3) := by decide +kernel
theorem dX8_boyItem_35 : decode cX8_boyItem 35 = .ok (.iconst 0, 1) := by decide +kernel
theorem dX8_boyItem_36 : decode cX8_boyItem 36 = .ok (.ireturn, 1) := by decide +kernel
theorem dX8_boyItem_37 : decode cX8_boyItem 37 = .ok (.aload_n 0, 1) := by decide +kernel
theorem dX8_boyItem_38 : decode cX8_boyItem 38 = .ok (.bipush 40, 2) := by decide +kernel
theorem dX8_boyItem_40 : decode cX8_boyItem 40 = .ok (.invokevirtual 66, 3) := by decide +kernel
theorem dX8_boyItem_43 : decode cX8_boyItem 43 = .ok (.istore 4, 2) := by decide +kernel
theorem dX8_boyItem_45 : decode cX8_boyItem 45 = .ok (.iload 4, 2) := by decide +kernel
theorem dX8_boyItem_47 : decode cX8_boyItem 47 = .ok (.iconst (-1), 1) := by decide +kernel
theorem dX8_boyItem_48 : decode cX8_boyItem 48 = .ok (.if_icmp .eq 10, 3) := by decide +kernel
theorem dX8_boyItem_51 : decode cX8_boyItem 51 = .ok (.aload_n 0, 1) := by decide +kernel
theorem dX8_boyItem_52 : decode cX8_boyItem 52 = .ok (.invokevirtual 49, 3) := by decide +kernel
theorem dX8_boyItem_55 : decode cX8_boyItem 55 = .ok (.ifCond .ne 5, 3) := by decide +kernel
theorem dX8_boyItem_58 : decode cX8_boyItem 58 = .ok (.iconst 0, 1) := by decide +kernel
theorem dX8_boyItem_59 : decode cX8_boyItem 59 = .ok (.ireturn, 1) := by decide +kernel
theorem dX8_boyItem_60 : decode cX8_boyItem 60 = .ok (.aload_n 1, 1) := by decide +kernel
theorem dX8_boyItem_61 : decode cX8_boyItem 61 = .ok (.iload_n 2, 1) := by decide +kernel
theorem dX8_boyItem_62 : decode cX8_boyItem 62 = .ok (.iload_n 3, 1) := by decide +kernel
theorem dX8_boyItem_63 : decode cX8_boyItem 63 = .ok (.iload 4, 2) := by decide +kernel
theorem dX8_boyItem_65 : decode cX8_boyItem 65 = .ok (.invokevirtual 70, 3) := by decide +kernel
theorem dX8_boyItem_68 : decode cX8_boyItem 68 = .ok (.pop, 1) := by decide +kernel
theorem dX8_boyItem_69 : decode cX8_boyItem 69 = .ok (.iconst 1, 1) := by decide +kernel
theorem dX8_boyItem_70 : decode cX8_boyItem 70 = .ok (.ireturn, 1) := by decide +kernel
theorem dX8_cellsItem_0 : decode cX8_cellsItem 0 = .ok (.aload_n 0, 1) := by decide +kernel
theorem dX8_cellsItem_1 : decode cX8_cellsItem 1 = .ok (.aload_n 1, 1) := by decide +kernel
theorem dX8_cellsItem_2 : decode cX8_cellsItem 2 = .ok (.getfield 63, 3) := by decide +kernel
theorem dX8_cellsItem_5 : decode cX8_cellsItem 5 = .ok (.iconst 1, 1) := by decide +kernel
theorem dX8_cellsItem_6 : decode cX8_cellsItem 6 = .ok (.isub, 1) := by decide +kernel
theorem dX8_cellsItem_7 : decode cX8_cellsItem 7 = .ok (.invokevirtual 66, 3) := by decide +kernel
theorem dX8_cellsItem_10 : decode cX8_cellsItem 10 = .ok (.istore_n 2, 1) := by decide +kernel
theorem dX8_cellsItem_11 : decode cX8_cellsItem 11 = .ok (.iload_n 2, 1) := by decide +kernel
theorem dX8_cellsItem_12 : decode cX8_cellsItem 12 = .ok (.iconst (-1), 1) := by decide +kernel
theorem dX8_cellsItem_13 : decode cX8_cellsItem 13 = .ok (.if_icmp .ne 5, 3) := by decide +kernel
theorem dX8_cellsItem_16 : decode cX8_cellsItem 16 = .ok (.iconst 0, 1) := by decide +kernel
theorem dX8_cellsItem_17 : decode cX8_cellsItem 17 = .ok (.ireturn, 1) := by decide +kernel
theorem dX8_cellsItem_18 : decode cX8_cellsItem 18 = .ok (.aload_n 0, 1) := by decide +kernel
theorem dX8_cellsItem_19 : decode cX8_cellsItem 19 = .ok (.bipush 11, 2) := by decide +kernel
theorem dX8_cellsItem_21 : decode cX8_cellsItem 21 = .ok (.invokevirtual 66, 3) := by decide +kernel
theorem dX8_cellsItem_24 : decode cX8_cellsItem 24 = .ok (.istore_n 3, 1) := by decide +kernel
theorem dX8_cellsItem_25 : decode cX8_cellsItem 25 = .ok (.iconst 0, 1) := by decide +kernel
theorem dX8_cellsItem_26 : decode cX8_cellsItem 26 = .ok (.istore 4, 2) := by decide +kernel
theorem dX8_cellsItem_28 : decode cX8_cellsItem 28 = .ok (.iload_n 3, 1) := by decide +kernel
theorem dX8_cellsItem_29 : decode cX8_cellsItem 29 = .ok (.iconst (-1), 1) := by decide +kernel
theorem dX8_cellsItem_30 : decode cX8_cellsItem 30 = .ok (.if_icmp .eq 32, 3) := by decide +kernel
theorem dX8_cellsItem_33 : decode cX8_cellsItem 33 = .ok (.iload 4, 2) := by decide +kernel
theorem dX8_cellsItem_35 : decode cX8_cellsItem 35 = .ok (.aload_n 0, 1) := by decide +kernel
theorem dX8_cellsItem_36 : decode cX8_cellsItem 36 = .ok (.getfield 15, 3) := by decide +kernel
theorem dX8_cellsItem_39 : decode cX8_cellsItem 39 = .ok (.if_icmp .ge 23, 3) := by decide +kernel
theorem dX8_cellsItem_42 : decode cX8_cellsItem 42 = .ok (.aload_n 1, 1) := by decide +kernel
theorem dX8_cellsItem_43 : decode cX8_cellsItem 43 = .ok (.getfield 74, 3) := by decide +kernel
theorem dX8_cellsItem_46 : decode cX8_cellsItem 46 = .ok (.iload_n 3, 1) := by decide +kernel
theorem dX8_cellsItem_47 : decode cX8_cellsItem 47 = .ok (.iload_n 2, 1) := by decide +kernel
theorem dX8_cellsItem_48 : decode cX8_cellsItem 48 = .ok (.iastore, 1) := by decide +kernel
theorem dX8_cellsItem_49 : decode cX8_cellsItem 49 = .ok (.aload_n 0, 1) := by decide +kernel
theorem dX8_cellsItem_50 : decode cX8_cellsItem 50 = .ok (.bipush 11, 2) := by decide +kernel
theorem dX8_cellsItem_52 : decode cX8_cellsItem 52 = .ok (.invokevirtual 66, 3) := by decide +kernel
theorem dX8_cellsItem_55 : decode cX8_cellsItem 55 = .ok (.istore_n 3, 1) := by decide +kernel
theorem dX8_cellsItem_56 : decode cX8_cellsItem 56 = .ok (.iinc 4 1, 3) := by decide +kernel
theorem dX8_cellsItem_59 : decode cX8_cellsItem 59 = .ok (.goto (-31), 3) := by decide +kernel
theorem dX8_cellsItem_62 : decode cX8_cellsItem 62 = .ok (.aload_n 0, 1) := by decide +kernel
theorem dX8_cellsItem_63 : decode cX8_cellsItem 63 = .ok (.getfield 33, 3) := by decide +kernel
theorem dX8_cellsItem_66 : decode cX8_cellsItem 66 = .ok (.iconst 3, 1) := by decide +kernel
theorem dX8_cellsItem_67 : decode cX8_cellsItem 67 = .ok (.if_icmp .ne 7, 3) := by decide +kernel
theorem dX8_cellsItem_70 : decode cX8_cellsItem 70 = .ok (.iconst 1, 1) := by decide +kernel
theorem dX8_cellsItem_71 : decode cX8_cellsItem 71 = .ok (.goto 4, 3) := by decide +kernel
theorem dX8_cellsItem_74 : decode cX8_cellsItem 74 = .ok (.iconst 0, 1) := by decide +kernel
theorem dX8_cellsItem_75 : decode cX8_cellsItem 75 = .ok (.ireturn, 1) := by decide +kernel
theorem dX8_stops_0 : decode cX8_stops 0 = .ok (.aload_n 0, 1) := by decide +kernel
theorem dX8_stops_1 : decode cX8_stops 1 = .ok (.invokevirtual 30, 3) := by decide +kernel
theorem dX8_stops_4 : decode cX8_stops 4 = .ok (.aload_n 0, 1) := by decide +kernel
theorem dX8_stops_5 : decode cX8_stops 5 = .ok (.getfield 33, 3) := by decide +kernel
theorem dX8_stops_8 : decode cX8_stops 8 = .ok (.iconst 3, 1) := by decide +kernel
theorem dX8_stops_9 : decode cX8_stops 9 = .ok (.if_icmp .ne 7, 3) := by decide +kernel
theorem dX8_stops_12 : decode cX8_stops 12 = .ok (.iconst 1, 1) := by decide +kernel
theorem dX8_stops_13 : decode cX8_stops 13 = .ok (.goto 4, 3) := by decide +kernel
theorem dX8_stops_16 : decode cX8_stops 16 = .ok (.iconst 0, 1) := by decide +kernel
theorem dX8_stops_17 : decode cX8_stops 17 = .ok (.ireturn, 1) := by decide +kernel
theorem dX8_number_0 : decode cX8_number 0 = .ok (.aload_n 0, 1) := by decide +kernel
theorem dX8_number_1 : decode cX8_number 1 = .ok (.invokevirtual 30, 3) := by decide +kernel
theorem dX8_number_4 : decode cX8_number 4 = .ok (.aload_n 0, 1) := by decide +kernel
theorem dX8_number_5 : decode cX8_number 5 = .ok (.getfield 33, 3) := by decide +kernel
theorem dX8_number_8 : decode cX8_number 8 = .ok (.iconst 2, 1) := by decide +kernel
theorem dX8_number_9 : decode cX8_number 9 = .ok (.if_icmp .eq 5, 3) := by decide +kernel
theorem dX8_number_12 : decode cX8_number 12 = .ok (.iconst (-1), 1) := by decide +kernel
theorem dX8_number_13 : decode cX8_number 13 = .ok (.ireturn, 1) := by decide +kernel
theorem dX8_number_14 : decode cX8_number 14 = .ok (.iconst 0, 1) := by decide +kernel
theorem dX8_number_15 : decode cX8_number 15 = .ok (.istore_n 2, 1) := by decide +kernel
theorem dX8_number_16 : decode cX8_number 16 = .ok (.aload_n 0, 1) := by decide +kernel
theorem dX8_number_17 : decode cX8_number 17 = .ok (.getfield 40, 3) := by decide +kernel
theorem dX8_number_20 : decode cX8_number 20 = .ok (.istore_n 3, 1) := by decide +kernel
theorem dX8_number_21 : decode cX8_number 21 = .ok (.iload_n 3, 1) := by decide +kernel
theorem dX8_number_22 : decode cX8_number 22 = .ok (.aload_n 0, 1) := by decide +kernel
theorem dX8_number_23 : decode cX8_number 23 = .ok (.getfield 19, 3) := by decide +kernel
theorem dX8_number_26 : decode cX8_number 26 = .ok (.if_icmp .ge 32, 3) := by decide +kernel
theorem dX8_number_29 : decode cX8_number 29 = .ok (.iload_n 3, 1) := by decide +kernel
theorem dX8_number_30 : decode cX8_number 30 = .ok (.aload_n 0, 1) := by decide +kernel
theorem dX8_number_31 : decode cX8_number 31 = .ok (.getfield 15, 3) := by decide +kernel
theorem dX8_number_34 : decode cX8_number 34 = .ok (.if_icmp .ge 24, 3) := by decide +kernel
theorem dX8_number_37 : decode cX8_number 37 = .ok (.bipush 10, 2) := by decide +kernel
theorem dX8_number_39 : decode cX8_number 39 = .ok (.iload_n 2, 1) := by decide +kernel
theorem dX8_number_40 : decode cX8_number 40 = .ok (.imul, 1) := by decide +kernel
theorem dX8_number_41 : decode cX8_number 41 = .ok (.aload_n 0, 1) := by decide +kernel
theorem dX8_number_42 : decode cX8_number 42 = .ok (.getfield 9, 3) := by decide +kernel
theorem dX8_number_45 : decode cX8_number 45 = .ok (.iload_n 3, 1) := by decide +kernel
theorem dX8_number_46 : decode cX8_number 46 = .ok (.baload, 1) := by decide +kernel
theorem dX8_number_47 : decode cX8_number 47 = .ok (.iadd, 1) := by decide +kernel
theorem dX8_number_48 : decode cX8_number 48 = .ok (.bipush 48, 2) := by decide +kernel
theorem dX8_number_50 : decode cX8_number 50 = .ok (.isub, 1) := by decide +kernel
theorem dX8_number_51 : decode cX8_number 51 = .ok (.istore_n 2, 1) := by decide +kernel
theorem dX8_number_52 : decode cX8_number 52 = .ok (.iinc 3 1, 3) := by decide +kernel
theorem dX8_number_55 : decode cX8_number 55 = .ok (.goto (-34), 3) := by decide +kernel
theorem dX8_number_58 : decode cX8_number 58 = .ok (.iload_n 2, 1) := by decide +kernel
theorem dX8_number_59 : decode cX8_number 59 = .ok (.iload_n 1, 1) := by decide +kernel
theorem dX8_number_60 : decode cX8_number 60 = .ok (.if_icmp .gt 7, 3) := by decide +kernel
theorem dX8_number_63 : decode cX8_number 63 = .ok (.iload_n 2, 1) := by decide +kernel
theorem dX8_number_64 : decode cX8_number 64 = .ok (.goto 4, 3) := by decide +kernel
theorem dX8_number_67 : decode cX8_number 67 = .ok (.iconst (-1), 1) := by decide +kernel
theorem dX8_number_68 : decode cX8_number 68 = .ok (.ireturn, 1) := by decide +kernel
theorem dX8_isWord_0 : decode cX8_isWord 0 = .ok (.aload_n 0, 1) := by decide +kernel
theorem dX8_isWord_1 : decode cX8_isWord 1 = .ok (.getfield 33, 3) := by decide +kernel
theorem dX8_isWord_4 : decode cX8_isWord 4 = .ok (.iconst 1, 1) := by decide +kernel
theorem dX8_isWord_5 : decode cX8_isWord 5 = .ok (.if_icmp .ne 19, 3) := by decide +kernel
theorem dX8_isWord_8 : decode cX8_isWord 8 = .ok (.aload_n 0, 1) := by decide +kernel
theorem dX8_isWord_9 : decode cX8_isWord 9 = .ok (.getfield 19, 3) := by decide +kernel
theorem dX8_isWord_12 : decode cX8_isWord 12 = .ok (.aload_n 0, 1) := by decide +kernel
theorem dX8_isWord_13 : decode cX8_isWord 13 = .ok (.getfield 40, 3) := by decide +kernel
theorem dX8_isWord_16 : decode cX8_isWord 16 = .ok (.isub, 1) := by decide +kernel
theorem dX8_isWord_17 : decode cX8_isWord 17 = .ok (.aload_n 1, 1) := by decide +kernel
theorem dX8_isWord_18 : decode cX8_isWord 18 = .ok (.invokevirtual 78, 3) := by decide +kernel
theorem dX8_isWord_21 : decode cX8_isWord 21 = .ok (.if_icmp .eq 5, 3) := by decide +kernel
theorem dX8_isWord_24 : decode cX8_isWord 24 = .ok (.iconst 0, 1) := by decide +kernel
theorem dX8_isWord_25 : decode cX8_isWord 25 = .ok (.ireturn, 1) := by decide +kernel
theorem dX8_isWord_26 : decode cX8_isWord 26 = .ok (.iconst 0, 1) := by decide +kernel
theorem dX8_isWord_27 : decode cX8_isWord 27 = .ok (.istore_n 2, 1) := by decide +kernel
theorem dX8_isWord_28 : decode cX8_isWord 28 = .ok (.iload_n 2, 1) := by decide +kernel
theorem dX8_isWord_29 : decode cX8_isWord 29 = .ok (.aload_n 1, 1) := by decide +kernel
theorem dX8_isWord_30 : decode cX8_isWord 30 = .ok (.invokevirtual 78, 3) := by decide +kernel
theorem dX8_isWord_33 : decode cX8_isWord 33 = .ok (.if_icmp .ge 43, 3) := by decide +kernel
theorem dX8_isWord_36 : decode cX8_isWord 36 = .ok (.aload_n 0, 1) := by decide +kernel
theorem dX8_isWord_37 : decode cX8_isWord 37 = .ok (.getfield 40, 3) := by decide +kernel
theorem dX8_isWord_40 : decode cX8_isWord 40 = .ok (.iload_n 2, 1) := by decide +kernel
theorem dX8_isWord_41 : decode cX8_isWord 41 = .ok (.iadd, 1) := by decide +kernel
theorem dX8_isWord_42 : decode cX8_isWord 42 = .ok (.aload_n 0, 1) := by decide +kernel
theorem dX8_isWord_43 : decode cX8_isWord 43 = .ok (.getfield 15, 3) := by decide +kernel
theorem dX8_isWord_46 : decode cX8_isWord 46 = .ok (.if_icmp .ge 22, 3) := by decide +kernel
theorem dX8_isWord_49 : decode cX8_isWord 49 = .ok (.aload_n 0, 1) := by decide +kernel
theorem dX8_isWord_50 : decode cX8_isWord 50 = .ok (.getfield 9, 3) := by decide +kernel
theorem dX8_isWord_53 : decode cX8_isWord 53 = .ok (.aload_n 0, 1) := by decide +kernel
theorem dX8_isWord_54 : decode cX8_isWord 54 = .ok (.getfield 40, 3) := by decide +kernel
theorem dX8_isWord_57 : decode cX8_isWord 57 = .ok (.iload_n 2, 1) := by decide +kernel
theorem dX8_isWord_58 : decode cX8_isWord 58 = .ok (.iadd, 1) := by decide +kernel
theorem dX8_isWord_59 : decode cX8_isWord 59 = .ok (.baload, 1) := by decide +kernel
theorem dX8_isWord_60 : decode cX8_isWord 60 = .ok (.aload_n 1, 1) := by decide +kernel
theorem dX8_isWord_61 : decode cX8_isWord 61 = .ok (.iload_n 2, 1) := by decide +kernel
theorem dX8_isWord_62 : decode cX8_isWord 62 = .ok (.invokevirtual 83, 3) := by decide +kernel
theorem dX8_isWord_65 : decode cX8_isWord 65 = .ok (.if_icmp .eq 5, 3) := by decide +kernel
theorem dX8_isWord_68 : decode cX8_isWord 68 = .ok (.iconst 0, 1) := by decide +kernel
theorem dX8_isWord_69 : decode cX8_isWord 69 = .ok (.ireturn, 1) := by decide +kernel
theorem dX8_isWord_70 : decode cX8_isWord 70 = .ok (.iinc 2 1, 3) := by decide +kernel
theorem dX8_isWord_73 : decode cX8_isWord 73 = .ok (.goto (-45), 3) := by decide +kernel
theorem dX8_isWord_76 : decode cX8_isWord 76 = .ok (.iconst 1, 1) := by decide +kernel
theorem dX8_isWord_77 : decode cX8_isWord 77 = .ok (.ireturn, 1) := by decide +kernel
theorem dX8_next_0 : decode cX8_next 0 = .ok (.aload_n 0, 1) := by decide +kernel
theorem dX8_next_1 : decode cX8_next 1 = .ok (.getfield 19, 3) := by decide +kernel
theorem dX8_next_4 : decode cX8_next 4 = .ok (.aload_n 0, 1) := by decide +kernel
theorem dX8_next_5 : decode cX8_next 5 = .ok (.getfield 15, 3) := by decide +kernel
theorem dX8_next_8 : decode cX8_next 8 = .ok (.if_icmp .ge 30, 3) := by decide +kernel
theorem dX8_next_11 : decode cX8_next 11 = .ok (.aload_n 0, 1) := by decide +kernel
theorem dX8_next_12 : decode cX8_next 12 = .ok (.getfield 9, 3) := by decide +kernel
theorem dX8_next_15 : decode cX8_next 15 = .ok (.aload_n 0, 1) := by decide +kernel
theorem dX8_next_16 : decode cX8_next 16 = .ok (.getfield 19, 3) := by decide +kernel
theorem dX8_next_19 : decode cX8_next 19 = .ok (.baload, 1) := by decide +kernel
theorem dX8_next_20 : decode cX8_next 20 = .ok (.bipush 32, 2) := by decide +kernel
theorem dX8_next_22 : decode cX8_next 22 = .ok (.if_icmp .ne 16, 3) := by decide +kernel
theorem dX8_next_25 : decode cX8_next 25 = .ok (.aload_n 0, 1) := by decide +kernel
theorem dX8_next_26 : decode cX8_next 26 = .ok (.dup, 1) := by decide +kernel
theorem dX8_next_27 : decode cX8_next 27 = .ok (.getfield 19, 3) := by decide +kernel
theorem dX8_next_30 : decode cX8_next 30 = .ok (.iconst 1, 1) := by decide +kernel
theorem dX8_next_31 : decode cX8_next 31 = .ok (.iadd, 1) := by decide +kernel
theorem dX8_next_32 : decode cX8_next 32 = .ok (.putfield 19, 3) := by decide +kernel
theorem dX8_next_35 : decode cX8_next 35 = .ok (.goto (-35), 3) := by decide +kernel
theorem dX8_next_38 : decode cX8_next 38 = .ok (.aload_n 0, 1) := by decide +kernel
theorem dX8_next_39 : decode cX8_next 39 = .ok (.aload_n 0, 1) := by decide +kernel
theorem dX8_next_40 : decode cX8_next 40 = .ok (.getfield 19, 3) := by decide +kernel
theorem dX8_next_43 : decode cX8_next 43 = .ok (.putfield 40, 3) := by decide +kernel
theorem dX8_next_46 : decode cX8_next 46 = .ok (.aload_n 0, 1) := by decide +kernel
theorem dX8_next_47 : decode cX8_next 47 = .ok (.aload_n 0, 1) := by decide +kernel
theorem dX8_next_48 : decode cX8_next 48 = .ok (.invokevirtual 87, 3) := by decide +kernel
theorem dX8_next_51 : decode cX8_next 51 = .ok (.putfield 33, 3) := by decide +kernel
theorem dX8_next_54 : decode cX8_next 54 = .ok (.return_, 1) := by decide +kernel
theorem dX8_tokenAt_0 : decode cX8_tokenAt 0 = .ok (.aload_n 0, 1) := by decide +kernel
theorem dX8_tokenAt_1 : decode cX8_tokenAt 1 = .ok (.getfield 19, 3) := by decide +kernel
theorem dX8_tokenAt_4 : decode cX8_tokenAt 4 = .ok (.aload_n 0, 1) := by decide +kernel
theorem dX8_tokenAt_5 : decode cX8_tokenAt 5 = .ok (.getfield 15, 3) := by decide +kernel
theorem dX8_tokenAt_8 : decode cX8_tokenAt 8 = .ok (.if_icmp .lt 5, 3) := by decide +kernel
theorem dX8_tokenAt_11 : decode cX8_tokenAt 11 = .ok (.iconst 0, 1) := by decide +kernel
theorem dX8_tokenAt_12 : decode cX8_tokenAt 12 = .ok (.ireturn, 1) := by decide +kernel
theorem dX8_tokenAt_13 : decode cX8_tokenAt 13 = .ok (.aload_n 0, 1) := by decide +kernel
theorem dX8_tokenAt_14 : decode cX8_tokenAt 14 = .ok (.getfield 9, 3) := by decide +kernel
theorem dX8_tokenAt_17 : decode cX8_tokenAt 17 = .ok (.aload_n 0, 1) := by decide +kernel
theorem dX8_tokenAt_18 : decode cX8_tokenAt 18 = .ok (.getfield 19, 3) := by decide +kernel
theorem dX8_tokenAt_21 : decode cX8_tokenAt 21 = .ok (.baload, 1) := by decide +kernel
theorem dX8_tokenAt_22 : decode cX8_tokenAt 22 = .ok (.invokestatic 90, 3) := by decide +kernel
theorem dX8_tokenAt_25 : decode cX8_tokenAt 25 = .ok (.ifCond .eq 44, 3) := by decide +kernel
theorem dX8_tokenAt_28 : decode cX8_tokenAt 28 = .ok (.aload_n 0, 1) := by decide +kernel
theorem dX8_tokenAt_29 : decode cX8_tokenAt 29 = .ok (.getfield 19, 3) := by decide +kernel
theorem dX8_tokenAt_32 : decode cX8_tokenAt 32 = .ok (.aload_n 0, 1) := by decide +kernel
theorem dX8_tokenAt_33 : decode cX8_tokenAt 33 = .ok (.getfield 15, 3) := by decide +kernel
theorem dX8_tokenAt_36 : decode cX8_tokenAt 36 = .ok (.if_icmp .ge 31, 3) := by decide +kernel
theorem dX8_tokenAt_39 : decode cX8_tokenAt 39 = .ok (.aload_n 0, 1) := by decide +kernel
theorem dX8_tokenAt_40 : decode cX8_tokenAt 40 = .ok (.getfield 9, 3) := by decide +kernel
theorem dX8_tokenAt_43 : decode cX8_tokenAt 43 = .ok (.aload_n 0, 1) := by decide +kernel
theorem dX8_tokenAt_44 : decode cX8_tokenAt 44 = .ok (.getfield 19, 3) := by decide +kernel
theorem dX8_tokenAt_47 : decode cX8_tokenAt 47 = .ok (.baload, 1) := by decide +kernel
theorem dX8_tokenAt_48 : decode cX8_tokenAt 48 = .ok (.invokestatic 90, 3) := by decide +kernel
theorem dX8_tokenAt_51 : decode cX8_tokenAt 51 = .ok (.ifCond .eq 16, 3) := by decide +kernel
theorem dX8_tokenAt_54 : decode cX8_tokenAt 54 = .ok (.aload_n 0, 1) := by decide +kernel
theorem dX8_tokenAt_55 : decode cX8_tokenAt 55 = .ok (.dup, 1) := by decide +kernel
theorem dX8_tokenAt_56 : decode cX8_tokenAt 56 = .ok (.getfield 19, 3) := by decide +kernel
theorem dX8_tokenAt_59 : decode cX8_tokenAt 59 = .ok (.iconst 1, 1) := by decide +kernel
theorem dX8_tokenAt_60 : decode cX8_tokenAt 60 = .ok (.iadd, 1) := by decide +kernel
theorem dX8_tokenAt_61 : decode cX8_tokenAt 61 = .ok (.putfield 19, 3) := by decide +kernel
theorem dX8_tokenAt_64 : decode cX8_tokenAt 64 = .ok (.goto (-36), 3) := by decide +kernel
theorem dX8_tokenAt_67 : decode cX8_tokenAt 67 = .ok (.iconst 1, 1) := by decide +kernel
theorem dX8_tokenAt_68 : decode cX8_tokenAt 68 = .ok (.ireturn, 1) := by decide +kernel
theorem dX8_tokenAt_69 : decode cX8_tokenAt 69 = .ok (.aload_n 0, 1) := by decide +kernel
theorem dX8_tokenAt_70 : decode cX8_tokenAt 70 = .ok (.getfield 9, 3) := by decide +kernel
theorem dX8_tokenAt_73 : decode cX8_tokenAt 73 = .ok (.aload_n 0, 1) := by decide +kernel
theorem dX8_tokenAt_74 : decode cX8_tokenAt 74 = .ok (.getfield 19, 3) := by decide +kernel
theorem dX8_tokenAt_77 : decode cX8_tokenAt 77 = .ok (.baload, 1) := by decide +kernel
theorem dX8_tokenAt_78 : decode cX8_tokenAt 78 = .ok (.invokestatic 94, 3) := by decide +kernel
theorem dX8_tokenAt_81 : decode cX8_tokenAt 81 = .ok (.ifCond .eq 61, 3) := by decide +kernel
theorem dX8_tokenAt_84 : decode cX8_tokenAt 84 = .ok (.aload_n 0, 1) := by decide +kernel
theorem dX8_tokenAt_85 : decode cX8_tokenAt 85 = .ok (.getfield 19, 3) := by decide +kernel
theorem dX8_tokenAt_88 : decode cX8_tokenAt 88 = .ok (.aload_n 0, 1) := by decide +kernel
theorem dX8_tokenAt_89 : decode cX8_tokenAt 89 = .ok (.getfield 15, 3) := by decide +kernel
theorem dX8_tokenAt_92 : decode cX8_tokenAt 92 = .ok (.if_icmp .ge 31, 3) := by decide +kernel
theorem dX8_tokenAt_95 : decode cX8_tokenAt 95 = .ok (.aload_n 0, 1) := by decide +kernel
theorem dX8_tokenAt_96 : decode cX8_tokenAt 96 = .ok (.getfield 9, 3) := by decide +kernel
theorem dX8_tokenAt_99 : decode cX8_tokenAt 99 = .ok (.aload_n 0, 1) := by decide +kernel
theorem dX8_tokenAt_100 : decode cX8_tokenAt 100 = .ok (.getfield 19, 3) := by decide +kernel
theorem dX8_tokenAt_103 : decode cX8_tokenAt 103 = .ok (.baload, 1) := by decide +kernel
theorem dX8_tokenAt_104 : decode cX8_tokenAt 104 = .ok (.invokestatic 94, 3) := by decide +kernel
theorem dX8_tokenAt_107 : decode cX8_tokenAt 107 = .ok (.ifCond .eq 16, 3) := by decide +kernel
theorem dX8_tokenAt_110 : decode cX8_tokenAt 110 = .ok (.aload_n 0, 1) := by decide +kernel
theorem dX8_tokenAt_111 : decode cX8_tokenAt 111 = .ok (.dup, 1) := by decide +kernel
theorem dX8_tokenAt_112 : decode cX8_tokenAt 112 = .ok (.getfield 19, 3) := by decide +kernel
theorem dX8_tokenAt_115 : decode cX8_tokenAt 115 = .ok (.iconst 1, 1) := by decide +kernel
theorem dX8_tokenAt_116 : decode cX8_tokenAt 116 = .ok (.iadd, 1) := by decide +kernel
theorem dX8_tokenAt_117 : decode cX8_tokenAt 117 = .ok (.putfield 19, 3) := by decide +kernel
theorem dX8_tokenAt_120 : decode cX8_tokenAt 120 = .ok (.goto (-36), 3) := by decide +kernel
theorem dX8_tokenAt_123 : decode cX8_tokenAt 123 = .ok (.aload_n 0, 1) := by decide +kernel
theorem dX8_tokenAt_124 : decode cX8_tokenAt 124 = .ok (.getfield 19, 3) := by decide +kernel
theorem dX8_tokenAt_127 : decode cX8_tokenAt 127 = .ok (.aload_n 0, 1) := by decide +kernel
theorem dX8_tokenAt_128 : decode cX8_tokenAt 128 = .ok (.getfield 40, 3) := by decide +kernel
theorem dX8_tokenAt_131 : decode cX8_tokenAt 131 = .ok (.isub, 1) := by decide +kernel
theorem dX8_tokenAt_132 : decode cX8_tokenAt 132 = .ok (.iconst 2, 1) := by decide +kernel
theorem dX8_tokenAt_133 : decode cX8_tokenAt 133 = .ok (.if_icmp .gt 7, 3) := by decide +kernel
theorem dX8_tokenAt_136 : decode cX8_tokenAt 136 = .ok (.iconst 2, 1) := by decide +kernel
theorem dX8_tokenAt_137 : decode cX8_tokenAt 137 = .ok (.goto 4, 3) := by decide +kernel
theorem dX8_tokenAt_140 : decode cX8_tokenAt 140 = .ok (.iconst 4, 1) := by decide +kernel
theorem dX8_tokenAt_141 : decode cX8_tokenAt 141 = .ok (.ireturn, 1) := by decide +kernel
theorem dX8_tokenAt_142 : decode cX8_tokenAt 142 = .ok (.aload_n 0, 1) := by decide +kernel
theorem dX8_tokenAt_143 : decode cX8_tokenAt 143 = .ok (.dup, 1) := by decide +kernel
theorem dX8_tokenAt_144 : decode cX8_tokenAt 144 = .ok (.getfield 19, 3) := by decide +kernel
theorem dX8_tokenAt_147 : decode cX8_tokenAt 147 = .ok (.iconst 1, 1) := by decide +kernel
theorem dX8_tokenAt_148 : decode cX8_tokenAt 148 = .ok (.iadd, 1) := by decide +kernel
theorem dX8_tokenAt_149 : decode cX8_tokenAt 149 = .ok (.putfield 19, 3) := by decide +kernel
theorem dX8_tokenAt_152 : decode cX8_tokenAt 152 = .ok (.aload_n 0, 1) := by decide +kernel
theorem dX8_tokenAt_153 : decode cX8_tokenAt 153 = .ok (.getfield 9, 3) := by decide +kernel
theorem dX8_tokenAt_156 : decode cX8_tokenAt 156 = .ok (.aload_n 0, 1) := by decide +kernel
theorem dX8_tokenAt_157 : decode cX8_tokenAt 157 = .ok (.getfield 40, 3) := by decide +kernel
theorem dX8_tokenAt_160 : decode cX8_tokenAt 160 = .ok (.baload, 1) := by decide +kernel
theorem dX8_tokenAt_161 : decode cX8_tokenAt 161 = .ok (.bipush 59, 2) := by decide +kernel
theorem dX8_tokenAt_163 : decode cX8_tokenAt 163 = .ok (.if_icmp .ne 7, 3) := by decide +kernel
theorem dX8_tokenAt_166 : decode cX8_tokenAt 166 = .ok (.iconst 3, 1) := by decide +kernel
theorem dX8_tokenAt_167 : decode cX8_tokenAt 167 = .ok (.goto 4, 3) := by decide +kernel
theorem dX8_tokenAt_170 : decode cX8_tokenAt 170 = .ok (.iconst 4, 1) := by decide +kernel
theorem dX8_tokenAt_171 : decode cX8_tokenAt 171 = .ok (.ireturn, 1) := by decide +kernel
theorem dX8_isLetter_0 : decode cX8_isLetter 0 = .ok (.iload_n 0, 1) := by decide +kernel
theorem dX8_isLetter_1 : decode cX8_isLetter 1 = .ok (.bipush 97, 2) := by decide +kernel
theorem dX8_isLetter_3 : decode cX8_isLetter 3 = .ok (.if_icmp .lt 13, 3) := by decide +kernel
theorem dX8_isLetter_6 : decode cX8_isLetter 6 = .ok (.iload_n 0, 1) := by decide +kernel
theorem dX8_isLetter_7 : decode cX8_isLetter 7 = .ok (.bipush 122, 2) := by decide +kernel
theorem dX8_isLetter_9 : decode cX8_isLetter 9 = .ok (.if_icmp .gt 7, 3) := by decide +kernel
theorem dX8_isLetter_12 : decode cX8_isLetter 12 = .ok (.iconst 1, 1) := by decide +kernel
theorem dX8_isLetter_13 : decode cX8_isLetter 13 = .ok (.goto 4, 3) := by decide +kernel
theorem dX8_isLetter_16 : decode cX8_isLetter 16 = .ok (.iconst 0, 1) := by decide +kernel
theorem dX8_isLetter_17 : decode cX8_isLetter 17 = .ok (.ireturn, 1) := by decide +kernel
theorem dX8_isFigure_0 : decode cX8_isFigure 0 = .ok (.iload_n 0, 1) := by decide +kernel
theorem dX8_isFigure_1 : decode cX8_isFigure 1 = .ok (.bipush 48, 2) := by decide +kernel
theorem dX8_isFigure_3 : decode cX8_isFigure 3 = .ok (.if_icmp .lt 13, 3) := by decide +kernel
theorem dX8_isFigure_6 : decode cX8_isFigure 6 = .ok (.iload_n 0, 1) := by decide +kernel
theorem dX8_isFigure_7 : decode cX8_isFigure 7 = .ok (.bipush 57, 2) := by decide +kernel
theorem dX8_isFigure_9 : decode cX8_isFigure 9 = .ok (.if_icmp .gt 7, 3) := by decide +kernel
theorem dX8_isFigure_12 : decode cX8_isFigure 12 = .ok (.iconst 1, 1) := by decide +kernel
theorem dX8_isFigure_13 : decode cX8_isFigure 13 = .ok (.goto 4, 3) := by decide +kernel
theorem dX8_isFigure_16 : decode cX8_isFigure 16 = .ok (.iconst 0, 1) := by decide +kernel
theorem dX8_isFigure_17 : decode cX8_isFigure 17 = .ok (.ireturn, 1) := by decide +kernel
theorem dX9_init_0 : decode cX9_init 0 = .ok (.aload_n 0, 1) := by decide +kernel
theorem dX9_init_1 : decode cX9_init 1 = .ok (.invokespecial 3, 3) := by decide +kernel
theorem dX9_init_4 : decode cX9_init 4 = .ok (.bipush 6, 2) := by decide +kernel
theorem dX9_init_6 : decode cX9_init 6 = .ok (.anewarray 9, 3) := by decide +kernel
theorem dX9_init_9 : decode cX9_init 9 = .ok (.dup, 1) := by decide +kernel
theorem dX9_init_10 : decode cX9_init 10 = .ok (.iconst 0, 1) := by decide +kernel
theorem dX9_init_11 : decode cX9_init 11 = .ok (.new 9, 3) := by decide +kernel
theorem dX9_init_14 : decode cX9_init 14 = .ok (.dup, 1) := by decide +kernel
theorem dX9_init_15 : decode cX9_init 15 = .ok (.invokespecial 11, 3) := by decide +kernel
theorem dX9_init_18 : decode cX9_init 18 = .ok (.aastore, 1) := by decide +kernel
theorem dX9_init_19 : decode cX9_init 19 = .ok (.dup, 1) := by decide +kernel
theorem dX9_init_20 : decode cX9_init 20 = .ok (.iconst 1, 1) := by decide +kernel
theorem dX9_init_21 : decode cX9_init 21 = .ok (.new 12, 3) := by decide +kernel
theorem dX9_init_24 : decode cX9_init 24 = .ok (.dup, 1) := by decide +kernel
theorem dX9_init_25 : decode cX9_init 25 = .ok (.invokespecial 14, 3) := by decide +kernel
theorem dX9_init_28 : decode cX9_init 28 = .ok (.aastore, 1) := by decide +kernel
theorem dX9_init_29 : decode cX9_init 29 = .ok (.dup, 1) := by decide +kernel
theorem dX9_init_30 : decode cX9_init 30 = .ok (.iconst 2, 1) := by decide +kernel
theorem dX9_init_31 : decode cX9_init 31 = .ok (.new 15, 3) := by decide +kernel
theorem dX9_init_34 : decode cX9_init 34 = .ok (.dup, 1) := by decide +kernel
theorem dX9_init_35 : decode cX9_init 35 = .ok (.invokespecial 17, 3) := by decide +kernel
theorem dX9_init_38 : decode cX9_init 38 = .ok (.aastore, 1) := by decide +kernel
theorem dX9_init_39 : decode cX9_init 39 = .ok (.dup, 1) := by decide +kernel
theorem dX9_init_40 : decode cX9_init 40 = .ok (.iconst 3, 1) := by decide +kernel
theorem dX9_init_41 : decode cX9_init 41 = .ok (.new 18, 3) := by decide +kernel
theorem dX9_init_44 : decode cX9_init 44 = .ok (.dup, 1) := by decide +kernel
theorem dX9_init_45 : decode cX9_init 45 = .ok (.invokespecial 20, 3) := by decide +kernel
theorem dX9_init_48 : decode cX9_init 48 = .ok (.aastore, 1) := by decide +kernel
theorem dX9_init_49 : decode cX9_init 49 = .ok (.dup, 1) := by decide +kernel
theorem dX9_init_50 : decode cX9_init 50 = .ok (.iconst 4, 1) := by decide +kernel
theorem dX9_init_51 : decode cX9_init 51 = .ok (.new 21, 3) := by decide +kernel
theorem dX9_init_54 : decode cX9_init 54 = .ok (.dup, 1) := by decide +kernel
theorem dX9_init_55 : decode cX9_init 55 = .ok (.invokespecial 23, 3) := by decide +kernel
theorem dX9_init_58 : decode cX9_init 58 = .ok (.aastore, 1) := by decide +kernel
theorem dX9_init_59 : decode cX9_init 59 = .ok (.dup, 1) := by decide +kernel
theorem dX9_init_60 : decode cX9_init 60 = .ok (.iconst 5, 1) := by decide +kernel
theorem dX9_init_61 : decode cX9_init 61 = .ok (.new 24, 3) := by decide +kernel
theorem dX9_init_64 : decode cX9_init 64 = .ok (.dup, 1) := by decide +kernel
theorem dX9_init_65 : decode cX9_init 65 = .ok (.invokespecial 26, 3) := by decide +kernel
theorem dX9_init_68 : decode cX9_init 68 = .ok (.aastore, 1) := by decide +kernel
theorem dX9_init_69 : decode cX9_init 69 = .ok (.astore_n 1, 1) := by decide +kernel
theorem dX9_init_70 : decode cX9_init 70 = .ok (.aload_n 0, 1) := by decide +kernel
theorem dX9_init_71 : decode cX9_init 71 = .ok (.new 27, 3) := by decide +kernel
theorem dX9_init_74 : decode cX9_init 74 = .ok (.dup, 1) := by decide +kernel
theorem dX9_init_75 : decode cX9_init 75 = .ok (.aload_n 1, 1) := by decide +kernel
theorem dX9_init_76 : decode cX9_init 76 = .ok (.invokespecial 29, 3) := by decide +kernel
theorem dX9_init_79 : decode cX9_init 79 = .ok (.putfield 32, 3) := by decide +kernel
theorem dX9_init_82 : decode cX9_init 82 = .ok (.aload_n 0, 1) := by decide +kernel
theorem dX9_init_83 : decode cX9_init 83 = .ok (.new 27, 3) := by decide +kernel
theorem dX9_init_86 : decode cX9_init 86 = .ok (.dup, 1) := by decide +kernel
theorem dX9_init_87 : decode cX9_init 87 = .ok (.aload_n 1, 1) := by decide +kernel
theorem dX9_init_88 : decode cX9_init 88 = .ok (.invokespecial 29, 3) := by decide +kernel
theorem dX9_init_91 : decode cX9_init 91 = .ok (.putfield 36, 3) := by decide +kernel
theorem dX9_init_94 : decode cX9_init 94 = .ok (.aload_n 0, 1) := by decide +kernel
theorem dX9_init_95 : decode cX9_init 95 = .ok (.iconst 2, 1) := by decide +kernel
theorem dX9_init_96 : decode cX9_init 96 = .ok (.anewarray 27, 3) := by decide +kernel
theorem dX9_init_99 : decode cX9_init 99 = .ok (.dup, 1) := by decide +kernel
theorem dX9_init_100 : decode cX9_init 100 = .ok (.iconst 0, 1) := by decide +kernel
theorem dX9_init_101 : decode cX9_init 101 = .ok (.new 27, 3) := by decide +kernel
theorem dX9_init_104 : decode cX9_init 104 = .ok (.dup, 1) := by decide +kernel
theorem dX9_init_105 : decode cX9_init 105 = .ok (.aload_n 1, 1) := by decide +kernel
theorem dX9_init_106 : decode cX9_init 106 = .ok (.invokespecial 29, 3) := by decide +kernel
theorem dX9_init_109 : decode cX9_init 109 = .ok (.aastore, 1) := by decide +kernel
theorem dX9_init_110 : decode cX9_init 110 = .ok (.dup, 1) := by decide +kernel
theorem dX9_init_111 : decode cX9_init 111 = .ok (.iconst 1, 1) := by decide +kernel
theorem dX9_init_112 : decode cX9_init 112 = .ok (.new 27, 3) := by decide +kernel
theorem dX9_init_115 : decode cX9_init 115 = .ok (.dup, 1) := by decide +kernel
theorem dX9_init_116 : decode cX9_init 116 = .ok (.aload_n 1, 1) := by decide +kernel
theorem dX9_init_117 : decode cX9_init 117 = .ok (.invokespecial 29, 3) := by decide +kernel
theorem dX9_init_120 : decode cX9_init 120 = .ok (.aastore, 1) := by decide +kernel
theorem dX9_init_121 : decode cX9_init 121 = .ok (.putfield 39, 3) := by decide +kernel
theorem dX9_init_124 : decode cX9_init 124 = .ok (.aload_n 0, 1) := by decide +kernel
theorem dX9_init_125 : decode cX9_init 125 = .ok (.iconst 2, 1) := by decide +kernel
theorem dX9_init_126 : decode cX9_init 126 = .ok (.newarray .boolean, 2) := by decide +kernel
theorem dX9_init_128 : decode cX9_init 128 = .ok (.putfield 43, 3) := by decide +kernel
theorem dX9_init_131 : decode cX9_init 131 = .ok (.aload_n 0, 1) := by decide +kernel
theorem dX9_init_132 : decode cX9_init 132 = .ok (.new 47, 3) := by decide +kernel
theorem dX9_init_135 : decode cX9_init 135 = .ok (.dup, 1) := by decide +kernel
theorem dX9_init_136 : decode cX9_init 136 = .ok (.invokespecial 49, 3) := by decide +kernel
theorem dX9_init_139 : decode cX9_init 139 = .ok (.putfield 50, 3) := by decide +kernel
theorem dX9_init_142 : decode cX9_init 142 = .ok (.aload_n 0, 1) := by decide +kernel
theorem dX9_init_143 : decode cX9_init 143 = .ok (.new 54, 3) := by decide +kernel
theorem dX9_init_146 : decode cX9_init 146 = .ok (.dup, 1) := by decide +kernel
theorem dX9_init_147 : decode cX9_init 147 = .ok (.invokespecial 56, 3) := by decide +kernel
theorem dX9_init_150 : decode cX9_init 150 = .ok (.putfield 57, 3) := by decide +kernel
theorem dX9_init_153 : decode cX9_init 153 = .ok (.aload_n 0, 1) := by decide +kernel
theorem dX9_init_154 : decode cX9_init 154 = .ok (.lconst 1, 1) := by decide +kernel
theorem dX9_init_155 : decode cX9_init 155 = .ok (.putfield 61, 3) := by decide +kernel
theorem dX9_init_158 : decode cX9_init 158 = .ok (.return_, 1) := by decide +kernel
theorem dX9_night_0 : decode cX9_night 0 = .ok (.aload_n 0, 1) := by decide +kernel
theorem dX9_night_1 : decode cX9_night 1 = .ok (.getfield 32, 3) := by decide +kernel
theorem dX9_night_4 : decode cX9_night 4 = .ok (.getfield 65, 3) := by decide +kernel
theorem dX9_night_7 : decode cX9_night 7 = .ok (.istore_n 1, 1) := by decide +kernel
theorem dX9_night_8 : decode cX9_night 8 = .ok (.aload_n 0, 1) := by decide +kernel
theorem dX9_night_9 : decode cX9_night 9 = .ok (.getfield 32, 3) := by decide +kernel
theorem dX9_night_12 : decode cX9_night 12 = .ok (.invokevirtual 69, 3) := by decide +kernel
theorem dX9_night_15 : decode cX9_night 15 = .ok (.iload_n 1, 1) := by decide +kernel
theorem dX9_night_16 : decode cX9_night 16 = .ok (.ireturn, 1) := by decide +kernel
theorem dX9_boy_0 : decode cX9_boy 0 = .ok (.iload_n 1, 1) := by decide +kernel
theorem dX9_boy_1 : decode cX9_boy 1 = .ok (.iconst 5, 1) := by decide +kernel
theorem dX9_boy_2 : decode cX9_boy 2 = .ok (.invokestatic 72, 3) := by decide +kernel
theorem dX9_boy_5 : decode cX9_boy 5 = .ok (.ifCond .eq 21, 3) := by decide +kernel
theorem dX9_boy_8 : decode cX9_boy 8 = .ok (.iload_n 2, 1) := by decide +kernel
theorem dX9_boy_9 : decode cX9_boy 9 = .ok (.bipush 12, 2) := by decide +kernel
theorem dX9_boy_11 : decode cX9_boy 11 = .ok (.invokestatic 72, 3) := by decide +kernel
theorem dX9_boy_14 : decode cX9_boy 14 = .ok (.ifCond .eq 12, 3) := by decide +kernel
theorem dX9_boy_17 : decode cX9_boy 17 = .ok (.iload_n 3, 1) := by decide +kernel
theorem dX9_boy_18 : decode cX9_boy 18 = .ok (.bipush 40, 2) := by decide +kernel
theorem dX9_boy_20 : decode cX9_boy 20 = .ok (.invokestatic 72, 3) := by decide +kernel
theorem dX9_boy_23 : decode cX9_boy 23 = .ok (.ifCond .ne 8, 3) := by decide +kernel
theorem dX9_boy_26 : decode cX9_boy 26 = .ok (.aload_n 0, 1) := by decide +kernel
theorem dX9_boy_27 : decode cX9_boy 27 = .ok (.invokevirtual 76, 3) := by decide +kernel
theorem dX9_boy_30 : decode cX9_boy 30 = .ok (.ireturn, 1) := by decide +kernel
theorem dX9_boy_31 : decode cX9_boy 31 = .ok (.aload_n 0, 1) := by decide +kernel
theorem dX9_boy_32 : decode cX9_boy 32 = .ok (.getfield 32, 3) := by decide +kernel
theorem dX9_boy_35 : decode cX9_boy 35 = .ok (.getfield 65, 3) := by decide +kernel
theorem dX9_boy_38 : decode cX9_boy 38 = .ok (.iconst 5, 1) := by decide +kernel
theorem dX9_boy_39 : decode cX9_boy 39 = .ok (.if_icmp .lt 8, 3) := by decide +kernel
theorem dX9_boy_42 : decode cX9_boy 42 = .ok (.aload_n 0, 1) := by decide +kernel
theorem dX9_boy_43 : decode cX9_boy 43 = .ok (.invokevirtual 80, 3) := by decide +kernel
theorem dX9_boy_46 : decode cX9_boy 46 = .ok (.ireturn, 1) := by decide +kernel
theorem dX9_boy_47 : decode cX9_boy 47 = .ok (.aload_n 0, 1) := by decide +kernel
theorem dX9_boy_48 : decode cX9_boy 48 = .ok (.getfield 32, 3) := by decide +kernel
theorem dX9_boy_51 : decode cX9_boy 51 = .ok (.iload_n 1, 1) := by decide +kernel
theorem dX9_boy_52 : decode cX9_boy 52 = .ok (.iload_n 2, 1) := by decide +kernel
theorem dX9_boy_53 : decode cX9_boy 53 = .ok (.iload_n 3, 1) := by decide +kernel
theorem dX9_boy_54 : decode cX9_boy 54 = .ok (.invokevirtual 83, 3) := by decide +kernel
theorem dX9_boy_57 : decode cX9_boy 57 = .ok (.ireturn, 1) := by decide +kernel
theorem dX9_give_0 : decode cX9_give 0 = .ok (.iload_n 1, 1) := by decide +kernel
theorem dX9_give_1 : decode cX9_give 1 = .ok (.invokestatic 87, 3) := by decide +kernel
theorem dX9_give_4 : decode cX9_give 4 = .ok (.ifCond .eq 16, 3) := by decide +kernel
theorem dX9_give_7 : decode cX9_give 7 = .ok (.iload_n 2, 1) := by decide +kernel
theorem dX9_give_8 : decode cX9_give 8 = .ok (.iconst (-1), 1) := by decide +kernel
theorem dX9_give_9 : decode cX9_give 9 = .ok (.if_icmp .eq 16, 3) := by decide +kernel
theorem dX9_give_12 : decode cX9_give 12 = .ok (.aload_n 0, 1) := by decide +kernel
theorem dX9_give_13 : decode cX9_give 13 = .ok (.iload_n 2, 1) := by decide +kernel
theorem dX9_give_14 : decode cX9_give 14 = .ok (.invokevirtual 91, 3) := by decide +kernel
theorem dX9_give_17 : decode cX9_give 17 = .ok (.ifCond .ne 8, 3) := by decide +kernel
theorem dX9_give_20 : decode cX9_give 20 = .ok (.aload_n 0, 1) := by decide +kernel
theorem dX9_give_21 : decode cX9_give 21 = .ok (.invokevirtual 94, 3) := by decide +kernel
theorem dX9_give_24 : decode cX9_give 24 = .ok (.ireturn, 1) := by decide +kernel
theorem dX9_give_25 : decode cX9_give 25 = .ok (.aload_n 0, 1) := by decide +kernel
theorem dX9_give_26 : decode cX9_give 26 = .ok (.getfield 32, 3) := by decide +kernel
theorem dX9_give_29 : decode cX9_give 29 = .ok (.getfield 97, 3) := by decide +kernel
theorem dX9_give_32 : decode cX9_give 32 = .ok (.iload_n 1, 1) := by decide +kernel
theorem dX9_give_33 : decode cX9_give 33 = .ok (.iaload, 1) := by decide +kernel
theorem dX9_give_34 : decode cX9_give 34 = .ok (.istore_n 3, 1) := by decide +kernel
theorem dX9_give_35 : decode cX9_give 35 = .ok (.aload_n 0, 1) := by decide +kernel
theorem dX9_give_36 : decode cX9_give 36 = .ok (.getfield 32, 3) := by decide +kernel
theorem dX9_give_39 : decode cX9_give 39 = .ok (.invokevirtual 101, 3) := by decide +kernel
theorem dX9_give_42 : decode cX9_give 42 = .ok (.aload_n 0, 1) := by decide +kernel
theorem dX9_give_43 : decode cX9_give 43 = .ok (.getfield 32, 3) := by decide +kernel
theorem dX9_give_46 : decode cX9_give 46 = .ok (.getfield 97, 3) := by decide +kernel
theorem dX9_give_49 : decode cX9_give 49 = .ok (.iload_n 1, 1) := by decide +kernel
theorem dX9_give_50 : decode cX9_give 50 = .ok (.iload_n 2, 1) := by decide +kernel
theorem dX9_give_51 : decode cX9_give 51 = .ok (.iastore, 1) := by decide +kernel
theorem dX9_give_52 : decode cX9_give 52 = .ok (.iload_n 3, 1) := by decide +kernel
theorem dX9_give_53 : decode cX9_give 53 = .ok (.ireturn, 1) := by decide +kernel
theorem dX9_type_0 : decode cX9_type 0 = .ok (.iload_n 1, 1) := by decide +kernel
theorem dX9_type_1 : decode cX9_type 1 = .ok (.bipush 127, 2) := by decide +kernel
theorem dX9_type_3 : decode cX9_type 3 = .ok (.invokestatic 72, 3) := by decide +kernel
theorem dX9_type_6 : decode cX9_type 6 = .ok (.ifCond .ne 8, 3) := by decide +kernel
theorem dX9_type_9 : decode cX9_type 9 = .ok (.aload_n 0, 1) := by decide +kernel
theorem dX9_type_10 : decode cX9_type 10 = .ok (.invokevirtual 76, 3) := by decide +kernel
theorem dX9_type_13 : decode cX9_type 13 = .ok (.ireturn, 1) := by decide +kernel
theorem dX9_type_14 : decode cX9_type 14 = .ok (.aload_n 0, 1) := by decide +kernel
theorem dX9_type_15 : decode cX9_type 15 = .ok (.getfield 57, 3) := by decide +kernel
theorem dX9_type_18 : decode cX9_type 18 = .ok (.getfield 104, 3) := by decide +kernel
theorem dX9_type_21 : decode cX9_type 21 = .ok (.sipush 150, 3) := by decide +kernel
theorem dX9_type_24 : decode cX9_type 24 = .ok (.if_icmp .lt 8, 3) := by decide +kernel
theorem dX9_type_27 : decode cX9_type 27 = .ok (.aload_n 0, 1) := by decide +kernel
theorem dX9_type_28 : decode cX9_type 28 = .ok (.invokevirtual 80, 3) := by decide +kernel
theorem dX9_type_31 : decode cX9_type 31 = .ok (.ireturn, 1) := by decide +kernel
theorem dX9_type_32 : decode cX9_type 32 = .ok (.aload_n 0, 1) := by decide +kernel
theorem dX9_type_33 : decode cX9_type 33 = .ok (.getfield 57, 3) := by decide +kernel
theorem dX9_type_36 : decode cX9_type 36 = .ok (.iload_n 1, 1) := by decide +kernel
theorem dX9_type_37 : decode cX9_type 37 = .ok (.i2b, 1) := by decide +kernel
theorem dX9_type_38 : decode cX9_type 38 = .ok (.invokevirtual 107, 3) := by decide +kernel
theorem dX9_type_41 : decode cX9_type 41 = .ok (.ireturn, 1) := by decide +kernel
theorem dX9_clear_0 : decode cX9_clear 0 = .ok (.aload_n 0, 1) := by decide +kernel
theorem dX9_clear_1 : decode cX9_clear 1 = .ok (.getfield 57, 3) := by decide +kernel
theorem dX9_clear_4 : decode cX9_clear 4 = .ok (.getfield 104, 3) := by decide +kernel
theorem dX9_clear_7 : decode cX9_clear 7 = .ok (.istore_n 1, 1) := by decide +kernel
theorem dX9_clear_8 : decode cX9_clear 8 = .ok (.aload_n 0, 1) := by decide +kernel
theorem dX9_clear_9 : decode cX9_clear 9 = .ok (.getfield 57, 3) := by decide +kernel
theorem dX9_clear_12 : decode cX9_clear 12 = .ok (.iconst 0, 1) := by decide +kernel
theorem dX9_clear_13 : decode cX9_clear 13 = .ok (.putfield 104, 3) := by decide +kernel
theorem dX9_clear_16 : decode cX9_clear 16 = .ok (.iload_n 1, 1) := by decide +kernel
theorem dX9_clear_17 : decode cX9_clear 17 = .ok (.ireturn, 1) := by decide +kernel
theorem dX9_read_0 : decode cX9_read 0 = .ok (.aload_n 0, 1) := by decide +kernel
theorem dX9_read_1 : decode cX9_read 1 = .ok (.getfield 57, 3) := by decide +kernel
theorem dX9_read_4 : decode cX9_read 4 = .ok (.aload_n 0, 1) := by decide +kernel
theorem dX9_read_5 : decode cX9_read 5 = .ok (.getfield 36, 3) := by decide +kernel
theorem dX9_read_8 : decode cX9_read 8 = .ok (.invokevirtual 111, 3) := by decide +kernel
theorem dX9_read_11 : decode cX9_read 11 = .ok (.istore_n 1, 1) := by decide +kernel
theorem dX9_read_12 : decode cX9_read 12 = .ok (.iload_n 1, 1) := by decide +kernel
theorem dX9_read_13 : decode cX9_read 13 = .ok (.ifCond .le 14, 3) := by decide +kernel
theorem dX9_read_16 : decode cX9_read 16 = .ok (.aload_n 0, 1) := by decide +kernel
theorem dX9_read_17 : decode cX9_read 17 = .ok (.getfield 32, 3) := by decide +kernel
theorem dX9_read_20 : decode cX9_read 20 = .ok (.aload_n 0, 1) := by decide +kernel
theorem dX9_read_21 : decode cX9_read 21 = .ok (.getfield 36, 3) := by decide +kernel
theorem dX9_read_24 : decode cX9_read 24 = .ok (.invokevirtual 115, 3) := by decide +kernel
theorem dX9_read_27 : decode cX9_read 27 = .ok (.iload_n 1, 1) := by decide +kernel
theorem dX9_read_28 : decode cX9_read 28 = .ok (.ireturn, 1) := by decide +kernel
theorem dX9_swap_0 : decode cX9_swap 0 = .ok (.iload_n 1, 1) := by decide +kernel
theorem dX9_swap_1 : decode cX9_swap 1 = .ok (.invokestatic 87, 3) := by decide +kernel
theorem dX9_swap_4 : decode cX9_swap 4 = .ok (.ifCond .eq 15, 3) := by decide +kernel
theorem dX9_swap_7 : decode cX9_swap 7 = .ok (.iload_n 2, 1) := by decide +kernel
theorem dX9_swap_8 : decode cX9_swap 8 = .ok (.invokestatic 87, 3) := by decide +kernel
theorem dX9_swap_11 : decode cX9_swap 11 = .ok (.ifCond .eq 8, 3) := by decide +kernel
theorem dX9_swap_14 : decode cX9_swap 14 = .ok (.iload_n 1, 1) := by decide +kernel
theorem dX9_swap_15 : decode cX9_swap 15 = .ok (.iload_n 2, 1) := by decide +kernel
theorem dX9_swap_16 : decode cX9_swap 16 = .ok (.if_icmp .ne 8, 3) := by decide +kernel
theorem dX9_swap_19 : decode cX9_swap 19 = .ok (.aload_n 0, 1) := by decide +kernel
theorem dX9_swap_20 : decode cX9_swap 20 = .ok (.invokevirtual 76, 3) := by decide +kernel
theorem dX9_swap_23 : decode cX9_swap 23 = .ok (.ireturn, 1) := by decide +kernel
theorem dX9_swap_24 : decode cX9_swap 24 = .ok (.aload_n 0, 1) := by decide +kernel
theorem dX9_swap_25 : decode cX9_swap 25 = .ok (.getfield 32, 3) := by decide +kernel
theorem dX9_swap_28 : decode cX9_swap 28 = .ok (.iload_n 1, 1) := by decide +kernel
theorem dX9_swap_29 : decode cX9_swap 29 = .ok (.iload_n 2, 1) := by decide +kernel
theorem dX9_swap_30 : decode cX9_swap 30 = .ok (.invokevirtual 119, 3) := by decide +kernel
theorem dX9_swap_33 : decode cX9_swap 33 = .ok (.ifCond .ne 8, 3) := by decide +kernel
theorem dX9_swap_36 : decode cX9_swap 36 = .ok (.aload_n 0, 1) := by decide +kernel
theorem dX9_swap_37 : decode cX9_swap 37 = .ok (.invokevirtual 122, 3) := by decide +kernel
theorem dX9_swap_40 : decode cX9_swap 40 = .ok (.ireturn, 1) := by decide +kernel
theorem dX9_swap_41 : decode cX9_swap 41 = .ok (.aload_n 0, 1) := by decide +kernel
theorem dX9_swap_42 : decode cX9_swap 42 = .ok (.getfield 32, 3) := by decide +kernel
theorem dX9_swap_45 : decode cX9_swap 45 = .ok (.invokevirtual 101, 3) := by decide +kernel
theorem dX9_swap_48 : decode cX9_swap 48 = .ok (.aload_n 0, 1) := by decide +kernel
theorem dX9_swap_49 : decode cX9_swap 49 = .ok (.getfield 32, 3) := by decide +kernel
theorem dX9_swap_52 : decode cX9_swap 52 = .ok (.iload_n 1, 1) := by decide +kernel
theorem dX9_swap_53 : decode cX9_swap 53 = .ok (.iload_n 2, 1) := by decide +kernel
theorem dX9_swap_54 : decode cX9_swap 54 = .ok (.invokevirtual 125, 3) := by decide +kernel
theorem dX9_swap_57 : decode cX9_swap 57 = .ok (.iconst 1, 1) := by decide +kernel
theorem dX9_swap_58 : decode cX9_swap 58 = .ok (.ireturn, 1) := by decide +kernel
theorem dX9_sell_0 : decode cX9_sell 0 = .ok (.iload_n 1, 1) := by decide +kernel
theorem dX9_sell_1 : decode cX9_sell 1 = .ok (.invokestatic 87, 3) := by decide +kernel
theorem dX9_sell_4 : decode cX9_sell 4 = .ok (.ifCond .eq 20, 3) := by decide +kernel
theorem dX9_sell_7 : decode cX9_sell 7 = .ok (.aload_n 0, 1) := by decide +kernel
theorem dX9_sell_8 : decode cX9_sell 8 = .ok (.iload_n 2, 1) := by decide +kernel
theorem dX9_sell_9 : decode cX9_sell 9 = .ok (.invokevirtual 91, 3) := by decide +kernel
theorem dX9_sell_12 : decode cX9_sell 12 = .ok (.ifCond .eq 12, 3) := by decide +kernel
theorem dX9_sell_15 : decode cX9_sell 15 = .ok (.iload_n 3, 1) := by decide +kernel
theorem dX9_sell_16 : decode cX9_sell 16 = .ok (.bipush 40, 2) := by decide +kernel
theorem dX9_sell_18 : decode cX9_sell 18 = .ok (.invokestatic 72, 3) := by decide +kernel
theorem dX9_sell_21 : decode cX9_sell 21 = .ok (.ifCond .ne 8, 3) := by decide +kernel
theorem dX9_sell_24 : decode cX9_sell 24 = .ok (.aload_n 0, 1) := by decide +kernel
theorem dX9_sell_25 : decode cX9_sell 25 = .ok (.invokevirtual 76, 3) := by decide +kernel
theorem dX9_sell_28 : decode cX9_sell 28 = .ok (.ireturn, 1) := by decide +kernel
theorem dX9_sell_29 : decode cX9_sell 29 = .ok (.aload_n 0, 1) := by decide +kernel
theorem dX9_sell_30 : decode cX9_sell 30 = .ok (.getfield 32, 3) := by decide +kernel
theorem dX9_sell_33 : decode cX9_sell 33 = .ok (.getfield 97, 3) := by decide +kernel
theorem dX9_sell_36 : decode cX9_sell 36 = .ok (.iload_n 1, 1) := by decide +kernel
theorem dX9_sell_37 : decode cX9_sell 37 = .ok (.iaload, 1) := by decide +kernel
theorem dX9_sell_38 : decode cX9_sell 38 = .ok (.istore 4, 2) := by decide +kernel
theorem dX9_sell_40 : decode cX9_sell 40 = .ok (.iload 4, 2) := by decide +kernel
theorem dX9_sell_42 : decode cX9_sell 42 = .ok (.iload_n 2, 1) := by decide +kernel
theorem dX9_sell_43 : decode cX9_sell 43 = .ok (.if_icmp .eq 16, 3) := by decide +kernel
theorem dX9_sell_46 : decode cX9_sell 46 = .ok (.aload_n 0, 1) := by decide +kernel
theorem dX9_sell_47 : decode cX9_sell 47 = .ok (.getfield 32, 3) := by decide +kernel
theorem dX9_sell_50 : decode cX9_sell 50 = .ok (.getfield 129, 3) := by decide +kernel
theorem dX9_sell_53 : decode cX9_sell 53 = .ok (.iload_n 2, 1) := by decide +kernel
theorem dX9_sell_54 : decode cX9_sell 54 = .ok (.iaload, 1) := by decide +kernel
theorem dX9_sell_55 : decode cX9_sell 55 = .ok (.iload_n 3, 1) := by decide +kernel
theorem dX9_sell_56 : decode cX9_sell 56 = .ok (.if_icmp .ge 8, 3) := by decide +kernel
theorem dX9_sell_59 : decode cX9_sell 59 = .ok (.aload_n 0, 1) := by decide +kernel
theorem dX9_sell_60 : decode cX9_sell 60 = .ok (.invokevirtual 122, 3) := by decide +kernel
theorem dX9_sell_63 : decode cX9_sell 63 = .ok (.ireturn, 1) := by decide +kernel
theorem dX9_sell_64 : decode cX9_sell 64 = .ok (.aload_n 0, 1) := by decide +kernel
theorem dX9_sell_65 : decode cX9_sell 65 = .ok (.getfield 32, 3) := by decide +kernel
theorem dX9_sell_68 : decode cX9_sell 68 = .ok (.invokevirtual 101, 3) := by decide +kernel
theorem dX9_sell_71 : decode cX9_sell 71 = .ok (.aload_n 0, 1) := by decide +kernel
theorem dX9_sell_72 : decode cX9_sell 72 = .ok (.getfield 32, 3) := by decide +kernel
theorem dX9_sell_75 : decode cX9_sell 75 = .ok (.getfield 97, 3) := by decide +kernel
theorem dX9_sell_78 : decode cX9_sell 78 = .ok (.iload_n 1, 1) := by decide +kernel
theorem dX9_sell_79 : decode cX9_sell 79 = .ok (.iload_n 2, 1) := by decide +kernel
theorem dX9_sell_80 : decode cX9_sell 80 = .ok (.iastore, 1) := by decide +kernel
theorem dX9_sell_81 : decode cX9_sell 81 = .ok (.aload_n 0, 1) := by decide +kernel
theorem dX9_sell_82 : decode cX9_sell 82 = .ok (.getfield 32, 3) := by decide +kernel
theorem dX9_sell_85 : decode cX9_sell 85 = .ok (.getfield 129, 3) := by decide +kernel
theorem dX9_sell_88 : decode cX9_sell 88 = .ok (.iload_n 2, 1) := by decide +kernel
theorem dX9_sell_89 : decode cX9_sell 89 = .ok (.dup2, 1) := by decide +kernel
theorem dX9_sell_90 : decode cX9_sell 90 = .ok (.iaload, 1) := by decide +kernel
theorem dX9_sell_91 : decode cX9_sell 91 = .ok (.iload_n 3, 1) := by decide +kernel
theorem dX9_sell_92 : decode cX9_sell 92 = .ok (.isub, 1) := by decide +kernel
theorem dX9_sell_93 : decode cX9_sell 93 = .ok (.iastore, 1) := by decide +kernel
theorem dX9_sell_94 : decode cX9_sell 94 = .ok (.aload_n 0, 1) := by decide +kernel
theorem dX9_sell_95 : decode cX9_sell 95 = .ok (.iload 4, 2) := by decide +kernel
theorem dX9_sell_97 : decode cX9_sell 97 = .ok (.invokevirtual 91, 3) := by decide +kernel
theorem dX9_sell_100 : decode cX9_sell 100 = .ok (.ifCond .eq 17, 3) := by decide +kernel
theorem dX9_sell_103 : decode cX9_sell 103 = .ok (.aload_n 0, 1) := by decide +kernel
theorem dX9_sell_104 : decode cX9_sell 104 = .ok (.getfield 32, 3) := by decide +kernel
theorem dX9_sell_107 : decode cX9_sell 107 = .ok (.getfield 129, 3) := by decide +kernel
theorem dX9_sell_110 : decode cX9_sell 110 = .ok (.iload 4, 2) := by decide +kernel
theorem dX9_sell_112 : decode cX9_sell 112 = .ok (.dup2, 1) := by decide +kernel
theorem dX9_sell_113 : decode cX9_sell 113 = .ok (.iaload, 1) := by decide +kernel
theorem dX9_sell_114 : decode cX9_sell 114 = .ok (.iload_n 3, 1) := by decide +kernel
theorem dX9_sell_115 : decode cX9_sell 115 = .ok (.iadd, 1) := by decide +kernel
theorem dX9_sell_116 : decode cX9_sell 116 = .ok (.iastore, 1) := by decide +kernel
theorem dX9_sell_117 : decode cX9_sell 117 = .ok (.aload_n 0, 1) := by decide +kernel
theorem dX9_sell_118 : decode cX9_sell 118 = .ok (.getfield 32, 3) := by decide +kernel
theorem dX9_sell_121 : decode cX9_sell 121 = .ok (.getfield 129, 3) := by decide +kernel
theorem dX9_sell_124 : decode cX9_sell 124 = .ok (.iload_n 2, 1) := by decide +kernel
theorem dX9_sell_125 : decode cX9_sell 125 = .ok (.iaload, 1) := by decide +kernel
theorem dX9_sell_126 : decode cX9_sell 126 = .ok (.ireturn, 1) := by decide +kernel
theorem dX9_undo_0 : decode cX9_undo 0 = .ok (.aload_n 0, 1) := by decide +kernel
theorem dX9_undo_1 : decode cX9_undo 1 = .ok (.getfield 32, 3) := by decide +kernel
theorem dX9_undo_4 : decode cX9_undo 4 = .ok (.getfield 132, 3) := by decide +kernel
theorem dX9_undo_7 : decode cX9_undo 7 = .ok (.ifCond .gt 8, 3) := by decide +kernel
theorem dX9_undo_10 : decode cX9_undo 10 = .ok (.aload_n 0, 1) := by decide +kernel
theorem dX9_undo_11 : decode cX9_undo 11 = .ok (.invokevirtual 122, 3) := by decide +kernel
theorem dX9_undo_14 : decode cX9_undo 14 = .ok (.ireturn, 1) := by decide +kernel
theorem dX9_undo_15 : decode cX9_undo 15 = .ok (.aload_n 0, 1) := by decide +kernel
theorem dX9_undo_16 : decode cX9_undo 16 = .ok (.getfield 32, 3) := by decide +kernel
theorem dX9_undo_19 : decode cX9_undo 19 = .ok (.invokevirtual 135, 3) := by decide +kernel
theorem dX9_undo_22 : decode cX9_undo 22 = .ok (.aload_n 0, 1) := by decide +kernel
theorem dX9_undo_23 : decode cX9_undo 23 = .ok (.getfield 32, 3) := by decide +kernel
theorem dX9_undo_26 : decode cX9_undo 26 = .ok (.invokevirtual 138, 3) := by decide +kernel
theorem dX9_undo_29 : decode cX9_undo 29 = .ok (.ireturn, 1) := by decide +kernel
theorem dX9_of_0 : decode cX9_of 0 = .ok (.aload_n 0, 1) := by decide +kernel
theorem dX9_of_1 : decode cX9_of 1 = .ok (.iload_n 1, 1) := by decide +kernel
theorem dX9_of_2 : decode cX9_of 2 = .ok (.invokevirtual 91, 3) := by decide +kernel
theorem dX9_of_5 : decode cX9_of 5 = .ok (.ifCond .ne 8, 3) := by decide +kernel
theorem dX9_of_8 : decode cX9_of 8 = .ok (.aload_n 0, 1) := by decide +kernel
theorem dX9_of_9 : decode cX9_of 9 = .ok (.invokevirtual 76, 3) := by decide +kernel
theorem dX9_of_12 : decode cX9_of 12 = .ok (.ireturn, 1) := by decide +kernel
theorem dX9_of_13 : decode cX9_of 13 = .ok (.iload_n 2, 1) := by decide +kernel
theorem dX9_of_14 : decode cX9_of 14 = .ok (.tableswitch 82 0 4 #[34, 44, 54, 64, 73], 34) := by decide +kernel
theorem dX9_of_48 : decode cX9_of 48 = .ok (.aload_n 0, 1) := by decide +kernel
theorem dX9_of_49 : decode cX9_of 49 = .ok (.getfield 32, 3) := by decide +kernel
theorem dX9_of_52 : decode cX9_of 52 = .ok (.getfield 141, 3) := by decide +kernel
theorem dX9_of_55 : decode cX9_of 55 = .ok (.iload_n 1, 1) := by decide +kernel
theorem dX9_of_56 : decode cX9_of 56 = .ok (.iaload, 1) := by decide +kernel
theorem dX9_of_57 : decode cX9_of 57 = .ok (.ireturn, 1) := by decide +kernel
theorem dX9_of_58 : decode cX9_of 58 = .ok (.aload_n 0, 1) := by decide +kernel
theorem dX9_of_59 : decode cX9_of 59 = .ok (.getfield 32, 3) := by decide +kernel
theorem dX9_of_62 : decode cX9_of 62 = .ok (.getfield 144, 3) := by decide +kernel
theorem dX9_of_65 : decode cX9_of 65 = .ok (.iload_n 1, 1) := by decide +kernel
theorem dX9_of_66 : decode cX9_of 66 = .ok (.iaload, 1) := by decide +kernel
theorem dX9_of_67 : decode cX9_of 67 = .ok (.ireturn, 1) := by decide +kernel
theorem dX9_of_68 : decode cX9_of 68 = .ok (.aload_n 0, 1) := by decide +kernel
theorem dX9_of_69 : decode cX9_of 69 = .ok (.getfield 32, 3) := by decide +kernel
theorem dX9_of_72 : decode cX9_of 72 = .ok (.getfield 129, 3) := by decide +kernel
theorem dX9_of_75 : decode cX9_of 75 = .ok (.iload_n 1, 1) := by decide +kernel
theorem dX9_of_76 : decode cX9_of 76 = .ok (.iaload, 1) := by decide +kernel
theorem dX9_of_77 : decode cX9_of 77 = .ok (.ireturn, 1) := by decide +kernel
theorem dX9_of_78 : decode cX9_of 78 = .ok (.aload_n 0, 1) := by decide +kernel
theorem dX9_of_79 : decode cX9_of 79 = .ok (.getfield 32, 3) := by decide +kernel
theorem dX9_of_82 : decode cX9_of 82 = .ok (.iload_n 1, 1) := by decide +kernel
theorem dX9_of_83 : decode cX9_of 83 = .ok (.invokevirtual 147, 3) := by decide +kernel
theorem dX9_of_86 : decode cX9_of 86 = .ok (.ireturn, 1) := by decide +kernel
theorem dX9_of_87 : decode cX9_of 87 = .ok (.aload_n 0, 1) := by decide +kernel
theorem dX9_of_88 : decode cX9_of 88 = .ok (.getfield 32, 3) := by decide +kernel
theorem dX9_of_91 : decode cX9_of 91 = .ok (.iload_n 1, 1) := by decide +kernel
theorem dX9_of_92 : decode cX9_of 92 = .ok (.invokevirtual 151, 3) := by decide +kernel
theorem dX9_of_95 : decode cX9_of 95 = .ok (.ireturn, 1) := by decide +kernel
theorem dX9_of_96 : decode cX9_of 96 = .ok (.aload_n 0, 1) := by decide +kernel
theorem dX9_of_97 : decode cX9_of 97 = .ok (.invokevirtual 76, 3) := by decide +kernel
theorem dX9_of_100 : decode cX9_of 100 = .ok (.ireturn, 1) := by decide +kernel
theorem dX9_worth_0 : decode cX9_worth 0 = .ok (.aload_n 0, 1) := by decide +kernel
theorem dX9_worth_1 : decode cX9_worth 1 = .ok (.iload_n 1, 1) := by decide +kernel
theorem dX9_worth_2 : decode cX9_worth 2 = .ok (.invokevirtual 91, 3) := by decide +kernel
theorem dX9_worth_5 : decode cX9_worth 5 = .ok (.ifCond .eq 13, 3) := by decide +kernel
theorem dX9_worth_8 : decode cX9_worth 8 = .ok (.iload_n 2, 1) := by decide +kernel
theorem dX9_worth_9 : decode cX9_worth 9 = .ok (.sipush 4095, 3) := by decide +kernel
theorem dX9_worth_12 : decode cX9_worth 12 = .ok (.invokestatic 72, 3) := by decide +kernel
theorem dX9_worth_15 : decode cX9_worth 15 = .ok (.ifCond .ne 8, 3) := by decide +kernel
theorem dX9_worth_18 : decode cX9_worth 18 = .ok (.aload_n 0, 1) := by decide +kernel
theorem dX9_worth_19 : decode cX9_worth 19 = .ok (.invokevirtual 76, 3) := by decide +kernel
theorem dX9_worth_22 : decode cX9_worth 22 = .ok (.ireturn, 1) := by decide +kernel
theorem dX9_worth_23 : decode cX9_worth 23 = .ok (.aload_n 0, 1) := by decide +kernel
theorem dX9_worth_24 : decode cX9_worth 24 = .ok (.getfield 32, 3) := by decide +kernel
theorem dX9_worth_27 : decode cX9_worth 27 = .ok (.iload_n 1, 1) := by decide +kernel
theorem dX9_worth_28 : decode cX9_worth 28 = .ok (.iload_n 2, 1) := by decide +kernel
theorem dX9_worth_29 : decode cX9_worth 29 = .ok (.invokevirtual 154, 3) := by decide +kernel
theorem dX9_worth_32 : decode cX9_worth 32 = .ok (.ireturn, 1) := by decide +kernel
theorem dX9_whose_0 : decode cX9_whose 0 = .ok (.iload_n 1, 1) := by decide +kernel
theorem dX9_whose_1 : decode cX9_whose 1 = .ok (.invokestatic 87, 3) := by decide +kernel
theorem dX9_whose_4 : decode cX9_whose 4 = .ok (.ifCond .eq 15, 3) := by decide +kernel
theorem dX9_whose_7 : decode cX9_whose 7 = .ok (.aload_n 0, 1) := by decide +kernel
theorem dX9_whose_8 : decode cX9_whose 8 = .ok (.getfield 32, 3) := by decide +kernel
theorem dX9_whose_11 : decode cX9_whose 11 = .ok (.getfield 97, 3) := by decide +kernel
theorem dX9_whose_14 : decode cX9_whose 14 = .ok (.iload_n 1, 1) := by decide +kernel
theorem dX9_whose_15 : decode cX9_whose 15 = .ok (.iaload, 1) := by decide +kernel
theorem dX9_whose_16 : decode cX9_whose 16 = .ok (.goto 7, 3) := by decide +kernel
theorem dX9_whose_19 : decode cX9_whose 19 = .ok (.aload_n 0, 1) := by decide +kernel
theorem dX9_whose_20 : decode cX9_whose 20 = .ok (.invokevirtual 94, 3) := by decide +kernel
theorem dX9_whose_23 : decode cX9_whose 23 = .ok (.ireturn, 1) := by decide +kernel
theorem dX9_enough_0 : decode cX9_enough 0 = .ok (.aload_n 0, 1) := by decide +kernel
theorem dX9_enough_1 : decode cX9_enough 1 = .ok (.getfield 32, 3) := by decide +kernel
theorem dX9_enough_4 : decode cX9_enough 4 = .ok (.invokevirtual 158, 3) := by decide +kernel
theorem dX9_enough_7 : decode cX9_enough 7 = .ok (.ireturn, 1) := by decide +kernel
theorem dX9_envy_0 : decode cX9_envy 0 = .ok (.aload_n 0, 1) := by decide +kernel
theorem dX9_envy_1 : decode cX9_envy 1 = .ok (.iload_n 1, 1) := by decide +kernel
theorem dX9_envy_2 : decode cX9_envy 2 = .ok (.invokevirtual 91, 3) := by decide +kernel
theorem dX9_envy_5 : decode cX9_envy 5 = .ok (.ifCond .eq 14, 3) := by decide +kernel
theorem dX9_envy_8 : decode cX9_envy 8 = .ok (.aload_n 0, 1) := by decide +kernel
theorem dX9_envy_9 : decode cX9_envy 9 = .ok (.getfield 32, 3) := by decide +kernel
theorem dX9_envy_12 : decode cX9_envy 12 = .ok (.iload_n 1, 1) := by decide +kernel
theorem dX9_envy_13 : decode cX9_envy 13 = .ok (.invokevirtual 161, 3) := by decide +kernel
theorem dX9_envy_16 : decode cX9_envy 16 = .ok (.goto 7, 3) := by decide +kernel
theorem dX9_envy_19 : decode cX9_envy 19 = .ok (.aload_n 0, 1) := by decide +kernel
theorem dX9_envy_20 : decode cX9_envy 20 = .ok (.invokevirtual 76, 3) := by decide +kernel
theorem dX9_envy_23 : decode cX9_envy 23 = .ok (.ireturn, 1) := by decide +kernel
theorem dX9_fair_0 : decode cX9_fair 0 = .ok (.aload_n 0, 1) := by decide +kernel
theorem dX9_fair_1 : decode cX9_fair 1 = .ok (.iload_n 1, 1) := by decide +kernel
theorem dX9_fair_2 : decode cX9_fair 2 = .ok (.invokevirtual 91, 3) := by decide +kernel
theorem dX9_fair_5 : decode cX9_fair 5 = .ok (.ifCond .ne 8, 3) := by decide +kernel
theorem dX9_fair_8 : decode cX9_fair 8 = .ok (.aload_n 0, 1) := by decide +kernel
theorem dX9_fair_9 : decode cX9_fair 9 = .ok (.invokevirtual 76, 3) := by decide +kernel
theorem dX9_fair_12 : decode cX9_fair 12 = .ok (.ireturn, 1) := by decide +kernel
theorem dX9_fair_13 : decode cX9_fair 13 = .ok (.aload_n 0, 1) := by decide +kernel
theorem dX9_fair_14 : decode cX9_fair 14 = .ok (.getfield 32, 3) := by decide +kernel
theorem dX9_fair_17 : decode cX9_fair 17 = .ok (.iload_n 1, 1) := by decide +kernel
theorem dX9_fair_18 : decode cX9_fair 18 = .ok (.aload_n 0, 1) := by decide +kernel
theorem dX9_fair_19 : decode cX9_fair 19 = .ok (.getfield 32, 3) := by decide +kernel
theorem dX9_fair_22 : decode cX9_fair 22 = .ok (.iload_n 1, 1) := by decide +kernel
theorem dX9_fair_23 : decode cX9_fair 23 = .ok (.invokevirtual 147, 3) := by decide +kernel
theorem dX9_fair_26 : decode cX9_fair 26 = .ok (.invokevirtual 164, 3) := by decide +kernel
theorem dX9_fair_29 : decode cX9_fair 29 = .ok (.ifCond .eq 7, 3) := by decide +kernel
theorem dX9_fair_32 : decode cX9_fair 32 = .ok (.iconst 1, 1) := by decide +kernel
theorem dX9_fair_33 : decode cX9_fair 33 = .ok (.goto 4, 3) := by decide +kernel
theorem dX9_fair_36 : decode cX9_fair 36 = .ok (.iconst 0, 1) := by decide +kernel
theorem dX9_fair_37 : decode cX9_fair 37 = .ok (.ireturn, 1) := by decide +kernel
theorem dX9_pieces_0 : decode cX9_pieces 0 = .ok (.iload_n 1, 1) := by decide +kernel
theorem dX9_pieces_1 : decode cX9_pieces 1 = .ok (.iconst (-1), 1) := by decide +kernel
theorem dX9_pieces_2 : decode cX9_pieces 2 = .ok (.if_icmp .ge 8, 3) := by decide +kernel
theorem dX9_pieces_5 : decode cX9_pieces 5 = .ok (.aload_n 0, 1) := by decide +kernel
theorem dX9_pieces_6 : decode cX9_pieces 6 = .ok (.invokevirtual 94, 3) := by decide +kernel
theorem dX9_pieces_9 : decode cX9_pieces 9 = .ok (.ireturn, 1) := by decide +kernel
theorem dX9_pieces_10 : decode cX9_pieces 10 = .ok (.aload_n 0, 1) := by decide +kernel
theorem dX9_pieces_11 : decode cX9_pieces 11 = .ok (.getfield 50, 3) := by decide +kernel
theorem dX9_pieces_14 : decode cX9_pieces 14 = .ok (.aload_n 0, 1) := by decide +kernel
theorem dX9_pieces_15 : decode cX9_pieces 15 = .ok (.getfield 32, 3) := by decide +kernel
theorem dX9_pieces_18 : decode cX9_pieces 18 = .ok (.iconst 0, 1) := by decide +kernel
theorem dX9_pieces_19 : decode cX9_pieces 19 = .ok (.iconst 0, 1) := by decide +kernel
theorem dX9_pieces_20 : decode cX9_pieces 20 = .ok (.iconst 0, 1) := by decide +kernel
theorem dX9_pieces_21 : decode cX9_pieces 21 = .ok (.invokestatic 167, 3) := by decide +kernel
theorem dX9_pieces_24 : decode cX9_pieces 24 = .ok (.aload_n 0, 1) := by decide +kernel
theorem dX9_pieces_25 : decode cX9_pieces 25 = .ok (.getfield 50, 3) := by decide +kernel
theorem dX9_pieces_28 : decode cX9_pieces 28 = .ok (.getfield 171, 3) := by decide +kernel
theorem dX9_pieces_31 : decode cX9_pieces 31 = .ok (.iconst (-1), 1) := by decide +kernel
theorem dX9_pieces_32 : decode cX9_pieces 32 = .ok (.if_icmp .eq 8, 3) := by decide +kernel
theorem dX9_pieces_35 : decode cX9_pieces 35 = .ok (.iload_n 1, 1) := by decide +kernel
theorem dX9_pieces_36 : decode cX9_pieces 36 = .ok (.iconst (-1), 1) := by decide +kernel
theorem dX9_pieces_37 : decode cX9_pieces 37 = .ok (.if_icmp .ne 11, 3) := by decide +kernel
theorem dX9_pieces_40 : decode cX9_pieces 40 = .ok (.aload_n 0, 1) := by decide +kernel
theorem dX9_pieces_41 : decode cX9_pieces 41 = .ok (.getfield 50, 3) := by decide +kernel
theorem dX9_pieces_44 : decode cX9_pieces 44 = .ok (.getfield 171, 3) := by decide +kernel
theorem dX9_pieces_47 : decode cX9_pieces 47 = .ok (.ireturn, 1) := by decide +kernel
theorem dX9_pieces_48 : decode cX9_pieces 48 = .ok (.iload_n 1, 1) := by decide +kernel
theorem dX9_pieces_49 : decode cX9_pieces 49 = .ok (.aload_n 0, 1) := by decide +kernel
theorem dX9_pieces_50 : decode cX9_pieces 50 = .ok (.getfield 32, 3) := by decide +kernel
theorem dX9_pieces_53 : decode cX9_pieces 53 = .ok (.getfield 65, 3) := by decide +kernel
theorem dX9_pieces_56 : decode cX9_pieces 56 = .ok (.if_icmp .ge 15, 3) := by decide +kernel
theorem dX9_pieces_59 : decode cX9_pieces 59 = .ok (.aload_n 0, 1) := by decide +kernel
theorem dX9_pieces_60 : decode cX9_pieces 60 = .ok (.getfield 50, 3) := by decide +kernel
theorem dX9_pieces_63 : decode cX9_pieces 63 = .ok (.getfield 174, 3) := by decide +kernel
theorem dX9_pieces_66 : decode cX9_pieces 66 = .ok (.iload_n 1, 1) := by decide +kernel
theorem dX9_pieces_67 : decode cX9_pieces 67 = .ok (.iaload, 1) := by decide +kernel
theorem dX9_pieces_68 : decode cX9_pieces 68 = .ok (.goto 5, 3) := by decide +kernel
theorem dX9_pieces_71 : decode cX9_pieces 71 = .ok (.bipush (-5), 2) := by decide +kernel
theorem dX9_pieces_73 : decode cX9_pieces 73 = .ok (.ireturn, 1) := by decide +kernel
theorem dX9_swaps_0 : decode cX9_swaps 0 = .ok (.iload_n 1, 1) := by decide +kernel
theorem dX9_swaps_1 : decode cX9_swaps 1 = .ok (.iconst (-1), 1) := by decide +kernel
theorem dX9_swaps_2 : decode cX9_swaps 2 = .ok (.if_icmp .ge 8, 3) := by decide +kernel
theorem dX9_swaps_5 : decode cX9_swaps 5 = .ok (.aload_n 0, 1) := by decide +kernel
theorem dX9_swaps_6 : decode cX9_swaps 6 = .ok (.invokevirtual 94, 3) := by decide +kernel
theorem dX9_swaps_9 : decode cX9_swaps 9 = .ok (.ireturn, 1) := by decide +kernel
theorem dX9_swaps_10 : decode cX9_swaps 10 = .ok (.iload_n 1, 1) := by decide +kernel
theorem dX9_swaps_11 : decode cX9_swaps 11 = .ok (.iconst (-1), 1) := by decide +kernel
theorem dX9_swaps_12 : decode cX9_swaps 12 = .ok (.if_icmp .ne 11, 3) := by decide +kernel
theorem dX9_swaps_15 : decode cX9_swaps 15 = .ok (.aload_n 0, 1) := by decide +kernel
theorem dX9_swaps_16 : decode cX9_swaps 16 = .ok (.getfield 32, 3) := by decide +kernel
theorem dX9_swaps_19 : decode cX9_swaps 19 = .ok (.invokevirtual 177, 3) := by decide +kernel
theorem dX9_swaps_22 : decode cX9_swaps 22 = .ok (.ireturn, 1) := by decide +kernel
theorem dX9_swaps_23 : decode cX9_swaps 23 = .ok (.aload_n 0, 1) := by decide +kernel
theorem dX9_swaps_24 : decode cX9_swaps 24 = .ok (.getfield 32, 3) := by decide +kernel
theorem dX9_swaps_27 : decode cX9_swaps 27 = .ok (.iload_n 1, 1) := by decide +kernel
theorem dX9_swaps_28 : decode cX9_swaps 28 = .ok (.invokevirtual 180, 3) := by decide +kernel
theorem dX9_swaps_31 : decode cX9_swaps 31 = .ok (.istore_n 2, 1) := by decide +kernel
theorem dX9_swaps_32 : decode cX9_swaps 32 = .ok (.iload_n 2, 1) := by decide +kernel
theorem dX9_swaps_33 : decode cX9_swaps 33 = .ok (.iconst (-1), 1) := by decide +kernel
theorem dX9_swaps_34 : decode cX9_swaps 34 = .ok (.if_icmp .ne 8, 3) := by decide +kernel
theorem dX9_swaps_37 : decode cX9_swaps 37 = .ok (.bipush (-5), 2) := by decide +kernel
theorem dX9_swaps_39 : decode cX9_swaps 39 = .ok (.goto 4, 3) := by decide +kernel
theorem dX9_swaps_42 : decode cX9_swaps 42 = .ok (.iload_n 2, 1) := by decide +kernel
theorem dX9_swaps_43 : decode cX9_swaps 43 = .ok (.ireturn, 1) := by decide +kernel
theorem dX9_steps_0 : decode cX9_steps 0 = .ok (.aload_n 0, 1) := by decide +kernel
theorem dX9_steps_1 : decode cX9_steps 1 = .ok (.getfield 36, 3) := by decide +kernel
theorem dX9_steps_4 : decode cX9_steps 4 = .ok (.aload_n 0, 1) := by decide +kernel
theorem dX9_steps_5 : decode cX9_steps 5 = .ok (.getfield 32, 3) := by decide +kernel
theorem dX9_steps_8 : decode cX9_steps 8 = .ok (.invokevirtual 115, 3) := by decide +kernel
theorem dX9_steps_11 : decode cX9_steps 11 = .ok (.iconst 0, 1) := by decide +kernel
theorem dX9_steps_12 : decode cX9_steps 12 = .ok (.istore_n 1, 1) := by decide +kernel
theorem dX9_steps_13 : decode cX9_steps 13 = .ok (.iload_n 1, 1) := by decide +kernel
theorem dX9_steps_14 : decode cX9_steps 14 = .ok (.bipush 99, 2) := by decide +kernel
theorem dX9_steps_16 : decode cX9_steps 16 = .ok (.if_icmp .ge 41, 3) := by decide +kernel
theorem dX9_steps_19 : decode cX9_steps 19 = .ok (.aload_n 0, 1) := by decide +kernel
theorem dX9_steps_20 : decode cX9_steps 20 = .ok (.getfield 36, 3) := by decide +kernel
theorem dX9_steps_23 : decode cX9_steps 23 = .ok (.iconst 0, 1) := by decide +kernel
theorem dX9_steps_24 : decode cX9_steps 24 = .ok (.invokevirtual 180, 3) := by decide +kernel
theorem dX9_steps_27 : decode cX9_steps 27 = .ok (.istore_n 2, 1) := by decide +kernel
theorem dX9_steps_28 : decode cX9_steps 28 = .ok (.iload_n 2, 1) := by decide +kernel
theorem dX9_steps_29 : decode cX9_steps 29 = .ok (.iconst (-1), 1) := by decide +kernel
theorem dX9_steps_30 : decode cX9_steps 30 = .ok (.if_icmp .ne 6, 3) := by decide +kernel
theorem dX9_steps_33 : decode cX9_steps 33 = .ok (.goto 24, 3) := by decide +kernel
theorem dX9_steps_36 : decode cX9_steps 36 = .ok (.aload_n 0, 1) := by decide +kernel
theorem dX9_steps_37 : decode cX9_steps 37 = .ok (.getfield 36, 3) := by decide +kernel
theorem dX9_steps_40 : decode cX9_steps 40 = .ok (.iload_n 2, 1) := by decide +kernel
theorem dX9_steps_41 : decode cX9_steps 41 = .ok (.bipush 100, 2) := by decide +kernel
theorem dX9_steps_43 : decode cX9_steps 43 = .ok (.idiv, 1) := by decide +kernel
theorem dX9_steps_44 : decode cX9_steps 44 = .ok (.iload_n 2, 1) := by decide +kernel
theorem dX9_steps_45 : decode cX9_steps 45 = .ok (.bipush 100, 2) := by decide +kernel
theorem dX9_steps_47 : decode cX9_steps 47 = .ok (.irem, 1) := by decide +kernel
theorem dX9_steps_48 : decode cX9_steps 48 = .ok (.invokevirtual 125, 3) := by decide +kernel
theorem dX9_steps_51 : decode cX9_steps 51 = .ok (.iinc 1 1, 3) := by decide +kernel
theorem dX9_steps_54 : decode cX9_steps 54 = .ok (.goto (-41), 3) := by decide +kernel
theorem dX9_steps_57 : decode cX9_steps 57 = .ok (.iload_n 1, 1) := by decide +kernel
theorem dX9_steps_58 : decode cX9_steps 58 = .ok (.ireturn, 1) := by decide +kernel
theorem dX9_sale_0 : decode cX9_sale 0 = .ok (.iload_n 1, 1) := by decide +kernel
theorem dX9_sale_1 : decode cX9_sale 1 = .ok (.invokestatic 87, 3) := by decide +kernel
theorem dX9_sale_4 : decode cX9_sale 4 = .ok (.ifCond .eq 11, 3) := by decide +kernel
theorem dX9_sale_7 : decode cX9_sale 7 = .ok (.iload_n 2, 1) := by decide +kernel
theorem dX9_sale_8 : decode cX9_sale 8 = .ok (.iconst 1, 1) := by decide +kernel
theorem dX9_sale_9 : decode cX9_sale 9 = .ok (.invokestatic 72, 3) := by decide +kernel
theorem dX9_sale_12 : decode cX9_sale 12 = .ok (.ifCond .ne 8, 3) := by decide +kernel
theorem dX9_sale_15 : decode cX9_sale 15 = .ok (.aload_n 0, 1) := by decide +kernel
theorem dX9_sale_16 : decode cX9_sale 16 = .ok (.invokevirtual 76, 3) := by decide +kernel
theorem dX9_sale_19 : decode cX9_sale 19 = .ok (.ireturn, 1) := by decide +kernel
theorem dX9_sale_20 : decode cX9_sale 20 = .ok (.aload_n 0, 1) := by decide +kernel
theorem dX9_sale_21 : decode cX9_sale 21 = .ok (.getfield 32, 3) := by decide +kernel
theorem dX9_sale_24 : decode cX9_sale 24 = .ok (.iload_n 1, 1) := by decide +kernel
theorem dX9_sale_25 : decode cX9_sale 25 = .ok (.invokevirtual 183, 3) := by decide +kernel
theorem dX9_sale_28 : decode cX9_sale 28 = .ok (.istore_n 3, 1) := by decide +kernel
theorem dX9_sale_29 : decode cX9_sale 29 = .ok (.iload_n 3, 1) := by decide +kernel
theorem dX9_sale_30 : decode cX9_sale 30 = .ok (.iconst (-1), 1) := by decide +kernel
theorem dX9_sale_31 : decode cX9_sale 31 = .ok (.if_icmp .eq 7, 3) := by decide +kernel
theorem dX9_sale_34 : decode cX9_sale 34 = .ok (.iload_n 2, 1) := by decide +kernel
theorem dX9_sale_35 : decode cX9_sale 35 = .ok (.ifCond .ne 5, 3) := by decide +kernel
theorem dX9_sale_38 : decode cX9_sale 38 = .ok (.iload_n 3, 1) := by decide +kernel
theorem dX9_sale_39 : decode cX9_sale 39 = .ok (.ireturn, 1) := by decide +kernel
theorem dX9_sale_40 : decode cX9_sale 40 = .ok (.aload_n 0, 1) := by decide +kernel
theorem dX9_sale_41 : decode cX9_sale 41 = .ok (.getfield 32, 3) := by decide +kernel
theorem dX9_sale_44 : decode cX9_sale 44 = .ok (.iload_n 1, 1) := by decide +kernel
theorem dX9_sale_45 : decode cX9_sale 45 = .ok (.iload_n 3, 1) := by decide +kernel
theorem dX9_sale_46 : decode cX9_sale 46 = .ok (.invokevirtual 186, 3) := by decide +kernel
theorem dX9_sale_49 : decode cX9_sale 49 = .ok (.ireturn, 1) := by decide +kernel
theorem dX9_longest_0 : decode cX9_longest 0 = .ok (.iload_n 1, 1) := by decide +kernel
theorem dX9_longest_1 : decode cX9_longest 1 = .ok (.iconst 1, 1) := by decide +kernel
theorem dX9_longest_2 : decode cX9_longest 2 = .ok (.invokestatic 72, 3) := by decide +kernel
theorem dX9_longest_5 : decode cX9_longest 5 = .ok (.ifCond .ne 8, 3) := by decide +kernel
theorem dX9_longest_8 : decode cX9_longest 8 = .ok (.aload_n 0, 1) := by decide +kernel
theorem dX9_longest_9 : decode cX9_longest 9 = .ok (.invokevirtual 76, 3) := by decide +kernel
theorem dX9_longest_12 : decode cX9_longest 12 = .ok (.ireturn, 1) := by decide +kernel
theorem dX9_longest_13 : decode cX9_longest 13 = .ok (.iconst 0, 1) := by decide +kernel
theorem dX9_longest_14 : decode cX9_longest 14 = .ok (.istore_n 2, 1) := by decide +kernel
theorem dX9_longest_15 : decode cX9_longest 15 = .ok (.iconst (-1), 1) := by decide +kernel
theorem dX9_longest_16 : decode cX9_longest 16 = .ok (.istore_n 3, 1) := by decide +kernel
theorem dX9_longest_17 : decode cX9_longest 17 = .ok (.iconst 0, 1) := by decide +kernel
theorem dX9_longest_18 : decode cX9_longest 18 = .ok (.istore 4, 2) := by decide +kernel
theorem dX9_longest_20 : decode cX9_longest 20 = .ok (.iload 4, 2) := by decide +kernel
theorem dX9_longest_22 : decode cX9_longest 22 = .ok (.bipush 12, 2) := by decide +kernel
theorem dX9_longest_24 : decode cX9_longest 24 = .ok (.if_icmp .ge 32, 3) := by decide +kernel
theorem dX9_longest_27 : decode cX9_longest 27 = .ok (.aload_n 0, 1) := by decide +kernel
theorem dX9_longest_28 : decode cX9_longest 28 = .ok (.getfield 32, 3) := by decide +kernel
theorem dX9_longest_31 : decode cX9_longest 31 = .ok (.iload 4, 2) := by decide +kernel
theorem dX9_longest_33 : decode cX9_longest 33 = .ok (.invokevirtual 189, 3) := by decide +kernel
theorem dX9_longest_36 : decode cX9_longest 36 = .ok (.istore 5, 2) := by decide +kernel
theorem dX9_longest_38 : decode cX9_longest 38 = .ok (.iload 5, 2) := by decide +kernel
theorem dX9_longest_40 : decode cX9_longest 40 = .ok (.iload_n 2, 1) := by decide +kernel
theorem dX9_longest_41 : decode cX9_longest 41 = .ok (.if_icmp .le 9, 3) := by decide +kernel
theorem dX9_longest_44 : decode cX9_longest 44 = .ok (.iload 5, 2) := by decide +kernel
theorem dX9_longest_46 : decode cX9_longest 46 = .ok (.istore_n 2, 1) := by decide +kernel
theorem dX9_longest_47 : decode cX9_longest 47 = .ok (.iload 4, 2) := by decide +kernel
theorem dX9_longest_49 : decode cX9_longest 49 = .ok (.istore_n 3, 1) := by decide +kernel
theorem dX9_longest_50 : decode cX9_longest 50 = .ok (.iinc 4 1, 3) := by decide +kernel
theorem dX9_longest_53 : decode cX9_longest 53 = .ok (.goto (-33), 3) := by decide +kernel
theorem dX9_longest_56 : decode cX9_longest 56 = .ok (.iload_n 1, 1) := by decide +kernel
theorem dX9_longest_57 : decode cX9_longest 57 = .ok (.ifCond .ne 7, 3) := by decide +kernel
theorem dX9_longest_60 : decode cX9_longest 60 = .ok (.iload_n 3, 1) := by decide +kernel
theorem dX9_longest_61 : decode cX9_longest 61 = .ok (.goto 4, 3) := by decide +kernel
theorem dX9_longest_64 : decode cX9_longest 64 = .ok (.iload_n 2, 1) := by decide +kernel
theorem dX9_longest_65 : decode cX9_longest 65 = .ok (.ireturn, 1) := by decide +kernel
theorem dX9_together_0 : decode cX9_together 0 = .ok (.aload_n 0, 1) := by decide +kernel
theorem dX9_together_1 : decode cX9_together 1 = .ok (.iload_n 1, 1) := by decide +kernel
theorem dX9_together_2 : decode cX9_together 2 = .ok (.invokevirtual 91, 3) := by decide +kernel
theorem dX9_together_5 : decode cX9_together 5 = .ok (.ifCond .eq 16, 3) := by decide +kernel
theorem dX9_together_8 : decode cX9_together 8 = .ok (.aload_n 0, 1) := by decide +kernel
theorem dX9_together_9 : decode cX9_together 9 = .ok (.iload_n 2, 1) := by decide +kernel
theorem dX9_together_10 : decode cX9_together 10 = .ok (.invokevirtual 91, 3) := by decide +kernel
theorem dX9_together_13 : decode cX9_together 13 = .ok (.ifCond .eq 8, 3) := by decide +kernel
theorem dX9_together_16 : decode cX9_together 16 = .ok (.iload_n 1, 1) := by decide +kernel
theorem dX9_together_17 : decode cX9_together 17 = .ok (.iload_n 2, 1) := by decide +kernel
theorem dX9_together_18 : decode cX9_together 18 = .ok (.if_icmp .ne 8, 3) := by decide +kernel
theorem dX9_together_21 : decode cX9_together 21 = .ok (.aload_n 0, 1) := by decide +kernel
theorem dX9_together_22 : decode cX9_together 22 = .ok (.invokevirtual 76, 3) := by decide +kernel
theorem dX9_together_25 : decode cX9_together 25 = .ok (.ireturn, 1) := by decide +kernel
theorem dX9_together_26 : decode cX9_together 26 = .ok (.aload_n 0, 1) := by decide +kernel
theorem dX9_together_27 : decode cX9_together 27 = .ok (.getfield 32, 3) := by decide +kernel
theorem dX9_together_30 : decode cX9_together 30 = .ok (.iload_n 1, 1) := by decide +kernel
theorem dX9_together_31 : decode cX9_together 31 = .ok (.invokevirtual 147, 3) := by decide +kernel
theorem dX9_together_34 : decode cX9_together 34 = .ok (.aload_n 0, 1) := by decide +kernel
theorem dX9_together_35 : decode cX9_together 35 = .ok (.getfield 32, 3) := by decide +kernel
theorem dX9_together_38 : decode cX9_together 38 = .ok (.iload_n 2, 1) := by decide +kernel
theorem dX9_together_39 : decode cX9_together 39 = .ok (.invokevirtual 147, 3) := by decide +kernel
theorem dX9_together_42 : decode cX9_together 42 = .ok (.ior, 1) := by decide +kernel
theorem dX9_together_43 : decode cX9_together 43 = .ok (.istore_n 3, 1) := by decide +kernel
theorem dX9_together_44 : decode cX9_together 44 = .ok (.iconst 0, 1) := by decide +kernel
theorem dX9_together_45 : decode cX9_together 45 = .ok (.istore 4, 2) := by decide +kernel
theorem dX9_together_47 : decode cX9_together 47 = .ok (.iconst 0, 1) := by decide +kernel
theorem dX9_together_48 : decode cX9_together 48 = .ok (.istore 5, 2) := by decide +kernel
theorem dX9_together_50 : decode cX9_together 50 = .ok (.iconst 0, 1) := by decide +kernel
theorem dX9_together_51 : decode cX9_together 51 = .ok (.istore 6, 2) := by decide +kernel
theorem dX9_together_53 : decode cX9_together 53 = .ok (.iload 6, 2) := by decide +kernel
theorem dX9_together_55 : decode cX9_together 55 = .ok (.bipush 12, 2) := by decide +kernel
theorem dX9_together_57 : decode cX9_together 57 = .ok (.if_icmp .ge 37, 3) := by decide +kernel
theorem dX9_together_60 : decode cX9_together 60 = .ok (.iload_n 3, 1) := by decide +kernel
theorem dX9_together_61 : decode cX9_together 61 = .ok (.iload 6, 2) := by decide +kernel
theorem dX9_together_63 : decode cX9_together 63 = .ok (.invokestatic 192, 3) := by decide +kernel
theorem dX9_together_66 : decode cX9_together 66 = .ok (.ifCond .eq 10, 3) := by decide +kernel
theorem dX9_together_69 : decode cX9_together 69 = .ok (.iload 5, 2) := by decide +kernel
theorem dX9_together_71 : decode cX9_together 71 = .ok (.iconst 1, 1) := by decide +kernel
theorem dX9_together_72 : decode cX9_together 72 = .ok (.iadd, 1) := by decide +kernel
theorem dX9_together_73 : decode cX9_together 73 = .ok (.goto 4, 3) := by decide +kernel
theorem dX9_together_76 : decode cX9_together 76 = .ok (.iconst 0, 1) := by decide +kernel
theorem dX9_together_77 : decode cX9_together 77 = .ok (.istore 5, 2) := by decide +kernel
theorem dX9_together_79 : decode cX9_together 79 = .ok (.iload 4, 2) := by decide +kernel
theorem dX9_together_81 : decode cX9_together 81 = .ok (.iload 5, 2) := by decide +kernel
theorem dX9_together_83 : decode cX9_together 83 = .ok (.invokestatic 195, 3) := by decide +kernel
theorem dX9_together_86 : decode cX9_together 86 = .ok (.istore 4, 2) := by decide +kernel
theorem dX9_together_88 : decode cX9_together 88 = .ok (.iinc 6 1, 3) := by decide +kernel
theorem dX9_together_91 : decode cX9_together 91 = .ok (.goto (-38), 3) := by decide +kernel
theorem dX9_together_94 : decode cX9_together 94 = .ok (.iload 4, 2) := by decide +kernel
theorem dX9_together_96 : decode cX9_together 96 = .ok (.ireturn, 1) := by decide +kernel
theorem dX9_note_0 : decode cX9_note 0 = .ok (.aload_n 0, 1) := by decide +kernel
theorem dX9_note_1 : decode cX9_note 1 = .ok (.iload_n 1, 1) := by decide +kernel
theorem dX9_note_2 : decode cX9_note 2 = .ok (.invokevirtual 91, 3) := by decide +kernel
theorem dX9_note_5 : decode cX9_note 5 = .ok (.ifCond .eq 28, 3) := by decide +kernel
theorem dX9_note_8 : decode cX9_note 8 = .ok (.iload_n 2, 1) := by decide +kernel
theorem dX9_note_9 : decode cX9_note 9 = .ok (.invokestatic 87, 3) := by decide +kernel
theorem dX9_note_12 : decode cX9_note 12 = .ok (.ifCond .eq 21, 3) := by decide +kernel
theorem dX9_note_15 : decode cX9_note 15 = .ok (.iload_n 3, 1) := by decide +kernel
theorem dX9_note_16 : decode cX9_note 16 = .ok (.bipush 20, 2) := by decide +kernel
theorem dX9_note_18 : decode cX9_note 18 = .ok (.invokestatic 72, 3) := by decide +kernel
theorem dX9_note_21 : decode cX9_note 21 = .ok (.ifCond .eq 12, 3) := by decide +kernel
theorem dX9_note_24 : decode cX9_note 24 = .ok (.iload 4, 2) := by decide +kernel
theorem dX9_note_26 : decode cX9_note 26 = .ok (.iconst 1, 1) := by decide +kernel
theorem dX9_note_27 : decode cX9_note 27 = .ok (.invokestatic 72, 3) := by decide +kernel
theorem dX9_note_30 : decode cX9_note 30 = .ok (.ifCond .ne 8, 3) := by decide +kernel
theorem dX9_note_33 : decode cX9_note 33 = .ok (.aload_n 0, 1) := by decide +kernel
theorem dX9_note_34 : decode cX9_note 34 = .ok (.invokevirtual 76, 3) := by decide +kernel
theorem dX9_note_37 : decode cX9_note 37 = .ok (.ireturn, 1) := by decide +kernel
theorem dX9_note_38 : decode cX9_note 38 = .ok (.aload_n 0, 1) := by decide +kernel
theorem dX9_note_39 : decode cX9_note 39 = .ok (.getfield 32, 3) := by decide +kernel
theorem dX9_note_42 : decode cX9_note 42 = .ok (.getfield 200, 3) := by decide +kernel
theorem dX9_note_45 : decode cX9_note 45 = .ok (.bipush 6, 2) := by decide +kernel
theorem dX9_note_47 : decode cX9_note 47 = .ok (.if_icmp .lt 8, 3) := by decide +kernel
theorem dX9_note_50 : decode cX9_note 50 = .ok (.aload_n 0, 1) := by decide +kernel
theorem dX9_note_51 : decode cX9_note 51 = .ok (.invokevirtual 80, 3) := by decide +kernel
theorem dX9_note_54 : decode cX9_note 54 = .ok (.ireturn, 1) := by decide +kernel
theorem dX9_note_55 : decode cX9_note 55 = .ok (.aload_n 0, 1) := by decide +kernel
theorem dX9_note_56 : decode cX9_note 56 = .ok (.getfield 32, 3) := by decide +kernel
theorem dX9_note_59 : decode cX9_note 59 = .ok (.iload_n 1, 1) := by decide +kernel
theorem dX9_note_60 : decode cX9_note 60 = .ok (.iload_n 2, 1) := by decide +kernel
theorem dX9_note_61 : decode cX9_note 61 = .ok (.iload_n 3, 1) := by decide +kernel
theorem dX9_note_62 : decode cX9_note 62 = .ok (.iload 4, 2) := by decide +kernel
theorem dX9_note_64 : decode cX9_note 64 = .ok (.invokevirtual 203, 3) := by decide +kernel
theorem dX9_note_67 : decode cX9_note 67 = .ok (.ireturn, 1) := by decide +kernel
theorem dX9_forget_0 : decode cX9_forget 0 = .ok (.aload_n 0, 1) := by decide +kernel
theorem dX9_forget_1 : decode cX9_forget 1 = .ok (.getfield 32, 3) := by decide +kernel
theorem dX9_forget_4 : decode cX9_forget 4 = .ok (.getfield 200, 3) := by decide +kernel
theorem dX9_forget_7 : decode cX9_forget 7 = .ok (.istore_n 1, 1) := by decide +kernel
theorem dX9_forget_8 : decode cX9_forget 8 = .ok (.aload_n 0, 1) := by decide +kernel
theorem dX9_forget_9 : decode cX9_forget 9 = .ok (.getfield 32, 3) := by decide +kernel
theorem dX9_forget_12 : decode cX9_forget 12 = .ok (.iconst 0, 1) := by decide +kernel
theorem dX9_forget_13 : decode cX9_forget 13 = .ok (.putfield 200, 3) := by decide +kernel
theorem dX9_forget_16 : decode cX9_forget 16 = .ok (.iload_n 1, 1) := by decide +kernel
theorem dX9_forget_17 : decode cX9_forget 17 = .ok (.ireturn, 1) := by decide +kernel
theorem dX9_is_0 : decode cX9_is 0 = .ok (.aload_n 0, 1) := by decide +kernel
theorem dX9_is_1 : decode cX9_is 1 = .ok (.iload_n 1, 1) := by decide +kernel
theorem dX9_is_2 : decode cX9_is 2 = .ok (.invokevirtual 91, 3) := by decide +kernel
theorem dX9_is_5 : decode cX9_is 5 = .ok (.ifCond .eq 14, 3) := by decide +kernel
theorem dX9_is_8 : decode cX9_is 8 = .ok (.aload_n 0, 1) := by decide +kernel
theorem dX9_is_9 : decode cX9_is 9 = .ok (.getfield 32, 3) := by decide +kernel
theorem dX9_is_12 : decode cX9_is 12 = .ok (.iload_n 1, 1) := by decide +kernel
theorem dX9_is_13 : decode cX9_is 13 = .ok (.invokevirtual 207, 3) := by decide +kernel
theorem dX9_is_16 : decode cX9_is 16 = .ok (.goto 7, 3) := by decide +kernel
theorem dX9_is_19 : decode cX9_is 19 = .ok (.aload_n 0, 1) := by decide +kernel
theorem dX9_is_20 : decode cX9_is 20 = .ok (.invokevirtual 76, 3) := by decide +kernel
theorem dX9_is_23 : decode cX9_is 23 = .ok (.ireturn, 1) := by decide +kernel
theorem dX9_asks_0 : decode cX9_asks 0 = .ok (.aload_n 0, 1) := by decide +kernel
theorem dX9_asks_1 : decode cX9_asks 1 = .ok (.iload_n 1, 1) := by decide +kernel
theorem dX9_asks_2 : decode cX9_asks 2 = .ok (.invokevirtual 91, 3) := by decide +kernel
theorem dX9_asks_5 : decode cX9_asks 5 = .ok (.ifCond .eq 21, 3) := by decide +kernel
theorem dX9_asks_8 : decode cX9_asks 8 = .ok (.aload_n 0, 1) := by decide +kernel
theorem dX9_asks_9 : decode cX9_asks 9 = .ok (.getfield 32, 3) := by decide +kernel
theorem dX9_asks_12 : decode cX9_asks 12 = .ok (.aload_n 0, 1) := by decide +kernel
theorem dX9_asks_13 : decode cX9_asks 13 = .ok (.getfield 32, 3) := by decide +kernel
theorem dX9_asks_16 : decode cX9_asks 16 = .ok (.iload_n 1, 1) := by decide +kernel
theorem dX9_asks_17 : decode cX9_asks 17 = .ok (.invokevirtual 207, 3) := by decide +kernel
theorem dX9_asks_20 : decode cX9_asks 20 = .ok (.invokevirtual 210, 3) := by decide +kernel
theorem dX9_asks_23 : decode cX9_asks 23 = .ok (.goto 7, 3) := by decide +kernel
theorem dX9_asks_26 : decode cX9_asks 26 = .ok (.aload_n 0, 1) := by decide +kernel
theorem dX9_asks_27 : decode cX9_asks 27 = .ok (.invokevirtual 76, 3) := by decide +kernel
theorem dX9_asks_30 : decode cX9_asks 30 = .ok (.ireturn, 1) := by decide +kernel
theorem dX9_took_0 : decode cX9_took 0 = .ok (.aload_n 0, 1) := by decide +kernel
theorem dX9_took_1 : decode cX9_took 1 = .ok (.iload_n 1, 1) := by decide +kernel
theorem dX9_took_2 : decode cX9_took 2 = .ok (.invokevirtual 91, 3) := by decide +kernel
theorem dX9_took_5 : decode cX9_took 5 = .ok (.ifCond .eq 13, 3) := by decide +kernel
theorem dX9_took_8 : decode cX9_took 8 = .ok (.iload_n 2, 1) := by decide +kernel
theorem dX9_took_9 : decode cX9_took 9 = .ok (.sipush 4095, 3) := by decide +kernel
theorem dX9_took_12 : decode cX9_took 12 = .ok (.invokestatic 72, 3) := by decide +kernel
theorem dX9_took_15 : decode cX9_took 15 = .ok (.ifCond .ne 8, 3) := by decide +kernel
theorem dX9_took_18 : decode cX9_took 18 = .ok (.aload_n 0, 1) := by decide +kernel
theorem dX9_took_19 : decode cX9_took 19 = .ok (.invokevirtual 76, 3) := by decide +kernel
theorem dX9_took_22 : decode cX9_took 22 = .ok (.ireturn, 1) := by decide +kernel
theorem dX9_took_23 : decode cX9_took 23 = .ok (.aload_n 0, 1) := by decide +kernel
theorem dX9_took_24 : decode cX9_took 24 = .ok (.getfield 32, 3) := by decide +kernel
theorem dX9_took_27 : decode cX9_took 27 = .ok (.iload_n 1, 1) := by decide +kernel
theorem dX9_took_28 : decode cX9_took 28 = .ok (.iload_n 2, 1) := by decide +kernel
theorem dX9_took_29 : decode cX9_took 29 = .ok (.invokevirtual 213, 3) := by decide +kernel
theorem dX9_took_32 : decode cX9_took 32 = .ok (.ireturn, 1) := by decide +kernel
theorem dX9_owls_0 : decode cX9_owls 0 = .ok (.aload_n 0, 1) := by decide +kernel
theorem dX9_owls_1 : decode cX9_owls 1 = .ok (.iload_n 1, 1) := by decide +kernel
theorem dX9_owls_2 : decode cX9_owls 2 = .ok (.invokevirtual 91, 3) := by decide +kernel
theorem dX9_owls_5 : decode cX9_owls 5 = .ok (.ifCond .eq 12, 3) := by decide +kernel
theorem dX9_owls_8 : decode cX9_owls 8 = .ok (.iload_n 2, 1) := by decide +kernel
theorem dX9_owls_9 : decode cX9_owls 9 = .ok (.bipush 10, 2) := by decide +kernel
theorem dX9_owls_11 : decode cX9_owls 11 = .ok (.invokestatic 72, 3) := by decide +kernel
theorem dX9_owls_14 : decode cX9_owls 14 = .ok (.ifCond .ne 8, 3) := by decide +kernel
theorem dX9_owls_17 : decode cX9_owls 17 = .ok (.aload_n 0, 1) := by decide +kernel
theorem dX9_owls_18 : decode cX9_owls 18 = .ok (.invokevirtual 76, 3) := by decide +kernel
theorem dX9_owls_21 : decode cX9_owls 21 = .ok (.ireturn, 1) := by decide +kernel
theorem dX9_owls_22 : decode cX9_owls 22 = .ok (.aload_n 0, 1) := by decide +kernel
theorem dX9_owls_23 : decode cX9_owls 23 = .ok (.aload_n 0, 1) := by decide +kernel
theorem dX9_owls_24 : decode cX9_owls 24 = .ok (.getfield 32, 3) := by decide +kernel
theorem dX9_owls_27 : decode cX9_owls 27 = .ok (.iload_n 1, 1) := by decide +kernel
theorem dX9_owls_28 : decode cX9_owls 28 = .ok (.iload_n 2, 1) := by decide +kernel
theorem dX9_owls_29 : decode cX9_owls 29 = .ok (.invokevirtual 216, 3) := by decide +kernel
theorem dX9_owls_32 : decode cX9_owls 32 = .ok (.bipush 10, 2) := by decide +kernel
theorem dX9_owls_34 : decode cX9_owls 34 = .ok (.invokevirtual 219, 3) := by decide +kernel
theorem dX9_owls_37 : decode cX9_owls 37 = .ok (.iconst 1, 1) := by decide +kernel
theorem dX9_owls_38 : decode cX9_owls 38 = .ok (.ireturn, 1) := by decide +kernel
theorem dX9_terms_0 : decode cX9_terms 0 = .ok (.iload_n 1, 1) := by decide +kernel
theorem dX9_terms_1 : decode cX9_terms 1 = .ok (.ldc 222, 2) := by decide +kernel
theorem dX9_terms_3 : decode cX9_terms 3 = .ok (.invokestatic 72, 3) := by decide +kernel
theorem dX9_terms_6 : decode cX9_terms 6 = .ok (.ifCond .eq 12, 3) := by decide +kernel
theorem dX9_terms_9 : decode cX9_terms 9 = .ok (.iload_n 2, 1) := by decide +kernel
theorem dX9_terms_10 : decode cX9_terms 10 = .ok (.bipush 60, 2) := by decide +kernel
theorem dX9_terms_12 : decode cX9_terms 12 = .ok (.invokestatic 72, 3) := by decide +kernel
theorem dX9_terms_15 : decode cX9_terms 15 = .ok (.ifCond .ne 8, 3) := by decide +kernel
theorem dX9_terms_18 : decode cX9_terms 18 = .ok (.aload_n 0, 1) := by decide +kernel
theorem dX9_terms_19 : decode cX9_terms 19 = .ok (.invokevirtual 76, 3) := by decide +kernel
theorem dX9_terms_22 : decode cX9_terms 22 = .ok (.ireturn, 1) := by decide +kernel
theorem dX9_terms_23 : decode cX9_terms 23 = .ok (.aload_n 0, 1) := by decide +kernel
theorem dX9_terms_24 : decode cX9_terms 24 = .ok (.getfield 36, 3) := by decide +kernel
theorem dX9_terms_27 : decode cX9_terms 27 = .ok (.aload_n 0, 1) := by decide +kernel
theorem dX9_terms_28 : decode cX9_terms 28 = .ok (.getfield 32, 3) := by decide +kernel
theorem dX9_terms_31 : decode cX9_terms 31 = .ok (.invokevirtual 115, 3) := by decide +kernel
theorem dX9_terms_34 : decode cX9_terms 34 = .ok (.iload_n 1, 1) := by decide +kernel
theorem dX9_terms_35 : decode cX9_terms 35 = .ok (.i2l, 1) := by decide +kernel
theorem dX9_terms_36 : decode cX9_terms 36 = .ok (.lstore_n 3, 1) := by decide +kernel
theorem dX9_terms_37 : decode cX9_terms 37 = .ok (.iconst 0, 1) := by decide +kernel
theorem dX9_terms_38 : decode cX9_terms 38 = .ok (.istore 5, 2) := by decide +kernel
theorem dX9_terms_40 : decode cX9_terms 40 = .ok (.iconst 0, 1) := by decide +kernel
theorem dX9_terms_41 : decode cX9_terms 41 = .ok (.istore 6, 2) := by decide +kernel
theorem dX9_terms_43 : decode cX9_terms 43 = .ok (.iload 6, 2) := by decide +kernel
theorem dX9_terms_45 : decode cX9_terms 45 = .ok (.iload_n 2, 1) := by decide +kernel
theorem dX9_terms_46 : decode cX9_terms 46 = .ok (.if_icmp .ge 59, 3) := by decide +kernel
theorem dX9_terms_49 : decode cX9_terms 49 = .ok (.lload_n 3, 1) := by decide +kernel
theorem dX9_terms_50 : decode cX9_terms 50 = .ok (.invokestatic 223, 3) := by decide +kernel
theorem dX9_terms_53 : decode cX9_terms 53 = .ok (.lstore_n 3, 1) := by decide +kernel
theorem dX9_terms_54 : decode cX9_terms 54 = .ok (.lload_n 3, 1) := by decide +kernel
theorem dX9_terms_55 : decode cX9_terms 55 = .ok (.invokestatic 227, 3) := by decide +kernel
theorem dX9_terms_58 : decode cX9_terms 58 = .ok (.istore 7, 2) := by decide +kernel
theorem dX9_terms_60 : decode cX9_terms 60 = .ok (.lload_n 3, 1) := by decide +kernel
theorem dX9_terms_61 : decode cX9_terms 61 = .ok (.invokestatic 223, 3) := by decide +kernel
theorem dX9_terms_64 : decode cX9_terms 64 = .ok (.lstore_n 3, 1) := by decide +kernel
theorem dX9_terms_65 : decode cX9_terms 65 = .ok (.lload_n 3, 1) := by decide +kernel
theorem dX9_terms_66 : decode cX9_terms 66 = .ok (.invokestatic 227, 3) := by decide +kernel
theorem dX9_terms_69 : decode cX9_terms 69 = .ok (.istore 8, 2) := by decide +kernel
theorem dX9_terms_71 : decode cX9_terms 71 = .ok (.aload_n 0, 1) := by decide +kernel
theorem dX9_terms_72 : decode cX9_terms 72 = .ok (.getfield 36, 3) := by decide +kernel
theorem dX9_terms_75 : decode cX9_terms 75 = .ok (.iload 7, 2) := by decide +kernel
theorem dX9_terms_77 : decode cX9_terms 77 = .ok (.iload 8, 2) := by decide +kernel
theorem dX9_terms_79 : decode cX9_terms 79 = .ok (.invokevirtual 231, 3) := by decide +kernel
theorem dX9_terms_82 : decode cX9_terms 82 = .ok (.ifCond .eq 17, 3) := by decide +kernel
theorem dX9_terms_85 : decode cX9_terms 85 = .ok (.aload_n 0, 1) := by decide +kernel
theorem dX9_terms_86 : decode cX9_terms 86 = .ok (.getfield 36, 3) := by decide +kernel
theorem dX9_terms_89 : decode cX9_terms 89 = .ok (.iload 7, 2) := by decide +kernel
theorem dX9_terms_91 : decode cX9_terms 91 = .ok (.iload 8, 2) := by decide +kernel
theorem dX9_terms_93 : decode cX9_terms 93 = .ok (.invokevirtual 125, 3) := by decide +kernel
theorem dX9_terms_96 : decode cX9_terms 96 = .ok (.iinc 5 1, 3) := by decide +kernel
theorem dX9_terms_99 : decode cX9_terms 99 = .ok (.iinc 6 1, 3) := by decide +kernel
theorem dX9_terms_102 : decode cX9_terms 102 = .ok (.goto (-59), 3) := by decide +kernel
theorem dX9_terms_105 : decode cX9_terms 105 = .ok (.iload 5, 2) := by decide +kernel
theorem dX9_terms_107 : decode cX9_terms 107 = .ok (.ireturn, 1) := by decide +kernel
theorem dX9_part_0 : decode cX9_part 0 = .ok (.iload_n 1, 1) := by decide +kernel
theorem dX9_part_1 : decode cX9_part 1 = .ok (.lookupswitch 37 #[(0, 27), (1, 32)], 27) := by decide +kernel
theorem dX9_part_28 : decode cX9_part 28 = .ok (.aload_n 0, 1) := by decide +kernel
theorem dX9_part_29 : decode cX9_part 29 = .ok (.getfield 234, 3) := by decide +kernel
theorem dX9_part_32 : decode cX9_part 32 = .ok (.lreturn, 1) := by decide +kernel
theorem dX9_part_33 : decode cX9_part 33 = .ok (.aload_n 0, 1) := by decide +kernel
theorem dX9_part_34 : decode cX9_part 34 = .ok (.getfield 61, 3) := by decide +kernel
theorem dX9_part_37 : decode cX9_part 37 = .ok (.lreturn, 1) := by decide +kernel
theorem dX9_part_38 : decode cX9_part 38 = .ok (.aload_n 0, 1) := by decide +kernel
theorem dX9_part_39 : decode cX9_part 39 = .ok (.invokevirtual 76, 3) := by decide +kernel
theorem dX9_part_42 : decode cX9_part 42 = .ok (.i2l, 1) := by decide +kernel
theorem dX9_part_43 : decode cX9_part 43 = .ok (.lreturn, 1) := by decide +kernel
theorem dX9_image_0 : decode cX9_image 0 = .ok (.iload_n 1, 1) := by decide +kernel
theorem dX9_image_1 : decode cX9_image 1 = .ok (.iconst 1, 1) := by decide +kernel
theorem dX9_image_2 : decode cX9_image 2 = .ok (.invokestatic 72, 3) := by decide +kernel
theorem dX9_image_5 : decode cX9_image 5 = .ok (.ifCond .ne 8, 3) := by decide +kernel
theorem dX9_image_8 : decode cX9_image 8 = .ok (.aload_n 0, 1) := by decide +kernel
theorem dX9_image_9 : decode cX9_image 9 = .ok (.invokevirtual 76, 3) := by decide +kernel
theorem dX9_image_12 : decode cX9_image 12 = .ok (.ireturn, 1) := by decide +kernel
theorem dX9_image_13 : decode cX9_image 13 = .ok (.aload_n 0, 1) := by decide +kernel
theorem dX9_image_14 : decode cX9_image 14 = .ok (.getfield 39, 3) := by decide +kernel
theorem dX9_image_17 : decode cX9_image 17 = .ok (.iload_n 1, 1) := by decide +kernel
theorem dX9_image_18 : decode cX9_image 18 = .ok (.aaload, 1) := by decide +kernel
theorem dX9_image_19 : decode cX9_image 19 = .ok (.aload_n 0, 1) := by decide +kernel
theorem dX9_image_20 : decode cX9_image 20 = .ok (.getfield 32, 3) := by decide +kernel
theorem dX9_image_23 : decode cX9_image 23 = .ok (.invokevirtual 115, 3) := by decide +kernel
theorem dX9_image_26 : decode cX9_image 26 = .ok (.aload_n 0, 1) := by decide +kernel
theorem dX9_image_27 : decode cX9_image 27 = .ok (.getfield 43, 3) := by decide +kernel
theorem dX9_image_30 : decode cX9_image 30 = .ok (.iload_n 1, 1) := by decide +kernel
theorem dX9_image_31 : decode cX9_image 31 = .ok (.iconst 1, 1) := by decide +kernel
theorem dX9_image_32 : decode cX9_image 32 = .ok (.bastore, 1) := by decide +kernel
theorem dX9_image_33 : decode cX9_image 33 = .ok (.iconst 1, 1) := by decide +kernel
theorem dX9_image_34 : decode cX9_image 34 = .ok (.ireturn, 1) := by decide +kernel
theorem dX9_from_0 : decode cX9_from 0 = .ok (.iload_n 1, 1) := by decide +kernel
theorem dX9_from_1 : decode cX9_from 1 = .ok (.iconst 1, 1) := by decide +kernel
theorem dX9_from_2 : decode cX9_from 2 = .ok (.invokestatic 72, 3) := by decide +kernel
theorem dX9_from_5 : decode cX9_from 5 = .ok (.ifCond .ne 8, 3) := by decide +kernel
theorem dX9_from_8 : decode cX9_from 8 = .ok (.aload_n 0, 1) := by decide +kernel
theorem dX9_from_9 : decode cX9_from 9 = .ok (.invokevirtual 76, 3) := by decide +kernel
theorem dX9_from_12 : decode cX9_from 12 = .ok (.ireturn, 1) := by decide +kernel
theorem dX9_from_13 : decode cX9_from 13 = .ok (.aload_n 0, 1) := by decide +kernel
theorem dX9_from_14 : decode cX9_from 14 = .ok (.getfield 43, 3) := by decide +kernel
theorem dX9_from_17 : decode cX9_from 17 = .ok (.iload_n 1, 1) := by decide +kernel
theorem dX9_from_18 : decode cX9_from 18 = .ok (.baload, 1) := by decide +kernel
theorem dX9_from_19 : decode cX9_from 19 = .ok (.ifCond .ne 8, 3) := by decide +kernel
theorem dX9_from_22 : decode cX9_from 22 = .ok (.aload_n 0, 1) := by decide +kernel
theorem dX9_from_23 : decode cX9_from 23 = .ok (.invokevirtual 122, 3) := by decide +kernel
theorem dX9_from_26 : decode cX9_from 26 = .ok (.ireturn, 1) := by decide +kernel
theorem dX9_from_27 : decode cX9_from 27 = .ok (.aload_n 0, 1) := by decide +kernel
theorem dX9_from_28 : decode cX9_from 28 = .ok (.getfield 32, 3) := by decide +kernel
theorem dX9_from_31 : decode cX9_from 31 = .ok (.aload_n 0, 1) := by decide +kernel
theorem dX9_from_32 : decode cX9_from 32 = .ok (.getfield 39, 3) := by decide +kernel
theorem dX9_from_35 : decode cX9_from 35 = .ok (.iload_n 1, 1) := by decide +kernel
theorem dX9_from_36 : decode cX9_from 36 = .ok (.aaload, 1) := by decide +kernel
theorem dX9_from_37 : decode cX9_from 37 = .ok (.invokevirtual 115, 3) := by decide +kernel
theorem dX9_from_40 : decode cX9_from 40 = .ok (.iconst 1, 1) := by decide +kernel
theorem dX9_from_41 : decode cX9_from 41 = .ok (.ireturn, 1) := by decide +kernel
theorem dX9_status_0 : decode cX9_status 0 = .ok (.iload_n 1, 1) := by decide +kernel
theorem dX9_status_1 : decode cX9_status 1 = .ok (.tableswitch 42 0 2 #[27, 32, 37], 27) := by decide +kernel
theorem dX9_status_28 : decode cX9_status 28 = .ok (.aload_n 0, 1) := by decide +kernel
theorem dX9_status_29 : decode cX9_status 29 = .ok (.getfield 237, 3) := by decide +kernel
theorem dX9_status_32 : decode cX9_status 32 = .ok (.ireturn, 1) := by decide +kernel
theorem dX9_status_33 : decode cX9_status 33 = .ok (.aload_n 0, 1) := by decide +kernel
theorem dX9_status_34 : decode cX9_status 34 = .ok (.getfield 240, 3) := by decide +kernel
theorem dX9_status_37 : decode cX9_status 37 = .ok (.ireturn, 1) := by decide +kernel
theorem dX9_status_38 : decode cX9_status 38 = .ok (.aload_n 0, 1) := by decide +kernel
theorem dX9_status_39 : decode cX9_status 39 = .ok (.getfield 243, 3) := by decide +kernel
theorem dX9_status_42 : decode cX9_status 42 = .ok (.ireturn, 1) := by decide +kernel
theorem dX9_status_43 : decode cX9_status 43 = .ok (.aload_n 0, 1) := by decide +kernel
theorem dX9_status_44 : decode cX9_status 44 = .ok (.invokevirtual 76, 3) := by decide +kernel
theorem dX9_status_47 : decode cX9_status 47 = .ok (.pop, 1) := by decide +kernel
theorem dX9_status_48 : decode cX9_status 48 = .ok (.iconst (-1), 1) := by decide +kernel
theorem dX9_status_49 : decode cX9_status 49 = .ok (.ireturn, 1) := by decide +kernel
theorem dX9_count_0 : decode cX9_count 0 = .ok (.iload_n 1, 1) := by decide +kernel
theorem dX9_count_1 : decode cX9_count 1 = .ok (.tableswitch 102 0 6 #[43, 51, 59, 67, 78, 86, 94], 43) := by decide +kernel
theorem dX9_count_44 : decode cX9_count 44 = .ok (.aload_n 0, 1) := by decide +kernel
theorem dX9_count_45 : decode cX9_count 45 = .ok (.getfield 32, 3) := by decide +kernel
theorem dX9_count_48 : decode cX9_count 48 = .ok (.getfield 65, 3) := by decide +kernel
theorem dX9_count_51 : decode cX9_count 51 = .ok (.ireturn, 1) := by decide +kernel
theorem dX9_count_52 : decode cX9_count 52 = .ok (.aload_n 0, 1) := by decide +kernel
theorem dX9_count_53 : decode cX9_count 53 = .ok (.getfield 32, 3) := by decide +kernel
theorem dX9_count_56 : decode cX9_count 56 = .ok (.invokevirtual 138, 3) := by decide +kernel
theorem dX9_count_59 : decode cX9_count 59 = .ok (.ireturn, 1) := by decide +kernel
theorem dX9_count_60 : decode cX9_count 60 = .ok (.aload_n 0, 1) := by decide +kernel
theorem dX9_count_61 : decode cX9_count 61 = .ok (.getfield 32, 3) := by decide +kernel
theorem dX9_count_64 : decode cX9_count 64 = .ok (.invokevirtual 246, 3) := by decide +kernel
theorem dX9_count_67 : decode cX9_count 67 = .ok (.ireturn, 1) := by decide +kernel
theorem dX9_count_68 : decode cX9_count 68 = .ok (.aload_n 0, 1) := by decide +kernel
theorem dX9_count_69 : decode cX9_count 69 = .ok (.getfield 32, 3) := by decide +kernel
theorem dX9_count_72 : decode cX9_count 72 = .ok (.invokevirtual 158, 3) := by decide +kernel
theorem dX9_count_75 : decode cX9_count 75 = .ok (.invokestatic 249, 3) := by decide +kernel
theorem dX9_count_78 : decode cX9_count 78 = .ok (.ireturn, 1) := by decide +kernel
theorem dX9_count_79 : decode cX9_count 79 = .ok (.aload_n 0, 1) := by decide +kernel
theorem dX9_count_80 : decode cX9_count 80 = .ok (.getfield 32, 3) := by decide +kernel
theorem dX9_count_83 : decode cX9_count 83 = .ok (.getfield 200, 3) := by decide +kernel
theorem dX9_count_86 : decode cX9_count 86 = .ok (.ireturn, 1) := by decide +kernel
theorem dX9_count_87 : decode cX9_count 87 = .ok (.aload_n 0, 1) := by decide +kernel
theorem dX9_count_88 : decode cX9_count 88 = .ok (.getfield 32, 3) := by decide +kernel
theorem dX9_count_91 : decode cX9_count 91 = .ok (.getfield 132, 3) := by decide +kernel
theorem dX9_count_94 : decode cX9_count 94 = .ok (.ireturn, 1) := by decide +kernel
theorem dX9_count_95 : decode cX9_count 95 = .ok (.aload_n 0, 1) := by decide +kernel
theorem dX9_count_96 : decode cX9_count 96 = .ok (.getfield 57, 3) := by decide +kernel
theorem dX9_count_99 : decode cX9_count 99 = .ok (.getfield 104, 3) := by decide +kernel
theorem dX9_count_102 : decode cX9_count 102 = .ok (.ireturn, 1) := by decide +kernel
theorem dX9_count_103 : decode cX9_count 103 = .ok (.aload_n 0, 1) := by decide +kernel
theorem dX9_count_104 : decode cX9_count 104 = .ok (.invokevirtual 76, 3) := by decide +kernel
theorem dX9_count_107 : decode cX9_count 107 = .ok (.ireturn, 1) := by decide +kernel
theorem dX9_digest_0 : decode cX9_digest 0 = .ok (.ldc2_w 254, 3) := by decide +kernel
theorem dX9_digest_3 : decode cX9_digest 3 = .ok (.lstore_n 1, 1) := by decide +kernel
theorem dX9_digest_4 : decode cX9_digest 4 = .ok (.iconst 0, 1) := by decide +kernel
theorem dX9_digest_5 : decode cX9_digest 5 = .ok (.istore_n 3, 1) := by decide +kernel
theorem dX9_digest_6 : decode cX9_digest 6 = .ok (.iload_n 3, 1) := by decide +kernel
theorem dX9_digest_7 : decode cX9_digest 7 = .ok (.bipush 7, 2) := by decide +kernel
theorem dX9_digest_9 : decode cX9_digest 9 = .ok (.if_icmp .ge 22, 3) := by decide +kernel
theorem dX9_digest_12 : decode cX9_digest 12 = .ok (.ldc2_w 256, 3) := by decide +kernel
theorem dX9_digest_15 : decode cX9_digest 15 = .ok (.lload_n 1, 1) := by decide +kernel
theorem dX9_digest_16 : decode cX9_digest 16 = .ok (.lmul, 1) := by decide +kernel
theorem dX9_digest_17 : decode cX9_digest 17 = .ok (.aload_n 0, 1) := by decide +kernel
theorem dX9_digest_18 : decode cX9_digest 18 = .ok (.iload_n 3, 1) := by decide +kernel
theorem dX9_digest_19 : decode cX9_digest 19 = .ok (.invokevirtual 258, 3) := by decide +kernel
theorem dX9_digest_22 : decode cX9_digest 22 = .ok (.i2l, 1) := by decide +kernel
theorem dX9_digest_23 : decode cX9_digest 23 = .ok (.ladd, 1) := by decide +kernel
theorem dX9_digest_24 : decode cX9_digest 24 = .ok (.lstore_n 1, 1) := by decide +kernel
theorem dX9_digest_25 : decode cX9_digest 25 = .ok (.iinc 3 1, 3) := by decide +kernel
theorem dX9_digest_28 : decode cX9_digest 28 = .ok (.goto (-22), 3) := by decide +kernel
theorem dX9_digest_31 : decode cX9_digest 31 = .ok (.aload_n 0, 1) := by decide +kernel
theorem dX9_digest_32 : decode cX9_digest 32 = .ok (.getfield 32, 3) := by decide +kernel
theorem dX9_digest_35 : decode cX9_digest 35 = .ok (.lload_n 1, 1) := by decide +kernel
theorem dX9_digest_36 : decode cX9_digest 36 = .ok (.invokevirtual 261, 3) := by decide +kernel
theorem dX9_digest_39 : decode cX9_digest 39 = .ok (.lstore_n 1, 1) := by decide +kernel
theorem dX9_digest_40 : decode cX9_digest 40 = .ok (.ldc2_w 256, 3) := by decide +kernel
theorem dX9_digest_43 : decode cX9_digest 43 = .ok (.lload_n 1, 1) := by decide +kernel
theorem dX9_digest_44 : decode cX9_digest 44 = .ok (.lmul, 1) := by decide +kernel
theorem dX9_digest_45 : decode cX9_digest 45 = .ok (.aload_n 0, 1) := by decide +kernel
theorem dX9_digest_46 : decode cX9_digest 46 = .ok (.getfield 234, 3) := by decide +kernel
theorem dX9_digest_49 : decode cX9_digest 49 = .ok (.ladd, 1) := by decide +kernel
theorem dX9_digest_50 : decode cX9_digest 50 = .ok (.lstore_n 1, 1) := by decide +kernel
theorem dX9_digest_51 : decode cX9_digest 51 = .ok (.ldc2_w 256, 3) := by decide +kernel
theorem dX9_digest_54 : decode cX9_digest 54 = .ok (.lload_n 1, 1) := by decide +kernel
theorem dX9_digest_55 : decode cX9_digest 55 = .ok (.lmul, 1) := by decide +kernel
theorem dX9_digest_56 : decode cX9_digest 56 = .ok (.aload_n 0, 1) := by decide +kernel
theorem dX9_digest_57 : decode cX9_digest 57 = .ok (.getfield 61, 3) := by decide +kernel
theorem dX9_digest_60 : decode cX9_digest 60 = .ok (.ladd, 1) := by decide +kernel
theorem dX9_digest_61 : decode cX9_digest 61 = .ok (.lreturn, 1) := by decide +kernel
theorem dX9_bad_0 : decode cX9_bad 0 = .ok (.aload_n 0, 1) := by decide +kernel
theorem dX9_bad_1 : decode cX9_bad 1 = .ok (.dup, 1) := by decide +kernel
theorem dX9_bad_2 : decode cX9_bad 2 = .ok (.getfield 237, 3) := by decide +kernel
theorem dX9_bad_5 : decode cX9_bad 5 = .ok (.iconst 1, 1) := by decide +kernel
theorem dX9_bad_6 : decode cX9_bad 6 = .ok (.iadd, 1) := by decide +kernel
theorem dX9_bad_7 : decode cX9_bad 7 = .ok (.putfield 237, 3) := by decide +kernel
theorem dX9_bad_10 : decode cX9_bad 10 = .ok (.bipush (-2), 2) := by decide +kernel
theorem dX9_bad_12 : decode cX9_bad 12 = .ok (.ireturn, 1) := by decide +kernel
theorem dX9_otherBad_0 : decode cX9_otherBad 0 = .ok (.aload_n 0, 1) := by decide +kernel
theorem dX9_otherBad_1 : decode cX9_otherBad 1 = .ok (.dup, 1) := by decide +kernel
theorem dX9_otherBad_2 : decode cX9_otherBad 2 = .ok (.getfield 237, 3) := by decide +kernel
theorem dX9_otherBad_5 : decode cX9_otherBad 5 = .ok (.iconst 1, 1) := by decide +kernel
theorem dX9_otherBad_6 : decode cX9_otherBad 6 = .ok (.iadd, 1) := by decide +kernel
theorem dX9_otherBad_7 : decode cX9_otherBad 7 = .ok (.putfield 237, 3) := by decide +kernel
theorem dX9_otherBad_10 : decode cX9_otherBad 10 = .ok (.bipush (-10), 2) := by decide +kernel
theorem dX9_otherBad_12 : decode cX9_otherBad 12 = .ok (.ireturn, 1) := by decide +kernel
theorem dX9_no_0 : decode cX9_no 0 = .ok (.aload_n 0, 1) := by decide +kernel
theorem dX9_no_1 : decode cX9_no 1 = .ok (.dup, 1) := by decide +kernel
theorem dX9_no_2 : decode cX9_no 2 = .ok (.getfield 240, 3) := by decide +kernel
theorem dX9_no_5 : decode cX9_no 5 = .ok (.iconst 1, 1) := by decide +kernel
theorem dX9_no_6 : decode cX9_no 6 = .ok (.iadd, 1) := by decide +kernel
theorem dX9_no_7 : decode cX9_no 7 = .ok (.putfield 240, 3) := by decide +kernel
theorem dX9_no_10 : decode cX9_no 10 = .ok (.bipush (-3), 2) := by decide +kernel
theorem dX9_no_12 : decode cX9_no 12 = .ok (.ireturn, 1) := by decide +kernel
theorem dX9_full_0 : decode cX9_full 0 = .ok (.aload_n 0, 1) := by decide +kernel
theorem dX9_full_1 : decode cX9_full 1 = .ok (.dup, 1) := by decide +kernel
theorem dX9_full_2 : decode cX9_full 2 = .ok (.getfield 243, 3) := by decide +kernel
theorem dX9_full_5 : decode cX9_full 5 = .ok (.iconst 1, 1) := by decide +kernel
theorem dX9_full_6 : decode cX9_full 6 = .ok (.iadd, 1) := by decide +kernel
theorem dX9_full_7 : decode cX9_full 7 = .ok (.putfield 243, 3) := by decide +kernel
theorem dX9_full_10 : decode cX9_full 10 = .ok (.bipush (-4), 2) := by decide +kernel
theorem dX9_full_12 : decode cX9_full 12 = .ok (.ireturn, 1) := by decide +kernel
theorem dX9_isBoy_0 : decode cX9_isBoy 0 = .ok (.iload_n 1, 1) := by decide +kernel
theorem dX9_isBoy_1 : decode cX9_isBoy 1 = .ok (.aload_n 0, 1) := by decide +kernel
theorem dX9_isBoy_2 : decode cX9_isBoy 2 = .ok (.getfield 32, 3) := by decide +kernel
theorem dX9_isBoy_5 : decode cX9_isBoy 5 = .ok (.getfield 65, 3) := by decide +kernel
theorem dX9_isBoy_8 : decode cX9_isBoy 8 = .ok (.iconst 1, 1) := by decide +kernel
theorem dX9_isBoy_9 : decode cX9_isBoy 9 = .ok (.isub, 1) := by decide +kernel
theorem dX9_isBoy_10 : decode cX9_isBoy 10 = .ok (.invokestatic 72, 3) := by decide +kernel
theorem dX9_isBoy_13 : decode cX9_isBoy 13 = .ok (.ireturn, 1) := by decide +kernel
theorem dX9_isCell_0 : decode cX9_isCell 0 = .ok (.iload_n 0, 1) := by decide +kernel
theorem dX9_isCell_1 : decode cX9_isCell 1 = .ok (.bipush 11, 2) := by decide +kernel
theorem dX9_isCell_3 : decode cX9_isCell 3 = .ok (.invokestatic 72, 3) := by decide +kernel
theorem dX9_isCell_6 : decode cX9_isCell 6 = .ok (.ireturn, 1) := by decide +kernel
theorem dX9_within_0 : decode cX9_within 0 = .ok (.iload_n 0, 1) := by decide +kernel
theorem dX9_within_1 : decode cX9_within 1 = .ok (.ifCond .lt 12, 3) := by decide +kernel
theorem dX9_within_4 : decode cX9_within 4 = .ok (.iload_n 0, 1) := by decide +kernel
theorem dX9_within_5 : decode cX9_within 5 = .ok (.iload_n 1, 1) := by decide +kernel
theorem dX9_within_6 : decode cX9_within 6 = .ok (.if_icmp .gt 7, 3) := by decide +kernel
theorem dX9_within_9 : decode cX9_within 9 = .ok (.iconst 1, 1) := by decide +kernel
theorem dX9_within_10 : decode cX9_within 10 = .ok (.goto 4, 3) := by decide +kernel
theorem dX9_within_13 : decode cX9_within 13 = .ok (.iconst 0, 1) := by decide +kernel
theorem dX9_within_14 : decode cX9_within 14 = .ok (.ireturn, 1) := by decide +kernel
theorem dX9_has_0 : decode cX9_has 0 = .ok (.iload_n 1, 1) := by decide +kernel
theorem dX9_has_1 : decode cX9_has 1 = .ok (.ifCond .lt 16, 3) := by decide +kernel
theorem dX9_has_4 : decode cX9_has 4 = .ok (.iload_n 0, 1) := by decide +kernel
theorem dX9_has_5 : decode cX9_has 5 = .ok (.iload_n 1, 1) := by decide +kernel
theorem dX9_has_6 : decode cX9_has 6 = .ok (.ishr, 1) := by decide +kernel
theorem dX9_has_7 : decode cX9_has 7 = .ok (.iconst 1, 1) := by decide +kernel
theorem dX9_has_8 : decode cX9_has 8 = .ok (.iand, 1) := by decide +kernel
theorem dX9_has_9 : decode cX9_has 9 = .ok (.iconst 1, 1) := by decide +kernel
theorem dX9_has_10 : decode cX9_has 10 = .ok (.if_icmp .ne 7, 3) := by decide +kernel
theorem dX9_has_13 : decode cX9_has 13 = .ok (.iconst 1, 1) := by decide +kernel
theorem dX9_has_14 : decode cX9_has 14 = .ok (.goto 4, 3) := by decide +kernel
theorem dX9_has_17 : decode cX9_has 17 = .ok (.iconst 0, 1) := by decide +kernel
theorem dX9_has_18 : decode cX9_has 18 = .ok (.ireturn, 1) := by decide +kernel
theorem dX9_isMiddle_0 : decode cX9_isMiddle 0 = .ok (.iload_n 0, 1) := by decide +kernel
theorem dX9_isMiddle_1 : decode cX9_isMiddle 1 = .ok (.iconst 4, 1) := by decide +kernel
theorem dX9_isMiddle_2 : decode cX9_isMiddle 2 = .ok (.if_icmp .lt 13, 3) := by decide +kernel
theorem dX9_isMiddle_5 : decode cX9_isMiddle 5 = .ok (.iload_n 0, 1) := by decide +kernel
theorem dX9_isMiddle_6 : decode cX9_isMiddle 6 = .ok (.bipush 7, 2) := by decide +kernel
theorem dX9_isMiddle_8 : decode cX9_isMiddle 8 = .ok (.if_icmp .gt 7, 3) := by decide +kernel
theorem dX9_isMiddle_11 : decode cX9_isMiddle 11 = .ok (.iconst 1, 1) := by decide +kernel
theorem dX9_isMiddle_12 : decode cX9_isMiddle 12 = .ok (.goto 4, 3) := by decide +kernel
theorem dX9_isMiddle_15 : decode cX9_isMiddle 15 = .ok (.iconst 0, 1) := by decide +kernel
theorem dX9_isMiddle_16 : decode cX9_isMiddle 16 = .ok (.ireturn, 1) := by decide +kernel
theorem dX9_drawn_0 : decode cX9_drawn 0 = .ok (.lload_n 0, 1) := by decide +kernel
theorem dX9_drawn_1 : decode cX9_drawn 1 = .ok (.ldc2_w 264, 3) := by decide +kernel
theorem dX9_drawn_4 : decode cX9_drawn 4 = .ok (.lmul, 1) := by decide +kernel
theorem dX9_drawn_5 : decode cX9_drawn 5 = .ok (.ldc2_w 266, 3) := by decide +kernel
theorem dX9_drawn_8 : decode cX9_drawn 8 = .ok (.ladd, 1) := by decide +kernel
theorem dX9_drawn_9 : decode cX9_drawn 9 = .ok (.ldc2_w 268, 3) := by decide +kernel
theorem dX9_drawn_12 : decode cX9_drawn 12 = .ok (.lrem, 1) := by decide +kernel
theorem dX9_drawn_13 : decode cX9_drawn 13 = .ok (.lreturn, 1) := by decide +kernel
theorem dX9_cellBy_0 : decode cX9_cellBy 0 = .ok (.lload_n 0, 1) := by decide +kernel
theorem dX9_cellBy_1 : decode cX9_cellBy 1 = .ok (.ldc2_w 270, 3) := by decide +kernel
theorem dX9_cellBy_4 : decode cX9_cellBy 4 = .ok (.ldiv, 1) := by decide +kernel
theorem dX9_cellBy_5 : decode cX9_cellBy 5 = .ok (.ldc2_w 272, 3) := by decide +kernel
theorem dX9_cellBy_8 : decode cX9_cellBy 8 = .ok (.lrem, 1) := by decide +kernel
theorem dX9_cellBy_9 : decode cX9_cellBy 9 = .ok (.l2i, 1) := by decide +kernel
theorem dX9_cellBy_10 : decode cX9_cellBy 10 = .ok (.ireturn, 1) := by decide +kernel
theorem dX9_setFraction_0 : decode cX9_setFraction 0 = .ok (.iload_n 1, 1) := by decide +kernel
theorem dX9_setFraction_1 : decode cX9_setFraction 1 = .ok (.iload_n 2, 1) := by decide +kernel
theorem dX9_setFraction_2 : decode cX9_setFraction 2 = .ok (.invokestatic 274, 3) := by decide +kernel
theorem dX9_setFraction_5 : decode cX9_setFraction 5 = .ok (.istore_n 3, 1) := by decide +kernel
theorem dX9_setFraction_6 : decode cX9_setFraction 6 = .ok (.iload_n 3, 1) := by decide +kernel
theorem dX9_setFraction_7 : decode cX9_setFraction 7 = .ok (.iconst 1, 1) := by decide +kernel
theorem dX9_setFraction_8 : decode cX9_setFraction 8 = .ok (.if_icmp .ge 4, 3) := by decide +kernel
theorem dX9_setFraction_11 : decode cX9_setFraction 11 = .ok (.return_, 1) := by decide +kernel
theorem dX9_setFraction_12 : decode cX9_setFraction 12 = .ok (.aload_n 0, 1) := by decide +kernel
theorem dX9_setFraction_13 : decode cX9_setFraction 13 = .ok (.iload_n 1, 1) := by decide +kernel
theorem dX9_setFraction_14 : decode cX9_setFraction 14 = .ok (.iload_n 3, 1) := by decide +kernel
theorem dX9_setFraction_15 : decode cX9_setFraction 15 = .ok (.idiv, 1) := by decide +kernel
theorem dX9_setFraction_16 : decode cX9_setFraction 16 = .ok (.i2l, 1) := by decide +kernel
theorem dX9_setFraction_17 : decode cX9_setFraction 17 = .ok (.putfield 234, 3) := by decide +kernel
theorem dX9_setFraction_20 : decode cX9_setFraction 20 = .ok (.aload_n 0, 1) := by decide +kernel
theorem dX9_setFraction_21 : decode cX9_setFraction 21 = .ok (.iload_n 2, 1) := by decide +kernel
theorem dX9_setFraction_22 : decode cX9_setFraction 22 = .ok (.iload_n 3, 1) := by decide +kernel
theorem dX9_setFraction_23 : decode cX9_setFraction 23 = .ok (.idiv, 1) := by decide +kernel
theorem dX9_setFraction_24 : decode cX9_setFraction 24 = .ok (.i2l, 1) := by decide +kernel
theorem dX9_setFraction_25 : decode cX9_setFraction 25 = .ok (.putfield 61, 3) := by decide +kernel
theorem dX9_setFraction_28 : decode cX9_setFraction 28 = .ok (.return_, 1) := by decide +kernel
theorem dX9_commonDivisor_0 : decode cX9_commonDivisor 0 = .ok (.iload_n 1, 1) := by decide +kernel
theorem dX9_commonDivisor_1 : decode cX9_commonDivisor 1 = .ok (.istore_n 2, 1) := by decide +kernel
theorem dX9_commonDivisor_2 : decode cX9_commonDivisor 2 = .ok (.iload_n 2, 1) := by decide +kernel
theorem dX9_commonDivisor_3 : decode cX9_commonDivisor 3 = .ok (.iconst 1, 1) := by decide +kernel
theorem dX9_commonDivisor_4 : decode cX9_commonDivisor 4 = .ok (.if_icmp .le 23, 3) := by decide +kernel
theorem dX9_commonDivisor_7 : decode cX9_commonDivisor 7 = .ok (.iload_n 0, 1) := by decide +kernel
theorem dX9_commonDivisor_8 : decode cX9_commonDivisor 8 = .ok (.iload_n 2, 1) := by decide +kernel
theorem dX9_commonDivisor_9 : decode cX9_commonDivisor 9 = .ok (.irem, 1) := by decide +kernel
theorem dX9_commonDivisor_10 : decode cX9_commonDivisor 10 = .ok (.ifCond .ne 11, 3) := by decide +kernel
theorem dX9_commonDivisor_13 : decode cX9_commonDivisor 13 = .ok (.iload_n 1, 1) := by decide +kernel
theorem dX9_commonDivisor_14 : decode cX9_commonDivisor 14 = .ok (.iload_n 2, 1) := by decide +kernel
theorem dX9_commonDivisor_15 : decode cX9_commonDivisor 15 = .ok (.irem, 1) := by decide +kernel
theorem dX9_commonDivisor_16 : decode cX9_commonDivisor 16 = .ok (.ifCond .ne 5, 3) := by decide +kernel
theorem dX9_commonDivisor_19 : decode cX9_commonDivisor 19 = .ok (.iload_n 2, 1) := by decide +kernel
theorem dX9_commonDivisor_20 : decode cX9_commonDivisor 20 = .ok (.ireturn, 1) := by decide +kernel
theorem dX9_commonDivisor_21 : decode cX9_commonDivisor 21 = .ok (.iinc 2 (-1), 3) := by decide +kernel
theorem dX9_commonDivisor_24 : decode cX9_commonDivisor 24 = .ok (.goto (-22), 3) := by decide +kernel
theorem dX9_commonDivisor_27 : decode cX9_commonDivisor 27 = .ok (.iconst 1, 1) := by decide +kernel
theorem dX9_commonDivisor_28 : decode cX9_commonDivisor 28 = .ok (.ireturn, 1) := by decide +kernel
theorem dJ6_bitCount_0f7a4_0 : decode cJ6_bitCount_0f7a4 0 = .ok (.iload_n 0, 1) := by decide +kernel
theorem dJ6_bitCount_0f7a4_1 : decode cJ6_bitCount_0f7a4 1 = .ok (.iload_n 0, 1) := by decide +kernel
theorem dJ6_bitCount_0f7a4_2 : decode cJ6_bitCount_0f7a4 2 = .ok (.iconst 1, 1) := by decide +kernel
theorem dJ6_bitCount_0f7a4_3 : decode cJ6_bitCount_0f7a4 3 = .ok (.iushr, 1) := by decide +kernel
theorem dJ6_bitCount_0f7a4_4 : decode cJ6_bitCount_0f7a4 4 = .ok (.ldc_w 265, 3) := by decide +kernel
theorem dJ6_bitCount_0f7a4_7 : decode cJ6_bitCount_0f7a4 7 = .ok (.iand, 1) := by decide +kernel
theorem dJ6_bitCount_0f7a4_8 : decode cJ6_bitCount_0f7a4 8 = .ok (.isub, 1) := by decide +kernel
theorem dJ6_bitCount_0f7a4_9 : decode cJ6_bitCount_0f7a4 9 = .ok (.istore_n 0, 1) := by decide +kernel
theorem dJ6_bitCount_0f7a4_10 : decode cJ6_bitCount_0f7a4 10 = .ok (.iload_n 0, 1) := by decide +kernel
theorem dJ6_bitCount_0f7a4_11 : decode cJ6_bitCount_0f7a4 11 = .ok (.ldc_w 266, 3) := by decide +kernel
theorem dJ6_bitCount_0f7a4_14 : decode cJ6_bitCount_0f7a4 14 = .ok (.iand, 1) := by decide +kernel
theorem dJ6_bitCount_0f7a4_15 : decode cJ6_bitCount_0f7a4 15 = .ok (.iload_n 0, 1) := by decide +kernel
theorem dJ6_bitCount_0f7a4_16 : decode cJ6_bitCount_0f7a4 16 = .ok (.iconst 2, 1) := by decide +kernel
theorem dJ6_bitCount_0f7a4_17 : decode cJ6_bitCount_0f7a4 17 = .ok (.iushr, 1) := by decide +kernel
theorem dJ6_bitCount_0f7a4_18 : decode cJ6_bitCount_0f7a4 18 = .ok (.ldc_w 266, 3) := by decide +kernel
theorem dJ6_bitCount_0f7a4_21 : decode cJ6_bitCount_0f7a4 21 = .ok (.iand, 1) := by decide +kernel
theorem dJ6_bitCount_0f7a4_22 : decode cJ6_bitCount_0f7a4 22 = .ok (.iadd, 1) := by decide +kernel
theorem dJ6_bitCount_0f7a4_23 : decode cJ6_bitCount_0f7a4 23 = .ok (.istore_n 0, 1) := by decide +kernel
theorem dJ6_bitCount_0f7a4_24 : decode cJ6_bitCount_0f7a4 24 = .ok (.iload_n 0, 1) := by decide +kernel
theorem dJ6_bitCount_0f7a4_25 : decode cJ6_bitCount_0f7a4 25 = .ok (.iload_n 0, 1) := by decide +kernel
theorem dJ6_bitCount_0f7a4_26 : decode cJ6_bitCount_0f7a4 26 = .ok (.iconst 4, 1) := by decide +kernel
theorem dJ6_bitCount_0f7a4_27 : decode cJ6_bitCount_0f7a4 27 = .ok (.iushr, 1) := by decide +kernel
theorem dJ6_bitCount_0f7a4_28 : decode cJ6_bitCount_0f7a4 28 = .ok (.iadd, 1) := by decide +kernel
theorem dJ6_bitCount_0f7a4_29 : decode cJ6_bitCount_0f7a4 29 = .ok (.ldc_w 267, 3) := by decide +kernel
theorem dJ6_bitCount_0f7a4_32 : decode cJ6_bitCount_0f7a4 32 = .ok (.iand, 1) := by decide +kernel
theorem dJ6_bitCount_0f7a4_33 : decode cJ6_bitCount_0f7a4 33 = .ok (.istore_n 0, 1) := by decide +kernel
theorem dJ6_bitCount_0f7a4_34 : decode cJ6_bitCount_0f7a4 34 = .ok (.iload_n 0, 1) := by decide +kernel
theorem dJ6_bitCount_0f7a4_35 : decode cJ6_bitCount_0f7a4 35 = .ok (.iload_n 0, 1) := by decide +kernel
theorem dJ6_bitCount_0f7a4_36 : decode cJ6_bitCount_0f7a4 36 = .ok (.bipush 8, 2) := by decide +kernel
theorem dJ6_bitCount_0f7a4_38 : decode cJ6_bitCount_0f7a4 38 = .ok (.iushr, 1) := by decide +kernel
theorem dJ6_bitCount_0f7a4_39 : decode cJ6_bitCount_0f7a4 39 = .ok (.iadd, 1) := by decide +kernel
theorem dJ6_bitCount_0f7a4_40 : decode cJ6_bitCount_0f7a4 40 = .ok (.istore_n 0, 1) := by decide +kernel
theorem dJ6_bitCount_0f7a4_41 : decode cJ6_bitCount_0f7a4 41 = .ok (.iload_n 0, 1) := by decide +kernel
theorem dJ6_bitCount_0f7a4_42 : decode cJ6_bitCount_0f7a4 42 = .ok (.iload_n 0, 1) := by decide +kernel
theorem dJ6_bitCount_0f7a4_43 : decode cJ6_bitCount_0f7a4 43 = .ok (.bipush 16, 2) := by decide +kernel
theorem dJ6_bitCount_0f7a4_45 : decode cJ6_bitCount_0f7a4 45 = .ok (.iushr, 1) := by decide +kernel
theorem dJ6_bitCount_0f7a4_46 : decode cJ6_bitCount_0f7a4 46 = .ok (.iadd, 1) := by decide +kernel
theorem dJ6_bitCount_0f7a4_47 : decode cJ6_bitCount_0f7a4 47 = .ok (.istore_n 0, 1) := by decide +kernel
theorem dJ6_bitCount_0f7a4_48 : decode cJ6_bitCount_0f7a4 48 = .ok (.iload_n 0, 1) := by decide +kernel
theorem dJ6_bitCount_0f7a4_49 : decode cJ6_bitCount_0f7a4 49 = .ok (.bipush 63, 2) := by decide +kernel
theorem dJ6_bitCount_0f7a4_51 : decode cJ6_bitCount_0f7a4 51 = .ok (.iand, 1) := by decide +kernel
theorem dJ6_bitCount_0f7a4_52 : decode cJ6_bitCount_0f7a4 52 = .ok (.ireturn, 1) := by decide +kernel
theorem dJ9_max_7cf53_0 : decode cJ9_max_7cf53 0 = .ok (.iload_n 0, 1) := by decide +kernel
theorem dJ9_max_7cf53_1 : decode cJ9_max_7cf53 1 = .ok (.iload_n 1, 1) := by decide +kernel
theorem dJ9_max_7cf53_2 : decode cJ9_max_7cf53 2 = .ok (.if_icmp .lt 7, 3) := by decide +kernel
theorem dJ9_max_7cf53_5 : decode cJ9_max_7cf53 5 = .ok (.iload_n 0, 1) := by decide +kernel
theorem dJ9_max_7cf53_6 : decode cJ9_max_7cf53 6 = .ok (.goto 4, 3) := by decide +kernel
theorem dJ9_max_7cf53_9 : decode cJ9_max_7cf53 9 = .ok (.iload_n 1, 1) := by decide +kernel
theorem dJ9_max_7cf53_10 : decode cJ9_max_7cf53 10 = .ok (.ireturn, 1) := by decide +kernel
theorem dJ0_length_8abf5_0 : decode cJ0_length_8abf5 0 = .ok (.aload_n 0, 1) := by decide +kernel
theorem dJ0_length_8abf5_1 : decode cJ0_length_8abf5 1 = .ok (.getfield 9, 3) := by decide +kernel
theorem dJ0_length_8abf5_4 : decode cJ0_length_8abf5 4 = .ok (.arraylength, 1) := by decide +kernel
theorem dJ0_length_8abf5_5 : decode cJ0_length_8abf5 5 = .ok (.aload_n 0, 1) := by decide +kernel
theorem dJ0_length_8abf5_6 : decode cJ0_length_8abf5 6 = .ok (.invokevirtual 335, 3) := by decide +kernel
theorem dJ0_length_8abf5_9 : decode cJ0_length_8abf5 9 = .ok (.ishr, 1) := by decide +kernel
theorem dJ0_length_8abf5_10 : decode cJ0_length_8abf5 10 = .ok (.ireturn, 1) := by decide +kernel
theorem dJ0_charAt_5068e_0 : decode cJ0_charAt_5068e 0 = .ok (.aload_n 0, 1) := by decide +kernel
theorem dJ0_charAt_5068e_1 : decode cJ0_charAt_5068e 1 = .ok (.invokevirtual 492, 3) := by decide +kernel
theorem dJ0_charAt_5068e_4 : decode cJ0_charAt_5068e 4 = .ok (.ifCond .eq 12, 3) := by decide +kernel
theorem dJ0_charAt_5068e_7 : decode cJ0_charAt_5068e 7 = .ok (.aload_n 0, 1) := by decide +kernel
theorem dJ0_charAt_5068e_8 : decode cJ0_charAt_5068e 8 = .ok (.getfield 9, 3) := by decide +kernel
theorem dJ0_charAt_5068e_11 : decode cJ0_charAt_5068e 11 = .ok (.iload_n 1, 1) := by decide +kernel
theorem dJ0_charAt_5068e_12 : decode cJ0_charAt_5068e 12 = .ok (.invokestatic 495, 3) := by decide +kernel
theorem dJ0_charAt_5068e_15 : decode cJ0_charAt_5068e 15 = .ok (.ireturn, 1) := by decide +kernel
theorem dJ0_charAt_5068e_16 : decode cJ0_charAt_5068e 16 = .ok (.aload_n 0, 1) := by decide +kernel
theorem dJ0_charAt_5068e_17 : decode cJ0_charAt_5068e 17 = .ok (.getfield 9, 3) := by decide +kernel
theorem dJ0_charAt_5068e_20 : decode cJ0_charAt_5068e 20 = .ok (.iload_n 1, 1) := by decide +kernel
theorem dJ0_charAt_5068e_21 : decode cJ0_charAt_5068e 21 = .ok (.invokestatic 498, 3) := by decide +kernel
theorem dJ0_charAt_5068e_24 : decode cJ0_charAt_5068e 24 = .ok (.ireturn, 1) := by decide +kernel
theorem dJ0_coder_7d493_0 : decode cJ0_coder_7d493 0 = .ok (.getstatic 38, 3) := by decide +kernel
theorem dJ0_coder_7d493_3 : decode cJ0_coder_7d493 3 = .ok (.ifCond .eq 10, 3) := by decide +kernel
theorem dJ0_coder_7d493_6 : decode cJ0_coder_7d493 6 = .ok (.aload_n 0, 1) := by decide +kernel
theorem dJ0_coder_7d493_7 : decode cJ0_coder_7d493 7 = .ok (.getfield 15, 3) := by decide +kernel
theorem dJ0_coder_7d493_10 : decode cJ0_coder_7d493 10 = .ok (.goto 4, 3) := by decide +kernel
theorem dJ0_coder_7d493_13 : decode cJ0_coder_7d493 13 = .ok (.iconst 1, 1) := by decide +kernel
theorem dJ0_coder_7d493_14 : decode cJ0_coder_7d493 14 = .ok (.ireturn, 1) := by decide +kernel
theorem dJ0_isLatin1_aae02_0 : decode cJ0_isLatin1_aae02 0 = .ok (.getstatic 38, 3) := by decide +kernel
theorem dJ0_isLatin1_aae02_3 : decode cJ0_isLatin1_aae02 3 = .ok (.ifCond .eq 14, 3) := by decide +kernel
theorem dJ0_isLatin1_aae02_6 : decode cJ0_isLatin1_aae02 6 = .ok (.aload_n 0, 1) := by decide +kernel
theorem dJ0_isLatin1_aae02_7 : decode cJ0_isLatin1_aae02 7 = .ok (.getfield 15, 3) := by decide +kernel
theorem dJ0_isLatin1_aae02_10 : decode cJ0_isLatin1_aae02 10 = .ok (.ifCond .ne 7, 3) := by decide +kernel
theorem dJ0_isLatin1_aae02_13 : decode cJ0_isLatin1_aae02 13 = .ok (.iconst 1, 1) := by decide +kernel
theorem dJ0_isLatin1_aae02_14 : decode cJ0_isLatin1_aae02 14 = .ok (.goto 4, 3) := by decide +kernel
theorem dJ0_isLatin1_aae02_17 : decode cJ0_isLatin1_aae02 17 = .ok (.iconst 0, 1) := by decide +kernel
theorem dJ0_isLatin1_aae02_18 : decode cJ0_isLatin1_aae02 18 = .ok (.ireturn, 1) := by decide +kernel
theorem dJ0_checkIndex_df160_0 : decode cJ0_checkIndex_df160 0 = .ok (.iload_n 0, 1) := by decide +kernel
theorem dJ0_checkIndex_df160_1 : decode cJ0_checkIndex_df160 1 = .ok (.iload_n 1, 1) := by decide +kernel
theorem dJ0_checkIndex_df160_2 : decode cJ0_checkIndex_df160 2 = .ok (.getstatic 1053, 3) := by decide +kernel
theorem dJ0_checkIndex_df160_5 : decode cJ0_checkIndex_df160 5 = .ok (.invokestatic 1059, 3) := by decide +kernel
theorem dJ0_checkIndex_df160_8 : decode cJ0_checkIndex_df160 8 = .ok (.pop, 1) := by decide +kernel
theorem dJ0_checkIndex_df160_9 : decode cJ0_checkIndex_df160 9 = .ok (.return_, 1) := by decide +kernel
theorem dJ1_charAt_3b067_0 : decode cJ1_charAt_3b067 0 = .ok (.iload_n 1, 1) := by decide +kernel
theorem dJ1_charAt_3b067_1 : decode cJ1_charAt_3b067 1 = .ok (.aload_n 0, 1) := by decide +kernel
theorem dJ1_charAt_3b067_2 : decode cJ1_charAt_3b067 2 = .ok (.arraylength, 1) := by decide +kernel
theorem dJ1_charAt_3b067_3 : decode cJ1_charAt_3b067 3 = .ok (.invokestatic 9, 3) := by decide +kernel
theorem dJ1_charAt_3b067_6 : decode cJ1_charAt_3b067 6 = .ok (.aload_n 0, 1) := by decide +kernel
theorem dJ1_charAt_3b067_7 : decode cJ1_charAt_3b067 7 = .ok (.iload_n 1, 1) := by decide +kernel
theorem dJ1_charAt_3b067_8 : decode cJ1_charAt_3b067 8 = .ok (.baload, 1) := by decide +kernel
theorem dJ1_charAt_3b067_9 : decode cJ1_charAt_3b067 9 = .ok (.sipush 255, 3) := by decide +kernel
theorem dJ1_charAt_3b067_12 : decode cJ1_charAt_3b067 12 = .ok (.iand, 1) := by decide +kernel
theorem dJ1_charAt_3b067_13 : decode cJ1_charAt_3b067 13 = .ok (.i2c, 1) := by decide +kernel
theorem dJ1_charAt_3b067_14 : decode cJ1_charAt_3b067 14 = .ok (.ireturn, 1) := by decide +kernel
theorem dJ2_getChar_3b067_0 : decode cJ2_getChar_3b067 0 = .ok (.getstatic 44, 3) := by decide +kernel
theorem dJ2_getChar_3b067_3 : decode cJ2_getChar_3b067 3 = .ok (.ifCond .ne 25, 3) := by decide +kernel
theorem dJ2_getChar_3b067_6 : decode cJ2_getChar_3b067 6 = .ok (.iload_n 1, 1) := by decide +kernel
theorem dJ2_getChar_3b067_7 : decode cJ2_getChar_3b067 7 = .ok (.ifCond .lt 11, 3) := by decide +kernel
theorem dJ2_getChar_3b067_10 : decode cJ2_getChar_3b067 10 = .ok (.iload_n 1, 1) := by decide +kernel
theorem dJ2_getChar_3b067_11 : decode cJ2_getChar_3b067 11 = .ok (.aload_n 0, 1) := by decide +kernel
theorem dJ2_getChar_3b067_12 : decode cJ2_getChar_3b067 12 = .ok (.invokestatic 48, 3) := by decide +kernel
theorem dJ2_getChar_3b067_15 : decode cJ2_getChar_3b067 15 = .ok (.if_icmp .lt 13, 3) := by decide +kernel
theorem dJ2_getChar_3b067_18 : decode cJ2_getChar_3b067 18 = .ok (.new 52, 3) := by decide +kernel
theorem dJ2_getChar_3b067_21 : decode cJ2_getChar_3b067 21 = .ok (.dup, 1) := by decide +kernel
theorem dJ2_getChar_3b067_22 : decode cJ2_getChar_3b067 22 = .ok (.ldc 54, 2) := by decide +kernel
theorem dJ2_getChar_3b067_24 : decode cJ2_getChar_3b067 24 = .ok (.invokespecial 56, 3) := by decide +kernel
theorem dJ2_getChar_3b067_27 : decode cJ2_getChar_3b067 27 = .ok (.athrow, 1) := by decide +kernel
theorem dJ2_getChar_3b067_28 : decode cJ2_getChar_3b067 28 = .ok (.iload_n 1, 1) := by decide +kernel
theorem dJ2_getChar_3b067_29 : decode cJ2_getChar_3b067 29 = .ok (.iconst 1, 1) := by decide +kernel
theorem dJ2_getChar_3b067_30 : decode cJ2_getChar_3b067 30 = .ok (.ishl, 1) := by decide +kernel
theorem dJ2_getChar_3b067_31 : decode cJ2_getChar_3b067 31 = .ok (.istore_n 1, 1) := by decide +kernel
theorem dJ2_getChar_3b067_32 : decode cJ2_getChar_3b067 32 = .ok (.aload_n 0, 1) := by decide +kernel
theorem dJ2_getChar_3b067_33 : decode cJ2_getChar_3b067 33 = .ok (.iload_n 1, 1) := by decide +kernel
theorem dJ2_getChar_3b067_34 : decode cJ2_getChar_3b067 34 = .ok (.iinc 1 1, 3) := by decide +kernel
theorem dJ2_getChar_3b067_37 : decode cJ2_getChar_3b067 37 = .ok (.baload, 1) := by decide +kernel
theorem dJ2_getChar_3b067_38 : decode cJ2_getChar_3b067 38 = .ok (.sipush 255, 3) := by decide +kernel
theorem dJ2_getChar_3b067_41 : decode cJ2_getChar_3b067 41 = .ok (.iand, 1) := by decide +kernel
theorem dJ2_getChar_3b067_42 : decode cJ2_getChar_3b067 42 = .ok (.getstatic 59, 3) := by decide +kernel
theorem dJ2_getChar_3b067_45 : decode cJ2_getChar_3b067 45 = .ok (.ishl, 1) := by decide +kernel
theorem dJ2_getChar_3b067_46 : decode cJ2_getChar_3b067 46 = .ok (.aload_n 0, 1) := by decide +kernel
theorem dJ2_getChar_3b067_47 : decode cJ2_getChar_3b067 47 = .ok (.iload_n 1, 1) := by decide +kernel
theorem dJ2_getChar_3b067_48 : decode cJ2_getChar_3b067 48 = .ok (.baload, 1) := by decide +kernel
theorem dJ2_getChar_3b067_49 : decode cJ2_getChar_3b067 49 = .ok (.sipush 255, 3) := by decide +kernel
theorem dJ2_getChar_3b067_52 : decode cJ2_getChar_3b067 52 = .ok (.iand, 1) := by decide +kernel
theorem dJ2_getChar_3b067_53 : decode cJ2_getChar_3b067 53 = .ok (.getstatic 63, 3) := by decide +kernel
theorem dJ2_getChar_3b067_56 : decode cJ2_getChar_3b067 56 = .ok (.ishl, 1) := by decide +kernel
theorem dJ2_getChar_3b067_57 : decode cJ2_getChar_3b067 57 = .ok (.ior, 1) := by decide +kernel
theorem dJ2_getChar_3b067_58 : decode cJ2_getChar_3b067 58 = .ok (.i2c, 1) := by decide +kernel
theorem dJ2_getChar_3b067_59 : decode cJ2_getChar_3b067 59 = .ok (.ireturn, 1) := by decide +kernel
theorem dJ2_length_9d52b_0 : decode cJ2_length_9d52b 0 = .ok (.aload_n 0, 1) := by decide +kernel
theorem dJ2_length_9d52b_1 : decode cJ2_length_9d52b 1 = .ok (.arraylength, 1) := by decide +kernel
theorem dJ2_length_9d52b_2 : decode cJ2_length_9d52b 2 = .ok (.iconst 1, 1) := by decide +kernel
theorem dJ2_length_9d52b_3 : decode cJ2_length_9d52b 3 = .ok (.ishr, 1) := by decide +kernel
theorem dJ2_length_9d52b_4 : decode cJ2_length_9d52b 4 = .ok (.ireturn, 1) := by decide +kernel
theorem dJ2_charAt_3b067_0 : decode cJ2_charAt_3b067 0 = .ok (.iload_n 1, 1) := by decide +kernel
theorem dJ2_charAt_3b067_1 : decode cJ2_charAt_3b067 1 = .ok (.aload_n 0, 1) := by decide +kernel
theorem dJ2_charAt_3b067_2 : decode cJ2_charAt_3b067 2 = .ok (.invokestatic 67, 3) := by decide +kernel
theorem dJ2_charAt_3b067_5 : decode cJ2_charAt_3b067 5 = .ok (.aload_n 0, 1) := by decide +kernel
theorem dJ2_charAt_3b067_6 : decode cJ2_charAt_3b067 6 = .ok (.iload_n 1, 1) := by decide +kernel
theorem dJ2_charAt_3b067_7 : decode cJ2_charAt_3b067 7 = .ok (.invokestatic 71, 3) := by decide +kernel
theorem dJ2_charAt_3b067_10 : decode cJ2_charAt_3b067 10 = .ok (.ireturn, 1) := by decide +kernel
theorem dJ2_checkIndex_2214a_0 : decode cJ2_checkIndex_2214a 0 = .ok (.iload_n 0, 1) := by decide +kernel
theorem dJ2_checkIndex_2214a_1 : decode cJ2_checkIndex_2214a 1 = .ok (.aload_n 1, 1) := by decide +kernel
theorem dJ2_checkIndex_2214a_2 : decode cJ2_checkIndex_2214a 2 = .ok (.invokestatic 48, 3) := by decide +kernel
theorem dJ2_checkIndex_2214a_5 : decode cJ2_checkIndex_2214a 5 = .ok (.invokestatic 414, 3) := by decide +kernel
theorem dJ2_checkIndex_2214a_8 : decode cJ2_checkIndex_2214a 8 = .ok (.return_, 1) := by decide +kernel
theorem dJ7_fill_53178_0 : decode cJ7_fill_53178 0 = .ok (.iconst 0, 1) := by decide +kernel
theorem dJ7_fill_53178_1 : decode cJ7_fill_53178 1 = .ok (.istore_n 2, 1) := by decide +kernel
theorem dJ7_fill_53178_2 : decode cJ7_fill_53178 2 = .ok (.aload_n 0, 1) := by decide +kernel
theorem dJ7_fill_53178_3 : decode cJ7_fill_53178 3 = .ok (.arraylength, 1) := by decide +kernel
theorem dJ7_fill_53178_4 : decode cJ7_fill_53178 4 = .ok (.istore_n 3, 1) := by decide +kernel
theorem dJ7_fill_53178_5 : decode cJ7_fill_53178 5 = .ok (.iload_n 2, 1) := by decide +kernel
theorem dJ7_fill_53178_6 : decode cJ7_fill_53178 6 = .ok (.iload_n 3, 1) := by decide +kernel
theorem dJ7_fill_53178_7 : decode cJ7_fill_53178 7 = .ok (.if_icmp .ge 13, 3) := by decide +kernel
theorem dJ7_fill_53178_10 : decode cJ7_fill_53178 10 = .ok (.aload_n 0, 1) := by decide +kernel
theorem dJ7_fill_53178_11 : decode cJ7_fill_53178 11 = .ok (.iload_n 2, 1) := by decide +kernel
theorem dJ7_fill_53178_12 : decode cJ7_fill_53178 12 = .ok (.iload_n 1, 1) := by decide +kernel
theorem dJ7_fill_53178_13 : decode cJ7_fill_53178 13 = .ok (.iastore, 1) := by decide +kernel
theorem dJ7_fill_53178_14 : decode cJ7_fill_53178 14 = .ok (.iinc 2 1, 3) := by decide +kernel
theorem dJ7_fill_53178_17 : decode cJ7_fill_53178 17 = .ok (.goto (-12), 3) := by decide +kernel
theorem dJ7_fill_53178_20 : decode cJ7_fill_53178 20 = .ok (.return_, 1) := by decide +kernel
theorem dJ3_checkIndex_8e157_0 : decode cJ3_checkIndex_8e157 0 = .ok (.iload_n 0, 1) := by decide +kernel
theorem dJ3_checkIndex_8e157_1 : decode cJ3_checkIndex_8e157 1 = .ok (.ifCond .lt 8, 3) := by decide +kernel
theorem dJ3_checkIndex_8e157_4 : decode cJ3_checkIndex_8e157 4 = .ok (.iload_n 0, 1) := by decide +kernel
theorem dJ3_checkIndex_8e157_5 : decode cJ3_checkIndex_8e157 5 = .ok (.iload_n 1, 1) := by decide +kernel
theorem dJ3_checkIndex_8e157_6 : decode cJ3_checkIndex_8e157 6 = .ok (.if_icmp .lt 10, 3) := by decide +kernel
theorem dJ3_checkIndex_8e157_9 : decode cJ3_checkIndex_8e157 9 = .ok (.aload_n 2, 1) := by decide +kernel
theorem dJ3_checkIndex_8e157_10 : decode cJ3_checkIndex_8e157 10 = .ok (.iload_n 0, 1) := by decide +kernel
theorem dJ3_checkIndex_8e157_11 : decode cJ3_checkIndex_8e157 11 = .ok (.iload_n 1, 1) := by decide +kernel
theorem dJ3_checkIndex_8e157_12 : decode cJ3_checkIndex_8e157 12 = .ok (.invokestatic 95, 3) := by decide +kernel
theorem dJ3_checkIndex_8e157_15 : decode cJ3_checkIndex_8e157 15 = .ok (.athrow, 1) := by decide +kernel
theorem dJ3_checkIndex_8e157_16 : decode cJ3_checkIndex_8e157 16 = .ok (.iload_n 0, 1) := by decide +kernel
theorem dJ3_checkIndex_8e157_17 : decode cJ3_checkIndex_8e157 17 = .ok (.ireturn, 1) := by decide +kernel
end
section
theorem dX10_bad_0 : decode cX10_bad 0 = .ok (.aload_n 0, 1) := by decide +kernel
theorem dX10_bad_1 : decode cX10_bad 1 = .ok (.getfield 1, 3) := by decide +kernel
theorem dX10_bad_4 : decode cX10_bad 4 = .ok (.iconst 0, 1) := by decide +kernel
theorem dX10_bad_5 : decode cX10_bad 5 = .ok (.dup2, 1) := by decide +kernel
theorem dX10_bad_6 : decode cX10_bad 6 = .ok (.iaload, 1) := by decide +kernel
theorem dX10_bad_7 : decode cX10_bad 7 = .ok (.iconst 1, 1) := by decide +kernel
theorem dX10_bad_8 : decode cX10_bad 8 = .ok (.iadd, 1) := by decide +kernel
theorem dX10_bad_9 : decode cX10_bad 9 = .ok (.iastore, 1) := by decide +kernel
theorem dX10_bad_10 : decode cX10_bad 10 = .ok (.bipush (-2), 2) := by decide +kernel
theorem dX10_bad_12 : decode cX10_bad 12 = .ok (.ireturn, 1) := by decide +kernel
theorem dX10_ten_0 : decode cX10_ten 0 = .ok (.aload_n 0, 1) := by decide +kernel
theorem dX10_ten_1 : decode cX10_ten 1 = .ok (.getfield 1, 3) := by decide +kernel
theorem dX10_ten_4 : decode cX10_ten 4 = .ok (.iconst 0, 1) := by decide +kernel
theorem dX10_ten_5 : decode cX10_ten 5 = .ok (.dup2, 1) := by decide +kernel
theorem dX10_ten_6 : decode cX10_ten 6 = .ok (.iaload, 1) := by decide +kernel
theorem dX10_ten_7 : decode cX10_ten 7 = .ok (.iconst 1, 1) := by decide +kernel
theorem dX10_ten_8 : decode cX10_ten 8 = .ok (.iadd, 1) := by decide +kernel
theorem dX10_ten_9 : decode cX10_ten 9 = .ok (.iastore, 1) := by decide +kernel
theorem dX10_ten_10 : decode cX10_ten 10 = .ok (.bipush (-10), 2) := by decide +kernel
theorem dX10_ten_12 : decode cX10_ten 12 = .ok (.ireturn, 1) := by decide +kernel
theorem dX10_no_0 : decode cX10_no 0 = .ok (.aload_n 0, 1) := by decide +kernel
theorem dX10_no_1 : decode cX10_no 1 = .ok (.getfield 1, 3) := by decide +kernel
theorem dX10_no_4 : decode cX10_no 4 = .ok (.iconst 1, 1) := by decide +kernel
theorem dX10_no_5 : decode cX10_no 5 = .ok (.dup2, 1) := by decide +kernel
theorem dX10_no_6 : decode cX10_no 6 = .ok (.iaload, 1) := by decide +kernel
theorem dX10_no_7 : decode cX10_no 7 = .ok (.iconst 1, 1) := by decide +kernel
theorem dX10_no_8 : decode cX10_no 8 = .ok (.iadd, 1) := by decide +kernel
theorem dX10_no_9 : decode cX10_no 9 = .ok (.iastore, 1) := by decide +kernel
theorem dX10_no_10 : decode cX10_no 10 = .ok (.bipush (-3), 2) := by decide +kernel
theorem dX10_no_12 : decode cX10_no 12 = .ok (.ireturn, 1) := by decide +kernel
theorem dX10_full_0 : decode cX10_full 0 = .ok (.aload_n 0, 1) := by decide +kernel
theorem dX10_full_1 : decode cX10_full 1 = .ok (.getfield 1, 3) := by decide +kernel
theorem dX10_full_4 : decode cX10_full 4 = .ok (.iconst 2, 1) := by decide +kernel
theorem dX10_full_5 : decode cX10_full 5 = .ok (.dup2, 1) := by decide +kernel
theorem dX10_full_6 : decode cX10_full 6 = .ok (.iaload, 1) := by decide +kernel
theorem dX10_full_7 : decode cX10_full 7 = .ok (.iconst 1, 1) := by decide +kernel
theorem dX10_full_8 : decode cX10_full 8 = .ok (.iadd, 1) := by decide +kernel
theorem dX10_full_9 : decode cX10_full 9 = .ok (.iastore, 1) := by decide +kernel
theorem dX10_full_10 : decode cX10_full 10 = .ok (.bipush (-4), 2) := by decide +kernel
theorem dX10_full_12 : decode cX10_full 12 = .ok (.ireturn, 1) := by decide +kernel
theorem dX10_in_0 : decode cX10_in 0 = .ok (.iload_n 0, 1) := by decide +kernel
theorem dX10_in_1 : decode cX10_in 1 = .ok (.iload_n 1, 1) := by decide +kernel
theorem dX10_in_2 : decode cX10_in 2 = .ok (.if_icmp .lt 12, 3) := by decide +kernel
theorem dX10_in_5 : decode cX10_in 5 = .ok (.iload_n 0, 1) := by decide +kernel
theorem dX10_in_6 : decode cX10_in 6 = .ok (.iload_n 2, 1) := by decide +kernel
theorem dX10_in_7 : decode cX10_in 7 = .ok (.if_icmp .gt 7, 3) := by decide +kernel
theorem dX10_in_10 : decode cX10_in 10 = .ok (.iconst 1, 1) := by decide +kernel
theorem dX10_in_11 : decode cX10_in 11 = .ok (.goto 4, 3) := by decide +kernel
theorem dX10_in_14 : decode cX10_in 14 = .ok (.iconst 0, 1) := by decide +kernel
theorem dX10_in_15 : decode cX10_in 15 = .ok (.ireturn, 1) := by decide +kernel
theorem dX10_has_0 : decode cX10_has 0 = .ok (.iload_n 0, 1) := by decide +kernel
theorem dX10_has_1 : decode cX10_has 1 = .ok (.iload_n 1, 1) := by decide +kernel
theorem dX10_has_2 : decode cX10_has 2 = .ok (.ishr, 1) := by decide +kernel
theorem dX10_has_3 : decode cX10_has 3 = .ok (.iconst 1, 1) := by decide +kernel
theorem dX10_has_4 : decode cX10_has 4 = .ok (.iand, 1) := by decide +kernel
theorem dX10_has_5 : decode cX10_has 5 = .ok (.iconst 1, 1) := by decide +kernel
theorem dX10_has_6 : decode cX10_has 6 = .ok (.if_icmp .ne 7, 3) := by decide +kernel
theorem dX10_has_9 : decode cX10_has 9 = .ok (.iconst 1, 1) := by decide +kernel
theorem dX10_has_10 : decode cX10_has 10 = .ok (.goto 4, 3) := by decide +kernel
theorem dX10_has_13 : decode cX10_has 13 = .ok (.iconst 0, 1) := by decide +kernel
theorem dX10_has_14 : decode cX10_has 14 = .ok (.ireturn, 1) := by decide +kernel
theorem dX10_bits_0 : decode cX10_bits 0 = .ok (.iconst 0, 1) := by decide +kernel
theorem dX10_bits_1 : decode cX10_bits 1 = .ok (.istore_n 1, 1) := by decide +kernel
theorem dX10_bits_2 : decode cX10_bits 2 = .ok (.iconst 0, 1) := by decide +kernel
theorem dX10_bits_3 : decode cX10_bits 3 = .ok (.istore_n 2, 1) := by decide +kernel
theorem dX10_bits_4 : decode cX10_bits 4 = .ok (.iload_n 2, 1) := by decide +kernel
theorem dX10_bits_5 : decode cX10_bits 5 = .ok (.bipush 12, 2) := by decide +kernel
theorem dX10_bits_7 : decode cX10_bits 7 = .ok (.if_icmp .ge 17, 3) := by decide +kernel
theorem dX10_bits_10 : decode cX10_bits 10 = .ok (.iload_n 1, 1) := by decide +kernel
theorem dX10_bits_11 : decode cX10_bits 11 = .ok (.iload_n 0, 1) := by decide +kernel
theorem dX10_bits_12 : decode cX10_bits 12 = .ok (.iload_n 2, 1) := by decide +kernel
theorem dX10_bits_13 : decode cX10_bits 13 = .ok (.ishr, 1) := by decide +kernel
theorem dX10_bits_14 : decode cX10_bits 14 = .ok (.iconst 1, 1) := by decide +kernel
theorem dX10_bits_15 : decode cX10_bits 15 = .ok (.iand, 1) := by decide +kernel
theorem dX10_bits_16 : decode cX10_bits 16 = .ok (.iadd, 1) := by decide +kernel
theorem dX10_bits_17 : decode cX10_bits 17 = .ok (.istore_n 1, 1) := by decide +kernel
theorem dX10_bits_18 : decode cX10_bits 18 = .ok (.iinc 2 1, 3) := by decide +kernel
theorem dX10_bits_21 : decode cX10_bits 21 = .ok (.goto (-17), 3) := by decide +kernel
theorem dX10_bits_24 : decode cX10_bits 24 = .ok (.iload_n 1, 1) := by decide +kernel
theorem dX10_bits_25 : decode cX10_bits 25 = .ok (.ireturn, 1) := by decide +kernel
theorem dX10_init_0 : decode cX10_init 0 = .ok (.aload_n 0, 1) := by decide +kernel
theorem dX10_init_1 : decode cX10_init 1 = .ok (.invokespecial 7, 3) := by decide +kernel
theorem dX10_init_4 : decode cX10_init 4 = .ok (.aload_n 0, 1) := by decide +kernel
theorem dX10_init_5 : decode cX10_init 5 = .ok (.iconst 3, 1) := by decide +kernel
theorem dX10_init_6 : decode cX10_init 6 = .ok (.newarray .int, 2) := by decide +kernel
theorem dX10_init_8 : decode cX10_init 8 = .ok (.putfield 1, 3) := by decide +kernel
theorem dX10_init_11 : decode cX10_init 11 = .ok (.aload_n 0, 1) := by decide +kernel
theorem dX10_init_12 : decode cX10_init 12 = .ok (.iconst 5, 1) := by decide +kernel
theorem dX10_init_13 : decode cX10_init 13 = .ok (.newarray .int, 2) := by decide +kernel
theorem dX10_init_15 : decode cX10_init 15 = .ok (.putfield 13, 3) := by decide +kernel
theorem dX10_init_18 : decode cX10_init 18 = .ok (.aload_n 0, 1) := by decide +kernel
theorem dX10_init_19 : decode cX10_init 19 = .ok (.iconst 5, 1) := by decide +kernel
theorem dX10_init_20 : decode cX10_init 20 = .ok (.newarray .int, 2) := by decide +kernel
theorem dX10_init_22 : decode cX10_init 22 = .ok (.putfield 16, 3) := by decide +kernel
theorem dX10_init_25 : decode cX10_init 25 = .ok (.aload_n 0, 1) := by decide +kernel
theorem dX10_init_26 : decode cX10_init 26 = .ok (.iconst 5, 1) := by decide +kernel
theorem dX10_init_27 : decode cX10_init 27 = .ok (.newarray .int, 2) := by decide +kernel
theorem dX10_init_29 : decode cX10_init 29 = .ok (.putfield 19, 3) := by decide +kernel
theorem dX10_init_32 : decode cX10_init 32 = .ok (.aload_n 0, 1) := by decide +kernel
theorem dX10_init_33 : decode cX10_init 33 = .ok (.bipush 12, 2) := by decide +kernel
theorem dX10_init_35 : decode cX10_init 35 = .ok (.newarray .int, 2) := by decide +kernel
theorem dX10_init_37 : decode cX10_init 37 = .ok (.putfield 22, 3) := by decide +kernel
theorem dX10_init_40 : decode cX10_init 40 = .ok (.aload_n 0, 1) := by decide +kernel
theorem dX10_init_41 : decode cX10_init 41 = .ok (.bipush 6, 2) := by decide +kernel
theorem dX10_init_43 : decode cX10_init 43 = .ok (.newarray .int, 2) := by decide +kernel
theorem dX10_init_45 : decode cX10_init 45 = .ok (.putfield 25, 3) := by decide +kernel
theorem dX10_init_48 : decode cX10_init 48 = .ok (.aload_n 0, 1) := by decide +kernel
theorem dX10_init_49 : decode cX10_init 49 = .ok (.bipush 6, 2) := by decide +kernel
theorem dX10_init_51 : decode cX10_init 51 = .ok (.newarray .int, 2) := by decide +kernel
theorem dX10_init_53 : decode cX10_init 53 = .ok (.putfield 28, 3) := by decide +kernel
theorem dX10_init_56 : decode cX10_init 56 = .ok (.aload_n 0, 1) := by decide +kernel
theorem dX10_init_57 : decode cX10_init 57 = .ok (.bipush 6, 2) := by decide +kernel
theorem dX10_init_59 : decode cX10_init 59 = .ok (.newarray .int, 2) := by decide +kernel
theorem dX10_init_61 : decode cX10_init 61 = .ok (.putfield 31, 3) := by decide +kernel
theorem dX10_init_64 : decode cX10_init 64 = .ok (.aload_n 0, 1) := by decide +kernel
theorem dX10_init_65 : decode cX10_init 65 = .ok (.bipush 6, 2) := by decide +kernel
theorem dX10_init_67 : decode cX10_init 67 = .ok (.newarray .int, 2) := by decide +kernel
theorem dX10_init_69 : decode cX10_init 69 = .ok (.putfield 34, 3) := by decide +kernel
theorem dX10_init_72 : decode cX10_init 72 = .ok (.aload_n 0, 1) := by decide +kernel
theorem dX10_init_73 : decode cX10_init 73 = .ok (.sipush 150, 3) := by decide +kernel
theorem dX10_init_76 : decode cX10_init 76 = .ok (.newarray .int, 2) := by decide +kernel
theorem dX10_init_78 : decode cX10_init 78 = .ok (.putfield 37, 3) := by decide +kernel
theorem dX10_init_81 : decode cX10_init 81 = .ok (.aload_n 0, 1) := by decide +kernel
theorem dX10_init_82 : decode cX10_init 82 = .ok (.bipush 15, 2) := by decide +kernel
theorem dX10_init_84 : decode cX10_init 84 = .ok (.newarray .int, 2) := by decide +kernel
theorem dX10_init_86 : decode cX10_init 86 = .ok (.putfield 40, 3) := by decide +kernel
theorem dX10_init_89 : decode cX10_init 89 = .ok (.aload_n 0, 1) := by decide +kernel
theorem dX10_init_90 : decode cX10_init 90 = .ok (.bipush 12, 2) := by decide +kernel
theorem dX10_init_92 : decode cX10_init 92 = .ok (.newarray .int, 2) := by decide +kernel
theorem dX10_init_94 : decode cX10_init 94 = .ok (.putfield 43, 3) := by decide +kernel
theorem dX10_init_97 : decode cX10_init 97 = .ok (.aload_n 0, 1) := by decide +kernel
theorem dX10_init_98 : decode cX10_init 98 = .ok (.sipush 136, 3) := by decide +kernel
theorem dX10_init_101 : decode cX10_init 101 = .ok (.newarray .int, 2) := by decide +kernel
theorem dX10_init_103 : decode cX10_init 103 = .ok (.putfield 46, 3) := by decide +kernel
theorem dX10_init_106 : decode cX10_init 106 = .ok (.aload_n 0, 1) := by decide +kernel
theorem dX10_init_107 : decode cX10_init 107 = .ok (.iconst 5, 1) := by decide +kernel
theorem dX10_init_108 : decode cX10_init 108 = .ok (.newarray .int, 2) := by decide +kernel
theorem dX10_init_110 : decode cX10_init 110 = .ok (.putfield 49, 3) := by decide +kernel
theorem dX10_init_113 : decode cX10_init 113 = .ok (.aload_n 0, 1) := by decide +kernel
theorem dX10_init_114 : decode cX10_init 114 = .ok (.iconst 5, 1) := by decide +kernel
theorem dX10_init_115 : decode cX10_init 115 = .ok (.newarray .int, 2) := by decide +kernel
theorem dX10_init_117 : decode cX10_init 117 = .ok (.putfield 52, 3) := by decide +kernel
theorem dX10_init_120 : decode cX10_init 120 = .ok (.aload_n 0, 1) := by decide +kernel
theorem dX10_init_121 : decode cX10_init 121 = .ok (.bipush 12, 2) := by decide +kernel
theorem dX10_init_123 : decode cX10_init 123 = .ok (.newarray .int, 2) := by decide +kernel
theorem dX10_init_125 : decode cX10_init 125 = .ok (.putfield 55, 3) := by decide +kernel
theorem dX10_init_128 : decode cX10_init 128 = .ok (.aload_n 0, 1) := by decide +kernel
theorem dX10_init_129 : decode cX10_init 129 = .ok (.lconst 1, 1) := by decide +kernel
theorem dX10_init_130 : decode cX10_init 130 = .ok (.putfield 58, 3) := by decide +kernel
theorem dX10_init_133 : decode cX10_init 133 = .ok (.aload_n 0, 1) := by decide +kernel
theorem dX10_init_134 : decode cX10_init 134 = .ok (.sipush 384, 3) := by decide +kernel
theorem dX10_init_137 : decode cX10_init 137 = .ok (.newarray .int, 2) := by decide +kernel
theorem dX10_init_139 : decode cX10_init 139 = .ok (.putfield 62, 3) := by decide +kernel
theorem dX10_init_142 : decode cX10_init 142 = .ok (.aload_n 0, 1) := by decide +kernel
theorem dX10_init_143 : decode cX10_init 143 = .ok (.iconst 2, 1) := by decide +kernel
theorem dX10_init_144 : decode cX10_init 144 = .ok (.newarray .int, 2) := by decide +kernel
theorem dX10_init_146 : decode cX10_init 146 = .ok (.putfield 65, 3) := by decide +kernel
theorem dX10_init_149 : decode cX10_init 149 = .ok (.aload_n 0, 1) := by decide +kernel
theorem dX10_init_150 : decode cX10_init 150 = .ok (.invokevirtual 68, 3) := by decide +kernel
theorem dX10_init_153 : decode cX10_init 153 = .ok (.return_, 1) := by decide +kernel
theorem dX10_begin_0 : decode cX10_begin 0 = .ok (.aload_n 0, 1) := by decide +kernel
theorem dX10_begin_1 : decode cX10_begin 1 = .ok (.iconst 0, 1) := by decide +kernel
theorem dX10_begin_2 : decode cX10_begin 2 = .ok (.putfield 71, 3) := by decide +kernel
theorem dX10_begin_5 : decode cX10_begin 5 = .ok (.aload_n 0, 1) := by decide +kernel
theorem dX10_begin_6 : decode cX10_begin 6 = .ok (.iconst 0, 1) := by decide +kernel
theorem dX10_begin_7 : decode cX10_begin 7 = .ok (.putfield 75, 3) := by decide +kernel
theorem dX10_begin_10 : decode cX10_begin 10 = .ok (.aload_n 0, 1) := by decide +kernel
theorem dX10_begin_11 : decode cX10_begin 11 = .ok (.iconst 0, 1) := by decide +kernel
theorem dX10_begin_12 : decode cX10_begin 12 = .ok (.putfield 78, 3) := by decide +kernel
theorem dX10_begin_15 : decode cX10_begin 15 = .ok (.iconst 0, 1) := by decide +kernel
theorem dX10_begin_16 : decode cX10_begin 16 = .ok (.istore_n 1, 1) := by decide +kernel
theorem dX10_begin_17 : decode cX10_begin 17 = .ok (.iload_n 1, 1) := by decide +kernel
theorem dX10_begin_18 : decode cX10_begin 18 = .ok (.bipush 12, 2) := by decide +kernel
theorem dX10_begin_20 : decode cX10_begin 20 = .ok (.if_icmp .ge 16, 3) := by decide +kernel
theorem dX10_begin_23 : decode cX10_begin 23 = .ok (.aload_n 0, 1) := by decide +kernel
theorem dX10_begin_24 : decode cX10_begin 24 = .ok (.getfield 22, 3) := by decide +kernel
theorem dX10_begin_27 : decode cX10_begin 27 = .ok (.iload_n 1, 1) := by decide +kernel
theorem dX10_begin_28 : decode cX10_begin 28 = .ok (.iconst (-1), 1) := by decide +kernel
theorem dX10_begin_29 : decode cX10_begin 29 = .ok (.iastore, 1) := by decide +kernel
theorem dX10_begin_30 : decode cX10_begin 30 = .ok (.iinc 1 1, 3) := by decide +kernel
theorem dX10_begin_33 : decode cX10_begin 33 = .ok (.goto (-16), 3) := by decide +kernel
theorem dX10_begin_36 : decode cX10_begin 36 = .ok (.return_, 1) := by decide +kernel
theorem dX10_isBoy_0 : decode cX10_isBoy 0 = .ok (.iload_n 1, 1) := by decide +kernel
theorem dX10_isBoy_1 : decode cX10_isBoy 1 = .ok (.iconst 0, 1) := by decide +kernel
theorem dX10_isBoy_2 : decode cX10_isBoy 2 = .ok (.aload_n 0, 1) := by decide +kernel
theorem dX10_isBoy_3 : decode cX10_isBoy 3 = .ok (.getfield 71, 3) := by decide +kernel
theorem dX10_isBoy_6 : decode cX10_isBoy 6 = .ok (.iconst 1, 1) := by decide +kernel
theorem dX10_isBoy_7 : decode cX10_isBoy 7 = .ok (.isub, 1) := by decide +kernel
theorem dX10_isBoy_8 : decode cX10_isBoy 8 = .ok (.invokestatic 81, 3) := by decide +kernel
theorem dX10_isBoy_11 : decode cX10_isBoy 11 = .ok (.ireturn, 1) := by decide +kernel
theorem dX10_isCell_0 : decode cX10_isCell 0 = .ok (.iload_n 0, 1) := by decide +kernel
theorem dX10_isCell_1 : decode cX10_isCell 1 = .ok (.iconst 0, 1) := by decide +kernel
theorem dX10_isCell_2 : decode cX10_isCell 2 = .ok (.bipush 11, 2) := by decide +kernel
theorem dX10_isCell_4 : decode cX10_isCell 4 = .ok (.invokestatic 81, 3) := by decide +kernel
theorem dX10_isCell_7 : decode cX10_isCell 7 = .ok (.ireturn, 1) := by decide +kernel
theorem dX10_night_0 : decode cX10_night 0 = .ok (.aload_n 0, 1) := by decide +kernel
theorem dX10_night_1 : decode cX10_night 1 = .ok (.getfield 71, 3) := by decide +kernel
theorem dX10_night_4 : decode cX10_night 4 = .ok (.istore_n 1, 1) := by decide +kernel
theorem dX10_night_5 : decode cX10_night 5 = .ok (.aload_n 0, 1) := by decide +kernel
theorem dX10_night_6 : decode cX10_night 6 = .ok (.invokevirtual 68, 3) := by decide +kernel
theorem dX10_night_9 : decode cX10_night 9 = .ok (.iload_n 1, 1) := by decide +kernel
theorem dX10_night_10 : decode cX10_night 10 = .ok (.ireturn, 1) := by decide +kernel
theorem dX10_addBoy_0 : decode cX10_addBoy 0 = .ok (.aload_n 0, 1) := by decide +kernel
theorem dX10_addBoy_1 : decode cX10_addBoy 1 = .ok (.getfield 13, 3) := by decide +kernel
theorem dX10_addBoy_4 : decode cX10_addBoy 4 = .ok (.aload_n 0, 1) := by decide +kernel
theorem dX10_addBoy_5 : decode cX10_addBoy 5 = .ok (.getfield 71, 3) := by decide +kernel
theorem dX10_addBoy_8 : decode cX10_addBoy 8 = .ok (.iload_n 1, 1) := by decide +kernel
theorem dX10_addBoy_9 : decode cX10_addBoy 9 = .ok (.iastore, 1) := by decide +kernel
theorem dX10_addBoy_10 : decode cX10_addBoy 10 = .ok (.aload_n 0, 1) := by decide +kernel
theorem dX10_addBoy_11 : decode cX10_addBoy 11 = .ok (.getfield 16, 3) := by decide +kernel
theorem dX10_addBoy_14 : decode cX10_addBoy 14 = .ok (.aload_n 0, 1) := by decide +kernel
theorem dX10_addBoy_15 : decode cX10_addBoy 15 = .ok (.getfield 71, 3) := by decide +kernel
theorem dX10_addBoy_18 : decode cX10_addBoy 18 = .ok (.iload_n 2, 1) := by decide +kernel
theorem dX10_addBoy_19 : decode cX10_addBoy 19 = .ok (.iastore, 1) := by decide +kernel
theorem dX10_addBoy_20 : decode cX10_addBoy 20 = .ok (.aload_n 0, 1) := by decide +kernel
theorem dX10_addBoy_21 : decode cX10_addBoy 21 = .ok (.getfield 19, 3) := by decide +kernel
theorem dX10_addBoy_24 : decode cX10_addBoy 24 = .ok (.aload_n 0, 1) := by decide +kernel
theorem dX10_addBoy_25 : decode cX10_addBoy 25 = .ok (.getfield 71, 3) := by decide +kernel
theorem dX10_addBoy_28 : decode cX10_addBoy 28 = .ok (.iload_n 3, 1) := by decide +kernel
theorem dX10_addBoy_29 : decode cX10_addBoy 29 = .ok (.iastore, 1) := by decide +kernel
theorem dX10_addBoy_30 : decode cX10_addBoy 30 = .ok (.aload_n 0, 1) := by decide +kernel
theorem dX10_addBoy_31 : decode cX10_addBoy 31 = .ok (.dup, 1) := by decide +kernel
theorem dX10_addBoy_32 : decode cX10_addBoy 32 = .ok (.getfield 71, 3) := by decide +kernel
theorem dX10_addBoy_35 : decode cX10_addBoy 35 = .ok (.iconst 1, 1) := by decide +kernel
theorem dX10_addBoy_36 : decode cX10_addBoy 36 = .ok (.iadd, 1) := by decide +kernel
theorem dX10_addBoy_37 : decode cX10_addBoy 37 = .ok (.putfield 71, 3) := by decide +kernel
theorem dX10_addBoy_40 : decode cX10_addBoy 40 = .ok (.aload_n 0, 1) := by decide +kernel
theorem dX10_addBoy_41 : decode cX10_addBoy 41 = .ok (.iconst 0, 1) := by decide +kernel
theorem dX10_addBoy_42 : decode cX10_addBoy 42 = .ok (.putfield 78, 3) := by decide +kernel
theorem dX10_addBoy_45 : decode cX10_addBoy 45 = .ok (.aload_n 0, 1) := by decide +kernel
theorem dX10_addBoy_46 : decode cX10_addBoy 46 = .ok (.getfield 71, 3) := by decide +kernel
theorem dX10_addBoy_49 : decode cX10_addBoy 49 = .ok (.iconst 1, 1) := by decide +kernel
theorem dX10_addBoy_50 : decode cX10_addBoy 50 = .ok (.isub, 1) := by decide +kernel
theorem dX10_addBoy_51 : decode cX10_addBoy 51 = .ok (.ireturn, 1) := by decide +kernel
theorem dX10_boy_0 : decode cX10_boy 0 = .ok (.iload_n 1, 1) := by decide +kernel
theorem dX10_boy_1 : decode cX10_boy 1 = .ok (.iconst 0, 1) := by decide +kernel
theorem dX10_boy_2 : decode cX10_boy 2 = .ok (.iconst 5, 1) := by decide +kernel
theorem dX10_boy_3 : decode cX10_boy 3 = .ok (.invokestatic 81, 3) := by decide +kernel
theorem dX10_boy_6 : decode cX10_boy 6 = .ok (.ifCond .eq 23, 3) := by decide +kernel
theorem dX10_boy_9 : decode cX10_boy 9 = .ok (.iload_n 2, 1) := by decide +kernel
theorem dX10_boy_10 : decode cX10_boy 10 = .ok (.iconst 0, 1) := by decide +kernel
theorem dX10_boy_11 : decode cX10_boy 11 = .ok (.bipush 12, 2) := by decide +kernel
theorem dX10_boy_13 : decode cX10_boy 13 = .ok (.invokestatic 81, 3) := by decide +kernel
theorem dX10_boy_16 : decode cX10_boy 16 = .ok (.ifCond .eq 13, 3) := by decide +kernel
theorem dX10_boy_19 : decode cX10_boy 19 = .ok (.iload_n 3, 1) := by decide +kernel
theorem dX10_boy_20 : decode cX10_boy 20 = .ok (.iconst 0, 1) := by decide +kernel
theorem dX10_boy_21 : decode cX10_boy 21 = .ok (.bipush 40, 2) := by decide +kernel
theorem dX10_boy_23 : decode cX10_boy 23 = .ok (.invokestatic 81, 3) := by decide +kernel
theorem dX10_boy_26 : decode cX10_boy 26 = .ok (.ifCond .ne 8, 3) := by decide +kernel
theorem dX10_boy_29 : decode cX10_boy 29 = .ok (.aload_n 0, 1) := by decide +kernel
theorem dX10_boy_30 : decode cX10_boy 30 = .ok (.invokevirtual 85, 3) := by decide +kernel
theorem dX10_boy_33 : decode cX10_boy 33 = .ok (.ireturn, 1) := by decide +kernel
theorem dX10_boy_34 : decode cX10_boy 34 = .ok (.aload_n 0, 1) := by decide +kernel
theorem dX10_boy_35 : decode cX10_boy 35 = .ok (.getfield 71, 3) := by decide +kernel
theorem dX10_boy_38 : decode cX10_boy 38 = .ok (.iconst 5, 1) := by decide +kernel
theorem dX10_boy_39 : decode cX10_boy 39 = .ok (.if_icmp .ne 10, 3) := by decide +kernel
theorem dX10_boy_42 : decode cX10_boy 42 = .ok (.aload_n 0, 1) := by decide +kernel
theorem dX10_boy_43 : decode cX10_boy 43 = .ok (.invokevirtual 89, 3) := by decide +kernel
theorem dX10_boy_46 : decode cX10_boy 46 = .ok (.goto 10, 3) := by decide +kernel
theorem dX10_boy_49 : decode cX10_boy 49 = .ok (.aload_n 0, 1) := by decide +kernel
theorem dX10_boy_50 : decode cX10_boy 50 = .ok (.iload_n 1, 1) := by decide +kernel
theorem dX10_boy_51 : decode cX10_boy 51 = .ok (.iload_n 2, 1) := by decide +kernel
theorem dX10_boy_52 : decode cX10_boy 52 = .ok (.iload_n 3, 1) := by decide +kernel
theorem dX10_boy_53 : decode cX10_boy 53 = .ok (.invokevirtual 92, 3) := by decide +kernel
theorem dX10_boy_56 : decode cX10_boy 56 = .ok (.ireturn, 1) := by decide +kernel
theorem dX10_type_0 : decode cX10_type 0 = .ok (.iload_n 1, 1) := by decide +kernel
theorem dX10_type_1 : decode cX10_type 1 = .ok (.iconst 0, 1) := by decide +kernel
theorem dX10_type_2 : decode cX10_type 2 = .ok (.bipush 127, 2) := by decide +kernel
theorem dX10_type_4 : decode cX10_type 4 = .ok (.invokestatic 81, 3) := by decide +kernel
theorem dX10_type_7 : decode cX10_type 7 = .ok (.ifCond .ne 8, 3) := by decide +kernel
theorem dX10_type_10 : decode cX10_type 10 = .ok (.aload_n 0, 1) := by decide +kernel
theorem dX10_type_11 : decode cX10_type 11 = .ok (.invokevirtual 85, 3) := by decide +kernel
theorem dX10_type_14 : decode cX10_type 14 = .ok (.ireturn, 1) := by decide +kernel
theorem dX10_type_15 : decode cX10_type 15 = .ok (.aload_n 0, 1) := by decide +kernel
theorem dX10_type_16 : decode cX10_type 16 = .ok (.getfield 96, 3) := by decide +kernel
theorem dX10_type_19 : decode cX10_type 19 = .ok (.sipush 150, 3) := by decide +kernel
theorem dX10_type_22 : decode cX10_type 22 = .ok (.if_icmp .ne 8, 3) := by decide +kernel
theorem dX10_type_25 : decode cX10_type 25 = .ok (.aload_n 0, 1) := by decide +kernel
theorem dX10_type_26 : decode cX10_type 26 = .ok (.invokevirtual 89, 3) := by decide +kernel
theorem dX10_type_29 : decode cX10_type 29 = .ok (.ireturn, 1) := by decide +kernel
theorem dX10_type_30 : decode cX10_type 30 = .ok (.aload_n 0, 1) := by decide +kernel
theorem dX10_type_31 : decode cX10_type 31 = .ok (.getfield 37, 3) := by decide +kernel
theorem dX10_type_34 : decode cX10_type 34 = .ok (.aload_n 0, 1) := by decide +kernel
theorem dX10_type_35 : decode cX10_type 35 = .ok (.getfield 96, 3) := by decide +kernel
theorem dX10_type_38 : decode cX10_type 38 = .ok (.iload_n 1, 1) := by decide +kernel
theorem dX10_type_39 : decode cX10_type 39 = .ok (.iastore, 1) := by decide +kernel
theorem dX10_type_40 : decode cX10_type 40 = .ok (.aload_n 0, 1) := by decide +kernel
theorem dX10_type_41 : decode cX10_type 41 = .ok (.dup, 1) := by decide +kernel
theorem dX10_type_42 : decode cX10_type 42 = .ok (.getfield 96, 3) := by decide +kernel
theorem dX10_type_45 : decode cX10_type 45 = .ok (.iconst 1, 1) := by decide +kernel
theorem dX10_type_46 : decode cX10_type 46 = .ok (.iadd, 1) := by decide +kernel
theorem dX10_type_47 : decode cX10_type 47 = .ok (.putfield 96, 3) := by decide +kernel
theorem dX10_type_50 : decode cX10_type 50 = .ok (.aload_n 0, 1) := by decide +kernel
theorem dX10_type_51 : decode cX10_type 51 = .ok (.getfield 96, 3) := by decide +kernel
theorem dX10_type_54 : decode cX10_type 54 = .ok (.ireturn, 1) := by decide +kernel
theorem dX10_clear_0 : decode cX10_clear 0 = .ok (.aload_n 0, 1) := by decide +kernel
theorem dX10_clear_1 : decode cX10_clear 1 = .ok (.getfield 96, 3) := by decide +kernel
theorem dX10_clear_4 : decode cX10_clear 4 = .ok (.istore_n 1, 1) := by decide +kernel
theorem dX10_clear_5 : decode cX10_clear 5 = .ok (.aload_n 0, 1) := by decide +kernel
theorem dX10_clear_6 : decode cX10_clear 6 = .ok (.iconst 0, 1) := by decide +kernel
theorem dX10_clear_7 : decode cX10_clear 7 = .ok (.putfield 96, 3) := by decide +kernel
theorem dX10_clear_10 : decode cX10_clear 10 = .ok (.iload_n 1, 1) := by decide +kernel
theorem dX10_clear_11 : decode cX10_clear 11 = .ok (.ireturn, 1) := by decide +kernel
theorem dX10_here_0 : decode cX10_here 0 = .ok (.aload_n 0, 1) := by decide +kernel
theorem dX10_here_1 : decode cX10_here 1 = .ok (.getfield 99, 3) := by decide +kernel
theorem dX10_here_4 : decode cX10_here 4 = .ok (.aload_n 0, 1) := by decide +kernel
theorem dX10_here_5 : decode cX10_here 5 = .ok (.getfield 96, 3) := by decide +kernel
theorem dX10_here_8 : decode cX10_here 8 = .ok (.if_icmp .ge 15, 3) := by decide +kernel
theorem dX10_here_11 : decode cX10_here 11 = .ok (.aload_n 0, 1) := by decide +kernel
theorem dX10_here_12 : decode cX10_here 12 = .ok (.getfield 37, 3) := by decide +kernel
theorem dX10_here_15 : decode cX10_here 15 = .ok (.aload_n 0, 1) := by decide +kernel
theorem dX10_here_16 : decode cX10_here 16 = .ok (.getfield 99, 3) := by decide +kernel
theorem dX10_here_19 : decode cX10_here 19 = .ok (.iaload, 1) := by decide +kernel
theorem dX10_here_20 : decode cX10_here 20 = .ok (.goto 4, 3) := by decide +kernel
theorem dX10_here_23 : decode cX10_here 23 = .ok (.iconst (-1), 1) := by decide +kernel
theorem dX10_here_24 : decode cX10_here 24 = .ok (.ireturn, 1) := by decide +kernel
theorem dX10_skip_0 : decode cX10_skip 0 = .ok (.aload_n 0, 1) := by decide +kernel
theorem dX10_skip_1 : decode cX10_skip 1 = .ok (.invokevirtual 102, 3) := by decide +kernel
theorem dX10_skip_4 : decode cX10_skip 4 = .ok (.bipush 32, 2) := by decide +kernel
theorem dX10_skip_6 : decode cX10_skip 6 = .ok (.if_icmp .ne 16, 3) := by decide +kernel
theorem dX10_skip_9 : decode cX10_skip 9 = .ok (.aload_n 0, 1) := by decide +kernel
theorem dX10_skip_10 : decode cX10_skip 10 = .ok (.dup, 1) := by decide +kernel
theorem dX10_skip_11 : decode cX10_skip 11 = .ok (.getfield 99, 3) := by decide +kernel
theorem dX10_skip_14 : decode cX10_skip 14 = .ok (.iconst 1, 1) := by decide +kernel
theorem dX10_skip_15 : decode cX10_skip 15 = .ok (.iadd, 1) := by decide +kernel
theorem dX10_skip_16 : decode cX10_skip 16 = .ok (.putfield 99, 3) := by decide +kernel
theorem dX10_skip_19 : decode cX10_skip 19 = .ok (.goto (-19), 3) := by decide +kernel
theorem dX10_skip_22 : decode cX10_skip 22 = .ok (.return_, 1) := by decide +kernel
theorem dX10_isLetter_0 : decode cX10_isLetter 0 = .ok (.iload_n 0, 1) := by decide +kernel
theorem dX10_isLetter_1 : decode cX10_isLetter 1 = .ok (.bipush 97, 2) := by decide +kernel
theorem dX10_isLetter_3 : decode cX10_isLetter 3 = .ok (.bipush 122, 2) := by decide +kernel
theorem dX10_isLetter_5 : decode cX10_isLetter 5 = .ok (.invokestatic 81, 3) := by decide +kernel
theorem dX10_isLetter_8 : decode cX10_isLetter 8 = .ok (.ireturn, 1) := by decide +kernel
theorem dX10_isFigure_0 : decode cX10_isFigure 0 = .ok (.iload_n 0, 1) := by decide +kernel
theorem dX10_isFigure_1 : decode cX10_isFigure 1 = .ok (.bipush 48, 2) := by decide +kernel
theorem dX10_isFigure_3 : decode cX10_isFigure 3 = .ok (.bipush 57, 2) := by decide +kernel
theorem dX10_isFigure_5 : decode cX10_isFigure 5 = .ok (.invokestatic 81, 3) := by decide +kernel
theorem dX10_isFigure_8 : decode cX10_isFigure 8 = .ok (.ireturn, 1) := by decide +kernel
theorem dX10_wordSize_0 : decode cX10_wordSize 0 = .ok (.iconst 0, 1) := by decide +kernel
theorem dX10_wordSize_1 : decode cX10_wordSize 1 = .ok (.istore_n 1, 1) := by decide +kernel
theorem dX10_wordSize_2 : decode cX10_wordSize 2 = .ok (.aload_n 0, 1) := by decide +kernel
theorem dX10_wordSize_3 : decode cX10_wordSize 3 = .ok (.getfield 99, 3) := by decide +kernel
theorem dX10_wordSize_6 : decode cX10_wordSize 6 = .ok (.iload_n 1, 1) := by decide +kernel
theorem dX10_wordSize_7 : decode cX10_wordSize 7 = .ok (.iadd, 1) := by decide +kernel
theorem dX10_wordSize_8 : decode cX10_wordSize 8 = .ok (.aload_n 0, 1) := by decide +kernel
theorem dX10_wordSize_9 : decode cX10_wordSize 9 = .ok (.getfield 96, 3) := by decide +kernel
theorem dX10_wordSize_12 : decode cX10_wordSize 12 = .ok (.if_icmp .ge 26, 3) := by decide +kernel
theorem dX10_wordSize_15 : decode cX10_wordSize 15 = .ok (.aload_n 0, 1) := by decide +kernel
theorem dX10_wordSize_16 : decode cX10_wordSize 16 = .ok (.getfield 37, 3) := by decide +kernel
theorem dX10_wordSize_19 : decode cX10_wordSize 19 = .ok (.aload_n 0, 1) := by decide +kernel
theorem dX10_wordSize_20 : decode cX10_wordSize 20 = .ok (.getfield 99, 3) := by decide +kernel
theorem dX10_wordSize_23 : decode cX10_wordSize 23 = .ok (.iload_n 1, 1) := by decide +kernel
theorem dX10_wordSize_24 : decode cX10_wordSize 24 = .ok (.iadd, 1) := by decide +kernel
theorem dX10_wordSize_25 : decode cX10_wordSize 25 = .ok (.iaload, 1) := by decide +kernel
theorem dX10_wordSize_26 : decode cX10_wordSize 26 = .ok (.invokestatic 105, 3) := by decide +kernel
theorem dX10_wordSize_29 : decode cX10_wordSize 29 = .ok (.ifCond .eq 9, 3) := by decide +kernel
theorem dX10_wordSize_32 : decode cX10_wordSize 32 = .ok (.iinc 1 1, 3) := by decide +kernel
theorem dX10_wordSize_35 : decode cX10_wordSize 35 = .ok (.goto (-33), 3) := by decide +kernel
theorem dX10_wordSize_38 : decode cX10_wordSize 38 = .ok (.iload_n 1, 1) := by decide +kernel
theorem dX10_wordSize_39 : decode cX10_wordSize 39 = .ok (.ireturn, 1) := by decide +kernel
theorem dX10_letter_0 : decode cX10_letter 0 = .ok (.aload_n 0, 1) := by decide +kernel
theorem dX10_letter_1 : decode cX10_letter 1 = .ok (.getfield 37, 3) := by decide +kernel
theorem dX10_letter_4 : decode cX10_letter 4 = .ok (.aload_n 0, 1) := by decide +kernel
theorem dX10_letter_5 : decode cX10_letter 5 = .ok (.getfield 99, 3) := by decide +kernel
theorem dX10_letter_8 : decode cX10_letter 8 = .ok (.iload_n 1, 1) := by decide +kernel
theorem dX10_letter_9 : decode cX10_letter 9 = .ok (.iadd, 1) := by decide +kernel
theorem dX10_letter_10 : decode cX10_letter 10 = .ok (.iaload, 1) := by decide +kernel
theorem dX10_letter_11 : decode cX10_letter 11 = .ok (.ireturn, 1) := by decide +kernel
theorem dX10_wordHere_0 : decode cX10_wordHere 0 = .ok (.aload_n 0, 1) := by decide +kernel
theorem dX10_wordHere_1 : decode cX10_wordHere 1 = .ok (.invokevirtual 109, 3) := by decide +kernel
theorem dX10_wordHere_4 : decode cX10_wordHere 4 = .ok (.istore_n 1, 1) := by decide +kernel
theorem dX10_wordHere_5 : decode cX10_wordHere 5 = .ok (.iload_n 1, 1) := by decide +kernel
theorem dX10_wordHere_6 : decode cX10_wordHere 6 = .ok (.iconst 5, 1) := by decide +kernel
theorem dX10_wordHere_7 : decode cX10_wordHere 7 = .ok (.if_icmp .ne 57, 3) := by decide +kernel
theorem dX10_wordHere_10 : decode cX10_wordHere 10 = .ok (.aload_n 0, 1) := by decide +kernel
theorem dX10_wordHere_11 : decode cX10_wordHere 11 = .ok (.iconst 0, 1) := by decide +kernel
theorem dX10_wordHere_12 : decode cX10_wordHere 12 = .ok (.invokevirtual 112, 3) := by decide +kernel
theorem dX10_wordHere_15 : decode cX10_wordHere 15 = .ok (.bipush 110, 2) := by decide +kernel
theorem dX10_wordHere_17 : decode cX10_wordHere 17 = .ok (.if_icmp .ne 47, 3) := by decide +kernel
theorem dX10_wordHere_20 : decode cX10_wordHere 20 = .ok (.aload_n 0, 1) := by decide +kernel
theorem dX10_wordHere_21 : decode cX10_wordHere 21 = .ok (.iconst 1, 1) := by decide +kernel
theorem dX10_wordHere_22 : decode cX10_wordHere 22 = .ok (.invokevirtual 112, 3) := by decide +kernel
theorem dX10_wordHere_25 : decode cX10_wordHere 25 = .ok (.bipush 105, 2) := by decide +kernel
theorem dX10_wordHere_27 : decode cX10_wordHere 27 = .ok (.if_icmp .ne 37, 3) := by decide +kernel
theorem dX10_wordHere_30 : decode cX10_wordHere 30 = .ok (.aload_n 0, 1) := by decide +kernel
theorem dX10_wordHere_31 : decode cX10_wordHere 31 = .ok (.iconst 2, 1) := by decide +kernel
theorem dX10_wordHere_32 : decode cX10_wordHere 32 = .ok (.invokevirtual 112, 3) := by decide +kernel
theorem dX10_wordHere_35 : decode cX10_wordHere 35 = .ok (.bipush 103, 2) := by decide +kernel
theorem dX10_wordHere_37 : decode cX10_wordHere 37 = .ok (.if_icmp .ne 27, 3) := by decide +kernel
theorem dX10_wordHere_40 : decode cX10_wordHere 40 = .ok (.aload_n 0, 1) := by decide +kernel
theorem dX10_wordHere_41 : decode cX10_wordHere 41 = .ok (.iconst 3, 1) := by decide +kernel
theorem dX10_wordHere_42 : decode cX10_wordHere 42 = .ok (.invokevirtual 112, 3) := by decide +kernel
theorem dX10_wordHere_45 : decode cX10_wordHere 45 = .ok (.bipush 104, 2) := by decide +kernel
theorem dX10_wordHere_47 : decode cX10_wordHere 47 = .ok (.if_icmp .ne 17, 3) := by decide +kernel
theorem dX10_wordHere_50 : decode cX10_wordHere 50 = .ok (.aload_n 0, 1) := by decide +kernel
theorem dX10_wordHere_51 : decode cX10_wordHere 51 = .ok (.iconst 4, 1) := by decide +kernel
theorem dX10_wordHere_52 : decode cX10_wordHere 52 = .ok (.invokevirtual 112, 3) := by decide +kernel
theorem dX10_wordHere_55 : decode cX10_wordHere 55 = .ok (.bipush 116, 2) := by decide +kernel
theorem dX10_wordHere_57 : decode cX10_wordHere 57 = .ok (.if_icmp .ne 7, 3) := by decide +kernel
theorem dX10_wordHere_60 : decode cX10_wordHere 60 = .ok (.iconst 1, 1) := by decide +kernel
theorem dX10_wordHere_61 : decode cX10_wordHere 61 = .ok (.goto 4, 3) := by decide +kernel
theorem dX10_wordHere_64 : decode cX10_wordHere 64 = .ok (.iconst 0, 1) := by decide +kernel
theorem dX10_wordHere_65 : decode cX10_wordHere 65 = .ok (.istore_n 2, 1) := by decide +kernel
theorem dX10_wordHere_66 : decode cX10_wordHere 66 = .ok (.iload_n 1, 1) := by decide +kernel
theorem dX10_wordHere_67 : decode cX10_wordHere 67 = .ok (.iconst 3, 1) := by decide +kernel
theorem dX10_wordHere_68 : decode cX10_wordHere 68 = .ok (.if_icmp .ne 37, 3) := by decide +kernel
theorem dX10_wordHere_71 : decode cX10_wordHere 71 = .ok (.aload_n 0, 1) := by decide +kernel
theorem dX10_wordHere_72 : decode cX10_wordHere 72 = .ok (.iconst 0, 1) := by decide +kernel
theorem dX10_wordHere_73 : decode cX10_wordHere 73 = .ok (.invokevirtual 112, 3) := by decide +kernel
theorem dX10_wordHere_76 : decode cX10_wordHere 76 = .ok (.bipush 98, 2) := by decide +kernel
theorem dX10_wordHere_78 : decode cX10_wordHere 78 = .ok (.if_icmp .ne 27, 3) := by decide +kernel
theorem dX10_wordHere_81 : decode cX10_wordHere 81 = .ok (.aload_n 0, 1) := by decide +kernel
theorem dX10_wordHere_82 : decode cX10_wordHere 82 = .ok (.iconst 1, 1) := by decide +kernel
theorem dX10_wordHere_83 : decode cX10_wordHere 83 = .ok (.invokevirtual 112, 3) := by decide +kernel
theorem dX10_wordHere_86 : decode cX10_wordHere 86 = .ok (.bipush 111, 2) := by decide +kernel
theorem dX10_wordHere_88 : decode cX10_wordHere 88 = .ok (.if_icmp .ne 17, 3) := by decide +kernel
theorem dX10_wordHere_91 : decode cX10_wordHere 91 = .ok (.aload_n 0, 1) := by decide +kernel
theorem dX10_wordHere_92 : decode cX10_wordHere 92 = .ok (.iconst 2, 1) := by decide +kernel
theorem dX10_wordHere_93 : decode cX10_wordHere 93 = .ok (.invokevirtual 112, 3) := by decide +kernel
theorem dX10_wordHere_96 : decode cX10_wordHere 96 = .ok (.bipush 121, 2) := by decide +kernel
theorem dX10_wordHere_98 : decode cX10_wordHere 98 = .ok (.if_icmp .ne 7, 3) := by decide +kernel
theorem dX10_wordHere_101 : decode cX10_wordHere 101 = .ok (.iconst 1, 1) := by decide +kernel
theorem dX10_wordHere_102 : decode cX10_wordHere 102 = .ok (.goto 4, 3) := by decide +kernel
theorem dX10_wordHere_105 : decode cX10_wordHere 105 = .ok (.iconst 0, 1) := by decide +kernel
theorem dX10_wordHere_106 : decode cX10_wordHere 106 = .ok (.istore_n 3, 1) := by decide +kernel
theorem dX10_wordHere_107 : decode cX10_wordHere 107 = .ok (.iload_n 1, 1) := by decide +kernel
theorem dX10_wordHere_108 : decode cX10_wordHere 108 = .ok (.iconst 5, 1) := by decide +kernel
theorem dX10_wordHere_109 : decode cX10_wordHere 109 = .ok (.if_icmp .ne 57, 3) := by decide +kernel
theorem dX10_wordHere_112 : decode cX10_wordHere 112 = .ok (.aload_n 0, 1) := by decide +kernel
theorem dX10_wordHere_113 : decode cX10_wordHere 113 = .ok (.iconst 0, 1) := by decide +kernel
theorem dX10_wordHere_114 : decode cX10_wordHere 114 = .ok (.invokevirtual 112, 3) := by decide +kernel
theorem dX10_wordHere_117 : decode cX10_wordHere 117 = .ok (.bipush 99, 2) := by decide +kernel
theorem dX10_wordHere_119 : decode cX10_wordHere 119 = .ok (.if_icmp .ne 47, 3) := by decide +kernel
theorem dX10_wordHere_122 : decode cX10_wordHere 122 = .ok (.aload_n 0, 1) := by decide +kernel
theorem dX10_wordHere_123 : decode cX10_wordHere 123 = .ok (.iconst 1, 1) := by decide +kernel
theorem dX10_wordHere_124 : decode cX10_wordHere 124 = .ok (.invokevirtual 112, 3) := by decide +kernel
theorem dX10_wordHere_127 : decode cX10_wordHere 127 = .ok (.bipush 101, 2) := by decide +kernel
theorem dX10_wordHere_129 : decode cX10_wordHere 129 = .ok (.if_icmp .ne 37, 3) := by decide +kernel
theorem dX10_wordHere_132 : decode cX10_wordHere 132 = .ok (.aload_n 0, 1) := by decide +kernel
theorem dX10_wordHere_133 : decode cX10_wordHere 133 = .ok (.iconst 2, 1) := by decide +kernel
theorem dX10_wordHere_134 : decode cX10_wordHere 134 = .ok (.invokevirtual 112, 3) := by decide +kernel
theorem dX10_wordHere_137 : decode cX10_wordHere 137 = .ok (.bipush 108, 2) := by decide +kernel
theorem dX10_wordHere_139 : decode cX10_wordHere 139 = .ok (.if_icmp .ne 27, 3) := by decide +kernel
theorem dX10_wordHere_142 : decode cX10_wordHere 142 = .ok (.aload_n 0, 1) := by decide +kernel
theorem dX10_wordHere_143 : decode cX10_wordHere 143 = .ok (.iconst 3, 1) := by decide +kernel
theorem dX10_wordHere_144 : decode cX10_wordHere 144 = .ok (.invokevirtual 112, 3) := by decide +kernel
theorem dX10_wordHere_147 : decode cX10_wordHere 147 = .ok (.bipush 108, 2) := by decide +kernel
theorem dX10_wordHere_149 : decode cX10_wordHere 149 = .ok (.if_icmp .ne 17, 3) := by decide +kernel
theorem dX10_wordHere_152 : decode cX10_wordHere 152 = .ok (.aload_n 0, 1) := by decide +kernel
theorem dX10_wordHere_153 : decode cX10_wordHere 153 = .ok (.iconst 4, 1) := by decide +kernel
theorem dX10_wordHere_154 : decode cX10_wordHere 154 = .ok (.invokevirtual 112, 3) := by decide +kernel
theorem dX10_wordHere_157 : decode cX10_wordHere 157 = .ok (.bipush 115, 2) := by decide +kernel
theorem dX10_wordHere_159 : decode cX10_wordHere 159 = .ok (.if_icmp .ne 7, 3) := by decide +kernel
theorem dX10_wordHere_162 : decode cX10_wordHere 162 = .ok (.iconst 1, 1) := by decide +kernel
theorem dX10_wordHere_163 : decode cX10_wordHere 163 = .ok (.goto 4, 3) := by decide +kernel
theorem dX10_wordHere_166 : decode cX10_wordHere 166 = .ok (.iconst 0, 1) := by decide +kernel
theorem dX10_wordHere_167 : decode cX10_wordHere 167 = .ok (.istore 4, 2) := by decide +kernel
theorem dX10_wordHere_169 : decode cX10_wordHere 169 = .ok (.iload_n 2, 1) := by decide +kernel
theorem dX10_wordHere_170 : decode cX10_wordHere 170 = .ok (.ifCond .eq 7, 3) := by decide +kernel
theorem dX10_wordHere_173 : decode cX10_wordHere 173 = .ok (.iconst 0, 1) := by decide +kernel
theorem dX10_wordHere_174 : decode cX10_wordHere 174 = .ok (.goto 21, 3) := by decide +kernel
theorem dX10_wordHere_177 : decode cX10_wordHere 177 = .ok (.iload_n 3, 1) := by decide +kernel
theorem dX10_wordHere_178 : decode cX10_wordHere 178 = .ok (.ifCond .eq 7, 3) := by decide +kernel
theorem dX10_wordHere_181 : decode cX10_wordHere 181 = .ok (.iconst 1, 1) := by decide +kernel
theorem dX10_wordHere_182 : decode cX10_wordHere 182 = .ok (.goto 13, 3) := by decide +kernel
theorem dX10_wordHere_185 : decode cX10_wordHere 185 = .ok (.iload 4, 2) := by decide +kernel
theorem dX10_wordHere_187 : decode cX10_wordHere 187 = .ok (.ifCond .eq 7, 3) := by decide +kernel
theorem dX10_wordHere_190 : decode cX10_wordHere 190 = .ok (.iconst 2, 1) := by decide +kernel
theorem dX10_wordHere_191 : decode cX10_wordHere 191 = .ok (.goto 4, 3) := by decide +kernel
theorem dX10_wordHere_194 : decode cX10_wordHere 194 = .ok (.iconst (-1), 1) := by decide +kernel
theorem dX10_wordHere_195 : decode cX10_wordHere 195 = .ok (.ireturn, 1) := by decide +kernel
theorem dX10_number_0 : decode cX10_number 0 = .ok (.aload_n 0, 1) := by decide +kernel
theorem dX10_number_1 : decode cX10_number 1 = .ok (.invokevirtual 116, 3) := by decide +kernel
theorem dX10_number_4 : decode cX10_number 4 = .ok (.iconst 0, 1) := by decide +kernel
theorem dX10_number_5 : decode cX10_number 5 = .ok (.istore_n 3, 1) := by decide +kernel
theorem dX10_number_6 : decode cX10_number 6 = .ok (.iconst 0, 1) := by decide +kernel
theorem dX10_number_7 : decode cX10_number 7 = .ok (.istore 4, 2) := by decide +kernel
theorem dX10_number_9 : decode cX10_number 9 = .ok (.aload_n 0, 1) := by decide +kernel
theorem dX10_number_10 : decode cX10_number 10 = .ok (.getfield 99, 3) := by decide +kernel
theorem dX10_number_13 : decode cX10_number 13 = .ok (.iload_n 3, 1) := by decide +kernel
theorem dX10_number_14 : decode cX10_number 14 = .ok (.iadd, 1) := by decide +kernel
theorem dX10_number_15 : decode cX10_number 15 = .ok (.aload_n 0, 1) := by decide +kernel
theorem dX10_number_16 : decode cX10_number 16 = .ok (.getfield 96, 3) := by decide +kernel
theorem dX10_number_19 : decode cX10_number 19 = .ok (.if_icmp .ge 58, 3) := by decide +kernel
theorem dX10_number_22 : decode cX10_number 22 = .ok (.aload_n 0, 1) := by decide +kernel
theorem dX10_number_23 : decode cX10_number 23 = .ok (.getfield 37, 3) := by decide +kernel
theorem dX10_number_26 : decode cX10_number 26 = .ok (.aload_n 0, 1) := by decide +kernel
theorem dX10_number_27 : decode cX10_number 27 = .ok (.getfield 99, 3) := by decide +kernel
theorem dX10_number_30 : decode cX10_number 30 = .ok (.iload_n 3, 1) := by decide +kernel
theorem dX10_number_31 : decode cX10_number 31 = .ok (.iadd, 1) := by decide +kernel
theorem dX10_number_32 : decode cX10_number 32 = .ok (.iaload, 1) := by decide +kernel
theorem dX10_number_33 : decode cX10_number 33 = .ok (.invokestatic 119, 3) := by decide +kernel
theorem dX10_number_36 : decode cX10_number 36 = .ok (.ifCond .eq 41, 3) := by decide +kernel
theorem dX10_number_39 : decode cX10_number 39 = .ok (.iload_n 3, 1) := by decide +kernel
theorem dX10_number_40 : decode cX10_number 40 = .ok (.iconst 2, 1) := by decide +kernel
theorem dX10_number_41 : decode cX10_number 41 = .ok (.if_icmp .ge 26, 3) := by decide +kernel
theorem dX10_number_44 : decode cX10_number 44 = .ok (.bipush 10, 2) := by decide +kernel
theorem dX10_number_46 : decode cX10_number 46 = .ok (.iload 4, 2) := by decide +kernel
theorem dX10_number_48 : decode cX10_number 48 = .ok (.imul, 1) := by decide +kernel
theorem dX10_number_49 : decode cX10_number 49 = .ok (.aload_n 0, 1) := by decide +kernel
theorem dX10_number_50 : decode cX10_number 50 = .ok (.getfield 37, 3) := by decide +kernel
theorem dX10_number_53 : decode cX10_number 53 = .ok (.aload_n 0, 1) := by decide +kernel
theorem dX10_number_54 : decode cX10_number 54 = .ok (.getfield 99, 3) := by decide +kernel
theorem dX10_number_57 : decode cX10_number 57 = .ok (.iload_n 3, 1) := by decide +kernel
theorem dX10_number_58 : decode cX10_number 58 = .ok (.iadd, 1) := by decide +kernel
theorem dX10_number_59 : decode cX10_number 59 = .ok (.iaload, 1) := by decide +kernel
theorem dX10_number_60 : decode cX10_number 60 = .ok (.iadd, 1) := by decide +kernel
theorem dX10_number_61 : decode cX10_number 61 = .ok (.bipush 48, 2) := by decide +kernel
theorem dX10_number_63 : decode cX10_number 63 = .ok (.isub, 1) := by decide +kernel
theorem dX10_number_64 : decode cX10_number 64 = .ok (.goto 5, 3) := by decide +kernel
theorem dX10_number_67 : decode cX10_number 67 = .ok (.iload 4, 2) := by decide +kernel
theorem dX10_number_69 : decode cX10_number 69 = .ok (.istore 4, 2) := by decide +kernel
theorem dX10_number_71 : decode cX10_number 71 = .ok (.iinc 3 1, 3) := by decide +kernel
theorem dX10_number_74 : decode cX10_number 74 = .ok (.goto (-65), 3) := by decide +kernel
theorem dX10_number_77 : decode cX10_number 77 = .ok (.iload_n 3, 1) := by decide +kernel
theorem dX10_number_78 : decode cX10_number 78 = .ok (.iconst 1, 1) := by decide +kernel
theorem dX10_number_79 : decode cX10_number 79 = .ok (.iconst 2, 1) := by decide +kernel
theorem dX10_number_80 : decode cX10_number 80 = .ok (.invokestatic 81, 3) := by decide +kernel
theorem dX10_number_83 : decode cX10_number 83 = .ok (.ifCond .eq 13, 3) := by decide +kernel
theorem dX10_number_86 : decode cX10_number 86 = .ok (.iload 4, 2) := by decide +kernel
theorem dX10_number_88 : decode cX10_number 88 = .ok (.iload_n 1, 1) := by decide +kernel
theorem dX10_number_89 : decode cX10_number 89 = .ok (.iload_n 2, 1) := by decide +kernel
theorem dX10_number_90 : decode cX10_number 90 = .ok (.invokestatic 81, 3) := by decide +kernel
theorem dX10_number_93 : decode cX10_number 93 = .ok (.ifCond .ne 5, 3) := by decide +kernel
theorem dX10_number_96 : decode cX10_number 96 = .ok (.iconst 0, 1) := by decide +kernel
theorem dX10_number_97 : decode cX10_number 97 = .ok (.ireturn, 1) := by decide +kernel
theorem dX10_number_98 : decode cX10_number 98 = .ok (.aload_n 0, 1) := by decide +kernel
theorem dX10_number_99 : decode cX10_number 99 = .ok (.iload 4, 2) := by decide +kernel
theorem dX10_number_101 : decode cX10_number 101 = .ok (.putfield 122, 3) := by decide +kernel
theorem dX10_number_104 : decode cX10_number 104 = .ok (.aload_n 0, 1) := by decide +kernel
theorem dX10_number_105 : decode cX10_number 105 = .ok (.dup, 1) := by decide +kernel
theorem dX10_number_106 : decode cX10_number 106 = .ok (.getfield 99, 3) := by decide +kernel
theorem dX10_number_109 : decode cX10_number 109 = .ok (.iload_n 3, 1) := by decide +kernel
theorem dX10_number_110 : decode cX10_number 110 = .ok (.iadd, 1) := by decide +kernel
theorem dX10_number_111 : decode cX10_number 111 = .ok (.putfield 99, 3) := by decide +kernel
theorem dX10_number_114 : decode cX10_number 114 = .ok (.iconst 1, 1) := by decide +kernel
theorem dX10_number_115 : decode cX10_number 115 = .ok (.ireturn, 1) := by decide +kernel
theorem dX10_ends_0 : decode cX10_ends 0 = .ok (.aload_n 0, 1) := by decide +kernel
theorem dX10_ends_1 : decode cX10_ends 1 = .ok (.invokevirtual 116, 3) := by decide +kernel
theorem dX10_ends_4 : decode cX10_ends 4 = .ok (.aload_n 0, 1) := by decide +kernel
theorem dX10_ends_5 : decode cX10_ends 5 = .ok (.invokevirtual 102, 3) := by decide +kernel
theorem dX10_ends_8 : decode cX10_ends 8 = .ok (.bipush 59, 2) := by decide +kernel
theorem dX10_ends_10 : decode cX10_ends 10 = .ok (.if_icmp .eq 5, 3) := by decide +kernel
theorem dX10_ends_13 : decode cX10_ends 13 = .ok (.iconst 0, 1) := by decide +kernel
theorem dX10_ends_14 : decode cX10_ends 14 = .ok (.ireturn, 1) := by decide +kernel
theorem dX10_ends_15 : decode cX10_ends 15 = .ok (.aload_n 0, 1) := by decide +kernel
theorem dX10_ends_16 : decode cX10_ends 16 = .ok (.dup, 1) := by decide +kernel
theorem dX10_ends_17 : decode cX10_ends 17 = .ok (.getfield 99, 3) := by decide +kernel
theorem dX10_ends_20 : decode cX10_ends 20 = .ok (.iconst 1, 1) := by decide +kernel
theorem dX10_ends_21 : decode cX10_ends 21 = .ok (.iadd, 1) := by decide +kernel
theorem dX10_ends_22 : decode cX10_ends 22 = .ok (.putfield 99, 3) := by decide +kernel
theorem dX10_ends_25 : decode cX10_ends 25 = .ok (.iconst 1, 1) := by decide +kernel
theorem dX10_ends_26 : decode cX10_ends 26 = .ok (.ireturn, 1) := by decide +kernel
theorem dX10_readsBoy_0 : decode cX10_readsBoy 0 = .ok (.iconst 0, 1) := by decide +kernel
theorem dX10_readsBoy_1 : decode cX10_readsBoy 1 = .ok (.istore_n 1, 1) := by decide +kernel
theorem dX10_readsBoy_2 : decode cX10_readsBoy 2 = .ok (.iload_n 1, 1) := by decide +kernel
theorem dX10_readsBoy_3 : decode cX10_readsBoy 3 = .ok (.iconst 3, 1) := by decide +kernel
theorem dX10_readsBoy_4 : decode cX10_readsBoy 4 = .ok (.if_icmp .ge 56, 3) := by decide +kernel
theorem dX10_readsBoy_7 : decode cX10_readsBoy 7 = .ok (.aload_n 0, 1) := by decide +kernel
theorem dX10_readsBoy_8 : decode cX10_readsBoy 8 = .ok (.iconst 0, 1) := by decide +kernel
theorem dX10_readsBoy_9 : decode cX10_readsBoy 9 = .ok (.iload_n 1, 1) := by decide +kernel
theorem dX10_readsBoy_10 : decode cX10_readsBoy 10 = .ok (.ifCond .ne 7, 3) := by decide +kernel
theorem dX10_readsBoy_13 : decode cX10_readsBoy 13 = .ok (.iconst 5, 1) := by decide +kernel
theorem dX10_readsBoy_14 : decode cX10_readsBoy 14 = .ok (.goto 15, 3) := by decide +kernel
theorem dX10_readsBoy_17 : decode cX10_readsBoy 17 = .ok (.iload_n 1, 1) := by decide +kernel
theorem dX10_readsBoy_18 : decode cX10_readsBoy 18 = .ok (.iconst 1, 1) := by decide +kernel
theorem dX10_readsBoy_19 : decode cX10_readsBoy 19 = .ok (.if_icmp .ne 8, 3) := by decide +kernel
theorem dX10_readsBoy_22 : decode cX10_readsBoy 22 = .ok (.bipush 12, 2) := by decide +kernel
theorem dX10_readsBoy_24 : decode cX10_readsBoy 24 = .ok (.goto 5, 3) := by decide +kernel
theorem dX10_readsBoy_27 : decode cX10_readsBoy 27 = .ok (.bipush 40, 2) := by decide +kernel
theorem dX10_readsBoy_29 : decode cX10_readsBoy 29 = .ok (.invokevirtual 125, 3) := by decide +kernel
theorem dX10_readsBoy_32 : decode cX10_readsBoy 32 = .ok (.ifCond .ne 5, 3) := by decide +kernel
theorem dX10_readsBoy_35 : decode cX10_readsBoy 35 = .ok (.iconst 0, 1) := by decide +kernel
theorem dX10_readsBoy_36 : decode cX10_readsBoy 36 = .ok (.ireturn, 1) := by decide +kernel
theorem dX10_readsBoy_37 : decode cX10_readsBoy 37 = .ok (.aload_n 0, 1) := by decide +kernel
theorem dX10_readsBoy_38 : decode cX10_readsBoy 38 = .ok (.getfield 40, 3) := by decide +kernel
theorem dX10_readsBoy_41 : decode cX10_readsBoy 41 = .ok (.iconst 3, 1) := by decide +kernel
theorem dX10_readsBoy_42 : decode cX10_readsBoy 42 = .ok (.aload_n 0, 1) := by decide +kernel
theorem dX10_readsBoy_43 : decode cX10_readsBoy 43 = .ok (.getfield 129, 3) := by decide +kernel
theorem dX10_readsBoy_46 : decode cX10_readsBoy 46 = .ok (.imul, 1) := by decide +kernel
theorem dX10_readsBoy_47 : decode cX10_readsBoy 47 = .ok (.iload_n 1, 1) := by decide +kernel
theorem dX10_readsBoy_48 : decode cX10_readsBoy 48 = .ok (.iadd, 1) := by decide +kernel
theorem dX10_readsBoy_49 : decode cX10_readsBoy 49 = .ok (.aload_n 0, 1) := by decide +kernel
theorem dX10_readsBoy_50 : decode cX10_readsBoy 50 = .ok (.getfield 122, 3) := by decide +kernel
theorem dX10_readsBoy_53 : decode cX10_readsBoy 53 = .ok (.iastore, 1) := by decide +kernel
theorem dX10_readsBoy_54 : decode cX10_readsBoy 54 = .ok (.iinc 1 1, 3) := by decide +kernel
theorem dX10_readsBoy_57 : decode cX10_readsBoy 57 = .ok (.goto (-55), 3) := by decide +kernel
theorem dX10_readsBoy_60 : decode cX10_readsBoy 60 = .ok (.aload_n 0, 1) := by decide +kernel
theorem dX10_readsBoy_61 : decode cX10_readsBoy 61 = .ok (.dup, 1) := by decide +kernel
theorem dX10_readsBoy_62 : decode cX10_readsBoy 62 = .ok (.getfield 129, 3) := by decide +kernel
theorem dX10_readsBoy_65 : decode cX10_readsBoy 65 = .ok (.iconst 1, 1) := by decide +kernel
theorem dX10_readsBoy_66 : decode cX10_readsBoy 66 = .ok (.iadd, 1) := by decide +kernel
theorem dX10_readsBoy_67 : decode cX10_readsBoy 67 = .ok (.putfield 129, 3) := by decide +kernel
theorem dX10_readsBoy_70 : decode cX10_readsBoy 70 = .ok (.aload_n 0, 1) := by decide +kernel
theorem dX10_readsBoy_71 : decode cX10_readsBoy 71 = .ok (.invokevirtual 132, 3) := by decide +kernel
theorem dX10_readsBoy_74 : decode cX10_readsBoy 74 = .ok (.ireturn, 1) := by decide +kernel
theorem dX10_readsCells_0 : decode cX10_readsCells 0 = .ok (.aload_n 0, 1) := by decide +kernel
theorem dX10_readsCells_1 : decode cX10_readsCells 1 = .ok (.iconst 0, 1) := by decide +kernel
theorem dX10_readsCells_2 : decode cX10_readsCells 2 = .ok (.aload_n 0, 1) := by decide +kernel
theorem dX10_readsCells_3 : decode cX10_readsCells 3 = .ok (.getfield 129, 3) := by decide +kernel
theorem dX10_readsCells_6 : decode cX10_readsCells 6 = .ok (.iconst 1, 1) := by decide +kernel
theorem dX10_readsCells_7 : decode cX10_readsCells 7 = .ok (.isub, 1) := by decide +kernel
theorem dX10_readsCells_8 : decode cX10_readsCells 8 = .ok (.invokevirtual 125, 3) := by decide +kernel
theorem dX10_readsCells_11 : decode cX10_readsCells 11 = .ok (.ifCond .ne 5, 3) := by decide +kernel
theorem dX10_readsCells_14 : decode cX10_readsCells 14 = .ok (.iconst 0, 1) := by decide +kernel
theorem dX10_readsCells_15 : decode cX10_readsCells 15 = .ok (.ireturn, 1) := by decide +kernel
theorem dX10_readsCells_16 : decode cX10_readsCells 16 = .ok (.aload_n 0, 1) := by decide +kernel
theorem dX10_readsCells_17 : decode cX10_readsCells 17 = .ok (.getfield 122, 3) := by decide +kernel
theorem dX10_readsCells_20 : decode cX10_readsCells 20 = .ok (.istore_n 1, 1) := by decide +kernel
theorem dX10_readsCells_21 : decode cX10_readsCells 21 = .ok (.aload_n 0, 1) := by decide +kernel
theorem dX10_readsCells_22 : decode cX10_readsCells 22 = .ok (.invokevirtual 116, 3) := by decide +kernel
theorem dX10_readsCells_25 : decode cX10_readsCells 25 = .ok (.aload_n 0, 1) := by decide +kernel
theorem dX10_readsCells_26 : decode cX10_readsCells 26 = .ok (.invokevirtual 102, 3) := by decide +kernel
theorem dX10_readsCells_29 : decode cX10_readsCells 29 = .ok (.invokestatic 119, 3) := by decide +kernel
theorem dX10_readsCells_32 : decode cX10_readsCells 32 = .ok (.ifCond .eq 32, 3) := by decide +kernel
theorem dX10_readsCells_35 : decode cX10_readsCells 35 = .ok (.aload_n 0, 1) := by decide +kernel
theorem dX10_readsCells_36 : decode cX10_readsCells 36 = .ok (.iconst 0, 1) := by decide +kernel
theorem dX10_readsCells_37 : decode cX10_readsCells 37 = .ok (.bipush 11, 2) := by decide +kernel
theorem dX10_readsCells_39 : decode cX10_readsCells 39 = .ok (.invokevirtual 125, 3) := by decide +kernel
theorem dX10_readsCells_42 : decode cX10_readsCells 42 = .ok (.ifCond .ne 5, 3) := by decide +kernel
theorem dX10_readsCells_45 : decode cX10_readsCells 45 = .ok (.iconst 0, 1) := by decide +kernel
theorem dX10_readsCells_46 : decode cX10_readsCells 46 = .ok (.ireturn, 1) := by decide +kernel
theorem dX10_readsCells_47 : decode cX10_readsCells 47 = .ok (.aload_n 0, 1) := by decide +kernel
theorem dX10_readsCells_48 : decode cX10_readsCells 48 = .ok (.getfield 43, 3) := by decide +kernel
theorem dX10_readsCells_51 : decode cX10_readsCells 51 = .ok (.aload_n 0, 1) := by decide +kernel
theorem dX10_readsCells_52 : decode cX10_readsCells 52 = .ok (.getfield 122, 3) := by decide +kernel
theorem dX10_readsCells_55 : decode cX10_readsCells 55 = .ok (.iload_n 1, 1) := by decide +kernel
theorem dX10_readsCells_56 : decode cX10_readsCells 56 = .ok (.iastore, 1) := by decide +kernel
theorem dX10_readsCells_57 : decode cX10_readsCells 57 = .ok (.aload_n 0, 1) := by decide +kernel
theorem dX10_readsCells_58 : decode cX10_readsCells 58 = .ok (.invokevirtual 116, 3) := by decide +kernel
theorem dX10_readsCells_61 : decode cX10_readsCells 61 = .ok (.goto (-36), 3) := by decide +kernel
theorem dX10_readsCells_64 : decode cX10_readsCells 64 = .ok (.aload_n 0, 1) := by decide +kernel
theorem dX10_readsCells_65 : decode cX10_readsCells 65 = .ok (.invokevirtual 132, 3) := by decide +kernel
theorem dX10_readsCells_68 : decode cX10_readsCells 68 = .ok (.ireturn, 1) := by decide +kernel
theorem dX10_readsItem_0 : decode cX10_readsItem 0 = .ok (.aload_n 0, 1) := by decide +kernel
theorem dX10_readsItem_1 : decode cX10_readsItem 1 = .ok (.invokevirtual 136, 3) := by decide +kernel
theorem dX10_readsItem_4 : decode cX10_readsItem 4 = .ok (.istore_n 1, 1) := by decide +kernel
theorem dX10_readsItem_5 : decode cX10_readsItem 5 = .ok (.iload_n 1, 1) := by decide +kernel
theorem dX10_readsItem_6 : decode cX10_readsItem 6 = .ok (.iconst 1, 1) := by decide +kernel
theorem dX10_readsItem_7 : decode cX10_readsItem 7 = .ok (.if_icmp .lt 16, 3) := by decide +kernel
theorem dX10_readsItem_10 : decode cX10_readsItem 10 = .ok (.iload_n 1, 1) := by decide +kernel
theorem dX10_readsItem_11 : decode cX10_readsItem 11 = .ok (.iconst 1, 1) := by decide +kernel
theorem dX10_readsItem_12 : decode cX10_readsItem 12 = .ok (.if_icmp .ne 13, 3) := by decide +kernel
theorem dX10_readsItem_15 : decode cX10_readsItem 15 = .ok (.aload_n 0, 1) := by decide +kernel
theorem dX10_readsItem_16 : decode cX10_readsItem 16 = .ok (.getfield 129, 3) := by decide +kernel
theorem dX10_readsItem_19 : decode cX10_readsItem 19 = .ok (.iconst 5, 1) := by decide +kernel
theorem dX10_readsItem_20 : decode cX10_readsItem 20 = .ok (.if_icmp .ne 5, 3) := by decide +kernel
theorem dX10_readsItem_23 : decode cX10_readsItem 23 = .ok (.iconst 0, 1) := by decide +kernel
theorem dX10_readsItem_24 : decode cX10_readsItem 24 = .ok (.ireturn, 1) := by decide +kernel
theorem dX10_readsItem_25 : decode cX10_readsItem 25 = .ok (.aload_n 0, 1) := by decide +kernel
theorem dX10_readsItem_26 : decode cX10_readsItem 26 = .ok (.dup, 1) := by decide +kernel
theorem dX10_readsItem_27 : decode cX10_readsItem 27 = .ok (.getfield 99, 3) := by decide +kernel
theorem dX10_readsItem_30 : decode cX10_readsItem 30 = .ok (.iload_n 1, 1) := by decide +kernel
theorem dX10_readsItem_31 : decode cX10_readsItem 31 = .ok (.iconst 1, 1) := by decide +kernel
theorem dX10_readsItem_32 : decode cX10_readsItem 32 = .ok (.if_icmp .ne 7, 3) := by decide +kernel
theorem dX10_readsItem_35 : decode cX10_readsItem 35 = .ok (.iconst 3, 1) := by decide +kernel
theorem dX10_readsItem_36 : decode cX10_readsItem 36 = .ok (.goto 4, 3) := by decide +kernel
theorem dX10_readsItem_39 : decode cX10_readsItem 39 = .ok (.iconst 5, 1) := by decide +kernel
theorem dX10_readsItem_40 : decode cX10_readsItem 40 = .ok (.iadd, 1) := by decide +kernel
theorem dX10_readsItem_41 : decode cX10_readsItem 41 = .ok (.putfield 99, 3) := by decide +kernel
theorem dX10_readsItem_44 : decode cX10_readsItem 44 = .ok (.iload_n 1, 1) := by decide +kernel
theorem dX10_readsItem_45 : decode cX10_readsItem 45 = .ok (.iconst 1, 1) := by decide +kernel
theorem dX10_readsItem_46 : decode cX10_readsItem 46 = .ok (.if_icmp .ne 10, 3) := by decide +kernel
theorem dX10_readsItem_49 : decode cX10_readsItem 49 = .ok (.aload_n 0, 1) := by decide +kernel
theorem dX10_readsItem_50 : decode cX10_readsItem 50 = .ok (.invokevirtual 139, 3) := by decide +kernel
theorem dX10_readsItem_53 : decode cX10_readsItem 53 = .ok (.goto 7, 3) := by decide +kernel
theorem dX10_readsItem_56 : decode cX10_readsItem 56 = .ok (.aload_n 0, 1) := by decide +kernel
theorem dX10_readsItem_57 : decode cX10_readsItem 57 = .ok (.invokevirtual 142, 3) := by decide +kernel
theorem dX10_readsItem_60 : decode cX10_readsItem 60 = .ok (.ireturn, 1) := by decide +kernel
theorem dX10_readsNight_0 : decode cX10_readsNight 0 = .ok (.aload_n 0, 1) := by decide +kernel
theorem dX10_readsNight_1 : decode cX10_readsNight 1 = .ok (.iconst 0, 1) := by decide +kernel
theorem dX10_readsNight_2 : decode cX10_readsNight 2 = .ok (.putfield 99, 3) := by decide +kernel
theorem dX10_readsNight_5 : decode cX10_readsNight 5 = .ok (.aload_n 0, 1) := by decide +kernel
theorem dX10_readsNight_6 : decode cX10_readsNight 6 = .ok (.iconst 0, 1) := by decide +kernel
theorem dX10_readsNight_7 : decode cX10_readsNight 7 = .ok (.putfield 129, 3) := by decide +kernel
theorem dX10_readsNight_10 : decode cX10_readsNight 10 = .ok (.iconst 0, 1) := by decide +kernel
theorem dX10_readsNight_11 : decode cX10_readsNight 11 = .ok (.istore_n 1, 1) := by decide +kernel
theorem dX10_readsNight_12 : decode cX10_readsNight 12 = .ok (.iload_n 1, 1) := by decide +kernel
theorem dX10_readsNight_13 : decode cX10_readsNight 13 = .ok (.bipush 12, 2) := by decide +kernel
theorem dX10_readsNight_15 : decode cX10_readsNight 15 = .ok (.if_icmp .ge 16, 3) := by decide +kernel
theorem dX10_readsNight_18 : decode cX10_readsNight 18 = .ok (.aload_n 0, 1) := by decide +kernel
theorem dX10_readsNight_19 : decode cX10_readsNight 19 = .ok (.getfield 43, 3) := by decide +kernel
theorem dX10_readsNight_22 : decode cX10_readsNight 22 = .ok (.iload_n 1, 1) := by decide +kernel
theorem dX10_readsNight_23 : decode cX10_readsNight 23 = .ok (.iconst (-1), 1) := by decide +kernel
theorem dX10_readsNight_24 : decode cX10_readsNight 24 = .ok (.iastore, 1) := by decide +kernel
theorem dX10_readsNight_25 : decode cX10_readsNight 25 = .ok (.iinc 1 1, 3) := by decide +kernel
theorem dX10_readsNight_28 : decode cX10_readsNight 28 = .ok (.goto (-16), 3) := by decide +kernel
theorem dX10_readsNight_31 : decode cX10_readsNight 31 = .ok (.aload_n 0, 1) := by decide +kernel
theorem dX10_readsNight_32 : decode cX10_readsNight 32 = .ok (.invokevirtual 116, 3) := by decide +kernel
theorem dX10_readsNight_35 : decode cX10_readsNight 35 = .ok (.aload_n 0, 1) := by decide +kernel
theorem dX10_readsNight_36 : decode cX10_readsNight 36 = .ok (.invokevirtual 136, 3) := by decide +kernel
theorem dX10_readsNight_39 : decode cX10_readsNight 39 = .ok (.ifCond .eq 5, 3) := by decide +kernel
theorem dX10_readsNight_42 : decode cX10_readsNight 42 = .ok (.iconst (-1), 1) := by decide +kernel
theorem dX10_readsNight_43 : decode cX10_readsNight 43 = .ok (.ireturn, 1) := by decide +kernel
theorem dX10_readsNight_44 : decode cX10_readsNight 44 = .ok (.aload_n 0, 1) := by decide +kernel
theorem dX10_readsNight_45 : decode cX10_readsNight 45 = .ok (.dup, 1) := by decide +kernel
theorem dX10_readsNight_46 : decode cX10_readsNight 46 = .ok (.getfield 99, 3) := by decide +kernel
theorem dX10_readsNight_49 : decode cX10_readsNight 49 = .ok (.iconst 5, 1) := by decide +kernel
theorem dX10_readsNight_50 : decode cX10_readsNight 50 = .ok (.iadd, 1) := by decide +kernel
theorem dX10_readsNight_51 : decode cX10_readsNight 51 = .ok (.putfield 99, 3) := by decide +kernel
theorem dX10_readsNight_54 : decode cX10_readsNight 54 = .ok (.aload_n 0, 1) := by decide +kernel
theorem dX10_readsNight_55 : decode cX10_readsNight 55 = .ok (.invokevirtual 132, 3) := by decide +kernel
theorem dX10_readsNight_58 : decode cX10_readsNight 58 = .ok (.ifCond .ne 5, 3) := by decide +kernel
theorem dX10_readsNight_61 : decode cX10_readsNight 61 = .ok (.iconst (-1), 1) := by decide +kernel
theorem dX10_readsNight_62 : decode cX10_readsNight 62 = .ok (.ireturn, 1) := by decide +kernel
theorem dX10_readsNight_63 : decode cX10_readsNight 63 = .ok (.iconst 1, 1) := by decide +kernel
theorem dX10_readsNight_64 : decode cX10_readsNight 64 = .ok (.istore_n 1, 1) := by decide +kernel
theorem dX10_readsNight_65 : decode cX10_readsNight 65 = .ok (.aload_n 0, 1) := by decide +kernel
theorem dX10_readsNight_66 : decode cX10_readsNight 66 = .ok (.invokevirtual 116, 3) := by decide +kernel
theorem dX10_readsNight_69 : decode cX10_readsNight 69 = .ok (.aload_n 0, 1) := by decide +kernel
theorem dX10_readsNight_70 : decode cX10_readsNight 70 = .ok (.getfield 99, 3) := by decide +kernel
theorem dX10_readsNight_73 : decode cX10_readsNight 73 = .ok (.aload_n 0, 1) := by decide +kernel
theorem dX10_readsNight_74 : decode cX10_readsNight 74 = .ok (.getfield 96, 3) := by decide +kernel
theorem dX10_readsNight_77 : decode cX10_readsNight 77 = .ok (.if_icmp .ge 22, 3) := by decide +kernel
theorem dX10_readsNight_80 : decode cX10_readsNight 80 = .ok (.aload_n 0, 1) := by decide +kernel
theorem dX10_readsNight_81 : decode cX10_readsNight 81 = .ok (.invokevirtual 145, 3) := by decide +kernel
theorem dX10_readsNight_84 : decode cX10_readsNight 84 = .ok (.ifCond .ne 5, 3) := by decide +kernel
theorem dX10_readsNight_87 : decode cX10_readsNight 87 = .ok (.iconst (-1), 1) := by decide +kernel
theorem dX10_readsNight_88 : decode cX10_readsNight 88 = .ok (.ireturn, 1) := by decide +kernel
theorem dX10_readsNight_89 : decode cX10_readsNight 89 = .ok (.iinc 1 1, 3) := by decide +kernel
theorem dX10_readsNight_92 : decode cX10_readsNight 92 = .ok (.aload_n 0, 1) := by decide +kernel
theorem dX10_readsNight_93 : decode cX10_readsNight 93 = .ok (.invokevirtual 116, 3) := by decide +kernel
theorem dX10_readsNight_96 : decode cX10_readsNight 96 = .ok (.goto (-27), 3) := by decide +kernel
theorem dX10_readsNight_99 : decode cX10_readsNight 99 = .ok (.iload_n 1, 1) := by decide +kernel
theorem dX10_readsNight_100 : decode cX10_readsNight 100 = .ok (.ireturn, 1) := by decide +kernel
theorem dX10_read_0 : decode cX10_read 0 = .ok (.aload_n 0, 1) := by decide +kernel
theorem dX10_read_1 : decode cX10_read 1 = .ok (.invokevirtual 148, 3) := by decide +kernel
theorem dX10_read_4 : decode cX10_read 4 = .ok (.istore_n 1, 1) := by decide +kernel
theorem dX10_read_5 : decode cX10_read 5 = .ok (.iload_n 1, 1) := by decide +kernel
theorem dX10_read_6 : decode cX10_read 6 = .ok (.ifCond .ge 11, 3) := by decide +kernel
theorem dX10_read_9 : decode cX10_read 9 = .ok (.bipush (-10), 2) := by decide +kernel
theorem dX10_read_11 : decode cX10_read 11 = .ok (.aload_n 0, 1) := by decide +kernel
theorem dX10_read_12 : decode cX10_read 12 = .ok (.getfield 99, 3) := by decide +kernel
theorem dX10_read_15 : decode cX10_read 15 = .ok (.isub, 1) := by decide +kernel
theorem dX10_read_16 : decode cX10_read 16 = .ok (.ireturn, 1) := by decide +kernel
theorem dX10_read_17 : decode cX10_read 17 = .ok (.aload_n 0, 1) := by decide +kernel
theorem dX10_read_18 : decode cX10_read 18 = .ok (.invokevirtual 68, 3) := by decide +kernel
theorem dX10_read_21 : decode cX10_read 21 = .ok (.iconst 0, 1) := by decide +kernel
theorem dX10_read_22 : decode cX10_read 22 = .ok (.istore_n 2, 1) := by decide +kernel
theorem dX10_read_23 : decode cX10_read 23 = .ok (.iload_n 2, 1) := by decide +kernel
theorem dX10_read_24 : decode cX10_read 24 = .ok (.aload_n 0, 1) := by decide +kernel
theorem dX10_read_25 : decode cX10_read 25 = .ok (.getfield 129, 3) := by decide +kernel
theorem dX10_read_28 : decode cX10_read 28 = .ok (.if_icmp .ge 42, 3) := by decide +kernel
theorem dX10_read_31 : decode cX10_read 31 = .ok (.aload_n 0, 1) := by decide +kernel
theorem dX10_read_32 : decode cX10_read 32 = .ok (.aload_n 0, 1) := by decide +kernel
theorem dX10_read_33 : decode cX10_read 33 = .ok (.getfield 40, 3) := by decide +kernel
theorem dX10_read_36 : decode cX10_read 36 = .ok (.iconst 3, 1) := by decide +kernel
theorem dX10_read_37 : decode cX10_read 37 = .ok (.iload_n 2, 1) := by decide +kernel
theorem dX10_read_38 : decode cX10_read 38 = .ok (.imul, 1) := by decide +kernel
theorem dX10_read_39 : decode cX10_read 39 = .ok (.iaload, 1) := by decide +kernel
theorem dX10_read_40 : decode cX10_read 40 = .ok (.aload_n 0, 1) := by decide +kernel
theorem dX10_read_41 : decode cX10_read 41 = .ok (.getfield 40, 3) := by decide +kernel
theorem dX10_read_44 : decode cX10_read 44 = .ok (.iconst 3, 1) := by decide +kernel
theorem dX10_read_45 : decode cX10_read 45 = .ok (.iload_n 2, 1) := by decide +kernel
theorem dX10_read_46 : decode cX10_read 46 = .ok (.imul, 1) := by decide +kernel
theorem dX10_read_47 : decode cX10_read 47 = .ok (.iconst 1, 1) := by decide +kernel
theorem dX10_read_48 : decode cX10_read 48 = .ok (.iadd, 1) := by decide +kernel
theorem dX10_read_49 : decode cX10_read 49 = .ok (.iaload, 1) := by decide +kernel
theorem dX10_read_50 : decode cX10_read 50 = .ok (.aload_n 0, 1) := by decide +kernel
theorem dX10_read_51 : decode cX10_read 51 = .ok (.getfield 40, 3) := by decide +kernel
theorem dX10_read_54 : decode cX10_read 54 = .ok (.iconst 3, 1) := by decide +kernel
theorem dX10_read_55 : decode cX10_read 55 = .ok (.iload_n 2, 1) := by decide +kernel
theorem dX10_read_56 : decode cX10_read 56 = .ok (.imul, 1) := by decide +kernel
theorem dX10_read_57 : decode cX10_read 57 = .ok (.iconst 2, 1) := by decide +kernel
theorem dX10_read_58 : decode cX10_read 58 = .ok (.iadd, 1) := by decide +kernel
theorem dX10_read_59 : decode cX10_read 59 = .ok (.iaload, 1) := by decide +kernel
theorem dX10_read_60 : decode cX10_read 60 = .ok (.invokevirtual 92, 3) := by decide +kernel
theorem dX10_read_63 : decode cX10_read 63 = .ok (.pop, 1) := by decide +kernel
theorem dX10_read_64 : decode cX10_read 64 = .ok (.iinc 2 1, 3) := by decide +kernel
theorem dX10_read_67 : decode cX10_read 67 = .ok (.goto (-44), 3) := by decide +kernel
theorem dX10_read_70 : decode cX10_read 70 = .ok (.iconst 0, 1) := by decide +kernel
theorem dX10_read_71 : decode cX10_read 71 = .ok (.istore_n 2, 1) := by decide +kernel
theorem dX10_read_72 : decode cX10_read 72 = .ok (.iload_n 2, 1) := by decide +kernel
theorem dX10_read_73 : decode cX10_read 73 = .ok (.bipush 12, 2) := by decide +kernel
theorem dX10_read_75 : decode cX10_read 75 = .ok (.if_icmp .ge 21, 3) := by decide +kernel
theorem dX10_read_78 : decode cX10_read 78 = .ok (.aload_n 0, 1) := by decide +kernel
theorem dX10_read_79 : decode cX10_read 79 = .ok (.getfield 22, 3) := by decide +kernel
theorem dX10_read_82 : decode cX10_read 82 = .ok (.iload_n 2, 1) := by decide +kernel
theorem dX10_read_83 : decode cX10_read 83 = .ok (.aload_n 0, 1) := by decide +kernel
theorem dX10_read_84 : decode cX10_read 84 = .ok (.getfield 43, 3) := by decide +kernel
theorem dX10_read_87 : decode cX10_read 87 = .ok (.iload_n 2, 1) := by decide +kernel
theorem dX10_read_88 : decode cX10_read 88 = .ok (.iaload, 1) := by decide +kernel
theorem dX10_read_89 : decode cX10_read 89 = .ok (.iastore, 1) := by decide +kernel
theorem dX10_read_90 : decode cX10_read 90 = .ok (.iinc 2 1, 3) := by decide +kernel
theorem dX10_read_93 : decode cX10_read 93 = .ok (.goto (-21), 3) := by decide +kernel
theorem dX10_read_96 : decode cX10_read 96 = .ok (.iload_n 1, 1) := by decide +kernel
theorem dX10_read_97 : decode cX10_read 97 = .ok (.ireturn, 1) := by decide +kernel
theorem dX10_valueBy_0 : decode cX10_valueBy 0 = .ok (.iload_n 1, 1) := by decide +kernel
theorem dX10_valueBy_1 : decode cX10_valueBy 1 = .ok (.iconst 3, 1) := by decide +kernel
theorem dX10_valueBy_2 : decode cX10_valueBy 2 = .ok (.if_icmp .ge 7, 3) := by decide +kernel
theorem dX10_valueBy_5 : decode cX10_valueBy 5 = .ok (.iconst 5, 1) := by decide +kernel
theorem dX10_valueBy_6 : decode cX10_valueBy 6 = .ok (.goto 4, 3) := by decide +kernel
theorem dX10_valueBy_9 : decode cX10_valueBy 9 = .ok (.iconst 3, 1) := by decide +kernel
theorem dX10_valueBy_10 : decode cX10_valueBy 10 = .ok (.istore_n 3, 1) := by decide +kernel
theorem dX10_valueBy_11 : decode cX10_valueBy 11 = .ok (.iload_n 2, 1) := by decide +kernel
theorem dX10_valueBy_12 : decode cX10_valueBy 12 = .ok (.ifCond .eq 7, 3) := by decide +kernel
theorem dX10_valueBy_15 : decode cX10_valueBy 15 = .ok (.iconst 5, 1) := by decide +kernel
theorem dX10_valueBy_16 : decode cX10_valueBy 16 = .ok (.goto 4, 3) := by decide +kernel
theorem dX10_valueBy_19 : decode cX10_valueBy 19 = .ok (.iconst 3, 1) := by decide +kernel
theorem dX10_valueBy_20 : decode cX10_valueBy 20 = .ok (.istore 4, 2) := by decide +kernel
theorem dX10_valueBy_22 : decode cX10_valueBy 22 = .ok (.iload_n 1, 1) := by decide +kernel
theorem dX10_valueBy_23 : decode cX10_valueBy 23 = .ok (.iconst 4, 1) := by decide +kernel
theorem dX10_valueBy_24 : decode cX10_valueBy 24 = .ok (.bipush 7, 2) := by decide +kernel
theorem dX10_valueBy_26 : decode cX10_valueBy 26 = .ok (.invokestatic 81, 3) := by decide +kernel
theorem dX10_valueBy_29 : decode cX10_valueBy 29 = .ok (.istore 5, 2) := by decide +kernel
theorem dX10_valueBy_31 : decode cX10_valueBy 31 = .ok (.iload_n 0, 1) := by decide +kernel
theorem dX10_valueBy_32 : decode cX10_valueBy 32 = .ok (.tableswitch 81 1 5 #[36, 38, 50, 53, 64], 36) := by decide +kernel
theorem dX10_valueBy_68 : decode cX10_valueBy 68 = .ok (.iload_n 3, 1) := by decide +kernel
theorem dX10_valueBy_69 : decode cX10_valueBy 69 = .ok (.ireturn, 1) := by decide +kernel
theorem dX10_valueBy_70 : decode cX10_valueBy 70 = .ok (.iload 5, 2) := by decide +kernel
theorem dX10_valueBy_72 : decode cX10_valueBy 72 = .ok (.ifCond .eq 8, 3) := by decide +kernel
theorem dX10_valueBy_75 : decode cX10_valueBy 75 = .ok (.bipush 6, 2) := by decide +kernel
theorem dX10_valueBy_77 : decode cX10_valueBy 77 = .ok (.goto 4, 3) := by decide +kernel
theorem dX10_valueBy_80 : decode cX10_valueBy 80 = .ok (.iconst 3, 1) := by decide +kernel
theorem dX10_valueBy_81 : decode cX10_valueBy 81 = .ok (.ireturn, 1) := by decide +kernel
theorem dX10_valueBy_82 : decode cX10_valueBy 82 = .ok (.iload 4, 2) := by decide +kernel
theorem dX10_valueBy_84 : decode cX10_valueBy 84 = .ok (.ireturn, 1) := by decide +kernel
theorem dX10_valueBy_85 : decode cX10_valueBy 85 = .ok (.iload 5, 2) := by decide +kernel
theorem dX10_valueBy_87 : decode cX10_valueBy 87 = .ok (.ifCond .eq 7, 3) := by decide +kernel
theorem dX10_valueBy_90 : decode cX10_valueBy 90 = .ok (.iconst 0, 1) := by decide +kernel
theorem dX10_valueBy_91 : decode cX10_valueBy 91 = .ok (.goto 4, 3) := by decide +kernel
theorem dX10_valueBy_94 : decode cX10_valueBy 94 = .ok (.iload_n 3, 1) := by decide +kernel
theorem dX10_valueBy_95 : decode cX10_valueBy 95 = .ok (.ireturn, 1) := by decide +kernel
theorem dX10_valueBy_96 : decode cX10_valueBy 96 = .ok (.iload 4, 2) := by decide +kernel
theorem dX10_valueBy_98 : decode cX10_valueBy 98 = .ok (.iconst 1, 1) := by decide +kernel
theorem dX10_valueBy_99 : decode cX10_valueBy 99 = .ok (.isub, 1) := by decide +kernel
theorem dX10_valueBy_100 : decode cX10_valueBy 100 = .ok (.iload_n 1, 1) := by decide +kernel
theorem dX10_valueBy_101 : decode cX10_valueBy 101 = .ok (.bipush 11, 2) := by decide +kernel
theorem dX10_valueBy_103 : decode cX10_valueBy 103 = .ok (.if_icmp .ne 7, 3) := by decide +kernel
theorem dX10_valueBy_106 : decode cX10_valueBy 106 = .ok (.iconst 3, 1) := by decide +kernel
theorem dX10_valueBy_107 : decode cX10_valueBy 107 = .ok (.goto 4, 3) := by decide +kernel
theorem dX10_valueBy_110 : decode cX10_valueBy 110 = .ok (.iconst 0, 1) := by decide +kernel
theorem dX10_valueBy_111 : decode cX10_valueBy 111 = .ok (.iadd, 1) := by decide +kernel
theorem dX10_valueBy_112 : decode cX10_valueBy 112 = .ok (.ireturn, 1) := by decide +kernel
theorem dX10_valueBy_113 : decode cX10_valueBy 113 = .ok (.iconst 3, 1) := by decide +kernel
theorem dX10_valueBy_114 : decode cX10_valueBy 114 = .ok (.ireturn, 1) := by decide +kernel
theorem dX10_valueIn_0 : decode cX10_valueIn 0 = .ok (.aload_n 0, 1) := by decide +kernel
theorem dX10_valueIn_1 : decode cX10_valueIn 1 = .ok (.getfield 13, 3) := by decide +kernel
theorem dX10_valueIn_4 : decode cX10_valueIn 4 = .ok (.iload_n 1, 1) := by decide +kernel
theorem dX10_valueIn_5 : decode cX10_valueIn 5 = .ok (.iaload, 1) := by decide +kernel
theorem dX10_valueIn_6 : decode cX10_valueIn 6 = .ok (.iload_n 2, 1) := by decide +kernel
theorem dX10_valueIn_7 : decode cX10_valueIn 7 = .ok (.iload_n 2, 1) := by decide +kernel
theorem dX10_valueIn_8 : decode cX10_valueIn 8 = .ok (.ifCond .le 17, 3) := by decide +kernel
theorem dX10_valueIn_11 : decode cX10_valueIn 11 = .ok (.iload_n 3, 1) := by decide +kernel
theorem dX10_valueIn_12 : decode cX10_valueIn 12 = .ok (.iload_n 2, 1) := by decide +kernel
theorem dX10_valueIn_13 : decode cX10_valueIn 13 = .ok (.iconst 1, 1) := by decide +kernel
theorem dX10_valueIn_14 : decode cX10_valueIn 14 = .ok (.isub, 1) := by decide +kernel
theorem dX10_valueIn_15 : decode cX10_valueIn 15 = .ok (.invokestatic 151, 3) := by decide +kernel
theorem dX10_valueIn_18 : decode cX10_valueIn 18 = .ok (.ifCond .eq 7, 3) := by decide +kernel
theorem dX10_valueIn_21 : decode cX10_valueIn 21 = .ok (.iconst 1, 1) := by decide +kernel
theorem dX10_valueIn_22 : decode cX10_valueIn 22 = .ok (.goto 4, 3) := by decide +kernel
theorem dX10_valueIn_25 : decode cX10_valueIn 25 = .ok (.iconst 0, 1) := by decide +kernel
theorem dX10_valueIn_26 : decode cX10_valueIn 26 = .ok (.invokestatic 154, 3) := by decide +kernel
theorem dX10_valueIn_29 : decode cX10_valueIn 29 = .ok (.ireturn, 1) := by decide +kernel
theorem dX10_worthOf_0 : decode cX10_worthOf 0 = .ok (.iconst 0, 1) := by decide +kernel
theorem dX10_worthOf_1 : decode cX10_worthOf 1 = .ok (.istore_n 3, 1) := by decide +kernel
theorem dX10_worthOf_2 : decode cX10_worthOf 2 = .ok (.iconst 0, 1) := by decide +kernel
theorem dX10_worthOf_3 : decode cX10_worthOf 3 = .ok (.istore 4, 2) := by decide +kernel
theorem dX10_worthOf_5 : decode cX10_worthOf 5 = .ok (.iload 4, 2) := by decide +kernel
theorem dX10_worthOf_7 : decode cX10_worthOf 7 = .ok (.bipush 12, 2) := by decide +kernel
theorem dX10_worthOf_9 : decode cX10_worthOf 9 = .ok (.if_icmp .ge 33, 3) := by decide +kernel
theorem dX10_worthOf_12 : decode cX10_worthOf 12 = .ok (.iload_n 3, 1) := by decide +kernel
theorem dX10_worthOf_13 : decode cX10_worthOf 13 = .ok (.iload_n 2, 1) := by decide +kernel
theorem dX10_worthOf_14 : decode cX10_worthOf 14 = .ok (.iload 4, 2) := by decide +kernel
theorem dX10_worthOf_16 : decode cX10_worthOf 16 = .ok (.invokestatic 151, 3) := by decide +kernel
theorem dX10_worthOf_19 : decode cX10_worthOf 19 = .ok (.ifCond .eq 14, 3) := by decide +kernel
theorem dX10_worthOf_22 : decode cX10_worthOf 22 = .ok (.aload_n 0, 1) := by decide +kernel
theorem dX10_worthOf_23 : decode cX10_worthOf 23 = .ok (.iload_n 1, 1) := by decide +kernel
theorem dX10_worthOf_24 : decode cX10_worthOf 24 = .ok (.iload 4, 2) := by decide +kernel
theorem dX10_worthOf_26 : decode cX10_worthOf 26 = .ok (.iload_n 2, 1) := by decide +kernel
theorem dX10_worthOf_27 : decode cX10_worthOf 27 = .ok (.invokevirtual 158, 3) := by decide +kernel
theorem dX10_worthOf_30 : decode cX10_worthOf 30 = .ok (.goto 4, 3) := by decide +kernel
theorem dX10_worthOf_33 : decode cX10_worthOf 33 = .ok (.iconst 0, 1) := by decide +kernel
theorem dX10_worthOf_34 : decode cX10_worthOf 34 = .ok (.iadd, 1) := by decide +kernel
theorem dX10_worthOf_35 : decode cX10_worthOf 35 = .ok (.istore_n 3, 1) := by decide +kernel
theorem dX10_worthOf_36 : decode cX10_worthOf 36 = .ok (.iinc 4 1, 3) := by decide +kernel
theorem dX10_worthOf_39 : decode cX10_worthOf 39 = .ok (.goto (-34), 3) := by decide +kernel
theorem dX10_worthOf_42 : decode cX10_worthOf 42 = .ok (.iload_n 3, 1) := by decide +kernel
theorem dX10_worthOf_43 : decode cX10_worthOf 43 = .ok (.ireturn, 1) := by decide +kernel
theorem dX10_setOf_0 : decode cX10_setOf 0 = .ok (.iconst 0, 1) := by decide +kernel
theorem dX10_setOf_1 : decode cX10_setOf 1 = .ok (.istore_n 2, 1) := by decide +kernel
theorem dX10_setOf_2 : decode cX10_setOf 2 = .ok (.iconst 0, 1) := by decide +kernel
theorem dX10_setOf_3 : decode cX10_setOf 3 = .ok (.istore_n 3, 1) := by decide +kernel
theorem dX10_setOf_4 : decode cX10_setOf 4 = .ok (.iload_n 3, 1) := by decide +kernel
theorem dX10_setOf_5 : decode cX10_setOf 5 = .ok (.bipush 12, 2) := by decide +kernel
theorem dX10_setOf_7 : decode cX10_setOf 7 = .ok (.if_icmp .ge 29, 3) := by decide +kernel
theorem dX10_setOf_10 : decode cX10_setOf 10 = .ok (.iload_n 2, 1) := by decide +kernel
theorem dX10_setOf_11 : decode cX10_setOf 11 = .ok (.aload_n 0, 1) := by decide +kernel
theorem dX10_setOf_12 : decode cX10_setOf 12 = .ok (.getfield 22, 3) := by decide +kernel
theorem dX10_setOf_15 : decode cX10_setOf 15 = .ok (.iload_n 3, 1) := by decide +kernel
theorem dX10_setOf_16 : decode cX10_setOf 16 = .ok (.iaload, 1) := by decide +kernel
theorem dX10_setOf_17 : decode cX10_setOf 17 = .ok (.iload_n 1, 1) := by decide +kernel
theorem dX10_setOf_18 : decode cX10_setOf 18 = .ok (.if_icmp .ne 9, 3) := by decide +kernel
theorem dX10_setOf_21 : decode cX10_setOf 21 = .ok (.iconst 1, 1) := by decide +kernel
theorem dX10_setOf_22 : decode cX10_setOf 22 = .ok (.iload_n 3, 1) := by decide +kernel
theorem dX10_setOf_23 : decode cX10_setOf 23 = .ok (.ishl, 1) := by decide +kernel
theorem dX10_setOf_24 : decode cX10_setOf 24 = .ok (.goto 4, 3) := by decide +kernel
theorem dX10_setOf_27 : decode cX10_setOf 27 = .ok (.iconst 0, 1) := by decide +kernel
theorem dX10_setOf_28 : decode cX10_setOf 28 = .ok (.ior, 1) := by decide +kernel
theorem dX10_setOf_29 : decode cX10_setOf 29 = .ok (.istore_n 2, 1) := by decide +kernel
theorem dX10_setOf_30 : decode cX10_setOf 30 = .ok (.iinc 3 1, 3) := by decide +kernel
theorem dX10_setOf_33 : decode cX10_setOf 33 = .ok (.goto (-29), 3) := by decide +kernel
theorem dX10_setOf_36 : decode cX10_setOf 36 = .ok (.iload_n 2, 1) := by decide +kernel
theorem dX10_setOf_37 : decode cX10_setOf 37 = .ok (.ireturn, 1) := by decide +kernel
theorem dX10_ownWorth_0 : decode cX10_ownWorth 0 = .ok (.aload_n 0, 1) := by decide +kernel
theorem dX10_ownWorth_1 : decode cX10_ownWorth 1 = .ok (.iload_n 1, 1) := by decide +kernel
theorem dX10_ownWorth_2 : decode cX10_ownWorth 2 = .ok (.aload_n 0, 1) := by decide +kernel
theorem dX10_ownWorth_3 : decode cX10_ownWorth 3 = .ok (.iload_n 1, 1) := by decide +kernel
theorem dX10_ownWorth_4 : decode cX10_ownWorth 4 = .ok (.invokevirtual 161, 3) := by decide +kernel
theorem dX10_ownWorth_7 : decode cX10_ownWorth 7 = .ok (.invokevirtual 164, 3) := by decide +kernel
theorem dX10_ownWorth_10 : decode cX10_ownWorth 10 = .ok (.ireturn, 1) := by decide +kernel
theorem dX10_notes_0 : decode cX10_notes 0 = .ok (.aload_n 0, 1) := by decide +kernel
theorem dX10_notes_1 : decode cX10_notes 1 = .ok (.getfield 78, 3) := by decide +kernel
theorem dX10_notes_4 : decode cX10_notes 4 = .ok (.bipush 8, 2) := by decide +kernel
theorem dX10_notes_6 : decode cX10_notes 6 = .ok (.if_icmp .ne 42, 3) := by decide +kernel
theorem dX10_notes_9 : decode cX10_notes 9 = .ok (.iconst 0, 1) := by decide +kernel
theorem dX10_notes_10 : decode cX10_notes 10 = .ok (.istore_n 1, 1) := by decide +kernel
theorem dX10_notes_11 : decode cX10_notes 11 = .ok (.iload_n 1, 1) := by decide +kernel
theorem dX10_notes_12 : decode cX10_notes 12 = .ok (.bipush 119, 2) := by decide +kernel
theorem dX10_notes_14 : decode cX10_notes 14 = .ok (.if_icmp .ge 24, 3) := by decide +kernel
theorem dX10_notes_17 : decode cX10_notes 17 = .ok (.aload_n 0, 1) := by decide +kernel
theorem dX10_notes_18 : decode cX10_notes 18 = .ok (.getfield 46, 3) := by decide +kernel
theorem dX10_notes_21 : decode cX10_notes 21 = .ok (.iload_n 1, 1) := by decide +kernel
theorem dX10_notes_22 : decode cX10_notes 22 = .ok (.aload_n 0, 1) := by decide +kernel
theorem dX10_notes_23 : decode cX10_notes 23 = .ok (.getfield 46, 3) := by decide +kernel
theorem dX10_notes_26 : decode cX10_notes 26 = .ok (.iload_n 1, 1) := by decide +kernel
theorem dX10_notes_27 : decode cX10_notes 27 = .ok (.bipush 17, 2) := by decide +kernel
theorem dX10_notes_29 : decode cX10_notes 29 = .ok (.iadd, 1) := by decide +kernel
theorem dX10_notes_30 : decode cX10_notes 30 = .ok (.iaload, 1) := by decide +kernel
theorem dX10_notes_31 : decode cX10_notes 31 = .ok (.iastore, 1) := by decide +kernel
theorem dX10_notes_32 : decode cX10_notes 32 = .ok (.iinc 1 1, 3) := by decide +kernel
theorem dX10_notes_35 : decode cX10_notes 35 = .ok (.goto (-24), 3) := by decide +kernel
theorem dX10_notes_38 : decode cX10_notes 38 = .ok (.aload_n 0, 1) := by decide +kernel
theorem dX10_notes_39 : decode cX10_notes 39 = .ok (.dup, 1) := by decide +kernel
theorem dX10_notes_40 : decode cX10_notes 40 = .ok (.getfield 78, 3) := by decide +kernel
theorem dX10_notes_43 : decode cX10_notes 43 = .ok (.iconst 1, 1) := by decide +kernel
theorem dX10_notes_44 : decode cX10_notes 44 = .ok (.isub, 1) := by decide +kernel
theorem dX10_notes_45 : decode cX10_notes 45 = .ok (.putfield 78, 3) := by decide +kernel
theorem dX10_notes_48 : decode cX10_notes 48 = .ok (.bipush 17, 2) := by decide +kernel
theorem dX10_notes_50 : decode cX10_notes 50 = .ok (.aload_n 0, 1) := by decide +kernel
theorem dX10_notes_51 : decode cX10_notes 51 = .ok (.getfield 78, 3) := by decide +kernel
theorem dX10_notes_54 : decode cX10_notes 54 = .ok (.imul, 1) := by decide +kernel
theorem dX10_notes_55 : decode cX10_notes 55 = .ok (.istore_n 1, 1) := by decide +kernel
theorem dX10_notes_56 : decode cX10_notes 56 = .ok (.iconst 0, 1) := by decide +kernel
theorem dX10_notes_57 : decode cX10_notes 57 = .ok (.istore_n 2, 1) := by decide +kernel
theorem dX10_notes_58 : decode cX10_notes 58 = .ok (.iload_n 2, 1) := by decide +kernel
theorem dX10_notes_59 : decode cX10_notes 59 = .ok (.bipush 12, 2) := by decide +kernel
theorem dX10_notes_61 : decode cX10_notes 61 = .ok (.if_icmp .ge 23, 3) := by decide +kernel
theorem dX10_notes_64 : decode cX10_notes 64 = .ok (.aload_n 0, 1) := by decide +kernel
theorem dX10_notes_65 : decode cX10_notes 65 = .ok (.getfield 46, 3) := by decide +kernel
theorem dX10_notes_68 : decode cX10_notes 68 = .ok (.iload_n 1, 1) := by decide +kernel
theorem dX10_notes_69 : decode cX10_notes 69 = .ok (.iload_n 2, 1) := by decide +kernel
theorem dX10_notes_70 : decode cX10_notes 70 = .ok (.iadd, 1) := by decide +kernel
theorem dX10_notes_71 : decode cX10_notes 71 = .ok (.aload_n 0, 1) := by decide +kernel
theorem dX10_notes_72 : decode cX10_notes 72 = .ok (.getfield 22, 3) := by decide +kernel
theorem dX10_notes_75 : decode cX10_notes 75 = .ok (.iload_n 2, 1) := by decide +kernel
theorem dX10_notes_76 : decode cX10_notes 76 = .ok (.iaload, 1) := by decide +kernel
theorem dX10_notes_77 : decode cX10_notes 77 = .ok (.iastore, 1) := by decide +kernel
theorem dX10_notes_78 : decode cX10_notes 78 = .ok (.iinc 2 1, 3) := by decide +kernel
theorem dX10_notes_81 : decode cX10_notes 81 = .ok (.goto (-23), 3) := by decide +kernel
theorem dX10_notes_84 : decode cX10_notes 84 = .ok (.iconst 0, 1) := by decide +kernel
theorem dX10_notes_85 : decode cX10_notes 85 = .ok (.istore_n 2, 1) := by decide +kernel
theorem dX10_notes_86 : decode cX10_notes 86 = .ok (.iload_n 2, 1) := by decide +kernel
theorem dX10_notes_87 : decode cX10_notes 87 = .ok (.iconst 5, 1) := by decide +kernel
theorem dX10_notes_88 : decode cX10_notes 88 = .ok (.if_icmp .ge 26, 3) := by decide +kernel
theorem dX10_notes_91 : decode cX10_notes 91 = .ok (.aload_n 0, 1) := by decide +kernel
theorem dX10_notes_92 : decode cX10_notes 92 = .ok (.getfield 46, 3) := by decide +kernel
theorem dX10_notes_95 : decode cX10_notes 95 = .ok (.iload_n 1, 1) := by decide +kernel
theorem dX10_notes_96 : decode cX10_notes 96 = .ok (.bipush 12, 2) := by decide +kernel
theorem dX10_notes_98 : decode cX10_notes 98 = .ok (.iadd, 1) := by decide +kernel
theorem dX10_notes_99 : decode cX10_notes 99 = .ok (.iload_n 2, 1) := by decide +kernel
theorem dX10_notes_100 : decode cX10_notes 100 = .ok (.iadd, 1) := by decide +kernel
theorem dX10_notes_101 : decode cX10_notes 101 = .ok (.aload_n 0, 1) := by decide +kernel
theorem dX10_notes_102 : decode cX10_notes 102 = .ok (.getfield 19, 3) := by decide +kernel
theorem dX10_notes_105 : decode cX10_notes 105 = .ok (.iload_n 2, 1) := by decide +kernel
theorem dX10_notes_106 : decode cX10_notes 106 = .ok (.iaload, 1) := by decide +kernel
theorem dX10_notes_107 : decode cX10_notes 107 = .ok (.iastore, 1) := by decide +kernel
theorem dX10_notes_108 : decode cX10_notes 108 = .ok (.iinc 2 1, 3) := by decide +kernel
theorem dX10_notes_111 : decode cX10_notes 111 = .ok (.goto (-25), 3) := by decide +kernel
theorem dX10_notes_114 : decode cX10_notes 114 = .ok (.aload_n 0, 1) := by decide +kernel
theorem dX10_notes_115 : decode cX10_notes 115 = .ok (.dup, 1) := by decide +kernel
theorem dX10_notes_116 : decode cX10_notes 116 = .ok (.getfield 78, 3) := by decide +kernel
theorem dX10_notes_119 : decode cX10_notes 119 = .ok (.iconst 1, 1) := by decide +kernel
theorem dX10_notes_120 : decode cX10_notes 120 = .ok (.iadd, 1) := by decide +kernel
theorem dX10_notes_121 : decode cX10_notes 121 = .ok (.putfield 78, 3) := by decide +kernel
theorem dX10_notes_124 : decode cX10_notes 124 = .ok (.return_, 1) := by decide +kernel
theorem dX10_give_0 : decode cX10_give 0 = .ok (.iload_n 1, 1) := by decide +kernel
theorem dX10_give_1 : decode cX10_give 1 = .ok (.invokestatic 168, 3) := by decide +kernel
theorem dX10_give_4 : decode cX10_give 4 = .ok (.ifCond .eq 16, 3) := by decide +kernel
theorem dX10_give_7 : decode cX10_give 7 = .ok (.iload_n 2, 1) := by decide +kernel
theorem dX10_give_8 : decode cX10_give 8 = .ok (.iconst (-1), 1) := by decide +kernel
theorem dX10_give_9 : decode cX10_give 9 = .ok (.if_icmp .eq 16, 3) := by decide +kernel
theorem dX10_give_12 : decode cX10_give 12 = .ok (.aload_n 0, 1) := by decide +kernel
theorem dX10_give_13 : decode cX10_give 13 = .ok (.iload_n 2, 1) := by decide +kernel
theorem dX10_give_14 : decode cX10_give 14 = .ok (.invokevirtual 171, 3) := by decide +kernel
theorem dX10_give_17 : decode cX10_give 17 = .ok (.ifCond .ne 8, 3) := by decide +kernel
theorem dX10_give_20 : decode cX10_give 20 = .ok (.aload_n 0, 1) := by decide +kernel
theorem dX10_give_21 : decode cX10_give 21 = .ok (.invokevirtual 174, 3) := by decide +kernel
theorem dX10_give_24 : decode cX10_give 24 = .ok (.ireturn, 1) := by decide +kernel
theorem dX10_give_25 : decode cX10_give 25 = .ok (.aload_n 0, 1) := by decide +kernel
theorem dX10_give_26 : decode cX10_give 26 = .ok (.invokevirtual 177, 3) := by decide +kernel
theorem dX10_give_29 : decode cX10_give 29 = .ok (.aload_n 0, 1) := by decide +kernel
theorem dX10_give_30 : decode cX10_give 30 = .ok (.getfield 22, 3) := by decide +kernel
theorem dX10_give_33 : decode cX10_give 33 = .ok (.iload_n 1, 1) := by decide +kernel
theorem dX10_give_34 : decode cX10_give 34 = .ok (.iaload, 1) := by decide +kernel
theorem dX10_give_35 : decode cX10_give 35 = .ok (.istore_n 3, 1) := by decide +kernel
theorem dX10_give_36 : decode cX10_give 36 = .ok (.aload_n 0, 1) := by decide +kernel
theorem dX10_give_37 : decode cX10_give 37 = .ok (.getfield 22, 3) := by decide +kernel
theorem dX10_give_40 : decode cX10_give 40 = .ok (.iload_n 1, 1) := by decide +kernel
theorem dX10_give_41 : decode cX10_give 41 = .ok (.iload_n 2, 1) := by decide +kernel
theorem dX10_give_42 : decode cX10_give 42 = .ok (.iastore, 1) := by decide +kernel
theorem dX10_give_43 : decode cX10_give 43 = .ok (.iload_n 3, 1) := by decide +kernel
theorem dX10_give_44 : decode cX10_give 44 = .ok (.ireturn, 1) := by decide +kernel
theorem dX10_changes_0 : decode cX10_changes 0 = .ok (.aload_n 0, 1) := by decide +kernel
theorem dX10_changes_1 : decode cX10_changes 1 = .ok (.getfield 22, 3) := by decide +kernel
theorem dX10_changes_4 : decode cX10_changes 4 = .ok (.iload_n 1, 1) := by decide +kernel
theorem dX10_changes_5 : decode cX10_changes 5 = .ok (.iaload, 1) := by decide +kernel
theorem dX10_changes_6 : decode cX10_changes 6 = .ok (.istore_n 3, 1) := by decide +kernel
theorem dX10_changes_7 : decode cX10_changes 7 = .ok (.aload_n 0, 1) := by decide +kernel
theorem dX10_changes_8 : decode cX10_changes 8 = .ok (.getfield 22, 3) := by decide +kernel
theorem dX10_changes_11 : decode cX10_changes 11 = .ok (.iload_n 1, 1) := by decide +kernel
theorem dX10_changes_12 : decode cX10_changes 12 = .ok (.aload_n 0, 1) := by decide +kernel
theorem dX10_changes_13 : decode cX10_changes 13 = .ok (.getfield 22, 3) := by decide +kernel
theorem dX10_changes_16 : decode cX10_changes 16 = .ok (.iload_n 2, 1) := by decide +kernel
theorem dX10_changes_17 : decode cX10_changes 17 = .ok (.iaload, 1) := by decide +kernel
theorem dX10_changes_18 : decode cX10_changes 18 = .ok (.iastore, 1) := by decide +kernel
theorem dX10_changes_19 : decode cX10_changes 19 = .ok (.aload_n 0, 1) := by decide +kernel
theorem dX10_changes_20 : decode cX10_changes 20 = .ok (.getfield 22, 3) := by decide +kernel
theorem dX10_changes_23 : decode cX10_changes 23 = .ok (.iload_n 2, 1) := by decide +kernel
theorem dX10_changes_24 : decode cX10_changes 24 = .ok (.iload_n 3, 1) := by decide +kernel
theorem dX10_changes_25 : decode cX10_changes 25 = .ok (.iastore, 1) := by decide +kernel
theorem dX10_changes_26 : decode cX10_changes 26 = .ok (.return_, 1) := by decide +kernel
theorem dX10_swap_0 : decode cX10_swap 0 = .ok (.iload_n 1, 1) := by decide +kernel
theorem dX10_swap_1 : decode cX10_swap 1 = .ok (.invokestatic 168, 3) := by decide +kernel
theorem dX10_swap_4 : decode cX10_swap 4 = .ok (.ifCond .eq 15, 3) := by decide +kernel
theorem dX10_swap_7 : decode cX10_swap 7 = .ok (.iload_n 2, 1) := by decide +kernel
theorem dX10_swap_8 : decode cX10_swap 8 = .ok (.invokestatic 168, 3) := by decide +kernel
theorem dX10_swap_11 : decode cX10_swap 11 = .ok (.ifCond .eq 8, 3) := by decide +kernel
theorem dX10_swap_14 : decode cX10_swap 14 = .ok (.iload_n 1, 1) := by decide +kernel
theorem dX10_swap_15 : decode cX10_swap 15 = .ok (.iload_n 2, 1) := by decide +kernel
theorem dX10_swap_16 : decode cX10_swap 16 = .ok (.if_icmp .ne 8, 3) := by decide +kernel
theorem dX10_swap_19 : decode cX10_swap 19 = .ok (.aload_n 0, 1) := by decide +kernel
theorem dX10_swap_20 : decode cX10_swap 20 = .ok (.invokevirtual 85, 3) := by decide +kernel
theorem dX10_swap_23 : decode cX10_swap 23 = .ok (.ireturn, 1) := by decide +kernel
theorem dX10_swap_24 : decode cX10_swap 24 = .ok (.aload_n 0, 1) := by decide +kernel
theorem dX10_swap_25 : decode cX10_swap 25 = .ok (.getfield 22, 3) := by decide +kernel
theorem dX10_swap_28 : decode cX10_swap 28 = .ok (.iload_n 1, 1) := by decide +kernel
theorem dX10_swap_29 : decode cX10_swap 29 = .ok (.iaload, 1) := by decide +kernel
theorem dX10_swap_30 : decode cX10_swap 30 = .ok (.iconst (-1), 1) := by decide +kernel
theorem dX10_swap_31 : decode cX10_swap 31 = .ok (.if_icmp .eq 28, 3) := by decide +kernel
theorem dX10_swap_34 : decode cX10_swap 34 = .ok (.aload_n 0, 1) := by decide +kernel
theorem dX10_swap_35 : decode cX10_swap 35 = .ok (.getfield 22, 3) := by decide +kernel
theorem dX10_swap_38 : decode cX10_swap 38 = .ok (.iload_n 2, 1) := by decide +kernel
theorem dX10_swap_39 : decode cX10_swap 39 = .ok (.iaload, 1) := by decide +kernel
theorem dX10_swap_40 : decode cX10_swap 40 = .ok (.iconst (-1), 1) := by decide +kernel
theorem dX10_swap_41 : decode cX10_swap 41 = .ok (.if_icmp .eq 18, 3) := by decide +kernel
theorem dX10_swap_44 : decode cX10_swap 44 = .ok (.aload_n 0, 1) := by decide +kernel
theorem dX10_swap_45 : decode cX10_swap 45 = .ok (.getfield 22, 3) := by decide +kernel
theorem dX10_swap_48 : decode cX10_swap 48 = .ok (.iload_n 1, 1) := by decide +kernel
theorem dX10_swap_49 : decode cX10_swap 49 = .ok (.iaload, 1) := by decide +kernel
theorem dX10_swap_50 : decode cX10_swap 50 = .ok (.aload_n 0, 1) := by decide +kernel
theorem dX10_swap_51 : decode cX10_swap 51 = .ok (.getfield 22, 3) := by decide +kernel
theorem dX10_swap_54 : decode cX10_swap 54 = .ok (.iload_n 2, 1) := by decide +kernel
theorem dX10_swap_55 : decode cX10_swap 55 = .ok (.iaload, 1) := by decide +kernel
theorem dX10_swap_56 : decode cX10_swap 56 = .ok (.if_icmp .ne 8, 3) := by decide +kernel
theorem dX10_swap_59 : decode cX10_swap 59 = .ok (.aload_n 0, 1) := by decide +kernel
theorem dX10_swap_60 : decode cX10_swap 60 = .ok (.invokevirtual 180, 3) := by decide +kernel
theorem dX10_swap_63 : decode cX10_swap 63 = .ok (.ireturn, 1) := by decide +kernel
theorem dX10_swap_64 : decode cX10_swap 64 = .ok (.aload_n 0, 1) := by decide +kernel
theorem dX10_swap_65 : decode cX10_swap 65 = .ok (.invokevirtual 177, 3) := by decide +kernel
theorem dX10_swap_68 : decode cX10_swap 68 = .ok (.aload_n 0, 1) := by decide +kernel
theorem dX10_swap_69 : decode cX10_swap 69 = .ok (.iload_n 1, 1) := by decide +kernel
theorem dX10_swap_70 : decode cX10_swap 70 = .ok (.iload_n 2, 1) := by decide +kernel
theorem dX10_swap_71 : decode cX10_swap 71 = .ok (.invokevirtual 183, 3) := by decide +kernel
theorem dX10_swap_74 : decode cX10_swap 74 = .ok (.iconst 1, 1) := by decide +kernel
theorem dX10_swap_75 : decode cX10_swap 75 = .ok (.ireturn, 1) := by decide +kernel
theorem dX10_sell_0 : decode cX10_sell 0 = .ok (.iload_n 1, 1) := by decide +kernel
theorem dX10_sell_1 : decode cX10_sell 1 = .ok (.invokestatic 168, 3) := by decide +kernel
theorem dX10_sell_4 : decode cX10_sell 4 = .ok (.ifCond .eq 21, 3) := by decide +kernel
theorem dX10_sell_7 : decode cX10_sell 7 = .ok (.aload_n 0, 1) := by decide +kernel
theorem dX10_sell_8 : decode cX10_sell 8 = .ok (.iload_n 2, 1) := by decide +kernel
theorem dX10_sell_9 : decode cX10_sell 9 = .ok (.invokevirtual 171, 3) := by decide +kernel
theorem dX10_sell_12 : decode cX10_sell 12 = .ok (.ifCond .eq 13, 3) := by decide +kernel
theorem dX10_sell_15 : decode cX10_sell 15 = .ok (.iload_n 3, 1) := by decide +kernel
theorem dX10_sell_16 : decode cX10_sell 16 = .ok (.iconst 0, 1) := by decide +kernel
theorem dX10_sell_17 : decode cX10_sell 17 = .ok (.bipush 40, 2) := by decide +kernel
theorem dX10_sell_19 : decode cX10_sell 19 = .ok (.invokestatic 81, 3) := by decide +kernel
theorem dX10_sell_22 : decode cX10_sell 22 = .ok (.ifCond .ne 8, 3) := by decide +kernel
theorem dX10_sell_25 : decode cX10_sell 25 = .ok (.aload_n 0, 1) := by decide +kernel
theorem dX10_sell_26 : decode cX10_sell 26 = .ok (.invokevirtual 85, 3) := by decide +kernel
theorem dX10_sell_29 : decode cX10_sell 29 = .ok (.ireturn, 1) := by decide +kernel
theorem dX10_sell_30 : decode cX10_sell 30 = .ok (.aload_n 0, 1) := by decide +kernel
theorem dX10_sell_31 : decode cX10_sell 31 = .ok (.getfield 22, 3) := by decide +kernel
theorem dX10_sell_34 : decode cX10_sell 34 = .ok (.iload_n 1, 1) := by decide +kernel
theorem dX10_sell_35 : decode cX10_sell 35 = .ok (.iaload, 1) := by decide +kernel
theorem dX10_sell_36 : decode cX10_sell 36 = .ok (.iload_n 2, 1) := by decide +kernel
theorem dX10_sell_37 : decode cX10_sell 37 = .ok (.if_icmp .eq 13, 3) := by decide +kernel
theorem dX10_sell_40 : decode cX10_sell 40 = .ok (.aload_n 0, 1) := by decide +kernel
theorem dX10_sell_41 : decode cX10_sell 41 = .ok (.getfield 19, 3) := by decide +kernel
theorem dX10_sell_44 : decode cX10_sell 44 = .ok (.iload_n 2, 1) := by decide +kernel
theorem dX10_sell_45 : decode cX10_sell 45 = .ok (.iaload, 1) := by decide +kernel
theorem dX10_sell_46 : decode cX10_sell 46 = .ok (.iload_n 3, 1) := by decide +kernel
theorem dX10_sell_47 : decode cX10_sell 47 = .ok (.if_icmp .ge 8, 3) := by decide +kernel
theorem dX10_sell_50 : decode cX10_sell 50 = .ok (.aload_n 0, 1) := by decide +kernel
theorem dX10_sell_51 : decode cX10_sell 51 = .ok (.invokevirtual 180, 3) := by decide +kernel
theorem dX10_sell_54 : decode cX10_sell 54 = .ok (.ireturn, 1) := by decide +kernel
theorem dX10_sell_55 : decode cX10_sell 55 = .ok (.aload_n 0, 1) := by decide +kernel
theorem dX10_sell_56 : decode cX10_sell 56 = .ok (.invokevirtual 177, 3) := by decide +kernel
theorem dX10_sell_59 : decode cX10_sell 59 = .ok (.aload_n 0, 1) := by decide +kernel
theorem dX10_sell_60 : decode cX10_sell 60 = .ok (.getfield 19, 3) := by decide +kernel
theorem dX10_sell_63 : decode cX10_sell 63 = .ok (.iload_n 2, 1) := by decide +kernel
theorem dX10_sell_64 : decode cX10_sell 64 = .ok (.dup2, 1) := by decide +kernel
theorem dX10_sell_65 : decode cX10_sell 65 = .ok (.iaload, 1) := by decide +kernel
theorem dX10_sell_66 : decode cX10_sell 66 = .ok (.iload_n 3, 1) := by decide +kernel
theorem dX10_sell_67 : decode cX10_sell 67 = .ok (.isub, 1) := by decide +kernel
theorem dX10_sell_68 : decode cX10_sell 68 = .ok (.iastore, 1) := by decide +kernel
theorem dX10_sell_69 : decode cX10_sell 69 = .ok (.aload_n 0, 1) := by decide +kernel
theorem dX10_sell_70 : decode cX10_sell 70 = .ok (.getfield 22, 3) := by decide +kernel
theorem dX10_sell_73 : decode cX10_sell 73 = .ok (.iload_n 1, 1) := by decide +kernel
theorem dX10_sell_74 : decode cX10_sell 74 = .ok (.iaload, 1) := by decide +kernel
theorem dX10_sell_75 : decode cX10_sell 75 = .ok (.iconst (-1), 1) := by decide +kernel
theorem dX10_sell_76 : decode cX10_sell 76 = .ok (.if_icmp .eq 18, 3) := by decide +kernel
theorem dX10_sell_79 : decode cX10_sell 79 = .ok (.aload_n 0, 1) := by decide +kernel
theorem dX10_sell_80 : decode cX10_sell 80 = .ok (.getfield 19, 3) := by decide +kernel
theorem dX10_sell_83 : decode cX10_sell 83 = .ok (.aload_n 0, 1) := by decide +kernel
theorem dX10_sell_84 : decode cX10_sell 84 = .ok (.getfield 22, 3) := by decide +kernel
theorem dX10_sell_87 : decode cX10_sell 87 = .ok (.iload_n 1, 1) := by decide +kernel
theorem dX10_sell_88 : decode cX10_sell 88 = .ok (.iaload, 1) := by decide +kernel
theorem dX10_sell_89 : decode cX10_sell 89 = .ok (.dup2, 1) := by decide +kernel
theorem dX10_sell_90 : decode cX10_sell 90 = .ok (.iaload, 1) := by decide +kernel
theorem dX10_sell_91 : decode cX10_sell 91 = .ok (.iload_n 3, 1) := by decide +kernel
theorem dX10_sell_92 : decode cX10_sell 92 = .ok (.iadd, 1) := by decide +kernel
theorem dX10_sell_93 : decode cX10_sell 93 = .ok (.iastore, 1) := by decide +kernel
theorem dX10_sell_94 : decode cX10_sell 94 = .ok (.aload_n 0, 1) := by decide +kernel
theorem dX10_sell_95 : decode cX10_sell 95 = .ok (.getfield 22, 3) := by decide +kernel
theorem dX10_sell_98 : decode cX10_sell 98 = .ok (.iload_n 1, 1) := by decide +kernel
theorem dX10_sell_99 : decode cX10_sell 99 = .ok (.iload_n 2, 1) := by decide +kernel
theorem dX10_sell_100 : decode cX10_sell 100 = .ok (.iastore, 1) := by decide +kernel
theorem dX10_sell_101 : decode cX10_sell 101 = .ok (.aload_n 0, 1) := by decide +kernel
theorem dX10_sell_102 : decode cX10_sell 102 = .ok (.getfield 19, 3) := by decide +kernel
theorem dX10_sell_105 : decode cX10_sell 105 = .ok (.iload_n 2, 1) := by decide +kernel
theorem dX10_sell_106 : decode cX10_sell 106 = .ok (.iaload, 1) := by decide +kernel
theorem dX10_sell_107 : decode cX10_sell 107 = .ok (.ireturn, 1) := by decide +kernel
theorem dX10_greyMany_0 : decode cX10_greyMany 0 = .ok (.aload_n 0, 1) := by decide +kernel
theorem dX10_greyMany_1 : decode cX10_greyMany 1 = .ok (.iconst (-1), 1) := by decide +kernel
theorem dX10_greyMany_2 : decode cX10_greyMany 2 = .ok (.invokevirtual 161, 3) := by decide +kernel
theorem dX10_greyMany_5 : decode cX10_greyMany 5 = .ok (.invokestatic 187, 3) := by decide +kernel
theorem dX10_greyMany_8 : decode cX10_greyMany 8 = .ok (.ireturn, 1) := by decide +kernel
theorem dX10_undo_0 : decode cX10_undo 0 = .ok (.aload_n 0, 1) := by decide +kernel
theorem dX10_undo_1 : decode cX10_undo 1 = .ok (.getfield 78, 3) := by decide +kernel
theorem dX10_undo_4 : decode cX10_undo 4 = .ok (.ifCond .ne 8, 3) := by decide +kernel
theorem dX10_undo_7 : decode cX10_undo 7 = .ok (.aload_n 0, 1) := by decide +kernel
theorem dX10_undo_8 : decode cX10_undo 8 = .ok (.invokevirtual 180, 3) := by decide +kernel
theorem dX10_undo_11 : decode cX10_undo 11 = .ok (.ireturn, 1) := by decide +kernel
theorem dX10_undo_12 : decode cX10_undo 12 = .ok (.aload_n 0, 1) := by decide +kernel
theorem dX10_undo_13 : decode cX10_undo 13 = .ok (.dup, 1) := by decide +kernel
theorem dX10_undo_14 : decode cX10_undo 14 = .ok (.getfield 78, 3) := by decide +kernel
theorem dX10_undo_17 : decode cX10_undo 17 = .ok (.iconst 1, 1) := by decide +kernel
theorem dX10_undo_18 : decode cX10_undo 18 = .ok (.isub, 1) := by decide +kernel
theorem dX10_undo_19 : decode cX10_undo 19 = .ok (.putfield 78, 3) := by decide +kernel
theorem dX10_undo_22 : decode cX10_undo 22 = .ok (.bipush 17, 2) := by decide +kernel
theorem dX10_undo_24 : decode cX10_undo 24 = .ok (.aload_n 0, 1) := by decide +kernel
theorem dX10_undo_25 : decode cX10_undo 25 = .ok (.getfield 78, 3) := by decide +kernel
theorem dX10_undo_28 : decode cX10_undo 28 = .ok (.imul, 1) := by decide +kernel
theorem dX10_undo_29 : decode cX10_undo 29 = .ok (.istore_n 1, 1) := by decide +kernel
theorem dX10_undo_30 : decode cX10_undo 30 = .ok (.iconst 0, 1) := by decide +kernel
theorem dX10_undo_31 : decode cX10_undo 31 = .ok (.istore_n 2, 1) := by decide +kernel
theorem dX10_undo_32 : decode cX10_undo 32 = .ok (.iload_n 2, 1) := by decide +kernel
theorem dX10_undo_33 : decode cX10_undo 33 = .ok (.bipush 12, 2) := by decide +kernel
theorem dX10_undo_35 : decode cX10_undo 35 = .ok (.if_icmp .ge 23, 3) := by decide +kernel
theorem dX10_undo_38 : decode cX10_undo 38 = .ok (.aload_n 0, 1) := by decide +kernel
theorem dX10_undo_39 : decode cX10_undo 39 = .ok (.getfield 22, 3) := by decide +kernel
theorem dX10_undo_42 : decode cX10_undo 42 = .ok (.iload_n 2, 1) := by decide +kernel
theorem dX10_undo_43 : decode cX10_undo 43 = .ok (.aload_n 0, 1) := by decide +kernel
theorem dX10_undo_44 : decode cX10_undo 44 = .ok (.getfield 46, 3) := by decide +kernel
theorem dX10_undo_47 : decode cX10_undo 47 = .ok (.iload_n 1, 1) := by decide +kernel
theorem dX10_undo_48 : decode cX10_undo 48 = .ok (.iload_n 2, 1) := by decide +kernel
theorem dX10_undo_49 : decode cX10_undo 49 = .ok (.iadd, 1) := by decide +kernel
theorem dX10_undo_50 : decode cX10_undo 50 = .ok (.iaload, 1) := by decide +kernel
theorem dX10_undo_51 : decode cX10_undo 51 = .ok (.iastore, 1) := by decide +kernel
theorem dX10_undo_52 : decode cX10_undo 52 = .ok (.iinc 2 1, 3) := by decide +kernel
theorem dX10_undo_55 : decode cX10_undo 55 = .ok (.goto (-23), 3) := by decide +kernel
theorem dX10_undo_58 : decode cX10_undo 58 = .ok (.iconst 0, 1) := by decide +kernel
theorem dX10_undo_59 : decode cX10_undo 59 = .ok (.istore_n 2, 1) := by decide +kernel
theorem dX10_undo_60 : decode cX10_undo 60 = .ok (.iload_n 2, 1) := by decide +kernel
theorem dX10_undo_61 : decode cX10_undo 61 = .ok (.iconst 5, 1) := by decide +kernel
theorem dX10_undo_62 : decode cX10_undo 62 = .ok (.if_icmp .ge 26, 3) := by decide +kernel
theorem dX10_undo_65 : decode cX10_undo 65 = .ok (.aload_n 0, 1) := by decide +kernel
theorem dX10_undo_66 : decode cX10_undo 66 = .ok (.getfield 19, 3) := by decide +kernel
theorem dX10_undo_69 : decode cX10_undo 69 = .ok (.iload_n 2, 1) := by decide +kernel
theorem dX10_undo_70 : decode cX10_undo 70 = .ok (.aload_n 0, 1) := by decide +kernel
theorem dX10_undo_71 : decode cX10_undo 71 = .ok (.getfield 46, 3) := by decide +kernel
theorem dX10_undo_74 : decode cX10_undo 74 = .ok (.iload_n 1, 1) := by decide +kernel
theorem dX10_undo_75 : decode cX10_undo 75 = .ok (.bipush 12, 2) := by decide +kernel
theorem dX10_undo_77 : decode cX10_undo 77 = .ok (.iadd, 1) := by decide +kernel
theorem dX10_undo_78 : decode cX10_undo 78 = .ok (.iload_n 2, 1) := by decide +kernel
theorem dX10_undo_79 : decode cX10_undo 79 = .ok (.iadd, 1) := by decide +kernel
theorem dX10_undo_80 : decode cX10_undo 80 = .ok (.iaload, 1) := by decide +kernel
theorem dX10_undo_81 : decode cX10_undo 81 = .ok (.iastore, 1) := by decide +kernel
theorem dX10_undo_82 : decode cX10_undo 82 = .ok (.iinc 2 1, 3) := by decide +kernel
theorem dX10_undo_85 : decode cX10_undo 85 = .ok (.goto (-25), 3) := by decide +kernel
theorem dX10_undo_88 : decode cX10_undo 88 = .ok (.aload_n 0, 1) := by decide +kernel
theorem dX10_undo_89 : decode cX10_undo 89 = .ok (.invokevirtual 190, 3) := by decide +kernel
theorem dX10_undo_92 : decode cX10_undo 92 = .ok (.ireturn, 1) := by decide +kernel
theorem dX10_of_0 : decode cX10_of 0 = .ok (.aload_n 0, 1) := by decide +kernel
theorem dX10_of_1 : decode cX10_of 1 = .ok (.iload_n 1, 1) := by decide +kernel
theorem dX10_of_2 : decode cX10_of 2 = .ok (.invokevirtual 171, 3) := by decide +kernel
theorem dX10_of_5 : decode cX10_of 5 = .ok (.ifCond .eq 12, 3) := by decide +kernel
theorem dX10_of_8 : decode cX10_of 8 = .ok (.iload_n 2, 1) := by decide +kernel
theorem dX10_of_9 : decode cX10_of 9 = .ok (.iconst 0, 1) := by decide +kernel
theorem dX10_of_10 : decode cX10_of 10 = .ok (.iconst 4, 1) := by decide +kernel
theorem dX10_of_11 : decode cX10_of 11 = .ok (.invokestatic 81, 3) := by decide +kernel
theorem dX10_of_14 : decode cX10_of 14 = .ok (.ifCond .ne 8, 3) := by decide +kernel
theorem dX10_of_17 : decode cX10_of 17 = .ok (.aload_n 0, 1) := by decide +kernel
theorem dX10_of_18 : decode cX10_of 18 = .ok (.invokevirtual 85, 3) := by decide +kernel
theorem dX10_of_21 : decode cX10_of 21 = .ok (.ireturn, 1) := by decide +kernel
theorem dX10_of_22 : decode cX10_of 22 = .ok (.iload_n 2, 1) := by decide +kernel
theorem dX10_of_23 : decode cX10_of 23 = .ok (.tableswitch 56 0 3 #[29, 36, 43, 50], 29) := by decide +kernel
theorem dX10_of_52 : decode cX10_of 52 = .ok (.aload_n 0, 1) := by decide +kernel
theorem dX10_of_53 : decode cX10_of 53 = .ok (.getfield 13, 3) := by decide +kernel
theorem dX10_of_56 : decode cX10_of 56 = .ok (.iload_n 1, 1) := by decide +kernel
theorem dX10_of_57 : decode cX10_of 57 = .ok (.iaload, 1) := by decide +kernel
theorem dX10_of_58 : decode cX10_of 58 = .ok (.ireturn, 1) := by decide +kernel
theorem dX10_of_59 : decode cX10_of 59 = .ok (.aload_n 0, 1) := by decide +kernel
theorem dX10_of_60 : decode cX10_of 60 = .ok (.getfield 16, 3) := by decide +kernel
theorem dX10_of_63 : decode cX10_of 63 = .ok (.iload_n 1, 1) := by decide +kernel
theorem dX10_of_64 : decode cX10_of 64 = .ok (.iaload, 1) := by decide +kernel
theorem dX10_of_65 : decode cX10_of 65 = .ok (.ireturn, 1) := by decide +kernel
theorem dX10_of_66 : decode cX10_of 66 = .ok (.aload_n 0, 1) := by decide +kernel
theorem dX10_of_67 : decode cX10_of 67 = .ok (.getfield 19, 3) := by decide +kernel
theorem dX10_of_70 : decode cX10_of 70 = .ok (.iload_n 1, 1) := by decide +kernel
theorem dX10_of_71 : decode cX10_of 71 = .ok (.iaload, 1) := by decide +kernel
theorem dX10_of_72 : decode cX10_of 72 = .ok (.ireturn, 1) := by decide +kernel
theorem dX10_of_73 : decode cX10_of 73 = .ok (.aload_n 0, 1) := by decide +kernel
theorem dX10_of_74 : decode cX10_of 74 = .ok (.iload_n 1, 1) := by decide +kernel
theorem dX10_of_75 : decode cX10_of 75 = .ok (.invokevirtual 161, 3) := by decide +kernel
theorem dX10_of_78 : decode cX10_of 78 = .ok (.ireturn, 1) := by decide +kernel
theorem dX10_of_79 : decode cX10_of 79 = .ok (.aload_n 0, 1) := by decide +kernel
theorem dX10_of_80 : decode cX10_of 80 = .ok (.iload_n 1, 1) := by decide +kernel
theorem dX10_of_81 : decode cX10_of 81 = .ok (.invokevirtual 193, 3) := by decide +kernel
theorem dX10_of_84 : decode cX10_of 84 = .ok (.ireturn, 1) := by decide +kernel
theorem dX10_worth_0 : decode cX10_worth 0 = .ok (.aload_n 0, 1) := by decide +kernel
theorem dX10_worth_1 : decode cX10_worth 1 = .ok (.iload_n 1, 1) := by decide +kernel
theorem dX10_worth_2 : decode cX10_worth 2 = .ok (.invokevirtual 171, 3) := by decide +kernel
theorem dX10_worth_5 : decode cX10_worth 5 = .ok (.ifCond .eq 23, 3) := by decide +kernel
theorem dX10_worth_8 : decode cX10_worth 8 = .ok (.iload_n 2, 1) := by decide +kernel
theorem dX10_worth_9 : decode cX10_worth 9 = .ok (.iconst 0, 1) := by decide +kernel
theorem dX10_worth_10 : decode cX10_worth 10 = .ok (.sipush 4095, 3) := by decide +kernel
theorem dX10_worth_13 : decode cX10_worth 13 = .ok (.invokestatic 81, 3) := by decide +kernel
theorem dX10_worth_16 : decode cX10_worth 16 = .ok (.ifCond .eq 12, 3) := by decide +kernel
theorem dX10_worth_19 : decode cX10_worth 19 = .ok (.aload_n 0, 1) := by decide +kernel
theorem dX10_worth_20 : decode cX10_worth 20 = .ok (.iload_n 1, 1) := by decide +kernel
theorem dX10_worth_21 : decode cX10_worth 21 = .ok (.iload_n 2, 1) := by decide +kernel
theorem dX10_worth_22 : decode cX10_worth 22 = .ok (.invokevirtual 164, 3) := by decide +kernel
theorem dX10_worth_25 : decode cX10_worth 25 = .ok (.goto 7, 3) := by decide +kernel
theorem dX10_worth_28 : decode cX10_worth 28 = .ok (.aload_n 0, 1) := by decide +kernel
theorem dX10_worth_29 : decode cX10_worth 29 = .ok (.invokevirtual 85, 3) := by decide +kernel
theorem dX10_worth_32 : decode cX10_worth 32 = .ok (.ireturn, 1) := by decide +kernel
theorem dX10_whose_0 : decode cX10_whose 0 = .ok (.iload_n 1, 1) := by decide +kernel
theorem dX10_whose_1 : decode cX10_whose 1 = .ok (.invokestatic 168, 3) := by decide +kernel
theorem dX10_whose_4 : decode cX10_whose 4 = .ok (.ifCond .eq 12, 3) := by decide +kernel
theorem dX10_whose_7 : decode cX10_whose 7 = .ok (.aload_n 0, 1) := by decide +kernel
theorem dX10_whose_8 : decode cX10_whose 8 = .ok (.getfield 22, 3) := by decide +kernel
theorem dX10_whose_11 : decode cX10_whose 11 = .ok (.iload_n 1, 1) := by decide +kernel
theorem dX10_whose_12 : decode cX10_whose 12 = .ok (.iaload, 1) := by decide +kernel
theorem dX10_whose_13 : decode cX10_whose 13 = .ok (.goto 7, 3) := by decide +kernel
theorem dX10_whose_16 : decode cX10_whose 16 = .ok (.aload_n 0, 1) := by decide +kernel
theorem dX10_whose_17 : decode cX10_whose 17 = .ok (.invokevirtual 174, 3) := by decide +kernel
theorem dX10_whose_20 : decode cX10_whose 20 = .ok (.ireturn, 1) := by decide +kernel
theorem dX10_enough_0 : decode cX10_enough 0 = .ok (.iconst 0, 1) := by decide +kernel
theorem dX10_enough_1 : decode cX10_enough 1 = .ok (.istore_n 1, 1) := by decide +kernel
theorem dX10_enough_2 : decode cX10_enough 2 = .ok (.iconst 0, 1) := by decide +kernel
theorem dX10_enough_3 : decode cX10_enough 3 = .ok (.istore_n 2, 1) := by decide +kernel
theorem dX10_enough_4 : decode cX10_enough 4 = .ok (.iload_n 2, 1) := by decide +kernel
theorem dX10_enough_5 : decode cX10_enough 5 = .ok (.aload_n 0, 1) := by decide +kernel
theorem dX10_enough_6 : decode cX10_enough 6 = .ok (.getfield 71, 3) := by decide +kernel
theorem dX10_enough_9 : decode cX10_enough 9 = .ok (.if_icmp .ge 36, 3) := by decide +kernel
theorem dX10_enough_12 : decode cX10_enough 12 = .ok (.iload_n 1, 1) := by decide +kernel
theorem dX10_enough_13 : decode cX10_enough 13 = .ok (.aload_n 0, 1) := by decide +kernel
theorem dX10_enough_14 : decode cX10_enough 14 = .ok (.iload_n 2, 1) := by decide +kernel
theorem dX10_enough_15 : decode cX10_enough 15 = .ok (.invokevirtual 161, 3) := by decide +kernel
theorem dX10_enough_18 : decode cX10_enough 18 = .ok (.invokestatic 187, 3) := by decide +kernel
theorem dX10_enough_21 : decode cX10_enough 21 = .ok (.aload_n 0, 1) := by decide +kernel
theorem dX10_enough_22 : decode cX10_enough 22 = .ok (.getfield 16, 3) := by decide +kernel
theorem dX10_enough_25 : decode cX10_enough 25 = .ok (.iload_n 2, 1) := by decide +kernel
theorem dX10_enough_26 : decode cX10_enough 26 = .ok (.iaload, 1) := by decide +kernel
theorem dX10_enough_27 : decode cX10_enough 27 = .ok (.if_icmp .lt 9, 3) := by decide +kernel
theorem dX10_enough_30 : decode cX10_enough 30 = .ok (.iconst 1, 1) := by decide +kernel
theorem dX10_enough_31 : decode cX10_enough 31 = .ok (.iload_n 2, 1) := by decide +kernel
theorem dX10_enough_32 : decode cX10_enough 32 = .ok (.ishl, 1) := by decide +kernel
theorem dX10_enough_33 : decode cX10_enough 33 = .ok (.goto 4, 3) := by decide +kernel
theorem dX10_enough_36 : decode cX10_enough 36 = .ok (.iconst 0, 1) := by decide +kernel
theorem dX10_enough_37 : decode cX10_enough 37 = .ok (.ior, 1) := by decide +kernel
theorem dX10_enough_38 : decode cX10_enough 38 = .ok (.istore_n 1, 1) := by decide +kernel
theorem dX10_enough_39 : decode cX10_enough 39 = .ok (.iinc 2 1, 3) := by decide +kernel
theorem dX10_enough_42 : decode cX10_enough 42 = .ok (.goto (-38), 3) := by decide +kernel
theorem dX10_enough_45 : decode cX10_enough 45 = .ok (.iload_n 1, 1) := by decide +kernel
theorem dX10_enough_46 : decode cX10_enough 46 = .ok (.ireturn, 1) := by decide +kernel
theorem dX10_envy_0 : decode cX10_envy 0 = .ok (.aload_n 0, 1) := by decide +kernel
theorem dX10_envy_1 : decode cX10_envy 1 = .ok (.iload_n 1, 1) := by decide +kernel
theorem dX10_envy_2 : decode cX10_envy 2 = .ok (.invokevirtual 171, 3) := by decide +kernel
theorem dX10_envy_5 : decode cX10_envy 5 = .ok (.ifCond .ne 8, 3) := by decide +kernel
theorem dX10_envy_8 : decode cX10_envy 8 = .ok (.aload_n 0, 1) := by decide +kernel
theorem dX10_envy_9 : decode cX10_envy 9 = .ok (.invokevirtual 85, 3) := by decide +kernel
theorem dX10_envy_12 : decode cX10_envy 12 = .ok (.ireturn, 1) := by decide +kernel
theorem dX10_envy_13 : decode cX10_envy 13 = .ok (.iconst 0, 1) := by decide +kernel
theorem dX10_envy_14 : decode cX10_envy 14 = .ok (.istore_n 2, 1) := by decide +kernel
theorem dX10_envy_15 : decode cX10_envy 15 = .ok (.iconst 0, 1) := by decide +kernel
theorem dX10_envy_16 : decode cX10_envy 16 = .ok (.istore_n 3, 1) := by decide +kernel
theorem dX10_envy_17 : decode cX10_envy 17 = .ok (.iload_n 3, 1) := by decide +kernel
theorem dX10_envy_18 : decode cX10_envy 18 = .ok (.aload_n 0, 1) := by decide +kernel
theorem dX10_envy_19 : decode cX10_envy 19 = .ok (.getfield 71, 3) := by decide +kernel
theorem dX10_envy_22 : decode cX10_envy 22 = .ok (.if_icmp .ge 37, 3) := by decide +kernel
theorem dX10_envy_25 : decode cX10_envy 25 = .ok (.iload_n 2, 1) := by decide +kernel
theorem dX10_envy_26 : decode cX10_envy 26 = .ok (.aload_n 0, 1) := by decide +kernel
theorem dX10_envy_27 : decode cX10_envy 27 = .ok (.iload_n 1, 1) := by decide +kernel
theorem dX10_envy_28 : decode cX10_envy 28 = .ok (.aload_n 0, 1) := by decide +kernel
theorem dX10_envy_29 : decode cX10_envy 29 = .ok (.iload_n 3, 1) := by decide +kernel
theorem dX10_envy_30 : decode cX10_envy 30 = .ok (.invokevirtual 161, 3) := by decide +kernel
theorem dX10_envy_33 : decode cX10_envy 33 = .ok (.invokevirtual 164, 3) := by decide +kernel
theorem dX10_envy_36 : decode cX10_envy 36 = .ok (.aload_n 0, 1) := by decide +kernel
theorem dX10_envy_37 : decode cX10_envy 37 = .ok (.iload_n 1, 1) := by decide +kernel
theorem dX10_envy_38 : decode cX10_envy 38 = .ok (.invokevirtual 193, 3) := by decide +kernel
theorem dX10_envy_41 : decode cX10_envy 41 = .ok (.if_icmp .le 9, 3) := by decide +kernel
theorem dX10_envy_44 : decode cX10_envy 44 = .ok (.iconst 1, 1) := by decide +kernel
theorem dX10_envy_45 : decode cX10_envy 45 = .ok (.iload_n 3, 1) := by decide +kernel
theorem dX10_envy_46 : decode cX10_envy 46 = .ok (.ishl, 1) := by decide +kernel
theorem dX10_envy_47 : decode cX10_envy 47 = .ok (.goto 4, 3) := by decide +kernel
theorem dX10_envy_50 : decode cX10_envy 50 = .ok (.iconst 0, 1) := by decide +kernel
theorem dX10_envy_51 : decode cX10_envy 51 = .ok (.ior, 1) := by decide +kernel
theorem dX10_envy_52 : decode cX10_envy 52 = .ok (.istore_n 2, 1) := by decide +kernel
theorem dX10_envy_53 : decode cX10_envy 53 = .ok (.iinc 3 1, 3) := by decide +kernel
theorem dX10_envy_56 : decode cX10_envy 56 = .ok (.goto (-39), 3) := by decide +kernel
theorem dX10_envy_59 : decode cX10_envy 59 = .ok (.iload_n 2, 1) := by decide +kernel
theorem dX10_envy_60 : decode cX10_envy 60 = .ok (.ireturn, 1) := by decide +kernel
theorem dX10_isFair_0 : decode cX10_isFair 0 = .ok (.aload_n 0, 1) := by decide +kernel
theorem dX10_isFair_1 : decode cX10_isFair 1 = .ok (.iload_n 1, 1) := by decide +kernel
theorem dX10_isFair_2 : decode cX10_isFair 2 = .ok (.iload_n 2, 1) := by decide +kernel
theorem dX10_isFair_3 : decode cX10_isFair 3 = .ok (.invokevirtual 164, 3) := by decide +kernel
theorem dX10_isFair_6 : decode cX10_isFair 6 = .ok (.aload_n 0, 1) := by decide +kernel
theorem dX10_isFair_7 : decode cX10_isFair 7 = .ok (.getfield 71, 3) := by decide +kernel
theorem dX10_isFair_10 : decode cX10_isFair 10 = .ok (.imul, 1) := by decide +kernel
theorem dX10_isFair_11 : decode cX10_isFair 11 = .ok (.aload_n 0, 1) := by decide +kernel
theorem dX10_isFair_12 : decode cX10_isFair 12 = .ok (.iload_n 1, 1) := by decide +kernel
theorem dX10_isFair_13 : decode cX10_isFair 13 = .ok (.sipush 4095, 3) := by decide +kernel
theorem dX10_isFair_16 : decode cX10_isFair 16 = .ok (.invokevirtual 164, 3) := by decide +kernel
theorem dX10_isFair_19 : decode cX10_isFair 19 = .ok (.if_icmp .lt 7, 3) := by decide +kernel
theorem dX10_isFair_22 : decode cX10_isFair 22 = .ok (.iconst 1, 1) := by decide +kernel
theorem dX10_isFair_23 : decode cX10_isFair 23 = .ok (.goto 4, 3) := by decide +kernel
theorem dX10_isFair_26 : decode cX10_isFair 26 = .ok (.iconst 0, 1) := by decide +kernel
theorem dX10_isFair_27 : decode cX10_isFair 27 = .ok (.ireturn, 1) := by decide +kernel
theorem dX10_fair_0 : decode cX10_fair 0 = .ok (.aload_n 0, 1) := by decide +kernel
theorem dX10_fair_1 : decode cX10_fair 1 = .ok (.iload_n 1, 1) := by decide +kernel
theorem dX10_fair_2 : decode cX10_fair 2 = .ok (.invokevirtual 171, 3) := by decide +kernel
theorem dX10_fair_5 : decode cX10_fair 5 = .ok (.ifCond .ne 10, 3) := by decide +kernel
theorem dX10_fair_8 : decode cX10_fair 8 = .ok (.aload_n 0, 1) := by decide +kernel
theorem dX10_fair_9 : decode cX10_fair 9 = .ok (.invokevirtual 85, 3) := by decide +kernel
theorem dX10_fair_12 : decode cX10_fair 12 = .ok (.goto 21, 3) := by decide +kernel
theorem dX10_fair_15 : decode cX10_fair 15 = .ok (.aload_n 0, 1) := by decide +kernel
theorem dX10_fair_16 : decode cX10_fair 16 = .ok (.iload_n 1, 1) := by decide +kernel
theorem dX10_fair_17 : decode cX10_fair 17 = .ok (.aload_n 0, 1) := by decide +kernel
theorem dX10_fair_18 : decode cX10_fair 18 = .ok (.iload_n 1, 1) := by decide +kernel
theorem dX10_fair_19 : decode cX10_fair 19 = .ok (.invokevirtual 161, 3) := by decide +kernel
theorem dX10_fair_22 : decode cX10_fair 22 = .ok (.invokevirtual 196, 3) := by decide +kernel
theorem dX10_fair_25 : decode cX10_fair 25 = .ok (.ifCond .eq 7, 3) := by decide +kernel
theorem dX10_fair_28 : decode cX10_fair 28 = .ok (.iconst 1, 1) := by decide +kernel
theorem dX10_fair_29 : decode cX10_fair 29 = .ok (.goto 4, 3) := by decide +kernel
theorem dX10_fair_32 : decode cX10_fair 32 = .ok (.iconst 0, 1) := by decide +kernel
theorem dX10_fair_33 : decode cX10_fair 33 = .ok (.ireturn, 1) := by decide +kernel
theorem dX10_pieceEnd_0 : decode cX10_pieceEnd 0 = .ok (.iconst 0, 1) := by decide +kernel
theorem dX10_pieceEnd_1 : decode cX10_pieceEnd 1 = .ok (.istore_n 3, 1) := by decide +kernel
theorem dX10_pieceEnd_2 : decode cX10_pieceEnd 2 = .ok (.iload_n 2, 1) := by decide +kernel
theorem dX10_pieceEnd_3 : decode cX10_pieceEnd 3 = .ok (.istore 4, 2) := by decide +kernel
theorem dX10_pieceEnd_5 : decode cX10_pieceEnd 5 = .ok (.iload 4, 2) := by decide +kernel
theorem dX10_pieceEnd_7 : decode cX10_pieceEnd 7 = .ok (.bipush 12, 2) := by decide +kernel
theorem dX10_pieceEnd_9 : decode cX10_pieceEnd 9 = .ok (.if_icmp .gt 39, 3) := by decide +kernel
theorem dX10_pieceEnd_12 : decode cX10_pieceEnd 12 = .ok (.aload_n 0, 1) := by decide +kernel
theorem dX10_pieceEnd_13 : decode cX10_pieceEnd 13 = .ok (.iload_n 1, 1) := by decide +kernel
theorem dX10_pieceEnd_14 : decode cX10_pieceEnd 14 = .ok (.iload_n 3, 1) := by decide +kernel
theorem dX10_pieceEnd_15 : decode cX10_pieceEnd 15 = .ok (.invokevirtual 196, 3) := by decide +kernel
theorem dX10_pieceEnd_18 : decode cX10_pieceEnd 18 = .ok (.ifCond .eq 6, 3) := by decide +kernel
theorem dX10_pieceEnd_21 : decode cX10_pieceEnd 21 = .ok (.iload 4, 2) := by decide +kernel
theorem dX10_pieceEnd_23 : decode cX10_pieceEnd 23 = .ok (.ireturn, 1) := by decide +kernel
theorem dX10_pieceEnd_24 : decode cX10_pieceEnd 24 = .ok (.iload_n 3, 1) := by decide +kernel
theorem dX10_pieceEnd_25 : decode cX10_pieceEnd 25 = .ok (.iload 4, 2) := by decide +kernel
theorem dX10_pieceEnd_27 : decode cX10_pieceEnd 27 = .ok (.bipush 12, 2) := by decide +kernel
theorem dX10_pieceEnd_29 : decode cX10_pieceEnd 29 = .ok (.if_icmp .ge 10, 3) := by decide +kernel
theorem dX10_pieceEnd_32 : decode cX10_pieceEnd 32 = .ok (.iconst 1, 1) := by decide +kernel
theorem dX10_pieceEnd_33 : decode cX10_pieceEnd 33 = .ok (.iload 4, 2) := by decide +kernel
theorem dX10_pieceEnd_35 : decode cX10_pieceEnd 35 = .ok (.ishl, 1) := by decide +kernel
theorem dX10_pieceEnd_36 : decode cX10_pieceEnd 36 = .ok (.goto 4, 3) := by decide +kernel
theorem dX10_pieceEnd_39 : decode cX10_pieceEnd 39 = .ok (.iconst 0, 1) := by decide +kernel
theorem dX10_pieceEnd_40 : decode cX10_pieceEnd 40 = .ok (.ior, 1) := by decide +kernel
theorem dX10_pieceEnd_41 : decode cX10_pieceEnd 41 = .ok (.istore_n 3, 1) := by decide +kernel
theorem dX10_pieceEnd_42 : decode cX10_pieceEnd 42 = .ok (.iinc 4 1, 3) := by decide +kernel
theorem dX10_pieceEnd_45 : decode cX10_pieceEnd 45 = .ok (.goto (-40), 3) := by decide +kernel
theorem dX10_pieceEnd_48 : decode cX10_pieceEnd 48 = .ok (.bipush 13, 2) := by decide +kernel
theorem dX10_pieceEnd_50 : decode cX10_pieceEnd 50 = .ok (.ireturn, 1) := by decide +kernel
theorem dX10_takenBy_0 : decode cX10_takenBy 0 = .ok (.iconst 0, 1) := by decide +kernel
theorem dX10_takenBy_1 : decode cX10_takenBy 1 = .ok (.istore_n 1, 1) := by decide +kernel
theorem dX10_takenBy_2 : decode cX10_takenBy 2 = .ok (.iconst 0, 1) := by decide +kernel
theorem dX10_takenBy_3 : decode cX10_takenBy 3 = .ok (.istore_n 2, 1) := by decide +kernel
theorem dX10_takenBy_4 : decode cX10_takenBy 4 = .ok (.iload_n 2, 1) := by decide +kernel
theorem dX10_takenBy_5 : decode cX10_takenBy 5 = .ok (.aload_n 0, 1) := by decide +kernel
theorem dX10_takenBy_6 : decode cX10_takenBy 6 = .ok (.getfield 71, 3) := by decide +kernel
theorem dX10_takenBy_9 : decode cX10_takenBy 9 = .ok (.if_icmp .ge 27, 3) := by decide +kernel
theorem dX10_takenBy_12 : decode cX10_takenBy 12 = .ok (.iload_n 1, 1) := by decide +kernel
theorem dX10_takenBy_13 : decode cX10_takenBy 13 = .ok (.bipush 12, 2) := by decide +kernel
theorem dX10_takenBy_15 : decode cX10_takenBy 15 = .ok (.if_icmp .gt 21, 3) := by decide +kernel
theorem dX10_takenBy_18 : decode cX10_takenBy 18 = .ok (.aload_n 0, 1) := by decide +kernel
theorem dX10_takenBy_19 : decode cX10_takenBy 19 = .ok (.aload_n 0, 1) := by decide +kernel
theorem dX10_takenBy_20 : decode cX10_takenBy 20 = .ok (.getfield 49, 3) := by decide +kernel
theorem dX10_takenBy_23 : decode cX10_takenBy 23 = .ok (.iload_n 2, 1) := by decide +kernel
theorem dX10_takenBy_24 : decode cX10_takenBy 24 = .ok (.iaload, 1) := by decide +kernel
theorem dX10_takenBy_25 : decode cX10_takenBy 25 = .ok (.iload_n 1, 1) := by decide +kernel
theorem dX10_takenBy_26 : decode cX10_takenBy 26 = .ok (.invokevirtual 199, 3) := by decide +kernel
theorem dX10_takenBy_29 : decode cX10_takenBy 29 = .ok (.istore_n 1, 1) := by decide +kernel
theorem dX10_takenBy_30 : decode cX10_takenBy 30 = .ok (.iinc 2 1, 3) := by decide +kernel
theorem dX10_takenBy_33 : decode cX10_takenBy 33 = .ok (.goto (-29), 3) := by decide +kernel
theorem dX10_takenBy_36 : decode cX10_takenBy 36 = .ok (.iload_n 1, 1) := by decide +kernel
theorem dX10_takenBy_37 : decode cX10_takenBy 37 = .ok (.ireturn, 1) := by decide +kernel
theorem dX10_nextLine_0 : decode cX10_nextLine 0 = .ok (.aload_n 0, 1) := by decide +kernel
theorem dX10_nextLine_1 : decode cX10_nextLine 1 = .ok (.getfield 71, 3) := by decide +kernel
theorem dX10_nextLine_4 : decode cX10_nextLine 4 = .ok (.iconst 2, 1) := by decide +kernel
theorem dX10_nextLine_5 : decode cX10_nextLine 5 = .ok (.isub, 1) := by decide +kernel
theorem dX10_nextLine_6 : decode cX10_nextLine 6 = .ok (.istore_n 1, 1) := by decide +kernel
theorem dX10_nextLine_7 : decode cX10_nextLine 7 = .ok (.iload_n 1, 1) := by decide +kernel
theorem dX10_nextLine_8 : decode cX10_nextLine 8 = .ok (.ifCond .lt 26, 3) := by decide +kernel
theorem dX10_nextLine_11 : decode cX10_nextLine 11 = .ok (.aload_n 0, 1) := by decide +kernel
theorem dX10_nextLine_12 : decode cX10_nextLine 12 = .ok (.getfield 49, 3) := by decide +kernel
theorem dX10_nextLine_15 : decode cX10_nextLine 15 = .ok (.iload_n 1, 1) := by decide +kernel
theorem dX10_nextLine_16 : decode cX10_nextLine 16 = .ok (.iaload, 1) := by decide +kernel
theorem dX10_nextLine_17 : decode cX10_nextLine 17 = .ok (.aload_n 0, 1) := by decide +kernel
theorem dX10_nextLine_18 : decode cX10_nextLine 18 = .ok (.getfield 49, 3) := by decide +kernel
theorem dX10_nextLine_21 : decode cX10_nextLine 21 = .ok (.iload_n 1, 1) := by decide +kernel
theorem dX10_nextLine_22 : decode cX10_nextLine 22 = .ok (.iconst 1, 1) := by decide +kernel
theorem dX10_nextLine_23 : decode cX10_nextLine 23 = .ok (.iadd, 1) := by decide +kernel
theorem dX10_nextLine_24 : decode cX10_nextLine 24 = .ok (.iaload, 1) := by decide +kernel
theorem dX10_nextLine_25 : decode cX10_nextLine 25 = .ok (.if_icmp .le 9, 3) := by decide +kernel
theorem dX10_nextLine_28 : decode cX10_nextLine 28 = .ok (.iinc 1 (-1), 3) := by decide +kernel
theorem dX10_nextLine_31 : decode cX10_nextLine 31 = .ok (.goto (-24), 3) := by decide +kernel
theorem dX10_nextLine_34 : decode cX10_nextLine 34 = .ok (.iload_n 1, 1) := by decide +kernel
theorem dX10_nextLine_35 : decode cX10_nextLine 35 = .ok (.ifCond .ge 5, 3) := by decide +kernel
theorem dX10_nextLine_38 : decode cX10_nextLine 38 = .ok (.iconst 0, 1) := by decide +kernel
theorem dX10_nextLine_39 : decode cX10_nextLine 39 = .ok (.ireturn, 1) := by decide +kernel
theorem dX10_nextLine_40 : decode cX10_nextLine 40 = .ok (.aload_n 0, 1) := by decide +kernel
theorem dX10_nextLine_41 : decode cX10_nextLine 41 = .ok (.getfield 71, 3) := by decide +kernel
theorem dX10_nextLine_44 : decode cX10_nextLine 44 = .ok (.iconst 1, 1) := by decide +kernel
theorem dX10_nextLine_45 : decode cX10_nextLine 45 = .ok (.isub, 1) := by decide +kernel
theorem dX10_nextLine_46 : decode cX10_nextLine 46 = .ok (.istore_n 2, 1) := by decide +kernel
theorem dX10_nextLine_47 : decode cX10_nextLine 47 = .ok (.aload_n 0, 1) := by decide +kernel
theorem dX10_nextLine_48 : decode cX10_nextLine 48 = .ok (.getfield 49, 3) := by decide +kernel
theorem dX10_nextLine_51 : decode cX10_nextLine 51 = .ok (.iload_n 2, 1) := by decide +kernel
theorem dX10_nextLine_52 : decode cX10_nextLine 52 = .ok (.iaload, 1) := by decide +kernel
theorem dX10_nextLine_53 : decode cX10_nextLine 53 = .ok (.aload_n 0, 1) := by decide +kernel
theorem dX10_nextLine_54 : decode cX10_nextLine 54 = .ok (.getfield 49, 3) := by decide +kernel
theorem dX10_nextLine_57 : decode cX10_nextLine 57 = .ok (.iload_n 1, 1) := by decide +kernel
theorem dX10_nextLine_58 : decode cX10_nextLine 58 = .ok (.iaload, 1) := by decide +kernel
theorem dX10_nextLine_59 : decode cX10_nextLine 59 = .ok (.if_icmp .ge 9, 3) := by decide +kernel
theorem dX10_nextLine_62 : decode cX10_nextLine 62 = .ok (.iinc 2 (-1), 3) := by decide +kernel
theorem dX10_nextLine_65 : decode cX10_nextLine 65 = .ok (.goto (-18), 3) := by decide +kernel
theorem dX10_nextLine_68 : decode cX10_nextLine 68 = .ok (.aload_n 0, 1) := by decide +kernel
theorem dX10_nextLine_69 : decode cX10_nextLine 69 = .ok (.getfield 49, 3) := by decide +kernel
theorem dX10_nextLine_72 : decode cX10_nextLine 72 = .ok (.iload_n 1, 1) := by decide +kernel
theorem dX10_nextLine_73 : decode cX10_nextLine 73 = .ok (.iaload, 1) := by decide +kernel
theorem dX10_nextLine_74 : decode cX10_nextLine 74 = .ok (.istore_n 3, 1) := by decide +kernel
theorem dX10_nextLine_75 : decode cX10_nextLine 75 = .ok (.aload_n 0, 1) := by decide +kernel
theorem dX10_nextLine_76 : decode cX10_nextLine 76 = .ok (.getfield 49, 3) := by decide +kernel
theorem dX10_nextLine_79 : decode cX10_nextLine 79 = .ok (.iload_n 1, 1) := by decide +kernel
theorem dX10_nextLine_80 : decode cX10_nextLine 80 = .ok (.aload_n 0, 1) := by decide +kernel
theorem dX10_nextLine_81 : decode cX10_nextLine 81 = .ok (.getfield 49, 3) := by decide +kernel
theorem dX10_nextLine_84 : decode cX10_nextLine 84 = .ok (.iload_n 2, 1) := by decide +kernel
theorem dX10_nextLine_85 : decode cX10_nextLine 85 = .ok (.iaload, 1) := by decide +kernel
theorem dX10_nextLine_86 : decode cX10_nextLine 86 = .ok (.iastore, 1) := by decide +kernel
theorem dX10_nextLine_87 : decode cX10_nextLine 87 = .ok (.aload_n 0, 1) := by decide +kernel
theorem dX10_nextLine_88 : decode cX10_nextLine 88 = .ok (.getfield 49, 3) := by decide +kernel
theorem dX10_nextLine_91 : decode cX10_nextLine 91 = .ok (.iload_n 2, 1) := by decide +kernel
theorem dX10_nextLine_92 : decode cX10_nextLine 92 = .ok (.iload_n 3, 1) := by decide +kernel
theorem dX10_nextLine_93 : decode cX10_nextLine 93 = .ok (.iastore, 1) := by decide +kernel
theorem dX10_nextLine_94 : decode cX10_nextLine 94 = .ok (.iload_n 1, 1) := by decide +kernel
theorem dX10_nextLine_95 : decode cX10_nextLine 95 = .ok (.iconst 1, 1) := by decide +kernel
theorem dX10_nextLine_96 : decode cX10_nextLine 96 = .ok (.iadd, 1) := by decide +kernel
theorem dX10_nextLine_97 : decode cX10_nextLine 97 = .ok (.istore 4, 2) := by decide +kernel
theorem dX10_nextLine_99 : decode cX10_nextLine 99 = .ok (.aload_n 0, 1) := by decide +kernel
theorem dX10_nextLine_100 : decode cX10_nextLine 100 = .ok (.getfield 71, 3) := by decide +kernel
theorem dX10_nextLine_103 : decode cX10_nextLine 103 = .ok (.iconst 1, 1) := by decide +kernel
theorem dX10_nextLine_104 : decode cX10_nextLine 104 = .ok (.isub, 1) := by decide +kernel
theorem dX10_nextLine_105 : decode cX10_nextLine 105 = .ok (.istore 5, 2) := by decide +kernel
theorem dX10_nextLine_107 : decode cX10_nextLine 107 = .ok (.iload 4, 2) := by decide +kernel
theorem dX10_nextLine_109 : decode cX10_nextLine 109 = .ok (.iload 5, 2) := by decide +kernel
theorem dX10_nextLine_111 : decode cX10_nextLine 111 = .ok (.if_icmp .ge 42, 3) := by decide +kernel
theorem dX10_nextLine_114 : decode cX10_nextLine 114 = .ok (.aload_n 0, 1) := by decide +kernel
theorem dX10_nextLine_115 : decode cX10_nextLine 115 = .ok (.getfield 49, 3) := by decide +kernel
theorem dX10_nextLine_118 : decode cX10_nextLine 118 = .ok (.iload 4, 2) := by decide +kernel
theorem dX10_nextLine_120 : decode cX10_nextLine 120 = .ok (.iaload, 1) := by decide +kernel
theorem dX10_nextLine_121 : decode cX10_nextLine 121 = .ok (.istore_n 3, 1) := by decide +kernel
theorem dX10_nextLine_122 : decode cX10_nextLine 122 = .ok (.aload_n 0, 1) := by decide +kernel
theorem dX10_nextLine_123 : decode cX10_nextLine 123 = .ok (.getfield 49, 3) := by decide +kernel
theorem dX10_nextLine_126 : decode cX10_nextLine 126 = .ok (.iload 4, 2) := by decide +kernel
theorem dX10_nextLine_128 : decode cX10_nextLine 128 = .ok (.aload_n 0, 1) := by decide +kernel
theorem dX10_nextLine_129 : decode cX10_nextLine 129 = .ok (.getfield 49, 3) := by decide +kernel
theorem dX10_nextLine_132 : decode cX10_nextLine 132 = .ok (.iload 5, 2) := by decide +kernel
theorem dX10_nextLine_134 : decode cX10_nextLine 134 = .ok (.iaload, 1) := by decide +kernel
theorem dX10_nextLine_135 : decode cX10_nextLine 135 = .ok (.iastore, 1) := by decide +kernel
theorem dX10_nextLine_136 : decode cX10_nextLine 136 = .ok (.aload_n 0, 1) := by decide +kernel
theorem dX10_nextLine_137 : decode cX10_nextLine 137 = .ok (.getfield 49, 3) := by decide +kernel
theorem dX10_nextLine_140 : decode cX10_nextLine 140 = .ok (.iload 5, 2) := by decide +kernel
theorem dX10_nextLine_142 : decode cX10_nextLine 142 = .ok (.iload_n 3, 1) := by decide +kernel
theorem dX10_nextLine_143 : decode cX10_nextLine 143 = .ok (.iastore, 1) := by decide +kernel
theorem dX10_nextLine_144 : decode cX10_nextLine 144 = .ok (.iinc 4 1, 3) := by decide +kernel
theorem dX10_nextLine_147 : decode cX10_nextLine 147 = .ok (.iinc 5 (-1), 3) := by decide +kernel
theorem dX10_nextLine_150 : decode cX10_nextLine 150 = .ok (.goto (-43), 3) := by decide +kernel
theorem dX10_nextLine_153 : decode cX10_nextLine 153 = .ok (.iconst 1, 1) := by decide +kernel
theorem dX10_nextLine_154 : decode cX10_nextLine 154 = .ok (.ireturn, 1) := by decide +kernel
theorem dX10_pieces_0 : decode cX10_pieces 0 = .ok (.iload_n 1, 1) := by decide +kernel
theorem dX10_pieces_1 : decode cX10_pieces 1 = .ok (.iconst (-1), 1) := by decide +kernel
theorem dX10_pieces_2 : decode cX10_pieces 2 = .ok (.if_icmp .ge 8, 3) := by decide +kernel
theorem dX10_pieces_5 : decode cX10_pieces 5 = .ok (.aload_n 0, 1) := by decide +kernel
theorem dX10_pieces_6 : decode cX10_pieces 6 = .ok (.invokevirtual 174, 3) := by decide +kernel
theorem dX10_pieces_9 : decode cX10_pieces 9 = .ok (.ireturn, 1) := by decide +kernel
theorem dX10_pieces_10 : decode cX10_pieces 10 = .ok (.iconst 0, 1) := by decide +kernel
theorem dX10_pieces_11 : decode cX10_pieces 11 = .ok (.istore_n 2, 1) := by decide +kernel
theorem dX10_pieces_12 : decode cX10_pieces 12 = .ok (.iload_n 2, 1) := by decide +kernel
theorem dX10_pieces_13 : decode cX10_pieces 13 = .ok (.aload_n 0, 1) := by decide +kernel
theorem dX10_pieces_14 : decode cX10_pieces 14 = .ok (.getfield 71, 3) := by decide +kernel
theorem dX10_pieces_17 : decode cX10_pieces 17 = .ok (.if_icmp .ge 16, 3) := by decide +kernel
theorem dX10_pieces_20 : decode cX10_pieces 20 = .ok (.aload_n 0, 1) := by decide +kernel
theorem dX10_pieces_21 : decode cX10_pieces 21 = .ok (.getfield 49, 3) := by decide +kernel
theorem dX10_pieces_24 : decode cX10_pieces 24 = .ok (.iload_n 2, 1) := by decide +kernel
theorem dX10_pieces_25 : decode cX10_pieces 25 = .ok (.iload_n 2, 1) := by decide +kernel
theorem dX10_pieces_26 : decode cX10_pieces 26 = .ok (.iastore, 1) := by decide +kernel
theorem dX10_pieces_27 : decode cX10_pieces 27 = .ok (.iinc 2 1, 3) := by decide +kernel
theorem dX10_pieces_30 : decode cX10_pieces 30 = .ok (.goto (-18), 3) := by decide +kernel
theorem dX10_pieces_33 : decode cX10_pieces 33 = .ok (.bipush 13, 2) := by decide +kernel
theorem dX10_pieces_35 : decode cX10_pieces 35 = .ok (.istore_n 2, 1) := by decide +kernel
theorem dX10_pieces_36 : decode cX10_pieces 36 = .ok (.iconst 1, 1) := by decide +kernel
theorem dX10_pieces_37 : decode cX10_pieces 37 = .ok (.istore_n 3, 1) := by decide +kernel
theorem dX10_pieces_38 : decode cX10_pieces 38 = .ok (.iload_n 3, 1) := by decide +kernel
theorem dX10_pieces_39 : decode cX10_pieces 39 = .ok (.ifCond .eq 68, 3) := by decide +kernel
theorem dX10_pieces_42 : decode cX10_pieces 42 = .ok (.aload_n 0, 1) := by decide +kernel
theorem dX10_pieces_43 : decode cX10_pieces 43 = .ok (.invokevirtual 202, 3) := by decide +kernel
theorem dX10_pieces_46 : decode cX10_pieces 46 = .ok (.istore 4, 2) := by decide +kernel
theorem dX10_pieces_48 : decode cX10_pieces 48 = .ok (.iconst 0, 1) := by decide +kernel
theorem dX10_pieces_49 : decode cX10_pieces 49 = .ok (.istore 5, 2) := by decide +kernel
theorem dX10_pieces_51 : decode cX10_pieces 51 = .ok (.iload 5, 2) := by decide +kernel
theorem dX10_pieces_53 : decode cX10_pieces 53 = .ok (.aload_n 0, 1) := by decide +kernel
theorem dX10_pieces_54 : decode cX10_pieces 54 = .ok (.getfield 71, 3) := by decide +kernel
theorem dX10_pieces_57 : decode cX10_pieces 57 = .ok (.if_icmp .ge 29, 3) := by decide +kernel
theorem dX10_pieces_60 : decode cX10_pieces 60 = .ok (.iload 4, 2) := by decide +kernel
theorem dX10_pieces_62 : decode cX10_pieces 62 = .ok (.iload_n 2, 1) := by decide +kernel
theorem dX10_pieces_63 : decode cX10_pieces 63 = .ok (.if_icmp .ge 23, 3) := by decide +kernel
theorem dX10_pieces_66 : decode cX10_pieces 66 = .ok (.aload_n 0, 1) := by decide +kernel
theorem dX10_pieces_67 : decode cX10_pieces 67 = .ok (.getfield 52, 3) := by decide +kernel
theorem dX10_pieces_70 : decode cX10_pieces 70 = .ok (.iload 5, 2) := by decide +kernel
theorem dX10_pieces_72 : decode cX10_pieces 72 = .ok (.aload_n 0, 1) := by decide +kernel
theorem dX10_pieces_73 : decode cX10_pieces 73 = .ok (.getfield 49, 3) := by decide +kernel
theorem dX10_pieces_76 : decode cX10_pieces 76 = .ok (.iload 5, 2) := by decide +kernel
theorem dX10_pieces_78 : decode cX10_pieces 78 = .ok (.iaload, 1) := by decide +kernel
theorem dX10_pieces_79 : decode cX10_pieces 79 = .ok (.iastore, 1) := by decide +kernel
theorem dX10_pieces_80 : decode cX10_pieces 80 = .ok (.iinc 5 1, 3) := by decide +kernel
theorem dX10_pieces_83 : decode cX10_pieces 83 = .ok (.goto (-32), 3) := by decide +kernel
theorem dX10_pieces_86 : decode cX10_pieces 86 = .ok (.iload 4, 2) := by decide +kernel
theorem dX10_pieces_88 : decode cX10_pieces 88 = .ok (.iload_n 2, 1) := by decide +kernel
theorem dX10_pieces_89 : decode cX10_pieces 89 = .ok (.if_icmp .ge 8, 3) := by decide +kernel
theorem dX10_pieces_92 : decode cX10_pieces 92 = .ok (.iload 4, 2) := by decide +kernel
theorem dX10_pieces_94 : decode cX10_pieces 94 = .ok (.goto 4, 3) := by decide +kernel
theorem dX10_pieces_97 : decode cX10_pieces 97 = .ok (.iload_n 2, 1) := by decide +kernel
theorem dX10_pieces_98 : decode cX10_pieces 98 = .ok (.istore_n 2, 1) := by decide +kernel
theorem dX10_pieces_99 : decode cX10_pieces 99 = .ok (.aload_n 0, 1) := by decide +kernel
theorem dX10_pieces_100 : decode cX10_pieces 100 = .ok (.invokevirtual 205, 3) := by decide +kernel
theorem dX10_pieces_103 : decode cX10_pieces 103 = .ok (.istore_n 3, 1) := by decide +kernel
theorem dX10_pieces_104 : decode cX10_pieces 104 = .ok (.goto (-66), 3) := by decide +kernel
theorem dX10_pieces_107 : decode cX10_pieces 107 = .ok (.iload_n 2, 1) := by decide +kernel
theorem dX10_pieces_108 : decode cX10_pieces 108 = .ok (.bipush 12, 2) := by decide +kernel
theorem dX10_pieces_110 : decode cX10_pieces 110 = .ok (.if_icmp .le 5, 3) := by decide +kernel
theorem dX10_pieces_113 : decode cX10_pieces 113 = .ok (.iconst (-1), 1) := by decide +kernel
theorem dX10_pieces_114 : decode cX10_pieces 114 = .ok (.ireturn, 1) := by decide +kernel
theorem dX10_pieces_115 : decode cX10_pieces 115 = .ok (.iload_n 1, 1) := by decide +kernel
theorem dX10_pieces_116 : decode cX10_pieces 116 = .ok (.iconst (-1), 1) := by decide +kernel
theorem dX10_pieces_117 : decode cX10_pieces 117 = .ok (.if_icmp .ne 7, 3) := by decide +kernel
theorem dX10_pieces_120 : decode cX10_pieces 120 = .ok (.iload_n 2, 1) := by decide +kernel
theorem dX10_pieces_121 : decode cX10_pieces 121 = .ok (.goto 22, 3) := by decide +kernel
theorem dX10_pieces_124 : decode cX10_pieces 124 = .ok (.iload_n 1, 1) := by decide +kernel
theorem dX10_pieces_125 : decode cX10_pieces 125 = .ok (.aload_n 0, 1) := by decide +kernel
theorem dX10_pieces_126 : decode cX10_pieces 126 = .ok (.getfield 71, 3) := by decide +kernel
theorem dX10_pieces_129 : decode cX10_pieces 129 = .ok (.if_icmp .ge 12, 3) := by decide +kernel
theorem dX10_pieces_132 : decode cX10_pieces 132 = .ok (.aload_n 0, 1) := by decide +kernel
theorem dX10_pieces_133 : decode cX10_pieces 133 = .ok (.getfield 52, 3) := by decide +kernel
theorem dX10_pieces_136 : decode cX10_pieces 136 = .ok (.iload_n 1, 1) := by decide +kernel
theorem dX10_pieces_137 : decode cX10_pieces 137 = .ok (.iaload, 1) := by decide +kernel
theorem dX10_pieces_138 : decode cX10_pieces 138 = .ok (.goto 5, 3) := by decide +kernel
theorem dX10_pieces_141 : decode cX10_pieces 141 = .ok (.bipush (-5), 2) := by decide +kernel
theorem dX10_pieces_143 : decode cX10_pieces 143 = .ok (.ireturn, 1) := by decide +kernel
theorem dX10_isSwap_0 : decode cX10_isSwap 0 = .ok (.aload_n 0, 1) := by decide +kernel
theorem dX10_isSwap_1 : decode cX10_isSwap 1 = .ok (.getfield 22, 3) := by decide +kernel
theorem dX10_isSwap_4 : decode cX10_isSwap 4 = .ok (.iload_n 1, 1) := by decide +kernel
theorem dX10_isSwap_5 : decode cX10_isSwap 5 = .ok (.iaload, 1) := by decide +kernel
theorem dX10_isSwap_6 : decode cX10_isSwap 6 = .ok (.istore_n 3, 1) := by decide +kernel
theorem dX10_isSwap_7 : decode cX10_isSwap 7 = .ok (.aload_n 0, 1) := by decide +kernel
theorem dX10_isSwap_8 : decode cX10_isSwap 8 = .ok (.getfield 22, 3) := by decide +kernel
theorem dX10_isSwap_11 : decode cX10_isSwap 11 = .ok (.iload_n 2, 1) := by decide +kernel
theorem dX10_isSwap_12 : decode cX10_isSwap 12 = .ok (.iaload, 1) := by decide +kernel
theorem dX10_isSwap_13 : decode cX10_isSwap 13 = .ok (.istore 4, 2) := by decide +kernel
theorem dX10_isSwap_15 : decode cX10_isSwap 15 = .ok (.iload_n 3, 1) := by decide +kernel
theorem dX10_isSwap_16 : decode cX10_isSwap 16 = .ok (.iconst (-1), 1) := by decide +kernel
theorem dX10_isSwap_17 : decode cX10_isSwap 17 = .ok (.if_icmp .eq 15, 3) := by decide +kernel
theorem dX10_isSwap_20 : decode cX10_isSwap 20 = .ok (.iload 4, 2) := by decide +kernel
theorem dX10_isSwap_22 : decode cX10_isSwap 22 = .ok (.iconst (-1), 1) := by decide +kernel
theorem dX10_isSwap_23 : decode cX10_isSwap 23 = .ok (.if_icmp .eq 9, 3) := by decide +kernel
theorem dX10_isSwap_26 : decode cX10_isSwap 26 = .ok (.iload_n 3, 1) := by decide +kernel
theorem dX10_isSwap_27 : decode cX10_isSwap 27 = .ok (.iload 4, 2) := by decide +kernel
theorem dX10_isSwap_29 : decode cX10_isSwap 29 = .ok (.if_icmp .ne 5, 3) := by decide +kernel
theorem dX10_isSwap_32 : decode cX10_isSwap 32 = .ok (.iconst 0, 1) := by decide +kernel
theorem dX10_isSwap_33 : decode cX10_isSwap 33 = .ok (.ireturn, 1) := by decide +kernel
theorem dX10_isSwap_34 : decode cX10_isSwap 34 = .ok (.aload_n 0, 1) := by decide +kernel
theorem dX10_isSwap_35 : decode cX10_isSwap 35 = .ok (.iload_n 3, 1) := by decide +kernel
theorem dX10_isSwap_36 : decode cX10_isSwap 36 = .ok (.invokevirtual 161, 3) := by decide +kernel
theorem dX10_isSwap_39 : decode cX10_isSwap 39 = .ok (.istore 5, 2) := by decide +kernel
theorem dX10_isSwap_41 : decode cX10_isSwap 41 = .ok (.aload_n 0, 1) := by decide +kernel
theorem dX10_isSwap_42 : decode cX10_isSwap 42 = .ok (.iload 4, 2) := by decide +kernel
theorem dX10_isSwap_44 : decode cX10_isSwap 44 = .ok (.invokevirtual 161, 3) := by decide +kernel
theorem dX10_isSwap_47 : decode cX10_isSwap 47 = .ok (.istore 6, 2) := by decide +kernel
theorem dX10_isSwap_49 : decode cX10_isSwap 49 = .ok (.iconst 1, 1) := by decide +kernel
theorem dX10_isSwap_50 : decode cX10_isSwap 50 = .ok (.iload_n 1, 1) := by decide +kernel
theorem dX10_isSwap_51 : decode cX10_isSwap 51 = .ok (.ishl, 1) := by decide +kernel
theorem dX10_isSwap_52 : decode cX10_isSwap 52 = .ok (.iconst 1, 1) := by decide +kernel
theorem dX10_isSwap_53 : decode cX10_isSwap 53 = .ok (.iload_n 2, 1) := by decide +kernel
theorem dX10_isSwap_54 : decode cX10_isSwap 54 = .ok (.ishl, 1) := by decide +kernel
theorem dX10_isSwap_55 : decode cX10_isSwap 55 = .ok (.ior, 1) := by decide +kernel
theorem dX10_isSwap_56 : decode cX10_isSwap 56 = .ok (.istore 7, 2) := by decide +kernel
theorem dX10_isSwap_58 : decode cX10_isSwap 58 = .ok (.aload_n 0, 1) := by decide +kernel
theorem dX10_isSwap_59 : decode cX10_isSwap 59 = .ok (.iload_n 3, 1) := by decide +kernel
theorem dX10_isSwap_60 : decode cX10_isSwap 60 = .ok (.iload 5, 2) := by decide +kernel
theorem dX10_isSwap_62 : decode cX10_isSwap 62 = .ok (.iload 7, 2) := by decide +kernel
theorem dX10_isSwap_64 : decode cX10_isSwap 64 = .ok (.ixor, 1) := by decide +kernel
theorem dX10_isSwap_65 : decode cX10_isSwap 65 = .ok (.invokevirtual 164, 3) := by decide +kernel
theorem dX10_isSwap_68 : decode cX10_isSwap 68 = .ok (.aload_n 0, 1) := by decide +kernel
theorem dX10_isSwap_69 : decode cX10_isSwap 69 = .ok (.iload_n 3, 1) := by decide +kernel
theorem dX10_isSwap_70 : decode cX10_isSwap 70 = .ok (.iload 5, 2) := by decide +kernel
theorem dX10_isSwap_72 : decode cX10_isSwap 72 = .ok (.invokevirtual 164, 3) := by decide +kernel
theorem dX10_isSwap_75 : decode cX10_isSwap 75 = .ok (.if_icmp .le 29, 3) := by decide +kernel
theorem dX10_isSwap_78 : decode cX10_isSwap 78 = .ok (.aload_n 0, 1) := by decide +kernel
theorem dX10_isSwap_79 : decode cX10_isSwap 79 = .ok (.iload 4, 2) := by decide +kernel
theorem dX10_isSwap_81 : decode cX10_isSwap 81 = .ok (.iload 6, 2) := by decide +kernel
theorem dX10_isSwap_83 : decode cX10_isSwap 83 = .ok (.iload 7, 2) := by decide +kernel
theorem dX10_isSwap_85 : decode cX10_isSwap 85 = .ok (.ixor, 1) := by decide +kernel
theorem dX10_isSwap_86 : decode cX10_isSwap 86 = .ok (.invokevirtual 164, 3) := by decide +kernel
theorem dX10_isSwap_89 : decode cX10_isSwap 89 = .ok (.aload_n 0, 1) := by decide +kernel
theorem dX10_isSwap_90 : decode cX10_isSwap 90 = .ok (.iload 4, 2) := by decide +kernel
theorem dX10_isSwap_92 : decode cX10_isSwap 92 = .ok (.iload 6, 2) := by decide +kernel
theorem dX10_isSwap_94 : decode cX10_isSwap 94 = .ok (.invokevirtual 164, 3) := by decide +kernel
theorem dX10_isSwap_97 : decode cX10_isSwap 97 = .ok (.if_icmp .le 7, 3) := by decide +kernel
theorem dX10_isSwap_100 : decode cX10_isSwap 100 = .ok (.iconst 1, 1) := by decide +kernel
theorem dX10_isSwap_101 : decode cX10_isSwap 101 = .ok (.goto 4, 3) := by decide +kernel
theorem dX10_isSwap_104 : decode cX10_isSwap 104 = .ok (.iconst 0, 1) := by decide +kernel
theorem dX10_isSwap_105 : decode cX10_isSwap 105 = .ok (.ireturn, 1) := by decide +kernel
theorem dX10_swaps_0 : decode cX10_swaps 0 = .ok (.iload_n 1, 1) := by decide +kernel
theorem dX10_swaps_1 : decode cX10_swaps 1 = .ok (.iconst (-1), 1) := by decide +kernel
theorem dX10_swaps_2 : decode cX10_swaps 2 = .ok (.if_icmp .ge 8, 3) := by decide +kernel
theorem dX10_swaps_5 : decode cX10_swaps 5 = .ok (.aload_n 0, 1) := by decide +kernel
theorem dX10_swaps_6 : decode cX10_swaps 6 = .ok (.invokevirtual 174, 3) := by decide +kernel
theorem dX10_swaps_9 : decode cX10_swaps 9 = .ok (.ireturn, 1) := by decide +kernel
theorem dX10_swaps_10 : decode cX10_swaps 10 = .ok (.iconst 0, 1) := by decide +kernel
theorem dX10_swaps_11 : decode cX10_swaps 11 = .ok (.istore_n 2, 1) := by decide +kernel
theorem dX10_swaps_12 : decode cX10_swaps 12 = .ok (.bipush (-5), 2) := by decide +kernel
theorem dX10_swaps_14 : decode cX10_swaps 14 = .ok (.istore_n 3, 1) := by decide +kernel
theorem dX10_swaps_15 : decode cX10_swaps 15 = .ok (.iconst 0, 1) := by decide +kernel
theorem dX10_swaps_16 : decode cX10_swaps 16 = .ok (.istore 4, 2) := by decide +kernel
theorem dX10_swaps_18 : decode cX10_swaps 18 = .ok (.iload 4, 2) := by decide +kernel
theorem dX10_swaps_20 : decode cX10_swaps 20 = .ok (.bipush 12, 2) := by decide +kernel
theorem dX10_swaps_22 : decode cX10_swaps 22 = .ok (.if_icmp .ge 60, 3) := by decide +kernel
theorem dX10_swaps_25 : decode cX10_swaps 25 = .ok (.iload 4, 2) := by decide +kernel
theorem dX10_swaps_27 : decode cX10_swaps 27 = .ok (.iconst 1, 1) := by decide +kernel
theorem dX10_swaps_28 : decode cX10_swaps 28 = .ok (.iadd, 1) := by decide +kernel
theorem dX10_swaps_29 : decode cX10_swaps 29 = .ok (.istore 5, 2) := by decide +kernel
theorem dX10_swaps_31 : decode cX10_swaps 31 = .ok (.iload 5, 2) := by decide +kernel
theorem dX10_swaps_33 : decode cX10_swaps 33 = .ok (.bipush 12, 2) := by decide +kernel
theorem dX10_swaps_35 : decode cX10_swaps 35 = .ok (.if_icmp .ge 41, 3) := by decide +kernel
theorem dX10_swaps_38 : decode cX10_swaps 38 = .ok (.aload_n 0, 1) := by decide +kernel
theorem dX10_swaps_39 : decode cX10_swaps 39 = .ok (.iload 4, 2) := by decide +kernel
theorem dX10_swaps_41 : decode cX10_swaps 41 = .ok (.iload 5, 2) := by decide +kernel
theorem dX10_swaps_43 : decode cX10_swaps 43 = .ok (.invokevirtual 208, 3) := by decide +kernel
theorem dX10_swaps_46 : decode cX10_swaps 46 = .ok (.ifCond .eq 24, 3) := by decide +kernel
theorem dX10_swaps_49 : decode cX10_swaps 49 = .ok (.iload_n 2, 1) := by decide +kernel
theorem dX10_swaps_50 : decode cX10_swaps 50 = .ok (.iload_n 1, 1) := by decide +kernel
theorem dX10_swaps_51 : decode cX10_swaps 51 = .ok (.if_icmp .ne 14, 3) := by decide +kernel
theorem dX10_swaps_54 : decode cX10_swaps 54 = .ok (.bipush 100, 2) := by decide +kernel
theorem dX10_swaps_56 : decode cX10_swaps 56 = .ok (.iload 4, 2) := by decide +kernel
theorem dX10_swaps_58 : decode cX10_swaps 58 = .ok (.imul, 1) := by decide +kernel
theorem dX10_swaps_59 : decode cX10_swaps 59 = .ok (.iload 5, 2) := by decide +kernel
theorem dX10_swaps_61 : decode cX10_swaps 61 = .ok (.iadd, 1) := by decide +kernel
theorem dX10_swaps_62 : decode cX10_swaps 62 = .ok (.goto 4, 3) := by decide +kernel
theorem dX10_swaps_65 : decode cX10_swaps 65 = .ok (.iload_n 3, 1) := by decide +kernel
theorem dX10_swaps_66 : decode cX10_swaps 66 = .ok (.istore_n 3, 1) := by decide +kernel
theorem dX10_swaps_67 : decode cX10_swaps 67 = .ok (.iinc 2 1, 3) := by decide +kernel
theorem dX10_swaps_70 : decode cX10_swaps 70 = .ok (.iinc 5 1, 3) := by decide +kernel
theorem dX10_swaps_73 : decode cX10_swaps 73 = .ok (.goto (-42), 3) := by decide +kernel
theorem dX10_swaps_76 : decode cX10_swaps 76 = .ok (.iinc 4 1, 3) := by decide +kernel
theorem dX10_swaps_79 : decode cX10_swaps 79 = .ok (.goto (-61), 3) := by decide +kernel
theorem dX10_swaps_82 : decode cX10_swaps 82 = .ok (.iload_n 1, 1) := by decide +kernel
theorem dX10_swaps_83 : decode cX10_swaps 83 = .ok (.iconst (-1), 1) := by decide +kernel
theorem dX10_swaps_84 : decode cX10_swaps 84 = .ok (.if_icmp .ne 7, 3) := by decide +kernel
theorem dX10_swaps_87 : decode cX10_swaps 87 = .ok (.iload_n 2, 1) := by decide +kernel
theorem dX10_swaps_88 : decode cX10_swaps 88 = .ok (.goto 4, 3) := by decide +kernel
theorem dX10_swaps_91 : decode cX10_swaps 91 = .ok (.iload_n 3, 1) := by decide +kernel
theorem dX10_swaps_92 : decode cX10_swaps 92 = .ok (.ireturn, 1) := by decide +kernel
theorem dX10_puts_0 : decode cX10_puts 0 = .ok (.iconst 0, 1) := by decide +kernel
theorem dX10_puts_1 : decode cX10_puts 1 = .ok (.istore_n 1, 1) := by decide +kernel
theorem dX10_puts_2 : decode cX10_puts 2 = .ok (.iload_n 1, 1) := by decide +kernel
theorem dX10_puts_3 : decode cX10_puts 3 = .ok (.bipush 12, 2) := by decide +kernel
theorem dX10_puts_5 : decode cX10_puts 5 = .ok (.if_icmp .ge 21, 3) := by decide +kernel
theorem dX10_puts_8 : decode cX10_puts 8 = .ok (.aload_n 0, 1) := by decide +kernel
theorem dX10_puts_9 : decode cX10_puts 9 = .ok (.getfield 55, 3) := by decide +kernel
theorem dX10_puts_12 : decode cX10_puts 12 = .ok (.iload_n 1, 1) := by decide +kernel
theorem dX10_puts_13 : decode cX10_puts 13 = .ok (.aload_n 0, 1) := by decide +kernel
theorem dX10_puts_14 : decode cX10_puts 14 = .ok (.getfield 22, 3) := by decide +kernel
theorem dX10_puts_17 : decode cX10_puts 17 = .ok (.iload_n 1, 1) := by decide +kernel
theorem dX10_puts_18 : decode cX10_puts 18 = .ok (.iaload, 1) := by decide +kernel
theorem dX10_puts_19 : decode cX10_puts 19 = .ok (.iastore, 1) := by decide +kernel
theorem dX10_puts_20 : decode cX10_puts 20 = .ok (.iinc 1 1, 3) := by decide +kernel
theorem dX10_puts_23 : decode cX10_puts 23 = .ok (.goto (-21), 3) := by decide +kernel
theorem dX10_puts_26 : decode cX10_puts 26 = .ok (.return_, 1) := by decide +kernel
theorem dX10_back_0 : decode cX10_back 0 = .ok (.iconst 0, 1) := by decide +kernel
theorem dX10_back_1 : decode cX10_back 1 = .ok (.istore_n 1, 1) := by decide +kernel
theorem dX10_back_2 : decode cX10_back 2 = .ok (.iload_n 1, 1) := by decide +kernel
theorem dX10_back_3 : decode cX10_back 3 = .ok (.bipush 12, 2) := by decide +kernel
theorem dX10_back_5 : decode cX10_back 5 = .ok (.if_icmp .ge 21, 3) := by decide +kernel
theorem dX10_back_8 : decode cX10_back 8 = .ok (.aload_n 0, 1) := by decide +kernel
theorem dX10_back_9 : decode cX10_back 9 = .ok (.getfield 22, 3) := by decide +kernel
theorem dX10_back_12 : decode cX10_back 12 = .ok (.iload_n 1, 1) := by decide +kernel
theorem dX10_back_13 : decode cX10_back 13 = .ok (.aload_n 0, 1) := by decide +kernel
theorem dX10_back_14 : decode cX10_back 14 = .ok (.getfield 55, 3) := by decide +kernel
theorem dX10_back_17 : decode cX10_back 17 = .ok (.iload_n 1, 1) := by decide +kernel
theorem dX10_back_18 : decode cX10_back 18 = .ok (.iaload, 1) := by decide +kernel
theorem dX10_back_19 : decode cX10_back 19 = .ok (.iastore, 1) := by decide +kernel
theorem dX10_back_20 : decode cX10_back 20 = .ok (.iinc 1 1, 3) := by decide +kernel
theorem dX10_back_23 : decode cX10_back 23 = .ok (.goto (-21), 3) := by decide +kernel
theorem dX10_back_26 : decode cX10_back 26 = .ok (.return_, 1) := by decide +kernel
theorem dX10_firstSwap_0 : decode cX10_firstSwap 0 = .ok (.iconst 0, 1) := by decide +kernel
theorem dX10_firstSwap_1 : decode cX10_firstSwap 1 = .ok (.istore_n 1, 1) := by decide +kernel
theorem dX10_firstSwap_2 : decode cX10_firstSwap 2 = .ok (.iload_n 1, 1) := by decide +kernel
theorem dX10_firstSwap_3 : decode cX10_firstSwap 3 = .ok (.bipush 12, 2) := by decide +kernel
theorem dX10_firstSwap_5 : decode cX10_firstSwap 5 = .ok (.if_icmp .ge 41, 3) := by decide +kernel
theorem dX10_firstSwap_8 : decode cX10_firstSwap 8 = .ok (.iload_n 1, 1) := by decide +kernel
theorem dX10_firstSwap_9 : decode cX10_firstSwap 9 = .ok (.iconst 1, 1) := by decide +kernel
theorem dX10_firstSwap_10 : decode cX10_firstSwap 10 = .ok (.iadd, 1) := by decide +kernel
theorem dX10_firstSwap_11 : decode cX10_firstSwap 11 = .ok (.istore_n 2, 1) := by decide +kernel
theorem dX10_firstSwap_12 : decode cX10_firstSwap 12 = .ok (.iload_n 2, 1) := by decide +kernel
theorem dX10_firstSwap_13 : decode cX10_firstSwap 13 = .ok (.bipush 12, 2) := by decide +kernel
theorem dX10_firstSwap_15 : decode cX10_firstSwap 15 = .ok (.if_icmp .ge 25, 3) := by decide +kernel
theorem dX10_firstSwap_18 : decode cX10_firstSwap 18 = .ok (.aload_n 0, 1) := by decide +kernel
theorem dX10_firstSwap_19 : decode cX10_firstSwap 19 = .ok (.iload_n 1, 1) := by decide +kernel
theorem dX10_firstSwap_20 : decode cX10_firstSwap 20 = .ok (.iload_n 2, 1) := by decide +kernel
theorem dX10_firstSwap_21 : decode cX10_firstSwap 21 = .ok (.invokevirtual 208, 3) := by decide +kernel
theorem dX10_firstSwap_24 : decode cX10_firstSwap 24 = .ok (.ifCond .eq 10, 3) := by decide +kernel
theorem dX10_firstSwap_27 : decode cX10_firstSwap 27 = .ok (.bipush 100, 2) := by decide +kernel
theorem dX10_firstSwap_29 : decode cX10_firstSwap 29 = .ok (.iload_n 1, 1) := by decide +kernel
theorem dX10_firstSwap_30 : decode cX10_firstSwap 30 = .ok (.imul, 1) := by decide +kernel
theorem dX10_firstSwap_31 : decode cX10_firstSwap 31 = .ok (.iload_n 2, 1) := by decide +kernel
theorem dX10_firstSwap_32 : decode cX10_firstSwap 32 = .ok (.iadd, 1) := by decide +kernel
theorem dX10_firstSwap_33 : decode cX10_firstSwap 33 = .ok (.ireturn, 1) := by decide +kernel
theorem dX10_firstSwap_34 : decode cX10_firstSwap 34 = .ok (.iinc 2 1, 3) := by decide +kernel
theorem dX10_firstSwap_37 : decode cX10_firstSwap 37 = .ok (.goto (-25), 3) := by decide +kernel
theorem dX10_firstSwap_40 : decode cX10_firstSwap 40 = .ok (.iinc 1 1, 3) := by decide +kernel
theorem dX10_firstSwap_43 : decode cX10_firstSwap 43 = .ok (.goto (-41), 3) := by decide +kernel
theorem dX10_firstSwap_46 : decode cX10_firstSwap 46 = .ok (.iconst (-1), 1) := by decide +kernel
theorem dX10_firstSwap_47 : decode cX10_firstSwap 47 = .ok (.ireturn, 1) := by decide +kernel
theorem dX10_steps_0 : decode cX10_steps 0 = .ok (.aload_n 0, 1) := by decide +kernel
theorem dX10_steps_1 : decode cX10_steps 1 = .ok (.invokevirtual 211, 3) := by decide +kernel
theorem dX10_steps_4 : decode cX10_steps 4 = .ok (.iconst 0, 1) := by decide +kernel
theorem dX10_steps_5 : decode cX10_steps 5 = .ok (.istore_n 1, 1) := by decide +kernel
theorem dX10_steps_6 : decode cX10_steps 6 = .ok (.aload_n 0, 1) := by decide +kernel
theorem dX10_steps_7 : decode cX10_steps 7 = .ok (.invokevirtual 214, 3) := by decide +kernel
theorem dX10_steps_10 : decode cX10_steps 10 = .ok (.istore_n 2, 1) := by decide +kernel
theorem dX10_steps_11 : decode cX10_steps 11 = .ok (.iload_n 1, 1) := by decide +kernel
theorem dX10_steps_12 : decode cX10_steps 12 = .ok (.bipush 99, 2) := by decide +kernel
theorem dX10_steps_14 : decode cX10_steps 14 = .ok (.if_icmp .ge 31, 3) := by decide +kernel
theorem dX10_steps_17 : decode cX10_steps 17 = .ok (.iload_n 2, 1) := by decide +kernel
theorem dX10_steps_18 : decode cX10_steps 18 = .ok (.iconst (-1), 1) := by decide +kernel
theorem dX10_steps_19 : decode cX10_steps 19 = .ok (.if_icmp .eq 26, 3) := by decide +kernel
theorem dX10_steps_22 : decode cX10_steps 22 = .ok (.aload_n 0, 1) := by decide +kernel
theorem dX10_steps_23 : decode cX10_steps 23 = .ok (.iload_n 2, 1) := by decide +kernel
theorem dX10_steps_24 : decode cX10_steps 24 = .ok (.bipush 100, 2) := by decide +kernel
theorem dX10_steps_26 : decode cX10_steps 26 = .ok (.idiv, 1) := by decide +kernel
theorem dX10_steps_27 : decode cX10_steps 27 = .ok (.iload_n 2, 1) := by decide +kernel
theorem dX10_steps_28 : decode cX10_steps 28 = .ok (.bipush 100, 2) := by decide +kernel
theorem dX10_steps_30 : decode cX10_steps 30 = .ok (.irem, 1) := by decide +kernel
theorem dX10_steps_31 : decode cX10_steps 31 = .ok (.invokevirtual 183, 3) := by decide +kernel
theorem dX10_steps_34 : decode cX10_steps 34 = .ok (.iinc 1 1, 3) := by decide +kernel
theorem dX10_steps_37 : decode cX10_steps 37 = .ok (.aload_n 0, 1) := by decide +kernel
theorem dX10_steps_38 : decode cX10_steps 38 = .ok (.invokevirtual 214, 3) := by decide +kernel
theorem dX10_steps_41 : decode cX10_steps 41 = .ok (.istore_n 2, 1) := by decide +kernel
theorem dX10_steps_42 : decode cX10_steps 42 = .ok (.goto (-31), 3) := by decide +kernel
theorem dX10_steps_45 : decode cX10_steps 45 = .ok (.aload_n 0, 1) := by decide +kernel
theorem dX10_steps_46 : decode cX10_steps 46 = .ok (.invokevirtual 217, 3) := by decide +kernel
theorem dX10_steps_49 : decode cX10_steps 49 = .ok (.iload_n 1, 1) := by decide +kernel
theorem dX10_steps_50 : decode cX10_steps 50 = .ok (.ireturn, 1) := by decide +kernel
theorem dX10_sale_0 : decode cX10_sale 0 = .ok (.iload_n 1, 1) := by decide +kernel
theorem dX10_sale_1 : decode cX10_sale 1 = .ok (.invokestatic 168, 3) := by decide +kernel
theorem dX10_sale_4 : decode cX10_sale 4 = .ok (.ifCond .eq 12, 3) := by decide +kernel
theorem dX10_sale_7 : decode cX10_sale 7 = .ok (.iload_n 2, 1) := by decide +kernel
theorem dX10_sale_8 : decode cX10_sale 8 = .ok (.iconst 0, 1) := by decide +kernel
theorem dX10_sale_9 : decode cX10_sale 9 = .ok (.iconst 1, 1) := by decide +kernel
theorem dX10_sale_10 : decode cX10_sale 10 = .ok (.invokestatic 81, 3) := by decide +kernel
theorem dX10_sale_13 : decode cX10_sale 13 = .ok (.ifCond .ne 8, 3) := by decide +kernel
theorem dX10_sale_16 : decode cX10_sale 16 = .ok (.aload_n 0, 1) := by decide +kernel
theorem dX10_sale_17 : decode cX10_sale 17 = .ok (.invokevirtual 85, 3) := by decide +kernel
theorem dX10_sale_20 : decode cX10_sale 20 = .ok (.ireturn, 1) := by decide +kernel
theorem dX10_sale_21 : decode cX10_sale 21 = .ok (.aload_n 0, 1) := by decide +kernel
theorem dX10_sale_22 : decode cX10_sale 22 = .ok (.getfield 22, 3) := by decide +kernel
theorem dX10_sale_25 : decode cX10_sale 25 = .ok (.iload_n 1, 1) := by decide +kernel
theorem dX10_sale_26 : decode cX10_sale 26 = .ok (.iaload, 1) := by decide +kernel
theorem dX10_sale_27 : decode cX10_sale 27 = .ok (.istore_n 3, 1) := by decide +kernel
theorem dX10_sale_28 : decode cX10_sale 28 = .ok (.iconst 0, 1) := by decide +kernel
theorem dX10_sale_29 : decode cX10_sale 29 = .ok (.istore 4, 2) := by decide +kernel
theorem dX10_sale_31 : decode cX10_sale 31 = .ok (.iload_n 3, 1) := by decide +kernel
theorem dX10_sale_32 : decode cX10_sale 32 = .ok (.iconst (-1), 1) := by decide +kernel
theorem dX10_sale_33 : decode cX10_sale 33 = .ok (.if_icmp .eq 27, 3) := by decide +kernel
theorem dX10_sale_36 : decode cX10_sale 36 = .ok (.aload_n 0, 1) := by decide +kernel
theorem dX10_sale_37 : decode cX10_sale 37 = .ok (.iload_n 3, 1) := by decide +kernel
theorem dX10_sale_38 : decode cX10_sale 38 = .ok (.invokevirtual 193, 3) := by decide +kernel
theorem dX10_sale_41 : decode cX10_sale 41 = .ok (.aload_n 0, 1) := by decide +kernel
theorem dX10_sale_42 : decode cX10_sale 42 = .ok (.iload_n 3, 1) := by decide +kernel
theorem dX10_sale_43 : decode cX10_sale 43 = .ok (.aload_n 0, 1) := by decide +kernel
theorem dX10_sale_44 : decode cX10_sale 44 = .ok (.iload_n 3, 1) := by decide +kernel
theorem dX10_sale_45 : decode cX10_sale 45 = .ok (.invokevirtual 161, 3) := by decide +kernel
theorem dX10_sale_48 : decode cX10_sale 48 = .ok (.iconst 1, 1) := by decide +kernel
theorem dX10_sale_49 : decode cX10_sale 49 = .ok (.iload_n 1, 1) := by decide +kernel
theorem dX10_sale_50 : decode cX10_sale 50 = .ok (.ishl, 1) := by decide +kernel
theorem dX10_sale_51 : decode cX10_sale 51 = .ok (.iconst (-1), 1) := by decide +kernel
theorem dX10_sale_52 : decode cX10_sale 52 = .ok (.ixor, 1) := by decide +kernel
theorem dX10_sale_53 : decode cX10_sale 53 = .ok (.iand, 1) := by decide +kernel
theorem dX10_sale_54 : decode cX10_sale 54 = .ok (.invokevirtual 164, 3) := by decide +kernel
theorem dX10_sale_57 : decode cX10_sale 57 = .ok (.isub, 1) := by decide +kernel
theorem dX10_sale_58 : decode cX10_sale 58 = .ok (.istore 4, 2) := by decide +kernel
theorem dX10_sale_60 : decode cX10_sale 60 = .ok (.iconst (-1), 1) := by decide +kernel
theorem dX10_sale_61 : decode cX10_sale 61 = .ok (.istore 5, 2) := by decide +kernel
theorem dX10_sale_63 : decode cX10_sale 63 = .ok (.iconst 0, 1) := by decide +kernel
theorem dX10_sale_64 : decode cX10_sale 64 = .ok (.istore 6, 2) := by decide +kernel
theorem dX10_sale_66 : decode cX10_sale 66 = .ok (.iconst 0, 1) := by decide +kernel
theorem dX10_sale_67 : decode cX10_sale 67 = .ok (.istore 7, 2) := by decide +kernel
theorem dX10_sale_69 : decode cX10_sale 69 = .ok (.iload 7, 2) := by decide +kernel
theorem dX10_sale_71 : decode cX10_sale 71 = .ok (.aload_n 0, 1) := by decide +kernel
theorem dX10_sale_72 : decode cX10_sale 72 = .ok (.getfield 71, 3) := by decide +kernel
theorem dX10_sale_75 : decode cX10_sale 75 = .ok (.if_icmp .ge 87, 3) := by decide +kernel
theorem dX10_sale_78 : decode cX10_sale 78 = .ok (.iload 7, 2) := by decide +kernel
theorem dX10_sale_80 : decode cX10_sale 80 = .ok (.iload_n 3, 1) := by decide +kernel
theorem dX10_sale_81 : decode cX10_sale 81 = .ok (.if_icmp .eq 75, 3) := by decide +kernel
theorem dX10_sale_84 : decode cX10_sale 84 = .ok (.aload_n 0, 1) := by decide +kernel
theorem dX10_sale_85 : decode cX10_sale 85 = .ok (.getfield 19, 3) := by decide +kernel
theorem dX10_sale_88 : decode cX10_sale 88 = .ok (.iload 7, 2) := by decide +kernel
theorem dX10_sale_90 : decode cX10_sale 90 = .ok (.iaload, 1) := by decide +kernel
theorem dX10_sale_91 : decode cX10_sale 91 = .ok (.iload 4, 2) := by decide +kernel
theorem dX10_sale_93 : decode cX10_sale 93 = .ok (.if_icmp .lt 63, 3) := by decide +kernel
theorem dX10_sale_96 : decode cX10_sale 96 = .ok (.aload_n 0, 1) := by decide +kernel
theorem dX10_sale_97 : decode cX10_sale 97 = .ok (.iload 7, 2) := by decide +kernel
theorem dX10_sale_99 : decode cX10_sale 99 = .ok (.aload_n 0, 1) := by decide +kernel
theorem dX10_sale_100 : decode cX10_sale 100 = .ok (.iload 7, 2) := by decide +kernel
theorem dX10_sale_102 : decode cX10_sale 102 = .ok (.invokevirtual 161, 3) := by decide +kernel
theorem dX10_sale_105 : decode cX10_sale 105 = .ok (.iconst 1, 1) := by decide +kernel
theorem dX10_sale_106 : decode cX10_sale 106 = .ok (.iload_n 1, 1) := by decide +kernel
theorem dX10_sale_107 : decode cX10_sale 107 = .ok (.ishl, 1) := by decide +kernel
theorem dX10_sale_108 : decode cX10_sale 108 = .ok (.ior, 1) := by decide +kernel
theorem dX10_sale_109 : decode cX10_sale 109 = .ok (.invokevirtual 164, 3) := by decide +kernel
theorem dX10_sale_112 : decode cX10_sale 112 = .ok (.aload_n 0, 1) := by decide +kernel
theorem dX10_sale_113 : decode cX10_sale 113 = .ok (.iload 7, 2) := by decide +kernel
theorem dX10_sale_115 : decode cX10_sale 115 = .ok (.invokevirtual 193, 3) := by decide +kernel
theorem dX10_sale_118 : decode cX10_sale 118 = .ok (.isub, 1) := by decide +kernel
theorem dX10_sale_119 : decode cX10_sale 119 = .ok (.iload 4, 2) := by decide +kernel
theorem dX10_sale_121 : decode cX10_sale 121 = .ok (.isub, 1) := by decide +kernel
theorem dX10_sale_122 : decode cX10_sale 122 = .ok (.istore 8, 2) := by decide +kernel
theorem dX10_sale_124 : decode cX10_sale 124 = .ok (.iload 8, 2) := by decide +kernel
theorem dX10_sale_126 : decode cX10_sale 126 = .ok (.iload 6, 2) := by decide +kernel
theorem dX10_sale_128 : decode cX10_sale 128 = .ok (.if_icmp .le 8, 3) := by decide +kernel
theorem dX10_sale_131 : decode cX10_sale 131 = .ok (.iload 7, 2) := by decide +kernel
theorem dX10_sale_133 : decode cX10_sale 133 = .ok (.goto 5, 3) := by decide +kernel
theorem dX10_sale_136 : decode cX10_sale 136 = .ok (.iload 5, 2) := by decide +kernel
theorem dX10_sale_138 : decode cX10_sale 138 = .ok (.istore 5, 2) := by decide +kernel
theorem dX10_sale_140 : decode cX10_sale 140 = .ok (.iload 8, 2) := by decide +kernel
theorem dX10_sale_142 : decode cX10_sale 142 = .ok (.iload 6, 2) := by decide +kernel
theorem dX10_sale_144 : decode cX10_sale 144 = .ok (.if_icmp .le 8, 3) := by decide +kernel
theorem dX10_sale_147 : decode cX10_sale 147 = .ok (.iload 8, 2) := by decide +kernel
theorem dX10_sale_149 : decode cX10_sale 149 = .ok (.goto 5, 3) := by decide +kernel
theorem dX10_sale_152 : decode cX10_sale 152 = .ok (.iload 6, 2) := by decide +kernel
theorem dX10_sale_154 : decode cX10_sale 154 = .ok (.istore 6, 2) := by decide +kernel
theorem dX10_sale_156 : decode cX10_sale 156 = .ok (.iinc 7 1, 3) := by decide +kernel
theorem dX10_sale_159 : decode cX10_sale 159 = .ok (.goto (-90), 3) := by decide +kernel
theorem dX10_sale_162 : decode cX10_sale 162 = .ok (.iload 5, 2) := by decide +kernel
theorem dX10_sale_164 : decode cX10_sale 164 = .ok (.iconst (-1), 1) := by decide +kernel
theorem dX10_sale_165 : decode cX10_sale 165 = .ok (.if_icmp .eq 7, 3) := by decide +kernel
theorem dX10_sale_168 : decode cX10_sale 168 = .ok (.iload_n 2, 1) := by decide +kernel
theorem dX10_sale_169 : decode cX10_sale 169 = .ok (.ifCond .ne 8, 3) := by decide +kernel
theorem dX10_sale_172 : decode cX10_sale 172 = .ok (.iload 5, 2) := by decide +kernel
theorem dX10_sale_174 : decode cX10_sale 174 = .ok (.goto 5, 3) := by decide +kernel
theorem dX10_sale_177 : decode cX10_sale 177 = .ok (.iload 6, 2) := by decide +kernel
theorem dX10_sale_179 : decode cX10_sale 179 = .ok (.ireturn, 1) := by decide +kernel
theorem dX10_longest_0 : decode cX10_longest 0 = .ok (.iload_n 1, 1) := by decide +kernel
theorem dX10_longest_1 : decode cX10_longest 1 = .ok (.iconst 0, 1) := by decide +kernel
theorem dX10_longest_2 : decode cX10_longest 2 = .ok (.iconst 1, 1) := by decide +kernel
theorem dX10_longest_3 : decode cX10_longest 3 = .ok (.invokestatic 81, 3) := by decide +kernel
theorem dX10_longest_6 : decode cX10_longest 6 = .ok (.ifCond .ne 8, 3) := by decide +kernel
theorem dX10_longest_9 : decode cX10_longest 9 = .ok (.aload_n 0, 1) := by decide +kernel
theorem dX10_longest_10 : decode cX10_longest 10 = .ok (.invokevirtual 85, 3) := by decide +kernel
theorem dX10_longest_13 : decode cX10_longest 13 = .ok (.ireturn, 1) := by decide +kernel
theorem dX10_longest_14 : decode cX10_longest 14 = .ok (.iconst (-1), 1) := by decide +kernel
theorem dX10_longest_15 : decode cX10_longest 15 = .ok (.istore_n 2, 1) := by decide +kernel
theorem dX10_longest_16 : decode cX10_longest 16 = .ok (.iconst 0, 1) := by decide +kernel
theorem dX10_longest_17 : decode cX10_longest 17 = .ok (.istore_n 3, 1) := by decide +kernel
theorem dX10_longest_18 : decode cX10_longest 18 = .ok (.iconst 0, 1) := by decide +kernel
theorem dX10_longest_19 : decode cX10_longest 19 = .ok (.istore 4, 2) := by decide +kernel
theorem dX10_longest_21 : decode cX10_longest 21 = .ok (.iconst 0, 1) := by decide +kernel
theorem dX10_longest_22 : decode cX10_longest 22 = .ok (.istore 5, 2) := by decide +kernel
theorem dX10_longest_24 : decode cX10_longest 24 = .ok (.iload 5, 2) := by decide +kernel
theorem dX10_longest_26 : decode cX10_longest 26 = .ok (.bipush 12, 2) := by decide +kernel
theorem dX10_longest_28 : decode cX10_longest 28 = .ok (.if_icmp .ge 75, 3) := by decide +kernel
theorem dX10_longest_31 : decode cX10_longest 31 = .ok (.iload 5, 2) := by decide +kernel
theorem dX10_longest_33 : decode cX10_longest 33 = .ok (.ifCond .le 27, 3) := by decide +kernel
theorem dX10_longest_36 : decode cX10_longest 36 = .ok (.aload_n 0, 1) := by decide +kernel
theorem dX10_longest_37 : decode cX10_longest 37 = .ok (.getfield 22, 3) := by decide +kernel
theorem dX10_longest_40 : decode cX10_longest 40 = .ok (.iload 5, 2) := by decide +kernel
theorem dX10_longest_42 : decode cX10_longest 42 = .ok (.iaload, 1) := by decide +kernel
theorem dX10_longest_43 : decode cX10_longest 43 = .ok (.aload_n 0, 1) := by decide +kernel
theorem dX10_longest_44 : decode cX10_longest 44 = .ok (.getfield 22, 3) := by decide +kernel
theorem dX10_longest_47 : decode cX10_longest 47 = .ok (.iload 5, 2) := by decide +kernel
theorem dX10_longest_49 : decode cX10_longest 49 = .ok (.iconst 1, 1) := by decide +kernel
theorem dX10_longest_50 : decode cX10_longest 50 = .ok (.isub, 1) := by decide +kernel
theorem dX10_longest_51 : decode cX10_longest 51 = .ok (.iaload, 1) := by decide +kernel
theorem dX10_longest_52 : decode cX10_longest 52 = .ok (.if_icmp .ne 8, 3) := by decide +kernel
theorem dX10_longest_55 : decode cX10_longest 55 = .ok (.iload 4, 2) := by decide +kernel
theorem dX10_longest_57 : decode cX10_longest 57 = .ok (.goto 5, 3) := by decide +kernel
theorem dX10_longest_60 : decode cX10_longest 60 = .ok (.iload 5, 2) := by decide +kernel
theorem dX10_longest_62 : decode cX10_longest 62 = .ok (.istore 4, 2) := by decide +kernel
theorem dX10_longest_64 : decode cX10_longest 64 = .ok (.aload_n 0, 1) := by decide +kernel
theorem dX10_longest_65 : decode cX10_longest 65 = .ok (.getfield 22, 3) := by decide +kernel
theorem dX10_longest_68 : decode cX10_longest 68 = .ok (.iload 5, 2) := by decide +kernel
theorem dX10_longest_70 : decode cX10_longest 70 = .ok (.iaload, 1) := by decide +kernel
theorem dX10_longest_71 : decode cX10_longest 71 = .ok (.iconst (-1), 1) := by decide +kernel
theorem dX10_longest_72 : decode cX10_longest 72 = .ok (.if_icmp .eq 25, 3) := by decide +kernel
theorem dX10_longest_75 : decode cX10_longest 75 = .ok (.iload 5, 2) := by decide +kernel
theorem dX10_longest_77 : decode cX10_longest 77 = .ok (.iconst 1, 1) := by decide +kernel
theorem dX10_longest_78 : decode cX10_longest 78 = .ok (.iadd, 1) := by decide +kernel
theorem dX10_longest_79 : decode cX10_longest 79 = .ok (.iload 4, 2) := by decide +kernel
theorem dX10_longest_81 : decode cX10_longest 81 = .ok (.isub, 1) := by decide +kernel
theorem dX10_longest_82 : decode cX10_longest 82 = .ok (.iload_n 3, 1) := by decide +kernel
theorem dX10_longest_83 : decode cX10_longest 83 = .ok (.if_icmp .le 14, 3) := by decide +kernel
theorem dX10_longest_86 : decode cX10_longest 86 = .ok (.iload 4, 2) := by decide +kernel
theorem dX10_longest_88 : decode cX10_longest 88 = .ok (.istore_n 2, 1) := by decide +kernel
theorem dX10_longest_89 : decode cX10_longest 89 = .ok (.iload 5, 2) := by decide +kernel
theorem dX10_longest_91 : decode cX10_longest 91 = .ok (.iconst 1, 1) := by decide +kernel
theorem dX10_longest_92 : decode cX10_longest 92 = .ok (.iadd, 1) := by decide +kernel
theorem dX10_longest_93 : decode cX10_longest 93 = .ok (.iload 4, 2) := by decide +kernel
theorem dX10_longest_95 : decode cX10_longest 95 = .ok (.isub, 1) := by decide +kernel
theorem dX10_longest_96 : decode cX10_longest 96 = .ok (.istore_n 3, 1) := by decide +kernel
theorem dX10_longest_97 : decode cX10_longest 97 = .ok (.iinc 5 1, 3) := by decide +kernel
theorem dX10_longest_100 : decode cX10_longest 100 = .ok (.goto (-76), 3) := by decide +kernel
theorem dX10_longest_103 : decode cX10_longest 103 = .ok (.iload_n 1, 1) := by decide +kernel
theorem dX10_longest_104 : decode cX10_longest 104 = .ok (.ifCond .ne 7, 3) := by decide +kernel
theorem dX10_longest_107 : decode cX10_longest 107 = .ok (.iload_n 2, 1) := by decide +kernel
theorem dX10_longest_108 : decode cX10_longest 108 = .ok (.goto 4, 3) := by decide +kernel
theorem dX10_longest_111 : decode cX10_longest 111 = .ok (.iload_n 3, 1) := by decide +kernel
theorem dX10_longest_112 : decode cX10_longest 112 = .ok (.ireturn, 1) := by decide +kernel
theorem dX10_together_0 : decode cX10_together 0 = .ok (.aload_n 0, 1) := by decide +kernel
theorem dX10_together_1 : decode cX10_together 1 = .ok (.iload_n 1, 1) := by decide +kernel
theorem dX10_together_2 : decode cX10_together 2 = .ok (.invokevirtual 171, 3) := by decide +kernel
theorem dX10_together_5 : decode cX10_together 5 = .ok (.ifCond .eq 16, 3) := by decide +kernel
theorem dX10_together_8 : decode cX10_together 8 = .ok (.aload_n 0, 1) := by decide +kernel
theorem dX10_together_9 : decode cX10_together 9 = .ok (.iload_n 2, 1) := by decide +kernel
theorem dX10_together_10 : decode cX10_together 10 = .ok (.invokevirtual 171, 3) := by decide +kernel
theorem dX10_together_13 : decode cX10_together 13 = .ok (.ifCond .eq 8, 3) := by decide +kernel
theorem dX10_together_16 : decode cX10_together 16 = .ok (.iload_n 1, 1) := by decide +kernel
theorem dX10_together_17 : decode cX10_together 17 = .ok (.iload_n 2, 1) := by decide +kernel
theorem dX10_together_18 : decode cX10_together 18 = .ok (.if_icmp .ne 8, 3) := by decide +kernel
theorem dX10_together_21 : decode cX10_together 21 = .ok (.aload_n 0, 1) := by decide +kernel
theorem dX10_together_22 : decode cX10_together 22 = .ok (.invokevirtual 85, 3) := by decide +kernel
theorem dX10_together_25 : decode cX10_together 25 = .ok (.ireturn, 1) := by decide +kernel
theorem dX10_together_26 : decode cX10_together 26 = .ok (.iconst 0, 1) := by decide +kernel
theorem dX10_together_27 : decode cX10_together 27 = .ok (.istore_n 3, 1) := by decide +kernel
theorem dX10_together_28 : decode cX10_together 28 = .ok (.iconst 0, 1) := by decide +kernel
theorem dX10_together_29 : decode cX10_together 29 = .ok (.istore 4, 2) := by decide +kernel
theorem dX10_together_31 : decode cX10_together 31 = .ok (.iconst 0, 1) := by decide +kernel
theorem dX10_together_32 : decode cX10_together 32 = .ok (.istore 5, 2) := by decide +kernel
theorem dX10_together_34 : decode cX10_together 34 = .ok (.iload 5, 2) := by decide +kernel
theorem dX10_together_36 : decode cX10_together 36 = .ok (.bipush 12, 2) := by decide +kernel
theorem dX10_together_38 : decode cX10_together 38 = .ok (.if_icmp .ge 54, 3) := by decide +kernel
theorem dX10_together_41 : decode cX10_together 41 = .ok (.aload_n 0, 1) := by decide +kernel
theorem dX10_together_42 : decode cX10_together 42 = .ok (.getfield 22, 3) := by decide +kernel
theorem dX10_together_45 : decode cX10_together 45 = .ok (.iload 5, 2) := by decide +kernel
theorem dX10_together_47 : decode cX10_together 47 = .ok (.iaload, 1) := by decide +kernel
theorem dX10_together_48 : decode cX10_together 48 = .ok (.iload_n 1, 1) := by decide +kernel
theorem dX10_together_49 : decode cX10_together 49 = .ok (.if_icmp .eq 14, 3) := by decide +kernel
theorem dX10_together_52 : decode cX10_together 52 = .ok (.aload_n 0, 1) := by decide +kernel
theorem dX10_together_53 : decode cX10_together 53 = .ok (.getfield 22, 3) := by decide +kernel
theorem dX10_together_56 : decode cX10_together 56 = .ok (.iload 5, 2) := by decide +kernel
theorem dX10_together_58 : decode cX10_together 58 = .ok (.iaload, 1) := by decide +kernel
theorem dX10_together_59 : decode cX10_together 59 = .ok (.iload_n 2, 1) := by decide +kernel
theorem dX10_together_60 : decode cX10_together 60 = .ok (.if_icmp .ne 10, 3) := by decide +kernel
theorem dX10_together_63 : decode cX10_together 63 = .ok (.iload 4, 2) := by decide +kernel
theorem dX10_together_65 : decode cX10_together 65 = .ok (.iconst 1, 1) := by decide +kernel
theorem dX10_together_66 : decode cX10_together 66 = .ok (.iadd, 1) := by decide +kernel
theorem dX10_together_67 : decode cX10_together 67 = .ok (.goto 4, 3) := by decide +kernel
theorem dX10_together_70 : decode cX10_together 70 = .ok (.iconst 0, 1) := by decide +kernel
theorem dX10_together_71 : decode cX10_together 71 = .ok (.istore 4, 2) := by decide +kernel
theorem dX10_together_73 : decode cX10_together 73 = .ok (.iload 4, 2) := by decide +kernel
theorem dX10_together_75 : decode cX10_together 75 = .ok (.iload_n 3, 1) := by decide +kernel
theorem dX10_together_76 : decode cX10_together 76 = .ok (.if_icmp .le 8, 3) := by decide +kernel
theorem dX10_together_79 : decode cX10_together 79 = .ok (.iload 4, 2) := by decide +kernel
theorem dX10_together_81 : decode cX10_together 81 = .ok (.goto 4, 3) := by decide +kernel
theorem dX10_together_84 : decode cX10_together 84 = .ok (.iload_n 3, 1) := by decide +kernel
theorem dX10_together_85 : decode cX10_together 85 = .ok (.istore_n 3, 1) := by decide +kernel
theorem dX10_together_86 : decode cX10_together 86 = .ok (.iinc 5 1, 3) := by decide +kernel
theorem dX10_together_89 : decode cX10_together 89 = .ok (.goto (-55), 3) := by decide +kernel
theorem dX10_together_92 : decode cX10_together 92 = .ok (.iload_n 3, 1) := by decide +kernel
theorem dX10_together_93 : decode cX10_together 93 = .ok (.ireturn, 1) := by decide +kernel
theorem dX10_note_0 : decode cX10_note 0 = .ok (.aload_n 0, 1) := by decide +kernel
theorem dX10_note_1 : decode cX10_note 1 = .ok (.iload_n 1, 1) := by decide +kernel
theorem dX10_note_2 : decode cX10_note 2 = .ok (.invokevirtual 171, 3) := by decide +kernel
theorem dX10_note_5 : decode cX10_note 5 = .ok (.ifCond .eq 30, 3) := by decide +kernel
theorem dX10_note_8 : decode cX10_note 8 = .ok (.iload_n 2, 1) := by decide +kernel
theorem dX10_note_9 : decode cX10_note 9 = .ok (.invokestatic 168, 3) := by decide +kernel
theorem dX10_note_12 : decode cX10_note 12 = .ok (.ifCond .eq 23, 3) := by decide +kernel
theorem dX10_note_15 : decode cX10_note 15 = .ok (.iload_n 3, 1) := by decide +kernel
theorem dX10_note_16 : decode cX10_note 16 = .ok (.iconst 0, 1) := by decide +kernel
theorem dX10_note_17 : decode cX10_note 17 = .ok (.bipush 20, 2) := by decide +kernel
theorem dX10_note_19 : decode cX10_note 19 = .ok (.invokestatic 81, 3) := by decide +kernel
theorem dX10_note_22 : decode cX10_note 22 = .ok (.ifCond .eq 13, 3) := by decide +kernel
theorem dX10_note_25 : decode cX10_note 25 = .ok (.iload 4, 2) := by decide +kernel
theorem dX10_note_27 : decode cX10_note 27 = .ok (.iconst 0, 1) := by decide +kernel
theorem dX10_note_28 : decode cX10_note 28 = .ok (.iconst 1, 1) := by decide +kernel
theorem dX10_note_29 : decode cX10_note 29 = .ok (.invokestatic 81, 3) := by decide +kernel
theorem dX10_note_32 : decode cX10_note 32 = .ok (.ifCond .ne 8, 3) := by decide +kernel
theorem dX10_note_35 : decode cX10_note 35 = .ok (.aload_n 0, 1) := by decide +kernel
theorem dX10_note_36 : decode cX10_note 36 = .ok (.invokevirtual 85, 3) := by decide +kernel
theorem dX10_note_39 : decode cX10_note 39 = .ok (.ireturn, 1) := by decide +kernel
theorem dX10_note_40 : decode cX10_note 40 = .ok (.aload_n 0, 1) := by decide +kernel
theorem dX10_note_41 : decode cX10_note 41 = .ok (.getfield 75, 3) := by decide +kernel
theorem dX10_note_44 : decode cX10_note 44 = .ok (.bipush 6, 2) := by decide +kernel
theorem dX10_note_46 : decode cX10_note 46 = .ok (.if_icmp .ne 8, 3) := by decide +kernel
theorem dX10_note_49 : decode cX10_note 49 = .ok (.aload_n 0, 1) := by decide +kernel
theorem dX10_note_50 : decode cX10_note 50 = .ok (.invokevirtual 89, 3) := by decide +kernel
theorem dX10_note_53 : decode cX10_note 53 = .ok (.ireturn, 1) := by decide +kernel
theorem dX10_note_54 : decode cX10_note 54 = .ok (.aload_n 0, 1) := by decide +kernel
theorem dX10_note_55 : decode cX10_note 55 = .ok (.getfield 25, 3) := by decide +kernel
theorem dX10_note_58 : decode cX10_note 58 = .ok (.aload_n 0, 1) := by decide +kernel
theorem dX10_note_59 : decode cX10_note 59 = .ok (.getfield 75, 3) := by decide +kernel
theorem dX10_note_62 : decode cX10_note 62 = .ok (.iload_n 1, 1) := by decide +kernel
theorem dX10_note_63 : decode cX10_note 63 = .ok (.iastore, 1) := by decide +kernel
theorem dX10_note_64 : decode cX10_note 64 = .ok (.aload_n 0, 1) := by decide +kernel
theorem dX10_note_65 : decode cX10_note 65 = .ok (.getfield 28, 3) := by decide +kernel
theorem dX10_note_68 : decode cX10_note 68 = .ok (.aload_n 0, 1) := by decide +kernel
theorem dX10_note_69 : decode cX10_note 69 = .ok (.getfield 75, 3) := by decide +kernel
theorem dX10_note_72 : decode cX10_note 72 = .ok (.iload_n 2, 1) := by decide +kernel
theorem dX10_note_73 : decode cX10_note 73 = .ok (.iastore, 1) := by decide +kernel
theorem dX10_note_74 : decode cX10_note 74 = .ok (.aload_n 0, 1) := by decide +kernel
theorem dX10_note_75 : decode cX10_note 75 = .ok (.getfield 31, 3) := by decide +kernel
theorem dX10_note_78 : decode cX10_note 78 = .ok (.aload_n 0, 1) := by decide +kernel
theorem dX10_note_79 : decode cX10_note 79 = .ok (.getfield 75, 3) := by decide +kernel
theorem dX10_note_82 : decode cX10_note 82 = .ok (.iload_n 3, 1) := by decide +kernel
theorem dX10_note_83 : decode cX10_note 83 = .ok (.iastore, 1) := by decide +kernel
theorem dX10_note_84 : decode cX10_note 84 = .ok (.aload_n 0, 1) := by decide +kernel
theorem dX10_note_85 : decode cX10_note 85 = .ok (.getfield 34, 3) := by decide +kernel
theorem dX10_note_88 : decode cX10_note 88 = .ok (.aload_n 0, 1) := by decide +kernel
theorem dX10_note_89 : decode cX10_note 89 = .ok (.getfield 75, 3) := by decide +kernel
theorem dX10_note_92 : decode cX10_note 92 = .ok (.iload 4, 2) := by decide +kernel
theorem dX10_note_94 : decode cX10_note 94 = .ok (.iastore, 1) := by decide +kernel
theorem dX10_note_95 : decode cX10_note 95 = .ok (.aload_n 0, 1) := by decide +kernel
theorem dX10_note_96 : decode cX10_note 96 = .ok (.dup, 1) := by decide +kernel
theorem dX10_note_97 : decode cX10_note 97 = .ok (.getfield 75, 3) := by decide +kernel
theorem dX10_note_100 : decode cX10_note 100 = .ok (.iconst 1, 1) := by decide +kernel
theorem dX10_note_101 : decode cX10_note 101 = .ok (.iadd, 1) := by decide +kernel
theorem dX10_note_102 : decode cX10_note 102 = .ok (.putfield 75, 3) := by decide +kernel
theorem dX10_note_105 : decode cX10_note 105 = .ok (.aload_n 0, 1) := by decide +kernel
theorem dX10_note_106 : decode cX10_note 106 = .ok (.getfield 75, 3) := by decide +kernel
theorem dX10_note_109 : decode cX10_note 109 = .ok (.ireturn, 1) := by decide +kernel
theorem dX10_forget_0 : decode cX10_forget 0 = .ok (.aload_n 0, 1) := by decide +kernel
theorem dX10_forget_1 : decode cX10_forget 1 = .ok (.getfield 75, 3) := by decide +kernel
theorem dX10_forget_4 : decode cX10_forget 4 = .ok (.istore_n 1, 1) := by decide +kernel
theorem dX10_forget_5 : decode cX10_forget 5 = .ok (.aload_n 0, 1) := by decide +kernel
theorem dX10_forget_6 : decode cX10_forget 6 = .ok (.iconst 0, 1) := by decide +kernel
theorem dX10_forget_7 : decode cX10_forget 7 = .ok (.putfield 75, 3) := by decide +kernel
theorem dX10_forget_10 : decode cX10_forget 10 = .ok (.iload_n 1, 1) := by decide +kernel
theorem dX10_forget_11 : decode cX10_forget 11 = .ok (.ireturn, 1) := by decide +kernel
theorem dX10_kindsOf_0 : decode cX10_kindsOf 0 = .ok (.iconst 0, 1) := by decide +kernel
theorem dX10_kindsOf_1 : decode cX10_kindsOf 1 = .ok (.istore_n 2, 1) := by decide +kernel
theorem dX10_kindsOf_2 : decode cX10_kindsOf 2 = .ok (.iconst 0, 1) := by decide +kernel
theorem dX10_kindsOf_3 : decode cX10_kindsOf 3 = .ok (.istore_n 3, 1) := by decide +kernel
theorem dX10_kindsOf_4 : decode cX10_kindsOf 4 = .ok (.iload_n 3, 1) := by decide +kernel
theorem dX10_kindsOf_5 : decode cX10_kindsOf 5 = .ok (.bipush 6, 2) := by decide +kernel
theorem dX10_kindsOf_7 : decode cX10_kindsOf 7 = .ok (.if_icmp .ge 109, 3) := by decide +kernel
theorem dX10_kindsOf_10 : decode cX10_kindsOf 10 = .ok (.iconst 1, 1) := by decide +kernel
theorem dX10_kindsOf_11 : decode cX10_kindsOf 11 = .ok (.istore 4, 2) := by decide +kernel
theorem dX10_kindsOf_13 : decode cX10_kindsOf 13 = .ok (.iconst 0, 1) := by decide +kernel
theorem dX10_kindsOf_14 : decode cX10_kindsOf 14 = .ok (.istore 5, 2) := by decide +kernel
theorem dX10_kindsOf_16 : decode cX10_kindsOf 16 = .ok (.iload 5, 2) := by decide +kernel
theorem dX10_kindsOf_18 : decode cX10_kindsOf 18 = .ok (.aload_n 0, 1) := by decide +kernel
theorem dX10_kindsOf_19 : decode cX10_kindsOf 19 = .ok (.getfield 75, 3) := by decide +kernel
theorem dX10_kindsOf_22 : decode cX10_kindsOf 22 = .ok (.if_icmp .ge 73, 3) := by decide +kernel
theorem dX10_kindsOf_25 : decode cX10_kindsOf 25 = .ok (.aload_n 0, 1) := by decide +kernel
theorem dX10_kindsOf_26 : decode cX10_kindsOf 26 = .ok (.getfield 28, 3) := by decide +kernel
theorem dX10_kindsOf_29 : decode cX10_kindsOf 29 = .ok (.iload 5, 2) := by decide +kernel
theorem dX10_kindsOf_31 : decode cX10_kindsOf 31 = .ok (.iaload, 1) := by decide +kernel
theorem dX10_kindsOf_32 : decode cX10_kindsOf 32 = .ok (.istore 6, 2) := by decide +kernel
theorem dX10_kindsOf_34 : decode cX10_kindsOf 34 = .ok (.iload 4, 2) := by decide +kernel
theorem dX10_kindsOf_36 : decode cX10_kindsOf 36 = .ok (.ifCond .eq 50, 3) := by decide +kernel
theorem dX10_kindsOf_39 : decode cX10_kindsOf 39 = .ok (.aload_n 0, 1) := by decide +kernel
theorem dX10_kindsOf_40 : decode cX10_kindsOf 40 = .ok (.getfield 25, 3) := by decide +kernel
theorem dX10_kindsOf_43 : decode cX10_kindsOf 43 = .ok (.iload 5, 2) := by decide +kernel
theorem dX10_kindsOf_45 : decode cX10_kindsOf 45 = .ok (.iaload, 1) := by decide +kernel
theorem dX10_kindsOf_46 : decode cX10_kindsOf 46 = .ok (.iload_n 1, 1) := by decide +kernel
theorem dX10_kindsOf_47 : decode cX10_kindsOf 47 = .ok (.if_icmp .ne 35, 3) := by decide +kernel
theorem dX10_kindsOf_50 : decode cX10_kindsOf 50 = .ok (.iload_n 3, 1) := by decide +kernel
theorem dX10_kindsOf_51 : decode cX10_kindsOf 51 = .ok (.iload 6, 2) := by decide +kernel
theorem dX10_kindsOf_53 : decode cX10_kindsOf 53 = .ok (.aload_n 0, 1) := by decide +kernel
theorem dX10_kindsOf_54 : decode cX10_kindsOf 54 = .ok (.getfield 34, 3) := by decide +kernel
theorem dX10_kindsOf_57 : decode cX10_kindsOf 57 = .ok (.iload 5, 2) := by decide +kernel
theorem dX10_kindsOf_59 : decode cX10_kindsOf 59 = .ok (.iaload, 1) := by decide +kernel
theorem dX10_kindsOf_60 : decode cX10_kindsOf 60 = .ok (.iconst 1, 1) := by decide +kernel
theorem dX10_kindsOf_61 : decode cX10_kindsOf 61 = .ok (.if_icmp .ne 7, 3) := by decide +kernel
theorem dX10_kindsOf_64 : decode cX10_kindsOf 64 = .ok (.iconst 1, 1) := by decide +kernel
theorem dX10_kindsOf_65 : decode cX10_kindsOf 65 = .ok (.goto 4, 3) := by decide +kernel
theorem dX10_kindsOf_68 : decode cX10_kindsOf 68 = .ok (.iconst 0, 1) := by decide +kernel
theorem dX10_kindsOf_69 : decode cX10_kindsOf 69 = .ok (.invokestatic 154, 3) := by decide +kernel
theorem dX10_kindsOf_72 : decode cX10_kindsOf 72 = .ok (.aload_n 0, 1) := by decide +kernel
theorem dX10_kindsOf_73 : decode cX10_kindsOf 73 = .ok (.getfield 31, 3) := by decide +kernel
theorem dX10_kindsOf_76 : decode cX10_kindsOf 76 = .ok (.iload 5, 2) := by decide +kernel
theorem dX10_kindsOf_78 : decode cX10_kindsOf 78 = .ok (.iaload, 1) := by decide +kernel
theorem dX10_kindsOf_79 : decode cX10_kindsOf 79 = .ok (.if_icmp .ne 7, 3) := by decide +kernel
theorem dX10_kindsOf_82 : decode cX10_kindsOf 82 = .ok (.iconst 1, 1) := by decide +kernel
theorem dX10_kindsOf_83 : decode cX10_kindsOf 83 = .ok (.goto 4, 3) := by decide +kernel
theorem dX10_kindsOf_86 : decode cX10_kindsOf 86 = .ok (.iconst 0, 1) := by decide +kernel
theorem dX10_kindsOf_87 : decode cX10_kindsOf 87 = .ok (.istore 4, 2) := by decide +kernel
theorem dX10_kindsOf_89 : decode cX10_kindsOf 89 = .ok (.iinc 5 1, 3) := by decide +kernel
theorem dX10_kindsOf_92 : decode cX10_kindsOf 92 = .ok (.goto (-76), 3) := by decide +kernel
theorem dX10_kindsOf_95 : decode cX10_kindsOf 95 = .ok (.iload_n 2, 1) := by decide +kernel
theorem dX10_kindsOf_96 : decode cX10_kindsOf 96 = .ok (.iload 4, 2) := by decide +kernel
theorem dX10_kindsOf_98 : decode cX10_kindsOf 98 = .ok (.ifCond .eq 9, 3) := by decide +kernel
theorem dX10_kindsOf_101 : decode cX10_kindsOf 101 = .ok (.iconst 1, 1) := by decide +kernel
theorem dX10_kindsOf_102 : decode cX10_kindsOf 102 = .ok (.iload_n 3, 1) := by decide +kernel
theorem dX10_kindsOf_103 : decode cX10_kindsOf 103 = .ok (.ishl, 1) := by decide +kernel
theorem dX10_kindsOf_104 : decode cX10_kindsOf 104 = .ok (.goto 4, 3) := by decide +kernel
theorem dX10_kindsOf_107 : decode cX10_kindsOf 107 = .ok (.iconst 0, 1) := by decide +kernel
theorem dX10_kindsOf_108 : decode cX10_kindsOf 108 = .ok (.ior, 1) := by decide +kernel
theorem dX10_kindsOf_109 : decode cX10_kindsOf 109 = .ok (.istore_n 2, 1) := by decide +kernel
theorem dX10_kindsOf_110 : decode cX10_kindsOf 110 = .ok (.iinc 3 1, 3) := by decide +kernel
theorem dX10_kindsOf_113 : decode cX10_kindsOf 113 = .ok (.goto (-109), 3) := by decide +kernel
theorem dX10_kindsOf_116 : decode cX10_kindsOf 116 = .ok (.iload_n 2, 1) := by decide +kernel
theorem dX10_kindsOf_117 : decode cX10_kindsOf 117 = .ok (.ireturn, 1) := by decide +kernel
theorem dX10_is_0 : decode cX10_is 0 = .ok (.aload_n 0, 1) := by decide +kernel
theorem dX10_is_1 : decode cX10_is 1 = .ok (.iload_n 1, 1) := by decide +kernel
theorem dX10_is_2 : decode cX10_is 2 = .ok (.invokevirtual 171, 3) := by decide +kernel
theorem dX10_is_5 : decode cX10_is 5 = .ok (.ifCond .eq 11, 3) := by decide +kernel
theorem dX10_is_8 : decode cX10_is 8 = .ok (.aload_n 0, 1) := by decide +kernel
theorem dX10_is_9 : decode cX10_is 9 = .ok (.iload_n 1, 1) := by decide +kernel
theorem dX10_is_10 : decode cX10_is 10 = .ok (.invokevirtual 220, 3) := by decide +kernel
theorem dX10_is_13 : decode cX10_is 13 = .ok (.goto 7, 3) := by decide +kernel
theorem dX10_is_16 : decode cX10_is 16 = .ok (.aload_n 0, 1) := by decide +kernel
theorem dX10_is_17 : decode cX10_is 17 = .ok (.invokevirtual 85, 3) := by decide +kernel
theorem dX10_is_20 : decode cX10_is 20 = .ok (.ireturn, 1) := by decide +kernel
theorem dX10_alike_0 : decode cX10_alike 0 = .ok (.iconst 0, 1) := by decide +kernel
theorem dX10_alike_1 : decode cX10_alike 1 = .ok (.istore_n 2, 1) := by decide +kernel
theorem dX10_alike_2 : decode cX10_alike 2 = .ok (.iconst 0, 1) := by decide +kernel
theorem dX10_alike_3 : decode cX10_alike 3 = .ok (.istore_n 3, 1) := by decide +kernel
theorem dX10_alike_4 : decode cX10_alike 4 = .ok (.iload_n 3, 1) := by decide +kernel
theorem dX10_alike_5 : decode cX10_alike 5 = .ok (.bipush 6, 2) := by decide +kernel
theorem dX10_alike_7 : decode cX10_alike 7 = .ok (.if_icmp .ge 84, 3) := by decide +kernel
theorem dX10_alike_10 : decode cX10_alike 10 = .ok (.iconst 0, 1) := by decide +kernel
theorem dX10_alike_11 : decode cX10_alike 11 = .ok (.istore 4, 2) := by decide +kernel
theorem dX10_alike_13 : decode cX10_alike 13 = .ok (.iconst 0, 1) := by decide +kernel
theorem dX10_alike_14 : decode cX10_alike 14 = .ok (.istore 5, 2) := by decide +kernel
theorem dX10_alike_16 : decode cX10_alike 16 = .ok (.iload 5, 2) := by decide +kernel
theorem dX10_alike_18 : decode cX10_alike 18 = .ok (.bipush 6, 2) := by decide +kernel
theorem dX10_alike_20 : decode cX10_alike 20 = .ok (.if_icmp .ge 52, 3) := by decide +kernel
theorem dX10_alike_23 : decode cX10_alike 23 = .ok (.iload 4, 2) := by decide +kernel
theorem dX10_alike_25 : decode cX10_alike 25 = .ok (.iload_n 0, 1) := by decide +kernel
theorem dX10_alike_26 : decode cX10_alike 26 = .ok (.iload_n 3, 1) := by decide +kernel
theorem dX10_alike_27 : decode cX10_alike 27 = .ok (.invokestatic 151, 3) := by decide +kernel
theorem dX10_alike_30 : decode cX10_alike 30 = .ok (.ifCond .eq 32, 3) := by decide +kernel
theorem dX10_alike_33 : decode cX10_alike 33 = .ok (.iload_n 0, 1) := by decide +kernel
theorem dX10_alike_34 : decode cX10_alike 34 = .ok (.iload 5, 2) := by decide +kernel
theorem dX10_alike_36 : decode cX10_alike 36 = .ok (.invokestatic 151, 3) := by decide +kernel
theorem dX10_alike_39 : decode cX10_alike 39 = .ok (.ifCond .eq 23, 3) := by decide +kernel
theorem dX10_alike_42 : decode cX10_alike 42 = .ok (.iload_n 3, 1) := by decide +kernel
theorem dX10_alike_43 : decode cX10_alike 43 = .ok (.iload_n 1, 1) := by decide +kernel
theorem dX10_alike_44 : decode cX10_alike 44 = .ok (.iconst 0, 1) := by decide +kernel
theorem dX10_alike_45 : decode cX10_alike 45 = .ok (.invokestatic 154, 3) := by decide +kernel
theorem dX10_alike_48 : decode cX10_alike 48 = .ok (.iload 5, 2) := by decide +kernel
theorem dX10_alike_50 : decode cX10_alike 50 = .ok (.iload_n 1, 1) := by decide +kernel
theorem dX10_alike_51 : decode cX10_alike 51 = .ok (.iconst 0, 1) := by decide +kernel
theorem dX10_alike_52 : decode cX10_alike 52 = .ok (.invokestatic 154, 3) := by decide +kernel
theorem dX10_alike_55 : decode cX10_alike 55 = .ok (.if_icmp .ne 7, 3) := by decide +kernel
theorem dX10_alike_58 : decode cX10_alike 58 = .ok (.iconst 1, 1) := by decide +kernel
theorem dX10_alike_59 : decode cX10_alike 59 = .ok (.goto 4, 3) := by decide +kernel
theorem dX10_alike_62 : decode cX10_alike 62 = .ok (.iconst 0, 1) := by decide +kernel
theorem dX10_alike_63 : decode cX10_alike 63 = .ok (.iadd, 1) := by decide +kernel
theorem dX10_alike_64 : decode cX10_alike 64 = .ok (.istore 4, 2) := by decide +kernel
theorem dX10_alike_66 : decode cX10_alike 66 = .ok (.iinc 5 1, 3) := by decide +kernel
theorem dX10_alike_69 : decode cX10_alike 69 = .ok (.goto (-53), 3) := by decide +kernel
theorem dX10_alike_72 : decode cX10_alike 72 = .ok (.iload 4, 2) := by decide +kernel
theorem dX10_alike_74 : decode cX10_alike 74 = .ok (.iload_n 2, 1) := by decide +kernel
theorem dX10_alike_75 : decode cX10_alike 75 = .ok (.if_icmp .le 8, 3) := by decide +kernel
theorem dX10_alike_78 : decode cX10_alike 78 = .ok (.iload 4, 2) := by decide +kernel
theorem dX10_alike_80 : decode cX10_alike 80 = .ok (.goto 4, 3) := by decide +kernel
theorem dX10_alike_83 : decode cX10_alike 83 = .ok (.iload_n 2, 1) := by decide +kernel
theorem dX10_alike_84 : decode cX10_alike 84 = .ok (.istore_n 2, 1) := by decide +kernel
theorem dX10_alike_85 : decode cX10_alike 85 = .ok (.iinc 3 1, 3) := by decide +kernel
theorem dX10_alike_88 : decode cX10_alike 88 = .ok (.goto (-84), 3) := by decide +kernel
theorem dX10_alike_91 : decode cX10_alike 91 = .ok (.iload_n 2, 1) := by decide +kernel
theorem dX10_alike_92 : decode cX10_alike 92 = .ok (.ireturn, 1) := by decide +kernel
theorem dX10_asks_0 : decode cX10_asks 0 = .ok (.aload_n 0, 1) := by decide +kernel
theorem dX10_asks_1 : decode cX10_asks 1 = .ok (.iload_n 1, 1) := by decide +kernel
theorem dX10_asks_2 : decode cX10_asks 2 = .ok (.invokevirtual 171, 3) := by decide +kernel
theorem dX10_asks_5 : decode cX10_asks 5 = .ok (.ifCond .ne 8, 3) := by decide +kernel
theorem dX10_asks_8 : decode cX10_asks 8 = .ok (.aload_n 0, 1) := by decide +kernel
theorem dX10_asks_9 : decode cX10_asks 9 = .ok (.invokevirtual 85, 3) := by decide +kernel
theorem dX10_asks_12 : decode cX10_asks 12 = .ok (.ireturn, 1) := by decide +kernel
theorem dX10_asks_13 : decode cX10_asks 13 = .ok (.aload_n 0, 1) := by decide +kernel
theorem dX10_asks_14 : decode cX10_asks 14 = .ok (.iload_n 1, 1) := by decide +kernel
theorem dX10_asks_15 : decode cX10_asks 15 = .ok (.invokevirtual 220, 3) := by decide +kernel
theorem dX10_asks_18 : decode cX10_asks 18 = .ok (.istore_n 2, 1) := by decide +kernel
theorem dX10_asks_19 : decode cX10_asks 19 = .ok (.iload_n 2, 1) := by decide +kernel
theorem dX10_asks_20 : decode cX10_asks 20 = .ok (.ifCond .ne 7, 3) := by decide +kernel
theorem dX10_asks_23 : decode cX10_asks 23 = .ok (.iconst (-1), 1) := by decide +kernel
theorem dX10_asks_24 : decode cX10_asks 24 = .ok (.goto 4, 3) := by decide +kernel
theorem dX10_asks_27 : decode cX10_asks 27 = .ok (.iconst 0, 1) := by decide +kernel
theorem dX10_asks_28 : decode cX10_asks 28 = .ok (.istore_n 3, 1) := by decide +kernel
theorem dX10_asks_29 : decode cX10_asks 29 = .ok (.iconst 1, 1) := by decide +kernel
theorem dX10_asks_30 : decode cX10_asks 30 = .ok (.istore 4, 2) := by decide +kernel
theorem dX10_asks_32 : decode cX10_asks 32 = .ok (.iload 4, 2) := by decide +kernel
theorem dX10_asks_34 : decode cX10_asks 34 = .ok (.bipush 12, 2) := by decide +kernel
theorem dX10_asks_36 : decode cX10_asks 36 = .ok (.if_icmp .ge 34, 3) := by decide +kernel
theorem dX10_asks_39 : decode cX10_asks 39 = .ok (.iload_n 2, 1) := by decide +kernel
theorem dX10_asks_40 : decode cX10_asks 40 = .ok (.ifCond .eq 30, 3) := by decide +kernel
theorem dX10_asks_43 : decode cX10_asks 43 = .ok (.iload_n 2, 1) := by decide +kernel
theorem dX10_asks_44 : decode cX10_asks 44 = .ok (.iload 4, 2) := by decide +kernel
theorem dX10_asks_46 : decode cX10_asks 46 = .ok (.invokestatic 223, 3) := by decide +kernel
theorem dX10_asks_49 : decode cX10_asks 49 = .ok (.iload_n 2, 1) := by decide +kernel
theorem dX10_asks_50 : decode cX10_asks 50 = .ok (.iload_n 3, 1) := by decide +kernel
theorem dX10_asks_51 : decode cX10_asks 51 = .ok (.invokestatic 223, 3) := by decide +kernel
theorem dX10_asks_54 : decode cX10_asks 54 = .ok (.if_icmp .ge 8, 3) := by decide +kernel
theorem dX10_asks_57 : decode cX10_asks 57 = .ok (.iload 4, 2) := by decide +kernel
theorem dX10_asks_59 : decode cX10_asks 59 = .ok (.goto 4, 3) := by decide +kernel
theorem dX10_asks_62 : decode cX10_asks 62 = .ok (.iload_n 3, 1) := by decide +kernel
theorem dX10_asks_63 : decode cX10_asks 63 = .ok (.istore_n 3, 1) := by decide +kernel
theorem dX10_asks_64 : decode cX10_asks 64 = .ok (.iinc 4 1, 3) := by decide +kernel
theorem dX10_asks_67 : decode cX10_asks 67 = .ok (.goto (-35), 3) := by decide +kernel
theorem dX10_asks_70 : decode cX10_asks 70 = .ok (.iload_n 3, 1) := by decide +kernel
theorem dX10_asks_71 : decode cX10_asks 71 = .ok (.ireturn, 1) := by decide +kernel
theorem dX10_took_0 : decode cX10_took 0 = .ok (.aload_n 0, 1) := by decide +kernel
theorem dX10_took_1 : decode cX10_took 1 = .ok (.iload_n 1, 1) := by decide +kernel
theorem dX10_took_2 : decode cX10_took 2 = .ok (.invokevirtual 171, 3) := by decide +kernel
theorem dX10_took_5 : decode cX10_took 5 = .ok (.ifCond .eq 14, 3) := by decide +kernel
theorem dX10_took_8 : decode cX10_took 8 = .ok (.iload_n 2, 1) := by decide +kernel
theorem dX10_took_9 : decode cX10_took 9 = .ok (.iconst 0, 1) := by decide +kernel
theorem dX10_took_10 : decode cX10_took 10 = .ok (.sipush 4095, 3) := by decide +kernel
theorem dX10_took_13 : decode cX10_took 13 = .ok (.invokestatic 81, 3) := by decide +kernel
theorem dX10_took_16 : decode cX10_took 16 = .ok (.ifCond .ne 8, 3) := by decide +kernel
theorem dX10_took_19 : decode cX10_took 19 = .ok (.aload_n 0, 1) := by decide +kernel
theorem dX10_took_20 : decode cX10_took 20 = .ok (.invokevirtual 85, 3) := by decide +kernel
theorem dX10_took_23 : decode cX10_took 23 = .ok (.ireturn, 1) := by decide +kernel
theorem dX10_took_24 : decode cX10_took 24 = .ok (.aload_n 0, 1) := by decide +kernel
theorem dX10_took_25 : decode cX10_took 25 = .ok (.iload_n 1, 1) := by decide +kernel
theorem dX10_took_26 : decode cX10_took 26 = .ok (.invokevirtual 161, 3) := by decide +kernel
theorem dX10_took_29 : decode cX10_took 29 = .ok (.istore_n 3, 1) := by decide +kernel
theorem dX10_took_30 : decode cX10_took 30 = .ok (.iload_n 3, 1) := by decide +kernel
theorem dX10_took_31 : decode cX10_took 31 = .ok (.iload_n 2, 1) := by decide +kernel
theorem dX10_took_32 : decode cX10_took 32 = .ok (.iconst (-1), 1) := by decide +kernel
theorem dX10_took_33 : decode cX10_took 33 = .ok (.ixor, 1) := by decide +kernel
theorem dX10_took_34 : decode cX10_took 34 = .ok (.iand, 1) := by decide +kernel
theorem dX10_took_35 : decode cX10_took 35 = .ok (.ifCond .eq 5, 3) := by decide +kernel
theorem dX10_took_38 : decode cX10_took 38 = .ok (.iconst 0, 1) := by decide +kernel
theorem dX10_took_39 : decode cX10_took 39 = .ok (.ireturn, 1) := by decide +kernel
theorem dX10_took_40 : decode cX10_took 40 = .ok (.iconst 0, 1) := by decide +kernel
theorem dX10_took_41 : decode cX10_took 41 = .ok (.istore 4, 2) := by decide +kernel
theorem dX10_took_43 : decode cX10_took 43 = .ok (.iconst 0, 1) := by decide +kernel
theorem dX10_took_44 : decode cX10_took 44 = .ok (.istore 5, 2) := by decide +kernel
theorem dX10_took_46 : decode cX10_took 46 = .ok (.iload 5, 2) := by decide +kernel
theorem dX10_took_48 : decode cX10_took 48 = .ok (.aload_n 0, 1) := by decide +kernel
theorem dX10_took_49 : decode cX10_took 49 = .ok (.getfield 71, 3) := by decide +kernel
theorem dX10_took_52 : decode cX10_took 52 = .ok (.if_icmp .ge 45, 3) := by decide +kernel
theorem dX10_took_55 : decode cX10_took 55 = .ok (.iload 4, 2) := by decide +kernel
theorem dX10_took_57 : decode cX10_took 57 = .ok (.iload 5, 2) := by decide +kernel
theorem dX10_took_59 : decode cX10_took 59 = .ok (.iload_n 1, 1) := by decide +kernel
theorem dX10_took_60 : decode cX10_took 60 = .ok (.if_icmp .eq 27, 3) := by decide +kernel
theorem dX10_took_63 : decode cX10_took 63 = .ok (.iload_n 2, 1) := by decide +kernel
theorem dX10_took_64 : decode cX10_took 64 = .ok (.iload_n 3, 1) := by decide +kernel
theorem dX10_took_65 : decode cX10_took 65 = .ok (.iconst (-1), 1) := by decide +kernel
theorem dX10_took_66 : decode cX10_took 66 = .ok (.ixor, 1) := by decide +kernel
theorem dX10_took_67 : decode cX10_took 67 = .ok (.iand, 1) := by decide +kernel
theorem dX10_took_68 : decode cX10_took 68 = .ok (.aload_n 0, 1) := by decide +kernel
theorem dX10_took_69 : decode cX10_took 69 = .ok (.iload 5, 2) := by decide +kernel
theorem dX10_took_71 : decode cX10_took 71 = .ok (.invokevirtual 161, 3) := by decide +kernel
theorem dX10_took_74 : decode cX10_took 74 = .ok (.iconst (-1), 1) := by decide +kernel
theorem dX10_took_75 : decode cX10_took 75 = .ok (.ixor, 1) := by decide +kernel
theorem dX10_took_76 : decode cX10_took 76 = .ok (.iand, 1) := by decide +kernel
theorem dX10_took_77 : decode cX10_took 77 = .ok (.ifCond .ne 10, 3) := by decide +kernel
theorem dX10_took_80 : decode cX10_took 80 = .ok (.iconst 1, 1) := by decide +kernel
theorem dX10_took_81 : decode cX10_took 81 = .ok (.iload 5, 2) := by decide +kernel
theorem dX10_took_83 : decode cX10_took 83 = .ok (.ishl, 1) := by decide +kernel
theorem dX10_took_84 : decode cX10_took 84 = .ok (.goto 4, 3) := by decide +kernel
theorem dX10_took_87 : decode cX10_took 87 = .ok (.iconst 0, 1) := by decide +kernel
theorem dX10_took_88 : decode cX10_took 88 = .ok (.ior, 1) := by decide +kernel
theorem dX10_took_89 : decode cX10_took 89 = .ok (.istore 4, 2) := by decide +kernel
theorem dX10_took_91 : decode cX10_took 91 = .ok (.iinc 5 1, 3) := by decide +kernel
theorem dX10_took_94 : decode cX10_took 94 = .ok (.goto (-48), 3) := by decide +kernel
theorem dX10_took_97 : decode cX10_took 97 = .ok (.iload 4, 2) := by decide +kernel
theorem dX10_took_99 : decode cX10_took 99 = .ok (.ireturn, 1) := by decide +kernel
theorem dX10_lay_0 : decode cX10_lay 0 = .ok (.lload_n 1, 1) := by decide +kernel
theorem dX10_lay_1 : decode cX10_lay 1 = .ok (.lstore 5, 2) := by decide +kernel
theorem dX10_lay_3 : decode cX10_lay 3 = .ok (.lload_n 3, 1) := by decide +kernel
theorem dX10_lay_4 : decode cX10_lay 4 = .ok (.lstore 7, 2) := by decide +kernel
theorem dX10_lay_6 : decode cX10_lay 6 = .ok (.lload 7, 2) := by decide +kernel
theorem dX10_lay_8 : decode cX10_lay 8 = .ok (.lconst 0, 1) := by decide +kernel
theorem dX10_lay_9 : decode cX10_lay 9 = .ok (.lcmp, 1) := by decide +kernel
theorem dX10_lay_10 : decode cX10_lay 10 = .ok (.ifCond .eq 21, 3) := by decide +kernel
theorem dX10_lay_13 : decode cX10_lay 13 = .ok (.lload 5, 2) := by decide +kernel
theorem dX10_lay_15 : decode cX10_lay 15 = .ok (.lload 7, 2) := by decide +kernel
theorem dX10_lay_17 : decode cX10_lay 17 = .ok (.lrem, 1) := by decide +kernel
theorem dX10_lay_18 : decode cX10_lay 18 = .ok (.lstore 9, 2) := by decide +kernel
theorem dX10_lay_20 : decode cX10_lay 20 = .ok (.lload 7, 2) := by decide +kernel
theorem dX10_lay_22 : decode cX10_lay 22 = .ok (.lstore 5, 2) := by decide +kernel
theorem dX10_lay_24 : decode cX10_lay 24 = .ok (.lload 9, 2) := by decide +kernel
theorem dX10_lay_26 : decode cX10_lay 26 = .ok (.lstore 7, 2) := by decide +kernel
theorem dX10_lay_28 : decode cX10_lay 28 = .ok (.goto (-22), 3) := by decide +kernel
theorem dX10_lay_31 : decode cX10_lay 31 = .ok (.aload_n 0, 1) := by decide +kernel
theorem dX10_lay_32 : decode cX10_lay 32 = .ok (.lload_n 1, 1) := by decide +kernel
theorem dX10_lay_33 : decode cX10_lay 33 = .ok (.lload 5, 2) := by decide +kernel
theorem dX10_lay_35 : decode cX10_lay 35 = .ok (.ldiv, 1) := by decide +kernel
theorem dX10_lay_36 : decode cX10_lay 36 = .ok (.putfield 226, 3) := by decide +kernel
theorem dX10_lay_39 : decode cX10_lay 39 = .ok (.aload_n 0, 1) := by decide +kernel
theorem dX10_lay_40 : decode cX10_lay 40 = .ok (.lload_n 3, 1) := by decide +kernel
theorem dX10_lay_41 : decode cX10_lay 41 = .ok (.lload 5, 2) := by decide +kernel
theorem dX10_lay_43 : decode cX10_lay 43 = .ok (.ldiv, 1) := by decide +kernel
theorem dX10_lay_44 : decode cX10_lay 44 = .ok (.putfield 58, 3) := by decide +kernel
theorem dX10_lay_47 : decode cX10_lay 47 = .ok (.return_, 1) := by decide +kernel
theorem dX10_owls_0 : decode cX10_owls 0 = .ok (.aload_n 0, 1) := by decide +kernel
theorem dX10_owls_1 : decode cX10_owls 1 = .ok (.iload_n 1, 1) := by decide +kernel
theorem dX10_owls_2 : decode cX10_owls 2 = .ok (.invokevirtual 171, 3) := by decide +kernel
theorem dX10_owls_5 : decode cX10_owls 5 = .ok (.ifCond .eq 13, 3) := by decide +kernel
theorem dX10_owls_8 : decode cX10_owls 8 = .ok (.iload_n 2, 1) := by decide +kernel
theorem dX10_owls_9 : decode cX10_owls 9 = .ok (.iconst 0, 1) := by decide +kernel
theorem dX10_owls_10 : decode cX10_owls 10 = .ok (.bipush 10, 2) := by decide +kernel
theorem dX10_owls_12 : decode cX10_owls 12 = .ok (.invokestatic 81, 3) := by decide +kernel
theorem dX10_owls_15 : decode cX10_owls 15 = .ok (.ifCond .ne 8, 3) := by decide +kernel
theorem dX10_owls_18 : decode cX10_owls 18 = .ok (.aload_n 0, 1) := by decide +kernel
theorem dX10_owls_19 : decode cX10_owls 19 = .ok (.invokevirtual 85, 3) := by decide +kernel
theorem dX10_owls_22 : decode cX10_owls 22 = .ok (.ireturn, 1) := by decide +kernel
theorem dX10_owls_23 : decode cX10_owls 23 = .ok (.aload_n 0, 1) := by decide +kernel
theorem dX10_owls_24 : decode cX10_owls 24 = .ok (.iload_n 1, 1) := by decide +kernel
theorem dX10_owls_25 : decode cX10_owls 25 = .ok (.invokevirtual 161, 3) := by decide +kernel
theorem dX10_owls_28 : decode cX10_owls 28 = .ok (.istore_n 3, 1) := by decide +kernel
theorem dX10_owls_29 : decode cX10_owls 29 = .ok (.iconst 0, 1) := by decide +kernel
theorem dX10_owls_30 : decode cX10_owls 30 = .ok (.istore 4, 2) := by decide +kernel
theorem dX10_owls_32 : decode cX10_owls 32 = .ok (.iconst 0, 1) := by decide +kernel
theorem dX10_owls_33 : decode cX10_owls 33 = .ok (.istore 5, 2) := by decide +kernel
theorem dX10_owls_35 : decode cX10_owls 35 = .ok (.iload 5, 2) := by decide +kernel
theorem dX10_owls_37 : decode cX10_owls 37 = .ok (.bipush 12, 2) := by decide +kernel
theorem dX10_owls_39 : decode cX10_owls 39 = .ok (.if_icmp .ge 56, 3) := by decide +kernel
theorem dX10_owls_42 : decode cX10_owls 42 = .ok (.iload 4, 2) := by decide +kernel
theorem dX10_owls_44 : decode cX10_owls 44 = .ok (.iload_n 3, 1) := by decide +kernel
theorem dX10_owls_45 : decode cX10_owls 45 = .ok (.iload 5, 2) := by decide +kernel
theorem dX10_owls_47 : decode cX10_owls 47 = .ok (.invokestatic 151, 3) := by decide +kernel
theorem dX10_owls_50 : decode cX10_owls 50 = .ok (.ifCond .eq 35, 3) := by decide +kernel
theorem dX10_owls_53 : decode cX10_owls 53 = .ok (.aload_n 0, 1) := by decide +kernel
theorem dX10_owls_54 : decode cX10_owls 54 = .ok (.iload_n 1, 1) := by decide +kernel
theorem dX10_owls_55 : decode cX10_owls 55 = .ok (.iload 5, 2) := by decide +kernel
theorem dX10_owls_57 : decode cX10_owls 57 = .ok (.iload_n 3, 1) := by decide +kernel
theorem dX10_owls_58 : decode cX10_owls 58 = .ok (.invokevirtual 158, 3) := by decide +kernel
theorem dX10_owls_61 : decode cX10_owls 61 = .ok (.iload 5, 2) := by decide +kernel
theorem dX10_owls_63 : decode cX10_owls 63 = .ok (.iconst 4, 1) := by decide +kernel
theorem dX10_owls_64 : decode cX10_owls 64 = .ok (.bipush 7, 2) := by decide +kernel
theorem dX10_owls_66 : decode cX10_owls 66 = .ok (.invokestatic 81, 3) := by decide +kernel
theorem dX10_owls_69 : decode cX10_owls 69 = .ok (.ifCond .eq 10, 3) := by decide +kernel
theorem dX10_owls_72 : decode cX10_owls 72 = .ok (.bipush 10, 2) := by decide +kernel
theorem dX10_owls_74 : decode cX10_owls 74 = .ok (.iload_n 2, 1) := by decide +kernel
theorem dX10_owls_75 : decode cX10_owls 75 = .ok (.isub, 1) := by decide +kernel
theorem dX10_owls_76 : decode cX10_owls 76 = .ok (.goto 5, 3) := by decide +kernel
theorem dX10_owls_79 : decode cX10_owls 79 = .ok (.bipush 10, 2) := by decide +kernel
theorem dX10_owls_81 : decode cX10_owls 81 = .ok (.imul, 1) := by decide +kernel
theorem dX10_owls_82 : decode cX10_owls 82 = .ok (.goto 4, 3) := by decide +kernel
theorem dX10_owls_85 : decode cX10_owls 85 = .ok (.iconst 0, 1) := by decide +kernel
theorem dX10_owls_86 : decode cX10_owls 86 = .ok (.iadd, 1) := by decide +kernel
theorem dX10_owls_87 : decode cX10_owls 87 = .ok (.istore 4, 2) := by decide +kernel
theorem dX10_owls_89 : decode cX10_owls 89 = .ok (.iinc 5 1, 3) := by decide +kernel
theorem dX10_owls_92 : decode cX10_owls 92 = .ok (.goto (-57), 3) := by decide +kernel
theorem dX10_owls_95 : decode cX10_owls 95 = .ok (.aload_n 0, 1) := by decide +kernel
theorem dX10_owls_96 : decode cX10_owls 96 = .ok (.iload 4, 2) := by decide +kernel
theorem dX10_owls_98 : decode cX10_owls 98 = .ok (.i2l, 1) := by decide +kernel
theorem dX10_owls_99 : decode cX10_owls 99 = .ok (.ldc2_w 229, 3) := by decide +kernel
theorem dX10_owls_102 : decode cX10_owls 102 = .ok (.invokevirtual 231, 3) := by decide +kernel
theorem dX10_owls_105 : decode cX10_owls 105 = .ok (.iconst 1, 1) := by decide +kernel
theorem dX10_owls_106 : decode cX10_owls 106 = .ok (.ireturn, 1) := by decide +kernel
theorem dX10_terms_0 : decode cX10_terms 0 = .ok (.iload_n 1, 1) := by decide +kernel
theorem dX10_terms_1 : decode cX10_terms 1 = .ok (.iconst 0, 1) := by decide +kernel
theorem dX10_terms_2 : decode cX10_terms 2 = .ok (.ldc 235, 2) := by decide +kernel
theorem dX10_terms_4 : decode cX10_terms 4 = .ok (.invokestatic 81, 3) := by decide +kernel
theorem dX10_terms_7 : decode cX10_terms 7 = .ok (.ifCond .eq 13, 3) := by decide +kernel
theorem dX10_terms_10 : decode cX10_terms 10 = .ok (.iload_n 2, 1) := by decide +kernel
theorem dX10_terms_11 : decode cX10_terms 11 = .ok (.iconst 0, 1) := by decide +kernel
theorem dX10_terms_12 : decode cX10_terms 12 = .ok (.bipush 60, 2) := by decide +kernel
theorem dX10_terms_14 : decode cX10_terms 14 = .ok (.invokestatic 81, 3) := by decide +kernel
theorem dX10_terms_17 : decode cX10_terms 17 = .ok (.ifCond .ne 8, 3) := by decide +kernel
theorem dX10_terms_20 : decode cX10_terms 20 = .ok (.aload_n 0, 1) := by decide +kernel
theorem dX10_terms_21 : decode cX10_terms 21 = .ok (.invokevirtual 85, 3) := by decide +kernel
theorem dX10_terms_24 : decode cX10_terms 24 = .ok (.ireturn, 1) := by decide +kernel
theorem dX10_terms_25 : decode cX10_terms 25 = .ok (.aload_n 0, 1) := by decide +kernel
theorem dX10_terms_26 : decode cX10_terms 26 = .ok (.invokevirtual 211, 3) := by decide +kernel
theorem dX10_terms_29 : decode cX10_terms 29 = .ok (.iload_n 1, 1) := by decide +kernel
theorem dX10_terms_30 : decode cX10_terms 30 = .ok (.i2l, 1) := by decide +kernel
theorem dX10_terms_31 : decode cX10_terms 31 = .ok (.lstore_n 3, 1) := by decide +kernel
theorem dX10_terms_32 : decode cX10_terms 32 = .ok (.iconst 0, 1) := by decide +kernel
theorem dX10_terms_33 : decode cX10_terms 33 = .ok (.istore 5, 2) := by decide +kernel
theorem dX10_terms_35 : decode cX10_terms 35 = .ok (.iconst 0, 1) := by decide +kernel
theorem dX10_terms_36 : decode cX10_terms 36 = .ok (.istore 6, 2) := by decide +kernel
theorem dX10_terms_38 : decode cX10_terms 38 = .ok (.iload 6, 2) := by decide +kernel
theorem dX10_terms_40 : decode cX10_terms 40 = .ok (.iload_n 2, 1) := by decide +kernel
theorem dX10_terms_41 : decode cX10_terms 41 = .ok (.if_icmp .ge 83, 3) := by decide +kernel
theorem dX10_terms_44 : decode cX10_terms 44 = .ok (.lload_n 3, 1) := by decide +kernel
theorem dX10_terms_45 : decode cX10_terms 45 = .ok (.ldc2_w 236, 3) := by decide +kernel
theorem dX10_terms_48 : decode cX10_terms 48 = .ok (.lmul, 1) := by decide +kernel
theorem dX10_terms_49 : decode cX10_terms 49 = .ok (.ldc2_w 238, 3) := by decide +kernel
theorem dX10_terms_52 : decode cX10_terms 52 = .ok (.ladd, 1) := by decide +kernel
theorem dX10_terms_53 : decode cX10_terms 53 = .ok (.ldc2_w 240, 3) := by decide +kernel
theorem dX10_terms_56 : decode cX10_terms 56 = .ok (.lrem, 1) := by decide +kernel
theorem dX10_terms_57 : decode cX10_terms 57 = .ok (.lstore_n 3, 1) := by decide +kernel
theorem dX10_terms_58 : decode cX10_terms 58 = .ok (.lload_n 3, 1) := by decide +kernel
theorem dX10_terms_59 : decode cX10_terms 59 = .ok (.ldc2_w 242, 3) := by decide +kernel
theorem dX10_terms_62 : decode cX10_terms 62 = .ok (.ldiv, 1) := by decide +kernel
theorem dX10_terms_63 : decode cX10_terms 63 = .ok (.ldc2_w 244, 3) := by decide +kernel
theorem dX10_terms_66 : decode cX10_terms 66 = .ok (.lrem, 1) := by decide +kernel
theorem dX10_terms_67 : decode cX10_terms 67 = .ok (.l2i, 1) := by decide +kernel
theorem dX10_terms_68 : decode cX10_terms 68 = .ok (.istore 7, 2) := by decide +kernel
theorem dX10_terms_70 : decode cX10_terms 70 = .ok (.lload_n 3, 1) := by decide +kernel
theorem dX10_terms_71 : decode cX10_terms 71 = .ok (.ldc2_w 236, 3) := by decide +kernel
theorem dX10_terms_74 : decode cX10_terms 74 = .ok (.lmul, 1) := by decide +kernel
theorem dX10_terms_75 : decode cX10_terms 75 = .ok (.ldc2_w 238, 3) := by decide +kernel
theorem dX10_terms_78 : decode cX10_terms 78 = .ok (.ladd, 1) := by decide +kernel
theorem dX10_terms_79 : decode cX10_terms 79 = .ok (.ldc2_w 240, 3) := by decide +kernel
theorem dX10_terms_82 : decode cX10_terms 82 = .ok (.lrem, 1) := by decide +kernel
theorem dX10_terms_83 : decode cX10_terms 83 = .ok (.lstore_n 3, 1) := by decide +kernel
theorem dX10_terms_84 : decode cX10_terms 84 = .ok (.lload_n 3, 1) := by decide +kernel
theorem dX10_terms_85 : decode cX10_terms 85 = .ok (.ldc2_w 242, 3) := by decide +kernel
theorem dX10_terms_88 : decode cX10_terms 88 = .ok (.ldiv, 1) := by decide +kernel
theorem dX10_terms_89 : decode cX10_terms 89 = .ok (.ldc2_w 244, 3) := by decide +kernel
theorem dX10_terms_92 : decode cX10_terms 92 = .ok (.lrem, 1) := by decide +kernel
theorem dX10_terms_93 : decode cX10_terms 93 = .ok (.l2i, 1) := by decide +kernel
theorem dX10_terms_94 : decode cX10_terms 94 = .ok (.istore 8, 2) := by decide +kernel
theorem dX10_terms_96 : decode cX10_terms 96 = .ok (.aload_n 0, 1) := by decide +kernel
theorem dX10_terms_97 : decode cX10_terms 97 = .ok (.iload 7, 2) := by decide +kernel
theorem dX10_terms_99 : decode cX10_terms 99 = .ok (.iload 8, 2) := by decide +kernel
theorem dX10_terms_101 : decode cX10_terms 101 = .ok (.invokevirtual 208, 3) := by decide +kernel
theorem dX10_terms_104 : decode cX10_terms 104 = .ok (.ifCond .eq 14, 3) := by decide +kernel
theorem dX10_terms_107 : decode cX10_terms 107 = .ok (.aload_n 0, 1) := by decide +kernel
theorem dX10_terms_108 : decode cX10_terms 108 = .ok (.iload 7, 2) := by decide +kernel
theorem dX10_terms_110 : decode cX10_terms 110 = .ok (.iload 8, 2) := by decide +kernel
theorem dX10_terms_112 : decode cX10_terms 112 = .ok (.invokevirtual 183, 3) := by decide +kernel
theorem dX10_terms_115 : decode cX10_terms 115 = .ok (.iinc 5 1, 3) := by decide +kernel
theorem dX10_terms_118 : decode cX10_terms 118 = .ok (.iinc 6 1, 3) := by decide +kernel
theorem dX10_terms_121 : decode cX10_terms 121 = .ok (.goto (-83), 3) := by decide +kernel
theorem dX10_terms_124 : decode cX10_terms 124 = .ok (.aload_n 0, 1) := by decide +kernel
theorem dX10_terms_125 : decode cX10_terms 125 = .ok (.invokevirtual 217, 3) := by decide +kernel
theorem dX10_terms_128 : decode cX10_terms 128 = .ok (.iload 5, 2) := by decide +kernel
theorem dX10_terms_130 : decode cX10_terms 130 = .ok (.ireturn, 1) := by decide +kernel
theorem dX10_part_0 : decode cX10_part 0 = .ok (.iload_n 1, 1) := by decide +kernel
theorem dX10_part_1 : decode cX10_part 1 = .ok (.ifCond .ne 10, 3) := by decide +kernel
theorem dX10_part_4 : decode cX10_part 4 = .ok (.aload_n 0, 1) := by decide +kernel
theorem dX10_part_5 : decode cX10_part 5 = .ok (.getfield 226, 3) := by decide +kernel
theorem dX10_part_8 : decode cX10_part 8 = .ok (.goto 20, 3) := by decide +kernel
theorem dX10_part_11 : decode cX10_part 11 = .ok (.iload_n 1, 1) := by decide +kernel
theorem dX10_part_12 : decode cX10_part 12 = .ok (.iconst 1, 1) := by decide +kernel
theorem dX10_part_13 : decode cX10_part 13 = .ok (.if_icmp .ne 10, 3) := by decide +kernel
theorem dX10_part_16 : decode cX10_part 16 = .ok (.aload_n 0, 1) := by decide +kernel
theorem dX10_part_17 : decode cX10_part 17 = .ok (.getfield 58, 3) := by decide +kernel
theorem dX10_part_20 : decode cX10_part 20 = .ok (.goto 8, 3) := by decide +kernel
theorem dX10_part_23 : decode cX10_part 23 = .ok (.aload_n 0, 1) := by decide +kernel
theorem dX10_part_24 : decode cX10_part 24 = .ok (.invokevirtual 85, 3) := by decide +kernel
theorem dX10_part_27 : decode cX10_part 27 = .ok (.i2l, 1) := by decide +kernel
theorem dX10_part_28 : decode cX10_part 28 = .ok (.lreturn, 1) := by decide +kernel
theorem dX10_image_0 : decode cX10_image 0 = .ok (.iload_n 1, 1) := by decide +kernel
theorem dX10_image_1 : decode cX10_image 1 = .ok (.iconst 0, 1) := by decide +kernel
theorem dX10_image_2 : decode cX10_image 2 = .ok (.iconst 1, 1) := by decide +kernel
theorem dX10_image_3 : decode cX10_image 3 = .ok (.invokestatic 81, 3) := by decide +kernel
theorem dX10_image_6 : decode cX10_image 6 = .ok (.ifCond .ne 8, 3) := by decide +kernel
theorem dX10_image_9 : decode cX10_image 9 = .ok (.aload_n 0, 1) := by decide +kernel
theorem dX10_image_10 : decode cX10_image 10 = .ok (.invokevirtual 85, 3) := by decide +kernel
theorem dX10_image_13 : decode cX10_image 13 = .ok (.ireturn, 1) := by decide +kernel
theorem dX10_image_14 : decode cX10_image 14 = .ok (.sipush 192, 3) := by decide +kernel
theorem dX10_image_17 : decode cX10_image 17 = .ok (.iload_n 1, 1) := by decide +kernel
theorem dX10_image_18 : decode cX10_image 18 = .ok (.imul, 1) := by decide +kernel
theorem dX10_image_19 : decode cX10_image 19 = .ok (.istore_n 2, 1) := by decide +kernel
theorem dX10_image_20 : decode cX10_image 20 = .ok (.aload_n 0, 1) := by decide +kernel
theorem dX10_image_21 : decode cX10_image 21 = .ok (.getfield 65, 3) := by decide +kernel
theorem dX10_image_24 : decode cX10_image 24 = .ok (.iload_n 1, 1) := by decide +kernel
theorem dX10_image_25 : decode cX10_image 25 = .ok (.iconst 1, 1) := by decide +kernel
theorem dX10_image_26 : decode cX10_image 26 = .ok (.iastore, 1) := by decide +kernel
theorem dX10_image_27 : decode cX10_image 27 = .ok (.aload_n 0, 1) := by decide +kernel
theorem dX10_image_28 : decode cX10_image 28 = .ok (.getfield 62, 3) := by decide +kernel
theorem dX10_image_31 : decode cX10_image 31 = .ok (.iload_n 2, 1) := by decide +kernel
theorem dX10_image_32 : decode cX10_image 32 = .ok (.aload_n 0, 1) := by decide +kernel
theorem dX10_image_33 : decode cX10_image 33 = .ok (.getfield 71, 3) := by decide +kernel
theorem dX10_image_36 : decode cX10_image 36 = .ok (.iastore, 1) := by decide +kernel
theorem dX10_image_37 : decode cX10_image 37 = .ok (.aload_n 0, 1) := by decide +kernel
theorem dX10_image_38 : decode cX10_image 38 = .ok (.getfield 62, 3) := by decide +kernel
theorem dX10_image_41 : decode cX10_image 41 = .ok (.iload_n 2, 1) := by decide +kernel
theorem dX10_image_42 : decode cX10_image 42 = .ok (.iconst 1, 1) := by decide +kernel
theorem dX10_image_43 : decode cX10_image 43 = .ok (.iadd, 1) := by decide +kernel
theorem dX10_image_44 : decode cX10_image 44 = .ok (.aload_n 0, 1) := by decide +kernel
theorem dX10_image_45 : decode cX10_image 45 = .ok (.getfield 75, 3) := by decide +kernel
theorem dX10_image_48 : decode cX10_image 48 = .ok (.iastore, 1) := by decide +kernel
theorem dX10_image_49 : decode cX10_image 49 = .ok (.aload_n 0, 1) := by decide +kernel
theorem dX10_image_50 : decode cX10_image 50 = .ok (.getfield 62, 3) := by decide +kernel
theorem dX10_image_53 : decode cX10_image 53 = .ok (.iload_n 2, 1) := by decide +kernel
theorem dX10_image_54 : decode cX10_image 54 = .ok (.iconst 2, 1) := by decide +kernel
theorem dX10_image_55 : decode cX10_image 55 = .ok (.iadd, 1) := by decide +kernel
theorem dX10_image_56 : decode cX10_image 56 = .ok (.aload_n 0, 1) := by decide +kernel
theorem dX10_image_57 : decode cX10_image 57 = .ok (.getfield 78, 3) := by decide +kernel
theorem dX10_image_60 : decode cX10_image 60 = .ok (.iastore, 1) := by decide +kernel
theorem dX10_image_61 : decode cX10_image 61 = .ok (.iconst 0, 1) := by decide +kernel
theorem dX10_image_62 : decode cX10_image 62 = .ok (.istore_n 3, 1) := by decide +kernel
theorem dX10_image_63 : decode cX10_image 63 = .ok (.iload_n 3, 1) := by decide +kernel
theorem dX10_image_64 : decode cX10_image 64 = .ok (.iconst 5, 1) := by decide +kernel
theorem dX10_image_65 : decode cX10_image 65 = .ok (.if_icmp .ge 59, 3) := by decide +kernel
theorem dX10_image_68 : decode cX10_image 68 = .ok (.aload_n 0, 1) := by decide +kernel
theorem dX10_image_69 : decode cX10_image 69 = .ok (.getfield 62, 3) := by decide +kernel
theorem dX10_image_72 : decode cX10_image 72 = .ok (.iload_n 2, 1) := by decide +kernel
theorem dX10_image_73 : decode cX10_image 73 = .ok (.iconst 3, 1) := by decide +kernel
theorem dX10_image_74 : decode cX10_image 74 = .ok (.iadd, 1) := by decide +kernel
theorem dX10_image_75 : decode cX10_image 75 = .ok (.iload_n 3, 1) := by decide +kernel
theorem dX10_image_76 : decode cX10_image 76 = .ok (.iadd, 1) := by decide +kernel
theorem dX10_image_77 : decode cX10_image 77 = .ok (.aload_n 0, 1) := by decide +kernel
theorem dX10_image_78 : decode cX10_image 78 = .ok (.getfield 13, 3) := by decide +kernel
theorem dX10_image_81 : decode cX10_image 81 = .ok (.iload_n 3, 1) := by decide +kernel
theorem dX10_image_82 : decode cX10_image 82 = .ok (.iaload, 1) := by decide +kernel
theorem dX10_image_83 : decode cX10_image 83 = .ok (.iastore, 1) := by decide +kernel
theorem dX10_image_84 : decode cX10_image 84 = .ok (.aload_n 0, 1) := by decide +kernel
theorem dX10_image_85 : decode cX10_image 85 = .ok (.getfield 62, 3) := by decide +kernel
theorem dX10_image_88 : decode cX10_image 88 = .ok (.iload_n 2, 1) := by decide +kernel
theorem dX10_image_89 : decode cX10_image 89 = .ok (.bipush 8, 2) := by decide +kernel
theorem dX10_image_91 : decode cX10_image 91 = .ok (.iadd, 1) := by decide +kernel
theorem dX10_image_92 : decode cX10_image 92 = .ok (.iload_n 3, 1) := by decide +kernel
theorem dX10_image_93 : decode cX10_image 93 = .ok (.iadd, 1) := by decide +kernel
theorem dX10_image_94 : decode cX10_image 94 = .ok (.aload_n 0, 1) := by decide +kernel
theorem dX10_image_95 : decode cX10_image 95 = .ok (.getfield 16, 3) := by decide +kernel
theorem dX10_image_98 : decode cX10_image 98 = .ok (.iload_n 3, 1) := by decide +kernel
theorem dX10_image_99 : decode cX10_image 99 = .ok (.iaload, 1) := by decide +kernel
theorem dX10_image_100 : decode cX10_image 100 = .ok (.iastore, 1) := by decide +kernel
theorem dX10_image_101 : decode cX10_image 101 = .ok (.aload_n 0, 1) := by decide +kernel
theorem dX10_image_102 : decode cX10_image 102 = .ok (.getfield 62, 3) := by decide +kernel
theorem dX10_image_105 : decode cX10_image 105 = .ok (.iload_n 2, 1) := by decide +kernel
theorem dX10_image_106 : decode cX10_image 106 = .ok (.bipush 13, 2) := by decide +kernel
theorem dX10_image_108 : decode cX10_image 108 = .ok (.iadd, 1) := by decide +kernel
theorem dX10_image_109 : decode cX10_image 109 = .ok (.iload_n 3, 1) := by decide +kernel
theorem dX10_image_110 : decode cX10_image 110 = .ok (.iadd, 1) := by decide +kernel
theorem dX10_image_111 : decode cX10_image 111 = .ok (.aload_n 0, 1) := by decide +kernel
theorem dX10_image_112 : decode cX10_image 112 = .ok (.getfield 19, 3) := by decide +kernel
theorem dX10_image_115 : decode cX10_image 115 = .ok (.iload_n 3, 1) := by decide +kernel
theorem dX10_image_116 : decode cX10_image 116 = .ok (.iaload, 1) := by decide +kernel
theorem dX10_image_117 : decode cX10_image 117 = .ok (.iastore, 1) := by decide +kernel
theorem dX10_image_118 : decode cX10_image 118 = .ok (.iinc 3 1, 3) := by decide +kernel
theorem dX10_image_121 : decode cX10_image 121 = .ok (.goto (-58), 3) := by decide +kernel
theorem dX10_image_124 : decode cX10_image 124 = .ok (.iconst 0, 1) := by decide +kernel
theorem dX10_image_125 : decode cX10_image 125 = .ok (.istore_n 3, 1) := by decide +kernel
theorem dX10_image_126 : decode cX10_image 126 = .ok (.iload_n 3, 1) := by decide +kernel
theorem dX10_image_127 : decode cX10_image 127 = .ok (.bipush 12, 2) := by decide +kernel
theorem dX10_image_129 : decode cX10_image 129 = .ok (.if_icmp .ge 26, 3) := by decide +kernel
theorem dX10_image_132 : decode cX10_image 132 = .ok (.aload_n 0, 1) := by decide +kernel
theorem dX10_image_133 : decode cX10_image 133 = .ok (.getfield 62, 3) := by decide +kernel
theorem dX10_image_136 : decode cX10_image 136 = .ok (.iload_n 2, 1) := by decide +kernel
theorem dX10_image_137 : decode cX10_image 137 = .ok (.bipush 18, 2) := by decide +kernel
theorem dX10_image_139 : decode cX10_image 139 = .ok (.iadd, 1) := by decide +kernel
theorem dX10_image_140 : decode cX10_image 140 = .ok (.iload_n 3, 1) := by decide +kernel
theorem dX10_image_141 : decode cX10_image 141 = .ok (.iadd, 1) := by decide +kernel
theorem dX10_image_142 : decode cX10_image 142 = .ok (.aload_n 0, 1) := by decide +kernel
theorem dX10_image_143 : decode cX10_image 143 = .ok (.getfield 22, 3) := by decide +kernel
theorem dX10_image_146 : decode cX10_image 146 = .ok (.iload_n 3, 1) := by decide +kernel
theorem dX10_image_147 : decode cX10_image 147 = .ok (.iaload, 1) := by decide +kernel
theorem dX10_image_148 : decode cX10_image 148 = .ok (.iastore, 1) := by decide +kernel
theorem dX10_image_149 : decode cX10_image 149 = .ok (.iinc 3 1, 3) := by decide +kernel
theorem dX10_image_152 : decode cX10_image 152 = .ok (.goto (-26), 3) := by decide +kernel
theorem dX10_image_155 : decode cX10_image 155 = .ok (.iconst 0, 1) := by decide +kernel
theorem dX10_image_156 : decode cX10_image 156 = .ok (.istore_n 3, 1) := by decide +kernel
theorem dX10_image_157 : decode cX10_image 157 = .ok (.iload_n 3, 1) := by decide +kernel
theorem dX10_image_158 : decode cX10_image 158 = .ok (.bipush 6, 2) := by decide +kernel
theorem dX10_image_160 : decode cX10_image 160 = .ok (.if_icmp .ge 77, 3) := by decide +kernel
theorem dX10_image_163 : decode cX10_image 163 = .ok (.aload_n 0, 1) := by decide +kernel
theorem dX10_image_164 : decode cX10_image 164 = .ok (.getfield 62, 3) := by decide +kernel
theorem dX10_image_167 : decode cX10_image 167 = .ok (.iload_n 2, 1) := by decide +kernel
theorem dX10_image_168 : decode cX10_image 168 = .ok (.bipush 30, 2) := by decide +kernel
theorem dX10_image_170 : decode cX10_image 170 = .ok (.iadd, 1) := by decide +kernel
theorem dX10_image_171 : decode cX10_image 171 = .ok (.iload_n 3, 1) := by decide +kernel
theorem dX10_image_172 : decode cX10_image 172 = .ok (.iadd, 1) := by decide +kernel
theorem dX10_image_173 : decode cX10_image 173 = .ok (.aload_n 0, 1) := by decide +kernel
theorem dX10_image_174 : decode cX10_image 174 = .ok (.getfield 25, 3) := by decide +kernel
theorem dX10_image_177 : decode cX10_image 177 = .ok (.iload_n 3, 1) := by decide +kernel
theorem dX10_image_178 : decode cX10_image 178 = .ok (.iaload, 1) := by decide +kernel
theorem dX10_image_179 : decode cX10_image 179 = .ok (.iastore, 1) := by decide +kernel
theorem dX10_image_180 : decode cX10_image 180 = .ok (.aload_n 0, 1) := by decide +kernel
theorem dX10_image_181 : decode cX10_image 181 = .ok (.getfield 62, 3) := by decide +kernel
theorem dX10_image_184 : decode cX10_image 184 = .ok (.iload_n 2, 1) := by decide +kernel
theorem dX10_image_185 : decode cX10_image 185 = .ok (.bipush 36, 2) := by decide +kernel
theorem dX10_image_187 : decode cX10_image 187 = .ok (.iadd, 1) := by decide +kernel
theorem dX10_image_188 : decode cX10_image 188 = .ok (.iload_n 3, 1) := by decide +kernel
theorem dX10_image_189 : decode cX10_image 189 = .ok (.iadd, 1) := by decide +kernel
theorem dX10_image_190 : decode cX10_image 190 = .ok (.aload_n 0, 1) := by decide +kernel
theorem dX10_image_191 : decode cX10_image 191 = .ok (.getfield 28, 3) := by decide +kernel
theorem dX10_image_194 : decode cX10_image 194 = .ok (.iload_n 3, 1) := by decide +kernel
theorem dX10_image_195 : decode cX10_image 195 = .ok (.iaload, 1) := by decide +kernel
theorem dX10_image_196 : decode cX10_image 196 = .ok (.iastore, 1) := by decide +kernel
theorem dX10_image_197 : decode cX10_image 197 = .ok (.aload_n 0, 1) := by decide +kernel
theorem dX10_image_198 : decode cX10_image 198 = .ok (.getfield 62, 3) := by decide +kernel
theorem dX10_image_201 : decode cX10_image 201 = .ok (.iload_n 2, 1) := by decide +kernel
theorem dX10_image_202 : decode cX10_image 202 = .ok (.bipush 42, 2) := by decide +kernel
theorem dX10_image_204 : decode cX10_image 204 = .ok (.iadd, 1) := by decide +kernel
theorem dX10_image_205 : decode cX10_image 205 = .ok (.iload_n 3, 1) := by decide +kernel
theorem dX10_image_206 : decode cX10_image 206 = .ok (.iadd, 1) := by decide +kernel
theorem dX10_image_207 : decode cX10_image 207 = .ok (.aload_n 0, 1) := by decide +kernel
theorem dX10_image_208 : decode cX10_image 208 = .ok (.getfield 31, 3) := by decide +kernel
theorem dX10_image_211 : decode cX10_image 211 = .ok (.iload_n 3, 1) := by decide +kernel
theorem dX10_image_212 : decode cX10_image 212 = .ok (.iaload, 1) := by decide +kernel
theorem dX10_image_213 : decode cX10_image 213 = .ok (.iastore, 1) := by decide +kernel
theorem dX10_image_214 : decode cX10_image 214 = .ok (.aload_n 0, 1) := by decide +kernel
theorem dX10_image_215 : decode cX10_image 215 = .ok (.getfield 62, 3) := by decide +kernel
theorem dX10_image_218 : decode cX10_image 218 = .ok (.iload_n 2, 1) := by decide +kernel
theorem dX10_image_219 : decode cX10_image 219 = .ok (.bipush 48, 2) := by decide +kernel
theorem dX10_image_221 : decode cX10_image 221 = .ok (.iadd, 1) := by decide +kernel
theorem dX10_image_222 : decode cX10_image 222 = .ok (.iload_n 3, 1) := by decide +kernel
theorem dX10_image_223 : decode cX10_image 223 = .ok (.iadd, 1) := by decide +kernel
theorem dX10_image_224 : decode cX10_image 224 = .ok (.aload_n 0, 1) := by decide +kernel
theorem dX10_image_225 : decode cX10_image 225 = .ok (.getfield 34, 3) := by decide +kernel
theorem dX10_image_228 : decode cX10_image 228 = .ok (.iload_n 3, 1) := by decide +kernel
theorem dX10_image_229 : decode cX10_image 229 = .ok (.iaload, 1) := by decide +kernel
theorem dX10_image_230 : decode cX10_image 230 = .ok (.iastore, 1) := by decide +kernel
theorem dX10_image_231 : decode cX10_image 231 = .ok (.iinc 3 1, 3) := by decide +kernel
theorem dX10_image_234 : decode cX10_image 234 = .ok (.goto (-77), 3) := by decide +kernel
theorem dX10_image_237 : decode cX10_image 237 = .ok (.iconst 0, 1) := by decide +kernel
theorem dX10_image_238 : decode cX10_image 238 = .ok (.istore_n 3, 1) := by decide +kernel
theorem dX10_image_239 : decode cX10_image 239 = .ok (.iload_n 3, 1) := by decide +kernel
theorem dX10_image_240 : decode cX10_image 240 = .ok (.sipush 136, 3) := by decide +kernel
theorem dX10_image_243 : decode cX10_image 243 = .ok (.if_icmp .ge 26, 3) := by decide +kernel
theorem dX10_image_246 : decode cX10_image 246 = .ok (.aload_n 0, 1) := by decide +kernel
theorem dX10_image_247 : decode cX10_image 247 = .ok (.getfield 62, 3) := by decide +kernel
theorem dX10_image_250 : decode cX10_image 250 = .ok (.iload_n 2, 1) := by decide +kernel
theorem dX10_image_251 : decode cX10_image 251 = .ok (.bipush 54, 2) := by decide +kernel
theorem dX10_image_253 : decode cX10_image 253 = .ok (.iadd, 1) := by decide +kernel
theorem dX10_image_254 : decode cX10_image 254 = .ok (.iload_n 3, 1) := by decide +kernel
theorem dX10_image_255 : decode cX10_image 255 = .ok (.iadd, 1) := by decide +kernel
theorem dX10_image_256 : decode cX10_image 256 = .ok (.aload_n 0, 1) := by decide +kernel
theorem dX10_image_257 : decode cX10_image 257 = .ok (.getfield 46, 3) := by decide +kernel
theorem dX10_image_260 : decode cX10_image 260 = .ok (.iload_n 3, 1) := by decide +kernel
theorem dX10_image_261 : decode cX10_image 261 = .ok (.iaload, 1) := by decide +kernel
theorem dX10_image_262 : decode cX10_image 262 = .ok (.iastore, 1) := by decide +kernel
theorem dX10_image_263 : decode cX10_image 263 = .ok (.iinc 3 1, 3) := by decide +kernel
theorem dX10_image_266 : decode cX10_image 266 = .ok (.goto (-27), 3) := by decide +kernel
theorem dX10_image_269 : decode cX10_image 269 = .ok (.iconst 1, 1) := by decide +kernel
theorem dX10_image_270 : decode cX10_image 270 = .ok (.ireturn, 1) := by decide +kernel
theorem dX10_from_0 : decode cX10_from 0 = .ok (.iload_n 1, 1) := by decide +kernel
theorem dX10_from_1 : decode cX10_from 1 = .ok (.iconst 0, 1) := by decide +kernel
theorem dX10_from_2 : decode cX10_from 2 = .ok (.iconst 1, 1) := by decide +kernel
theorem dX10_from_3 : decode cX10_from 3 = .ok (.invokestatic 81, 3) := by decide +kernel
theorem dX10_from_6 : decode cX10_from 6 = .ok (.ifCond .ne 8, 3) := by decide +kernel
theorem dX10_from_9 : decode cX10_from 9 = .ok (.aload_n 0, 1) := by decide +kernel
theorem dX10_from_10 : decode cX10_from 10 = .ok (.invokevirtual 85, 3) := by decide +kernel
theorem dX10_from_13 : decode cX10_from 13 = .ok (.ireturn, 1) := by decide +kernel
theorem dX10_from_14 : decode cX10_from 14 = .ok (.aload_n 0, 1) := by decide +kernel
theorem dX10_from_15 : decode cX10_from 15 = .ok (.getfield 65, 3) := by decide +kernel
theorem dX10_from_18 : decode cX10_from 18 = .ok (.iload_n 1, 1) := by decide +kernel
theorem dX10_from_19 : decode cX10_from 19 = .ok (.iaload, 1) := by decide +kernel
theorem dX10_from_20 : decode cX10_from 20 = .ok (.ifCond .ne 8, 3) := by decide +kernel
theorem dX10_from_23 : decode cX10_from 23 = .ok (.aload_n 0, 1) := by decide +kernel
theorem dX10_from_24 : decode cX10_from 24 = .ok (.invokevirtual 180, 3) := by decide +kernel
theorem dX10_from_27 : decode cX10_from 27 = .ok (.ireturn, 1) := by decide +kernel
theorem dX10_from_28 : decode cX10_from 28 = .ok (.sipush 192, 3) := by decide +kernel
theorem dX10_from_31 : decode cX10_from 31 = .ok (.iload_n 1, 1) := by decide +kernel
theorem dX10_from_32 : decode cX10_from 32 = .ok (.imul, 1) := by decide +kernel
theorem dX10_from_33 : decode cX10_from 33 = .ok (.istore_n 2, 1) := by decide +kernel
theorem dX10_from_34 : decode cX10_from 34 = .ok (.aload_n 0, 1) := by decide +kernel
theorem dX10_from_35 : decode cX10_from 35 = .ok (.aload_n 0, 1) := by decide +kernel
theorem dX10_from_36 : decode cX10_from 36 = .ok (.getfield 62, 3) := by decide +kernel
theorem dX10_from_39 : decode cX10_from 39 = .ok (.iload_n 2, 1) := by decide +kernel
theorem dX10_from_40 : decode cX10_from 40 = .ok (.iaload, 1) := by decide +kernel
theorem dX10_from_41 : decode cX10_from 41 = .ok (.putfield 71, 3) := by decide +kernel
theorem dX10_from_44 : decode cX10_from 44 = .ok (.aload_n 0, 1) := by decide +kernel
theorem dX10_from_45 : decode cX10_from 45 = .ok (.aload_n 0, 1) := by decide +kernel
theorem dX10_from_46 : decode cX10_from 46 = .ok (.getfield 62, 3) := by decide +kernel
theorem dX10_from_49 : decode cX10_from 49 = .ok (.iload_n 2, 1) := by decide +kernel
theorem dX10_from_50 : decode cX10_from 50 = .ok (.iconst 1, 1) := by decide +kernel
theorem dX10_from_51 : decode cX10_from 51 = .ok (.iadd, 1) := by decide +kernel
theorem dX10_from_52 : decode cX10_from 52 = .ok (.iaload, 1) := by decide +kernel
theorem dX10_from_53 : decode cX10_from 53 = .ok (.putfield 75, 3) := by decide +kernel
theorem dX10_from_56 : decode cX10_from 56 = .ok (.aload_n 0, 1) := by decide +kernel
theorem dX10_from_57 : decode cX10_from 57 = .ok (.aload_n 0, 1) := by decide +kernel
theorem dX10_from_58 : decode cX10_from 58 = .ok (.getfield 62, 3) := by decide +kernel
theorem dX10_from_61 : decode cX10_from 61 = .ok (.iload_n 2, 1) := by decide +kernel
theorem dX10_from_62 : decode cX10_from 62 = .ok (.iconst 2, 1) := by decide +kernel
theorem dX10_from_63 : decode cX10_from 63 = .ok (.iadd, 1) := by decide +kernel
theorem dX10_from_64 : decode cX10_from 64 = .ok (.iaload, 1) := by decide +kernel
theorem dX10_from_65 : decode cX10_from 65 = .ok (.putfield 78, 3) := by decide +kernel
theorem dX10_from_68 : decode cX10_from 68 = .ok (.iconst 0, 1) := by decide +kernel
theorem dX10_from_69 : decode cX10_from 69 = .ok (.istore_n 3, 1) := by decide +kernel
theorem dX10_from_70 : decode cX10_from 70 = .ok (.iload_n 3, 1) := by decide +kernel
theorem dX10_from_71 : decode cX10_from 71 = .ok (.iconst 5, 1) := by decide +kernel
theorem dX10_from_72 : decode cX10_from 72 = .ok (.if_icmp .ge 59, 3) := by decide +kernel
theorem dX10_from_75 : decode cX10_from 75 = .ok (.aload_n 0, 1) := by decide +kernel
theorem dX10_from_76 : decode cX10_from 76 = .ok (.getfield 13, 3) := by decide +kernel
theorem dX10_from_79 : decode cX10_from 79 = .ok (.iload_n 3, 1) := by decide +kernel
theorem dX10_from_80 : decode cX10_from 80 = .ok (.aload_n 0, 1) := by decide +kernel
theorem dX10_from_81 : decode cX10_from 81 = .ok (.getfield 62, 3) := by decide +kernel
theorem dX10_from_84 : decode cX10_from 84 = .ok (.iload_n 2, 1) := by decide +kernel
theorem dX10_from_85 : decode cX10_from 85 = .ok (.iconst 3, 1) := by decide +kernel
theorem dX10_from_86 : decode cX10_from 86 = .ok (.iadd, 1) := by decide +kernel
theorem dX10_from_87 : decode cX10_from 87 = .ok (.iload_n 3, 1) := by decide +kernel
theorem dX10_from_88 : decode cX10_from 88 = .ok (.iadd, 1) := by decide +kernel
theorem dX10_from_89 : decode cX10_from 89 = .ok (.iaload, 1) := by decide +kernel
theorem dX10_from_90 : decode cX10_from 90 = .ok (.iastore, 1) := by decide +kernel
theorem dX10_from_91 : decode cX10_from 91 = .ok (.aload_n 0, 1) := by decide +kernel
theorem dX10_from_92 : decode cX10_from 92 = .ok (.getfield 16, 3) := by decide +kernel
theorem dX10_from_95 : decode cX10_from 95 = .ok (.iload_n 3, 1) := by decide +kernel
theorem dX10_from_96 : decode cX10_from 96 = .ok (.aload_n 0, 1) := by decide +kernel
theorem dX10_from_97 : decode cX10_from 97 = .ok (.getfield 62, 3) := by decide +kernel
theorem dX10_from_100 : decode cX10_from 100 = .ok (.iload_n 2, 1) := by decide +kernel
theorem dX10_from_101 : decode cX10_from 101 = .ok (.bipush 8, 2) := by decide +kernel
theorem dX10_from_103 : decode cX10_from 103 = .ok (.iadd, 1) := by decide +kernel
theorem dX10_from_104 : decode cX10_from 104 = .ok (.iload_n 3, 1) := by decide +kernel
theorem dX10_from_105 : decode cX10_from 105 = .ok (.iadd, 1) := by decide +kernel
theorem dX10_from_106 : decode cX10_from 106 = .ok (.iaload, 1) := by decide +kernel
theorem dX10_from_107 : decode cX10_from 107 = .ok (.iastore, 1) := by decide +kernel
theorem dX10_from_108 : decode cX10_from 108 = .ok (.aload_n 0, 1) := by decide +kernel
theorem dX10_from_109 : decode cX10_from 109 = .ok (.getfield 19, 3) := by decide +kernel
theorem dX10_from_112 : decode cX10_from 112 = .ok (.iload_n 3, 1) := by decide +kernel
theorem dX10_from_113 : decode cX10_from 113 = .ok (.aload_n 0, 1) := by decide +kernel
theorem dX10_from_114 : decode cX10_from 114 = .ok (.getfield 62, 3) := by decide +kernel
theorem dX10_from_117 : decode cX10_from 117 = .ok (.iload_n 2, 1) := by decide +kernel
theorem dX10_from_118 : decode cX10_from 118 = .ok (.bipush 13, 2) := by decide +kernel
theorem dX10_from_120 : decode cX10_from 120 = .ok (.iadd, 1) := by decide +kernel
theorem dX10_from_121 : decode cX10_from 121 = .ok (.iload_n 3, 1) := by decide +kernel
theorem dX10_from_122 : decode cX10_from 122 = .ok (.iadd, 1) := by decide +kernel
theorem dX10_from_123 : decode cX10_from 123 = .ok (.iaload, 1) := by decide +kernel
theorem dX10_from_124 : decode cX10_from 124 = .ok (.iastore, 1) := by decide +kernel
theorem dX10_from_125 : decode cX10_from 125 = .ok (.iinc 3 1, 3) := by decide +kernel
theorem dX10_from_128 : decode cX10_from 128 = .ok (.goto (-58), 3) := by decide +kernel
theorem dX10_from_131 : decode cX10_from 131 = .ok (.iconst 0, 1) := by decide +kernel
theorem dX10_from_132 : decode cX10_from 132 = .ok (.istore_n 3, 1) := by decide +kernel
theorem dX10_from_133 : decode cX10_from 133 = .ok (.iload_n 3, 1) := by decide +kernel
theorem dX10_from_134 : decode cX10_from 134 = .ok (.bipush 12, 2) := by decide +kernel
theorem dX10_from_136 : decode cX10_from 136 = .ok (.if_icmp .ge 26, 3) := by decide +kernel
theorem dX10_from_139 : decode cX10_from 139 = .ok (.aload_n 0, 1) := by decide +kernel
theorem dX10_from_140 : decode cX10_from 140 = .ok (.getfield 22, 3) := by decide +kernel
theorem dX10_from_143 : decode cX10_from 143 = .ok (.iload_n 3, 1) := by decide +kernel
theorem dX10_from_144 : decode cX10_from 144 = .ok (.aload_n 0, 1) := by decide +kernel
theorem dX10_from_145 : decode cX10_from 145 = .ok (.getfield 62, 3) := by decide +kernel
theorem dX10_from_148 : decode cX10_from 148 = .ok (.iload_n 2, 1) := by decide +kernel
theorem dX10_from_149 : decode cX10_from 149 = .ok (.bipush 18, 2) := by decide +kernel
theorem dX10_from_151 : decode cX10_from 151 = .ok (.iadd, 1) := by decide +kernel
theorem dX10_from_152 : decode cX10_from 152 = .ok (.iload_n 3, 1) := by decide +kernel
theorem dX10_from_153 : decode cX10_from 153 = .ok (.iadd, 1) := by decide +kernel
theorem dX10_from_154 : decode cX10_from 154 = .ok (.iaload, 1) := by decide +kernel
theorem dX10_from_155 : decode cX10_from 155 = .ok (.iastore, 1) := by decide +kernel
theorem dX10_from_156 : decode cX10_from 156 = .ok (.iinc 3 1, 3) := by decide +kernel
theorem dX10_from_159 : decode cX10_from 159 = .ok (.goto (-26), 3) := by decide +kernel
theorem dX10_from_162 : decode cX10_from 162 = .ok (.iconst 0, 1) := by decide +kernel
theorem dX10_from_163 : decode cX10_from 163 = .ok (.istore_n 3, 1) := by decide +kernel
theorem dX10_from_164 : decode cX10_from 164 = .ok (.iload_n 3, 1) := by decide +kernel
theorem dX10_from_165 : decode cX10_from 165 = .ok (.bipush 6, 2) := by decide +kernel
theorem dX10_from_167 : decode cX10_from 167 = .ok (.if_icmp .ge 77, 3) := by decide +kernel
theorem dX10_from_170 : decode cX10_from 170 = .ok (.aload_n 0, 1) := by decide +kernel
theorem dX10_from_171 : decode cX10_from 171 = .ok (.getfield 25, 3) := by decide +kernel
theorem dX10_from_174 : decode cX10_from 174 = .ok (.iload_n 3, 1) := by decide +kernel
theorem dX10_from_175 : decode cX10_from 175 = .ok (.aload_n 0, 1) := by decide +kernel
theorem dX10_from_176 : decode cX10_from 176 = .ok (.getfield 62, 3) := by decide +kernel
theorem dX10_from_179 : decode cX10_from 179 = .ok (.iload_n 2, 1) := by decide +kernel
theorem dX10_from_180 : decode cX10_from 180 = .ok (.bipush 30, 2) := by decide +kernel
theorem dX10_from_182 : decode cX10_from 182 = .ok (.iadd, 1) := by decide +kernel
theorem dX10_from_183 : decode cX10_from 183 = .ok (.iload_n 3, 1) := by decide +kernel
theorem dX10_from_184 : decode cX10_from 184 = .ok (.iadd, 1) := by decide +kernel
theorem dX10_from_185 : decode cX10_from 185 = .ok (.iaload, 1) := by decide +kernel
theorem dX10_from_186 : decode cX10_from 186 = .ok (.iastore, 1) := by decide +kernel
theorem dX10_from_187 : decode cX10_from 187 = .ok (.aload_n 0, 1) := by decide +kernel
theorem dX10_from_188 : decode cX10_from 188 = .ok (.getfield 28, 3) := by decide +kernel
theorem dX10_from_191 : decode cX10_from 191 = .ok (.iload_n 3, 1) := by decide +kernel
theorem dX10_from_192 : decode cX10_from 192 = .ok (.aload_n 0, 1) := by decide +kernel
theorem dX10_from_193 : decode cX10_from 193 = .ok (.getfield 62, 3) := by decide +kernel
theorem dX10_from_196 : decode cX10_from 196 = .ok (.iload_n 2, 1) := by decide +kernel
theorem dX10_from_197 : decode cX10_from 197 = .ok (.bipush 36, 2) := by decide +kernel
theorem dX10_from_199 : decode cX10_from 199 = .ok (.iadd, 1) := by decide +kernel
theorem dX10_from_200 : decode cX10_from 200 = .ok (.iload_n 3, 1) := by decide +kernel
theorem dX10_from_201 : decode cX10_from 201 = .ok (.iadd, 1) := by decide +kernel
theorem dX10_from_202 : decode cX10_from 202 = .ok (.iaload, 1) := by decide +kernel
theorem dX10_from_203 : decode cX10_from 203 = .ok (.iastore, 1) := by decide +kernel
theorem dX10_from_204 : decode cX10_from 204 = .ok (.aload_n 0, 1) := by decide +kernel
theorem dX10_from_205 : decode cX10_from 205 = .ok (.getfield 31, 3) := by decide +kernel
theorem dX10_from_208 : decode cX10_from 208 = .ok (.iload_n 3, 1) := by decide +kernel
theorem dX10_from_209 : decode cX10_from 209 = .ok (.aload_n 0, 1) := by decide +kernel
theorem dX10_from_210 : decode cX10_from 210 = .ok (.getfield 62, 3) := by decide +kernel
theorem dX10_from_213 : decode cX10_from 213 = .ok (.iload_n 2, 1) := by decide +kernel
theorem dX10_from_214 : decode cX10_from 214 = .ok (.bipush 42, 2) := by decide +kernel
theorem dX10_from_216 : decode cX10_from 216 = .ok (.iadd, 1) := by decide +kernel
theorem dX10_from_217 : decode cX10_from 217 = .ok (.iload_n 3, 1) := by decide +kernel
theorem dX10_from_218 : decode cX10_from 218 = .ok (.iadd, 1) := by decide +kernel
theorem dX10_from_219 : decode cX10_from 219 = .ok (.iaload, 1) := by decide +kernel
theorem dX10_from_220 : decode cX10_from 220 = .ok (.iastore, 1) := by decide +kernel
theorem dX10_from_221 : decode cX10_from 221 = .ok (.aload_n 0, 1) := by decide +kernel
theorem dX10_from_222 : decode cX10_from 222 = .ok (.getfield 34, 3) := by decide +kernel
theorem dX10_from_225 : decode cX10_from 225 = .ok (.iload_n 3, 1) := by decide +kernel
theorem dX10_from_226 : decode cX10_from 226 = .ok (.aload_n 0, 1) := by decide +kernel
theorem dX10_from_227 : decode cX10_from 227 = .ok (.getfield 62, 3) := by decide +kernel
theorem dX10_from_230 : decode cX10_from 230 = .ok (.iload_n 2, 1) := by decide +kernel
theorem dX10_from_231 : decode cX10_from 231 = .ok (.bipush 48, 2) := by decide +kernel
theorem dX10_from_233 : decode cX10_from 233 = .ok (.iadd, 1) := by decide +kernel
theorem dX10_from_234 : decode cX10_from 234 = .ok (.iload_n 3, 1) := by decide +kernel
theorem dX10_from_235 : decode cX10_from 235 = .ok (.iadd, 1) := by decide +kernel
theorem dX10_from_236 : decode cX10_from 236 = .ok (.iaload, 1) := by decide +kernel
theorem dX10_from_237 : decode cX10_from 237 = .ok (.iastore, 1) := by decide +kernel
theorem dX10_from_238 : decode cX10_from 238 = .ok (.iinc 3 1, 3) := by decide +kernel
theorem dX10_from_241 : decode cX10_from 241 = .ok (.goto (-77), 3) := by decide +kernel
theorem dX10_from_244 : decode cX10_from 244 = .ok (.iconst 0, 1) := by decide +kernel
theorem dX10_from_245 : decode cX10_from 245 = .ok (.istore_n 3, 1) := by decide +kernel
theorem dX10_from_246 : decode cX10_from 246 = .ok (.iload_n 3, 1) := by decide +kernel
theorem dX10_from_247 : decode cX10_from 247 = .ok (.sipush 136, 3) := by decide +kernel
theorem dX10_from_250 : decode cX10_from 250 = .ok (.if_icmp .ge 26, 3) := by decide +kernel
theorem dX10_from_253 : decode cX10_from 253 = .ok (.aload_n 0, 1) := by decide +kernel
theorem dX10_from_254 : decode cX10_from 254 = .ok (.getfield 46, 3) := by decide +kernel
theorem dX10_from_257 : decode cX10_from 257 = .ok (.iload_n 3, 1) := by decide +kernel
theorem dX10_from_258 : decode cX10_from 258 = .ok (.aload_n 0, 1) := by decide +kernel
theorem dX10_from_259 : decode cX10_from 259 = .ok (.getfield 62, 3) := by decide +kernel
theorem dX10_from_262 : decode cX10_from 262 = .ok (.iload_n 2, 1) := by decide +kernel
theorem dX10_from_263 : decode cX10_from 263 = .ok (.bipush 54, 2) := by decide +kernel
theorem dX10_from_265 : decode cX10_from 265 = .ok (.iadd, 1) := by decide +kernel
theorem dX10_from_266 : decode cX10_from 266 = .ok (.iload_n 3, 1) := by decide +kernel
theorem dX10_from_267 : decode cX10_from 267 = .ok (.iadd, 1) := by decide +kernel
theorem dX10_from_268 : decode cX10_from 268 = .ok (.iaload, 1) := by decide +kernel
theorem dX10_from_269 : decode cX10_from 269 = .ok (.iastore, 1) := by decide +kernel
theorem dX10_from_270 : decode cX10_from 270 = .ok (.iinc 3 1, 3) := by decide +kernel
theorem dX10_from_273 : decode cX10_from 273 = .ok (.goto (-27), 3) := by decide +kernel
theorem dX10_from_276 : decode cX10_from 276 = .ok (.iconst 1, 1) := by decide +kernel
theorem dX10_from_277 : decode cX10_from 277 = .ok (.ireturn, 1) := by decide +kernel
theorem dX10_status_0 : decode cX10_status 0 = .ok (.iload_n 1, 1) := by decide +kernel
theorem dX10_status_1 : decode cX10_status 1 = .ok (.iconst 0, 1) := by decide +kernel
theorem dX10_status_2 : decode cX10_status 2 = .ok (.iconst 2, 1) := by decide +kernel
theorem dX10_status_3 : decode cX10_status 3 = .ok (.invokestatic 81, 3) := by decide +kernel
theorem dX10_status_6 : decode cX10_status 6 = .ok (.ifCond .ne 15, 3) := by decide +kernel
theorem dX10_status_9 : decode cX10_status 9 = .ok (.aload_n 0, 1) := by decide +kernel
theorem dX10_status_10 : decode cX10_status 10 = .ok (.getfield 1, 3) := by decide +kernel
theorem dX10_status_13 : decode cX10_status 13 = .ok (.iconst 0, 1) := by decide +kernel
theorem dX10_status_14 : decode cX10_status 14 = .ok (.dup2, 1) := by decide +kernel
theorem dX10_status_15 : decode cX10_status 15 = .ok (.iaload, 1) := by decide +kernel
theorem dX10_status_16 : decode cX10_status 16 = .ok (.iconst 1, 1) := by decide +kernel
theorem dX10_status_17 : decode cX10_status 17 = .ok (.iadd, 1) := by decide +kernel
theorem dX10_status_18 : decode cX10_status 18 = .ok (.iastore, 1) := by decide +kernel
theorem dX10_status_19 : decode cX10_status 19 = .ok (.iconst (-1), 1) := by decide +kernel
theorem dX10_status_20 : decode cX10_status 20 = .ok (.ireturn, 1) := by decide +kernel
theorem dX10_status_21 : decode cX10_status 21 = .ok (.aload_n 0, 1) := by decide +kernel
theorem dX10_status_22 : decode cX10_status 22 = .ok (.getfield 1, 3) := by decide +kernel
theorem dX10_status_25 : decode cX10_status 25 = .ok (.iload_n 1, 1) := by decide +kernel
theorem dX10_status_26 : decode cX10_status 26 = .ok (.iaload, 1) := by decide +kernel
theorem dX10_status_27 : decode cX10_status 27 = .ok (.ireturn, 1) := by decide +kernel
theorem dX10_allJam_0 : decode cX10_allJam 0 = .ok (.iconst 0, 1) := by decide +kernel
theorem dX10_allJam_1 : decode cX10_allJam 1 = .ok (.istore_n 1, 1) := by decide +kernel
theorem dX10_allJam_2 : decode cX10_allJam 2 = .ok (.iconst 0, 1) := by decide +kernel
theorem dX10_allJam_3 : decode cX10_allJam 3 = .ok (.istore_n 2, 1) := by decide +kernel
theorem dX10_allJam_4 : decode cX10_allJam 4 = .ok (.iload_n 2, 1) := by decide +kernel
theorem dX10_allJam_5 : decode cX10_allJam 5 = .ok (.aload_n 0, 1) := by decide +kernel
theorem dX10_allJam_6 : decode cX10_allJam 6 = .ok (.getfield 71, 3) := by decide +kernel
theorem dX10_allJam_9 : decode cX10_allJam 9 = .ok (.if_icmp .ge 18, 3) := by decide +kernel
theorem dX10_allJam_12 : decode cX10_allJam 12 = .ok (.iload_n 1, 1) := by decide +kernel
theorem dX10_allJam_13 : decode cX10_allJam 13 = .ok (.aload_n 0, 1) := by decide +kernel
theorem dX10_allJam_14 : decode cX10_allJam 14 = .ok (.getfield 19, 3) := by decide +kernel
theorem dX10_allJam_17 : decode cX10_allJam 17 = .ok (.iload_n 2, 1) := by decide +kernel
theorem dX10_allJam_18 : decode cX10_allJam 18 = .ok (.iaload, 1) := by decide +kernel
theorem dX10_allJam_19 : decode cX10_allJam 19 = .ok (.iadd, 1) := by decide +kernel
theorem dX10_allJam_20 : decode cX10_allJam 20 = .ok (.istore_n 1, 1) := by decide +kernel
theorem dX10_allJam_21 : decode cX10_allJam 21 = .ok (.iinc 2 1, 3) := by decide +kernel
theorem dX10_allJam_24 : decode cX10_allJam 24 = .ok (.goto (-20), 3) := by decide +kernel
theorem dX10_allJam_27 : decode cX10_allJam 27 = .ok (.iload_n 1, 1) := by decide +kernel
theorem dX10_allJam_28 : decode cX10_allJam 28 = .ok (.ireturn, 1) := by decide +kernel
theorem dX10_countOf_0 : decode cX10_countOf 0 = .ok (.iload_n 1, 1) := by decide +kernel
theorem dX10_countOf_1 : decode cX10_countOf 1 = .ok (.tableswitch 72 0 5 #[39, 44, 49, 54, 62, 67], 39) := by decide +kernel
theorem dX10_countOf_40 : decode cX10_countOf 40 = .ok (.aload_n 0, 1) := by decide +kernel
theorem dX10_countOf_41 : decode cX10_countOf 41 = .ok (.getfield 71, 3) := by decide +kernel
theorem dX10_countOf_44 : decode cX10_countOf 44 = .ok (.ireturn, 1) := by decide +kernel
theorem dX10_countOf_45 : decode cX10_countOf 45 = .ok (.aload_n 0, 1) := by decide +kernel
theorem dX10_countOf_46 : decode cX10_countOf 46 = .ok (.invokevirtual 190, 3) := by decide +kernel
theorem dX10_countOf_49 : decode cX10_countOf 49 = .ok (.ireturn, 1) := by decide +kernel
theorem dX10_countOf_50 : decode cX10_countOf 50 = .ok (.aload_n 0, 1) := by decide +kernel
theorem dX10_countOf_51 : decode cX10_countOf 51 = .ok (.invokevirtual 246, 3) := by decide +kernel
theorem dX10_countOf_54 : decode cX10_countOf 54 = .ok (.ireturn, 1) := by decide +kernel
theorem dX10_countOf_55 : decode cX10_countOf 55 = .ok (.aload_n 0, 1) := by decide +kernel
theorem dX10_countOf_56 : decode cX10_countOf 56 = .ok (.invokevirtual 249, 3) := by decide +kernel
theorem dX10_countOf_59 : decode cX10_countOf 59 = .ok (.invokestatic 187, 3) := by decide +kernel
theorem dX10_countOf_62 : decode cX10_countOf 62 = .ok (.ireturn, 1) := by decide +kernel
theorem dX10_countOf_63 : decode cX10_countOf 63 = .ok (.aload_n 0, 1) := by decide +kernel
theorem dX10_countOf_64 : decode cX10_countOf 64 = .ok (.getfield 75, 3) := by decide +kernel
theorem dX10_countOf_67 : decode cX10_countOf 67 = .ok (.ireturn, 1) := by decide +kernel
theorem dX10_countOf_68 : decode cX10_countOf 68 = .ok (.aload_n 0, 1) := by decide +kernel
theorem dX10_countOf_69 : decode cX10_countOf 69 = .ok (.getfield 78, 3) := by decide +kernel
theorem dX10_countOf_72 : decode cX10_countOf 72 = .ok (.ireturn, 1) := by decide +kernel
theorem dX10_countOf_73 : decode cX10_countOf 73 = .ok (.aload_n 0, 1) := by decide +kernel
theorem dX10_countOf_74 : decode cX10_countOf 74 = .ok (.getfield 96, 3) := by decide +kernel
theorem dX10_countOf_77 : decode cX10_countOf 77 = .ok (.ireturn, 1) := by decide +kernel
theorem dX10_count_0 : decode cX10_count 0 = .ok (.iload_n 1, 1) := by decide +kernel
theorem dX10_count_1 : decode cX10_count 1 = .ok (.iconst 0, 1) := by decide +kernel
theorem dX10_count_2 : decode cX10_count 2 = .ok (.bipush 6, 2) := by decide +kernel
theorem dX10_count_4 : decode cX10_count 4 = .ok (.invokestatic 81, 3) := by decide +kernel
theorem dX10_count_7 : decode cX10_count 7 = .ok (.ifCond .eq 11, 3) := by decide +kernel
theorem dX10_count_10 : decode cX10_count 10 = .ok (.aload_n 0, 1) := by decide +kernel
theorem dX10_count_11 : decode cX10_count 11 = .ok (.iload_n 1, 1) := by decide +kernel
theorem dX10_count_12 : decode cX10_count 12 = .ok (.invokevirtual 252, 3) := by decide +kernel
theorem dX10_count_15 : decode cX10_count 15 = .ok (.goto 7, 3) := by decide +kernel
theorem dX10_count_18 : decode cX10_count 18 = .ok (.aload_n 0, 1) := by decide +kernel
theorem dX10_count_19 : decode cX10_count 19 = .ok (.invokevirtual 85, 3) := by decide +kernel
theorem dX10_count_22 : decode cX10_count 22 = .ok (.ireturn, 1) := by decide +kernel
theorem dX10_mix_0 : decode cX10_mix 0 = .ok (.aload_n 0, 1) := by decide +kernel
theorem dX10_mix_1 : decode cX10_mix 1 = .ok (.ldc2_w 255, 3) := by decide +kernel
theorem dX10_mix_4 : decode cX10_mix 4 = .ok (.aload_n 0, 1) := by decide +kernel
theorem dX10_mix_5 : decode cX10_mix 5 = .ok (.getfield 257, 3) := by decide +kernel
theorem dX10_mix_8 : decode cX10_mix 8 = .ok (.lmul, 1) := by decide +kernel
theorem dX10_mix_9 : decode cX10_mix 9 = .ok (.lload_n 1, 1) := by decide +kernel
theorem dX10_mix_10 : decode cX10_mix 10 = .ok (.ladd, 1) := by decide +kernel
theorem dX10_mix_11 : decode cX10_mix 11 = .ok (.putfield 257, 3) := by decide +kernel
theorem dX10_mix_14 : decode cX10_mix 14 = .ok (.return_, 1) := by decide +kernel
theorem dX10_digest_0 : decode cX10_digest 0 = .ok (.aload_n 0, 1) := by decide +kernel
theorem dX10_digest_1 : decode cX10_digest 1 = .ok (.ldc2_w 260, 3) := by decide +kernel
theorem dX10_digest_4 : decode cX10_digest 4 = .ok (.putfield 257, 3) := by decide +kernel
theorem dX10_digest_7 : decode cX10_digest 7 = .ok (.iconst 0, 1) := by decide +kernel
theorem dX10_digest_8 : decode cX10_digest 8 = .ok (.istore_n 1, 1) := by decide +kernel
theorem dX10_digest_9 : decode cX10_digest 9 = .ok (.iload_n 1, 1) := by decide +kernel
theorem dX10_digest_10 : decode cX10_digest 10 = .ok (.bipush 6, 2) := by decide +kernel
theorem dX10_digest_12 : decode cX10_digest 12 = .ok (.if_icmp .gt 19, 3) := by decide +kernel
theorem dX10_digest_15 : decode cX10_digest 15 = .ok (.aload_n 0, 1) := by decide +kernel
theorem dX10_digest_16 : decode cX10_digest 16 = .ok (.aload_n 0, 1) := by decide +kernel
theorem dX10_digest_17 : decode cX10_digest 17 = .ok (.iload_n 1, 1) := by decide +kernel
theorem dX10_digest_18 : decode cX10_digest 18 = .ok (.invokevirtual 252, 3) := by decide +kernel
theorem dX10_digest_21 : decode cX10_digest 21 = .ok (.i2l, 1) := by decide +kernel
theorem dX10_digest_22 : decode cX10_digest 22 = .ok (.invokevirtual 262, 3) := by decide +kernel
theorem dX10_digest_25 : decode cX10_digest 25 = .ok (.iinc 1 1, 3) := by decide +kernel
theorem dX10_digest_28 : decode cX10_digest 28 = .ok (.goto (-19), 3) := by decide +kernel
theorem dX10_digest_31 : decode cX10_digest 31 = .ok (.iconst 0, 1) := by decide +kernel
theorem dX10_digest_32 : decode cX10_digest 32 = .ok (.istore_n 1, 1) := by decide +kernel
theorem dX10_digest_33 : decode cX10_digest 33 = .ok (.iload_n 1, 1) := by decide +kernel
theorem dX10_digest_34 : decode cX10_digest 34 = .ok (.aload_n 0, 1) := by decide +kernel
theorem dX10_digest_35 : decode cX10_digest 35 = .ok (.getfield 71, 3) := by decide +kernel
theorem dX10_digest_38 : decode cX10_digest 38 = .ok (.if_icmp .ge 42, 3) := by decide +kernel
theorem dX10_digest_41 : decode cX10_digest 41 = .ok (.aload_n 0, 1) := by decide +kernel
theorem dX10_digest_42 : decode cX10_digest 42 = .ok (.aload_n 0, 1) := by decide +kernel
theorem dX10_digest_43 : decode cX10_digest 43 = .ok (.getfield 13, 3) := by decide +kernel
theorem dX10_digest_46 : decode cX10_digest 46 = .ok (.iload_n 1, 1) := by decide +kernel
theorem dX10_digest_47 : decode cX10_digest 47 = .ok (.iaload, 1) := by decide +kernel
theorem dX10_digest_48 : decode cX10_digest 48 = .ok (.i2l, 1) := by decide +kernel
theorem dX10_digest_49 : decode cX10_digest 49 = .ok (.invokevirtual 262, 3) := by decide +kernel
theorem dX10_digest_52 : decode cX10_digest 52 = .ok (.aload_n 0, 1) := by decide +kernel
theorem dX10_digest_53 : decode cX10_digest 53 = .ok (.aload_n 0, 1) := by decide +kernel
theorem dX10_digest_54 : decode cX10_digest 54 = .ok (.getfield 16, 3) := by decide +kernel
theorem dX10_digest_57 : decode cX10_digest 57 = .ok (.iload_n 1, 1) := by decide +kernel
theorem dX10_digest_58 : decode cX10_digest 58 = .ok (.iaload, 1) := by decide +kernel
theorem dX10_digest_59 : decode cX10_digest 59 = .ok (.i2l, 1) := by decide +kernel
theorem dX10_digest_60 : decode cX10_digest 60 = .ok (.invokevirtual 262, 3) := by decide +kernel
theorem dX10_digest_63 : decode cX10_digest 63 = .ok (.aload_n 0, 1) := by decide +kernel
theorem dX10_digest_64 : decode cX10_digest 64 = .ok (.aload_n 0, 1) := by decide +kernel
theorem dX10_digest_65 : decode cX10_digest 65 = .ok (.getfield 19, 3) := by decide +kernel
theorem dX10_digest_68 : decode cX10_digest 68 = .ok (.iload_n 1, 1) := by decide +kernel
theorem dX10_digest_69 : decode cX10_digest 69 = .ok (.iaload, 1) := by decide +kernel
theorem dX10_digest_70 : decode cX10_digest 70 = .ok (.i2l, 1) := by decide +kernel
theorem dX10_digest_71 : decode cX10_digest 71 = .ok (.invokevirtual 262, 3) := by decide +kernel
theorem dX10_digest_74 : decode cX10_digest 74 = .ok (.iinc 1 1, 3) := by decide +kernel
theorem dX10_digest_77 : decode cX10_digest 77 = .ok (.goto (-44), 3) := by decide +kernel
theorem dX10_digest_80 : decode cX10_digest 80 = .ok (.iconst 0, 1) := by decide +kernel
theorem dX10_digest_81 : decode cX10_digest 81 = .ok (.istore_n 1, 1) := by decide +kernel
theorem dX10_digest_82 : decode cX10_digest 82 = .ok (.iload_n 1, 1) := by decide +kernel
theorem dX10_digest_83 : decode cX10_digest 83 = .ok (.bipush 12, 2) := by decide +kernel
theorem dX10_digest_85 : decode cX10_digest 85 = .ok (.if_icmp .ge 20, 3) := by decide +kernel
theorem dX10_digest_88 : decode cX10_digest 88 = .ok (.aload_n 0, 1) := by decide +kernel
theorem dX10_digest_89 : decode cX10_digest 89 = .ok (.aload_n 0, 1) := by decide +kernel
theorem dX10_digest_90 : decode cX10_digest 90 = .ok (.getfield 22, 3) := by decide +kernel
theorem dX10_digest_93 : decode cX10_digest 93 = .ok (.iload_n 1, 1) := by decide +kernel
theorem dX10_digest_94 : decode cX10_digest 94 = .ok (.iaload, 1) := by decide +kernel
theorem dX10_digest_95 : decode cX10_digest 95 = .ok (.i2l, 1) := by decide +kernel
theorem dX10_digest_96 : decode cX10_digest 96 = .ok (.invokevirtual 262, 3) := by decide +kernel
theorem dX10_digest_99 : decode cX10_digest 99 = .ok (.iinc 1 1, 3) := by decide +kernel
theorem dX10_digest_102 : decode cX10_digest 102 = .ok (.goto (-20), 3) := by decide +kernel
theorem dX10_digest_105 : decode cX10_digest 105 = .ok (.iconst 0, 1) := by decide +kernel
theorem dX10_digest_106 : decode cX10_digest 106 = .ok (.istore_n 1, 1) := by decide +kernel
theorem dX10_digest_107 : decode cX10_digest 107 = .ok (.iload_n 1, 1) := by decide +kernel
theorem dX10_digest_108 : decode cX10_digest 108 = .ok (.aload_n 0, 1) := by decide +kernel
theorem dX10_digest_109 : decode cX10_digest 109 = .ok (.getfield 75, 3) := by decide +kernel
theorem dX10_digest_112 : decode cX10_digest 112 = .ok (.if_icmp .ge 53, 3) := by decide +kernel
theorem dX10_digest_115 : decode cX10_digest 115 = .ok (.aload_n 0, 1) := by decide +kernel
theorem dX10_digest_116 : decode cX10_digest 116 = .ok (.aload_n 0, 1) := by decide +kernel
theorem dX10_digest_117 : decode cX10_digest 117 = .ok (.getfield 25, 3) := by decide +kernel
theorem dX10_digest_120 : decode cX10_digest 120 = .ok (.iload_n 1, 1) := by decide +kernel
theorem dX10_digest_121 : decode cX10_digest 121 = .ok (.iaload, 1) := by decide +kernel
theorem dX10_digest_122 : decode cX10_digest 122 = .ok (.i2l, 1) := by decide +kernel
theorem dX10_digest_123 : decode cX10_digest 123 = .ok (.invokevirtual 262, 3) := by decide +kernel
theorem dX10_digest_126 : decode cX10_digest 126 = .ok (.aload_n 0, 1) := by decide +kernel
theorem dX10_digest_127 : decode cX10_digest 127 = .ok (.aload_n 0, 1) := by decide +kernel
theorem dX10_digest_128 : decode cX10_digest 128 = .ok (.getfield 28, 3) := by decide +kernel
theorem dX10_digest_131 : decode cX10_digest 131 = .ok (.iload_n 1, 1) := by decide +kernel
theorem dX10_digest_132 : decode cX10_digest 132 = .ok (.iaload, 1) := by decide +kernel
theorem dX10_digest_133 : decode cX10_digest 133 = .ok (.i2l, 1) := by decide +kernel
theorem dX10_digest_134 : decode cX10_digest 134 = .ok (.invokevirtual 262, 3) := by decide +kernel
theorem dX10_digest_137 : decode cX10_digest 137 = .ok (.aload_n 0, 1) := by decide +kernel
theorem dX10_digest_138 : decode cX10_digest 138 = .ok (.aload_n 0, 1) := by decide +kernel
theorem dX10_digest_139 : decode cX10_digest 139 = .ok (.getfield 31, 3) := by decide +kernel
theorem dX10_digest_142 : decode cX10_digest 142 = .ok (.iload_n 1, 1) := by decide +kernel
theorem dX10_digest_143 : decode cX10_digest 143 = .ok (.iaload, 1) := by decide +kernel
theorem dX10_digest_144 : decode cX10_digest 144 = .ok (.i2l, 1) := by decide +kernel
theorem dX10_digest_145 : decode cX10_digest 145 = .ok (.invokevirtual 262, 3) := by decide +kernel
theorem dX10_digest_148 : decode cX10_digest 148 = .ok (.aload_n 0, 1) := by decide +kernel
theorem dX10_digest_149 : decode cX10_digest 149 = .ok (.aload_n 0, 1) := by decide +kernel
theorem dX10_digest_150 : decode cX10_digest 150 = .ok (.getfield 34, 3) := by decide +kernel
theorem dX10_digest_153 : decode cX10_digest 153 = .ok (.iload_n 1, 1) := by decide +kernel
theorem dX10_digest_154 : decode cX10_digest 154 = .ok (.iaload, 1) := by decide +kernel
theorem dX10_digest_155 : decode cX10_digest 155 = .ok (.i2l, 1) := by decide +kernel
theorem dX10_digest_156 : decode cX10_digest 156 = .ok (.invokevirtual 262, 3) := by decide +kernel
theorem dX10_digest_159 : decode cX10_digest 159 = .ok (.iinc 1 1, 3) := by decide +kernel
theorem dX10_digest_162 : decode cX10_digest 162 = .ok (.goto (-55), 3) := by decide +kernel
theorem dX10_digest_165 : decode cX10_digest 165 = .ok (.aload_n 0, 1) := by decide +kernel
theorem dX10_digest_166 : decode cX10_digest 166 = .ok (.aload_n 0, 1) := by decide +kernel
theorem dX10_digest_167 : decode cX10_digest 167 = .ok (.getfield 226, 3) := by decide +kernel
theorem dX10_digest_170 : decode cX10_digest 170 = .ok (.invokevirtual 262, 3) := by decide +kernel
theorem dX10_digest_173 : decode cX10_digest 173 = .ok (.aload_n 0, 1) := by decide +kernel
theorem dX10_digest_174 : decode cX10_digest 174 = .ok (.aload_n 0, 1) := by decide +kernel
theorem dX10_digest_175 : decode cX10_digest 175 = .ok (.getfield 58, 3) := by decide +kernel
theorem dX10_digest_178 : decode cX10_digest 178 = .ok (.invokevirtual 262, 3) := by decide +kernel
theorem dX10_digest_181 : decode cX10_digest 181 = .ok (.aload_n 0, 1) := by decide +kernel
theorem dX10_digest_182 : decode cX10_digest 182 = .ok (.getfield 257, 3) := by decide +kernel
theorem dX10_digest_185 : decode cX10_digest 185 = .ok (.lreturn, 1) := by decide +kernel
theorem dL_law_0 : decode cL_law 0 = .ok (.new 7, 3) := by decide +kernel
theorem dL_law_3 : decode cL_law 3 = .ok (.dup, 1) := by decide +kernel
theorem dL_law_4 : decode cL_law 4 = .ok (.invokespecial 9, 3) := by decide +kernel
theorem dL_law_7 : decode cL_law 7 = .ok (.astore_n 1, 1) := by decide +kernel
theorem dL_law_8 : decode cL_law 8 = .ok (.new 10, 3) := by decide +kernel
theorem dL_law_11 : decode cL_law 11 = .ok (.dup, 1) := by decide +kernel
theorem dL_law_12 : decode cL_law 12 = .ok (.invokespecial 12, 3) := by decide +kernel
theorem dL_law_15 : decode cL_law 15 = .ok (.astore_n 2, 1) := by decide +kernel
theorem dL_law_16 : decode cL_law 16 = .ok (.iconst 0, 1) := by decide +kernel
theorem dL_law_17 : decode cL_law 17 = .ok (.istore_n 3, 1) := by decide +kernel
theorem dL_law_18 : decode cL_law 18 = .ok (.iload_n 3, 1) := by decide +kernel
theorem dL_law_19 : decode cL_law 19 = .ok (.aload_n 0, 1) := by decide +kernel
theorem dL_law_20 : decode cL_law 20 = .ok (.arraylength, 1) := by decide +kernel
theorem dL_law_21 : decode cL_law 21 = .ok (.iconst 5, 1) := by decide +kernel
theorem dL_law_22 : decode cL_law 22 = .ok (.isub, 1) := by decide +kernel
theorem dL_law_23 : decode cL_law 23 = .ok (.if_icmp .gt 1031, 3) := by decide +kernel
theorem dL_law_26 : decode cL_law 26 = .ok (.aload_n 0, 1) := by decide +kernel
theorem dL_law_27 : decode cL_law 27 = .ok (.iload_n 3, 1) := by decide +kernel
theorem dL_law_28 : decode cL_law 28 = .ok (.iaload, 1) := by decide +kernel
theorem dL_law_29 : decode cL_law 29 = .ok (.bipush 63, 2) := by decide +kernel
theorem dL_law_31 : decode cL_law 31 = .ok (.iand, 1) := by decide +kernel
theorem dL_law_32 : decode cL_law 32 = .ok (.tableswitch 1016 0 33 #[152, 165, 208, 241, 264, 277, 290, 323, 366, 379, 412, 445, 468, 481, 504, 527, 550, 573, 586, 619, 642, 675, 728, 741, 764, 787, 820, 853, 886, 910, 933, 956, 979, 1002], 152) := by decide +kernel
theorem dL_law_184 : decode cL_law 184 = .ok (.aload_n 1, 1) := by decide +kernel
theorem dL_law_185 : decode cL_law 185 = .ok (.invokevirtual 13, 3) := by decide +kernel
theorem dL_law_188 : decode cL_law 188 = .ok (.aload_n 2, 1) := by decide +kernel
theorem dL_law_189 : decode cL_law 189 = .ok (.invokevirtual 17, 3) := by decide +kernel
theorem dL_law_192 : decode cL_law 192 = .ok (.if_icmp .eq 856, 3) := by decide +kernel
theorem dL_law_195 : decode cL_law 195 = .ok (.iconst 0, 1) := by decide +kernel
theorem dL_law_196 : decode cL_law 196 = .ok (.ireturn, 1) := by decide +kernel
theorem dL_law_197 : decode cL_law 197 = .ok (.aload_n 1, 1) := by decide +kernel
theorem dL_law_198 : decode cL_law 198 = .ok (.aload_n 0, 1) := by decide +kernel
theorem dL_law_199 : decode cL_law 199 = .ok (.iload_n 3, 1) := by decide +kernel
theorem dL_law_200 : decode cL_law 200 = .ok (.iconst 1, 1) := by decide +kernel
theorem dL_law_201 : decode cL_law 201 = .ok (.iadd, 1) := by decide +kernel
theorem dL_law_202 : decode cL_law 202 = .ok (.iaload, 1) := by decide +kernel
theorem dL_law_203 : decode cL_law 203 = .ok (.aload_n 0, 1) := by decide +kernel
theorem dL_law_204 : decode cL_law 204 = .ok (.iload_n 3, 1) := by decide +kernel
theorem dL_law_205 : decode cL_law 205 = .ok (.iconst 2, 1) := by decide +kernel
theorem dL_law_206 : decode cL_law 206 = .ok (.iadd, 1) := by decide +kernel
theorem dL_law_207 : decode cL_law 207 = .ok (.iaload, 1) := by decide +kernel
theorem dL_law_208 : decode cL_law 208 = .ok (.aload_n 0, 1) := by decide +kernel
theorem dL_law_209 : decode cL_law 209 = .ok (.iload_n 3, 1) := by decide +kernel
theorem dL_law_210 : decode cL_law 210 = .ok (.iconst 3, 1) := by decide +kernel
theorem dL_law_211 : decode cL_law 211 = .ok (.iadd, 1) := by decide +kernel
theorem dL_law_212 : decode cL_law 212 = .ok (.iaload, 1) := by decide +kernel
theorem dL_law_213 : decode cL_law 213 = .ok (.invokevirtual 18, 3) := by decide +kernel
theorem dL_law_216 : decode cL_law 216 = .ok (.aload_n 2, 1) := by decide +kernel
theorem dL_law_217 : decode cL_law 217 = .ok (.aload_n 0, 1) := by decide +kernel
theorem dL_law_218 : decode cL_law 218 = .ok (.iload_n 3, 1) := by decide +kernel
theorem dL_law_219 : decode cL_law 219 = .ok (.iconst 1, 1) := by decide +kernel
theorem dL_law_220 : decode cL_law 220 = .ok (.iadd, 1) := by decide +kernel
theorem dL_law_221 : decode cL_law 221 = .ok (.iaload, 1) := by decide +kernel
theorem dL_law_222 : decode cL_law 222 = .ok (.aload_n 0, 1) := by decide +kernel
theorem dL_law_223 : decode cL_law 223 = .ok (.iload_n 3, 1) := by decide +kernel
theorem dL_law_224 : decode cL_law 224 = .ok (.iconst 2, 1) := by decide +kernel
theorem dL_law_225 : decode cL_law 225 = .ok (.iadd, 1) := by decide +kernel
theorem dL_law_226 : decode cL_law 226 = .ok (.iaload, 1) := by decide +kernel
theorem dL_law_227 : decode cL_law 227 = .ok (.aload_n 0, 1) := by decide +kernel
theorem dL_law_228 : decode cL_law 228 = .ok (.iload_n 3, 1) := by decide +kernel
theorem dL_law_229 : decode cL_law 229 = .ok (.iconst 3, 1) := by decide +kernel
theorem dL_law_230 : decode cL_law 230 = .ok (.iadd, 1) := by decide +kernel
theorem dL_law_231 : decode cL_law 231 = .ok (.iaload, 1) := by decide +kernel
theorem dL_law_232 : decode cL_law 232 = .ok (.invokevirtual 22, 3) := by decide +kernel
theorem dL_law_235 : decode cL_law 235 = .ok (.if_icmp .eq 813, 3) := by decide +kernel
theorem dL_law_238 : decode cL_law 238 = .ok (.iconst 0, 1) := by decide +kernel
theorem dL_law_239 : decode cL_law 239 = .ok (.ireturn, 1) := by decide +kernel
theorem dL_law_240 : decode cL_law 240 = .ok (.aload_n 1, 1) := by decide +kernel
theorem dL_law_241 : decode cL_law 241 = .ok (.aload_n 0, 1) := by decide +kernel
theorem dL_law_242 : decode cL_law 242 = .ok (.iload_n 3, 1) := by decide +kernel
theorem dL_law_243 : decode cL_law 243 = .ok (.iconst 1, 1) := by decide +kernel
theorem dL_law_244 : decode cL_law 244 = .ok (.iadd, 1) := by decide +kernel
theorem dL_law_245 : decode cL_law 245 = .ok (.iaload, 1) := by decide +kernel
theorem dL_law_246 : decode cL_law 246 = .ok (.aload_n 0, 1) := by decide +kernel
theorem dL_law_247 : decode cL_law 247 = .ok (.iload_n 3, 1) := by decide +kernel
theorem dL_law_248 : decode cL_law 248 = .ok (.iconst 2, 1) := by decide +kernel
theorem dL_law_249 : decode cL_law 249 = .ok (.iadd, 1) := by decide +kernel
theorem dL_law_250 : decode cL_law 250 = .ok (.iaload, 1) := by decide +kernel
theorem dL_law_251 : decode cL_law 251 = .ok (.invokevirtual 23, 3) := by decide +kernel
theorem dL_law_254 : decode cL_law 254 = .ok (.aload_n 2, 1) := by decide +kernel
theorem dL_law_255 : decode cL_law 255 = .ok (.aload_n 0, 1) := by decide +kernel
theorem dL_law_256 : decode cL_law 256 = .ok (.iload_n 3, 1) := by decide +kernel
theorem dL_law_257 : decode cL_law 257 = .ok (.iconst 1, 1) := by decide +kernel
theorem dL_law_258 : decode cL_law 258 = .ok (.iadd, 1) := by decide +kernel
theorem dL_law_259 : decode cL_law 259 = .ok (.iaload, 1) := by decide +kernel
theorem dL_law_260 : decode cL_law 260 = .ok (.aload_n 0, 1) := by decide +kernel
theorem dL_law_261 : decode cL_law 261 = .ok (.iload_n 3, 1) := by decide +kernel
theorem dL_law_262 : decode cL_law 262 = .ok (.iconst 2, 1) := by decide +kernel
theorem dL_law_263 : decode cL_law 263 = .ok (.iadd, 1) := by decide +kernel
theorem dL_law_264 : decode cL_law 264 = .ok (.iaload, 1) := by decide +kernel
theorem dL_law_265 : decode cL_law 265 = .ok (.invokevirtual 27, 3) := by decide +kernel
theorem dL_law_268 : decode cL_law 268 = .ok (.if_icmp .eq 780, 3) := by decide +kernel
theorem dL_law_271 : decode cL_law 271 = .ok (.iconst 0, 1) := by decide +kernel
theorem dL_law_272 : decode cL_law 272 = .ok (.ireturn, 1) := by decide +kernel
theorem dL_law_273 : decode cL_law 273 = .ok (.aload_n 1, 1) := by decide +kernel
theorem dL_law_274 : decode cL_law 274 = .ok (.aload_n 0, 1) := by decide +kernel
theorem dL_law_275 : decode cL_law 275 = .ok (.iload_n 3, 1) := by decide +kernel
theorem dL_law_276 : decode cL_law 276 = .ok (.iconst 1, 1) := by decide +kernel
theorem dL_law_277 : decode cL_law 277 = .ok (.iadd, 1) := by decide +kernel
theorem dL_law_278 : decode cL_law 278 = .ok (.iaload, 1) := by decide +kernel
theorem dL_law_279 : decode cL_law 279 = .ok (.invokevirtual 28, 3) := by decide +kernel
theorem dL_law_282 : decode cL_law 282 = .ok (.aload_n 2, 1) := by decide +kernel
theorem dL_law_283 : decode cL_law 283 = .ok (.aload_n 0, 1) := by decide +kernel
theorem dL_law_284 : decode cL_law 284 = .ok (.iload_n 3, 1) := by decide +kernel
theorem dL_law_285 : decode cL_law 285 = .ok (.iconst 1, 1) := by decide +kernel
theorem dL_law_286 : decode cL_law 286 = .ok (.iadd, 1) := by decide +kernel
theorem dL_law_287 : decode cL_law 287 = .ok (.iaload, 1) := by decide +kernel
theorem dL_law_288 : decode cL_law 288 = .ok (.invokevirtual 32, 3) := by decide +kernel
theorem dL_law_291 : decode cL_law 291 = .ok (.if_icmp .eq 757, 3) := by decide +kernel
theorem dL_law_294 : decode cL_law 294 = .ok (.iconst 0, 1) := by decide +kernel
theorem dL_law_295 : decode cL_law 295 = .ok (.ireturn, 1) := by decide +kernel
theorem dL_law_296 : decode cL_law 296 = .ok (.aload_n 1, 1) := by decide +kernel
theorem dL_law_297 : decode cL_law 297 = .ok (.invokevirtual 33, 3) := by decide +kernel
theorem dL_law_300 : decode cL_law 300 = .ok (.aload_n 2, 1) := by decide +kernel
theorem dL_law_301 : decode cL_law 301 = .ok (.invokevirtual 36, 3) := by decide +kernel
theorem dL_law_304 : decode cL_law 304 = .ok (.if_icmp .eq 744, 3) := by decide +kernel
theorem dL_law_307 : decode cL_law 307 = .ok (.iconst 0, 1) := by decide +kernel
theorem dL_law_308 : decode cL_law 308 = .ok (.ireturn, 1) := by decide +kernel
theorem dL_law_309 : decode cL_law 309 = .ok (.aload_n 1, 1) := by decide +kernel
theorem dL_law_310 : decode cL_law 310 = .ok (.invokevirtual 37, 3) := by decide +kernel
theorem dL_law_313 : decode cL_law 313 = .ok (.aload_n 2, 1) := by decide +kernel
theorem dL_law_314 : decode cL_law 314 = .ok (.invokevirtual 40, 3) := by decide +kernel
theorem dL_law_317 : decode cL_law 317 = .ok (.if_icmp .eq 731, 3) := by decide +kernel
theorem dL_law_320 : decode cL_law 320 = .ok (.iconst 0, 1) := by decide +kernel
theorem dL_law_321 : decode cL_law 321 = .ok (.ireturn, 1) := by decide +kernel
theorem dL_law_322 : decode cL_law 322 = .ok (.aload_n 1, 1) := by decide +kernel
theorem dL_law_323 : decode cL_law 323 = .ok (.aload_n 0, 1) := by decide +kernel
theorem dL_law_324 : decode cL_law 324 = .ok (.iload_n 3, 1) := by decide +kernel
theorem dL_law_325 : decode cL_law 325 = .ok (.iconst 1, 1) := by decide +kernel
theorem dL_law_326 : decode cL_law 326 = .ok (.iadd, 1) := by decide +kernel
theorem dL_law_327 : decode cL_law 327 = .ok (.iaload, 1) := by decide +kernel
theorem dL_law_328 : decode cL_law 328 = .ok (.aload_n 0, 1) := by decide +kernel
theorem dL_law_329 : decode cL_law 329 = .ok (.iload_n 3, 1) := by decide +kernel
theorem dL_law_330 : decode cL_law 330 = .ok (.iconst 2, 1) := by decide +kernel
theorem dL_law_331 : decode cL_law 331 = .ok (.iadd, 1) := by decide +kernel
theorem dL_law_332 : decode cL_law 332 = .ok (.iaload, 1) := by decide +kernel
theorem dL_law_333 : decode cL_law 333 = .ok (.invokevirtual 41, 3) := by decide +kernel
theorem dL_law_336 : decode cL_law 336 = .ok (.aload_n 2, 1) := by decide +kernel
theorem dL_law_337 : decode cL_law 337 = .ok (.aload_n 0, 1) := by decide +kernel
theorem dL_law_338 : decode cL_law 338 = .ok (.iload_n 3, 1) := by decide +kernel
theorem dL_law_339 : decode cL_law 339 = .ok (.iconst 1, 1) := by decide +kernel
theorem dL_law_340 : decode cL_law 340 = .ok (.iadd, 1) := by decide +kernel
theorem dL_law_341 : decode cL_law 341 = .ok (.iaload, 1) := by decide +kernel
theorem dL_law_342 : decode cL_law 342 = .ok (.aload_n 0, 1) := by decide +kernel
theorem dL_law_343 : decode cL_law 343 = .ok (.iload_n 3, 1) := by decide +kernel
theorem dL_law_344 : decode cL_law 344 = .ok (.iconst 2, 1) := by decide +kernel
theorem dL_law_345 : decode cL_law 345 = .ok (.iadd, 1) := by decide +kernel
theorem dL_law_346 : decode cL_law 346 = .ok (.iaload, 1) := by decide +kernel
theorem dL_law_347 : decode cL_law 347 = .ok (.invokevirtual 44, 3) := by decide +kernel
theorem dL_law_350 : decode cL_law 350 = .ok (.if_icmp .eq 698, 3) := by decide +kernel
theorem dL_law_353 : decode cL_law 353 = .ok (.iconst 0, 1) := by decide +kernel
theorem dL_law_354 : decode cL_law 354 = .ok (.ireturn, 1) := by decide +kernel
theorem dL_law_355 : decode cL_law 355 = .ok (.aload_n 1, 1) := by decide +kernel
theorem dL_law_356 : decode cL_law 356 = .ok (.aload_n 0, 1) := by decide +kernel
theorem dL_law_357 : decode cL_law 357 = .ok (.iload_n 3, 1) := by decide +kernel
theorem dL_law_358 : decode cL_law 358 = .ok (.iconst 1, 1) := by decide +kernel
theorem dL_law_359 : decode cL_law 359 = .ok (.iadd, 1) := by decide +kernel
theorem dL_law_360 : decode cL_law 360 = .ok (.iaload, 1) := by decide +kernel
theorem dL_law_361 : decode cL_law 361 = .ok (.aload_n 0, 1) := by decide +kernel
theorem dL_law_362 : decode cL_law 362 = .ok (.iload_n 3, 1) := by decide +kernel
theorem dL_law_363 : decode cL_law 363 = .ok (.iconst 2, 1) := by decide +kernel
theorem dL_law_364 : decode cL_law 364 = .ok (.iadd, 1) := by decide +kernel
theorem dL_law_365 : decode cL_law 365 = .ok (.iaload, 1) := by decide +kernel
theorem dL_law_366 : decode cL_law 366 = .ok (.aload_n 0, 1) := by decide +kernel
theorem dL_law_367 : decode cL_law 367 = .ok (.iload_n 3, 1) := by decide +kernel
theorem dL_law_368 : decode cL_law 368 = .ok (.iconst 3, 1) := by decide +kernel
theorem dL_law_369 : decode cL_law 369 = .ok (.iadd, 1) := by decide +kernel
theorem dL_law_370 : decode cL_law 370 = .ok (.iaload, 1) := by decide +kernel
theorem dL_law_371 : decode cL_law 371 = .ok (.invokevirtual 45, 3) := by decide +kernel
theorem dL_law_374 : decode cL_law 374 = .ok (.aload_n 2, 1) := by decide +kernel
theorem dL_law_375 : decode cL_law 375 = .ok (.aload_n 0, 1) := by decide +kernel
theorem dL_law_376 : decode cL_law 376 = .ok (.iload_n 3, 1) := by decide +kernel
theorem dL_law_377 : decode cL_law 377 = .ok (.iconst 1, 1) := by decide +kernel
theorem dL_law_378 : decode cL_law 378 = .ok (.iadd, 1) := by decide +kernel
theorem dL_law_379 : decode cL_law 379 = .ok (.iaload, 1) := by decide +kernel
theorem dL_law_380 : decode cL_law 380 = .ok (.aload_n 0, 1) := by decide +kernel
theorem dL_law_381 : decode cL_law 381 = .ok (.iload_n 3, 1) := by decide +kernel
theorem dL_law_382 : decode cL_law 382 = .ok (.iconst 2, 1) := by decide +kernel
theorem dL_law_383 : decode cL_law 383 = .ok (.iadd, 1) := by decide +kernel
theorem dL_law_384 : decode cL_law 384 = .ok (.iaload, 1) := by decide +kernel
theorem dL_law_385 : decode cL_law 385 = .ok (.aload_n 0, 1) := by decide +kernel
theorem dL_law_386 : decode cL_law 386 = .ok (.iload_n 3, 1) := by decide +kernel
theorem dL_law_387 : decode cL_law 387 = .ok (.iconst 3, 1) := by decide +kernel
theorem dL_law_388 : decode cL_law 388 = .ok (.iadd, 1) := by decide +kernel
theorem dL_law_389 : decode cL_law 389 = .ok (.iaload, 1) := by decide +kernel
theorem dL_law_390 : decode cL_law 390 = .ok (.invokevirtual 48, 3) := by decide +kernel
theorem dL_law_393 : decode cL_law 393 = .ok (.if_icmp .eq 655, 3) := by decide +kernel
theorem dL_law_396 : decode cL_law 396 = .ok (.iconst 0, 1) := by decide +kernel
theorem dL_law_397 : decode cL_law 397 = .ok (.ireturn, 1) := by decide +kernel
theorem dL_law_398 : decode cL_law 398 = .ok (.aload_n 1, 1) := by decide +kernel
theorem dL_law_399 : decode cL_law 399 = .ok (.invokevirtual 49, 3) := by decide +kernel
theorem dL_law_402 : decode cL_law 402 = .ok (.aload_n 2, 1) := by decide +kernel
theorem dL_law_403 : decode cL_law 403 = .ok (.invokevirtual 52, 3) := by decide +kernel
theorem dL_law_406 : decode cL_law 406 = .ok (.if_icmp .eq 642, 3) := by decide +kernel
theorem dL_law_409 : decode cL_law 409 = .ok (.iconst 0, 1) := by decide +kernel
theorem dL_law_410 : decode cL_law 410 = .ok (.ireturn, 1) := by decide +kernel
theorem dL_law_411 : decode cL_law 411 = .ok (.aload_n 1, 1) := by decide +kernel
theorem dL_law_412 : decode cL_law 412 = .ok (.aload_n 0, 1) := by decide +kernel
theorem dL_law_413 : decode cL_law 413 = .ok (.iload_n 3, 1) := by decide +kernel
theorem dL_law_414 : decode cL_law 414 = .ok (.iconst 1, 1) := by decide +kernel
theorem dL_law_415 : decode cL_law 415 = .ok (.iadd, 1) := by decide +kernel
theorem dL_law_416 : decode cL_law 416 = .ok (.iaload, 1) := by decide +kernel
theorem dL_law_417 : decode cL_law 417 = .ok (.aload_n 0, 1) := by decide +kernel
theorem dL_law_418 : decode cL_law 418 = .ok (.iload_n 3, 1) := by decide +kernel
theorem dL_law_419 : decode cL_law 419 = .ok (.iconst 2, 1) := by decide +kernel
theorem dL_law_420 : decode cL_law 420 = .ok (.iadd, 1) := by decide +kernel
theorem dL_law_421 : decode cL_law 421 = .ok (.iaload, 1) := by decide +kernel
theorem dL_law_422 : decode cL_law 422 = .ok (.invokevirtual 53, 3) := by decide +kernel
theorem dL_law_425 : decode cL_law 425 = .ok (.aload_n 2, 1) := by decide +kernel
theorem dL_law_426 : decode cL_law 426 = .ok (.aload_n 0, 1) := by decide +kernel
theorem dL_law_427 : decode cL_law 427 = .ok (.iload_n 3, 1) := by decide +kernel
theorem dL_law_428 : decode cL_law 428 = .ok (.iconst 1, 1) := by decide +kernel
theorem dL_law_429 : decode cL_law 429 = .ok (.iadd, 1) := by decide +kernel
theorem dL_law_430 : decode cL_law 430 = .ok (.iaload, 1) := by decide +kernel
theorem dL_law_431 : decode cL_law 431 = .ok (.aload_n 0, 1) := by decide +kernel
theorem dL_law_432 : decode cL_law 432 = .ok (.iload_n 3, 1) := by decide +kernel
theorem dL_law_433 : decode cL_law 433 = .ok (.iconst 2, 1) := by decide +kernel
theorem dL_law_434 : decode cL_law 434 = .ok (.iadd, 1) := by decide +kernel
theorem dL_law_435 : decode cL_law 435 = .ok (.iaload, 1) := by decide +kernel
theorem dL_law_436 : decode cL_law 436 = .ok (.invokevirtual 56, 3) := by decide +kernel
theorem dL_law_439 : decode cL_law 439 = .ok (.if_icmp .eq 609, 3) := by decide +kernel
theorem dL_law_442 : decode cL_law 442 = .ok (.iconst 0, 1) := by decide +kernel
theorem dL_law_443 : decode cL_law 443 = .ok (.ireturn, 1) := by decide +kernel
theorem dL_law_444 : decode cL_law 444 = .ok (.aload_n 1, 1) := by decide +kernel
theorem dL_law_445 : decode cL_law 445 = .ok (.aload_n 0, 1) := by decide +kernel
theorem dL_law_446 : decode cL_law 446 = .ok (.iload_n 3, 1) := by decide +kernel
theorem dL_law_447 : decode cL_law 447 = .ok (.iconst 1, 1) := by decide +kernel
theorem dL_law_448 : decode cL_law 448 = .ok (.iadd, 1) := by decide +kernel
theorem dL_law_449 : decode cL_law 449 = .ok (.iaload, 1) := by decide +kernel
theorem dL_law_450 : decode cL_law 450 = .ok (.aload_n 0, 1) := by decide +kernel
theorem dL_law_451 : decode cL_law 451 = .ok (.iload_n 3, 1) := by decide +kernel
theorem dL_law_452 : decode cL_law 452 = .ok (.iconst 2, 1) := by decide +kernel
theorem dL_law_453 : decode cL_law 453 = .ok (.iadd, 1) := by decide +kernel
theorem dL_law_454 : decode cL_law 454 = .ok (.iaload, 1) := by decide +kernel
theorem dL_law_455 : decode cL_law 455 = .ok (.invokevirtual 57, 3) := by decide +kernel
theorem dL_law_458 : decode cL_law 458 = .ok (.aload_n 2, 1) := by decide +kernel
theorem dL_law_459 : decode cL_law 459 = .ok (.aload_n 0, 1) := by decide +kernel
theorem dL_law_460 : decode cL_law 460 = .ok (.iload_n 3, 1) := by decide +kernel
theorem dL_law_461 : decode cL_law 461 = .ok (.iconst 1, 1) := by decide +kernel
theorem dL_law_462 : decode cL_law 462 = .ok (.iadd, 1) := by decide +kernel
theorem dL_law_463 : decode cL_law 463 = .ok (.iaload, 1) := by decide +kernel
theorem dL_law_464 : decode cL_law 464 = .ok (.aload_n 0, 1) := by decide +kernel
theorem dL_law_465 : decode cL_law 465 = .ok (.iload_n 3, 1) := by decide +kernel
theorem dL_law_466 : decode cL_law 466 = .ok (.iconst 2, 1) := by decide +kernel
theorem dL_law_467 : decode cL_law 467 = .ok (.iadd, 1) := by decide +kernel
theorem dL_law_468 : decode cL_law 468 = .ok (.iaload, 1) := by decide +kernel
theorem dL_law_469 : decode cL_law 469 = .ok (.invokevirtual 60, 3) := by decide +kernel
theorem dL_law_472 : decode cL_law 472 = .ok (.if_icmp .eq 576, 3) := by decide +kernel
theorem dL_law_475 : decode cL_law 475 = .ok (.iconst 0, 1) := by decide +kernel
theorem dL_law_476 : decode cL_law 476 = .ok (.ireturn, 1) := by decide +kernel
theorem dL_law_477 : decode cL_law 477 = .ok (.aload_n 1, 1) := by decide +kernel
theorem dL_law_478 : decode cL_law 478 = .ok (.aload_n 0, 1) := by decide +kernel
theorem dL_law_479 : decode cL_law 479 = .ok (.iload_n 3, 1) := by decide +kernel
theorem dL_law_480 : decode cL_law 480 = .ok (.iconst 1, 1) := by decide +kernel
theorem dL_law_481 : decode cL_law 481 = .ok (.iadd, 1) := by decide +kernel
theorem dL_law_482 : decode cL_law 482 = .ok (.iaload, 1) := by decide +kernel
theorem dL_law_483 : decode cL_law 483 = .ok (.invokevirtual 61, 3) := by decide +kernel
theorem dL_law_486 : decode cL_law 486 = .ok (.aload_n 2, 1) := by decide +kernel
theorem dL_law_487 : decode cL_law 487 = .ok (.aload_n 0, 1) := by decide +kernel
theorem dL_law_488 : decode cL_law 488 = .ok (.iload_n 3, 1) := by decide +kernel
theorem dL_law_489 : decode cL_law 489 = .ok (.iconst 1, 1) := by decide +kernel
theorem dL_law_490 : decode cL_law 490 = .ok (.iadd, 1) := by decide +kernel
theorem dL_law_491 : decode cL_law 491 = .ok (.iaload, 1) := by decide +kernel
theorem dL_law_492 : decode cL_law 492 = .ok (.invokevirtual 64, 3) := by decide +kernel
theorem dL_law_495 : decode cL_law 495 = .ok (.if_icmp .eq 553, 3) := by decide +kernel
theorem dL_law_498 : decode cL_law 498 = .ok (.iconst 0, 1) := by decide +kernel
theorem dL_law_499 : decode cL_law 499 = .ok (.ireturn, 1) := by decide +kernel
theorem dL_law_500 : decode cL_law 500 = .ok (.aload_n 1, 1) := by decide +kernel
theorem dL_law_501 : decode cL_law 501 = .ok (.invokevirtual 65, 3) := by decide +kernel
theorem dL_law_504 : decode cL_law 504 = .ok (.aload_n 2, 1) := by decide +kernel
theorem dL_law_505 : decode cL_law 505 = .ok (.invokevirtual 68, 3) := by decide +kernel
theorem dL_law_508 : decode cL_law 508 = .ok (.if_icmp .eq 540, 3) := by decide +kernel
theorem dL_law_511 : decode cL_law 511 = .ok (.iconst 0, 1) := by decide +kernel
theorem dL_law_512 : decode cL_law 512 = .ok (.ireturn, 1) := by decide +kernel
theorem dL_law_513 : decode cL_law 513 = .ok (.aload_n 1, 1) := by decide +kernel
theorem dL_law_514 : decode cL_law 514 = .ok (.aload_n 0, 1) := by decide +kernel
theorem dL_law_515 : decode cL_law 515 = .ok (.iload_n 3, 1) := by decide +kernel
theorem dL_law_516 : decode cL_law 516 = .ok (.iconst 1, 1) := by decide +kernel
theorem dL_law_517 : decode cL_law 517 = .ok (.iadd, 1) := by decide +kernel
theorem dL_law_518 : decode cL_law 518 = .ok (.iaload, 1) := by decide +kernel
theorem dL_law_519 : decode cL_law 519 = .ok (.invokevirtual 69, 3) := by decide +kernel
theorem dL_law_522 : decode cL_law 522 = .ok (.aload_n 2, 1) := by decide +kernel
theorem dL_law_523 : decode cL_law 523 = .ok (.aload_n 0, 1) := by decide +kernel
theorem dL_law_524 : decode cL_law 524 = .ok (.iload_n 3, 1) := by decide +kernel
theorem dL_law_525 : decode cL_law 525 = .ok (.iconst 1, 1) := by decide +kernel
theorem dL_law_526 : decode cL_law 526 = .ok (.iadd, 1) := by decide +kernel
theorem dL_law_527 : decode cL_law 527 = .ok (.iaload, 1) := by decide +kernel
theorem dL_law_528 : decode cL_law 528 = .ok (.invokevirtual 72, 3) := by decide +kernel
theorem dL_law_531 : decode cL_law 531 = .ok (.if_icmp .eq 517, 3) := by decide +kernel
theorem dL_law_534 : decode cL_law 534 = .ok (.iconst 0, 1) := by decide +kernel
theorem dL_law_535 : decode cL_law 535 = .ok (.ireturn, 1) := by decide +kernel
theorem dL_law_536 : decode cL_law 536 = .ok (.aload_n 1, 1) := by decide +kernel
theorem dL_law_537 : decode cL_law 537 = .ok (.aload_n 0, 1) := by decide +kernel
theorem dL_law_538 : decode cL_law 538 = .ok (.iload_n 3, 1) := by decide +kernel
theorem dL_law_539 : decode cL_law 539 = .ok (.iconst 1, 1) := by decide +kernel
theorem dL_law_540 : decode cL_law 540 = .ok (.iadd, 1) := by decide +kernel
theorem dL_law_541 : decode cL_law 541 = .ok (.iaload, 1) := by decide +kernel
theorem dL_law_542 : decode cL_law 542 = .ok (.invokevirtual 73, 3) := by decide +kernel
theorem dL_law_545 : decode cL_law 545 = .ok (.aload_n 2, 1) := by decide +kernel
theorem dL_law_546 : decode cL_law 546 = .ok (.aload_n 0, 1) := by decide +kernel
theorem dL_law_547 : decode cL_law 547 = .ok (.iload_n 3, 1) := by decide +kernel
theorem dL_law_548 : decode cL_law 548 = .ok (.iconst 1, 1) := by decide +kernel
theorem dL_law_549 : decode cL_law 549 = .ok (.iadd, 1) := by decide +kernel
theorem dL_law_550 : decode cL_law 550 = .ok (.iaload, 1) := by decide +kernel
theorem dL_law_551 : decode cL_law 551 = .ok (.invokevirtual 76, 3) := by decide +kernel
theorem dL_law_554 : decode cL_law 554 = .ok (.if_icmp .eq 494, 3) := by decide +kernel
theorem dL_law_557 : decode cL_law 557 = .ok (.iconst 0, 1) := by decide +kernel
theorem dL_law_558 : decode cL_law 558 = .ok (.ireturn, 1) := by decide +kernel
theorem dL_law_559 : decode cL_law 559 = .ok (.aload_n 1, 1) := by decide +kernel
theorem dL_law_560 : decode cL_law 560 = .ok (.aload_n 0, 1) := by decide +kernel
theorem dL_law_561 : decode cL_law 561 = .ok (.iload_n 3, 1) := by decide +kernel
theorem dL_law_562 : decode cL_law 562 = .ok (.iconst 1, 1) := by decide +kernel
theorem dL_law_563 : decode cL_law 563 = .ok (.iadd, 1) := by decide +kernel
theorem dL_law_564 : decode cL_law 564 = .ok (.iaload, 1) := by decide +kernel
theorem dL_law_565 : decode cL_law 565 = .ok (.invokevirtual 77, 3) := by decide +kernel
theorem dL_law_568 : decode cL_law 568 = .ok (.aload_n 2, 1) := by decide +kernel
theorem dL_law_569 : decode cL_law 569 = .ok (.aload_n 0, 1) := by decide +kernel
theorem dL_law_570 : decode cL_law 570 = .ok (.iload_n 3, 1) := by decide +kernel
theorem dL_law_571 : decode cL_law 571 = .ok (.iconst 1, 1) := by decide +kernel
theorem dL_law_572 : decode cL_law 572 = .ok (.iadd, 1) := by decide +kernel
theorem dL_law_573 : decode cL_law 573 = .ok (.iaload, 1) := by decide +kernel
theorem dL_law_574 : decode cL_law 574 = .ok (.invokevirtual 80, 3) := by decide +kernel
theorem dL_law_577 : decode cL_law 577 = .ok (.if_icmp .eq 471, 3) := by decide +kernel
theorem dL_law_580 : decode cL_law 580 = .ok (.iconst 0, 1) := by decide +kernel
theorem dL_law_581 : decode cL_law 581 = .ok (.ireturn, 1) := by decide +kernel
theorem dL_law_582 : decode cL_law 582 = .ok (.aload_n 1, 1) := by decide +kernel
theorem dL_law_583 : decode cL_law 583 = .ok (.aload_n 0, 1) := by decide +kernel
theorem dL_law_584 : decode cL_law 584 = .ok (.iload_n 3, 1) := by decide +kernel
theorem dL_law_585 : decode cL_law 585 = .ok (.iconst 1, 1) := by decide +kernel
theorem dL_law_586 : decode cL_law 586 = .ok (.iadd, 1) := by decide +kernel
theorem dL_law_587 : decode cL_law 587 = .ok (.iaload, 1) := by decide +kernel
theorem dL_law_588 : decode cL_law 588 = .ok (.invokevirtual 81, 3) := by decide +kernel
theorem dL_law_591 : decode cL_law 591 = .ok (.aload_n 2, 1) := by decide +kernel
theorem dL_law_592 : decode cL_law 592 = .ok (.aload_n 0, 1) := by decide +kernel
theorem dL_law_593 : decode cL_law 593 = .ok (.iload_n 3, 1) := by decide +kernel
theorem dL_law_594 : decode cL_law 594 = .ok (.iconst 1, 1) := by decide +kernel
theorem dL_law_595 : decode cL_law 595 = .ok (.iadd, 1) := by decide +kernel
theorem dL_law_596 : decode cL_law 596 = .ok (.iaload, 1) := by decide +kernel
theorem dL_law_597 : decode cL_law 597 = .ok (.invokevirtual 84, 3) := by decide +kernel
theorem dL_law_600 : decode cL_law 600 = .ok (.if_icmp .eq 448, 3) := by decide +kernel
theorem dL_law_603 : decode cL_law 603 = .ok (.iconst 0, 1) := by decide +kernel
theorem dL_law_604 : decode cL_law 604 = .ok (.ireturn, 1) := by decide +kernel
theorem dL_law_605 : decode cL_law 605 = .ok (.aload_n 1, 1) := by decide +kernel
theorem dL_law_606 : decode cL_law 606 = .ok (.invokevirtual 85, 3) := by decide +kernel
theorem dL_law_609 : decode cL_law 609 = .ok (.aload_n 2, 1) := by decide +kernel
theorem dL_law_610 : decode cL_law 610 = .ok (.invokevirtual 88, 3) := by decide +kernel
theorem dL_law_613 : decode cL_law 613 = .ok (.if_icmp .eq 435, 3) := by decide +kernel
theorem dL_law_616 : decode cL_law 616 = .ok (.iconst 0, 1) := by decide +kernel
theorem dL_law_617 : decode cL_law 617 = .ok (.ireturn, 1) := by decide +kernel
theorem dL_law_618 : decode cL_law 618 = .ok (.aload_n 1, 1) := by decide +kernel
theorem dL_law_619 : decode cL_law 619 = .ok (.aload_n 0, 1) := by decide +kernel
theorem dL_law_620 : decode cL_law 620 = .ok (.iload_n 3, 1) := by decide +kernel
theorem dL_law_621 : decode cL_law 621 = .ok (.iconst 1, 1) := by decide +kernel
theorem dL_law_622 : decode cL_law 622 = .ok (.iadd, 1) := by decide +kernel
theorem dL_law_623 : decode cL_law 623 = .ok (.iaload, 1) := by decide +kernel
theorem dL_law_624 : decode cL_law 624 = .ok (.aload_n 0, 1) := by decide +kernel
theorem dL_law_625 : decode cL_law 625 = .ok (.iload_n 3, 1) := by decide +kernel
theorem dL_law_626 : decode cL_law 626 = .ok (.iconst 2, 1) := by decide +kernel
theorem dL_law_627 : decode cL_law 627 = .ok (.iadd, 1) := by decide +kernel
theorem dL_law_628 : decode cL_law 628 = .ok (.iaload, 1) := by decide +kernel
theorem dL_law_629 : decode cL_law 629 = .ok (.invokevirtual 89, 3) := by decide +kernel
theorem dL_law_632 : decode cL_law 632 = .ok (.aload_n 2, 1) := by decide +kernel
theorem dL_law_633 : decode cL_law 633 = .ok (.aload_n 0, 1) := by decide +kernel
theorem dL_law_634 : decode cL_law 634 = .ok (.iload_n 3, 1) := by decide +kernel
theorem dL_law_635 : decode cL_law 635 = .ok (.iconst 1, 1) := by decide +kernel
theorem dL_law_636 : decode cL_law 636 = .ok (.iadd, 1) := by decide +kernel
theorem dL_law_637 : decode cL_law 637 = .ok (.iaload, 1) := by decide +kernel
theorem dL_law_638 : decode cL_law 638 = .ok (.aload_n 0, 1) := by decide +kernel
theorem dL_law_639 : decode cL_law 639 = .ok (.iload_n 3, 1) := by decide +kernel
theorem dL_law_640 : decode cL_law 640 = .ok (.iconst 2, 1) := by decide +kernel
theorem dL_law_641 : decode cL_law 641 = .ok (.iadd, 1) := by decide +kernel
theorem dL_law_642 : decode cL_law 642 = .ok (.iaload, 1) := by decide +kernel
theorem dL_law_643 : decode cL_law 643 = .ok (.invokevirtual 92, 3) := by decide +kernel
theorem dL_law_646 : decode cL_law 646 = .ok (.if_icmp .eq 402, 3) := by decide +kernel
theorem dL_law_649 : decode cL_law 649 = .ok (.iconst 0, 1) := by decide +kernel
theorem dL_law_650 : decode cL_law 650 = .ok (.ireturn, 1) := by decide +kernel
theorem dL_law_651 : decode cL_law 651 = .ok (.aload_n 1, 1) := by decide +kernel
theorem dL_law_652 : decode cL_law 652 = .ok (.aload_n 0, 1) := by decide +kernel
theorem dL_law_653 : decode cL_law 653 = .ok (.iload_n 3, 1) := by decide +kernel
theorem dL_law_654 : decode cL_law 654 = .ok (.iconst 1, 1) := by decide +kernel
theorem dL_law_655 : decode cL_law 655 = .ok (.iadd, 1) := by decide +kernel
theorem dL_law_656 : decode cL_law 656 = .ok (.iaload, 1) := by decide +kernel
theorem dL_law_657 : decode cL_law 657 = .ok (.invokevirtual 93, 3) := by decide +kernel
theorem dL_law_660 : decode cL_law 660 = .ok (.aload_n 2, 1) := by decide +kernel
theorem dL_law_661 : decode cL_law 661 = .ok (.aload_n 0, 1) := by decide +kernel
theorem dL_law_662 : decode cL_law 662 = .ok (.iload_n 3, 1) := by decide +kernel
theorem dL_law_663 : decode cL_law 663 = .ok (.iconst 1, 1) := by decide +kernel
theorem dL_law_664 : decode cL_law 664 = .ok (.iadd, 1) := by decide +kernel
theorem dL_law_665 : decode cL_law 665 = .ok (.iaload, 1) := by decide +kernel
theorem dL_law_666 : decode cL_law 666 = .ok (.invokevirtual 96, 3) := by decide +kernel
theorem dL_law_669 : decode cL_law 669 = .ok (.if_icmp .eq 379, 3) := by decide +kernel
theorem dL_law_672 : decode cL_law 672 = .ok (.iconst 0, 1) := by decide +kernel
theorem dL_law_673 : decode cL_law 673 = .ok (.ireturn, 1) := by decide +kernel
theorem dL_law_674 : decode cL_law 674 = .ok (.aload_n 1, 1) := by decide +kernel
theorem dL_law_675 : decode cL_law 675 = .ok (.aload_n 0, 1) := by decide +kernel
theorem dL_law_676 : decode cL_law 676 = .ok (.iload_n 3, 1) := by decide +kernel
theorem dL_law_677 : decode cL_law 677 = .ok (.iconst 1, 1) := by decide +kernel
theorem dL_law_678 : decode cL_law 678 = .ok (.iadd, 1) := by decide +kernel
theorem dL_law_679 : decode cL_law 679 = .ok (.iaload, 1) := by decide +kernel
theorem dL_law_680 : decode cL_law 680 = .ok (.aload_n 0, 1) := by decide +kernel
theorem dL_law_681 : decode cL_law 681 = .ok (.iload_n 3, 1) := by decide +kernel
theorem dL_law_682 : decode cL_law 682 = .ok (.iconst 2, 1) := by decide +kernel
theorem dL_law_683 : decode cL_law 683 = .ok (.iadd, 1) := by decide +kernel
theorem dL_law_684 : decode cL_law 684 = .ok (.iaload, 1) := by decide +kernel
theorem dL_law_685 : decode cL_law 685 = .ok (.invokevirtual 97, 3) := by decide +kernel
theorem dL_law_688 : decode cL_law 688 = .ok (.aload_n 2, 1) := by decide +kernel
theorem dL_law_689 : decode cL_law 689 = .ok (.aload_n 0, 1) := by decide +kernel
theorem dL_law_690 : decode cL_law 690 = .ok (.iload_n 3, 1) := by decide +kernel
theorem dL_law_691 : decode cL_law 691 = .ok (.iconst 1, 1) := by decide +kernel
theorem dL_law_692 : decode cL_law 692 = .ok (.iadd, 1) := by decide +kernel
theorem dL_law_693 : decode cL_law 693 = .ok (.iaload, 1) := by decide +kernel
theorem dL_law_694 : decode cL_law 694 = .ok (.aload_n 0, 1) := by decide +kernel
theorem dL_law_695 : decode cL_law 695 = .ok (.iload_n 3, 1) := by decide +kernel
theorem dL_law_696 : decode cL_law 696 = .ok (.iconst 2, 1) := by decide +kernel
theorem dL_law_697 : decode cL_law 697 = .ok (.iadd, 1) := by decide +kernel
theorem dL_law_698 : decode cL_law 698 = .ok (.iaload, 1) := by decide +kernel
theorem dL_law_699 : decode cL_law 699 = .ok (.invokevirtual 100, 3) := by decide +kernel
theorem dL_law_702 : decode cL_law 702 = .ok (.if_icmp .eq 346, 3) := by decide +kernel
theorem dL_law_705 : decode cL_law 705 = .ok (.iconst 0, 1) := by decide +kernel
theorem dL_law_706 : decode cL_law 706 = .ok (.ireturn, 1) := by decide +kernel
theorem dL_law_707 : decode cL_law 707 = .ok (.aload_n 1, 1) := by decide +kernel
theorem dL_law_708 : decode cL_law 708 = .ok (.aload_n 0, 1) := by decide +kernel
theorem dL_law_709 : decode cL_law 709 = .ok (.iload_n 3, 1) := by decide +kernel
theorem dL_law_710 : decode cL_law 710 = .ok (.iconst 1, 1) := by decide +kernel
theorem dL_law_711 : decode cL_law 711 = .ok (.iadd, 1) := by decide +kernel
theorem dL_law_712 : decode cL_law 712 = .ok (.iaload, 1) := by decide +kernel
theorem dL_law_713 : decode cL_law 713 = .ok (.aload_n 0, 1) := by decide +kernel
theorem dL_law_714 : decode cL_law 714 = .ok (.iload_n 3, 1) := by decide +kernel
theorem dL_law_715 : decode cL_law 715 = .ok (.iconst 2, 1) := by decide +kernel
theorem dL_law_716 : decode cL_law 716 = .ok (.iadd, 1) := by decide +kernel
theorem dL_law_717 : decode cL_law 717 = .ok (.iaload, 1) := by decide +kernel
theorem dL_law_718 : decode cL_law 718 = .ok (.aload_n 0, 1) := by decide +kernel
theorem dL_law_719 : decode cL_law 719 = .ok (.iload_n 3, 1) := by decide +kernel
theorem dL_law_720 : decode cL_law 720 = .ok (.iconst 3, 1) := by decide +kernel
theorem dL_law_721 : decode cL_law 721 = .ok (.iadd, 1) := by decide +kernel
theorem dL_law_722 : decode cL_law 722 = .ok (.iaload, 1) := by decide +kernel
theorem dL_law_723 : decode cL_law 723 = .ok (.aload_n 0, 1) := by decide +kernel
theorem dL_law_724 : decode cL_law 724 = .ok (.iload_n 3, 1) := by decide +kernel
theorem dL_law_725 : decode cL_law 725 = .ok (.iconst 4, 1) := by decide +kernel
theorem dL_law_726 : decode cL_law 726 = .ok (.iadd, 1) := by decide +kernel
theorem dL_law_727 : decode cL_law 727 = .ok (.iaload, 1) := by decide +kernel
theorem dL_law_728 : decode cL_law 728 = .ok (.invokevirtual 101, 3) := by decide +kernel
theorem dL_law_731 : decode cL_law 731 = .ok (.aload_n 2, 1) := by decide +kernel
theorem dL_law_732 : decode cL_law 732 = .ok (.aload_n 0, 1) := by decide +kernel
theorem dL_law_733 : decode cL_law 733 = .ok (.iload_n 3, 1) := by decide +kernel
theorem dL_law_734 : decode cL_law 734 = .ok (.iconst 1, 1) := by decide +kernel
theorem dL_law_735 : decode cL_law 735 = .ok (.iadd, 1) := by decide +kernel
theorem dL_law_736 : decode cL_law 736 = .ok (.iaload, 1) := by decide +kernel
theorem dL_law_737 : decode cL_law 737 = .ok (.aload_n 0, 1) := by decide +kernel
theorem dL_law_738 : decode cL_law 738 = .ok (.iload_n 3, 1) := by decide +kernel
theorem dL_law_739 : decode cL_law 739 = .ok (.iconst 2, 1) := by decide +kernel
theorem dL_law_740 : decode cL_law 740 = .ok (.iadd, 1) := by decide +kernel
theorem dL_law_741 : decode cL_law 741 = .ok (.iaload, 1) := by decide +kernel
theorem dL_law_742 : decode cL_law 742 = .ok (.aload_n 0, 1) := by decide +kernel
theorem dL_law_743 : decode cL_law 743 = .ok (.iload_n 3, 1) := by decide +kernel
theorem dL_law_744 : decode cL_law 744 = .ok (.iconst 3, 1) := by decide +kernel
theorem dL_law_745 : decode cL_law 745 = .ok (.iadd, 1) := by decide +kernel
theorem dL_law_746 : decode cL_law 746 = .ok (.iaload, 1) := by decide +kernel
theorem dL_law_747 : decode cL_law 747 = .ok (.aload_n 0, 1) := by decide +kernel
theorem dL_law_748 : decode cL_law 748 = .ok (.iload_n 3, 1) := by decide +kernel
theorem dL_law_749 : decode cL_law 749 = .ok (.iconst 4, 1) := by decide +kernel
theorem dL_law_750 : decode cL_law 750 = .ok (.iadd, 1) := by decide +kernel
theorem dL_law_751 : decode cL_law 751 = .ok (.iaload, 1) := by decide +kernel
theorem dL_law_752 : decode cL_law 752 = .ok (.invokevirtual 105, 3) := by decide +kernel
theorem dL_law_755 : decode cL_law 755 = .ok (.if_icmp .eq 293, 3) := by decide +kernel
theorem dL_law_758 : decode cL_law 758 = .ok (.iconst 0, 1) := by decide +kernel
theorem dL_law_759 : decode cL_law 759 = .ok (.ireturn, 1) := by decide +kernel
theorem dL_law_760 : decode cL_law 760 = .ok (.aload_n 1, 1) := by decide +kernel
theorem dL_law_761 : decode cL_law 761 = .ok (.invokevirtual 106, 3) := by decide +kernel
theorem dL_law_764 : decode cL_law 764 = .ok (.aload_n 2, 1) := by decide +kernel
theorem dL_law_765 : decode cL_law 765 = .ok (.invokevirtual 109, 3) := by decide +kernel
theorem dL_law_768 : decode cL_law 768 = .ok (.if_icmp .eq 280, 3) := by decide +kernel
theorem dL_law_771 : decode cL_law 771 = .ok (.iconst 0, 1) := by decide +kernel
theorem dL_law_772 : decode cL_law 772 = .ok (.ireturn, 1) := by decide +kernel
theorem dL_law_773 : decode cL_law 773 = .ok (.aload_n 1, 1) := by decide +kernel
theorem dL_law_774 : decode cL_law 774 = .ok (.aload_n 0, 1) := by decide +kernel
theorem dL_law_775 : decode cL_law 775 = .ok (.iload_n 3, 1) := by decide +kernel
theorem dL_law_776 : decode cL_law 776 = .ok (.iconst 1, 1) := by decide +kernel
theorem dL_law_777 : decode cL_law 777 = .ok (.iadd, 1) := by decide +kernel
theorem dL_law_778 : decode cL_law 778 = .ok (.iaload, 1) := by decide +kernel
theorem dL_law_779 : decode cL_law 779 = .ok (.invokevirtual 110, 3) := by decide +kernel
theorem dL_law_782 : decode cL_law 782 = .ok (.aload_n 2, 1) := by decide +kernel
theorem dL_law_783 : decode cL_law 783 = .ok (.aload_n 0, 1) := by decide +kernel
theorem dL_law_784 : decode cL_law 784 = .ok (.iload_n 3, 1) := by decide +kernel
theorem dL_law_785 : decode cL_law 785 = .ok (.iconst 1, 1) := by decide +kernel
theorem dL_law_786 : decode cL_law 786 = .ok (.iadd, 1) := by decide +kernel
theorem dL_law_787 : decode cL_law 787 = .ok (.iaload, 1) := by decide +kernel
theorem dL_law_788 : decode cL_law 788 = .ok (.invokevirtual 113, 3) := by decide +kernel
theorem dL_law_791 : decode cL_law 791 = .ok (.if_icmp .eq 257, 3) := by decide +kernel
theorem dL_law_794 : decode cL_law 794 = .ok (.iconst 0, 1) := by decide +kernel
theorem dL_law_795 : decode cL_law 795 = .ok (.ireturn, 1) := by decide +kernel
theorem dL_law_796 : decode cL_law 796 = .ok (.aload_n 1, 1) := by decide +kernel
theorem dL_law_797 : decode cL_law 797 = .ok (.aload_n 0, 1) := by decide +kernel
theorem dL_law_798 : decode cL_law 798 = .ok (.iload_n 3, 1) := by decide +kernel
theorem dL_law_799 : decode cL_law 799 = .ok (.iconst 1, 1) := by decide +kernel
theorem dL_law_800 : decode cL_law 800 = .ok (.iadd, 1) := by decide +kernel
theorem dL_law_801 : decode cL_law 801 = .ok (.iaload, 1) := by decide +kernel
theorem dL_law_802 : decode cL_law 802 = .ok (.invokevirtual 114, 3) := by decide +kernel
theorem dL_law_805 : decode cL_law 805 = .ok (.aload_n 2, 1) := by decide +kernel
theorem dL_law_806 : decode cL_law 806 = .ok (.aload_n 0, 1) := by decide +kernel
theorem dL_law_807 : decode cL_law 807 = .ok (.iload_n 3, 1) := by decide +kernel
theorem dL_law_808 : decode cL_law 808 = .ok (.iconst 1, 1) := by decide +kernel
theorem dL_law_809 : decode cL_law 809 = .ok (.iadd, 1) := by decide +kernel
theorem dL_law_810 : decode cL_law 810 = .ok (.iaload, 1) := by decide +kernel
theorem dL_law_811 : decode cL_law 811 = .ok (.invokevirtual 117, 3) := by decide +kernel
theorem dL_law_814 : decode cL_law 814 = .ok (.if_icmp .eq 234, 3) := by decide +kernel
theorem dL_law_817 : decode cL_law 817 = .ok (.iconst 0, 1) := by decide +kernel
theorem dL_law_818 : decode cL_law 818 = .ok (.ireturn, 1) := by decide +kernel
theorem dL_law_819 : decode cL_law 819 = .ok (.aload_n 1, 1) := by decide +kernel
theorem dL_law_820 : decode cL_law 820 = .ok (.aload_n 0, 1) := by decide +kernel
theorem dL_law_821 : decode cL_law 821 = .ok (.iload_n 3, 1) := by decide +kernel
theorem dL_law_822 : decode cL_law 822 = .ok (.iconst 1, 1) := by decide +kernel
theorem dL_law_823 : decode cL_law 823 = .ok (.iadd, 1) := by decide +kernel
theorem dL_law_824 : decode cL_law 824 = .ok (.iaload, 1) := by decide +kernel
theorem dL_law_825 : decode cL_law 825 = .ok (.aload_n 0, 1) := by decide +kernel
theorem dL_law_826 : decode cL_law 826 = .ok (.iload_n 3, 1) := by decide +kernel
theorem dL_law_827 : decode cL_law 827 = .ok (.iconst 2, 1) := by decide +kernel
theorem dL_law_828 : decode cL_law 828 = .ok (.iadd, 1) := by decide +kernel
theorem dL_law_829 : decode cL_law 829 = .ok (.iaload, 1) := by decide +kernel
theorem dL_law_830 : decode cL_law 830 = .ok (.invokevirtual 118, 3) := by decide +kernel
theorem dL_law_833 : decode cL_law 833 = .ok (.aload_n 2, 1) := by decide +kernel
theorem dL_law_834 : decode cL_law 834 = .ok (.aload_n 0, 1) := by decide +kernel
theorem dL_law_835 : decode cL_law 835 = .ok (.iload_n 3, 1) := by decide +kernel
theorem dL_law_836 : decode cL_law 836 = .ok (.iconst 1, 1) := by decide +kernel
theorem dL_law_837 : decode cL_law 837 = .ok (.iadd, 1) := by decide +kernel
theorem dL_law_838 : decode cL_law 838 = .ok (.iaload, 1) := by decide +kernel
theorem dL_law_839 : decode cL_law 839 = .ok (.aload_n 0, 1) := by decide +kernel
theorem dL_law_840 : decode cL_law 840 = .ok (.iload_n 3, 1) := by decide +kernel
theorem dL_law_841 : decode cL_law 841 = .ok (.iconst 2, 1) := by decide +kernel
theorem dL_law_842 : decode cL_law 842 = .ok (.iadd, 1) := by decide +kernel
theorem dL_law_843 : decode cL_law 843 = .ok (.iaload, 1) := by decide +kernel
theorem dL_law_844 : decode cL_law 844 = .ok (.invokevirtual 121, 3) := by decide +kernel
theorem dL_law_847 : decode cL_law 847 = .ok (.if_icmp .eq 201, 3) := by decide +kernel
theorem dL_law_850 : decode cL_law 850 = .ok (.iconst 0, 1) := by decide +kernel
theorem dL_law_851 : decode cL_law 851 = .ok (.ireturn, 1) := by decide +kernel
theorem dL_law_852 : decode cL_law 852 = .ok (.aload_n 1, 1) := by decide +kernel
theorem dL_law_853 : decode cL_law 853 = .ok (.aload_n 0, 1) := by decide +kernel
theorem dL_law_854 : decode cL_law 854 = .ok (.iload_n 3, 1) := by decide +kernel
theorem dL_law_855 : decode cL_law 855 = .ok (.iconst 1, 1) := by decide +kernel
theorem dL_law_856 : decode cL_law 856 = .ok (.iadd, 1) := by decide +kernel
theorem dL_law_857 : decode cL_law 857 = .ok (.iaload, 1) := by decide +kernel
theorem dL_law_858 : decode cL_law 858 = .ok (.aload_n 0, 1) := by decide +kernel
theorem dL_law_859 : decode cL_law 859 = .ok (.iload_n 3, 1) := by decide +kernel
theorem dL_law_860 : decode cL_law 860 = .ok (.iconst 2, 1) := by decide +kernel
theorem dL_law_861 : decode cL_law 861 = .ok (.iadd, 1) := by decide +kernel
theorem dL_law_862 : decode cL_law 862 = .ok (.iaload, 1) := by decide +kernel
theorem dL_law_863 : decode cL_law 863 = .ok (.invokevirtual 122, 3) := by decide +kernel
theorem dL_law_866 : decode cL_law 866 = .ok (.aload_n 2, 1) := by decide +kernel
theorem dL_law_867 : decode cL_law 867 = .ok (.aload_n 0, 1) := by decide +kernel
theorem dL_law_868 : decode cL_law 868 = .ok (.iload_n 3, 1) := by decide +kernel
theorem dL_law_869 : decode cL_law 869 = .ok (.iconst 1, 1) := by decide +kernel
theorem dL_law_870 : decode cL_law 870 = .ok (.iadd, 1) := by decide +kernel
theorem dL_law_871 : decode cL_law 871 = .ok (.iaload, 1) := by decide +kernel
theorem dL_law_872 : decode cL_law 872 = .ok (.aload_n 0, 1) := by decide +kernel
theorem dL_law_873 : decode cL_law 873 = .ok (.iload_n 3, 1) := by decide +kernel
theorem dL_law_874 : decode cL_law 874 = .ok (.iconst 2, 1) := by decide +kernel
theorem dL_law_875 : decode cL_law 875 = .ok (.iadd, 1) := by decide +kernel
theorem dL_law_876 : decode cL_law 876 = .ok (.iaload, 1) := by decide +kernel
theorem dL_law_877 : decode cL_law 877 = .ok (.invokevirtual 125, 3) := by decide +kernel
theorem dL_law_880 : decode cL_law 880 = .ok (.if_icmp .eq 168, 3) := by decide +kernel
theorem dL_law_883 : decode cL_law 883 = .ok (.iconst 0, 1) := by decide +kernel
theorem dL_law_884 : decode cL_law 884 = .ok (.ireturn, 1) := by decide +kernel
theorem dL_law_885 : decode cL_law 885 = .ok (.aload_n 1, 1) := by decide +kernel
theorem dL_law_886 : decode cL_law 886 = .ok (.aload_n 0, 1) := by decide +kernel
theorem dL_law_887 : decode cL_law 887 = .ok (.iload_n 3, 1) := by decide +kernel
theorem dL_law_888 : decode cL_law 888 = .ok (.iconst 1, 1) := by decide +kernel
theorem dL_law_889 : decode cL_law 889 = .ok (.iadd, 1) := by decide +kernel
theorem dL_law_890 : decode cL_law 890 = .ok (.iaload, 1) := by decide +kernel
theorem dL_law_891 : decode cL_law 891 = .ok (.aload_n 0, 1) := by decide +kernel
theorem dL_law_892 : decode cL_law 892 = .ok (.iload_n 3, 1) := by decide +kernel
theorem dL_law_893 : decode cL_law 893 = .ok (.iconst 2, 1) := by decide +kernel
theorem dL_law_894 : decode cL_law 894 = .ok (.iadd, 1) := by decide +kernel
theorem dL_law_895 : decode cL_law 895 = .ok (.iaload, 1) := by decide +kernel
theorem dL_law_896 : decode cL_law 896 = .ok (.invokevirtual 126, 3) := by decide +kernel
theorem dL_law_899 : decode cL_law 899 = .ok (.aload_n 2, 1) := by decide +kernel
theorem dL_law_900 : decode cL_law 900 = .ok (.aload_n 0, 1) := by decide +kernel
theorem dL_law_901 : decode cL_law 901 = .ok (.iload_n 3, 1) := by decide +kernel
theorem dL_law_902 : decode cL_law 902 = .ok (.iconst 1, 1) := by decide +kernel
theorem dL_law_903 : decode cL_law 903 = .ok (.iadd, 1) := by decide +kernel
theorem dL_law_904 : decode cL_law 904 = .ok (.iaload, 1) := by decide +kernel
theorem dL_law_905 : decode cL_law 905 = .ok (.aload_n 0, 1) := by decide +kernel
theorem dL_law_906 : decode cL_law 906 = .ok (.iload_n 3, 1) := by decide +kernel
theorem dL_law_907 : decode cL_law 907 = .ok (.iconst 2, 1) := by decide +kernel
theorem dL_law_908 : decode cL_law 908 = .ok (.iadd, 1) := by decide +kernel
theorem dL_law_909 : decode cL_law 909 = .ok (.iaload, 1) := by decide +kernel
theorem dL_law_910 : decode cL_law 910 = .ok (.invokevirtual 129, 3) := by decide +kernel
theorem dL_law_913 : decode cL_law 913 = .ok (.if_icmp .eq 135, 3) := by decide +kernel
theorem dL_law_916 : decode cL_law 916 = .ok (.iconst 0, 1) := by decide +kernel
theorem dL_law_917 : decode cL_law 917 = .ok (.ireturn, 1) := by decide +kernel
theorem dL_law_918 : decode cL_law 918 = .ok (.aload_n 1, 1) := by decide +kernel
theorem dL_law_919 : decode cL_law 919 = .ok (.aload_n 0, 1) := by decide +kernel
theorem dL_law_920 : decode cL_law 920 = .ok (.iload_n 3, 1) := by decide +kernel
theorem dL_law_921 : decode cL_law 921 = .ok (.iconst 1, 1) := by decide +kernel
theorem dL_law_922 : decode cL_law 922 = .ok (.iadd, 1) := by decide +kernel
theorem dL_law_923 : decode cL_law 923 = .ok (.iaload, 1) := by decide +kernel
theorem dL_law_924 : decode cL_law 924 = .ok (.invokevirtual 130, 3) := by decide +kernel
theorem dL_law_927 : decode cL_law 927 = .ok (.aload_n 2, 1) := by decide +kernel
theorem dL_law_928 : decode cL_law 928 = .ok (.aload_n 0, 1) := by decide +kernel
theorem dL_law_929 : decode cL_law 929 = .ok (.iload_n 3, 1) := by decide +kernel
theorem dL_law_930 : decode cL_law 930 = .ok (.iconst 1, 1) := by decide +kernel
theorem dL_law_931 : decode cL_law 931 = .ok (.iadd, 1) := by decide +kernel
theorem dL_law_932 : decode cL_law 932 = .ok (.iaload, 1) := by decide +kernel
theorem dL_law_933 : decode cL_law 933 = .ok (.invokevirtual 134, 3) := by decide +kernel
theorem dL_law_936 : decode cL_law 936 = .ok (.lcmp, 1) := by decide +kernel
theorem dL_law_937 : decode cL_law 937 = .ok (.ifCond .eq 111, 3) := by decide +kernel
theorem dL_law_940 : decode cL_law 940 = .ok (.iconst 0, 1) := by decide +kernel
theorem dL_law_941 : decode cL_law 941 = .ok (.ireturn, 1) := by decide +kernel
theorem dL_law_942 : decode cL_law 942 = .ok (.aload_n 1, 1) := by decide +kernel
theorem dL_law_943 : decode cL_law 943 = .ok (.aload_n 0, 1) := by decide +kernel
theorem dL_law_944 : decode cL_law 944 = .ok (.iload_n 3, 1) := by decide +kernel
theorem dL_law_945 : decode cL_law 945 = .ok (.iconst 1, 1) := by decide +kernel
theorem dL_law_946 : decode cL_law 946 = .ok (.iadd, 1) := by decide +kernel
theorem dL_law_947 : decode cL_law 947 = .ok (.iaload, 1) := by decide +kernel
theorem dL_law_948 : decode cL_law 948 = .ok (.invokevirtual 135, 3) := by decide +kernel
theorem dL_law_951 : decode cL_law 951 = .ok (.aload_n 2, 1) := by decide +kernel
theorem dL_law_952 : decode cL_law 952 = .ok (.aload_n 0, 1) := by decide +kernel
theorem dL_law_953 : decode cL_law 953 = .ok (.iload_n 3, 1) := by decide +kernel
theorem dL_law_954 : decode cL_law 954 = .ok (.iconst 1, 1) := by decide +kernel
theorem dL_law_955 : decode cL_law 955 = .ok (.iadd, 1) := by decide +kernel
theorem dL_law_956 : decode cL_law 956 = .ok (.iaload, 1) := by decide +kernel
theorem dL_law_957 : decode cL_law 957 = .ok (.invokevirtual 138, 3) := by decide +kernel
theorem dL_law_960 : decode cL_law 960 = .ok (.if_icmp .eq 88, 3) := by decide +kernel
theorem dL_law_963 : decode cL_law 963 = .ok (.iconst 0, 1) := by decide +kernel
theorem dL_law_964 : decode cL_law 964 = .ok (.ireturn, 1) := by decide +kernel
theorem dL_law_965 : decode cL_law 965 = .ok (.aload_n 1, 1) := by decide +kernel
theorem dL_law_966 : decode cL_law 966 = .ok (.aload_n 0, 1) := by decide +kernel
theorem dL_law_967 : decode cL_law 967 = .ok (.iload_n 3, 1) := by decide +kernel
theorem dL_law_968 : decode cL_law 968 = .ok (.iconst 1, 1) := by decide +kernel
theorem dL_law_969 : decode cL_law 969 = .ok (.iadd, 1) := by decide +kernel
theorem dL_law_970 : decode cL_law 970 = .ok (.iaload, 1) := by decide +kernel
theorem dL_law_971 : decode cL_law 971 = .ok (.invokevirtual 139, 3) := by decide +kernel
theorem dL_law_974 : decode cL_law 974 = .ok (.aload_n 2, 1) := by decide +kernel
theorem dL_law_975 : decode cL_law 975 = .ok (.aload_n 0, 1) := by decide +kernel
theorem dL_law_976 : decode cL_law 976 = .ok (.iload_n 3, 1) := by decide +kernel
theorem dL_law_977 : decode cL_law 977 = .ok (.iconst 1, 1) := by decide +kernel
theorem dL_law_978 : decode cL_law 978 = .ok (.iadd, 1) := by decide +kernel
theorem dL_law_979 : decode cL_law 979 = .ok (.iaload, 1) := by decide +kernel
theorem dL_law_980 : decode cL_law 980 = .ok (.invokevirtual 142, 3) := by decide +kernel
theorem dL_law_983 : decode cL_law 983 = .ok (.if_icmp .eq 65, 3) := by decide +kernel
theorem dL_law_986 : decode cL_law 986 = .ok (.iconst 0, 1) := by decide +kernel
theorem dL_law_987 : decode cL_law 987 = .ok (.ireturn, 1) := by decide +kernel
theorem dL_law_988 : decode cL_law 988 = .ok (.aload_n 1, 1) := by decide +kernel
theorem dL_law_989 : decode cL_law 989 = .ok (.aload_n 0, 1) := by decide +kernel
theorem dL_law_990 : decode cL_law 990 = .ok (.iload_n 3, 1) := by decide +kernel
theorem dL_law_991 : decode cL_law 991 = .ok (.iconst 1, 1) := by decide +kernel
theorem dL_law_992 : decode cL_law 992 = .ok (.iadd, 1) := by decide +kernel
theorem dL_law_993 : decode cL_law 993 = .ok (.iaload, 1) := by decide +kernel
theorem dL_law_994 : decode cL_law 994 = .ok (.invokevirtual 143, 3) := by decide +kernel
theorem dL_law_997 : decode cL_law 997 = .ok (.aload_n 2, 1) := by decide +kernel
theorem dL_law_998 : decode cL_law 998 = .ok (.aload_n 0, 1) := by decide +kernel
theorem dL_law_999 : decode cL_law 999 = .ok (.iload_n 3, 1) := by decide +kernel
theorem dL_law_1000 : decode cL_law 1000 = .ok (.iconst 1, 1) := by decide +kernel
theorem dL_law_1001 : decode cL_law 1001 = .ok (.iadd, 1) := by decide +kernel
theorem dL_law_1002 : decode cL_law 1002 = .ok (.iaload, 1) := by decide +kernel
theorem dL_law_1003 : decode cL_law 1003 = .ok (.invokevirtual 146, 3) := by decide +kernel
theorem dL_law_1006 : decode cL_law 1006 = .ok (.if_icmp .eq 42, 3) := by decide +kernel
theorem dL_law_1009 : decode cL_law 1009 = .ok (.iconst 0, 1) := by decide +kernel
theorem dL_law_1010 : decode cL_law 1010 = .ok (.ireturn, 1) := by decide +kernel
theorem dL_law_1011 : decode cL_law 1011 = .ok (.aload_n 1, 1) := by decide +kernel
theorem dL_law_1012 : decode cL_law 1012 = .ok (.aload_n 0, 1) := by decide +kernel
theorem dL_law_1013 : decode cL_law 1013 = .ok (.iload_n 3, 1) := by decide +kernel
theorem dL_law_1014 : decode cL_law 1014 = .ok (.iconst 1, 1) := by decide +kernel
theorem dL_law_1015 : decode cL_law 1015 = .ok (.iadd, 1) := by decide +kernel
theorem dL_law_1016 : decode cL_law 1016 = .ok (.iaload, 1) := by decide +kernel
theorem dL_law_1017 : decode cL_law 1017 = .ok (.invokevirtual 147, 3) := by decide +kernel
theorem dL_law_1020 : decode cL_law 1020 = .ok (.aload_n 2, 1) := by decide +kernel
theorem dL_law_1021 : decode cL_law 1021 = .ok (.aload_n 0, 1) := by decide +kernel
theorem dL_law_1022 : decode cL_law 1022 = .ok (.iload_n 3, 1) := by decide +kernel
theorem dL_law_1023 : decode cL_law 1023 = .ok (.iconst 1, 1) := by decide +kernel
theorem dL_law_1024 : decode cL_law 1024 = .ok (.iadd, 1) := by decide +kernel
theorem dL_law_1025 : decode cL_law 1025 = .ok (.iaload, 1) := by decide +kernel
theorem dL_law_1026 : decode cL_law 1026 = .ok (.invokevirtual 150, 3) := by decide +kernel
theorem dL_law_1029 : decode cL_law 1029 = .ok (.if_icmp .eq 19, 3) := by decide +kernel
theorem dL_law_1032 : decode cL_law 1032 = .ok (.iconst 0, 1) := by decide +kernel
theorem dL_law_1033 : decode cL_law 1033 = .ok (.ireturn, 1) := by decide +kernel
theorem dL_law_1034 : decode cL_law 1034 = .ok (.aload_n 1, 1) := by decide +kernel
theorem dL_law_1035 : decode cL_law 1035 = .ok (.invokevirtual 151, 3) := by decide +kernel
theorem dL_law_1038 : decode cL_law 1038 = .ok (.aload_n 2, 1) := by decide +kernel
theorem dL_law_1039 : decode cL_law 1039 = .ok (.invokevirtual 155, 3) := by decide +kernel
theorem dL_law_1042 : decode cL_law 1042 = .ok (.lcmp, 1) := by decide +kernel
theorem dL_law_1043 : decode cL_law 1043 = .ok (.ifCond .eq 5, 3) := by decide +kernel
theorem dL_law_1046 : decode cL_law 1046 = .ok (.iconst 0, 1) := by decide +kernel
theorem dL_law_1047 : decode cL_law 1047 = .ok (.ireturn, 1) := by decide +kernel
theorem dL_law_1048 : decode cL_law 1048 = .ok (.iinc 3 5, 3) := by decide +kernel
theorem dL_law_1051 : decode cL_law 1051 = .ok (.goto (-1033), 3) := by decide +kernel
theorem dL_law_1054 : decode cL_law 1054 = .ok (.iconst 1, 1) := by decide +kernel
theorem dL_law_1055 : decode cL_law 1055 = .ok (.ireturn, 1) := by decide +kernel
end
section
/-! ===== the layer: a world that makes no cells, its contents one function ===== -/
abbrev Mem : Type := (Nat → Nat → Int32) × (Nat → Nat → Int64)
def zA (μ : Mem) (o : Nat) (g : Nat → Int32) : Mem := (fun a => if a = o then g else μ.1 a, μ.2)
def zI (μ : Mem) (o k : Nat) (x : Int32) : Mem := zA μ o (upd (μ.1 o) k x)
def zL (μ : Mem) (o k : Nat) (x : Int64) : Mem := (μ.1, fun a => if a = o then vp_updL (μ.2 o) k x else μ.2 a)
/-- a shape of world: how many cells, what each is, the array types, whether nest mates and texts belong to it -/
abbrev ZS : Type := Nat × ((Nat → Nat) → (Nat → ClassId) → Nat → (Nat → Int32) → (Nat → Int64) → va_E) × List FieldType × Bool
abbrev zcell (Z : ZS) : (Nat → Nat) → (Nat → ClassId) → Nat → (Nat → Int32) → (Nat → Int64) → va_E := Z.2.1
abbrev ztys (Z : ZS) : List FieldType := Z.2.2.1
abbrev zfl (Z : ZS) : Bool := Z.2.2.2
/-- where a world lies: classes and slots, addresses, array classes, texts, their bytes -/
abbrev ZG : Type := va_G × (Nat → Nat) × (Nat → ClassId) × (Nat → Nat) × (Nat → Nat)
abbrev zad (G : ZG) : Nat → Nat := G.2.1
abbrev zca (G : ZG) : Nat → ClassId := G.2.2.1
abbrev zak (G : ZG) : Nat → Nat := G.2.2.2.1
abbrev zav (G : ZG) : Nat → Nat := G.2.2.2.2
def zws (Z : ZS) (G : ZG) (μ : Mem) : va_W := (List.range Z.1).map fun a => (zad G a, zcell Z (zad G) (zca G) a (μ.1 a) (μ.2 a))
def zT (Z : ZS) (G : ZG) : List (ClassId × FieldType) := (List.range (ztys Z).length).map fun t => (zca G t, (ztys Z).getD t .int)
def zAd (Z : ZS) (G : ZG) : Nat → Prop := fun q => ∃ a, a < Z.1 ∧ zad G a = q
theorem zws_len {Z : ZS} {G : ZG} {μ : Mem} : (zws Z G μ).length = Z.1 := by simp [zws]
theorem zws_at {Z : ZS} {G : ZG} {μ : Mem} {a : Nat} (h : a < Z.1) : (zws Z G μ)[a]? = some (zad G a, zcell Z (zad G) (zca G) a (μ.1 a) (μ.2 a)) := by
  simp [zws, List.getElem?_map, List.getElem?_range h]
theorem zws_no {Z : ZS} {G : ZG} {μ : Mem} {a : Nat} (h : ¬ a < Z.1) : (zws Z G μ)[a]? = none := List.getElem?_eq_none (by rw [zws_len]; omega)
theorem zws_setA {Z : ZS} {G : ZG} {μ : Mem} {o : Nat} {g : Nat → Int32} (h : o < Z.1) : (zws Z G μ).set o (zad G o, zcell Z (zad G) (zca G) o g (μ.2 o)) = zws Z G (zA μ o g) := by
  apply List.ext_getElem?
  intro i
  by_cases hi : i = o
  · subst hi
    rw [List.getElem?_set_self (by rw [zws_len]; exact h), zws_at h]
    simp [zA]
  · rw [List.getElem?_set_ne (Ne.symm hi)]
    by_cases hz : i < Z.1
    · rw [zws_at hz, zws_at hz]; simp [zA, hi]
    · rw [zws_no hz, zws_no hz]
theorem zws_setL {Z : ZS} {G : ZG} {μ : Mem} {o k : Nat} {x : Int64} (h : o < Z.1) : (zws Z G μ).set o (zad G o, zcell Z (zad G) (zca G) o (μ.1 o) (vp_updL (μ.2 o) k x)) = zws Z G (zL μ o k x) := by
  apply List.ext_getElem?
  intro i
  by_cases hi : i = o
  · subst hi
    rw [List.getElem?_set_self (by rw [zws_len]; exact h), zws_at h]
    simp [zL]
  · rw [List.getElem?_set_ne (Ne.symm hi)]
    by_cases hz : i < Z.1
    · rw [zws_at hz, zws_at hz]; simp [zL, hi]
    · rw [zws_no hz, zws_no hz]
/-- the words that all methods share: the tables' good ones -/
def zTT : List Cond := lw_tbl.filter goodWord
theorem zmem {w : Cond} (i : Nat) (h : lw_tbl[i]? = some w) (g : goodWord w = true) : w ∈ zTT := List.mem_filter.mpr ⟨List.mem_of_getElem? h, g⟩
theorem zsub {ws : List Cond} (ps : List Nat) (h : ws = ps.filterMap (fun i => lw_tbl[i]?)) (g : ws.all goodWord = true) : ∀ w ∈ ws, w ∈ zTT := by
  intro w hw
  have g1 := List.all_eq_true.mp g w hw
  rw [h] at hw
  obtain ⟨i, -, hi⟩ := List.mem_filterMap.mp hw
  exact zmem i hi g1
theorem zTT_good {w : Cond} (h : w ∈ zTT) : (w.onTables && w.keeps) = true ∨ ∃ ty, w = .arrayClass ty := good_of_word (List.mem_filter.mp h).2
theorem zTT_in {w : Cond} (h : w ∈ zTT) : w ∈ lw_tbl := (List.mem_filter.mp h).1
theorem zgood {y : MethodName} {cc : ByteArray} {n : Nat} {r : Option FieldType} (h : Cond.code y cc n r ∈ zTT) : GoodIn zTT (.code y cc n r :: zTT) := by
  intro w hw
  rcases List.mem_cons.mp hw with rfl | hw
  · exact ⟨h, zTT_good h⟩
  · exact ⟨hw, zTT_good hw⟩
/-- nest mates' links, and casts that hold -/
def zNF : List (String × Nat × String × String × String × String) := [("DarkShares", 141, "DarkShares$Night", "kind", "[I", "DarkShares"), ("DarkShares", 144, "DarkShares$Night", "need", "[I", "DarkShares"), ("DarkShares", 129, "DarkShares$Night", "jam", "[I", "DarkShares"), ("DarkShares", 97, "DarkShares$Night", "owner", "[I", "DarkShares"), ("DarkShares$Text", 74, "DarkShares$Night", "owner", "[I", "DarkShares"), ("DarkShares", 65, "DarkShares$Night", "boys", "I", "DarkShares"), ("DarkShares$Pieces", 22, "DarkShares$Night", "boys", "I", "DarkShares"), ("DarkShares$Text", 63, "DarkShares$Night", "boys", "I", "DarkShares"), ("DarkShares", 200, "DarkShares$Night", "notes", "I", "DarkShares"), ("DarkShares", 132, "DarkShares$Night", "undos", "I", "DarkShares"), ("DarkShares", 174, "DarkShares$Pieces", "first", "[I", "DarkShares"), ("DarkShares", 171, "DarkShares$Pieces", "fewest", "I", "DarkShares"), ("DarkShares", 104, "DarkShares$Text", "length", "I", "DarkShares")]
def zNM : List (String × Nat × MethodName × String) := [("DarkShares", 11, ⟨"DarkShares$Plain", "<init>", "()V"⟩, "DarkShares"), ("DarkShares", 14, ⟨"DarkShares$Small", "<init>", "()V"⟩, "DarkShares"), ("DarkShares$Small", 1, ⟨"DarkShares$Plain", "<init>", "()V"⟩, "DarkShares"), ("DarkShares", 17, ⟨"DarkShares$Prefect", "<init>", "()V"⟩, "DarkShares"), ("DarkShares$Prefect", 1, ⟨"DarkShares$Plain", "<init>", "()V"⟩, "DarkShares"), ("DarkShares", 20, ⟨"DarkShares$Sleeper", "<init>", "()V"⟩, "DarkShares"), ("DarkShares$Sleeper", 1, ⟨"DarkShares$Plain", "<init>", "()V"⟩, "DarkShares"), ("DarkShares", 23, ⟨"DarkShares$Afraid", "<init>", "()V"⟩, "DarkShares"), ("DarkShares$Afraid", 1, ⟨"DarkShares$Small", "<init>", "()V"⟩, "DarkShares"), ("DarkShares", 26, ⟨"DarkShares$Saver", "<init>", "()V"⟩, "DarkShares"), ("DarkShares$Saver", 3, ⟨"DarkShares$Sleeper", "<init>", "()V"⟩, "DarkShares"), ("DarkShares", 49, ⟨"DarkShares$Pieces", "<init>", "()V"⟩, "DarkShares"), ("DarkShares", 56, ⟨"DarkShares$Text", "<init>", "()V"⟩, "DarkShares"), ("DarkShares$Night", 69, ⟨"DarkShares", "has", "(II)Z"⟩, "DarkShares"), ("DarkShares$Afraid", 7, ⟨"DarkShares", "isMiddle", "(I)Z"⟩, "DarkShares"), ("DarkShares$Prefect", 11, ⟨"DarkShares", "isMiddle", "(I)Z"⟩, "DarkShares"), ("DarkShares$Pieces", 31, ⟨"DarkShares", "has", "(II)Z"⟩, "DarkShares"), ("DarkShares$Night", 117, ⟨"DarkShares", "isMiddle", "(I)Z"⟩, "DarkShares")]
def zNC : List (String × String) := [("DarkShares$Small", "DarkShares$Plain"), ("DarkShares$Prefect", "DarkShares$Plain"), ("DarkShares$Sleeper", "DarkShares$Plain"), ("DarkShares$Afraid", "DarkShares$Plain"), ("DarkShares$Saver", "DarkShares$Plain")]
def zNest (U : State) : Prop := (∀ q ∈ zNF, va_Nw (.fieldLinkNest q.1 q.2.1 q.2.2.1 q.2.2.2.1 q.2.2.2.2.1 q.2.2.2.2.2) U) ∧ (∀ q ∈ zNM, va_Nw (.methodLinkNest q.1 q.2.1 q.2.2.1 q.2.2.2) U) ∧ ∀ q ∈ zNC, va_Nw (.castable q.1 q.2) U
def zSl : List Nat := [5, 3, 5]
def zSb : List (List Int32) := [[110, 105, 103, 104, 116], [98, 111, 121], [99, 101, 108, 108, 115]]
def zSt : List (Nat × String) := [(43, "night"), (53, "boy"), (58, "cells")]
def zStr (Z : ZS) (G : ZG) (U : State) : Prop := vk_S 3 zSl zSb (zak G) (zav G) (zAd Z G) U U.heap ∧ (∀ i, i < 3 → vk_R RX8 (zSt.getD i (0, "")).1 (zSt.getD i (0, "")).2 (zak G i) U) ∧ va_Z "java/lang/String" "COMPACT_STRINGS" "Z" (.int 1) (zAd Z G) U U.heap
def zK (Z : ZS) (G : ZG) (U : State) : Prop := va_K G.1 vwCl (zT Z G) U ∧ (∀ i j, i < Z.1 → j < Z.1 → zad G i = zad G j → i = j) ∧ (zfl Z = true → zNest U ∧ zStr Z G U)
def zW (Z : ZS) (G : ZG) (s : State) (H : Heap) (locs : List Loc) (μ : Mem) : Prop := va_P G.1 vwCl (zws Z G μ) H ∧ va_S (zAd Z G) s.heap H locs
theorem zNest.warm {s U : State} (hW : s.WarmedH U.vm) (h : zNest s) : zNest U := ⟨fun q hq => va_Nw.warmF hW (h.1 q hq), fun q hq => va_Nw.warmM hW (h.2.1 q hq), fun q hq => va_Nw.warmC hW (h.2.2 q hq)⟩
theorem zNest.same {u U : State} (hv : u.vm = U.vm) (h : zNest u) : zNest U := ⟨fun q hq => va_Nw.same rfl hv (h.1 q hq), fun q hq => va_Nw.same rfl hv (h.2.1 q hq), fun q hq => va_Nw.same rfl hv (h.2.2 q hq)⟩
theorem zK.warm {Z : ZS} {G : ZG} {s U : State} {locs : List Loc} (h : zK Z G s) (hW : s.WarmedH U.vm) (hS : va_S (zAd Z G) s.heap U.heap locs) : zK Z G U :=
  ⟨h.1.moved hW.alike, h.2.1, fun hf => ⟨(h.2.2 hf).1.warm hW, ((h.2.2 hf).2.1.moved hW.alike).kept hS.2.1, fun i hi => vk_R.warm hW ((h.2.2 hf).2.2.1 i hi), ((h.2.2 hf).2.2.2.moved hW.alike).kept hS.2.1⟩⟩
theorem zK.blind {Z : ZS} {G : ZG} {U : State} {g : JFrame} {mk : MethodId} {a : Array Value} (h : zK Z G U) : zK Z G (U.calling g mk a) :=
  ⟨va_K.moved (u := U) (U := U.calling g mk a) (Vm.Alike.refl U.vm) h.1, h.2.1, fun hf => ⟨zNest.same (u := U) rfl (h.2.2 hf).1, vk_S.moved (u := U) (U := U.calling g mk a) (Vm.Alike.refl U.vm) (h.2.2 hf).2.1, fun i hi => vk_R.same (u := U) rfl ((h.2.2 hf).2.2.1 i hi), va_Z.moved (u := U) (U := U.calling g mk a) (Vm.Alike.refl U.vm) (h.2.2 hf).2.2.2⟩⟩
theorem zD {Z : ZS} {G : ZG} {U : State} (h : zK Z G U) (μ : Mem) : va_D (zAd Z G) (zws Z G μ) := by
  refine ⟨fun i j x y hi hj hxy => ?_, fun k q hk => ?_⟩
  · by_cases h1 : i < Z.1
    · by_cases h2 : j < Z.1
      · rw [zws_at h1] at hi
        rw [zws_at h2] at hj
        cases hi
        cases hj
        exact h.2.1 i j h1 h2 hxy
      · rw [zws_no h2] at hj; cases hj
    · rw [zws_no h1] at hi; cases hi
  · by_cases h1 : k < Z.1
    · rw [zws_at h1] at hk
      cases hk
      exact ⟨k, h1, rfl⟩
    · rw [zws_no h1] at hk; cases hk
def zR (d : Nat) : Room := { frames := d, cells := 0, slots := 0, locals := 64 * d }
/-- what a method's walk stands on -/
def zB (Z : ZS) (G : ZG) (cc : ByteArray) (nL : Nat) (own : String) (rt : Option FieldType) (p : Program) (s : State) (m : MethodId) (args : Array Value) (meth : Method) (c : Code) : Prop :=
  p.tables.exec = Jvm.exec ∧ c.code = cc ∧ c.maxLocals = nL ∧ s.vm.findClass own = some m.cls ∧ (∀ w ∈ zTT, w.before args s = true) ∧ zK Z G s ∧ meth.sig.returnType = rt ∧ meth.locks = false
def zQ (Z : ZS) (G : ZG) (ov : Option Value) (μ' : Mem) : Array Value → State → Outcome → State → Prop := fun _ st oc t => oc = .returned ov ∧ va_P G.1 vwCl (zws Z G μ') t.heap ∧ va_F (zAd Z G) st t
/-- a contract: from the memory μ the method y comes back with ov, and the memory is μ' -/
def zC (Z : ZS) (G : ZG) (l : Launch) (y : MethodName) (cc : ByteArray) (nL : Nat) (ret : Option FieldType) (d : Nat) (av : List Value) (μ : Mem) (ov : Option Value) (μ' : Mem) : Prop :=
  Met l y (.code y cc nL ret :: zTT) (zR d) (va_Pc av (fun U => va_P G.1 vwCl (zws Z G μ) U.heap ∧ zK Z G U)) (zQ Z G ov μ') 0 0 (zAd Z G)
theorem zC.mk {Z : ZS} {G : ZG} {l : Launch} {y : MethodName} {cc : ByteArray} {nL : Nat} {ret : Option FieldType} {d : Nat} {av : List Value} {μ : Mem} {ov : Option Value} {μ' : Mem} (hy : plainName y.cls = true) (hlen : (lg_sl av).length ≤ nL)
    (body : ∀ (p : Program) (e : Env) (s : State) (m : MethodId) (below : List Frame) (meth : Method) (c : Code) (ls : Array Slot), zB Z G cc nL y.cls ret p s m av.toArray meth c → lv_has ls nL (lv_args 0 av) → zW Z G s s.heap [] μ → W p l e (zR d) s m av.toArray below meth c s.heap [] 0 0 (MQ below (zQ Z G ov μ') av.toArray s 0 0 (zAd Z G)) (F0 m 0 ls [])) : zC Z G l y cc nL ret d av μ ov μ' := by
  refine Met.ofW (cc := cc) (maxL := nL) (ret := ret) hy rfl ?_
  intro p e s m args below meth c s₁ B hml hv
  obtain ⟨rfl, hP, hK⟩ := hv
  have hts := atoms_spec (ws := .code y cc nL ret :: zTT) B.pre
  rw [lg_entry_eq]
  exact body p e s m below meth c _ ⟨B.exec, B.bytes, hml, findClass_of_methodNamed B.named, fun w h => hts w (List.mem_cons_of_mem _ h), hK, B.returns, B.notSynchronized⟩ (lv_entry av hlen) ⟨hP, va_S.rf⟩
def zO (Z : ZS) (o ci : Nat) : Prop := o < Z.1 ∧ ∀ (ad : Nat → Nat) (ca : Nat → ClassId) (fi : Nat → Int32) (fl : Nat → Int64), ∃ fs, zcell Z ad ca o fi fl = .inr (ci, fs)
def zAr (Z : ZS) (a t n : Nat) (ty : FieldType) : Prop := a < Z.1 ∧ (∀ (ad : Nat → Nat) (ca : Nat → ClassId) (fi : Nat → Int32) (fl : Nat → Int64), zcell Z ad ca a fi fl = .inl (ca t, n, .inl fi)) ∧ (ztys Z)[t]? = some ty
theorem zT_at {Z : ZS} {G : ZG} {t : Nat} {ty : FieldType} (h : (ztys Z)[t]? = some ty) : (zT Z G)[t]? = some (zca G t, ty) := by
  have h1 := (List.getElem?_eq_some_iff.mp h).1
  simp [zT, List.getElem?_map, List.getElem?_range h1, List.getD, h]
section ZL
variable {Z : ZS} {G : ZG} {p : Program} {l : Launch} {e : Env} {R : Room} {s : State} {m : MethodId} {args : Array Value} {below : List Frame} {meth : Method} {c : Code} {H : Heap} {locs : List Loc} {cells slots : Nat} {Q : State → Prop}
variable {cc : ByteArray} {nL pc : Nat} {own : String} {rt : Option FieldType} {ls : Array Slot} {rest st0 : List Value} {μ μ' : Mem}
theorem zrun {a : Array Value} {ov : Option Value} (hr : va_Run p l e R s m args below meth c H locs cells slots 0 0 (F0 m pc ls st0) rest (zQ Z G ov μ' a) (zAd Z G)) (hW : zW Z G s H locs μ)
    (kk : ∀ (H1 : Heap) (locs1 : List Loc), zW Z G s H1 locs1 μ' → W p l e R s m args below meth c H1 locs1 cells slots Q (F0 m (pc + 3) ls (ov.toList ++ rest))) : W p l e R s m args below meth c H locs cells slots Q (F0 m pc ls st0) := by
  intro T hT X
  obtain ⟨v, st₀, t, T', L, h0, X', hL, e1, e2, ⟨hv, hP, hz, hk⟩, st⟩ := hr T hT X
  cases hv
  rw [h0] at hz hk
  have hS := hW.2
  obtain ⟨t2, a1, b1⟩ := kk T'.heap (locs ++ L) ⟨by rw [e1]; exact hP, Nat.le_trans hS.1 (by rw [e1]; exact hz), fun q h1 h2 => by rw [e1, hk q (Nat.lt_of_lt_of_le h1 hS.1) h2]; exact hS.2.1 q h1 h2, fun q hq => by
      rcases List.mem_append.mp hq with h | h
      · exact hS.2.2 q h
      · exact hL q h⟩ T' rfl X'
  exact ⟨t2, st t2 a1, b1⟩
theorem zpreS {As : List Value} (hK : zK Z G s) (hW : zW Z G s H locs μ) : PreS s H (va_Pc As (fun U => va_P G.1 vwCl (zws Z G μ) U.heap ∧ zK Z G U)) As :=
  ⟨fun _ _ _ _ q => ⟨q.1, q.2.1, q.2.2.blind⟩, fun U hU hw => ⟨rfl, by rw [hU]; exact hW.1, hK.warm hw (locs := locs) (by rw [hU]; exact hW.2)⟩⟩
theorem zpreV {As : List Value} {o ci : Nat} {q : vw_C} (hK : zK Z G s) (hW : zW Z G s H locs μ) (ho : zO Z o ci) (hc : vwCl[ci]? = some q) : PreV s H q.1 (zad G o) (va_Pc (.ref (zad G o) :: As) (fun U => va_P G.1 vwCl (zws Z G μ) U.heap ∧ zK Z G U)) As := by
  obtain ⟨fs, hfs⟩ := ho.2 (zad G) (zca G) (μ.1 o) (μ.2 o)
  exact ⟨(zpreS hK hW).1, va_recv hK.1 hW.1 hc (q0 := o) (fs := fs) (by rw [zws_at ho.1, hfs]), (zpreS hK hW).2⟩
theorem zget {o ci N k index : Nat} {C : String} {T : u_T} {fs : List Value} {v : Value} (B : zB Z G cc nL own rt p s m args meth c) (hW : zW Z G s H locs μ) (ho : o < Z.1) (hcell : zcell Z (zad G) (zca G) o (μ.1 o) (μ.2 o) = .inr (ci, fs)) (hc : vwCl[ci]? = some (C, T, N)) (hin : ∀ w ∈ u_ws C T N, w ∈ zTT) (hk : k < N)
    (hlink : Cond.fieldLink own index (T k).1 (T k).2.1 (T k).2.2.1 ∈ zTT) (hv : fs[k]? = some v) (hdg : decode cc pc = .ok (.getfield index, 3))
    (kk : W p l e R s m args below meth c H locs cells slots Q (F0 m (pc + 3) ls (v :: rest))) : W p l e R s m args below meth c H locs cells slots Q (F0 m pc ls (.ref (zad G o) :: rest)) := by
  obtain ⟨hx, hb, -, hown, hts, hK, -⟩ := B
  exact va_get hx hb hts hin hown hK.1 hW.1 o (by rw [zws_at ho, hcell]) hc k hk (hts _ hlink) (fun _ h => h) hv hdg kk
theorem zgetN {o ci N k index : Nat} {C host : String} {T : u_T} {fs : List Value} {v : Value} (B : zB Z G cc nL own rt p s m args meth c) (hW : zW Z G s H locs μ) (hfl : zfl Z = true) (ho : o < Z.1) (hcell : zcell Z (zad G) (zca G) o (μ.1 o) (μ.2 o) = .inr (ci, fs)) (hc : vwCl[ci]? = some (C, T, N)) (hin : ∀ w ∈ u_ws C T N, w ∈ zTT) (hk : k < N)
    (hlink : (own, index, (T k).1, (T k).2.1, (T k).2.2.1, host) ∈ zNF) (hv : fs[k]? = some v) (hdg : decode cc pc = .ok (.getfield index, 3))
    (kk : W p l e R s m args below meth c H locs cells slots Q (F0 m (pc + 3) ls (v :: rest))) : W p l e R s m args below meth c H locs cells slots Q (F0 m pc ls (.ref (zad G o) :: rest)) := by
  obtain ⟨hx, hb, -, hown, hts, hK, -⟩ := B
  exact va_getN hx hb hts hin hown hK.1 hW.1 o (by rw [zws_at ho, hcell]) hc k hk (va_Nw.use rfl ((hK.2.2 hfl).1.1 _ hlink)) (fun _ h => h) hv hdg kk
theorem zputI {o ci N k index : Nat} {C : String} {T : u_T} {fs : List Value} {x : Int32} (B : zB Z G cc nL own rt p s m args meth c) (hW : zW Z G s H locs μ) (ho : o < Z.1) (hcell : zcell Z (zad G) (zca G) o (μ.1 o) (μ.2 o) = .inr (ci, fs)) (hcell' : zcell Z (zad G) (zca G) o (upd (μ.1 o) k x) (μ.2 o) = .inr (ci, fs.set k (.int x))) (hc : vwCl[ci]? = some (C, T, N)) (hin : ∀ w ∈ u_ws C T N, w ∈ zTT) (hk : k < N)
    (ty0 : Nat → FieldType) (hty : ∀ k, k < N → parseFieldDescriptor (T k).2.2.1 = some (ty0 k)) (hnm : ∀ a, a < N → ∀ b, b < N → a ≠ b → (T a).2.1 ≠ (T b).2.1)
    (hlink : Cond.fieldLink own index (T k).1 (T k).2.1 (T k).2.2.1 ∈ zTT) (hfin : (T k).2.2.2 = false) (hd : parseFieldDescriptor (T k).2.2.1 = some .int) (hl : k < fs.length) (hdg : decode cc pc = .ok (.putfield index, 3))
    (kk : ∀ (H1 : Heap) (locs1 : List Loc), zW Z G s H1 locs1 (zI μ o k x) → W p l e R s m args below meth c H1 locs1 cells slots Q (F0 m (pc + 3) ls rest)) : W p l e R s m args below meth c H locs cells slots Q (F0 m pc ls (.int x :: .ref (zad G o) :: rest)) := by
  obtain ⟨hx, hb, -, hown, hts, hK, -⟩ := B
  refine va_put hx hb hts hin ty0 hty hnm hown hK.1 hW.1 (zD hK μ) hW.2 o (by rw [zws_at ho, hcell]) hc k hk (hts _ hlink) (fun _ h => h) hfin hd rfl rfl hl hdg (fun H1 locs1 hP _ hS => kk H1 locs1 ⟨?_, hS⟩)
  rw [← hcell', zws_setA ho] at hP
  exact hP
theorem zputIN {o ci N k index : Nat} {C host : String} {T : u_T} {fs : List Value} {x : Int32} (B : zB Z G cc nL own rt p s m args meth c) (hW : zW Z G s H locs μ) (hfl : zfl Z = true) (ho : o < Z.1) (hcell : zcell Z (zad G) (zca G) o (μ.1 o) (μ.2 o) = .inr (ci, fs)) (hcell' : zcell Z (zad G) (zca G) o (upd (μ.1 o) k x) (μ.2 o) = .inr (ci, fs.set k (.int x))) (hc : vwCl[ci]? = some (C, T, N)) (hin : ∀ w ∈ u_ws C T N, w ∈ zTT) (hk : k < N)
    (ty0 : Nat → FieldType) (hty : ∀ k, k < N → parseFieldDescriptor (T k).2.2.1 = some (ty0 k)) (hnm : ∀ a, a < N → ∀ b, b < N → a ≠ b → (T a).2.1 ≠ (T b).2.1)
    (hlink : (own, index, (T k).1, (T k).2.1, (T k).2.2.1, host) ∈ zNF) (hfin : (T k).2.2.2 = false) (hd : parseFieldDescriptor (T k).2.2.1 = some .int) (hl : k < fs.length) (hdg : decode cc pc = .ok (.putfield index, 3))
    (kk : ∀ (H1 : Heap) (locs1 : List Loc), zW Z G s H1 locs1 (zI μ o k x) → W p l e R s m args below meth c H1 locs1 cells slots Q (F0 m (pc + 3) ls rest)) : W p l e R s m args below meth c H locs cells slots Q (F0 m pc ls (.int x :: .ref (zad G o) :: rest)) := by
  obtain ⟨hx, hb, -, hown, hts, hK, -⟩ := B
  refine va_putN hx hb hts hin ty0 hty hnm hown hK.1 hW.1 (zD hK μ) hW.2 o (by rw [zws_at ho, hcell]) hc k hk (va_Nw.use rfl ((hK.2.2 hfl).1.1 _ hlink)) (fun _ h => h) hfin hd rfl rfl hl hdg (fun H1 locs1 hP _ hS => kk H1 locs1 ⟨?_, hS⟩)
  rw [← hcell', zws_setA ho] at hP
  exact hP
theorem zputL {o ci N k index : Nat} {C : String} {T : u_T} {fs : List Value} {x : Int64} (B : zB Z G cc nL own rt p s m args meth c) (hW : zW Z G s H locs μ) (ho : o < Z.1) (hcell : zcell Z (zad G) (zca G) o (μ.1 o) (μ.2 o) = .inr (ci, fs)) (hcell' : zcell Z (zad G) (zca G) o (μ.1 o) (vp_updL (μ.2 o) k x) = .inr (ci, fs.set k (.long x))) (hc : vwCl[ci]? = some (C, T, N)) (hin : ∀ w ∈ u_ws C T N, w ∈ zTT) (hk : k < N)
    (ty0 : Nat → FieldType) (hty : ∀ k, k < N → parseFieldDescriptor (T k).2.2.1 = some (ty0 k)) (hnm : ∀ a, a < N → ∀ b, b < N → a ≠ b → (T a).2.1 ≠ (T b).2.1)
    (hlink : Cond.fieldLink own index (T k).1 (T k).2.1 (T k).2.2.1 ∈ zTT) (hfin : (T k).2.2.2 = false) (hd : parseFieldDescriptor (T k).2.2.1 = some .long) (hl : k < fs.length) (hdg : decode cc pc = .ok (.putfield index, 3))
    (kk : ∀ (H1 : Heap) (locs1 : List Loc), zW Z G s H1 locs1 (zL μ o k x) → W p l e R s m args below meth c H1 locs1 cells slots Q (F0 m (pc + 3) ls rest)) : W p l e R s m args below meth c H locs cells slots Q (F0 m pc ls (.long x :: .ref (zad G o) :: rest)) := by
  obtain ⟨hx, hb, -, hown, hts, hK, -⟩ := B
  refine va_put hx hb hts hin ty0 hty hnm hown hK.1 hW.1 (zD hK μ) hW.2 o (by rw [zws_at ho, hcell]) hc k hk (hts _ hlink) (fun _ h => h) hfin hd rfl rfl hl hdg (fun H1 locs1 hP _ hS => kk H1 locs1 ⟨?_, hS⟩)
  rw [← hcell', zws_setL ho] at hP
  exact hP
theorem zald {a t n : Nat} {i : Int32} (B : zB Z G cc nL own rt p s m args meth c) (hW : zW Z G s H locs μ) (ha : zAr Z a t n .int) (hin : vp_in i n) (hdg : decode cc pc = .ok (.iaload, 1))
    (kk : W p l e R s m args below meth c H locs cells slots Q (F0 m (pc + 1) ls (.int (μ.1 a i.toNatClampNeg) :: rest))) : W p l e R s m args below meth c H locs cells slots Q (F0 m pc ls (.int i :: .ref (zad G a) :: rest)) :=
  va_iald B.1 B.2.1 B.2.2.2.2.2.1.1 hW.1 a t (by rw [zws_at ha.1, ha.2.1]) (zT_at ha.2.2) hin hdg kk
theorem zbld {a t n : Nat} {i : Int32} (B : zB Z G cc nL own rt p s m args meth c) (hW : zW Z G s H locs μ) (ha : zAr Z a t n .byte) (hin : vp_in i n) (hdg : decode cc pc = .ok (.baload, 1))
    (kk : W p l e R s m args below meth c H locs cells slots Q (F0 m (pc + 1) ls (.int (μ.1 a i.toNatClampNeg) :: rest))) : W p l e R s m args below meth c H locs cells slots Q (F0 m pc ls (.int i :: .ref (zad G a) :: rest)) :=
  va_bald B.1 B.2.1 B.2.2.2.2.2.1.1 hW.1 a t (by rw [zws_at ha.1, ha.2.1]) (zT_at ha.2.2) hin hdg kk
theorem zzld {a t n : Nat} {i : Int32} (B : zB Z G cc nL own rt p s m args meth c) (hW : zW Z G s H locs μ) (ha : zAr Z a t n .boolean) (hin : vp_in i n) (hdg : decode cc pc = .ok (.baload, 1))
    (kk : W p l e R s m args below meth c H locs cells slots Q (F0 m (pc + 1) ls (.int (μ.1 a i.toNatClampNeg) :: rest))) : W p l e R s m args below meth c H locs cells slots Q (F0 m pc ls (.int i :: .ref (zad G a) :: rest)) :=
  va_zald B.1 B.2.1 B.2.2.2.2.2.1.1 hW.1 a t (by rw [zws_at ha.1, ha.2.1]) (zT_at ha.2.2) hin hdg kk
theorem zast {a t n : Nat} {i x : Int32} (B : zB Z G cc nL own rt p s m args meth c) (hW : zW Z G s H locs μ) (ha : zAr Z a t n .int) (hin : vp_in i n) (hdg : decode cc pc = .ok (.iastore, 1))
    (kk : ∀ (H1 : Heap) (locs1 : List Loc), zW Z G s H1 locs1 (zI μ a i.toNatClampNeg x) → W p l e R s m args below meth c H1 locs1 cells slots Q (F0 m (pc + 1) ls rest)) : W p l e R s m args below meth c H locs cells slots Q (F0 m pc ls (.int x :: .int i :: .ref (zad G a) :: rest)) := by
  have hK := B.2.2.2.2.2.1
  refine va_iast B.1 B.2.1 hK.1 hW.1 (zD hK μ) hW.2 a t (by rw [zws_at ha.1, ha.2.1]) (zT_at ha.2.2) hin hdg (fun H1 locs1 hP _ hS => kk H1 locs1 ⟨?_, hS⟩)
  rw [← ha.2.1 (zad G) (zca G) _ (μ.2 a), zws_setA ha.1] at hP
  exact hP
theorem zbst {a t n : Nat} {i x : Int32} (B : zB Z G cc nL own rt p s m args meth c) (hW : zW Z G s H locs μ) (ha : zAr Z a t n .byte) (hin : vp_in i n) (hdg : decode cc pc = .ok (.bastore, 1))
    (kk : ∀ (H1 : Heap) (locs1 : List Loc), zW Z G s H1 locs1 (zI μ a i.toNatClampNeg (vp_nar .byte x)) → W p l e R s m args below meth c H1 locs1 cells slots Q (F0 m (pc + 1) ls rest)) : W p l e R s m args below meth c H locs cells slots Q (F0 m pc ls (.int x :: .int i :: .ref (zad G a) :: rest)) := by
  have hK := B.2.2.2.2.2.1
  refine va_bast B.1 B.2.1 hK.1 hW.1 (zD hK μ) hW.2 a t (by rw [zws_at ha.1, ha.2.1]) (zT_at ha.2.2) hin hdg (fun H1 locs1 hP _ hS => kk H1 locs1 ⟨?_, hS⟩)
  rw [← ha.2.1 (zad G) (zca G) _ (μ.2 a), zws_setA ha.1] at hP
  exact hP
theorem zzst {a t n : Nat} {i x : Int32} (B : zB Z G cc nL own rt p s m args meth c) (hW : zW Z G s H locs μ) (ha : zAr Z a t n .boolean) (hin : vp_in i n) (hdg : decode cc pc = .ok (.bastore, 1))
    (kk : ∀ (H1 : Heap) (locs1 : List Loc), zW Z G s H1 locs1 (zI μ a i.toNatClampNeg (vp_nar .boolean x)) → W p l e R s m args below meth c H1 locs1 cells slots Q (F0 m (pc + 1) ls rest)) : W p l e R s m args below meth c H locs cells slots Q (F0 m pc ls (.int x :: .int i :: .ref (zad G a) :: rest)) := by
  have hK := B.2.2.2.2.2.1
  refine va_zast B.1 B.2.1 hK.1 hW.1 (zD hK μ) hW.2 a t (by rw [zws_at ha.1, ha.2.1]) (zT_at ha.2.2) hin hdg (fun H1 locs1 hP _ hS => kk H1 locs1 ⟨?_, hS⟩)
  rw [← ha.2.1 (zad G) (zca G) _ (μ.2 a), zws_setA ha.1] at hP
  exact hP
def zcpOk (sp dp n : Int32) (n0 n1 : Nat) : Prop := ¬ sp < 0 ∧ ¬ dp < 0 ∧ ¬ n < 0 ∧ sp.toNatClampNeg + n.toNatClampNeg ≤ n0 ∧ dp.toNatClampNeg + n.toNatClampNeg ≤ n1
theorem zcopy {a0 a1 t n0 n1 index : Nat} {sp dp n : Int32} (B : zB Z G cc nL own rt p s m args meth c) (hW : zW Z G s H locs μ) (hl : ls.size = nL) (ha0 : zAr Z a0 t n0 .int) (ha1 : zAr Z a1 t n1 .int) (hok : zcpOk sp dp n n0 n1)
    (hlink : Cond.methodLink own index arraycopyName ∈ zTT) (hnat : Cond.native arraycopyName ∈ zTT) (hstat : Cond.static arraycopyName ∈ zTT) (hini : Cond.initialized "java/lang/System" ∈ zTT)
    (hframes : 1 ≤ R.frames) (hlocals : (rest.map fun v => v.category).sum + (nativeFrameWords "java/lang/System" "arraycopy" 5 + 11) ≤ R.locals) (hdg : decode cc pc = .ok (.invokestatic index, 3))
    (kk : ∀ (H1 : Heap) (locs1 : List Loc), zW Z G s H1 locs1 (zA μ a1 (va_cpy (μ.1 a0) (μ.1 a1) sp.toNatClampNeg dp.toNatClampNeg n.toNatClampNeg)) → W p l e R s m args below meth c H1 locs1 cells slots Q (F0 m (pc + 3) ls rest)) : W p l e R s m args below meth c H locs cells slots Q (F0 m pc ls (.int n :: .int dp :: .ref (zad G a1) :: .int sp :: .ref (zad G a0) :: rest)) := by
  obtain ⟨hx, hb, hml, hown, hts, hK, -⟩ := B
  obtain ⟨h1, h2, h3, h4, h5⟩ := hok
  refine va_copyi hx hb (by rw [hml, hl]) hown (hts _ hlink) (hts _ hnat) (hts _ hstat) (hts _ hini) hK.1 hW.1 (zD hK μ) hW.2 a0 a1 t t (ty := .int) (by rw [zws_at ha0.1, ha0.2.1]) (by rw [zws_at ha1.1, ha1.2.1]) (zT_at ha0.2.2) (zT_at ha1.2.2) rfl h1 h2 h3 h4 h5 (fun _ _ => rfl) hframes hlocals hdg (fun H1 locs1 hP _ hS => kk H1 locs1 ⟨?_, hS⟩)
  rw [← ha1.2.1 (zad G) (zca G) _ (μ.2 a1), zws_setA ha1.1] at hP
  exact hP
theorem zreti {v r : Int32} (B : zB Z G cc nL own (some .int) p s m args meth c) (hW : zW Z G s H locs μ) (hf : some (v, μ) = some (r, μ')) (hdg : decode cc pc = .ok (.ireturn, 1)) : W p l e R s m args below meth c H locs 0 0 (MQ below (zQ Z G (some (.int r)) μ') args s 0 0 (zAd Z G)) (F0 m pc ls [.int v]) := by
  cases hf
  exact W.iret B.1 B.2.1 B.2.2.2.2.2.2.1 (fun t ht _ => ⟨rfl, by rw [ht]; exact hW.1, hW.2.F ht⟩) hW.2.2.2 hdg B.2.2.2.2.2.2.2
theorem zretz {v r : Int32} {ty : FieldType} (B : zB Z G cc nL own (some ty) p s m args meth c) (hW : zW Z G s H locs μ) (hn : narrow ty (.int v) = .int v) (hf : some (v, μ) = some (r, μ')) (hdg : decode cc pc = .ok (.ireturn, 1)) : W p l e R s m args below meth c H locs 0 0 (MQ below (zQ Z G (some (.int r)) μ') args s 0 0 (zAd Z G)) (F0 m pc ls [.int v]) := by
  cases hf
  exact W.zret B.1 B.2.1 B.2.2.2.2.2.2.1 hn (fun t ht _ => ⟨rfl, by rw [ht]; exact hW.1, hW.2.F ht⟩) hW.2.2.2 hdg B.2.2.2.2.2.2.2
theorem zretl {v r : Int64} (B : zB Z G cc nL own (some .long) p s m args meth c) (hW : zW Z G s H locs μ) (hf : some (v, μ) = some (r, μ')) (hdg : decode cc pc = .ok (.lreturn, 1)) : W p l e R s m args below meth c H locs 0 0 (MQ below (zQ Z G (some (.long r)) μ') args s 0 0 (zAd Z G)) (F0 m pc ls [.long v]) := by
  cases hf
  exact W.lret B.1 B.2.1 B.2.2.2.2.2.2.1 (fun t ht _ => ⟨rfl, by rw [ht]; exact hW.1, hW.2.F ht⟩) hW.2.2.2 hdg B.2.2.2.2.2.2.2
theorem zretv {r : Unit} (B : zB Z G cc nL own none p s m args meth c) (hW : zW Z G s H locs μ) (hf : some ((), μ) = some (r, μ')) (hdg : decode cc pc = .ok (.return_, 1)) : W p l e R s m args below meth c H locs 0 0 (MQ below (zQ Z G none μ') args s 0 0 (zAd Z G)) (F0 m pc ls []) := by
  cases hf
  exact W.vret B.1 B.2.1 B.2.2.2.2.2.2.1 (fun t ht _ => ⟨rfl, by rw [ht]; exact hW.1, hW.2.F ht⟩) hW.2.2.2 hdg B.2.2.2.2.2.2.2
theorem zreta {v r : Nat} {n : String} (B : zB Z G cc nL own (some (.object n)) p s m args meth c) (hW : zW Z G s H locs μ) (hf : some (v, μ) = some (r, μ')) (hdg : decode cc pc = .ok (.areturn, 1)) : W p l e R s m args below meth c H locs 0 0 (MQ below (zQ Z G (some (.ref (zad G r))) μ') args s 0 0 (zAd Z G)) (F0 m pc ls [.ref (zad G v)]) := by
  cases hf
  exact W.aret B.1 B.2.1 B.2.2.2.2.2.2.1 (Or.inl ⟨n, rfl⟩) (Or.inr ⟨_, rfl⟩) (fun t ht _ => ⟨rfl, by rw [ht]; exact hW.1, hW.2.F ht⟩) hW.2.2.2 hdg B.2.2.2.2.2.2.2
end ZL
/-- the pure side: a check, a call, a branch -/
def zck {α : Type} (b : Bool) (x : Option α) : Option α := if b = true then x else none
def zin (i : Int32) (n : Nat) : Bool := decide (¬ (i < 0 ∨ n ≤ i.toNatClampNeg))
def zcp (sp dp n : Int32) (n0 n1 : Nat) : Bool := decide (¬ sp < 0 ∧ ¬ dp < 0 ∧ ¬ n < 0 ∧ sp.toNatClampNeg + n.toNatClampNeg ≤ n0 ∧ dp.toNatClampNeg + n.toNatClampNeg ≤ n1)
def zbind {α β : Type} (x : Option (α × Mem)) (f : α → Mem → Option β) : Option β := match x with
  | none => none
  | some (a, μ) => f a μ
theorem zck_s {α : Type} {b : Bool} {x : Option α} {z : α} (h : zck b x = some z) : b = true ∧ x = some z := by
  unfold zck at h
  split at h
  · exact ⟨by assumption, h⟩
  · cases h
theorem zin_s {i : Int32} {n : Nat} (h : zin i n = true) : vp_in i n := show ¬ (i < 0 ∨ n ≤ i.toNatClampNeg) from of_decide_eq_true h
theorem zcp_s {sp dp n : Int32} {n0 n1 : Nat} (h : zcp sp dp n n0 n1 = true) : zcpOk sp dp n n0 n1 := show ¬ sp < 0 ∧ ¬ dp < 0 ∧ ¬ n < 0 ∧ sp.toNatClampNeg + n.toNatClampNeg ≤ n0 ∧ dp.toNatClampNeg + n.toNatClampNeg ≤ n1 from of_decide_eq_true h
theorem zbind_s {α β : Type} {x : Option (α × Mem)} {f : α → Mem → Option β} {z : β} (h : zbind x f = some z) : ∃ (a : α) (μ : Mem), x = some (a, μ) ∧ f a μ = some z := by
  cases x with
  | none => cases h
  | some q => exact ⟨q.1, q.2, rfl, h⟩
theorem zip {c : Prop} [Decidable c] {α : Type} {a b z : α} (h : c) (hf : (if c then a else b) = z) : a = z := by rw [if_pos h] at hf; exact hf
theorem zinn {c : Prop} [Decidable c] {α : Type} {a b z : α} (h : ¬ c) (hf : (if c then a else b) = z) : b = z := by rw [if_neg h] at hf; exact hf
def zFU : Nat := 400
end
section
/-! ===== rows that carry the pure side along ===== -/
def zlet {α β : Type} (x : α) (f : α → β) : β := f x
def zbo (v : Int32) : Bool := decide (v = 0 ∨ v = 1)
theorem zbo_s {v : Int32} (h : zbo v = true) : narrow .boolean (.int v) = .int v := by
  have h : v = 0 ∨ v = 1 := of_decide_eq_true h
  rcases h with rfl | rfl
  · exact narrow_b0
  · exact narrow_b1
theorem zle8 {n : Nat} (h : Nat.ble n 8 = true) : n ≤ 8 := Nat.le_of_ble_eq_true h
theorem zsw {α : Type} {x k : Int32} {a b z : α} (hf : (if x = k then a else b) = z) : (x = k ∧ a = z) ∨ (¬ x = k ∧ b = z) := by
  by_cases c : x = k
  · exact Or.inl ⟨c, zip c hf⟩
  · exact Or.inr ⟨c, zinn c hf⟩
theorem zne {x k : Int32} {i : Int} (c : ¬ x = k) (hk : k.toInt = i) : x.toInt ≠ i := fun h => c (Int32.toInt_inj.mp (h.trans hk.symm))
section ZR
variable {Z : ZS} {G : ZG} {p : Program} {l : Launch} {e : Env} {R : Room} {s : State} {m : MethodId} {args : Array Value} {below : List Frame} {meth : Method} {c : Code} {H : Heap} {locs : List Loc} {cells slots : Nat} {Q : State → Prop}
variable {cc : ByteArray} {nL pc tgt : Nat} {off : Int} {own : String} {rt : Option FieldType} {ls : Array Slot} {rest st0 : List Value} {μ μ' : Mem} {α : Type} {A1 A2 z : α}
theorem yif_eq {x : Int32} (B : zB Z G cc nL own rt p s m args meth c) (hdg : decode cc pc = .ok (.ifCond .eq off, 3)) (ht : (pc : Int) + off = (tgt : Int)) (hf : (if x = 0 then A1 else A2) = z) (kt : A1 = z → W p l e R s m args below meth c H locs cells slots Q (F0 m tgt ls rest)) (kf : A2 = z → W p l e R s m args below meth c H locs cells slots Q (F0 m (pc + 3) ls rest)) : W p l e R s m args below meth c H locs cells slots Q (F0 m pc ls (.int x :: rest)) := lv_if_eq B.1 B.2.1 hdg ht (fun c => kt (zip c hf)) (fun c => kf (zinn c hf))
theorem yif_ne {x : Int32} (B : zB Z G cc nL own rt p s m args meth c) (hdg : decode cc pc = .ok (.ifCond .ne off, 3)) (ht : (pc : Int) + off = (tgt : Int)) (hf : (if x = 0 then A2 else A1) = z) (kt : A1 = z → W p l e R s m args below meth c H locs cells slots Q (F0 m tgt ls rest)) (kf : A2 = z → W p l e R s m args below meth c H locs cells slots Q (F0 m (pc + 3) ls rest)) : W p l e R s m args below meth c H locs cells slots Q (F0 m pc ls (.int x :: rest)) := lv_if_ne B.1 B.2.1 hdg ht (fun c => kt (zinn c hf)) (fun c => kf (zip c hf))
theorem yif_lt {x : Int32} (B : zB Z G cc nL own rt p s m args meth c) (hdg : decode cc pc = .ok (.ifCond .lt off, 3)) (ht : (pc : Int) + off = (tgt : Int)) (hf : (if x < 0 then A1 else A2) = z) (kt : A1 = z → W p l e R s m args below meth c H locs cells slots Q (F0 m tgt ls rest)) (kf : A2 = z → W p l e R s m args below meth c H locs cells slots Q (F0 m (pc + 3) ls rest)) : W p l e R s m args below meth c H locs cells slots Q (F0 m pc ls (.int x :: rest)) := lv_if_lt B.1 B.2.1 hdg ht (fun c => kt (zip c hf)) (fun c => kf (zinn c hf))
theorem yif_ge {x : Int32} (B : zB Z G cc nL own rt p s m args meth c) (hdg : decode cc pc = .ok (.ifCond .ge off, 3)) (ht : (pc : Int) + off = (tgt : Int)) (hf : (if 0 ≤ x then A1 else A2) = z) (kt : A1 = z → W p l e R s m args below meth c H locs cells slots Q (F0 m tgt ls rest)) (kf : A2 = z → W p l e R s m args below meth c H locs cells slots Q (F0 m (pc + 3) ls rest)) : W p l e R s m args below meth c H locs cells slots Q (F0 m pc ls (.int x :: rest)) := lv_if_ge B.1 B.2.1 hdg ht (fun c => kt (zip c hf)) (fun c => kf (zinn c hf))
theorem yif_gt {x : Int32} (B : zB Z G cc nL own rt p s m args meth c) (hdg : decode cc pc = .ok (.ifCond .gt off, 3)) (ht : (pc : Int) + off = (tgt : Int)) (hf : (if 0 < x then A1 else A2) = z) (kt : A1 = z → W p l e R s m args below meth c H locs cells slots Q (F0 m tgt ls rest)) (kf : A2 = z → W p l e R s m args below meth c H locs cells slots Q (F0 m (pc + 3) ls rest)) : W p l e R s m args below meth c H locs cells slots Q (F0 m pc ls (.int x :: rest)) := lv_if_gt B.1 B.2.1 hdg ht (fun c => kt (zip c hf)) (fun c => kf (zinn c hf))
theorem yif_le {x : Int32} (B : zB Z G cc nL own rt p s m args meth c) (hdg : decode cc pc = .ok (.ifCond .le off, 3)) (ht : (pc : Int) + off = (tgt : Int)) (hf : (if x ≤ 0 then A1 else A2) = z) (kt : A1 = z → W p l e R s m args below meth c H locs cells slots Q (F0 m tgt ls rest)) (kf : A2 = z → W p l e R s m args below meth c H locs cells slots Q (F0 m (pc + 3) ls rest)) : W p l e R s m args below meth c H locs cells slots Q (F0 m pc ls (.int x :: rest)) := lv_if_le B.1 B.2.1 hdg ht (fun c => kt (zip c hf)) (fun c => kf (zinn c hf))
theorem yic_eq {x y : Int32} (B : zB Z G cc nL own rt p s m args meth c) (hdg : decode cc pc = .ok (.if_icmp .eq off, 3)) (ht : (pc : Int) + off = (tgt : Int)) (hf : (if x = y then A1 else A2) = z) (kt : A1 = z → W p l e R s m args below meth c H locs cells slots Q (F0 m tgt ls rest)) (kf : A2 = z → W p l e R s m args below meth c H locs cells slots Q (F0 m (pc + 3) ls rest)) : W p l e R s m args below meth c H locs cells slots Q (F0 m pc ls (.int y :: .int x :: rest)) := lv_icmp_eq B.1 B.2.1 hdg ht (fun c => kt (zip c hf)) (fun c => kf (zinn c hf))
theorem yic_ne {x y : Int32} (B : zB Z G cc nL own rt p s m args meth c) (hdg : decode cc pc = .ok (.if_icmp .ne off, 3)) (ht : (pc : Int) + off = (tgt : Int)) (hf : (if x = y then A2 else A1) = z) (kt : A1 = z → W p l e R s m args below meth c H locs cells slots Q (F0 m tgt ls rest)) (kf : A2 = z → W p l e R s m args below meth c H locs cells slots Q (F0 m (pc + 3) ls rest)) : W p l e R s m args below meth c H locs cells slots Q (F0 m pc ls (.int y :: .int x :: rest)) := lv_icmp_ne B.1 B.2.1 hdg ht (fun c => kt (zinn c hf)) (fun c => kf (zip c hf))
theorem yic_lt {x y : Int32} (B : zB Z G cc nL own rt p s m args meth c) (hdg : decode cc pc = .ok (.if_icmp .lt off, 3)) (ht : (pc : Int) + off = (tgt : Int)) (hf : (if x < y then A1 else A2) = z) (kt : A1 = z → W p l e R s m args below meth c H locs cells slots Q (F0 m tgt ls rest)) (kf : A2 = z → W p l e R s m args below meth c H locs cells slots Q (F0 m (pc + 3) ls rest)) : W p l e R s m args below meth c H locs cells slots Q (F0 m pc ls (.int y :: .int x :: rest)) := lv_icmp_lt B.1 B.2.1 hdg ht (fun c => kt (zip c hf)) (fun c => kf (zinn c hf))
theorem yic_ge {x y : Int32} (B : zB Z G cc nL own rt p s m args meth c) (hdg : decode cc pc = .ok (.if_icmp .ge off, 3)) (ht : (pc : Int) + off = (tgt : Int)) (hf : (if y ≤ x then A1 else A2) = z) (kt : A1 = z → W p l e R s m args below meth c H locs cells slots Q (F0 m tgt ls rest)) (kf : A2 = z → W p l e R s m args below meth c H locs cells slots Q (F0 m (pc + 3) ls rest)) : W p l e R s m args below meth c H locs cells slots Q (F0 m pc ls (.int y :: .int x :: rest)) := lv_icmp_ge B.1 B.2.1 hdg ht (fun c => kt (zip c hf)) (fun c => kf (zinn c hf))
theorem yic_gt {x y : Int32} (B : zB Z G cc nL own rt p s m args meth c) (hdg : decode cc pc = .ok (.if_icmp .gt off, 3)) (ht : (pc : Int) + off = (tgt : Int)) (hf : (if y < x then A1 else A2) = z) (kt : A1 = z → W p l e R s m args below meth c H locs cells slots Q (F0 m tgt ls rest)) (kf : A2 = z → W p l e R s m args below meth c H locs cells slots Q (F0 m (pc + 3) ls rest)) : W p l e R s m args below meth c H locs cells slots Q (F0 m pc ls (.int y :: .int x :: rest)) := lv_icmp_gt B.1 B.2.1 hdg ht (fun c => kt (zip c hf)) (fun c => kf (zinn c hf))
theorem yic_le {x y : Int32} (B : zB Z G cc nL own rt p s m args meth c) (hdg : decode cc pc = .ok (.if_icmp .le off, 3)) (ht : (pc : Int) + off = (tgt : Int)) (hf : (if x ≤ y then A1 else A2) = z) (kt : A1 = z → W p l e R s m args below meth c H locs cells slots Q (F0 m tgt ls rest)) (kf : A2 = z → W p l e R s m args below meth c H locs cells slots Q (F0 m (pc + 3) ls rest)) : W p l e R s m args below meth c H locs cells slots Q (F0 m pc ls (.int y :: .int x :: rest)) := lv_icmp_le B.1 B.2.1 hdg ht (fun c => kt (zip c hf)) (fun c => kf (zinn c hf))
theorem ytop {x : Int32} {f : Int32 → α} (hf : zlet x f = z) (k : ∀ y : Int32, f y = z → W p l e R s m args below meth c H locs cells slots Q (F0 m pc ls (.int y :: rest))) : W p l e R s m args below meth c H locs cells slots Q (F0 m pc ls (.int x :: rest)) := k x hf
theorem ytopl {x : Int64} {f : Int64 → α} (hf : zlet x f = z) (k : ∀ y : Int64, f y = z → W p l e R s m args below meth c H locs cells slots Q (F0 m pc ls (.long y :: rest))) : W p l e R s m args below meth c H locs cells slots Q (F0 m pc ls (.long x :: rest)) := k x hf
theorem ytabin {dflt lo hi : Int} {offs : Array Int} {len : Nat} {x k : Int32} (B : zB Z G cc nL own rt p s m args meth c) (hdg : decode cc pc = .ok (.tableswitch dflt lo hi offs, len)) (hc : x = k) (h1 : ¬ k.toInt < lo) (h2 : ¬ hi < k.toInt) (ho : offs[(k.toInt - lo).toNat]? = some off) (ht : (pc : Int) + off = (tgt : Int))
    (kk : W p l e R s m args below meth c H locs cells slots Q (F0 m tgt ls rest)) : W p l e R s m args below meth c H locs cells slots Q (F0 m pc ls (.int x :: rest)) := lv_tableIn B.1 B.2.1 hdg (by rw [hc]; exact h1) (by rw [hc]; exact h2) (by rw [hc]; exact ho) ht kk
theorem ytabout {dflt lo hi : Int} {offs : Array Int} {len : Nat} {x : Int32} (B : zB Z G cc nL own rt p s m args meth c) (hdg : decode cc pc = .ok (.tableswitch dflt lo hi offs, len)) (h : x.toInt < lo ∨ hi < x.toInt) (ht : (pc : Int) + dflt = (tgt : Int))
    (kk : W p l e R s m args below meth c H locs cells slots Q (F0 m tgt ls rest)) : W p l e R s m args below meth c H locs cells slots Q (F0 m pc ls (.int x :: rest)) := lv_tableOut B.1 B.2.1 hdg h ht kk
theorem yald {a t n : Nat} {i : Int32} {A1 : Option α} {z : α} (B : zB Z G cc nL own rt p s m args meth c) (hW : zW Z G s H locs μ) (ha : zAr Z a t n .int) (hdg : decode cc pc = .ok (.iaload, 1)) (hf : zck (zin i n) A1 = some z)
    (kk : A1 = some z → W p l e R s m args below meth c H locs cells slots Q (F0 m (pc + 1) ls (.int (μ.1 a i.toNatClampNeg) :: rest))) : W p l e R s m args below meth c H locs cells slots Q (F0 m pc ls (.int i :: .ref (zad G a) :: rest)) := zald B hW ha (zin_s (zck_s hf).1) hdg (kk (zck_s hf).2)
theorem ybld {a t n : Nat} {i : Int32} {A1 : Option α} {z : α} (B : zB Z G cc nL own rt p s m args meth c) (hW : zW Z G s H locs μ) (ha : zAr Z a t n .byte) (hdg : decode cc pc = .ok (.baload, 1)) (hf : zck (zin i n) A1 = some z)
    (kk : A1 = some z → W p l e R s m args below meth c H locs cells slots Q (F0 m (pc + 1) ls (.int (μ.1 a i.toNatClampNeg) :: rest))) : W p l e R s m args below meth c H locs cells slots Q (F0 m pc ls (.int i :: .ref (zad G a) :: rest)) := zbld B hW ha (zin_s (zck_s hf).1) hdg (kk (zck_s hf).2)
theorem yzld {a t n : Nat} {i : Int32} {A1 : Option α} {z : α} (B : zB Z G cc nL own rt p s m args meth c) (hW : zW Z G s H locs μ) (ha : zAr Z a t n .boolean) (hdg : decode cc pc = .ok (.baload, 1)) (hf : zck (zin i n) A1 = some z)
    (kk : A1 = some z → W p l e R s m args below meth c H locs cells slots Q (F0 m (pc + 1) ls (.int (μ.1 a i.toNatClampNeg) :: rest))) : W p l e R s m args below meth c H locs cells slots Q (F0 m pc ls (.int i :: .ref (zad G a) :: rest)) := zzld B hW ha (zin_s (zck_s hf).1) hdg (kk (zck_s hf).2)
theorem yast {a t n : Nat} {i x : Int32} {f : Mem → Option α} {z : α} (B : zB Z G cc nL own rt p s m args meth c) (hW : zW Z G s H locs μ) (ha : zAr Z a t n .int) (hdg : decode cc pc = .ok (.iastore, 1)) (hf : zck (zin i n) (zlet (zI μ a i.toNatClampNeg x) f) = some z)
    (kk : ∀ (μ1 : Mem) (H1 : Heap) (locs1 : List Loc), zW Z G s H1 locs1 μ1 → f μ1 = some z → W p l e R s m args below meth c H1 locs1 cells slots Q (F0 m (pc + 1) ls rest)) : W p l e R s m args below meth c H locs cells slots Q (F0 m pc ls (.int x :: .int i :: .ref (zad G a) :: rest)) := zast B hW ha (zin_s (zck_s hf).1) hdg (fun H1 locs1 hW => kk _ H1 locs1 hW (zck_s hf).2)
theorem ybst {a t n : Nat} {i x : Int32} {f : Mem → Option α} {z : α} (B : zB Z G cc nL own rt p s m args meth c) (hW : zW Z G s H locs μ) (ha : zAr Z a t n .byte) (hdg : decode cc pc = .ok (.bastore, 1)) (hf : zck (zin i n) (zlet (zI μ a i.toNatClampNeg (vp_nar .byte x)) f) = some z)
    (kk : ∀ (μ1 : Mem) (H1 : Heap) (locs1 : List Loc), zW Z G s H1 locs1 μ1 → f μ1 = some z → W p l e R s m args below meth c H1 locs1 cells slots Q (F0 m (pc + 1) ls rest)) : W p l e R s m args below meth c H locs cells slots Q (F0 m pc ls (.int x :: .int i :: .ref (zad G a) :: rest)) := zbst B hW ha (zin_s (zck_s hf).1) hdg (fun H1 locs1 hW => kk _ H1 locs1 hW (zck_s hf).2)
theorem yzst {a t n : Nat} {i x : Int32} {f : Mem → Option α} {z : α} (B : zB Z G cc nL own rt p s m args meth c) (hW : zW Z G s H locs μ) (ha : zAr Z a t n .boolean) (hdg : decode cc pc = .ok (.bastore, 1)) (hf : zck (zin i n) (zlet (zI μ a i.toNatClampNeg (vp_nar .boolean x)) f) = some z)
    (kk : ∀ (μ1 : Mem) (H1 : Heap) (locs1 : List Loc), zW Z G s H1 locs1 μ1 → f μ1 = some z → W p l e R s m args below meth c H1 locs1 cells slots Q (F0 m (pc + 1) ls rest)) : W p l e R s m args below meth c H locs cells slots Q (F0 m pc ls (.int x :: .int i :: .ref (zad G a) :: rest)) := zzst B hW ha (zin_s (zck_s hf).1) hdg (fun H1 locs1 hW => kk _ H1 locs1 hW (zck_s hf).2)
theorem ylen {a t n : Nat} {ty : FieldType} {v : Int32} (B : zB Z G cc nL own rt p s m args meth c) (hW : zW Z G s H locs μ) (ha : zAr Z a t n ty) (hv : Int32.ofNat n = v) (hdg : decode cc pc = .ok (.arraylength, 1))
    (kk : W p l e R s m args below meth c H locs cells slots Q (F0 m (pc + 1) ls (.int v :: rest))) : W p l e R s m args below meth c H locs cells slots Q (F0 m pc ls (.ref (zad G a) :: rest)) :=
  va_alen B.1 B.2.1 B.2.2.2.2.2.1.1 hW.1 a t (by rw [zws_at ha.1, ha.2.1]) (zT_at ha.2.2) hv hdg kk
theorem yrem {x y : Int32} {A1 : Option α} {z : α} (B : zB Z G cc nL own rt p s m args meth c) (hdg : decode cc pc = .ok (.irem, 1)) (hf : zck (decide (¬ y = 0)) A1 = some z)
    (kk : A1 = some z → W p l e R s m args below meth c H locs cells slots Q (F0 m (pc + 1) ls (.int (x - x / y * y) :: rest))) : W p l e R s m args below meth c H locs cells slots Q (F0 m pc ls (.int y :: .int x :: rest)) := lv_irem B.1 B.2.1 hdg (of_decide_eq_true (zck_s hf).1) (kk (zck_s hf).2)
theorem ydiv {x y : Int32} {A1 : Option α} {z : α} (B : zB Z G cc nL own rt p s m args meth c) (hdg : decode cc pc = .ok (.idiv, 1)) (hf : zck (decide (¬ y = 0)) A1 = some z)
    (kk : A1 = some z → W p l e R s m args below meth c H locs cells slots Q (F0 m (pc + 1) ls (.int (x / y) :: rest))) : W p l e R s m args below meth c H locs cells slots Q (F0 m pc ls (.int y :: .int x :: rest)) := lv_idiv B.1 B.2.1 hdg (of_decide_eq_true (zck_s hf).1) (kk (zck_s hf).2)
theorem yreml {x y : Int64} {A1 : Option α} {z : α} (B : zB Z G cc nL own rt p s m args meth c) (hdg : decode cc pc = .ok (.lrem, 1)) (hf : zck (decide (¬ y = 0)) A1 = some z)
    (kk : A1 = some z → W p l e R s m args below meth c H locs cells slots Q (F0 m (pc + 1) ls (.long (x - x / y * y) :: rest))) : W p l e R s m args below meth c H locs cells slots Q (F0 m pc ls (.long y :: .long x :: rest)) := lv_lrem B.1 B.2.1 hdg (of_decide_eq_true (zck_s hf).1) (kk (zck_s hf).2)
theorem ydivl {x y : Int64} {A1 : Option α} {z : α} (B : zB Z G cc nL own rt p s m args meth c) (hdg : decode cc pc = .ok (.ldiv, 1)) (hf : zck (decide (¬ y = 0)) A1 = some z)
    (kk : A1 = some z → W p l e R s m args below meth c H locs cells slots Q (F0 m (pc + 1) ls (.long (x / y) :: rest))) : W p l e R s m args below meth c H locs cells slots Q (F0 m pc ls (.long y :: .long x :: rest)) := lv_ldiv B.1 B.2.1 hdg (of_decide_eq_true (zck_s hf).1) (kk (zck_s hf).2)
theorem ycopy {a0 a1 t n0 n1 index : Nat} {sp dp n : Int32} {f : Mem → Option α} {z : α} (B : zB Z G cc nL own rt p s m args meth c) (hW : zW Z G s H locs μ) (hl : ls.size = nL) (ha0 : zAr Z a0 t n0 .int) (ha1 : zAr Z a1 t n1 .int)
    (hlink : Cond.methodLink own index arraycopyName ∈ zTT) (hnat : Cond.native arraycopyName ∈ zTT) (hstat : Cond.static arraycopyName ∈ zTT) (hini : Cond.initialized "java/lang/System" ∈ zTT)
    (hframes : 1 ≤ R.frames) (hlocals : (rest.map fun v => v.category).sum + (nativeFrameWords "java/lang/System" "arraycopy" 5 + 11) ≤ R.locals) (hdg : decode cc pc = .ok (.invokestatic index, 3)) (hf : zck (zcp sp dp n n0 n1) (zlet (zA μ a1 (va_cpy (μ.1 a0) (μ.1 a1) sp.toNatClampNeg dp.toNatClampNeg n.toNatClampNeg)) f) = some z)
    (kk : ∀ (μ1 : Mem) (H1 : Heap) (locs1 : List Loc), zW Z G s H1 locs1 μ1 → f μ1 = some z → W p l e R s m args below meth c H1 locs1 cells slots Q (F0 m (pc + 3) ls rest)) : W p l e R s m args below meth c H locs cells slots Q (F0 m pc ls (.int n :: .int dp :: .ref (zad G a1) :: .int sp :: .ref (zad G a0) :: rest)) :=
  zcopy B hW hl ha0 ha1 (zcp_s (zck_s hf).1) hlink hnat hstat hini hframes hlocals hdg (fun H1 locs1 hW => kk _ H1 locs1 hW (zck_s hf).2)
theorem yretb {v r : Int32} (B : zB Z G cc nL own (some .boolean) p s m args meth c) (hW : zW Z G s H locs μ) (hf : zck (zbo v) (some (v, μ)) = some (r, μ')) (hdg : decode cc pc = .ok (.ireturn, 1)) : W p l e R s m args below meth c H locs 0 0 (MQ below (zQ Z G (some (.int r)) μ') args s 0 0 (zAd Z G)) (F0 m pc ls [.int v]) := zretz B hW (zbo_s (zck_s hf).1) (zck_s hf).2 hdg
/-- calls -/
theorem zcallV {y : MethodName} {bytes : ByteArray} {maxL d index o ci : Nat} {ret : Option FieldType} {q : vw_C} {As : List Value} {ov : Option Value} (B : zB Z G cc nL own rt p s m args meth c) (hW : zW Z G s H locs μ) (hl : ls.size = nL) (ho : zO Z o ci) (hc : vwCl[ci]? = some q) (hM : zC Z G l y bytes maxL ret d (.ref (zad G o) :: As) μ ov μ')
    (kl : Cond.methodLink own index y ∈ zTT) (ki : Cond.instanceMethod y ∈ zTT) (ks : Cond.selects q.1 y y ∈ zTT) (kn : Cond.initialized y.cls ∈ zTT) (kc : Cond.code y bytes maxL ret ∈ zTT) (hy : y.cls ≠ "java/lang/invoke/MethodHandle" ∧ y.cls ≠ "java/lang/invoke/VarHandle" ∧ (parseMethodDescriptor y.desc).map (fun d => d.parameters.length) = some As.length)
    (hR : d + 1 ≤ R.frames ∧ 8 + (maxL + 11) + 64 * d ≤ R.locals) (hcs : cells ≤ R.cells ∧ slots ≤ R.slots) (hst : (rest.map fun v => v.category).sum ≤ 8) (hstack : st0 = As.reverse ++ .ref (zad G o) :: rest) (hdg : decode cc pc = .ok (.invokevirtual index, 3))
    (kk : ∀ (H1 : Heap) (locs1 : List Loc), zW Z G s H1 locs1 μ' → W p l e R s m args below meth c H1 locs1 cells slots Q (F0 m (pc + 3) ls (ov.toList ++ rest))) : W p l e R s m args below meth c H locs cells slots Q (F0 m pc ls st0) := by
  obtain ⟨hx, hb, hml, hown, hts, hK, -⟩ := B
  exact zrun (va_runV (As := As) (rest := rest) ⟨hx, hb, hml, hown, hts⟩ hM ⟨callB_of As.length hts (zgood kc) rfl rfl rfl (hts _ kn) (hts _ kl) hy hR, hts _ ki, hts _ ks⟩ (zpreV hK hW ho hc) rfl rfl hl hstack (lv_room hst) hdg hcs) hW kk
theorem zcallS {y : MethodName} {bytes : ByteArray} {maxL d index : Nat} {ret : Option FieldType} {As : List Value} {ov : Option Value} (B : zB Z G cc nL own rt p s m args meth c) (hW : zW Z G s H locs μ) (hl : ls.size = nL) (hM : zC Z G l y bytes maxL ret d As μ ov μ')
    (kl : Cond.methodLink own index y ∈ zTT) (ki : Cond.static y ∈ zTT) (kn : Cond.initialized y.cls ∈ zTT) (kc : Cond.code y bytes maxL ret ∈ zTT) (hy : y.cls ≠ "java/lang/invoke/MethodHandle" ∧ y.cls ≠ "java/lang/invoke/VarHandle" ∧ (parseMethodDescriptor y.desc).map (fun d => d.parameters.length) = some As.length)
    (hR : d + 1 ≤ R.frames ∧ 8 + (maxL + 11) + 64 * d ≤ R.locals) (hcs : cells ≤ R.cells ∧ slots ≤ R.slots) (hst : (rest.map fun v => v.category).sum ≤ 8) (hstack : st0 = As.reverse ++ rest) (hdg : decode cc pc = .ok (.invokestatic index, 3))
    (kk : ∀ (H1 : Heap) (locs1 : List Loc), zW Z G s H1 locs1 μ' → W p l e R s m args below meth c H1 locs1 cells slots Q (F0 m (pc + 3) ls (ov.toList ++ rest))) : W p l e R s m args below meth c H locs cells slots Q (F0 m pc ls st0) := by
  obtain ⟨hx, hb, hml, hown, hts, hK, -⟩ := B
  exact zrun (va_runS (As := As) (rest := rest) ⟨hx, hb, hml, hown, hts⟩ hM ⟨callB_of As.length hts (zgood kc) rfl rfl rfl (hts _ kn) (hts _ kl) hy hR, hts _ ki⟩ (zpreS hK hW) rfl rfl hl hstack (lv_room hst) hdg hcs) hW kk
theorem zcallSN {y : MethodName} {bytes : ByteArray} {maxL d index : Nat} {host : String} {ret : Option FieldType} {As : List Value} {ov : Option Value} (B : zB Z G cc nL own rt p s m args meth c) (hW : zW Z G s H locs μ) (hfl : zfl Z = true) (hl : ls.size = nL) (hM : zC Z G l y bytes maxL ret d As μ ov μ')
    (kl : (own, index, y, host) ∈ zNM) (ki : Cond.static y ∈ zTT) (kn : Cond.initialized y.cls ∈ zTT) (kc : Cond.code y bytes maxL ret ∈ zTT) (hy : y.cls ≠ "java/lang/invoke/MethodHandle" ∧ y.cls ≠ "java/lang/invoke/VarHandle" ∧ (parseMethodDescriptor y.desc).map (fun d => d.parameters.length) = some As.length)
    (hR : d + 1 ≤ R.frames ∧ 8 + (maxL + 11) + 64 * d ≤ R.locals) (hcs : cells ≤ R.cells ∧ slots ≤ R.slots) (hst : (rest.map fun v => v.category).sum ≤ 8) (hstack : st0 = As.reverse ++ rest) (hdg : decode cc pc = .ok (.invokestatic index, 3))
    (kk : ∀ (H1 : Heap) (locs1 : List Loc), zW Z G s H1 locs1 μ' → W p l e R s m args below meth c H1 locs1 cells slots Q (F0 m (pc + 3) ls (ov.toList ++ rest))) : W p l e R s m args below meth c H locs cells slots Q (F0 m pc ls st0) := by
  obtain ⟨hx, hb, hml, hown, hts, hK, -⟩ := B
  exact zrun (va_runSN (As := As) (rest := rest) (host := host) ⟨hx, hb, hml, hown, hts⟩ hM ⟨va_cnB As.length hts (zgood kc) rfl rfl rfl ((hK.2.2 hfl).1.2.1 _ kl) (hts _ kn) hy hR, hts _ ki, trivial⟩ (zpreS hK hW) rfl rfl hl hstack (lv_room hst) hdg hcs) hW kk
theorem zcallU {y : MethodName} {bytes : ByteArray} {maxL d index o ci : Nat} {ret : Option FieldType} {q : vw_C} {As : List Value} {ov : Option Value} (B : zB Z G cc nL own rt p s m args meth c) (hW : zW Z G s H locs μ) (hl : ls.size = nL) (ho : zO Z o ci) (hc : vwCl[ci]? = some q) (hM : zC Z G l y bytes maxL ret d (.ref (zad G o) :: As) μ ov μ')
    (hT : GoodIn zTT (va_wsSU own index y (.code y bytes maxL ret :: zTT))) (hy : y.name ≠ "<init>" ∧ (parseMethodDescriptor y.desc).map (fun d => d.parameters.length) = some As.length)
    (hR : d + 1 ≤ R.frames ∧ 8 + (maxL + 11) + 64 * d ≤ R.locals) (hcs : cells ≤ R.cells ∧ slots ≤ R.slots) (hst : (rest.map fun v => v.category).sum ≤ 8) (hstack : st0 = As.reverse ++ .ref (zad G o) :: rest) (hdg : decode cc pc = .ok (.invokespecial index, 3))
    (kk : ∀ (H1 : Heap) (locs1 : List Loc), zW Z G s H1 locs1 μ' → W p l e R s m args below meth c H1 locs1 cells slots Q (F0 m (pc + 3) ls (ov.toList ++ rest))) : W p l e R s m args below meth c H locs cells slots Q (F0 m pc ls st0) := by
  obtain ⟨hx, hb, hml, hown, hts, hK, -⟩ := B
  exact zrun (va_runSU (As := As) (rest := rest) (hK.1.1 ci q hc).2 ⟨hx, hb, hml, hown, hts⟩ hM (va_cwSU As.length hts hT rfl rfl rfl hy hR) (zpreV hK hW ho hc) rfl rfl hl hstack (lv_room hst) hdg hcs) hW kk
theorem zcallO {x y : MethodName} {bytes b0 : ByteArray} {maxL m0 d index o ci : Nat} {ret r0 : Option FieldType} {owner : String} {q : vw_C} {As : List Value} {ov : Option Value} (B : zB Z G cc nL own rt p s m args meth c) (hW : zW Z G s H locs μ) (hl : ls.size = nL) (ho : zO Z o ci) (hc : vwCl[ci]? = some q) (hM : zC Z G l y bytes maxL ret d (.ref (zad G o) :: As) μ ov μ')
    (hT : GoodIn zTT (va_wsO own index q.1 owner x y (.code y bytes maxL ret :: zTT))) (h0 : Cond.code ⟨owner, x.name, x.desc⟩ b0 m0 r0 ∈ zTT) (hy : owner ≠ "java/lang/invoke/MethodHandle" ∧ owner ≠ "java/lang/invoke/VarHandle" ∧ (parseMethodDescriptor x.desc).map (fun d => d.parameters.length) = some As.length)
    (hR : d + 1 ≤ R.frames ∧ 8 + (maxL + 11) + 64 * d ≤ R.locals) (hcs : cells ≤ R.cells ∧ slots ≤ R.slots) (hst : (rest.map fun v => v.category).sum ≤ 8) (hstack : st0 = As.reverse ++ .ref (zad G o) :: rest) (hdg : decode cc pc = .ok (.invokevirtual index, 3))
    (kk : ∀ (H1 : Heap) (locs1 : List Loc), zW Z G s H1 locs1 μ' → W p l e R s m args below meth c H1 locs1 cells slots Q (F0 m (pc + 3) ls (ov.toList ++ rest))) : W p l e R s m args below meth c H locs cells slots Q (F0 m pc ls st0) := by
  obtain ⟨hx, hb, hml, hown, hts, hK, -⟩ := B
  exact zrun (va_runU (As := As) (rest := rest) ⟨hx, hb, hml, hown, hts⟩ hM (va_cwO As.length hts hT rfl rfl rfl h0 hy hR) (zpreV hK hW ho hc) rfl rfl hl hstack (lv_room hst) hdg hcs) hW kk
end ZR
theorem zRok {d' d maxL : Nat} (h : d' < d) (hm : maxL ≤ 45) : d' + 1 ≤ (zR d).frames ∧ 8 + (maxL + 11) + 64 * d' ≤ (zR d).locals := by
  simp only [zR]; omega
theorem zcs0 {d : Nat} : 0 ≤ (zR d).cells ∧ 0 ≤ (zR d).slots := ⟨Nat.zero_le _, Nat.zero_le _⟩
end
