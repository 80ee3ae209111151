section
/-- a private method of a class that the tables say can be made, by its rows of tables_1 -/
def lw_okq (q : MethodName × Nat) : Prop := (q.1.cls ≠ "java/lang/invoke/MethodHandle" ∧ q.1.cls ≠ "java/lang/invoke/VarHandle") ∧ Cond.instantiable q.1.cls q.2 ∈ tables_1 ∧ Cond.privateMethod q.1 ∈ tables_1 ∧ Cond.instanceMethod q.1 ∈ tables_1
theorem lw_p0 : lw_okq (⟨"StarSenders", "refuseBad", "()I"⟩, 5) := ⟨⟨by decide +kernel, by decide +kernel⟩, List.mem_of_getElem? (i := 14) (by decide +kernel), List.mem_of_getElem? (i := 328) (by decide +kernel), List.mem_of_getElem? (i := 329) (by decide +kernel)⟩
theorem lw_p1 : lw_okq (⟨"StarSenders", "setting", "(I)I"⟩, 5) := ⟨⟨by decide +kernel, by decide +kernel⟩, List.mem_of_getElem? (i := 14) (by decide +kernel), List.mem_of_getElem? (i := 332) (by decide +kernel), List.mem_of_getElem? (i := 333) (by decide +kernel)⟩
theorem lw_p2 : lw_okq (⟨"StarSenders", "isGate", "(I)Z"⟩, 5) := ⟨⟨by decide +kernel, by decide +kernel⟩, List.mem_of_getElem? (i := 14) (by decide +kernel), List.mem_of_getElem? (i := 340) (by decide +kernel), List.mem_of_getElem? (i := 341) (by decide +kernel)⟩
theorem lw_p3 : lw_okq (⟨"StarSenders", "isSender", "(I)Z"⟩, 5) := ⟨⟨by decide +kernel, by decide +kernel⟩, List.mem_of_getElem? (i := 14) (by decide +kernel), List.mem_of_getElem? (i := 348) (by decide +kernel), List.mem_of_getElem? (i := 349) (by decide +kernel)⟩
theorem lw_p4 : lw_okq (⟨"StarSenders", "refuseFull", "()I"⟩, 5) := ⟨⟨by decide +kernel, by decide +kernel⟩, List.mem_of_getElem? (i := 14) (by decide +kernel), List.mem_of_getElem? (i := 389) (by decide +kernel), List.mem_of_getElem? (i := 390) (by decide +kernel)⟩
theorem lw_p5 : lw_okq (⟨"StarSenders$Net", "spread", "(II)I"⟩, 16) := ⟨⟨by decide +kernel, by decide +kernel⟩, List.mem_of_getElem? (i := 22) (by decide +kernel), List.mem_of_getElem? (i := 401) (by decide +kernel), List.mem_of_getElem? (i := 402) (by decide +kernel)⟩
theorem lw_p6 : lw_okq (⟨"StarSenders", "refuseNo", "()I"⟩, 5) := ⟨⟨by decide +kernel, by decide +kernel⟩, List.mem_of_getElem? (i := 14) (by decide +kernel), List.mem_of_getElem? (i := 421) (by decide +kernel), List.mem_of_getElem? (i := 422) (by decide +kernel)⟩
theorem lw_p7 : lw_okq (⟨"StarSenders$Net", "refillBudgets", "()V"⟩, 16) := ⟨⟨by decide +kernel, by decide +kernel⟩, List.mem_of_getElem? (i := 22) (by decide +kernel), List.mem_of_getElem? (i := 437) (by decide +kernel), List.mem_of_getElem? (i := 438) (by decide +kernel)⟩
theorem lw_p8 : lw_okq (⟨"StarSenders$Net", "bringCopies", "()V"⟩, 16) := ⟨⟨by decide +kernel, by decide +kernel⟩, List.mem_of_getElem? (i := 22) (by decide +kernel), List.mem_of_getElem? (i := 441) (by decide +kernel), List.mem_of_getElem? (i := 442) (by decide +kernel)⟩
theorem lw_p9 : lw_okq (⟨"StarSenders$Net", "bring", "(I)V"⟩, 16) := ⟨⟨by decide +kernel, by decide +kernel⟩, List.mem_of_getElem? (i := 22) (by decide +kernel), List.mem_of_getElem? (i := 445) (by decide +kernel), List.mem_of_getElem? (i := 446) (by decide +kernel)⟩
theorem lw_p10 : lw_okq (⟨"StarSenders$Net", "closeWindows", "()I"⟩, 16) := ⟨⟨by decide +kernel, by decide +kernel⟩, List.mem_of_getElem? (i := 22) (by decide +kernel), List.mem_of_getElem? (i := 479) (by decide +kernel), List.mem_of_getElem? (i := 480) (by decide +kernel)⟩
theorem lw_p11 : lw_okq (⟨"StarSenders$Net", "takeJoining", "(ILStarSenders$Sender;)V"⟩, 16) := ⟨⟨by decide +kernel, by decide +kernel⟩, List.mem_of_getElem? (i := 22) (by decide +kernel), List.mem_of_getElem? (i := 483) (by decide +kernel), List.mem_of_getElem? (i := 484) (by decide +kernel)⟩
theorem lw_p12 : lw_okq (⟨"StarSenders$Net", "sendAnswer", "(ILStarSenders$Sender;)Z"⟩, 16) := ⟨⟨by decide +kernel, by decide +kernel⟩, List.mem_of_getElem? (i := 22) (by decide +kernel), List.mem_of_getElem? (i := 487) (by decide +kernel), List.mem_of_getElem? (i := 488) (by decide +kernel)⟩
theorem lw_p13 : lw_okq (⟨"StarSenders$Net", "takeLetter", "(ILStarSenders$Sender;)V"⟩, 16) := ⟨⟨by decide +kernel, by decide +kernel⟩, List.mem_of_getElem? (i := 22) (by decide +kernel), List.mem_of_getElem? (i := 499) (by decide +kernel), List.mem_of_getElem? (i := 500) (by decide +kernel)⟩
theorem lw_p14 : lw_okq (⟨"StarSenders$Windows", "gateBits", "(I)I"⟩, 5) := ⟨⟨by decide +kernel, by decide +kernel⟩, List.mem_of_getElem? (i := 70) (by decide +kernel), List.mem_of_getElem? (i := 573) (by decide +kernel), List.mem_of_getElem? (i := 574) (by decide +kernel)⟩
theorem lw_p15 : lw_okq (⟨"StarSenders$Text", "skipBlanks", "()V"⟩, 8) := ⟨⟨by decide +kernel, by decide +kernel⟩, List.mem_of_getElem? (i := 248) (by decide +kernel), List.mem_of_getElem? (i := 597) (by decide +kernel), List.mem_of_getElem? (i := 598) (by decide +kernel)⟩
def lw_privs_1 : List (MethodName × Nat) := [(⟨"StarSenders", "refuseBad", "()I"⟩, 5), (⟨"StarSenders", "setting", "(I)I"⟩, 5), (⟨"StarSenders", "isGate", "(I)Z"⟩, 5), (⟨"StarSenders", "isSender", "(I)Z"⟩, 5), (⟨"StarSenders", "refuseFull", "()I"⟩, 5), (⟨"StarSenders$Net", "spread", "(II)I"⟩, 16), (⟨"StarSenders", "refuseNo", "()I"⟩, 5), (⟨"StarSenders$Net", "refillBudgets", "()V"⟩, 16), (⟨"StarSenders$Net", "bringCopies", "()V"⟩, 16), (⟨"StarSenders$Net", "bring", "(I)V"⟩, 16), (⟨"StarSenders$Net", "closeWindows", "()I"⟩, 16), (⟨"StarSenders$Net", "takeJoining", "(ILStarSenders$Sender;)V"⟩, 16), (⟨"StarSenders$Net", "sendAnswer", "(ILStarSenders$Sender;)Z"⟩, 16), (⟨"StarSenders$Net", "takeLetter", "(ILStarSenders$Sender;)V"⟩, 16), (⟨"StarSenders$Windows", "gateBits", "(I)I"⟩, 5), (⟨"StarSenders$Text", "skipBlanks", "()V"⟩, 8)]
theorem lw_r1 : ∀ q ∈ lw_privs_1, lw_okq q := List.forall_mem_cons.mpr ⟨lw_p0, List.forall_mem_cons.mpr ⟨lw_p1, List.forall_mem_cons.mpr ⟨lw_p2, List.forall_mem_cons.mpr ⟨lw_p3, List.forall_mem_cons.mpr ⟨lw_p4, List.forall_mem_cons.mpr ⟨lw_p5, List.forall_mem_cons.mpr ⟨lw_p6, List.forall_mem_cons.mpr ⟨lw_p7, List.forall_mem_cons.mpr ⟨lw_p8, List.forall_mem_cons.mpr ⟨lw_p9, List.forall_mem_cons.mpr ⟨lw_p10, List.forall_mem_cons.mpr ⟨lw_p11, List.forall_mem_cons.mpr ⟨lw_p12, List.forall_mem_cons.mpr ⟨lw_p13, List.forall_mem_cons.mpr ⟨lw_p14, List.forall_mem_cons.mpr ⟨lw_p15, fun _ h => absurd h List.not_mem_nil⟩⟩⟩⟩⟩⟩⟩⟩⟩⟩⟩⟩⟩⟩⟩⟩
theorem lw_p16 : lw_okq (⟨"StarSenders$Text", "readOrder", "(II)Z"⟩, 8) := ⟨⟨by decide +kernel, by decide +kernel⟩, List.mem_of_getElem? (i := 248) (by decide +kernel), List.mem_of_getElem? (i := 601) (by decide +kernel), List.mem_of_getElem? (i := 602) (by decide +kernel)⟩
theorem lw_p17 : lw_okq (⟨"StarSenders$Text", "readFigure", "(I)I"⟩, 8) := ⟨⟨by decide +kernel, by decide +kernel⟩, List.mem_of_getElem? (i := 248) (by decide +kernel), List.mem_of_getElem? (i := 617) (by decide +kernel), List.mem_of_getElem? (i := 618) (by decide +kernel)⟩
theorem lw_p18 : lw_okq (⟨"StarSenders$Text", "isFigureNext", "()Z"⟩, 8) := ⟨⟨by decide +kernel, by decide +kernel⟩, List.mem_of_getElem? (i := 248) (by decide +kernel), List.mem_of_getElem? (i := 621) (by decide +kernel), List.mem_of_getElem? (i := 622) (by decide +kernel)⟩
theorem lw_p19 : lw_okq (⟨"StarSenders$Text", "readNumber", "(I)I"⟩, 8) := ⟨⟨by decide +kernel, by decide +kernel⟩, List.mem_of_getElem? (i := 248) (by decide +kernel), List.mem_of_getElem? (i := 628) (by decide +kernel), List.mem_of_getElem? (i := 629) (by decide +kernel)⟩
theorem lw_p20 : lw_okq (⟨"StarSenders$Text", "readEnd", "()Z"⟩, 8) := ⟨⟨by decide +kernel, by decide +kernel⟩, List.mem_of_getElem? (i := 248) (by decide +kernel), List.mem_of_getElem? (i := 632) (by decide +kernel), List.mem_of_getElem? (i := 633) (by decide +kernel)⟩
theorem lw_p21 : lw_okq (⟨"StarSenders", "carryOut", "(I)I"⟩, 5) := ⟨⟨by decide +kernel, by decide +kernel⟩, List.mem_of_getElem? (i := 14) (by decide +kernel), List.mem_of_getElem? (i := 636) (by decide +kernel), List.mem_of_getElem? (i := 637) (by decide +kernel)⟩
theorem lw_p22 : lw_okq (⟨"StarSendersModel", "bad", "()I"⟩, 44) := ⟨⟨by decide +kernel, by decide +kernel⟩, List.mem_of_getElem? (i := 654) (by decide +kernel), List.mem_of_getElem? (i := 800) (by decide +kernel), List.mem_of_getElem? (i := 801) (by decide +kernel)⟩
theorem lw_p23 : lw_okq (⟨"StarSendersModel", "begins", "()V"⟩, 44) := ⟨⟨by decide +kernel, by decide +kernel⟩, List.mem_of_getElem? (i := 654) (by decide +kernel), List.mem_of_getElem? (i := 804) (by decide +kernel), List.mem_of_getElem? (i := 805) (by decide +kernel)⟩
theorem lw_p24 : lw_okq (⟨"StarSendersModel", "comesNew", "(I)V"⟩, 44) := ⟨⟨by decide +kernel, by decide +kernel⟩, List.mem_of_getElem? (i := 654) (by decide +kernel), List.mem_of_getElem? (i := 808) (by decide +kernel), List.mem_of_getElem? (i := 809) (by decide +kernel)⟩
theorem lw_p25 : lw_okq (⟨"StarSendersModel", "isGate", "(I)Z"⟩, 44) := ⟨⟨by decide +kernel, by decide +kernel⟩, List.mem_of_getElem? (i := 654) (by decide +kernel), List.mem_of_getElem? (i := 816) (by decide +kernel), List.mem_of_getElem? (i := 817) (by decide +kernel)⟩
theorem lw_p26 : lw_okq (⟨"StarSendersModel", "gateBecomes", "(III)I"⟩, 44) := ⟨⟨by decide +kernel, by decide +kernel⟩, List.mem_of_getElem? (i := 654) (by decide +kernel), List.mem_of_getElem? (i := 820) (by decide +kernel), List.mem_of_getElem? (i := 821) (by decide +kernel)⟩
theorem lw_p27 : lw_okq (⟨"StarSendersModel", "isSender", "(I)Z"⟩, 44) := ⟨⟨by decide +kernel, by decide +kernel⟩, List.mem_of_getElem? (i := 654) (by decide +kernel), List.mem_of_getElem? (i := 828) (by decide +kernel), List.mem_of_getElem? (i := 829) (by decide +kernel)⟩
theorem lw_p28 : lw_okq (⟨"StarSendersModel", "isRoom", "()Z"⟩, 44) := ⟨⟨by decide +kernel, by decide +kernel⟩, List.mem_of_getElem? (i := 654) (by decide +kernel), List.mem_of_getElem? (i := 853) (by decide +kernel), List.mem_of_getElem? (i := 854) (by decide +kernel)⟩
theorem lw_p29 : lw_okq (⟨"StarSendersModel", "sendsNow", "(I)I"⟩, 44) := ⟨⟨by decide +kernel, by decide +kernel⟩, List.mem_of_getElem? (i := 654) (by decide +kernel), List.mem_of_getElem? (i := 857) (by decide +kernel), List.mem_of_getElem? (i := 858) (by decide +kernel)⟩
theorem lw_p30 : lw_okq (⟨"StarSendersModel", "goes", "(II)I"⟩, 44) := ⟨⟨by decide +kernel, by decide +kernel⟩, List.mem_of_getElem? (i := 654) (by decide +kernel), List.mem_of_getElem? (i := 861) (by decide +kernel), List.mem_of_getElem? (i := 862) (by decide +kernel)⟩
theorem lw_p31 : lw_okq (⟨"StarSendersModel", "marginOf", "(II)I"⟩, 44) := ⟨⟨by decide +kernel, by decide +kernel⟩, List.mem_of_getElem? (i := 654) (by decide +kernel), List.mem_of_getElem? (i := 865) (by decide +kernel), List.mem_of_getElem? (i := 866) (by decide +kernel)⟩
def lw_privs_2 : List (MethodName × Nat) := [(⟨"StarSenders$Text", "readOrder", "(II)Z"⟩, 8), (⟨"StarSenders$Text", "readFigure", "(I)I"⟩, 8), (⟨"StarSenders$Text", "isFigureNext", "()Z"⟩, 8), (⟨"StarSenders$Text", "readNumber", "(I)I"⟩, 8), (⟨"StarSenders$Text", "readEnd", "()Z"⟩, 8), (⟨"StarSenders", "carryOut", "(I)I"⟩, 5), (⟨"StarSendersModel", "bad", "()I"⟩, 44), (⟨"StarSendersModel", "begins", "()V"⟩, 44), (⟨"StarSendersModel", "comesNew", "(I)V"⟩, 44), (⟨"StarSendersModel", "isGate", "(I)Z"⟩, 44), (⟨"StarSendersModel", "gateBecomes", "(III)I"⟩, 44), (⟨"StarSendersModel", "isSender", "(I)Z"⟩, 44), (⟨"StarSendersModel", "isRoom", "()Z"⟩, 44), (⟨"StarSendersModel", "sendsNow", "(I)I"⟩, 44), (⟨"StarSendersModel", "goes", "(II)I"⟩, 44), (⟨"StarSendersModel", "marginOf", "(II)I"⟩, 44)]
theorem lw_r2 : ∀ q ∈ lw_privs_2, lw_okq q := List.forall_mem_cons.mpr ⟨lw_p16, List.forall_mem_cons.mpr ⟨lw_p17, List.forall_mem_cons.mpr ⟨lw_p18, List.forall_mem_cons.mpr ⟨lw_p19, List.forall_mem_cons.mpr ⟨lw_p20, List.forall_mem_cons.mpr ⟨lw_p21, List.forall_mem_cons.mpr ⟨lw_p22, List.forall_mem_cons.mpr ⟨lw_p23, List.forall_mem_cons.mpr ⟨lw_p24, List.forall_mem_cons.mpr ⟨lw_p25, List.forall_mem_cons.mpr ⟨lw_p26, List.forall_mem_cons.mpr ⟨lw_p27, List.forall_mem_cons.mpr ⟨lw_p28, List.forall_mem_cons.mpr ⟨lw_p29, List.forall_mem_cons.mpr ⟨lw_p30, List.forall_mem_cons.mpr ⟨lw_p31, fun _ h => absurd h List.not_mem_nil⟩⟩⟩⟩⟩⟩⟩⟩⟩⟩⟩⟩⟩⟩⟩⟩
theorem lw_p32 : lw_okq (⟨"StarSendersModel", "full", "()I"⟩, 44) := ⟨⟨by decide +kernel, by decide +kernel⟩, List.mem_of_getElem? (i := 654) (by decide +kernel), List.mem_of_getElem? (i := 869) (by decide +kernel), List.mem_of_getElem? (i := 870) (by decide +kernel)⟩
theorem lw_p33 : lw_okq (⟨"StarSendersModel", "no", "()I"⟩, 44) := ⟨⟨by decide +kernel, by decide +kernel⟩, List.mem_of_getElem? (i := 654) (by decide +kernel), List.mem_of_getElem? (i := 877) (by decide +kernel), List.mem_of_getElem? (i := 878) (by decide +kernel)⟩
theorem lw_p34 : lw_okq (⟨"StarSendersModel", "goBy", "(I)I"⟩, 44) := ⟨⟨by decide +kernel, by decide +kernel⟩, List.mem_of_getElem? (i := 654) (by decide +kernel), List.mem_of_getElem? (i := 889) (by decide +kernel), List.mem_of_getElem? (i := 890) (by decide +kernel)⟩
theorem lw_p35 : lw_okq (⟨"StarSendersModel", "oneTick", "()I"⟩, 44) := ⟨⟨by decide +kernel, by decide +kernel⟩, List.mem_of_getElem? (i := 654) (by decide +kernel), List.mem_of_getElem? (i := 893) (by decide +kernel), List.mem_of_getElem? (i := 894) (by decide +kernel)⟩
theorem lw_p36 : lw_okq (⟨"StarSendersModel", "allCome", "()V"⟩, 44) := ⟨⟨by decide +kernel, by decide +kernel⟩, List.mem_of_getElem? (i := 654) (by decide +kernel), List.mem_of_getElem? (i := 897) (by decide +kernel), List.mem_of_getElem? (i := 898) (by decide +kernel)⟩
theorem lw_p37 : lw_okq (⟨"StarSendersModel", "comes", "(I)V"⟩, 44) := ⟨⟨by decide +kernel, by decide +kernel⟩, List.mem_of_getElem? (i := 654) (by decide +kernel), List.mem_of_getElem? (i := 901) (by decide +kernel), List.mem_of_getElem? (i := 902) (by decide +kernel)⟩
theorem lw_p38 : lw_okq (⟨"StarSendersModel", "windowOf", "(II)I"⟩, 44) := ⟨⟨by decide +kernel, by decide +kernel⟩, List.mem_of_getElem? (i := 654) (by decide +kernel), List.mem_of_getElem? (i := 905) (by decide +kernel), List.mem_of_getElem? (i := 906) (by decide +kernel)⟩
theorem lw_p39 : lw_okq (⟨"StarSendersModel", "hearsIn", "(III)V"⟩, 44) := ⟨⟨by decide +kernel, by decide +kernel⟩, List.mem_of_getElem? (i := 654) (by decide +kernel), List.mem_of_getElem? (i := 909) (by decide +kernel), List.mem_of_getElem? (i := 910) (by decide +kernel)⟩
theorem lw_p40 : lw_okq (⟨"StarSendersModel", "isOn", "(II)Z"⟩, 44) := ⟨⟨by decide +kernel, by decide +kernel⟩, List.mem_of_getElem? (i := 654) (by decide +kernel), List.mem_of_getElem? (i := 913) (by decide +kernel), List.mem_of_getElem? (i := 914) (by decide +kernel)⟩
theorem lw_p41 : lw_okq (⟨"StarSendersModel", "far", "(II)I"⟩, 44) := ⟨⟨by decide +kernel, by decide +kernel⟩, List.mem_of_getElem? (i := 654) (by decide +kernel), List.mem_of_getElem? (i := 917) (by decide +kernel), List.mem_of_getElem? (i := 918) (by decide +kernel)⟩
theorem lw_p42 : lw_okq (⟨"StarSendersModel", "closes", "()I"⟩, 44) := ⟨⟨by decide +kernel, by decide +kernel⟩, List.mem_of_getElem? (i := 654) (by decide +kernel), List.mem_of_getElem? (i := 921) (by decide +kernel), List.mem_of_getElem? (i := 922) (by decide +kernel)⟩
theorem lw_p43 : lw_okq (⟨"StarSendersModel", "answers", "(I)Z"⟩, 44) := ⟨⟨by decide +kernel, by decide +kernel⟩, List.mem_of_getElem? (i := 654) (by decide +kernel), List.mem_of_getElem? (i := 925) (by decide +kernel), List.mem_of_getElem? (i := 926) (by decide +kernel)⟩
theorem lw_p44 : lw_okq (⟨"StarSendersModel", "gateBehind", "(I)I"⟩, 44) := ⟨⟨by decide +kernel, by decide +kernel⟩, List.mem_of_getElem? (i := 654) (by decide +kernel), List.mem_of_getElem? (i := 929) (by decide +kernel), List.mem_of_getElem? (i := 930) (by decide +kernel)⟩
theorem lw_p45 : lw_okq (⟨"StarSendersModel", "notes", "(II)V"⟩, 44) := ⟨⟨by decide +kernel, by decide +kernel⟩, List.mem_of_getElem? (i := 654) (by decide +kernel), List.mem_of_getElem? (i := 933) (by decide +kernel), List.mem_of_getElem? (i := 934) (by decide +kernel)⟩
theorem lw_p46 : lw_okq (⟨"StarSendersModel", "adapts", "(I)V"⟩, 44) := ⟨⟨by decide +kernel, by decide +kernel⟩, List.mem_of_getElem? (i := 654) (by decide +kernel), List.mem_of_getElem? (i := 937) (by decide +kernel), List.mem_of_getElem? (i := 938) (by decide +kernel)⟩
theorem lw_p47 : lw_okq (⟨"StarSendersModel", "reckons", "(I)V"⟩, 44) := ⟨⟨by decide +kernel, by decide +kernel⟩, List.mem_of_getElem? (i := 654) (by decide +kernel), List.mem_of_getElem? (i := 941) (by decide +kernel), List.mem_of_getElem? (i := 942) (by decide +kernel)⟩
def lw_privs_3 : List (MethodName × Nat) := [(⟨"StarSendersModel", "full", "()I"⟩, 44), (⟨"StarSendersModel", "no", "()I"⟩, 44), (⟨"StarSendersModel", "goBy", "(I)I"⟩, 44), (⟨"StarSendersModel", "oneTick", "()I"⟩, 44), (⟨"StarSendersModel", "allCome", "()V"⟩, 44), (⟨"StarSendersModel", "comes", "(I)V"⟩, 44), (⟨"StarSendersModel", "windowOf", "(II)I"⟩, 44), (⟨"StarSendersModel", "hearsIn", "(III)V"⟩, 44), (⟨"StarSendersModel", "isOn", "(II)Z"⟩, 44), (⟨"StarSendersModel", "far", "(II)I"⟩, 44), (⟨"StarSendersModel", "closes", "()I"⟩, 44), (⟨"StarSendersModel", "answers", "(I)Z"⟩, 44), (⟨"StarSendersModel", "gateBehind", "(I)I"⟩, 44), (⟨"StarSendersModel", "notes", "(II)V"⟩, 44), (⟨"StarSendersModel", "adapts", "(I)V"⟩, 44), (⟨"StarSendersModel", "reckons", "(I)V"⟩, 44)]
theorem lw_r3 : ∀ q ∈ lw_privs_3, lw_okq q := List.forall_mem_cons.mpr ⟨lw_p32, List.forall_mem_cons.mpr ⟨lw_p33, List.forall_mem_cons.mpr ⟨lw_p34, List.forall_mem_cons.mpr ⟨lw_p35, List.forall_mem_cons.mpr ⟨lw_p36, List.forall_mem_cons.mpr ⟨lw_p37, List.forall_mem_cons.mpr ⟨lw_p38, List.forall_mem_cons.mpr ⟨lw_p39, List.forall_mem_cons.mpr ⟨lw_p40, List.forall_mem_cons.mpr ⟨lw_p41, List.forall_mem_cons.mpr ⟨lw_p42, List.forall_mem_cons.mpr ⟨lw_p43, List.forall_mem_cons.mpr ⟨lw_p44, List.forall_mem_cons.mpr ⟨lw_p45, List.forall_mem_cons.mpr ⟨lw_p46, List.forall_mem_cons.mpr ⟨lw_p47, fun _ h => absurd h List.not_mem_nil⟩⟩⟩⟩⟩⟩⟩⟩⟩⟩⟩⟩⟩⟩⟩⟩
theorem lw_p48 : lw_okq (⟨"StarSendersModel", "firstGoes", "()V"⟩, 44) := ⟨⟨by decide +kernel, by decide +kernel⟩, List.mem_of_getElem? (i := 654) (by decide +kernel), List.mem_of_getElem? (i := 945) (by decide +kernel), List.mem_of_getElem? (i := 946) (by decide +kernel)⟩
theorem lw_p49 : lw_okq (⟨"StarSendersModel", "ofBy", "(II)I"⟩, 44) := ⟨⟨by decide +kernel, by decide +kernel⟩, List.mem_of_getElem? (i := 654) (by decide +kernel), List.mem_of_getElem? (i := 953) (by decide +kernel), List.mem_of_getElem? (i := 954) (by decide +kernel)⟩
theorem lw_p50 : lw_okq (⟨"StarSendersModel", "atBy", "(II)I"⟩, 44) := ⟨⟨by decide +kernel, by decide +kernel⟩, List.mem_of_getElem? (i := 654) (by decide +kernel), List.mem_of_getElem? (i := 969) (by decide +kernel), List.mem_of_getElem? (i := 970) (by decide +kernel)⟩
theorem lw_p51 : lw_okq (⟨"StarSendersModel", "allBy", "(I)I"⟩, 44) := ⟨⟨by decide +kernel, by decide +kernel⟩, List.mem_of_getElem? (i := 654) (by decide +kernel), List.mem_of_getElem? (i := 977) (by decide +kernel), List.mem_of_getElem? (i := 978) (by decide +kernel)⟩
theorem lw_p52 : lw_okq (⟨"StarSendersModel", "goesThrough", "(Z)I"⟩, 44) := ⟨⟨by decide +kernel, by decide +kernel⟩, List.mem_of_getElem? (i := 654) (by decide +kernel), List.mem_of_getElem? (i := 1001) (by decide +kernel), List.mem_of_getElem? (i := 1002) (by decide +kernel)⟩
theorem lw_p53 : lw_okq (⟨"StarSendersModel", "here", "()I"⟩, 44) := ⟨⟨by decide +kernel, by decide +kernel⟩, List.mem_of_getElem? (i := 654) (by decide +kernel), List.mem_of_getElem? (i := 1005) (by decide +kernel), List.mem_of_getElem? (i := 1006) (by decide +kernel)⟩
theorem lw_p54 : lw_okq (⟨"StarSendersModel", "readsOrder", "(I)Z"⟩, 44) := ⟨⟨by decide +kernel, by decide +kernel⟩, List.mem_of_getElem? (i := 654) (by decide +kernel), List.mem_of_getElem? (i := 1009) (by decide +kernel), List.mem_of_getElem? (i := 1010) (by decide +kernel)⟩
theorem lw_p55 : lw_okq (⟨"StarSendersModel", "readsNumbers", "(I)Z"⟩, 44) := ⟨⟨by decide +kernel, by decide +kernel⟩, List.mem_of_getElem? (i := 654) (by decide +kernel), List.mem_of_getElem? (i := 1016) (by decide +kernel), List.mem_of_getElem? (i := 1017) (by decide +kernel)⟩
theorem lw_p56 : lw_okq (⟨"StarSendersModel", "readsSender", "()Z"⟩, 44) := ⟨⟨by decide +kernel, by decide +kernel⟩, List.mem_of_getElem? (i := 654) (by decide +kernel), List.mem_of_getElem? (i := 1020) (by decide +kernel), List.mem_of_getElem? (i := 1021) (by decide +kernel)⟩
theorem lw_p57 : lw_okq (⟨"StarSendersModel", "readsOne", "(I)Z"⟩, 44) := ⟨⟨by decide +kernel, by decide +kernel⟩, List.mem_of_getElem? (i := 654) (by decide +kernel), List.mem_of_getElem? (i := 1024) (by decide +kernel), List.mem_of_getElem? (i := 1025) (by decide +kernel)⟩
theorem lw_p58 : lw_okq (⟨"StarSendersModel", "readsThird", "(I)Z"⟩, 44) := ⟨⟨by decide +kernel, by decide +kernel⟩, List.mem_of_getElem? (i := 654) (by decide +kernel), List.mem_of_getElem? (i := 1028) (by decide +kernel), List.mem_of_getElem? (i := 1029) (by decide +kernel)⟩
theorem lw_p59 : lw_okq (⟨"StarSendersModel", "readsNumber", "(I)Z"⟩, 44) := ⟨⟨by decide +kernel, by decide +kernel⟩, List.mem_of_getElem? (i := 654) (by decide +kernel), List.mem_of_getElem? (i := 1032) (by decide +kernel), List.mem_of_getElem? (i := 1033) (by decide +kernel)⟩
theorem lw_p60 : lw_okq (⟨"StarSendersModel", "readsGate", "()Z"⟩, 44) := ⟨⟨by decide +kernel, by decide +kernel⟩, List.mem_of_getElem? (i := 654) (by decide +kernel), List.mem_of_getElem? (i := 1036) (by decide +kernel), List.mem_of_getElem? (i := 1037) (by decide +kernel)⟩
theorem lw_p61 : lw_okq (⟨"StarSendersModel", "doesOrder", "(I)I"⟩, 44) := ⟨⟨by decide +kernel, by decide +kernel⟩, List.mem_of_getElem? (i := 654) (by decide +kernel), List.mem_of_getElem? (i := 1040) (by decide +kernel), List.mem_of_getElem? (i := 1041) (by decide +kernel)⟩
theorem lw_p62 : lw_okq (⟨"StarSendersModel", "toldBy", "(I)I"⟩, 44) := ⟨⟨by decide +kernel, by decide +kernel⟩, List.mem_of_getElem? (i := 654) (by decide +kernel), List.mem_of_getElem? (i := 1048) (by decide +kernel), List.mem_of_getElem? (i := 1049) (by decide +kernel)⟩
def lw_privs_4 : List (MethodName × Nat) := [(⟨"StarSendersModel", "firstGoes", "()V"⟩, 44), (⟨"StarSendersModel", "ofBy", "(II)I"⟩, 44), (⟨"StarSendersModel", "atBy", "(II)I"⟩, 44), (⟨"StarSendersModel", "allBy", "(I)I"⟩, 44), (⟨"StarSendersModel", "goesThrough", "(Z)I"⟩, 44), (⟨"StarSendersModel", "here", "()I"⟩, 44), (⟨"StarSendersModel", "readsOrder", "(I)Z"⟩, 44), (⟨"StarSendersModel", "readsNumbers", "(I)Z"⟩, 44), (⟨"StarSendersModel", "readsSender", "()Z"⟩, 44), (⟨"StarSendersModel", "readsOne", "(I)Z"⟩, 44), (⟨"StarSendersModel", "readsThird", "(I)Z"⟩, 44), (⟨"StarSendersModel", "readsNumber", "(I)Z"⟩, 44), (⟨"StarSendersModel", "readsGate", "()Z"⟩, 44), (⟨"StarSendersModel", "doesOrder", "(I)I"⟩, 44), (⟨"StarSendersModel", "toldBy", "(I)I"⟩, 44)]
theorem lw_r4 : ∀ q ∈ lw_privs_4, lw_okq q := List.forall_mem_cons.mpr ⟨lw_p48, List.forall_mem_cons.mpr ⟨lw_p49, List.forall_mem_cons.mpr ⟨lw_p50, List.forall_mem_cons.mpr ⟨lw_p51, List.forall_mem_cons.mpr ⟨lw_p52, List.forall_mem_cons.mpr ⟨lw_p53, List.forall_mem_cons.mpr ⟨lw_p54, List.forall_mem_cons.mpr ⟨lw_p55, List.forall_mem_cons.mpr ⟨lw_p56, List.forall_mem_cons.mpr ⟨lw_p57, List.forall_mem_cons.mpr ⟨lw_p58, List.forall_mem_cons.mpr ⟨lw_p59, List.forall_mem_cons.mpr ⟨lw_p60, List.forall_mem_cons.mpr ⟨lw_p61, List.forall_mem_cons.mpr ⟨lw_p62, fun _ h => absurd h List.not_mem_nil⟩⟩⟩⟩⟩⟩⟩⟩⟩⟩⟩⟩⟩⟩⟩
def lw_privs : List (MethodName × Nat) := lw_privs_1 ++ (lw_privs_2 ++ (lw_privs_3 ++ (lw_privs_4)))
def lw_tbl : List Cond := k2_sels lw_privs ++ tables_1
theorem lw_privs_ok : ∀ q ∈ lw_privs, lw_okq q := by
  show ∀ q ∈ lw_privs_1 ++ (lw_privs_2 ++ (lw_privs_3 ++ (lw_privs_4))), lw_okq q
  exact List.forall_mem_append.mpr ⟨lw_r1, List.forall_mem_append.mpr ⟨lw_r2, List.forall_mem_append.mpr ⟨lw_r3, lw_r4⟩⟩⟩
end
section
def RX0 : String := "StarSenders$Copies"
def TX0 : u_T := fun k => match k with
  | 0 => ("StarSenders$Copies", "sender", "[I", true)
  | 1 => ("StarSenders$Copies", "letter", "[I", true)
  | 2 => ("StarSenders$Copies", "gate", "[I", true)
  | 3 => ("StarSenders$Copies", "margin", "[I", true)
  | 4 => ("StarSenders$Copies", "due", "[I", true)
  | _ => ("StarSenders$Copies", "count", "I", false)
def tyX0 : Nat → FieldType := fun k => match k with
  | 0 => .array .int
  | 1 => .array .int
  | 2 => .array .int
  | 3 => .array .int
  | 4 => .array .int
  | _ => .int
theorem nmX0 : ∀ a, a < 6 → ∀ b, b < 6 → a ≠ b → (TX0 a).2.1 ≠ (TX0 b).2.1 := by decide +kernel
theorem tyX0_ok : ∀ k, k < 6 → parseFieldDescriptor (TX0 k).2.2.1 = some (tyX0 k) := by decide +kernel
abbrev cX0_init : ByteArray := prog_2_method_1_code
def yX0_init : MethodName := ⟨RX0, "<init>", "()V"⟩
abbrev cX0_add : ByteArray := prog_2_method_2_code
def yX0_add : MethodName := ⟨RX0, "add", "(IIIII)V"⟩
abbrev cX0_move : ByteArray := prog_2_method_3_code
def yX0_move : MethodName := ⟨RX0, "move", "(II)V"⟩
def RX1 : String := "StarSenders$Gate"
def TX1 : u_T := fun k => match k with
  | 0 => ("StarSenders$Gate", "lag", "I", false)
  | 1 => ("StarSenders$Gate", "budget", "I", false)
  | 2 => ("StarSenders$Gate", "spent", "I", false)
  | 3 => ("StarSenders$Gate", "sentOn", "I", false)
  | 4 => ("StarSenders$Gate", "answers", "I", false)
  | _ => ("StarSenders$Gate", "best", "I", false)
def tyX1 : Nat → FieldType := fun k => match k with
  | 0 => .int
  | 1 => .int
  | 2 => .int
  | 3 => .int
  | 4 => .int
  | _ => .int
theorem nmX1 : ∀ a, a < 6 → ∀ b, b < 6 → a ≠ b → (TX1 a).2.1 ≠ (TX1 b).2.1 := by decide +kernel
theorem tyX1_ok : ∀ k, k < 6 → parseFieldDescriptor (TX1 k).2.2.1 = some (tyX1 k) := by decide +kernel
abbrev cX1_init : ByteArray := prog_3_method_1_code
def yX1_init : MethodName := ⟨RX1, "<init>", "()V"⟩
abbrev cX1_becomeNew : ByteArray := prog_3_method_2_code
def yX1_becomeNew : MethodName := ⟨RX1, "becomeNew", "()V"⟩
abbrev cX1_left : ByteArray := prog_3_method_3_code
def yX1_left : MethodName := ⟨RX1, "left", "()I"⟩
abbrev cX1_value : ByteArray := prog_3_method_4_code
def yX1_value : MethodName := ⟨RX1, "value", "(I)I"⟩
def RX2 : String := "StarSenders$Net"
def TX2 : u_T := fun k => match k with
  | 0 => ("StarSenders$Net", "senderCount", "I", false)
  | 1 => ("StarSenders$Net", "gateCount", "I", false)
  | 2 => ("StarSenders$Net", "windowTicks", "I", false)
  | 3 => ("StarSenders$Net", "tick", "I", false)
  | 4 => ("StarSenders$Net", "gains", "[[I", true)
  | 5 => ("StarSenders$Net", "senders", "[LStarSenders$Sender;", true)
  | 6 => ("StarSenders$Net", "gates", "[LStarSenders$Gate;", true)
  | 7 => ("StarSenders$Net", "copies", "LStarSenders$Copies;", true)
  | 8 => ("StarSenders$Net", "windows", "LStarSenders$Windows;", true)
  | 9 => ("StarSenders$Net", "tuning", "LStarSenders$Tuning;", true)
  | 10 => ("StarSenders$Net", "lettersTaken", "I", false)
  | 11 => ("StarSenders$Net", "joiningsTaken", "I", false)
  | 12 => ("StarSenders$Net", "replays", "I", false)
  | 13 => ("StarSenders$Net", "answers", "I", false)
  | 14 => ("StarSenders$Net", "lost", "I", false)
  | _ => ("StarSenders$Net", "merged", "I", false)
def tyX2 : Nat → FieldType := fun k => match k with
  | 0 => .int
  | 1 => .int
  | 2 => .int
  | 3 => .int
  | 4 => .array (.array .int)
  | 5 => .array (.object "StarSenders$Sender")
  | 6 => .array (.object "StarSenders$Gate")
  | 7 => .object "StarSenders$Copies"
  | 8 => .object "StarSenders$Windows"
  | 9 => .object "StarSenders$Tuning"
  | 10 => .int
  | 11 => .int
  | 12 => .int
  | 13 => .int
  | 14 => .int
  | _ => .int
theorem nmX2 : ∀ a, a < 16 → ∀ b, b < 16 → a ≠ b → (TX2 a).2.1 ≠ (TX2 b).2.1 := by decide +kernel
theorem tyX2_ok : ∀ k, k < 16 → parseFieldDescriptor (TX2 k).2.2.1 = some (tyX2 k) := by decide +kernel
abbrev cX2_init : ByteArray := prog_4_method_1_code
def yX2_init : MethodName := ⟨RX2, "<init>", "()V"⟩
abbrev cX2_startAnew : ByteArray := prog_4_method_2_code
def yX2_startAnew : MethodName := ⟨RX2, "startAnew", "()V"⟩
abbrev cX2_drawGains : ByteArray := prog_4_method_3_code
def yX2_drawGains : MethodName := ⟨RX2, "drawGains", "(I)I"⟩
abbrev cX2_isFull : ByteArray := prog_4_method_4_code
def yX2_isFull : MethodName := ⟨RX2, "isFull", "()Z"⟩
abbrev cX2_marginAt : ByteArray := prog_4_method_5_code
def yX2_marginAt : MethodName := ⟨RX2, "marginAt", "(II)I"⟩
abbrev cX2_sendNext : ByteArray := prog_4_method_6_code
def yX2_sendNext : MethodName := ⟨RX2, "sendNext", "(I)I"⟩
abbrev cX2_sendLastAgain : ByteArray := prog_4_method_7_code
def yX2_sendLastAgain : MethodName := ⟨RX2, "sendLastAgain", "(I)I"⟩
abbrev cX2_spread : ByteArray := prog_4_method_8_code
def yX2_spread : MethodName := ⟨RX2, "spread", "(II)I"⟩
abbrev cX2_passTicks : ByteArray := prog_4_method_9_code
def yX2_passTicks : MethodName := ⟨RX2, "passTicks", "(I)I"⟩
abbrev cX2_refillBudgets : ByteArray := prog_4_method_10_code
def yX2_refillBudgets : MethodName := ⟨RX2, "refillBudgets", "()V"⟩
abbrev cX2_bringCopies : ByteArray := prog_4_method_11_code
def yX2_bringCopies : MethodName := ⟨RX2, "bringCopies", "()V"⟩
abbrev cX2_bring : ByteArray := prog_4_method_12_code
def yX2_bring : MethodName := ⟨RX2, "bring", "(I)V"⟩
abbrev cX2_closeWindows : ByteArray := prog_4_method_13_code
def yX2_closeWindows : MethodName := ⟨RX2, "closeWindows", "()I"⟩
abbrev cX2_takeJoining : ByteArray := prog_4_method_14_code
def yX2_takeJoining : MethodName := ⟨RX2, "takeJoining", "(ILStarSenders$Sender;)V"⟩
abbrev cX2_takeLetter : ByteArray := prog_4_method_15_code
def yX2_takeLetter : MethodName := ⟨RX2, "takeLetter", "(ILStarSenders$Sender;)V"⟩
abbrev cX2_sendAnswer : ByteArray := prog_4_method_16_code
def yX2_sendAnswer : MethodName := ⟨RX2, "sendAnswer", "(ILStarSenders$Sender;)Z"⟩
abbrev cX2_value : ByteArray := prog_4_method_17_code
def yX2_value : MethodName := ⟨RX2, "value", "(I)I"⟩
def RX3 : String := "StarSenders$Sender"
def TX3 : u_T := fun k => match k with
  | 0 => ("StarSenders$Sender", "rate", "I", false)
  | 1 => ("StarSenders$Sender", "power", "I", false)
  | 2 => ("StarSenders$Sender", "counter", "I", false)
  | 3 => ("StarSenders$Sender", "joined", "I", false)
  | 4 => ("StarSenders$Sender", "sentLast", "I", false)
  | 5 => ("StarSenders$Sender", "last", "I", false)
  | 6 => ("StarSenders$Sender", "margins", "[I", true)
  | 7 => ("StarSenders$Sender", "noted", "I", false)
  | 8 => ("StarSenders$Sender", "taken", "I", false)
  | _ => ("StarSenders$Sender", "gaps", "I", false)
def tyX3 : Nat → FieldType := fun k => match k with
  | 0 => .int
  | 1 => .int
  | 2 => .int
  | 3 => .int
  | 4 => .int
  | 5 => .int
  | 6 => .array .int
  | 7 => .int
  | 8 => .int
  | _ => .int
theorem nmX3 : ∀ a, a < 10 → ∀ b, b < 10 → a ≠ b → (TX3 a).2.1 ≠ (TX3 b).2.1 := by decide +kernel
theorem tyX3_ok : ∀ k, k < 10 → parseFieldDescriptor (TX3 k).2.2.1 = some (tyX3 k) := by decide +kernel
abbrev cX3_init : ByteArray := prog_5_method_1_code
def yX3_init : MethodName := ⟨RX3, "<init>", "()V"⟩
abbrev cX3_becomeNew : ByteArray := prog_5_method_2_code
def yX3_becomeNew : MethodName := ⟨RX3, "becomeNew", "()V"⟩
abbrev cX3_becomeUnknown : ByteArray := prog_5_method_3_code
def yX3_becomeUnknown : MethodName := ⟨RX3, "becomeUnknown", "()V"⟩
abbrev cX3_hasSent : ByteArray := prog_5_method_4_code
def yX3_hasSent : MethodName := ⟨RX3, "hasSent", "()Z"⟩
abbrev cX3_nextLetter : ByteArray := prog_5_method_5_code
def yX3_nextLetter : MethodName := ⟨RX3, "nextLetter", "()I"⟩
abbrev cX3_aheadOfLast : ByteArray := prog_5_method_6_code
def yX3_aheadOfLast : MethodName := ⟨RX3, "aheadOfLast", "(I)I"⟩
abbrev cX3_isDue : ByteArray := prog_5_method_7_code
def yX3_isDue : MethodName := ⟨RX3, "isDue", "(I)Z"⟩
abbrev cX3_takeLetter : ByteArray := prog_5_method_8_code
def yX3_takeLetter : MethodName := ⟨RX3, "takeLetter", "(II)V"⟩
abbrev cX3_greatestMargin : ByteArray := prog_5_method_9_code
def yX3_greatestMargin : MethodName := ⟨RX3, "greatestMargin", "()I"⟩
abbrev cX3_change : ByteArray := prog_5_method_10_code
def yX3_change : MethodName := ⟨RX3, "change", "(II)I"⟩
abbrev cX3_value : ByteArray := prog_5_method_11_code
def yX3_value : MethodName := ⟨RX3, "value", "(I)I"⟩
def RX4 : String := "StarSenders$Text"
def TX4 : u_T := fun k => match k with
  | 0 => ("StarSenders$Text", "bytes", "[I", true)
  | 1 => ("StarSenders$Text", "length", "I", false)
  | 2 => ("StarSenders$Text", "orderKind", "[I", true)
  | 3 => ("StarSenders$Text", "orderSender", "[I", true)
  | 4 => ("StarSenders$Text", "orderGate", "[I", true)
  | 5 => ("StarSenders$Text", "orderNumber", "[I", true)
  | 6 => ("StarSenders$Text", "orders", "I", false)
  | _ => ("StarSenders$Text", "place", "I", false)
def tyX4 : Nat → FieldType := fun k => match k with
  | 0 => .array .int
  | 1 => .int
  | 2 => .array .int
  | 3 => .array .int
  | 4 => .array .int
  | 5 => .array .int
  | 6 => .int
  | _ => .int
theorem nmX4 : ∀ a, a < 8 → ∀ b, b < 8 → a ≠ b → (TX4 a).2.1 ≠ (TX4 b).2.1 := by decide +kernel
theorem tyX4_ok : ∀ k, k < 8 → parseFieldDescriptor (TX4 k).2.2.1 = some (tyX4 k) := by decide +kernel
abbrev cX4_init : ByteArray := prog_6_method_1_code
def yX4_init : MethodName := ⟨RX4, "<init>", "()V"⟩
abbrev cX4_readOrders : ByteArray := prog_6_method_2_code
def yX4_readOrders : MethodName := ⟨RX4, "readOrders", "(II)I"⟩
abbrev cX4_readOrder : ByteArray := prog_6_method_3_code
def yX4_readOrder : MethodName := ⟨RX4, "readOrder", "(II)Z"⟩
abbrev cX4_isKind : ByteArray := prog_6_method_4_code
def yX4_isKind : MethodName := ⟨RX4, "isKind", "(I)Z"⟩
abbrev cX4_hasSender : ByteArray := prog_6_method_5_code
def yX4_hasSender : MethodName := ⟨RX4, "hasSender", "(I)Z"⟩
abbrev cX4_hasGate : ByteArray := prog_6_method_6_code
def yX4_hasGate : MethodName := ⟨RX4, "hasGate", "(I)Z"⟩
abbrev cX4_hasNumber : ByteArray := prog_6_method_7_code
def yX4_hasNumber : MethodName := ⟨RX4, "hasNumber", "(I)Z"⟩
abbrev cX4_mostOfNumber : ByteArray := prog_6_method_8_code
def yX4_mostOfNumber : MethodName := ⟨RX4, "mostOfNumber", "(I)I"⟩
abbrev cX4_skipBlanks : ByteArray := prog_6_method_9_code
def yX4_skipBlanks : MethodName := ⟨RX4, "skipBlanks", "()V"⟩
abbrev cX4_isFigureNext : ByteArray := prog_6_method_10_code
def yX4_isFigureNext : MethodName := ⟨RX4, "isFigureNext", "()Z"⟩
abbrev cX4_readFigure : ByteArray := prog_6_method_11_code
def yX4_readFigure : MethodName := ⟨RX4, "readFigure", "(I)I"⟩
abbrev cX4_readNumber : ByteArray := prog_6_method_12_code
def yX4_readNumber : MethodName := ⟨RX4, "readNumber", "(I)I"⟩
abbrev cX4_readEnd : ByteArray := prog_6_method_13_code
def yX4_readEnd : MethodName := ⟨RX4, "readEnd", "()Z"⟩
def RX5 : String := "StarSenders$Tuning"
def TX5 : u_T := fun k => match k with
  | 0 => ("StarSenders$Tuning", "rate", "I", false)
  | _ => ("StarSenders$Tuning", "power", "I", false)
def tyX5 : Nat → FieldType := fun k => match k with
  | 0 => .int
  | _ => .int
theorem nmX5 : ∀ a, a < 2 → ∀ b, b < 2 → a ≠ b → (TX5 a).2.1 ≠ (TX5 b).2.1 := by decide +kernel
theorem tyX5_ok : ∀ k, k < 2 → parseFieldDescriptor (TX5 k).2.2.1 = some (tyX5 k) := by decide +kernel
abbrev cX5_init : ByteArray := prog_7_method_1_code
def yX5_init : MethodName := ⟨RX5, "<init>", "()V"⟩
abbrev cX5_find : ByteArray := prog_7_method_2_code
def yX5_find : MethodName := ⟨RX5, "find", "(III)V"⟩
def RX6 : String := "StarSenders$Windows"
def TX6 : u_T := fun k => match k with
  | 0 => ("StarSenders$Windows", "sender", "[I", true)
  | 1 => ("StarSenders$Windows", "letter", "[I", true)
  | 2 => ("StarSenders$Windows", "opened", "[I", true)
  | 3 => ("StarSenders$Windows", "heard", "[I", true)
  | _ => ("StarSenders$Windows", "count", "I", false)
def tyX6 : Nat → FieldType := fun k => match k with
  | 0 => .array .int
  | 1 => .array .int
  | 2 => .array .int
  | 3 => .array .int
  | _ => .int
theorem nmX6 : ∀ a, a < 5 → ∀ b, b < 5 → a ≠ b → (TX6 a).2.1 ≠ (TX6 b).2.1 := by decide +kernel
theorem tyX6_ok : ∀ k, k < 5 → parseFieldDescriptor (TX6 k).2.2.1 = some (tyX6 k) := by decide +kernel
abbrev cX6_init : ByteArray := prog_8_method_1_code
def yX6_init : MethodName := ⟨RX6, "<init>", "()V"⟩
abbrev cX6_find : ByteArray := prog_8_method_2_code
def yX6_find : MethodName := ⟨RX6, "find", "(II)I"⟩
abbrev cX6_open : ByteArray := prog_8_method_3_code
def yX6_open : MethodName := ⟨RX6, "open", "(III)V"⟩
abbrev cX6_hear : ByteArray := prog_8_method_4_code
def yX6_hear : MethodName := ⟨RX6, "hear", "(III)V"⟩
abbrev cX6_heardAt : ByteArray := prog_8_method_5_code
def yX6_heardAt : MethodName := ⟨RX6, "heardAt", "(II)I"⟩
abbrev cX6_bestGate : ByteArray := prog_8_method_6_code
def yX6_bestGate : MethodName := ⟨RX6, "bestGate", "(I)I"⟩
abbrev cX6_dropFirst : ByteArray := prog_8_method_7_code
def yX6_dropFirst : MethodName := ⟨RX6, "dropFirst", "(I)V"⟩
abbrev cX6_value : ByteArray := prog_8_method_8_code
def yX6_value : MethodName := ⟨RX6, "value", "(II)I"⟩
abbrev cX6_gateBits : ByteArray := prog_8_method_9_code
def yX6_gateBits : MethodName := ⟨RX6, "gateBits", "(I)I"⟩
def RX7 : String := "StarSenders"
def TX7 : u_T := fun k => match k with
  | 0 => ("StarSenders", "net", "LStarSenders$Net;", true)
  | 1 => ("StarSenders", "text", "LStarSenders$Text;", true)
  | 2 => ("StarSenders", "badCount", "I", false)
  | 3 => ("StarSenders", "noCount", "I", false)
  | _ => ("StarSenders", "fullCount", "I", false)
def tyX7 : Nat → FieldType := fun k => match k with
  | 0 => .object "StarSenders$Net"
  | 1 => .object "StarSenders$Text"
  | 2 => .int
  | 3 => .int
  | _ => .int
theorem nmX7 : ∀ a, a < 5 → ∀ b, b < 5 → a ≠ b → (TX7 a).2.1 ≠ (TX7 b).2.1 := by decide +kernel
theorem tyX7_ok : ∀ k, k < 5 → parseFieldDescriptor (TX7 k).2.2.1 = some (tyX7 k) := by decide +kernel
abbrev cX7_init : ByteArray := prog_1_method_1_code
def yX7_init : MethodName := ⟨RX7, "<init>", "()V"⟩
abbrev cX7_sets : ByteArray := prog_1_method_2_code
def yX7_sets : MethodName := ⟨RX7, "sets", "(II)I"⟩
abbrev cX7_gate : ByteArray := prog_1_method_3_code
def yX7_gate : MethodName := ⟨RX7, "gate", "(III)I"⟩
abbrev cX7_gain : ByteArray := prog_1_method_4_code
def yX7_gain : MethodName := ⟨RX7, "gain", "(III)I"⟩
abbrev cX7_draw : ByteArray := prog_1_method_5_code
def yX7_draw : MethodName := ⟨RX7, "draw", "(I)I"⟩
abbrev cX7_sender : ByteArray := prog_1_method_6_code
def yX7_sender : MethodName := ⟨RX7, "sender", "(III)I"⟩
abbrev cX7_sends : ByteArray := prog_1_method_7_code
def yX7_sends : MethodName := ⟨RX7, "sends", "(I)I"⟩
abbrev cX7_again : ByteArray := prog_1_method_8_code
def yX7_again : MethodName := ⟨RX7, "again", "(I)I"⟩
abbrev cX7_ticks : ByteArray := prog_1_method_9_code
def yX7_ticks : MethodName := ⟨RX7, "ticks", "(I)I"⟩
abbrev cX7_renews : ByteArray := prog_1_method_10_code
def yX7_renews : MethodName := ⟨RX7, "renews", "(I)I"⟩
abbrev cX7_of : ByteArray := prog_1_method_11_code
def yX7_of : MethodName := ⟨RX7, "of", "(II)I"⟩
abbrev cX7_margin : ByteArray := prog_1_method_12_code
def yX7_margin : MethodName := ⟨RX7, "margin", "(II)I"⟩
abbrev cX7_hears : ByteArray := prog_1_method_13_code
def yX7_hears : MethodName := ⟨RX7, "hears", "(II)I"⟩
abbrev cX7_at : ByteArray := prog_1_method_14_code
def yX7_at : MethodName := ⟨RX7, "at", "(II)I"⟩
abbrev cX7_all : ByteArray := prog_1_method_15_code
def yX7_all : MethodName := ⟨RX7, "all", "(I)I"⟩
abbrev cX7_window : ByteArray := prog_1_method_16_code
def yX7_window : MethodName := ⟨RX7, "window", "(II)I"⟩
abbrev cX7_copy : ByteArray := prog_1_method_17_code
def yX7_copy : MethodName := ⟨RX7, "copy", "(II)I"⟩
abbrev cX7_type : ByteArray := prog_1_method_18_code
def yX7_type : MethodName := ⟨RX7, "type", "(I)I"⟩
abbrev cX7_clear : ByteArray := prog_1_method_19_code
def yX7_clear : MethodName := ⟨RX7, "clear", "()I"⟩
abbrev cX7_does : ByteArray := prog_1_method_20_code
def yX7_does : MethodName := ⟨RX7, "does", "()I"⟩
abbrev cX7_told : ByteArray := prog_1_method_21_code
def yX7_told : MethodName := ⟨RX7, "told", "(I)I"⟩
abbrev cX7_digest : ByteArray := prog_1_method_22_code
def yX7_digest : MethodName := ⟨RX7, "digest", "()J"⟩
abbrev cX7_refuseBad : ByteArray := prog_1_method_23_code
def yX7_refuseBad : MethodName := ⟨RX7, "refuseBad", "()I"⟩
abbrev cX7_refuseNo : ByteArray := prog_1_method_24_code
def yX7_refuseNo : MethodName := ⟨RX7, "refuseNo", "()I"⟩
abbrev cX7_refuseFull : ByteArray := prog_1_method_25_code
def yX7_refuseFull : MethodName := ⟨RX7, "refuseFull", "()I"⟩
abbrev cX7_isSender : ByteArray := prog_1_method_26_code
def yX7_isSender : MethodName := ⟨RX7, "isSender", "(I)Z"⟩
abbrev cX7_isGate : ByteArray := prog_1_method_27_code
def yX7_isGate : MethodName := ⟨RX7, "isGate", "(I)Z"⟩
abbrev cX7_setting : ByteArray := prog_1_method_28_code
def yX7_setting : MethodName := ⟨RX7, "setting", "(I)I"⟩
abbrev cX7_mostOfSetting : ByteArray := prog_1_method_29_code
def yX7_mostOfSetting : MethodName := ⟨RX7, "mostOfSetting", "(I)I"⟩
abbrev cX7_mostOfSender : ByteArray := prog_1_method_30_code
def yX7_mostOfSender : MethodName := ⟨RX7, "mostOfSender", "(I)I"⟩
abbrev cX7_carryOut : ByteArray := prog_1_method_31_code
def yX7_carryOut : MethodName := ⟨RX7, "carryOut", "(I)I"⟩
def RX8 : String := "StarSendersModel"
def TX8 : u_T := fun k => match k with
  | 0 => ("StarSendersModel", "refused", "[I", true)
  | 1 => ("StarSendersModel", "senders", "I", false)
  | 2 => ("StarSendersModel", "gates", "I", false)
  | 3 => ("StarSendersModel", "wide", "I", false)
  | 4 => ("StarSendersModel", "tick", "I", false)
  | 5 => ("StarSendersModel", "lag", "[I", true)
  | 6 => ("StarSendersModel", "budget", "[I", true)
  | 7 => ("StarSendersModel", "spent", "[I", true)
  | 8 => ("StarSendersModel", "sentOn", "[I", true)
  | 9 => ("StarSendersModel", "answered", "[I", true)
  | 10 => ("StarSendersModel", "bestOf", "[I", true)
  | 11 => ("StarSendersModel", "gain", "[I", true)
  | 12 => ("StarSendersModel", "rate", "[I", true)
  | 13 => ("StarSendersModel", "power", "[I", true)
  | 14 => ("StarSendersModel", "counter", "[I", true)
  | 15 => ("StarSendersModel", "joined", "[I", true)
  | 16 => ("StarSendersModel", "sentLast", "[I", true)
  | 17 => ("StarSendersModel", "last", "[I", true)
  | 18 => ("StarSendersModel", "noted", "[I", true)
  | 19 => ("StarSendersModel", "margins", "[I", true)
  | 20 => ("StarSendersModel", "taken", "[I", true)
  | 21 => ("StarSendersModel", "gaps", "[I", true)
  | 22 => ("StarSendersModel", "copies", "I", false)
  | 23 => ("StarSendersModel", "copyBy", "[I", true)
  | 24 => ("StarSendersModel", "copyAt", "[I", true)
  | 25 => ("StarSendersModel", "copyKey", "[I", true)
  | 26 => ("StarSendersModel", "copyMargin", "[I", true)
  | 27 => ("StarSendersModel", "copyDue", "[I", true)
  | 28 => ("StarSendersModel", "windows", "I", false)
  | 29 => ("StarSendersModel", "windowBy", "[I", true)
  | 30 => ("StarSendersModel", "windowKey", "[I", true)
  | 31 => ("StarSendersModel", "windowSince", "[I", true)
  | 32 => ("StarSendersModel", "windowHeard", "[I", true)
  | 33 => ("StarSendersModel", "windowMargin", "[I", true)
  | 34 => ("StarSendersModel", "sums", "[I", true)
  | 35 => ("StarSendersModel", "toRate", "I", false)
  | 36 => ("StarSendersModel", "toPower", "I", false)
  | 37 => ("StarSendersModel", "text", "[I", true)
  | 38 => ("StarSendersModel", "size", "I", false)
  | 39 => ("StarSendersModel", "readAt", "I", false)
  | 40 => ("StarSendersModel", "readValue", "I", false)
  | 41 => ("StarSendersModel", "first", "I", false)
  | 42 => ("StarSendersModel", "second", "I", false)
  | _ => ("StarSendersModel", "third", "I", false)
def tyX8 : Nat → FieldType := fun k => match k with
  | 0 => .array .int
  | 1 => .int
  | 2 => .int
  | 3 => .int
  | 4 => .int
  | 5 => .array .int
  | 6 => .array .int
  | 7 => .array .int
  | 8 => .array .int
  | 9 => .array .int
  | 10 => .array .int
  | 11 => .array .int
  | 12 => .array .int
  | 13 => .array .int
  | 14 => .array .int
  | 15 => .array .int
  | 16 => .array .int
  | 17 => .array .int
  | 18 => .array .int
  | 19 => .array .int
  | 20 => .array .int
  | 21 => .array .int
  | 22 => .int
  | 23 => .array .int
  | 24 => .array .int
  | 25 => .array .int
  | 26 => .array .int
  | 27 => .array .int
  | 28 => .int
  | 29 => .array .int
  | 30 => .array .int
  | 31 => .array .int
  | 32 => .array .int
  | 33 => .array .int
  | 34 => .array .int
  | 35 => .int
  | 36 => .int
  | 37 => .array .int
  | 38 => .int
  | 39 => .int
  | 40 => .int
  | 41 => .int
  | 42 => .int
  | _ => .int
theorem nmX8 : ∀ a, a < 44 → ∀ b, b < 44 → a ≠ b → (TX8 a).2.1 ≠ (TX8 b).2.1 := by decide +kernel
theorem tyX8_ok : ∀ k, k < 44 → parseFieldDescriptor (TX8 k).2.2.1 = some (tyX8 k) := by decide +kernel
abbrev cX8_init : ByteArray := prog_10_method_1_code
def yX8_init : MethodName := ⟨RX8, "<init>", "()V"⟩
abbrev cX8_bad : ByteArray := prog_10_method_2_code
def yX8_bad : MethodName := ⟨RX8, "bad", "()I"⟩
abbrev cX8_no : ByteArray := prog_10_method_3_code
def yX8_no : MethodName := ⟨RX8, "no", "()I"⟩
abbrev cX8_full : ByteArray := prog_10_method_4_code
def yX8_full : MethodName := ⟨RX8, "full", "()I"⟩
abbrev cX8_in : ByteArray := prog_10_method_5_code
def yX8_in : MethodName := ⟨RX8, "in", "(III)Z"⟩
abbrev cX8_isSender : ByteArray := prog_10_method_6_code
def yX8_isSender : MethodName := ⟨RX8, "isSender", "(I)Z"⟩
abbrev cX8_isGate : ByteArray := prog_10_method_7_code
def yX8_isGate : MethodName := ⟨RX8, "isGate", "(I)Z"⟩
abbrev cX8_begins : ByteArray := prog_10_method_8_code
def yX8_begins : MethodName := ⟨RX8, "begins", "()V"⟩
abbrev cX8_comesNew : ByteArray := prog_10_method_9_code
def yX8_comesNew : MethodName := ⟨RX8, "comesNew", "(I)V"⟩
abbrev cX8_sets : ByteArray := prog_10_method_10_code
def yX8_sets : MethodName := ⟨RX8, "sets", "(II)I"⟩
abbrev cX8_gateBecomes : ByteArray := prog_10_method_11_code
def yX8_gateBecomes : MethodName := ⟨RX8, "gateBecomes", "(III)I"⟩
abbrev cX8_gate : ByteArray := prog_10_method_12_code
def yX8_gate : MethodName := ⟨RX8, "gate", "(III)I"⟩
abbrev cX8_gain : ByteArray := prog_10_method_13_code
def yX8_gain : MethodName := ⟨RX8, "gain", "(III)I"⟩
abbrev cX8_draw : ByteArray := prog_10_method_14_code
def yX8_draw : MethodName := ⟨RX8, "draw", "(I)I"⟩
abbrev cX8_mostOf : ByteArray := prog_10_method_15_code
def yX8_mostOf : MethodName := ⟨RX8, "mostOf", "(I)I"⟩
abbrev cX8_sender : ByteArray := prog_10_method_16_code
def yX8_sender : MethodName := ⟨RX8, "sender", "(III)I"⟩
abbrev cX8_marginOf : ByteArray := prog_10_method_17_code
def yX8_marginOf : MethodName := ⟨RX8, "marginOf", "(II)I"⟩
abbrev cX8_isRoom : ByteArray := prog_10_method_18_code
def yX8_isRoom : MethodName := ⟨RX8, "isRoom", "()Z"⟩
abbrev cX8_goes : ByteArray := prog_10_method_19_code
def yX8_goes : MethodName := ⟨RX8, "goes", "(II)I"⟩
abbrev cX8_sendsNow : ByteArray := prog_10_method_20_code
def yX8_sendsNow : MethodName := ⟨RX8, "sendsNow", "(I)I"⟩
abbrev cX8_sends : ByteArray := prog_10_method_21_code
def yX8_sends : MethodName := ⟨RX8, "sends", "(I)I"⟩
abbrev cX8_again : ByteArray := prog_10_method_22_code
def yX8_again : MethodName := ⟨RX8, "again", "(I)I"⟩
abbrev cX8_renews : ByteArray := prog_10_method_23_code
def yX8_renews : MethodName := ⟨RX8, "renews", "(I)I"⟩
abbrev cX8_far : ByteArray := prog_10_method_24_code
def yX8_far : MethodName := ⟨RX8, "far", "(II)I"⟩
abbrev cX8_isOn : ByteArray := prog_10_method_25_code
def yX8_isOn : MethodName := ⟨RX8, "isOn", "(II)Z"⟩
abbrev cX8_windowOf : ByteArray := prog_10_method_26_code
def yX8_windowOf : MethodName := ⟨RX8, "windowOf", "(II)I"⟩
abbrev cX8_hearsIn : ByteArray := prog_10_method_27_code
def yX8_hearsIn : MethodName := ⟨RX8, "hearsIn", "(III)V"⟩
abbrev cX8_comes : ByteArray := prog_10_method_28_code
def yX8_comes : MethodName := ⟨RX8, "comes", "(I)V"⟩
abbrev cX8_allCome : ByteArray := prog_10_method_29_code
def yX8_allCome : MethodName := ⟨RX8, "allCome", "()V"⟩
abbrev cX8_firstGoes : ByteArray := prog_10_method_30_code
def yX8_firstGoes : MethodName := ⟨RX8, "firstGoes", "()V"⟩
abbrev cX8_gateBehind : ByteArray := prog_10_method_31_code
def yX8_gateBehind : MethodName := ⟨RX8, "gateBehind", "(I)I"⟩
abbrev cX8_answers : ByteArray := prog_10_method_32_code
def yX8_answers : MethodName := ⟨RX8, "answers", "(I)Z"⟩
abbrev cX8_notes : ByteArray := prog_10_method_33_code
def yX8_notes : MethodName := ⟨RX8, "notes", "(II)V"⟩
abbrev cX8_reckons : ByteArray := prog_10_method_34_code
def yX8_reckons : MethodName := ⟨RX8, "reckons", "(I)V"⟩
abbrev cX8_adapts : ByteArray := prog_10_method_35_code
def yX8_adapts : MethodName := ⟨RX8, "adapts", "(I)V"⟩
abbrev cX8_closes : ByteArray := prog_10_method_36_code
def yX8_closes : MethodName := ⟨RX8, "closes", "()I"⟩
abbrev cX8_oneTick : ByteArray := prog_10_method_37_code
def yX8_oneTick : MethodName := ⟨RX8, "oneTick", "()I"⟩
abbrev cX8_goBy : ByteArray := prog_10_method_38_code
def yX8_goBy : MethodName := ⟨RX8, "goBy", "(I)I"⟩
abbrev cX8_ticks : ByteArray := prog_10_method_39_code
def yX8_ticks : MethodName := ⟨RX8, "ticks", "(I)I"⟩
abbrev cX8_ofBy : ByteArray := prog_10_method_40_code
def yX8_ofBy : MethodName := ⟨RX8, "ofBy", "(II)I"⟩
abbrev cX8_of : ByteArray := prog_10_method_41_code
def yX8_of : MethodName := ⟨RX8, "of", "(II)I"⟩
abbrev cX8_margin : ByteArray := prog_10_method_42_code
def yX8_margin : MethodName := ⟨RX8, "margin", "(II)I"⟩
abbrev cX8_hears : ByteArray := prog_10_method_43_code
def yX8_hears : MethodName := ⟨RX8, "hears", "(II)I"⟩
abbrev cX8_atBy : ByteArray := prog_10_method_44_code
def yX8_atBy : MethodName := ⟨RX8, "atBy", "(II)I"⟩
abbrev cX8_at : ByteArray := prog_10_method_45_code
def yX8_at : MethodName := ⟨RX8, "at", "(II)I"⟩
abbrev cX8_allBy : ByteArray := prog_10_method_46_code
def yX8_allBy : MethodName := ⟨RX8, "allBy", "(I)I"⟩
abbrev cX8_all : ByteArray := prog_10_method_47_code
def yX8_all : MethodName := ⟨RX8, "all", "(I)I"⟩
abbrev cX8_window : ByteArray := prog_10_method_48_code
def yX8_window : MethodName := ⟨RX8, "window", "(II)I"⟩
abbrev cX8_copy : ByteArray := prog_10_method_49_code
def yX8_copy : MethodName := ⟨RX8, "copy", "(II)I"⟩
abbrev cX8_type : ByteArray := prog_10_method_50_code
def yX8_type : MethodName := ⟨RX8, "type", "(I)I"⟩
abbrev cX8_clear : ByteArray := prog_10_method_51_code
def yX8_clear : MethodName := ⟨RX8, "clear", "()I"⟩
abbrev cX8_here : ByteArray := prog_10_method_52_code
def yX8_here : MethodName := ⟨RX8, "here", "()I"⟩
abbrev cX8_readsOne : ByteArray := prog_10_method_53_code
def yX8_readsOne : MethodName := ⟨RX8, "readsOne", "(I)Z"⟩
abbrev cX8_readsNumber : ByteArray := prog_10_method_54_code
def yX8_readsNumber : MethodName := ⟨RX8, "readsNumber", "(I)Z"⟩
abbrev cX8_readsSender : ByteArray := prog_10_method_55_code
def yX8_readsSender : MethodName := ⟨RX8, "readsSender", "()Z"⟩
abbrev cX8_readsGate : ByteArray := prog_10_method_56_code
def yX8_readsGate : MethodName := ⟨RX8, "readsGate", "()Z"⟩
abbrev cX8_readsThird : ByteArray := prog_10_method_57_code
def yX8_readsThird : MethodName := ⟨RX8, "readsThird", "(I)Z"⟩
abbrev cX8_readsNumbers : ByteArray := prog_10_method_58_code
def yX8_readsNumbers : MethodName := ⟨RX8, "readsNumbers", "(I)Z"⟩
abbrev cX8_isOrder : ByteArray := prog_10_method_59_code
def yX8_isOrder : MethodName := ⟨RX8, "isOrder", "(I)Z"⟩
abbrev cX8_readsOrder : ByteArray := prog_10_method_60_code
def yX8_readsOrder : MethodName := ⟨RX8, "readsOrder", "(I)Z"⟩
abbrev cX8_doesOrder : ByteArray := prog_10_method_61_code
def yX8_doesOrder : MethodName := ⟨RX8, "doesOrder", "(I)I"⟩
abbrev cX8_goesThrough : ByteArray := prog_10_method_62_code
def yX8_goesThrough : MethodName := ⟨RX8, "goesThrough", "(Z)I"⟩
abbrev cX8_does : ByteArray := prog_10_method_63_code
def yX8_does : MethodName := ⟨RX8, "does", "()I"⟩
abbrev cX8_toldBy : ByteArray := prog_10_method_64_code
def yX8_toldBy : MethodName := ⟨RX8, "toldBy", "(I)I"⟩
abbrev cX8_told : ByteArray := prog_10_method_65_code
def yX8_told : MethodName := ⟨RX8, "told", "(I)I"⟩
abbrev cX8_digest : ByteArray := prog_10_method_66_code
def yX8_digest : MethodName := ⟨RX8, "digest", "()J"⟩
def RJ9 : String := "java/lang/Math"
def TJ9 : u_T := fun k => match k with
  | _ => ("", "", "", false)
def tyJ9 : Nat → FieldType := fun k => match k with
  | _ => .int
theorem nmJ9 : ∀ a, a < 0 → ∀ b, b < 0 → a ≠ b → (TJ9 a).2.1 ≠ (TJ9 b).2.1 := by decide +kernel
theorem tyJ9_ok : ∀ k, k < 0 → parseFieldDescriptor (TJ9 k).2.2.1 = some (tyJ9 k) := by decide +kernel
abbrev cJ9_floorMod_7cf53 : ByteArray := prog_11_method_50_code
def yJ9_floorMod_7cf53 : MethodName := ⟨RJ9, "floorMod", "(II)I"⟩
abbrev cJ9_max_7cf53 : ByteArray := prog_11_method_65_code
def yJ9_max_7cf53 : MethodName := ⟨RJ9, "max", "(II)I"⟩
def RJ10 : String := "java/lang/System"
def TJ10 : u_T := fun k => match k with
  | _ => ("", "", "", false)
def tyJ10 : Nat → FieldType := fun k => match k with
  | _ => .int
theorem nmJ10 : ∀ a, a < 0 → ∀ b, b < 0 → a ≠ b → (TJ10 a).2.1 ≠ (TJ10 b).2.1 := by decide +kernel
theorem tyJ10_ok : ∀ k, k < 0 → parseFieldDescriptor (TJ10 k).2.2.1 = some (tyJ10 k) := by decide +kernel
def RJ7 : String := "java/util/Arrays"
def TJ7 : u_T := fun k => match k with
  | _ => ("", "", "", false)
def tyJ7 : Nat → FieldType := fun k => match k with
  | _ => .int
theorem nmJ7 : ∀ a, a < 0 → ∀ b, b < 0 → a ≠ b → (TJ7 a).2.1 ≠ (TJ7 b).2.1 := by decide +kernel
theorem tyJ7_ok : ∀ k, k < 0 → parseFieldDescriptor (TJ7 k).2.2.1 = some (tyJ7 k) := by decide +kernel
abbrev cJ7_fill_53178 : ByteArray := prog_13_method_103_code
def yJ7_fill_53178 : MethodName := ⟨RJ7, "fill", "([II)V"⟩
def RL : String := "StarSendersLaw"
abbrev cL_law : ByteArray := code
def yL_law : MethodName := ⟨RL, "law", "([I)Z"⟩
end
section
theorem dX0_init_0 : decode cX0_init 0 = .ok (.aload_n 0, 1) := by decide +kernel
theorem dX0_init_1 : decode cX0_init 1 = .ok (.invokespecial 3, 3) := by decide +kernel
theorem dX0_init_4 : decode cX0_init 4 = .ok (.aload_n 0, 1) := by decide +kernel
theorem dX0_init_5 : decode cX0_init 5 = .ok (.bipush 60, 2) := by decide +kernel
theorem dX0_init_7 : decode cX0_init 7 = .ok (.newarray .int, 2) := by decide +kernel
theorem dX0_init_9 : decode cX0_init 9 = .ok (.putfield 9, 3) := by decide +kernel
theorem dX0_init_12 : decode cX0_init 12 = .ok (.aload_n 0, 1) := by decide +kernel
theorem dX0_init_13 : decode cX0_init 13 = .ok (.bipush 60, 2) := by decide +kernel
theorem dX0_init_15 : decode cX0_init 15 = .ok (.newarray .int, 2) := by decide +kernel
theorem dX0_init_17 : decode cX0_init 17 = .ok (.putfield 15, 3) := by decide +kernel
theorem dX0_init_20 : decode cX0_init 20 = .ok (.aload_n 0, 1) := by decide +kernel
theorem dX0_init_21 : decode cX0_init 21 = .ok (.bipush 60, 2) := by decide +kernel
theorem dX0_init_23 : decode cX0_init 23 = .ok (.newarray .int, 2) := by decide +kernel
theorem dX0_init_25 : decode cX0_init 25 = .ok (.putfield 18, 3) := by decide +kernel
theorem dX0_init_28 : decode cX0_init 28 = .ok (.aload_n 0, 1) := by decide +kernel
theorem dX0_init_29 : decode cX0_init 29 = .ok (.bipush 60, 2) := by decide +kernel
theorem dX0_init_31 : decode cX0_init 31 = .ok (.newarray .int, 2) := by decide +kernel
theorem dX0_init_33 : decode cX0_init 33 = .ok (.putfield 21, 3) := by decide +kernel
theorem dX0_init_36 : decode cX0_init 36 = .ok (.aload_n 0, 1) := by decide +kernel
theorem dX0_init_37 : decode cX0_init 37 = .ok (.bipush 60, 2) := by decide +kernel
theorem dX0_init_39 : decode cX0_init 39 = .ok (.newarray .int, 2) := by decide +kernel
theorem dX0_init_41 : decode cX0_init 41 = .ok (.putfield 24, 3) := by decide +kernel
theorem dX0_init_44 : decode cX0_init 44 = .ok (.return_, 1) := by decide +kernel
theorem dX0_add_0 : decode cX0_add 0 = .ok (.aload_n 0, 1) := by decide +kernel
theorem dX0_add_1 : decode cX0_add 1 = .ok (.getfield 27, 3) := by decide +kernel
theorem dX0_add_4 : decode cX0_add 4 = .ok (.bipush 60, 2) := by decide +kernel
theorem dX0_add_6 : decode cX0_add 6 = .ok (.if_icmp .ge 65, 3) := by decide +kernel
theorem dX0_add_9 : decode cX0_add 9 = .ok (.aload_n 0, 1) := by decide +kernel
theorem dX0_add_10 : decode cX0_add 10 = .ok (.getfield 9, 3) := by decide +kernel
theorem dX0_add_13 : decode cX0_add 13 = .ok (.aload_n 0, 1) := by decide +kernel
theorem dX0_add_14 : decode cX0_add 14 = .ok (.getfield 27, 3) := by decide +kernel
theorem dX0_add_17 : decode cX0_add 17 = .ok (.iload_n 1, 1) := by decide +kernel
theorem dX0_add_18 : decode cX0_add 18 = .ok (.iastore, 1) := by decide +kernel
theorem dX0_add_19 : decode cX0_add 19 = .ok (.aload_n 0, 1) := by decide +kernel
theorem dX0_add_20 : decode cX0_add 20 = .ok (.getfield 15, 3) := by decide +kernel
theorem dX0_add_23 : decode cX0_add 23 = .ok (.aload_n 0, 1) := by decide +kernel
theorem dX0_add_24 : decode cX0_add 24 = .ok (.getfield 27, 3) := by decide +kernel
theorem dX0_add_27 : decode cX0_add 27 = .ok (.iload_n 2, 1) := by decide +kernel
theorem dX0_add_28 : decode cX0_add 28 = .ok (.iastore, 1) := by decide +kernel
theorem dX0_add_29 : decode cX0_add 29 = .ok (.aload_n 0, 1) := by decide +kernel
theorem dX0_add_30 : decode cX0_add 30 = .ok (.getfield 18, 3) := by decide +kernel
theorem dX0_add_33 : decode cX0_add 33 = .ok (.aload_n 0, 1) := by decide +kernel
theorem dX0_add_34 : decode cX0_add 34 = .ok (.getfield 27, 3) := by decide +kernel
theorem dX0_add_37 : decode cX0_add 37 = .ok (.iload_n 3, 1) := by decide +kernel
theorem dX0_add_38 : decode cX0_add 38 = .ok (.iastore, 1) := by decide +kernel
theorem dX0_add_39 : decode cX0_add 39 = .ok (.aload_n 0, 1) := by decide +kernel
theorem dX0_add_40 : decode cX0_add 40 = .ok (.getfield 21, 3) := by decide +kernel
theorem dX0_add_43 : decode cX0_add 43 = .ok (.aload_n 0, 1) := by decide +kernel
theorem dX0_add_44 : decode cX0_add 44 = .ok (.getfield 27, 3) := by decide +kernel
theorem dX0_add_47 : decode cX0_add 47 = .ok (.iload 4, 2) := by decide +kernel
theorem dX0_add_49 : decode cX0_add 49 = .ok (.iastore, 1) := by decide +kernel
theorem dX0_add_50 : decode cX0_add 50 = .ok (.aload_n 0, 1) := by decide +kernel
theorem dX0_add_51 : decode cX0_add 51 = .ok (.getfield 24, 3) := by decide +kernel
theorem dX0_add_54 : decode cX0_add 54 = .ok (.aload_n 0, 1) := by decide +kernel
theorem dX0_add_55 : decode cX0_add 55 = .ok (.getfield 27, 3) := by decide +kernel
theorem dX0_add_58 : decode cX0_add 58 = .ok (.iload 5, 2) := by decide +kernel
theorem dX0_add_60 : decode cX0_add 60 = .ok (.iastore, 1) := by decide +kernel
theorem dX0_add_61 : decode cX0_add 61 = .ok (.aload_n 0, 1) := by decide +kernel
theorem dX0_add_62 : decode cX0_add 62 = .ok (.dup, 1) := by decide +kernel
theorem dX0_add_63 : decode cX0_add 63 = .ok (.getfield 27, 3) := by decide +kernel
theorem dX0_add_66 : decode cX0_add 66 = .ok (.iconst 1, 1) := by decide +kernel
theorem dX0_add_67 : decode cX0_add 67 = .ok (.iadd, 1) := by decide +kernel
theorem dX0_add_68 : decode cX0_add 68 = .ok (.putfield 27, 3) := by decide +kernel
theorem dX0_add_71 : decode cX0_add 71 = .ok (.return_, 1) := by decide +kernel
theorem dX0_move_0 : decode cX0_move 0 = .ok (.aload_n 0, 1) := by decide +kernel
theorem dX0_move_1 : decode cX0_move 1 = .ok (.getfield 9, 3) := by decide +kernel
theorem dX0_move_4 : decode cX0_move 4 = .ok (.iload_n 2, 1) := by decide +kernel
theorem dX0_move_5 : decode cX0_move 5 = .ok (.aload_n 0, 1) := by decide +kernel
theorem dX0_move_6 : decode cX0_move 6 = .ok (.getfield 9, 3) := by decide +kernel
theorem dX0_move_9 : decode cX0_move 9 = .ok (.iload_n 1, 1) := by decide +kernel
theorem dX0_move_10 : decode cX0_move 10 = .ok (.iaload, 1) := by decide +kernel
theorem dX0_move_11 : decode cX0_move 11 = .ok (.iastore, 1) := by decide +kernel
theorem dX0_move_12 : decode cX0_move 12 = .ok (.aload_n 0, 1) := by decide +kernel
theorem dX0_move_13 : decode cX0_move 13 = .ok (.getfield 15, 3) := by decide +kernel
theorem dX0_move_16 : decode cX0_move 16 = .ok (.iload_n 2, 1) := by decide +kernel
theorem dX0_move_17 : decode cX0_move 17 = .ok (.aload_n 0, 1) := by decide +kernel
theorem dX0_move_18 : decode cX0_move 18 = .ok (.getfield 15, 3) := by decide +kernel
theorem dX0_move_21 : decode cX0_move 21 = .ok (.iload_n 1, 1) := by decide +kernel
theorem dX0_move_22 : decode cX0_move 22 = .ok (.iaload, 1) := by decide +kernel
theorem dX0_move_23 : decode cX0_move 23 = .ok (.iastore, 1) := by decide +kernel
theorem dX0_move_24 : decode cX0_move 24 = .ok (.aload_n 0, 1) := by decide +kernel
theorem dX0_move_25 : decode cX0_move 25 = .ok (.getfield 18, 3) := by decide +kernel
theorem dX0_move_28 : decode cX0_move 28 = .ok (.iload_n 2, 1) := by decide +kernel
theorem dX0_move_29 : decode cX0_move 29 = .ok (.aload_n 0, 1) := by decide +kernel
theorem dX0_move_30 : decode cX0_move 30 = .ok (.getfield 18, 3) := by decide +kernel
theorem dX0_move_33 : decode cX0_move 33 = .ok (.iload_n 1, 1) := by decide +kernel
theorem dX0_move_34 : decode cX0_move 34 = .ok (.iaload, 1) := by decide +kernel
theorem dX0_move_35 : decode cX0_move 35 = .ok (.iastore, 1) := by decide +kernel
theorem dX0_move_36 : decode cX0_move 36 = .ok (.aload_n 0, 1) := by decide +kernel
theorem dX0_move_37 : decode cX0_move 37 = .ok (.getfield 21, 3) := by decide +kernel
theorem dX0_move_40 : decode cX0_move 40 = .ok (.iload_n 2, 1) := by decide +kernel
theorem dX0_move_41 : decode cX0_move 41 = .ok (.aload_n 0, 1) := by decide +kernel
theorem dX0_move_42 : decode cX0_move 42 = .ok (.getfield 21, 3) := by decide +kernel
theorem dX0_move_45 : decode cX0_move 45 = .ok (.iload_n 1, 1) := by decide +kernel
theorem dX0_move_46 : decode cX0_move 46 = .ok (.iaload, 1) := by decide +kernel
theorem dX0_move_47 : decode cX0_move 47 = .ok (.iastore, 1) := by decide +kernel
theorem dX0_move_48 : decode cX0_move 48 = .ok (.aload_n 0, 1) := by decide +kernel
theorem dX0_move_49 : decode cX0_move 49 = .ok (.getfield 24, 3) := by decide +kernel
theorem dX0_move_52 : decode cX0_move 52 = .ok (.iload_n 2, 1) := by decide +kernel
theorem dX0_move_53 : decode cX0_move 53 = .ok (.aload_n 0, 1) := by decide +kernel
theorem dX0_move_54 : decode cX0_move 54 = .ok (.getfield 24, 3) := by decide +kernel
theorem dX0_move_57 : decode cX0_move 57 = .ok (.iload_n 1, 1) := by decide +kernel
theorem dX0_move_58 : decode cX0_move 58 = .ok (.iaload, 1) := by decide +kernel
theorem dX0_move_59 : decode cX0_move 59 = .ok (.iastore, 1) := by decide +kernel
theorem dX0_move_60 : decode cX0_move 60 = .ok (.return_, 1) := by decide +kernel
theorem dX1_init_0 : decode cX1_init 0 = .ok (.aload_n 0, 1) := by decide +kernel
theorem dX1_init_1 : decode cX1_init 1 = .ok (.invokespecial 3, 3) := by decide +kernel
theorem dX1_init_4 : decode cX1_init 4 = .ok (.return_, 1) := by decide +kernel
theorem dX1_becomeNew_0 : decode cX1_becomeNew 0 = .ok (.aload_n 0, 1) := by decide +kernel
theorem dX1_becomeNew_1 : decode cX1_becomeNew 1 = .ok (.iconst 0, 1) := by decide +kernel
theorem dX1_becomeNew_2 : decode cX1_becomeNew 2 = .ok (.putfield 9, 3) := by decide +kernel
theorem dX1_becomeNew_5 : decode cX1_becomeNew 5 = .ok (.aload_n 0, 1) := by decide +kernel
theorem dX1_becomeNew_6 : decode cX1_becomeNew 6 = .ok (.bipush 10, 2) := by decide +kernel
theorem dX1_becomeNew_8 : decode cX1_becomeNew 8 = .ok (.putfield 15, 3) := by decide +kernel
theorem dX1_becomeNew_11 : decode cX1_becomeNew 11 = .ok (.aload_n 0, 1) := by decide +kernel
theorem dX1_becomeNew_12 : decode cX1_becomeNew 12 = .ok (.iconst 0, 1) := by decide +kernel
theorem dX1_becomeNew_13 : decode cX1_becomeNew 13 = .ok (.putfield 18, 3) := by decide +kernel
theorem dX1_becomeNew_16 : decode cX1_becomeNew 16 = .ok (.aload_n 0, 1) := by decide +kernel
theorem dX1_becomeNew_17 : decode cX1_becomeNew 17 = .ok (.iconst 0, 1) := by decide +kernel
theorem dX1_becomeNew_18 : decode cX1_becomeNew 18 = .ok (.putfield 21, 3) := by decide +kernel
theorem dX1_becomeNew_21 : decode cX1_becomeNew 21 = .ok (.aload_n 0, 1) := by decide +kernel
theorem dX1_becomeNew_22 : decode cX1_becomeNew 22 = .ok (.iconst 0, 1) := by decide +kernel
theorem dX1_becomeNew_23 : decode cX1_becomeNew 23 = .ok (.putfield 24, 3) := by decide +kernel
theorem dX1_becomeNew_26 : decode cX1_becomeNew 26 = .ok (.aload_n 0, 1) := by decide +kernel
theorem dX1_becomeNew_27 : decode cX1_becomeNew 27 = .ok (.iconst 0, 1) := by decide +kernel
theorem dX1_becomeNew_28 : decode cX1_becomeNew 28 = .ok (.putfield 27, 3) := by decide +kernel
theorem dX1_becomeNew_31 : decode cX1_becomeNew 31 = .ok (.return_, 1) := by decide +kernel
theorem dX1_left_0 : decode cX1_left 0 = .ok (.aload_n 0, 1) := by decide +kernel
theorem dX1_left_1 : decode cX1_left 1 = .ok (.getfield 15, 3) := by decide +kernel
theorem dX1_left_4 : decode cX1_left 4 = .ok (.aload_n 0, 1) := by decide +kernel
theorem dX1_left_5 : decode cX1_left 5 = .ok (.getfield 18, 3) := by decide +kernel
theorem dX1_left_8 : decode cX1_left 8 = .ok (.isub, 1) := by decide +kernel
theorem dX1_left_9 : decode cX1_left 9 = .ok (.ireturn, 1) := by decide +kernel
theorem dX1_value_0 : decode cX1_value 0 = .ok (.iload_n 1, 1) := by decide +kernel
theorem dX1_value_1 : decode cX1_value 1 = .ok (.tableswitch 42 0 2 #[27, 32, 37], 27) := by decide +kernel
theorem dX1_value_28 : decode cX1_value 28 = .ok (.aload_n 0, 1) := by decide +kernel
theorem dX1_value_29 : decode cX1_value 29 = .ok (.getfield 21, 3) := by decide +kernel
theorem dX1_value_32 : decode cX1_value 32 = .ok (.ireturn, 1) := by decide +kernel
theorem dX1_value_33 : decode cX1_value 33 = .ok (.aload_n 0, 1) := by decide +kernel
theorem dX1_value_34 : decode cX1_value 34 = .ok (.getfield 24, 3) := by decide +kernel
theorem dX1_value_37 : decode cX1_value 37 = .ok (.ireturn, 1) := by decide +kernel
theorem dX1_value_38 : decode cX1_value 38 = .ok (.aload_n 0, 1) := by decide +kernel
theorem dX1_value_39 : decode cX1_value 39 = .ok (.invokevirtual 30, 3) := by decide +kernel
theorem dX1_value_42 : decode cX1_value 42 = .ok (.ireturn, 1) := by decide +kernel
theorem dX1_value_43 : decode cX1_value 43 = .ok (.aload_n 0, 1) := by decide +kernel
theorem dX1_value_44 : decode cX1_value 44 = .ok (.getfield 27, 3) := by decide +kernel
theorem dX1_value_47 : decode cX1_value 47 = .ok (.ireturn, 1) := by decide +kernel
theorem dX2_init_0 : decode cX2_init 0 = .ok (.aload_n 0, 1) := by decide +kernel
theorem dX2_init_1 : decode cX2_init 1 = .ok (.invokespecial 3, 3) := by decide +kernel
theorem dX2_init_4 : decode cX2_init 4 = .ok (.aload_n 0, 1) := by decide +kernel
theorem dX2_init_5 : decode cX2_init 5 = .ok (.iconst 3, 1) := by decide +kernel
theorem dX2_init_6 : decode cX2_init 6 = .ok (.putfield 9, 3) := by decide +kernel
theorem dX2_init_9 : decode cX2_init 9 = .ok (.aload_n 0, 1) := by decide +kernel
theorem dX2_init_10 : decode cX2_init 10 = .ok (.iconst 2, 1) := by decide +kernel
theorem dX2_init_11 : decode cX2_init 11 = .ok (.putfield 15, 3) := by decide +kernel
theorem dX2_init_14 : decode cX2_init 14 = .ok (.aload_n 0, 1) := by decide +kernel
theorem dX2_init_15 : decode cX2_init 15 = .ok (.iconst 3, 1) := by decide +kernel
theorem dX2_init_16 : decode cX2_init 16 = .ok (.putfield 18, 3) := by decide +kernel
theorem dX2_init_19 : decode cX2_init 19 = .ok (.aload_n 0, 1) := by decide +kernel
theorem dX2_init_20 : decode cX2_init 20 = .ok (.bipush 6, 2) := by decide +kernel
theorem dX2_init_22 : decode cX2_init 22 = .ok (.iconst 4, 1) := by decide +kernel
theorem dX2_init_23 : decode cX2_init 23 = .ok (.multianewarray 21 2, 4) := by decide +kernel
theorem dX2_init_27 : decode cX2_init 27 = .ok (.putfield 23, 3) := by decide +kernel
theorem dX2_init_30 : decode cX2_init 30 = .ok (.aload_n 0, 1) := by decide +kernel
theorem dX2_init_31 : decode cX2_init 31 = .ok (.bipush 6, 2) := by decide +kernel
theorem dX2_init_33 : decode cX2_init 33 = .ok (.anewarray 26, 3) := by decide +kernel
theorem dX2_init_36 : decode cX2_init 36 = .ok (.putfield 28, 3) := by decide +kernel
theorem dX2_init_39 : decode cX2_init 39 = .ok (.aload_n 0, 1) := by decide +kernel
theorem dX2_init_40 : decode cX2_init 40 = .ok (.iconst 4, 1) := by decide +kernel
theorem dX2_init_41 : decode cX2_init 41 = .ok (.anewarray 32, 3) := by decide +kernel
theorem dX2_init_44 : decode cX2_init 44 = .ok (.putfield 34, 3) := by decide +kernel
theorem dX2_init_47 : decode cX2_init 47 = .ok (.aload_n 0, 1) := by decide +kernel
theorem dX2_init_48 : decode cX2_init 48 = .ok (.new 38, 3) := by decide +kernel
theorem dX2_init_51 : decode cX2_init 51 = .ok (.dup, 1) := by decide +kernel
theorem dX2_init_52 : decode cX2_init 52 = .ok (.invokespecial 40, 3) := by decide +kernel
theorem dX2_init_55 : decode cX2_init 55 = .ok (.putfield 41, 3) := by decide +kernel
theorem dX2_init_58 : decode cX2_init 58 = .ok (.aload_n 0, 1) := by decide +kernel
theorem dX2_init_59 : decode cX2_init 59 = .ok (.new 45, 3) := by decide +kernel
theorem dX2_init_62 : decode cX2_init 62 = .ok (.dup, 1) := by decide +kernel
theorem dX2_init_63 : decode cX2_init 63 = .ok (.invokespecial 47, 3) := by decide +kernel
theorem dX2_init_66 : decode cX2_init 66 = .ok (.putfield 48, 3) := by decide +kernel
theorem dX2_init_69 : decode cX2_init 69 = .ok (.aload_n 0, 1) := by decide +kernel
theorem dX2_init_70 : decode cX2_init 70 = .ok (.new 52, 3) := by decide +kernel
theorem dX2_init_73 : decode cX2_init 73 = .ok (.dup, 1) := by decide +kernel
theorem dX2_init_74 : decode cX2_init 74 = .ok (.invokespecial 54, 3) := by decide +kernel
theorem dX2_init_77 : decode cX2_init 77 = .ok (.putfield 55, 3) := by decide +kernel
theorem dX2_init_80 : decode cX2_init 80 = .ok (.iconst 0, 1) := by decide +kernel
theorem dX2_init_81 : decode cX2_init 81 = .ok (.istore_n 1, 1) := by decide +kernel
theorem dX2_init_82 : decode cX2_init 82 = .ok (.iload_n 1, 1) := by decide +kernel
theorem dX2_init_83 : decode cX2_init 83 = .ok (.bipush 6, 2) := by decide +kernel
theorem dX2_init_85 : decode cX2_init 85 = .ok (.if_icmp .ge 22, 3) := by decide +kernel
theorem dX2_init_88 : decode cX2_init 88 = .ok (.aload_n 0, 1) := by decide +kernel
theorem dX2_init_89 : decode cX2_init 89 = .ok (.getfield 28, 3) := by decide +kernel
theorem dX2_init_92 : decode cX2_init 92 = .ok (.iload_n 1, 1) := by decide +kernel
theorem dX2_init_93 : decode cX2_init 93 = .ok (.new 26, 3) := by decide +kernel
theorem dX2_init_96 : decode cX2_init 96 = .ok (.dup, 1) := by decide +kernel
theorem dX2_init_97 : decode cX2_init 97 = .ok (.invokespecial 59, 3) := by decide +kernel
theorem dX2_init_100 : decode cX2_init 100 = .ok (.aastore, 1) := by decide +kernel
theorem dX2_init_101 : decode cX2_init 101 = .ok (.iinc 1 1, 3) := by decide +kernel
theorem dX2_init_104 : decode cX2_init 104 = .ok (.goto (-22), 3) := by decide +kernel
theorem dX2_init_107 : decode cX2_init 107 = .ok (.iconst 0, 1) := by decide +kernel
theorem dX2_init_108 : decode cX2_init 108 = .ok (.istore_n 1, 1) := by decide +kernel
theorem dX2_init_109 : decode cX2_init 109 = .ok (.iload_n 1, 1) := by decide +kernel
theorem dX2_init_110 : decode cX2_init 110 = .ok (.iconst 4, 1) := by decide +kernel
theorem dX2_init_111 : decode cX2_init 111 = .ok (.if_icmp .ge 22, 3) := by decide +kernel
theorem dX2_init_114 : decode cX2_init 114 = .ok (.aload_n 0, 1) := by decide +kernel
theorem dX2_init_115 : decode cX2_init 115 = .ok (.getfield 34, 3) := by decide +kernel
theorem dX2_init_118 : decode cX2_init 118 = .ok (.iload_n 1, 1) := by decide +kernel
theorem dX2_init_119 : decode cX2_init 119 = .ok (.new 32, 3) := by decide +kernel
theorem dX2_init_122 : decode cX2_init 122 = .ok (.dup, 1) := by decide +kernel
theorem dX2_init_123 : decode cX2_init 123 = .ok (.invokespecial 60, 3) := by decide +kernel
theorem dX2_init_126 : decode cX2_init 126 = .ok (.aastore, 1) := by decide +kernel
theorem dX2_init_127 : decode cX2_init 127 = .ok (.iinc 1 1, 3) := by decide +kernel
theorem dX2_init_130 : decode cX2_init 130 = .ok (.goto (-21), 3) := by decide +kernel
theorem dX2_init_133 : decode cX2_init 133 = .ok (.return_, 1) := by decide +kernel
theorem dX2_startAnew_0 : decode cX2_startAnew 0 = .ok (.aload_n 0, 1) := by decide +kernel
theorem dX2_startAnew_1 : decode cX2_startAnew 1 = .ok (.iconst 0, 1) := by decide +kernel
theorem dX2_startAnew_2 : decode cX2_startAnew 2 = .ok (.putfield 61, 3) := by decide +kernel
theorem dX2_startAnew_5 : decode cX2_startAnew 5 = .ok (.aload_n 0, 1) := by decide +kernel
theorem dX2_startAnew_6 : decode cX2_startAnew 6 = .ok (.getfield 41, 3) := by decide +kernel
theorem dX2_startAnew_9 : decode cX2_startAnew 9 = .ok (.iconst 0, 1) := by decide +kernel
theorem dX2_startAnew_10 : decode cX2_startAnew 10 = .ok (.putfield 64, 3) := by decide +kernel
theorem dX2_startAnew_13 : decode cX2_startAnew 13 = .ok (.aload_n 0, 1) := by decide +kernel
theorem dX2_startAnew_14 : decode cX2_startAnew 14 = .ok (.getfield 48, 3) := by decide +kernel
theorem dX2_startAnew_17 : decode cX2_startAnew 17 = .ok (.iconst 0, 1) := by decide +kernel
theorem dX2_startAnew_18 : decode cX2_startAnew 18 = .ok (.putfield 67, 3) := by decide +kernel
theorem dX2_startAnew_21 : decode cX2_startAnew 21 = .ok (.aload_n 0, 1) := by decide +kernel
theorem dX2_startAnew_22 : decode cX2_startAnew 22 = .ok (.iconst 0, 1) := by decide +kernel
theorem dX2_startAnew_23 : decode cX2_startAnew 23 = .ok (.putfield 68, 3) := by decide +kernel
theorem dX2_startAnew_26 : decode cX2_startAnew 26 = .ok (.aload_n 0, 1) := by decide +kernel
theorem dX2_startAnew_27 : decode cX2_startAnew 27 = .ok (.iconst 0, 1) := by decide +kernel
theorem dX2_startAnew_28 : decode cX2_startAnew 28 = .ok (.putfield 71, 3) := by decide +kernel
theorem dX2_startAnew_31 : decode cX2_startAnew 31 = .ok (.aload_n 0, 1) := by decide +kernel
theorem dX2_startAnew_32 : decode cX2_startAnew 32 = .ok (.iconst 0, 1) := by decide +kernel
theorem dX2_startAnew_33 : decode cX2_startAnew 33 = .ok (.putfield 74, 3) := by decide +kernel
theorem dX2_startAnew_36 : decode cX2_startAnew 36 = .ok (.aload_n 0, 1) := by decide +kernel
theorem dX2_startAnew_37 : decode cX2_startAnew 37 = .ok (.iconst 0, 1) := by decide +kernel
theorem dX2_startAnew_38 : decode cX2_startAnew 38 = .ok (.putfield 77, 3) := by decide +kernel
theorem dX2_startAnew_41 : decode cX2_startAnew 41 = .ok (.aload_n 0, 1) := by decide +kernel
theorem dX2_startAnew_42 : decode cX2_startAnew 42 = .ok (.iconst 0, 1) := by decide +kernel
theorem dX2_startAnew_43 : decode cX2_startAnew 43 = .ok (.putfield 80, 3) := by decide +kernel
theorem dX2_startAnew_46 : decode cX2_startAnew 46 = .ok (.aload_n 0, 1) := by decide +kernel
theorem dX2_startAnew_47 : decode cX2_startAnew 47 = .ok (.iconst 0, 1) := by decide +kernel
theorem dX2_startAnew_48 : decode cX2_startAnew 48 = .ok (.putfield 83, 3) := by decide +kernel
theorem dX2_startAnew_51 : decode cX2_startAnew 51 = .ok (.iconst 0, 1) := by decide +kernel
theorem dX2_startAnew_52 : decode cX2_startAnew 52 = .ok (.istore_n 1, 1) := by decide +kernel
theorem dX2_startAnew_53 : decode cX2_startAnew 53 = .ok (.iload_n 1, 1) := by decide +kernel
theorem dX2_startAnew_54 : decode cX2_startAnew 54 = .ok (.bipush 6, 2) := by decide +kernel
theorem dX2_startAnew_56 : decode cX2_startAnew 56 = .ok (.if_icmp .ge 38, 3) := by decide +kernel
theorem dX2_startAnew_59 : decode cX2_startAnew 59 = .ok (.aload_n 0, 1) := by decide +kernel
theorem dX2_startAnew_60 : decode cX2_startAnew 60 = .ok (.getfield 28, 3) := by decide +kernel
theorem dX2_startAnew_63 : decode cX2_startAnew 63 = .ok (.iload_n 1, 1) := by decide +kernel
theorem dX2_startAnew_64 : decode cX2_startAnew 64 = .ok (.aaload, 1) := by decide +kernel
theorem dX2_startAnew_65 : decode cX2_startAnew 65 = .ok (.invokevirtual 86, 3) := by decide +kernel
theorem dX2_startAnew_68 : decode cX2_startAnew 68 = .ok (.aload_n 0, 1) := by decide +kernel
theorem dX2_startAnew_69 : decode cX2_startAnew 69 = .ok (.getfield 28, 3) := by decide +kernel
theorem dX2_startAnew_72 : decode cX2_startAnew 72 = .ok (.iload_n 1, 1) := by decide +kernel
theorem dX2_startAnew_73 : decode cX2_startAnew 73 = .ok (.aaload, 1) := by decide +kernel
theorem dX2_startAnew_74 : decode cX2_startAnew 74 = .ok (.invokevirtual 89, 3) := by decide +kernel
theorem dX2_startAnew_77 : decode cX2_startAnew 77 = .ok (.aload_n 0, 1) := by decide +kernel
theorem dX2_startAnew_78 : decode cX2_startAnew 78 = .ok (.getfield 23, 3) := by decide +kernel
theorem dX2_startAnew_81 : decode cX2_startAnew 81 = .ok (.iload_n 1, 1) := by decide +kernel
theorem dX2_startAnew_82 : decode cX2_startAnew 82 = .ok (.aaload, 1) := by decide +kernel
theorem dX2_startAnew_83 : decode cX2_startAnew 83 = .ok (.bipush 20, 2) := by decide +kernel
theorem dX2_startAnew_85 : decode cX2_startAnew 85 = .ok (.invokestatic 92, 3) := by decide +kernel
theorem dX2_startAnew_88 : decode cX2_startAnew 88 = .ok (.iinc 1 1, 3) := by decide +kernel
theorem dX2_startAnew_91 : decode cX2_startAnew 91 = .ok (.goto (-38), 3) := by decide +kernel
theorem dX2_startAnew_94 : decode cX2_startAnew 94 = .ok (.iconst 0, 1) := by decide +kernel
theorem dX2_startAnew_95 : decode cX2_startAnew 95 = .ok (.istore_n 1, 1) := by decide +kernel
theorem dX2_startAnew_96 : decode cX2_startAnew 96 = .ok (.iload_n 1, 1) := by decide +kernel
theorem dX2_startAnew_97 : decode cX2_startAnew 97 = .ok (.iconst 4, 1) := by decide +kernel
theorem dX2_startAnew_98 : decode cX2_startAnew 98 = .ok (.if_icmp .ge 18, 3) := by decide +kernel
theorem dX2_startAnew_101 : decode cX2_startAnew 101 = .ok (.aload_n 0, 1) := by decide +kernel
theorem dX2_startAnew_102 : decode cX2_startAnew 102 = .ok (.getfield 34, 3) := by decide +kernel
theorem dX2_startAnew_105 : decode cX2_startAnew 105 = .ok (.iload_n 1, 1) := by decide +kernel
theorem dX2_startAnew_106 : decode cX2_startAnew 106 = .ok (.aaload, 1) := by decide +kernel
theorem dX2_startAnew_107 : decode cX2_startAnew 107 = .ok (.invokevirtual 98, 3) := by decide +kernel
theorem dX2_startAnew_110 : decode cX2_startAnew 110 = .ok (.iinc 1 1, 3) := by decide +kernel
theorem dX2_startAnew_113 : decode cX2_startAnew 113 = .ok (.goto (-17), 3) := by decide +kernel
theorem dX2_startAnew_116 : decode cX2_startAnew 116 = .ok (.return_, 1) := by decide +kernel
theorem dX2_drawGains_0 : decode cX2_drawGains 0 = .ok (.iload_n 1, 1) := by decide +kernel
theorem dX2_drawGains_1 : decode cX2_drawGains 1 = .ok (.i2l, 1) := by decide +kernel
theorem dX2_drawGains_2 : decode cX2_drawGains 2 = .ok (.lstore_n 2, 1) := by decide +kernel
theorem dX2_drawGains_3 : decode cX2_drawGains 3 = .ok (.iconst 0, 1) := by decide +kernel
theorem dX2_drawGains_4 : decode cX2_drawGains 4 = .ok (.istore 4, 2) := by decide +kernel
theorem dX2_drawGains_6 : decode cX2_drawGains 6 = .ok (.iconst 0, 1) := by decide +kernel
theorem dX2_drawGains_7 : decode cX2_drawGains 7 = .ok (.istore 5, 2) := by decide +kernel
theorem dX2_drawGains_9 : decode cX2_drawGains 9 = .ok (.iload 5, 2) := by decide +kernel
theorem dX2_drawGains_11 : decode cX2_drawGains 11 = .ok (.aload_n 0, 1) := by decide +kernel
theorem dX2_drawGains_12 : decode cX2_drawGains 12 = .ok (.getfield 9, 3) := by decide +kernel
theorem dX2_drawGains_15 : decode cX2_drawGains 15 = .ok (.if_icmp .ge 76, 3) := by decide +kernel
theorem dX2_drawGains_18 : decode cX2_drawGains 18 = .ok (.iconst 0, 1) := by decide +kernel
theorem dX2_drawGains_19 : decode cX2_drawGains 19 = .ok (.istore 6, 2) := by decide +kernel
theorem dX2_drawGains_21 : decode cX2_drawGains 21 = .ok (.iload 6, 2) := by decide +kernel
theorem dX2_drawGains_23 : decode cX2_drawGains 23 = .ok (.aload_n 0, 1) := by decide +kernel
theorem dX2_drawGains_24 : decode cX2_drawGains 24 = .ok (.getfield 15, 3) := by decide +kernel
theorem dX2_drawGains_27 : decode cX2_drawGains 27 = .ok (.if_icmp .ge 58, 3) := by decide +kernel
theorem dX2_drawGains_30 : decode cX2_drawGains 30 = .ok (.lload_n 2, 1) := by decide +kernel
theorem dX2_drawGains_31 : decode cX2_drawGains 31 = .ok (.ldc2_w 99, 3) := by decide +kernel
theorem dX2_drawGains_34 : decode cX2_drawGains 34 = .ok (.lmul, 1) := by decide +kernel
theorem dX2_drawGains_35 : decode cX2_drawGains 35 = .ok (.ldc2_w 101, 3) := by decide +kernel
theorem dX2_drawGains_38 : decode cX2_drawGains 38 = .ok (.ladd, 1) := by decide +kernel
theorem dX2_drawGains_39 : decode cX2_drawGains 39 = .ok (.ldc2_w 103, 3) := by decide +kernel
theorem dX2_drawGains_42 : decode cX2_drawGains 42 = .ok (.lrem, 1) := by decide +kernel
theorem dX2_drawGains_43 : decode cX2_drawGains 43 = .ok (.lstore_n 2, 1) := by decide +kernel
theorem dX2_drawGains_44 : decode cX2_drawGains 44 = .ok (.aload_n 0, 1) := by decide +kernel
theorem dX2_drawGains_45 : decode cX2_drawGains 45 = .ok (.getfield 23, 3) := by decide +kernel
theorem dX2_drawGains_48 : decode cX2_drawGains 48 = .ok (.iload 5, 2) := by decide +kernel
theorem dX2_drawGains_50 : decode cX2_drawGains 50 = .ok (.aaload, 1) := by decide +kernel
theorem dX2_drawGains_51 : decode cX2_drawGains 51 = .ok (.iload 6, 2) := by decide +kernel
theorem dX2_drawGains_53 : decode cX2_drawGains 53 = .ok (.lload_n 2, 1) := by decide +kernel
theorem dX2_drawGains_54 : decode cX2_drawGains 54 = .ok (.ldc2_w 105, 3) := by decide +kernel
theorem dX2_drawGains_57 : decode cX2_drawGains 57 = .ok (.ldiv, 1) := by decide +kernel
theorem dX2_drawGains_58 : decode cX2_drawGains 58 = .ok (.ldc2_w 107, 3) := by decide +kernel
theorem dX2_drawGains_61 : decode cX2_drawGains 61 = .ok (.lrem, 1) := by decide +kernel
theorem dX2_drawGains_62 : decode cX2_drawGains 62 = .ok (.l2i, 1) := by decide +kernel
theorem dX2_drawGains_63 : decode cX2_drawGains 63 = .ok (.iastore, 1) := by decide +kernel
theorem dX2_drawGains_64 : decode cX2_drawGains 64 = .ok (.iload 4, 2) := by decide +kernel
theorem dX2_drawGains_66 : decode cX2_drawGains 66 = .ok (.aload_n 0, 1) := by decide +kernel
theorem dX2_drawGains_67 : decode cX2_drawGains 67 = .ok (.getfield 23, 3) := by decide +kernel
theorem dX2_drawGains_70 : decode cX2_drawGains 70 = .ok (.iload 5, 2) := by decide +kernel
theorem dX2_drawGains_72 : decode cX2_drawGains 72 = .ok (.aaload, 1) := by decide +kernel
theorem dX2_drawGains_73 : decode cX2_drawGains 73 = .ok (.iload 6, 2) := by decide +kernel
theorem dX2_drawGains_75 : decode cX2_drawGains 75 = .ok (.iaload, 1) := by decide +kernel
theorem dX2_drawGains_76 : decode cX2_drawGains 76 = .ok (.iadd, 1) := by decide +kernel
theorem dX2_drawGains_77 : decode cX2_drawGains 77 = .ok (.istore 4, 2) := by decide +kernel
theorem dX2_drawGains_79 : decode cX2_drawGains 79 = .ok (.iinc 6 1, 3) := by decide +kernel
theorem dX2_drawGains_82 : decode cX2_drawGains 82 = .ok (.goto (-61), 3) := by decide +kernel
theorem dX2_drawGains_85 : decode cX2_drawGains 85 = .ok (.iinc 5 1, 3) := by decide +kernel
theorem dX2_drawGains_88 : decode cX2_drawGains 88 = .ok (.goto (-79), 3) := by decide +kernel
theorem dX2_drawGains_91 : decode cX2_drawGains 91 = .ok (.iload 4, 2) := by decide +kernel
theorem dX2_drawGains_93 : decode cX2_drawGains 93 = .ok (.ireturn, 1) := by decide +kernel
theorem dX2_isFull_0 : decode cX2_isFull 0 = .ok (.aload_n 0, 1) := by decide +kernel
theorem dX2_isFull_1 : decode cX2_isFull 1 = .ok (.getfield 41, 3) := by decide +kernel
theorem dX2_isFull_4 : decode cX2_isFull 4 = .ok (.getfield 64, 3) := by decide +kernel
theorem dX2_isFull_7 : decode cX2_isFull 7 = .ok (.bipush 56, 2) := by decide +kernel
theorem dX2_isFull_9 : decode cX2_isFull 9 = .ok (.if_icmp .le 7, 3) := by decide +kernel
theorem dX2_isFull_12 : decode cX2_isFull 12 = .ok (.iconst 1, 1) := by decide +kernel
theorem dX2_isFull_13 : decode cX2_isFull 13 = .ok (.goto 4, 3) := by decide +kernel
theorem dX2_isFull_16 : decode cX2_isFull 16 = .ok (.iconst 0, 1) := by decide +kernel
theorem dX2_isFull_17 : decode cX2_isFull 17 = .ok (.ireturn, 1) := by decide +kernel
theorem dX2_marginAt_0 : decode cX2_marginAt 0 = .ok (.aload_n 0, 1) := by decide +kernel
theorem dX2_marginAt_1 : decode cX2_marginAt 1 = .ok (.getfield 23, 3) := by decide +kernel
theorem dX2_marginAt_4 : decode cX2_marginAt 4 = .ok (.iload_n 1, 1) := by decide +kernel
theorem dX2_marginAt_5 : decode cX2_marginAt 5 = .ok (.aaload, 1) := by decide +kernel
theorem dX2_marginAt_6 : decode cX2_marginAt 6 = .ok (.iload_n 2, 1) := by decide +kernel
theorem dX2_marginAt_7 : decode cX2_marginAt 7 = .ok (.iaload, 1) := by decide +kernel
theorem dX2_marginAt_8 : decode cX2_marginAt 8 = .ok (.iconst 2, 1) := by decide +kernel
theorem dX2_marginAt_9 : decode cX2_marginAt 9 = .ok (.aload_n 0, 1) := by decide +kernel
theorem dX2_marginAt_10 : decode cX2_marginAt 10 = .ok (.getfield 28, 3) := by decide +kernel
theorem dX2_marginAt_13 : decode cX2_marginAt 13 = .ok (.iload_n 1, 1) := by decide +kernel
theorem dX2_marginAt_14 : decode cX2_marginAt 14 = .ok (.aaload, 1) := by decide +kernel
theorem dX2_marginAt_15 : decode cX2_marginAt 15 = .ok (.getfield 109, 3) := by decide +kernel
theorem dX2_marginAt_18 : decode cX2_marginAt 18 = .ok (.imul, 1) := by decide +kernel
theorem dX2_marginAt_19 : decode cX2_marginAt 19 = .ok (.iadd, 1) := by decide +kernel
theorem dX2_marginAt_20 : decode cX2_marginAt 20 = .ok (.iconst 5, 1) := by decide +kernel
theorem dX2_marginAt_21 : decode cX2_marginAt 21 = .ok (.aload_n 0, 1) := by decide +kernel
theorem dX2_marginAt_22 : decode cX2_marginAt 22 = .ok (.getfield 28, 3) := by decide +kernel
theorem dX2_marginAt_25 : decode cX2_marginAt 25 = .ok (.iload_n 1, 1) := by decide +kernel
theorem dX2_marginAt_26 : decode cX2_marginAt 26 = .ok (.aaload, 1) := by decide +kernel
theorem dX2_marginAt_27 : decode cX2_marginAt 27 = .ok (.getfield 112, 3) := by decide +kernel
theorem dX2_marginAt_30 : decode cX2_marginAt 30 = .ok (.imul, 1) := by decide +kernel
theorem dX2_marginAt_31 : decode cX2_marginAt 31 = .ok (.isub, 1) := by decide +kernel
theorem dX2_marginAt_32 : decode cX2_marginAt 32 = .ok (.ireturn, 1) := by decide +kernel
theorem dX2_sendNext_0 : decode cX2_sendNext 0 = .ok (.aload_n 0, 1) := by decide +kernel
theorem dX2_sendNext_1 : decode cX2_sendNext 1 = .ok (.iload_n 1, 1) := by decide +kernel
theorem dX2_sendNext_2 : decode cX2_sendNext 2 = .ok (.aload_n 0, 1) := by decide +kernel
theorem dX2_sendNext_3 : decode cX2_sendNext 3 = .ok (.getfield 28, 3) := by decide +kernel
theorem dX2_sendNext_6 : decode cX2_sendNext 6 = .ok (.iload_n 1, 1) := by decide +kernel
theorem dX2_sendNext_7 : decode cX2_sendNext 7 = .ok (.aaload, 1) := by decide +kernel
theorem dX2_sendNext_8 : decode cX2_sendNext 8 = .ok (.invokevirtual 115, 3) := by decide +kernel
theorem dX2_sendNext_11 : decode cX2_sendNext 11 = .ok (.invokevirtual 119, 3) := by decide +kernel
theorem dX2_sendNext_14 : decode cX2_sendNext 14 = .ok (.ireturn, 1) := by decide +kernel
theorem dX2_sendLastAgain_0 : decode cX2_sendLastAgain 0 = .ok (.aload_n 0, 1) := by decide +kernel
theorem dX2_sendLastAgain_1 : decode cX2_sendLastAgain 1 = .ok (.iload_n 1, 1) := by decide +kernel
theorem dX2_sendLastAgain_2 : decode cX2_sendLastAgain 2 = .ok (.aload_n 0, 1) := by decide +kernel
theorem dX2_sendLastAgain_3 : decode cX2_sendLastAgain 3 = .ok (.getfield 28, 3) := by decide +kernel
theorem dX2_sendLastAgain_6 : decode cX2_sendLastAgain 6 = .ok (.iload_n 1, 1) := by decide +kernel
theorem dX2_sendLastAgain_7 : decode cX2_sendLastAgain 7 = .ok (.aaload, 1) := by decide +kernel
theorem dX2_sendLastAgain_8 : decode cX2_sendLastAgain 8 = .ok (.getfield 123, 3) := by decide +kernel
theorem dX2_sendLastAgain_11 : decode cX2_sendLastAgain 11 = .ok (.invokevirtual 119, 3) := by decide +kernel
theorem dX2_sendLastAgain_14 : decode cX2_sendLastAgain 14 = .ok (.ireturn, 1) := by decide +kernel
theorem dX2_spread_0 : decode cX2_spread 0 = .ok (.iconst 0, 1) := by decide +kernel
theorem dX2_spread_1 : decode cX2_spread 1 = .ok (.istore_n 3, 1) := by decide +kernel
theorem dX2_spread_2 : decode cX2_spread 2 = .ok (.iconst 0, 1) := by decide +kernel
theorem dX2_spread_3 : decode cX2_spread 3 = .ok (.istore 4, 2) := by decide +kernel
theorem dX2_spread_5 : decode cX2_spread 5 = .ok (.iload 4, 2) := by decide +kernel
theorem dX2_spread_7 : decode cX2_spread 7 = .ok (.aload_n 0, 1) := by decide +kernel
theorem dX2_spread_8 : decode cX2_spread 8 = .ok (.getfield 15, 3) := by decide +kernel
theorem dX2_spread_11 : decode cX2_spread 11 = .ok (.if_icmp .ge 72, 3) := by decide +kernel
theorem dX2_spread_14 : decode cX2_spread 14 = .ok (.aload_n 0, 1) := by decide +kernel
theorem dX2_spread_15 : decode cX2_spread 15 = .ok (.iload_n 1, 1) := by decide +kernel
theorem dX2_spread_16 : decode cX2_spread 16 = .ok (.iload 4, 2) := by decide +kernel
theorem dX2_spread_18 : decode cX2_spread 18 = .ok (.invokevirtual 126, 3) := by decide +kernel
theorem dX2_spread_21 : decode cX2_spread 21 = .ok (.istore 5, 2) := by decide +kernel
theorem dX2_spread_23 : decode cX2_spread 23 = .ok (.iload 5, 2) := by decide +kernel
theorem dX2_spread_25 : decode cX2_spread 25 = .ok (.ifCond .lt 52, 3) := by decide +kernel
theorem dX2_spread_28 : decode cX2_spread 28 = .ok (.aload_n 0, 1) := by decide +kernel
theorem dX2_spread_29 : decode cX2_spread 29 = .ok (.getfield 41, 3) := by decide +kernel
theorem dX2_spread_32 : decode cX2_spread 32 = .ok (.iload_n 1, 1) := by decide +kernel
theorem dX2_spread_33 : decode cX2_spread 33 = .ok (.iload_n 2, 1) := by decide +kernel
theorem dX2_spread_34 : decode cX2_spread 34 = .ok (.iload 4, 2) := by decide +kernel
theorem dX2_spread_36 : decode cX2_spread 36 = .ok (.iload 5, 2) := by decide +kernel
theorem dX2_spread_38 : decode cX2_spread 38 = .ok (.aload_n 0, 1) := by decide +kernel
theorem dX2_spread_39 : decode cX2_spread 39 = .ok (.getfield 61, 3) := by decide +kernel
theorem dX2_spread_42 : decode cX2_spread 42 = .ok (.iconst 1, 1) := by decide +kernel
theorem dX2_spread_43 : decode cX2_spread 43 = .ok (.iadd, 1) := by decide +kernel
theorem dX2_spread_44 : decode cX2_spread 44 = .ok (.aload_n 0, 1) := by decide +kernel
theorem dX2_spread_45 : decode cX2_spread 45 = .ok (.getfield 34, 3) := by decide +kernel
theorem dX2_spread_48 : decode cX2_spread 48 = .ok (.iload 4, 2) := by decide +kernel
theorem dX2_spread_50 : decode cX2_spread 50 = .ok (.aaload, 1) := by decide +kernel
theorem dX2_spread_51 : decode cX2_spread 51 = .ok (.getfield 129, 3) := by decide +kernel
theorem dX2_spread_54 : decode cX2_spread 54 = .ok (.iadd, 1) := by decide +kernel
theorem dX2_spread_55 : decode cX2_spread 55 = .ok (.invokevirtual 132, 3) := by decide +kernel
theorem dX2_spread_58 : decode cX2_spread 58 = .ok (.aload_n 0, 1) := by decide +kernel
theorem dX2_spread_59 : decode cX2_spread 59 = .ok (.getfield 34, 3) := by decide +kernel
theorem dX2_spread_62 : decode cX2_spread 62 = .ok (.iload 4, 2) := by decide +kernel
theorem dX2_spread_64 : decode cX2_spread 64 = .ok (.aaload, 1) := by decide +kernel
theorem dX2_spread_65 : decode cX2_spread 65 = .ok (.dup, 1) := by decide +kernel
theorem dX2_spread_66 : decode cX2_spread 66 = .ok (.getfield 136, 3) := by decide +kernel
theorem dX2_spread_69 : decode cX2_spread 69 = .ok (.iconst 1, 1) := by decide +kernel
theorem dX2_spread_70 : decode cX2_spread 70 = .ok (.iadd, 1) := by decide +kernel
theorem dX2_spread_71 : decode cX2_spread 71 = .ok (.putfield 136, 3) := by decide +kernel
theorem dX2_spread_74 : decode cX2_spread 74 = .ok (.iinc 3 1, 3) := by decide +kernel
theorem dX2_spread_77 : decode cX2_spread 77 = .ok (.iinc 4 1, 3) := by decide +kernel
theorem dX2_spread_80 : decode cX2_spread 80 = .ok (.goto (-75), 3) := by decide +kernel
theorem dX2_spread_83 : decode cX2_spread 83 = .ok (.iload_n 3, 1) := by decide +kernel
theorem dX2_spread_84 : decode cX2_spread 84 = .ok (.ireturn, 1) := by decide +kernel
theorem dX2_passTicks_0 : decode cX2_passTicks 0 = .ok (.iconst 0, 1) := by decide +kernel
theorem dX2_passTicks_1 : decode cX2_passTicks 1 = .ok (.istore_n 2, 1) := by decide +kernel
theorem dX2_passTicks_2 : decode cX2_passTicks 2 = .ok (.iconst 0, 1) := by decide +kernel
theorem dX2_passTicks_3 : decode cX2_passTicks 3 = .ok (.istore_n 3, 1) := by decide +kernel
theorem dX2_passTicks_4 : decode cX2_passTicks 4 = .ok (.iload_n 3, 1) := by decide +kernel
theorem dX2_passTicks_5 : decode cX2_passTicks 5 = .ok (.iload_n 1, 1) := by decide +kernel
theorem dX2_passTicks_6 : decode cX2_passTicks 6 = .ok (.if_icmp .ge 45, 3) := by decide +kernel
theorem dX2_passTicks_9 : decode cX2_passTicks 9 = .ok (.aload_n 0, 1) := by decide +kernel
theorem dX2_passTicks_10 : decode cX2_passTicks 10 = .ok (.dup, 1) := by decide +kernel
theorem dX2_passTicks_11 : decode cX2_passTicks 11 = .ok (.getfield 61, 3) := by decide +kernel
theorem dX2_passTicks_14 : decode cX2_passTicks 14 = .ok (.iconst 1, 1) := by decide +kernel
theorem dX2_passTicks_15 : decode cX2_passTicks 15 = .ok (.iadd, 1) := by decide +kernel
theorem dX2_passTicks_16 : decode cX2_passTicks 16 = .ok (.putfield 61, 3) := by decide +kernel
theorem dX2_passTicks_19 : decode cX2_passTicks 19 = .ok (.aload_n 0, 1) := by decide +kernel
theorem dX2_passTicks_20 : decode cX2_passTicks 20 = .ok (.getfield 61, 3) := by decide +kernel
theorem dX2_passTicks_23 : decode cX2_passTicks 23 = .ok (.bipush 60, 2) := by decide +kernel
theorem dX2_passTicks_25 : decode cX2_passTicks 25 = .ok (.irem, 1) := by decide +kernel
theorem dX2_passTicks_26 : decode cX2_passTicks 26 = .ok (.iconst 1, 1) := by decide +kernel
theorem dX2_passTicks_27 : decode cX2_passTicks 27 = .ok (.if_icmp .ne 7, 3) := by decide +kernel
theorem dX2_passTicks_30 : decode cX2_passTicks 30 = .ok (.aload_n 0, 1) := by decide +kernel
theorem dX2_passTicks_31 : decode cX2_passTicks 31 = .ok (.invokevirtual 139, 3) := by decide +kernel
theorem dX2_passTicks_34 : decode cX2_passTicks 34 = .ok (.aload_n 0, 1) := by decide +kernel
theorem dX2_passTicks_35 : decode cX2_passTicks 35 = .ok (.invokevirtual 142, 3) := by decide +kernel
theorem dX2_passTicks_38 : decode cX2_passTicks 38 = .ok (.iload_n 2, 1) := by decide +kernel
theorem dX2_passTicks_39 : decode cX2_passTicks 39 = .ok (.aload_n 0, 1) := by decide +kernel
theorem dX2_passTicks_40 : decode cX2_passTicks 40 = .ok (.invokevirtual 145, 3) := by decide +kernel
theorem dX2_passTicks_43 : decode cX2_passTicks 43 = .ok (.iadd, 1) := by decide +kernel
theorem dX2_passTicks_44 : decode cX2_passTicks 44 = .ok (.istore_n 2, 1) := by decide +kernel
theorem dX2_passTicks_45 : decode cX2_passTicks 45 = .ok (.iinc 3 1, 3) := by decide +kernel
theorem dX2_passTicks_48 : decode cX2_passTicks 48 = .ok (.goto (-44), 3) := by decide +kernel
theorem dX2_passTicks_51 : decode cX2_passTicks 51 = .ok (.iload_n 2, 1) := by decide +kernel
theorem dX2_passTicks_52 : decode cX2_passTicks 52 = .ok (.ireturn, 1) := by decide +kernel
theorem dX2_refillBudgets_0 : decode cX2_refillBudgets 0 = .ok (.iconst 0, 1) := by decide +kernel
theorem dX2_refillBudgets_1 : decode cX2_refillBudgets 1 = .ok (.istore_n 1, 1) := by decide +kernel
theorem dX2_refillBudgets_2 : decode cX2_refillBudgets 2 = .ok (.iload_n 1, 1) := by decide +kernel
theorem dX2_refillBudgets_3 : decode cX2_refillBudgets 3 = .ok (.iconst 4, 1) := by decide +kernel
theorem dX2_refillBudgets_4 : decode cX2_refillBudgets 4 = .ok (.if_icmp .ge 19, 3) := by decide +kernel
theorem dX2_refillBudgets_7 : decode cX2_refillBudgets 7 = .ok (.aload_n 0, 1) := by decide +kernel
theorem dX2_refillBudgets_8 : decode cX2_refillBudgets 8 = .ok (.getfield 34, 3) := by decide +kernel
theorem dX2_refillBudgets_11 : decode cX2_refillBudgets 11 = .ok (.iload_n 1, 1) := by decide +kernel
theorem dX2_refillBudgets_12 : decode cX2_refillBudgets 12 = .ok (.aaload, 1) := by decide +kernel
theorem dX2_refillBudgets_13 : decode cX2_refillBudgets 13 = .ok (.iconst 0, 1) := by decide +kernel
theorem dX2_refillBudgets_14 : decode cX2_refillBudgets 14 = .ok (.putfield 148, 3) := by decide +kernel
theorem dX2_refillBudgets_17 : decode cX2_refillBudgets 17 = .ok (.iinc 1 1, 3) := by decide +kernel
theorem dX2_refillBudgets_20 : decode cX2_refillBudgets 20 = .ok (.goto (-18), 3) := by decide +kernel
theorem dX2_refillBudgets_23 : decode cX2_refillBudgets 23 = .ok (.return_, 1) := by decide +kernel
theorem dX2_bringCopies_0 : decode cX2_bringCopies 0 = .ok (.iconst 0, 1) := by decide +kernel
theorem dX2_bringCopies_1 : decode cX2_bringCopies 1 = .ok (.istore_n 1, 1) := by decide +kernel
theorem dX2_bringCopies_2 : decode cX2_bringCopies 2 = .ok (.iconst 0, 1) := by decide +kernel
theorem dX2_bringCopies_3 : decode cX2_bringCopies 3 = .ok (.istore_n 2, 1) := by decide +kernel
theorem dX2_bringCopies_4 : decode cX2_bringCopies 4 = .ok (.iload_n 2, 1) := by decide +kernel
theorem dX2_bringCopies_5 : decode cX2_bringCopies 5 = .ok (.aload_n 0, 1) := by decide +kernel
theorem dX2_bringCopies_6 : decode cX2_bringCopies 6 = .ok (.getfield 41, 3) := by decide +kernel
theorem dX2_bringCopies_9 : decode cX2_bringCopies 9 = .ok (.getfield 64, 3) := by decide +kernel
theorem dX2_bringCopies_12 : decode cX2_bringCopies 12 = .ok (.if_icmp .ge 45, 3) := by decide +kernel
theorem dX2_bringCopies_15 : decode cX2_bringCopies 15 = .ok (.aload_n 0, 1) := by decide +kernel
theorem dX2_bringCopies_16 : decode cX2_bringCopies 16 = .ok (.getfield 41, 3) := by decide +kernel
theorem dX2_bringCopies_19 : decode cX2_bringCopies 19 = .ok (.getfield 151, 3) := by decide +kernel
theorem dX2_bringCopies_22 : decode cX2_bringCopies 22 = .ok (.iload_n 2, 1) := by decide +kernel
theorem dX2_bringCopies_23 : decode cX2_bringCopies 23 = .ok (.iaload, 1) := by decide +kernel
theorem dX2_bringCopies_24 : decode cX2_bringCopies 24 = .ok (.aload_n 0, 1) := by decide +kernel
theorem dX2_bringCopies_25 : decode cX2_bringCopies 25 = .ok (.getfield 61, 3) := by decide +kernel
theorem dX2_bringCopies_28 : decode cX2_bringCopies 28 = .ok (.if_icmp .ne 11, 3) := by decide +kernel
theorem dX2_bringCopies_31 : decode cX2_bringCopies 31 = .ok (.aload_n 0, 1) := by decide +kernel
theorem dX2_bringCopies_32 : decode cX2_bringCopies 32 = .ok (.iload_n 2, 1) := by decide +kernel
theorem dX2_bringCopies_33 : decode cX2_bringCopies 33 = .ok (.invokevirtual 155, 3) := by decide +kernel
theorem dX2_bringCopies_36 : decode cX2_bringCopies 36 = .ok (.goto 15, 3) := by decide +kernel
theorem dX2_bringCopies_39 : decode cX2_bringCopies 39 = .ok (.aload_n 0, 1) := by decide +kernel
theorem dX2_bringCopies_40 : decode cX2_bringCopies 40 = .ok (.getfield 41, 3) := by decide +kernel
theorem dX2_bringCopies_43 : decode cX2_bringCopies 43 = .ok (.iload_n 2, 1) := by decide +kernel
theorem dX2_bringCopies_44 : decode cX2_bringCopies 44 = .ok (.iload_n 1, 1) := by decide +kernel
theorem dX2_bringCopies_45 : decode cX2_bringCopies 45 = .ok (.invokevirtual 159, 3) := by decide +kernel
theorem dX2_bringCopies_48 : decode cX2_bringCopies 48 = .ok (.iinc 1 1, 3) := by decide +kernel
theorem dX2_bringCopies_51 : decode cX2_bringCopies 51 = .ok (.iinc 2 1, 3) := by decide +kernel
theorem dX2_bringCopies_54 : decode cX2_bringCopies 54 = .ok (.goto (-50), 3) := by decide +kernel
theorem dX2_bringCopies_57 : decode cX2_bringCopies 57 = .ok (.aload_n 0, 1) := by decide +kernel
theorem dX2_bringCopies_58 : decode cX2_bringCopies 58 = .ok (.getfield 41, 3) := by decide +kernel
theorem dX2_bringCopies_61 : decode cX2_bringCopies 61 = .ok (.iload_n 1, 1) := by decide +kernel
theorem dX2_bringCopies_62 : decode cX2_bringCopies 62 = .ok (.putfield 64, 3) := by decide +kernel
theorem dX2_bringCopies_65 : decode cX2_bringCopies 65 = .ok (.return_, 1) := by decide +kernel
theorem dX2_bring_0 : decode cX2_bring 0 = .ok (.aload_n 0, 1) := by decide +kernel
theorem dX2_bring_1 : decode cX2_bring 1 = .ok (.getfield 41, 3) := by decide +kernel
theorem dX2_bring_4 : decode cX2_bring 4 = .ok (.getfield 163, 3) := by decide +kernel
theorem dX2_bring_7 : decode cX2_bring 7 = .ok (.iload_n 1, 1) := by decide +kernel
theorem dX2_bring_8 : decode cX2_bring 8 = .ok (.iaload, 1) := by decide +kernel
theorem dX2_bring_9 : decode cX2_bring 9 = .ok (.istore_n 2, 1) := by decide +kernel
theorem dX2_bring_10 : decode cX2_bring 10 = .ok (.aload_n 0, 1) := by decide +kernel
theorem dX2_bring_11 : decode cX2_bring 11 = .ok (.getfield 41, 3) := by decide +kernel
theorem dX2_bring_14 : decode cX2_bring 14 = .ok (.getfield 166, 3) := by decide +kernel
theorem dX2_bring_17 : decode cX2_bring 17 = .ok (.iload_n 1, 1) := by decide +kernel
theorem dX2_bring_18 : decode cX2_bring 18 = .ok (.iaload, 1) := by decide +kernel
theorem dX2_bring_19 : decode cX2_bring 19 = .ok (.istore_n 3, 1) := by decide +kernel
theorem dX2_bring_20 : decode cX2_bring 20 = .ok (.aload_n 0, 1) := by decide +kernel
theorem dX2_bring_21 : decode cX2_bring 21 = .ok (.getfield 48, 3) := by decide +kernel
theorem dX2_bring_24 : decode cX2_bring 24 = .ok (.iload_n 2, 1) := by decide +kernel
theorem dX2_bring_25 : decode cX2_bring 25 = .ok (.iload_n 3, 1) := by decide +kernel
theorem dX2_bring_26 : decode cX2_bring 26 = .ok (.invokevirtual 169, 3) := by decide +kernel
theorem dX2_bring_29 : decode cX2_bring 29 = .ok (.istore 4, 2) := by decide +kernel
theorem dX2_bring_31 : decode cX2_bring 31 = .ok (.iload 4, 2) := by decide +kernel
theorem dX2_bring_33 : decode cX2_bring 33 = .ok (.iconst (-1), 1) := by decide +kernel
theorem dX2_bring_34 : decode cX2_bring 34 = .ok (.if_icmp .eq 43, 3) := by decide +kernel
theorem dX2_bring_37 : decode cX2_bring 37 = .ok (.aload_n 0, 1) := by decide +kernel
theorem dX2_bring_38 : decode cX2_bring 38 = .ok (.getfield 48, 3) := by decide +kernel
theorem dX2_bring_41 : decode cX2_bring 41 = .ok (.iload 4, 2) := by decide +kernel
theorem dX2_bring_43 : decode cX2_bring 43 = .ok (.aload_n 0, 1) := by decide +kernel
theorem dX2_bring_44 : decode cX2_bring 44 = .ok (.getfield 41, 3) := by decide +kernel
theorem dX2_bring_47 : decode cX2_bring 47 = .ok (.getfield 172, 3) := by decide +kernel
theorem dX2_bring_50 : decode cX2_bring 50 = .ok (.iload_n 1, 1) := by decide +kernel
theorem dX2_bring_51 : decode cX2_bring 51 = .ok (.iaload, 1) := by decide +kernel
theorem dX2_bring_52 : decode cX2_bring 52 = .ok (.aload_n 0, 1) := by decide +kernel
theorem dX2_bring_53 : decode cX2_bring 53 = .ok (.getfield 41, 3) := by decide +kernel
theorem dX2_bring_56 : decode cX2_bring 56 = .ok (.getfield 175, 3) := by decide +kernel
theorem dX2_bring_59 : decode cX2_bring 59 = .ok (.iload_n 1, 1) := by decide +kernel
theorem dX2_bring_60 : decode cX2_bring 60 = .ok (.iaload, 1) := by decide +kernel
theorem dX2_bring_61 : decode cX2_bring 61 = .ok (.invokevirtual 178, 3) := by decide +kernel
theorem dX2_bring_64 : decode cX2_bring 64 = .ok (.aload_n 0, 1) := by decide +kernel
theorem dX2_bring_65 : decode cX2_bring 65 = .ok (.dup, 1) := by decide +kernel
theorem dX2_bring_66 : decode cX2_bring 66 = .ok (.getfield 83, 3) := by decide +kernel
theorem dX2_bring_69 : decode cX2_bring 69 = .ok (.iconst 1, 1) := by decide +kernel
theorem dX2_bring_70 : decode cX2_bring 70 = .ok (.iadd, 1) := by decide +kernel
theorem dX2_bring_71 : decode cX2_bring 71 = .ok (.putfield 83, 3) := by decide +kernel
theorem dX2_bring_74 : decode cX2_bring 74 = .ok (.goto 81, 3) := by decide +kernel
theorem dX2_bring_77 : decode cX2_bring 77 = .ok (.iload_n 3, 1) := by decide +kernel
theorem dX2_bring_78 : decode cX2_bring 78 = .ok (.iconst (-1), 1) := by decide +kernel
theorem dX2_bring_79 : decode cX2_bring 79 = .ok (.if_icmp .eq 16, 3) := by decide +kernel
theorem dX2_bring_82 : decode cX2_bring 82 = .ok (.aload_n 0, 1) := by decide +kernel
theorem dX2_bring_83 : decode cX2_bring 83 = .ok (.getfield 28, 3) := by decide +kernel
theorem dX2_bring_86 : decode cX2_bring 86 = .ok (.iload_n 2, 1) := by decide +kernel
theorem dX2_bring_87 : decode cX2_bring 87 = .ok (.aaload, 1) := by decide +kernel
theorem dX2_bring_88 : decode cX2_bring 88 = .ok (.iload_n 3, 1) := by decide +kernel
theorem dX2_bring_89 : decode cX2_bring 89 = .ok (.invokevirtual 182, 3) := by decide +kernel
theorem dX2_bring_92 : decode cX2_bring 92 = .ok (.ifCond .eq 53, 3) := by decide +kernel
theorem dX2_bring_95 : decode cX2_bring 95 = .ok (.aload_n 0, 1) := by decide +kernel
theorem dX2_bring_96 : decode cX2_bring 96 = .ok (.getfield 48, 3) := by decide +kernel
theorem dX2_bring_99 : decode cX2_bring 99 = .ok (.iload_n 2, 1) := by decide +kernel
theorem dX2_bring_100 : decode cX2_bring 100 = .ok (.iload_n 3, 1) := by decide +kernel
theorem dX2_bring_101 : decode cX2_bring 101 = .ok (.aload_n 0, 1) := by decide +kernel
theorem dX2_bring_102 : decode cX2_bring 102 = .ok (.getfield 61, 3) := by decide +kernel
theorem dX2_bring_105 : decode cX2_bring 105 = .ok (.invokevirtual 186, 3) := by decide +kernel
theorem dX2_bring_108 : decode cX2_bring 108 = .ok (.aload_n 0, 1) := by decide +kernel
theorem dX2_bring_109 : decode cX2_bring 109 = .ok (.getfield 48, 3) := by decide +kernel
theorem dX2_bring_112 : decode cX2_bring 112 = .ok (.aload_n 0, 1) := by decide +kernel
theorem dX2_bring_113 : decode cX2_bring 113 = .ok (.getfield 48, 3) := by decide +kernel
theorem dX2_bring_116 : decode cX2_bring 116 = .ok (.getfield 67, 3) := by decide +kernel
theorem dX2_bring_119 : decode cX2_bring 119 = .ok (.iconst 1, 1) := by decide +kernel
theorem dX2_bring_120 : decode cX2_bring 120 = .ok (.isub, 1) := by decide +kernel
theorem dX2_bring_121 : decode cX2_bring 121 = .ok (.aload_n 0, 1) := by decide +kernel
theorem dX2_bring_122 : decode cX2_bring 122 = .ok (.getfield 41, 3) := by decide +kernel
theorem dX2_bring_125 : decode cX2_bring 125 = .ok (.getfield 172, 3) := by decide +kernel
theorem dX2_bring_128 : decode cX2_bring 128 = .ok (.iload_n 1, 1) := by decide +kernel
theorem dX2_bring_129 : decode cX2_bring 129 = .ok (.iaload, 1) := by decide +kernel
theorem dX2_bring_130 : decode cX2_bring 130 = .ok (.aload_n 0, 1) := by decide +kernel
theorem dX2_bring_131 : decode cX2_bring 131 = .ok (.getfield 41, 3) := by decide +kernel
theorem dX2_bring_134 : decode cX2_bring 134 = .ok (.getfield 175, 3) := by decide +kernel
theorem dX2_bring_137 : decode cX2_bring 137 = .ok (.iload_n 1, 1) := by decide +kernel
theorem dX2_bring_138 : decode cX2_bring 138 = .ok (.iaload, 1) := by decide +kernel
theorem dX2_bring_139 : decode cX2_bring 139 = .ok (.invokevirtual 178, 3) := by decide +kernel
theorem dX2_bring_142 : decode cX2_bring 142 = .ok (.goto 13, 3) := by decide +kernel
theorem dX2_bring_145 : decode cX2_bring 145 = .ok (.aload_n 0, 1) := by decide +kernel
theorem dX2_bring_146 : decode cX2_bring 146 = .ok (.dup, 1) := by decide +kernel
theorem dX2_bring_147 : decode cX2_bring 147 = .ok (.getfield 74, 3) := by decide +kernel
theorem dX2_bring_150 : decode cX2_bring 150 = .ok (.iconst 1, 1) := by decide +kernel
theorem dX2_bring_151 : decode cX2_bring 151 = .ok (.iadd, 1) := by decide +kernel
theorem dX2_bring_152 : decode cX2_bring 152 = .ok (.putfield 74, 3) := by decide +kernel
theorem dX2_bring_155 : decode cX2_bring 155 = .ok (.return_, 1) := by decide +kernel
theorem dX2_closeWindows_0 : decode cX2_closeWindows 0 = .ok (.iconst 0, 1) := by decide +kernel
theorem dX2_closeWindows_1 : decode cX2_closeWindows 1 = .ok (.istore_n 1, 1) := by decide +kernel
theorem dX2_closeWindows_2 : decode cX2_closeWindows 2 = .ok (.iconst 0, 1) := by decide +kernel
theorem dX2_closeWindows_3 : decode cX2_closeWindows 3 = .ok (.istore_n 2, 1) := by decide +kernel
theorem dX2_closeWindows_4 : decode cX2_closeWindows 4 = .ok (.iload_n 1, 1) := by decide +kernel
theorem dX2_closeWindows_5 : decode cX2_closeWindows 5 = .ok (.aload_n 0, 1) := by decide +kernel
theorem dX2_closeWindows_6 : decode cX2_closeWindows 6 = .ok (.getfield 48, 3) := by decide +kernel
theorem dX2_closeWindows_9 : decode cX2_closeWindows 9 = .ok (.getfield 67, 3) := by decide +kernel
theorem dX2_closeWindows_12 : decode cX2_closeWindows 12 = .ok (.if_icmp .ge 105, 3) := by decide +kernel
theorem dX2_closeWindows_15 : decode cX2_closeWindows 15 = .ok (.aload_n 0, 1) := by decide +kernel
theorem dX2_closeWindows_16 : decode cX2_closeWindows 16 = .ok (.getfield 48, 3) := by decide +kernel
theorem dX2_closeWindows_19 : decode cX2_closeWindows 19 = .ok (.getfield 189, 3) := by decide +kernel
theorem dX2_closeWindows_22 : decode cX2_closeWindows 22 = .ok (.iload_n 1, 1) := by decide +kernel
theorem dX2_closeWindows_23 : decode cX2_closeWindows 23 = .ok (.iaload, 1) := by decide +kernel
theorem dX2_closeWindows_24 : decode cX2_closeWindows 24 = .ok (.aload_n 0, 1) := by decide +kernel
theorem dX2_closeWindows_25 : decode cX2_closeWindows 25 = .ok (.getfield 18, 3) := by decide +kernel
theorem dX2_closeWindows_28 : decode cX2_closeWindows 28 = .ok (.iadd, 1) := by decide +kernel
theorem dX2_closeWindows_29 : decode cX2_closeWindows 29 = .ok (.aload_n 0, 1) := by decide +kernel
theorem dX2_closeWindows_30 : decode cX2_closeWindows 30 = .ok (.getfield 61, 3) := by decide +kernel
theorem dX2_closeWindows_33 : decode cX2_closeWindows 33 = .ok (.if_icmp .gt 84, 3) := by decide +kernel
theorem dX2_closeWindows_36 : decode cX2_closeWindows 36 = .ok (.aload_n 0, 1) := by decide +kernel
theorem dX2_closeWindows_37 : decode cX2_closeWindows 37 = .ok (.getfield 28, 3) := by decide +kernel
theorem dX2_closeWindows_40 : decode cX2_closeWindows 40 = .ok (.aload_n 0, 1) := by decide +kernel
theorem dX2_closeWindows_41 : decode cX2_closeWindows 41 = .ok (.getfield 48, 3) := by decide +kernel
theorem dX2_closeWindows_44 : decode cX2_closeWindows 44 = .ok (.getfield 192, 3) := by decide +kernel
theorem dX2_closeWindows_47 : decode cX2_closeWindows 47 = .ok (.iload_n 1, 1) := by decide +kernel
theorem dX2_closeWindows_48 : decode cX2_closeWindows 48 = .ok (.iaload, 1) := by decide +kernel
theorem dX2_closeWindows_49 : decode cX2_closeWindows 49 = .ok (.aaload, 1) := by decide +kernel
theorem dX2_closeWindows_50 : decode cX2_closeWindows 50 = .ok (.astore_n 3, 1) := by decide +kernel
theorem dX2_closeWindows_51 : decode cX2_closeWindows 51 = .ok (.aload_n 0, 1) := by decide +kernel
theorem dX2_closeWindows_52 : decode cX2_closeWindows 52 = .ok (.getfield 48, 3) := by decide +kernel
theorem dX2_closeWindows_55 : decode cX2_closeWindows 55 = .ok (.getfield 193, 3) := by decide +kernel
theorem dX2_closeWindows_58 : decode cX2_closeWindows 58 = .ok (.iload_n 1, 1) := by decide +kernel
theorem dX2_closeWindows_59 : decode cX2_closeWindows 59 = .ok (.iaload, 1) := by decide +kernel
theorem dX2_closeWindows_60 : decode cX2_closeWindows 60 = .ok (.istore 4, 2) := by decide +kernel
theorem dX2_closeWindows_62 : decode cX2_closeWindows 62 = .ok (.iload 4, 2) := by decide +kernel
theorem dX2_closeWindows_64 : decode cX2_closeWindows 64 = .ok (.iconst (-1), 1) := by decide +kernel
theorem dX2_closeWindows_65 : decode cX2_closeWindows 65 = .ok (.if_icmp .ne 15, 3) := by decide +kernel
theorem dX2_closeWindows_68 : decode cX2_closeWindows 68 = .ok (.aload_n 0, 1) := by decide +kernel
theorem dX2_closeWindows_69 : decode cX2_closeWindows 69 = .ok (.iload_n 1, 1) := by decide +kernel
theorem dX2_closeWindows_70 : decode cX2_closeWindows 70 = .ok (.aload_n 3, 1) := by decide +kernel
theorem dX2_closeWindows_71 : decode cX2_closeWindows 71 = .ok (.invokevirtual 194, 3) := by decide +kernel
theorem dX2_closeWindows_74 : decode cX2_closeWindows 74 = .ok (.iinc 2 1, 3) := by decide +kernel
theorem dX2_closeWindows_77 : decode cX2_closeWindows 77 = .ok (.goto 34, 3) := by decide +kernel
theorem dX2_closeWindows_80 : decode cX2_closeWindows 80 = .ok (.aload_n 3, 1) := by decide +kernel
theorem dX2_closeWindows_81 : decode cX2_closeWindows 81 = .ok (.iload 4, 2) := by decide +kernel
theorem dX2_closeWindows_83 : decode cX2_closeWindows 83 = .ok (.invokevirtual 182, 3) := by decide +kernel
theorem dX2_closeWindows_86 : decode cX2_closeWindows 86 = .ok (.ifCond .eq 15, 3) := by decide +kernel
theorem dX2_closeWindows_89 : decode cX2_closeWindows 89 = .ok (.aload_n 0, 1) := by decide +kernel
theorem dX2_closeWindows_90 : decode cX2_closeWindows 90 = .ok (.iload_n 1, 1) := by decide +kernel
theorem dX2_closeWindows_91 : decode cX2_closeWindows 91 = .ok (.aload_n 3, 1) := by decide +kernel
theorem dX2_closeWindows_92 : decode cX2_closeWindows 92 = .ok (.invokevirtual 198, 3) := by decide +kernel
theorem dX2_closeWindows_95 : decode cX2_closeWindows 95 = .ok (.iinc 2 1, 3) := by decide +kernel
theorem dX2_closeWindows_98 : decode cX2_closeWindows 98 = .ok (.goto 13, 3) := by decide +kernel
theorem dX2_closeWindows_101 : decode cX2_closeWindows 101 = .ok (.aload_n 0, 1) := by decide +kernel
theorem dX2_closeWindows_102 : decode cX2_closeWindows 102 = .ok (.dup, 1) := by decide +kernel
theorem dX2_closeWindows_103 : decode cX2_closeWindows 103 = .ok (.getfield 74, 3) := by decide +kernel
theorem dX2_closeWindows_106 : decode cX2_closeWindows 106 = .ok (.iconst 1, 1) := by decide +kernel
theorem dX2_closeWindows_107 : decode cX2_closeWindows 107 = .ok (.iadd, 1) := by decide +kernel
theorem dX2_closeWindows_108 : decode cX2_closeWindows 108 = .ok (.putfield 74, 3) := by decide +kernel
theorem dX2_closeWindows_111 : decode cX2_closeWindows 111 = .ok (.iinc 1 1, 3) := by decide +kernel
theorem dX2_closeWindows_114 : decode cX2_closeWindows 114 = .ok (.goto (-110), 3) := by decide +kernel
theorem dX2_closeWindows_117 : decode cX2_closeWindows 117 = .ok (.aload_n 0, 1) := by decide +kernel
theorem dX2_closeWindows_118 : decode cX2_closeWindows 118 = .ok (.getfield 48, 3) := by decide +kernel
theorem dX2_closeWindows_121 : decode cX2_closeWindows 121 = .ok (.iload_n 1, 1) := by decide +kernel
theorem dX2_closeWindows_122 : decode cX2_closeWindows 122 = .ok (.invokevirtual 201, 3) := by decide +kernel
theorem dX2_closeWindows_125 : decode cX2_closeWindows 125 = .ok (.iload_n 2, 1) := by decide +kernel
theorem dX2_closeWindows_126 : decode cX2_closeWindows 126 = .ok (.ireturn, 1) := by decide +kernel
theorem dX2_takeJoining_0 : decode cX2_takeJoining 0 = .ok (.aload_n 0, 1) := by decide +kernel
theorem dX2_takeJoining_1 : decode cX2_takeJoining 1 = .ok (.dup, 1) := by decide +kernel
theorem dX2_takeJoining_2 : decode cX2_takeJoining 2 = .ok (.getfield 71, 3) := by decide +kernel
theorem dX2_takeJoining_5 : decode cX2_takeJoining 5 = .ok (.iconst 1, 1) := by decide +kernel
theorem dX2_takeJoining_6 : decode cX2_takeJoining 6 = .ok (.iadd, 1) := by decide +kernel
theorem dX2_takeJoining_7 : decode cX2_takeJoining 7 = .ok (.putfield 71, 3) := by decide +kernel
theorem dX2_takeJoining_10 : decode cX2_takeJoining 10 = .ok (.aload_n 2, 1) := by decide +kernel
theorem dX2_takeJoining_11 : decode cX2_takeJoining 11 = .ok (.bipush 63, 2) := by decide +kernel
theorem dX2_takeJoining_13 : decode cX2_takeJoining 13 = .ok (.putfield 204, 3) := by decide +kernel
theorem dX2_takeJoining_16 : decode cX2_takeJoining 16 = .ok (.aload_n 2, 1) := by decide +kernel
theorem dX2_takeJoining_17 : decode cX2_takeJoining 17 = .ok (.iconst 0, 1) := by decide +kernel
theorem dX2_takeJoining_18 : decode cX2_takeJoining 18 = .ok (.putfield 207, 3) := by decide +kernel
theorem dX2_takeJoining_21 : decode cX2_takeJoining 21 = .ok (.aload_n 0, 1) := by decide +kernel
theorem dX2_takeJoining_22 : decode cX2_takeJoining 22 = .ok (.iload_n 1, 1) := by decide +kernel
theorem dX2_takeJoining_23 : decode cX2_takeJoining 23 = .ok (.aload_n 2, 1) := by decide +kernel
theorem dX2_takeJoining_24 : decode cX2_takeJoining 24 = .ok (.invokevirtual 210, 3) := by decide +kernel
theorem dX2_takeJoining_27 : decode cX2_takeJoining 27 = .ok (.ifCond .eq 13, 3) := by decide +kernel
theorem dX2_takeJoining_30 : decode cX2_takeJoining 30 = .ok (.aload_n 2, 1) := by decide +kernel
theorem dX2_takeJoining_31 : decode cX2_takeJoining 31 = .ok (.iconst 1, 1) := by decide +kernel
theorem dX2_takeJoining_32 : decode cX2_takeJoining 32 = .ok (.putfield 214, 3) := by decide +kernel
theorem dX2_takeJoining_35 : decode cX2_takeJoining 35 = .ok (.aload_n 2, 1) := by decide +kernel
theorem dX2_takeJoining_36 : decode cX2_takeJoining 36 = .ok (.iconst 0, 1) := by decide +kernel
theorem dX2_takeJoining_37 : decode cX2_takeJoining 37 = .ok (.putfield 217, 3) := by decide +kernel
theorem dX2_takeJoining_40 : decode cX2_takeJoining 40 = .ok (.return_, 1) := by decide +kernel
theorem dX2_takeLetter_0 : decode cX2_takeLetter 0 = .ok (.aload_n 0, 1) := by decide +kernel
theorem dX2_takeLetter_1 : decode cX2_takeLetter 1 = .ok (.getfield 48, 3) := by decide +kernel
theorem dX2_takeLetter_4 : decode cX2_takeLetter 4 = .ok (.iload_n 1, 1) := by decide +kernel
theorem dX2_takeLetter_5 : decode cX2_takeLetter 5 = .ok (.invokevirtual 220, 3) := by decide +kernel
theorem dX2_takeLetter_8 : decode cX2_takeLetter 8 = .ok (.istore_n 3, 1) := by decide +kernel
theorem dX2_takeLetter_9 : decode cX2_takeLetter 9 = .ok (.aload_n 0, 1) := by decide +kernel
theorem dX2_takeLetter_10 : decode cX2_takeLetter 10 = .ok (.dup, 1) := by decide +kernel
theorem dX2_takeLetter_11 : decode cX2_takeLetter 11 = .ok (.getfield 68, 3) := by decide +kernel
theorem dX2_takeLetter_14 : decode cX2_takeLetter 14 = .ok (.iconst 1, 1) := by decide +kernel
theorem dX2_takeLetter_15 : decode cX2_takeLetter 15 = .ok (.iadd, 1) := by decide +kernel
theorem dX2_takeLetter_16 : decode cX2_takeLetter 16 = .ok (.putfield 68, 3) := by decide +kernel
theorem dX2_takeLetter_19 : decode cX2_takeLetter 19 = .ok (.aload_n 0, 1) := by decide +kernel
theorem dX2_takeLetter_20 : decode cX2_takeLetter 20 = .ok (.getfield 34, 3) := by decide +kernel
theorem dX2_takeLetter_23 : decode cX2_takeLetter 23 = .ok (.iload_n 3, 1) := by decide +kernel
theorem dX2_takeLetter_24 : decode cX2_takeLetter 24 = .ok (.aaload, 1) := by decide +kernel
theorem dX2_takeLetter_25 : decode cX2_takeLetter 25 = .ok (.dup, 1) := by decide +kernel
theorem dX2_takeLetter_26 : decode cX2_takeLetter 26 = .ok (.getfield 224, 3) := by decide +kernel
theorem dX2_takeLetter_29 : decode cX2_takeLetter 29 = .ok (.iconst 1, 1) := by decide +kernel
theorem dX2_takeLetter_30 : decode cX2_takeLetter 30 = .ok (.iadd, 1) := by decide +kernel
theorem dX2_takeLetter_31 : decode cX2_takeLetter 31 = .ok (.putfield 224, 3) := by decide +kernel
theorem dX2_takeLetter_34 : decode cX2_takeLetter 34 = .ok (.aload_n 2, 1) := by decide +kernel
theorem dX2_takeLetter_35 : decode cX2_takeLetter 35 = .ok (.aload_n 0, 1) := by decide +kernel
theorem dX2_takeLetter_36 : decode cX2_takeLetter 36 = .ok (.getfield 48, 3) := by decide +kernel
theorem dX2_takeLetter_39 : decode cX2_takeLetter 39 = .ok (.getfield 193, 3) := by decide +kernel
theorem dX2_takeLetter_42 : decode cX2_takeLetter 42 = .ok (.iload_n 1, 1) := by decide +kernel
theorem dX2_takeLetter_43 : decode cX2_takeLetter 43 = .ok (.iaload, 1) := by decide +kernel
theorem dX2_takeLetter_44 : decode cX2_takeLetter 44 = .ok (.aload_n 0, 1) := by decide +kernel
theorem dX2_takeLetter_45 : decode cX2_takeLetter 45 = .ok (.getfield 48, 3) := by decide +kernel
theorem dX2_takeLetter_48 : decode cX2_takeLetter 48 = .ok (.iload_n 1, 1) := by decide +kernel
theorem dX2_takeLetter_49 : decode cX2_takeLetter 49 = .ok (.iload_n 3, 1) := by decide +kernel
theorem dX2_takeLetter_50 : decode cX2_takeLetter 50 = .ok (.invokevirtual 227, 3) := by decide +kernel
theorem dX2_takeLetter_53 : decode cX2_takeLetter 53 = .ok (.invokevirtual 230, 3) := by decide +kernel
theorem dX2_takeLetter_56 : decode cX2_takeLetter 56 = .ok (.aload_n 2, 1) := by decide +kernel
theorem dX2_takeLetter_57 : decode cX2_takeLetter 57 = .ok (.getfield 207, 3) := by decide +kernel
theorem dX2_takeLetter_60 : decode cX2_takeLetter 60 = .ok (.iconst 4, 1) := by decide +kernel
theorem dX2_takeLetter_61 : decode cX2_takeLetter 61 = .ok (.if_icmp .ge 4, 3) := by decide +kernel
theorem dX2_takeLetter_64 : decode cX2_takeLetter 64 = .ok (.return_, 1) := by decide +kernel
theorem dX2_takeLetter_65 : decode cX2_takeLetter 65 = .ok (.aload_n 0, 1) := by decide +kernel
theorem dX2_takeLetter_66 : decode cX2_takeLetter 66 = .ok (.getfield 55, 3) := by decide +kernel
theorem dX2_takeLetter_69 : decode cX2_takeLetter 69 = .ok (.aload_n 2, 1) := by decide +kernel
theorem dX2_takeLetter_70 : decode cX2_takeLetter 70 = .ok (.getfield 112, 3) := by decide +kernel
theorem dX2_takeLetter_73 : decode cX2_takeLetter 73 = .ok (.aload_n 2, 1) := by decide +kernel
theorem dX2_takeLetter_74 : decode cX2_takeLetter 74 = .ok (.getfield 109, 3) := by decide +kernel
theorem dX2_takeLetter_77 : decode cX2_takeLetter 77 = .ok (.aload_n 2, 1) := by decide +kernel
theorem dX2_takeLetter_78 : decode cX2_takeLetter 78 = .ok (.invokevirtual 232, 3) := by decide +kernel
theorem dX2_takeLetter_81 : decode cX2_takeLetter 81 = .ok (.invokevirtual 235, 3) := by decide +kernel
theorem dX2_takeLetter_84 : decode cX2_takeLetter 84 = .ok (.aload_n 0, 1) := by decide +kernel
theorem dX2_takeLetter_85 : decode cX2_takeLetter 85 = .ok (.getfield 55, 3) := by decide +kernel
theorem dX2_takeLetter_88 : decode cX2_takeLetter 88 = .ok (.getfield 237, 3) := by decide +kernel
theorem dX2_takeLetter_91 : decode cX2_takeLetter 91 = .ok (.aload_n 2, 1) := by decide +kernel
theorem dX2_takeLetter_92 : decode cX2_takeLetter 92 = .ok (.getfield 112, 3) := by decide +kernel
theorem dX2_takeLetter_95 : decode cX2_takeLetter 95 = .ok (.if_icmp .ne 18, 3) := by decide +kernel
theorem dX2_takeLetter_98 : decode cX2_takeLetter 98 = .ok (.aload_n 0, 1) := by decide +kernel
theorem dX2_takeLetter_99 : decode cX2_takeLetter 99 = .ok (.getfield 55, 3) := by decide +kernel
theorem dX2_takeLetter_102 : decode cX2_takeLetter 102 = .ok (.getfield 238, 3) := by decide +kernel
theorem dX2_takeLetter_105 : decode cX2_takeLetter 105 = .ok (.aload_n 2, 1) := by decide +kernel
theorem dX2_takeLetter_106 : decode cX2_takeLetter 106 = .ok (.getfield 109, 3) := by decide +kernel
theorem dX2_takeLetter_109 : decode cX2_takeLetter 109 = .ok (.if_icmp .ne 4, 3) := by decide +kernel
theorem dX2_takeLetter_112 : decode cX2_takeLetter 112 = .ok (.return_, 1) := by decide +kernel
theorem dX2_takeLetter_113 : decode cX2_takeLetter 113 = .ok (.aload_n 2, 1) := by decide +kernel
theorem dX2_takeLetter_114 : decode cX2_takeLetter 114 = .ok (.iconst 0, 1) := by decide +kernel
theorem dX2_takeLetter_115 : decode cX2_takeLetter 115 = .ok (.putfield 207, 3) := by decide +kernel
theorem dX2_takeLetter_118 : decode cX2_takeLetter 118 = .ok (.aload_n 0, 1) := by decide +kernel
theorem dX2_takeLetter_119 : decode cX2_takeLetter 119 = .ok (.iload_n 1, 1) := by decide +kernel
theorem dX2_takeLetter_120 : decode cX2_takeLetter 120 = .ok (.aload_n 2, 1) := by decide +kernel
theorem dX2_takeLetter_121 : decode cX2_takeLetter 121 = .ok (.invokevirtual 210, 3) := by decide +kernel
theorem dX2_takeLetter_124 : decode cX2_takeLetter 124 = .ok (.ifCond .eq 33, 3) := by decide +kernel
theorem dX2_takeLetter_127 : decode cX2_takeLetter 127 = .ok (.aload_n 2, 1) := by decide +kernel
theorem dX2_takeLetter_128 : decode cX2_takeLetter 128 = .ok (.getfield 214, 3) := by decide +kernel
theorem dX2_takeLetter_131 : decode cX2_takeLetter 131 = .ok (.iconst 1, 1) := by decide +kernel
theorem dX2_takeLetter_132 : decode cX2_takeLetter 132 = .ok (.if_icmp .ne 25, 3) := by decide +kernel
theorem dX2_takeLetter_135 : decode cX2_takeLetter 135 = .ok (.aload_n 2, 1) := by decide +kernel
theorem dX2_takeLetter_136 : decode cX2_takeLetter 136 = .ok (.aload_n 0, 1) := by decide +kernel
theorem dX2_takeLetter_137 : decode cX2_takeLetter 137 = .ok (.getfield 55, 3) := by decide +kernel
theorem dX2_takeLetter_140 : decode cX2_takeLetter 140 = .ok (.getfield 237, 3) := by decide +kernel
theorem dX2_takeLetter_143 : decode cX2_takeLetter 143 = .ok (.putfield 112, 3) := by decide +kernel
theorem dX2_takeLetter_146 : decode cX2_takeLetter 146 = .ok (.aload_n 2, 1) := by decide +kernel
theorem dX2_takeLetter_147 : decode cX2_takeLetter 147 = .ok (.aload_n 0, 1) := by decide +kernel
theorem dX2_takeLetter_148 : decode cX2_takeLetter 148 = .ok (.getfield 55, 3) := by decide +kernel
theorem dX2_takeLetter_151 : decode cX2_takeLetter 151 = .ok (.getfield 238, 3) := by decide +kernel
theorem dX2_takeLetter_154 : decode cX2_takeLetter 154 = .ok (.putfield 109, 3) := by decide +kernel
theorem dX2_takeLetter_157 : decode cX2_takeLetter 157 = .ok (.return_, 1) := by decide +kernel
theorem dX2_sendAnswer_0 : decode cX2_sendAnswer 0 = .ok (.bipush 6, 2) := by decide +kernel
theorem dX2_sendAnswer_2 : decode cX2_sendAnswer 2 = .ok (.aload_n 2, 1) := by decide +kernel
theorem dX2_sendAnswer_3 : decode cX2_sendAnswer 3 = .ok (.getfield 112, 3) := by decide +kernel
theorem dX2_sendAnswer_6 : decode cX2_sendAnswer 6 = .ok (.isub, 1) := by decide +kernel
theorem dX2_sendAnswer_7 : decode cX2_sendAnswer 7 = .ok (.istore_n 3, 1) := by decide +kernel
theorem dX2_sendAnswer_8 : decode cX2_sendAnswer 8 = .ok (.iconst (-1), 1) := by decide +kernel
theorem dX2_sendAnswer_9 : decode cX2_sendAnswer 9 = .ok (.istore 4, 2) := by decide +kernel
theorem dX2_sendAnswer_11 : decode cX2_sendAnswer 11 = .ok (.iconst (-1), 1) := by decide +kernel
theorem dX2_sendAnswer_12 : decode cX2_sendAnswer 12 = .ok (.istore 5, 2) := by decide +kernel
theorem dX2_sendAnswer_14 : decode cX2_sendAnswer 14 = .ok (.iconst 0, 1) := by decide +kernel
theorem dX2_sendAnswer_15 : decode cX2_sendAnswer 15 = .ok (.istore 6, 2) := by decide +kernel
theorem dX2_sendAnswer_17 : decode cX2_sendAnswer 17 = .ok (.iload 6, 2) := by decide +kernel
theorem dX2_sendAnswer_19 : decode cX2_sendAnswer 19 = .ok (.aload_n 0, 1) := by decide +kernel
theorem dX2_sendAnswer_20 : decode cX2_sendAnswer 20 = .ok (.getfield 15, 3) := by decide +kernel
theorem dX2_sendAnswer_23 : decode cX2_sendAnswer 23 = .ok (.if_icmp .ge 50, 3) := by decide +kernel
theorem dX2_sendAnswer_26 : decode cX2_sendAnswer 26 = .ok (.aload_n 0, 1) := by decide +kernel
theorem dX2_sendAnswer_27 : decode cX2_sendAnswer 27 = .ok (.getfield 48, 3) := by decide +kernel
theorem dX2_sendAnswer_30 : decode cX2_sendAnswer 30 = .ok (.iload_n 1, 1) := by decide +kernel
theorem dX2_sendAnswer_31 : decode cX2_sendAnswer 31 = .ok (.iload 6, 2) := by decide +kernel
theorem dX2_sendAnswer_33 : decode cX2_sendAnswer 33 = .ok (.invokevirtual 227, 3) := by decide +kernel
theorem dX2_sendAnswer_36 : decode cX2_sendAnswer 36 = .ok (.istore 7, 2) := by decide +kernel
theorem dX2_sendAnswer_38 : decode cX2_sendAnswer 38 = .ok (.iload 7, 2) := by decide +kernel
theorem dX2_sendAnswer_40 : decode cX2_sendAnswer 40 = .ok (.iload 5, 2) := by decide +kernel
theorem dX2_sendAnswer_42 : decode cX2_sendAnswer 42 = .ok (.if_icmp .le 25, 3) := by decide +kernel
theorem dX2_sendAnswer_45 : decode cX2_sendAnswer 45 = .ok (.aload_n 0, 1) := by decide +kernel
theorem dX2_sendAnswer_46 : decode cX2_sendAnswer 46 = .ok (.getfield 34, 3) := by decide +kernel
theorem dX2_sendAnswer_49 : decode cX2_sendAnswer 49 = .ok (.iload 6, 2) := by decide +kernel
theorem dX2_sendAnswer_51 : decode cX2_sendAnswer 51 = .ok (.aaload, 1) := by decide +kernel
theorem dX2_sendAnswer_52 : decode cX2_sendAnswer 52 = .ok (.invokevirtual 239, 3) := by decide +kernel
theorem dX2_sendAnswer_55 : decode cX2_sendAnswer 55 = .ok (.iload_n 3, 1) := by decide +kernel
theorem dX2_sendAnswer_56 : decode cX2_sendAnswer 56 = .ok (.if_icmp .lt 11, 3) := by decide +kernel
theorem dX2_sendAnswer_59 : decode cX2_sendAnswer 59 = .ok (.iload 6, 2) := by decide +kernel
theorem dX2_sendAnswer_61 : decode cX2_sendAnswer 61 = .ok (.istore 4, 2) := by decide +kernel
theorem dX2_sendAnswer_63 : decode cX2_sendAnswer 63 = .ok (.iload 7, 2) := by decide +kernel
theorem dX2_sendAnswer_65 : decode cX2_sendAnswer 65 = .ok (.istore 5, 2) := by decide +kernel
theorem dX2_sendAnswer_67 : decode cX2_sendAnswer 67 = .ok (.iinc 6 1, 3) := by decide +kernel
theorem dX2_sendAnswer_70 : decode cX2_sendAnswer 70 = .ok (.goto (-53), 3) := by decide +kernel
theorem dX2_sendAnswer_73 : decode cX2_sendAnswer 73 = .ok (.iload 4, 2) := by decide +kernel
theorem dX2_sendAnswer_75 : decode cX2_sendAnswer 75 = .ok (.iconst (-1), 1) := by decide +kernel
theorem dX2_sendAnswer_76 : decode cX2_sendAnswer 76 = .ok (.if_icmp .ne 15, 3) := by decide +kernel
theorem dX2_sendAnswer_79 : decode cX2_sendAnswer 79 = .ok (.aload_n 0, 1) := by decide +kernel
theorem dX2_sendAnswer_80 : decode cX2_sendAnswer 80 = .ok (.dup, 1) := by decide +kernel
theorem dX2_sendAnswer_81 : decode cX2_sendAnswer 81 = .ok (.getfield 80, 3) := by decide +kernel
theorem dX2_sendAnswer_84 : decode cX2_sendAnswer 84 = .ok (.iconst 1, 1) := by decide +kernel
theorem dX2_sendAnswer_85 : decode cX2_sendAnswer 85 = .ok (.iadd, 1) := by decide +kernel
theorem dX2_sendAnswer_86 : decode cX2_sendAnswer 86 = .ok (.putfield 80, 3) := by decide +kernel
theorem dX2_sendAnswer_89 : decode cX2_sendAnswer 89 = .ok (.iconst 0, 1) := by decide +kernel
theorem dX2_sendAnswer_90 : decode cX2_sendAnswer 90 = .ok (.ireturn, 1) := by decide +kernel
theorem dX2_sendAnswer_91 : decode cX2_sendAnswer 91 = .ok (.aload_n 0, 1) := by decide +kernel
theorem dX2_sendAnswer_92 : decode cX2_sendAnswer 92 = .ok (.getfield 34, 3) := by decide +kernel
theorem dX2_sendAnswer_95 : decode cX2_sendAnswer 95 = .ok (.iload 4, 2) := by decide +kernel
theorem dX2_sendAnswer_97 : decode cX2_sendAnswer 97 = .ok (.aaload, 1) := by decide +kernel
theorem dX2_sendAnswer_98 : decode cX2_sendAnswer 98 = .ok (.dup, 1) := by decide +kernel
theorem dX2_sendAnswer_99 : decode cX2_sendAnswer 99 = .ok (.getfield 148, 3) := by decide +kernel
theorem dX2_sendAnswer_102 : decode cX2_sendAnswer 102 = .ok (.iload_n 3, 1) := by decide +kernel
theorem dX2_sendAnswer_103 : decode cX2_sendAnswer 103 = .ok (.iadd, 1) := by decide +kernel
theorem dX2_sendAnswer_104 : decode cX2_sendAnswer 104 = .ok (.putfield 148, 3) := by decide +kernel
theorem dX2_sendAnswer_107 : decode cX2_sendAnswer 107 = .ok (.aload_n 0, 1) := by decide +kernel
theorem dX2_sendAnswer_108 : decode cX2_sendAnswer 108 = .ok (.getfield 34, 3) := by decide +kernel
theorem dX2_sendAnswer_111 : decode cX2_sendAnswer 111 = .ok (.iload 4, 2) := by decide +kernel
theorem dX2_sendAnswer_113 : decode cX2_sendAnswer 113 = .ok (.aaload, 1) := by decide +kernel
theorem dX2_sendAnswer_114 : decode cX2_sendAnswer 114 = .ok (.dup, 1) := by decide +kernel
theorem dX2_sendAnswer_115 : decode cX2_sendAnswer 115 = .ok (.getfield 242, 3) := by decide +kernel
theorem dX2_sendAnswer_118 : decode cX2_sendAnswer 118 = .ok (.iconst 1, 1) := by decide +kernel
theorem dX2_sendAnswer_119 : decode cX2_sendAnswer 119 = .ok (.iadd, 1) := by decide +kernel
theorem dX2_sendAnswer_120 : decode cX2_sendAnswer 120 = .ok (.putfield 242, 3) := by decide +kernel
theorem dX2_sendAnswer_123 : decode cX2_sendAnswer 123 = .ok (.aload_n 0, 1) := by decide +kernel
theorem dX2_sendAnswer_124 : decode cX2_sendAnswer 124 = .ok (.dup, 1) := by decide +kernel
theorem dX2_sendAnswer_125 : decode cX2_sendAnswer 125 = .ok (.getfield 77, 3) := by decide +kernel
theorem dX2_sendAnswer_128 : decode cX2_sendAnswer 128 = .ok (.iconst 1, 1) := by decide +kernel
theorem dX2_sendAnswer_129 : decode cX2_sendAnswer 129 = .ok (.iadd, 1) := by decide +kernel
theorem dX2_sendAnswer_130 : decode cX2_sendAnswer 130 = .ok (.putfield 77, 3) := by decide +kernel
theorem dX2_sendAnswer_133 : decode cX2_sendAnswer 133 = .ok (.iconst 1, 1) := by decide +kernel
theorem dX2_sendAnswer_134 : decode cX2_sendAnswer 134 = .ok (.ireturn, 1) := by decide +kernel
theorem dX2_value_0 : decode cX2_value 0 = .ok (.iload_n 1, 1) := by decide +kernel
theorem dX2_value_1 : decode cX2_value 1 = .ok (.tableswitch 93 0 7 #[47, 55, 63, 68, 73, 78, 83, 88], 47) := by decide +kernel
theorem dX2_value_48 : decode cX2_value 48 = .ok (.aload_n 0, 1) := by decide +kernel
theorem dX2_value_49 : decode cX2_value 49 = .ok (.getfield 41, 3) := by decide +kernel
theorem dX2_value_52 : decode cX2_value 52 = .ok (.getfield 64, 3) := by decide +kernel
theorem dX2_value_55 : decode cX2_value 55 = .ok (.ireturn, 1) := by decide +kernel
theorem dX2_value_56 : decode cX2_value 56 = .ok (.aload_n 0, 1) := by decide +kernel
theorem dX2_value_57 : decode cX2_value 57 = .ok (.getfield 48, 3) := by decide +kernel
theorem dX2_value_60 : decode cX2_value 60 = .ok (.getfield 67, 3) := by decide +kernel
theorem dX2_value_63 : decode cX2_value 63 = .ok (.ireturn, 1) := by decide +kernel
theorem dX2_value_64 : decode cX2_value 64 = .ok (.aload_n 0, 1) := by decide +kernel
theorem dX2_value_65 : decode cX2_value 65 = .ok (.getfield 68, 3) := by decide +kernel
theorem dX2_value_68 : decode cX2_value 68 = .ok (.ireturn, 1) := by decide +kernel
theorem dX2_value_69 : decode cX2_value 69 = .ok (.aload_n 0, 1) := by decide +kernel
theorem dX2_value_70 : decode cX2_value 70 = .ok (.getfield 71, 3) := by decide +kernel
theorem dX2_value_73 : decode cX2_value 73 = .ok (.ireturn, 1) := by decide +kernel
theorem dX2_value_74 : decode cX2_value 74 = .ok (.aload_n 0, 1) := by decide +kernel
theorem dX2_value_75 : decode cX2_value 75 = .ok (.getfield 74, 3) := by decide +kernel
theorem dX2_value_78 : decode cX2_value 78 = .ok (.ireturn, 1) := by decide +kernel
theorem dX2_value_79 : decode cX2_value 79 = .ok (.aload_n 0, 1) := by decide +kernel
theorem dX2_value_80 : decode cX2_value 80 = .ok (.getfield 77, 3) := by decide +kernel
theorem dX2_value_83 : decode cX2_value 83 = .ok (.ireturn, 1) := by decide +kernel
theorem dX2_value_84 : decode cX2_value 84 = .ok (.aload_n 0, 1) := by decide +kernel
theorem dX2_value_85 : decode cX2_value 85 = .ok (.getfield 80, 3) := by decide +kernel
theorem dX2_value_88 : decode cX2_value 88 = .ok (.ireturn, 1) := by decide +kernel
theorem dX2_value_89 : decode cX2_value 89 = .ok (.aload_n 0, 1) := by decide +kernel
theorem dX2_value_90 : decode cX2_value 90 = .ok (.getfield 83, 3) := by decide +kernel
theorem dX2_value_93 : decode cX2_value 93 = .ok (.ireturn, 1) := by decide +kernel
theorem dX2_value_94 : decode cX2_value 94 = .ok (.aload_n 0, 1) := by decide +kernel
theorem dX2_value_95 : decode cX2_value 95 = .ok (.getfield 61, 3) := by decide +kernel
theorem dX2_value_98 : decode cX2_value 98 = .ok (.ireturn, 1) := by decide +kernel
theorem dX3_init_0 : decode cX3_init 0 = .ok (.aload_n 0, 1) := by decide +kernel
theorem dX3_init_1 : decode cX3_init 1 = .ok (.invokespecial 3, 3) := by decide +kernel
theorem dX3_init_4 : decode cX3_init 4 = .ok (.aload_n 0, 1) := by decide +kernel
theorem dX3_init_5 : decode cX3_init 5 = .ok (.iconst 4, 1) := by decide +kernel
theorem dX3_init_6 : decode cX3_init 6 = .ok (.newarray .int, 2) := by decide +kernel
theorem dX3_init_8 : decode cX3_init 8 = .ok (.putfield 9, 3) := by decide +kernel
theorem dX3_init_11 : decode cX3_init 11 = .ok (.return_, 1) := by decide +kernel
theorem dX3_becomeNew_0 : decode cX3_becomeNew 0 = .ok (.aload_n 0, 1) := by decide +kernel
theorem dX3_becomeNew_1 : decode cX3_becomeNew 1 = .ok (.iconst 0, 1) := by decide +kernel
theorem dX3_becomeNew_2 : decode cX3_becomeNew 2 = .ok (.putfield 15, 3) := by decide +kernel
theorem dX3_becomeNew_5 : decode cX3_becomeNew 5 = .ok (.aload_n 0, 1) := by decide +kernel
theorem dX3_becomeNew_6 : decode cX3_becomeNew 6 = .ok (.iconst 4, 1) := by decide +kernel
theorem dX3_becomeNew_7 : decode cX3_becomeNew 7 = .ok (.putfield 19, 3) := by decide +kernel
theorem dX3_becomeNew_10 : decode cX3_becomeNew 10 = .ok (.aload_n 0, 1) := by decide +kernel
theorem dX3_becomeNew_11 : decode cX3_becomeNew 11 = .ok (.iconst 0, 1) := by decide +kernel
theorem dX3_becomeNew_12 : decode cX3_becomeNew 12 = .ok (.putfield 22, 3) := by decide +kernel
theorem dX3_becomeNew_15 : decode cX3_becomeNew 15 = .ok (.aload_n 0, 1) := by decide +kernel
theorem dX3_becomeNew_16 : decode cX3_becomeNew 16 = .ok (.iconst 0, 1) := by decide +kernel
theorem dX3_becomeNew_17 : decode cX3_becomeNew 17 = .ok (.putfield 25, 3) := by decide +kernel
theorem dX3_becomeNew_20 : decode cX3_becomeNew 20 = .ok (.aload_n 0, 1) := by decide +kernel
theorem dX3_becomeNew_21 : decode cX3_becomeNew 21 = .ok (.bipush (-2), 2) := by decide +kernel
theorem dX3_becomeNew_23 : decode cX3_becomeNew 23 = .ok (.putfield 28, 3) := by decide +kernel
theorem dX3_becomeNew_26 : decode cX3_becomeNew 26 = .ok (.return_, 1) := by decide +kernel
theorem dX3_becomeUnknown_0 : decode cX3_becomeUnknown 0 = .ok (.aload_n 0, 1) := by decide +kernel
theorem dX3_becomeUnknown_1 : decode cX3_becomeUnknown 1 = .ok (.bipush 63, 2) := by decide +kernel
theorem dX3_becomeUnknown_3 : decode cX3_becomeUnknown 3 = .ok (.putfield 31, 3) := by decide +kernel
theorem dX3_becomeUnknown_6 : decode cX3_becomeUnknown 6 = .ok (.aload_n 0, 1) := by decide +kernel
theorem dX3_becomeUnknown_7 : decode cX3_becomeUnknown 7 = .ok (.iconst 0, 1) := by decide +kernel
theorem dX3_becomeUnknown_8 : decode cX3_becomeUnknown 8 = .ok (.putfield 34, 3) := by decide +kernel
theorem dX3_becomeUnknown_11 : decode cX3_becomeUnknown 11 = .ok (.aload_n 0, 1) := by decide +kernel
theorem dX3_becomeUnknown_12 : decode cX3_becomeUnknown 12 = .ok (.iconst 0, 1) := by decide +kernel
theorem dX3_becomeUnknown_13 : decode cX3_becomeUnknown 13 = .ok (.putfield 37, 3) := by decide +kernel
theorem dX3_becomeUnknown_16 : decode cX3_becomeUnknown 16 = .ok (.aload_n 0, 1) := by decide +kernel
theorem dX3_becomeUnknown_17 : decode cX3_becomeUnknown 17 = .ok (.iconst 0, 1) := by decide +kernel
theorem dX3_becomeUnknown_18 : decode cX3_becomeUnknown 18 = .ok (.putfield 40, 3) := by decide +kernel
theorem dX3_becomeUnknown_21 : decode cX3_becomeUnknown 21 = .ok (.return_, 1) := by decide +kernel
theorem dX3_hasSent_0 : decode cX3_hasSent 0 = .ok (.aload_n 0, 1) := by decide +kernel
theorem dX3_hasSent_1 : decode cX3_hasSent 1 = .ok (.getfield 28, 3) := by decide +kernel
theorem dX3_hasSent_4 : decode cX3_hasSent 4 = .ok (.bipush (-2), 2) := by decide +kernel
theorem dX3_hasSent_6 : decode cX3_hasSent 6 = .ok (.if_icmp .eq 7, 3) := by decide +kernel
theorem dX3_hasSent_9 : decode cX3_hasSent 9 = .ok (.iconst 1, 1) := by decide +kernel
theorem dX3_hasSent_10 : decode cX3_hasSent 10 = .ok (.goto 4, 3) := by decide +kernel
theorem dX3_hasSent_13 : decode cX3_hasSent 13 = .ok (.iconst 0, 1) := by decide +kernel
theorem dX3_hasSent_14 : decode cX3_hasSent 14 = .ok (.ireturn, 1) := by decide +kernel
theorem dX3_nextLetter_0 : decode cX3_nextLetter 0 = .ok (.aload_n 0, 1) := by decide +kernel
theorem dX3_nextLetter_1 : decode cX3_nextLetter 1 = .ok (.getfield 25, 3) := by decide +kernel
theorem dX3_nextLetter_4 : decode cX3_nextLetter 4 = .ok (.ifCond .ne 11, 3) := by decide +kernel
theorem dX3_nextLetter_7 : decode cX3_nextLetter 7 = .ok (.aload_n 0, 1) := by decide +kernel
theorem dX3_nextLetter_8 : decode cX3_nextLetter 8 = .ok (.iconst (-1), 1) := by decide +kernel
theorem dX3_nextLetter_9 : decode cX3_nextLetter 9 = .ok (.putfield 28, 3) := by decide +kernel
theorem dX3_nextLetter_12 : decode cX3_nextLetter 12 = .ok (.goto 24, 3) := by decide +kernel
theorem dX3_nextLetter_15 : decode cX3_nextLetter 15 = .ok (.aload_n 0, 1) := by decide +kernel
theorem dX3_nextLetter_16 : decode cX3_nextLetter 16 = .ok (.aload_n 0, 1) := by decide +kernel
theorem dX3_nextLetter_17 : decode cX3_nextLetter 17 = .ok (.getfield 22, 3) := by decide +kernel
theorem dX3_nextLetter_20 : decode cX3_nextLetter 20 = .ok (.putfield 28, 3) := by decide +kernel
theorem dX3_nextLetter_23 : decode cX3_nextLetter 23 = .ok (.aload_n 0, 1) := by decide +kernel
theorem dX3_nextLetter_24 : decode cX3_nextLetter 24 = .ok (.aload_n 0, 1) := by decide +kernel
theorem dX3_nextLetter_25 : decode cX3_nextLetter 25 = .ok (.getfield 22, 3) := by decide +kernel
theorem dX3_nextLetter_28 : decode cX3_nextLetter 28 = .ok (.iconst 1, 1) := by decide +kernel
theorem dX3_nextLetter_29 : decode cX3_nextLetter 29 = .ok (.iadd, 1) := by decide +kernel
theorem dX3_nextLetter_30 : decode cX3_nextLetter 30 = .ok (.bipush 64, 2) := by decide +kernel
theorem dX3_nextLetter_32 : decode cX3_nextLetter 32 = .ok (.irem, 1) := by decide +kernel
theorem dX3_nextLetter_33 : decode cX3_nextLetter 33 = .ok (.putfield 22, 3) := by decide +kernel
theorem dX3_nextLetter_36 : decode cX3_nextLetter 36 = .ok (.aload_n 0, 1) := by decide +kernel
theorem dX3_nextLetter_37 : decode cX3_nextLetter 37 = .ok (.getfield 28, 3) := by decide +kernel
theorem dX3_nextLetter_40 : decode cX3_nextLetter 40 = .ok (.ireturn, 1) := by decide +kernel
theorem dX3_aheadOfLast_0 : decode cX3_aheadOfLast 0 = .ok (.iload_n 1, 1) := by decide +kernel
theorem dX3_aheadOfLast_1 : decode cX3_aheadOfLast 1 = .ok (.aload_n 0, 1) := by decide +kernel
theorem dX3_aheadOfLast_2 : decode cX3_aheadOfLast 2 = .ok (.getfield 31, 3) := by decide +kernel
theorem dX3_aheadOfLast_5 : decode cX3_aheadOfLast 5 = .ok (.isub, 1) := by decide +kernel
theorem dX3_aheadOfLast_6 : decode cX3_aheadOfLast 6 = .ok (.bipush 64, 2) := by decide +kernel
theorem dX3_aheadOfLast_8 : decode cX3_aheadOfLast 8 = .ok (.invokestatic 43, 3) := by decide +kernel
theorem dX3_aheadOfLast_11 : decode cX3_aheadOfLast 11 = .ok (.ireturn, 1) := by decide +kernel
theorem dX3_isDue_0 : decode cX3_isDue 0 = .ok (.aload_n 0, 1) := by decide +kernel
theorem dX3_isDue_1 : decode cX3_isDue 1 = .ok (.iload_n 1, 1) := by decide +kernel
theorem dX3_isDue_2 : decode cX3_isDue 2 = .ok (.invokevirtual 49, 3) := by decide +kernel
theorem dX3_isDue_5 : decode cX3_isDue 5 = .ok (.istore_n 2, 1) := by decide +kernel
theorem dX3_isDue_6 : decode cX3_isDue 6 = .ok (.iload_n 2, 1) := by decide +kernel
theorem dX3_isDue_7 : decode cX3_isDue 7 = .ok (.iconst 1, 1) := by decide +kernel
theorem dX3_isDue_8 : decode cX3_isDue 8 = .ok (.if_icmp .lt 13, 3) := by decide +kernel
theorem dX3_isDue_11 : decode cX3_isDue 11 = .ok (.iload_n 2, 1) := by decide +kernel
theorem dX3_isDue_12 : decode cX3_isDue 12 = .ok (.bipush 32, 2) := by decide +kernel
theorem dX3_isDue_14 : decode cX3_isDue 14 = .ok (.if_icmp .gt 7, 3) := by decide +kernel
theorem dX3_isDue_17 : decode cX3_isDue 17 = .ok (.iconst 1, 1) := by decide +kernel
theorem dX3_isDue_18 : decode cX3_isDue 18 = .ok (.goto 4, 3) := by decide +kernel
theorem dX3_isDue_21 : decode cX3_isDue 21 = .ok (.iconst 0, 1) := by decide +kernel
theorem dX3_isDue_22 : decode cX3_isDue 22 = .ok (.ireturn, 1) := by decide +kernel
theorem dX3_takeLetter_0 : decode cX3_takeLetter 0 = .ok (.aload_n 0, 1) := by decide +kernel
theorem dX3_takeLetter_1 : decode cX3_takeLetter 1 = .ok (.dup, 1) := by decide +kernel
theorem dX3_takeLetter_2 : decode cX3_takeLetter 2 = .ok (.getfield 40, 3) := by decide +kernel
theorem dX3_takeLetter_5 : decode cX3_takeLetter 5 = .ok (.aload_n 0, 1) := by decide +kernel
theorem dX3_takeLetter_6 : decode cX3_takeLetter 6 = .ok (.iload_n 1, 1) := by decide +kernel
theorem dX3_takeLetter_7 : decode cX3_takeLetter 7 = .ok (.invokevirtual 49, 3) := by decide +kernel
theorem dX3_takeLetter_10 : decode cX3_takeLetter 10 = .ok (.iconst 1, 1) := by decide +kernel
theorem dX3_takeLetter_11 : decode cX3_takeLetter 11 = .ok (.isub, 1) := by decide +kernel
theorem dX3_takeLetter_12 : decode cX3_takeLetter 12 = .ok (.iadd, 1) := by decide +kernel
theorem dX3_takeLetter_13 : decode cX3_takeLetter 13 = .ok (.putfield 40, 3) := by decide +kernel
theorem dX3_takeLetter_16 : decode cX3_takeLetter 16 = .ok (.aload_n 0, 1) := by decide +kernel
theorem dX3_takeLetter_17 : decode cX3_takeLetter 17 = .ok (.iload_n 1, 1) := by decide +kernel
theorem dX3_takeLetter_18 : decode cX3_takeLetter 18 = .ok (.putfield 31, 3) := by decide +kernel
theorem dX3_takeLetter_21 : decode cX3_takeLetter 21 = .ok (.aload_n 0, 1) := by decide +kernel
theorem dX3_takeLetter_22 : decode cX3_takeLetter 22 = .ok (.dup, 1) := by decide +kernel
theorem dX3_takeLetter_23 : decode cX3_takeLetter 23 = .ok (.getfield 37, 3) := by decide +kernel
theorem dX3_takeLetter_26 : decode cX3_takeLetter 26 = .ok (.iconst 1, 1) := by decide +kernel
theorem dX3_takeLetter_27 : decode cX3_takeLetter 27 = .ok (.iadd, 1) := by decide +kernel
theorem dX3_takeLetter_28 : decode cX3_takeLetter 28 = .ok (.putfield 37, 3) := by decide +kernel
theorem dX3_takeLetter_31 : decode cX3_takeLetter 31 = .ok (.aload_n 0, 1) := by decide +kernel
theorem dX3_takeLetter_32 : decode cX3_takeLetter 32 = .ok (.getfield 34, 3) := by decide +kernel
theorem dX3_takeLetter_35 : decode cX3_takeLetter 35 = .ok (.iconst 4, 1) := by decide +kernel
theorem dX3_takeLetter_36 : decode cX3_takeLetter 36 = .ok (.if_icmp .lt 22, 3) := by decide +kernel
theorem dX3_takeLetter_39 : decode cX3_takeLetter 39 = .ok (.aload_n 0, 1) := by decide +kernel
theorem dX3_takeLetter_40 : decode cX3_takeLetter 40 = .ok (.getfield 9, 3) := by decide +kernel
theorem dX3_takeLetter_43 : decode cX3_takeLetter 43 = .ok (.iconst 1, 1) := by decide +kernel
theorem dX3_takeLetter_44 : decode cX3_takeLetter 44 = .ok (.aload_n 0, 1) := by decide +kernel
theorem dX3_takeLetter_45 : decode cX3_takeLetter 45 = .ok (.getfield 9, 3) := by decide +kernel
theorem dX3_takeLetter_48 : decode cX3_takeLetter 48 = .ok (.iconst 0, 1) := by decide +kernel
theorem dX3_takeLetter_49 : decode cX3_takeLetter 49 = .ok (.iconst 3, 1) := by decide +kernel
theorem dX3_takeLetter_50 : decode cX3_takeLetter 50 = .ok (.invokestatic 53, 3) := by decide +kernel
theorem dX3_takeLetter_53 : decode cX3_takeLetter 53 = .ok (.aload_n 0, 1) := by decide +kernel
theorem dX3_takeLetter_54 : decode cX3_takeLetter 54 = .ok (.iconst 3, 1) := by decide +kernel
theorem dX3_takeLetter_55 : decode cX3_takeLetter 55 = .ok (.putfield 34, 3) := by decide +kernel
theorem dX3_takeLetter_58 : decode cX3_takeLetter 58 = .ok (.aload_n 0, 1) := by decide +kernel
theorem dX3_takeLetter_59 : decode cX3_takeLetter 59 = .ok (.getfield 9, 3) := by decide +kernel
theorem dX3_takeLetter_62 : decode cX3_takeLetter 62 = .ok (.aload_n 0, 1) := by decide +kernel
theorem dX3_takeLetter_63 : decode cX3_takeLetter 63 = .ok (.getfield 34, 3) := by decide +kernel
theorem dX3_takeLetter_66 : decode cX3_takeLetter 66 = .ok (.iload_n 2, 1) := by decide +kernel
theorem dX3_takeLetter_67 : decode cX3_takeLetter 67 = .ok (.iastore, 1) := by decide +kernel
theorem dX3_takeLetter_68 : decode cX3_takeLetter 68 = .ok (.aload_n 0, 1) := by decide +kernel
theorem dX3_takeLetter_69 : decode cX3_takeLetter 69 = .ok (.dup, 1) := by decide +kernel
theorem dX3_takeLetter_70 : decode cX3_takeLetter 70 = .ok (.getfield 34, 3) := by decide +kernel
theorem dX3_takeLetter_73 : decode cX3_takeLetter 73 = .ok (.iconst 1, 1) := by decide +kernel
theorem dX3_takeLetter_74 : decode cX3_takeLetter 74 = .ok (.iadd, 1) := by decide +kernel
theorem dX3_takeLetter_75 : decode cX3_takeLetter 75 = .ok (.putfield 34, 3) := by decide +kernel
theorem dX3_takeLetter_78 : decode cX3_takeLetter 78 = .ok (.return_, 1) := by decide +kernel
theorem dX3_greatestMargin_0 : decode cX3_greatestMargin 0 = .ok (.iconst (-1), 1) := by decide +kernel
theorem dX3_greatestMargin_1 : decode cX3_greatestMargin 1 = .ok (.istore_n 1, 1) := by decide +kernel
theorem dX3_greatestMargin_2 : decode cX3_greatestMargin 2 = .ok (.iconst 0, 1) := by decide +kernel
theorem dX3_greatestMargin_3 : decode cX3_greatestMargin 3 = .ok (.istore_n 2, 1) := by decide +kernel
theorem dX3_greatestMargin_4 : decode cX3_greatestMargin 4 = .ok (.iload_n 2, 1) := by decide +kernel
theorem dX3_greatestMargin_5 : decode cX3_greatestMargin 5 = .ok (.aload_n 0, 1) := by decide +kernel
theorem dX3_greatestMargin_6 : decode cX3_greatestMargin 6 = .ok (.getfield 34, 3) := by decide +kernel
theorem dX3_greatestMargin_9 : decode cX3_greatestMargin 9 = .ok (.if_icmp .ge 25, 3) := by decide +kernel
theorem dX3_greatestMargin_12 : decode cX3_greatestMargin 12 = .ok (.iload_n 2, 1) := by decide +kernel
theorem dX3_greatestMargin_13 : decode cX3_greatestMargin 13 = .ok (.iconst 4, 1) := by decide +kernel
theorem dX3_greatestMargin_14 : decode cX3_greatestMargin 14 = .ok (.if_icmp .ge 20, 3) := by decide +kernel
theorem dX3_greatestMargin_17 : decode cX3_greatestMargin 17 = .ok (.iload_n 1, 1) := by decide +kernel
theorem dX3_greatestMargin_18 : decode cX3_greatestMargin 18 = .ok (.aload_n 0, 1) := by decide +kernel
theorem dX3_greatestMargin_19 : decode cX3_greatestMargin 19 = .ok (.getfield 9, 3) := by decide +kernel
theorem dX3_greatestMargin_22 : decode cX3_greatestMargin 22 = .ok (.iload_n 2, 1) := by decide +kernel
theorem dX3_greatestMargin_23 : decode cX3_greatestMargin 23 = .ok (.iaload, 1) := by decide +kernel
theorem dX3_greatestMargin_24 : decode cX3_greatestMargin 24 = .ok (.invokestatic 59, 3) := by decide +kernel
theorem dX3_greatestMargin_27 : decode cX3_greatestMargin 27 = .ok (.istore_n 1, 1) := by decide +kernel
theorem dX3_greatestMargin_28 : decode cX3_greatestMargin 28 = .ok (.iinc 2 1, 3) := by decide +kernel
theorem dX3_greatestMargin_31 : decode cX3_greatestMargin 31 = .ok (.goto (-27), 3) := by decide +kernel
theorem dX3_greatestMargin_34 : decode cX3_greatestMargin 34 = .ok (.iload_n 1, 1) := by decide +kernel
theorem dX3_greatestMargin_35 : decode cX3_greatestMargin 35 = .ok (.ireturn, 1) := by decide +kernel
theorem dX3_change_0 : decode cX3_change 0 = .ok (.aload_n 0, 1) := by decide +kernel
theorem dX3_change_1 : decode cX3_change 1 = .ok (.iload_n 1, 1) := by decide +kernel
theorem dX3_change_2 : decode cX3_change 2 = .ok (.invokevirtual 62, 3) := by decide +kernel
theorem dX3_change_5 : decode cX3_change 5 = .ok (.istore_n 3, 1) := by decide +kernel
theorem dX3_change_6 : decode cX3_change 6 = .ok (.iload_n 1, 1) := by decide +kernel
theorem dX3_change_7 : decode cX3_change 7 = .ok (.tableswitch 49 0 2 #[25, 33, 41], 25) := by decide +kernel
theorem dX3_change_32 : decode cX3_change 32 = .ok (.aload_n 0, 1) := by decide +kernel
theorem dX3_change_33 : decode cX3_change 33 = .ok (.iload_n 2, 1) := by decide +kernel
theorem dX3_change_34 : decode cX3_change 34 = .ok (.putfield 15, 3) := by decide +kernel
theorem dX3_change_37 : decode cX3_change 37 = .ok (.goto 24, 3) := by decide +kernel
theorem dX3_change_40 : decode cX3_change 40 = .ok (.aload_n 0, 1) := by decide +kernel
theorem dX3_change_41 : decode cX3_change 41 = .ok (.iload_n 2, 1) := by decide +kernel
theorem dX3_change_42 : decode cX3_change 42 = .ok (.putfield 19, 3) := by decide +kernel
theorem dX3_change_45 : decode cX3_change 45 = .ok (.goto 16, 3) := by decide +kernel
theorem dX3_change_48 : decode cX3_change 48 = .ok (.aload_n 0, 1) := by decide +kernel
theorem dX3_change_49 : decode cX3_change 49 = .ok (.iload_n 2, 1) := by decide +kernel
theorem dX3_change_50 : decode cX3_change 50 = .ok (.putfield 22, 3) := by decide +kernel
theorem dX3_change_53 : decode cX3_change 53 = .ok (.goto 8, 3) := by decide +kernel
theorem dX3_change_56 : decode cX3_change 56 = .ok (.aload_n 0, 1) := by decide +kernel
theorem dX3_change_57 : decode cX3_change 57 = .ok (.iload_n 2, 1) := by decide +kernel
theorem dX3_change_58 : decode cX3_change 58 = .ok (.putfield 25, 3) := by decide +kernel
theorem dX3_change_61 : decode cX3_change 61 = .ok (.iload_n 3, 1) := by decide +kernel
theorem dX3_change_62 : decode cX3_change 62 = .ok (.ireturn, 1) := by decide +kernel
theorem dX3_value_0 : decode cX3_value 0 = .ok (.iload_n 1, 1) := by decide +kernel
theorem dX3_value_1 : decode cX3_value 1 = .ok (.tableswitch 78 0 6 #[43, 48, 53, 58, 63, 68, 73], 43) := by decide +kernel
theorem dX3_value_44 : decode cX3_value 44 = .ok (.aload_n 0, 1) := by decide +kernel
theorem dX3_value_45 : decode cX3_value 45 = .ok (.getfield 15, 3) := by decide +kernel
theorem dX3_value_48 : decode cX3_value 48 = .ok (.ireturn, 1) := by decide +kernel
theorem dX3_value_49 : decode cX3_value 49 = .ok (.aload_n 0, 1) := by decide +kernel
theorem dX3_value_50 : decode cX3_value 50 = .ok (.getfield 19, 3) := by decide +kernel
theorem dX3_value_53 : decode cX3_value 53 = .ok (.ireturn, 1) := by decide +kernel
theorem dX3_value_54 : decode cX3_value 54 = .ok (.aload_n 0, 1) := by decide +kernel
theorem dX3_value_55 : decode cX3_value 55 = .ok (.getfield 22, 3) := by decide +kernel
theorem dX3_value_58 : decode cX3_value 58 = .ok (.ireturn, 1) := by decide +kernel
theorem dX3_value_59 : decode cX3_value 59 = .ok (.aload_n 0, 1) := by decide +kernel
theorem dX3_value_60 : decode cX3_value 60 = .ok (.getfield 25, 3) := by decide +kernel
theorem dX3_value_63 : decode cX3_value 63 = .ok (.ireturn, 1) := by decide +kernel
theorem dX3_value_64 : decode cX3_value 64 = .ok (.aload_n 0, 1) := by decide +kernel
theorem dX3_value_65 : decode cX3_value 65 = .ok (.getfield 31, 3) := by decide +kernel
theorem dX3_value_68 : decode cX3_value 68 = .ok (.ireturn, 1) := by decide +kernel
theorem dX3_value_69 : decode cX3_value 69 = .ok (.aload_n 0, 1) := by decide +kernel
theorem dX3_value_70 : decode cX3_value 70 = .ok (.getfield 34, 3) := by decide +kernel
theorem dX3_value_73 : decode cX3_value 73 = .ok (.ireturn, 1) := by decide +kernel
theorem dX3_value_74 : decode cX3_value 74 = .ok (.aload_n 0, 1) := by decide +kernel
theorem dX3_value_75 : decode cX3_value 75 = .ok (.getfield 37, 3) := by decide +kernel
theorem dX3_value_78 : decode cX3_value 78 = .ok (.ireturn, 1) := by decide +kernel
theorem dX3_value_79 : decode cX3_value 79 = .ok (.aload_n 0, 1) := by decide +kernel
theorem dX3_value_80 : decode cX3_value 80 = .ok (.getfield 40, 3) := by decide +kernel
theorem dX3_value_83 : decode cX3_value 83 = .ok (.ireturn, 1) := by decide +kernel
theorem dX4_init_0 : decode cX4_init 0 = .ok (.aload_n 0, 1) := by decide +kernel
theorem dX4_init_1 : decode cX4_init 1 = .ok (.invokespecial 3, 3) := by decide +kernel
theorem dX4_init_4 : decode cX4_init 4 = .ok (.aload_n 0, 1) := by decide +kernel
theorem dX4_init_5 : decode cX4_init 5 = .ok (.bipush 120, 2) := by decide +kernel
theorem dX4_init_7 : decode cX4_init 7 = .ok (.newarray .int, 2) := by decide +kernel
theorem dX4_init_9 : decode cX4_init 9 = .ok (.putfield 9, 3) := by decide +kernel
theorem dX4_init_12 : decode cX4_init 12 = .ok (.aload_n 0, 1) := by decide +kernel
theorem dX4_init_13 : decode cX4_init 13 = .ok (.bipush 40, 2) := by decide +kernel
theorem dX4_init_15 : decode cX4_init 15 = .ok (.newarray .int, 2) := by decide +kernel
theorem dX4_init_17 : decode cX4_init 17 = .ok (.putfield 15, 3) := by decide +kernel
theorem dX4_init_20 : decode cX4_init 20 = .ok (.aload_n 0, 1) := by decide +kernel
theorem dX4_init_21 : decode cX4_init 21 = .ok (.bipush 40, 2) := by decide +kernel
theorem dX4_init_23 : decode cX4_init 23 = .ok (.newarray .int, 2) := by decide +kernel
theorem dX4_init_25 : decode cX4_init 25 = .ok (.putfield 18, 3) := by decide +kernel
theorem dX4_init_28 : decode cX4_init 28 = .ok (.aload_n 0, 1) := by decide +kernel
theorem dX4_init_29 : decode cX4_init 29 = .ok (.bipush 40, 2) := by decide +kernel
theorem dX4_init_31 : decode cX4_init 31 = .ok (.newarray .int, 2) := by decide +kernel
theorem dX4_init_33 : decode cX4_init 33 = .ok (.putfield 21, 3) := by decide +kernel
theorem dX4_init_36 : decode cX4_init 36 = .ok (.aload_n 0, 1) := by decide +kernel
theorem dX4_init_37 : decode cX4_init 37 = .ok (.bipush 40, 2) := by decide +kernel
theorem dX4_init_39 : decode cX4_init 39 = .ok (.newarray .int, 2) := by decide +kernel
theorem dX4_init_41 : decode cX4_init 41 = .ok (.putfield 24, 3) := by decide +kernel
theorem dX4_init_44 : decode cX4_init 44 = .ok (.return_, 1) := by decide +kernel
theorem dX4_readOrders_0 : decode cX4_readOrders 0 = .ok (.aload_n 0, 1) := by decide +kernel
theorem dX4_readOrders_1 : decode cX4_readOrders 1 = .ok (.iconst 0, 1) := by decide +kernel
theorem dX4_readOrders_2 : decode cX4_readOrders 2 = .ok (.putfield 27, 3) := by decide +kernel
theorem dX4_readOrders_5 : decode cX4_readOrders 5 = .ok (.aload_n 0, 1) := by decide +kernel
theorem dX4_readOrders_6 : decode cX4_readOrders 6 = .ok (.iconst 0, 1) := by decide +kernel
theorem dX4_readOrders_7 : decode cX4_readOrders 7 = .ok (.putfield 31, 3) := by decide +kernel
theorem dX4_readOrders_10 : decode cX4_readOrders 10 = .ok (.aload_n 0, 1) := by decide +kernel
theorem dX4_readOrders_11 : decode cX4_readOrders 11 = .ok (.invokevirtual 34, 3) := by decide +kernel
theorem dX4_readOrders_14 : decode cX4_readOrders 14 = .ok (.aload_n 0, 1) := by decide +kernel
theorem dX4_readOrders_15 : decode cX4_readOrders 15 = .ok (.getfield 31, 3) := by decide +kernel
theorem dX4_readOrders_18 : decode cX4_readOrders 18 = .ok (.aload_n 0, 1) := by decide +kernel
theorem dX4_readOrders_19 : decode cX4_readOrders 19 = .ok (.getfield 37, 3) := by decide +kernel
theorem dX4_readOrders_22 : decode cX4_readOrders 22 = .ok (.if_icmp .lt 8, 3) := by decide +kernel
theorem dX4_readOrders_25 : decode cX4_readOrders 25 = .ok (.aload_n 0, 1) := by decide +kernel
theorem dX4_readOrders_26 : decode cX4_readOrders 26 = .ok (.getfield 37, 3) := by decide +kernel
theorem dX4_readOrders_29 : decode cX4_readOrders 29 = .ok (.ireturn, 1) := by decide +kernel
theorem dX4_readOrders_30 : decode cX4_readOrders 30 = .ok (.aload_n 0, 1) := by decide +kernel
theorem dX4_readOrders_31 : decode cX4_readOrders 31 = .ok (.getfield 31, 3) := by decide +kernel
theorem dX4_readOrders_34 : decode cX4_readOrders 34 = .ok (.aload_n 0, 1) := by decide +kernel
theorem dX4_readOrders_35 : decode cX4_readOrders 35 = .ok (.getfield 37, 3) := by decide +kernel
theorem dX4_readOrders_38 : decode cX4_readOrders 38 = .ok (.if_icmp .ge 33, 3) := by decide +kernel
theorem dX4_readOrders_41 : decode cX4_readOrders 41 = .ok (.aload_n 0, 1) := by decide +kernel
theorem dX4_readOrders_42 : decode cX4_readOrders 42 = .ok (.getfield 27, 3) := by decide +kernel
theorem dX4_readOrders_45 : decode cX4_readOrders 45 = .ok (.bipush 40, 2) := by decide +kernel
theorem dX4_readOrders_47 : decode cX4_readOrders 47 = .ok (.if_icmp .ge 24, 3) := by decide +kernel
theorem dX4_readOrders_50 : decode cX4_readOrders 50 = .ok (.aload_n 0, 1) := by decide +kernel
theorem dX4_readOrders_51 : decode cX4_readOrders 51 = .ok (.iload_n 1, 1) := by decide +kernel
theorem dX4_readOrders_52 : decode cX4_readOrders 52 = .ok (.iload_n 2, 1) := by decide +kernel
theorem dX4_readOrders_53 : decode cX4_readOrders 53 = .ok (.invokevirtual 40, 3) := by decide +kernel
theorem dX4_readOrders_56 : decode cX4_readOrders 56 = .ok (.ifCond .ne 8, 3) := by decide +kernel
theorem dX4_readOrders_59 : decode cX4_readOrders 59 = .ok (.aload_n 0, 1) := by decide +kernel
theorem dX4_readOrders_60 : decode cX4_readOrders 60 = .ok (.getfield 31, 3) := by decide +kernel
theorem dX4_readOrders_63 : decode cX4_readOrders 63 = .ok (.ireturn, 1) := by decide +kernel
theorem dX4_readOrders_64 : decode cX4_readOrders 64 = .ok (.aload_n 0, 1) := by decide +kernel
theorem dX4_readOrders_65 : decode cX4_readOrders 65 = .ok (.invokevirtual 34, 3) := by decide +kernel
theorem dX4_readOrders_68 : decode cX4_readOrders 68 = .ok (.goto (-38), 3) := by decide +kernel
theorem dX4_readOrders_71 : decode cX4_readOrders 71 = .ok (.iconst (-1), 1) := by decide +kernel
theorem dX4_readOrders_72 : decode cX4_readOrders 72 = .ok (.ireturn, 1) := by decide +kernel
theorem dX4_readOrder_0 : decode cX4_readOrder 0 = .ok (.aload_n 0, 1) := by decide +kernel
theorem dX4_readOrder_1 : decode cX4_readOrder 1 = .ok (.getfield 9, 3) := by decide +kernel
theorem dX4_readOrder_4 : decode cX4_readOrder 4 = .ok (.aload_n 0, 1) := by decide +kernel
theorem dX4_readOrder_5 : decode cX4_readOrder 5 = .ok (.getfield 31, 3) := by decide +kernel
theorem dX4_readOrder_8 : decode cX4_readOrder 8 = .ok (.iaload, 1) := by decide +kernel
theorem dX4_readOrder_9 : decode cX4_readOrder 9 = .ok (.istore_n 3, 1) := by decide +kernel
theorem dX4_readOrder_10 : decode cX4_readOrder 10 = .ok (.iload_n 3, 1) := by decide +kernel
theorem dX4_readOrder_11 : decode cX4_readOrder 11 = .ok (.invokestatic 44, 3) := by decide +kernel
theorem dX4_readOrder_14 : decode cX4_readOrder 14 = .ok (.ifCond .ne 5, 3) := by decide +kernel
theorem dX4_readOrder_17 : decode cX4_readOrder 17 = .ok (.iconst 0, 1) := by decide +kernel
theorem dX4_readOrder_18 : decode cX4_readOrder 18 = .ok (.ireturn, 1) := by decide +kernel
theorem dX4_readOrder_19 : decode cX4_readOrder 19 = .ok (.aload_n 0, 1) := by decide +kernel
theorem dX4_readOrder_20 : decode cX4_readOrder 20 = .ok (.dup, 1) := by decide +kernel
theorem dX4_readOrder_21 : decode cX4_readOrder 21 = .ok (.getfield 31, 3) := by decide +kernel
theorem dX4_readOrder_24 : decode cX4_readOrder 24 = .ok (.iconst 1, 1) := by decide +kernel
theorem dX4_readOrder_25 : decode cX4_readOrder 25 = .ok (.iadd, 1) := by decide +kernel
theorem dX4_readOrder_26 : decode cX4_readOrder 26 = .ok (.putfield 31, 3) := by decide +kernel
theorem dX4_readOrder_29 : decode cX4_readOrder 29 = .ok (.iload_n 3, 1) := by decide +kernel
theorem dX4_readOrder_30 : decode cX4_readOrder 30 = .ok (.invokestatic 48, 3) := by decide +kernel
theorem dX4_readOrder_33 : decode cX4_readOrder 33 = .ok (.ifCond .eq 11, 3) := by decide +kernel
theorem dX4_readOrder_36 : decode cX4_readOrder 36 = .ok (.aload_n 0, 1) := by decide +kernel
theorem dX4_readOrder_37 : decode cX4_readOrder 37 = .ok (.iload_n 1, 1) := by decide +kernel
theorem dX4_readOrder_38 : decode cX4_readOrder 38 = .ok (.invokevirtual 51, 3) := by decide +kernel
theorem dX4_readOrder_41 : decode cX4_readOrder 41 = .ok (.goto 4, 3) := by decide +kernel
theorem dX4_readOrder_44 : decode cX4_readOrder 44 = .ok (.iconst 0, 1) := by decide +kernel
theorem dX4_readOrder_45 : decode cX4_readOrder 45 = .ok (.istore 4, 2) := by decide +kernel
theorem dX4_readOrder_47 : decode cX4_readOrder 47 = .ok (.iload 4, 2) := by decide +kernel
theorem dX4_readOrder_49 : decode cX4_readOrder 49 = .ok (.iconst (-1), 1) := by decide +kernel
theorem dX4_readOrder_50 : decode cX4_readOrder 50 = .ok (.if_icmp .ne 5, 3) := by decide +kernel
theorem dX4_readOrder_53 : decode cX4_readOrder 53 = .ok (.iconst 0, 1) := by decide +kernel
theorem dX4_readOrder_54 : decode cX4_readOrder 54 = .ok (.ireturn, 1) := by decide +kernel
theorem dX4_readOrder_55 : decode cX4_readOrder 55 = .ok (.iload_n 3, 1) := by decide +kernel
theorem dX4_readOrder_56 : decode cX4_readOrder 56 = .ok (.invokestatic 55, 3) := by decide +kernel
theorem dX4_readOrder_59 : decode cX4_readOrder 59 = .ok (.ifCond .eq 11, 3) := by decide +kernel
theorem dX4_readOrder_62 : decode cX4_readOrder 62 = .ok (.aload_n 0, 1) := by decide +kernel
theorem dX4_readOrder_63 : decode cX4_readOrder 63 = .ok (.iload_n 2, 1) := by decide +kernel
theorem dX4_readOrder_64 : decode cX4_readOrder 64 = .ok (.invokevirtual 51, 3) := by decide +kernel
theorem dX4_readOrder_67 : decode cX4_readOrder 67 = .ok (.goto 4, 3) := by decide +kernel
theorem dX4_readOrder_70 : decode cX4_readOrder 70 = .ok (.iconst 0, 1) := by decide +kernel
theorem dX4_readOrder_71 : decode cX4_readOrder 71 = .ok (.istore 5, 2) := by decide +kernel
theorem dX4_readOrder_73 : decode cX4_readOrder 73 = .ok (.iload 5, 2) := by decide +kernel
theorem dX4_readOrder_75 : decode cX4_readOrder 75 = .ok (.iconst (-1), 1) := by decide +kernel
theorem dX4_readOrder_76 : decode cX4_readOrder 76 = .ok (.if_icmp .ne 5, 3) := by decide +kernel
theorem dX4_readOrder_79 : decode cX4_readOrder 79 = .ok (.iconst 0, 1) := by decide +kernel
theorem dX4_readOrder_80 : decode cX4_readOrder 80 = .ok (.ireturn, 1) := by decide +kernel
theorem dX4_readOrder_81 : decode cX4_readOrder 81 = .ok (.iload_n 3, 1) := by decide +kernel
theorem dX4_readOrder_82 : decode cX4_readOrder 82 = .ok (.invokestatic 58, 3) := by decide +kernel
theorem dX4_readOrder_85 : decode cX4_readOrder 85 = .ok (.ifCond .eq 14, 3) := by decide +kernel
theorem dX4_readOrder_88 : decode cX4_readOrder 88 = .ok (.aload_n 0, 1) := by decide +kernel
theorem dX4_readOrder_89 : decode cX4_readOrder 89 = .ok (.iload_n 3, 1) := by decide +kernel
theorem dX4_readOrder_90 : decode cX4_readOrder 90 = .ok (.invokestatic 61, 3) := by decide +kernel
theorem dX4_readOrder_93 : decode cX4_readOrder 93 = .ok (.invokevirtual 64, 3) := by decide +kernel
theorem dX4_readOrder_96 : decode cX4_readOrder 96 = .ok (.goto 4, 3) := by decide +kernel
theorem dX4_readOrder_99 : decode cX4_readOrder 99 = .ok (.iconst 0, 1) := by decide +kernel
theorem dX4_readOrder_100 : decode cX4_readOrder 100 = .ok (.istore 6, 2) := by decide +kernel
theorem dX4_readOrder_102 : decode cX4_readOrder 102 = .ok (.iload 6, 2) := by decide +kernel
theorem dX4_readOrder_104 : decode cX4_readOrder 104 = .ok (.iconst (-1), 1) := by decide +kernel
theorem dX4_readOrder_105 : decode cX4_readOrder 105 = .ok (.if_icmp .eq 10, 3) := by decide +kernel
theorem dX4_readOrder_108 : decode cX4_readOrder 108 = .ok (.aload_n 0, 1) := by decide +kernel
theorem dX4_readOrder_109 : decode cX4_readOrder 109 = .ok (.invokevirtual 67, 3) := by decide +kernel
theorem dX4_readOrder_112 : decode cX4_readOrder 112 = .ok (.ifCond .ne 5, 3) := by decide +kernel
theorem dX4_readOrder_115 : decode cX4_readOrder 115 = .ok (.iconst 0, 1) := by decide +kernel
theorem dX4_readOrder_116 : decode cX4_readOrder 116 = .ok (.ireturn, 1) := by decide +kernel
theorem dX4_readOrder_117 : decode cX4_readOrder 117 = .ok (.aload_n 0, 1) := by decide +kernel
theorem dX4_readOrder_118 : decode cX4_readOrder 118 = .ok (.getfield 15, 3) := by decide +kernel
theorem dX4_readOrder_121 : decode cX4_readOrder 121 = .ok (.aload_n 0, 1) := by decide +kernel
theorem dX4_readOrder_122 : decode cX4_readOrder 122 = .ok (.getfield 27, 3) := by decide +kernel
theorem dX4_readOrder_125 : decode cX4_readOrder 125 = .ok (.iload_n 3, 1) := by decide +kernel
theorem dX4_readOrder_126 : decode cX4_readOrder 126 = .ok (.iastore, 1) := by decide +kernel
theorem dX4_readOrder_127 : decode cX4_readOrder 127 = .ok (.aload_n 0, 1) := by decide +kernel
theorem dX4_readOrder_128 : decode cX4_readOrder 128 = .ok (.getfield 18, 3) := by decide +kernel
theorem dX4_readOrder_131 : decode cX4_readOrder 131 = .ok (.aload_n 0, 1) := by decide +kernel
theorem dX4_readOrder_132 : decode cX4_readOrder 132 = .ok (.getfield 27, 3) := by decide +kernel
theorem dX4_readOrder_135 : decode cX4_readOrder 135 = .ok (.iload 4, 2) := by decide +kernel
theorem dX4_readOrder_137 : decode cX4_readOrder 137 = .ok (.iastore, 1) := by decide +kernel
theorem dX4_readOrder_138 : decode cX4_readOrder 138 = .ok (.aload_n 0, 1) := by decide +kernel
theorem dX4_readOrder_139 : decode cX4_readOrder 139 = .ok (.getfield 21, 3) := by decide +kernel
theorem dX4_readOrder_142 : decode cX4_readOrder 142 = .ok (.aload_n 0, 1) := by decide +kernel
theorem dX4_readOrder_143 : decode cX4_readOrder 143 = .ok (.getfield 27, 3) := by decide +kernel
theorem dX4_readOrder_146 : decode cX4_readOrder 146 = .ok (.iload 5, 2) := by decide +kernel
theorem dX4_readOrder_148 : decode cX4_readOrder 148 = .ok (.iastore, 1) := by decide +kernel
theorem dX4_readOrder_149 : decode cX4_readOrder 149 = .ok (.aload_n 0, 1) := by decide +kernel
theorem dX4_readOrder_150 : decode cX4_readOrder 150 = .ok (.getfield 24, 3) := by decide +kernel
theorem dX4_readOrder_153 : decode cX4_readOrder 153 = .ok (.aload_n 0, 1) := by decide +kernel
theorem dX4_readOrder_154 : decode cX4_readOrder 154 = .ok (.getfield 27, 3) := by decide +kernel
theorem dX4_readOrder_157 : decode cX4_readOrder 157 = .ok (.iload 6, 2) := by decide +kernel
theorem dX4_readOrder_159 : decode cX4_readOrder 159 = .ok (.iastore, 1) := by decide +kernel
theorem dX4_readOrder_160 : decode cX4_readOrder 160 = .ok (.aload_n 0, 1) := by decide +kernel
theorem dX4_readOrder_161 : decode cX4_readOrder 161 = .ok (.dup, 1) := by decide +kernel
theorem dX4_readOrder_162 : decode cX4_readOrder 162 = .ok (.getfield 27, 3) := by decide +kernel
theorem dX4_readOrder_165 : decode cX4_readOrder 165 = .ok (.iconst 1, 1) := by decide +kernel
theorem dX4_readOrder_166 : decode cX4_readOrder 166 = .ok (.iadd, 1) := by decide +kernel
theorem dX4_readOrder_167 : decode cX4_readOrder 167 = .ok (.putfield 27, 3) := by decide +kernel
theorem dX4_readOrder_170 : decode cX4_readOrder 170 = .ok (.iconst 1, 1) := by decide +kernel
theorem dX4_readOrder_171 : decode cX4_readOrder 171 = .ok (.ireturn, 1) := by decide +kernel
theorem dX4_isKind_0 : decode cX4_isKind 0 = .ok (.iload_n 0, 1) := by decide +kernel
theorem dX4_isKind_1 : decode cX4_isKind 1 = .ok (.invokestatic 48, 3) := by decide +kernel
theorem dX4_isKind_4 : decode cX4_isKind 4 = .ok (.ifCond .ne 17, 3) := by decide +kernel
theorem dX4_isKind_7 : decode cX4_isKind 7 = .ok (.iload_n 0, 1) := by decide +kernel
theorem dX4_isKind_8 : decode cX4_isKind 8 = .ok (.invokestatic 55, 3) := by decide +kernel
theorem dX4_isKind_11 : decode cX4_isKind 11 = .ok (.ifCond .ne 10, 3) := by decide +kernel
theorem dX4_isKind_14 : decode cX4_isKind 14 = .ok (.iload_n 0, 1) := by decide +kernel
theorem dX4_isKind_15 : decode cX4_isKind 15 = .ok (.invokestatic 58, 3) := by decide +kernel
theorem dX4_isKind_18 : decode cX4_isKind 18 = .ok (.ifCond .eq 7, 3) := by decide +kernel
theorem dX4_isKind_21 : decode cX4_isKind 21 = .ok (.iconst 1, 1) := by decide +kernel
theorem dX4_isKind_22 : decode cX4_isKind 22 = .ok (.goto 4, 3) := by decide +kernel
theorem dX4_isKind_25 : decode cX4_isKind 25 = .ok (.iconst 0, 1) := by decide +kernel
theorem dX4_isKind_26 : decode cX4_isKind 26 = .ok (.ireturn, 1) := by decide +kernel
theorem dX4_hasSender_0 : decode cX4_hasSender 0 = .ok (.iload_n 0, 1) := by decide +kernel
theorem dX4_hasSender_1 : decode cX4_hasSender 1 = .ok (.bipush 115, 2) := by decide +kernel
theorem dX4_hasSender_3 : decode cX4_hasSender 3 = .ok (.if_icmp .eq 21, 3) := by decide +kernel
theorem dX4_hasSender_6 : decode cX4_hasSender 6 = .ok (.iload_n 0, 1) := by decide +kernel
theorem dX4_hasSender_7 : decode cX4_hasSender 7 = .ok (.bipush 122, 2) := by decide +kernel
theorem dX4_hasSender_9 : decode cX4_hasSender 9 = .ok (.if_icmp .eq 15, 3) := by decide +kernel
theorem dX4_hasSender_12 : decode cX4_hasSender 12 = .ok (.iload_n 0, 1) := by decide +kernel
theorem dX4_hasSender_13 : decode cX4_hasSender 13 = .ok (.bipush 114, 2) := by decide +kernel
theorem dX4_hasSender_15 : decode cX4_hasSender 15 = .ok (.if_icmp .eq 9, 3) := by decide +kernel
theorem dX4_hasSender_18 : decode cX4_hasSender 18 = .ok (.iload_n 0, 1) := by decide +kernel
theorem dX4_hasSender_19 : decode cX4_hasSender 19 = .ok (.bipush 103, 2) := by decide +kernel
theorem dX4_hasSender_21 : decode cX4_hasSender 21 = .ok (.if_icmp .ne 7, 3) := by decide +kernel
theorem dX4_hasSender_24 : decode cX4_hasSender 24 = .ok (.iconst 1, 1) := by decide +kernel
theorem dX4_hasSender_25 : decode cX4_hasSender 25 = .ok (.goto 4, 3) := by decide +kernel
theorem dX4_hasSender_28 : decode cX4_hasSender 28 = .ok (.iconst 0, 1) := by decide +kernel
theorem dX4_hasSender_29 : decode cX4_hasSender 29 = .ok (.ireturn, 1) := by decide +kernel
theorem dX4_hasGate_0 : decode cX4_hasGate 0 = .ok (.iload_n 0, 1) := by decide +kernel
theorem dX4_hasGate_1 : decode cX4_hasGate 1 = .ok (.bipush 103, 2) := by decide +kernel
theorem dX4_hasGate_3 : decode cX4_hasGate 3 = .ok (.if_icmp .eq 15, 3) := by decide +kernel
theorem dX4_hasGate_6 : decode cX4_hasGate 6 = .ok (.iload_n 0, 1) := by decide +kernel
theorem dX4_hasGate_7 : decode cX4_hasGate 7 = .ok (.bipush 98, 2) := by decide +kernel
theorem dX4_hasGate_9 : decode cX4_hasGate 9 = .ok (.if_icmp .eq 9, 3) := by decide +kernel
theorem dX4_hasGate_12 : decode cX4_hasGate 12 = .ok (.iload_n 0, 1) := by decide +kernel
theorem dX4_hasGate_13 : decode cX4_hasGate 13 = .ok (.bipush 108, 2) := by decide +kernel
theorem dX4_hasGate_15 : decode cX4_hasGate 15 = .ok (.if_icmp .ne 7, 3) := by decide +kernel
theorem dX4_hasGate_18 : decode cX4_hasGate 18 = .ok (.iconst 1, 1) := by decide +kernel
theorem dX4_hasGate_19 : decode cX4_hasGate 19 = .ok (.goto 4, 3) := by decide +kernel
theorem dX4_hasGate_22 : decode cX4_hasGate 22 = .ok (.iconst 0, 1) := by decide +kernel
theorem dX4_hasGate_23 : decode cX4_hasGate 23 = .ok (.ireturn, 1) := by decide +kernel
theorem dX4_hasNumber_0 : decode cX4_hasNumber 0 = .ok (.iload_n 0, 1) := by decide +kernel
theorem dX4_hasNumber_1 : decode cX4_hasNumber 1 = .ok (.bipush 43, 2) := by decide +kernel
theorem dX4_hasNumber_3 : decode cX4_hasNumber 3 = .ok (.if_icmp .eq 10, 3) := by decide +kernel
theorem dX4_hasNumber_6 : decode cX4_hasNumber 6 = .ok (.iload_n 0, 1) := by decide +kernel
theorem dX4_hasNumber_7 : decode cX4_hasNumber 7 = .ok (.invokestatic 55, 3) := by decide +kernel
theorem dX4_hasNumber_10 : decode cX4_hasNumber 10 = .ok (.ifCond .eq 7, 3) := by decide +kernel
theorem dX4_hasNumber_13 : decode cX4_hasNumber 13 = .ok (.iconst 1, 1) := by decide +kernel
theorem dX4_hasNumber_14 : decode cX4_hasNumber 14 = .ok (.goto 4, 3) := by decide +kernel
theorem dX4_hasNumber_17 : decode cX4_hasNumber 17 = .ok (.iconst 0, 1) := by decide +kernel
theorem dX4_hasNumber_18 : decode cX4_hasNumber 18 = .ok (.ireturn, 1) := by decide +kernel
theorem dX4_mostOfNumber_0 : decode cX4_mostOfNumber 0 = .ok (.iload_n 0, 1) := by decide +kernel
theorem dX4_mostOfNumber_1 : decode cX4_mostOfNumber 1 = .ok (.lookupswitch 43 #[(98, 38), (103, 35), (108, 41)], 35) := by decide +kernel
theorem dX4_mostOfNumber_36 : decode cX4_mostOfNumber 36 = .ok (.bipush 60, 2) := by decide +kernel
theorem dX4_mostOfNumber_38 : decode cX4_mostOfNumber 38 = .ok (.ireturn, 1) := by decide +kernel
theorem dX4_mostOfNumber_39 : decode cX4_mostOfNumber 39 = .ok (.bipush 40, 2) := by decide +kernel
theorem dX4_mostOfNumber_41 : decode cX4_mostOfNumber 41 = .ok (.ireturn, 1) := by decide +kernel
theorem dX4_mostOfNumber_42 : decode cX4_mostOfNumber 42 = .ok (.iconst 5, 1) := by decide +kernel
theorem dX4_mostOfNumber_43 : decode cX4_mostOfNumber 43 = .ok (.ireturn, 1) := by decide +kernel
theorem dX4_mostOfNumber_44 : decode cX4_mostOfNumber 44 = .ok (.bipush 99, 2) := by decide +kernel
theorem dX4_mostOfNumber_46 : decode cX4_mostOfNumber 46 = .ok (.ireturn, 1) := by decide +kernel
theorem dX4_skipBlanks_0 : decode cX4_skipBlanks 0 = .ok (.aload_n 0, 1) := by decide +kernel
theorem dX4_skipBlanks_1 : decode cX4_skipBlanks 1 = .ok (.getfield 31, 3) := by decide +kernel
theorem dX4_skipBlanks_4 : decode cX4_skipBlanks 4 = .ok (.aload_n 0, 1) := by decide +kernel
theorem dX4_skipBlanks_5 : decode cX4_skipBlanks 5 = .ok (.getfield 37, 3) := by decide +kernel
theorem dX4_skipBlanks_8 : decode cX4_skipBlanks 8 = .ok (.if_icmp .ge 30, 3) := by decide +kernel
theorem dX4_skipBlanks_11 : decode cX4_skipBlanks 11 = .ok (.aload_n 0, 1) := by decide +kernel
theorem dX4_skipBlanks_12 : decode cX4_skipBlanks 12 = .ok (.getfield 9, 3) := by decide +kernel
theorem dX4_skipBlanks_15 : decode cX4_skipBlanks 15 = .ok (.aload_n 0, 1) := by decide +kernel
theorem dX4_skipBlanks_16 : decode cX4_skipBlanks 16 = .ok (.getfield 31, 3) := by decide +kernel
theorem dX4_skipBlanks_19 : decode cX4_skipBlanks 19 = .ok (.iaload, 1) := by decide +kernel
theorem dX4_skipBlanks_20 : decode cX4_skipBlanks 20 = .ok (.bipush 32, 2) := by decide +kernel
theorem dX4_skipBlanks_22 : decode cX4_skipBlanks 22 = .ok (.if_icmp .ne 16, 3) := by decide +kernel
theorem dX4_skipBlanks_25 : decode cX4_skipBlanks 25 = .ok (.aload_n 0, 1) := by decide +kernel
theorem dX4_skipBlanks_26 : decode cX4_skipBlanks 26 = .ok (.dup, 1) := by decide +kernel
theorem dX4_skipBlanks_27 : decode cX4_skipBlanks 27 = .ok (.getfield 31, 3) := by decide +kernel
theorem dX4_skipBlanks_30 : decode cX4_skipBlanks 30 = .ok (.iconst 1, 1) := by decide +kernel
theorem dX4_skipBlanks_31 : decode cX4_skipBlanks 31 = .ok (.iadd, 1) := by decide +kernel
theorem dX4_skipBlanks_32 : decode cX4_skipBlanks 32 = .ok (.putfield 31, 3) := by decide +kernel
theorem dX4_skipBlanks_35 : decode cX4_skipBlanks 35 = .ok (.goto (-35), 3) := by decide +kernel
theorem dX4_skipBlanks_38 : decode cX4_skipBlanks 38 = .ok (.return_, 1) := by decide +kernel
theorem dX4_isFigureNext_0 : decode cX4_isFigureNext 0 = .ok (.aload_n 0, 1) := by decide +kernel
theorem dX4_isFigureNext_1 : decode cX4_isFigureNext 1 = .ok (.getfield 31, 3) := by decide +kernel
theorem dX4_isFigureNext_4 : decode cX4_isFigureNext 4 = .ok (.aload_n 0, 1) := by decide +kernel
theorem dX4_isFigureNext_5 : decode cX4_isFigureNext 5 = .ok (.getfield 37, 3) := by decide +kernel
theorem dX4_isFigureNext_8 : decode cX4_isFigureNext 8 = .ok (.if_icmp .ge 35, 3) := by decide +kernel
theorem dX4_isFigureNext_11 : decode cX4_isFigureNext 11 = .ok (.aload_n 0, 1) := by decide +kernel
theorem dX4_isFigureNext_12 : decode cX4_isFigureNext 12 = .ok (.getfield 9, 3) := by decide +kernel
theorem dX4_isFigureNext_15 : decode cX4_isFigureNext 15 = .ok (.aload_n 0, 1) := by decide +kernel
theorem dX4_isFigureNext_16 : decode cX4_isFigureNext 16 = .ok (.getfield 31, 3) := by decide +kernel
theorem dX4_isFigureNext_19 : decode cX4_isFigureNext 19 = .ok (.iaload, 1) := by decide +kernel
theorem dX4_isFigureNext_20 : decode cX4_isFigureNext 20 = .ok (.bipush 48, 2) := by decide +kernel
theorem dX4_isFigureNext_22 : decode cX4_isFigureNext 22 = .ok (.if_icmp .lt 21, 3) := by decide +kernel
theorem dX4_isFigureNext_25 : decode cX4_isFigureNext 25 = .ok (.aload_n 0, 1) := by decide +kernel
theorem dX4_isFigureNext_26 : decode cX4_isFigureNext 26 = .ok (.getfield 9, 3) := by decide +kernel
theorem dX4_isFigureNext_29 : decode cX4_isFigureNext 29 = .ok (.aload_n 0, 1) := by decide +kernel
theorem dX4_isFigureNext_30 : decode cX4_isFigureNext 30 = .ok (.getfield 31, 3) := by decide +kernel
theorem dX4_isFigureNext_33 : decode cX4_isFigureNext 33 = .ok (.iaload, 1) := by decide +kernel
theorem dX4_isFigureNext_34 : decode cX4_isFigureNext 34 = .ok (.bipush 57, 2) := by decide +kernel
theorem dX4_isFigureNext_36 : decode cX4_isFigureNext 36 = .ok (.if_icmp .gt 7, 3) := by decide +kernel
theorem dX4_isFigureNext_39 : decode cX4_isFigureNext 39 = .ok (.iconst 1, 1) := by decide +kernel
theorem dX4_isFigureNext_40 : decode cX4_isFigureNext 40 = .ok (.goto 4, 3) := by decide +kernel
theorem dX4_isFigureNext_43 : decode cX4_isFigureNext 43 = .ok (.iconst 0, 1) := by decide +kernel
theorem dX4_isFigureNext_44 : decode cX4_isFigureNext 44 = .ok (.ireturn, 1) := by decide +kernel
theorem dX4_readFigure_0 : decode cX4_readFigure 0 = .ok (.aload_n 0, 1) := by decide +kernel
theorem dX4_readFigure_1 : decode cX4_readFigure 1 = .ok (.invokevirtual 34, 3) := by decide +kernel
theorem dX4_readFigure_4 : decode cX4_readFigure 4 = .ok (.aload_n 0, 1) := by decide +kernel
theorem dX4_readFigure_5 : decode cX4_readFigure 5 = .ok (.invokevirtual 71, 3) := by decide +kernel
theorem dX4_readFigure_8 : decode cX4_readFigure 8 = .ok (.ifCond .eq 19, 3) := by decide +kernel
theorem dX4_readFigure_11 : decode cX4_readFigure 11 = .ok (.aload_n 0, 1) := by decide +kernel
theorem dX4_readFigure_12 : decode cX4_readFigure 12 = .ok (.getfield 9, 3) := by decide +kernel
theorem dX4_readFigure_15 : decode cX4_readFigure 15 = .ok (.aload_n 0, 1) := by decide +kernel
theorem dX4_readFigure_16 : decode cX4_readFigure 16 = .ok (.getfield 31, 3) := by decide +kernel
theorem dX4_readFigure_19 : decode cX4_readFigure 19 = .ok (.iaload, 1) := by decide +kernel
theorem dX4_readFigure_20 : decode cX4_readFigure 20 = .ok (.bipush 48, 2) := by decide +kernel
theorem dX4_readFigure_22 : decode cX4_readFigure 22 = .ok (.isub, 1) := by decide +kernel
theorem dX4_readFigure_23 : decode cX4_readFigure 23 = .ok (.iload_n 1, 1) := by decide +kernel
theorem dX4_readFigure_24 : decode cX4_readFigure 24 = .ok (.if_icmp .lt 5, 3) := by decide +kernel
theorem dX4_readFigure_27 : decode cX4_readFigure 27 = .ok (.iconst (-1), 1) := by decide +kernel
theorem dX4_readFigure_28 : decode cX4_readFigure 28 = .ok (.ireturn, 1) := by decide +kernel
theorem dX4_readFigure_29 : decode cX4_readFigure 29 = .ok (.aload_n 0, 1) := by decide +kernel
theorem dX4_readFigure_30 : decode cX4_readFigure 30 = .ok (.getfield 9, 3) := by decide +kernel
theorem dX4_readFigure_33 : decode cX4_readFigure 33 = .ok (.aload_n 0, 1) := by decide +kernel
theorem dX4_readFigure_34 : decode cX4_readFigure 34 = .ok (.getfield 31, 3) := by decide +kernel
theorem dX4_readFigure_37 : decode cX4_readFigure 37 = .ok (.iaload, 1) := by decide +kernel
theorem dX4_readFigure_38 : decode cX4_readFigure 38 = .ok (.bipush 48, 2) := by decide +kernel
theorem dX4_readFigure_40 : decode cX4_readFigure 40 = .ok (.isub, 1) := by decide +kernel
theorem dX4_readFigure_41 : decode cX4_readFigure 41 = .ok (.istore_n 2, 1) := by decide +kernel
theorem dX4_readFigure_42 : decode cX4_readFigure 42 = .ok (.aload_n 0, 1) := by decide +kernel
theorem dX4_readFigure_43 : decode cX4_readFigure 43 = .ok (.dup, 1) := by decide +kernel
theorem dX4_readFigure_44 : decode cX4_readFigure 44 = .ok (.getfield 31, 3) := by decide +kernel
theorem dX4_readFigure_47 : decode cX4_readFigure 47 = .ok (.iconst 1, 1) := by decide +kernel
theorem dX4_readFigure_48 : decode cX4_readFigure 48 = .ok (.iadd, 1) := by decide +kernel
theorem dX4_readFigure_49 : decode cX4_readFigure 49 = .ok (.putfield 31, 3) := by decide +kernel
theorem dX4_readFigure_52 : decode cX4_readFigure 52 = .ok (.iload_n 2, 1) := by decide +kernel
theorem dX4_readFigure_53 : decode cX4_readFigure 53 = .ok (.ireturn, 1) := by decide +kernel
theorem dX4_readNumber_0 : decode cX4_readNumber 0 = .ok (.aload_n 0, 1) := by decide +kernel
theorem dX4_readNumber_1 : decode cX4_readNumber 1 = .ok (.invokevirtual 34, 3) := by decide +kernel
theorem dX4_readNumber_4 : decode cX4_readNumber 4 = .ok (.aload_n 0, 1) := by decide +kernel
theorem dX4_readNumber_5 : decode cX4_readNumber 5 = .ok (.getfield 31, 3) := by decide +kernel
theorem dX4_readNumber_8 : decode cX4_readNumber 8 = .ok (.istore_n 2, 1) := by decide +kernel
theorem dX4_readNumber_9 : decode cX4_readNumber 9 = .ok (.iconst 0, 1) := by decide +kernel
theorem dX4_readNumber_10 : decode cX4_readNumber 10 = .ok (.istore_n 3, 1) := by decide +kernel
theorem dX4_readNumber_11 : decode cX4_readNumber 11 = .ok (.aload_n 0, 1) := by decide +kernel
theorem dX4_readNumber_12 : decode cX4_readNumber 12 = .ok (.invokevirtual 71, 3) := by decide +kernel
theorem dX4_readNumber_15 : decode cX4_readNumber 15 = .ok (.ifCond .eq 44, 3) := by decide +kernel
theorem dX4_readNumber_18 : decode cX4_readNumber 18 = .ok (.aload_n 0, 1) := by decide +kernel
theorem dX4_readNumber_19 : decode cX4_readNumber 19 = .ok (.getfield 31, 3) := by decide +kernel
theorem dX4_readNumber_22 : decode cX4_readNumber 22 = .ok (.iload_n 2, 1) := by decide +kernel
theorem dX4_readNumber_23 : decode cX4_readNumber 23 = .ok (.iconst 3, 1) := by decide +kernel
theorem dX4_readNumber_24 : decode cX4_readNumber 24 = .ok (.iadd, 1) := by decide +kernel
theorem dX4_readNumber_25 : decode cX4_readNumber 25 = .ok (.if_icmp .ge 34, 3) := by decide +kernel
theorem dX4_readNumber_28 : decode cX4_readNumber 28 = .ok (.iload_n 3, 1) := by decide +kernel
theorem dX4_readNumber_29 : decode cX4_readNumber 29 = .ok (.bipush 10, 2) := by decide +kernel
theorem dX4_readNumber_31 : decode cX4_readNumber 31 = .ok (.imul, 1) := by decide +kernel
theorem dX4_readNumber_32 : decode cX4_readNumber 32 = .ok (.aload_n 0, 1) := by decide +kernel
theorem dX4_readNumber_33 : decode cX4_readNumber 33 = .ok (.getfield 9, 3) := by decide +kernel
theorem dX4_readNumber_36 : decode cX4_readNumber 36 = .ok (.aload_n 0, 1) := by decide +kernel
theorem dX4_readNumber_37 : decode cX4_readNumber 37 = .ok (.getfield 31, 3) := by decide +kernel
theorem dX4_readNumber_40 : decode cX4_readNumber 40 = .ok (.iaload, 1) := by decide +kernel
theorem dX4_readNumber_41 : decode cX4_readNumber 41 = .ok (.iadd, 1) := by decide +kernel
theorem dX4_readNumber_42 : decode cX4_readNumber 42 = .ok (.bipush 48, 2) := by decide +kernel
theorem dX4_readNumber_44 : decode cX4_readNumber 44 = .ok (.isub, 1) := by decide +kernel
theorem dX4_readNumber_45 : decode cX4_readNumber 45 = .ok (.istore_n 3, 1) := by decide +kernel
theorem dX4_readNumber_46 : decode cX4_readNumber 46 = .ok (.aload_n 0, 1) := by decide +kernel
theorem dX4_readNumber_47 : decode cX4_readNumber 47 = .ok (.dup, 1) := by decide +kernel
theorem dX4_readNumber_48 : decode cX4_readNumber 48 = .ok (.getfield 31, 3) := by decide +kernel
theorem dX4_readNumber_51 : decode cX4_readNumber 51 = .ok (.iconst 1, 1) := by decide +kernel
theorem dX4_readNumber_52 : decode cX4_readNumber 52 = .ok (.iadd, 1) := by decide +kernel
theorem dX4_readNumber_53 : decode cX4_readNumber 53 = .ok (.putfield 31, 3) := by decide +kernel
theorem dX4_readNumber_56 : decode cX4_readNumber 56 = .ok (.goto (-45), 3) := by decide +kernel
theorem dX4_readNumber_59 : decode cX4_readNumber 59 = .ok (.aload_n 0, 1) := by decide +kernel
theorem dX4_readNumber_60 : decode cX4_readNumber 60 = .ok (.getfield 31, 3) := by decide +kernel
theorem dX4_readNumber_63 : decode cX4_readNumber 63 = .ok (.iload_n 2, 1) := by decide +kernel
theorem dX4_readNumber_64 : decode cX4_readNumber 64 = .ok (.isub, 1) := by decide +kernel
end
section
theorem dX4_readNumber_65 : decode cX4_readNumber 65 = .ok (.istore 4, 2) := by decide +kernel
theorem dX4_readNumber_67 : decode cX4_readNumber 67 = .ok (.iload 4, 2) := by decide +kernel
theorem dX4_readNumber_69 : decode cX4_readNumber 69 = .ok (.ifCond .eq 14, 3) := by decide +kernel
theorem dX4_readNumber_72 : decode cX4_readNumber 72 = .ok (.iload 4, 2) := by decide +kernel
theorem dX4_readNumber_74 : decode cX4_readNumber 74 = .ok (.iconst 2, 1) := by decide +kernel
theorem dX4_readNumber_75 : decode cX4_readNumber 75 = .ok (.if_icmp .gt 8, 3) := by decide +kernel
theorem dX4_readNumber_78 : decode cX4_readNumber 78 = .ok (.iload_n 3, 1) := by decide +kernel
theorem dX4_readNumber_79 : decode cX4_readNumber 79 = .ok (.iload_n 1, 1) := by decide +kernel
theorem dX4_readNumber_80 : decode cX4_readNumber 80 = .ok (.if_icmp .le 10, 3) := by decide +kernel
theorem dX4_readNumber_83 : decode cX4_readNumber 83 = .ok (.aload_n 0, 1) := by decide +kernel
theorem dX4_readNumber_84 : decode cX4_readNumber 84 = .ok (.iload_n 2, 1) := by decide +kernel
theorem dX4_readNumber_85 : decode cX4_readNumber 85 = .ok (.putfield 31, 3) := by decide +kernel
theorem dX4_readNumber_88 : decode cX4_readNumber 88 = .ok (.iconst (-1), 1) := by decide +kernel
theorem dX4_readNumber_89 : decode cX4_readNumber 89 = .ok (.ireturn, 1) := by decide +kernel
theorem dX4_readNumber_90 : decode cX4_readNumber 90 = .ok (.iload_n 3, 1) := by decide +kernel
theorem dX4_readNumber_91 : decode cX4_readNumber 91 = .ok (.ireturn, 1) := by decide +kernel
theorem dX4_readEnd_0 : decode cX4_readEnd 0 = .ok (.aload_n 0, 1) := by decide +kernel
theorem dX4_readEnd_1 : decode cX4_readEnd 1 = .ok (.invokevirtual 34, 3) := by decide +kernel
theorem dX4_readEnd_4 : decode cX4_readEnd 4 = .ok (.aload_n 0, 1) := by decide +kernel
theorem dX4_readEnd_5 : decode cX4_readEnd 5 = .ok (.getfield 31, 3) := by decide +kernel
theorem dX4_readEnd_8 : decode cX4_readEnd 8 = .ok (.aload_n 0, 1) := by decide +kernel
theorem dX4_readEnd_9 : decode cX4_readEnd 9 = .ok (.getfield 37, 3) := by decide +kernel
theorem dX4_readEnd_12 : decode cX4_readEnd 12 = .ok (.if_icmp .ge 17, 3) := by decide +kernel
theorem dX4_readEnd_15 : decode cX4_readEnd 15 = .ok (.aload_n 0, 1) := by decide +kernel
theorem dX4_readEnd_16 : decode cX4_readEnd 16 = .ok (.getfield 9, 3) := by decide +kernel
theorem dX4_readEnd_19 : decode cX4_readEnd 19 = .ok (.aload_n 0, 1) := by decide +kernel
theorem dX4_readEnd_20 : decode cX4_readEnd 20 = .ok (.getfield 31, 3) := by decide +kernel
theorem dX4_readEnd_23 : decode cX4_readEnd 23 = .ok (.iaload, 1) := by decide +kernel
theorem dX4_readEnd_24 : decode cX4_readEnd 24 = .ok (.bipush 59, 2) := by decide +kernel
theorem dX4_readEnd_26 : decode cX4_readEnd 26 = .ok (.if_icmp .eq 5, 3) := by decide +kernel
theorem dX4_readEnd_29 : decode cX4_readEnd 29 = .ok (.iconst 0, 1) := by decide +kernel
theorem dX4_readEnd_30 : decode cX4_readEnd 30 = .ok (.ireturn, 1) := by decide +kernel
theorem dX4_readEnd_31 : decode cX4_readEnd 31 = .ok (.aload_n 0, 1) := by decide +kernel
theorem dX4_readEnd_32 : decode cX4_readEnd 32 = .ok (.dup, 1) := by decide +kernel
theorem dX4_readEnd_33 : decode cX4_readEnd 33 = .ok (.getfield 31, 3) := by decide +kernel
theorem dX4_readEnd_36 : decode cX4_readEnd 36 = .ok (.iconst 1, 1) := by decide +kernel
theorem dX4_readEnd_37 : decode cX4_readEnd 37 = .ok (.iadd, 1) := by decide +kernel
theorem dX4_readEnd_38 : decode cX4_readEnd 38 = .ok (.putfield 31, 3) := by decide +kernel
theorem dX4_readEnd_41 : decode cX4_readEnd 41 = .ok (.iconst 1, 1) := by decide +kernel
theorem dX4_readEnd_42 : decode cX4_readEnd 42 = .ok (.ireturn, 1) := by decide +kernel
theorem dX5_init_0 : decode cX5_init 0 = .ok (.aload_n 0, 1) := by decide +kernel
theorem dX5_init_1 : decode cX5_init 1 = .ok (.invokespecial 3, 3) := by decide +kernel
theorem dX5_init_4 : decode cX5_init 4 = .ok (.return_, 1) := by decide +kernel
theorem dX5_find_0 : decode cX5_find 0 = .ok (.aload_n 0, 1) := by decide +kernel
theorem dX5_find_1 : decode cX5_find 1 = .ok (.iload_n 1, 1) := by decide +kernel
theorem dX5_find_2 : decode cX5_find 2 = .ok (.putfield 9, 3) := by decide +kernel
theorem dX5_find_5 : decode cX5_find 5 = .ok (.aload_n 0, 1) := by decide +kernel
theorem dX5_find_6 : decode cX5_find 6 = .ok (.iload_n 2, 1) := by decide +kernel
theorem dX5_find_7 : decode cX5_find 7 = .ok (.putfield 15, 3) := by decide +kernel
theorem dX5_find_10 : decode cX5_find 10 = .ok (.iload_n 3, 1) := by decide +kernel
theorem dX5_find_11 : decode cX5_find 11 = .ok (.bipush 6, 2) := by decide +kernel
theorem dX5_find_13 : decode cX5_find 13 = .ok (.isub, 1) := by decide +kernel
theorem dX5_find_14 : decode cX5_find 14 = .ok (.istore 4, 2) := by decide +kernel
theorem dX5_find_16 : decode cX5_find 16 = .ok (.iload 4, 2) := by decide +kernel
theorem dX5_find_18 : decode cX5_find 18 = .ok (.iconst 5, 1) := by decide +kernel
theorem dX5_find_19 : decode cX5_find 19 = .ok (.if_icmp .lt 27, 3) := by decide +kernel
theorem dX5_find_22 : decode cX5_find 22 = .ok (.aload_n 0, 1) := by decide +kernel
theorem dX5_find_23 : decode cX5_find 23 = .ok (.getfield 9, 3) := by decide +kernel
theorem dX5_find_26 : decode cX5_find 26 = .ok (.iconst 5, 1) := by decide +kernel
theorem dX5_find_27 : decode cX5_find 27 = .ok (.if_icmp .ge 19, 3) := by decide +kernel
theorem dX5_find_30 : decode cX5_find 30 = .ok (.aload_n 0, 1) := by decide +kernel
theorem dX5_find_31 : decode cX5_find 31 = .ok (.dup, 1) := by decide +kernel
theorem dX5_find_32 : decode cX5_find 32 = .ok (.getfield 9, 3) := by decide +kernel
theorem dX5_find_35 : decode cX5_find 35 = .ok (.iconst 1, 1) := by decide +kernel
theorem dX5_find_36 : decode cX5_find 36 = .ok (.iadd, 1) := by decide +kernel
theorem dX5_find_37 : decode cX5_find 37 = .ok (.putfield 9, 3) := by decide +kernel
theorem dX5_find_40 : decode cX5_find 40 = .ok (.iinc 4 (-5), 3) := by decide +kernel
theorem dX5_find_43 : decode cX5_find 43 = .ok (.goto (-27), 3) := by decide +kernel
theorem dX5_find_46 : decode cX5_find 46 = .ok (.iload 4, 2) := by decide +kernel
theorem dX5_find_48 : decode cX5_find 48 = .ok (.iconst 2, 1) := by decide +kernel
theorem dX5_find_49 : decode cX5_find 49 = .ok (.if_icmp .lt 26, 3) := by decide +kernel
theorem dX5_find_52 : decode cX5_find 52 = .ok (.aload_n 0, 1) := by decide +kernel
theorem dX5_find_53 : decode cX5_find 53 = .ok (.getfield 15, 3) := by decide +kernel
theorem dX5_find_56 : decode cX5_find 56 = .ok (.ifCond .le 19, 3) := by decide +kernel
theorem dX5_find_59 : decode cX5_find 59 = .ok (.aload_n 0, 1) := by decide +kernel
theorem dX5_find_60 : decode cX5_find 60 = .ok (.dup, 1) := by decide +kernel
theorem dX5_find_61 : decode cX5_find 61 = .ok (.getfield 15, 3) := by decide +kernel
theorem dX5_find_64 : decode cX5_find 64 = .ok (.iconst 1, 1) := by decide +kernel
theorem dX5_find_65 : decode cX5_find 65 = .ok (.isub, 1) := by decide +kernel
theorem dX5_find_66 : decode cX5_find 66 = .ok (.putfield 15, 3) := by decide +kernel
theorem dX5_find_69 : decode cX5_find 69 = .ok (.iinc 4 (-2), 3) := by decide +kernel
theorem dX5_find_72 : decode cX5_find 72 = .ok (.goto (-26), 3) := by decide +kernel
theorem dX5_find_75 : decode cX5_find 75 = .ok (.iload 4, 2) := by decide +kernel
theorem dX5_find_77 : decode cX5_find 77 = .ok (.ifCond .ge 27, 3) := by decide +kernel
theorem dX5_find_80 : decode cX5_find 80 = .ok (.aload_n 0, 1) := by decide +kernel
theorem dX5_find_81 : decode cX5_find 81 = .ok (.getfield 15, 3) := by decide +kernel
theorem dX5_find_84 : decode cX5_find 84 = .ok (.iconst 4, 1) := by decide +kernel
theorem dX5_find_85 : decode cX5_find 85 = .ok (.if_icmp .ge 19, 3) := by decide +kernel
theorem dX5_find_88 : decode cX5_find 88 = .ok (.aload_n 0, 1) := by decide +kernel
theorem dX5_find_89 : decode cX5_find 89 = .ok (.dup, 1) := by decide +kernel
theorem dX5_find_90 : decode cX5_find 90 = .ok (.getfield 15, 3) := by decide +kernel
theorem dX5_find_93 : decode cX5_find 93 = .ok (.iconst 1, 1) := by decide +kernel
theorem dX5_find_94 : decode cX5_find 94 = .ok (.iadd, 1) := by decide +kernel
theorem dX5_find_95 : decode cX5_find 95 = .ok (.putfield 15, 3) := by decide +kernel
theorem dX5_find_98 : decode cX5_find 98 = .ok (.iinc 4 2, 3) := by decide +kernel
theorem dX5_find_101 : decode cX5_find 101 = .ok (.goto (-26), 3) := by decide +kernel
theorem dX5_find_104 : decode cX5_find 104 = .ok (.iload 4, 2) := by decide +kernel
theorem dX5_find_106 : decode cX5_find 106 = .ok (.ifCond .ge 26, 3) := by decide +kernel
theorem dX5_find_109 : decode cX5_find 109 = .ok (.aload_n 0, 1) := by decide +kernel
theorem dX5_find_110 : decode cX5_find 110 = .ok (.getfield 9, 3) := by decide +kernel
theorem dX5_find_113 : decode cX5_find 113 = .ok (.ifCond .le 19, 3) := by decide +kernel
theorem dX5_find_116 : decode cX5_find 116 = .ok (.aload_n 0, 1) := by decide +kernel
theorem dX5_find_117 : decode cX5_find 117 = .ok (.dup, 1) := by decide +kernel
theorem dX5_find_118 : decode cX5_find 118 = .ok (.getfield 9, 3) := by decide +kernel
theorem dX5_find_121 : decode cX5_find 121 = .ok (.iconst 1, 1) := by decide +kernel
theorem dX5_find_122 : decode cX5_find 122 = .ok (.isub, 1) := by decide +kernel
theorem dX5_find_123 : decode cX5_find 123 = .ok (.putfield 9, 3) := by decide +kernel
theorem dX5_find_126 : decode cX5_find 126 = .ok (.iinc 4 5, 3) := by decide +kernel
theorem dX5_find_129 : decode cX5_find 129 = .ok (.goto (-25), 3) := by decide +kernel
theorem dX5_find_132 : decode cX5_find 132 = .ok (.return_, 1) := by decide +kernel
theorem dX6_init_0 : decode cX6_init 0 = .ok (.aload_n 0, 1) := by decide +kernel
theorem dX6_init_1 : decode cX6_init 1 = .ok (.invokespecial 3, 3) := by decide +kernel
theorem dX6_init_4 : decode cX6_init 4 = .ok (.aload_n 0, 1) := by decide +kernel
theorem dX6_init_5 : decode cX6_init 5 = .ok (.sipush 390, 3) := by decide +kernel
theorem dX6_init_8 : decode cX6_init 8 = .ok (.newarray .int, 2) := by decide +kernel
theorem dX6_init_10 : decode cX6_init 10 = .ok (.putfield 9, 3) := by decide +kernel
theorem dX6_init_13 : decode cX6_init 13 = .ok (.aload_n 0, 1) := by decide +kernel
theorem dX6_init_14 : decode cX6_init 14 = .ok (.sipush 390, 3) := by decide +kernel
theorem dX6_init_17 : decode cX6_init 17 = .ok (.newarray .int, 2) := by decide +kernel
theorem dX6_init_19 : decode cX6_init 19 = .ok (.putfield 15, 3) := by decide +kernel
theorem dX6_init_22 : decode cX6_init 22 = .ok (.aload_n 0, 1) := by decide +kernel
theorem dX6_init_23 : decode cX6_init 23 = .ok (.sipush 390, 3) := by decide +kernel
theorem dX6_init_26 : decode cX6_init 26 = .ok (.newarray .int, 2) := by decide +kernel
theorem dX6_init_28 : decode cX6_init 28 = .ok (.putfield 18, 3) := by decide +kernel
theorem dX6_init_31 : decode cX6_init 31 = .ok (.aload_n 0, 1) := by decide +kernel
theorem dX6_init_32 : decode cX6_init 32 = .ok (.sipush 1560, 3) := by decide +kernel
theorem dX6_init_35 : decode cX6_init 35 = .ok (.newarray .int, 2) := by decide +kernel
theorem dX6_init_37 : decode cX6_init 37 = .ok (.putfield 21, 3) := by decide +kernel
theorem dX6_init_40 : decode cX6_init 40 = .ok (.return_, 1) := by decide +kernel
theorem dX6_find_0 : decode cX6_find 0 = .ok (.iconst 0, 1) := by decide +kernel
theorem dX6_find_1 : decode cX6_find 1 = .ok (.istore_n 3, 1) := by decide +kernel
theorem dX6_find_2 : decode cX6_find 2 = .ok (.iload_n 3, 1) := by decide +kernel
theorem dX6_find_3 : decode cX6_find 3 = .ok (.aload_n 0, 1) := by decide +kernel
theorem dX6_find_4 : decode cX6_find 4 = .ok (.getfield 24, 3) := by decide +kernel
theorem dX6_find_7 : decode cX6_find 7 = .ok (.if_icmp .ge 31, 3) := by decide +kernel
theorem dX6_find_10 : decode cX6_find 10 = .ok (.aload_n 0, 1) := by decide +kernel
theorem dX6_find_11 : decode cX6_find 11 = .ok (.getfield 9, 3) := by decide +kernel
theorem dX6_find_14 : decode cX6_find 14 = .ok (.iload_n 3, 1) := by decide +kernel
theorem dX6_find_15 : decode cX6_find 15 = .ok (.iaload, 1) := by decide +kernel
theorem dX6_find_16 : decode cX6_find 16 = .ok (.iload_n 1, 1) := by decide +kernel
theorem dX6_find_17 : decode cX6_find 17 = .ok (.if_icmp .ne 15, 3) := by decide +kernel
theorem dX6_find_20 : decode cX6_find 20 = .ok (.aload_n 0, 1) := by decide +kernel
theorem dX6_find_21 : decode cX6_find 21 = .ok (.getfield 15, 3) := by decide +kernel
theorem dX6_find_24 : decode cX6_find 24 = .ok (.iload_n 3, 1) := by decide +kernel
theorem dX6_find_25 : decode cX6_find 25 = .ok (.iaload, 1) := by decide +kernel
theorem dX6_find_26 : decode cX6_find 26 = .ok (.iload_n 2, 1) := by decide +kernel
theorem dX6_find_27 : decode cX6_find 27 = .ok (.if_icmp .ne 5, 3) := by decide +kernel
theorem dX6_find_30 : decode cX6_find 30 = .ok (.iload_n 3, 1) := by decide +kernel
theorem dX6_find_31 : decode cX6_find 31 = .ok (.ireturn, 1) := by decide +kernel
theorem dX6_find_32 : decode cX6_find 32 = .ok (.iinc 3 1, 3) := by decide +kernel
theorem dX6_find_35 : decode cX6_find 35 = .ok (.goto (-33), 3) := by decide +kernel
theorem dX6_find_38 : decode cX6_find 38 = .ok (.iconst (-1), 1) := by decide +kernel
theorem dX6_find_39 : decode cX6_find 39 = .ok (.ireturn, 1) := by decide +kernel
theorem dX6_open_0 : decode cX6_open 0 = .ok (.aload_n 0, 1) := by decide +kernel
theorem dX6_open_1 : decode cX6_open 1 = .ok (.getfield 24, 3) := by decide +kernel
theorem dX6_open_4 : decode cX6_open 4 = .ok (.sipush 390, 3) := by decide +kernel
theorem dX6_open_7 : decode cX6_open 7 = .ok (.if_icmp .ge 73, 3) := by decide +kernel
theorem dX6_open_10 : decode cX6_open 10 = .ok (.aload_n 0, 1) := by decide +kernel
theorem dX6_open_11 : decode cX6_open 11 = .ok (.getfield 9, 3) := by decide +kernel
theorem dX6_open_14 : decode cX6_open 14 = .ok (.aload_n 0, 1) := by decide +kernel
theorem dX6_open_15 : decode cX6_open 15 = .ok (.getfield 24, 3) := by decide +kernel
theorem dX6_open_18 : decode cX6_open 18 = .ok (.iload_n 1, 1) := by decide +kernel
theorem dX6_open_19 : decode cX6_open 19 = .ok (.iastore, 1) := by decide +kernel
theorem dX6_open_20 : decode cX6_open 20 = .ok (.aload_n 0, 1) := by decide +kernel
theorem dX6_open_21 : decode cX6_open 21 = .ok (.getfield 15, 3) := by decide +kernel
theorem dX6_open_24 : decode cX6_open 24 = .ok (.aload_n 0, 1) := by decide +kernel
theorem dX6_open_25 : decode cX6_open 25 = .ok (.getfield 24, 3) := by decide +kernel
theorem dX6_open_28 : decode cX6_open 28 = .ok (.iload_n 2, 1) := by decide +kernel
theorem dX6_open_29 : decode cX6_open 29 = .ok (.iastore, 1) := by decide +kernel
theorem dX6_open_30 : decode cX6_open 30 = .ok (.aload_n 0, 1) := by decide +kernel
theorem dX6_open_31 : decode cX6_open 31 = .ok (.getfield 18, 3) := by decide +kernel
theorem dX6_open_34 : decode cX6_open 34 = .ok (.aload_n 0, 1) := by decide +kernel
theorem dX6_open_35 : decode cX6_open 35 = .ok (.getfield 24, 3) := by decide +kernel
theorem dX6_open_38 : decode cX6_open 38 = .ok (.iload_n 3, 1) := by decide +kernel
theorem dX6_open_39 : decode cX6_open 39 = .ok (.iastore, 1) := by decide +kernel
theorem dX6_open_40 : decode cX6_open 40 = .ok (.iconst 0, 1) := by decide +kernel
theorem dX6_open_41 : decode cX6_open 41 = .ok (.istore 4, 2) := by decide +kernel
theorem dX6_open_43 : decode cX6_open 43 = .ok (.iload 4, 2) := by decide +kernel
theorem dX6_open_45 : decode cX6_open 45 = .ok (.iconst 4, 1) := by decide +kernel
theorem dX6_open_46 : decode cX6_open 46 = .ok (.if_icmp .ge 24, 3) := by decide +kernel
theorem dX6_open_49 : decode cX6_open 49 = .ok (.aload_n 0, 1) := by decide +kernel
theorem dX6_open_50 : decode cX6_open 50 = .ok (.getfield 21, 3) := by decide +kernel
theorem dX6_open_53 : decode cX6_open 53 = .ok (.aload_n 0, 1) := by decide +kernel
theorem dX6_open_54 : decode cX6_open 54 = .ok (.getfield 24, 3) := by decide +kernel
theorem dX6_open_57 : decode cX6_open 57 = .ok (.iconst 4, 1) := by decide +kernel
theorem dX6_open_58 : decode cX6_open 58 = .ok (.imul, 1) := by decide +kernel
theorem dX6_open_59 : decode cX6_open 59 = .ok (.iload 4, 2) := by decide +kernel
theorem dX6_open_61 : decode cX6_open 61 = .ok (.iadd, 1) := by decide +kernel
theorem dX6_open_62 : decode cX6_open 62 = .ok (.iconst (-1), 1) := by decide +kernel
theorem dX6_open_63 : decode cX6_open 63 = .ok (.iastore, 1) := by decide +kernel
theorem dX6_open_64 : decode cX6_open 64 = .ok (.iinc 4 1, 3) := by decide +kernel
theorem dX6_open_67 : decode cX6_open 67 = .ok (.goto (-24), 3) := by decide +kernel
theorem dX6_open_70 : decode cX6_open 70 = .ok (.aload_n 0, 1) := by decide +kernel
theorem dX6_open_71 : decode cX6_open 71 = .ok (.dup, 1) := by decide +kernel
theorem dX6_open_72 : decode cX6_open 72 = .ok (.getfield 24, 3) := by decide +kernel
theorem dX6_open_75 : decode cX6_open 75 = .ok (.iconst 1, 1) := by decide +kernel
theorem dX6_open_76 : decode cX6_open 76 = .ok (.iadd, 1) := by decide +kernel
theorem dX6_open_77 : decode cX6_open 77 = .ok (.putfield 24, 3) := by decide +kernel
theorem dX6_open_80 : decode cX6_open 80 = .ok (.return_, 1) := by decide +kernel
theorem dX6_hear_0 : decode cX6_hear 0 = .ok (.iload_n 1, 1) := by decide +kernel
theorem dX6_hear_1 : decode cX6_hear 1 = .ok (.ifCond .lt 36, 3) := by decide +kernel
theorem dX6_hear_4 : decode cX6_hear 4 = .ok (.iload_n 1, 1) := by decide +kernel
theorem dX6_hear_5 : decode cX6_hear 5 = .ok (.aload_n 0, 1) := by decide +kernel
theorem dX6_hear_6 : decode cX6_hear 6 = .ok (.getfield 24, 3) := by decide +kernel
theorem dX6_hear_9 : decode cX6_hear 9 = .ok (.if_icmp .ge 28, 3) := by decide +kernel
theorem dX6_hear_12 : decode cX6_hear 12 = .ok (.iload_n 1, 1) := by decide +kernel
theorem dX6_hear_13 : decode cX6_hear 13 = .ok (.iconst 4, 1) := by decide +kernel
theorem dX6_hear_14 : decode cX6_hear 14 = .ok (.imul, 1) := by decide +kernel
theorem dX6_hear_15 : decode cX6_hear 15 = .ok (.iload_n 2, 1) := by decide +kernel
theorem dX6_hear_16 : decode cX6_hear 16 = .ok (.iadd, 1) := by decide +kernel
theorem dX6_hear_17 : decode cX6_hear 17 = .ok (.istore 4, 2) := by decide +kernel
theorem dX6_hear_19 : decode cX6_hear 19 = .ok (.aload_n 0, 1) := by decide +kernel
theorem dX6_hear_20 : decode cX6_hear 20 = .ok (.getfield 21, 3) := by decide +kernel
theorem dX6_hear_23 : decode cX6_hear 23 = .ok (.iload 4, 2) := by decide +kernel
theorem dX6_hear_25 : decode cX6_hear 25 = .ok (.aload_n 0, 1) := by decide +kernel
theorem dX6_hear_26 : decode cX6_hear 26 = .ok (.getfield 21, 3) := by decide +kernel
theorem dX6_hear_29 : decode cX6_hear 29 = .ok (.iload 4, 2) := by decide +kernel
theorem dX6_hear_31 : decode cX6_hear 31 = .ok (.iaload, 1) := by decide +kernel
theorem dX6_hear_32 : decode cX6_hear 32 = .ok (.iload_n 3, 1) := by decide +kernel
theorem dX6_hear_33 : decode cX6_hear 33 = .ok (.invokestatic 28, 3) := by decide +kernel
theorem dX6_hear_36 : decode cX6_hear 36 = .ok (.iastore, 1) := by decide +kernel
theorem dX6_hear_37 : decode cX6_hear 37 = .ok (.return_, 1) := by decide +kernel
theorem dX6_heardAt_0 : decode cX6_heardAt 0 = .ok (.aload_n 0, 1) := by decide +kernel
theorem dX6_heardAt_1 : decode cX6_heardAt 1 = .ok (.getfield 21, 3) := by decide +kernel
theorem dX6_heardAt_4 : decode cX6_heardAt 4 = .ok (.iload_n 1, 1) := by decide +kernel
theorem dX6_heardAt_5 : decode cX6_heardAt 5 = .ok (.iconst 4, 1) := by decide +kernel
theorem dX6_heardAt_6 : decode cX6_heardAt 6 = .ok (.imul, 1) := by decide +kernel
theorem dX6_heardAt_7 : decode cX6_heardAt 7 = .ok (.iload_n 2, 1) := by decide +kernel
theorem dX6_heardAt_8 : decode cX6_heardAt 8 = .ok (.iadd, 1) := by decide +kernel
theorem dX6_heardAt_9 : decode cX6_heardAt 9 = .ok (.iaload, 1) := by decide +kernel
theorem dX6_heardAt_10 : decode cX6_heardAt 10 = .ok (.ireturn, 1) := by decide +kernel
theorem dX6_bestGate_0 : decode cX6_bestGate 0 = .ok (.iconst 0, 1) := by decide +kernel
theorem dX6_bestGate_1 : decode cX6_bestGate 1 = .ok (.istore_n 2, 1) := by decide +kernel
theorem dX6_bestGate_2 : decode cX6_bestGate 2 = .ok (.iconst 1, 1) := by decide +kernel
theorem dX6_bestGate_3 : decode cX6_bestGate 3 = .ok (.istore_n 3, 1) := by decide +kernel
theorem dX6_bestGate_4 : decode cX6_bestGate 4 = .ok (.iload_n 3, 1) := by decide +kernel
theorem dX6_bestGate_5 : decode cX6_bestGate 5 = .ok (.iconst 4, 1) := by decide +kernel
theorem dX6_bestGate_6 : decode cX6_bestGate 6 = .ok (.if_icmp .ge 26, 3) := by decide +kernel
theorem dX6_bestGate_9 : decode cX6_bestGate 9 = .ok (.aload_n 0, 1) := by decide +kernel
theorem dX6_bestGate_10 : decode cX6_bestGate 10 = .ok (.iload_n 1, 1) := by decide +kernel
theorem dX6_bestGate_11 : decode cX6_bestGate 11 = .ok (.iload_n 3, 1) := by decide +kernel
theorem dX6_bestGate_12 : decode cX6_bestGate 12 = .ok (.invokevirtual 34, 3) := by decide +kernel
theorem dX6_bestGate_15 : decode cX6_bestGate 15 = .ok (.aload_n 0, 1) := by decide +kernel
theorem dX6_bestGate_16 : decode cX6_bestGate 16 = .ok (.iload_n 1, 1) := by decide +kernel
theorem dX6_bestGate_17 : decode cX6_bestGate 17 = .ok (.iload_n 2, 1) := by decide +kernel
theorem dX6_bestGate_18 : decode cX6_bestGate 18 = .ok (.invokevirtual 34, 3) := by decide +kernel
theorem dX6_bestGate_21 : decode cX6_bestGate 21 = .ok (.if_icmp .le 5, 3) := by decide +kernel
theorem dX6_bestGate_24 : decode cX6_bestGate 24 = .ok (.iload_n 3, 1) := by decide +kernel
theorem dX6_bestGate_25 : decode cX6_bestGate 25 = .ok (.istore_n 2, 1) := by decide +kernel
theorem dX6_bestGate_26 : decode cX6_bestGate 26 = .ok (.iinc 3 1, 3) := by decide +kernel
theorem dX6_bestGate_29 : decode cX6_bestGate 29 = .ok (.goto (-25), 3) := by decide +kernel
theorem dX6_bestGate_32 : decode cX6_bestGate 32 = .ok (.iload_n 2, 1) := by decide +kernel
theorem dX6_bestGate_33 : decode cX6_bestGate 33 = .ok (.ireturn, 1) := by decide +kernel
theorem dX6_dropFirst_0 : decode cX6_dropFirst 0 = .ok (.aload_n 0, 1) := by decide +kernel
theorem dX6_dropFirst_1 : decode cX6_dropFirst 1 = .ok (.getfield 24, 3) := by decide +kernel
theorem dX6_dropFirst_4 : decode cX6_dropFirst 4 = .ok (.iload_n 1, 1) := by decide +kernel
theorem dX6_dropFirst_5 : decode cX6_dropFirst 5 = .ok (.isub, 1) := by decide +kernel
theorem dX6_dropFirst_6 : decode cX6_dropFirst 6 = .ok (.istore_n 2, 1) := by decide +kernel
theorem dX6_dropFirst_7 : decode cX6_dropFirst 7 = .ok (.iload_n 1, 1) := by decide +kernel
theorem dX6_dropFirst_8 : decode cX6_dropFirst 8 = .ok (.ifCond .le 72, 3) := by decide +kernel
theorem dX6_dropFirst_11 : decode cX6_dropFirst 11 = .ok (.iload_n 2, 1) := by decide +kernel
theorem dX6_dropFirst_12 : decode cX6_dropFirst 12 = .ok (.ifCond .lt 68, 3) := by decide +kernel
theorem dX6_dropFirst_15 : decode cX6_dropFirst 15 = .ok (.aload_n 0, 1) := by decide +kernel
theorem dX6_dropFirst_16 : decode cX6_dropFirst 16 = .ok (.getfield 9, 3) := by decide +kernel
theorem dX6_dropFirst_19 : decode cX6_dropFirst 19 = .ok (.iload_n 1, 1) := by decide +kernel
theorem dX6_dropFirst_20 : decode cX6_dropFirst 20 = .ok (.aload_n 0, 1) := by decide +kernel
theorem dX6_dropFirst_21 : decode cX6_dropFirst 21 = .ok (.getfield 9, 3) := by decide +kernel
theorem dX6_dropFirst_24 : decode cX6_dropFirst 24 = .ok (.iconst 0, 1) := by decide +kernel
theorem dX6_dropFirst_25 : decode cX6_dropFirst 25 = .ok (.iload_n 2, 1) := by decide +kernel
theorem dX6_dropFirst_26 : decode cX6_dropFirst 26 = .ok (.invokestatic 37, 3) := by decide +kernel
theorem dX6_dropFirst_29 : decode cX6_dropFirst 29 = .ok (.aload_n 0, 1) := by decide +kernel
theorem dX6_dropFirst_30 : decode cX6_dropFirst 30 = .ok (.getfield 15, 3) := by decide +kernel
theorem dX6_dropFirst_33 : decode cX6_dropFirst 33 = .ok (.iload_n 1, 1) := by decide +kernel
theorem dX6_dropFirst_34 : decode cX6_dropFirst 34 = .ok (.aload_n 0, 1) := by decide +kernel
theorem dX6_dropFirst_35 : decode cX6_dropFirst 35 = .ok (.getfield 15, 3) := by decide +kernel
theorem dX6_dropFirst_38 : decode cX6_dropFirst 38 = .ok (.iconst 0, 1) := by decide +kernel
theorem dX6_dropFirst_39 : decode cX6_dropFirst 39 = .ok (.iload_n 2, 1) := by decide +kernel
theorem dX6_dropFirst_40 : decode cX6_dropFirst 40 = .ok (.invokestatic 37, 3) := by decide +kernel
theorem dX6_dropFirst_43 : decode cX6_dropFirst 43 = .ok (.aload_n 0, 1) := by decide +kernel
theorem dX6_dropFirst_44 : decode cX6_dropFirst 44 = .ok (.getfield 18, 3) := by decide +kernel
theorem dX6_dropFirst_47 : decode cX6_dropFirst 47 = .ok (.iload_n 1, 1) := by decide +kernel
theorem dX6_dropFirst_48 : decode cX6_dropFirst 48 = .ok (.aload_n 0, 1) := by decide +kernel
theorem dX6_dropFirst_49 : decode cX6_dropFirst 49 = .ok (.getfield 18, 3) := by decide +kernel
theorem dX6_dropFirst_52 : decode cX6_dropFirst 52 = .ok (.iconst 0, 1) := by decide +kernel
theorem dX6_dropFirst_53 : decode cX6_dropFirst 53 = .ok (.iload_n 2, 1) := by decide +kernel
theorem dX6_dropFirst_54 : decode cX6_dropFirst 54 = .ok (.invokestatic 37, 3) := by decide +kernel
theorem dX6_dropFirst_57 : decode cX6_dropFirst 57 = .ok (.aload_n 0, 1) := by decide +kernel
theorem dX6_dropFirst_58 : decode cX6_dropFirst 58 = .ok (.getfield 21, 3) := by decide +kernel
theorem dX6_dropFirst_61 : decode cX6_dropFirst 61 = .ok (.iload_n 1, 1) := by decide +kernel
theorem dX6_dropFirst_62 : decode cX6_dropFirst 62 = .ok (.iconst 4, 1) := by decide +kernel
theorem dX6_dropFirst_63 : decode cX6_dropFirst 63 = .ok (.imul, 1) := by decide +kernel
theorem dX6_dropFirst_64 : decode cX6_dropFirst 64 = .ok (.aload_n 0, 1) := by decide +kernel
theorem dX6_dropFirst_65 : decode cX6_dropFirst 65 = .ok (.getfield 21, 3) := by decide +kernel
theorem dX6_dropFirst_68 : decode cX6_dropFirst 68 = .ok (.iconst 0, 1) := by decide +kernel
theorem dX6_dropFirst_69 : decode cX6_dropFirst 69 = .ok (.iload_n 2, 1) := by decide +kernel
theorem dX6_dropFirst_70 : decode cX6_dropFirst 70 = .ok (.iconst 4, 1) := by decide +kernel
theorem dX6_dropFirst_71 : decode cX6_dropFirst 71 = .ok (.imul, 1) := by decide +kernel
theorem dX6_dropFirst_72 : decode cX6_dropFirst 72 = .ok (.invokestatic 37, 3) := by decide +kernel
theorem dX6_dropFirst_75 : decode cX6_dropFirst 75 = .ok (.aload_n 0, 1) := by decide +kernel
theorem dX6_dropFirst_76 : decode cX6_dropFirst 76 = .ok (.iload_n 2, 1) := by decide +kernel
theorem dX6_dropFirst_77 : decode cX6_dropFirst 77 = .ok (.putfield 24, 3) := by decide +kernel
theorem dX6_dropFirst_80 : decode cX6_dropFirst 80 = .ok (.return_, 1) := by decide +kernel
theorem dX6_value_0 : decode cX6_value 0 = .ok (.iload_n 2, 1) := by decide +kernel
theorem dX6_value_1 : decode cX6_value 1 = .ok (.lookupswitch 41 #[(0, 27), (1, 34)], 27) := by decide +kernel
theorem dX6_value_28 : decode cX6_value 28 = .ok (.aload_n 0, 1) := by decide +kernel
theorem dX6_value_29 : decode cX6_value 29 = .ok (.getfield 9, 3) := by decide +kernel
theorem dX6_value_32 : decode cX6_value 32 = .ok (.iload_n 1, 1) := by decide +kernel
theorem dX6_value_33 : decode cX6_value 33 = .ok (.iaload, 1) := by decide +kernel
theorem dX6_value_34 : decode cX6_value 34 = .ok (.ireturn, 1) := by decide +kernel
theorem dX6_value_35 : decode cX6_value 35 = .ok (.aload_n 0, 1) := by decide +kernel
theorem dX6_value_36 : decode cX6_value 36 = .ok (.getfield 15, 3) := by decide +kernel
theorem dX6_value_39 : decode cX6_value 39 = .ok (.iload_n 1, 1) := by decide +kernel
theorem dX6_value_40 : decode cX6_value 40 = .ok (.iaload, 1) := by decide +kernel
theorem dX6_value_41 : decode cX6_value 41 = .ok (.ireturn, 1) := by decide +kernel
theorem dX6_value_42 : decode cX6_value 42 = .ok (.aload_n 0, 1) := by decide +kernel
theorem dX6_value_43 : decode cX6_value 43 = .ok (.iload_n 1, 1) := by decide +kernel
theorem dX6_value_44 : decode cX6_value 44 = .ok (.invokevirtual 43, 3) := by decide +kernel
theorem dX6_value_47 : decode cX6_value 47 = .ok (.ireturn, 1) := by decide +kernel
theorem dX6_gateBits_0 : decode cX6_gateBits 0 = .ok (.iconst 0, 1) := by decide +kernel
theorem dX6_gateBits_1 : decode cX6_gateBits 1 = .ok (.istore_n 2, 1) := by decide +kernel
theorem dX6_gateBits_2 : decode cX6_gateBits 2 = .ok (.iconst 0, 1) := by decide +kernel
theorem dX6_gateBits_3 : decode cX6_gateBits 3 = .ok (.istore_n 3, 1) := by decide +kernel
theorem dX6_gateBits_4 : decode cX6_gateBits 4 = .ok (.iload_n 3, 1) := by decide +kernel
theorem dX6_gateBits_5 : decode cX6_gateBits 5 = .ok (.iconst 4, 1) := by decide +kernel
theorem dX6_gateBits_6 : decode cX6_gateBits 6 = .ok (.if_icmp .ge 25, 3) := by decide +kernel
theorem dX6_gateBits_9 : decode cX6_gateBits 9 = .ok (.aload_n 0, 1) := by decide +kernel
theorem dX6_gateBits_10 : decode cX6_gateBits 10 = .ok (.iload_n 1, 1) := by decide +kernel
theorem dX6_gateBits_11 : decode cX6_gateBits 11 = .ok (.iload_n 3, 1) := by decide +kernel
theorem dX6_gateBits_12 : decode cX6_gateBits 12 = .ok (.invokevirtual 34, 3) := by decide +kernel
theorem dX6_gateBits_15 : decode cX6_gateBits 15 = .ok (.iconst (-1), 1) := by decide +kernel
theorem dX6_gateBits_16 : decode cX6_gateBits 16 = .ok (.if_icmp .eq 9, 3) := by decide +kernel
theorem dX6_gateBits_19 : decode cX6_gateBits 19 = .ok (.iload_n 2, 1) := by decide +kernel
theorem dX6_gateBits_20 : decode cX6_gateBits 20 = .ok (.iconst 1, 1) := by decide +kernel
theorem dX6_gateBits_21 : decode cX6_gateBits 21 = .ok (.iload_n 3, 1) := by decide +kernel
theorem dX6_gateBits_22 : decode cX6_gateBits 22 = .ok (.ishl, 1) := by decide +kernel
theorem dX6_gateBits_23 : decode cX6_gateBits 23 = .ok (.ior, 1) := by decide +kernel
theorem dX6_gateBits_24 : decode cX6_gateBits 24 = .ok (.istore_n 2, 1) := by decide +kernel
theorem dX6_gateBits_25 : decode cX6_gateBits 25 = .ok (.iinc 3 1, 3) := by decide +kernel
theorem dX6_gateBits_28 : decode cX6_gateBits 28 = .ok (.goto (-24), 3) := by decide +kernel
theorem dX6_gateBits_31 : decode cX6_gateBits 31 = .ok (.iload_n 2, 1) := by decide +kernel
theorem dX6_gateBits_32 : decode cX6_gateBits 32 = .ok (.ireturn, 1) := by decide +kernel
theorem dX7_init_0 : decode cX7_init 0 = .ok (.aload_n 0, 1) := by decide +kernel
theorem dX7_init_1 : decode cX7_init 1 = .ok (.invokespecial 3, 3) := by decide +kernel
theorem dX7_init_4 : decode cX7_init 4 = .ok (.aload_n 0, 1) := by decide +kernel
theorem dX7_init_5 : decode cX7_init 5 = .ok (.new 9, 3) := by decide +kernel
theorem dX7_init_8 : decode cX7_init 8 = .ok (.dup, 1) := by decide +kernel
theorem dX7_init_9 : decode cX7_init 9 = .ok (.invokespecial 11, 3) := by decide +kernel
theorem dX7_init_12 : decode cX7_init 12 = .ok (.putfield 12, 3) := by decide +kernel
theorem dX7_init_15 : decode cX7_init 15 = .ok (.aload_n 0, 1) := by decide +kernel
theorem dX7_init_16 : decode cX7_init 16 = .ok (.new 16, 3) := by decide +kernel
theorem dX7_init_19 : decode cX7_init 19 = .ok (.dup, 1) := by decide +kernel
theorem dX7_init_20 : decode cX7_init 20 = .ok (.invokespecial 18, 3) := by decide +kernel
theorem dX7_init_23 : decode cX7_init 23 = .ok (.putfield 19, 3) := by decide +kernel
theorem dX7_init_26 : decode cX7_init 26 = .ok (.aload_n 0, 1) := by decide +kernel
theorem dX7_init_27 : decode cX7_init 27 = .ok (.getfield 12, 3) := by decide +kernel
theorem dX7_init_30 : decode cX7_init 30 = .ok (.invokevirtual 23, 3) := by decide +kernel
theorem dX7_init_33 : decode cX7_init 33 = .ok (.return_, 1) := by decide +kernel
theorem dX7_sets_0 : decode cX7_sets 0 = .ok (.iload_n 1, 1) := by decide +kernel
theorem dX7_sets_1 : decode cX7_sets 1 = .ok (.ifCond .lt 21, 3) := by decide +kernel
theorem dX7_sets_4 : decode cX7_sets 4 = .ok (.iload_n 1, 1) := by decide +kernel
theorem dX7_sets_5 : decode cX7_sets 5 = .ok (.iconst 2, 1) := by decide +kernel
theorem dX7_sets_6 : decode cX7_sets 6 = .ok (.if_icmp .gt 16, 3) := by decide +kernel
theorem dX7_sets_9 : decode cX7_sets 9 = .ok (.iload_n 2, 1) := by decide +kernel
theorem dX7_sets_10 : decode cX7_sets 10 = .ok (.iconst 1, 1) := by decide +kernel
theorem dX7_sets_11 : decode cX7_sets 11 = .ok (.if_icmp .lt 11, 3) := by decide +kernel
theorem dX7_sets_14 : decode cX7_sets 14 = .ok (.iload_n 2, 1) := by decide +kernel
theorem dX7_sets_15 : decode cX7_sets 15 = .ok (.iload_n 1, 1) := by decide +kernel
theorem dX7_sets_16 : decode cX7_sets 16 = .ok (.invokestatic 26, 3) := by decide +kernel
theorem dX7_sets_19 : decode cX7_sets 19 = .ok (.if_icmp .le 8, 3) := by decide +kernel
theorem dX7_sets_22 : decode cX7_sets 22 = .ok (.aload_n 0, 1) := by decide +kernel
theorem dX7_sets_23 : decode cX7_sets 23 = .ok (.invokevirtual 30, 3) := by decide +kernel
theorem dX7_sets_26 : decode cX7_sets 26 = .ok (.ireturn, 1) := by decide +kernel
theorem dX7_sets_27 : decode cX7_sets 27 = .ok (.aload_n 0, 1) := by decide +kernel
theorem dX7_sets_28 : decode cX7_sets 28 = .ok (.iload_n 1, 1) := by decide +kernel
theorem dX7_sets_29 : decode cX7_sets 29 = .ok (.invokevirtual 34, 3) := by decide +kernel
theorem dX7_sets_32 : decode cX7_sets 32 = .ok (.istore_n 3, 1) := by decide +kernel
theorem dX7_sets_33 : decode cX7_sets 33 = .ok (.iload_n 1, 1) := by decide +kernel
theorem dX7_sets_34 : decode cX7_sets 34 = .ok (.ifCond .ne 14, 3) := by decide +kernel
theorem dX7_sets_37 : decode cX7_sets 37 = .ok (.aload_n 0, 1) := by decide +kernel
theorem dX7_sets_38 : decode cX7_sets 38 = .ok (.getfield 12, 3) := by decide +kernel
theorem dX7_sets_41 : decode cX7_sets 41 = .ok (.iload_n 2, 1) := by decide +kernel
theorem dX7_sets_42 : decode cX7_sets 42 = .ok (.putfield 37, 3) := by decide +kernel
theorem dX7_sets_45 : decode cX7_sets 45 = .ok (.goto 27, 3) := by decide +kernel
theorem dX7_sets_48 : decode cX7_sets 48 = .ok (.iload_n 1, 1) := by decide +kernel
theorem dX7_sets_49 : decode cX7_sets 49 = .ok (.iconst 1, 1) := by decide +kernel
theorem dX7_sets_50 : decode cX7_sets 50 = .ok (.if_icmp .ne 14, 3) := by decide +kernel
theorem dX7_sets_53 : decode cX7_sets 53 = .ok (.aload_n 0, 1) := by decide +kernel
theorem dX7_sets_54 : decode cX7_sets 54 = .ok (.getfield 12, 3) := by decide +kernel
theorem dX7_sets_57 : decode cX7_sets 57 = .ok (.iload_n 2, 1) := by decide +kernel
theorem dX7_sets_58 : decode cX7_sets 58 = .ok (.putfield 41, 3) := by decide +kernel
theorem dX7_sets_61 : decode cX7_sets 61 = .ok (.goto 11, 3) := by decide +kernel
theorem dX7_sets_64 : decode cX7_sets 64 = .ok (.aload_n 0, 1) := by decide +kernel
theorem dX7_sets_65 : decode cX7_sets 65 = .ok (.getfield 12, 3) := by decide +kernel
theorem dX7_sets_68 : decode cX7_sets 68 = .ok (.iload_n 2, 1) := by decide +kernel
theorem dX7_sets_69 : decode cX7_sets 69 = .ok (.putfield 44, 3) := by decide +kernel
theorem dX7_sets_72 : decode cX7_sets 72 = .ok (.aload_n 0, 1) := by decide +kernel
theorem dX7_sets_73 : decode cX7_sets 73 = .ok (.getfield 12, 3) := by decide +kernel
theorem dX7_sets_76 : decode cX7_sets 76 = .ok (.invokevirtual 23, 3) := by decide +kernel
theorem dX7_sets_79 : decode cX7_sets 79 = .ok (.iload_n 3, 1) := by decide +kernel
theorem dX7_sets_80 : decode cX7_sets 80 = .ok (.ireturn, 1) := by decide +kernel
theorem dX7_gate_0 : decode cX7_gate 0 = .ok (.aload_n 0, 1) := by decide +kernel
theorem dX7_gate_1 : decode cX7_gate 1 = .ok (.iload_n 1, 1) := by decide +kernel
theorem dX7_gate_2 : decode cX7_gate 2 = .ok (.invokevirtual 47, 3) := by decide +kernel
theorem dX7_gate_5 : decode cX7_gate 5 = .ok (.ifCond .eq 30, 3) := by decide +kernel
theorem dX7_gate_8 : decode cX7_gate 8 = .ok (.iload_n 2, 1) := by decide +kernel
theorem dX7_gate_9 : decode cX7_gate 9 = .ok (.ifCond .lt 26, 3) := by decide +kernel
theorem dX7_gate_12 : decode cX7_gate 12 = .ok (.iload_n 2, 1) := by decide +kernel
theorem dX7_gate_13 : decode cX7_gate 13 = .ok (.iconst 1, 1) := by decide +kernel
theorem dX7_gate_14 : decode cX7_gate 14 = .ok (.if_icmp .gt 21, 3) := by decide +kernel
theorem dX7_gate_17 : decode cX7_gate 17 = .ok (.iload_n 3, 1) := by decide +kernel
theorem dX7_gate_18 : decode cX7_gate 18 = .ok (.ifCond .lt 17, 3) := by decide +kernel
theorem dX7_gate_21 : decode cX7_gate 21 = .ok (.iload_n 3, 1) := by decide +kernel
theorem dX7_gate_22 : decode cX7_gate 22 = .ok (.iload_n 2, 1) := by decide +kernel
theorem dX7_gate_23 : decode cX7_gate 23 = .ok (.ifCond .ne 7, 3) := by decide +kernel
theorem dX7_gate_26 : decode cX7_gate 26 = .ok (.iconst 5, 1) := by decide +kernel
theorem dX7_gate_27 : decode cX7_gate 27 = .ok (.goto 5, 3) := by decide +kernel
theorem dX7_gate_30 : decode cX7_gate 30 = .ok (.bipush 40, 2) := by decide +kernel
theorem dX7_gate_32 : decode cX7_gate 32 = .ok (.if_icmp .le 8, 3) := by decide +kernel
theorem dX7_gate_35 : decode cX7_gate 35 = .ok (.aload_n 0, 1) := by decide +kernel
theorem dX7_gate_36 : decode cX7_gate 36 = .ok (.invokevirtual 30, 3) := by decide +kernel
theorem dX7_gate_39 : decode cX7_gate 39 = .ok (.ireturn, 1) := by decide +kernel
theorem dX7_gate_40 : decode cX7_gate 40 = .ok (.aload_n 0, 1) := by decide +kernel
theorem dX7_gate_41 : decode cX7_gate 41 = .ok (.getfield 12, 3) := by decide +kernel
theorem dX7_gate_44 : decode cX7_gate 44 = .ok (.getfield 51, 3) := by decide +kernel
theorem dX7_gate_47 : decode cX7_gate 47 = .ok (.iload_n 1, 1) := by decide +kernel
theorem dX7_gate_48 : decode cX7_gate 48 = .ok (.aaload, 1) := by decide +kernel
theorem dX7_gate_49 : decode cX7_gate 49 = .ok (.astore 4, 2) := by decide +kernel
theorem dX7_gate_51 : decode cX7_gate 51 = .ok (.iload_n 2, 1) := by decide +kernel
theorem dX7_gate_52 : decode cX7_gate 52 = .ok (.ifCond .ne 11, 3) := by decide +kernel
theorem dX7_gate_55 : decode cX7_gate 55 = .ok (.aload 4, 2) := by decide +kernel
theorem dX7_gate_57 : decode cX7_gate 57 = .ok (.getfield 55, 3) := by decide +kernel
theorem dX7_gate_60 : decode cX7_gate 60 = .ok (.goto 8, 3) := by decide +kernel
theorem dX7_gate_63 : decode cX7_gate 63 = .ok (.aload 4, 2) := by decide +kernel
theorem dX7_gate_65 : decode cX7_gate 65 = .ok (.getfield 60, 3) := by decide +kernel
theorem dX7_gate_68 : decode cX7_gate 68 = .ok (.istore 5, 2) := by decide +kernel
theorem dX7_gate_70 : decode cX7_gate 70 = .ok (.iload_n 2, 1) := by decide +kernel
theorem dX7_gate_71 : decode cX7_gate 71 = .ok (.ifCond .ne 12, 3) := by decide +kernel
theorem dX7_gate_74 : decode cX7_gate 74 = .ok (.aload 4, 2) := by decide +kernel
theorem dX7_gate_76 : decode cX7_gate 76 = .ok (.iload_n 3, 1) := by decide +kernel
theorem dX7_gate_77 : decode cX7_gate 77 = .ok (.putfield 55, 3) := by decide +kernel
theorem dX7_gate_80 : decode cX7_gate 80 = .ok (.goto 9, 3) := by decide +kernel
theorem dX7_gate_83 : decode cX7_gate 83 = .ok (.aload 4, 2) := by decide +kernel
theorem dX7_gate_85 : decode cX7_gate 85 = .ok (.iload_n 3, 1) := by decide +kernel
theorem dX7_gate_86 : decode cX7_gate 86 = .ok (.putfield 60, 3) := by decide +kernel
theorem dX7_gate_89 : decode cX7_gate 89 = .ok (.iload 5, 2) := by decide +kernel
theorem dX7_gate_91 : decode cX7_gate 91 = .ok (.ireturn, 1) := by decide +kernel
theorem dX7_gain_0 : decode cX7_gain 0 = .ok (.aload_n 0, 1) := by decide +kernel
theorem dX7_gain_1 : decode cX7_gain 1 = .ok (.iload_n 1, 1) := by decide +kernel
theorem dX7_gain_2 : decode cX7_gain 2 = .ok (.invokevirtual 63, 3) := by decide +kernel
theorem dX7_gain_5 : decode cX7_gain 5 = .ok (.ifCond .eq 21, 3) := by decide +kernel
theorem dX7_gain_8 : decode cX7_gain 8 = .ok (.aload_n 0, 1) := by decide +kernel
theorem dX7_gain_9 : decode cX7_gain 9 = .ok (.iload_n 2, 1) := by decide +kernel
theorem dX7_gain_10 : decode cX7_gain 10 = .ok (.invokevirtual 47, 3) := by decide +kernel
theorem dX7_gain_13 : decode cX7_gain 13 = .ok (.ifCond .eq 13, 3) := by decide +kernel
theorem dX7_gain_16 : decode cX7_gain 16 = .ok (.iload_n 3, 1) := by decide +kernel
theorem dX7_gain_17 : decode cX7_gain 17 = .ok (.ifCond .lt 9, 3) := by decide +kernel
theorem dX7_gain_20 : decode cX7_gain 20 = .ok (.iload_n 3, 1) := by decide +kernel
theorem dX7_gain_21 : decode cX7_gain 21 = .ok (.bipush 60, 2) := by decide +kernel
theorem dX7_gain_23 : decode cX7_gain 23 = .ok (.if_icmp .le 8, 3) := by decide +kernel
theorem dX7_gain_26 : decode cX7_gain 26 = .ok (.aload_n 0, 1) := by decide +kernel
theorem dX7_gain_27 : decode cX7_gain 27 = .ok (.invokevirtual 30, 3) := by decide +kernel
theorem dX7_gain_30 : decode cX7_gain 30 = .ok (.ireturn, 1) := by decide +kernel
theorem dX7_gain_31 : decode cX7_gain 31 = .ok (.aload_n 0, 1) := by decide +kernel
theorem dX7_gain_32 : decode cX7_gain 32 = .ok (.getfield 12, 3) := by decide +kernel
theorem dX7_gain_35 : decode cX7_gain 35 = .ok (.getfield 66, 3) := by decide +kernel
theorem dX7_gain_38 : decode cX7_gain 38 = .ok (.iload_n 1, 1) := by decide +kernel
theorem dX7_gain_39 : decode cX7_gain 39 = .ok (.aaload, 1) := by decide +kernel
theorem dX7_gain_40 : decode cX7_gain 40 = .ok (.iload_n 2, 1) := by decide +kernel
theorem dX7_gain_41 : decode cX7_gain 41 = .ok (.iaload, 1) := by decide +kernel
theorem dX7_gain_42 : decode cX7_gain 42 = .ok (.istore 4, 2) := by decide +kernel
theorem dX7_gain_44 : decode cX7_gain 44 = .ok (.aload_n 0, 1) := by decide +kernel
theorem dX7_gain_45 : decode cX7_gain 45 = .ok (.getfield 12, 3) := by decide +kernel
theorem dX7_gain_48 : decode cX7_gain 48 = .ok (.getfield 66, 3) := by decide +kernel
theorem dX7_gain_51 : decode cX7_gain 51 = .ok (.iload_n 1, 1) := by decide +kernel
theorem dX7_gain_52 : decode cX7_gain 52 = .ok (.aaload, 1) := by decide +kernel
theorem dX7_gain_53 : decode cX7_gain 53 = .ok (.iload_n 2, 1) := by decide +kernel
theorem dX7_gain_54 : decode cX7_gain 54 = .ok (.iload_n 3, 1) := by decide +kernel
theorem dX7_gain_55 : decode cX7_gain 55 = .ok (.iastore, 1) := by decide +kernel
theorem dX7_gain_56 : decode cX7_gain 56 = .ok (.iload 4, 2) := by decide +kernel
theorem dX7_gain_58 : decode cX7_gain 58 = .ok (.ireturn, 1) := by decide +kernel
theorem dX7_draw_0 : decode cX7_draw 0 = .ok (.iload_n 1, 1) := by decide +kernel
theorem dX7_draw_1 : decode cX7_draw 1 = .ok (.ifCond .lt 9, 3) := by decide +kernel
theorem dX7_draw_4 : decode cX7_draw 4 = .ok (.iload_n 1, 1) := by decide +kernel
theorem dX7_draw_5 : decode cX7_draw 5 = .ok (.ldc 70, 2) := by decide +kernel
theorem dX7_draw_7 : decode cX7_draw 7 = .ok (.if_icmp .le 8, 3) := by decide +kernel
theorem dX7_draw_10 : decode cX7_draw 10 = .ok (.aload_n 0, 1) := by decide +kernel
theorem dX7_draw_11 : decode cX7_draw 11 = .ok (.invokevirtual 30, 3) := by decide +kernel
theorem dX7_draw_14 : decode cX7_draw 14 = .ok (.ireturn, 1) := by decide +kernel
theorem dX7_draw_15 : decode cX7_draw 15 = .ok (.aload_n 0, 1) := by decide +kernel
theorem dX7_draw_16 : decode cX7_draw 16 = .ok (.getfield 12, 3) := by decide +kernel
theorem dX7_draw_19 : decode cX7_draw 19 = .ok (.iload_n 1, 1) := by decide +kernel
theorem dX7_draw_20 : decode cX7_draw 20 = .ok (.invokevirtual 71, 3) := by decide +kernel
theorem dX7_draw_23 : decode cX7_draw 23 = .ok (.ireturn, 1) := by decide +kernel
theorem dX7_sender_0 : decode cX7_sender 0 = .ok (.aload_n 0, 1) := by decide +kernel
theorem dX7_sender_1 : decode cX7_sender 1 = .ok (.iload_n 1, 1) := by decide +kernel
theorem dX7_sender_2 : decode cX7_sender 2 = .ok (.invokevirtual 63, 3) := by decide +kernel
theorem dX7_sender_5 : decode cX7_sender 5 = .ok (.ifCond .eq 24, 3) := by decide +kernel
theorem dX7_sender_8 : decode cX7_sender 8 = .ok (.iload_n 2, 1) := by decide +kernel
theorem dX7_sender_9 : decode cX7_sender 9 = .ok (.ifCond .lt 20, 3) := by decide +kernel
theorem dX7_sender_12 : decode cX7_sender 12 = .ok (.iload_n 2, 1) := by decide +kernel
theorem dX7_sender_13 : decode cX7_sender 13 = .ok (.iconst 3, 1) := by decide +kernel
theorem dX7_sender_14 : decode cX7_sender 14 = .ok (.if_icmp .gt 15, 3) := by decide +kernel
theorem dX7_sender_17 : decode cX7_sender 17 = .ok (.iload_n 3, 1) := by decide +kernel
theorem dX7_sender_18 : decode cX7_sender 18 = .ok (.ifCond .lt 11, 3) := by decide +kernel
theorem dX7_sender_21 : decode cX7_sender 21 = .ok (.iload_n 3, 1) := by decide +kernel
theorem dX7_sender_22 : decode cX7_sender 22 = .ok (.iload_n 2, 1) := by decide +kernel
theorem dX7_sender_23 : decode cX7_sender 23 = .ok (.invokestatic 74, 3) := by decide +kernel
theorem dX7_sender_26 : decode cX7_sender 26 = .ok (.if_icmp .le 8, 3) := by decide +kernel
theorem dX7_sender_29 : decode cX7_sender 29 = .ok (.aload_n 0, 1) := by decide +kernel
theorem dX7_sender_30 : decode cX7_sender 30 = .ok (.invokevirtual 30, 3) := by decide +kernel
theorem dX7_sender_33 : decode cX7_sender 33 = .ok (.ireturn, 1) := by decide +kernel
theorem dX7_sender_34 : decode cX7_sender 34 = .ok (.aload_n 0, 1) := by decide +kernel
theorem dX7_sender_35 : decode cX7_sender 35 = .ok (.getfield 12, 3) := by decide +kernel
theorem dX7_sender_38 : decode cX7_sender 38 = .ok (.getfield 77, 3) := by decide +kernel
theorem dX7_sender_41 : decode cX7_sender 41 = .ok (.iload_n 1, 1) := by decide +kernel
theorem dX7_sender_42 : decode cX7_sender 42 = .ok (.aaload, 1) := by decide +kernel
theorem dX7_sender_43 : decode cX7_sender 43 = .ok (.iload_n 2, 1) := by decide +kernel
theorem dX7_sender_44 : decode cX7_sender 44 = .ok (.iload_n 3, 1) := by decide +kernel
theorem dX7_sender_45 : decode cX7_sender 45 = .ok (.invokevirtual 81, 3) := by decide +kernel
theorem dX7_sender_48 : decode cX7_sender 48 = .ok (.ireturn, 1) := by decide +kernel
theorem dX7_sends_0 : decode cX7_sends 0 = .ok (.aload_n 0, 1) := by decide +kernel
theorem dX7_sends_1 : decode cX7_sends 1 = .ok (.iload_n 1, 1) := by decide +kernel
theorem dX7_sends_2 : decode cX7_sends 2 = .ok (.invokevirtual 63, 3) := by decide +kernel
theorem dX7_sends_5 : decode cX7_sends 5 = .ok (.ifCond .ne 8, 3) := by decide +kernel
theorem dX7_sends_8 : decode cX7_sends 8 = .ok (.aload_n 0, 1) := by decide +kernel
theorem dX7_sends_9 : decode cX7_sends 9 = .ok (.invokevirtual 30, 3) := by decide +kernel
theorem dX7_sends_12 : decode cX7_sends 12 = .ok (.ireturn, 1) := by decide +kernel
theorem dX7_sends_13 : decode cX7_sends 13 = .ok (.aload_n 0, 1) := by decide +kernel
theorem dX7_sends_14 : decode cX7_sends 14 = .ok (.getfield 12, 3) := by decide +kernel
theorem dX7_sends_17 : decode cX7_sends 17 = .ok (.invokevirtual 87, 3) := by decide +kernel
theorem dX7_sends_20 : decode cX7_sends 20 = .ok (.ifCond .eq 8, 3) := by decide +kernel
theorem dX7_sends_23 : decode cX7_sends 23 = .ok (.aload_n 0, 1) := by decide +kernel
theorem dX7_sends_24 : decode cX7_sends 24 = .ok (.invokevirtual 91, 3) := by decide +kernel
theorem dX7_sends_27 : decode cX7_sends 27 = .ok (.ireturn, 1) := by decide +kernel
theorem dX7_sends_28 : decode cX7_sends 28 = .ok (.aload_n 0, 1) := by decide +kernel
theorem dX7_sends_29 : decode cX7_sends 29 = .ok (.getfield 12, 3) := by decide +kernel
theorem dX7_sends_32 : decode cX7_sends 32 = .ok (.iload_n 1, 1) := by decide +kernel
theorem dX7_sends_33 : decode cX7_sends 33 = .ok (.invokevirtual 94, 3) := by decide +kernel
theorem dX7_sends_36 : decode cX7_sends 36 = .ok (.ireturn, 1) := by decide +kernel
theorem dX7_again_0 : decode cX7_again 0 = .ok (.aload_n 0, 1) := by decide +kernel
theorem dX7_again_1 : decode cX7_again 1 = .ok (.iload_n 1, 1) := by decide +kernel
theorem dX7_again_2 : decode cX7_again 2 = .ok (.invokevirtual 63, 3) := by decide +kernel
theorem dX7_again_5 : decode cX7_again 5 = .ok (.ifCond .ne 8, 3) := by decide +kernel
theorem dX7_again_8 : decode cX7_again 8 = .ok (.aload_n 0, 1) := by decide +kernel
theorem dX7_again_9 : decode cX7_again 9 = .ok (.invokevirtual 30, 3) := by decide +kernel
theorem dX7_again_12 : decode cX7_again 12 = .ok (.ireturn, 1) := by decide +kernel
theorem dX7_again_13 : decode cX7_again 13 = .ok (.aload_n 0, 1) := by decide +kernel
theorem dX7_again_14 : decode cX7_again 14 = .ok (.getfield 12, 3) := by decide +kernel
theorem dX7_again_17 : decode cX7_again 17 = .ok (.getfield 77, 3) := by decide +kernel
theorem dX7_again_20 : decode cX7_again 20 = .ok (.iload_n 1, 1) := by decide +kernel
theorem dX7_again_21 : decode cX7_again 21 = .ok (.aaload, 1) := by decide +kernel
theorem dX7_again_22 : decode cX7_again 22 = .ok (.invokevirtual 97, 3) := by decide +kernel
theorem dX7_again_25 : decode cX7_again 25 = .ok (.ifCond .ne 8, 3) := by decide +kernel
theorem dX7_again_28 : decode cX7_again 28 = .ok (.aload_n 0, 1) := by decide +kernel
theorem dX7_again_29 : decode cX7_again 29 = .ok (.invokevirtual 100, 3) := by decide +kernel
theorem dX7_again_32 : decode cX7_again 32 = .ok (.ireturn, 1) := by decide +kernel
theorem dX7_again_33 : decode cX7_again 33 = .ok (.aload_n 0, 1) := by decide +kernel
theorem dX7_again_34 : decode cX7_again 34 = .ok (.getfield 12, 3) := by decide +kernel
theorem dX7_again_37 : decode cX7_again 37 = .ok (.invokevirtual 87, 3) := by decide +kernel
theorem dX7_again_40 : decode cX7_again 40 = .ok (.ifCond .eq 8, 3) := by decide +kernel
theorem dX7_again_43 : decode cX7_again 43 = .ok (.aload_n 0, 1) := by decide +kernel
theorem dX7_again_44 : decode cX7_again 44 = .ok (.invokevirtual 91, 3) := by decide +kernel
theorem dX7_again_47 : decode cX7_again 47 = .ok (.ireturn, 1) := by decide +kernel
theorem dX7_again_48 : decode cX7_again 48 = .ok (.aload_n 0, 1) := by decide +kernel
theorem dX7_again_49 : decode cX7_again 49 = .ok (.getfield 12, 3) := by decide +kernel
theorem dX7_again_52 : decode cX7_again 52 = .ok (.iload_n 1, 1) := by decide +kernel
theorem dX7_again_53 : decode cX7_again 53 = .ok (.invokevirtual 103, 3) := by decide +kernel
theorem dX7_again_56 : decode cX7_again 56 = .ok (.ireturn, 1) := by decide +kernel
theorem dX7_ticks_0 : decode cX7_ticks 0 = .ok (.iload_n 1, 1) := by decide +kernel
theorem dX7_ticks_1 : decode cX7_ticks 1 = .ok (.iconst 1, 1) := by decide +kernel
theorem dX7_ticks_2 : decode cX7_ticks 2 = .ok (.if_icmp .lt 9, 3) := by decide +kernel
theorem dX7_ticks_5 : decode cX7_ticks 5 = .ok (.iload_n 1, 1) := by decide +kernel
theorem dX7_ticks_6 : decode cX7_ticks 6 = .ok (.bipush 99, 2) := by decide +kernel
theorem dX7_ticks_8 : decode cX7_ticks 8 = .ok (.if_icmp .le 8, 3) := by decide +kernel
theorem dX7_ticks_11 : decode cX7_ticks 11 = .ok (.aload_n 0, 1) := by decide +kernel
theorem dX7_ticks_12 : decode cX7_ticks 12 = .ok (.invokevirtual 30, 3) := by decide +kernel
theorem dX7_ticks_15 : decode cX7_ticks 15 = .ok (.ireturn, 1) := by decide +kernel
theorem dX7_ticks_16 : decode cX7_ticks 16 = .ok (.aload_n 0, 1) := by decide +kernel
theorem dX7_ticks_17 : decode cX7_ticks 17 = .ok (.getfield 12, 3) := by decide +kernel
theorem dX7_ticks_20 : decode cX7_ticks 20 = .ok (.iload_n 1, 1) := by decide +kernel
theorem dX7_ticks_21 : decode cX7_ticks 21 = .ok (.invokevirtual 106, 3) := by decide +kernel
theorem dX7_ticks_24 : decode cX7_ticks 24 = .ok (.ireturn, 1) := by decide +kernel
theorem dX7_renews_0 : decode cX7_renews 0 = .ok (.aload_n 0, 1) := by decide +kernel
theorem dX7_renews_1 : decode cX7_renews 1 = .ok (.iload_n 1, 1) := by decide +kernel
theorem dX7_renews_2 : decode cX7_renews 2 = .ok (.invokevirtual 63, 3) := by decide +kernel
theorem dX7_renews_5 : decode cX7_renews 5 = .ok (.ifCond .ne 8, 3) := by decide +kernel
theorem dX7_renews_8 : decode cX7_renews 8 = .ok (.aload_n 0, 1) := by decide +kernel
theorem dX7_renews_9 : decode cX7_renews 9 = .ok (.invokevirtual 30, 3) := by decide +kernel
theorem dX7_renews_12 : decode cX7_renews 12 = .ok (.ireturn, 1) := by decide +kernel
theorem dX7_renews_13 : decode cX7_renews 13 = .ok (.aload_n 0, 1) := by decide +kernel
theorem dX7_renews_14 : decode cX7_renews 14 = .ok (.getfield 12, 3) := by decide +kernel
theorem dX7_renews_17 : decode cX7_renews 17 = .ok (.getfield 77, 3) := by decide +kernel
theorem dX7_renews_20 : decode cX7_renews 20 = .ok (.iload_n 1, 1) := by decide +kernel
theorem dX7_renews_21 : decode cX7_renews 21 = .ok (.aaload, 1) := by decide +kernel
theorem dX7_renews_22 : decode cX7_renews 22 = .ok (.getfield 109, 3) := by decide +kernel
theorem dX7_renews_25 : decode cX7_renews 25 = .ok (.istore_n 2, 1) := by decide +kernel
theorem dX7_renews_26 : decode cX7_renews 26 = .ok (.aload_n 0, 1) := by decide +kernel
theorem dX7_renews_27 : decode cX7_renews 27 = .ok (.getfield 12, 3) := by decide +kernel
theorem dX7_renews_30 : decode cX7_renews 30 = .ok (.getfield 77, 3) := by decide +kernel
theorem dX7_renews_33 : decode cX7_renews 33 = .ok (.iload_n 1, 1) := by decide +kernel
theorem dX7_renews_34 : decode cX7_renews 34 = .ok (.aaload, 1) := by decide +kernel
theorem dX7_renews_35 : decode cX7_renews 35 = .ok (.invokevirtual 112, 3) := by decide +kernel
theorem dX7_renews_38 : decode cX7_renews 38 = .ok (.iload_n 2, 1) := by decide +kernel
theorem dX7_renews_39 : decode cX7_renews 39 = .ok (.ireturn, 1) := by decide +kernel
theorem dX7_of_0 : decode cX7_of 0 = .ok (.aload_n 0, 1) := by decide +kernel
theorem dX7_of_1 : decode cX7_of 1 = .ok (.iload_n 1, 1) := by decide +kernel
theorem dX7_of_2 : decode cX7_of 2 = .ok (.invokevirtual 63, 3) := by decide +kernel
theorem dX7_of_5 : decode cX7_of 5 = .ok (.ifCond .eq 13, 3) := by decide +kernel
theorem dX7_of_8 : decode cX7_of 8 = .ok (.iload_n 2, 1) := by decide +kernel
theorem dX7_of_9 : decode cX7_of 9 = .ok (.ifCond .lt 9, 3) := by decide +kernel
theorem dX7_of_12 : decode cX7_of 12 = .ok (.iload_n 2, 1) := by decide +kernel
theorem dX7_of_13 : decode cX7_of 13 = .ok (.bipush 7, 2) := by decide +kernel
theorem dX7_of_15 : decode cX7_of 15 = .ok (.if_icmp .le 8, 3) := by decide +kernel
theorem dX7_of_18 : decode cX7_of 18 = .ok (.aload_n 0, 1) := by decide +kernel
theorem dX7_of_19 : decode cX7_of 19 = .ok (.invokevirtual 30, 3) := by decide +kernel
theorem dX7_of_22 : decode cX7_of 22 = .ok (.ireturn, 1) := by decide +kernel
theorem dX7_of_23 : decode cX7_of 23 = .ok (.aload_n 0, 1) := by decide +kernel
theorem dX7_of_24 : decode cX7_of 24 = .ok (.getfield 12, 3) := by decide +kernel
theorem dX7_of_27 : decode cX7_of 27 = .ok (.getfield 77, 3) := by decide +kernel
theorem dX7_of_30 : decode cX7_of 30 = .ok (.iload_n 1, 1) := by decide +kernel
theorem dX7_of_31 : decode cX7_of 31 = .ok (.aaload, 1) := by decide +kernel
theorem dX7_of_32 : decode cX7_of 32 = .ok (.iload_n 2, 1) := by decide +kernel
theorem dX7_of_33 : decode cX7_of 33 = .ok (.invokevirtual 115, 3) := by decide +kernel
theorem dX7_of_36 : decode cX7_of 36 = .ok (.ireturn, 1) := by decide +kernel
theorem dX7_margin_0 : decode cX7_margin 0 = .ok (.aload_n 0, 1) := by decide +kernel
theorem dX7_margin_1 : decode cX7_margin 1 = .ok (.iload_n 1, 1) := by decide +kernel
theorem dX7_margin_2 : decode cX7_margin 2 = .ok (.invokevirtual 63, 3) := by decide +kernel
theorem dX7_margin_5 : decode cX7_margin 5 = .ok (.ifCond .eq 7, 3) := by decide +kernel
theorem dX7_margin_8 : decode cX7_margin 8 = .ok (.iload_n 2, 1) := by decide +kernel
theorem dX7_margin_9 : decode cX7_margin 9 = .ok (.ifCond .ge 8, 3) := by decide +kernel
theorem dX7_margin_12 : decode cX7_margin 12 = .ok (.aload_n 0, 1) := by decide +kernel
theorem dX7_margin_13 : decode cX7_margin 13 = .ok (.invokevirtual 30, 3) := by decide +kernel
theorem dX7_margin_16 : decode cX7_margin 16 = .ok (.ireturn, 1) := by decide +kernel
theorem dX7_margin_17 : decode cX7_margin 17 = .ok (.aload_n 0, 1) := by decide +kernel
theorem dX7_margin_18 : decode cX7_margin 18 = .ok (.getfield 12, 3) := by decide +kernel
theorem dX7_margin_21 : decode cX7_margin 21 = .ok (.getfield 77, 3) := by decide +kernel
theorem dX7_margin_24 : decode cX7_margin 24 = .ok (.iload_n 1, 1) := by decide +kernel
theorem dX7_margin_25 : decode cX7_margin 25 = .ok (.aaload, 1) := by decide +kernel
theorem dX7_margin_26 : decode cX7_margin 26 = .ok (.astore_n 3, 1) := by decide +kernel
theorem dX7_margin_27 : decode cX7_margin 27 = .ok (.iload_n 2, 1) := by decide +kernel
theorem dX7_margin_28 : decode cX7_margin 28 = .ok (.aload_n 3, 1) := by decide +kernel
theorem dX7_margin_29 : decode cX7_margin 29 = .ok (.getfield 118, 3) := by decide +kernel
theorem dX7_margin_32 : decode cX7_margin 32 = .ok (.if_icmp .ge 17, 3) := by decide +kernel
theorem dX7_margin_35 : decode cX7_margin 35 = .ok (.iload_n 2, 1) := by decide +kernel
theorem dX7_margin_36 : decode cX7_margin 36 = .ok (.iconst 4, 1) := by decide +kernel
theorem dX7_margin_37 : decode cX7_margin 37 = .ok (.if_icmp .ge 12, 3) := by decide +kernel
theorem dX7_margin_40 : decode cX7_margin 40 = .ok (.aload_n 3, 1) := by decide +kernel
theorem dX7_margin_41 : decode cX7_margin 41 = .ok (.getfield 121, 3) := by decide +kernel
theorem dX7_margin_44 : decode cX7_margin 44 = .ok (.iload_n 2, 1) := by decide +kernel
theorem dX7_margin_45 : decode cX7_margin 45 = .ok (.iaload, 1) := by decide +kernel
theorem dX7_margin_46 : decode cX7_margin 46 = .ok (.goto 6, 3) := by decide +kernel
theorem dX7_margin_49 : decode cX7_margin 49 = .ok (.sipush (-1000), 3) := by decide +kernel
theorem dX7_margin_52 : decode cX7_margin 52 = .ok (.ireturn, 1) := by decide +kernel
theorem dX7_hears_0 : decode cX7_hears 0 = .ok (.aload_n 0, 1) := by decide +kernel
theorem dX7_hears_1 : decode cX7_hears 1 = .ok (.iload_n 1, 1) := by decide +kernel
theorem dX7_hears_2 : decode cX7_hears 2 = .ok (.invokevirtual 63, 3) := by decide +kernel
theorem dX7_hears_5 : decode cX7_hears 5 = .ok (.ifCond .eq 11, 3) := by decide +kernel
theorem dX7_hears_8 : decode cX7_hears 8 = .ok (.aload_n 0, 1) := by decide +kernel
theorem dX7_hears_9 : decode cX7_hears 9 = .ok (.iload_n 2, 1) := by decide +kernel
theorem dX7_hears_10 : decode cX7_hears 10 = .ok (.invokevirtual 47, 3) := by decide +kernel
theorem dX7_hears_13 : decode cX7_hears 13 = .ok (.ifCond .ne 17, 3) := by decide +kernel
theorem dX7_hears_16 : decode cX7_hears 16 = .ok (.aload_n 0, 1) := by decide +kernel
theorem dX7_hears_17 : decode cX7_hears 17 = .ok (.dup, 1) := by decide +kernel
theorem dX7_hears_18 : decode cX7_hears 18 = .ok (.getfield 125, 3) := by decide +kernel
theorem dX7_hears_21 : decode cX7_hears 21 = .ok (.iconst 1, 1) := by decide +kernel
theorem dX7_hears_22 : decode cX7_hears 22 = .ok (.iadd, 1) := by decide +kernel
theorem dX7_hears_23 : decode cX7_hears 23 = .ok (.putfield 125, 3) := by decide +kernel
theorem dX7_hears_26 : decode cX7_hears 26 = .ok (.sipush (-2000), 3) := by decide +kernel
theorem dX7_hears_29 : decode cX7_hears 29 = .ok (.ireturn, 1) := by decide +kernel
theorem dX7_hears_30 : decode cX7_hears 30 = .ok (.aload_n 0, 1) := by decide +kernel
theorem dX7_hears_31 : decode cX7_hears 31 = .ok (.getfield 12, 3) := by decide +kernel
theorem dX7_hears_34 : decode cX7_hears 34 = .ok (.iload_n 1, 1) := by decide +kernel
theorem dX7_hears_35 : decode cX7_hears 35 = .ok (.iload_n 2, 1) := by decide +kernel
theorem dX7_hears_36 : decode cX7_hears 36 = .ok (.invokevirtual 128, 3) := by decide +kernel
theorem dX7_hears_39 : decode cX7_hears 39 = .ok (.ireturn, 1) := by decide +kernel
theorem dX7_at_0 : decode cX7_at 0 = .ok (.aload_n 0, 1) := by decide +kernel
theorem dX7_at_1 : decode cX7_at 1 = .ok (.iload_n 1, 1) := by decide +kernel
theorem dX7_at_2 : decode cX7_at 2 = .ok (.invokevirtual 47, 3) := by decide +kernel
theorem dX7_at_5 : decode cX7_at 5 = .ok (.ifCond .eq 12, 3) := by decide +kernel
theorem dX7_at_8 : decode cX7_at 8 = .ok (.iload_n 2, 1) := by decide +kernel
theorem dX7_at_9 : decode cX7_at 9 = .ok (.ifCond .lt 8, 3) := by decide +kernel
theorem dX7_at_12 : decode cX7_at 12 = .ok (.iload_n 2, 1) := by decide +kernel
theorem dX7_at_13 : decode cX7_at 13 = .ok (.iconst 3, 1) := by decide +kernel
theorem dX7_at_14 : decode cX7_at 14 = .ok (.if_icmp .le 8, 3) := by decide +kernel
theorem dX7_at_17 : decode cX7_at 17 = .ok (.aload_n 0, 1) := by decide +kernel
theorem dX7_at_18 : decode cX7_at 18 = .ok (.invokevirtual 30, 3) := by decide +kernel
theorem dX7_at_21 : decode cX7_at 21 = .ok (.ireturn, 1) := by decide +kernel
theorem dX7_at_22 : decode cX7_at 22 = .ok (.aload_n 0, 1) := by decide +kernel
theorem dX7_at_23 : decode cX7_at 23 = .ok (.getfield 12, 3) := by decide +kernel
theorem dX7_at_26 : decode cX7_at 26 = .ok (.getfield 51, 3) := by decide +kernel
theorem dX7_at_29 : decode cX7_at 29 = .ok (.iload_n 1, 1) := by decide +kernel
theorem dX7_at_30 : decode cX7_at 30 = .ok (.aaload, 1) := by decide +kernel
theorem dX7_at_31 : decode cX7_at 31 = .ok (.iload_n 2, 1) := by decide +kernel
theorem dX7_at_32 : decode cX7_at 32 = .ok (.invokevirtual 131, 3) := by decide +kernel
theorem dX7_at_35 : decode cX7_at 35 = .ok (.ireturn, 1) := by decide +kernel
theorem dX7_all_0 : decode cX7_all 0 = .ok (.iload_n 1, 1) := by decide +kernel
theorem dX7_all_1 : decode cX7_all 1 = .ok (.ifCond .lt 9, 3) := by decide +kernel
theorem dX7_all_4 : decode cX7_all 4 = .ok (.iload_n 1, 1) := by decide +kernel
theorem dX7_all_5 : decode cX7_all 5 = .ok (.bipush 8, 2) := by decide +kernel
theorem dX7_all_7 : decode cX7_all 7 = .ok (.if_icmp .le 8, 3) := by decide +kernel
theorem dX7_all_10 : decode cX7_all 10 = .ok (.aload_n 0, 1) := by decide +kernel
theorem dX7_all_11 : decode cX7_all 11 = .ok (.invokevirtual 30, 3) := by decide +kernel
theorem dX7_all_14 : decode cX7_all 14 = .ok (.ireturn, 1) := by decide +kernel
theorem dX7_all_15 : decode cX7_all 15 = .ok (.aload_n 0, 1) := by decide +kernel
theorem dX7_all_16 : decode cX7_all 16 = .ok (.getfield 12, 3) := by decide +kernel
theorem dX7_all_19 : decode cX7_all 19 = .ok (.iload_n 1, 1) := by decide +kernel
theorem dX7_all_20 : decode cX7_all 20 = .ok (.invokevirtual 132, 3) := by decide +kernel
theorem dX7_all_23 : decode cX7_all 23 = .ok (.ireturn, 1) := by decide +kernel
theorem dX7_window_0 : decode cX7_window 0 = .ok (.iload_n 1, 1) := by decide +kernel
theorem dX7_window_1 : decode cX7_window 1 = .ok (.ifCond .lt 12, 3) := by decide +kernel
theorem dX7_window_4 : decode cX7_window 4 = .ok (.iload_n 2, 1) := by decide +kernel
theorem dX7_window_5 : decode cX7_window 5 = .ok (.ifCond .lt 8, 3) := by decide +kernel
theorem dX7_window_8 : decode cX7_window 8 = .ok (.iload_n 2, 1) := by decide +kernel
theorem dX7_window_9 : decode cX7_window 9 = .ok (.iconst 3, 1) := by decide +kernel
theorem dX7_window_10 : decode cX7_window 10 = .ok (.if_icmp .le 8, 3) := by decide +kernel
theorem dX7_window_13 : decode cX7_window 13 = .ok (.aload_n 0, 1) := by decide +kernel
theorem dX7_window_14 : decode cX7_window 14 = .ok (.invokevirtual 30, 3) := by decide +kernel
theorem dX7_window_17 : decode cX7_window 17 = .ok (.ireturn, 1) := by decide +kernel
theorem dX7_window_18 : decode cX7_window 18 = .ok (.iload_n 1, 1) := by decide +kernel
theorem dX7_window_19 : decode cX7_window 19 = .ok (.aload_n 0, 1) := by decide +kernel
theorem dX7_window_20 : decode cX7_window 20 = .ok (.getfield 12, 3) := by decide +kernel
theorem dX7_window_23 : decode cX7_window 23 = .ok (.getfield 133, 3) := by decide +kernel
theorem dX7_window_26 : decode cX7_window 26 = .ok (.getfield 137, 3) := by decide +kernel
theorem dX7_window_29 : decode cX7_window 29 = .ok (.if_icmp .lt 5, 3) := by decide +kernel
theorem dX7_window_32 : decode cX7_window 32 = .ok (.iconst (-1), 1) := by decide +kernel
theorem dX7_window_33 : decode cX7_window 33 = .ok (.ireturn, 1) := by decide +kernel
theorem dX7_window_34 : decode cX7_window 34 = .ok (.iload_n 2, 1) := by decide +kernel
theorem dX7_window_35 : decode cX7_window 35 = .ok (.iconst 3, 1) := by decide +kernel
theorem dX7_window_36 : decode cX7_window 36 = .ok (.if_icmp .ne 32, 3) := by decide +kernel
theorem dX7_window_39 : decode cX7_window 39 = .ok (.aload_n 0, 1) := by decide +kernel
theorem dX7_window_40 : decode cX7_window 40 = .ok (.getfield 12, 3) := by decide +kernel
theorem dX7_window_43 : decode cX7_window 43 = .ok (.getfield 133, 3) := by decide +kernel
theorem dX7_window_46 : decode cX7_window 46 = .ok (.getfield 142, 3) := by decide +kernel
theorem dX7_window_49 : decode cX7_window 49 = .ok (.iload_n 1, 1) := by decide +kernel
theorem dX7_window_50 : decode cX7_window 50 = .ok (.iaload, 1) := by decide +kernel
theorem dX7_window_51 : decode cX7_window 51 = .ok (.aload_n 0, 1) := by decide +kernel
theorem dX7_window_52 : decode cX7_window 52 = .ok (.getfield 12, 3) := by decide +kernel
theorem dX7_window_55 : decode cX7_window 55 = .ok (.getfield 44, 3) := by decide +kernel
theorem dX7_window_58 : decode cX7_window 58 = .ok (.iadd, 1) := by decide +kernel
theorem dX7_window_59 : decode cX7_window 59 = .ok (.aload_n 0, 1) := by decide +kernel
theorem dX7_window_60 : decode cX7_window 60 = .ok (.getfield 12, 3) := by decide +kernel
theorem dX7_window_63 : decode cX7_window 63 = .ok (.getfield 145, 3) := by decide +kernel
theorem dX7_window_66 : decode cX7_window 66 = .ok (.isub, 1) := by decide +kernel
theorem dX7_window_67 : decode cX7_window 67 = .ok (.ireturn, 1) := by decide +kernel
theorem dX7_window_68 : decode cX7_window 68 = .ok (.aload_n 0, 1) := by decide +kernel
theorem dX7_window_69 : decode cX7_window 69 = .ok (.getfield 12, 3) := by decide +kernel
theorem dX7_window_72 : decode cX7_window 72 = .ok (.getfield 133, 3) := by decide +kernel
theorem dX7_window_75 : decode cX7_window 75 = .ok (.iload_n 1, 1) := by decide +kernel
theorem dX7_window_76 : decode cX7_window 76 = .ok (.iload_n 2, 1) := by decide +kernel
theorem dX7_window_77 : decode cX7_window 77 = .ok (.invokevirtual 148, 3) := by decide +kernel
theorem dX7_window_80 : decode cX7_window 80 = .ok (.ireturn, 1) := by decide +kernel
theorem dX7_copy_0 : decode cX7_copy 0 = .ok (.iload_n 1, 1) := by decide +kernel
theorem dX7_copy_1 : decode cX7_copy 1 = .ok (.ifCond .lt 12, 3) := by decide +kernel
theorem dX7_copy_4 : decode cX7_copy 4 = .ok (.iload_n 2, 1) := by decide +kernel
theorem dX7_copy_5 : decode cX7_copy 5 = .ok (.ifCond .lt 8, 3) := by decide +kernel
theorem dX7_copy_8 : decode cX7_copy 8 = .ok (.iload_n 2, 1) := by decide +kernel
theorem dX7_copy_9 : decode cX7_copy 9 = .ok (.iconst 2, 1) := by decide +kernel
theorem dX7_copy_10 : decode cX7_copy 10 = .ok (.if_icmp .le 8, 3) := by decide +kernel
theorem dX7_copy_13 : decode cX7_copy 13 = .ok (.aload_n 0, 1) := by decide +kernel
theorem dX7_copy_14 : decode cX7_copy 14 = .ok (.invokevirtual 30, 3) := by decide +kernel
theorem dX7_copy_17 : decode cX7_copy 17 = .ok (.ireturn, 1) := by decide +kernel
theorem dX7_copy_18 : decode cX7_copy 18 = .ok (.iload_n 1, 1) := by decide +kernel
theorem dX7_copy_19 : decode cX7_copy 19 = .ok (.aload_n 0, 1) := by decide +kernel
theorem dX7_copy_20 : decode cX7_copy 20 = .ok (.getfield 12, 3) := by decide +kernel
theorem dX7_copy_23 : decode cX7_copy 23 = .ok (.getfield 150, 3) := by decide +kernel
theorem dX7_copy_26 : decode cX7_copy 26 = .ok (.getfield 154, 3) := by decide +kernel
theorem dX7_copy_29 : decode cX7_copy 29 = .ok (.if_icmp .lt 5, 3) := by decide +kernel
theorem dX7_copy_32 : decode cX7_copy 32 = .ok (.iconst (-1), 1) := by decide +kernel
theorem dX7_copy_33 : decode cX7_copy 33 = .ok (.ireturn, 1) := by decide +kernel
theorem dX7_copy_34 : decode cX7_copy 34 = .ok (.iload_n 2, 1) := by decide +kernel
theorem dX7_copy_35 : decode cX7_copy 35 = .ok (.iconst 2, 1) := by decide +kernel
theorem dX7_copy_36 : decode cX7_copy 36 = .ok (.if_icmp .ne 24, 3) := by decide +kernel
theorem dX7_copy_39 : decode cX7_copy 39 = .ok (.aload_n 0, 1) := by decide +kernel
theorem dX7_copy_40 : decode cX7_copy 40 = .ok (.getfield 12, 3) := by decide +kernel
theorem dX7_copy_43 : decode cX7_copy 43 = .ok (.getfield 150, 3) := by decide +kernel
theorem dX7_copy_46 : decode cX7_copy 46 = .ok (.getfield 157, 3) := by decide +kernel
theorem dX7_copy_49 : decode cX7_copy 49 = .ok (.iload_n 1, 1) := by decide +kernel
theorem dX7_copy_50 : decode cX7_copy 50 = .ok (.iaload, 1) := by decide +kernel
theorem dX7_copy_51 : decode cX7_copy 51 = .ok (.aload_n 0, 1) := by decide +kernel
theorem dX7_copy_52 : decode cX7_copy 52 = .ok (.getfield 12, 3) := by decide +kernel
theorem dX7_copy_55 : decode cX7_copy 55 = .ok (.getfield 145, 3) := by decide +kernel
theorem dX7_copy_58 : decode cX7_copy 58 = .ok (.isub, 1) := by decide +kernel
theorem dX7_copy_59 : decode cX7_copy 59 = .ok (.ireturn, 1) := by decide +kernel
theorem dX7_copy_60 : decode cX7_copy 60 = .ok (.iload_n 2, 1) := by decide +kernel
theorem dX7_copy_61 : decode cX7_copy 61 = .ok (.ifCond .ne 18, 3) := by decide +kernel
theorem dX7_copy_64 : decode cX7_copy 64 = .ok (.aload_n 0, 1) := by decide +kernel
theorem dX7_copy_65 : decode cX7_copy 65 = .ok (.getfield 12, 3) := by decide +kernel
theorem dX7_copy_68 : decode cX7_copy 68 = .ok (.getfield 150, 3) := by decide +kernel
theorem dX7_copy_71 : decode cX7_copy 71 = .ok (.getfield 160, 3) := by decide +kernel
theorem dX7_copy_74 : decode cX7_copy 74 = .ok (.iload_n 1, 1) := by decide +kernel
theorem dX7_copy_75 : decode cX7_copy 75 = .ok (.iaload, 1) := by decide +kernel
theorem dX7_copy_76 : decode cX7_copy 76 = .ok (.goto 15, 3) := by decide +kernel
theorem dX7_copy_79 : decode cX7_copy 79 = .ok (.aload_n 0, 1) := by decide +kernel
theorem dX7_copy_80 : decode cX7_copy 80 = .ok (.getfield 12, 3) := by decide +kernel
theorem dX7_copy_83 : decode cX7_copy 83 = .ok (.getfield 150, 3) := by decide +kernel
theorem dX7_copy_86 : decode cX7_copy 86 = .ok (.getfield 163, 3) := by decide +kernel
theorem dX7_copy_89 : decode cX7_copy 89 = .ok (.iload_n 1, 1) := by decide +kernel
theorem dX7_copy_90 : decode cX7_copy 90 = .ok (.iaload, 1) := by decide +kernel
theorem dX7_copy_91 : decode cX7_copy 91 = .ok (.ireturn, 1) := by decide +kernel
theorem dX7_type_0 : decode cX7_type 0 = .ok (.iload_n 1, 1) := by decide +kernel
theorem dX7_type_1 : decode cX7_type 1 = .ok (.ifCond .lt 9, 3) := by decide +kernel
theorem dX7_type_4 : decode cX7_type 4 = .ok (.iload_n 1, 1) := by decide +kernel
theorem dX7_type_5 : decode cX7_type 5 = .ok (.bipush 127, 2) := by decide +kernel
theorem dX7_type_7 : decode cX7_type 7 = .ok (.if_icmp .le 8, 3) := by decide +kernel
theorem dX7_type_10 : decode cX7_type 10 = .ok (.aload_n 0, 1) := by decide +kernel
theorem dX7_type_11 : decode cX7_type 11 = .ok (.invokevirtual 30, 3) := by decide +kernel
theorem dX7_type_14 : decode cX7_type 14 = .ok (.ireturn, 1) := by decide +kernel
theorem dX7_type_15 : decode cX7_type 15 = .ok (.aload_n 0, 1) := by decide +kernel
theorem dX7_type_16 : decode cX7_type 16 = .ok (.getfield 19, 3) := by decide +kernel
theorem dX7_type_19 : decode cX7_type 19 = .ok (.getfield 166, 3) := by decide +kernel
theorem dX7_type_22 : decode cX7_type 22 = .ok (.bipush 120, 2) := by decide +kernel
theorem dX7_type_24 : decode cX7_type 24 = .ok (.if_icmp .lt 8, 3) := by decide +kernel
theorem dX7_type_27 : decode cX7_type 27 = .ok (.aload_n 0, 1) := by decide +kernel
theorem dX7_type_28 : decode cX7_type 28 = .ok (.invokevirtual 91, 3) := by decide +kernel
theorem dX7_type_31 : decode cX7_type 31 = .ok (.ireturn, 1) := by decide +kernel
theorem dX7_type_32 : decode cX7_type 32 = .ok (.aload_n 0, 1) := by decide +kernel
theorem dX7_type_33 : decode cX7_type 33 = .ok (.getfield 19, 3) := by decide +kernel
theorem dX7_type_36 : decode cX7_type 36 = .ok (.getfield 169, 3) := by decide +kernel
theorem dX7_type_39 : decode cX7_type 39 = .ok (.aload_n 0, 1) := by decide +kernel
theorem dX7_type_40 : decode cX7_type 40 = .ok (.getfield 19, 3) := by decide +kernel
theorem dX7_type_43 : decode cX7_type 43 = .ok (.getfield 166, 3) := by decide +kernel
theorem dX7_type_46 : decode cX7_type 46 = .ok (.iload_n 1, 1) := by decide +kernel
theorem dX7_type_47 : decode cX7_type 47 = .ok (.iastore, 1) := by decide +kernel
theorem dX7_type_48 : decode cX7_type 48 = .ok (.aload_n 0, 1) := by decide +kernel
theorem dX7_type_49 : decode cX7_type 49 = .ok (.getfield 19, 3) := by decide +kernel
theorem dX7_type_52 : decode cX7_type 52 = .ok (.dup, 1) := by decide +kernel
theorem dX7_type_53 : decode cX7_type 53 = .ok (.getfield 166, 3) := by decide +kernel
theorem dX7_type_56 : decode cX7_type 56 = .ok (.iconst 1, 1) := by decide +kernel
theorem dX7_type_57 : decode cX7_type 57 = .ok (.iadd, 1) := by decide +kernel
theorem dX7_type_58 : decode cX7_type 58 = .ok (.putfield 166, 3) := by decide +kernel
theorem dX7_type_61 : decode cX7_type 61 = .ok (.aload_n 0, 1) := by decide +kernel
theorem dX7_type_62 : decode cX7_type 62 = .ok (.getfield 19, 3) := by decide +kernel
theorem dX7_type_65 : decode cX7_type 65 = .ok (.getfield 166, 3) := by decide +kernel
theorem dX7_type_68 : decode cX7_type 68 = .ok (.ireturn, 1) := by decide +kernel
theorem dX7_clear_0 : decode cX7_clear 0 = .ok (.aload_n 0, 1) := by decide +kernel
theorem dX7_clear_1 : decode cX7_clear 1 = .ok (.getfield 19, 3) := by decide +kernel
theorem dX7_clear_4 : decode cX7_clear 4 = .ok (.getfield 166, 3) := by decide +kernel
theorem dX7_clear_7 : decode cX7_clear 7 = .ok (.istore_n 1, 1) := by decide +kernel
theorem dX7_clear_8 : decode cX7_clear 8 = .ok (.aload_n 0, 1) := by decide +kernel
theorem dX7_clear_9 : decode cX7_clear 9 = .ok (.getfield 19, 3) := by decide +kernel
theorem dX7_clear_12 : decode cX7_clear 12 = .ok (.iconst 0, 1) := by decide +kernel
theorem dX7_clear_13 : decode cX7_clear 13 = .ok (.putfield 166, 3) := by decide +kernel
theorem dX7_clear_16 : decode cX7_clear 16 = .ok (.iload_n 1, 1) := by decide +kernel
theorem dX7_clear_17 : decode cX7_clear 17 = .ok (.ireturn, 1) := by decide +kernel
theorem dX7_does_0 : decode cX7_does 0 = .ok (.aload_n 0, 1) := by decide +kernel
theorem dX7_does_1 : decode cX7_does 1 = .ok (.getfield 19, 3) := by decide +kernel
theorem dX7_does_4 : decode cX7_does 4 = .ok (.aload_n 0, 1) := by decide +kernel
theorem dX7_does_5 : decode cX7_does 5 = .ok (.getfield 12, 3) := by decide +kernel
theorem dX7_does_8 : decode cX7_does 8 = .ok (.getfield 37, 3) := by decide +kernel
theorem dX7_does_11 : decode cX7_does 11 = .ok (.aload_n 0, 1) := by decide +kernel
theorem dX7_does_12 : decode cX7_does 12 = .ok (.getfield 12, 3) := by decide +kernel
theorem dX7_does_15 : decode cX7_does 15 = .ok (.getfield 41, 3) := by decide +kernel
theorem dX7_does_18 : decode cX7_does 18 = .ok (.invokevirtual 172, 3) := by decide +kernel
theorem dX7_does_21 : decode cX7_does 21 = .ok (.istore_n 1, 1) := by decide +kernel
theorem dX7_does_22 : decode cX7_does 22 = .ok (.iload_n 1, 1) := by decide +kernel
theorem dX7_does_23 : decode cX7_does 23 = .ok (.iconst (-1), 1) := by decide +kernel
theorem dX7_does_24 : decode cX7_does 24 = .ok (.if_icmp .eq 8, 3) := by decide +kernel
theorem dX7_does_27 : decode cX7_does 27 = .ok (.bipush (-10), 2) := by decide +kernel
theorem dX7_does_29 : decode cX7_does 29 = .ok (.iload_n 1, 1) := by decide +kernel
theorem dX7_does_30 : decode cX7_does 30 = .ok (.isub, 1) := by decide +kernel
theorem dX7_does_31 : decode cX7_does 31 = .ok (.ireturn, 1) := by decide +kernel
theorem dX7_does_32 : decode cX7_does 32 = .ok (.iconst 0, 1) := by decide +kernel
theorem dX7_does_33 : decode cX7_does 33 = .ok (.istore_n 2, 1) := by decide +kernel
theorem dX7_does_34 : decode cX7_does 34 = .ok (.iconst 0, 1) := by decide +kernel
theorem dX7_does_35 : decode cX7_does 35 = .ok (.istore_n 3, 1) := by decide +kernel
theorem dX7_does_36 : decode cX7_does 36 = .ok (.iload_n 3, 1) := by decide +kernel
theorem dX7_does_37 : decode cX7_does 37 = .ok (.aload_n 0, 1) := by decide +kernel
theorem dX7_does_38 : decode cX7_does 38 = .ok (.getfield 19, 3) := by decide +kernel
theorem dX7_does_41 : decode cX7_does 41 = .ok (.getfield 175, 3) := by decide +kernel
theorem dX7_does_44 : decode cX7_does 44 = .ok (.if_icmp .ge 23, 3) := by decide +kernel
theorem dX7_does_47 : decode cX7_does 47 = .ok (.iload_n 3, 1) := by decide +kernel
theorem dX7_does_48 : decode cX7_does 48 = .ok (.bipush 40, 2) := by decide +kernel
theorem dX7_does_50 : decode cX7_does 50 = .ok (.if_icmp .ge 17, 3) := by decide +kernel
theorem dX7_does_53 : decode cX7_does 53 = .ok (.iload_n 2, 1) := by decide +kernel
theorem dX7_does_54 : decode cX7_does 54 = .ok (.aload_n 0, 1) := by decide +kernel
theorem dX7_does_55 : decode cX7_does 55 = .ok (.iload_n 3, 1) := by decide +kernel
theorem dX7_does_56 : decode cX7_does 56 = .ok (.invokevirtual 178, 3) := by decide +kernel
theorem dX7_does_59 : decode cX7_does 59 = .ok (.iadd, 1) := by decide +kernel
theorem dX7_does_60 : decode cX7_does 60 = .ok (.istore_n 2, 1) := by decide +kernel
theorem dX7_does_61 : decode cX7_does 61 = .ok (.iinc 3 1, 3) := by decide +kernel
theorem dX7_does_64 : decode cX7_does 64 = .ok (.goto (-28), 3) := by decide +kernel
theorem dX7_does_67 : decode cX7_does 67 = .ok (.iload_n 2, 1) := by decide +kernel
theorem dX7_does_68 : decode cX7_does 68 = .ok (.ireturn, 1) := by decide +kernel
theorem dX7_told_0 : decode cX7_told 0 = .ok (.iload_n 1, 1) := by decide +kernel
theorem dX7_told_1 : decode cX7_told 1 = .ok (.ifCond .lt 9, 3) := by decide +kernel
theorem dX7_told_4 : decode cX7_told 4 = .ok (.iload_n 1, 1) := by decide +kernel
theorem dX7_told_5 : decode cX7_told 5 = .ok (.bipush 6, 2) := by decide +kernel
theorem dX7_told_7 : decode cX7_told 7 = .ok (.if_icmp .le 8, 3) := by decide +kernel
theorem dX7_told_10 : decode cX7_told 10 = .ok (.aload_n 0, 1) := by decide +kernel
theorem dX7_told_11 : decode cX7_told 11 = .ok (.invokevirtual 30, 3) := by decide +kernel
theorem dX7_told_14 : decode cX7_told 14 = .ok (.ireturn, 1) := by decide +kernel
theorem dX7_told_15 : decode cX7_told 15 = .ok (.iload_n 1, 1) := by decide +kernel
theorem dX7_told_16 : decode cX7_told 16 = .ok (.tableswitch 55 0 3 #[32, 37, 42, 47], 32) := by decide +kernel
theorem dX7_told_48 : decode cX7_told 48 = .ok (.aload_n 0, 1) := by decide +kernel
theorem dX7_told_49 : decode cX7_told 49 = .ok (.getfield 125, 3) := by decide +kernel
theorem dX7_told_52 : decode cX7_told 52 = .ok (.ireturn, 1) := by decide +kernel
theorem dX7_told_53 : decode cX7_told 53 = .ok (.aload_n 0, 1) := by decide +kernel
theorem dX7_told_54 : decode cX7_told 54 = .ok (.getfield 181, 3) := by decide +kernel
theorem dX7_told_57 : decode cX7_told 57 = .ok (.ireturn, 1) := by decide +kernel
theorem dX7_told_58 : decode cX7_told 58 = .ok (.aload_n 0, 1) := by decide +kernel
theorem dX7_told_59 : decode cX7_told 59 = .ok (.getfield 184, 3) := by decide +kernel
theorem dX7_told_62 : decode cX7_told 62 = .ok (.ireturn, 1) := by decide +kernel
theorem dX7_told_63 : decode cX7_told 63 = .ok (.aload_n 0, 1) := by decide +kernel
theorem dX7_told_64 : decode cX7_told 64 = .ok (.getfield 19, 3) := by decide +kernel
theorem dX7_told_67 : decode cX7_told 67 = .ok (.getfield 166, 3) := by decide +kernel
theorem dX7_told_70 : decode cX7_told 70 = .ok (.ireturn, 1) := by decide +kernel
theorem dX7_told_71 : decode cX7_told 71 = .ok (.aload_n 0, 1) := by decide +kernel
theorem dX7_told_72 : decode cX7_told 72 = .ok (.iload_n 1, 1) := by decide +kernel
theorem dX7_told_73 : decode cX7_told 73 = .ok (.iconst 4, 1) := by decide +kernel
theorem dX7_told_74 : decode cX7_told 74 = .ok (.isub, 1) := by decide +kernel
theorem dX7_told_75 : decode cX7_told 75 = .ok (.invokevirtual 34, 3) := by decide +kernel
theorem dX7_told_78 : decode cX7_told 78 = .ok (.ireturn, 1) := by decide +kernel
theorem dX7_digest_0 : decode cX7_digest 0 = .ok (.ldc2_w 187, 3) := by decide +kernel
theorem dX7_digest_3 : decode cX7_digest 3 = .ok (.lstore_n 1, 1) := by decide +kernel
theorem dX7_digest_4 : decode cX7_digest 4 = .ok (.iconst 0, 1) := by decide +kernel
theorem dX7_digest_5 : decode cX7_digest 5 = .ok (.istore_n 3, 1) := by decide +kernel
theorem dX7_digest_6 : decode cX7_digest 6 = .ok (.iload_n 3, 1) := by decide +kernel
theorem dX7_digest_7 : decode cX7_digest 7 = .ok (.bipush 6, 2) := by decide +kernel
theorem dX7_digest_9 : decode cX7_digest 9 = .ok (.if_icmp .gt 22, 3) := by decide +kernel
theorem dX7_digest_12 : decode cX7_digest 12 = .ok (.ldc2_w 189, 3) := by decide +kernel
theorem dX7_digest_15 : decode cX7_digest 15 = .ok (.lload_n 1, 1) := by decide +kernel
theorem dX7_digest_16 : decode cX7_digest 16 = .ok (.lmul, 1) := by decide +kernel
theorem dX7_digest_17 : decode cX7_digest 17 = .ok (.aload_n 0, 1) := by decide +kernel
theorem dX7_digest_18 : decode cX7_digest 18 = .ok (.iload_n 3, 1) := by decide +kernel
theorem dX7_digest_19 : decode cX7_digest 19 = .ok (.invokevirtual 191, 3) := by decide +kernel
theorem dX7_digest_22 : decode cX7_digest 22 = .ok (.i2l, 1) := by decide +kernel
theorem dX7_digest_23 : decode cX7_digest 23 = .ok (.ladd, 1) := by decide +kernel
theorem dX7_digest_24 : decode cX7_digest 24 = .ok (.lstore_n 1, 1) := by decide +kernel
theorem dX7_digest_25 : decode cX7_digest 25 = .ok (.iinc 3 1, 3) := by decide +kernel
theorem dX7_digest_28 : decode cX7_digest 28 = .ok (.goto (-22), 3) := by decide +kernel
theorem dX7_digest_31 : decode cX7_digest 31 = .ok (.iconst 0, 1) := by decide +kernel
theorem dX7_digest_32 : decode cX7_digest 32 = .ok (.istore_n 3, 1) := by decide +kernel
theorem dX7_digest_33 : decode cX7_digest 33 = .ok (.iload_n 3, 1) := by decide +kernel
theorem dX7_digest_34 : decode cX7_digest 34 = .ok (.aload_n 0, 1) := by decide +kernel
theorem dX7_digest_35 : decode cX7_digest 35 = .ok (.getfield 12, 3) := by decide +kernel
theorem dX7_digest_38 : decode cX7_digest 38 = .ok (.getfield 37, 3) := by decide +kernel
theorem dX7_digest_41 : decode cX7_digest 41 = .ok (.if_icmp .ge 40, 3) := by decide +kernel
theorem dX7_digest_44 : decode cX7_digest 44 = .ok (.iconst 0, 1) := by decide +kernel
theorem dX7_digest_45 : decode cX7_digest 45 = .ok (.istore 4, 2) := by decide +kernel
theorem dX7_digest_47 : decode cX7_digest 47 = .ok (.iload 4, 2) := by decide +kernel
theorem dX7_digest_49 : decode cX7_digest 49 = .ok (.bipush 7, 2) := by decide +kernel
theorem dX7_digest_51 : decode cX7_digest 51 = .ok (.if_icmp .gt 24, 3) := by decide +kernel
theorem dX7_digest_54 : decode cX7_digest 54 = .ok (.ldc2_w 189, 3) := by decide +kernel
theorem dX7_digest_57 : decode cX7_digest 57 = .ok (.lload_n 1, 1) := by decide +kernel
theorem dX7_digest_58 : decode cX7_digest 58 = .ok (.lmul, 1) := by decide +kernel
theorem dX7_digest_59 : decode cX7_digest 59 = .ok (.aload_n 0, 1) := by decide +kernel
theorem dX7_digest_60 : decode cX7_digest 60 = .ok (.iload_n 3, 1) := by decide +kernel
theorem dX7_digest_61 : decode cX7_digest 61 = .ok (.iload 4, 2) := by decide +kernel
theorem dX7_digest_63 : decode cX7_digest 63 = .ok (.invokevirtual 194, 3) := by decide +kernel
theorem dX7_digest_66 : decode cX7_digest 66 = .ok (.i2l, 1) := by decide +kernel
theorem dX7_digest_67 : decode cX7_digest 67 = .ok (.ladd, 1) := by decide +kernel
theorem dX7_digest_68 : decode cX7_digest 68 = .ok (.lstore_n 1, 1) := by decide +kernel
theorem dX7_digest_69 : decode cX7_digest 69 = .ok (.iinc 4 1, 3) := by decide +kernel
theorem dX7_digest_72 : decode cX7_digest 72 = .ok (.goto (-25), 3) := by decide +kernel
theorem dX7_digest_75 : decode cX7_digest 75 = .ok (.iinc 3 1, 3) := by decide +kernel
theorem dX7_digest_78 : decode cX7_digest 78 = .ok (.goto (-45), 3) := by decide +kernel
theorem dX7_digest_81 : decode cX7_digest 81 = .ok (.iconst 0, 1) := by decide +kernel
theorem dX7_digest_82 : decode cX7_digest 82 = .ok (.istore_n 3, 1) := by decide +kernel
theorem dX7_digest_83 : decode cX7_digest 83 = .ok (.iload_n 3, 1) := by decide +kernel
theorem dX7_digest_84 : decode cX7_digest 84 = .ok (.aload_n 0, 1) := by decide +kernel
theorem dX7_digest_85 : decode cX7_digest 85 = .ok (.getfield 12, 3) := by decide +kernel
theorem dX7_digest_88 : decode cX7_digest 88 = .ok (.getfield 41, 3) := by decide +kernel
theorem dX7_digest_91 : decode cX7_digest 91 = .ok (.if_icmp .ge 39, 3) := by decide +kernel
theorem dX7_digest_94 : decode cX7_digest 94 = .ok (.iconst 0, 1) := by decide +kernel
theorem dX7_digest_95 : decode cX7_digest 95 = .ok (.istore 4, 2) := by decide +kernel
theorem dX7_digest_97 : decode cX7_digest 97 = .ok (.iload 4, 2) := by decide +kernel
theorem dX7_digest_99 : decode cX7_digest 99 = .ok (.iconst 3, 1) := by decide +kernel
theorem dX7_digest_100 : decode cX7_digest 100 = .ok (.if_icmp .gt 24, 3) := by decide +kernel
theorem dX7_digest_103 : decode cX7_digest 103 = .ok (.ldc2_w 189, 3) := by decide +kernel
theorem dX7_digest_106 : decode cX7_digest 106 = .ok (.lload_n 1, 1) := by decide +kernel
theorem dX7_digest_107 : decode cX7_digest 107 = .ok (.lmul, 1) := by decide +kernel
theorem dX7_digest_108 : decode cX7_digest 108 = .ok (.aload_n 0, 1) := by decide +kernel
theorem dX7_digest_109 : decode cX7_digest 109 = .ok (.iload_n 3, 1) := by decide +kernel
theorem dX7_digest_110 : decode cX7_digest 110 = .ok (.iload 4, 2) := by decide +kernel
theorem dX7_digest_112 : decode cX7_digest 112 = .ok (.invokevirtual 197, 3) := by decide +kernel
theorem dX7_digest_115 : decode cX7_digest 115 = .ok (.i2l, 1) := by decide +kernel
theorem dX7_digest_116 : decode cX7_digest 116 = .ok (.ladd, 1) := by decide +kernel
theorem dX7_digest_117 : decode cX7_digest 117 = .ok (.lstore_n 1, 1) := by decide +kernel
theorem dX7_digest_118 : decode cX7_digest 118 = .ok (.iinc 4 1, 3) := by decide +kernel
theorem dX7_digest_121 : decode cX7_digest 121 = .ok (.goto (-24), 3) := by decide +kernel
theorem dX7_digest_124 : decode cX7_digest 124 = .ok (.iinc 3 1, 3) := by decide +kernel
theorem dX7_digest_127 : decode cX7_digest 127 = .ok (.goto (-44), 3) := by decide +kernel
theorem dX7_digest_130 : decode cX7_digest 130 = .ok (.iconst 0, 1) := by decide +kernel
theorem dX7_digest_131 : decode cX7_digest 131 = .ok (.istore_n 3, 1) := by decide +kernel
theorem dX7_digest_132 : decode cX7_digest 132 = .ok (.iload_n 3, 1) := by decide +kernel
theorem dX7_digest_133 : decode cX7_digest 133 = .ok (.bipush 8, 2) := by decide +kernel
theorem dX7_digest_135 : decode cX7_digest 135 = .ok (.if_icmp .gt 22, 3) := by decide +kernel
theorem dX7_digest_138 : decode cX7_digest 138 = .ok (.ldc2_w 189, 3) := by decide +kernel
theorem dX7_digest_141 : decode cX7_digest 141 = .ok (.lload_n 1, 1) := by decide +kernel
theorem dX7_digest_142 : decode cX7_digest 142 = .ok (.lmul, 1) := by decide +kernel
theorem dX7_digest_143 : decode cX7_digest 143 = .ok (.aload_n 0, 1) := by decide +kernel
theorem dX7_digest_144 : decode cX7_digest 144 = .ok (.iload_n 3, 1) := by decide +kernel
theorem dX7_digest_145 : decode cX7_digest 145 = .ok (.invokevirtual 200, 3) := by decide +kernel
theorem dX7_digest_148 : decode cX7_digest 148 = .ok (.i2l, 1) := by decide +kernel
theorem dX7_digest_149 : decode cX7_digest 149 = .ok (.ladd, 1) := by decide +kernel
theorem dX7_digest_150 : decode cX7_digest 150 = .ok (.lstore_n 1, 1) := by decide +kernel
theorem dX7_digest_151 : decode cX7_digest 151 = .ok (.iinc 3 1, 3) := by decide +kernel
theorem dX7_digest_154 : decode cX7_digest 154 = .ok (.goto (-22), 3) := by decide +kernel
theorem dX7_digest_157 : decode cX7_digest 157 = .ok (.lload_n 1, 1) := by decide +kernel
theorem dX7_digest_158 : decode cX7_digest 158 = .ok (.lreturn, 1) := by decide +kernel
theorem dX7_refuseBad_0 : decode cX7_refuseBad 0 = .ok (.aload_n 0, 1) := by decide +kernel
theorem dX7_refuseBad_1 : decode cX7_refuseBad 1 = .ok (.dup, 1) := by decide +kernel
theorem dX7_refuseBad_2 : decode cX7_refuseBad 2 = .ok (.getfield 125, 3) := by decide +kernel
theorem dX7_refuseBad_5 : decode cX7_refuseBad 5 = .ok (.iconst 1, 1) := by decide +kernel
theorem dX7_refuseBad_6 : decode cX7_refuseBad 6 = .ok (.iadd, 1) := by decide +kernel
theorem dX7_refuseBad_7 : decode cX7_refuseBad 7 = .ok (.putfield 125, 3) := by decide +kernel
theorem dX7_refuseBad_10 : decode cX7_refuseBad 10 = .ok (.bipush (-2), 2) := by decide +kernel
theorem dX7_refuseBad_12 : decode cX7_refuseBad 12 = .ok (.ireturn, 1) := by decide +kernel
theorem dX7_refuseNo_0 : decode cX7_refuseNo 0 = .ok (.aload_n 0, 1) := by decide +kernel
theorem dX7_refuseNo_1 : decode cX7_refuseNo 1 = .ok (.dup, 1) := by decide +kernel
theorem dX7_refuseNo_2 : decode cX7_refuseNo 2 = .ok (.getfield 181, 3) := by decide +kernel
theorem dX7_refuseNo_5 : decode cX7_refuseNo 5 = .ok (.iconst 1, 1) := by decide +kernel
theorem dX7_refuseNo_6 : decode cX7_refuseNo 6 = .ok (.iadd, 1) := by decide +kernel
theorem dX7_refuseNo_7 : decode cX7_refuseNo 7 = .ok (.putfield 181, 3) := by decide +kernel
theorem dX7_refuseNo_10 : decode cX7_refuseNo 10 = .ok (.bipush (-3), 2) := by decide +kernel
theorem dX7_refuseNo_12 : decode cX7_refuseNo 12 = .ok (.ireturn, 1) := by decide +kernel
theorem dX7_refuseFull_0 : decode cX7_refuseFull 0 = .ok (.aload_n 0, 1) := by decide +kernel
theorem dX7_refuseFull_1 : decode cX7_refuseFull 1 = .ok (.dup, 1) := by decide +kernel
theorem dX7_refuseFull_2 : decode cX7_refuseFull 2 = .ok (.getfield 184, 3) := by decide +kernel
theorem dX7_refuseFull_5 : decode cX7_refuseFull 5 = .ok (.iconst 1, 1) := by decide +kernel
theorem dX7_refuseFull_6 : decode cX7_refuseFull 6 = .ok (.iadd, 1) := by decide +kernel
theorem dX7_refuseFull_7 : decode cX7_refuseFull 7 = .ok (.putfield 184, 3) := by decide +kernel
theorem dX7_refuseFull_10 : decode cX7_refuseFull 10 = .ok (.bipush (-4), 2) := by decide +kernel
theorem dX7_refuseFull_12 : decode cX7_refuseFull 12 = .ok (.ireturn, 1) := by decide +kernel
theorem dX7_isSender_0 : decode cX7_isSender 0 = .ok (.iload_n 1, 1) := by decide +kernel
theorem dX7_isSender_1 : decode cX7_isSender 1 = .ok (.ifCond .lt 18, 3) := by decide +kernel
theorem dX7_isSender_4 : decode cX7_isSender 4 = .ok (.iload_n 1, 1) := by decide +kernel
theorem dX7_isSender_5 : decode cX7_isSender 5 = .ok (.aload_n 0, 1) := by decide +kernel
theorem dX7_isSender_6 : decode cX7_isSender 6 = .ok (.getfield 12, 3) := by decide +kernel
theorem dX7_isSender_9 : decode cX7_isSender 9 = .ok (.getfield 37, 3) := by decide +kernel
theorem dX7_isSender_12 : decode cX7_isSender 12 = .ok (.if_icmp .ge 7, 3) := by decide +kernel
theorem dX7_isSender_15 : decode cX7_isSender 15 = .ok (.iconst 1, 1) := by decide +kernel
theorem dX7_isSender_16 : decode cX7_isSender 16 = .ok (.goto 4, 3) := by decide +kernel
theorem dX7_isSender_19 : decode cX7_isSender 19 = .ok (.iconst 0, 1) := by decide +kernel
theorem dX7_isSender_20 : decode cX7_isSender 20 = .ok (.ireturn, 1) := by decide +kernel
theorem dX7_isGate_0 : decode cX7_isGate 0 = .ok (.iload_n 1, 1) := by decide +kernel
theorem dX7_isGate_1 : decode cX7_isGate 1 = .ok (.ifCond .lt 18, 3) := by decide +kernel
theorem dX7_isGate_4 : decode cX7_isGate 4 = .ok (.iload_n 1, 1) := by decide +kernel
theorem dX7_isGate_5 : decode cX7_isGate 5 = .ok (.aload_n 0, 1) := by decide +kernel
theorem dX7_isGate_6 : decode cX7_isGate 6 = .ok (.getfield 12, 3) := by decide +kernel
theorem dX7_isGate_9 : decode cX7_isGate 9 = .ok (.getfield 41, 3) := by decide +kernel
theorem dX7_isGate_12 : decode cX7_isGate 12 = .ok (.if_icmp .ge 7, 3) := by decide +kernel
theorem dX7_isGate_15 : decode cX7_isGate 15 = .ok (.iconst 1, 1) := by decide +kernel
theorem dX7_isGate_16 : decode cX7_isGate 16 = .ok (.goto 4, 3) := by decide +kernel
theorem dX7_isGate_19 : decode cX7_isGate 19 = .ok (.iconst 0, 1) := by decide +kernel
theorem dX7_isGate_20 : decode cX7_isGate 20 = .ok (.ireturn, 1) := by decide +kernel
theorem dX7_setting_0 : decode cX7_setting 0 = .ok (.iload_n 1, 1) := by decide +kernel
theorem dX7_setting_1 : decode cX7_setting 1 = .ok (.lookupswitch 43 #[(0, 27), (1, 35)], 27) := by decide +kernel
theorem dX7_setting_28 : decode cX7_setting 28 = .ok (.aload_n 0, 1) := by decide +kernel
theorem dX7_setting_29 : decode cX7_setting 29 = .ok (.getfield 12, 3) := by decide +kernel
theorem dX7_setting_32 : decode cX7_setting 32 = .ok (.getfield 37, 3) := by decide +kernel
theorem dX7_setting_35 : decode cX7_setting 35 = .ok (.ireturn, 1) := by decide +kernel
theorem dX7_setting_36 : decode cX7_setting 36 = .ok (.aload_n 0, 1) := by decide +kernel
theorem dX7_setting_37 : decode cX7_setting 37 = .ok (.getfield 12, 3) := by decide +kernel
theorem dX7_setting_40 : decode cX7_setting 40 = .ok (.getfield 41, 3) := by decide +kernel
theorem dX7_setting_43 : decode cX7_setting 43 = .ok (.ireturn, 1) := by decide +kernel
theorem dX7_setting_44 : decode cX7_setting 44 = .ok (.aload_n 0, 1) := by decide +kernel
theorem dX7_setting_45 : decode cX7_setting 45 = .ok (.getfield 12, 3) := by decide +kernel
theorem dX7_setting_48 : decode cX7_setting 48 = .ok (.getfield 44, 3) := by decide +kernel
theorem dX7_setting_51 : decode cX7_setting 51 = .ok (.ireturn, 1) := by decide +kernel
theorem dX7_mostOfSetting_0 : decode cX7_mostOfSetting 0 = .ok (.iload_n 0, 1) := by decide +kernel
theorem dX7_mostOfSetting_1 : decode cX7_mostOfSetting 1 = .ok (.lookupswitch 32 #[(0, 27), (1, 30)], 27) := by decide +kernel
theorem dX7_mostOfSetting_28 : decode cX7_mostOfSetting 28 = .ok (.bipush 6, 2) := by decide +kernel
theorem dX7_mostOfSetting_30 : decode cX7_mostOfSetting 30 = .ok (.ireturn, 1) := by decide +kernel
theorem dX7_mostOfSetting_31 : decode cX7_mostOfSetting 31 = .ok (.iconst 4, 1) := by decide +kernel
theorem dX7_mostOfSetting_32 : decode cX7_mostOfSetting 32 = .ok (.ireturn, 1) := by decide +kernel
theorem dX7_mostOfSetting_33 : decode cX7_mostOfSetting 33 = .ok (.bipush 9, 2) := by decide +kernel
theorem dX7_mostOfSetting_35 : decode cX7_mostOfSetting 35 = .ok (.ireturn, 1) := by decide +kernel
theorem dX7_mostOfSender_0 : decode cX7_mostOfSender 0 = .ok (.iload_n 0, 1) := by decide +kernel
theorem dX7_mostOfSender_1 : decode cX7_mostOfSender 1 = .ok (.tableswitch 34 0 2 #[27, 29, 31], 27) := by decide +kernel
theorem dX7_mostOfSender_28 : decode cX7_mostOfSender 28 = .ok (.iconst 5, 1) := by decide +kernel
theorem dX7_mostOfSender_29 : decode cX7_mostOfSender 29 = .ok (.ireturn, 1) := by decide +kernel
theorem dX7_mostOfSender_30 : decode cX7_mostOfSender 30 = .ok (.iconst 4, 1) := by decide +kernel
theorem dX7_mostOfSender_31 : decode cX7_mostOfSender 31 = .ok (.ireturn, 1) := by decide +kernel
theorem dX7_mostOfSender_32 : decode cX7_mostOfSender 32 = .ok (.bipush 63, 2) := by decide +kernel
theorem dX7_mostOfSender_34 : decode cX7_mostOfSender 34 = .ok (.ireturn, 1) := by decide +kernel
theorem dX7_mostOfSender_35 : decode cX7_mostOfSender 35 = .ok (.iconst 1, 1) := by decide +kernel
theorem dX7_mostOfSender_36 : decode cX7_mostOfSender 36 = .ok (.ireturn, 1) := by decide +kernel
theorem dX7_carryOut_0 : decode cX7_carryOut 0 = .ok (.aload_n 0, 1) := by decide +kernel
theorem dX7_carryOut_1 : decode cX7_carryOut 1 = .ok (.getfield 19, 3) := by decide +kernel
theorem dX7_carryOut_4 : decode cX7_carryOut 4 = .ok (.getfield 203, 3) := by decide +kernel
theorem dX7_carryOut_7 : decode cX7_carryOut 7 = .ok (.iload_n 1, 1) := by decide +kernel
theorem dX7_carryOut_8 : decode cX7_carryOut 8 = .ok (.iaload, 1) := by decide +kernel
theorem dX7_carryOut_9 : decode cX7_carryOut 9 = .ok (.istore_n 2, 1) := by decide +kernel
theorem dX7_carryOut_10 : decode cX7_carryOut 10 = .ok (.aload_n 0, 1) := by decide +kernel
theorem dX7_carryOut_11 : decode cX7_carryOut 11 = .ok (.getfield 19, 3) := by decide +kernel
theorem dX7_carryOut_14 : decode cX7_carryOut 14 = .ok (.getfield 206, 3) := by decide +kernel
theorem dX7_carryOut_17 : decode cX7_carryOut 17 = .ok (.iload_n 1, 1) := by decide +kernel
theorem dX7_carryOut_18 : decode cX7_carryOut 18 = .ok (.iaload, 1) := by decide +kernel
theorem dX7_carryOut_19 : decode cX7_carryOut 19 = .ok (.istore_n 3, 1) := by decide +kernel
theorem dX7_carryOut_20 : decode cX7_carryOut 20 = .ok (.aload_n 0, 1) := by decide +kernel
theorem dX7_carryOut_21 : decode cX7_carryOut 21 = .ok (.getfield 19, 3) := by decide +kernel
theorem dX7_carryOut_24 : decode cX7_carryOut 24 = .ok (.getfield 209, 3) := by decide +kernel
theorem dX7_carryOut_27 : decode cX7_carryOut 27 = .ok (.iload_n 1, 1) := by decide +kernel
theorem dX7_carryOut_28 : decode cX7_carryOut 28 = .ok (.iaload, 1) := by decide +kernel
theorem dX7_carryOut_29 : decode cX7_carryOut 29 = .ok (.istore 4, 2) := by decide +kernel
theorem dX7_carryOut_31 : decode cX7_carryOut 31 = .ok (.aload_n 0, 1) := by decide +kernel
theorem dX7_carryOut_32 : decode cX7_carryOut 32 = .ok (.getfield 19, 3) := by decide +kernel
theorem dX7_carryOut_35 : decode cX7_carryOut 35 = .ok (.getfield 212, 3) := by decide +kernel
theorem dX7_carryOut_38 : decode cX7_carryOut 38 = .ok (.iload_n 1, 1) := by decide +kernel
theorem dX7_carryOut_39 : decode cX7_carryOut 39 = .ok (.iaload, 1) := by decide +kernel
theorem dX7_carryOut_40 : decode cX7_carryOut 40 = .ok (.lookupswitch 174 #[(43, 117), (98, 142), (103, 127), (108, 158), (114, 81), (115, 60)], 60) := by decide +kernel
theorem dX7_carryOut_100 : decode cX7_carryOut 100 = .ok (.aload_n 0, 1) := by decide +kernel
theorem dX7_carryOut_101 : decode cX7_carryOut 101 = .ok (.getfield 12, 3) := by decide +kernel
theorem dX7_carryOut_104 : decode cX7_carryOut 104 = .ok (.invokevirtual 87, 3) := by decide +kernel
theorem dX7_carryOut_107 : decode cX7_carryOut 107 = .ok (.ifCond .ne 12, 3) := by decide +kernel
theorem dX7_carryOut_110 : decode cX7_carryOut 110 = .ok (.aload_n 0, 1) := by decide +kernel
theorem dX7_carryOut_111 : decode cX7_carryOut 111 = .ok (.getfield 12, 3) := by decide +kernel
theorem dX7_carryOut_114 : decode cX7_carryOut 114 = .ok (.iload_n 2, 1) := by decide +kernel
theorem dX7_carryOut_115 : decode cX7_carryOut 115 = .ok (.invokevirtual 94, 3) := by decide +kernel
theorem dX7_carryOut_118 : decode cX7_carryOut 118 = .ok (.pop, 1) := by decide +kernel
theorem dX7_carryOut_119 : decode cX7_carryOut 119 = .ok (.iconst 0, 1) := by decide +kernel
theorem dX7_carryOut_120 : decode cX7_carryOut 120 = .ok (.ireturn, 1) := by decide +kernel
theorem dX7_carryOut_121 : decode cX7_carryOut 121 = .ok (.aload_n 0, 1) := by decide +kernel
theorem dX7_carryOut_122 : decode cX7_carryOut 122 = .ok (.getfield 12, 3) := by decide +kernel
theorem dX7_carryOut_125 : decode cX7_carryOut 125 = .ok (.getfield 77, 3) := by decide +kernel
theorem dX7_carryOut_128 : decode cX7_carryOut 128 = .ok (.iload_n 2, 1) := by decide +kernel
theorem dX7_carryOut_129 : decode cX7_carryOut 129 = .ok (.aaload, 1) := by decide +kernel
theorem dX7_carryOut_130 : decode cX7_carryOut 130 = .ok (.invokevirtual 97, 3) := by decide +kernel
theorem dX7_carryOut_133 : decode cX7_carryOut 133 = .ok (.ifCond .eq 22, 3) := by decide +kernel
theorem dX7_carryOut_136 : decode cX7_carryOut 136 = .ok (.aload_n 0, 1) := by decide +kernel
theorem dX7_carryOut_137 : decode cX7_carryOut 137 = .ok (.getfield 12, 3) := by decide +kernel
theorem dX7_carryOut_140 : decode cX7_carryOut 140 = .ok (.invokevirtual 87, 3) := by decide +kernel
theorem dX7_carryOut_143 : decode cX7_carryOut 143 = .ok (.ifCond .ne 12, 3) := by decide +kernel
theorem dX7_carryOut_146 : decode cX7_carryOut 146 = .ok (.aload_n 0, 1) := by decide +kernel
theorem dX7_carryOut_147 : decode cX7_carryOut 147 = .ok (.getfield 12, 3) := by decide +kernel
theorem dX7_carryOut_150 : decode cX7_carryOut 150 = .ok (.iload_n 2, 1) := by decide +kernel
theorem dX7_carryOut_151 : decode cX7_carryOut 151 = .ok (.invokevirtual 103, 3) := by decide +kernel
theorem dX7_carryOut_154 : decode cX7_carryOut 154 = .ok (.pop, 1) := by decide +kernel
theorem dX7_carryOut_155 : decode cX7_carryOut 155 = .ok (.iconst 0, 1) := by decide +kernel
theorem dX7_carryOut_156 : decode cX7_carryOut 156 = .ok (.ireturn, 1) := by decide +kernel
theorem dX7_carryOut_157 : decode cX7_carryOut 157 = .ok (.aload_n 0, 1) := by decide +kernel
theorem dX7_carryOut_158 : decode cX7_carryOut 158 = .ok (.getfield 12, 3) := by decide +kernel
theorem dX7_carryOut_161 : decode cX7_carryOut 161 = .ok (.iload 4, 2) := by decide +kernel
theorem dX7_carryOut_163 : decode cX7_carryOut 163 = .ok (.invokevirtual 106, 3) := by decide +kernel
theorem dX7_carryOut_166 : decode cX7_carryOut 166 = .ok (.ireturn, 1) := by decide +kernel
theorem dX7_carryOut_167 : decode cX7_carryOut 167 = .ok (.aload_n 0, 1) := by decide +kernel
theorem dX7_carryOut_168 : decode cX7_carryOut 168 = .ok (.getfield 12, 3) := by decide +kernel
theorem dX7_carryOut_171 : decode cX7_carryOut 171 = .ok (.getfield 66, 3) := by decide +kernel
theorem dX7_carryOut_174 : decode cX7_carryOut 174 = .ok (.iload_n 2, 1) := by decide +kernel
theorem dX7_carryOut_175 : decode cX7_carryOut 175 = .ok (.aaload, 1) := by decide +kernel
theorem dX7_carryOut_176 : decode cX7_carryOut 176 = .ok (.iload_n 3, 1) := by decide +kernel
theorem dX7_carryOut_177 : decode cX7_carryOut 177 = .ok (.iload 4, 2) := by decide +kernel
theorem dX7_carryOut_179 : decode cX7_carryOut 179 = .ok (.iastore, 1) := by decide +kernel
theorem dX7_carryOut_180 : decode cX7_carryOut 180 = .ok (.iconst 0, 1) := by decide +kernel
theorem dX7_carryOut_181 : decode cX7_carryOut 181 = .ok (.ireturn, 1) := by decide +kernel
theorem dX7_carryOut_182 : decode cX7_carryOut 182 = .ok (.aload_n 0, 1) := by decide +kernel
theorem dX7_carryOut_183 : decode cX7_carryOut 183 = .ok (.getfield 12, 3) := by decide +kernel
theorem dX7_carryOut_186 : decode cX7_carryOut 186 = .ok (.getfield 51, 3) := by decide +kernel
theorem dX7_carryOut_189 : decode cX7_carryOut 189 = .ok (.iload_n 3, 1) := by decide +kernel
theorem dX7_carryOut_190 : decode cX7_carryOut 190 = .ok (.aaload, 1) := by decide +kernel
theorem dX7_carryOut_191 : decode cX7_carryOut 191 = .ok (.iload 4, 2) := by decide +kernel
theorem dX7_carryOut_193 : decode cX7_carryOut 193 = .ok (.putfield 60, 3) := by decide +kernel
theorem dX7_carryOut_196 : decode cX7_carryOut 196 = .ok (.iconst 0, 1) := by decide +kernel
theorem dX7_carryOut_197 : decode cX7_carryOut 197 = .ok (.ireturn, 1) := by decide +kernel
theorem dX7_carryOut_198 : decode cX7_carryOut 198 = .ok (.aload_n 0, 1) := by decide +kernel
theorem dX7_carryOut_199 : decode cX7_carryOut 199 = .ok (.getfield 12, 3) := by decide +kernel
theorem dX7_carryOut_202 : decode cX7_carryOut 202 = .ok (.getfield 51, 3) := by decide +kernel
theorem dX7_carryOut_205 : decode cX7_carryOut 205 = .ok (.iload_n 3, 1) := by decide +kernel
theorem dX7_carryOut_206 : decode cX7_carryOut 206 = .ok (.aaload, 1) := by decide +kernel
theorem dX7_carryOut_207 : decode cX7_carryOut 207 = .ok (.iload 4, 2) := by decide +kernel
theorem dX7_carryOut_209 : decode cX7_carryOut 209 = .ok (.putfield 55, 3) := by decide +kernel
theorem dX7_carryOut_212 : decode cX7_carryOut 212 = .ok (.iconst 0, 1) := by decide +kernel
theorem dX7_carryOut_213 : decode cX7_carryOut 213 = .ok (.ireturn, 1) := by decide +kernel
theorem dX7_carryOut_214 : decode cX7_carryOut 214 = .ok (.aload_n 0, 1) := by decide +kernel
theorem dX7_carryOut_215 : decode cX7_carryOut 215 = .ok (.getfield 12, 3) := by decide +kernel
theorem dX7_carryOut_218 : decode cX7_carryOut 218 = .ok (.getfield 77, 3) := by decide +kernel
theorem dX7_carryOut_221 : decode cX7_carryOut 221 = .ok (.iload_n 2, 1) := by decide +kernel
theorem dX7_carryOut_222 : decode cX7_carryOut 222 = .ok (.aaload, 1) := by decide +kernel
theorem dX7_carryOut_223 : decode cX7_carryOut 223 = .ok (.invokevirtual 112, 3) := by decide +kernel
theorem dX7_carryOut_226 : decode cX7_carryOut 226 = .ok (.iconst 0, 1) := by decide +kernel
theorem dX7_carryOut_227 : decode cX7_carryOut 227 = .ok (.ireturn, 1) := by decide +kernel
theorem dX8_init_0 : decode cX8_init 0 = .ok (.aload_n 0, 1) := by decide +kernel
theorem dX8_init_1 : decode cX8_init 1 = .ok (.invokespecial 1, 3) := by decide +kernel
theorem dX8_init_4 : decode cX8_init 4 = .ok (.aload_n 0, 1) := by decide +kernel
theorem dX8_init_5 : decode cX8_init 5 = .ok (.iconst 3, 1) := by decide +kernel
theorem dX8_init_6 : decode cX8_init 6 = .ok (.newarray .int, 2) := by decide +kernel
theorem dX8_init_8 : decode cX8_init 8 = .ok (.putfield 7, 3) := by decide +kernel
theorem dX8_init_11 : decode cX8_init 11 = .ok (.aload_n 0, 1) := by decide +kernel
theorem dX8_init_12 : decode cX8_init 12 = .ok (.iconst 3, 1) := by decide +kernel
theorem dX8_init_13 : decode cX8_init 13 = .ok (.putfield 13, 3) := by decide +kernel
theorem dX8_init_16 : decode cX8_init 16 = .ok (.aload_n 0, 1) := by decide +kernel
theorem dX8_init_17 : decode cX8_init 17 = .ok (.iconst 2, 1) := by decide +kernel
theorem dX8_init_18 : decode cX8_init 18 = .ok (.putfield 17, 3) := by decide +kernel
theorem dX8_init_21 : decode cX8_init 21 = .ok (.aload_n 0, 1) := by decide +kernel
theorem dX8_init_22 : decode cX8_init 22 = .ok (.iconst 3, 1) := by decide +kernel
theorem dX8_init_23 : decode cX8_init 23 = .ok (.putfield 20, 3) := by decide +kernel
theorem dX8_init_26 : decode cX8_init 26 = .ok (.aload_n 0, 1) := by decide +kernel
theorem dX8_init_27 : decode cX8_init 27 = .ok (.iconst 4, 1) := by decide +kernel
theorem dX8_init_28 : decode cX8_init 28 = .ok (.newarray .int, 2) := by decide +kernel
theorem dX8_init_30 : decode cX8_init 30 = .ok (.putfield 23, 3) := by decide +kernel
theorem dX8_init_33 : decode cX8_init 33 = .ok (.aload_n 0, 1) := by decide +kernel
theorem dX8_init_34 : decode cX8_init 34 = .ok (.iconst 4, 1) := by decide +kernel
theorem dX8_init_35 : decode cX8_init 35 = .ok (.newarray .int, 2) := by decide +kernel
theorem dX8_init_37 : decode cX8_init 37 = .ok (.dup, 1) := by decide +kernel
theorem dX8_init_38 : decode cX8_init 38 = .ok (.iconst 0, 1) := by decide +kernel
theorem dX8_init_39 : decode cX8_init 39 = .ok (.bipush 10, 2) := by decide +kernel
theorem dX8_init_41 : decode cX8_init 41 = .ok (.iastore, 1) := by decide +kernel
theorem dX8_init_42 : decode cX8_init 42 = .ok (.dup, 1) := by decide +kernel
theorem dX8_init_43 : decode cX8_init 43 = .ok (.iconst 1, 1) := by decide +kernel
theorem dX8_init_44 : decode cX8_init 44 = .ok (.bipush 10, 2) := by decide +kernel
theorem dX8_init_46 : decode cX8_init 46 = .ok (.iastore, 1) := by decide +kernel
theorem dX8_init_47 : decode cX8_init 47 = .ok (.dup, 1) := by decide +kernel
theorem dX8_init_48 : decode cX8_init 48 = .ok (.iconst 2, 1) := by decide +kernel
theorem dX8_init_49 : decode cX8_init 49 = .ok (.bipush 10, 2) := by decide +kernel
theorem dX8_init_51 : decode cX8_init 51 = .ok (.iastore, 1) := by decide +kernel
theorem dX8_init_52 : decode cX8_init 52 = .ok (.dup, 1) := by decide +kernel
theorem dX8_init_53 : decode cX8_init 53 = .ok (.iconst 3, 1) := by decide +kernel
theorem dX8_init_54 : decode cX8_init 54 = .ok (.bipush 10, 2) := by decide +kernel
theorem dX8_init_56 : decode cX8_init 56 = .ok (.iastore, 1) := by decide +kernel
theorem dX8_init_57 : decode cX8_init 57 = .ok (.putfield 26, 3) := by decide +kernel
theorem dX8_init_60 : decode cX8_init 60 = .ok (.aload_n 0, 1) := by decide +kernel
theorem dX8_init_61 : decode cX8_init 61 = .ok (.iconst 4, 1) := by decide +kernel
theorem dX8_init_62 : decode cX8_init 62 = .ok (.newarray .int, 2) := by decide +kernel
theorem dX8_init_64 : decode cX8_init 64 = .ok (.putfield 29, 3) := by decide +kernel
theorem dX8_init_67 : decode cX8_init 67 = .ok (.aload_n 0, 1) := by decide +kernel
theorem dX8_init_68 : decode cX8_init 68 = .ok (.iconst 4, 1) := by decide +kernel
theorem dX8_init_69 : decode cX8_init 69 = .ok (.newarray .int, 2) := by decide +kernel
theorem dX8_init_71 : decode cX8_init 71 = .ok (.putfield 32, 3) := by decide +kernel
theorem dX8_init_74 : decode cX8_init 74 = .ok (.aload_n 0, 1) := by decide +kernel
theorem dX8_init_75 : decode cX8_init 75 = .ok (.iconst 4, 1) := by decide +kernel
theorem dX8_init_76 : decode cX8_init 76 = .ok (.newarray .int, 2) := by decide +kernel
theorem dX8_init_78 : decode cX8_init 78 = .ok (.putfield 35, 3) := by decide +kernel
theorem dX8_init_81 : decode cX8_init 81 = .ok (.aload_n 0, 1) := by decide +kernel
theorem dX8_init_82 : decode cX8_init 82 = .ok (.iconst 4, 1) := by decide +kernel
theorem dX8_init_83 : decode cX8_init 83 = .ok (.newarray .int, 2) := by decide +kernel
theorem dX8_init_85 : decode cX8_init 85 = .ok (.putfield 38, 3) := by decide +kernel
theorem dX8_init_88 : decode cX8_init 88 = .ok (.aload_n 0, 1) := by decide +kernel
theorem dX8_init_89 : decode cX8_init 89 = .ok (.bipush 24, 2) := by decide +kernel
theorem dX8_init_91 : decode cX8_init 91 = .ok (.newarray .int, 2) := by decide +kernel
theorem dX8_init_93 : decode cX8_init 93 = .ok (.dup, 1) := by decide +kernel
theorem dX8_init_94 : decode cX8_init 94 = .ok (.iconst 0, 1) := by decide +kernel
theorem dX8_init_95 : decode cX8_init 95 = .ok (.bipush 20, 2) := by decide +kernel
theorem dX8_init_97 : decode cX8_init 97 = .ok (.iastore, 1) := by decide +kernel
theorem dX8_init_98 : decode cX8_init 98 = .ok (.dup, 1) := by decide +kernel
theorem dX8_init_99 : decode cX8_init 99 = .ok (.iconst 1, 1) := by decide +kernel
theorem dX8_init_100 : decode cX8_init 100 = .ok (.bipush 20, 2) := by decide +kernel
theorem dX8_init_102 : decode cX8_init 102 = .ok (.iastore, 1) := by decide +kernel
theorem dX8_init_103 : decode cX8_init 103 = .ok (.dup, 1) := by decide +kernel
theorem dX8_init_104 : decode cX8_init 104 = .ok (.iconst 2, 1) := by decide +kernel
theorem dX8_init_105 : decode cX8_init 105 = .ok (.bipush 20, 2) := by decide +kernel
theorem dX8_init_107 : decode cX8_init 107 = .ok (.iastore, 1) := by decide +kernel
theorem dX8_init_108 : decode cX8_init 108 = .ok (.dup, 1) := by decide +kernel
theorem dX8_init_109 : decode cX8_init 109 = .ok (.iconst 3, 1) := by decide +kernel
theorem dX8_init_110 : decode cX8_init 110 = .ok (.bipush 20, 2) := by decide +kernel
theorem dX8_init_112 : decode cX8_init 112 = .ok (.iastore, 1) := by decide +kernel
theorem dX8_init_113 : decode cX8_init 113 = .ok (.dup, 1) := by decide +kernel
theorem dX8_init_114 : decode cX8_init 114 = .ok (.iconst 4, 1) := by decide +kernel
theorem dX8_init_115 : decode cX8_init 115 = .ok (.bipush 20, 2) := by decide +kernel
theorem dX8_init_117 : decode cX8_init 117 = .ok (.iastore, 1) := by decide +kernel
theorem dX8_init_118 : decode cX8_init 118 = .ok (.dup, 1) := by decide +kernel
theorem dX8_init_119 : decode cX8_init 119 = .ok (.iconst 5, 1) := by decide +kernel
theorem dX8_init_120 : decode cX8_init 120 = .ok (.bipush 20, 2) := by decide +kernel
theorem dX8_init_122 : decode cX8_init 122 = .ok (.iastore, 1) := by decide +kernel
theorem dX8_init_123 : decode cX8_init 123 = .ok (.dup, 1) := by decide +kernel
theorem dX8_init_124 : decode cX8_init 124 = .ok (.bipush 6, 2) := by decide +kernel
theorem dX8_init_126 : decode cX8_init 126 = .ok (.bipush 20, 2) := by decide +kernel
theorem dX8_init_128 : decode cX8_init 128 = .ok (.iastore, 1) := by decide +kernel
theorem dX8_init_129 : decode cX8_init 129 = .ok (.dup, 1) := by decide +kernel
theorem dX8_init_130 : decode cX8_init 130 = .ok (.bipush 7, 2) := by decide +kernel
theorem dX8_init_132 : decode cX8_init 132 = .ok (.bipush 20, 2) := by decide +kernel
theorem dX8_init_134 : decode cX8_init 134 = .ok (.iastore, 1) := by decide +kernel
theorem dX8_init_135 : decode cX8_init 135 = .ok (.dup, 1) := by decide +kernel
theorem dX8_init_136 : decode cX8_init 136 = .ok (.bipush 8, 2) := by decide +kernel
theorem dX8_init_138 : decode cX8_init 138 = .ok (.bipush 20, 2) := by decide +kernel
theorem dX8_init_140 : decode cX8_init 140 = .ok (.iastore, 1) := by decide +kernel
theorem dX8_init_141 : decode cX8_init 141 = .ok (.dup, 1) := by decide +kernel
theorem dX8_init_142 : decode cX8_init 142 = .ok (.bipush 9, 2) := by decide +kernel
theorem dX8_init_144 : decode cX8_init 144 = .ok (.bipush 20, 2) := by decide +kernel
theorem dX8_init_146 : decode cX8_init 146 = .ok (.iastore, 1) := by decide +kernel
theorem dX8_init_147 : decode cX8_init 147 = .ok (.dup, 1) := by decide +kernel
theorem dX8_init_148 : decode cX8_init 148 = .ok (.bipush 10, 2) := by decide +kernel
theorem dX8_init_150 : decode cX8_init 150 = .ok (.bipush 20, 2) := by decide +kernel
theorem dX8_init_152 : decode cX8_init 152 = .ok (.iastore, 1) := by decide +kernel
theorem dX8_init_153 : decode cX8_init 153 = .ok (.dup, 1) := by decide +kernel
theorem dX8_init_154 : decode cX8_init 154 = .ok (.bipush 11, 2) := by decide +kernel
theorem dX8_init_156 : decode cX8_init 156 = .ok (.bipush 20, 2) := by decide +kernel
theorem dX8_init_158 : decode cX8_init 158 = .ok (.iastore, 1) := by decide +kernel
theorem dX8_init_159 : decode cX8_init 159 = .ok (.dup, 1) := by decide +kernel
theorem dX8_init_160 : decode cX8_init 160 = .ok (.bipush 12, 2) := by decide +kernel
theorem dX8_init_162 : decode cX8_init 162 = .ok (.bipush 20, 2) := by decide +kernel
theorem dX8_init_164 : decode cX8_init 164 = .ok (.iastore, 1) := by decide +kernel
theorem dX8_init_165 : decode cX8_init 165 = .ok (.dup, 1) := by decide +kernel
theorem dX8_init_166 : decode cX8_init 166 = .ok (.bipush 13, 2) := by decide +kernel
theorem dX8_init_168 : decode cX8_init 168 = .ok (.bipush 20, 2) := by decide +kernel
theorem dX8_init_170 : decode cX8_init 170 = .ok (.iastore, 1) := by decide +kernel
theorem dX8_init_171 : decode cX8_init 171 = .ok (.dup, 1) := by decide +kernel
theorem dX8_init_172 : decode cX8_init 172 = .ok (.bipush 14, 2) := by decide +kernel
theorem dX8_init_174 : decode cX8_init 174 = .ok (.bipush 20, 2) := by decide +kernel
theorem dX8_init_176 : decode cX8_init 176 = .ok (.iastore, 1) := by decide +kernel
theorem dX8_init_177 : decode cX8_init 177 = .ok (.dup, 1) := by decide +kernel
theorem dX8_init_178 : decode cX8_init 178 = .ok (.bipush 15, 2) := by decide +kernel
theorem dX8_init_180 : decode cX8_init 180 = .ok (.bipush 20, 2) := by decide +kernel
theorem dX8_init_182 : decode cX8_init 182 = .ok (.iastore, 1) := by decide +kernel
theorem dX8_init_183 : decode cX8_init 183 = .ok (.dup, 1) := by decide +kernel
theorem dX8_init_184 : decode cX8_init 184 = .ok (.bipush 16, 2) := by decide +kernel
theorem dX8_init_186 : decode cX8_init 186 = .ok (.bipush 20, 2) := by decide +kernel
theorem dX8_init_188 : decode cX8_init 188 = .ok (.iastore, 1) := by decide +kernel
theorem dX8_init_189 : decode cX8_init 189 = .ok (.dup, 1) := by decide +kernel
theorem dX8_init_190 : decode cX8_init 190 = .ok (.bipush 17, 2) := by decide +kernel
theorem dX8_init_192 : decode cX8_init 192 = .ok (.bipush 20, 2) := by decide +kernel
theorem dX8_init_194 : decode cX8_init 194 = .ok (.iastore, 1) := by decide +kernel
theorem dX8_init_195 : decode cX8_init 195 = .ok (.dup, 1) := by decide +kernel
theorem dX8_init_196 : decode cX8_init 196 = .ok (.bipush 18, 2) := by decide +kernel
theorem dX8_init_198 : decode cX8_init 198 = .ok (.bipush 20, 2) := by decide +kernel
theorem dX8_init_200 : decode cX8_init 200 = .ok (.iastore, 1) := by decide +kernel
theorem dX8_init_201 : decode cX8_init 201 = .ok (.dup, 1) := by decide +kernel
theorem dX8_init_202 : decode cX8_init 202 = .ok (.bipush 19, 2) := by decide +kernel
theorem dX8_init_204 : decode cX8_init 204 = .ok (.bipush 20, 2) := by decide +kernel
theorem dX8_init_206 : decode cX8_init 206 = .ok (.iastore, 1) := by decide +kernel
theorem dX8_init_207 : decode cX8_init 207 = .ok (.dup, 1) := by decide +kernel
theorem dX8_init_208 : decode cX8_init 208 = .ok (.bipush 20, 2) := by decide +kernel
theorem dX8_init_210 : decode cX8_init 210 = .ok (.bipush 20, 2) := by decide +kernel
theorem dX8_init_212 : decode cX8_init 212 = .ok (.iastore, 1) := by decide +kernel
theorem dX8_init_213 : decode cX8_init 213 = .ok (.dup, 1) := by decide +kernel
theorem dX8_init_214 : decode cX8_init 214 = .ok (.bipush 21, 2) := by decide +kernel
theorem dX8_init_216 : decode cX8_init 216 = .ok (.bipush 20, 2) := by decide +kernel
theorem dX8_init_218 : decode cX8_init 218 = .ok (.iastore, 1) := by decide +kernel
theorem dX8_init_219 : decode cX8_init 219 = .ok (.dup, 1) := by decide +kernel
theorem dX8_init_220 : decode cX8_init 220 = .ok (.bipush 22, 2) := by decide +kernel
theorem dX8_init_222 : decode cX8_init 222 = .ok (.bipush 20, 2) := by decide +kernel
theorem dX8_init_224 : decode cX8_init 224 = .ok (.iastore, 1) := by decide +kernel
theorem dX8_init_225 : decode cX8_init 225 = .ok (.dup, 1) := by decide +kernel
theorem dX8_init_226 : decode cX8_init 226 = .ok (.bipush 23, 2) := by decide +kernel
theorem dX8_init_228 : decode cX8_init 228 = .ok (.bipush 20, 2) := by decide +kernel
theorem dX8_init_230 : decode cX8_init 230 = .ok (.iastore, 1) := by decide +kernel
theorem dX8_init_231 : decode cX8_init 231 = .ok (.putfield 41, 3) := by decide +kernel
theorem dX8_init_234 : decode cX8_init 234 = .ok (.aload_n 0, 1) := by decide +kernel
theorem dX8_init_235 : decode cX8_init 235 = .ok (.bipush 6, 2) := by decide +kernel
theorem dX8_init_237 : decode cX8_init 237 = .ok (.newarray .int, 2) := by decide +kernel
theorem dX8_init_239 : decode cX8_init 239 = .ok (.putfield 44, 3) := by decide +kernel
theorem dX8_init_242 : decode cX8_init 242 = .ok (.aload_n 0, 1) := by decide +kernel
theorem dX8_init_243 : decode cX8_init 243 = .ok (.bipush 6, 2) := by decide +kernel
theorem dX8_init_245 : decode cX8_init 245 = .ok (.newarray .int, 2) := by decide +kernel
theorem dX8_init_247 : decode cX8_init 247 = .ok (.dup, 1) := by decide +kernel
theorem dX8_init_248 : decode cX8_init 248 = .ok (.iconst 0, 1) := by decide +kernel
theorem dX8_init_249 : decode cX8_init 249 = .ok (.iconst 4, 1) := by decide +kernel
theorem dX8_init_250 : decode cX8_init 250 = .ok (.iastore, 1) := by decide +kernel
theorem dX8_init_251 : decode cX8_init 251 = .ok (.dup, 1) := by decide +kernel
theorem dX8_init_252 : decode cX8_init 252 = .ok (.iconst 1, 1) := by decide +kernel
theorem dX8_init_253 : decode cX8_init 253 = .ok (.iconst 4, 1) := by decide +kernel
theorem dX8_init_254 : decode cX8_init 254 = .ok (.iastore, 1) := by decide +kernel
theorem dX8_init_255 : decode cX8_init 255 = .ok (.dup, 1) := by decide +kernel
theorem dX8_init_256 : decode cX8_init 256 = .ok (.iconst 2, 1) := by decide +kernel
theorem dX8_init_257 : decode cX8_init 257 = .ok (.iconst 4, 1) := by decide +kernel
theorem dX8_init_258 : decode cX8_init 258 = .ok (.iastore, 1) := by decide +kernel
theorem dX8_init_259 : decode cX8_init 259 = .ok (.dup, 1) := by decide +kernel
theorem dX8_init_260 : decode cX8_init 260 = .ok (.iconst 3, 1) := by decide +kernel
theorem dX8_init_261 : decode cX8_init 261 = .ok (.iconst 4, 1) := by decide +kernel
theorem dX8_init_262 : decode cX8_init 262 = .ok (.iastore, 1) := by decide +kernel
theorem dX8_init_263 : decode cX8_init 263 = .ok (.dup, 1) := by decide +kernel
theorem dX8_init_264 : decode cX8_init 264 = .ok (.iconst 4, 1) := by decide +kernel
theorem dX8_init_265 : decode cX8_init 265 = .ok (.iconst 4, 1) := by decide +kernel
theorem dX8_init_266 : decode cX8_init 266 = .ok (.iastore, 1) := by decide +kernel
theorem dX8_init_267 : decode cX8_init 267 = .ok (.dup, 1) := by decide +kernel
theorem dX8_init_268 : decode cX8_init 268 = .ok (.iconst 5, 1) := by decide +kernel
theorem dX8_init_269 : decode cX8_init 269 = .ok (.iconst 4, 1) := by decide +kernel
theorem dX8_init_270 : decode cX8_init 270 = .ok (.iastore, 1) := by decide +kernel
theorem dX8_init_271 : decode cX8_init 271 = .ok (.putfield 47, 3) := by decide +kernel
theorem dX8_init_274 : decode cX8_init 274 = .ok (.aload_n 0, 1) := by decide +kernel
theorem dX8_init_275 : decode cX8_init 275 = .ok (.bipush 6, 2) := by decide +kernel
theorem dX8_init_277 : decode cX8_init 277 = .ok (.newarray .int, 2) := by decide +kernel
theorem dX8_init_279 : decode cX8_init 279 = .ok (.putfield 50, 3) := by decide +kernel
theorem dX8_init_282 : decode cX8_init 282 = .ok (.aload_n 0, 1) := by decide +kernel
theorem dX8_init_283 : decode cX8_init 283 = .ok (.bipush 6, 2) := by decide +kernel
theorem dX8_init_285 : decode cX8_init 285 = .ok (.newarray .int, 2) := by decide +kernel
theorem dX8_init_287 : decode cX8_init 287 = .ok (.putfield 53, 3) := by decide +kernel
theorem dX8_init_290 : decode cX8_init 290 = .ok (.aload_n 0, 1) := by decide +kernel
theorem dX8_init_291 : decode cX8_init 291 = .ok (.bipush 6, 2) := by decide +kernel
theorem dX8_init_293 : decode cX8_init 293 = .ok (.newarray .int, 2) := by decide +kernel
theorem dX8_init_295 : decode cX8_init 295 = .ok (.dup, 1) := by decide +kernel
theorem dX8_init_296 : decode cX8_init 296 = .ok (.iconst 0, 1) := by decide +kernel
theorem dX8_init_297 : decode cX8_init 297 = .ok (.bipush (-2), 2) := by decide +kernel
theorem dX8_init_299 : decode cX8_init 299 = .ok (.iastore, 1) := by decide +kernel
theorem dX8_init_300 : decode cX8_init 300 = .ok (.dup, 1) := by decide +kernel
theorem dX8_init_301 : decode cX8_init 301 = .ok (.iconst 1, 1) := by decide +kernel
theorem dX8_init_302 : decode cX8_init 302 = .ok (.bipush (-2), 2) := by decide +kernel
theorem dX8_init_304 : decode cX8_init 304 = .ok (.iastore, 1) := by decide +kernel
theorem dX8_init_305 : decode cX8_init 305 = .ok (.dup, 1) := by decide +kernel
theorem dX8_init_306 : decode cX8_init 306 = .ok (.iconst 2, 1) := by decide +kernel
theorem dX8_init_307 : decode cX8_init 307 = .ok (.bipush (-2), 2) := by decide +kernel
theorem dX8_init_309 : decode cX8_init 309 = .ok (.iastore, 1) := by decide +kernel
theorem dX8_init_310 : decode cX8_init 310 = .ok (.dup, 1) := by decide +kernel
theorem dX8_init_311 : decode cX8_init 311 = .ok (.iconst 3, 1) := by decide +kernel
theorem dX8_init_312 : decode cX8_init 312 = .ok (.bipush (-2), 2) := by decide +kernel
theorem dX8_init_314 : decode cX8_init 314 = .ok (.iastore, 1) := by decide +kernel
theorem dX8_init_315 : decode cX8_init 315 = .ok (.dup, 1) := by decide +kernel
theorem dX8_init_316 : decode cX8_init 316 = .ok (.iconst 4, 1) := by decide +kernel
theorem dX8_init_317 : decode cX8_init 317 = .ok (.bipush (-2), 2) := by decide +kernel
theorem dX8_init_319 : decode cX8_init 319 = .ok (.iastore, 1) := by decide +kernel
theorem dX8_init_320 : decode cX8_init 320 = .ok (.dup, 1) := by decide +kernel
theorem dX8_init_321 : decode cX8_init 321 = .ok (.iconst 5, 1) := by decide +kernel
theorem dX8_init_322 : decode cX8_init 322 = .ok (.bipush (-2), 2) := by decide +kernel
theorem dX8_init_324 : decode cX8_init 324 = .ok (.iastore, 1) := by decide +kernel
theorem dX8_init_325 : decode cX8_init 325 = .ok (.putfield 56, 3) := by decide +kernel
theorem dX8_init_328 : decode cX8_init 328 = .ok (.aload_n 0, 1) := by decide +kernel
theorem dX8_init_329 : decode cX8_init 329 = .ok (.bipush 6, 2) := by decide +kernel
theorem dX8_init_331 : decode cX8_init 331 = .ok (.newarray .int, 2) := by decide +kernel
theorem dX8_init_333 : decode cX8_init 333 = .ok (.dup, 1) := by decide +kernel
theorem dX8_init_334 : decode cX8_init 334 = .ok (.iconst 0, 1) := by decide +kernel
theorem dX8_init_335 : decode cX8_init 335 = .ok (.bipush 63, 2) := by decide +kernel
theorem dX8_init_337 : decode cX8_init 337 = .ok (.iastore, 1) := by decide +kernel
theorem dX8_init_338 : decode cX8_init 338 = .ok (.dup, 1) := by decide +kernel
theorem dX8_init_339 : decode cX8_init 339 = .ok (.iconst 1, 1) := by decide +kernel
theorem dX8_init_340 : decode cX8_init 340 = .ok (.bipush 63, 2) := by decide +kernel
theorem dX8_init_342 : decode cX8_init 342 = .ok (.iastore, 1) := by decide +kernel
theorem dX8_init_343 : decode cX8_init 343 = .ok (.dup, 1) := by decide +kernel
theorem dX8_init_344 : decode cX8_init 344 = .ok (.iconst 2, 1) := by decide +kernel
theorem dX8_init_345 : decode cX8_init 345 = .ok (.bipush 63, 2) := by decide +kernel
theorem dX8_init_347 : decode cX8_init 347 = .ok (.iastore, 1) := by decide +kernel
theorem dX8_init_348 : decode cX8_init 348 = .ok (.dup, 1) := by decide +kernel
theorem dX8_init_349 : decode cX8_init 349 = .ok (.iconst 3, 1) := by decide +kernel
theorem dX8_init_350 : decode cX8_init 350 = .ok (.bipush 63, 2) := by decide +kernel
theorem dX8_init_352 : decode cX8_init 352 = .ok (.iastore, 1) := by decide +kernel
theorem dX8_init_353 : decode cX8_init 353 = .ok (.dup, 1) := by decide +kernel
theorem dX8_init_354 : decode cX8_init 354 = .ok (.iconst 4, 1) := by decide +kernel
theorem dX8_init_355 : decode cX8_init 355 = .ok (.bipush 63, 2) := by decide +kernel
theorem dX8_init_357 : decode cX8_init 357 = .ok (.iastore, 1) := by decide +kernel
theorem dX8_init_358 : decode cX8_init 358 = .ok (.dup, 1) := by decide +kernel
theorem dX8_init_359 : decode cX8_init 359 = .ok (.iconst 5, 1) := by decide +kernel
theorem dX8_init_360 : decode cX8_init 360 = .ok (.bipush 63, 2) := by decide +kernel
theorem dX8_init_362 : decode cX8_init 362 = .ok (.iastore, 1) := by decide +kernel
theorem dX8_init_363 : decode cX8_init 363 = .ok (.putfield 59, 3) := by decide +kernel
theorem dX8_init_366 : decode cX8_init 366 = .ok (.aload_n 0, 1) := by decide +kernel
theorem dX8_init_367 : decode cX8_init 367 = .ok (.bipush 6, 2) := by decide +kernel
theorem dX8_init_369 : decode cX8_init 369 = .ok (.newarray .int, 2) := by decide +kernel
theorem dX8_init_371 : decode cX8_init 371 = .ok (.putfield 62, 3) := by decide +kernel
theorem dX8_init_374 : decode cX8_init 374 = .ok (.aload_n 0, 1) := by decide +kernel
theorem dX8_init_375 : decode cX8_init 375 = .ok (.bipush 24, 2) := by decide +kernel
theorem dX8_init_377 : decode cX8_init 377 = .ok (.newarray .int, 2) := by decide +kernel
theorem dX8_init_379 : decode cX8_init 379 = .ok (.putfield 65, 3) := by decide +kernel
theorem dX8_init_382 : decode cX8_init 382 = .ok (.aload_n 0, 1) := by decide +kernel
theorem dX8_init_383 : decode cX8_init 383 = .ok (.bipush 6, 2) := by decide +kernel
theorem dX8_init_385 : decode cX8_init 385 = .ok (.newarray .int, 2) := by decide +kernel
theorem dX8_init_387 : decode cX8_init 387 = .ok (.putfield 68, 3) := by decide +kernel
theorem dX8_init_390 : decode cX8_init 390 = .ok (.aload_n 0, 1) := by decide +kernel
theorem dX8_init_391 : decode cX8_init 391 = .ok (.bipush 6, 2) := by decide +kernel
theorem dX8_init_393 : decode cX8_init 393 = .ok (.newarray .int, 2) := by decide +kernel
theorem dX8_init_395 : decode cX8_init 395 = .ok (.putfield 71, 3) := by decide +kernel
theorem dX8_init_398 : decode cX8_init 398 = .ok (.aload_n 0, 1) := by decide +kernel
theorem dX8_init_399 : decode cX8_init 399 = .ok (.bipush 60, 2) := by decide +kernel
theorem dX8_init_401 : decode cX8_init 401 = .ok (.newarray .int, 2) := by decide +kernel
theorem dX8_init_403 : decode cX8_init 403 = .ok (.putfield 74, 3) := by decide +kernel
theorem dX8_init_406 : decode cX8_init 406 = .ok (.aload_n 0, 1) := by decide +kernel
theorem dX8_init_407 : decode cX8_init 407 = .ok (.bipush 60, 2) := by decide +kernel
theorem dX8_init_409 : decode cX8_init 409 = .ok (.newarray .int, 2) := by decide +kernel
theorem dX8_init_411 : decode cX8_init 411 = .ok (.putfield 77, 3) := by decide +kernel
theorem dX8_init_414 : decode cX8_init 414 = .ok (.aload_n 0, 1) := by decide +kernel
theorem dX8_init_415 : decode cX8_init 415 = .ok (.bipush 60, 2) := by decide +kernel
theorem dX8_init_417 : decode cX8_init 417 = .ok (.newarray .int, 2) := by decide +kernel
theorem dX8_init_419 : decode cX8_init 419 = .ok (.putfield 80, 3) := by decide +kernel
theorem dX8_init_422 : decode cX8_init 422 = .ok (.aload_n 0, 1) := by decide +kernel
theorem dX8_init_423 : decode cX8_init 423 = .ok (.bipush 60, 2) := by decide +kernel
theorem dX8_init_425 : decode cX8_init 425 = .ok (.newarray .int, 2) := by decide +kernel
theorem dX8_init_427 : decode cX8_init 427 = .ok (.putfield 83, 3) := by decide +kernel
theorem dX8_init_430 : decode cX8_init 430 = .ok (.aload_n 0, 1) := by decide +kernel
theorem dX8_init_431 : decode cX8_init 431 = .ok (.bipush 60, 2) := by decide +kernel
theorem dX8_init_433 : decode cX8_init 433 = .ok (.newarray .int, 2) := by decide +kernel
theorem dX8_init_435 : decode cX8_init 435 = .ok (.putfield 86, 3) := by decide +kernel
theorem dX8_init_438 : decode cX8_init 438 = .ok (.aload_n 0, 1) := by decide +kernel
theorem dX8_init_439 : decode cX8_init 439 = .ok (.sipush 390, 3) := by decide +kernel
theorem dX8_init_442 : decode cX8_init 442 = .ok (.newarray .int, 2) := by decide +kernel
theorem dX8_init_444 : decode cX8_init 444 = .ok (.putfield 89, 3) := by decide +kernel
theorem dX8_init_447 : decode cX8_init 447 = .ok (.aload_n 0, 1) := by decide +kernel
theorem dX8_init_448 : decode cX8_init 448 = .ok (.sipush 390, 3) := by decide +kernel
theorem dX8_init_451 : decode cX8_init 451 = .ok (.newarray .int, 2) := by decide +kernel
theorem dX8_init_453 : decode cX8_init 453 = .ok (.putfield 92, 3) := by decide +kernel
theorem dX8_init_456 : decode cX8_init 456 = .ok (.aload_n 0, 1) := by decide +kernel
theorem dX8_init_457 : decode cX8_init 457 = .ok (.sipush 390, 3) := by decide +kernel
theorem dX8_init_460 : decode cX8_init 460 = .ok (.newarray .int, 2) := by decide +kernel
theorem dX8_init_462 : decode cX8_init 462 = .ok (.putfield 95, 3) := by decide +kernel
theorem dX8_init_465 : decode cX8_init 465 = .ok (.aload_n 0, 1) := by decide +kernel
theorem dX8_init_466 : decode cX8_init 466 = .ok (.sipush 390, 3) := by decide +kernel
theorem dX8_init_469 : decode cX8_init 469 = .ok (.newarray .int, 2) := by decide +kernel
theorem dX8_init_471 : decode cX8_init 471 = .ok (.putfield 98, 3) := by decide +kernel
theorem dX8_init_474 : decode cX8_init 474 = .ok (.aload_n 0, 1) := by decide +kernel
theorem dX8_init_475 : decode cX8_init 475 = .ok (.sipush 1560, 3) := by decide +kernel
theorem dX8_init_478 : decode cX8_init 478 = .ok (.newarray .int, 2) := by decide +kernel
theorem dX8_init_480 : decode cX8_init 480 = .ok (.putfield 101, 3) := by decide +kernel
theorem dX8_init_483 : decode cX8_init 483 = .ok (.aload_n 0, 1) := by decide +kernel
theorem dX8_init_484 : decode cX8_init 484 = .ok (.bipush 6, 2) := by decide +kernel
theorem dX8_init_486 : decode cX8_init 486 = .ok (.newarray .int, 2) := by decide +kernel
theorem dX8_init_488 : decode cX8_init 488 = .ok (.putfield 104, 3) := by decide +kernel
theorem dX8_init_491 : decode cX8_init 491 = .ok (.aload_n 0, 1) := by decide +kernel
theorem dX8_init_492 : decode cX8_init 492 = .ok (.bipush 120, 2) := by decide +kernel
theorem dX8_init_494 : decode cX8_init 494 = .ok (.newarray .int, 2) := by decide +kernel
theorem dX8_init_496 : decode cX8_init 496 = .ok (.putfield 107, 3) := by decide +kernel
theorem dX8_init_499 : decode cX8_init 499 = .ok (.return_, 1) := by decide +kernel
theorem dX8_bad_0 : decode cX8_bad 0 = .ok (.aload_n 0, 1) := by decide +kernel
theorem dX8_bad_1 : decode cX8_bad 1 = .ok (.getfield 7, 3) := by decide +kernel
theorem dX8_bad_4 : decode cX8_bad 4 = .ok (.iconst 0, 1) := by decide +kernel
theorem dX8_bad_5 : decode cX8_bad 5 = .ok (.dup2, 1) := by decide +kernel
theorem dX8_bad_6 : decode cX8_bad 6 = .ok (.iaload, 1) := by decide +kernel
theorem dX8_bad_7 : decode cX8_bad 7 = .ok (.iconst 1, 1) := by decide +kernel
theorem dX8_bad_8 : decode cX8_bad 8 = .ok (.iadd, 1) := by decide +kernel
theorem dX8_bad_9 : decode cX8_bad 9 = .ok (.iastore, 1) := by decide +kernel
theorem dX8_bad_10 : decode cX8_bad 10 = .ok (.bipush (-2), 2) := by decide +kernel
theorem dX8_bad_12 : decode cX8_bad 12 = .ok (.ireturn, 1) := by decide +kernel
theorem dX8_no_0 : decode cX8_no 0 = .ok (.aload_n 0, 1) := by decide +kernel
theorem dX8_no_1 : decode cX8_no 1 = .ok (.getfield 7, 3) := by decide +kernel
theorem dX8_no_4 : decode cX8_no 4 = .ok (.iconst 1, 1) := by decide +kernel
end
section
theorem dX8_no_5 : decode cX8_no 5 = .ok (.dup2, 1) := by decide +kernel
theorem dX8_no_6 : decode cX8_no 6 = .ok (.iaload, 1) := by decide +kernel
theorem dX8_no_7 : decode cX8_no 7 = .ok (.iconst 1, 1) := by decide +kernel
theorem dX8_no_8 : decode cX8_no 8 = .ok (.iadd, 1) := by decide +kernel
theorem dX8_no_9 : decode cX8_no 9 = .ok (.iastore, 1) := by decide +kernel
theorem dX8_no_10 : decode cX8_no 10 = .ok (.bipush (-3), 2) := by decide +kernel
theorem dX8_no_12 : decode cX8_no 12 = .ok (.ireturn, 1) := by decide +kernel
theorem dX8_full_0 : decode cX8_full 0 = .ok (.aload_n 0, 1) := by decide +kernel
theorem dX8_full_1 : decode cX8_full 1 = .ok (.getfield 7, 3) := by decide +kernel
theorem dX8_full_4 : decode cX8_full 4 = .ok (.iconst 2, 1) := by decide +kernel
theorem dX8_full_5 : decode cX8_full 5 = .ok (.dup2, 1) := by decide +kernel
theorem dX8_full_6 : decode cX8_full 6 = .ok (.iaload, 1) := by decide +kernel
theorem dX8_full_7 : decode cX8_full 7 = .ok (.iconst 1, 1) := by decide +kernel
theorem dX8_full_8 : decode cX8_full 8 = .ok (.iadd, 1) := by decide +kernel
theorem dX8_full_9 : decode cX8_full 9 = .ok (.iastore, 1) := by decide +kernel
theorem dX8_full_10 : decode cX8_full 10 = .ok (.bipush (-4), 2) := by decide +kernel
theorem dX8_full_12 : decode cX8_full 12 = .ok (.ireturn, 1) := by decide +kernel
theorem dX8_in_0 : decode cX8_in 0 = .ok (.iload_n 0, 1) := by decide +kernel
theorem dX8_in_1 : decode cX8_in 1 = .ok (.iload_n 1, 1) := by decide +kernel
theorem dX8_in_2 : decode cX8_in 2 = .ok (.if_icmp .lt 12, 3) := by decide +kernel
theorem dX8_in_5 : decode cX8_in 5 = .ok (.iload_n 0, 1) := by decide +kernel
theorem dX8_in_6 : decode cX8_in 6 = .ok (.iload_n 2, 1) := by decide +kernel
theorem dX8_in_7 : decode cX8_in 7 = .ok (.if_icmp .gt 7, 3) := by decide +kernel
theorem dX8_in_10 : decode cX8_in 10 = .ok (.iconst 1, 1) := by decide +kernel
theorem dX8_in_11 : decode cX8_in 11 = .ok (.goto 4, 3) := by decide +kernel
theorem dX8_in_14 : decode cX8_in 14 = .ok (.iconst 0, 1) := by decide +kernel
theorem dX8_in_15 : decode cX8_in 15 = .ok (.ireturn, 1) := by decide +kernel
theorem dX8_isSender_0 : decode cX8_isSender 0 = .ok (.iload_n 1, 1) := by decide +kernel
theorem dX8_isSender_1 : decode cX8_isSender 1 = .ok (.iconst 0, 1) := by decide +kernel
theorem dX8_isSender_2 : decode cX8_isSender 2 = .ok (.aload_n 0, 1) := by decide +kernel
theorem dX8_isSender_3 : decode cX8_isSender 3 = .ok (.getfield 13, 3) := by decide +kernel
theorem dX8_isSender_6 : decode cX8_isSender 6 = .ok (.iconst 1, 1) := by decide +kernel
theorem dX8_isSender_7 : decode cX8_isSender 7 = .ok (.isub, 1) := by decide +kernel
theorem dX8_isSender_8 : decode cX8_isSender 8 = .ok (.invokestatic 110, 3) := by decide +kernel
theorem dX8_isSender_11 : decode cX8_isSender 11 = .ok (.ireturn, 1) := by decide +kernel
theorem dX8_isGate_0 : decode cX8_isGate 0 = .ok (.iload_n 1, 1) := by decide +kernel
theorem dX8_isGate_1 : decode cX8_isGate 1 = .ok (.iconst 0, 1) := by decide +kernel
theorem dX8_isGate_2 : decode cX8_isGate 2 = .ok (.aload_n 0, 1) := by decide +kernel
theorem dX8_isGate_3 : decode cX8_isGate 3 = .ok (.getfield 17, 3) := by decide +kernel
theorem dX8_isGate_6 : decode cX8_isGate 6 = .ok (.iconst 1, 1) := by decide +kernel
theorem dX8_isGate_7 : decode cX8_isGate 7 = .ok (.isub, 1) := by decide +kernel
theorem dX8_isGate_8 : decode cX8_isGate 8 = .ok (.invokestatic 110, 3) := by decide +kernel
theorem dX8_isGate_11 : decode cX8_isGate 11 = .ok (.ireturn, 1) := by decide +kernel
theorem dX8_begins_0 : decode cX8_begins 0 = .ok (.aload_n 0, 1) := by decide +kernel
theorem dX8_begins_1 : decode cX8_begins 1 = .ok (.iconst 0, 1) := by decide +kernel
theorem dX8_begins_2 : decode cX8_begins 2 = .ok (.putfield 114, 3) := by decide +kernel
theorem dX8_begins_5 : decode cX8_begins 5 = .ok (.aload_n 0, 1) := by decide +kernel
theorem dX8_begins_6 : decode cX8_begins 6 = .ok (.iconst 0, 1) := by decide +kernel
theorem dX8_begins_7 : decode cX8_begins 7 = .ok (.putfield 117, 3) := by decide +kernel
theorem dX8_begins_10 : decode cX8_begins 10 = .ok (.aload_n 0, 1) := by decide +kernel
theorem dX8_begins_11 : decode cX8_begins 11 = .ok (.iconst 0, 1) := by decide +kernel
theorem dX8_begins_12 : decode cX8_begins 12 = .ok (.putfield 120, 3) := by decide +kernel
theorem dX8_begins_15 : decode cX8_begins 15 = .ok (.iconst 0, 1) := by decide +kernel
theorem dX8_begins_16 : decode cX8_begins 16 = .ok (.istore_n 1, 1) := by decide +kernel
theorem dX8_begins_17 : decode cX8_begins 17 = .ok (.iload_n 1, 1) := by decide +kernel
theorem dX8_begins_18 : decode cX8_begins 18 = .ok (.iconst 4, 1) := by decide +kernel
theorem dX8_begins_19 : decode cX8_begins 19 = .ok (.if_icmp .ge 52, 3) := by decide +kernel
theorem dX8_begins_22 : decode cX8_begins 22 = .ok (.aload_n 0, 1) := by decide +kernel
theorem dX8_begins_23 : decode cX8_begins 23 = .ok (.getfield 23, 3) := by decide +kernel
theorem dX8_begins_26 : decode cX8_begins 26 = .ok (.iload_n 1, 1) := by decide +kernel
theorem dX8_begins_27 : decode cX8_begins 27 = .ok (.iconst 0, 1) := by decide +kernel
theorem dX8_begins_28 : decode cX8_begins 28 = .ok (.iastore, 1) := by decide +kernel
theorem dX8_begins_29 : decode cX8_begins 29 = .ok (.aload_n 0, 1) := by decide +kernel
theorem dX8_begins_30 : decode cX8_begins 30 = .ok (.getfield 26, 3) := by decide +kernel
theorem dX8_begins_33 : decode cX8_begins 33 = .ok (.iload_n 1, 1) := by decide +kernel
theorem dX8_begins_34 : decode cX8_begins 34 = .ok (.bipush 10, 2) := by decide +kernel
theorem dX8_begins_36 : decode cX8_begins 36 = .ok (.iastore, 1) := by decide +kernel
theorem dX8_begins_37 : decode cX8_begins 37 = .ok (.aload_n 0, 1) := by decide +kernel
theorem dX8_begins_38 : decode cX8_begins 38 = .ok (.getfield 29, 3) := by decide +kernel
theorem dX8_begins_41 : decode cX8_begins 41 = .ok (.iload_n 1, 1) := by decide +kernel
theorem dX8_begins_42 : decode cX8_begins 42 = .ok (.iconst 0, 1) := by decide +kernel
theorem dX8_begins_43 : decode cX8_begins 43 = .ok (.iastore, 1) := by decide +kernel
theorem dX8_begins_44 : decode cX8_begins 44 = .ok (.aload_n 0, 1) := by decide +kernel
theorem dX8_begins_45 : decode cX8_begins 45 = .ok (.getfield 32, 3) := by decide +kernel
theorem dX8_begins_48 : decode cX8_begins 48 = .ok (.iload_n 1, 1) := by decide +kernel
theorem dX8_begins_49 : decode cX8_begins 49 = .ok (.iconst 0, 1) := by decide +kernel
theorem dX8_begins_50 : decode cX8_begins 50 = .ok (.iastore, 1) := by decide +kernel
theorem dX8_begins_51 : decode cX8_begins 51 = .ok (.aload_n 0, 1) := by decide +kernel
theorem dX8_begins_52 : decode cX8_begins 52 = .ok (.getfield 35, 3) := by decide +kernel
theorem dX8_begins_55 : decode cX8_begins 55 = .ok (.iload_n 1, 1) := by decide +kernel
theorem dX8_begins_56 : decode cX8_begins 56 = .ok (.iconst 0, 1) := by decide +kernel
theorem dX8_begins_57 : decode cX8_begins 57 = .ok (.iastore, 1) := by decide +kernel
theorem dX8_begins_58 : decode cX8_begins 58 = .ok (.aload_n 0, 1) := by decide +kernel
theorem dX8_begins_59 : decode cX8_begins 59 = .ok (.getfield 38, 3) := by decide +kernel
theorem dX8_begins_62 : decode cX8_begins 62 = .ok (.iload_n 1, 1) := by decide +kernel
theorem dX8_begins_63 : decode cX8_begins 63 = .ok (.iconst 0, 1) := by decide +kernel
theorem dX8_begins_64 : decode cX8_begins 64 = .ok (.iastore, 1) := by decide +kernel
theorem dX8_begins_65 : decode cX8_begins 65 = .ok (.iinc 1 1, 3) := by decide +kernel
theorem dX8_begins_68 : decode cX8_begins 68 = .ok (.goto (-51), 3) := by decide +kernel
theorem dX8_begins_71 : decode cX8_begins 71 = .ok (.iconst 0, 1) := by decide +kernel
theorem dX8_begins_72 : decode cX8_begins 72 = .ok (.istore_n 1, 1) := by decide +kernel
theorem dX8_begins_73 : decode cX8_begins 73 = .ok (.iload_n 1, 1) := by decide +kernel
theorem dX8_begins_74 : decode cX8_begins 74 = .ok (.bipush 24, 2) := by decide +kernel
theorem dX8_begins_76 : decode cX8_begins 76 = .ok (.if_icmp .ge 17, 3) := by decide +kernel
theorem dX8_begins_79 : decode cX8_begins 79 = .ok (.aload_n 0, 1) := by decide +kernel
theorem dX8_begins_80 : decode cX8_begins 80 = .ok (.getfield 41, 3) := by decide +kernel
theorem dX8_begins_83 : decode cX8_begins 83 = .ok (.iload_n 1, 1) := by decide +kernel
theorem dX8_begins_84 : decode cX8_begins 84 = .ok (.bipush 20, 2) := by decide +kernel
theorem dX8_begins_86 : decode cX8_begins 86 = .ok (.iastore, 1) := by decide +kernel
theorem dX8_begins_87 : decode cX8_begins 87 = .ok (.iinc 1 1, 3) := by decide +kernel
theorem dX8_begins_90 : decode cX8_begins 90 = .ok (.goto (-17), 3) := by decide +kernel
theorem dX8_begins_93 : decode cX8_begins 93 = .ok (.iconst 0, 1) := by decide +kernel
theorem dX8_begins_94 : decode cX8_begins 94 = .ok (.istore_n 1, 1) := by decide +kernel
theorem dX8_begins_95 : decode cX8_begins 95 = .ok (.iload_n 1, 1) := by decide +kernel
theorem dX8_begins_96 : decode cX8_begins 96 = .ok (.bipush 6, 2) := by decide +kernel
theorem dX8_begins_98 : decode cX8_begins 98 = .ok (.if_icmp .ge 43, 3) := by decide +kernel
theorem dX8_begins_101 : decode cX8_begins 101 = .ok (.aload_n 0, 1) := by decide +kernel
theorem dX8_begins_102 : decode cX8_begins 102 = .ok (.getfield 59, 3) := by decide +kernel
theorem dX8_begins_105 : decode cX8_begins 105 = .ok (.iload_n 1, 1) := by decide +kernel
theorem dX8_begins_106 : decode cX8_begins 106 = .ok (.bipush 63, 2) := by decide +kernel
theorem dX8_begins_108 : decode cX8_begins 108 = .ok (.iastore, 1) := by decide +kernel
theorem dX8_begins_109 : decode cX8_begins 109 = .ok (.aload_n 0, 1) := by decide +kernel
theorem dX8_begins_110 : decode cX8_begins 110 = .ok (.getfield 62, 3) := by decide +kernel
theorem dX8_begins_113 : decode cX8_begins 113 = .ok (.iload_n 1, 1) := by decide +kernel
theorem dX8_begins_114 : decode cX8_begins 114 = .ok (.iconst 0, 1) := by decide +kernel
theorem dX8_begins_115 : decode cX8_begins 115 = .ok (.iastore, 1) := by decide +kernel
theorem dX8_begins_116 : decode cX8_begins 116 = .ok (.aload_n 0, 1) := by decide +kernel
theorem dX8_begins_117 : decode cX8_begins 117 = .ok (.getfield 68, 3) := by decide +kernel
theorem dX8_begins_120 : decode cX8_begins 120 = .ok (.iload_n 1, 1) := by decide +kernel
theorem dX8_begins_121 : decode cX8_begins 121 = .ok (.iconst 0, 1) := by decide +kernel
theorem dX8_begins_122 : decode cX8_begins 122 = .ok (.iastore, 1) := by decide +kernel
theorem dX8_begins_123 : decode cX8_begins 123 = .ok (.aload_n 0, 1) := by decide +kernel
theorem dX8_begins_124 : decode cX8_begins 124 = .ok (.getfield 71, 3) := by decide +kernel
theorem dX8_begins_127 : decode cX8_begins 127 = .ok (.iload_n 1, 1) := by decide +kernel
theorem dX8_begins_128 : decode cX8_begins 128 = .ok (.iconst 0, 1) := by decide +kernel
theorem dX8_begins_129 : decode cX8_begins 129 = .ok (.iastore, 1) := by decide +kernel
theorem dX8_begins_130 : decode cX8_begins 130 = .ok (.aload_n 0, 1) := by decide +kernel
theorem dX8_begins_131 : decode cX8_begins 131 = .ok (.iload_n 1, 1) := by decide +kernel
theorem dX8_begins_132 : decode cX8_begins 132 = .ok (.invokevirtual 123, 3) := by decide +kernel
theorem dX8_begins_135 : decode cX8_begins 135 = .ok (.iinc 1 1, 3) := by decide +kernel
theorem dX8_begins_138 : decode cX8_begins 138 = .ok (.goto (-43), 3) := by decide +kernel
theorem dX8_begins_141 : decode cX8_begins 141 = .ok (.iconst 0, 1) := by decide +kernel
theorem dX8_begins_142 : decode cX8_begins 142 = .ok (.istore_n 1, 1) := by decide +kernel
theorem dX8_begins_143 : decode cX8_begins 143 = .ok (.iload_n 1, 1) := by decide +kernel
theorem dX8_begins_144 : decode cX8_begins 144 = .ok (.bipush 6, 2) := by decide +kernel
theorem dX8_begins_146 : decode cX8_begins 146 = .ok (.if_icmp .ge 16, 3) := by decide +kernel
theorem dX8_begins_149 : decode cX8_begins 149 = .ok (.aload_n 0, 1) := by decide +kernel
theorem dX8_begins_150 : decode cX8_begins 150 = .ok (.getfield 104, 3) := by decide +kernel
theorem dX8_begins_153 : decode cX8_begins 153 = .ok (.iload_n 1, 1) := by decide +kernel
theorem dX8_begins_154 : decode cX8_begins 154 = .ok (.iconst 0, 1) := by decide +kernel
theorem dX8_begins_155 : decode cX8_begins 155 = .ok (.iastore, 1) := by decide +kernel
theorem dX8_begins_156 : decode cX8_begins 156 = .ok (.iinc 1 1, 3) := by decide +kernel
theorem dX8_begins_159 : decode cX8_begins 159 = .ok (.goto (-16), 3) := by decide +kernel
theorem dX8_begins_162 : decode cX8_begins 162 = .ok (.return_, 1) := by decide +kernel
theorem dX8_comesNew_0 : decode cX8_comesNew 0 = .ok (.aload_n 0, 1) := by decide +kernel
theorem dX8_comesNew_1 : decode cX8_comesNew 1 = .ok (.getfield 44, 3) := by decide +kernel
theorem dX8_comesNew_4 : decode cX8_comesNew 4 = .ok (.iload_n 1, 1) := by decide +kernel
theorem dX8_comesNew_5 : decode cX8_comesNew 5 = .ok (.iconst 0, 1) := by decide +kernel
theorem dX8_comesNew_6 : decode cX8_comesNew 6 = .ok (.iastore, 1) := by decide +kernel
theorem dX8_comesNew_7 : decode cX8_comesNew 7 = .ok (.aload_n 0, 1) := by decide +kernel
theorem dX8_comesNew_8 : decode cX8_comesNew 8 = .ok (.getfield 47, 3) := by decide +kernel
theorem dX8_comesNew_11 : decode cX8_comesNew 11 = .ok (.iload_n 1, 1) := by decide +kernel
theorem dX8_comesNew_12 : decode cX8_comesNew 12 = .ok (.iconst 4, 1) := by decide +kernel
theorem dX8_comesNew_13 : decode cX8_comesNew 13 = .ok (.iastore, 1) := by decide +kernel
theorem dX8_comesNew_14 : decode cX8_comesNew 14 = .ok (.aload_n 0, 1) := by decide +kernel
theorem dX8_comesNew_15 : decode cX8_comesNew 15 = .ok (.getfield 50, 3) := by decide +kernel
theorem dX8_comesNew_18 : decode cX8_comesNew 18 = .ok (.iload_n 1, 1) := by decide +kernel
theorem dX8_comesNew_19 : decode cX8_comesNew 19 = .ok (.iconst 0, 1) := by decide +kernel
theorem dX8_comesNew_20 : decode cX8_comesNew 20 = .ok (.iastore, 1) := by decide +kernel
theorem dX8_comesNew_21 : decode cX8_comesNew 21 = .ok (.aload_n 0, 1) := by decide +kernel
theorem dX8_comesNew_22 : decode cX8_comesNew 22 = .ok (.getfield 53, 3) := by decide +kernel
theorem dX8_comesNew_25 : decode cX8_comesNew 25 = .ok (.iload_n 1, 1) := by decide +kernel
theorem dX8_comesNew_26 : decode cX8_comesNew 26 = .ok (.iconst 0, 1) := by decide +kernel
theorem dX8_comesNew_27 : decode cX8_comesNew 27 = .ok (.iastore, 1) := by decide +kernel
theorem dX8_comesNew_28 : decode cX8_comesNew 28 = .ok (.aload_n 0, 1) := by decide +kernel
theorem dX8_comesNew_29 : decode cX8_comesNew 29 = .ok (.getfield 56, 3) := by decide +kernel
theorem dX8_comesNew_32 : decode cX8_comesNew 32 = .ok (.iload_n 1, 1) := by decide +kernel
theorem dX8_comesNew_33 : decode cX8_comesNew 33 = .ok (.bipush (-2), 2) := by decide +kernel
theorem dX8_comesNew_35 : decode cX8_comesNew 35 = .ok (.iastore, 1) := by decide +kernel
theorem dX8_comesNew_36 : decode cX8_comesNew 36 = .ok (.return_, 1) := by decide +kernel
theorem dX8_sets_0 : decode cX8_sets 0 = .ok (.iload_n 1, 1) := by decide +kernel
theorem dX8_sets_1 : decode cX8_sets 1 = .ok (.iconst 0, 1) := by decide +kernel
theorem dX8_sets_2 : decode cX8_sets 2 = .ok (.iconst 2, 1) := by decide +kernel
theorem dX8_sets_3 : decode cX8_sets 3 = .ok (.invokestatic 110, 3) := by decide +kernel
theorem dX8_sets_6 : decode cX8_sets 6 = .ok (.ifCond .eq 31, 3) := by decide +kernel
theorem dX8_sets_9 : decode cX8_sets 9 = .ok (.iload_n 2, 1) := by decide +kernel
theorem dX8_sets_10 : decode cX8_sets 10 = .ok (.iconst 1, 1) := by decide +kernel
theorem dX8_sets_11 : decode cX8_sets 11 = .ok (.iload_n 1, 1) := by decide +kernel
theorem dX8_sets_12 : decode cX8_sets 12 = .ok (.ifCond .ne 8, 3) := by decide +kernel
theorem dX8_sets_15 : decode cX8_sets 15 = .ok (.bipush 6, 2) := by decide +kernel
theorem dX8_sets_17 : decode cX8_sets 17 = .ok (.goto 14, 3) := by decide +kernel
theorem dX8_sets_20 : decode cX8_sets 20 = .ok (.iload_n 1, 1) := by decide +kernel
theorem dX8_sets_21 : decode cX8_sets 21 = .ok (.iconst 1, 1) := by decide +kernel
theorem dX8_sets_22 : decode cX8_sets 22 = .ok (.if_icmp .ne 7, 3) := by decide +kernel
theorem dX8_sets_25 : decode cX8_sets 25 = .ok (.iconst 4, 1) := by decide +kernel
theorem dX8_sets_26 : decode cX8_sets 26 = .ok (.goto 5, 3) := by decide +kernel
theorem dX8_sets_29 : decode cX8_sets 29 = .ok (.bipush 9, 2) := by decide +kernel
theorem dX8_sets_31 : decode cX8_sets 31 = .ok (.invokestatic 110, 3) := by decide +kernel
theorem dX8_sets_34 : decode cX8_sets 34 = .ok (.ifCond .ne 8, 3) := by decide +kernel
theorem dX8_sets_37 : decode cX8_sets 37 = .ok (.aload_n 0, 1) := by decide +kernel
theorem dX8_sets_38 : decode cX8_sets 38 = .ok (.invokevirtual 127, 3) := by decide +kernel
theorem dX8_sets_41 : decode cX8_sets 41 = .ok (.ireturn, 1) := by decide +kernel
theorem dX8_sets_42 : decode cX8_sets 42 = .ok (.iload_n 1, 1) := by decide +kernel
theorem dX8_sets_43 : decode cX8_sets 43 = .ok (.ifCond .ne 10, 3) := by decide +kernel
theorem dX8_sets_46 : decode cX8_sets 46 = .ok (.aload_n 0, 1) := by decide +kernel
theorem dX8_sets_47 : decode cX8_sets 47 = .ok (.getfield 13, 3) := by decide +kernel
theorem dX8_sets_50 : decode cX8_sets 50 = .ok (.goto 19, 3) := by decide +kernel
theorem dX8_sets_53 : decode cX8_sets 53 = .ok (.iload_n 1, 1) := by decide +kernel
theorem dX8_sets_54 : decode cX8_sets 54 = .ok (.iconst 1, 1) := by decide +kernel
theorem dX8_sets_55 : decode cX8_sets 55 = .ok (.if_icmp .ne 10, 3) := by decide +kernel
theorem dX8_sets_58 : decode cX8_sets 58 = .ok (.aload_n 0, 1) := by decide +kernel
theorem dX8_sets_59 : decode cX8_sets 59 = .ok (.getfield 17, 3) := by decide +kernel
theorem dX8_sets_62 : decode cX8_sets 62 = .ok (.goto 7, 3) := by decide +kernel
theorem dX8_sets_65 : decode cX8_sets 65 = .ok (.aload_n 0, 1) := by decide +kernel
theorem dX8_sets_66 : decode cX8_sets 66 = .ok (.getfield 20, 3) := by decide +kernel
theorem dX8_sets_69 : decode cX8_sets 69 = .ok (.istore_n 3, 1) := by decide +kernel
theorem dX8_sets_70 : decode cX8_sets 70 = .ok (.aload_n 0, 1) := by decide +kernel
theorem dX8_sets_71 : decode cX8_sets 71 = .ok (.iload_n 1, 1) := by decide +kernel
theorem dX8_sets_72 : decode cX8_sets 72 = .ok (.ifCond .ne 7, 3) := by decide +kernel
theorem dX8_sets_75 : decode cX8_sets 75 = .ok (.iload_n 2, 1) := by decide +kernel
theorem dX8_sets_76 : decode cX8_sets 76 = .ok (.goto 7, 3) := by decide +kernel
theorem dX8_sets_79 : decode cX8_sets 79 = .ok (.aload_n 0, 1) := by decide +kernel
theorem dX8_sets_80 : decode cX8_sets 80 = .ok (.getfield 13, 3) := by decide +kernel
theorem dX8_sets_83 : decode cX8_sets 83 = .ok (.putfield 13, 3) := by decide +kernel
theorem dX8_sets_86 : decode cX8_sets 86 = .ok (.aload_n 0, 1) := by decide +kernel
theorem dX8_sets_87 : decode cX8_sets 87 = .ok (.iload_n 1, 1) := by decide +kernel
theorem dX8_sets_88 : decode cX8_sets 88 = .ok (.iconst 1, 1) := by decide +kernel
theorem dX8_sets_89 : decode cX8_sets 89 = .ok (.if_icmp .ne 7, 3) := by decide +kernel
theorem dX8_sets_92 : decode cX8_sets 92 = .ok (.iload_n 2, 1) := by decide +kernel
theorem dX8_sets_93 : decode cX8_sets 93 = .ok (.goto 7, 3) := by decide +kernel
theorem dX8_sets_96 : decode cX8_sets 96 = .ok (.aload_n 0, 1) := by decide +kernel
theorem dX8_sets_97 : decode cX8_sets 97 = .ok (.getfield 17, 3) := by decide +kernel
theorem dX8_sets_100 : decode cX8_sets 100 = .ok (.putfield 17, 3) := by decide +kernel
theorem dX8_sets_103 : decode cX8_sets 103 = .ok (.aload_n 0, 1) := by decide +kernel
theorem dX8_sets_104 : decode cX8_sets 104 = .ok (.iload_n 1, 1) := by decide +kernel
theorem dX8_sets_105 : decode cX8_sets 105 = .ok (.iconst 2, 1) := by decide +kernel
theorem dX8_sets_106 : decode cX8_sets 106 = .ok (.if_icmp .ne 7, 3) := by decide +kernel
theorem dX8_sets_109 : decode cX8_sets 109 = .ok (.iload_n 2, 1) := by decide +kernel
theorem dX8_sets_110 : decode cX8_sets 110 = .ok (.goto 7, 3) := by decide +kernel
theorem dX8_sets_113 : decode cX8_sets 113 = .ok (.aload_n 0, 1) := by decide +kernel
theorem dX8_sets_114 : decode cX8_sets 114 = .ok (.getfield 20, 3) := by decide +kernel
theorem dX8_sets_117 : decode cX8_sets 117 = .ok (.putfield 20, 3) := by decide +kernel
theorem dX8_sets_120 : decode cX8_sets 120 = .ok (.aload_n 0, 1) := by decide +kernel
theorem dX8_sets_121 : decode cX8_sets 121 = .ok (.invokevirtual 131, 3) := by decide +kernel
theorem dX8_sets_124 : decode cX8_sets 124 = .ok (.iload_n 3, 1) := by decide +kernel
theorem dX8_sets_125 : decode cX8_sets 125 = .ok (.ireturn, 1) := by decide +kernel
theorem dX8_gateBecomes_0 : decode cX8_gateBecomes 0 = .ok (.iload_n 2, 1) := by decide +kernel
theorem dX8_gateBecomes_1 : decode cX8_gateBecomes 1 = .ok (.ifCond .ne 12, 3) := by decide +kernel
theorem dX8_gateBecomes_4 : decode cX8_gateBecomes 4 = .ok (.aload_n 0, 1) := by decide +kernel
theorem dX8_gateBecomes_5 : decode cX8_gateBecomes 5 = .ok (.getfield 23, 3) := by decide +kernel
theorem dX8_gateBecomes_8 : decode cX8_gateBecomes 8 = .ok (.iload_n 1, 1) := by decide +kernel
theorem dX8_gateBecomes_9 : decode cX8_gateBecomes 9 = .ok (.iaload, 1) := by decide +kernel
theorem dX8_gateBecomes_10 : decode cX8_gateBecomes 10 = .ok (.goto 9, 3) := by decide +kernel
theorem dX8_gateBecomes_13 : decode cX8_gateBecomes 13 = .ok (.aload_n 0, 1) := by decide +kernel
theorem dX8_gateBecomes_14 : decode cX8_gateBecomes 14 = .ok (.getfield 26, 3) := by decide +kernel
theorem dX8_gateBecomes_17 : decode cX8_gateBecomes 17 = .ok (.iload_n 1, 1) := by decide +kernel
theorem dX8_gateBecomes_18 : decode cX8_gateBecomes 18 = .ok (.iaload, 1) := by decide +kernel
theorem dX8_gateBecomes_19 : decode cX8_gateBecomes 19 = .ok (.istore 4, 2) := by decide +kernel
theorem dX8_gateBecomes_21 : decode cX8_gateBecomes 21 = .ok (.aload_n 0, 1) := by decide +kernel
theorem dX8_gateBecomes_22 : decode cX8_gateBecomes 22 = .ok (.getfield 23, 3) := by decide +kernel
theorem dX8_gateBecomes_25 : decode cX8_gateBecomes 25 = .ok (.iload_n 1, 1) := by decide +kernel
theorem dX8_gateBecomes_26 : decode cX8_gateBecomes 26 = .ok (.iload_n 2, 1) := by decide +kernel
theorem dX8_gateBecomes_27 : decode cX8_gateBecomes 27 = .ok (.ifCond .ne 7, 3) := by decide +kernel
theorem dX8_gateBecomes_30 : decode cX8_gateBecomes 30 = .ok (.iload_n 3, 1) := by decide +kernel
theorem dX8_gateBecomes_31 : decode cX8_gateBecomes 31 = .ok (.goto 9, 3) := by decide +kernel
theorem dX8_gateBecomes_34 : decode cX8_gateBecomes 34 = .ok (.aload_n 0, 1) := by decide +kernel
theorem dX8_gateBecomes_35 : decode cX8_gateBecomes 35 = .ok (.getfield 23, 3) := by decide +kernel
theorem dX8_gateBecomes_38 : decode cX8_gateBecomes 38 = .ok (.iload_n 1, 1) := by decide +kernel
theorem dX8_gateBecomes_39 : decode cX8_gateBecomes 39 = .ok (.iaload, 1) := by decide +kernel
theorem dX8_gateBecomes_40 : decode cX8_gateBecomes 40 = .ok (.iastore, 1) := by decide +kernel
theorem dX8_gateBecomes_41 : decode cX8_gateBecomes 41 = .ok (.aload_n 0, 1) := by decide +kernel
theorem dX8_gateBecomes_42 : decode cX8_gateBecomes 42 = .ok (.getfield 26, 3) := by decide +kernel
theorem dX8_gateBecomes_45 : decode cX8_gateBecomes 45 = .ok (.iload_n 1, 1) := by decide +kernel
theorem dX8_gateBecomes_46 : decode cX8_gateBecomes 46 = .ok (.iload_n 2, 1) := by decide +kernel
theorem dX8_gateBecomes_47 : decode cX8_gateBecomes 47 = .ok (.iconst 1, 1) := by decide +kernel
theorem dX8_gateBecomes_48 : decode cX8_gateBecomes 48 = .ok (.if_icmp .ne 7, 3) := by decide +kernel
theorem dX8_gateBecomes_51 : decode cX8_gateBecomes 51 = .ok (.iload_n 3, 1) := by decide +kernel
theorem dX8_gateBecomes_52 : decode cX8_gateBecomes 52 = .ok (.goto 9, 3) := by decide +kernel
theorem dX8_gateBecomes_55 : decode cX8_gateBecomes 55 = .ok (.aload_n 0, 1) := by decide +kernel
theorem dX8_gateBecomes_56 : decode cX8_gateBecomes 56 = .ok (.getfield 26, 3) := by decide +kernel
theorem dX8_gateBecomes_59 : decode cX8_gateBecomes 59 = .ok (.iload_n 1, 1) := by decide +kernel
theorem dX8_gateBecomes_60 : decode cX8_gateBecomes 60 = .ok (.iaload, 1) := by decide +kernel
theorem dX8_gateBecomes_61 : decode cX8_gateBecomes 61 = .ok (.iastore, 1) := by decide +kernel
theorem dX8_gateBecomes_62 : decode cX8_gateBecomes 62 = .ok (.iload 4, 2) := by decide +kernel
theorem dX8_gateBecomes_64 : decode cX8_gateBecomes 64 = .ok (.ireturn, 1) := by decide +kernel
theorem dX8_gate_0 : decode cX8_gate 0 = .ok (.aload_n 0, 1) := by decide +kernel
theorem dX8_gate_1 : decode cX8_gate 1 = .ok (.iload_n 1, 1) := by decide +kernel
theorem dX8_gate_2 : decode cX8_gate 2 = .ok (.invokevirtual 134, 3) := by decide +kernel
theorem dX8_gate_5 : decode cX8_gate 5 = .ok (.ifCond .eq 40, 3) := by decide +kernel
theorem dX8_gate_8 : decode cX8_gate 8 = .ok (.iload_n 2, 1) := by decide +kernel
theorem dX8_gate_9 : decode cX8_gate 9 = .ok (.iconst 0, 1) := by decide +kernel
theorem dX8_gate_10 : decode cX8_gate 10 = .ok (.iconst 1, 1) := by decide +kernel
theorem dX8_gate_11 : decode cX8_gate 11 = .ok (.invokestatic 110, 3) := by decide +kernel
theorem dX8_gate_14 : decode cX8_gate 14 = .ok (.ifCond .eq 31, 3) := by decide +kernel
theorem dX8_gate_17 : decode cX8_gate 17 = .ok (.iload_n 3, 1) := by decide +kernel
theorem dX8_gate_18 : decode cX8_gate 18 = .ok (.iconst 0, 1) := by decide +kernel
theorem dX8_gate_19 : decode cX8_gate 19 = .ok (.iload_n 2, 1) := by decide +kernel
theorem dX8_gate_20 : decode cX8_gate 20 = .ok (.ifCond .ne 7, 3) := by decide +kernel
theorem dX8_gate_23 : decode cX8_gate 23 = .ok (.iconst 5, 1) := by decide +kernel
theorem dX8_gate_24 : decode cX8_gate 24 = .ok (.goto 5, 3) := by decide +kernel
theorem dX8_gate_27 : decode cX8_gate 27 = .ok (.bipush 40, 2) := by decide +kernel
theorem dX8_gate_29 : decode cX8_gate 29 = .ok (.invokestatic 110, 3) := by decide +kernel
theorem dX8_gate_32 : decode cX8_gate 32 = .ok (.ifCond .eq 13, 3) := by decide +kernel
theorem dX8_gate_35 : decode cX8_gate 35 = .ok (.aload_n 0, 1) := by decide +kernel
theorem dX8_gate_36 : decode cX8_gate 36 = .ok (.iload_n 1, 1) := by decide +kernel
theorem dX8_gate_37 : decode cX8_gate 37 = .ok (.iload_n 2, 1) := by decide +kernel
theorem dX8_gate_38 : decode cX8_gate 38 = .ok (.iload_n 3, 1) := by decide +kernel
theorem dX8_gate_39 : decode cX8_gate 39 = .ok (.invokevirtual 138, 3) := by decide +kernel
theorem dX8_gate_42 : decode cX8_gate 42 = .ok (.goto 7, 3) := by decide +kernel
theorem dX8_gate_45 : decode cX8_gate 45 = .ok (.aload_n 0, 1) := by decide +kernel
theorem dX8_gate_46 : decode cX8_gate 46 = .ok (.invokevirtual 127, 3) := by decide +kernel
theorem dX8_gate_49 : decode cX8_gate 49 = .ok (.ireturn, 1) := by decide +kernel
theorem dX8_gain_0 : decode cX8_gain 0 = .ok (.aload_n 0, 1) := by decide +kernel
theorem dX8_gain_1 : decode cX8_gain 1 = .ok (.iload_n 1, 1) := by decide +kernel
theorem dX8_gain_2 : decode cX8_gain 2 = .ok (.invokevirtual 142, 3) := by decide +kernel
theorem dX8_gain_5 : decode cX8_gain 5 = .ok (.ifCond .eq 21, 3) := by decide +kernel
theorem dX8_gain_8 : decode cX8_gain 8 = .ok (.aload_n 0, 1) := by decide +kernel
theorem dX8_gain_9 : decode cX8_gain 9 = .ok (.iload_n 2, 1) := by decide +kernel
theorem dX8_gain_10 : decode cX8_gain 10 = .ok (.invokevirtual 134, 3) := by decide +kernel
theorem dX8_gain_13 : decode cX8_gain 13 = .ok (.ifCond .eq 13, 3) := by decide +kernel
theorem dX8_gain_16 : decode cX8_gain 16 = .ok (.iload_n 3, 1) := by decide +kernel
theorem dX8_gain_17 : decode cX8_gain 17 = .ok (.iconst 0, 1) := by decide +kernel
theorem dX8_gain_18 : decode cX8_gain 18 = .ok (.bipush 60, 2) := by decide +kernel
theorem dX8_gain_20 : decode cX8_gain 20 = .ok (.invokestatic 110, 3) := by decide +kernel
theorem dX8_gain_23 : decode cX8_gain 23 = .ok (.ifCond .ne 8, 3) := by decide +kernel
theorem dX8_gain_26 : decode cX8_gain 26 = .ok (.aload_n 0, 1) := by decide +kernel
theorem dX8_gain_27 : decode cX8_gain 27 = .ok (.invokevirtual 127, 3) := by decide +kernel
theorem dX8_gain_30 : decode cX8_gain 30 = .ok (.ireturn, 1) := by decide +kernel
theorem dX8_gain_31 : decode cX8_gain 31 = .ok (.aload_n 0, 1) := by decide +kernel
theorem dX8_gain_32 : decode cX8_gain 32 = .ok (.getfield 41, 3) := by decide +kernel
theorem dX8_gain_35 : decode cX8_gain 35 = .ok (.iconst 4, 1) := by decide +kernel
theorem dX8_gain_36 : decode cX8_gain 36 = .ok (.iload_n 1, 1) := by decide +kernel
theorem dX8_gain_37 : decode cX8_gain 37 = .ok (.imul, 1) := by decide +kernel
theorem dX8_gain_38 : decode cX8_gain 38 = .ok (.iload_n 2, 1) := by decide +kernel
theorem dX8_gain_39 : decode cX8_gain 39 = .ok (.iadd, 1) := by decide +kernel
theorem dX8_gain_40 : decode cX8_gain 40 = .ok (.iaload, 1) := by decide +kernel
theorem dX8_gain_41 : decode cX8_gain 41 = .ok (.istore 4, 2) := by decide +kernel
theorem dX8_gain_43 : decode cX8_gain 43 = .ok (.aload_n 0, 1) := by decide +kernel
theorem dX8_gain_44 : decode cX8_gain 44 = .ok (.getfield 41, 3) := by decide +kernel
theorem dX8_gain_47 : decode cX8_gain 47 = .ok (.iconst 4, 1) := by decide +kernel
theorem dX8_gain_48 : decode cX8_gain 48 = .ok (.iload_n 1, 1) := by decide +kernel
theorem dX8_gain_49 : decode cX8_gain 49 = .ok (.imul, 1) := by decide +kernel
theorem dX8_gain_50 : decode cX8_gain 50 = .ok (.iload_n 2, 1) := by decide +kernel
theorem dX8_gain_51 : decode cX8_gain 51 = .ok (.iadd, 1) := by decide +kernel
theorem dX8_gain_52 : decode cX8_gain 52 = .ok (.iload_n 3, 1) := by decide +kernel
theorem dX8_gain_53 : decode cX8_gain 53 = .ok (.iastore, 1) := by decide +kernel
theorem dX8_gain_54 : decode cX8_gain 54 = .ok (.iload 4, 2) := by decide +kernel
theorem dX8_gain_56 : decode cX8_gain 56 = .ok (.ireturn, 1) := by decide +kernel
theorem dX8_draw_0 : decode cX8_draw 0 = .ok (.iload_n 1, 1) := by decide +kernel
theorem dX8_draw_1 : decode cX8_draw 1 = .ok (.iconst 0, 1) := by decide +kernel
theorem dX8_draw_2 : decode cX8_draw 2 = .ok (.ldc 145, 2) := by decide +kernel
theorem dX8_draw_4 : decode cX8_draw 4 = .ok (.invokestatic 110, 3) := by decide +kernel
theorem dX8_draw_7 : decode cX8_draw 7 = .ok (.ifCond .ne 8, 3) := by decide +kernel
theorem dX8_draw_10 : decode cX8_draw 10 = .ok (.aload_n 0, 1) := by decide +kernel
theorem dX8_draw_11 : decode cX8_draw 11 = .ok (.invokevirtual 127, 3) := by decide +kernel
theorem dX8_draw_14 : decode cX8_draw 14 = .ok (.ireturn, 1) := by decide +kernel
theorem dX8_draw_15 : decode cX8_draw 15 = .ok (.iload_n 1, 1) := by decide +kernel
theorem dX8_draw_16 : decode cX8_draw 16 = .ok (.i2l, 1) := by decide +kernel
theorem dX8_draw_17 : decode cX8_draw 17 = .ok (.lstore_n 2, 1) := by decide +kernel
theorem dX8_draw_18 : decode cX8_draw 18 = .ok (.iconst 0, 1) := by decide +kernel
theorem dX8_draw_19 : decode cX8_draw 19 = .ok (.istore 4, 2) := by decide +kernel
theorem dX8_draw_21 : decode cX8_draw 21 = .ok (.iconst 0, 1) := by decide +kernel
theorem dX8_draw_22 : decode cX8_draw 22 = .ok (.istore 5, 2) := by decide +kernel
theorem dX8_draw_24 : decode cX8_draw 24 = .ok (.iload 5, 2) := by decide +kernel
theorem dX8_draw_26 : decode cX8_draw 26 = .ok (.aload_n 0, 1) := by decide +kernel
theorem dX8_draw_27 : decode cX8_draw 27 = .ok (.getfield 13, 3) := by decide +kernel
theorem dX8_draw_30 : decode cX8_draw 30 = .ok (.if_icmp .ge 80, 3) := by decide +kernel
theorem dX8_draw_33 : decode cX8_draw 33 = .ok (.iconst 0, 1) := by decide +kernel
theorem dX8_draw_34 : decode cX8_draw 34 = .ok (.istore 6, 2) := by decide +kernel
theorem dX8_draw_36 : decode cX8_draw 36 = .ok (.iload 6, 2) := by decide +kernel
theorem dX8_draw_38 : decode cX8_draw 38 = .ok (.aload_n 0, 1) := by decide +kernel
theorem dX8_draw_39 : decode cX8_draw 39 = .ok (.getfield 17, 3) := by decide +kernel
theorem dX8_draw_42 : decode cX8_draw 42 = .ok (.if_icmp .ge 62, 3) := by decide +kernel
theorem dX8_draw_45 : decode cX8_draw 45 = .ok (.lload_n 2, 1) := by decide +kernel
theorem dX8_draw_46 : decode cX8_draw 46 = .ok (.ldc2_w 146, 3) := by decide +kernel
theorem dX8_draw_49 : decode cX8_draw 49 = .ok (.lmul, 1) := by decide +kernel
theorem dX8_draw_50 : decode cX8_draw 50 = .ok (.ldc2_w 148, 3) := by decide +kernel
theorem dX8_draw_53 : decode cX8_draw 53 = .ok (.ladd, 1) := by decide +kernel
theorem dX8_draw_54 : decode cX8_draw 54 = .ok (.ldc2_w 150, 3) := by decide +kernel
theorem dX8_draw_57 : decode cX8_draw 57 = .ok (.lrem, 1) := by decide +kernel
theorem dX8_draw_58 : decode cX8_draw 58 = .ok (.lstore_n 2, 1) := by decide +kernel
theorem dX8_draw_59 : decode cX8_draw 59 = .ok (.aload_n 0, 1) := by decide +kernel
theorem dX8_draw_60 : decode cX8_draw 60 = .ok (.getfield 41, 3) := by decide +kernel
theorem dX8_draw_63 : decode cX8_draw 63 = .ok (.iconst 4, 1) := by decide +kernel
theorem dX8_draw_64 : decode cX8_draw 64 = .ok (.iload 5, 2) := by decide +kernel
theorem dX8_draw_66 : decode cX8_draw 66 = .ok (.imul, 1) := by decide +kernel
theorem dX8_draw_67 : decode cX8_draw 67 = .ok (.iload 6, 2) := by decide +kernel
theorem dX8_draw_69 : decode cX8_draw 69 = .ok (.iadd, 1) := by decide +kernel
theorem dX8_draw_70 : decode cX8_draw 70 = .ok (.lload_n 2, 1) := by decide +kernel
theorem dX8_draw_71 : decode cX8_draw 71 = .ok (.ldc2_w 152, 3) := by decide +kernel
theorem dX8_draw_74 : decode cX8_draw 74 = .ok (.ldiv, 1) := by decide +kernel
theorem dX8_draw_75 : decode cX8_draw 75 = .ok (.ldc2_w 154, 3) := by decide +kernel
theorem dX8_draw_78 : decode cX8_draw 78 = .ok (.lrem, 1) := by decide +kernel
theorem dX8_draw_79 : decode cX8_draw 79 = .ok (.l2i, 1) := by decide +kernel
theorem dX8_draw_80 : decode cX8_draw 80 = .ok (.iastore, 1) := by decide +kernel
theorem dX8_draw_81 : decode cX8_draw 81 = .ok (.iload 4, 2) := by decide +kernel
theorem dX8_draw_83 : decode cX8_draw 83 = .ok (.aload_n 0, 1) := by decide +kernel
theorem dX8_draw_84 : decode cX8_draw 84 = .ok (.getfield 41, 3) := by decide +kernel
theorem dX8_draw_87 : decode cX8_draw 87 = .ok (.iconst 4, 1) := by decide +kernel
theorem dX8_draw_88 : decode cX8_draw 88 = .ok (.iload 5, 2) := by decide +kernel
theorem dX8_draw_90 : decode cX8_draw 90 = .ok (.imul, 1) := by decide +kernel
theorem dX8_draw_91 : decode cX8_draw 91 = .ok (.iload 6, 2) := by decide +kernel
theorem dX8_draw_93 : decode cX8_draw 93 = .ok (.iadd, 1) := by decide +kernel
theorem dX8_draw_94 : decode cX8_draw 94 = .ok (.iaload, 1) := by decide +kernel
theorem dX8_draw_95 : decode cX8_draw 95 = .ok (.iadd, 1) := by decide +kernel
theorem dX8_draw_96 : decode cX8_draw 96 = .ok (.istore 4, 2) := by decide +kernel
theorem dX8_draw_98 : decode cX8_draw 98 = .ok (.iinc 6 1, 3) := by decide +kernel
theorem dX8_draw_101 : decode cX8_draw 101 = .ok (.goto (-65), 3) := by decide +kernel
theorem dX8_draw_104 : decode cX8_draw 104 = .ok (.iinc 5 1, 3) := by decide +kernel
theorem dX8_draw_107 : decode cX8_draw 107 = .ok (.goto (-83), 3) := by decide +kernel
theorem dX8_draw_110 : decode cX8_draw 110 = .ok (.iload 4, 2) := by decide +kernel
theorem dX8_draw_112 : decode cX8_draw 112 = .ok (.ireturn, 1) := by decide +kernel
theorem dX8_mostOf_0 : decode cX8_mostOf 0 = .ok (.iload_n 0, 1) := by decide +kernel
theorem dX8_mostOf_1 : decode cX8_mostOf 1 = .ok (.ifCond .ne 7, 3) := by decide +kernel
theorem dX8_mostOf_4 : decode cX8_mostOf 4 = .ok (.iconst 5, 1) := by decide +kernel
theorem dX8_mostOf_5 : decode cX8_mostOf 5 = .ok (.goto 23, 3) := by decide +kernel
theorem dX8_mostOf_8 : decode cX8_mostOf 8 = .ok (.iload_n 0, 1) := by decide +kernel
theorem dX8_mostOf_9 : decode cX8_mostOf 9 = .ok (.iconst 1, 1) := by decide +kernel
theorem dX8_mostOf_10 : decode cX8_mostOf 10 = .ok (.if_icmp .ne 7, 3) := by decide +kernel
theorem dX8_mostOf_13 : decode cX8_mostOf 13 = .ok (.iconst 4, 1) := by decide +kernel
theorem dX8_mostOf_14 : decode cX8_mostOf 14 = .ok (.goto 14, 3) := by decide +kernel
theorem dX8_mostOf_17 : decode cX8_mostOf 17 = .ok (.iload_n 0, 1) := by decide +kernel
theorem dX8_mostOf_18 : decode cX8_mostOf 18 = .ok (.iconst 2, 1) := by decide +kernel
theorem dX8_mostOf_19 : decode cX8_mostOf 19 = .ok (.if_icmp .ne 8, 3) := by decide +kernel
theorem dX8_mostOf_22 : decode cX8_mostOf 22 = .ok (.bipush 63, 2) := by decide +kernel
theorem dX8_mostOf_24 : decode cX8_mostOf 24 = .ok (.goto 4, 3) := by decide +kernel
theorem dX8_mostOf_27 : decode cX8_mostOf 27 = .ok (.iconst 1, 1) := by decide +kernel
theorem dX8_mostOf_28 : decode cX8_mostOf 28 = .ok (.ireturn, 1) := by decide +kernel
theorem dX8_sender_0 : decode cX8_sender 0 = .ok (.aload_n 0, 1) := by decide +kernel
theorem dX8_sender_1 : decode cX8_sender 1 = .ok (.iload_n 1, 1) := by decide +kernel
theorem dX8_sender_2 : decode cX8_sender 2 = .ok (.invokevirtual 142, 3) := by decide +kernel
theorem dX8_sender_5 : decode cX8_sender 5 = .ok (.ifCond .eq 24, 3) := by decide +kernel
theorem dX8_sender_8 : decode cX8_sender 8 = .ok (.iload_n 2, 1) := by decide +kernel
theorem dX8_sender_9 : decode cX8_sender 9 = .ok (.iconst 0, 1) := by decide +kernel
theorem dX8_sender_10 : decode cX8_sender 10 = .ok (.iconst 3, 1) := by decide +kernel
theorem dX8_sender_11 : decode cX8_sender 11 = .ok (.invokestatic 110, 3) := by decide +kernel
theorem dX8_sender_14 : decode cX8_sender 14 = .ok (.ifCond .eq 15, 3) := by decide +kernel
theorem dX8_sender_17 : decode cX8_sender 17 = .ok (.iload_n 3, 1) := by decide +kernel
theorem dX8_sender_18 : decode cX8_sender 18 = .ok (.iconst 0, 1) := by decide +kernel
theorem dX8_sender_19 : decode cX8_sender 19 = .ok (.iload_n 2, 1) := by decide +kernel
theorem dX8_sender_20 : decode cX8_sender 20 = .ok (.invokestatic 156, 3) := by decide +kernel
theorem dX8_sender_23 : decode cX8_sender 23 = .ok (.invokestatic 110, 3) := by decide +kernel
theorem dX8_sender_26 : decode cX8_sender 26 = .ok (.ifCond .ne 8, 3) := by decide +kernel
theorem dX8_sender_29 : decode cX8_sender 29 = .ok (.aload_n 0, 1) := by decide +kernel
theorem dX8_sender_30 : decode cX8_sender 30 = .ok (.invokevirtual 127, 3) := by decide +kernel
theorem dX8_sender_33 : decode cX8_sender 33 = .ok (.ireturn, 1) := by decide +kernel
theorem dX8_sender_34 : decode cX8_sender 34 = .ok (.iload_n 2, 1) := by decide +kernel
theorem dX8_sender_35 : decode cX8_sender 35 = .ok (.ifCond .ne 12, 3) := by decide +kernel
theorem dX8_sender_38 : decode cX8_sender 38 = .ok (.aload_n 0, 1) := by decide +kernel
theorem dX8_sender_39 : decode cX8_sender 39 = .ok (.getfield 44, 3) := by decide +kernel
theorem dX8_sender_42 : decode cX8_sender 42 = .ok (.iload_n 1, 1) := by decide +kernel
theorem dX8_sender_43 : decode cX8_sender 43 = .ok (.iaload, 1) := by decide +kernel
theorem dX8_sender_44 : decode cX8_sender 44 = .ok (.goto 37, 3) := by decide +kernel
theorem dX8_sender_47 : decode cX8_sender 47 = .ok (.iload_n 2, 1) := by decide +kernel
theorem dX8_sender_48 : decode cX8_sender 48 = .ok (.iconst 1, 1) := by decide +kernel
theorem dX8_sender_49 : decode cX8_sender 49 = .ok (.if_icmp .ne 12, 3) := by decide +kernel
theorem dX8_sender_52 : decode cX8_sender 52 = .ok (.aload_n 0, 1) := by decide +kernel
theorem dX8_sender_53 : decode cX8_sender 53 = .ok (.getfield 47, 3) := by decide +kernel
theorem dX8_sender_56 : decode cX8_sender 56 = .ok (.iload_n 1, 1) := by decide +kernel
theorem dX8_sender_57 : decode cX8_sender 57 = .ok (.iaload, 1) := by decide +kernel
theorem dX8_sender_58 : decode cX8_sender 58 = .ok (.goto 23, 3) := by decide +kernel
theorem dX8_sender_61 : decode cX8_sender 61 = .ok (.iload_n 2, 1) := by decide +kernel
theorem dX8_sender_62 : decode cX8_sender 62 = .ok (.iconst 2, 1) := by decide +kernel
theorem dX8_sender_63 : decode cX8_sender 63 = .ok (.if_icmp .ne 12, 3) := by decide +kernel
theorem dX8_sender_66 : decode cX8_sender 66 = .ok (.aload_n 0, 1) := by decide +kernel
theorem dX8_sender_67 : decode cX8_sender 67 = .ok (.getfield 50, 3) := by decide +kernel
theorem dX8_sender_70 : decode cX8_sender 70 = .ok (.iload_n 1, 1) := by decide +kernel
theorem dX8_sender_71 : decode cX8_sender 71 = .ok (.iaload, 1) := by decide +kernel
theorem dX8_sender_72 : decode cX8_sender 72 = .ok (.goto 9, 3) := by decide +kernel
theorem dX8_sender_75 : decode cX8_sender 75 = .ok (.aload_n 0, 1) := by decide +kernel
theorem dX8_sender_76 : decode cX8_sender 76 = .ok (.getfield 53, 3) := by decide +kernel
theorem dX8_sender_79 : decode cX8_sender 79 = .ok (.iload_n 1, 1) := by decide +kernel
theorem dX8_sender_80 : decode cX8_sender 80 = .ok (.iaload, 1) := by decide +kernel
theorem dX8_sender_81 : decode cX8_sender 81 = .ok (.istore 4, 2) := by decide +kernel
theorem dX8_sender_83 : decode cX8_sender 83 = .ok (.iload_n 2, 1) := by decide +kernel
theorem dX8_sender_84 : decode cX8_sender 84 = .ok (.ifCond .ne 13, 3) := by decide +kernel
theorem dX8_sender_87 : decode cX8_sender 87 = .ok (.aload_n 0, 1) := by decide +kernel
theorem dX8_sender_88 : decode cX8_sender 88 = .ok (.getfield 44, 3) := by decide +kernel
theorem dX8_sender_91 : decode cX8_sender 91 = .ok (.iload_n 1, 1) := by decide +kernel
theorem dX8_sender_92 : decode cX8_sender 92 = .ok (.iload_n 3, 1) := by decide +kernel
theorem dX8_sender_93 : decode cX8_sender 93 = .ok (.iastore, 1) := by decide +kernel
theorem dX8_sender_94 : decode cX8_sender 94 = .ok (.goto 40, 3) := by decide +kernel
theorem dX8_sender_97 : decode cX8_sender 97 = .ok (.iload_n 2, 1) := by decide +kernel
theorem dX8_sender_98 : decode cX8_sender 98 = .ok (.iconst 1, 1) := by decide +kernel
theorem dX8_sender_99 : decode cX8_sender 99 = .ok (.if_icmp .ne 13, 3) := by decide +kernel
theorem dX8_sender_102 : decode cX8_sender 102 = .ok (.aload_n 0, 1) := by decide +kernel
theorem dX8_sender_103 : decode cX8_sender 103 = .ok (.getfield 47, 3) := by decide +kernel
theorem dX8_sender_106 : decode cX8_sender 106 = .ok (.iload_n 1, 1) := by decide +kernel
theorem dX8_sender_107 : decode cX8_sender 107 = .ok (.iload_n 3, 1) := by decide +kernel
theorem dX8_sender_108 : decode cX8_sender 108 = .ok (.iastore, 1) := by decide +kernel
theorem dX8_sender_109 : decode cX8_sender 109 = .ok (.goto 25, 3) := by decide +kernel
theorem dX8_sender_112 : decode cX8_sender 112 = .ok (.iload_n 2, 1) := by decide +kernel
theorem dX8_sender_113 : decode cX8_sender 113 = .ok (.iconst 2, 1) := by decide +kernel
theorem dX8_sender_114 : decode cX8_sender 114 = .ok (.if_icmp .ne 13, 3) := by decide +kernel
theorem dX8_sender_117 : decode cX8_sender 117 = .ok (.aload_n 0, 1) := by decide +kernel
theorem dX8_sender_118 : decode cX8_sender 118 = .ok (.getfield 50, 3) := by decide +kernel
theorem dX8_sender_121 : decode cX8_sender 121 = .ok (.iload_n 1, 1) := by decide +kernel
theorem dX8_sender_122 : decode cX8_sender 122 = .ok (.iload_n 3, 1) := by decide +kernel
theorem dX8_sender_123 : decode cX8_sender 123 = .ok (.iastore, 1) := by decide +kernel
theorem dX8_sender_124 : decode cX8_sender 124 = .ok (.goto 10, 3) := by decide +kernel
theorem dX8_sender_127 : decode cX8_sender 127 = .ok (.aload_n 0, 1) := by decide +kernel
theorem dX8_sender_128 : decode cX8_sender 128 = .ok (.getfield 53, 3) := by decide +kernel
theorem dX8_sender_131 : decode cX8_sender 131 = .ok (.iload_n 1, 1) := by decide +kernel
theorem dX8_sender_132 : decode cX8_sender 132 = .ok (.iload_n 3, 1) := by decide +kernel
theorem dX8_sender_133 : decode cX8_sender 133 = .ok (.iastore, 1) := by decide +kernel
theorem dX8_sender_134 : decode cX8_sender 134 = .ok (.iload 4, 2) := by decide +kernel
theorem dX8_sender_136 : decode cX8_sender 136 = .ok (.ireturn, 1) := by decide +kernel
theorem dX8_marginOf_0 : decode cX8_marginOf 0 = .ok (.aload_n 0, 1) := by decide +kernel
theorem dX8_marginOf_1 : decode cX8_marginOf 1 = .ok (.getfield 41, 3) := by decide +kernel
theorem dX8_marginOf_4 : decode cX8_marginOf 4 = .ok (.iconst 4, 1) := by decide +kernel
theorem dX8_marginOf_5 : decode cX8_marginOf 5 = .ok (.iload_n 1, 1) := by decide +kernel
theorem dX8_marginOf_6 : decode cX8_marginOf 6 = .ok (.imul, 1) := by decide +kernel
theorem dX8_marginOf_7 : decode cX8_marginOf 7 = .ok (.iload_n 2, 1) := by decide +kernel
theorem dX8_marginOf_8 : decode cX8_marginOf 8 = .ok (.iadd, 1) := by decide +kernel
theorem dX8_marginOf_9 : decode cX8_marginOf 9 = .ok (.iaload, 1) := by decide +kernel
theorem dX8_marginOf_10 : decode cX8_marginOf 10 = .ok (.iconst 2, 1) := by decide +kernel
theorem dX8_marginOf_11 : decode cX8_marginOf 11 = .ok (.aload_n 0, 1) := by decide +kernel
theorem dX8_marginOf_12 : decode cX8_marginOf 12 = .ok (.getfield 47, 3) := by decide +kernel
theorem dX8_marginOf_15 : decode cX8_marginOf 15 = .ok (.iload_n 1, 1) := by decide +kernel
theorem dX8_marginOf_16 : decode cX8_marginOf 16 = .ok (.iaload, 1) := by decide +kernel
theorem dX8_marginOf_17 : decode cX8_marginOf 17 = .ok (.imul, 1) := by decide +kernel
theorem dX8_marginOf_18 : decode cX8_marginOf 18 = .ok (.iadd, 1) := by decide +kernel
theorem dX8_marginOf_19 : decode cX8_marginOf 19 = .ok (.iconst 5, 1) := by decide +kernel
theorem dX8_marginOf_20 : decode cX8_marginOf 20 = .ok (.aload_n 0, 1) := by decide +kernel
theorem dX8_marginOf_21 : decode cX8_marginOf 21 = .ok (.getfield 44, 3) := by decide +kernel
theorem dX8_marginOf_24 : decode cX8_marginOf 24 = .ok (.iload_n 1, 1) := by decide +kernel
theorem dX8_marginOf_25 : decode cX8_marginOf 25 = .ok (.iaload, 1) := by decide +kernel
theorem dX8_marginOf_26 : decode cX8_marginOf 26 = .ok (.imul, 1) := by decide +kernel
theorem dX8_marginOf_27 : decode cX8_marginOf 27 = .ok (.isub, 1) := by decide +kernel
theorem dX8_marginOf_28 : decode cX8_marginOf 28 = .ok (.ireturn, 1) := by decide +kernel
theorem dX8_isRoom_0 : decode cX8_isRoom 0 = .ok (.aload_n 0, 1) := by decide +kernel
theorem dX8_isRoom_1 : decode cX8_isRoom 1 = .ok (.getfield 117, 3) := by decide +kernel
theorem dX8_isRoom_4 : decode cX8_isRoom 4 = .ok (.bipush 56, 2) := by decide +kernel
theorem dX8_isRoom_6 : decode cX8_isRoom 6 = .ok (.if_icmp .gt 7, 3) := by decide +kernel
theorem dX8_isRoom_9 : decode cX8_isRoom 9 = .ok (.iconst 1, 1) := by decide +kernel
theorem dX8_isRoom_10 : decode cX8_isRoom 10 = .ok (.goto 4, 3) := by decide +kernel
theorem dX8_isRoom_13 : decode cX8_isRoom 13 = .ok (.iconst 0, 1) := by decide +kernel
theorem dX8_isRoom_14 : decode cX8_isRoom 14 = .ok (.ireturn, 1) := by decide +kernel
theorem dX8_goes_0 : decode cX8_goes 0 = .ok (.iconst 0, 1) := by decide +kernel
theorem dX8_goes_1 : decode cX8_goes 1 = .ok (.istore_n 3, 1) := by decide +kernel
theorem dX8_goes_2 : decode cX8_goes 2 = .ok (.iconst 0, 1) := by decide +kernel
theorem dX8_goes_3 : decode cX8_goes 3 = .ok (.istore 4, 2) := by decide +kernel
theorem dX8_goes_5 : decode cX8_goes 5 = .ok (.iload 4, 2) := by decide +kernel
theorem dX8_goes_7 : decode cX8_goes 7 = .ok (.aload_n 0, 1) := by decide +kernel
theorem dX8_goes_8 : decode cX8_goes 8 = .ok (.getfield 17, 3) := by decide +kernel
theorem dX8_goes_11 : decode cX8_goes 11 = .ok (.if_icmp .ge 112, 3) := by decide +kernel
theorem dX8_goes_14 : decode cX8_goes 14 = .ok (.aload_n 0, 1) := by decide +kernel
theorem dX8_goes_15 : decode cX8_goes 15 = .ok (.iload_n 1, 1) := by decide +kernel
theorem dX8_goes_16 : decode cX8_goes 16 = .ok (.iload 4, 2) := by decide +kernel
theorem dX8_goes_18 : decode cX8_goes 18 = .ok (.invokevirtual 160, 3) := by decide +kernel
theorem dX8_goes_21 : decode cX8_goes 21 = .ok (.istore 5, 2) := by decide +kernel
theorem dX8_goes_23 : decode cX8_goes 23 = .ok (.iload 5, 2) := by decide +kernel
theorem dX8_goes_25 : decode cX8_goes 25 = .ok (.ifCond .lt 92, 3) := by decide +kernel
theorem dX8_goes_28 : decode cX8_goes 28 = .ok (.aload_n 0, 1) := by decide +kernel
theorem dX8_goes_29 : decode cX8_goes 29 = .ok (.getfield 74, 3) := by decide +kernel
theorem dX8_goes_32 : decode cX8_goes 32 = .ok (.aload_n 0, 1) := by decide +kernel
theorem dX8_goes_33 : decode cX8_goes 33 = .ok (.getfield 117, 3) := by decide +kernel
theorem dX8_goes_36 : decode cX8_goes 36 = .ok (.iload_n 1, 1) := by decide +kernel
theorem dX8_goes_37 : decode cX8_goes 37 = .ok (.iastore, 1) := by decide +kernel
theorem dX8_goes_38 : decode cX8_goes 38 = .ok (.aload_n 0, 1) := by decide +kernel
theorem dX8_goes_39 : decode cX8_goes 39 = .ok (.getfield 77, 3) := by decide +kernel
theorem dX8_goes_42 : decode cX8_goes 42 = .ok (.aload_n 0, 1) := by decide +kernel
theorem dX8_goes_43 : decode cX8_goes 43 = .ok (.getfield 117, 3) := by decide +kernel
theorem dX8_goes_46 : decode cX8_goes 46 = .ok (.iload 4, 2) := by decide +kernel
theorem dX8_goes_48 : decode cX8_goes 48 = .ok (.iastore, 1) := by decide +kernel
theorem dX8_goes_49 : decode cX8_goes 49 = .ok (.aload_n 0, 1) := by decide +kernel
theorem dX8_goes_50 : decode cX8_goes 50 = .ok (.getfield 80, 3) := by decide +kernel
theorem dX8_goes_53 : decode cX8_goes 53 = .ok (.aload_n 0, 1) := by decide +kernel
theorem dX8_goes_54 : decode cX8_goes 54 = .ok (.getfield 117, 3) := by decide +kernel
theorem dX8_goes_57 : decode cX8_goes 57 = .ok (.iload_n 2, 1) := by decide +kernel
theorem dX8_goes_58 : decode cX8_goes 58 = .ok (.iastore, 1) := by decide +kernel
theorem dX8_goes_59 : decode cX8_goes 59 = .ok (.aload_n 0, 1) := by decide +kernel
theorem dX8_goes_60 : decode cX8_goes 60 = .ok (.getfield 83, 3) := by decide +kernel
theorem dX8_goes_63 : decode cX8_goes 63 = .ok (.aload_n 0, 1) := by decide +kernel
theorem dX8_goes_64 : decode cX8_goes 64 = .ok (.getfield 117, 3) := by decide +kernel
theorem dX8_goes_67 : decode cX8_goes 67 = .ok (.iload 5, 2) := by decide +kernel
theorem dX8_goes_69 : decode cX8_goes 69 = .ok (.iastore, 1) := by decide +kernel
theorem dX8_goes_70 : decode cX8_goes 70 = .ok (.aload_n 0, 1) := by decide +kernel
theorem dX8_goes_71 : decode cX8_goes 71 = .ok (.getfield 86, 3) := by decide +kernel
theorem dX8_goes_74 : decode cX8_goes 74 = .ok (.aload_n 0, 1) := by decide +kernel
theorem dX8_goes_75 : decode cX8_goes 75 = .ok (.getfield 117, 3) := by decide +kernel
theorem dX8_goes_78 : decode cX8_goes 78 = .ok (.aload_n 0, 1) := by decide +kernel
theorem dX8_goes_79 : decode cX8_goes 79 = .ok (.getfield 114, 3) := by decide +kernel
theorem dX8_goes_82 : decode cX8_goes 82 = .ok (.iconst 1, 1) := by decide +kernel
theorem dX8_goes_83 : decode cX8_goes 83 = .ok (.iadd, 1) := by decide +kernel
theorem dX8_goes_84 : decode cX8_goes 84 = .ok (.aload_n 0, 1) := by decide +kernel
theorem dX8_goes_85 : decode cX8_goes 85 = .ok (.getfield 23, 3) := by decide +kernel
theorem dX8_goes_88 : decode cX8_goes 88 = .ok (.iload 4, 2) := by decide +kernel
theorem dX8_goes_90 : decode cX8_goes 90 = .ok (.iaload, 1) := by decide +kernel
theorem dX8_goes_91 : decode cX8_goes 91 = .ok (.iadd, 1) := by decide +kernel
theorem dX8_goes_92 : decode cX8_goes 92 = .ok (.iastore, 1) := by decide +kernel
theorem dX8_goes_93 : decode cX8_goes 93 = .ok (.aload_n 0, 1) := by decide +kernel
theorem dX8_goes_94 : decode cX8_goes 94 = .ok (.dup, 1) := by decide +kernel
theorem dX8_goes_95 : decode cX8_goes 95 = .ok (.getfield 117, 3) := by decide +kernel
theorem dX8_goes_98 : decode cX8_goes 98 = .ok (.iconst 1, 1) := by decide +kernel
theorem dX8_goes_99 : decode cX8_goes 99 = .ok (.iadd, 1) := by decide +kernel
theorem dX8_goes_100 : decode cX8_goes 100 = .ok (.putfield 117, 3) := by decide +kernel
theorem dX8_goes_103 : decode cX8_goes 103 = .ok (.aload_n 0, 1) := by decide +kernel
theorem dX8_goes_104 : decode cX8_goes 104 = .ok (.getfield 32, 3) := by decide +kernel
theorem dX8_goes_107 : decode cX8_goes 107 = .ok (.iload 4, 2) := by decide +kernel
theorem dX8_goes_109 : decode cX8_goes 109 = .ok (.dup2, 1) := by decide +kernel
theorem dX8_goes_110 : decode cX8_goes 110 = .ok (.iaload, 1) := by decide +kernel
theorem dX8_goes_111 : decode cX8_goes 111 = .ok (.iconst 1, 1) := by decide +kernel
theorem dX8_goes_112 : decode cX8_goes 112 = .ok (.iadd, 1) := by decide +kernel
theorem dX8_goes_113 : decode cX8_goes 113 = .ok (.iastore, 1) := by decide +kernel
theorem dX8_goes_114 : decode cX8_goes 114 = .ok (.iinc 3 1, 3) := by decide +kernel
theorem dX8_goes_117 : decode cX8_goes 117 = .ok (.iinc 4 1, 3) := by decide +kernel
theorem dX8_goes_120 : decode cX8_goes 120 = .ok (.goto (-115), 3) := by decide +kernel
theorem dX8_goes_123 : decode cX8_goes 123 = .ok (.iload_n 3, 1) := by decide +kernel
theorem dX8_goes_124 : decode cX8_goes 124 = .ok (.ireturn, 1) := by decide +kernel
theorem dX8_sendsNow_0 : decode cX8_sendsNow 0 = .ok (.aload_n 0, 1) := by decide +kernel
theorem dX8_sendsNow_1 : decode cX8_sendsNow 1 = .ok (.getfield 53, 3) := by decide +kernel
theorem dX8_sendsNow_4 : decode cX8_sendsNow 4 = .ok (.iload_n 1, 1) := by decide +kernel
theorem dX8_sendsNow_5 : decode cX8_sendsNow 5 = .ok (.iaload, 1) := by decide +kernel
theorem dX8_sendsNow_6 : decode cX8_sendsNow 6 = .ok (.iconst 1, 1) := by decide +kernel
theorem dX8_sendsNow_7 : decode cX8_sendsNow 7 = .ok (.if_icmp .ne 12, 3) := by decide +kernel
theorem dX8_sendsNow_10 : decode cX8_sendsNow 10 = .ok (.aload_n 0, 1) := by decide +kernel
theorem dX8_sendsNow_11 : decode cX8_sendsNow 11 = .ok (.getfield 50, 3) := by decide +kernel
theorem dX8_sendsNow_14 : decode cX8_sendsNow 14 = .ok (.iload_n 1, 1) := by decide +kernel
theorem dX8_sendsNow_15 : decode cX8_sendsNow 15 = .ok (.iaload, 1) := by decide +kernel
theorem dX8_sendsNow_16 : decode cX8_sendsNow 16 = .ok (.goto 4, 3) := by decide +kernel
theorem dX8_sendsNow_19 : decode cX8_sendsNow 19 = .ok (.iconst (-1), 1) := by decide +kernel
theorem dX8_sendsNow_20 : decode cX8_sendsNow 20 = .ok (.istore_n 2, 1) := by decide +kernel
theorem dX8_sendsNow_21 : decode cX8_sendsNow 21 = .ok (.aload_n 0, 1) := by decide +kernel
theorem dX8_sendsNow_22 : decode cX8_sendsNow 22 = .ok (.getfield 56, 3) := by decide +kernel
theorem dX8_sendsNow_25 : decode cX8_sendsNow 25 = .ok (.iload_n 1, 1) := by decide +kernel
theorem dX8_sendsNow_26 : decode cX8_sendsNow 26 = .ok (.iload_n 2, 1) := by decide +kernel
theorem dX8_sendsNow_27 : decode cX8_sendsNow 27 = .ok (.iastore, 1) := by decide +kernel
theorem dX8_sendsNow_28 : decode cX8_sendsNow 28 = .ok (.aload_n 0, 1) := by decide +kernel
theorem dX8_sendsNow_29 : decode cX8_sendsNow 29 = .ok (.getfield 50, 3) := by decide +kernel
theorem dX8_sendsNow_32 : decode cX8_sendsNow 32 = .ok (.iload_n 1, 1) := by decide +kernel
theorem dX8_sendsNow_33 : decode cX8_sendsNow 33 = .ok (.aload_n 0, 1) := by decide +kernel
theorem dX8_sendsNow_34 : decode cX8_sendsNow 34 = .ok (.getfield 53, 3) := by decide +kernel
theorem dX8_sendsNow_37 : decode cX8_sendsNow 37 = .ok (.iload_n 1, 1) := by decide +kernel
theorem dX8_sendsNow_38 : decode cX8_sendsNow 38 = .ok (.iaload, 1) := by decide +kernel
theorem dX8_sendsNow_39 : decode cX8_sendsNow 39 = .ok (.iconst 1, 1) := by decide +kernel
theorem dX8_sendsNow_40 : decode cX8_sendsNow 40 = .ok (.if_icmp .ne 17, 3) := by decide +kernel
theorem dX8_sendsNow_43 : decode cX8_sendsNow 43 = .ok (.aload_n 0, 1) := by decide +kernel
theorem dX8_sendsNow_44 : decode cX8_sendsNow 44 = .ok (.getfield 50, 3) := by decide +kernel
theorem dX8_sendsNow_47 : decode cX8_sendsNow 47 = .ok (.iload_n 1, 1) := by decide +kernel
theorem dX8_sendsNow_48 : decode cX8_sendsNow 48 = .ok (.iaload, 1) := by decide +kernel
theorem dX8_sendsNow_49 : decode cX8_sendsNow 49 = .ok (.iconst 1, 1) := by decide +kernel
theorem dX8_sendsNow_50 : decode cX8_sendsNow 50 = .ok (.iadd, 1) := by decide +kernel
theorem dX8_sendsNow_51 : decode cX8_sendsNow 51 = .ok (.bipush 64, 2) := by decide +kernel
theorem dX8_sendsNow_53 : decode cX8_sendsNow 53 = .ok (.irem, 1) := by decide +kernel
theorem dX8_sendsNow_54 : decode cX8_sendsNow 54 = .ok (.goto 9, 3) := by decide +kernel
theorem dX8_sendsNow_57 : decode cX8_sendsNow 57 = .ok (.aload_n 0, 1) := by decide +kernel
theorem dX8_sendsNow_58 : decode cX8_sendsNow 58 = .ok (.getfield 50, 3) := by decide +kernel
theorem dX8_sendsNow_61 : decode cX8_sendsNow 61 = .ok (.iload_n 1, 1) := by decide +kernel
theorem dX8_sendsNow_62 : decode cX8_sendsNow 62 = .ok (.iaload, 1) := by decide +kernel
theorem dX8_sendsNow_63 : decode cX8_sendsNow 63 = .ok (.iastore, 1) := by decide +kernel
theorem dX8_sendsNow_64 : decode cX8_sendsNow 64 = .ok (.aload_n 0, 1) := by decide +kernel
theorem dX8_sendsNow_65 : decode cX8_sendsNow 65 = .ok (.iload_n 1, 1) := by decide +kernel
theorem dX8_sendsNow_66 : decode cX8_sendsNow 66 = .ok (.iload_n 2, 1) := by decide +kernel
theorem dX8_sendsNow_67 : decode cX8_sendsNow 67 = .ok (.invokevirtual 164, 3) := by decide +kernel
theorem dX8_sendsNow_70 : decode cX8_sendsNow 70 = .ok (.ireturn, 1) := by decide +kernel
theorem dX8_sends_0 : decode cX8_sends 0 = .ok (.aload_n 0, 1) := by decide +kernel
theorem dX8_sends_1 : decode cX8_sends 1 = .ok (.iload_n 1, 1) := by decide +kernel
theorem dX8_sends_2 : decode cX8_sends 2 = .ok (.invokevirtual 142, 3) := by decide +kernel
theorem dX8_sends_5 : decode cX8_sends 5 = .ok (.ifCond .ne 8, 3) := by decide +kernel
theorem dX8_sends_8 : decode cX8_sends 8 = .ok (.aload_n 0, 1) := by decide +kernel
theorem dX8_sends_9 : decode cX8_sends 9 = .ok (.invokevirtual 127, 3) := by decide +kernel
theorem dX8_sends_12 : decode cX8_sends 12 = .ok (.ireturn, 1) := by decide +kernel
theorem dX8_sends_13 : decode cX8_sends 13 = .ok (.aload_n 0, 1) := by decide +kernel
theorem dX8_sends_14 : decode cX8_sends 14 = .ok (.invokevirtual 167, 3) := by decide +kernel
theorem dX8_sends_17 : decode cX8_sends 17 = .ok (.ifCond .eq 11, 3) := by decide +kernel
theorem dX8_sends_20 : decode cX8_sends 20 = .ok (.aload_n 0, 1) := by decide +kernel
theorem dX8_sends_21 : decode cX8_sends 21 = .ok (.iload_n 1, 1) := by decide +kernel
theorem dX8_sends_22 : decode cX8_sends 22 = .ok (.invokevirtual 171, 3) := by decide +kernel
theorem dX8_sends_25 : decode cX8_sends 25 = .ok (.goto 7, 3) := by decide +kernel
theorem dX8_sends_28 : decode cX8_sends 28 = .ok (.aload_n 0, 1) := by decide +kernel
theorem dX8_sends_29 : decode cX8_sends 29 = .ok (.invokevirtual 174, 3) := by decide +kernel
theorem dX8_sends_32 : decode cX8_sends 32 = .ok (.ireturn, 1) := by decide +kernel
theorem dX8_again_0 : decode cX8_again 0 = .ok (.aload_n 0, 1) := by decide +kernel
theorem dX8_again_1 : decode cX8_again 1 = .ok (.iload_n 1, 1) := by decide +kernel
theorem dX8_again_2 : decode cX8_again 2 = .ok (.invokevirtual 142, 3) := by decide +kernel
theorem dX8_again_5 : decode cX8_again 5 = .ok (.ifCond .ne 8, 3) := by decide +kernel
theorem dX8_again_8 : decode cX8_again 8 = .ok (.aload_n 0, 1) := by decide +kernel
theorem dX8_again_9 : decode cX8_again 9 = .ok (.invokevirtual 127, 3) := by decide +kernel
theorem dX8_again_12 : decode cX8_again 12 = .ok (.ireturn, 1) := by decide +kernel
theorem dX8_again_13 : decode cX8_again 13 = .ok (.aload_n 0, 1) := by decide +kernel
theorem dX8_again_14 : decode cX8_again 14 = .ok (.getfield 56, 3) := by decide +kernel
theorem dX8_again_17 : decode cX8_again 17 = .ok (.iload_n 1, 1) := by decide +kernel
theorem dX8_again_18 : decode cX8_again 18 = .ok (.iaload, 1) := by decide +kernel
theorem dX8_again_19 : decode cX8_again 19 = .ok (.bipush (-2), 2) := by decide +kernel
theorem dX8_again_21 : decode cX8_again 21 = .ok (.if_icmp .ne 8, 3) := by decide +kernel
theorem dX8_again_24 : decode cX8_again 24 = .ok (.aload_n 0, 1) := by decide +kernel
theorem dX8_again_25 : decode cX8_again 25 = .ok (.invokevirtual 177, 3) := by decide +kernel
theorem dX8_again_28 : decode cX8_again 28 = .ok (.ireturn, 1) := by decide +kernel
theorem dX8_again_29 : decode cX8_again 29 = .ok (.aload_n 0, 1) := by decide +kernel
theorem dX8_again_30 : decode cX8_again 30 = .ok (.invokevirtual 167, 3) := by decide +kernel
theorem dX8_again_33 : decode cX8_again 33 = .ok (.ifCond .eq 17, 3) := by decide +kernel
theorem dX8_again_36 : decode cX8_again 36 = .ok (.aload_n 0, 1) := by decide +kernel
theorem dX8_again_37 : decode cX8_again 37 = .ok (.iload_n 1, 1) := by decide +kernel
theorem dX8_again_38 : decode cX8_again 38 = .ok (.aload_n 0, 1) := by decide +kernel
theorem dX8_again_39 : decode cX8_again 39 = .ok (.getfield 56, 3) := by decide +kernel
theorem dX8_again_42 : decode cX8_again 42 = .ok (.iload_n 1, 1) := by decide +kernel
theorem dX8_again_43 : decode cX8_again 43 = .ok (.iaload, 1) := by decide +kernel
theorem dX8_again_44 : decode cX8_again 44 = .ok (.invokevirtual 164, 3) := by decide +kernel
theorem dX8_again_47 : decode cX8_again 47 = .ok (.goto 7, 3) := by decide +kernel
theorem dX8_again_50 : decode cX8_again 50 = .ok (.aload_n 0, 1) := by decide +kernel
theorem dX8_again_51 : decode cX8_again 51 = .ok (.invokevirtual 174, 3) := by decide +kernel
theorem dX8_again_54 : decode cX8_again 54 = .ok (.ireturn, 1) := by decide +kernel
theorem dX8_renews_0 : decode cX8_renews 0 = .ok (.aload_n 0, 1) := by decide +kernel
theorem dX8_renews_1 : decode cX8_renews 1 = .ok (.iload_n 1, 1) := by decide +kernel
theorem dX8_renews_2 : decode cX8_renews 2 = .ok (.invokevirtual 142, 3) := by decide +kernel
theorem dX8_renews_5 : decode cX8_renews 5 = .ok (.ifCond .ne 8, 3) := by decide +kernel
theorem dX8_renews_8 : decode cX8_renews 8 = .ok (.aload_n 0, 1) := by decide +kernel
theorem dX8_renews_9 : decode cX8_renews 9 = .ok (.invokevirtual 127, 3) := by decide +kernel
theorem dX8_renews_12 : decode cX8_renews 12 = .ok (.ireturn, 1) := by decide +kernel
theorem dX8_renews_13 : decode cX8_renews 13 = .ok (.aload_n 0, 1) := by decide +kernel
theorem dX8_renews_14 : decode cX8_renews 14 = .ok (.getfield 53, 3) := by decide +kernel
theorem dX8_renews_17 : decode cX8_renews 17 = .ok (.iload_n 1, 1) := by decide +kernel
theorem dX8_renews_18 : decode cX8_renews 18 = .ok (.iaload, 1) := by decide +kernel
theorem dX8_renews_19 : decode cX8_renews 19 = .ok (.istore_n 2, 1) := by decide +kernel
theorem dX8_renews_20 : decode cX8_renews 20 = .ok (.aload_n 0, 1) := by decide +kernel
theorem dX8_renews_21 : decode cX8_renews 21 = .ok (.iload_n 1, 1) := by decide +kernel
theorem dX8_renews_22 : decode cX8_renews 22 = .ok (.invokevirtual 123, 3) := by decide +kernel
theorem dX8_renews_25 : decode cX8_renews 25 = .ok (.iload_n 2, 1) := by decide +kernel
theorem dX8_renews_26 : decode cX8_renews 26 = .ok (.ireturn, 1) := by decide +kernel
theorem dX8_far_0 : decode cX8_far 0 = .ok (.iload_n 2, 1) := by decide +kernel
theorem dX8_far_1 : decode cX8_far 1 = .ok (.aload_n 0, 1) := by decide +kernel
theorem dX8_far_2 : decode cX8_far 2 = .ok (.getfield 59, 3) := by decide +kernel
theorem dX8_far_5 : decode cX8_far 5 = .ok (.iload_n 1, 1) := by decide +kernel
theorem dX8_far_6 : decode cX8_far 6 = .ok (.iaload, 1) := by decide +kernel
theorem dX8_far_7 : decode cX8_far 7 = .ok (.isub, 1) := by decide +kernel
theorem dX8_far_8 : decode cX8_far 8 = .ok (.bipush 64, 2) := by decide +kernel
theorem dX8_far_10 : decode cX8_far 10 = .ok (.iadd, 1) := by decide +kernel
theorem dX8_far_11 : decode cX8_far 11 = .ok (.bipush 64, 2) := by decide +kernel
theorem dX8_far_13 : decode cX8_far 13 = .ok (.irem, 1) := by decide +kernel
theorem dX8_far_14 : decode cX8_far 14 = .ok (.ireturn, 1) := by decide +kernel
theorem dX8_isOn_0 : decode cX8_isOn 0 = .ok (.aload_n 0, 1) := by decide +kernel
theorem dX8_isOn_1 : decode cX8_isOn 1 = .ok (.iload_n 1, 1) := by decide +kernel
theorem dX8_isOn_2 : decode cX8_isOn 2 = .ok (.iload_n 2, 1) := by decide +kernel
theorem dX8_isOn_3 : decode cX8_isOn 3 = .ok (.invokevirtual 180, 3) := by decide +kernel
theorem dX8_isOn_6 : decode cX8_isOn 6 = .ok (.iconst 1, 1) := by decide +kernel
theorem dX8_isOn_7 : decode cX8_isOn 7 = .ok (.bipush 32, 2) := by decide +kernel
theorem dX8_isOn_9 : decode cX8_isOn 9 = .ok (.invokestatic 110, 3) := by decide +kernel
theorem dX8_isOn_12 : decode cX8_isOn 12 = .ok (.ireturn, 1) := by decide +kernel
theorem dX8_windowOf_0 : decode cX8_windowOf 0 = .ok (.iconst 0, 1) := by decide +kernel
theorem dX8_windowOf_1 : decode cX8_windowOf 1 = .ok (.istore_n 3, 1) := by decide +kernel
theorem dX8_windowOf_2 : decode cX8_windowOf 2 = .ok (.iload_n 3, 1) := by decide +kernel
theorem dX8_windowOf_3 : decode cX8_windowOf 3 = .ok (.aload_n 0, 1) := by decide +kernel
theorem dX8_windowOf_4 : decode cX8_windowOf 4 = .ok (.getfield 120, 3) := by decide +kernel
theorem dX8_windowOf_7 : decode cX8_windowOf 7 = .ok (.if_icmp .ge 31, 3) := by decide +kernel
theorem dX8_windowOf_10 : decode cX8_windowOf 10 = .ok (.aload_n 0, 1) := by decide +kernel
theorem dX8_windowOf_11 : decode cX8_windowOf 11 = .ok (.getfield 89, 3) := by decide +kernel
theorem dX8_windowOf_14 : decode cX8_windowOf 14 = .ok (.iload_n 3, 1) := by decide +kernel
theorem dX8_windowOf_15 : decode cX8_windowOf 15 = .ok (.iaload, 1) := by decide +kernel
theorem dX8_windowOf_16 : decode cX8_windowOf 16 = .ok (.iload_n 1, 1) := by decide +kernel
theorem dX8_windowOf_17 : decode cX8_windowOf 17 = .ok (.if_icmp .ne 15, 3) := by decide +kernel
theorem dX8_windowOf_20 : decode cX8_windowOf 20 = .ok (.aload_n 0, 1) := by decide +kernel
theorem dX8_windowOf_21 : decode cX8_windowOf 21 = .ok (.getfield 92, 3) := by decide +kernel
theorem dX8_windowOf_24 : decode cX8_windowOf 24 = .ok (.iload_n 3, 1) := by decide +kernel
theorem dX8_windowOf_25 : decode cX8_windowOf 25 = .ok (.iaload, 1) := by decide +kernel
theorem dX8_windowOf_26 : decode cX8_windowOf 26 = .ok (.iload_n 2, 1) := by decide +kernel
theorem dX8_windowOf_27 : decode cX8_windowOf 27 = .ok (.if_icmp .ne 5, 3) := by decide +kernel
theorem dX8_windowOf_30 : decode cX8_windowOf 30 = .ok (.iload_n 3, 1) := by decide +kernel
theorem dX8_windowOf_31 : decode cX8_windowOf 31 = .ok (.ireturn, 1) := by decide +kernel
theorem dX8_windowOf_32 : decode cX8_windowOf 32 = .ok (.iinc 3 1, 3) := by decide +kernel
theorem dX8_windowOf_35 : decode cX8_windowOf 35 = .ok (.goto (-33), 3) := by decide +kernel
theorem dX8_windowOf_38 : decode cX8_windowOf 38 = .ok (.iconst (-1), 1) := by decide +kernel
theorem dX8_windowOf_39 : decode cX8_windowOf 39 = .ok (.ireturn, 1) := by decide +kernel
theorem dX8_hearsIn_0 : decode cX8_hearsIn 0 = .ok (.aload_n 0, 1) := by decide +kernel
theorem dX8_hearsIn_1 : decode cX8_hearsIn 1 = .ok (.getfield 98, 3) := by decide +kernel
theorem dX8_hearsIn_4 : decode cX8_hearsIn 4 = .ok (.iload_n 1, 1) := by decide +kernel
theorem dX8_hearsIn_5 : decode cX8_hearsIn 5 = .ok (.iaload, 1) := by decide +kernel
theorem dX8_hearsIn_6 : decode cX8_hearsIn 6 = .ok (.iload_n 2, 1) := by decide +kernel
theorem dX8_hearsIn_7 : decode cX8_hearsIn 7 = .ok (.ishr, 1) := by decide +kernel
theorem dX8_hearsIn_8 : decode cX8_hearsIn 8 = .ok (.iconst 1, 1) := by decide +kernel
theorem dX8_hearsIn_9 : decode cX8_hearsIn 9 = .ok (.iand, 1) := by decide +kernel
theorem dX8_hearsIn_10 : decode cX8_hearsIn 10 = .ok (.iconst 1, 1) := by decide +kernel
theorem dX8_hearsIn_11 : decode cX8_hearsIn 11 = .ok (.if_icmp .ne 7, 3) := by decide +kernel
theorem dX8_hearsIn_14 : decode cX8_hearsIn 14 = .ok (.iconst 1, 1) := by decide +kernel
theorem dX8_hearsIn_15 : decode cX8_hearsIn 15 = .ok (.goto 4, 3) := by decide +kernel
theorem dX8_hearsIn_18 : decode cX8_hearsIn 18 = .ok (.iconst 0, 1) := by decide +kernel
theorem dX8_hearsIn_19 : decode cX8_hearsIn 19 = .ok (.istore 4, 2) := by decide +kernel
theorem dX8_hearsIn_21 : decode cX8_hearsIn 21 = .ok (.iconst 4, 1) := by decide +kernel
theorem dX8_hearsIn_22 : decode cX8_hearsIn 22 = .ok (.iload_n 1, 1) := by decide +kernel
theorem dX8_hearsIn_23 : decode cX8_hearsIn 23 = .ok (.imul, 1) := by decide +kernel
theorem dX8_hearsIn_24 : decode cX8_hearsIn 24 = .ok (.iload_n 2, 1) := by decide +kernel
theorem dX8_hearsIn_25 : decode cX8_hearsIn 25 = .ok (.iadd, 1) := by decide +kernel
theorem dX8_hearsIn_26 : decode cX8_hearsIn 26 = .ok (.istore 5, 2) := by decide +kernel
theorem dX8_hearsIn_28 : decode cX8_hearsIn 28 = .ok (.aload_n 0, 1) := by decide +kernel
theorem dX8_hearsIn_29 : decode cX8_hearsIn 29 = .ok (.getfield 101, 3) := by decide +kernel
theorem dX8_hearsIn_32 : decode cX8_hearsIn 32 = .ok (.iload 5, 2) := by decide +kernel
theorem dX8_hearsIn_34 : decode cX8_hearsIn 34 = .ok (.iload 4, 2) := by decide +kernel
theorem dX8_hearsIn_36 : decode cX8_hearsIn 36 = .ok (.ifCond .eq 24, 3) := by decide +kernel
theorem dX8_hearsIn_39 : decode cX8_hearsIn 39 = .ok (.aload_n 0, 1) := by decide +kernel
theorem dX8_hearsIn_40 : decode cX8_hearsIn 40 = .ok (.getfield 101, 3) := by decide +kernel
theorem dX8_hearsIn_43 : decode cX8_hearsIn 43 = .ok (.iload 5, 2) := by decide +kernel
theorem dX8_hearsIn_45 : decode cX8_hearsIn 45 = .ok (.iaload, 1) := by decide +kernel
theorem dX8_hearsIn_46 : decode cX8_hearsIn 46 = .ok (.iload_n 3, 1) := by decide +kernel
theorem dX8_hearsIn_47 : decode cX8_hearsIn 47 = .ok (.if_icmp .le 13, 3) := by decide +kernel
theorem dX8_hearsIn_50 : decode cX8_hearsIn 50 = .ok (.aload_n 0, 1) := by decide +kernel
theorem dX8_hearsIn_51 : decode cX8_hearsIn 51 = .ok (.getfield 101, 3) := by decide +kernel
theorem dX8_hearsIn_54 : decode cX8_hearsIn 54 = .ok (.iload 5, 2) := by decide +kernel
theorem dX8_hearsIn_56 : decode cX8_hearsIn 56 = .ok (.iaload, 1) := by decide +kernel
theorem dX8_hearsIn_57 : decode cX8_hearsIn 57 = .ok (.goto 4, 3) := by decide +kernel
theorem dX8_hearsIn_60 : decode cX8_hearsIn 60 = .ok (.iload_n 3, 1) := by decide +kernel
theorem dX8_hearsIn_61 : decode cX8_hearsIn 61 = .ok (.iastore, 1) := by decide +kernel
theorem dX8_hearsIn_62 : decode cX8_hearsIn 62 = .ok (.aload_n 0, 1) := by decide +kernel
theorem dX8_hearsIn_63 : decode cX8_hearsIn 63 = .ok (.getfield 98, 3) := by decide +kernel
theorem dX8_hearsIn_66 : decode cX8_hearsIn 66 = .ok (.iload_n 1, 1) := by decide +kernel
theorem dX8_hearsIn_67 : decode cX8_hearsIn 67 = .ok (.dup2, 1) := by decide +kernel
theorem dX8_hearsIn_68 : decode cX8_hearsIn 68 = .ok (.iaload, 1) := by decide +kernel
theorem dX8_hearsIn_69 : decode cX8_hearsIn 69 = .ok (.iconst 1, 1) := by decide +kernel
theorem dX8_hearsIn_70 : decode cX8_hearsIn 70 = .ok (.iload_n 2, 1) := by decide +kernel
theorem dX8_hearsIn_71 : decode cX8_hearsIn 71 = .ok (.ishl, 1) := by decide +kernel
theorem dX8_hearsIn_72 : decode cX8_hearsIn 72 = .ok (.ior, 1) := by decide +kernel
theorem dX8_hearsIn_73 : decode cX8_hearsIn 73 = .ok (.iastore, 1) := by decide +kernel
theorem dX8_hearsIn_74 : decode cX8_hearsIn 74 = .ok (.return_, 1) := by decide +kernel
theorem dX8_comes_0 : decode cX8_comes 0 = .ok (.aload_n 0, 1) := by decide +kernel
theorem dX8_comes_1 : decode cX8_comes 1 = .ok (.getfield 74, 3) := by decide +kernel
theorem dX8_comes_4 : decode cX8_comes 4 = .ok (.iload_n 1, 1) := by decide +kernel
theorem dX8_comes_5 : decode cX8_comes 5 = .ok (.iaload, 1) := by decide +kernel
theorem dX8_comes_6 : decode cX8_comes 6 = .ok (.istore_n 2, 1) := by decide +kernel
theorem dX8_comes_7 : decode cX8_comes 7 = .ok (.aload_n 0, 1) := by decide +kernel
theorem dX8_comes_8 : decode cX8_comes 8 = .ok (.iload_n 2, 1) := by decide +kernel
theorem dX8_comes_9 : decode cX8_comes 9 = .ok (.aload_n 0, 1) := by decide +kernel
theorem dX8_comes_10 : decode cX8_comes 10 = .ok (.getfield 80, 3) := by decide +kernel
theorem dX8_comes_13 : decode cX8_comes 13 = .ok (.iload_n 1, 1) := by decide +kernel
theorem dX8_comes_14 : decode cX8_comes 14 = .ok (.iaload, 1) := by decide +kernel
theorem dX8_comes_15 : decode cX8_comes 15 = .ok (.invokevirtual 183, 3) := by decide +kernel
theorem dX8_comes_18 : decode cX8_comes 18 = .ok (.istore_n 3, 1) := by decide +kernel
theorem dX8_comes_19 : decode cX8_comes 19 = .ok (.iload_n 3, 1) := by decide +kernel
theorem dX8_comes_20 : decode cX8_comes 20 = .ok (.iconst (-1), 1) := by decide +kernel
theorem dX8_comes_21 : decode cX8_comes 21 = .ok (.if_icmp .eq 33, 3) := by decide +kernel
theorem dX8_comes_24 : decode cX8_comes 24 = .ok (.aload_n 0, 1) := by decide +kernel
theorem dX8_comes_25 : decode cX8_comes 25 = .ok (.getfield 104, 3) := by decide +kernel
theorem dX8_comes_28 : decode cX8_comes 28 = .ok (.iconst 5, 1) := by decide +kernel
theorem dX8_comes_29 : decode cX8_comes 29 = .ok (.dup2, 1) := by decide +kernel
theorem dX8_comes_30 : decode cX8_comes 30 = .ok (.iaload, 1) := by decide +kernel
theorem dX8_comes_31 : decode cX8_comes 31 = .ok (.iconst 1, 1) := by decide +kernel
theorem dX8_comes_32 : decode cX8_comes 32 = .ok (.iadd, 1) := by decide +kernel
theorem dX8_comes_33 : decode cX8_comes 33 = .ok (.iastore, 1) := by decide +kernel
theorem dX8_comes_34 : decode cX8_comes 34 = .ok (.aload_n 0, 1) := by decide +kernel
theorem dX8_comes_35 : decode cX8_comes 35 = .ok (.iload_n 3, 1) := by decide +kernel
theorem dX8_comes_36 : decode cX8_comes 36 = .ok (.aload_n 0, 1) := by decide +kernel
theorem dX8_comes_37 : decode cX8_comes 37 = .ok (.getfield 77, 3) := by decide +kernel
theorem dX8_comes_40 : decode cX8_comes 40 = .ok (.iload_n 1, 1) := by decide +kernel
theorem dX8_comes_41 : decode cX8_comes 41 = .ok (.iaload, 1) := by decide +kernel
theorem dX8_comes_42 : decode cX8_comes 42 = .ok (.aload_n 0, 1) := by decide +kernel
theorem dX8_comes_43 : decode cX8_comes 43 = .ok (.getfield 83, 3) := by decide +kernel
theorem dX8_comes_46 : decode cX8_comes 46 = .ok (.iload_n 1, 1) := by decide +kernel
theorem dX8_comes_47 : decode cX8_comes 47 = .ok (.iaload, 1) := by decide +kernel
theorem dX8_comes_48 : decode cX8_comes 48 = .ok (.invokevirtual 186, 3) := by decide +kernel
theorem dX8_comes_51 : decode cX8_comes 51 = .ok (.goto 118, 3) := by decide +kernel
theorem dX8_comes_54 : decode cX8_comes 54 = .ok (.aload_n 0, 1) := by decide +kernel
theorem dX8_comes_55 : decode cX8_comes 55 = .ok (.getfield 80, 3) := by decide +kernel
theorem dX8_comes_58 : decode cX8_comes 58 = .ok (.iload_n 1, 1) := by decide +kernel
theorem dX8_comes_59 : decode cX8_comes 59 = .ok (.iaload, 1) := by decide +kernel
theorem dX8_comes_60 : decode cX8_comes 60 = .ok (.iconst (-1), 1) := by decide +kernel
theorem dX8_comes_61 : decode cX8_comes 61 = .ok (.if_icmp .eq 17, 3) := by decide +kernel
theorem dX8_comes_64 : decode cX8_comes 64 = .ok (.aload_n 0, 1) := by decide +kernel
theorem dX8_comes_65 : decode cX8_comes 65 = .ok (.iload_n 2, 1) := by decide +kernel
theorem dX8_comes_66 : decode cX8_comes 66 = .ok (.aload_n 0, 1) := by decide +kernel
theorem dX8_comes_67 : decode cX8_comes 67 = .ok (.getfield 80, 3) := by decide +kernel
theorem dX8_comes_70 : decode cX8_comes 70 = .ok (.iload_n 1, 1) := by decide +kernel
theorem dX8_comes_71 : decode cX8_comes 71 = .ok (.iaload, 1) := by decide +kernel
theorem dX8_comes_72 : decode cX8_comes 72 = .ok (.invokevirtual 190, 3) := by decide +kernel
theorem dX8_comes_75 : decode cX8_comes 75 = .ok (.ifCond .eq 84, 3) := by decide +kernel
theorem dX8_comes_78 : decode cX8_comes 78 = .ok (.aload_n 0, 1) := by decide +kernel
theorem dX8_comes_79 : decode cX8_comes 79 = .ok (.getfield 89, 3) := by decide +kernel
theorem dX8_comes_82 : decode cX8_comes 82 = .ok (.aload_n 0, 1) := by decide +kernel
theorem dX8_comes_83 : decode cX8_comes 83 = .ok (.getfield 120, 3) := by decide +kernel
theorem dX8_comes_86 : decode cX8_comes 86 = .ok (.iload_n 2, 1) := by decide +kernel
theorem dX8_comes_87 : decode cX8_comes 87 = .ok (.iastore, 1) := by decide +kernel
theorem dX8_comes_88 : decode cX8_comes 88 = .ok (.aload_n 0, 1) := by decide +kernel
theorem dX8_comes_89 : decode cX8_comes 89 = .ok (.getfield 92, 3) := by decide +kernel
theorem dX8_comes_92 : decode cX8_comes 92 = .ok (.aload_n 0, 1) := by decide +kernel
theorem dX8_comes_93 : decode cX8_comes 93 = .ok (.getfield 120, 3) := by decide +kernel
theorem dX8_comes_96 : decode cX8_comes 96 = .ok (.aload_n 0, 1) := by decide +kernel
theorem dX8_comes_97 : decode cX8_comes 97 = .ok (.getfield 80, 3) := by decide +kernel
theorem dX8_comes_100 : decode cX8_comes 100 = .ok (.iload_n 1, 1) := by decide +kernel
theorem dX8_comes_101 : decode cX8_comes 101 = .ok (.iaload, 1) := by decide +kernel
theorem dX8_comes_102 : decode cX8_comes 102 = .ok (.iastore, 1) := by decide +kernel
theorem dX8_comes_103 : decode cX8_comes 103 = .ok (.aload_n 0, 1) := by decide +kernel
theorem dX8_comes_104 : decode cX8_comes 104 = .ok (.getfield 95, 3) := by decide +kernel
theorem dX8_comes_107 : decode cX8_comes 107 = .ok (.aload_n 0, 1) := by decide +kernel
theorem dX8_comes_108 : decode cX8_comes 108 = .ok (.getfield 120, 3) := by decide +kernel
theorem dX8_comes_111 : decode cX8_comes 111 = .ok (.aload_n 0, 1) := by decide +kernel
theorem dX8_comes_112 : decode cX8_comes 112 = .ok (.getfield 114, 3) := by decide +kernel
theorem dX8_comes_115 : decode cX8_comes 115 = .ok (.iastore, 1) := by decide +kernel
theorem dX8_comes_116 : decode cX8_comes 116 = .ok (.aload_n 0, 1) := by decide +kernel
theorem dX8_comes_117 : decode cX8_comes 117 = .ok (.getfield 98, 3) := by decide +kernel
theorem dX8_comes_120 : decode cX8_comes 120 = .ok (.aload_n 0, 1) := by decide +kernel
theorem dX8_comes_121 : decode cX8_comes 121 = .ok (.getfield 120, 3) := by decide +kernel
theorem dX8_comes_124 : decode cX8_comes 124 = .ok (.iconst 0, 1) := by decide +kernel
theorem dX8_comes_125 : decode cX8_comes 125 = .ok (.iastore, 1) := by decide +kernel
theorem dX8_comes_126 : decode cX8_comes 126 = .ok (.aload_n 0, 1) := by decide +kernel
theorem dX8_comes_127 : decode cX8_comes 127 = .ok (.aload_n 0, 1) := by decide +kernel
theorem dX8_comes_128 : decode cX8_comes 128 = .ok (.getfield 120, 3) := by decide +kernel
theorem dX8_comes_131 : decode cX8_comes 131 = .ok (.aload_n 0, 1) := by decide +kernel
theorem dX8_comes_132 : decode cX8_comes 132 = .ok (.getfield 77, 3) := by decide +kernel
theorem dX8_comes_135 : decode cX8_comes 135 = .ok (.iload_n 1, 1) := by decide +kernel
theorem dX8_comes_136 : decode cX8_comes 136 = .ok (.iaload, 1) := by decide +kernel
theorem dX8_comes_137 : decode cX8_comes 137 = .ok (.aload_n 0, 1) := by decide +kernel
theorem dX8_comes_138 : decode cX8_comes 138 = .ok (.getfield 83, 3) := by decide +kernel
theorem dX8_comes_141 : decode cX8_comes 141 = .ok (.iload_n 1, 1) := by decide +kernel
theorem dX8_comes_142 : decode cX8_comes 142 = .ok (.iaload, 1) := by decide +kernel
theorem dX8_comes_143 : decode cX8_comes 143 = .ok (.invokevirtual 186, 3) := by decide +kernel
theorem dX8_comes_146 : decode cX8_comes 146 = .ok (.aload_n 0, 1) := by decide +kernel
theorem dX8_comes_147 : decode cX8_comes 147 = .ok (.dup, 1) := by decide +kernel
theorem dX8_comes_148 : decode cX8_comes 148 = .ok (.getfield 120, 3) := by decide +kernel
theorem dX8_comes_151 : decode cX8_comes 151 = .ok (.iconst 1, 1) := by decide +kernel
theorem dX8_comes_152 : decode cX8_comes 152 = .ok (.iadd, 1) := by decide +kernel
theorem dX8_comes_153 : decode cX8_comes 153 = .ok (.putfield 120, 3) := by decide +kernel
theorem dX8_comes_156 : decode cX8_comes 156 = .ok (.goto 13, 3) := by decide +kernel
theorem dX8_comes_159 : decode cX8_comes 159 = .ok (.aload_n 0, 1) := by decide +kernel
theorem dX8_comes_160 : decode cX8_comes 160 = .ok (.getfield 104, 3) := by decide +kernel
theorem dX8_comes_163 : decode cX8_comes 163 = .ok (.iconst 2, 1) := by decide +kernel
theorem dX8_comes_164 : decode cX8_comes 164 = .ok (.dup2, 1) := by decide +kernel
theorem dX8_comes_165 : decode cX8_comes 165 = .ok (.iaload, 1) := by decide +kernel
theorem dX8_comes_166 : decode cX8_comes 166 = .ok (.iconst 1, 1) := by decide +kernel
theorem dX8_comes_167 : decode cX8_comes 167 = .ok (.iadd, 1) := by decide +kernel
theorem dX8_comes_168 : decode cX8_comes 168 = .ok (.iastore, 1) := by decide +kernel
theorem dX8_comes_169 : decode cX8_comes 169 = .ok (.return_, 1) := by decide +kernel
theorem dX8_allCome_0 : decode cX8_allCome 0 = .ok (.iconst 0, 1) := by decide +kernel
theorem dX8_allCome_1 : decode cX8_allCome 1 = .ok (.istore_n 1, 1) := by decide +kernel
theorem dX8_allCome_2 : decode cX8_allCome 2 = .ok (.iconst 0, 1) := by decide +kernel
theorem dX8_allCome_3 : decode cX8_allCome 3 = .ok (.istore_n 2, 1) := by decide +kernel
theorem dX8_allCome_4 : decode cX8_allCome 4 = .ok (.iload_n 2, 1) := by decide +kernel
theorem dX8_allCome_5 : decode cX8_allCome 5 = .ok (.aload_n 0, 1) := by decide +kernel
theorem dX8_allCome_6 : decode cX8_allCome 6 = .ok (.getfield 117, 3) := by decide +kernel
theorem dX8_allCome_9 : decode cX8_allCome 9 = .ok (.if_icmp .ge 93, 3) := by decide +kernel
theorem dX8_allCome_12 : decode cX8_allCome 12 = .ok (.aload_n 0, 1) := by decide +kernel
theorem dX8_allCome_13 : decode cX8_allCome 13 = .ok (.getfield 86, 3) := by decide +kernel
theorem dX8_allCome_16 : decode cX8_allCome 16 = .ok (.iload_n 2, 1) := by decide +kernel
theorem dX8_allCome_17 : decode cX8_allCome 17 = .ok (.iaload, 1) := by decide +kernel
theorem dX8_allCome_18 : decode cX8_allCome 18 = .ok (.aload_n 0, 1) := by decide +kernel
theorem dX8_allCome_19 : decode cX8_allCome 19 = .ok (.getfield 114, 3) := by decide +kernel
theorem dX8_allCome_22 : decode cX8_allCome 22 = .ok (.if_icmp .ne 11, 3) := by decide +kernel
theorem dX8_allCome_25 : decode cX8_allCome 25 = .ok (.aload_n 0, 1) := by decide +kernel
theorem dX8_allCome_26 : decode cX8_allCome 26 = .ok (.iload_n 2, 1) := by decide +kernel
theorem dX8_allCome_27 : decode cX8_allCome 27 = .ok (.invokevirtual 194, 3) := by decide +kernel
theorem dX8_allCome_30 : decode cX8_allCome 30 = .ok (.goto 66, 3) := by decide +kernel
theorem dX8_allCome_33 : decode cX8_allCome 33 = .ok (.aload_n 0, 1) := by decide +kernel
theorem dX8_allCome_34 : decode cX8_allCome 34 = .ok (.getfield 74, 3) := by decide +kernel
theorem dX8_allCome_37 : decode cX8_allCome 37 = .ok (.iload_n 1, 1) := by decide +kernel
theorem dX8_allCome_38 : decode cX8_allCome 38 = .ok (.aload_n 0, 1) := by decide +kernel
theorem dX8_allCome_39 : decode cX8_allCome 39 = .ok (.getfield 74, 3) := by decide +kernel
theorem dX8_allCome_42 : decode cX8_allCome 42 = .ok (.iload_n 2, 1) := by decide +kernel
theorem dX8_allCome_43 : decode cX8_allCome 43 = .ok (.iaload, 1) := by decide +kernel
theorem dX8_allCome_44 : decode cX8_allCome 44 = .ok (.iastore, 1) := by decide +kernel
theorem dX8_allCome_45 : decode cX8_allCome 45 = .ok (.aload_n 0, 1) := by decide +kernel
theorem dX8_allCome_46 : decode cX8_allCome 46 = .ok (.getfield 77, 3) := by decide +kernel
theorem dX8_allCome_49 : decode cX8_allCome 49 = .ok (.iload_n 1, 1) := by decide +kernel
theorem dX8_allCome_50 : decode cX8_allCome 50 = .ok (.aload_n 0, 1) := by decide +kernel
theorem dX8_allCome_51 : decode cX8_allCome 51 = .ok (.getfield 77, 3) := by decide +kernel
theorem dX8_allCome_54 : decode cX8_allCome 54 = .ok (.iload_n 2, 1) := by decide +kernel
theorem dX8_allCome_55 : decode cX8_allCome 55 = .ok (.iaload, 1) := by decide +kernel
theorem dX8_allCome_56 : decode cX8_allCome 56 = .ok (.iastore, 1) := by decide +kernel
theorem dX8_allCome_57 : decode cX8_allCome 57 = .ok (.aload_n 0, 1) := by decide +kernel
theorem dX8_allCome_58 : decode cX8_allCome 58 = .ok (.getfield 80, 3) := by decide +kernel
theorem dX8_allCome_61 : decode cX8_allCome 61 = .ok (.iload_n 1, 1) := by decide +kernel
theorem dX8_allCome_62 : decode cX8_allCome 62 = .ok (.aload_n 0, 1) := by decide +kernel
theorem dX8_allCome_63 : decode cX8_allCome 63 = .ok (.getfield 80, 3) := by decide +kernel
theorem dX8_allCome_66 : decode cX8_allCome 66 = .ok (.iload_n 2, 1) := by decide +kernel
theorem dX8_allCome_67 : decode cX8_allCome 67 = .ok (.iaload, 1) := by decide +kernel
theorem dX8_allCome_68 : decode cX8_allCome 68 = .ok (.iastore, 1) := by decide +kernel
theorem dX8_allCome_69 : decode cX8_allCome 69 = .ok (.aload_n 0, 1) := by decide +kernel
theorem dX8_allCome_70 : decode cX8_allCome 70 = .ok (.getfield 83, 3) := by decide +kernel
theorem dX8_allCome_73 : decode cX8_allCome 73 = .ok (.iload_n 1, 1) := by decide +kernel
theorem dX8_allCome_74 : decode cX8_allCome 74 = .ok (.aload_n 0, 1) := by decide +kernel
theorem dX8_allCome_75 : decode cX8_allCome 75 = .ok (.getfield 83, 3) := by decide +kernel
theorem dX8_allCome_78 : decode cX8_allCome 78 = .ok (.iload_n 2, 1) := by decide +kernel
theorem dX8_allCome_79 : decode cX8_allCome 79 = .ok (.iaload, 1) := by decide +kernel
theorem dX8_allCome_80 : decode cX8_allCome 80 = .ok (.iastore, 1) := by decide +kernel
theorem dX8_allCome_81 : decode cX8_allCome 81 = .ok (.aload_n 0, 1) := by decide +kernel
theorem dX8_allCome_82 : decode cX8_allCome 82 = .ok (.getfield 86, 3) := by decide +kernel
theorem dX8_allCome_85 : decode cX8_allCome 85 = .ok (.iload_n 1, 1) := by decide +kernel
theorem dX8_allCome_86 : decode cX8_allCome 86 = .ok (.aload_n 0, 1) := by decide +kernel
theorem dX8_allCome_87 : decode cX8_allCome 87 = .ok (.getfield 86, 3) := by decide +kernel
theorem dX8_allCome_90 : decode cX8_allCome 90 = .ok (.iload_n 2, 1) := by decide +kernel
theorem dX8_allCome_91 : decode cX8_allCome 91 = .ok (.iaload, 1) := by decide +kernel
theorem dX8_allCome_92 : decode cX8_allCome 92 = .ok (.iastore, 1) := by decide +kernel
theorem dX8_allCome_93 : decode cX8_allCome 93 = .ok (.iinc 1 1, 3) := by decide +kernel
theorem dX8_allCome_96 : decode cX8_allCome 96 = .ok (.iinc 2 1, 3) := by decide +kernel
theorem dX8_allCome_99 : decode cX8_allCome 99 = .ok (.goto (-95), 3) := by decide +kernel
theorem dX8_allCome_102 : decode cX8_allCome 102 = .ok (.aload_n 0, 1) := by decide +kernel
theorem dX8_allCome_103 : decode cX8_allCome 103 = .ok (.iload_n 1, 1) := by decide +kernel
theorem dX8_allCome_104 : decode cX8_allCome 104 = .ok (.putfield 117, 3) := by decide +kernel
theorem dX8_allCome_107 : decode cX8_allCome 107 = .ok (.return_, 1) := by decide +kernel
theorem dX8_firstGoes_0 : decode cX8_firstGoes 0 = .ok (.aload_n 0, 1) := by decide +kernel
theorem dX8_firstGoes_1 : decode cX8_firstGoes 1 = .ok (.dup, 1) := by decide +kernel
theorem dX8_firstGoes_2 : decode cX8_firstGoes 2 = .ok (.getfield 120, 3) := by decide +kernel
theorem dX8_firstGoes_5 : decode cX8_firstGoes 5 = .ok (.iconst 1, 1) := by decide +kernel
theorem dX8_firstGoes_6 : decode cX8_firstGoes 6 = .ok (.isub, 1) := by decide +kernel
theorem dX8_firstGoes_7 : decode cX8_firstGoes 7 = .ok (.putfield 120, 3) := by decide +kernel
theorem dX8_firstGoes_10 : decode cX8_firstGoes 10 = .ok (.iconst 0, 1) := by decide +kernel
theorem dX8_firstGoes_11 : decode cX8_firstGoes 11 = .ok (.istore_n 1, 1) := by decide +kernel
theorem dX8_firstGoes_12 : decode cX8_firstGoes 12 = .ok (.iload_n 1, 1) := by decide +kernel
theorem dX8_firstGoes_13 : decode cX8_firstGoes 13 = .ok (.aload_n 0, 1) := by decide +kernel
theorem dX8_firstGoes_14 : decode cX8_firstGoes 14 = .ok (.getfield 120, 3) := by decide +kernel
theorem dX8_firstGoes_17 : decode cX8_firstGoes 17 = .ok (.if_icmp .ge 100, 3) := by decide +kernel
theorem dX8_firstGoes_20 : decode cX8_firstGoes 20 = .ok (.aload_n 0, 1) := by decide +kernel
theorem dX8_firstGoes_21 : decode cX8_firstGoes 21 = .ok (.getfield 89, 3) := by decide +kernel
theorem dX8_firstGoes_24 : decode cX8_firstGoes 24 = .ok (.iload_n 1, 1) := by decide +kernel
theorem dX8_firstGoes_25 : decode cX8_firstGoes 25 = .ok (.aload_n 0, 1) := by decide +kernel
theorem dX8_firstGoes_26 : decode cX8_firstGoes 26 = .ok (.getfield 89, 3) := by decide +kernel
theorem dX8_firstGoes_29 : decode cX8_firstGoes 29 = .ok (.iload_n 1, 1) := by decide +kernel
theorem dX8_firstGoes_30 : decode cX8_firstGoes 30 = .ok (.iconst 1, 1) := by decide +kernel
theorem dX8_firstGoes_31 : decode cX8_firstGoes 31 = .ok (.iadd, 1) := by decide +kernel
theorem dX8_firstGoes_32 : decode cX8_firstGoes 32 = .ok (.iaload, 1) := by decide +kernel
theorem dX8_firstGoes_33 : decode cX8_firstGoes 33 = .ok (.iastore, 1) := by decide +kernel
theorem dX8_firstGoes_34 : decode cX8_firstGoes 34 = .ok (.aload_n 0, 1) := by decide +kernel
theorem dX8_firstGoes_35 : decode cX8_firstGoes 35 = .ok (.getfield 92, 3) := by decide +kernel
theorem dX8_firstGoes_38 : decode cX8_firstGoes 38 = .ok (.iload_n 1, 1) := by decide +kernel
theorem dX8_firstGoes_39 : decode cX8_firstGoes 39 = .ok (.aload_n 0, 1) := by decide +kernel
theorem dX8_firstGoes_40 : decode cX8_firstGoes 40 = .ok (.getfield 92, 3) := by decide +kernel
theorem dX8_firstGoes_43 : decode cX8_firstGoes 43 = .ok (.iload_n 1, 1) := by decide +kernel
theorem dX8_firstGoes_44 : decode cX8_firstGoes 44 = .ok (.iconst 1, 1) := by decide +kernel
theorem dX8_firstGoes_45 : decode cX8_firstGoes 45 = .ok (.iadd, 1) := by decide +kernel
theorem dX8_firstGoes_46 : decode cX8_firstGoes 46 = .ok (.iaload, 1) := by decide +kernel
theorem dX8_firstGoes_47 : decode cX8_firstGoes 47 = .ok (.iastore, 1) := by decide +kernel
theorem dX8_firstGoes_48 : decode cX8_firstGoes 48 = .ok (.aload_n 0, 1) := by decide +kernel
theorem dX8_firstGoes_49 : decode cX8_firstGoes 49 = .ok (.getfield 95, 3) := by decide +kernel
theorem dX8_firstGoes_52 : decode cX8_firstGoes 52 = .ok (.iload_n 1, 1) := by decide +kernel
theorem dX8_firstGoes_53 : decode cX8_firstGoes 53 = .ok (.aload_n 0, 1) := by decide +kernel
theorem dX8_firstGoes_54 : decode cX8_firstGoes 54 = .ok (.getfield 95, 3) := by decide +kernel
theorem dX8_firstGoes_57 : decode cX8_firstGoes 57 = .ok (.iload_n 1, 1) := by decide +kernel
theorem dX8_firstGoes_58 : decode cX8_firstGoes 58 = .ok (.iconst 1, 1) := by decide +kernel
theorem dX8_firstGoes_59 : decode cX8_firstGoes 59 = .ok (.iadd, 1) := by decide +kernel
theorem dX8_firstGoes_60 : decode cX8_firstGoes 60 = .ok (.iaload, 1) := by decide +kernel
theorem dX8_firstGoes_61 : decode cX8_firstGoes 61 = .ok (.iastore, 1) := by decide +kernel
theorem dX8_firstGoes_62 : decode cX8_firstGoes 62 = .ok (.aload_n 0, 1) := by decide +kernel
theorem dX8_firstGoes_63 : decode cX8_firstGoes 63 = .ok (.getfield 98, 3) := by decide +kernel
theorem dX8_firstGoes_66 : decode cX8_firstGoes 66 = .ok (.iload_n 1, 1) := by decide +kernel
theorem dX8_firstGoes_67 : decode cX8_firstGoes 67 = .ok (.aload_n 0, 1) := by decide +kernel
theorem dX8_firstGoes_68 : decode cX8_firstGoes 68 = .ok (.getfield 98, 3) := by decide +kernel
theorem dX8_firstGoes_71 : decode cX8_firstGoes 71 = .ok (.iload_n 1, 1) := by decide +kernel
theorem dX8_firstGoes_72 : decode cX8_firstGoes 72 = .ok (.iconst 1, 1) := by decide +kernel
theorem dX8_firstGoes_73 : decode cX8_firstGoes 73 = .ok (.iadd, 1) := by decide +kernel
theorem dX8_firstGoes_74 : decode cX8_firstGoes 74 = .ok (.iaload, 1) := by decide +kernel
theorem dX8_firstGoes_75 : decode cX8_firstGoes 75 = .ok (.iastore, 1) := by decide +kernel
theorem dX8_firstGoes_76 : decode cX8_firstGoes 76 = .ok (.iconst 0, 1) := by decide +kernel
theorem dX8_firstGoes_77 : decode cX8_firstGoes 77 = .ok (.istore_n 2, 1) := by decide +kernel
theorem dX8_firstGoes_78 : decode cX8_firstGoes 78 = .ok (.iload_n 2, 1) := by decide +kernel
theorem dX8_firstGoes_79 : decode cX8_firstGoes 79 = .ok (.iconst 4, 1) := by decide +kernel
theorem dX8_firstGoes_80 : decode cX8_firstGoes 80 = .ok (.if_icmp .ge 31, 3) := by decide +kernel
theorem dX8_firstGoes_83 : decode cX8_firstGoes 83 = .ok (.aload_n 0, 1) := by decide +kernel
theorem dX8_firstGoes_84 : decode cX8_firstGoes 84 = .ok (.getfield 101, 3) := by decide +kernel
theorem dX8_firstGoes_87 : decode cX8_firstGoes 87 = .ok (.iconst 4, 1) := by decide +kernel
theorem dX8_firstGoes_88 : decode cX8_firstGoes 88 = .ok (.iload_n 1, 1) := by decide +kernel
theorem dX8_firstGoes_89 : decode cX8_firstGoes 89 = .ok (.imul, 1) := by decide +kernel
theorem dX8_firstGoes_90 : decode cX8_firstGoes 90 = .ok (.iload_n 2, 1) := by decide +kernel
theorem dX8_firstGoes_91 : decode cX8_firstGoes 91 = .ok (.iadd, 1) := by decide +kernel
theorem dX8_firstGoes_92 : decode cX8_firstGoes 92 = .ok (.aload_n 0, 1) := by decide +kernel
theorem dX8_firstGoes_93 : decode cX8_firstGoes 93 = .ok (.getfield 101, 3) := by decide +kernel
theorem dX8_firstGoes_96 : decode cX8_firstGoes 96 = .ok (.iconst 4, 1) := by decide +kernel
theorem dX8_firstGoes_97 : decode cX8_firstGoes 97 = .ok (.iload_n 1, 1) := by decide +kernel
theorem dX8_firstGoes_98 : decode cX8_firstGoes 98 = .ok (.imul, 1) := by decide +kernel
theorem dX8_firstGoes_99 : decode cX8_firstGoes 99 = .ok (.iconst 4, 1) := by decide +kernel
theorem dX8_firstGoes_100 : decode cX8_firstGoes 100 = .ok (.iadd, 1) := by decide +kernel
theorem dX8_firstGoes_101 : decode cX8_firstGoes 101 = .ok (.iload_n 2, 1) := by decide +kernel
theorem dX8_firstGoes_102 : decode cX8_firstGoes 102 = .ok (.iadd, 1) := by decide +kernel
theorem dX8_firstGoes_103 : decode cX8_firstGoes 103 = .ok (.iaload, 1) := by decide +kernel
theorem dX8_firstGoes_104 : decode cX8_firstGoes 104 = .ok (.iastore, 1) := by decide +kernel
theorem dX8_firstGoes_105 : decode cX8_firstGoes 105 = .ok (.iinc 2 1, 3) := by decide +kernel
theorem dX8_firstGoes_108 : decode cX8_firstGoes 108 = .ok (.goto (-30), 3) := by decide +kernel
theorem dX8_firstGoes_111 : decode cX8_firstGoes 111 = .ok (.iinc 1 1, 3) := by decide +kernel
theorem dX8_firstGoes_114 : decode cX8_firstGoes 114 = .ok (.goto (-102), 3) := by decide +kernel
theorem dX8_firstGoes_117 : decode cX8_firstGoes 117 = .ok (.return_, 1) := by decide +kernel
theorem dX8_gateBehind_0 : decode cX8_gateBehind 0 = .ok (.iconst (-1), 1) := by decide +kernel
theorem dX8_gateBehind_1 : decode cX8_gateBehind 1 = .ok (.istore_n 2, 1) := by decide +kernel
theorem dX8_gateBehind_2 : decode cX8_gateBehind 2 = .ok (.iconst 0, 1) := by decide +kernel
theorem dX8_gateBehind_3 : decode cX8_gateBehind 3 = .ok (.istore_n 3, 1) := by decide +kernel
theorem dX8_gateBehind_4 : decode cX8_gateBehind 4 = .ok (.iload_n 3, 1) := by decide +kernel
theorem dX8_gateBehind_5 : decode cX8_gateBehind 5 = .ok (.aload_n 0, 1) := by decide +kernel
theorem dX8_gateBehind_6 : decode cX8_gateBehind 6 = .ok (.getfield 17, 3) := by decide +kernel
theorem dX8_gateBehind_9 : decode cX8_gateBehind 9 = .ok (.if_icmp .ge 109, 3) := by decide +kernel
theorem dX8_gateBehind_12 : decode cX8_gateBehind 12 = .ok (.aload_n 0, 1) := by decide +kernel
theorem dX8_gateBehind_13 : decode cX8_gateBehind 13 = .ok (.getfield 98, 3) := by decide +kernel
theorem dX8_gateBehind_16 : decode cX8_gateBehind 16 = .ok (.iconst 0, 1) := by decide +kernel
theorem dX8_gateBehind_17 : decode cX8_gateBehind 17 = .ok (.iaload, 1) := by decide +kernel
theorem dX8_gateBehind_18 : decode cX8_gateBehind 18 = .ok (.iload_n 3, 1) := by decide +kernel
theorem dX8_gateBehind_19 : decode cX8_gateBehind 19 = .ok (.ishr, 1) := by decide +kernel
theorem dX8_gateBehind_20 : decode cX8_gateBehind 20 = .ok (.iconst 1, 1) := by decide +kernel
theorem dX8_gateBehind_21 : decode cX8_gateBehind 21 = .ok (.iand, 1) := by decide +kernel
theorem dX8_gateBehind_22 : decode cX8_gateBehind 22 = .ok (.iconst 1, 1) := by decide +kernel
theorem dX8_gateBehind_23 : decode cX8_gateBehind 23 = .ok (.if_icmp .ne 7, 3) := by decide +kernel
theorem dX8_gateBehind_26 : decode cX8_gateBehind 26 = .ok (.iconst 1, 1) := by decide +kernel
theorem dX8_gateBehind_27 : decode cX8_gateBehind 27 = .ok (.goto 4, 3) := by decide +kernel
theorem dX8_gateBehind_30 : decode cX8_gateBehind 30 = .ok (.iconst 0, 1) := by decide +kernel
theorem dX8_gateBehind_31 : decode cX8_gateBehind 31 = .ok (.istore 4, 2) := by decide +kernel
theorem dX8_gateBehind_33 : decode cX8_gateBehind 33 = .ok (.iload_n 1, 1) := by decide +kernel
theorem dX8_gateBehind_34 : decode cX8_gateBehind 34 = .ok (.iconst (-1), 1) := by decide +kernel
theorem dX8_gateBehind_35 : decode cX8_gateBehind 35 = .ok (.if_icmp .eq 38, 3) := by decide +kernel
theorem dX8_gateBehind_38 : decode cX8_gateBehind 38 = .ok (.aload_n 0, 1) := by decide +kernel
theorem dX8_gateBehind_39 : decode cX8_gateBehind 39 = .ok (.getfield 101, 3) := by decide +kernel
theorem dX8_gateBehind_42 : decode cX8_gateBehind 42 = .ok (.iload_n 3, 1) := by decide +kernel
theorem dX8_gateBehind_43 : decode cX8_gateBehind 43 = .ok (.iaload, 1) := by decide +kernel
theorem dX8_gateBehind_44 : decode cX8_gateBehind 44 = .ok (.aload_n 0, 1) := by decide +kernel
theorem dX8_gateBehind_45 : decode cX8_gateBehind 45 = .ok (.getfield 101, 3) := by decide +kernel
theorem dX8_gateBehind_48 : decode cX8_gateBehind 48 = .ok (.iload_n 1, 1) := by decide +kernel
theorem dX8_gateBehind_49 : decode cX8_gateBehind 49 = .ok (.iaload, 1) := by decide +kernel
theorem dX8_gateBehind_50 : decode cX8_gateBehind 50 = .ok (.if_icmp .lt 23, 3) := by decide +kernel
theorem dX8_gateBehind_53 : decode cX8_gateBehind 53 = .ok (.aload_n 0, 1) := by decide +kernel
theorem dX8_gateBehind_54 : decode cX8_gateBehind 54 = .ok (.getfield 101, 3) := by decide +kernel
theorem dX8_gateBehind_57 : decode cX8_gateBehind 57 = .ok (.iload_n 3, 1) := by decide +kernel
theorem dX8_gateBehind_58 : decode cX8_gateBehind 58 = .ok (.iaload, 1) := by decide +kernel
theorem dX8_gateBehind_59 : decode cX8_gateBehind 59 = .ok (.aload_n 0, 1) := by decide +kernel
theorem dX8_gateBehind_60 : decode cX8_gateBehind 60 = .ok (.getfield 101, 3) := by decide +kernel
theorem dX8_gateBehind_63 : decode cX8_gateBehind 63 = .ok (.iload_n 1, 1) := by decide +kernel
theorem dX8_gateBehind_64 : decode cX8_gateBehind 64 = .ok (.iaload, 1) := by decide +kernel
theorem dX8_gateBehind_65 : decode cX8_gateBehind 65 = .ok (.if_icmp .ne 12, 3) := by decide +kernel
theorem dX8_gateBehind_68 : decode cX8_gateBehind 68 = .ok (.iload_n 3, 1) := by decide +kernel
theorem dX8_gateBehind_69 : decode cX8_gateBehind 69 = .ok (.iload_n 1, 1) := by decide +kernel
theorem dX8_gateBehind_70 : decode cX8_gateBehind 70 = .ok (.if_icmp .le 7, 3) := by decide +kernel
theorem dX8_gateBehind_73 : decode cX8_gateBehind 73 = .ok (.iconst 1, 1) := by decide +kernel
theorem dX8_gateBehind_74 : decode cX8_gateBehind 74 = .ok (.goto 4, 3) := by decide +kernel
theorem dX8_gateBehind_77 : decode cX8_gateBehind 77 = .ok (.iconst 0, 1) := by decide +kernel
theorem dX8_gateBehind_78 : decode cX8_gateBehind 78 = .ok (.istore 5, 2) := by decide +kernel
theorem dX8_gateBehind_80 : decode cX8_gateBehind 80 = .ok (.iload 4, 2) := by decide +kernel
theorem dX8_gateBehind_82 : decode cX8_gateBehind 82 = .ok (.ifCond .eq 30, 3) := by decide +kernel
theorem dX8_gateBehind_85 : decode cX8_gateBehind 85 = .ok (.iload 5, 2) := by decide +kernel
theorem dX8_gateBehind_87 : decode cX8_gateBehind 87 = .ok (.ifCond .eq 25, 3) := by decide +kernel
theorem dX8_gateBehind_90 : decode cX8_gateBehind 90 = .ok (.iload_n 2, 1) := by decide +kernel
theorem dX8_gateBehind_91 : decode cX8_gateBehind 91 = .ok (.iconst (-1), 1) := by decide +kernel
theorem dX8_gateBehind_92 : decode cX8_gateBehind 92 = .ok (.if_icmp .eq 18, 3) := by decide +kernel
theorem dX8_gateBehind_95 : decode cX8_gateBehind 95 = .ok (.aload_n 0, 1) := by decide +kernel
theorem dX8_gateBehind_96 : decode cX8_gateBehind 96 = .ok (.getfield 101, 3) := by decide +kernel
theorem dX8_gateBehind_99 : decode cX8_gateBehind 99 = .ok (.iload_n 3, 1) := by decide +kernel
theorem dX8_gateBehind_100 : decode cX8_gateBehind 100 = .ok (.iaload, 1) := by decide +kernel
theorem dX8_gateBehind_101 : decode cX8_gateBehind 101 = .ok (.aload_n 0, 1) := by decide +kernel
theorem dX8_gateBehind_102 : decode cX8_gateBehind 102 = .ok (.getfield 101, 3) := by decide +kernel
theorem dX8_gateBehind_105 : decode cX8_gateBehind 105 = .ok (.iload_n 2, 1) := by decide +kernel
theorem dX8_gateBehind_106 : decode cX8_gateBehind 106 = .ok (.iaload, 1) := by decide +kernel
theorem dX8_gateBehind_107 : decode cX8_gateBehind 107 = .ok (.if_icmp .le 5, 3) := by decide +kernel
theorem dX8_gateBehind_110 : decode cX8_gateBehind 110 = .ok (.iload_n 3, 1) := by decide +kernel
theorem dX8_gateBehind_111 : decode cX8_gateBehind 111 = .ok (.istore_n 2, 1) := by decide +kernel
theorem dX8_gateBehind_112 : decode cX8_gateBehind 112 = .ok (.iinc 3 1, 3) := by decide +kernel
theorem dX8_gateBehind_115 : decode cX8_gateBehind 115 = .ok (.goto (-111), 3) := by decide +kernel
theorem dX8_gateBehind_118 : decode cX8_gateBehind 118 = .ok (.iload_n 2, 1) := by decide +kernel
theorem dX8_gateBehind_119 : decode cX8_gateBehind 119 = .ok (.ireturn, 1) := by decide +kernel
theorem dX8_answers_0 : decode cX8_answers 0 = .ok (.bipush 6, 2) := by decide +kernel
theorem dX8_answers_2 : decode cX8_answers 2 = .ok (.aload_n 0, 1) := by decide +kernel
theorem dX8_answers_3 : decode cX8_answers 3 = .ok (.getfield 44, 3) := by decide +kernel
theorem dX8_answers_6 : decode cX8_answers 6 = .ok (.iload_n 1, 1) := by decide +kernel
theorem dX8_answers_7 : decode cX8_answers 7 = .ok (.iaload, 1) := by decide +kernel
theorem dX8_answers_8 : decode cX8_answers 8 = .ok (.isub, 1) := by decide +kernel
theorem dX8_answers_9 : decode cX8_answers 9 = .ok (.istore_n 2, 1) := by decide +kernel
theorem dX8_answers_10 : decode cX8_answers 10 = .ok (.aload_n 0, 1) := by decide +kernel
theorem dX8_answers_11 : decode cX8_answers 11 = .ok (.iconst (-1), 1) := by decide +kernel
theorem dX8_answers_12 : decode cX8_answers 12 = .ok (.invokevirtual 197, 3) := by decide +kernel
theorem dX8_answers_15 : decode cX8_answers 15 = .ok (.istore_n 3, 1) := by decide +kernel
theorem dX8_answers_16 : decode cX8_answers 16 = .ok (.iload_n 3, 1) := by decide +kernel
theorem dX8_answers_17 : decode cX8_answers 17 = .ok (.iconst (-1), 1) := by decide +kernel
theorem dX8_answers_18 : decode cX8_answers 18 = .ok (.if_icmp .eq 29, 3) := by decide +kernel
theorem dX8_answers_21 : decode cX8_answers 21 = .ok (.aload_n 0, 1) := by decide +kernel
theorem dX8_answers_22 : decode cX8_answers 22 = .ok (.getfield 26, 3) := by decide +kernel
theorem dX8_answers_25 : decode cX8_answers 25 = .ok (.iload_n 3, 1) := by decide +kernel
theorem dX8_answers_26 : decode cX8_answers 26 = .ok (.iaload, 1) := by decide +kernel
theorem dX8_answers_27 : decode cX8_answers 27 = .ok (.aload_n 0, 1) := by decide +kernel
theorem dX8_answers_28 : decode cX8_answers 28 = .ok (.getfield 29, 3) := by decide +kernel
theorem dX8_answers_31 : decode cX8_answers 31 = .ok (.iload_n 3, 1) := by decide +kernel
theorem dX8_answers_32 : decode cX8_answers 32 = .ok (.iaload, 1) := by decide +kernel
theorem dX8_answers_33 : decode cX8_answers 33 = .ok (.isub, 1) := by decide +kernel
theorem dX8_answers_34 : decode cX8_answers 34 = .ok (.iload_n 2, 1) := by decide +kernel
theorem dX8_answers_35 : decode cX8_answers 35 = .ok (.if_icmp .ge 12, 3) := by decide +kernel
theorem dX8_answers_38 : decode cX8_answers 38 = .ok (.aload_n 0, 1) := by decide +kernel
theorem dX8_answers_39 : decode cX8_answers 39 = .ok (.iload_n 3, 1) := by decide +kernel
theorem dX8_answers_40 : decode cX8_answers 40 = .ok (.invokevirtual 197, 3) := by decide +kernel
theorem dX8_answers_43 : decode cX8_answers 43 = .ok (.istore_n 3, 1) := by decide +kernel
theorem dX8_answers_44 : decode cX8_answers 44 = .ok (.goto (-28), 3) := by decide +kernel
theorem dX8_answers_47 : decode cX8_answers 47 = .ok (.iload_n 3, 1) := by decide +kernel
theorem dX8_answers_48 : decode cX8_answers 48 = .ok (.iconst (-1), 1) := by decide +kernel
theorem dX8_answers_49 : decode cX8_answers 49 = .ok (.if_icmp .ne 15, 3) := by decide +kernel
theorem dX8_answers_52 : decode cX8_answers 52 = .ok (.aload_n 0, 1) := by decide +kernel
theorem dX8_answers_53 : decode cX8_answers 53 = .ok (.getfield 104, 3) := by decide +kernel
theorem dX8_answers_56 : decode cX8_answers 56 = .ok (.iconst 4, 1) := by decide +kernel
theorem dX8_answers_57 : decode cX8_answers 57 = .ok (.dup2, 1) := by decide +kernel
theorem dX8_answers_58 : decode cX8_answers 58 = .ok (.iaload, 1) := by decide +kernel
theorem dX8_answers_59 : decode cX8_answers 59 = .ok (.iconst 1, 1) := by decide +kernel
theorem dX8_answers_60 : decode cX8_answers 60 = .ok (.iadd, 1) := by decide +kernel
theorem dX8_answers_61 : decode cX8_answers 61 = .ok (.iastore, 1) := by decide +kernel
theorem dX8_answers_62 : decode cX8_answers 62 = .ok (.iconst 0, 1) := by decide +kernel
theorem dX8_answers_63 : decode cX8_answers 63 = .ok (.ireturn, 1) := by decide +kernel
theorem dX8_answers_64 : decode cX8_answers 64 = .ok (.aload_n 0, 1) := by decide +kernel
theorem dX8_answers_65 : decode cX8_answers 65 = .ok (.getfield 29, 3) := by decide +kernel
theorem dX8_answers_68 : decode cX8_answers 68 = .ok (.iload_n 3, 1) := by decide +kernel
theorem dX8_answers_69 : decode cX8_answers 69 = .ok (.dup2, 1) := by decide +kernel
theorem dX8_answers_70 : decode cX8_answers 70 = .ok (.iaload, 1) := by decide +kernel
theorem dX8_answers_71 : decode cX8_answers 71 = .ok (.iload_n 2, 1) := by decide +kernel
theorem dX8_answers_72 : decode cX8_answers 72 = .ok (.iadd, 1) := by decide +kernel
theorem dX8_answers_73 : decode cX8_answers 73 = .ok (.iastore, 1) := by decide +kernel
theorem dX8_answers_74 : decode cX8_answers 74 = .ok (.aload_n 0, 1) := by decide +kernel
theorem dX8_answers_75 : decode cX8_answers 75 = .ok (.getfield 35, 3) := by decide +kernel
theorem dX8_answers_78 : decode cX8_answers 78 = .ok (.iload_n 3, 1) := by decide +kernel
theorem dX8_answers_79 : decode cX8_answers 79 = .ok (.dup2, 1) := by decide +kernel
theorem dX8_answers_80 : decode cX8_answers 80 = .ok (.iaload, 1) := by decide +kernel
theorem dX8_answers_81 : decode cX8_answers 81 = .ok (.iconst 1, 1) := by decide +kernel
theorem dX8_answers_82 : decode cX8_answers 82 = .ok (.iadd, 1) := by decide +kernel
theorem dX8_answers_83 : decode cX8_answers 83 = .ok (.iastore, 1) := by decide +kernel
theorem dX8_answers_84 : decode cX8_answers 84 = .ok (.aload_n 0, 1) := by decide +kernel
theorem dX8_answers_85 : decode cX8_answers 85 = .ok (.getfield 104, 3) := by decide +kernel
theorem dX8_answers_88 : decode cX8_answers 88 = .ok (.iconst 3, 1) := by decide +kernel
theorem dX8_answers_89 : decode cX8_answers 89 = .ok (.dup2, 1) := by decide +kernel
theorem dX8_answers_90 : decode cX8_answers 90 = .ok (.iaload, 1) := by decide +kernel
theorem dX8_answers_91 : decode cX8_answers 91 = .ok (.iconst 1, 1) := by decide +kernel
theorem dX8_answers_92 : decode cX8_answers 92 = .ok (.iadd, 1) := by decide +kernel
theorem dX8_answers_93 : decode cX8_answers 93 = .ok (.iastore, 1) := by decide +kernel
theorem dX8_answers_94 : decode cX8_answers 94 = .ok (.iconst 1, 1) := by decide +kernel
theorem dX8_answers_95 : decode cX8_answers 95 = .ok (.ireturn, 1) := by decide +kernel
theorem dX8_notes_0 : decode cX8_notes 0 = .ok (.iconst 4, 1) := by decide +kernel
theorem dX8_notes_1 : decode cX8_notes 1 = .ok (.iload_n 1, 1) := by decide +kernel
theorem dX8_notes_2 : decode cX8_notes 2 = .ok (.imul, 1) := by decide +kernel
theorem dX8_notes_3 : decode cX8_notes 3 = .ok (.istore_n 3, 1) := by decide +kernel
theorem dX8_notes_4 : decode cX8_notes 4 = .ok (.aload_n 0, 1) := by decide +kernel
theorem dX8_notes_5 : decode cX8_notes 5 = .ok (.getfield 62, 3) := by decide +kernel
theorem dX8_notes_8 : decode cX8_notes 8 = .ok (.iload_n 1, 1) := by decide +kernel
theorem dX8_notes_9 : decode cX8_notes 9 = .ok (.iaload, 1) := by decide +kernel
theorem dX8_notes_10 : decode cX8_notes 10 = .ok (.iconst 4, 1) := by decide +kernel
theorem dX8_notes_11 : decode cX8_notes 11 = .ok (.if_icmp .ne 48, 3) := by decide +kernel
theorem dX8_notes_14 : decode cX8_notes 14 = .ok (.iconst 0, 1) := by decide +kernel
theorem dX8_notes_15 : decode cX8_notes 15 = .ok (.istore 4, 2) := by decide +kernel
theorem dX8_notes_17 : decode cX8_notes 17 = .ok (.iload 4, 2) := by decide +kernel
theorem dX8_notes_19 : decode cX8_notes 19 = .ok (.iconst 3, 1) := by decide +kernel
theorem dX8_notes_20 : decode cX8_notes 20 = .ok (.if_icmp .ge 29, 3) := by decide +kernel
theorem dX8_notes_23 : decode cX8_notes 23 = .ok (.aload_n 0, 1) := by decide +kernel
theorem dX8_notes_24 : decode cX8_notes 24 = .ok (.getfield 65, 3) := by decide +kernel
theorem dX8_notes_27 : decode cX8_notes 27 = .ok (.iload_n 3, 1) := by decide +kernel
theorem dX8_notes_28 : decode cX8_notes 28 = .ok (.iload 4, 2) := by decide +kernel
theorem dX8_notes_30 : decode cX8_notes 30 = .ok (.iadd, 1) := by decide +kernel
theorem dX8_notes_31 : decode cX8_notes 31 = .ok (.aload_n 0, 1) := by decide +kernel
theorem dX8_notes_32 : decode cX8_notes 32 = .ok (.getfield 65, 3) := by decide +kernel
theorem dX8_notes_35 : decode cX8_notes 35 = .ok (.iload_n 3, 1) := by decide +kernel
theorem dX8_notes_36 : decode cX8_notes 36 = .ok (.iload 4, 2) := by decide +kernel
theorem dX8_notes_38 : decode cX8_notes 38 = .ok (.iadd, 1) := by decide +kernel
theorem dX8_notes_39 : decode cX8_notes 39 = .ok (.iconst 1, 1) := by decide +kernel
theorem dX8_notes_40 : decode cX8_notes 40 = .ok (.iadd, 1) := by decide +kernel
theorem dX8_notes_41 : decode cX8_notes 41 = .ok (.iaload, 1) := by decide +kernel
theorem dX8_notes_42 : decode cX8_notes 42 = .ok (.iastore, 1) := by decide +kernel
theorem dX8_notes_43 : decode cX8_notes 43 = .ok (.iinc 4 1, 3) := by decide +kernel
theorem dX8_notes_46 : decode cX8_notes 46 = .ok (.goto (-29), 3) := by decide +kernel
theorem dX8_notes_49 : decode cX8_notes 49 = .ok (.aload_n 0, 1) := by decide +kernel
theorem dX8_notes_50 : decode cX8_notes 50 = .ok (.getfield 62, 3) := by decide +kernel
theorem dX8_notes_53 : decode cX8_notes 53 = .ok (.iload_n 1, 1) := by decide +kernel
theorem dX8_notes_54 : decode cX8_notes 54 = .ok (.dup2, 1) := by decide +kernel
theorem dX8_notes_55 : decode cX8_notes 55 = .ok (.iaload, 1) := by decide +kernel
theorem dX8_notes_56 : decode cX8_notes 56 = .ok (.iconst 1, 1) := by decide +kernel
theorem dX8_notes_57 : decode cX8_notes 57 = .ok (.isub, 1) := by decide +kernel
theorem dX8_notes_58 : decode cX8_notes 58 = .ok (.iastore, 1) := by decide +kernel
theorem dX8_notes_59 : decode cX8_notes 59 = .ok (.aload_n 0, 1) := by decide +kernel
theorem dX8_notes_60 : decode cX8_notes 60 = .ok (.getfield 65, 3) := by decide +kernel
theorem dX8_notes_63 : decode cX8_notes 63 = .ok (.iload_n 3, 1) := by decide +kernel
theorem dX8_notes_64 : decode cX8_notes 64 = .ok (.aload_n 0, 1) := by decide +kernel
theorem dX8_notes_65 : decode cX8_notes 65 = .ok (.getfield 62, 3) := by decide +kernel
theorem dX8_notes_68 : decode cX8_notes 68 = .ok (.iload_n 1, 1) := by decide +kernel
theorem dX8_notes_69 : decode cX8_notes 69 = .ok (.iaload, 1) := by decide +kernel
theorem dX8_notes_70 : decode cX8_notes 70 = .ok (.iadd, 1) := by decide +kernel
theorem dX8_notes_71 : decode cX8_notes 71 = .ok (.iload_n 2, 1) := by decide +kernel
theorem dX8_notes_72 : decode cX8_notes 72 = .ok (.iastore, 1) := by decide +kernel
theorem dX8_notes_73 : decode cX8_notes 73 = .ok (.aload_n 0, 1) := by decide +kernel
theorem dX8_notes_74 : decode cX8_notes 74 = .ok (.getfield 62, 3) := by decide +kernel
theorem dX8_notes_77 : decode cX8_notes 77 = .ok (.iload_n 1, 1) := by decide +kernel
theorem dX8_notes_78 : decode cX8_notes 78 = .ok (.dup2, 1) := by decide +kernel
theorem dX8_notes_79 : decode cX8_notes 79 = .ok (.iaload, 1) := by decide +kernel
theorem dX8_notes_80 : decode cX8_notes 80 = .ok (.iconst 1, 1) := by decide +kernel
theorem dX8_notes_81 : decode cX8_notes 81 = .ok (.iadd, 1) := by decide +kernel
theorem dX8_notes_82 : decode cX8_notes 82 = .ok (.iastore, 1) := by decide +kernel
theorem dX8_notes_83 : decode cX8_notes 83 = .ok (.return_, 1) := by decide +kernel
theorem dX8_reckons_0 : decode cX8_reckons 0 = .ok (.sipush (-1000), 3) := by decide +kernel
theorem dX8_reckons_3 : decode cX8_reckons 3 = .ok (.istore_n 2, 1) := by decide +kernel
theorem dX8_reckons_4 : decode cX8_reckons 4 = .ok (.iconst 0, 1) := by decide +kernel
theorem dX8_reckons_5 : decode cX8_reckons 5 = .ok (.istore_n 3, 1) := by decide +kernel
theorem dX8_reckons_6 : decode cX8_reckons 6 = .ok (.iload_n 3, 1) := by decide +kernel
theorem dX8_reckons_7 : decode cX8_reckons 7 = .ok (.iconst 4, 1) := by decide +kernel
theorem dX8_reckons_8 : decode cX8_reckons 8 = .ok (.if_icmp .ge 34, 3) := by decide +kernel
theorem dX8_reckons_11 : decode cX8_reckons 11 = .ok (.aload_n 0, 1) := by decide +kernel
theorem dX8_reckons_12 : decode cX8_reckons 12 = .ok (.getfield 65, 3) := by decide +kernel
theorem dX8_reckons_15 : decode cX8_reckons 15 = .ok (.iconst 4, 1) := by decide +kernel
theorem dX8_reckons_16 : decode cX8_reckons 16 = .ok (.iload_n 1, 1) := by decide +kernel
theorem dX8_reckons_17 : decode cX8_reckons 17 = .ok (.imul, 1) := by decide +kernel
theorem dX8_reckons_18 : decode cX8_reckons 18 = .ok (.iload_n 3, 1) := by decide +kernel
theorem dX8_reckons_19 : decode cX8_reckons 19 = .ok (.iadd, 1) := by decide +kernel
theorem dX8_reckons_20 : decode cX8_reckons 20 = .ok (.iaload, 1) := by decide +kernel
theorem dX8_reckons_21 : decode cX8_reckons 21 = .ok (.istore 4, 2) := by decide +kernel
theorem dX8_reckons_23 : decode cX8_reckons 23 = .ok (.iload 4, 2) := by decide +kernel
theorem dX8_reckons_25 : decode cX8_reckons 25 = .ok (.iload_n 2, 1) := by decide +kernel
theorem dX8_reckons_26 : decode cX8_reckons 26 = .ok (.if_icmp .le 8, 3) := by decide +kernel
theorem dX8_reckons_29 : decode cX8_reckons 29 = .ok (.iload 4, 2) := by decide +kernel
theorem dX8_reckons_31 : decode cX8_reckons 31 = .ok (.goto 4, 3) := by decide +kernel
theorem dX8_reckons_34 : decode cX8_reckons 34 = .ok (.iload_n 2, 1) := by decide +kernel
theorem dX8_reckons_35 : decode cX8_reckons 35 = .ok (.istore_n 2, 1) := by decide +kernel
theorem dX8_reckons_36 : decode cX8_reckons 36 = .ok (.iinc 3 1, 3) := by decide +kernel
theorem dX8_reckons_39 : decode cX8_reckons 39 = .ok (.goto (-33), 3) := by decide +kernel
theorem dX8_reckons_42 : decode cX8_reckons 42 = .ok (.iinc 2 (-6), 3) := by decide +kernel
theorem dX8_reckons_45 : decode cX8_reckons 45 = .ok (.aload_n 0, 1) := by decide +kernel
theorem dX8_reckons_46 : decode cX8_reckons 46 = .ok (.aload_n 0, 1) := by decide +kernel
theorem dX8_reckons_47 : decode cX8_reckons 47 = .ok (.getfield 44, 3) := by decide +kernel
theorem dX8_reckons_50 : decode cX8_reckons 50 = .ok (.iload_n 1, 1) := by decide +kernel
theorem dX8_reckons_51 : decode cX8_reckons 51 = .ok (.iaload, 1) := by decide +kernel
theorem dX8_reckons_52 : decode cX8_reckons 52 = .ok (.putfield 200, 3) := by decide +kernel
theorem dX8_reckons_55 : decode cX8_reckons 55 = .ok (.aload_n 0, 1) := by decide +kernel
theorem dX8_reckons_56 : decode cX8_reckons 56 = .ok (.aload_n 0, 1) := by decide +kernel
theorem dX8_reckons_57 : decode cX8_reckons 57 = .ok (.getfield 47, 3) := by decide +kernel
theorem dX8_reckons_60 : decode cX8_reckons 60 = .ok (.iload_n 1, 1) := by decide +kernel
theorem dX8_reckons_61 : decode cX8_reckons 61 = .ok (.iaload, 1) := by decide +kernel
theorem dX8_reckons_62 : decode cX8_reckons 62 = .ok (.putfield 203, 3) := by decide +kernel
theorem dX8_reckons_65 : decode cX8_reckons 65 = .ok (.iload_n 2, 1) := by decide +kernel
theorem dX8_reckons_66 : decode cX8_reckons 66 = .ok (.iconst 5, 1) := by decide +kernel
theorem dX8_reckons_67 : decode cX8_reckons 67 = .ok (.if_icmp .lt 27, 3) := by decide +kernel
theorem dX8_reckons_70 : decode cX8_reckons 70 = .ok (.aload_n 0, 1) := by decide +kernel
theorem dX8_reckons_71 : decode cX8_reckons 71 = .ok (.getfield 200, 3) := by decide +kernel
theorem dX8_reckons_74 : decode cX8_reckons 74 = .ok (.iconst 5, 1) := by decide +kernel
theorem dX8_reckons_75 : decode cX8_reckons 75 = .ok (.if_icmp .ge 19, 3) := by decide +kernel
theorem dX8_reckons_78 : decode cX8_reckons 78 = .ok (.aload_n 0, 1) := by decide +kernel
theorem dX8_reckons_79 : decode cX8_reckons 79 = .ok (.dup, 1) := by decide +kernel
theorem dX8_reckons_80 : decode cX8_reckons 80 = .ok (.getfield 200, 3) := by decide +kernel
theorem dX8_reckons_83 : decode cX8_reckons 83 = .ok (.iconst 1, 1) := by decide +kernel
theorem dX8_reckons_84 : decode cX8_reckons 84 = .ok (.iadd, 1) := by decide +kernel
theorem dX8_reckons_85 : decode cX8_reckons 85 = .ok (.putfield 200, 3) := by decide +kernel
theorem dX8_reckons_88 : decode cX8_reckons 88 = .ok (.iinc 2 (-5), 3) := by decide +kernel
theorem dX8_reckons_91 : decode cX8_reckons 91 = .ok (.goto (-26), 3) := by decide +kernel
theorem dX8_reckons_94 : decode cX8_reckons 94 = .ok (.iload_n 2, 1) := by decide +kernel
theorem dX8_reckons_95 : decode cX8_reckons 95 = .ok (.iconst 2, 1) := by decide +kernel
theorem dX8_reckons_96 : decode cX8_reckons 96 = .ok (.if_icmp .lt 26, 3) := by decide +kernel
theorem dX8_reckons_99 : decode cX8_reckons 99 = .ok (.aload_n 0, 1) := by decide +kernel
theorem dX8_reckons_100 : decode cX8_reckons 100 = .ok (.getfield 203, 3) := by decide +kernel
theorem dX8_reckons_103 : decode cX8_reckons 103 = .ok (.ifCond .le 19, 3) := by decide +kernel
theorem dX8_reckons_106 : decode cX8_reckons 106 = .ok (.aload_n 0, 1) := by decide +kernel
theorem dX8_reckons_107 : decode cX8_reckons 107 = .ok (.dup, 1) := by decide +kernel
theorem dX8_reckons_108 : decode cX8_reckons 108 = .ok (.getfield 203, 3) := by decide +kernel
theorem dX8_reckons_111 : decode cX8_reckons 111 = .ok (.iconst 1, 1) := by decide +kernel
theorem dX8_reckons_112 : decode cX8_reckons 112 = .ok (.isub, 1) := by decide +kernel
theorem dX8_reckons_113 : decode cX8_reckons 113 = .ok (.putfield 203, 3) := by decide +kernel
theorem dX8_reckons_116 : decode cX8_reckons 116 = .ok (.iinc 2 (-2), 3) := by decide +kernel
theorem dX8_reckons_119 : decode cX8_reckons 119 = .ok (.goto (-25), 3) := by decide +kernel
theorem dX8_reckons_122 : decode cX8_reckons 122 = .ok (.iload_n 2, 1) := by decide +kernel
theorem dX8_reckons_123 : decode cX8_reckons 123 = .ok (.ifCond .ge 27, 3) := by decide +kernel
theorem dX8_reckons_126 : decode cX8_reckons 126 = .ok (.aload_n 0, 1) := by decide +kernel
theorem dX8_reckons_127 : decode cX8_reckons 127 = .ok (.getfield 203, 3) := by decide +kernel
theorem dX8_reckons_130 : decode cX8_reckons 130 = .ok (.iconst 4, 1) := by decide +kernel
theorem dX8_reckons_131 : decode cX8_reckons 131 = .ok (.if_icmp .ge 19, 3) := by decide +kernel
theorem dX8_reckons_134 : decode cX8_reckons 134 = .ok (.aload_n 0, 1) := by decide +kernel
theorem dX8_reckons_135 : decode cX8_reckons 135 = .ok (.dup, 1) := by decide +kernel
theorem dX8_reckons_136 : decode cX8_reckons 136 = .ok (.getfield 203, 3) := by decide +kernel
theorem dX8_reckons_139 : decode cX8_reckons 139 = .ok (.iconst 1, 1) := by decide +kernel
theorem dX8_reckons_140 : decode cX8_reckons 140 = .ok (.iadd, 1) := by decide +kernel
theorem dX8_reckons_141 : decode cX8_reckons 141 = .ok (.putfield 203, 3) := by decide +kernel
theorem dX8_reckons_144 : decode cX8_reckons 144 = .ok (.iinc 2 2, 3) := by decide +kernel
theorem dX8_reckons_147 : decode cX8_reckons 147 = .ok (.goto (-25), 3) := by decide +kernel
theorem dX8_reckons_150 : decode cX8_reckons 150 = .ok (.iload_n 2, 1) := by decide +kernel
theorem dX8_reckons_151 : decode cX8_reckons 151 = .ok (.ifCond .ge 26, 3) := by decide +kernel
theorem dX8_reckons_154 : decode cX8_reckons 154 = .ok (.aload_n 0, 1) := by decide +kernel
theorem dX8_reckons_155 : decode cX8_reckons 155 = .ok (.getfield 200, 3) := by decide +kernel
theorem dX8_reckons_158 : decode cX8_reckons 158 = .ok (.ifCond .le 19, 3) := by decide +kernel
theorem dX8_reckons_161 : decode cX8_reckons 161 = .ok (.aload_n 0, 1) := by decide +kernel
theorem dX8_reckons_162 : decode cX8_reckons 162 = .ok (.dup, 1) := by decide +kernel
theorem dX8_reckons_163 : decode cX8_reckons 163 = .ok (.getfield 200, 3) := by decide +kernel
theorem dX8_reckons_166 : decode cX8_reckons 166 = .ok (.iconst 1, 1) := by decide +kernel
theorem dX8_reckons_167 : decode cX8_reckons 167 = .ok (.isub, 1) := by decide +kernel
theorem dX8_reckons_168 : decode cX8_reckons 168 = .ok (.putfield 200, 3) := by decide +kernel
theorem dX8_reckons_171 : decode cX8_reckons 171 = .ok (.iinc 2 5, 3) := by decide +kernel
theorem dX8_reckons_174 : decode cX8_reckons 174 = .ok (.goto (-24), 3) := by decide +kernel
theorem dX8_reckons_177 : decode cX8_reckons 177 = .ok (.return_, 1) := by decide +kernel
theorem dX8_adapts_0 : decode cX8_adapts 0 = .ok (.aload_n 0, 1) := by decide +kernel
theorem dX8_adapts_1 : decode cX8_adapts 1 = .ok (.iload_n 1, 1) := by decide +kernel
theorem dX8_adapts_2 : decode cX8_adapts 2 = .ok (.invokevirtual 206, 3) := by decide +kernel
theorem dX8_adapts_5 : decode cX8_adapts 5 = .ok (.aload_n 0, 1) := by decide +kernel
theorem dX8_adapts_6 : decode cX8_adapts 6 = .ok (.getfield 200, 3) := by decide +kernel
theorem dX8_adapts_9 : decode cX8_adapts 9 = .ok (.istore_n 2, 1) := by decide +kernel
theorem dX8_adapts_10 : decode cX8_adapts 10 = .ok (.aload_n 0, 1) := by decide +kernel
theorem dX8_adapts_11 : decode cX8_adapts 11 = .ok (.getfield 203, 3) := by decide +kernel
theorem dX8_adapts_14 : decode cX8_adapts 14 = .ok (.istore_n 3, 1) := by decide +kernel
theorem dX8_adapts_15 : decode cX8_adapts 15 = .ok (.iload_n 2, 1) := by decide +kernel
theorem dX8_adapts_16 : decode cX8_adapts 16 = .ok (.aload_n 0, 1) := by decide +kernel
theorem dX8_adapts_17 : decode cX8_adapts 17 = .ok (.getfield 44, 3) := by decide +kernel
theorem dX8_adapts_20 : decode cX8_adapts 20 = .ok (.iload_n 1, 1) := by decide +kernel
theorem dX8_adapts_21 : decode cX8_adapts 21 = .ok (.iaload, 1) := by decide +kernel
theorem dX8_adapts_22 : decode cX8_adapts 22 = .ok (.if_icmp .ne 14, 3) := by decide +kernel
theorem dX8_adapts_25 : decode cX8_adapts 25 = .ok (.iload_n 3, 1) := by decide +kernel
theorem dX8_adapts_26 : decode cX8_adapts 26 = .ok (.aload_n 0, 1) := by decide +kernel
theorem dX8_adapts_27 : decode cX8_adapts 27 = .ok (.getfield 47, 3) := by decide +kernel
theorem dX8_adapts_30 : decode cX8_adapts 30 = .ok (.iload_n 1, 1) := by decide +kernel
theorem dX8_adapts_31 : decode cX8_adapts 31 = .ok (.iaload, 1) := by decide +kernel
theorem dX8_adapts_32 : decode cX8_adapts 32 = .ok (.if_icmp .ne 4, 3) := by decide +kernel
theorem dX8_adapts_35 : decode cX8_adapts 35 = .ok (.return_, 1) := by decide +kernel
theorem dX8_adapts_36 : decode cX8_adapts 36 = .ok (.aload_n 0, 1) := by decide +kernel
theorem dX8_adapts_37 : decode cX8_adapts 37 = .ok (.getfield 62, 3) := by decide +kernel
theorem dX8_adapts_40 : decode cX8_adapts 40 = .ok (.iload_n 1, 1) := by decide +kernel
theorem dX8_adapts_41 : decode cX8_adapts 41 = .ok (.iconst 0, 1) := by decide +kernel
theorem dX8_adapts_42 : decode cX8_adapts 42 = .ok (.iastore, 1) := by decide +kernel
theorem dX8_adapts_43 : decode cX8_adapts 43 = .ok (.aload_n 0, 1) := by decide +kernel
theorem dX8_adapts_44 : decode cX8_adapts 44 = .ok (.iload_n 1, 1) := by decide +kernel
theorem dX8_adapts_45 : decode cX8_adapts 45 = .ok (.invokevirtual 209, 3) := by decide +kernel
theorem dX8_adapts_48 : decode cX8_adapts 48 = .ok (.ifCond .eq 27, 3) := by decide +kernel
theorem dX8_adapts_51 : decode cX8_adapts 51 = .ok (.aload_n 0, 1) := by decide +kernel
theorem dX8_adapts_52 : decode cX8_adapts 52 = .ok (.getfield 53, 3) := by decide +kernel
theorem dX8_adapts_55 : decode cX8_adapts 55 = .ok (.iload_n 1, 1) := by decide +kernel
theorem dX8_adapts_56 : decode cX8_adapts 56 = .ok (.iaload, 1) := by decide +kernel
theorem dX8_adapts_57 : decode cX8_adapts 57 = .ok (.iconst 1, 1) := by decide +kernel
theorem dX8_adapts_58 : decode cX8_adapts 58 = .ok (.if_icmp .ne 17, 3) := by decide +kernel
theorem dX8_adapts_61 : decode cX8_adapts 61 = .ok (.aload_n 0, 1) := by decide +kernel
theorem dX8_adapts_62 : decode cX8_adapts 62 = .ok (.getfield 44, 3) := by decide +kernel
theorem dX8_adapts_65 : decode cX8_adapts 65 = .ok (.iload_n 1, 1) := by decide +kernel
theorem dX8_adapts_66 : decode cX8_adapts 66 = .ok (.iload_n 2, 1) := by decide +kernel
theorem dX8_adapts_67 : decode cX8_adapts 67 = .ok (.iastore, 1) := by decide +kernel
theorem dX8_adapts_68 : decode cX8_adapts 68 = .ok (.aload_n 0, 1) := by decide +kernel
theorem dX8_adapts_69 : decode cX8_adapts 69 = .ok (.getfield 47, 3) := by decide +kernel
theorem dX8_adapts_72 : decode cX8_adapts 72 = .ok (.iload_n 1, 1) := by decide +kernel
theorem dX8_adapts_73 : decode cX8_adapts 73 = .ok (.iload_n 3, 1) := by decide +kernel
theorem dX8_adapts_74 : decode cX8_adapts 74 = .ok (.iastore, 1) := by decide +kernel
theorem dX8_adapts_75 : decode cX8_adapts 75 = .ok (.return_, 1) := by decide +kernel
theorem dX8_closes_0 : decode cX8_closes 0 = .ok (.aload_n 0, 1) := by decide +kernel
theorem dX8_closes_1 : decode cX8_closes 1 = .ok (.getfield 89, 3) := by decide +kernel
theorem dX8_closes_4 : decode cX8_closes 4 = .ok (.iconst 0, 1) := by decide +kernel
theorem dX8_closes_5 : decode cX8_closes 5 = .ok (.iaload, 1) := by decide +kernel
theorem dX8_closes_6 : decode cX8_closes 6 = .ok (.istore_n 1, 1) := by decide +kernel
theorem dX8_closes_7 : decode cX8_closes 7 = .ok (.aload_n 0, 1) := by decide +kernel
theorem dX8_closes_8 : decode cX8_closes 8 = .ok (.getfield 92, 3) := by decide +kernel
theorem dX8_closes_11 : decode cX8_closes 11 = .ok (.iconst 0, 1) := by decide +kernel
theorem dX8_closes_12 : decode cX8_closes 12 = .ok (.iaload, 1) := by decide +kernel
theorem dX8_closes_13 : decode cX8_closes 13 = .ok (.istore_n 2, 1) := by decide +kernel
theorem dX8_closes_14 : decode cX8_closes 14 = .ok (.iload_n 2, 1) := by decide +kernel
theorem dX8_closes_15 : decode cX8_closes 15 = .ok (.iconst (-1), 1) := by decide +kernel
theorem dX8_closes_16 : decode cX8_closes 16 = .ok (.if_icmp .ne 52, 3) := by decide +kernel
theorem dX8_closes_19 : decode cX8_closes 19 = .ok (.aload_n 0, 1) := by decide +kernel
theorem dX8_closes_20 : decode cX8_closes 20 = .ok (.getfield 59, 3) := by decide +kernel
theorem dX8_closes_23 : decode cX8_closes 23 = .ok (.iload_n 1, 1) := by decide +kernel
theorem dX8_closes_24 : decode cX8_closes 24 = .ok (.bipush 63, 2) := by decide +kernel
theorem dX8_closes_26 : decode cX8_closes 26 = .ok (.iastore, 1) := by decide +kernel
theorem dX8_closes_27 : decode cX8_closes 27 = .ok (.aload_n 0, 1) := by decide +kernel
theorem dX8_closes_28 : decode cX8_closes 28 = .ok (.getfield 62, 3) := by decide +kernel
theorem dX8_closes_31 : decode cX8_closes 31 = .ok (.iload_n 1, 1) := by decide +kernel
theorem dX8_closes_32 : decode cX8_closes 32 = .ok (.iconst 0, 1) := by decide +kernel
theorem dX8_closes_33 : decode cX8_closes 33 = .ok (.iastore, 1) := by decide +kernel
theorem dX8_closes_34 : decode cX8_closes 34 = .ok (.aload_n 0, 1) := by decide +kernel
theorem dX8_closes_35 : decode cX8_closes 35 = .ok (.getfield 104, 3) := by decide +kernel
theorem dX8_closes_38 : decode cX8_closes 38 = .ok (.iconst 1, 1) := by decide +kernel
theorem dX8_closes_39 : decode cX8_closes 39 = .ok (.dup2, 1) := by decide +kernel
theorem dX8_closes_40 : decode cX8_closes 40 = .ok (.iaload, 1) := by decide +kernel
theorem dX8_closes_41 : decode cX8_closes 41 = .ok (.iconst 1, 1) := by decide +kernel
theorem dX8_closes_42 : decode cX8_closes 42 = .ok (.iadd, 1) := by decide +kernel
theorem dX8_closes_43 : decode cX8_closes 43 = .ok (.iastore, 1) := by decide +kernel
theorem dX8_closes_44 : decode cX8_closes 44 = .ok (.aload_n 0, 1) := by decide +kernel
theorem dX8_closes_45 : decode cX8_closes 45 = .ok (.iload_n 1, 1) := by decide +kernel
theorem dX8_closes_46 : decode cX8_closes 46 = .ok (.invokevirtual 209, 3) := by decide +kernel
theorem dX8_closes_49 : decode cX8_closes 49 = .ok (.ifCond .eq 17, 3) := by decide +kernel
theorem dX8_closes_52 : decode cX8_closes 52 = .ok (.aload_n 0, 1) := by decide +kernel
theorem dX8_closes_53 : decode cX8_closes 53 = .ok (.getfield 53, 3) := by decide +kernel
theorem dX8_closes_56 : decode cX8_closes 56 = .ok (.iload_n 1, 1) := by decide +kernel
theorem dX8_closes_57 : decode cX8_closes 57 = .ok (.iconst 1, 1) := by decide +kernel
theorem dX8_closes_58 : decode cX8_closes 58 = .ok (.iastore, 1) := by decide +kernel
theorem dX8_closes_59 : decode cX8_closes 59 = .ok (.aload_n 0, 1) := by decide +kernel
theorem dX8_closes_60 : decode cX8_closes 60 = .ok (.getfield 50, 3) := by decide +kernel
theorem dX8_closes_63 : decode cX8_closes 63 = .ok (.iload_n 1, 1) := by decide +kernel
theorem dX8_closes_64 : decode cX8_closes 64 = .ok (.iconst 0, 1) := by decide +kernel
theorem dX8_closes_65 : decode cX8_closes 65 = .ok (.iastore, 1) := by decide +kernel
theorem dX8_closes_66 : decode cX8_closes 66 = .ok (.iconst 1, 1) := by decide +kernel
theorem dX8_closes_67 : decode cX8_closes 67 = .ok (.ireturn, 1) := by decide +kernel
theorem dX8_closes_68 : decode cX8_closes 68 = .ok (.aload_n 0, 1) := by decide +kernel
theorem dX8_closes_69 : decode cX8_closes 69 = .ok (.iload_n 1, 1) := by decide +kernel
theorem dX8_closes_70 : decode cX8_closes 70 = .ok (.iload_n 2, 1) := by decide +kernel
theorem dX8_closes_71 : decode cX8_closes 71 = .ok (.invokevirtual 190, 3) := by decide +kernel
theorem dX8_closes_74 : decode cX8_closes 74 = .ok (.ifCond .ne 15, 3) := by decide +kernel
theorem dX8_closes_77 : decode cX8_closes 77 = .ok (.aload_n 0, 1) := by decide +kernel
theorem dX8_closes_78 : decode cX8_closes 78 = .ok (.getfield 104, 3) := by decide +kernel
theorem dX8_closes_81 : decode cX8_closes 81 = .ok (.iconst 2, 1) := by decide +kernel
theorem dX8_closes_82 : decode cX8_closes 82 = .ok (.dup2, 1) := by decide +kernel
theorem dX8_closes_83 : decode cX8_closes 83 = .ok (.iaload, 1) := by decide +kernel
theorem dX8_closes_84 : decode cX8_closes 84 = .ok (.iconst 1, 1) := by decide +kernel
theorem dX8_closes_85 : decode cX8_closes 85 = .ok (.iadd, 1) := by decide +kernel
theorem dX8_closes_86 : decode cX8_closes 86 = .ok (.iastore, 1) := by decide +kernel
theorem dX8_closes_87 : decode cX8_closes 87 = .ok (.iconst 0, 1) := by decide +kernel
theorem dX8_closes_88 : decode cX8_closes 88 = .ok (.ireturn, 1) := by decide +kernel
theorem dX8_closes_89 : decode cX8_closes 89 = .ok (.aload_n 0, 1) := by decide +kernel
theorem dX8_closes_90 : decode cX8_closes 90 = .ok (.getfield 71, 3) := by decide +kernel
theorem dX8_closes_93 : decode cX8_closes 93 = .ok (.iload_n 1, 1) := by decide +kernel
theorem dX8_closes_94 : decode cX8_closes 94 = .ok (.dup2, 1) := by decide +kernel
theorem dX8_closes_95 : decode cX8_closes 95 = .ok (.iaload, 1) := by decide +kernel
theorem dX8_closes_96 : decode cX8_closes 96 = .ok (.aload_n 0, 1) := by decide +kernel
theorem dX8_closes_97 : decode cX8_closes 97 = .ok (.iload_n 1, 1) := by decide +kernel
theorem dX8_closes_98 : decode cX8_closes 98 = .ok (.iload_n 2, 1) := by decide +kernel
theorem dX8_closes_99 : decode cX8_closes 99 = .ok (.invokevirtual 180, 3) := by decide +kernel
theorem dX8_closes_102 : decode cX8_closes 102 = .ok (.iconst 1, 1) := by decide +kernel
theorem dX8_closes_103 : decode cX8_closes 103 = .ok (.isub, 1) := by decide +kernel
theorem dX8_closes_104 : decode cX8_closes 104 = .ok (.iadd, 1) := by decide +kernel
theorem dX8_closes_105 : decode cX8_closes 105 = .ok (.iastore, 1) := by decide +kernel
theorem dX8_closes_106 : decode cX8_closes 106 = .ok (.aload_n 0, 1) := by decide +kernel
theorem dX8_closes_107 : decode cX8_closes 107 = .ok (.getfield 59, 3) := by decide +kernel
theorem dX8_closes_110 : decode cX8_closes 110 = .ok (.iload_n 1, 1) := by decide +kernel
theorem dX8_closes_111 : decode cX8_closes 111 = .ok (.iload_n 2, 1) := by decide +kernel
theorem dX8_closes_112 : decode cX8_closes 112 = .ok (.iastore, 1) := by decide +kernel
end
section
theorem dX8_closes_113 : decode cX8_closes 113 = .ok (.aload_n 0, 1) := by decide +kernel
theorem dX8_closes_114 : decode cX8_closes 114 = .ok (.getfield 68, 3) := by decide +kernel
theorem dX8_closes_117 : decode cX8_closes 117 = .ok (.iload_n 1, 1) := by decide +kernel
theorem dX8_closes_118 : decode cX8_closes 118 = .ok (.dup2, 1) := by decide +kernel
theorem dX8_closes_119 : decode cX8_closes 119 = .ok (.iaload, 1) := by decide +kernel
theorem dX8_closes_120 : decode cX8_closes 120 = .ok (.iconst 1, 1) := by decide +kernel
theorem dX8_closes_121 : decode cX8_closes 121 = .ok (.iadd, 1) := by decide +kernel
theorem dX8_closes_122 : decode cX8_closes 122 = .ok (.iastore, 1) := by decide +kernel
theorem dX8_closes_123 : decode cX8_closes 123 = .ok (.aload_n 0, 1) := by decide +kernel
theorem dX8_closes_124 : decode cX8_closes 124 = .ok (.getfield 104, 3) := by decide +kernel
theorem dX8_closes_127 : decode cX8_closes 127 = .ok (.iconst 0, 1) := by decide +kernel
theorem dX8_closes_128 : decode cX8_closes 128 = .ok (.dup2, 1) := by decide +kernel
theorem dX8_closes_129 : decode cX8_closes 129 = .ok (.iaload, 1) := by decide +kernel
theorem dX8_closes_130 : decode cX8_closes 130 = .ok (.iconst 1, 1) := by decide +kernel
theorem dX8_closes_131 : decode cX8_closes 131 = .ok (.iadd, 1) := by decide +kernel
theorem dX8_closes_132 : decode cX8_closes 132 = .ok (.iastore, 1) := by decide +kernel
theorem dX8_closes_133 : decode cX8_closes 133 = .ok (.aload_n 0, 1) := by decide +kernel
theorem dX8_closes_134 : decode cX8_closes 134 = .ok (.iconst (-1), 1) := by decide +kernel
theorem dX8_closes_135 : decode cX8_closes 135 = .ok (.invokevirtual 197, 3) := by decide +kernel
theorem dX8_closes_138 : decode cX8_closes 138 = .ok (.istore_n 3, 1) := by decide +kernel
theorem dX8_closes_139 : decode cX8_closes 139 = .ok (.aload_n 0, 1) := by decide +kernel
theorem dX8_closes_140 : decode cX8_closes 140 = .ok (.getfield 38, 3) := by decide +kernel
theorem dX8_closes_143 : decode cX8_closes 143 = .ok (.iload_n 3, 1) := by decide +kernel
theorem dX8_closes_144 : decode cX8_closes 144 = .ok (.dup2, 1) := by decide +kernel
theorem dX8_closes_145 : decode cX8_closes 145 = .ok (.iaload, 1) := by decide +kernel
theorem dX8_closes_146 : decode cX8_closes 146 = .ok (.iconst 1, 1) := by decide +kernel
theorem dX8_closes_147 : decode cX8_closes 147 = .ok (.iadd, 1) := by decide +kernel
theorem dX8_closes_148 : decode cX8_closes 148 = .ok (.iastore, 1) := by decide +kernel
theorem dX8_closes_149 : decode cX8_closes 149 = .ok (.aload_n 0, 1) := by decide +kernel
theorem dX8_closes_150 : decode cX8_closes 150 = .ok (.iload_n 1, 1) := by decide +kernel
theorem dX8_closes_151 : decode cX8_closes 151 = .ok (.aload_n 0, 1) := by decide +kernel
theorem dX8_closes_152 : decode cX8_closes 152 = .ok (.getfield 101, 3) := by decide +kernel
theorem dX8_closes_155 : decode cX8_closes 155 = .ok (.iload_n 3, 1) := by decide +kernel
theorem dX8_closes_156 : decode cX8_closes 156 = .ok (.iaload, 1) := by decide +kernel
theorem dX8_closes_157 : decode cX8_closes 157 = .ok (.invokevirtual 212, 3) := by decide +kernel
theorem dX8_closes_160 : decode cX8_closes 160 = .ok (.aload_n 0, 1) := by decide +kernel
theorem dX8_closes_161 : decode cX8_closes 161 = .ok (.getfield 62, 3) := by decide +kernel
theorem dX8_closes_164 : decode cX8_closes 164 = .ok (.iload_n 1, 1) := by decide +kernel
theorem dX8_closes_165 : decode cX8_closes 165 = .ok (.iaload, 1) := by decide +kernel
theorem dX8_closes_166 : decode cX8_closes 166 = .ok (.iconst 4, 1) := by decide +kernel
theorem dX8_closes_167 : decode cX8_closes 167 = .ok (.if_icmp .ne 8, 3) := by decide +kernel
theorem dX8_closes_170 : decode cX8_closes 170 = .ok (.aload_n 0, 1) := by decide +kernel
theorem dX8_closes_171 : decode cX8_closes 171 = .ok (.iload_n 1, 1) := by decide +kernel
theorem dX8_closes_172 : decode cX8_closes 172 = .ok (.invokevirtual 216, 3) := by decide +kernel
theorem dX8_closes_175 : decode cX8_closes 175 = .ok (.iconst 1, 1) := by decide +kernel
theorem dX8_closes_176 : decode cX8_closes 176 = .ok (.ireturn, 1) := by decide +kernel
theorem dX8_oneTick_0 : decode cX8_oneTick 0 = .ok (.aload_n 0, 1) := by decide +kernel
theorem dX8_oneTick_1 : decode cX8_oneTick 1 = .ok (.dup, 1) := by decide +kernel
theorem dX8_oneTick_2 : decode cX8_oneTick 2 = .ok (.getfield 114, 3) := by decide +kernel
theorem dX8_oneTick_5 : decode cX8_oneTick 5 = .ok (.iconst 1, 1) := by decide +kernel
theorem dX8_oneTick_6 : decode cX8_oneTick 6 = .ok (.iadd, 1) := by decide +kernel
theorem dX8_oneTick_7 : decode cX8_oneTick 7 = .ok (.putfield 114, 3) := by decide +kernel
theorem dX8_oneTick_10 : decode cX8_oneTick 10 = .ok (.aload_n 0, 1) := by decide +kernel
theorem dX8_oneTick_11 : decode cX8_oneTick 11 = .ok (.getfield 114, 3) := by decide +kernel
theorem dX8_oneTick_14 : decode cX8_oneTick 14 = .ok (.bipush 60, 2) := by decide +kernel
theorem dX8_oneTick_16 : decode cX8_oneTick 16 = .ok (.irem, 1) := by decide +kernel
theorem dX8_oneTick_17 : decode cX8_oneTick 17 = .ok (.iconst 1, 1) := by decide +kernel
theorem dX8_oneTick_18 : decode cX8_oneTick 18 = .ok (.if_icmp .ne 23, 3) := by decide +kernel
theorem dX8_oneTick_21 : decode cX8_oneTick 21 = .ok (.iconst 0, 1) := by decide +kernel
theorem dX8_oneTick_22 : decode cX8_oneTick 22 = .ok (.istore_n 1, 1) := by decide +kernel
theorem dX8_oneTick_23 : decode cX8_oneTick 23 = .ok (.iload_n 1, 1) := by decide +kernel
theorem dX8_oneTick_24 : decode cX8_oneTick 24 = .ok (.iconst 4, 1) := by decide +kernel
theorem dX8_oneTick_25 : decode cX8_oneTick 25 = .ok (.if_icmp .ge 16, 3) := by decide +kernel
theorem dX8_oneTick_28 : decode cX8_oneTick 28 = .ok (.aload_n 0, 1) := by decide +kernel
theorem dX8_oneTick_29 : decode cX8_oneTick 29 = .ok (.getfield 29, 3) := by decide +kernel
theorem dX8_oneTick_32 : decode cX8_oneTick 32 = .ok (.iload_n 1, 1) := by decide +kernel
theorem dX8_oneTick_33 : decode cX8_oneTick 33 = .ok (.iconst 0, 1) := by decide +kernel
theorem dX8_oneTick_34 : decode cX8_oneTick 34 = .ok (.iastore, 1) := by decide +kernel
theorem dX8_oneTick_35 : decode cX8_oneTick 35 = .ok (.iinc 1 1, 3) := by decide +kernel
theorem dX8_oneTick_38 : decode cX8_oneTick 38 = .ok (.goto (-15), 3) := by decide +kernel
theorem dX8_oneTick_41 : decode cX8_oneTick 41 = .ok (.aload_n 0, 1) := by decide +kernel
theorem dX8_oneTick_42 : decode cX8_oneTick 42 = .ok (.invokevirtual 219, 3) := by decide +kernel
theorem dX8_oneTick_45 : decode cX8_oneTick 45 = .ok (.iconst 0, 1) := by decide +kernel
theorem dX8_oneTick_46 : decode cX8_oneTick 46 = .ok (.istore_n 1, 1) := by decide +kernel
theorem dX8_oneTick_47 : decode cX8_oneTick 47 = .ok (.aload_n 0, 1) := by decide +kernel
theorem dX8_oneTick_48 : decode cX8_oneTick 48 = .ok (.getfield 120, 3) := by decide +kernel
theorem dX8_oneTick_51 : decode cX8_oneTick 51 = .ok (.ifCond .le 35, 3) := by decide +kernel
theorem dX8_oneTick_54 : decode cX8_oneTick 54 = .ok (.aload_n 0, 1) := by decide +kernel
theorem dX8_oneTick_55 : decode cX8_oneTick 55 = .ok (.getfield 95, 3) := by decide +kernel
theorem dX8_oneTick_58 : decode cX8_oneTick 58 = .ok (.iconst 0, 1) := by decide +kernel
theorem dX8_oneTick_59 : decode cX8_oneTick 59 = .ok (.iaload, 1) := by decide +kernel
theorem dX8_oneTick_60 : decode cX8_oneTick 60 = .ok (.aload_n 0, 1) := by decide +kernel
theorem dX8_oneTick_61 : decode cX8_oneTick 61 = .ok (.getfield 20, 3) := by decide +kernel
theorem dX8_oneTick_64 : decode cX8_oneTick 64 = .ok (.iadd, 1) := by decide +kernel
theorem dX8_oneTick_65 : decode cX8_oneTick 65 = .ok (.aload_n 0, 1) := by decide +kernel
theorem dX8_oneTick_66 : decode cX8_oneTick 66 = .ok (.getfield 114, 3) := by decide +kernel
theorem dX8_oneTick_69 : decode cX8_oneTick 69 = .ok (.if_icmp .gt 17, 3) := by decide +kernel
theorem dX8_oneTick_72 : decode cX8_oneTick 72 = .ok (.iload_n 1, 1) := by decide +kernel
theorem dX8_oneTick_73 : decode cX8_oneTick 73 = .ok (.aload_n 0, 1) := by decide +kernel
theorem dX8_oneTick_74 : decode cX8_oneTick 74 = .ok (.invokevirtual 222, 3) := by decide +kernel
theorem dX8_oneTick_77 : decode cX8_oneTick 77 = .ok (.iadd, 1) := by decide +kernel
theorem dX8_oneTick_78 : decode cX8_oneTick 78 = .ok (.istore_n 1, 1) := by decide +kernel
theorem dX8_oneTick_79 : decode cX8_oneTick 79 = .ok (.aload_n 0, 1) := by decide +kernel
theorem dX8_oneTick_80 : decode cX8_oneTick 80 = .ok (.invokevirtual 225, 3) := by decide +kernel
theorem dX8_oneTick_83 : decode cX8_oneTick 83 = .ok (.goto (-36), 3) := by decide +kernel
theorem dX8_oneTick_86 : decode cX8_oneTick 86 = .ok (.iload_n 1, 1) := by decide +kernel
theorem dX8_oneTick_87 : decode cX8_oneTick 87 = .ok (.ireturn, 1) := by decide +kernel
theorem dX8_goBy_0 : decode cX8_goBy 0 = .ok (.iconst 0, 1) := by decide +kernel
theorem dX8_goBy_1 : decode cX8_goBy 1 = .ok (.istore_n 2, 1) := by decide +kernel
theorem dX8_goBy_2 : decode cX8_goBy 2 = .ok (.iconst 0, 1) := by decide +kernel
theorem dX8_goBy_3 : decode cX8_goBy 3 = .ok (.istore_n 3, 1) := by decide +kernel
theorem dX8_goBy_4 : decode cX8_goBy 4 = .ok (.iload_n 3, 1) := by decide +kernel
theorem dX8_goBy_5 : decode cX8_goBy 5 = .ok (.iload_n 1, 1) := by decide +kernel
theorem dX8_goBy_6 : decode cX8_goBy 6 = .ok (.if_icmp .ge 16, 3) := by decide +kernel
theorem dX8_goBy_9 : decode cX8_goBy 9 = .ok (.iload_n 2, 1) := by decide +kernel
theorem dX8_goBy_10 : decode cX8_goBy 10 = .ok (.aload_n 0, 1) := by decide +kernel
theorem dX8_goBy_11 : decode cX8_goBy 11 = .ok (.invokevirtual 228, 3) := by decide +kernel
theorem dX8_goBy_14 : decode cX8_goBy 14 = .ok (.iadd, 1) := by decide +kernel
theorem dX8_goBy_15 : decode cX8_goBy 15 = .ok (.istore_n 2, 1) := by decide +kernel
theorem dX8_goBy_16 : decode cX8_goBy 16 = .ok (.iinc 3 1, 3) := by decide +kernel
theorem dX8_goBy_19 : decode cX8_goBy 19 = .ok (.goto (-15), 3) := by decide +kernel
theorem dX8_goBy_22 : decode cX8_goBy 22 = .ok (.iload_n 2, 1) := by decide +kernel
theorem dX8_goBy_23 : decode cX8_goBy 23 = .ok (.ireturn, 1) := by decide +kernel
theorem dX8_ticks_0 : decode cX8_ticks 0 = .ok (.iload_n 1, 1) := by decide +kernel
theorem dX8_ticks_1 : decode cX8_ticks 1 = .ok (.iconst 1, 1) := by decide +kernel
theorem dX8_ticks_2 : decode cX8_ticks 2 = .ok (.bipush 99, 2) := by decide +kernel
theorem dX8_ticks_4 : decode cX8_ticks 4 = .ok (.invokestatic 110, 3) := by decide +kernel
theorem dX8_ticks_7 : decode cX8_ticks 7 = .ok (.ifCond .eq 11, 3) := by decide +kernel
theorem dX8_ticks_10 : decode cX8_ticks 10 = .ok (.aload_n 0, 1) := by decide +kernel
theorem dX8_ticks_11 : decode cX8_ticks 11 = .ok (.iload_n 1, 1) := by decide +kernel
theorem dX8_ticks_12 : decode cX8_ticks 12 = .ok (.invokevirtual 231, 3) := by decide +kernel
theorem dX8_ticks_15 : decode cX8_ticks 15 = .ok (.goto 7, 3) := by decide +kernel
theorem dX8_ticks_18 : decode cX8_ticks 18 = .ok (.aload_n 0, 1) := by decide +kernel
theorem dX8_ticks_19 : decode cX8_ticks 19 = .ok (.invokevirtual 127, 3) := by decide +kernel
theorem dX8_ticks_22 : decode cX8_ticks 22 = .ok (.ireturn, 1) := by decide +kernel
theorem dX8_ofBy_0 : decode cX8_ofBy 0 = .ok (.iload_n 2, 1) := by decide +kernel
theorem dX8_ofBy_1 : decode cX8_ofBy 1 = .ok (.tableswitch 92 0 6 #[43, 50, 57, 64, 71, 78, 85], 43) := by decide +kernel
theorem dX8_ofBy_44 : decode cX8_ofBy 44 = .ok (.aload_n 0, 1) := by decide +kernel
theorem dX8_ofBy_45 : decode cX8_ofBy 45 = .ok (.getfield 44, 3) := by decide +kernel
theorem dX8_ofBy_48 : decode cX8_ofBy 48 = .ok (.iload_n 1, 1) := by decide +kernel
theorem dX8_ofBy_49 : decode cX8_ofBy 49 = .ok (.iaload, 1) := by decide +kernel
theorem dX8_ofBy_50 : decode cX8_ofBy 50 = .ok (.ireturn, 1) := by decide +kernel
theorem dX8_ofBy_51 : decode cX8_ofBy 51 = .ok (.aload_n 0, 1) := by decide +kernel
theorem dX8_ofBy_52 : decode cX8_ofBy 52 = .ok (.getfield 47, 3) := by decide +kernel
theorem dX8_ofBy_55 : decode cX8_ofBy 55 = .ok (.iload_n 1, 1) := by decide +kernel
theorem dX8_ofBy_56 : decode cX8_ofBy 56 = .ok (.iaload, 1) := by decide +kernel
theorem dX8_ofBy_57 : decode cX8_ofBy 57 = .ok (.ireturn, 1) := by decide +kernel
theorem dX8_ofBy_58 : decode cX8_ofBy 58 = .ok (.aload_n 0, 1) := by decide +kernel
theorem dX8_ofBy_59 : decode cX8_ofBy 59 = .ok (.getfield 50, 3) := by decide +kernel
theorem dX8_ofBy_62 : decode cX8_ofBy 62 = .ok (.iload_n 1, 1) := by decide +kernel
theorem dX8_ofBy_63 : decode cX8_ofBy 63 = .ok (.iaload, 1) := by decide +kernel
theorem dX8_ofBy_64 : decode cX8_ofBy 64 = .ok (.ireturn, 1) := by decide +kernel
theorem dX8_ofBy_65 : decode cX8_ofBy 65 = .ok (.aload_n 0, 1) := by decide +kernel
theorem dX8_ofBy_66 : decode cX8_ofBy 66 = .ok (.getfield 53, 3) := by decide +kernel
theorem dX8_ofBy_69 : decode cX8_ofBy 69 = .ok (.iload_n 1, 1) := by decide +kernel
theorem dX8_ofBy_70 : decode cX8_ofBy 70 = .ok (.iaload, 1) := by decide +kernel
theorem dX8_ofBy_71 : decode cX8_ofBy 71 = .ok (.ireturn, 1) := by decide +kernel
theorem dX8_ofBy_72 : decode cX8_ofBy 72 = .ok (.aload_n 0, 1) := by decide +kernel
theorem dX8_ofBy_73 : decode cX8_ofBy 73 = .ok (.getfield 59, 3) := by decide +kernel
theorem dX8_ofBy_76 : decode cX8_ofBy 76 = .ok (.iload_n 1, 1) := by decide +kernel
theorem dX8_ofBy_77 : decode cX8_ofBy 77 = .ok (.iaload, 1) := by decide +kernel
theorem dX8_ofBy_78 : decode cX8_ofBy 78 = .ok (.ireturn, 1) := by decide +kernel
theorem dX8_ofBy_79 : decode cX8_ofBy 79 = .ok (.aload_n 0, 1) := by decide +kernel
theorem dX8_ofBy_80 : decode cX8_ofBy 80 = .ok (.getfield 62, 3) := by decide +kernel
theorem dX8_ofBy_83 : decode cX8_ofBy 83 = .ok (.iload_n 1, 1) := by decide +kernel
theorem dX8_ofBy_84 : decode cX8_ofBy 84 = .ok (.iaload, 1) := by decide +kernel
theorem dX8_ofBy_85 : decode cX8_ofBy 85 = .ok (.ireturn, 1) := by decide +kernel
theorem dX8_ofBy_86 : decode cX8_ofBy 86 = .ok (.aload_n 0, 1) := by decide +kernel
theorem dX8_ofBy_87 : decode cX8_ofBy 87 = .ok (.getfield 68, 3) := by decide +kernel
theorem dX8_ofBy_90 : decode cX8_ofBy 90 = .ok (.iload_n 1, 1) := by decide +kernel
theorem dX8_ofBy_91 : decode cX8_ofBy 91 = .ok (.iaload, 1) := by decide +kernel
theorem dX8_ofBy_92 : decode cX8_ofBy 92 = .ok (.ireturn, 1) := by decide +kernel
theorem dX8_ofBy_93 : decode cX8_ofBy 93 = .ok (.aload_n 0, 1) := by decide +kernel
theorem dX8_ofBy_94 : decode cX8_ofBy 94 = .ok (.getfield 71, 3) := by decide +kernel
theorem dX8_ofBy_97 : decode cX8_ofBy 97 = .ok (.iload_n 1, 1) := by decide +kernel
theorem dX8_ofBy_98 : decode cX8_ofBy 98 = .ok (.iaload, 1) := by decide +kernel
theorem dX8_ofBy_99 : decode cX8_ofBy 99 = .ok (.ireturn, 1) := by decide +kernel
theorem dX8_of_0 : decode cX8_of 0 = .ok (.aload_n 0, 1) := by decide +kernel
theorem dX8_of_1 : decode cX8_of 1 = .ok (.iload_n 1, 1) := by decide +kernel
theorem dX8_of_2 : decode cX8_of 2 = .ok (.invokevirtual 142, 3) := by decide +kernel
theorem dX8_of_5 : decode cX8_of 5 = .ok (.ifCond .eq 22, 3) := by decide +kernel
theorem dX8_of_8 : decode cX8_of 8 = .ok (.iload_n 2, 1) := by decide +kernel
theorem dX8_of_9 : decode cX8_of 9 = .ok (.iconst 0, 1) := by decide +kernel
theorem dX8_of_10 : decode cX8_of 10 = .ok (.bipush 7, 2) := by decide +kernel
theorem dX8_of_12 : decode cX8_of 12 = .ok (.invokestatic 110, 3) := by decide +kernel
theorem dX8_of_15 : decode cX8_of 15 = .ok (.ifCond .eq 12, 3) := by decide +kernel
theorem dX8_of_18 : decode cX8_of 18 = .ok (.aload_n 0, 1) := by decide +kernel
theorem dX8_of_19 : decode cX8_of 19 = .ok (.iload_n 1, 1) := by decide +kernel
theorem dX8_of_20 : decode cX8_of 20 = .ok (.iload_n 2, 1) := by decide +kernel
theorem dX8_of_21 : decode cX8_of 21 = .ok (.invokevirtual 234, 3) := by decide +kernel
theorem dX8_of_24 : decode cX8_of 24 = .ok (.goto 7, 3) := by decide +kernel
theorem dX8_of_27 : decode cX8_of 27 = .ok (.aload_n 0, 1) := by decide +kernel
theorem dX8_of_28 : decode cX8_of 28 = .ok (.invokevirtual 127, 3) := by decide +kernel
theorem dX8_of_31 : decode cX8_of 31 = .ok (.ireturn, 1) := by decide +kernel
theorem dX8_margin_0 : decode cX8_margin 0 = .ok (.aload_n 0, 1) := by decide +kernel
theorem dX8_margin_1 : decode cX8_margin 1 = .ok (.iload_n 1, 1) := by decide +kernel
theorem dX8_margin_2 : decode cX8_margin 2 = .ok (.invokevirtual 142, 3) := by decide +kernel
theorem dX8_margin_5 : decode cX8_margin 5 = .ok (.ifCond .eq 7, 3) := by decide +kernel
theorem dX8_margin_8 : decode cX8_margin 8 = .ok (.iload_n 2, 1) := by decide +kernel
theorem dX8_margin_9 : decode cX8_margin 9 = .ok (.ifCond .ge 8, 3) := by decide +kernel
theorem dX8_margin_12 : decode cX8_margin 12 = .ok (.aload_n 0, 1) := by decide +kernel
theorem dX8_margin_13 : decode cX8_margin 13 = .ok (.invokevirtual 127, 3) := by decide +kernel
theorem dX8_margin_16 : decode cX8_margin 16 = .ok (.ireturn, 1) := by decide +kernel
theorem dX8_margin_17 : decode cX8_margin 17 = .ok (.iload_n 2, 1) := by decide +kernel
theorem dX8_margin_18 : decode cX8_margin 18 = .ok (.aload_n 0, 1) := by decide +kernel
theorem dX8_margin_19 : decode cX8_margin 19 = .ok (.getfield 62, 3) := by decide +kernel
theorem dX8_margin_22 : decode cX8_margin 22 = .ok (.iload_n 1, 1) := by decide +kernel
theorem dX8_margin_23 : decode cX8_margin 23 = .ok (.iaload, 1) := by decide +kernel
theorem dX8_margin_24 : decode cX8_margin 24 = .ok (.if_icmp .ge 16, 3) := by decide +kernel
theorem dX8_margin_27 : decode cX8_margin 27 = .ok (.aload_n 0, 1) := by decide +kernel
theorem dX8_margin_28 : decode cX8_margin 28 = .ok (.getfield 65, 3) := by decide +kernel
theorem dX8_margin_31 : decode cX8_margin 31 = .ok (.iconst 4, 1) := by decide +kernel
theorem dX8_margin_32 : decode cX8_margin 32 = .ok (.iload_n 1, 1) := by decide +kernel
theorem dX8_margin_33 : decode cX8_margin 33 = .ok (.imul, 1) := by decide +kernel
theorem dX8_margin_34 : decode cX8_margin 34 = .ok (.iload_n 2, 1) := by decide +kernel
theorem dX8_margin_35 : decode cX8_margin 35 = .ok (.iadd, 1) := by decide +kernel
theorem dX8_margin_36 : decode cX8_margin 36 = .ok (.iaload, 1) := by decide +kernel
theorem dX8_margin_37 : decode cX8_margin 37 = .ok (.goto 6, 3) := by decide +kernel
theorem dX8_margin_40 : decode cX8_margin 40 = .ok (.sipush (-1000), 3) := by decide +kernel
theorem dX8_margin_43 : decode cX8_margin 43 = .ok (.ireturn, 1) := by decide +kernel
theorem dX8_hears_0 : decode cX8_hears 0 = .ok (.aload_n 0, 1) := by decide +kernel
theorem dX8_hears_1 : decode cX8_hears 1 = .ok (.iload_n 1, 1) := by decide +kernel
theorem dX8_hears_2 : decode cX8_hears 2 = .ok (.invokevirtual 142, 3) := by decide +kernel
theorem dX8_hears_5 : decode cX8_hears 5 = .ok (.ifCond .eq 11, 3) := by decide +kernel
theorem dX8_hears_8 : decode cX8_hears 8 = .ok (.aload_n 0, 1) := by decide +kernel
theorem dX8_hears_9 : decode cX8_hears 9 = .ok (.iload_n 2, 1) := by decide +kernel
theorem dX8_hears_10 : decode cX8_hears 10 = .ok (.invokevirtual 134, 3) := by decide +kernel
theorem dX8_hears_13 : decode cX8_hears 13 = .ok (.ifCond .ne 17, 3) := by decide +kernel
theorem dX8_hears_16 : decode cX8_hears 16 = .ok (.aload_n 0, 1) := by decide +kernel
theorem dX8_hears_17 : decode cX8_hears 17 = .ok (.getfield 7, 3) := by decide +kernel
theorem dX8_hears_20 : decode cX8_hears 20 = .ok (.iconst 0, 1) := by decide +kernel
theorem dX8_hears_21 : decode cX8_hears 21 = .ok (.dup2, 1) := by decide +kernel
theorem dX8_hears_22 : decode cX8_hears 22 = .ok (.iaload, 1) := by decide +kernel
theorem dX8_hears_23 : decode cX8_hears 23 = .ok (.iconst 1, 1) := by decide +kernel
theorem dX8_hears_24 : decode cX8_hears 24 = .ok (.iadd, 1) := by decide +kernel
theorem dX8_hears_25 : decode cX8_hears 25 = .ok (.iastore, 1) := by decide +kernel
theorem dX8_hears_26 : decode cX8_hears 26 = .ok (.sipush (-2000), 3) := by decide +kernel
theorem dX8_hears_29 : decode cX8_hears 29 = .ok (.ireturn, 1) := by decide +kernel
theorem dX8_hears_30 : decode cX8_hears 30 = .ok (.aload_n 0, 1) := by decide +kernel
theorem dX8_hears_31 : decode cX8_hears 31 = .ok (.iload_n 1, 1) := by decide +kernel
theorem dX8_hears_32 : decode cX8_hears 32 = .ok (.iload_n 2, 1) := by decide +kernel
theorem dX8_hears_33 : decode cX8_hears 33 = .ok (.invokevirtual 160, 3) := by decide +kernel
theorem dX8_hears_36 : decode cX8_hears 36 = .ok (.ireturn, 1) := by decide +kernel
theorem dX8_atBy_0 : decode cX8_atBy 0 = .ok (.iload_n 2, 1) := by decide +kernel
theorem dX8_atBy_1 : decode cX8_atBy 1 = .ok (.ifCond .ne 12, 3) := by decide +kernel
theorem dX8_atBy_4 : decode cX8_atBy 4 = .ok (.aload_n 0, 1) := by decide +kernel
theorem dX8_atBy_5 : decode cX8_atBy 5 = .ok (.getfield 32, 3) := by decide +kernel
theorem dX8_atBy_8 : decode cX8_atBy 8 = .ok (.iload_n 1, 1) := by decide +kernel
theorem dX8_atBy_9 : decode cX8_atBy 9 = .ok (.iaload, 1) := by decide +kernel
theorem dX8_atBy_10 : decode cX8_atBy 10 = .ok (.goto 44, 3) := by decide +kernel
theorem dX8_atBy_13 : decode cX8_atBy 13 = .ok (.iload_n 2, 1) := by decide +kernel
theorem dX8_atBy_14 : decode cX8_atBy 14 = .ok (.iconst 1, 1) := by decide +kernel
theorem dX8_atBy_15 : decode cX8_atBy 15 = .ok (.if_icmp .ne 12, 3) := by decide +kernel
theorem dX8_atBy_18 : decode cX8_atBy 18 = .ok (.aload_n 0, 1) := by decide +kernel
theorem dX8_atBy_19 : decode cX8_atBy 19 = .ok (.getfield 35, 3) := by decide +kernel
theorem dX8_atBy_22 : decode cX8_atBy 22 = .ok (.iload_n 1, 1) := by decide +kernel
theorem dX8_atBy_23 : decode cX8_atBy 23 = .ok (.iaload, 1) := by decide +kernel
theorem dX8_atBy_24 : decode cX8_atBy 24 = .ok (.goto 30, 3) := by decide +kernel
theorem dX8_atBy_27 : decode cX8_atBy 27 = .ok (.iload_n 2, 1) := by decide +kernel
theorem dX8_atBy_28 : decode cX8_atBy 28 = .ok (.iconst 2, 1) := by decide +kernel
theorem dX8_atBy_29 : decode cX8_atBy 29 = .ok (.if_icmp .ne 19, 3) := by decide +kernel
theorem dX8_atBy_32 : decode cX8_atBy 32 = .ok (.aload_n 0, 1) := by decide +kernel
theorem dX8_atBy_33 : decode cX8_atBy 33 = .ok (.getfield 26, 3) := by decide +kernel
theorem dX8_atBy_36 : decode cX8_atBy 36 = .ok (.iload_n 1, 1) := by decide +kernel
theorem dX8_atBy_37 : decode cX8_atBy 37 = .ok (.iaload, 1) := by decide +kernel
theorem dX8_atBy_38 : decode cX8_atBy 38 = .ok (.aload_n 0, 1) := by decide +kernel
theorem dX8_atBy_39 : decode cX8_atBy 39 = .ok (.getfield 29, 3) := by decide +kernel
theorem dX8_atBy_42 : decode cX8_atBy 42 = .ok (.iload_n 1, 1) := by decide +kernel
theorem dX8_atBy_43 : decode cX8_atBy 43 = .ok (.iaload, 1) := by decide +kernel
theorem dX8_atBy_44 : decode cX8_atBy 44 = .ok (.isub, 1) := by decide +kernel
theorem dX8_atBy_45 : decode cX8_atBy 45 = .ok (.goto 9, 3) := by decide +kernel
theorem dX8_atBy_48 : decode cX8_atBy 48 = .ok (.aload_n 0, 1) := by decide +kernel
theorem dX8_atBy_49 : decode cX8_atBy 49 = .ok (.getfield 38, 3) := by decide +kernel
theorem dX8_atBy_52 : decode cX8_atBy 52 = .ok (.iload_n 1, 1) := by decide +kernel
theorem dX8_atBy_53 : decode cX8_atBy 53 = .ok (.iaload, 1) := by decide +kernel
theorem dX8_atBy_54 : decode cX8_atBy 54 = .ok (.ireturn, 1) := by decide +kernel
theorem dX8_at_0 : decode cX8_at 0 = .ok (.aload_n 0, 1) := by decide +kernel
theorem dX8_at_1 : decode cX8_at 1 = .ok (.iload_n 1, 1) := by decide +kernel
theorem dX8_at_2 : decode cX8_at 2 = .ok (.invokevirtual 134, 3) := by decide +kernel
theorem dX8_at_5 : decode cX8_at 5 = .ok (.ifCond .eq 21, 3) := by decide +kernel
theorem dX8_at_8 : decode cX8_at 8 = .ok (.iload_n 2, 1) := by decide +kernel
theorem dX8_at_9 : decode cX8_at 9 = .ok (.iconst 0, 1) := by decide +kernel
theorem dX8_at_10 : decode cX8_at 10 = .ok (.iconst 3, 1) := by decide +kernel
theorem dX8_at_11 : decode cX8_at 11 = .ok (.invokestatic 110, 3) := by decide +kernel
theorem dX8_at_14 : decode cX8_at 14 = .ok (.ifCond .eq 12, 3) := by decide +kernel
theorem dX8_at_17 : decode cX8_at 17 = .ok (.aload_n 0, 1) := by decide +kernel
theorem dX8_at_18 : decode cX8_at 18 = .ok (.iload_n 1, 1) := by decide +kernel
theorem dX8_at_19 : decode cX8_at 19 = .ok (.iload_n 2, 1) := by decide +kernel
theorem dX8_at_20 : decode cX8_at 20 = .ok (.invokevirtual 237, 3) := by decide +kernel
theorem dX8_at_23 : decode cX8_at 23 = .ok (.goto 7, 3) := by decide +kernel
theorem dX8_at_26 : decode cX8_at 26 = .ok (.aload_n 0, 1) := by decide +kernel
theorem dX8_at_27 : decode cX8_at 27 = .ok (.invokevirtual 127, 3) := by decide +kernel
theorem dX8_at_30 : decode cX8_at 30 = .ok (.ireturn, 1) := by decide +kernel
theorem dX8_allBy_0 : decode cX8_allBy 0 = .ok (.iload_n 1, 1) := by decide +kernel
theorem dX8_allBy_1 : decode cX8_allBy 1 = .ok (.ifCond .ne 10, 3) := by decide +kernel
theorem dX8_allBy_4 : decode cX8_allBy 4 = .ok (.aload_n 0, 1) := by decide +kernel
theorem dX8_allBy_5 : decode cX8_allBy 5 = .ok (.getfield 117, 3) := by decide +kernel
theorem dX8_allBy_8 : decode cX8_allBy 8 = .ok (.goto 36, 3) := by decide +kernel
theorem dX8_allBy_11 : decode cX8_allBy 11 = .ok (.iload_n 1, 1) := by decide +kernel
theorem dX8_allBy_12 : decode cX8_allBy 12 = .ok (.iconst 1, 1) := by decide +kernel
theorem dX8_allBy_13 : decode cX8_allBy 13 = .ok (.if_icmp .ne 10, 3) := by decide +kernel
theorem dX8_allBy_16 : decode cX8_allBy 16 = .ok (.aload_n 0, 1) := by decide +kernel
theorem dX8_allBy_17 : decode cX8_allBy 17 = .ok (.getfield 120, 3) := by decide +kernel
theorem dX8_allBy_20 : decode cX8_allBy 20 = .ok (.goto 24, 3) := by decide +kernel
theorem dX8_allBy_23 : decode cX8_allBy 23 = .ok (.iload_n 1, 1) := by decide +kernel
theorem dX8_allBy_24 : decode cX8_allBy 24 = .ok (.bipush 8, 2) := by decide +kernel
theorem dX8_allBy_26 : decode cX8_allBy 26 = .ok (.if_icmp .ne 10, 3) := by decide +kernel
theorem dX8_allBy_29 : decode cX8_allBy 29 = .ok (.aload_n 0, 1) := by decide +kernel
theorem dX8_allBy_30 : decode cX8_allBy 30 = .ok (.getfield 114, 3) := by decide +kernel
theorem dX8_allBy_33 : decode cX8_allBy 33 = .ok (.goto 11, 3) := by decide +kernel
theorem dX8_allBy_36 : decode cX8_allBy 36 = .ok (.aload_n 0, 1) := by decide +kernel
theorem dX8_allBy_37 : decode cX8_allBy 37 = .ok (.getfield 104, 3) := by decide +kernel
theorem dX8_allBy_40 : decode cX8_allBy 40 = .ok (.iload_n 1, 1) := by decide +kernel
theorem dX8_allBy_41 : decode cX8_allBy 41 = .ok (.iconst 2, 1) := by decide +kernel
theorem dX8_allBy_42 : decode cX8_allBy 42 = .ok (.isub, 1) := by decide +kernel
theorem dX8_allBy_43 : decode cX8_allBy 43 = .ok (.iaload, 1) := by decide +kernel
theorem dX8_allBy_44 : decode cX8_allBy 44 = .ok (.ireturn, 1) := by decide +kernel
theorem dX8_all_0 : decode cX8_all 0 = .ok (.iload_n 1, 1) := by decide +kernel
theorem dX8_all_1 : decode cX8_all 1 = .ok (.iconst 0, 1) := by decide +kernel
theorem dX8_all_2 : decode cX8_all 2 = .ok (.bipush 8, 2) := by decide +kernel
theorem dX8_all_4 : decode cX8_all 4 = .ok (.invokestatic 110, 3) := by decide +kernel
theorem dX8_all_7 : decode cX8_all 7 = .ok (.ifCond .eq 11, 3) := by decide +kernel
theorem dX8_all_10 : decode cX8_all 10 = .ok (.aload_n 0, 1) := by decide +kernel
theorem dX8_all_11 : decode cX8_all 11 = .ok (.iload_n 1, 1) := by decide +kernel
theorem dX8_all_12 : decode cX8_all 12 = .ok (.invokevirtual 240, 3) := by decide +kernel
theorem dX8_all_15 : decode cX8_all 15 = .ok (.goto 7, 3) := by decide +kernel
theorem dX8_all_18 : decode cX8_all 18 = .ok (.aload_n 0, 1) := by decide +kernel
theorem dX8_all_19 : decode cX8_all 19 = .ok (.invokevirtual 127, 3) := by decide +kernel
theorem dX8_all_22 : decode cX8_all 22 = .ok (.ireturn, 1) := by decide +kernel
theorem dX8_window_0 : decode cX8_window 0 = .ok (.iload_n 1, 1) := by decide +kernel
theorem dX8_window_1 : decode cX8_window 1 = .ok (.ifCond .lt 12, 3) := by decide +kernel
theorem dX8_window_4 : decode cX8_window 4 = .ok (.iload_n 2, 1) := by decide +kernel
theorem dX8_window_5 : decode cX8_window 5 = .ok (.iconst 0, 1) := by decide +kernel
theorem dX8_window_6 : decode cX8_window 6 = .ok (.iconst 3, 1) := by decide +kernel
theorem dX8_window_7 : decode cX8_window 7 = .ok (.invokestatic 110, 3) := by decide +kernel
theorem dX8_window_10 : decode cX8_window 10 = .ok (.ifCond .ne 8, 3) := by decide +kernel
theorem dX8_window_13 : decode cX8_window 13 = .ok (.aload_n 0, 1) := by decide +kernel
theorem dX8_window_14 : decode cX8_window 14 = .ok (.invokevirtual 127, 3) := by decide +kernel
theorem dX8_window_17 : decode cX8_window 17 = .ok (.ireturn, 1) := by decide +kernel
theorem dX8_window_18 : decode cX8_window 18 = .ok (.iload_n 1, 1) := by decide +kernel
theorem dX8_window_19 : decode cX8_window 19 = .ok (.aload_n 0, 1) := by decide +kernel
theorem dX8_window_20 : decode cX8_window 20 = .ok (.getfield 120, 3) := by decide +kernel
theorem dX8_window_23 : decode cX8_window 23 = .ok (.if_icmp .lt 5, 3) := by decide +kernel
theorem dX8_window_26 : decode cX8_window 26 = .ok (.iconst (-1), 1) := by decide +kernel
theorem dX8_window_27 : decode cX8_window 27 = .ok (.ireturn, 1) := by decide +kernel
theorem dX8_window_28 : decode cX8_window 28 = .ok (.iload_n 2, 1) := by decide +kernel
theorem dX8_window_29 : decode cX8_window 29 = .ok (.ifCond .ne 12, 3) := by decide +kernel
theorem dX8_window_32 : decode cX8_window 32 = .ok (.aload_n 0, 1) := by decide +kernel
theorem dX8_window_33 : decode cX8_window 33 = .ok (.getfield 89, 3) := by decide +kernel
theorem dX8_window_36 : decode cX8_window 36 = .ok (.iload_n 1, 1) := by decide +kernel
theorem dX8_window_37 : decode cX8_window 37 = .ok (.iaload, 1) := by decide +kernel
theorem dX8_window_38 : decode cX8_window 38 = .ok (.goto 47, 3) := by decide +kernel
theorem dX8_window_41 : decode cX8_window 41 = .ok (.iload_n 2, 1) := by decide +kernel
theorem dX8_window_42 : decode cX8_window 42 = .ok (.iconst 1, 1) := by decide +kernel
theorem dX8_window_43 : decode cX8_window 43 = .ok (.if_icmp .ne 12, 3) := by decide +kernel
theorem dX8_window_46 : decode cX8_window 46 = .ok (.aload_n 0, 1) := by decide +kernel
theorem dX8_window_47 : decode cX8_window 47 = .ok (.getfield 92, 3) := by decide +kernel
theorem dX8_window_50 : decode cX8_window 50 = .ok (.iload_n 1, 1) := by decide +kernel
theorem dX8_window_51 : decode cX8_window 51 = .ok (.iaload, 1) := by decide +kernel
theorem dX8_window_52 : decode cX8_window 52 = .ok (.goto 33, 3) := by decide +kernel
theorem dX8_window_55 : decode cX8_window 55 = .ok (.iload_n 2, 1) := by decide +kernel
theorem dX8_window_56 : decode cX8_window 56 = .ok (.iconst 2, 1) := by decide +kernel
theorem dX8_window_57 : decode cX8_window 57 = .ok (.if_icmp .ne 12, 3) := by decide +kernel
theorem dX8_window_60 : decode cX8_window 60 = .ok (.aload_n 0, 1) := by decide +kernel
theorem dX8_window_61 : decode cX8_window 61 = .ok (.getfield 98, 3) := by decide +kernel
theorem dX8_window_64 : decode cX8_window 64 = .ok (.iload_n 1, 1) := by decide +kernel
theorem dX8_window_65 : decode cX8_window 65 = .ok (.iaload, 1) := by decide +kernel
theorem dX8_window_66 : decode cX8_window 66 = .ok (.goto 19, 3) := by decide +kernel
theorem dX8_window_69 : decode cX8_window 69 = .ok (.aload_n 0, 1) := by decide +kernel
theorem dX8_window_70 : decode cX8_window 70 = .ok (.getfield 95, 3) := by decide +kernel
theorem dX8_window_73 : decode cX8_window 73 = .ok (.iload_n 1, 1) := by decide +kernel
theorem dX8_window_74 : decode cX8_window 74 = .ok (.iaload, 1) := by decide +kernel
theorem dX8_window_75 : decode cX8_window 75 = .ok (.aload_n 0, 1) := by decide +kernel
theorem dX8_window_76 : decode cX8_window 76 = .ok (.getfield 20, 3) := by decide +kernel
theorem dX8_window_79 : decode cX8_window 79 = .ok (.iadd, 1) := by decide +kernel
theorem dX8_window_80 : decode cX8_window 80 = .ok (.aload_n 0, 1) := by decide +kernel
theorem dX8_window_81 : decode cX8_window 81 = .ok (.getfield 114, 3) := by decide +kernel
theorem dX8_window_84 : decode cX8_window 84 = .ok (.isub, 1) := by decide +kernel
theorem dX8_window_85 : decode cX8_window 85 = .ok (.ireturn, 1) := by decide +kernel
theorem dX8_copy_0 : decode cX8_copy 0 = .ok (.iload_n 1, 1) := by decide +kernel
theorem dX8_copy_1 : decode cX8_copy 1 = .ok (.ifCond .lt 12, 3) := by decide +kernel
theorem dX8_copy_4 : decode cX8_copy 4 = .ok (.iload_n 2, 1) := by decide +kernel
theorem dX8_copy_5 : decode cX8_copy 5 = .ok (.iconst 0, 1) := by decide +kernel
theorem dX8_copy_6 : decode cX8_copy 6 = .ok (.iconst 2, 1) := by decide +kernel
theorem dX8_copy_7 : decode cX8_copy 7 = .ok (.invokestatic 110, 3) := by decide +kernel
theorem dX8_copy_10 : decode cX8_copy 10 = .ok (.ifCond .ne 8, 3) := by decide +kernel
theorem dX8_copy_13 : decode cX8_copy 13 = .ok (.aload_n 0, 1) := by decide +kernel
theorem dX8_copy_14 : decode cX8_copy 14 = .ok (.invokevirtual 127, 3) := by decide +kernel
theorem dX8_copy_17 : decode cX8_copy 17 = .ok (.ireturn, 1) := by decide +kernel
theorem dX8_copy_18 : decode cX8_copy 18 = .ok (.iload_n 1, 1) := by decide +kernel
theorem dX8_copy_19 : decode cX8_copy 19 = .ok (.aload_n 0, 1) := by decide +kernel
theorem dX8_copy_20 : decode cX8_copy 20 = .ok (.getfield 117, 3) := by decide +kernel
theorem dX8_copy_23 : decode cX8_copy 23 = .ok (.if_icmp .lt 5, 3) := by decide +kernel
theorem dX8_copy_26 : decode cX8_copy 26 = .ok (.iconst (-1), 1) := by decide +kernel
theorem dX8_copy_27 : decode cX8_copy 27 = .ok (.ireturn, 1) := by decide +kernel
theorem dX8_copy_28 : decode cX8_copy 28 = .ok (.iload_n 2, 1) := by decide +kernel
theorem dX8_copy_29 : decode cX8_copy 29 = .ok (.ifCond .ne 12, 3) := by decide +kernel
theorem dX8_copy_32 : decode cX8_copy 32 = .ok (.aload_n 0, 1) := by decide +kernel
theorem dX8_copy_33 : decode cX8_copy 33 = .ok (.getfield 74, 3) := by decide +kernel
theorem dX8_copy_36 : decode cX8_copy 36 = .ok (.iload_n 1, 1) := by decide +kernel
theorem dX8_copy_37 : decode cX8_copy 37 = .ok (.iaload, 1) := by decide +kernel
theorem dX8_copy_38 : decode cX8_copy 38 = .ok (.goto 28, 3) := by decide +kernel
theorem dX8_copy_41 : decode cX8_copy 41 = .ok (.iload_n 2, 1) := by decide +kernel
theorem dX8_copy_42 : decode cX8_copy 42 = .ok (.iconst 1, 1) := by decide +kernel
theorem dX8_copy_43 : decode cX8_copy 43 = .ok (.if_icmp .ne 12, 3) := by decide +kernel
theorem dX8_copy_46 : decode cX8_copy 46 = .ok (.aload_n 0, 1) := by decide +kernel
theorem dX8_copy_47 : decode cX8_copy 47 = .ok (.getfield 77, 3) := by decide +kernel
theorem dX8_copy_50 : decode cX8_copy 50 = .ok (.iload_n 1, 1) := by decide +kernel
theorem dX8_copy_51 : decode cX8_copy 51 = .ok (.iaload, 1) := by decide +kernel
theorem dX8_copy_52 : decode cX8_copy 52 = .ok (.goto 14, 3) := by decide +kernel
theorem dX8_copy_55 : decode cX8_copy 55 = .ok (.aload_n 0, 1) := by decide +kernel
theorem dX8_copy_56 : decode cX8_copy 56 = .ok (.getfield 86, 3) := by decide +kernel
theorem dX8_copy_59 : decode cX8_copy 59 = .ok (.iload_n 1, 1) := by decide +kernel
theorem dX8_copy_60 : decode cX8_copy 60 = .ok (.iaload, 1) := by decide +kernel
theorem dX8_copy_61 : decode cX8_copy 61 = .ok (.aload_n 0, 1) := by decide +kernel
theorem dX8_copy_62 : decode cX8_copy 62 = .ok (.getfield 114, 3) := by decide +kernel
theorem dX8_copy_65 : decode cX8_copy 65 = .ok (.isub, 1) := by decide +kernel
theorem dX8_copy_66 : decode cX8_copy 66 = .ok (.ireturn, 1) := by decide +kernel
theorem dX8_type_0 : decode cX8_type 0 = .ok (.iload_n 1, 1) := by decide +kernel
theorem dX8_type_1 : decode cX8_type 1 = .ok (.iconst 0, 1) := by decide +kernel
theorem dX8_type_2 : decode cX8_type 2 = .ok (.bipush 127, 2) := by decide +kernel
theorem dX8_type_4 : decode cX8_type 4 = .ok (.invokestatic 110, 3) := by decide +kernel
theorem dX8_type_7 : decode cX8_type 7 = .ok (.ifCond .ne 8, 3) := by decide +kernel
theorem dX8_type_10 : decode cX8_type 10 = .ok (.aload_n 0, 1) := by decide +kernel
theorem dX8_type_11 : decode cX8_type 11 = .ok (.invokevirtual 127, 3) := by decide +kernel
theorem dX8_type_14 : decode cX8_type 14 = .ok (.ireturn, 1) := by decide +kernel
theorem dX8_type_15 : decode cX8_type 15 = .ok (.aload_n 0, 1) := by decide +kernel
theorem dX8_type_16 : decode cX8_type 16 = .ok (.getfield 243, 3) := by decide +kernel
theorem dX8_type_19 : decode cX8_type 19 = .ok (.bipush 120, 2) := by decide +kernel
theorem dX8_type_21 : decode cX8_type 21 = .ok (.if_icmp .ne 8, 3) := by decide +kernel
theorem dX8_type_24 : decode cX8_type 24 = .ok (.aload_n 0, 1) := by decide +kernel
theorem dX8_type_25 : decode cX8_type 25 = .ok (.invokevirtual 174, 3) := by decide +kernel
theorem dX8_type_28 : decode cX8_type 28 = .ok (.ireturn, 1) := by decide +kernel
theorem dX8_type_29 : decode cX8_type 29 = .ok (.aload_n 0, 1) := by decide +kernel
theorem dX8_type_30 : decode cX8_type 30 = .ok (.getfield 107, 3) := by decide +kernel
theorem dX8_type_33 : decode cX8_type 33 = .ok (.aload_n 0, 1) := by decide +kernel
theorem dX8_type_34 : decode cX8_type 34 = .ok (.getfield 243, 3) := by decide +kernel
theorem dX8_type_37 : decode cX8_type 37 = .ok (.iload_n 1, 1) := by decide +kernel
theorem dX8_type_38 : decode cX8_type 38 = .ok (.iastore, 1) := by decide +kernel
theorem dX8_type_39 : decode cX8_type 39 = .ok (.aload_n 0, 1) := by decide +kernel
theorem dX8_type_40 : decode cX8_type 40 = .ok (.dup, 1) := by decide +kernel
theorem dX8_type_41 : decode cX8_type 41 = .ok (.getfield 243, 3) := by decide +kernel
theorem dX8_type_44 : decode cX8_type 44 = .ok (.iconst 1, 1) := by decide +kernel
theorem dX8_type_45 : decode cX8_type 45 = .ok (.iadd, 1) := by decide +kernel
theorem dX8_type_46 : decode cX8_type 46 = .ok (.putfield 243, 3) := by decide +kernel
theorem dX8_type_49 : decode cX8_type 49 = .ok (.aload_n 0, 1) := by decide +kernel
theorem dX8_type_50 : decode cX8_type 50 = .ok (.getfield 243, 3) := by decide +kernel
theorem dX8_type_53 : decode cX8_type 53 = .ok (.ireturn, 1) := by decide +kernel
theorem dX8_clear_0 : decode cX8_clear 0 = .ok (.aload_n 0, 1) := by decide +kernel
theorem dX8_clear_1 : decode cX8_clear 1 = .ok (.getfield 243, 3) := by decide +kernel
theorem dX8_clear_4 : decode cX8_clear 4 = .ok (.istore_n 1, 1) := by decide +kernel
theorem dX8_clear_5 : decode cX8_clear 5 = .ok (.aload_n 0, 1) := by decide +kernel
theorem dX8_clear_6 : decode cX8_clear 6 = .ok (.iconst 0, 1) := by decide +kernel
theorem dX8_clear_7 : decode cX8_clear 7 = .ok (.putfield 243, 3) := by decide +kernel
theorem dX8_clear_10 : decode cX8_clear 10 = .ok (.iload_n 1, 1) := by decide +kernel
theorem dX8_clear_11 : decode cX8_clear 11 = .ok (.ireturn, 1) := by decide +kernel
theorem dX8_here_0 : decode cX8_here 0 = .ok (.aload_n 0, 1) := by decide +kernel
theorem dX8_here_1 : decode cX8_here 1 = .ok (.getfield 246, 3) := by decide +kernel
theorem dX8_here_4 : decode cX8_here 4 = .ok (.aload_n 0, 1) := by decide +kernel
theorem dX8_here_5 : decode cX8_here 5 = .ok (.getfield 243, 3) := by decide +kernel
theorem dX8_here_8 : decode cX8_here 8 = .ok (.if_icmp .ge 30, 3) := by decide +kernel
theorem dX8_here_11 : decode cX8_here 11 = .ok (.aload_n 0, 1) := by decide +kernel
theorem dX8_here_12 : decode cX8_here 12 = .ok (.getfield 107, 3) := by decide +kernel
theorem dX8_here_15 : decode cX8_here 15 = .ok (.aload_n 0, 1) := by decide +kernel
theorem dX8_here_16 : decode cX8_here 16 = .ok (.getfield 246, 3) := by decide +kernel
theorem dX8_here_19 : decode cX8_here 19 = .ok (.iaload, 1) := by decide +kernel
theorem dX8_here_20 : decode cX8_here 20 = .ok (.bipush 32, 2) := by decide +kernel
theorem dX8_here_22 : decode cX8_here 22 = .ok (.if_icmp .ne 16, 3) := by decide +kernel
theorem dX8_here_25 : decode cX8_here 25 = .ok (.aload_n 0, 1) := by decide +kernel
theorem dX8_here_26 : decode cX8_here 26 = .ok (.dup, 1) := by decide +kernel
theorem dX8_here_27 : decode cX8_here 27 = .ok (.getfield 246, 3) := by decide +kernel
theorem dX8_here_30 : decode cX8_here 30 = .ok (.iconst 1, 1) := by decide +kernel
theorem dX8_here_31 : decode cX8_here 31 = .ok (.iadd, 1) := by decide +kernel
theorem dX8_here_32 : decode cX8_here 32 = .ok (.putfield 246, 3) := by decide +kernel
theorem dX8_here_35 : decode cX8_here 35 = .ok (.goto (-35), 3) := by decide +kernel
theorem dX8_here_38 : decode cX8_here 38 = .ok (.aload_n 0, 1) := by decide +kernel
theorem dX8_here_39 : decode cX8_here 39 = .ok (.getfield 246, 3) := by decide +kernel
theorem dX8_here_42 : decode cX8_here 42 = .ok (.aload_n 0, 1) := by decide +kernel
theorem dX8_here_43 : decode cX8_here 43 = .ok (.getfield 243, 3) := by decide +kernel
theorem dX8_here_46 : decode cX8_here 46 = .ok (.if_icmp .ge 15, 3) := by decide +kernel
theorem dX8_here_49 : decode cX8_here 49 = .ok (.aload_n 0, 1) := by decide +kernel
theorem dX8_here_50 : decode cX8_here 50 = .ok (.getfield 107, 3) := by decide +kernel
theorem dX8_here_53 : decode cX8_here 53 = .ok (.aload_n 0, 1) := by decide +kernel
theorem dX8_here_54 : decode cX8_here 54 = .ok (.getfield 246, 3) := by decide +kernel
theorem dX8_here_57 : decode cX8_here 57 = .ok (.iaload, 1) := by decide +kernel
theorem dX8_here_58 : decode cX8_here 58 = .ok (.goto 4, 3) := by decide +kernel
theorem dX8_here_61 : decode cX8_here 61 = .ok (.iconst (-1), 1) := by decide +kernel
theorem dX8_here_62 : decode cX8_here 62 = .ok (.ireturn, 1) := by decide +kernel
theorem dX8_readsOne_0 : decode cX8_readsOne 0 = .ok (.aload_n 0, 1) := by decide +kernel
theorem dX8_readsOne_1 : decode cX8_readsOne 1 = .ok (.invokevirtual 249, 3) := by decide +kernel
theorem dX8_readsOne_4 : decode cX8_readsOne 4 = .ok (.bipush 48, 2) := by decide +kernel
theorem dX8_readsOne_6 : decode cX8_readsOne 6 = .ok (.isub, 1) := by decide +kernel
theorem dX8_readsOne_7 : decode cX8_readsOne 7 = .ok (.istore_n 2, 1) := by decide +kernel
theorem dX8_readsOne_8 : decode cX8_readsOne 8 = .ok (.iload_n 2, 1) := by decide +kernel
theorem dX8_readsOne_9 : decode cX8_readsOne 9 = .ok (.iconst 0, 1) := by decide +kernel
theorem dX8_readsOne_10 : decode cX8_readsOne 10 = .ok (.bipush 9, 2) := by decide +kernel
theorem dX8_readsOne_12 : decode cX8_readsOne 12 = .ok (.invokestatic 110, 3) := by decide +kernel
theorem dX8_readsOne_15 : decode cX8_readsOne 15 = .ok (.ifCond .eq 8, 3) := by decide +kernel
theorem dX8_readsOne_18 : decode cX8_readsOne 18 = .ok (.iload_n 2, 1) := by decide +kernel
theorem dX8_readsOne_19 : decode cX8_readsOne 19 = .ok (.iload_n 1, 1) := by decide +kernel
theorem dX8_readsOne_20 : decode cX8_readsOne 20 = .ok (.if_icmp .lt 5, 3) := by decide +kernel
theorem dX8_readsOne_23 : decode cX8_readsOne 23 = .ok (.iconst 0, 1) := by decide +kernel
theorem dX8_readsOne_24 : decode cX8_readsOne 24 = .ok (.ireturn, 1) := by decide +kernel
theorem dX8_readsOne_25 : decode cX8_readsOne 25 = .ok (.aload_n 0, 1) := by decide +kernel
theorem dX8_readsOne_26 : decode cX8_readsOne 26 = .ok (.dup, 1) := by decide +kernel
theorem dX8_readsOne_27 : decode cX8_readsOne 27 = .ok (.getfield 246, 3) := by decide +kernel
theorem dX8_readsOne_30 : decode cX8_readsOne 30 = .ok (.iconst 1, 1) := by decide +kernel
theorem dX8_readsOne_31 : decode cX8_readsOne 31 = .ok (.iadd, 1) := by decide +kernel
theorem dX8_readsOne_32 : decode cX8_readsOne 32 = .ok (.putfield 246, 3) := by decide +kernel
theorem dX8_readsOne_35 : decode cX8_readsOne 35 = .ok (.aload_n 0, 1) := by decide +kernel
theorem dX8_readsOne_36 : decode cX8_readsOne 36 = .ok (.iload_n 2, 1) := by decide +kernel
theorem dX8_readsOne_37 : decode cX8_readsOne 37 = .ok (.putfield 252, 3) := by decide +kernel
theorem dX8_readsOne_40 : decode cX8_readsOne 40 = .ok (.iconst 1, 1) := by decide +kernel
theorem dX8_readsOne_41 : decode cX8_readsOne 41 = .ok (.ireturn, 1) := by decide +kernel
theorem dX8_readsNumber_0 : decode cX8_readsNumber 0 = .ok (.aload_n 0, 1) := by decide +kernel
theorem dX8_readsNumber_1 : decode cX8_readsNumber 1 = .ok (.invokevirtual 249, 3) := by decide +kernel
theorem dX8_readsNumber_4 : decode cX8_readsNumber 4 = .ok (.bipush 48, 2) := by decide +kernel
theorem dX8_readsNumber_6 : decode cX8_readsNumber 6 = .ok (.bipush 57, 2) := by decide +kernel
theorem dX8_readsNumber_8 : decode cX8_readsNumber 8 = .ok (.invokestatic 110, 3) := by decide +kernel
theorem dX8_readsNumber_11 : decode cX8_readsNumber 11 = .ok (.ifCond .ne 5, 3) := by decide +kernel
theorem dX8_readsNumber_14 : decode cX8_readsNumber 14 = .ok (.iconst 0, 1) := by decide +kernel
theorem dX8_readsNumber_15 : decode cX8_readsNumber 15 = .ok (.ireturn, 1) := by decide +kernel
theorem dX8_readsNumber_16 : decode cX8_readsNumber 16 = .ok (.aload_n 0, 1) := by decide +kernel
theorem dX8_readsNumber_17 : decode cX8_readsNumber 17 = .ok (.getfield 246, 3) := by decide +kernel
theorem dX8_readsNumber_20 : decode cX8_readsNumber 20 = .ok (.istore_n 2, 1) := by decide +kernel
theorem dX8_readsNumber_21 : decode cX8_readsNumber 21 = .ok (.iconst 0, 1) := by decide +kernel
theorem dX8_readsNumber_22 : decode cX8_readsNumber 22 = .ok (.istore_n 3, 1) := by decide +kernel
theorem dX8_readsNumber_23 : decode cX8_readsNumber 23 = .ok (.aload_n 0, 1) := by decide +kernel
theorem dX8_readsNumber_24 : decode cX8_readsNumber 24 = .ok (.iconst 0, 1) := by decide +kernel
theorem dX8_readsNumber_25 : decode cX8_readsNumber 25 = .ok (.putfield 252, 3) := by decide +kernel
theorem dX8_readsNumber_28 : decode cX8_readsNumber 28 = .ok (.aload_n 0, 1) := by decide +kernel
theorem dX8_readsNumber_29 : decode cX8_readsNumber 29 = .ok (.getfield 246, 3) := by decide +kernel
theorem dX8_readsNumber_32 : decode cX8_readsNumber 32 = .ok (.aload_n 0, 1) := by decide +kernel
theorem dX8_readsNumber_33 : decode cX8_readsNumber 33 = .ok (.getfield 243, 3) := by decide +kernel
theorem dX8_readsNumber_36 : decode cX8_readsNumber 36 = .ok (.if_icmp .ge 74, 3) := by decide +kernel
theorem dX8_readsNumber_39 : decode cX8_readsNumber 39 = .ok (.aload_n 0, 1) := by decide +kernel
theorem dX8_readsNumber_40 : decode cX8_readsNumber 40 = .ok (.getfield 107, 3) := by decide +kernel
theorem dX8_readsNumber_43 : decode cX8_readsNumber 43 = .ok (.aload_n 0, 1) := by decide +kernel
theorem dX8_readsNumber_44 : decode cX8_readsNumber 44 = .ok (.getfield 246, 3) := by decide +kernel
theorem dX8_readsNumber_47 : decode cX8_readsNumber 47 = .ok (.iaload, 1) := by decide +kernel
theorem dX8_readsNumber_48 : decode cX8_readsNumber 48 = .ok (.bipush 48, 2) := by decide +kernel
theorem dX8_readsNumber_50 : decode cX8_readsNumber 50 = .ok (.bipush 57, 2) := by decide +kernel
theorem dX8_readsNumber_52 : decode cX8_readsNumber 52 = .ok (.invokestatic 110, 3) := by decide +kernel
theorem dX8_readsNumber_55 : decode cX8_readsNumber 55 = .ok (.ifCond .eq 55, 3) := by decide +kernel
theorem dX8_readsNumber_58 : decode cX8_readsNumber 58 = .ok (.aload_n 0, 1) := by decide +kernel
theorem dX8_readsNumber_59 : decode cX8_readsNumber 59 = .ok (.iload_n 3, 1) := by decide +kernel
theorem dX8_readsNumber_60 : decode cX8_readsNumber 60 = .ok (.iconst 2, 1) := by decide +kernel
theorem dX8_readsNumber_61 : decode cX8_readsNumber 61 = .ok (.if_icmp .ge 26, 3) := by decide +kernel
theorem dX8_readsNumber_64 : decode cX8_readsNumber 64 = .ok (.bipush 10, 2) := by decide +kernel
theorem dX8_readsNumber_66 : decode cX8_readsNumber 66 = .ok (.aload_n 0, 1) := by decide +kernel
theorem dX8_readsNumber_67 : decode cX8_readsNumber 67 = .ok (.getfield 252, 3) := by decide +kernel
theorem dX8_readsNumber_70 : decode cX8_readsNumber 70 = .ok (.imul, 1) := by decide +kernel
theorem dX8_readsNumber_71 : decode cX8_readsNumber 71 = .ok (.aload_n 0, 1) := by decide +kernel
theorem dX8_readsNumber_72 : decode cX8_readsNumber 72 = .ok (.getfield 107, 3) := by decide +kernel
theorem dX8_readsNumber_75 : decode cX8_readsNumber 75 = .ok (.aload_n 0, 1) := by decide +kernel
theorem dX8_readsNumber_76 : decode cX8_readsNumber 76 = .ok (.getfield 246, 3) := by decide +kernel
theorem dX8_readsNumber_79 : decode cX8_readsNumber 79 = .ok (.iaload, 1) := by decide +kernel
theorem dX8_readsNumber_80 : decode cX8_readsNumber 80 = .ok (.iadd, 1) := by decide +kernel
theorem dX8_readsNumber_81 : decode cX8_readsNumber 81 = .ok (.bipush 48, 2) := by decide +kernel
theorem dX8_readsNumber_83 : decode cX8_readsNumber 83 = .ok (.isub, 1) := by decide +kernel
theorem dX8_readsNumber_84 : decode cX8_readsNumber 84 = .ok (.goto 7, 3) := by decide +kernel
theorem dX8_readsNumber_87 : decode cX8_readsNumber 87 = .ok (.aload_n 0, 1) := by decide +kernel
theorem dX8_readsNumber_88 : decode cX8_readsNumber 88 = .ok (.getfield 252, 3) := by decide +kernel
theorem dX8_readsNumber_91 : decode cX8_readsNumber 91 = .ok (.putfield 252, 3) := by decide +kernel
theorem dX8_readsNumber_94 : decode cX8_readsNumber 94 = .ok (.iinc 3 1, 3) := by decide +kernel
theorem dX8_readsNumber_97 : decode cX8_readsNumber 97 = .ok (.aload_n 0, 1) := by decide +kernel
theorem dX8_readsNumber_98 : decode cX8_readsNumber 98 = .ok (.dup, 1) := by decide +kernel
theorem dX8_readsNumber_99 : decode cX8_readsNumber 99 = .ok (.getfield 246, 3) := by decide +kernel
theorem dX8_readsNumber_102 : decode cX8_readsNumber 102 = .ok (.iconst 1, 1) := by decide +kernel
theorem dX8_readsNumber_103 : decode cX8_readsNumber 103 = .ok (.iadd, 1) := by decide +kernel
theorem dX8_readsNumber_104 : decode cX8_readsNumber 104 = .ok (.putfield 246, 3) := by decide +kernel
theorem dX8_readsNumber_107 : decode cX8_readsNumber 107 = .ok (.goto (-79), 3) := by decide +kernel
theorem dX8_readsNumber_110 : decode cX8_readsNumber 110 = .ok (.iload_n 3, 1) := by decide +kernel
theorem dX8_readsNumber_111 : decode cX8_readsNumber 111 = .ok (.iconst 2, 1) := by decide +kernel
theorem dX8_readsNumber_112 : decode cX8_readsNumber 112 = .ok (.if_icmp .gt 11, 3) := by decide +kernel
theorem dX8_readsNumber_115 : decode cX8_readsNumber 115 = .ok (.aload_n 0, 1) := by decide +kernel
theorem dX8_readsNumber_116 : decode cX8_readsNumber 116 = .ok (.getfield 252, 3) := by decide +kernel
theorem dX8_readsNumber_119 : decode cX8_readsNumber 119 = .ok (.iload_n 1, 1) := by decide +kernel
theorem dX8_readsNumber_120 : decode cX8_readsNumber 120 = .ok (.if_icmp .le 10, 3) := by decide +kernel
theorem dX8_readsNumber_123 : decode cX8_readsNumber 123 = .ok (.aload_n 0, 1) := by decide +kernel
theorem dX8_readsNumber_124 : decode cX8_readsNumber 124 = .ok (.iload_n 2, 1) := by decide +kernel
theorem dX8_readsNumber_125 : decode cX8_readsNumber 125 = .ok (.putfield 246, 3) := by decide +kernel
theorem dX8_readsNumber_128 : decode cX8_readsNumber 128 = .ok (.iconst 0, 1) := by decide +kernel
theorem dX8_readsNumber_129 : decode cX8_readsNumber 129 = .ok (.ireturn, 1) := by decide +kernel
theorem dX8_readsNumber_130 : decode cX8_readsNumber 130 = .ok (.iconst 1, 1) := by decide +kernel
theorem dX8_readsNumber_131 : decode cX8_readsNumber 131 = .ok (.ireturn, 1) := by decide +kernel
theorem dX8_readsSender_0 : decode cX8_readsSender 0 = .ok (.aload_n 0, 1) := by decide +kernel
theorem dX8_readsSender_1 : decode cX8_readsSender 1 = .ok (.aload_n 0, 1) := by decide +kernel
theorem dX8_readsSender_2 : decode cX8_readsSender 2 = .ok (.getfield 13, 3) := by decide +kernel
theorem dX8_readsSender_5 : decode cX8_readsSender 5 = .ok (.invokevirtual 255, 3) := by decide +kernel
theorem dX8_readsSender_8 : decode cX8_readsSender 8 = .ok (.istore_n 1, 1) := by decide +kernel
theorem dX8_readsSender_9 : decode cX8_readsSender 9 = .ok (.aload_n 0, 1) := by decide +kernel
theorem dX8_readsSender_10 : decode cX8_readsSender 10 = .ok (.aload_n 0, 1) := by decide +kernel
theorem dX8_readsSender_11 : decode cX8_readsSender 11 = .ok (.getfield 252, 3) := by decide +kernel
theorem dX8_readsSender_14 : decode cX8_readsSender 14 = .ok (.putfield 258, 3) := by decide +kernel
theorem dX8_readsSender_17 : decode cX8_readsSender 17 = .ok (.iload_n 1, 1) := by decide +kernel
theorem dX8_readsSender_18 : decode cX8_readsSender 18 = .ok (.ireturn, 1) := by decide +kernel
theorem dX8_readsGate_0 : decode cX8_readsGate 0 = .ok (.aload_n 0, 1) := by decide +kernel
theorem dX8_readsGate_1 : decode cX8_readsGate 1 = .ok (.aload_n 0, 1) := by decide +kernel
theorem dX8_readsGate_2 : decode cX8_readsGate 2 = .ok (.getfield 17, 3) := by decide +kernel
theorem dX8_readsGate_5 : decode cX8_readsGate 5 = .ok (.invokevirtual 255, 3) := by decide +kernel
theorem dX8_readsGate_8 : decode cX8_readsGate 8 = .ok (.istore_n 1, 1) := by decide +kernel
theorem dX8_readsGate_9 : decode cX8_readsGate 9 = .ok (.aload_n 0, 1) := by decide +kernel
theorem dX8_readsGate_10 : decode cX8_readsGate 10 = .ok (.aload_n 0, 1) := by decide +kernel
theorem dX8_readsGate_11 : decode cX8_readsGate 11 = .ok (.getfield 252, 3) := by decide +kernel
theorem dX8_readsGate_14 : decode cX8_readsGate 14 = .ok (.putfield 261, 3) := by decide +kernel
theorem dX8_readsGate_17 : decode cX8_readsGate 17 = .ok (.iload_n 1, 1) := by decide +kernel
theorem dX8_readsGate_18 : decode cX8_readsGate 18 = .ok (.ireturn, 1) := by decide +kernel
theorem dX8_readsThird_0 : decode cX8_readsThird 0 = .ok (.aload_n 0, 1) := by decide +kernel
theorem dX8_readsThird_1 : decode cX8_readsThird 1 = .ok (.iload_n 1, 1) := by decide +kernel
theorem dX8_readsThird_2 : decode cX8_readsThird 2 = .ok (.invokevirtual 264, 3) := by decide +kernel
theorem dX8_readsThird_5 : decode cX8_readsThird 5 = .ok (.istore_n 2, 1) := by decide +kernel
theorem dX8_readsThird_6 : decode cX8_readsThird 6 = .ok (.aload_n 0, 1) := by decide +kernel
theorem dX8_readsThird_7 : decode cX8_readsThird 7 = .ok (.aload_n 0, 1) := by decide +kernel
theorem dX8_readsThird_8 : decode cX8_readsThird 8 = .ok (.getfield 252, 3) := by decide +kernel
theorem dX8_readsThird_11 : decode cX8_readsThird 11 = .ok (.putfield 267, 3) := by decide +kernel
theorem dX8_readsThird_14 : decode cX8_readsThird 14 = .ok (.iload_n 2, 1) := by decide +kernel
theorem dX8_readsThird_15 : decode cX8_readsThird 15 = .ok (.ireturn, 1) := by decide +kernel
theorem dX8_readsNumbers_0 : decode cX8_readsNumbers 0 = .ok (.iload_n 1, 1) := by decide +kernel
theorem dX8_readsNumbers_1 : decode cX8_readsNumbers 1 = .ok (.lookupswitch 122 #[(43, 64), (98, 100), (103, 71), (114, 59), (115, 59), (122, 59)], 59) := by decide +kernel
theorem dX8_readsNumbers_60 : decode cX8_readsNumbers 60 = .ok (.aload_n 0, 1) := by decide +kernel
theorem dX8_readsNumbers_61 : decode cX8_readsNumbers 61 = .ok (.invokevirtual 270, 3) := by decide +kernel
theorem dX8_readsNumbers_64 : decode cX8_readsNumbers 64 = .ok (.ireturn, 1) := by decide +kernel
theorem dX8_readsNumbers_65 : decode cX8_readsNumbers 65 = .ok (.aload_n 0, 1) := by decide +kernel
theorem dX8_readsNumbers_66 : decode cX8_readsNumbers 66 = .ok (.bipush 99, 2) := by decide +kernel
theorem dX8_readsNumbers_68 : decode cX8_readsNumbers 68 = .ok (.invokevirtual 273, 3) := by decide +kernel
theorem dX8_readsNumbers_71 : decode cX8_readsNumbers 71 = .ok (.ireturn, 1) := by decide +kernel
theorem dX8_readsNumbers_72 : decode cX8_readsNumbers 72 = .ok (.aload_n 0, 1) := by decide +kernel
theorem dX8_readsNumbers_73 : decode cX8_readsNumbers 73 = .ok (.invokevirtual 270, 3) := by decide +kernel
theorem dX8_readsNumbers_76 : decode cX8_readsNumbers 76 = .ok (.ifCond .eq 23, 3) := by decide +kernel
theorem dX8_readsNumbers_79 : decode cX8_readsNumbers 79 = .ok (.aload_n 0, 1) := by decide +kernel
theorem dX8_readsNumbers_80 : decode cX8_readsNumbers 80 = .ok (.invokevirtual 276, 3) := by decide +kernel
theorem dX8_readsNumbers_83 : decode cX8_readsNumbers 83 = .ok (.ifCond .eq 16, 3) := by decide +kernel
theorem dX8_readsNumbers_86 : decode cX8_readsNumbers 86 = .ok (.aload_n 0, 1) := by decide +kernel
theorem dX8_readsNumbers_87 : decode cX8_readsNumbers 87 = .ok (.bipush 60, 2) := by decide +kernel
theorem dX8_readsNumbers_89 : decode cX8_readsNumbers 89 = .ok (.invokevirtual 273, 3) := by decide +kernel
theorem dX8_readsNumbers_92 : decode cX8_readsNumbers 92 = .ok (.ifCond .eq 7, 3) := by decide +kernel
theorem dX8_readsNumbers_95 : decode cX8_readsNumbers 95 = .ok (.iconst 1, 1) := by decide +kernel
theorem dX8_readsNumbers_96 : decode cX8_readsNumbers 96 = .ok (.goto 4, 3) := by decide +kernel
theorem dX8_readsNumbers_99 : decode cX8_readsNumbers 99 = .ok (.iconst 0, 1) := by decide +kernel
theorem dX8_readsNumbers_100 : decode cX8_readsNumbers 100 = .ok (.ireturn, 1) := by decide +kernel
theorem dX8_readsNumbers_101 : decode cX8_readsNumbers 101 = .ok (.aload_n 0, 1) := by decide +kernel
theorem dX8_readsNumbers_102 : decode cX8_readsNumbers 102 = .ok (.invokevirtual 276, 3) := by decide +kernel
theorem dX8_readsNumbers_105 : decode cX8_readsNumbers 105 = .ok (.ifCond .eq 16, 3) := by decide +kernel
theorem dX8_readsNumbers_108 : decode cX8_readsNumbers 108 = .ok (.aload_n 0, 1) := by decide +kernel
theorem dX8_readsNumbers_109 : decode cX8_readsNumbers 109 = .ok (.bipush 40, 2) := by decide +kernel
theorem dX8_readsNumbers_111 : decode cX8_readsNumbers 111 = .ok (.invokevirtual 273, 3) := by decide +kernel
theorem dX8_readsNumbers_114 : decode cX8_readsNumbers 114 = .ok (.ifCond .eq 7, 3) := by decide +kernel
theorem dX8_readsNumbers_117 : decode cX8_readsNumbers 117 = .ok (.iconst 1, 1) := by decide +kernel
theorem dX8_readsNumbers_118 : decode cX8_readsNumbers 118 = .ok (.goto 4, 3) := by decide +kernel
theorem dX8_readsNumbers_121 : decode cX8_readsNumbers 121 = .ok (.iconst 0, 1) := by decide +kernel
theorem dX8_readsNumbers_122 : decode cX8_readsNumbers 122 = .ok (.ireturn, 1) := by decide +kernel
theorem dX8_readsNumbers_123 : decode cX8_readsNumbers 123 = .ok (.aload_n 0, 1) := by decide +kernel
theorem dX8_readsNumbers_124 : decode cX8_readsNumbers 124 = .ok (.invokevirtual 276, 3) := by decide +kernel
theorem dX8_readsNumbers_127 : decode cX8_readsNumbers 127 = .ok (.ifCond .eq 15, 3) := by decide +kernel
theorem dX8_readsNumbers_130 : decode cX8_readsNumbers 130 = .ok (.aload_n 0, 1) := by decide +kernel
theorem dX8_readsNumbers_131 : decode cX8_readsNumbers 131 = .ok (.iconst 5, 1) := by decide +kernel
theorem dX8_readsNumbers_132 : decode cX8_readsNumbers 132 = .ok (.invokevirtual 273, 3) := by decide +kernel
theorem dX8_readsNumbers_135 : decode cX8_readsNumbers 135 = .ok (.ifCond .eq 7, 3) := by decide +kernel
theorem dX8_readsNumbers_138 : decode cX8_readsNumbers 138 = .ok (.iconst 1, 1) := by decide +kernel
theorem dX8_readsNumbers_139 : decode cX8_readsNumbers 139 = .ok (.goto 4, 3) := by decide +kernel
theorem dX8_readsNumbers_142 : decode cX8_readsNumbers 142 = .ok (.iconst 0, 1) := by decide +kernel
theorem dX8_readsNumbers_143 : decode cX8_readsNumbers 143 = .ok (.ireturn, 1) := by decide +kernel
theorem dX8_isOrder_0 : decode cX8_isOrder 0 = .ok (.iload_n 0, 1) := by decide +kernel
theorem dX8_isOrder_1 : decode cX8_isOrder 1 = .ok (.bipush 115, 2) := by decide +kernel
theorem dX8_isOrder_3 : decode cX8_isOrder 3 = .ok (.if_icmp .eq 39, 3) := by decide +kernel
theorem dX8_isOrder_6 : decode cX8_isOrder 6 = .ok (.iload_n 0, 1) := by decide +kernel
theorem dX8_isOrder_7 : decode cX8_isOrder 7 = .ok (.bipush 122, 2) := by decide +kernel
theorem dX8_isOrder_9 : decode cX8_isOrder 9 = .ok (.if_icmp .eq 33, 3) := by decide +kernel
theorem dX8_isOrder_12 : decode cX8_isOrder 12 = .ok (.iload_n 0, 1) := by decide +kernel
theorem dX8_isOrder_13 : decode cX8_isOrder 13 = .ok (.bipush 114, 2) := by decide +kernel
theorem dX8_isOrder_15 : decode cX8_isOrder 15 = .ok (.if_icmp .eq 27, 3) := by decide +kernel
theorem dX8_isOrder_18 : decode cX8_isOrder 18 = .ok (.iload_n 0, 1) := by decide +kernel
theorem dX8_isOrder_19 : decode cX8_isOrder 19 = .ok (.bipush 43, 2) := by decide +kernel
theorem dX8_isOrder_21 : decode cX8_isOrder 21 = .ok (.if_icmp .eq 21, 3) := by decide +kernel
theorem dX8_isOrder_24 : decode cX8_isOrder 24 = .ok (.iload_n 0, 1) := by decide +kernel
theorem dX8_isOrder_25 : decode cX8_isOrder 25 = .ok (.bipush 103, 2) := by decide +kernel
theorem dX8_isOrder_27 : decode cX8_isOrder 27 = .ok (.if_icmp .eq 15, 3) := by decide +kernel
theorem dX8_isOrder_30 : decode cX8_isOrder 30 = .ok (.iload_n 0, 1) := by decide +kernel
theorem dX8_isOrder_31 : decode cX8_isOrder 31 = .ok (.bipush 98, 2) := by decide +kernel
theorem dX8_isOrder_33 : decode cX8_isOrder 33 = .ok (.if_icmp .eq 9, 3) := by decide +kernel
theorem dX8_isOrder_36 : decode cX8_isOrder 36 = .ok (.iload_n 0, 1) := by decide +kernel
theorem dX8_isOrder_37 : decode cX8_isOrder 37 = .ok (.bipush 108, 2) := by decide +kernel
theorem dX8_isOrder_39 : decode cX8_isOrder 39 = .ok (.if_icmp .ne 7, 3) := by decide +kernel
theorem dX8_isOrder_42 : decode cX8_isOrder 42 = .ok (.iconst 1, 1) := by decide +kernel
theorem dX8_isOrder_43 : decode cX8_isOrder 43 = .ok (.goto 4, 3) := by decide +kernel
theorem dX8_isOrder_46 : decode cX8_isOrder 46 = .ok (.iconst 0, 1) := by decide +kernel
theorem dX8_isOrder_47 : decode cX8_isOrder 47 = .ok (.ireturn, 1) := by decide +kernel
theorem dX8_readsOrder_0 : decode cX8_readsOrder 0 = .ok (.iload_n 1, 1) := by decide +kernel
theorem dX8_readsOrder_1 : decode cX8_readsOrder 1 = .ok (.invokestatic 279, 3) := by decide +kernel
theorem dX8_readsOrder_4 : decode cX8_readsOrder 4 = .ok (.ifCond .ne 5, 3) := by decide +kernel
theorem dX8_readsOrder_7 : decode cX8_readsOrder 7 = .ok (.iconst 0, 1) := by decide +kernel
theorem dX8_readsOrder_8 : decode cX8_readsOrder 8 = .ok (.ireturn, 1) := by decide +kernel
theorem dX8_readsOrder_9 : decode cX8_readsOrder 9 = .ok (.aload_n 0, 1) := by decide +kernel
theorem dX8_readsOrder_10 : decode cX8_readsOrder 10 = .ok (.dup, 1) := by decide +kernel
theorem dX8_readsOrder_11 : decode cX8_readsOrder 11 = .ok (.getfield 246, 3) := by decide +kernel
theorem dX8_readsOrder_14 : decode cX8_readsOrder 14 = .ok (.iconst 1, 1) := by decide +kernel
theorem dX8_readsOrder_15 : decode cX8_readsOrder 15 = .ok (.iadd, 1) := by decide +kernel
theorem dX8_readsOrder_16 : decode cX8_readsOrder 16 = .ok (.putfield 246, 3) := by decide +kernel
theorem dX8_readsOrder_19 : decode cX8_readsOrder 19 = .ok (.aload_n 0, 1) := by decide +kernel
theorem dX8_readsOrder_20 : decode cX8_readsOrder 20 = .ok (.iload_n 1, 1) := by decide +kernel
theorem dX8_readsOrder_21 : decode cX8_readsOrder 21 = .ok (.invokevirtual 282, 3) := by decide +kernel
theorem dX8_readsOrder_24 : decode cX8_readsOrder 24 = .ok (.ifCond .eq 12, 3) := by decide +kernel
theorem dX8_readsOrder_27 : decode cX8_readsOrder 27 = .ok (.aload_n 0, 1) := by decide +kernel
theorem dX8_readsOrder_28 : decode cX8_readsOrder 28 = .ok (.invokevirtual 249, 3) := by decide +kernel
theorem dX8_readsOrder_31 : decode cX8_readsOrder 31 = .ok (.bipush 59, 2) := by decide +kernel
theorem dX8_readsOrder_33 : decode cX8_readsOrder 33 = .ok (.if_icmp .eq 5, 3) := by decide +kernel
theorem dX8_readsOrder_36 : decode cX8_readsOrder 36 = .ok (.iconst 0, 1) := by decide +kernel
theorem dX8_readsOrder_37 : decode cX8_readsOrder 37 = .ok (.ireturn, 1) := by decide +kernel
theorem dX8_readsOrder_38 : decode cX8_readsOrder 38 = .ok (.aload_n 0, 1) := by decide +kernel
theorem dX8_readsOrder_39 : decode cX8_readsOrder 39 = .ok (.dup, 1) := by decide +kernel
theorem dX8_readsOrder_40 : decode cX8_readsOrder 40 = .ok (.getfield 246, 3) := by decide +kernel
theorem dX8_readsOrder_43 : decode cX8_readsOrder 43 = .ok (.iconst 1, 1) := by decide +kernel
theorem dX8_readsOrder_44 : decode cX8_readsOrder 44 = .ok (.iadd, 1) := by decide +kernel
theorem dX8_readsOrder_45 : decode cX8_readsOrder 45 = .ok (.putfield 246, 3) := by decide +kernel
theorem dX8_readsOrder_48 : decode cX8_readsOrder 48 = .ok (.iconst 1, 1) := by decide +kernel
theorem dX8_readsOrder_49 : decode cX8_readsOrder 49 = .ok (.ireturn, 1) := by decide +kernel
theorem dX8_doesOrder_0 : decode cX8_doesOrder 0 = .ok (.iload_n 1, 1) := by decide +kernel
theorem dX8_doesOrder_1 : decode cX8_doesOrder 1 = .ok (.lookupswitch 174 #[(43, 59), (98, 159), (103, 137), (114, 86), (115, 68), (122, 127)], 59) := by decide +kernel
theorem dX8_doesOrder_60 : decode cX8_doesOrder 60 = .ok (.aload_n 0, 1) := by decide +kernel
theorem dX8_doesOrder_61 : decode cX8_doesOrder 61 = .ok (.aload_n 0, 1) := by decide +kernel
theorem dX8_doesOrder_62 : decode cX8_doesOrder 62 = .ok (.getfield 267, 3) := by decide +kernel
theorem dX8_doesOrder_65 : decode cX8_doesOrder 65 = .ok (.invokevirtual 231, 3) := by decide +kernel
theorem dX8_doesOrder_68 : decode cX8_doesOrder 68 = .ok (.ireturn, 1) := by decide +kernel
theorem dX8_doesOrder_69 : decode cX8_doesOrder 69 = .ok (.aload_n 0, 1) := by decide +kernel
theorem dX8_doesOrder_70 : decode cX8_doesOrder 70 = .ok (.invokevirtual 167, 3) := by decide +kernel
theorem dX8_doesOrder_73 : decode cX8_doesOrder 73 = .ok (.ifCond .eq 12, 3) := by decide +kernel
theorem dX8_doesOrder_76 : decode cX8_doesOrder 76 = .ok (.aload_n 0, 1) := by decide +kernel
theorem dX8_doesOrder_77 : decode cX8_doesOrder 77 = .ok (.aload_n 0, 1) := by decide +kernel
theorem dX8_doesOrder_78 : decode cX8_doesOrder 78 = .ok (.getfield 258, 3) := by decide +kernel
theorem dX8_doesOrder_81 : decode cX8_doesOrder 81 = .ok (.invokevirtual 171, 3) := by decide +kernel
theorem dX8_doesOrder_84 : decode cX8_doesOrder 84 = .ok (.pop, 1) := by decide +kernel
theorem dX8_doesOrder_85 : decode cX8_doesOrder 85 = .ok (.iconst 0, 1) := by decide +kernel
theorem dX8_doesOrder_86 : decode cX8_doesOrder 86 = .ok (.ireturn, 1) := by decide +kernel
theorem dX8_doesOrder_87 : decode cX8_doesOrder 87 = .ok (.aload_n 0, 1) := by decide +kernel
theorem dX8_doesOrder_88 : decode cX8_doesOrder 88 = .ok (.getfield 56, 3) := by decide +kernel
theorem dX8_doesOrder_91 : decode cX8_doesOrder 91 = .ok (.aload_n 0, 1) := by decide +kernel
theorem dX8_doesOrder_92 : decode cX8_doesOrder 92 = .ok (.getfield 258, 3) := by decide +kernel
theorem dX8_doesOrder_95 : decode cX8_doesOrder 95 = .ok (.iaload, 1) := by decide +kernel
theorem dX8_doesOrder_96 : decode cX8_doesOrder 96 = .ok (.bipush (-2), 2) := by decide +kernel
theorem dX8_doesOrder_98 : decode cX8_doesOrder 98 = .ok (.if_icmp .eq 28, 3) := by decide +kernel
theorem dX8_doesOrder_101 : decode cX8_doesOrder 101 = .ok (.aload_n 0, 1) := by decide +kernel
theorem dX8_doesOrder_102 : decode cX8_doesOrder 102 = .ok (.invokevirtual 167, 3) := by decide +kernel
theorem dX8_doesOrder_105 : decode cX8_doesOrder 105 = .ok (.ifCond .eq 21, 3) := by decide +kernel
theorem dX8_doesOrder_108 : decode cX8_doesOrder 108 = .ok (.aload_n 0, 1) := by decide +kernel
theorem dX8_doesOrder_109 : decode cX8_doesOrder 109 = .ok (.aload_n 0, 1) := by decide +kernel
theorem dX8_doesOrder_110 : decode cX8_doesOrder 110 = .ok (.getfield 258, 3) := by decide +kernel
theorem dX8_doesOrder_113 : decode cX8_doesOrder 113 = .ok (.aload_n 0, 1) := by decide +kernel
theorem dX8_doesOrder_114 : decode cX8_doesOrder 114 = .ok (.getfield 56, 3) := by decide +kernel
theorem dX8_doesOrder_117 : decode cX8_doesOrder 117 = .ok (.aload_n 0, 1) := by decide +kernel
theorem dX8_doesOrder_118 : decode cX8_doesOrder 118 = .ok (.getfield 258, 3) := by decide +kernel
theorem dX8_doesOrder_121 : decode cX8_doesOrder 121 = .ok (.iaload, 1) := by decide +kernel
theorem dX8_doesOrder_122 : decode cX8_doesOrder 122 = .ok (.invokevirtual 164, 3) := by decide +kernel
theorem dX8_doesOrder_125 : decode cX8_doesOrder 125 = .ok (.pop, 1) := by decide +kernel
theorem dX8_doesOrder_126 : decode cX8_doesOrder 126 = .ok (.iconst 0, 1) := by decide +kernel
theorem dX8_doesOrder_127 : decode cX8_doesOrder 127 = .ok (.ireturn, 1) := by decide +kernel
theorem dX8_doesOrder_128 : decode cX8_doesOrder 128 = .ok (.aload_n 0, 1) := by decide +kernel
theorem dX8_doesOrder_129 : decode cX8_doesOrder 129 = .ok (.aload_n 0, 1) := by decide +kernel
theorem dX8_doesOrder_130 : decode cX8_doesOrder 130 = .ok (.getfield 258, 3) := by decide +kernel
theorem dX8_doesOrder_133 : decode cX8_doesOrder 133 = .ok (.invokevirtual 123, 3) := by decide +kernel
theorem dX8_doesOrder_136 : decode cX8_doesOrder 136 = .ok (.iconst 0, 1) := by decide +kernel
theorem dX8_doesOrder_137 : decode cX8_doesOrder 137 = .ok (.ireturn, 1) := by decide +kernel
theorem dX8_doesOrder_138 : decode cX8_doesOrder 138 = .ok (.aload_n 0, 1) := by decide +kernel
theorem dX8_doesOrder_139 : decode cX8_doesOrder 139 = .ok (.getfield 41, 3) := by decide +kernel
theorem dX8_doesOrder_142 : decode cX8_doesOrder 142 = .ok (.iconst 4, 1) := by decide +kernel
theorem dX8_doesOrder_143 : decode cX8_doesOrder 143 = .ok (.aload_n 0, 1) := by decide +kernel
theorem dX8_doesOrder_144 : decode cX8_doesOrder 144 = .ok (.getfield 258, 3) := by decide +kernel
theorem dX8_doesOrder_147 : decode cX8_doesOrder 147 = .ok (.imul, 1) := by decide +kernel
theorem dX8_doesOrder_148 : decode cX8_doesOrder 148 = .ok (.aload_n 0, 1) := by decide +kernel
theorem dX8_doesOrder_149 : decode cX8_doesOrder 149 = .ok (.getfield 261, 3) := by decide +kernel
theorem dX8_doesOrder_152 : decode cX8_doesOrder 152 = .ok (.iadd, 1) := by decide +kernel
theorem dX8_doesOrder_153 : decode cX8_doesOrder 153 = .ok (.aload_n 0, 1) := by decide +kernel
theorem dX8_doesOrder_154 : decode cX8_doesOrder 154 = .ok (.getfield 267, 3) := by decide +kernel
theorem dX8_doesOrder_157 : decode cX8_doesOrder 157 = .ok (.iastore, 1) := by decide +kernel
theorem dX8_doesOrder_158 : decode cX8_doesOrder 158 = .ok (.iconst 0, 1) := by decide +kernel
theorem dX8_doesOrder_159 : decode cX8_doesOrder 159 = .ok (.ireturn, 1) := by decide +kernel
theorem dX8_doesOrder_160 : decode cX8_doesOrder 160 = .ok (.aload_n 0, 1) := by decide +kernel
theorem dX8_doesOrder_161 : decode cX8_doesOrder 161 = .ok (.getfield 26, 3) := by decide +kernel
theorem dX8_doesOrder_164 : decode cX8_doesOrder 164 = .ok (.aload_n 0, 1) := by decide +kernel
theorem dX8_doesOrder_165 : decode cX8_doesOrder 165 = .ok (.getfield 261, 3) := by decide +kernel
theorem dX8_doesOrder_168 : decode cX8_doesOrder 168 = .ok (.aload_n 0, 1) := by decide +kernel
theorem dX8_doesOrder_169 : decode cX8_doesOrder 169 = .ok (.getfield 267, 3) := by decide +kernel
theorem dX8_doesOrder_172 : decode cX8_doesOrder 172 = .ok (.iastore, 1) := by decide +kernel
theorem dX8_doesOrder_173 : decode cX8_doesOrder 173 = .ok (.iconst 0, 1) := by decide +kernel
theorem dX8_doesOrder_174 : decode cX8_doesOrder 174 = .ok (.ireturn, 1) := by decide +kernel
theorem dX8_doesOrder_175 : decode cX8_doesOrder 175 = .ok (.aload_n 0, 1) := by decide +kernel
theorem dX8_doesOrder_176 : decode cX8_doesOrder 176 = .ok (.getfield 23, 3) := by decide +kernel
theorem dX8_doesOrder_179 : decode cX8_doesOrder 179 = .ok (.aload_n 0, 1) := by decide +kernel
theorem dX8_doesOrder_180 : decode cX8_doesOrder 180 = .ok (.getfield 261, 3) := by decide +kernel
theorem dX8_doesOrder_183 : decode cX8_doesOrder 183 = .ok (.aload_n 0, 1) := by decide +kernel
theorem dX8_doesOrder_184 : decode cX8_doesOrder 184 = .ok (.getfield 267, 3) := by decide +kernel
theorem dX8_doesOrder_187 : decode cX8_doesOrder 187 = .ok (.iastore, 1) := by decide +kernel
theorem dX8_doesOrder_188 : decode cX8_doesOrder 188 = .ok (.iconst 0, 1) := by decide +kernel
theorem dX8_doesOrder_189 : decode cX8_doesOrder 189 = .ok (.ireturn, 1) := by decide +kernel
theorem dX8_goesThrough_0 : decode cX8_goesThrough 0 = .ok (.aload_n 0, 1) := by decide +kernel
theorem dX8_goesThrough_1 : decode cX8_goesThrough 1 = .ok (.iconst 0, 1) := by decide +kernel
theorem dX8_goesThrough_2 : decode cX8_goesThrough 2 = .ok (.putfield 246, 3) := by decide +kernel
theorem dX8_goesThrough_5 : decode cX8_goesThrough 5 = .ok (.iconst 0, 1) := by decide +kernel
theorem dX8_goesThrough_6 : decode cX8_goesThrough 6 = .ok (.istore_n 2, 1) := by decide +kernel
theorem dX8_goesThrough_7 : decode cX8_goesThrough 7 = .ok (.aload_n 0, 1) := by decide +kernel
theorem dX8_goesThrough_8 : decode cX8_goesThrough 8 = .ok (.invokevirtual 249, 3) := by decide +kernel
theorem dX8_goesThrough_11 : decode cX8_goesThrough 11 = .ok (.iconst (-1), 1) := by decide +kernel
theorem dX8_goesThrough_12 : decode cX8_goesThrough 12 = .ok (.if_icmp .ne 11, 3) := by decide +kernel
theorem dX8_goesThrough_15 : decode cX8_goesThrough 15 = .ok (.bipush (-10), 2) := by decide +kernel
theorem dX8_goesThrough_17 : decode cX8_goesThrough 17 = .ok (.aload_n 0, 1) := by decide +kernel
theorem dX8_goesThrough_18 : decode cX8_goesThrough 18 = .ok (.getfield 243, 3) := by decide +kernel
theorem dX8_goesThrough_21 : decode cX8_goesThrough 21 = .ok (.isub, 1) := by decide +kernel
theorem dX8_goesThrough_22 : decode cX8_goesThrough 22 = .ok (.ireturn, 1) := by decide +kernel
theorem dX8_goesThrough_23 : decode cX8_goesThrough 23 = .ok (.aload_n 0, 1) := by decide +kernel
theorem dX8_goesThrough_24 : decode cX8_goesThrough 24 = .ok (.invokevirtual 249, 3) := by decide +kernel
theorem dX8_goesThrough_27 : decode cX8_goesThrough 27 = .ok (.iconst (-1), 1) := by decide +kernel
theorem dX8_goesThrough_28 : decode cX8_goesThrough 28 = .ok (.if_icmp .eq 43, 3) := by decide +kernel
theorem dX8_goesThrough_31 : decode cX8_goesThrough 31 = .ok (.aload_n 0, 1) := by decide +kernel
theorem dX8_goesThrough_32 : decode cX8_goesThrough 32 = .ok (.invokevirtual 249, 3) := by decide +kernel
theorem dX8_goesThrough_35 : decode cX8_goesThrough 35 = .ok (.istore_n 3, 1) := by decide +kernel
theorem dX8_goesThrough_36 : decode cX8_goesThrough 36 = .ok (.aload_n 0, 1) := by decide +kernel
theorem dX8_goesThrough_37 : decode cX8_goesThrough 37 = .ok (.iload_n 3, 1) := by decide +kernel
theorem dX8_goesThrough_38 : decode cX8_goesThrough 38 = .ok (.invokevirtual 285, 3) := by decide +kernel
theorem dX8_goesThrough_41 : decode cX8_goesThrough 41 = .ok (.ifCond .ne 11, 3) := by decide +kernel
theorem dX8_goesThrough_44 : decode cX8_goesThrough 44 = .ok (.bipush (-10), 2) := by decide +kernel
theorem dX8_goesThrough_46 : decode cX8_goesThrough 46 = .ok (.aload_n 0, 1) := by decide +kernel
theorem dX8_goesThrough_47 : decode cX8_goesThrough 47 = .ok (.getfield 246, 3) := by decide +kernel
theorem dX8_goesThrough_50 : decode cX8_goesThrough 50 = .ok (.isub, 1) := by decide +kernel
theorem dX8_goesThrough_51 : decode cX8_goesThrough 51 = .ok (.ireturn, 1) := by decide +kernel
theorem dX8_goesThrough_52 : decode cX8_goesThrough 52 = .ok (.iload_n 2, 1) := by decide +kernel
theorem dX8_goesThrough_53 : decode cX8_goesThrough 53 = .ok (.iload_n 1, 1) := by decide +kernel
theorem dX8_goesThrough_54 : decode cX8_goesThrough 54 = .ok (.ifCond .eq 11, 3) := by decide +kernel
theorem dX8_goesThrough_57 : decode cX8_goesThrough 57 = .ok (.aload_n 0, 1) := by decide +kernel
theorem dX8_goesThrough_58 : decode cX8_goesThrough 58 = .ok (.iload_n 3, 1) := by decide +kernel
theorem dX8_goesThrough_59 : decode cX8_goesThrough 59 = .ok (.invokevirtual 288, 3) := by decide +kernel
theorem dX8_goesThrough_62 : decode cX8_goesThrough 62 = .ok (.goto 4, 3) := by decide +kernel
theorem dX8_goesThrough_65 : decode cX8_goesThrough 65 = .ok (.iconst 0, 1) := by decide +kernel
theorem dX8_goesThrough_66 : decode cX8_goesThrough 66 = .ok (.iadd, 1) := by decide +kernel
theorem dX8_goesThrough_67 : decode cX8_goesThrough 67 = .ok (.istore_n 2, 1) := by decide +kernel
theorem dX8_goesThrough_68 : decode cX8_goesThrough 68 = .ok (.goto (-45), 3) := by decide +kernel
theorem dX8_goesThrough_71 : decode cX8_goesThrough 71 = .ok (.iload_n 2, 1) := by decide +kernel
theorem dX8_goesThrough_72 : decode cX8_goesThrough 72 = .ok (.ireturn, 1) := by decide +kernel
theorem dX8_does_0 : decode cX8_does 0 = .ok (.aload_n 0, 1) := by decide +kernel
theorem dX8_does_1 : decode cX8_does 1 = .ok (.iconst 0, 1) := by decide +kernel
theorem dX8_does_2 : decode cX8_does 2 = .ok (.invokevirtual 291, 3) := by decide +kernel
theorem dX8_does_5 : decode cX8_does 5 = .ok (.istore_n 1, 1) := by decide +kernel
theorem dX8_does_6 : decode cX8_does 6 = .ok (.iload_n 1, 1) := by decide +kernel
theorem dX8_does_7 : decode cX8_does 7 = .ok (.ifCond .ge 7, 3) := by decide +kernel
theorem dX8_does_10 : decode cX8_does 10 = .ok (.iload_n 1, 1) := by decide +kernel
theorem dX8_does_11 : decode cX8_does 11 = .ok (.goto 8, 3) := by decide +kernel
theorem dX8_does_14 : decode cX8_does 14 = .ok (.aload_n 0, 1) := by decide +kernel
theorem dX8_does_15 : decode cX8_does 15 = .ok (.iconst 1, 1) := by decide +kernel
theorem dX8_does_16 : decode cX8_does 16 = .ok (.invokevirtual 291, 3) := by decide +kernel
theorem dX8_does_19 : decode cX8_does 19 = .ok (.ireturn, 1) := by decide +kernel
theorem dX8_toldBy_0 : decode cX8_toldBy 0 = .ok (.iload_n 1, 1) := by decide +kernel
theorem dX8_toldBy_1 : decode cX8_toldBy 1 = .ok (.iconst 3, 1) := by decide +kernel
theorem dX8_toldBy_2 : decode cX8_toldBy 2 = .ok (.if_icmp .ge 12, 3) := by decide +kernel
theorem dX8_toldBy_5 : decode cX8_toldBy 5 = .ok (.aload_n 0, 1) := by decide +kernel
theorem dX8_toldBy_6 : decode cX8_toldBy 6 = .ok (.getfield 7, 3) := by decide +kernel
theorem dX8_toldBy_9 : decode cX8_toldBy 9 = .ok (.iload_n 1, 1) := by decide +kernel
theorem dX8_toldBy_10 : decode cX8_toldBy 10 = .ok (.iaload, 1) := by decide +kernel
theorem dX8_toldBy_11 : decode cX8_toldBy 11 = .ok (.goto 43, 3) := by decide +kernel
theorem dX8_toldBy_14 : decode cX8_toldBy 14 = .ok (.iload_n 1, 1) := by decide +kernel
theorem dX8_toldBy_15 : decode cX8_toldBy 15 = .ok (.iconst 3, 1) := by decide +kernel
theorem dX8_toldBy_16 : decode cX8_toldBy 16 = .ok (.if_icmp .ne 10, 3) := by decide +kernel
theorem dX8_toldBy_19 : decode cX8_toldBy 19 = .ok (.aload_n 0, 1) := by decide +kernel
theorem dX8_toldBy_20 : decode cX8_toldBy 20 = .ok (.getfield 243, 3) := by decide +kernel
theorem dX8_toldBy_23 : decode cX8_toldBy 23 = .ok (.goto 31, 3) := by decide +kernel
theorem dX8_toldBy_26 : decode cX8_toldBy 26 = .ok (.iload_n 1, 1) := by decide +kernel
theorem dX8_toldBy_27 : decode cX8_toldBy 27 = .ok (.iconst 4, 1) := by decide +kernel
theorem dX8_toldBy_28 : decode cX8_toldBy 28 = .ok (.if_icmp .ne 10, 3) := by decide +kernel
theorem dX8_toldBy_31 : decode cX8_toldBy 31 = .ok (.aload_n 0, 1) := by decide +kernel
theorem dX8_toldBy_32 : decode cX8_toldBy 32 = .ok (.getfield 13, 3) := by decide +kernel
theorem dX8_toldBy_35 : decode cX8_toldBy 35 = .ok (.goto 19, 3) := by decide +kernel
theorem dX8_toldBy_38 : decode cX8_toldBy 38 = .ok (.iload_n 1, 1) := by decide +kernel
theorem dX8_toldBy_39 : decode cX8_toldBy 39 = .ok (.iconst 5, 1) := by decide +kernel
theorem dX8_toldBy_40 : decode cX8_toldBy 40 = .ok (.if_icmp .ne 10, 3) := by decide +kernel
theorem dX8_toldBy_43 : decode cX8_toldBy 43 = .ok (.aload_n 0, 1) := by decide +kernel
theorem dX8_toldBy_44 : decode cX8_toldBy 44 = .ok (.getfield 17, 3) := by decide +kernel
theorem dX8_toldBy_47 : decode cX8_toldBy 47 = .ok (.goto 7, 3) := by decide +kernel
theorem dX8_toldBy_50 : decode cX8_toldBy 50 = .ok (.aload_n 0, 1) := by decide +kernel
theorem dX8_toldBy_51 : decode cX8_toldBy 51 = .ok (.getfield 20, 3) := by decide +kernel
theorem dX8_toldBy_54 : decode cX8_toldBy 54 = .ok (.ireturn, 1) := by decide +kernel
theorem dX8_told_0 : decode cX8_told 0 = .ok (.iload_n 1, 1) := by decide +kernel
theorem dX8_told_1 : decode cX8_told 1 = .ok (.iconst 0, 1) := by decide +kernel
theorem dX8_told_2 : decode cX8_told 2 = .ok (.bipush 6, 2) := by decide +kernel
theorem dX8_told_4 : decode cX8_told 4 = .ok (.invokestatic 110, 3) := by decide +kernel
theorem dX8_told_7 : decode cX8_told 7 = .ok (.ifCond .eq 11, 3) := by decide +kernel
theorem dX8_told_10 : decode cX8_told 10 = .ok (.aload_n 0, 1) := by decide +kernel
theorem dX8_told_11 : decode cX8_told 11 = .ok (.iload_n 1, 1) := by decide +kernel
theorem dX8_told_12 : decode cX8_told 12 = .ok (.invokevirtual 295, 3) := by decide +kernel
theorem dX8_told_15 : decode cX8_told 15 = .ok (.goto 7, 3) := by decide +kernel
theorem dX8_told_18 : decode cX8_told 18 = .ok (.aload_n 0, 1) := by decide +kernel
theorem dX8_told_19 : decode cX8_told 19 = .ok (.invokevirtual 127, 3) := by decide +kernel
theorem dX8_told_22 : decode cX8_told 22 = .ok (.ireturn, 1) := by decide +kernel
theorem dX8_digest_0 : decode cX8_digest 0 = .ok (.ldc2_w 298, 3) := by decide +kernel
theorem dX8_digest_3 : decode cX8_digest 3 = .ok (.lstore_n 1, 1) := by decide +kernel
theorem dX8_digest_4 : decode cX8_digest 4 = .ok (.iconst 0, 1) := by decide +kernel
theorem dX8_digest_5 : decode cX8_digest 5 = .ok (.istore_n 3, 1) := by decide +kernel
theorem dX8_digest_6 : decode cX8_digest 6 = .ok (.iload_n 3, 1) := by decide +kernel
theorem dX8_digest_7 : decode cX8_digest 7 = .ok (.bipush 7, 2) := by decide +kernel
theorem dX8_digest_9 : decode cX8_digest 9 = .ok (.if_icmp .ge 22, 3) := by decide +kernel
theorem dX8_digest_12 : decode cX8_digest 12 = .ok (.ldc2_w 300, 3) := by decide +kernel
theorem dX8_digest_15 : decode cX8_digest 15 = .ok (.lload_n 1, 1) := by decide +kernel
theorem dX8_digest_16 : decode cX8_digest 16 = .ok (.lmul, 1) := by decide +kernel
theorem dX8_digest_17 : decode cX8_digest 17 = .ok (.aload_n 0, 1) := by decide +kernel
theorem dX8_digest_18 : decode cX8_digest 18 = .ok (.iload_n 3, 1) := by decide +kernel
theorem dX8_digest_19 : decode cX8_digest 19 = .ok (.invokevirtual 295, 3) := by decide +kernel
theorem dX8_digest_22 : decode cX8_digest 22 = .ok (.i2l, 1) := by decide +kernel
theorem dX8_digest_23 : decode cX8_digest 23 = .ok (.ladd, 1) := by decide +kernel
theorem dX8_digest_24 : decode cX8_digest 24 = .ok (.lstore_n 1, 1) := by decide +kernel
theorem dX8_digest_25 : decode cX8_digest 25 = .ok (.iinc 3 1, 3) := by decide +kernel
theorem dX8_digest_28 : decode cX8_digest 28 = .ok (.goto (-22), 3) := by decide +kernel
theorem dX8_digest_31 : decode cX8_digest 31 = .ok (.iconst 0, 1) := by decide +kernel
theorem dX8_digest_32 : decode cX8_digest 32 = .ok (.istore_n 3, 1) := by decide +kernel
theorem dX8_digest_33 : decode cX8_digest 33 = .ok (.iload_n 3, 1) := by decide +kernel
theorem dX8_digest_34 : decode cX8_digest 34 = .ok (.aload_n 0, 1) := by decide +kernel
theorem dX8_digest_35 : decode cX8_digest 35 = .ok (.getfield 13, 3) := by decide +kernel
theorem dX8_digest_38 : decode cX8_digest 38 = .ok (.if_icmp .ge 40, 3) := by decide +kernel
theorem dX8_digest_41 : decode cX8_digest 41 = .ok (.iconst 0, 1) := by decide +kernel
theorem dX8_digest_42 : decode cX8_digest 42 = .ok (.istore 4, 2) := by decide +kernel
theorem dX8_digest_44 : decode cX8_digest 44 = .ok (.iload 4, 2) := by decide +kernel
theorem dX8_digest_46 : decode cX8_digest 46 = .ok (.bipush 8, 2) := by decide +kernel
theorem dX8_digest_48 : decode cX8_digest 48 = .ok (.if_icmp .ge 24, 3) := by decide +kernel
theorem dX8_digest_51 : decode cX8_digest 51 = .ok (.ldc2_w 300, 3) := by decide +kernel
theorem dX8_digest_54 : decode cX8_digest 54 = .ok (.lload_n 1, 1) := by decide +kernel
theorem dX8_digest_55 : decode cX8_digest 55 = .ok (.lmul, 1) := by decide +kernel
theorem dX8_digest_56 : decode cX8_digest 56 = .ok (.aload_n 0, 1) := by decide +kernel
theorem dX8_digest_57 : decode cX8_digest 57 = .ok (.iload_n 3, 1) := by decide +kernel
theorem dX8_digest_58 : decode cX8_digest 58 = .ok (.iload 4, 2) := by decide +kernel
theorem dX8_digest_60 : decode cX8_digest 60 = .ok (.invokevirtual 234, 3) := by decide +kernel
theorem dX8_digest_63 : decode cX8_digest 63 = .ok (.i2l, 1) := by decide +kernel
theorem dX8_digest_64 : decode cX8_digest 64 = .ok (.ladd, 1) := by decide +kernel
theorem dX8_digest_65 : decode cX8_digest 65 = .ok (.lstore_n 1, 1) := by decide +kernel
theorem dX8_digest_66 : decode cX8_digest 66 = .ok (.iinc 4 1, 3) := by decide +kernel
theorem dX8_digest_69 : decode cX8_digest 69 = .ok (.goto (-25), 3) := by decide +kernel
theorem dX8_digest_72 : decode cX8_digest 72 = .ok (.iinc 3 1, 3) := by decide +kernel
theorem dX8_digest_75 : decode cX8_digest 75 = .ok (.goto (-42), 3) := by decide +kernel
theorem dX8_digest_78 : decode cX8_digest 78 = .ok (.iconst 0, 1) := by decide +kernel
theorem dX8_digest_79 : decode cX8_digest 79 = .ok (.istore_n 3, 1) := by decide +kernel
theorem dX8_digest_80 : decode cX8_digest 80 = .ok (.iload_n 3, 1) := by decide +kernel
theorem dX8_digest_81 : decode cX8_digest 81 = .ok (.aload_n 0, 1) := by decide +kernel
theorem dX8_digest_82 : decode cX8_digest 82 = .ok (.getfield 17, 3) := by decide +kernel
theorem dX8_digest_85 : decode cX8_digest 85 = .ok (.if_icmp .ge 39, 3) := by decide +kernel
theorem dX8_digest_88 : decode cX8_digest 88 = .ok (.iconst 0, 1) := by decide +kernel
theorem dX8_digest_89 : decode cX8_digest 89 = .ok (.istore 4, 2) := by decide +kernel
theorem dX8_digest_91 : decode cX8_digest 91 = .ok (.iload 4, 2) := by decide +kernel
theorem dX8_digest_93 : decode cX8_digest 93 = .ok (.iconst 4, 1) := by decide +kernel
theorem dX8_digest_94 : decode cX8_digest 94 = .ok (.if_icmp .ge 24, 3) := by decide +kernel
theorem dX8_digest_97 : decode cX8_digest 97 = .ok (.ldc2_w 300, 3) := by decide +kernel
theorem dX8_digest_100 : decode cX8_digest 100 = .ok (.lload_n 1, 1) := by decide +kernel
theorem dX8_digest_101 : decode cX8_digest 101 = .ok (.lmul, 1) := by decide +kernel
theorem dX8_digest_102 : decode cX8_digest 102 = .ok (.aload_n 0, 1) := by decide +kernel
theorem dX8_digest_103 : decode cX8_digest 103 = .ok (.iload_n 3, 1) := by decide +kernel
theorem dX8_digest_104 : decode cX8_digest 104 = .ok (.iload 4, 2) := by decide +kernel
theorem dX8_digest_106 : decode cX8_digest 106 = .ok (.invokevirtual 237, 3) := by decide +kernel
theorem dX8_digest_109 : decode cX8_digest 109 = .ok (.i2l, 1) := by decide +kernel
theorem dX8_digest_110 : decode cX8_digest 110 = .ok (.ladd, 1) := by decide +kernel
theorem dX8_digest_111 : decode cX8_digest 111 = .ok (.lstore_n 1, 1) := by decide +kernel
theorem dX8_digest_112 : decode cX8_digest 112 = .ok (.iinc 4 1, 3) := by decide +kernel
theorem dX8_digest_115 : decode cX8_digest 115 = .ok (.goto (-24), 3) := by decide +kernel
theorem dX8_digest_118 : decode cX8_digest 118 = .ok (.iinc 3 1, 3) := by decide +kernel
theorem dX8_digest_121 : decode cX8_digest 121 = .ok (.goto (-41), 3) := by decide +kernel
theorem dX8_digest_124 : decode cX8_digest 124 = .ok (.iconst 0, 1) := by decide +kernel
theorem dX8_digest_125 : decode cX8_digest 125 = .ok (.istore_n 3, 1) := by decide +kernel
theorem dX8_digest_126 : decode cX8_digest 126 = .ok (.iload_n 3, 1) := by decide +kernel
theorem dX8_digest_127 : decode cX8_digest 127 = .ok (.bipush 9, 2) := by decide +kernel
theorem dX8_digest_129 : decode cX8_digest 129 = .ok (.if_icmp .ge 22, 3) := by decide +kernel
theorem dX8_digest_132 : decode cX8_digest 132 = .ok (.ldc2_w 300, 3) := by decide +kernel
theorem dX8_digest_135 : decode cX8_digest 135 = .ok (.lload_n 1, 1) := by decide +kernel
theorem dX8_digest_136 : decode cX8_digest 136 = .ok (.lmul, 1) := by decide +kernel
theorem dX8_digest_137 : decode cX8_digest 137 = .ok (.aload_n 0, 1) := by decide +kernel
theorem dX8_digest_138 : decode cX8_digest 138 = .ok (.iload_n 3, 1) := by decide +kernel
theorem dX8_digest_139 : decode cX8_digest 139 = .ok (.invokevirtual 240, 3) := by decide +kernel
theorem dX8_digest_142 : decode cX8_digest 142 = .ok (.i2l, 1) := by decide +kernel
theorem dX8_digest_143 : decode cX8_digest 143 = .ok (.ladd, 1) := by decide +kernel
theorem dX8_digest_144 : decode cX8_digest 144 = .ok (.lstore_n 1, 1) := by decide +kernel
theorem dX8_digest_145 : decode cX8_digest 145 = .ok (.iinc 3 1, 3) := by decide +kernel
theorem dX8_digest_148 : decode cX8_digest 148 = .ok (.goto (-22), 3) := by decide +kernel
theorem dX8_digest_151 : decode cX8_digest 151 = .ok (.lload_n 1, 1) := by decide +kernel
theorem dX8_digest_152 : decode cX8_digest 152 = .ok (.lreturn, 1) := by decide +kernel
theorem dJ9_floorMod_7cf53_0 : decode cJ9_floorMod_7cf53 0 = .ok (.iload_n 0, 1) := by decide +kernel
theorem dJ9_floorMod_7cf53_1 : decode cJ9_floorMod_7cf53 1 = .ok (.iload_n 1, 1) := by decide +kernel
theorem dJ9_floorMod_7cf53_2 : decode cJ9_floorMod_7cf53 2 = .ok (.irem, 1) := by decide +kernel
theorem dJ9_floorMod_7cf53_3 : decode cJ9_floorMod_7cf53 3 = .ok (.istore_n 2, 1) := by decide +kernel
theorem dJ9_floorMod_7cf53_4 : decode cJ9_floorMod_7cf53 4 = .ok (.iload_n 0, 1) := by decide +kernel
theorem dJ9_floorMod_7cf53_5 : decode cJ9_floorMod_7cf53 5 = .ok (.iload_n 1, 1) := by decide +kernel
theorem dJ9_floorMod_7cf53_6 : decode cJ9_floorMod_7cf53 6 = .ok (.ixor, 1) := by decide +kernel
theorem dJ9_floorMod_7cf53_7 : decode cJ9_floorMod_7cf53 7 = .ok (.ifCond .ge 11, 3) := by decide +kernel
theorem dJ9_floorMod_7cf53_10 : decode cJ9_floorMod_7cf53 10 = .ok (.iload_n 2, 1) := by decide +kernel
theorem dJ9_floorMod_7cf53_11 : decode cJ9_floorMod_7cf53 11 = .ok (.ifCond .eq 7, 3) := by decide +kernel
theorem dJ9_floorMod_7cf53_14 : decode cJ9_floorMod_7cf53 14 = .ok (.iload_n 2, 1) := by decide +kernel
theorem dJ9_floorMod_7cf53_15 : decode cJ9_floorMod_7cf53 15 = .ok (.iload_n 1, 1) := by decide +kernel
theorem dJ9_floorMod_7cf53_16 : decode cJ9_floorMod_7cf53 16 = .ok (.iadd, 1) := by decide +kernel
theorem dJ9_floorMod_7cf53_17 : decode cJ9_floorMod_7cf53 17 = .ok (.ireturn, 1) := by decide +kernel
theorem dJ9_floorMod_7cf53_18 : decode cJ9_floorMod_7cf53 18 = .ok (.iload_n 2, 1) := by decide +kernel
theorem dJ9_floorMod_7cf53_19 : decode cJ9_floorMod_7cf53 19 = .ok (.ireturn, 1) := by decide +kernel
theorem dJ9_max_7cf53_0 : decode cJ9_max_7cf53 0 = .ok (.iload_n 0, 1) := by decide +kernel
theorem dJ9_max_7cf53_1 : decode cJ9_max_7cf53 1 = .ok (.iload_n 1, 1) := by decide +kernel
theorem dJ9_max_7cf53_2 : decode cJ9_max_7cf53 2 = .ok (.if_icmp .lt 7, 3) := by decide +kernel
theorem dJ9_max_7cf53_5 : decode cJ9_max_7cf53 5 = .ok (.iload_n 0, 1) := by decide +kernel
theorem dJ9_max_7cf53_6 : decode cJ9_max_7cf53 6 = .ok (.goto 4, 3) := by decide +kernel
theorem dJ9_max_7cf53_9 : decode cJ9_max_7cf53 9 = .ok (.iload_n 1, 1) := by decide +kernel
theorem dJ9_max_7cf53_10 : decode cJ9_max_7cf53 10 = .ok (.ireturn, 1) := by decide +kernel
theorem dJ7_fill_53178_0 : decode cJ7_fill_53178 0 = .ok (.iconst 0, 1) := by decide +kernel
theorem dJ7_fill_53178_1 : decode cJ7_fill_53178 1 = .ok (.istore_n 2, 1) := by decide +kernel
theorem dJ7_fill_53178_2 : decode cJ7_fill_53178 2 = .ok (.aload_n 0, 1) := by decide +kernel
theorem dJ7_fill_53178_3 : decode cJ7_fill_53178 3 = .ok (.arraylength, 1) := by decide +kernel
theorem dJ7_fill_53178_4 : decode cJ7_fill_53178 4 = .ok (.istore_n 3, 1) := by decide +kernel
theorem dJ7_fill_53178_5 : decode cJ7_fill_53178 5 = .ok (.iload_n 2, 1) := by decide +kernel
theorem dJ7_fill_53178_6 : decode cJ7_fill_53178 6 = .ok (.iload_n 3, 1) := by decide +kernel
theorem dJ7_fill_53178_7 : decode cJ7_fill_53178 7 = .ok (.if_icmp .ge 13, 3) := by decide +kernel
theorem dJ7_fill_53178_10 : decode cJ7_fill_53178 10 = .ok (.aload_n 0, 1) := by decide +kernel
theorem dJ7_fill_53178_11 : decode cJ7_fill_53178 11 = .ok (.iload_n 2, 1) := by decide +kernel
theorem dJ7_fill_53178_12 : decode cJ7_fill_53178 12 = .ok (.iload_n 1, 1) := by decide +kernel
theorem dJ7_fill_53178_13 : decode cJ7_fill_53178 13 = .ok (.iastore, 1) := by decide +kernel
theorem dJ7_fill_53178_14 : decode cJ7_fill_53178 14 = .ok (.iinc 2 1, 3) := by decide +kernel
theorem dJ7_fill_53178_17 : decode cJ7_fill_53178 17 = .ok (.goto (-12), 3) := by decide +kernel
theorem dJ7_fill_53178_20 : decode cJ7_fill_53178 20 = .ok (.return_, 1) := by decide +kernel
theorem dL_law_0 : decode cL_law 0 = .ok (.new 7, 3) := by decide +kernel
theorem dL_law_3 : decode cL_law 3 = .ok (.dup, 1) := by decide +kernel
theorem dL_law_4 : decode cL_law 4 = .ok (.invokespecial 9, 3) := by decide +kernel
theorem dL_law_7 : decode cL_law 7 = .ok (.astore_n 1, 1) := by decide +kernel
theorem dL_law_8 : decode cL_law 8 = .ok (.new 10, 3) := by decide +kernel
theorem dL_law_11 : decode cL_law 11 = .ok (.dup, 1) := by decide +kernel
theorem dL_law_12 : decode cL_law 12 = .ok (.invokespecial 12, 3) := by decide +kernel
theorem dL_law_15 : decode cL_law 15 = .ok (.astore_n 2, 1) := by decide +kernel
theorem dL_law_16 : decode cL_law 16 = .ok (.iconst 0, 1) := by decide +kernel
theorem dL_law_17 : decode cL_law 17 = .ok (.istore_n 3, 1) := by decide +kernel
theorem dL_law_18 : decode cL_law 18 = .ok (.iload_n 3, 1) := by decide +kernel
theorem dL_law_19 : decode cL_law 19 = .ok (.aload_n 0, 1) := by decide +kernel
theorem dL_law_20 : decode cL_law 20 = .ok (.arraylength, 1) := by decide +kernel
theorem dL_law_21 : decode cL_law 21 = .ok (.iconst 4, 1) := by decide +kernel
theorem dL_law_22 : decode cL_law 22 = .ok (.isub, 1) := by decide +kernel
theorem dL_law_23 : decode cL_law 23 = .ok (.if_icmp .gt 699, 3) := by decide +kernel
theorem dL_law_26 : decode cL_law 26 = .ok (.aload_n 0, 1) := by decide +kernel
theorem dL_law_27 : decode cL_law 27 = .ok (.iload_n 3, 1) := by decide +kernel
theorem dL_law_28 : decode cL_law 28 = .ok (.iaload, 1) := by decide +kernel
theorem dL_law_29 : decode cL_law 29 = .ok (.bipush 31, 2) := by decide +kernel
theorem dL_law_31 : decode cL_law 31 = .ok (.iand, 1) := by decide +kernel
theorem dL_law_32 : decode cL_law 32 = .ok (.tableswitch 684 0 20 #[100, 133, 176, 219, 242, 285, 308, 331, 354, 377, 410, 443, 476, 509, 532, 565, 598, 621, 634, 647, 670], 100) := by decide +kernel
theorem dL_law_132 : decode cL_law 132 = .ok (.aload_n 1, 1) := by decide +kernel
theorem dL_law_133 : decode cL_law 133 = .ok (.aload_n 0, 1) := by decide +kernel
theorem dL_law_134 : decode cL_law 134 = .ok (.iload_n 3, 1) := by decide +kernel
theorem dL_law_135 : decode cL_law 135 = .ok (.iconst 1, 1) := by decide +kernel
theorem dL_law_136 : decode cL_law 136 = .ok (.iadd, 1) := by decide +kernel
theorem dL_law_137 : decode cL_law 137 = .ok (.iaload, 1) := by decide +kernel
theorem dL_law_138 : decode cL_law 138 = .ok (.aload_n 0, 1) := by decide +kernel
theorem dL_law_139 : decode cL_law 139 = .ok (.iload_n 3, 1) := by decide +kernel
theorem dL_law_140 : decode cL_law 140 = .ok (.iconst 2, 1) := by decide +kernel
theorem dL_law_141 : decode cL_law 141 = .ok (.iadd, 1) := by decide +kernel
theorem dL_law_142 : decode cL_law 142 = .ok (.iaload, 1) := by decide +kernel
theorem dL_law_143 : decode cL_law 143 = .ok (.invokevirtual 13, 3) := by decide +kernel
theorem dL_law_146 : decode cL_law 146 = .ok (.aload_n 2, 1) := by decide +kernel
theorem dL_law_147 : decode cL_law 147 = .ok (.aload_n 0, 1) := by decide +kernel
theorem dL_law_148 : decode cL_law 148 = .ok (.iload_n 3, 1) := by decide +kernel
theorem dL_law_149 : decode cL_law 149 = .ok (.iconst 1, 1) := by decide +kernel
theorem dL_law_150 : decode cL_law 150 = .ok (.iadd, 1) := by decide +kernel
theorem dL_law_151 : decode cL_law 151 = .ok (.iaload, 1) := by decide +kernel
theorem dL_law_152 : decode cL_law 152 = .ok (.aload_n 0, 1) := by decide +kernel
theorem dL_law_153 : decode cL_law 153 = .ok (.iload_n 3, 1) := by decide +kernel
theorem dL_law_154 : decode cL_law 154 = .ok (.iconst 2, 1) := by decide +kernel
theorem dL_law_155 : decode cL_law 155 = .ok (.iadd, 1) := by decide +kernel
theorem dL_law_156 : decode cL_law 156 = .ok (.iaload, 1) := by decide +kernel
theorem dL_law_157 : decode cL_law 157 = .ok (.invokevirtual 17, 3) := by decide +kernel
theorem dL_law_160 : decode cL_law 160 = .ok (.if_icmp .eq 556, 3) := by decide +kernel
theorem dL_law_163 : decode cL_law 163 = .ok (.iconst 0, 1) := by decide +kernel
theorem dL_law_164 : decode cL_law 164 = .ok (.ireturn, 1) := by decide +kernel
theorem dL_law_165 : decode cL_law 165 = .ok (.aload_n 1, 1) := by decide +kernel
theorem dL_law_166 : decode cL_law 166 = .ok (.aload_n 0, 1) := by decide +kernel
theorem dL_law_167 : decode cL_law 167 = .ok (.iload_n 3, 1) := by decide +kernel
theorem dL_law_168 : decode cL_law 168 = .ok (.iconst 1, 1) := by decide +kernel
theorem dL_law_169 : decode cL_law 169 = .ok (.iadd, 1) := by decide +kernel
theorem dL_law_170 : decode cL_law 170 = .ok (.iaload, 1) := by decide +kernel
theorem dL_law_171 : decode cL_law 171 = .ok (.aload_n 0, 1) := by decide +kernel
theorem dL_law_172 : decode cL_law 172 = .ok (.iload_n 3, 1) := by decide +kernel
theorem dL_law_173 : decode cL_law 173 = .ok (.iconst 2, 1) := by decide +kernel
theorem dL_law_174 : decode cL_law 174 = .ok (.iadd, 1) := by decide +kernel
theorem dL_law_175 : decode cL_law 175 = .ok (.iaload, 1) := by decide +kernel
theorem dL_law_176 : decode cL_law 176 = .ok (.aload_n 0, 1) := by decide +kernel
theorem dL_law_177 : decode cL_law 177 = .ok (.iload_n 3, 1) := by decide +kernel
theorem dL_law_178 : decode cL_law 178 = .ok (.iconst 3, 1) := by decide +kernel
theorem dL_law_179 : decode cL_law 179 = .ok (.iadd, 1) := by decide +kernel
theorem dL_law_180 : decode cL_law 180 = .ok (.iaload, 1) := by decide +kernel
theorem dL_law_181 : decode cL_law 181 = .ok (.invokevirtual 18, 3) := by decide +kernel
theorem dL_law_184 : decode cL_law 184 = .ok (.aload_n 2, 1) := by decide +kernel
theorem dL_law_185 : decode cL_law 185 = .ok (.aload_n 0, 1) := by decide +kernel
theorem dL_law_186 : decode cL_law 186 = .ok (.iload_n 3, 1) := by decide +kernel
theorem dL_law_187 : decode cL_law 187 = .ok (.iconst 1, 1) := by decide +kernel
theorem dL_law_188 : decode cL_law 188 = .ok (.iadd, 1) := by decide +kernel
theorem dL_law_189 : decode cL_law 189 = .ok (.iaload, 1) := by decide +kernel
theorem dL_law_190 : decode cL_law 190 = .ok (.aload_n 0, 1) := by decide +kernel
theorem dL_law_191 : decode cL_law 191 = .ok (.iload_n 3, 1) := by decide +kernel
theorem dL_law_192 : decode cL_law 192 = .ok (.iconst 2, 1) := by decide +kernel
theorem dL_law_193 : decode cL_law 193 = .ok (.iadd, 1) := by decide +kernel
theorem dL_law_194 : decode cL_law 194 = .ok (.iaload, 1) := by decide +kernel
theorem dL_law_195 : decode cL_law 195 = .ok (.aload_n 0, 1) := by decide +kernel
theorem dL_law_196 : decode cL_law 196 = .ok (.iload_n 3, 1) := by decide +kernel
theorem dL_law_197 : decode cL_law 197 = .ok (.iconst 3, 1) := by decide +kernel
theorem dL_law_198 : decode cL_law 198 = .ok (.iadd, 1) := by decide +kernel
theorem dL_law_199 : decode cL_law 199 = .ok (.iaload, 1) := by decide +kernel
theorem dL_law_200 : decode cL_law 200 = .ok (.invokevirtual 22, 3) := by decide +kernel
theorem dL_law_203 : decode cL_law 203 = .ok (.if_icmp .eq 513, 3) := by decide +kernel
theorem dL_law_206 : decode cL_law 206 = .ok (.iconst 0, 1) := by decide +kernel
theorem dL_law_207 : decode cL_law 207 = .ok (.ireturn, 1) := by decide +kernel
theorem dL_law_208 : decode cL_law 208 = .ok (.aload_n 1, 1) := by decide +kernel
theorem dL_law_209 : decode cL_law 209 = .ok (.aload_n 0, 1) := by decide +kernel
theorem dL_law_210 : decode cL_law 210 = .ok (.iload_n 3, 1) := by decide +kernel
theorem dL_law_211 : decode cL_law 211 = .ok (.iconst 1, 1) := by decide +kernel
theorem dL_law_212 : decode cL_law 212 = .ok (.iadd, 1) := by decide +kernel
theorem dL_law_213 : decode cL_law 213 = .ok (.iaload, 1) := by decide +kernel
theorem dL_law_214 : decode cL_law 214 = .ok (.aload_n 0, 1) := by decide +kernel
theorem dL_law_215 : decode cL_law 215 = .ok (.iload_n 3, 1) := by decide +kernel
theorem dL_law_216 : decode cL_law 216 = .ok (.iconst 2, 1) := by decide +kernel
theorem dL_law_217 : decode cL_law 217 = .ok (.iadd, 1) := by decide +kernel
theorem dL_law_218 : decode cL_law 218 = .ok (.iaload, 1) := by decide +kernel
theorem dL_law_219 : decode cL_law 219 = .ok (.aload_n 0, 1) := by decide +kernel
theorem dL_law_220 : decode cL_law 220 = .ok (.iload_n 3, 1) := by decide +kernel
theorem dL_law_221 : decode cL_law 221 = .ok (.iconst 3, 1) := by decide +kernel
theorem dL_law_222 : decode cL_law 222 = .ok (.iadd, 1) := by decide +kernel
theorem dL_law_223 : decode cL_law 223 = .ok (.iaload, 1) := by decide +kernel
theorem dL_law_224 : decode cL_law 224 = .ok (.invokevirtual 23, 3) := by decide +kernel
theorem dL_law_227 : decode cL_law 227 = .ok (.aload_n 2, 1) := by decide +kernel
theorem dL_law_228 : decode cL_law 228 = .ok (.aload_n 0, 1) := by decide +kernel
theorem dL_law_229 : decode cL_law 229 = .ok (.iload_n 3, 1) := by decide +kernel
theorem dL_law_230 : decode cL_law 230 = .ok (.iconst 1, 1) := by decide +kernel
theorem dL_law_231 : decode cL_law 231 = .ok (.iadd, 1) := by decide +kernel
theorem dL_law_232 : decode cL_law 232 = .ok (.iaload, 1) := by decide +kernel
theorem dL_law_233 : decode cL_law 233 = .ok (.aload_n 0, 1) := by decide +kernel
theorem dL_law_234 : decode cL_law 234 = .ok (.iload_n 3, 1) := by decide +kernel
theorem dL_law_235 : decode cL_law 235 = .ok (.iconst 2, 1) := by decide +kernel
theorem dL_law_236 : decode cL_law 236 = .ok (.iadd, 1) := by decide +kernel
theorem dL_law_237 : decode cL_law 237 = .ok (.iaload, 1) := by decide +kernel
theorem dL_law_238 : decode cL_law 238 = .ok (.aload_n 0, 1) := by decide +kernel
theorem dL_law_239 : decode cL_law 239 = .ok (.iload_n 3, 1) := by decide +kernel
theorem dL_law_240 : decode cL_law 240 = .ok (.iconst 3, 1) := by decide +kernel
theorem dL_law_241 : decode cL_law 241 = .ok (.iadd, 1) := by decide +kernel
theorem dL_law_242 : decode cL_law 242 = .ok (.iaload, 1) := by decide +kernel
theorem dL_law_243 : decode cL_law 243 = .ok (.invokevirtual 26, 3) := by decide +kernel
theorem dL_law_246 : decode cL_law 246 = .ok (.if_icmp .eq 470, 3) := by decide +kernel
theorem dL_law_249 : decode cL_law 249 = .ok (.iconst 0, 1) := by decide +kernel
theorem dL_law_250 : decode cL_law 250 = .ok (.ireturn, 1) := by decide +kernel
theorem dL_law_251 : decode cL_law 251 = .ok (.aload_n 1, 1) := by decide +kernel
theorem dL_law_252 : decode cL_law 252 = .ok (.aload_n 0, 1) := by decide +kernel
theorem dL_law_253 : decode cL_law 253 = .ok (.iload_n 3, 1) := by decide +kernel
theorem dL_law_254 : decode cL_law 254 = .ok (.iconst 1, 1) := by decide +kernel
theorem dL_law_255 : decode cL_law 255 = .ok (.iadd, 1) := by decide +kernel
theorem dL_law_256 : decode cL_law 256 = .ok (.iaload, 1) := by decide +kernel
theorem dL_law_257 : decode cL_law 257 = .ok (.invokevirtual 27, 3) := by decide +kernel
theorem dL_law_260 : decode cL_law 260 = .ok (.aload_n 2, 1) := by decide +kernel
theorem dL_law_261 : decode cL_law 261 = .ok (.aload_n 0, 1) := by decide +kernel
theorem dL_law_262 : decode cL_law 262 = .ok (.iload_n 3, 1) := by decide +kernel
theorem dL_law_263 : decode cL_law 263 = .ok (.iconst 1, 1) := by decide +kernel
theorem dL_law_264 : decode cL_law 264 = .ok (.iadd, 1) := by decide +kernel
theorem dL_law_265 : decode cL_law 265 = .ok (.iaload, 1) := by decide +kernel
theorem dL_law_266 : decode cL_law 266 = .ok (.invokevirtual 31, 3) := by decide +kernel
theorem dL_law_269 : decode cL_law 269 = .ok (.if_icmp .eq 447, 3) := by decide +kernel
theorem dL_law_272 : decode cL_law 272 = .ok (.iconst 0, 1) := by decide +kernel
theorem dL_law_273 : decode cL_law 273 = .ok (.ireturn, 1) := by decide +kernel
theorem dL_law_274 : decode cL_law 274 = .ok (.aload_n 1, 1) := by decide +kernel
theorem dL_law_275 : decode cL_law 275 = .ok (.aload_n 0, 1) := by decide +kernel
theorem dL_law_276 : decode cL_law 276 = .ok (.iload_n 3, 1) := by decide +kernel
theorem dL_law_277 : decode cL_law 277 = .ok (.iconst 1, 1) := by decide +kernel
theorem dL_law_278 : decode cL_law 278 = .ok (.iadd, 1) := by decide +kernel
theorem dL_law_279 : decode cL_law 279 = .ok (.iaload, 1) := by decide +kernel
theorem dL_law_280 : decode cL_law 280 = .ok (.aload_n 0, 1) := by decide +kernel
theorem dL_law_281 : decode cL_law 281 = .ok (.iload_n 3, 1) := by decide +kernel
theorem dL_law_282 : decode cL_law 282 = .ok (.iconst 2, 1) := by decide +kernel
theorem dL_law_283 : decode cL_law 283 = .ok (.iadd, 1) := by decide +kernel
theorem dL_law_284 : decode cL_law 284 = .ok (.iaload, 1) := by decide +kernel
theorem dL_law_285 : decode cL_law 285 = .ok (.aload_n 0, 1) := by decide +kernel
theorem dL_law_286 : decode cL_law 286 = .ok (.iload_n 3, 1) := by decide +kernel
theorem dL_law_287 : decode cL_law 287 = .ok (.iconst 3, 1) := by decide +kernel
theorem dL_law_288 : decode cL_law 288 = .ok (.iadd, 1) := by decide +kernel
theorem dL_law_289 : decode cL_law 289 = .ok (.iaload, 1) := by decide +kernel
theorem dL_law_290 : decode cL_law 290 = .ok (.invokevirtual 32, 3) := by decide +kernel
theorem dL_law_293 : decode cL_law 293 = .ok (.aload_n 2, 1) := by decide +kernel
theorem dL_law_294 : decode cL_law 294 = .ok (.aload_n 0, 1) := by decide +kernel
theorem dL_law_295 : decode cL_law 295 = .ok (.iload_n 3, 1) := by decide +kernel
theorem dL_law_296 : decode cL_law 296 = .ok (.iconst 1, 1) := by decide +kernel
theorem dL_law_297 : decode cL_law 297 = .ok (.iadd, 1) := by decide +kernel
theorem dL_law_298 : decode cL_law 298 = .ok (.iaload, 1) := by decide +kernel
theorem dL_law_299 : decode cL_law 299 = .ok (.aload_n 0, 1) := by decide +kernel
theorem dL_law_300 : decode cL_law 300 = .ok (.iload_n 3, 1) := by decide +kernel
theorem dL_law_301 : decode cL_law 301 = .ok (.iconst 2, 1) := by decide +kernel
theorem dL_law_302 : decode cL_law 302 = .ok (.iadd, 1) := by decide +kernel
theorem dL_law_303 : decode cL_law 303 = .ok (.iaload, 1) := by decide +kernel
theorem dL_law_304 : decode cL_law 304 = .ok (.aload_n 0, 1) := by decide +kernel
theorem dL_law_305 : decode cL_law 305 = .ok (.iload_n 3, 1) := by decide +kernel
theorem dL_law_306 : decode cL_law 306 = .ok (.iconst 3, 1) := by decide +kernel
theorem dL_law_307 : decode cL_law 307 = .ok (.iadd, 1) := by decide +kernel
theorem dL_law_308 : decode cL_law 308 = .ok (.iaload, 1) := by decide +kernel
theorem dL_law_309 : decode cL_law 309 = .ok (.invokevirtual 35, 3) := by decide +kernel
theorem dL_law_312 : decode cL_law 312 = .ok (.if_icmp .eq 404, 3) := by decide +kernel
theorem dL_law_315 : decode cL_law 315 = .ok (.iconst 0, 1) := by decide +kernel
theorem dL_law_316 : decode cL_law 316 = .ok (.ireturn, 1) := by decide +kernel
theorem dL_law_317 : decode cL_law 317 = .ok (.aload_n 1, 1) := by decide +kernel
theorem dL_law_318 : decode cL_law 318 = .ok (.aload_n 0, 1) := by decide +kernel
theorem dL_law_319 : decode cL_law 319 = .ok (.iload_n 3, 1) := by decide +kernel
theorem dL_law_320 : decode cL_law 320 = .ok (.iconst 1, 1) := by decide +kernel
theorem dL_law_321 : decode cL_law 321 = .ok (.iadd, 1) := by decide +kernel
theorem dL_law_322 : decode cL_law 322 = .ok (.iaload, 1) := by decide +kernel
theorem dL_law_323 : decode cL_law 323 = .ok (.invokevirtual 36, 3) := by decide +kernel
theorem dL_law_326 : decode cL_law 326 = .ok (.aload_n 2, 1) := by decide +kernel
theorem dL_law_327 : decode cL_law 327 = .ok (.aload_n 0, 1) := by decide +kernel
theorem dL_law_328 : decode cL_law 328 = .ok (.iload_n 3, 1) := by decide +kernel
theorem dL_law_329 : decode cL_law 329 = .ok (.iconst 1, 1) := by decide +kernel
theorem dL_law_330 : decode cL_law 330 = .ok (.iadd, 1) := by decide +kernel
theorem dL_law_331 : decode cL_law 331 = .ok (.iaload, 1) := by decide +kernel
theorem dL_law_332 : decode cL_law 332 = .ok (.invokevirtual 39, 3) := by decide +kernel
theorem dL_law_335 : decode cL_law 335 = .ok (.if_icmp .eq 381, 3) := by decide +kernel
theorem dL_law_338 : decode cL_law 338 = .ok (.iconst 0, 1) := by decide +kernel
theorem dL_law_339 : decode cL_law 339 = .ok (.ireturn, 1) := by decide +kernel
theorem dL_law_340 : decode cL_law 340 = .ok (.aload_n 1, 1) := by decide +kernel
theorem dL_law_341 : decode cL_law 341 = .ok (.aload_n 0, 1) := by decide +kernel
theorem dL_law_342 : decode cL_law 342 = .ok (.iload_n 3, 1) := by decide +kernel
theorem dL_law_343 : decode cL_law 343 = .ok (.iconst 1, 1) := by decide +kernel
theorem dL_law_344 : decode cL_law 344 = .ok (.iadd, 1) := by decide +kernel
theorem dL_law_345 : decode cL_law 345 = .ok (.iaload, 1) := by decide +kernel
theorem dL_law_346 : decode cL_law 346 = .ok (.invokevirtual 40, 3) := by decide +kernel
theorem dL_law_349 : decode cL_law 349 = .ok (.aload_n 2, 1) := by decide +kernel
theorem dL_law_350 : decode cL_law 350 = .ok (.aload_n 0, 1) := by decide +kernel
theorem dL_law_351 : decode cL_law 351 = .ok (.iload_n 3, 1) := by decide +kernel
theorem dL_law_352 : decode cL_law 352 = .ok (.iconst 1, 1) := by decide +kernel
theorem dL_law_353 : decode cL_law 353 = .ok (.iadd, 1) := by decide +kernel
theorem dL_law_354 : decode cL_law 354 = .ok (.iaload, 1) := by decide +kernel
theorem dL_law_355 : decode cL_law 355 = .ok (.invokevirtual 43, 3) := by decide +kernel
theorem dL_law_358 : decode cL_law 358 = .ok (.if_icmp .eq 358, 3) := by decide +kernel
theorem dL_law_361 : decode cL_law 361 = .ok (.iconst 0, 1) := by decide +kernel
theorem dL_law_362 : decode cL_law 362 = .ok (.ireturn, 1) := by decide +kernel
theorem dL_law_363 : decode cL_law 363 = .ok (.aload_n 1, 1) := by decide +kernel
theorem dL_law_364 : decode cL_law 364 = .ok (.aload_n 0, 1) := by decide +kernel
theorem dL_law_365 : decode cL_law 365 = .ok (.iload_n 3, 1) := by decide +kernel
theorem dL_law_366 : decode cL_law 366 = .ok (.iconst 1, 1) := by decide +kernel
theorem dL_law_367 : decode cL_law 367 = .ok (.iadd, 1) := by decide +kernel
theorem dL_law_368 : decode cL_law 368 = .ok (.iaload, 1) := by decide +kernel
theorem dL_law_369 : decode cL_law 369 = .ok (.invokevirtual 44, 3) := by decide +kernel
theorem dL_law_372 : decode cL_law 372 = .ok (.aload_n 2, 1) := by decide +kernel
theorem dL_law_373 : decode cL_law 373 = .ok (.aload_n 0, 1) := by decide +kernel
theorem dL_law_374 : decode cL_law 374 = .ok (.iload_n 3, 1) := by decide +kernel
theorem dL_law_375 : decode cL_law 375 = .ok (.iconst 1, 1) := by decide +kernel
theorem dL_law_376 : decode cL_law 376 = .ok (.iadd, 1) := by decide +kernel
theorem dL_law_377 : decode cL_law 377 = .ok (.iaload, 1) := by decide +kernel
theorem dL_law_378 : decode cL_law 378 = .ok (.invokevirtual 47, 3) := by decide +kernel
theorem dL_law_381 : decode cL_law 381 = .ok (.if_icmp .eq 335, 3) := by decide +kernel
theorem dL_law_384 : decode cL_law 384 = .ok (.iconst 0, 1) := by decide +kernel
theorem dL_law_385 : decode cL_law 385 = .ok (.ireturn, 1) := by decide +kernel
theorem dL_law_386 : decode cL_law 386 = .ok (.aload_n 1, 1) := by decide +kernel
theorem dL_law_387 : decode cL_law 387 = .ok (.aload_n 0, 1) := by decide +kernel
theorem dL_law_388 : decode cL_law 388 = .ok (.iload_n 3, 1) := by decide +kernel
theorem dL_law_389 : decode cL_law 389 = .ok (.iconst 1, 1) := by decide +kernel
theorem dL_law_390 : decode cL_law 390 = .ok (.iadd, 1) := by decide +kernel
theorem dL_law_391 : decode cL_law 391 = .ok (.iaload, 1) := by decide +kernel
theorem dL_law_392 : decode cL_law 392 = .ok (.invokevirtual 48, 3) := by decide +kernel
theorem dL_law_395 : decode cL_law 395 = .ok (.aload_n 2, 1) := by decide +kernel
theorem dL_law_396 : decode cL_law 396 = .ok (.aload_n 0, 1) := by decide +kernel
theorem dL_law_397 : decode cL_law 397 = .ok (.iload_n 3, 1) := by decide +kernel
theorem dL_law_398 : decode cL_law 398 = .ok (.iconst 1, 1) := by decide +kernel
theorem dL_law_399 : decode cL_law 399 = .ok (.iadd, 1) := by decide +kernel
theorem dL_law_400 : decode cL_law 400 = .ok (.iaload, 1) := by decide +kernel
theorem dL_law_401 : decode cL_law 401 = .ok (.invokevirtual 51, 3) := by decide +kernel
theorem dL_law_404 : decode cL_law 404 = .ok (.if_icmp .eq 312, 3) := by decide +kernel
theorem dL_law_407 : decode cL_law 407 = .ok (.iconst 0, 1) := by decide +kernel
theorem dL_law_408 : decode cL_law 408 = .ok (.ireturn, 1) := by decide +kernel
theorem dL_law_409 : decode cL_law 409 = .ok (.aload_n 1, 1) := by decide +kernel
theorem dL_law_410 : decode cL_law 410 = .ok (.aload_n 0, 1) := by decide +kernel
theorem dL_law_411 : decode cL_law 411 = .ok (.iload_n 3, 1) := by decide +kernel
theorem dL_law_412 : decode cL_law 412 = .ok (.iconst 1, 1) := by decide +kernel
theorem dL_law_413 : decode cL_law 413 = .ok (.iadd, 1) := by decide +kernel
theorem dL_law_414 : decode cL_law 414 = .ok (.iaload, 1) := by decide +kernel
theorem dL_law_415 : decode cL_law 415 = .ok (.aload_n 0, 1) := by decide +kernel
theorem dL_law_416 : decode cL_law 416 = .ok (.iload_n 3, 1) := by decide +kernel
theorem dL_law_417 : decode cL_law 417 = .ok (.iconst 2, 1) := by decide +kernel
theorem dL_law_418 : decode cL_law 418 = .ok (.iadd, 1) := by decide +kernel
theorem dL_law_419 : decode cL_law 419 = .ok (.iaload, 1) := by decide +kernel
theorem dL_law_420 : decode cL_law 420 = .ok (.invokevirtual 52, 3) := by decide +kernel
theorem dL_law_423 : decode cL_law 423 = .ok (.aload_n 2, 1) := by decide +kernel
theorem dL_law_424 : decode cL_law 424 = .ok (.aload_n 0, 1) := by decide +kernel
theorem dL_law_425 : decode cL_law 425 = .ok (.iload_n 3, 1) := by decide +kernel
theorem dL_law_426 : decode cL_law 426 = .ok (.iconst 1, 1) := by decide +kernel
theorem dL_law_427 : decode cL_law 427 = .ok (.iadd, 1) := by decide +kernel
theorem dL_law_428 : decode cL_law 428 = .ok (.iaload, 1) := by decide +kernel
theorem dL_law_429 : decode cL_law 429 = .ok (.aload_n 0, 1) := by decide +kernel
theorem dL_law_430 : decode cL_law 430 = .ok (.iload_n 3, 1) := by decide +kernel
theorem dL_law_431 : decode cL_law 431 = .ok (.iconst 2, 1) := by decide +kernel
theorem dL_law_432 : decode cL_law 432 = .ok (.iadd, 1) := by decide +kernel
theorem dL_law_433 : decode cL_law 433 = .ok (.iaload, 1) := by decide +kernel
theorem dL_law_434 : decode cL_law 434 = .ok (.invokevirtual 55, 3) := by decide +kernel
theorem dL_law_437 : decode cL_law 437 = .ok (.if_icmp .eq 279, 3) := by decide +kernel
theorem dL_law_440 : decode cL_law 440 = .ok (.iconst 0, 1) := by decide +kernel
theorem dL_law_441 : decode cL_law 441 = .ok (.ireturn, 1) := by decide +kernel
theorem dL_law_442 : decode cL_law 442 = .ok (.aload_n 1, 1) := by decide +kernel
theorem dL_law_443 : decode cL_law 443 = .ok (.aload_n 0, 1) := by decide +kernel
theorem dL_law_444 : decode cL_law 444 = .ok (.iload_n 3, 1) := by decide +kernel
theorem dL_law_445 : decode cL_law 445 = .ok (.iconst 1, 1) := by decide +kernel
theorem dL_law_446 : decode cL_law 446 = .ok (.iadd, 1) := by decide +kernel
theorem dL_law_447 : decode cL_law 447 = .ok (.iaload, 1) := by decide +kernel
theorem dL_law_448 : decode cL_law 448 = .ok (.aload_n 0, 1) := by decide +kernel
theorem dL_law_449 : decode cL_law 449 = .ok (.iload_n 3, 1) := by decide +kernel
theorem dL_law_450 : decode cL_law 450 = .ok (.iconst 2, 1) := by decide +kernel
theorem dL_law_451 : decode cL_law 451 = .ok (.iadd, 1) := by decide +kernel
theorem dL_law_452 : decode cL_law 452 = .ok (.iaload, 1) := by decide +kernel
theorem dL_law_453 : decode cL_law 453 = .ok (.invokevirtual 56, 3) := by decide +kernel
theorem dL_law_456 : decode cL_law 456 = .ok (.aload_n 2, 1) := by decide +kernel
theorem dL_law_457 : decode cL_law 457 = .ok (.aload_n 0, 1) := by decide +kernel
theorem dL_law_458 : decode cL_law 458 = .ok (.iload_n 3, 1) := by decide +kernel
theorem dL_law_459 : decode cL_law 459 = .ok (.iconst 1, 1) := by decide +kernel
theorem dL_law_460 : decode cL_law 460 = .ok (.iadd, 1) := by decide +kernel
theorem dL_law_461 : decode cL_law 461 = .ok (.iaload, 1) := by decide +kernel
theorem dL_law_462 : decode cL_law 462 = .ok (.aload_n 0, 1) := by decide +kernel
theorem dL_law_463 : decode cL_law 463 = .ok (.iload_n 3, 1) := by decide +kernel
theorem dL_law_464 : decode cL_law 464 = .ok (.iconst 2, 1) := by decide +kernel
theorem dL_law_465 : decode cL_law 465 = .ok (.iadd, 1) := by decide +kernel
theorem dL_law_466 : decode cL_law 466 = .ok (.iaload, 1) := by decide +kernel
theorem dL_law_467 : decode cL_law 467 = .ok (.invokevirtual 59, 3) := by decide +kernel
theorem dL_law_470 : decode cL_law 470 = .ok (.if_icmp .eq 246, 3) := by decide +kernel
theorem dL_law_473 : decode cL_law 473 = .ok (.iconst 0, 1) := by decide +kernel
theorem dL_law_474 : decode cL_law 474 = .ok (.ireturn, 1) := by decide +kernel
theorem dL_law_475 : decode cL_law 475 = .ok (.aload_n 1, 1) := by decide +kernel
theorem dL_law_476 : decode cL_law 476 = .ok (.aload_n 0, 1) := by decide +kernel
theorem dL_law_477 : decode cL_law 477 = .ok (.iload_n 3, 1) := by decide +kernel
theorem dL_law_478 : decode cL_law 478 = .ok (.iconst 1, 1) := by decide +kernel
theorem dL_law_479 : decode cL_law 479 = .ok (.iadd, 1) := by decide +kernel
theorem dL_law_480 : decode cL_law 480 = .ok (.iaload, 1) := by decide +kernel
theorem dL_law_481 : decode cL_law 481 = .ok (.aload_n 0, 1) := by decide +kernel
theorem dL_law_482 : decode cL_law 482 = .ok (.iload_n 3, 1) := by decide +kernel
theorem dL_law_483 : decode cL_law 483 = .ok (.iconst 2, 1) := by decide +kernel
theorem dL_law_484 : decode cL_law 484 = .ok (.iadd, 1) := by decide +kernel
theorem dL_law_485 : decode cL_law 485 = .ok (.iaload, 1) := by decide +kernel
theorem dL_law_486 : decode cL_law 486 = .ok (.invokevirtual 60, 3) := by decide +kernel
theorem dL_law_489 : decode cL_law 489 = .ok (.aload_n 2, 1) := by decide +kernel
theorem dL_law_490 : decode cL_law 490 = .ok (.aload_n 0, 1) := by decide +kernel
theorem dL_law_491 : decode cL_law 491 = .ok (.iload_n 3, 1) := by decide +kernel
theorem dL_law_492 : decode cL_law 492 = .ok (.iconst 1, 1) := by decide +kernel
theorem dL_law_493 : decode cL_law 493 = .ok (.iadd, 1) := by decide +kernel
theorem dL_law_494 : decode cL_law 494 = .ok (.iaload, 1) := by decide +kernel
theorem dL_law_495 : decode cL_law 495 = .ok (.aload_n 0, 1) := by decide +kernel
theorem dL_law_496 : decode cL_law 496 = .ok (.iload_n 3, 1) := by decide +kernel
theorem dL_law_497 : decode cL_law 497 = .ok (.iconst 2, 1) := by decide +kernel
theorem dL_law_498 : decode cL_law 498 = .ok (.iadd, 1) := by decide +kernel
theorem dL_law_499 : decode cL_law 499 = .ok (.iaload, 1) := by decide +kernel
theorem dL_law_500 : decode cL_law 500 = .ok (.invokevirtual 63, 3) := by decide +kernel
theorem dL_law_503 : decode cL_law 503 = .ok (.if_icmp .eq 213, 3) := by decide +kernel
theorem dL_law_506 : decode cL_law 506 = .ok (.iconst 0, 1) := by decide +kernel
theorem dL_law_507 : decode cL_law 507 = .ok (.ireturn, 1) := by decide +kernel
theorem dL_law_508 : decode cL_law 508 = .ok (.aload_n 1, 1) := by decide +kernel
theorem dL_law_509 : decode cL_law 509 = .ok (.aload_n 0, 1) := by decide +kernel
theorem dL_law_510 : decode cL_law 510 = .ok (.iload_n 3, 1) := by decide +kernel
theorem dL_law_511 : decode cL_law 511 = .ok (.iconst 1, 1) := by decide +kernel
theorem dL_law_512 : decode cL_law 512 = .ok (.iadd, 1) := by decide +kernel
theorem dL_law_513 : decode cL_law 513 = .ok (.iaload, 1) := by decide +kernel
theorem dL_law_514 : decode cL_law 514 = .ok (.aload_n 0, 1) := by decide +kernel
theorem dL_law_515 : decode cL_law 515 = .ok (.iload_n 3, 1) := by decide +kernel
theorem dL_law_516 : decode cL_law 516 = .ok (.iconst 2, 1) := by decide +kernel
theorem dL_law_517 : decode cL_law 517 = .ok (.iadd, 1) := by decide +kernel
theorem dL_law_518 : decode cL_law 518 = .ok (.iaload, 1) := by decide +kernel
theorem dL_law_519 : decode cL_law 519 = .ok (.invokevirtual 64, 3) := by decide +kernel
theorem dL_law_522 : decode cL_law 522 = .ok (.aload_n 2, 1) := by decide +kernel
theorem dL_law_523 : decode cL_law 523 = .ok (.aload_n 0, 1) := by decide +kernel
theorem dL_law_524 : decode cL_law 524 = .ok (.iload_n 3, 1) := by decide +kernel
theorem dL_law_525 : decode cL_law 525 = .ok (.iconst 1, 1) := by decide +kernel
theorem dL_law_526 : decode cL_law 526 = .ok (.iadd, 1) := by decide +kernel
theorem dL_law_527 : decode cL_law 527 = .ok (.iaload, 1) := by decide +kernel
theorem dL_law_528 : decode cL_law 528 = .ok (.aload_n 0, 1) := by decide +kernel
theorem dL_law_529 : decode cL_law 529 = .ok (.iload_n 3, 1) := by decide +kernel
theorem dL_law_530 : decode cL_law 530 = .ok (.iconst 2, 1) := by decide +kernel
theorem dL_law_531 : decode cL_law 531 = .ok (.iadd, 1) := by decide +kernel
theorem dL_law_532 : decode cL_law 532 = .ok (.iaload, 1) := by decide +kernel
theorem dL_law_533 : decode cL_law 533 = .ok (.invokevirtual 67, 3) := by decide +kernel
theorem dL_law_536 : decode cL_law 536 = .ok (.if_icmp .eq 180, 3) := by decide +kernel
theorem dL_law_539 : decode cL_law 539 = .ok (.iconst 0, 1) := by decide +kernel
theorem dL_law_540 : decode cL_law 540 = .ok (.ireturn, 1) := by decide +kernel
theorem dL_law_541 : decode cL_law 541 = .ok (.aload_n 1, 1) := by decide +kernel
theorem dL_law_542 : decode cL_law 542 = .ok (.aload_n 0, 1) := by decide +kernel
theorem dL_law_543 : decode cL_law 543 = .ok (.iload_n 3, 1) := by decide +kernel
theorem dL_law_544 : decode cL_law 544 = .ok (.iconst 1, 1) := by decide +kernel
theorem dL_law_545 : decode cL_law 545 = .ok (.iadd, 1) := by decide +kernel
theorem dL_law_546 : decode cL_law 546 = .ok (.iaload, 1) := by decide +kernel
theorem dL_law_547 : decode cL_law 547 = .ok (.invokevirtual 68, 3) := by decide +kernel
theorem dL_law_550 : decode cL_law 550 = .ok (.aload_n 2, 1) := by decide +kernel
theorem dL_law_551 : decode cL_law 551 = .ok (.aload_n 0, 1) := by decide +kernel
theorem dL_law_552 : decode cL_law 552 = .ok (.iload_n 3, 1) := by decide +kernel
theorem dL_law_553 : decode cL_law 553 = .ok (.iconst 1, 1) := by decide +kernel
theorem dL_law_554 : decode cL_law 554 = .ok (.iadd, 1) := by decide +kernel
theorem dL_law_555 : decode cL_law 555 = .ok (.iaload, 1) := by decide +kernel
theorem dL_law_556 : decode cL_law 556 = .ok (.invokevirtual 71, 3) := by decide +kernel
theorem dL_law_559 : decode cL_law 559 = .ok (.if_icmp .eq 157, 3) := by decide +kernel
theorem dL_law_562 : decode cL_law 562 = .ok (.iconst 0, 1) := by decide +kernel
theorem dL_law_563 : decode cL_law 563 = .ok (.ireturn, 1) := by decide +kernel
theorem dL_law_564 : decode cL_law 564 = .ok (.aload_n 1, 1) := by decide +kernel
theorem dL_law_565 : decode cL_law 565 = .ok (.aload_n 0, 1) := by decide +kernel
theorem dL_law_566 : decode cL_law 566 = .ok (.iload_n 3, 1) := by decide +kernel
theorem dL_law_567 : decode cL_law 567 = .ok (.iconst 1, 1) := by decide +kernel
theorem dL_law_568 : decode cL_law 568 = .ok (.iadd, 1) := by decide +kernel
theorem dL_law_569 : decode cL_law 569 = .ok (.iaload, 1) := by decide +kernel
theorem dL_law_570 : decode cL_law 570 = .ok (.aload_n 0, 1) := by decide +kernel
theorem dL_law_571 : decode cL_law 571 = .ok (.iload_n 3, 1) := by decide +kernel
theorem dL_law_572 : decode cL_law 572 = .ok (.iconst 2, 1) := by decide +kernel
theorem dL_law_573 : decode cL_law 573 = .ok (.iadd, 1) := by decide +kernel
theorem dL_law_574 : decode cL_law 574 = .ok (.iaload, 1) := by decide +kernel
theorem dL_law_575 : decode cL_law 575 = .ok (.invokevirtual 72, 3) := by decide +kernel
theorem dL_law_578 : decode cL_law 578 = .ok (.aload_n 2, 1) := by decide +kernel
theorem dL_law_579 : decode cL_law 579 = .ok (.aload_n 0, 1) := by decide +kernel
theorem dL_law_580 : decode cL_law 580 = .ok (.iload_n 3, 1) := by decide +kernel
theorem dL_law_581 : decode cL_law 581 = .ok (.iconst 1, 1) := by decide +kernel
theorem dL_law_582 : decode cL_law 582 = .ok (.iadd, 1) := by decide +kernel
theorem dL_law_583 : decode cL_law 583 = .ok (.iaload, 1) := by decide +kernel
theorem dL_law_584 : decode cL_law 584 = .ok (.aload_n 0, 1) := by decide +kernel
theorem dL_law_585 : decode cL_law 585 = .ok (.iload_n 3, 1) := by decide +kernel
theorem dL_law_586 : decode cL_law 586 = .ok (.iconst 2, 1) := by decide +kernel
theorem dL_law_587 : decode cL_law 587 = .ok (.iadd, 1) := by decide +kernel
theorem dL_law_588 : decode cL_law 588 = .ok (.iaload, 1) := by decide +kernel
theorem dL_law_589 : decode cL_law 589 = .ok (.invokevirtual 75, 3) := by decide +kernel
theorem dL_law_592 : decode cL_law 592 = .ok (.if_icmp .eq 124, 3) := by decide +kernel
theorem dL_law_595 : decode cL_law 595 = .ok (.iconst 0, 1) := by decide +kernel
theorem dL_law_596 : decode cL_law 596 = .ok (.ireturn, 1) := by decide +kernel
theorem dL_law_597 : decode cL_law 597 = .ok (.aload_n 1, 1) := by decide +kernel
theorem dL_law_598 : decode cL_law 598 = .ok (.aload_n 0, 1) := by decide +kernel
theorem dL_law_599 : decode cL_law 599 = .ok (.iload_n 3, 1) := by decide +kernel
theorem dL_law_600 : decode cL_law 600 = .ok (.iconst 1, 1) := by decide +kernel
theorem dL_law_601 : decode cL_law 601 = .ok (.iadd, 1) := by decide +kernel
theorem dL_law_602 : decode cL_law 602 = .ok (.iaload, 1) := by decide +kernel
theorem dL_law_603 : decode cL_law 603 = .ok (.aload_n 0, 1) := by decide +kernel
theorem dL_law_604 : decode cL_law 604 = .ok (.iload_n 3, 1) := by decide +kernel
theorem dL_law_605 : decode cL_law 605 = .ok (.iconst 2, 1) := by decide +kernel
theorem dL_law_606 : decode cL_law 606 = .ok (.iadd, 1) := by decide +kernel
theorem dL_law_607 : decode cL_law 607 = .ok (.iaload, 1) := by decide +kernel
theorem dL_law_608 : decode cL_law 608 = .ok (.invokevirtual 76, 3) := by decide +kernel
theorem dL_law_611 : decode cL_law 611 = .ok (.aload_n 2, 1) := by decide +kernel
theorem dL_law_612 : decode cL_law 612 = .ok (.aload_n 0, 1) := by decide +kernel
theorem dL_law_613 : decode cL_law 613 = .ok (.iload_n 3, 1) := by decide +kernel
theorem dL_law_614 : decode cL_law 614 = .ok (.iconst 1, 1) := by decide +kernel
theorem dL_law_615 : decode cL_law 615 = .ok (.iadd, 1) := by decide +kernel
theorem dL_law_616 : decode cL_law 616 = .ok (.iaload, 1) := by decide +kernel
theorem dL_law_617 : decode cL_law 617 = .ok (.aload_n 0, 1) := by decide +kernel
theorem dL_law_618 : decode cL_law 618 = .ok (.iload_n 3, 1) := by decide +kernel
theorem dL_law_619 : decode cL_law 619 = .ok (.iconst 2, 1) := by decide +kernel
theorem dL_law_620 : decode cL_law 620 = .ok (.iadd, 1) := by decide +kernel
theorem dL_law_621 : decode cL_law 621 = .ok (.iaload, 1) := by decide +kernel
theorem dL_law_622 : decode cL_law 622 = .ok (.invokevirtual 79, 3) := by decide +kernel
theorem dL_law_625 : decode cL_law 625 = .ok (.if_icmp .eq 91, 3) := by decide +kernel
theorem dL_law_628 : decode cL_law 628 = .ok (.iconst 0, 1) := by decide +kernel
theorem dL_law_629 : decode cL_law 629 = .ok (.ireturn, 1) := by decide +kernel
theorem dL_law_630 : decode cL_law 630 = .ok (.aload_n 1, 1) := by decide +kernel
theorem dL_law_631 : decode cL_law 631 = .ok (.aload_n 0, 1) := by decide +kernel
theorem dL_law_632 : decode cL_law 632 = .ok (.iload_n 3, 1) := by decide +kernel
theorem dL_law_633 : decode cL_law 633 = .ok (.iconst 1, 1) := by decide +kernel
theorem dL_law_634 : decode cL_law 634 = .ok (.iadd, 1) := by decide +kernel
theorem dL_law_635 : decode cL_law 635 = .ok (.iaload, 1) := by decide +kernel
theorem dL_law_636 : decode cL_law 636 = .ok (.invokevirtual 80, 3) := by decide +kernel
theorem dL_law_639 : decode cL_law 639 = .ok (.aload_n 2, 1) := by decide +kernel
theorem dL_law_640 : decode cL_law 640 = .ok (.aload_n 0, 1) := by decide +kernel
theorem dL_law_641 : decode cL_law 641 = .ok (.iload_n 3, 1) := by decide +kernel
theorem dL_law_642 : decode cL_law 642 = .ok (.iconst 1, 1) := by decide +kernel
theorem dL_law_643 : decode cL_law 643 = .ok (.iadd, 1) := by decide +kernel
theorem dL_law_644 : decode cL_law 644 = .ok (.iaload, 1) := by decide +kernel
theorem dL_law_645 : decode cL_law 645 = .ok (.invokevirtual 83, 3) := by decide +kernel
theorem dL_law_648 : decode cL_law 648 = .ok (.if_icmp .eq 68, 3) := by decide +kernel
theorem dL_law_651 : decode cL_law 651 = .ok (.iconst 0, 1) := by decide +kernel
theorem dL_law_652 : decode cL_law 652 = .ok (.ireturn, 1) := by decide +kernel
theorem dL_law_653 : decode cL_law 653 = .ok (.aload_n 1, 1) := by decide +kernel
theorem dL_law_654 : decode cL_law 654 = .ok (.invokevirtual 84, 3) := by decide +kernel
theorem dL_law_657 : decode cL_law 657 = .ok (.aload_n 2, 1) := by decide +kernel
theorem dL_law_658 : decode cL_law 658 = .ok (.invokevirtual 88, 3) := by decide +kernel
theorem dL_law_661 : decode cL_law 661 = .ok (.if_icmp .eq 55, 3) := by decide +kernel
theorem dL_law_664 : decode cL_law 664 = .ok (.iconst 0, 1) := by decide +kernel
theorem dL_law_665 : decode cL_law 665 = .ok (.ireturn, 1) := by decide +kernel
theorem dL_law_666 : decode cL_law 666 = .ok (.aload_n 1, 1) := by decide +kernel
theorem dL_law_667 : decode cL_law 667 = .ok (.invokevirtual 89, 3) := by decide +kernel
theorem dL_law_670 : decode cL_law 670 = .ok (.aload_n 2, 1) := by decide +kernel
theorem dL_law_671 : decode cL_law 671 = .ok (.invokevirtual 92, 3) := by decide +kernel
theorem dL_law_674 : decode cL_law 674 = .ok (.if_icmp .eq 42, 3) := by decide +kernel
theorem dL_law_677 : decode cL_law 677 = .ok (.iconst 0, 1) := by decide +kernel
theorem dL_law_678 : decode cL_law 678 = .ok (.ireturn, 1) := by decide +kernel
theorem dL_law_679 : decode cL_law 679 = .ok (.aload_n 1, 1) := by decide +kernel
theorem dL_law_680 : decode cL_law 680 = .ok (.aload_n 0, 1) := by decide +kernel
theorem dL_law_681 : decode cL_law 681 = .ok (.iload_n 3, 1) := by decide +kernel
theorem dL_law_682 : decode cL_law 682 = .ok (.iconst 1, 1) := by decide +kernel
theorem dL_law_683 : decode cL_law 683 = .ok (.iadd, 1) := by decide +kernel
theorem dL_law_684 : decode cL_law 684 = .ok (.iaload, 1) := by decide +kernel
theorem dL_law_685 : decode cL_law 685 = .ok (.invokevirtual 93, 3) := by decide +kernel
theorem dL_law_688 : decode cL_law 688 = .ok (.aload_n 2, 1) := by decide +kernel
theorem dL_law_689 : decode cL_law 689 = .ok (.aload_n 0, 1) := by decide +kernel
theorem dL_law_690 : decode cL_law 690 = .ok (.iload_n 3, 1) := by decide +kernel
theorem dL_law_691 : decode cL_law 691 = .ok (.iconst 1, 1) := by decide +kernel
theorem dL_law_692 : decode cL_law 692 = .ok (.iadd, 1) := by decide +kernel
theorem dL_law_693 : decode cL_law 693 = .ok (.iaload, 1) := by decide +kernel
theorem dL_law_694 : decode cL_law 694 = .ok (.invokevirtual 96, 3) := by decide +kernel
theorem dL_law_697 : decode cL_law 697 = .ok (.if_icmp .eq 19, 3) := by decide +kernel
theorem dL_law_700 : decode cL_law 700 = .ok (.iconst 0, 1) := by decide +kernel
theorem dL_law_701 : decode cL_law 701 = .ok (.ireturn, 1) := by decide +kernel
theorem dL_law_702 : decode cL_law 702 = .ok (.aload_n 1, 1) := by decide +kernel
theorem dL_law_703 : decode cL_law 703 = .ok (.invokevirtual 97, 3) := by decide +kernel
theorem dL_law_706 : decode cL_law 706 = .ok (.aload_n 2, 1) := by decide +kernel
theorem dL_law_707 : decode cL_law 707 = .ok (.invokevirtual 101, 3) := by decide +kernel
theorem dL_law_710 : decode cL_law 710 = .ok (.lcmp, 1) := by decide +kernel
theorem dL_law_711 : decode cL_law 711 = .ok (.ifCond .eq 5, 3) := by decide +kernel
theorem dL_law_714 : decode cL_law 714 = .ok (.iconst 0, 1) := by decide +kernel
theorem dL_law_715 : decode cL_law 715 = .ok (.ireturn, 1) := by decide +kernel
theorem dL_law_716 : decode cL_law 716 = .ok (.iinc 3 4, 3) := by decide +kernel
theorem dL_law_719 : decode cL_law 719 = .ok (.goto (-701), 3) := by decide +kernel
theorem dL_law_722 : decode cL_law 722 = .ok (.iconst 1, 1) := by decide +kernel
theorem dL_law_723 : decode cL_law 723 = .ok (.ireturn, 1) := by decide +kernel
end
section
/-! words of the tables that travel with a call -/
def BIG : List Cond := lw_tbl.filter goodWord
theorem in_big {w : Cond} (i : Nat) (h : lw_tbl[i]? = some w) (g : goodWord w = true) : w ∈ BIG := List.mem_filter.mpr ⟨List.mem_of_getElem? h, g⟩
theorem big_good : GoodIn BIG BIG := fun w h => ⟨h, good_of_word (List.mem_filter.mp h).2⟩
theorem kw_0 : (Jvm.Cond.selects "StarSenders" ⟨"StarSenders", "refuseBad", "()I"⟩ ⟨"StarSenders", "refuseBad", "()I"⟩) ∈ BIG := in_big 0 (by decide +kernel) (by decide +kernel)
theorem kw_1 : (Jvm.Cond.selects "StarSenders" ⟨"StarSenders", "setting", "(I)I"⟩ ⟨"StarSenders", "setting", "(I)I"⟩) ∈ BIG := in_big 1 (by decide +kernel) (by decide +kernel)
theorem kw_2 : (Jvm.Cond.selects "StarSenders" ⟨"StarSenders", "isGate", "(I)Z"⟩ ⟨"StarSenders", "isGate", "(I)Z"⟩) ∈ BIG := in_big 2 (by decide +kernel) (by decide +kernel)
theorem kw_3 : (Jvm.Cond.selects "StarSenders" ⟨"StarSenders", "isSender", "(I)Z"⟩ ⟨"StarSenders", "isSender", "(I)Z"⟩) ∈ BIG := in_big 3 (by decide +kernel) (by decide +kernel)
theorem kw_4 : (Jvm.Cond.selects "StarSenders" ⟨"StarSenders", "refuseFull", "()I"⟩ ⟨"StarSenders", "refuseFull", "()I"⟩) ∈ BIG := in_big 4 (by decide +kernel) (by decide +kernel)
theorem kw_5 : (Jvm.Cond.selects "StarSenders$Net" ⟨"StarSenders$Net", "spread", "(II)I"⟩ ⟨"StarSenders$Net", "spread", "(II)I"⟩) ∈ BIG := in_big 5 (by decide +kernel) (by decide +kernel)
theorem kw_6 : (Jvm.Cond.selects "StarSenders" ⟨"StarSenders", "refuseNo", "()I"⟩ ⟨"StarSenders", "refuseNo", "()I"⟩) ∈ BIG := in_big 6 (by decide +kernel) (by decide +kernel)
theorem kw_7 : (Jvm.Cond.selects "StarSenders$Net" ⟨"StarSenders$Net", "refillBudgets", "()V"⟩ ⟨"StarSenders$Net", "refillBudgets", "()V"⟩) ∈ BIG := in_big 7 (by decide +kernel) (by decide +kernel)
theorem kw_8 : (Jvm.Cond.selects "StarSenders$Net" ⟨"StarSenders$Net", "bringCopies", "()V"⟩ ⟨"StarSenders$Net", "bringCopies", "()V"⟩) ∈ BIG := in_big 8 (by decide +kernel) (by decide +kernel)
theorem kw_9 : (Jvm.Cond.selects "StarSenders$Net" ⟨"StarSenders$Net", "bring", "(I)V"⟩ ⟨"StarSenders$Net", "bring", "(I)V"⟩) ∈ BIG := in_big 9 (by decide +kernel) (by decide +kernel)
theorem kw_10 : (Jvm.Cond.selects "StarSenders$Net" ⟨"StarSenders$Net", "closeWindows", "()I"⟩ ⟨"StarSenders$Net", "closeWindows", "()I"⟩) ∈ BIG := in_big 10 (by decide +kernel) (by decide +kernel)
theorem kw_11 : (Jvm.Cond.selects "StarSenders$Net" ⟨"StarSenders$Net", "takeJoining", "(ILStarSenders$Sender;)V"⟩ ⟨"StarSenders$Net", "takeJoining", "(ILStarSenders$Sender;)V"⟩) ∈ BIG := in_big 11 (by decide +kernel) (by decide +kernel)
theorem kw_12 : (Jvm.Cond.selects "StarSenders$Net" ⟨"StarSenders$Net", "sendAnswer", "(ILStarSenders$Sender;)Z"⟩ ⟨"StarSenders$Net", "sendAnswer", "(ILStarSenders$Sender;)Z"⟩) ∈ BIG := in_big 12 (by decide +kernel) (by decide +kernel)
theorem kw_13 : (Jvm.Cond.selects "StarSenders$Net" ⟨"StarSenders$Net", "takeLetter", "(ILStarSenders$Sender;)V"⟩ ⟨"StarSenders$Net", "takeLetter", "(ILStarSenders$Sender;)V"⟩) ∈ BIG := in_big 13 (by decide +kernel) (by decide +kernel)
theorem kw_14 : (Jvm.Cond.selects "StarSenders$Windows" ⟨"StarSenders$Windows", "gateBits", "(I)I"⟩ ⟨"StarSenders$Windows", "gateBits", "(I)I"⟩) ∈ BIG := in_big 14 (by decide +kernel) (by decide +kernel)
theorem kw_15 : (Jvm.Cond.selects "StarSenders$Text" ⟨"StarSenders$Text", "skipBlanks", "()V"⟩ ⟨"StarSenders$Text", "skipBlanks", "()V"⟩) ∈ BIG := in_big 15 (by decide +kernel) (by decide +kernel)
theorem kw_16 : (Jvm.Cond.selects "StarSenders$Text" ⟨"StarSenders$Text", "readOrder", "(II)Z"⟩ ⟨"StarSenders$Text", "readOrder", "(II)Z"⟩) ∈ BIG := in_big 16 (by decide +kernel) (by decide +kernel)
theorem kw_17 : (Jvm.Cond.selects "StarSenders$Text" ⟨"StarSenders$Text", "readFigure", "(I)I"⟩ ⟨"StarSenders$Text", "readFigure", "(I)I"⟩) ∈ BIG := in_big 17 (by decide +kernel) (by decide +kernel)
theorem kw_18 : (Jvm.Cond.selects "StarSenders$Text" ⟨"StarSenders$Text", "isFigureNext", "()Z"⟩ ⟨"StarSenders$Text", "isFigureNext", "()Z"⟩) ∈ BIG := in_big 18 (by decide +kernel) (by decide +kernel)
theorem kw_19 : (Jvm.Cond.selects "StarSenders$Text" ⟨"StarSenders$Text", "readNumber", "(I)I"⟩ ⟨"StarSenders$Text", "readNumber", "(I)I"⟩) ∈ BIG := in_big 19 (by decide +kernel) (by decide +kernel)
theorem kw_20 : (Jvm.Cond.selects "StarSenders$Text" ⟨"StarSenders$Text", "readEnd", "()Z"⟩ ⟨"StarSenders$Text", "readEnd", "()Z"⟩) ∈ BIG := in_big 20 (by decide +kernel) (by decide +kernel)
theorem kw_21 : (Jvm.Cond.selects "StarSenders" ⟨"StarSenders", "carryOut", "(I)I"⟩ ⟨"StarSenders", "carryOut", "(I)I"⟩) ∈ BIG := in_big 21 (by decide +kernel) (by decide +kernel)
theorem kw_22 : (Jvm.Cond.selects "StarSendersModel" ⟨"StarSendersModel", "bad", "()I"⟩ ⟨"StarSendersModel", "bad", "()I"⟩) ∈ BIG := in_big 22 (by decide +kernel) (by decide +kernel)
theorem kw_23 : (Jvm.Cond.selects "StarSendersModel" ⟨"StarSendersModel", "begins", "()V"⟩ ⟨"StarSendersModel", "begins", "()V"⟩) ∈ BIG := in_big 23 (by decide +kernel) (by decide +kernel)
theorem kw_24 : (Jvm.Cond.selects "StarSendersModel" ⟨"StarSendersModel", "comesNew", "(I)V"⟩ ⟨"StarSendersModel", "comesNew", "(I)V"⟩) ∈ BIG := in_big 24 (by decide +kernel) (by decide +kernel)
theorem kw_25 : (Jvm.Cond.selects "StarSendersModel" ⟨"StarSendersModel", "isGate", "(I)Z"⟩ ⟨"StarSendersModel", "isGate", "(I)Z"⟩) ∈ BIG := in_big 25 (by decide +kernel) (by decide +kernel)
theorem kw_26 : (Jvm.Cond.selects "StarSendersModel" ⟨"StarSendersModel", "gateBecomes", "(III)I"⟩ ⟨"StarSendersModel", "gateBecomes", "(III)I"⟩) ∈ BIG := in_big 26 (by decide +kernel) (by decide +kernel)
theorem kw_27 : (Jvm.Cond.selects "StarSendersModel" ⟨"StarSendersModel", "isSender", "(I)Z"⟩ ⟨"StarSendersModel", "isSender", "(I)Z"⟩) ∈ BIG := in_big 27 (by decide +kernel) (by decide +kernel)
theorem kw_28 : (Jvm.Cond.selects "StarSendersModel" ⟨"StarSendersModel", "isRoom", "()Z"⟩ ⟨"StarSendersModel", "isRoom", "()Z"⟩) ∈ BIG := in_big 28 (by decide +kernel) (by decide +kernel)
theorem kw_29 : (Jvm.Cond.selects "StarSendersModel" ⟨"StarSendersModel", "sendsNow", "(I)I"⟩ ⟨"StarSendersModel", "sendsNow", "(I)I"⟩) ∈ BIG := in_big 29 (by decide +kernel) (by decide +kernel)
theorem kw_30 : (Jvm.Cond.selects "StarSendersModel" ⟨"StarSendersModel", "goes", "(II)I"⟩ ⟨"StarSendersModel", "goes", "(II)I"⟩) ∈ BIG := in_big 30 (by decide +kernel) (by decide +kernel)
theorem kw_31 : (Jvm.Cond.selects "StarSendersModel" ⟨"StarSendersModel", "marginOf", "(II)I"⟩ ⟨"StarSendersModel", "marginOf", "(II)I"⟩) ∈ BIG := in_big 31 (by decide +kernel) (by decide +kernel)
theorem kw_32 : (Jvm.Cond.selects "StarSendersModel" ⟨"StarSendersModel", "full", "()I"⟩ ⟨"StarSendersModel", "full", "()I"⟩) ∈ BIG := in_big 32 (by decide +kernel) (by decide +kernel)
theorem kw_33 : (Jvm.Cond.selects "StarSendersModel" ⟨"StarSendersModel", "no", "()I"⟩ ⟨"StarSendersModel", "no", "()I"⟩) ∈ BIG := in_big 33 (by decide +kernel) (by decide +kernel)
theorem kw_34 : (Jvm.Cond.selects "StarSendersModel" ⟨"StarSendersModel", "goBy", "(I)I"⟩ ⟨"StarSendersModel", "goBy", "(I)I"⟩) ∈ BIG := in_big 34 (by decide +kernel) (by decide +kernel)
theorem kw_35 : (Jvm.Cond.selects "StarSendersModel" ⟨"StarSendersModel", "oneTick", "()I"⟩ ⟨"StarSendersModel", "oneTick", "()I"⟩) ∈ BIG := in_big 35 (by decide +kernel) (by decide +kernel)
theorem kw_36 : (Jvm.Cond.selects "StarSendersModel" ⟨"StarSendersModel", "allCome", "()V"⟩ ⟨"StarSendersModel", "allCome", "()V"⟩) ∈ BIG := in_big 36 (by decide +kernel) (by decide +kernel)
theorem kw_37 : (Jvm.Cond.selects "StarSendersModel" ⟨"StarSendersModel", "comes", "(I)V"⟩ ⟨"StarSendersModel", "comes", "(I)V"⟩) ∈ BIG := in_big 37 (by decide +kernel) (by decide +kernel)
theorem kw_38 : (Jvm.Cond.selects "StarSendersModel" ⟨"StarSendersModel", "windowOf", "(II)I"⟩ ⟨"StarSendersModel", "windowOf", "(II)I"⟩) ∈ BIG := in_big 38 (by decide +kernel) (by decide +kernel)
theorem kw_39 : (Jvm.Cond.selects "StarSendersModel" ⟨"StarSendersModel", "hearsIn", "(III)V"⟩ ⟨"StarSendersModel", "hearsIn", "(III)V"⟩) ∈ BIG := in_big 39 (by decide +kernel) (by decide +kernel)
theorem kw_40 : (Jvm.Cond.selects "StarSendersModel" ⟨"StarSendersModel", "isOn", "(II)Z"⟩ ⟨"StarSendersModel", "isOn", "(II)Z"⟩) ∈ BIG := in_big 40 (by decide +kernel) (by decide +kernel)
theorem kw_41 : (Jvm.Cond.selects "StarSendersModel" ⟨"StarSendersModel", "far", "(II)I"⟩ ⟨"StarSendersModel", "far", "(II)I"⟩) ∈ BIG := in_big 41 (by decide +kernel) (by decide +kernel)
theorem kw_42 : (Jvm.Cond.selects "StarSendersModel" ⟨"StarSendersModel", "closes", "()I"⟩ ⟨"StarSendersModel", "closes", "()I"⟩) ∈ BIG := in_big 42 (by decide +kernel) (by decide +kernel)
theorem kw_43 : (Jvm.Cond.selects "StarSendersModel" ⟨"StarSendersModel", "answers", "(I)Z"⟩ ⟨"StarSendersModel", "answers", "(I)Z"⟩) ∈ BIG := in_big 43 (by decide +kernel) (by decide +kernel)
theorem kw_44 : (Jvm.Cond.selects "StarSendersModel" ⟨"StarSendersModel", "gateBehind", "(I)I"⟩ ⟨"StarSendersModel", "gateBehind", "(I)I"⟩) ∈ BIG := in_big 44 (by decide +kernel) (by decide +kernel)
theorem kw_45 : (Jvm.Cond.selects "StarSendersModel" ⟨"StarSendersModel", "notes", "(II)V"⟩ ⟨"StarSendersModel", "notes", "(II)V"⟩) ∈ BIG := in_big 45 (by decide +kernel) (by decide +kernel)
theorem kw_46 : (Jvm.Cond.selects "StarSendersModel" ⟨"StarSendersModel", "adapts", "(I)V"⟩ ⟨"StarSendersModel", "adapts", "(I)V"⟩) ∈ BIG := in_big 46 (by decide +kernel) (by decide +kernel)
theorem kw_47 : (Jvm.Cond.selects "StarSendersModel" ⟨"StarSendersModel", "reckons", "(I)V"⟩ ⟨"StarSendersModel", "reckons", "(I)V"⟩) ∈ BIG := in_big 47 (by decide +kernel) (by decide +kernel)
theorem kw_48 : (Jvm.Cond.selects "StarSendersModel" ⟨"StarSendersModel", "firstGoes", "()V"⟩ ⟨"StarSendersModel", "firstGoes", "()V"⟩) ∈ BIG := in_big 48 (by decide +kernel) (by decide +kernel)
theorem kw_49 : (Jvm.Cond.selects "StarSendersModel" ⟨"StarSendersModel", "ofBy", "(II)I"⟩ ⟨"StarSendersModel", "ofBy", "(II)I"⟩) ∈ BIG := in_big 49 (by decide +kernel) (by decide +kernel)
theorem kw_50 : (Jvm.Cond.selects "StarSendersModel" ⟨"StarSendersModel", "atBy", "(II)I"⟩ ⟨"StarSendersModel", "atBy", "(II)I"⟩) ∈ BIG := in_big 50 (by decide +kernel) (by decide +kernel)
theorem kw_51 : (Jvm.Cond.selects "StarSendersModel" ⟨"StarSendersModel", "allBy", "(I)I"⟩ ⟨"StarSendersModel", "allBy", "(I)I"⟩) ∈ BIG := in_big 51 (by decide +kernel) (by decide +kernel)
theorem kw_52 : (Jvm.Cond.selects "StarSendersModel" ⟨"StarSendersModel", "goesThrough", "(Z)I"⟩ ⟨"StarSendersModel", "goesThrough", "(Z)I"⟩) ∈ BIG := in_big 52 (by decide +kernel) (by decide +kernel)
theorem kw_53 : (Jvm.Cond.selects "StarSendersModel" ⟨"StarSendersModel", "here", "()I"⟩ ⟨"StarSendersModel", "here", "()I"⟩) ∈ BIG := in_big 53 (by decide +kernel) (by decide +kernel)
theorem kw_54 : (Jvm.Cond.selects "StarSendersModel" ⟨"StarSendersModel", "readsOrder", "(I)Z"⟩ ⟨"StarSendersModel", "readsOrder", "(I)Z"⟩) ∈ BIG := in_big 54 (by decide +kernel) (by decide +kernel)
theorem kw_55 : (Jvm.Cond.selects "StarSendersModel" ⟨"StarSendersModel", "readsNumbers", "(I)Z"⟩ ⟨"StarSendersModel", "readsNumbers", "(I)Z"⟩) ∈ BIG := in_big 55 (by decide +kernel) (by decide +kernel)
theorem kw_56 : (Jvm.Cond.selects "StarSendersModel" ⟨"StarSendersModel", "readsSender", "()Z"⟩ ⟨"StarSendersModel", "readsSender", "()Z"⟩) ∈ BIG := in_big 56 (by decide +kernel) (by decide +kernel)
theorem kw_57 : (Jvm.Cond.selects "StarSendersModel" ⟨"StarSendersModel", "readsOne", "(I)Z"⟩ ⟨"StarSendersModel", "readsOne", "(I)Z"⟩) ∈ BIG := in_big 57 (by decide +kernel) (by decide +kernel)
theorem kw_58 : (Jvm.Cond.selects "StarSendersModel" ⟨"StarSendersModel", "readsThird", "(I)Z"⟩ ⟨"StarSendersModel", "readsThird", "(I)Z"⟩) ∈ BIG := in_big 58 (by decide +kernel) (by decide +kernel)
theorem kw_59 : (Jvm.Cond.selects "StarSendersModel" ⟨"StarSendersModel", "readsNumber", "(I)Z"⟩ ⟨"StarSendersModel", "readsNumber", "(I)Z"⟩) ∈ BIG := in_big 59 (by decide +kernel) (by decide +kernel)
theorem kw_60 : (Jvm.Cond.selects "StarSendersModel" ⟨"StarSendersModel", "readsGate", "()Z"⟩ ⟨"StarSendersModel", "readsGate", "()Z"⟩) ∈ BIG := in_big 60 (by decide +kernel) (by decide +kernel)
theorem kw_61 : (Jvm.Cond.selects "StarSendersModel" ⟨"StarSendersModel", "doesOrder", "(I)I"⟩ ⟨"StarSendersModel", "doesOrder", "(I)I"⟩) ∈ BIG := in_big 61 (by decide +kernel) (by decide +kernel)
theorem kw_62 : (Jvm.Cond.selects "StarSendersModel" ⟨"StarSendersModel", "toldBy", "(I)I"⟩ ⟨"StarSendersModel", "toldBy", "(I)I"⟩) ∈ BIG := in_big 62 (by decide +kernel) (by decide +kernel)
theorem kw_63 : (Jvm.Cond.initialized "StarSendersLaw") ∈ BIG := in_big 63 (by decide +kernel) (by decide +kernel)
theorem kw_64 : (Jvm.Cond.initialized "StarSenders") ∈ BIG := in_big 64 (by decide +kernel) (by decide +kernel)
theorem kw_65 : (Jvm.Cond.initialized "StarSenders$Net") ∈ BIG := in_big 65 (by decide +kernel) (by decide +kernel)
theorem kw_66 : (Jvm.Cond.initialized "StarSenders$Copies") ∈ BIG := in_big 66 (by decide +kernel) (by decide +kernel)
theorem kw_67 : (Jvm.Cond.initialized "StarSenders$Windows") ∈ BIG := in_big 67 (by decide +kernel) (by decide +kernel)
theorem kw_68 : (Jvm.Cond.initialized "StarSenders$Tuning") ∈ BIG := in_big 68 (by decide +kernel) (by decide +kernel)
theorem kw_69 : (Jvm.Cond.initialized "StarSenders$Sender") ∈ BIG := in_big 69 (by decide +kernel) (by decide +kernel)
theorem kw_70 : (Jvm.Cond.initialized "StarSenders$Gate") ∈ BIG := in_big 70 (by decide +kernel) (by decide +kernel)
theorem kw_71 : (Jvm.Cond.initialized "StarSenders$Text") ∈ BIG := in_big 71 (by decide +kernel) (by decide +kernel)
theorem kw_72 : (Jvm.Cond.initialized "java/util/Arrays") ∈ BIG := in_big 72 (by decide +kernel) (by decide +kernel)
theorem kw_73 : (Jvm.Cond.initialized "StarSendersModel") ∈ BIG := in_big 73 (by decide +kernel) (by decide +kernel)
theorem kw_74 : (Jvm.Cond.initialized "java/lang/Math") ∈ BIG := in_big 74 (by decide +kernel) (by decide +kernel)
theorem kw_75 : (Jvm.Cond.initialized "java/lang/System") ∈ BIG := in_big 75 (by decide +kernel) (by decide +kernel)
theorem kw_76 : (Jvm.Cond.classLink "StarSendersLaw" (7 : Nat) "StarSenders") ∈ BIG := in_big 76 (by decide +kernel) (by decide +kernel)
theorem kw_77 : (Jvm.Cond.instantiable "StarSenders" (5 : Nat)) ∈ BIG := in_big 77 (by decide +kernel) (by decide +kernel)
theorem kw_78 : (Jvm.Cond.methodLink "StarSendersLaw" (9 : Nat) ({ cls := "StarSenders", name := "<init>", desc := "()V" } : Jvm.MethodName)) ∈ BIG := in_big 78 (by decide +kernel) (by decide +kernel)
theorem kw_79 : (Jvm.Cond.instanceMethod ({ cls := "StarSenders", name := "<init>", desc := "()V" } : Jvm.MethodName)) ∈ BIG := in_big 79 (by decide +kernel) (by decide +kernel)
theorem kw_80 : (Jvm.Cond.code ({ cls := "StarSenders", name := "<init>", desc := "()V" } : Jvm.MethodName) prog_1_method_1_code (1 : Nat) (Option.none : Option Jvm.ClassFile.FieldType)) ∈ BIG := in_big 80 (by decide +kernel) (by decide +kernel)
theorem kw_81 : (Jvm.Cond.methodLink "StarSenders" (3 : Nat) ({ cls := "java/lang/Object", name := "<init>", desc := "()V" } : Jvm.MethodName)) ∈ BIG := in_big 81 (by decide +kernel) (by decide +kernel)
theorem kw_82 : (Jvm.Cond.instanceMethod ({ cls := "java/lang/Object", name := "<init>", desc := "()V" } : Jvm.MethodName)) ∈ BIG := in_big 82 (by decide +kernel) (by decide +kernel)
theorem kw_83 : (Jvm.Cond.code ({ cls := "java/lang/Object", name := "<init>", desc := "()V" } : Jvm.MethodName) object_method_1_code (1 : Nat) (Option.none : Option Jvm.ClassFile.FieldType)) ∈ BIG := in_big 83 (by decide +kernel) (by decide +kernel)
theorem kw_84 : (Jvm.Cond.classLink "StarSenders" (9 : Nat) "StarSenders$Net") ∈ BIG := in_big 84 (by decide +kernel) (by decide +kernel)
theorem kw_85 : (Jvm.Cond.instantiable "StarSenders$Net" (16 : Nat)) ∈ BIG := in_big 85 (by decide +kernel) (by decide +kernel)
theorem kw_86 : (Jvm.Cond.methodLink "StarSenders" (11 : Nat) ({ cls := "StarSenders$Net", name := "<init>", desc := "()V" } : Jvm.MethodName)) ∈ BIG := in_big 86 (by decide +kernel) (by decide +kernel)
theorem kw_87 : (Jvm.Cond.instanceMethod ({ cls := "StarSenders$Net", name := "<init>", desc := "()V" } : Jvm.MethodName)) ∈ BIG := in_big 87 (by decide +kernel) (by decide +kernel)
theorem kw_88 : (Jvm.Cond.code ({ cls := "StarSenders$Net", name := "<init>", desc := "()V" } : Jvm.MethodName) prog_4_method_1_code (2 : Nat) (Option.none : Option Jvm.ClassFile.FieldType)) ∈ BIG := in_big 88 (by decide +kernel) (by decide +kernel)
theorem kw_89 : (Jvm.Cond.methodLink "StarSenders$Net" (3 : Nat) ({ cls := "java/lang/Object", name := "<init>", desc := "()V" } : Jvm.MethodName)) ∈ BIG := in_big 89 (by decide +kernel) (by decide +kernel)
theorem kw_90 : (Jvm.Cond.classLink "StarSenders$Net" (21 : Nat) "[[I") ∈ BIG := in_big 90 (by decide +kernel) (by decide +kernel)
theorem kw_92 : (Jvm.Cond.classLink "StarSenders$Net" (26 : Nat) "StarSenders$Sender") ∈ BIG := in_big 92 (by decide +kernel) (by decide +kernel)
theorem kw_94 : (Jvm.Cond.classLink "StarSenders$Net" (32 : Nat) "StarSenders$Gate") ∈ BIG := in_big 94 (by decide +kernel) (by decide +kernel)
theorem kw_96 : (Jvm.Cond.classLink "StarSenders$Net" (38 : Nat) "StarSenders$Copies") ∈ BIG := in_big 96 (by decide +kernel) (by decide +kernel)
theorem kw_97 : (Jvm.Cond.instantiable "StarSenders$Copies" (6 : Nat)) ∈ BIG := in_big 97 (by decide +kernel) (by decide +kernel)
theorem kw_99 : (Jvm.Cond.instanceMethod ({ cls := "StarSenders$Copies", name := "<init>", desc := "()V" } : Jvm.MethodName)) ∈ BIG := in_big 99 (by decide +kernel) (by decide +kernel)
theorem kw_100 : (Jvm.Cond.code ({ cls := "StarSenders$Copies", name := "<init>", desc := "()V" } : Jvm.MethodName) prog_2_method_1_code (1 : Nat) (Option.none : Option Jvm.ClassFile.FieldType)) ∈ BIG := in_big 100 (by decide +kernel) (by decide +kernel)
theorem kw_101 : (Jvm.Cond.methodLink "StarSenders$Copies" (3 : Nat) ({ cls := "java/lang/Object", name := "<init>", desc := "()V" } : Jvm.MethodName)) ∈ BIG := in_big 101 (by decide +kernel) (by decide +kernel)
theorem kw_102 : (Jvm.Cond.fieldLink "StarSenders$Copies" (9 : Nat) "StarSenders$Copies" "sender" "[I") ∈ BIG := in_big 102 (by decide +kernel) (by decide +kernel)
theorem kw_103 : (Jvm.Cond.fieldLink "StarSenders$Net" (163 : Nat) "StarSenders$Copies" "sender" "[I") ∈ BIG := in_big 103 (by decide +kernel) (by decide +kernel)
theorem kw_104 : (Jvm.Cond.fieldLink "StarSenders" (160 : Nat) "StarSenders$Copies" "sender" "[I") ∈ BIG := in_big 104 (by decide +kernel) (by decide +kernel)
theorem kw_105 : (Jvm.Cond.fieldLink "StarSenders$Copies" (15 : Nat) "StarSenders$Copies" "letter" "[I") ∈ BIG := in_big 105 (by decide +kernel) (by decide +kernel)
theorem kw_106 : (Jvm.Cond.fieldLink "StarSenders$Net" (166 : Nat) "StarSenders$Copies" "letter" "[I") ∈ BIG := in_big 106 (by decide +kernel) (by decide +kernel)
theorem kw_107 : (Jvm.Cond.fieldLink "StarSenders$Copies" (18 : Nat) "StarSenders$Copies" "gate" "[I") ∈ BIG := in_big 107 (by decide +kernel) (by decide +kernel)
theorem kw_108 : (Jvm.Cond.fieldLink "StarSenders$Net" (172 : Nat) "StarSenders$Copies" "gate" "[I") ∈ BIG := in_big 108 (by decide +kernel) (by decide +kernel)
theorem kw_109 : (Jvm.Cond.fieldLink "StarSenders" (163 : Nat) "StarSenders$Copies" "gate" "[I") ∈ BIG := in_big 109 (by decide +kernel) (by decide +kernel)
theorem kw_110 : (Jvm.Cond.fieldLink "StarSenders$Copies" (21 : Nat) "StarSenders$Copies" "margin" "[I") ∈ BIG := in_big 110 (by decide +kernel) (by decide +kernel)
theorem kw_111 : (Jvm.Cond.fieldLink "StarSenders$Net" (175 : Nat) "StarSenders$Copies" "margin" "[I") ∈ BIG := in_big 111 (by decide +kernel) (by decide +kernel)
theorem kw_112 : (Jvm.Cond.fieldLink "StarSenders$Copies" (24 : Nat) "StarSenders$Copies" "due" "[I") ∈ BIG := in_big 112 (by decide +kernel) (by decide +kernel)
theorem kw_113 : (Jvm.Cond.fieldLink "StarSenders$Net" (151 : Nat) "StarSenders$Copies" "due" "[I") ∈ BIG := in_big 113 (by decide +kernel) (by decide +kernel)
theorem kw_114 : (Jvm.Cond.fieldLink "StarSenders" (157 : Nat) "StarSenders$Copies" "due" "[I") ∈ BIG := in_big 114 (by decide +kernel) (by decide +kernel)
theorem kw_115 : (Jvm.Cond.fieldLink "StarSenders$Copies" (27 : Nat) "StarSenders$Copies" "count" "I") ∈ BIG := in_big 115 (by decide +kernel) (by decide +kernel)
theorem kw_116 : (Jvm.Cond.fieldLink "StarSenders$Net" (64 : Nat) "StarSenders$Copies" "count" "I") ∈ BIG := in_big 116 (by decide +kernel) (by decide +kernel)
theorem kw_117 : (Jvm.Cond.fieldLink "StarSenders" (154 : Nat) "StarSenders$Copies" "count" "I") ∈ BIG := in_big 117 (by decide +kernel) (by decide +kernel)
theorem kw_118 : (Jvm.Cond.laysFinal "StarSenders$Copies" "StarSenders$Copies" "sender" "[I") ∈ BIG := in_big 118 (by decide +kernel) (by decide +kernel)
theorem kw_120 : (Jvm.Cond.laysFinal "StarSenders$Copies" "StarSenders$Copies" "letter" "[I") ∈ BIG := in_big 120 (by decide +kernel) (by decide +kernel)
theorem kw_122 : (Jvm.Cond.laysFinal "StarSenders$Copies" "StarSenders$Copies" "gate" "[I") ∈ BIG := in_big 122 (by decide +kernel) (by decide +kernel)
theorem kw_124 : (Jvm.Cond.laysFinal "StarSenders$Copies" "StarSenders$Copies" "margin" "[I") ∈ BIG := in_big 124 (by decide +kernel) (by decide +kernel)
theorem kw_126 : (Jvm.Cond.laysFinal "StarSenders$Copies" "StarSenders$Copies" "due" "[I") ∈ BIG := in_big 126 (by decide +kernel) (by decide +kernel)
theorem kw_128 : (Jvm.Cond.lays "StarSenders$Copies" "StarSenders$Copies" "count" "I") ∈ BIG := in_big 128 (by decide +kernel) (by decide +kernel)
theorem kw_131 : (Jvm.Cond.arrayClass Jvm.ClassFile.FieldType.int) ∈ BIG := in_big 131 (by decide +kernel) (by decide +kernel)
theorem kw_132 : (Jvm.Cond.classLink "StarSenders$Net" (45 : Nat) "StarSenders$Windows") ∈ BIG := in_big 132 (by decide +kernel) (by decide +kernel)
theorem kw_133 : (Jvm.Cond.instantiable "StarSenders$Windows" (5 : Nat)) ∈ BIG := in_big 133 (by decide +kernel) (by decide +kernel)
theorem kw_135 : (Jvm.Cond.instanceMethod ({ cls := "StarSenders$Windows", name := "<init>", desc := "()V" } : Jvm.MethodName)) ∈ BIG := in_big 135 (by decide +kernel) (by decide +kernel)
theorem kw_136 : (Jvm.Cond.code ({ cls := "StarSenders$Windows", name := "<init>", desc := "()V" } : Jvm.MethodName) prog_8_method_1_code (1 : Nat) (Option.none : Option Jvm.ClassFile.FieldType)) ∈ BIG := in_big 136 (by decide +kernel) (by decide +kernel)
theorem kw_137 : (Jvm.Cond.methodLink "StarSenders$Windows" (3 : Nat) ({ cls := "java/lang/Object", name := "<init>", desc := "()V" } : Jvm.MethodName)) ∈ BIG := in_big 137 (by decide +kernel) (by decide +kernel)
theorem kw_138 : (Jvm.Cond.fieldLink "StarSenders$Windows" (9 : Nat) "StarSenders$Windows" "sender" "[I") ∈ BIG := in_big 138 (by decide +kernel) (by decide +kernel)
theorem kw_139 : (Jvm.Cond.fieldLink "StarSenders$Net" (192 : Nat) "StarSenders$Windows" "sender" "[I") ∈ BIG := in_big 139 (by decide +kernel) (by decide +kernel)
theorem kw_140 : (Jvm.Cond.fieldLink "StarSenders$Windows" (15 : Nat) "StarSenders$Windows" "letter" "[I") ∈ BIG := in_big 140 (by decide +kernel) (by decide +kernel)
theorem kw_141 : (Jvm.Cond.fieldLink "StarSenders$Net" (193 : Nat) "StarSenders$Windows" "letter" "[I") ∈ BIG := in_big 141 (by decide +kernel) (by decide +kernel)
theorem kw_142 : (Jvm.Cond.fieldLink "StarSenders$Windows" (18 : Nat) "StarSenders$Windows" "opened" "[I") ∈ BIG := in_big 142 (by decide +kernel) (by decide +kernel)
theorem kw_143 : (Jvm.Cond.fieldLink "StarSenders$Net" (189 : Nat) "StarSenders$Windows" "opened" "[I") ∈ BIG := in_big 143 (by decide +kernel) (by decide +kernel)
theorem kw_144 : (Jvm.Cond.fieldLink "StarSenders" (142 : Nat) "StarSenders$Windows" "opened" "[I") ∈ BIG := in_big 144 (by decide +kernel) (by decide +kernel)
theorem kw_145 : (Jvm.Cond.fieldLink "StarSenders$Windows" (21 : Nat) "StarSenders$Windows" "heard" "[I") ∈ BIG := in_big 145 (by decide +kernel) (by decide +kernel)
theorem kw_146 : (Jvm.Cond.fieldLink "StarSenders$Windows" (24 : Nat) "StarSenders$Windows" "count" "I") ∈ BIG := in_big 146 (by decide +kernel) (by decide +kernel)
theorem kw_147 : (Jvm.Cond.fieldLink "StarSenders$Net" (67 : Nat) "StarSenders$Windows" "count" "I") ∈ BIG := in_big 147 (by decide +kernel) (by decide +kernel)
theorem kw_148 : (Jvm.Cond.fieldLink "StarSenders" (137 : Nat) "StarSenders$Windows" "count" "I") ∈ BIG := in_big 148 (by decide +kernel) (by decide +kernel)
theorem kw_149 : (Jvm.Cond.laysFinal "StarSenders$Windows" "StarSenders$Windows" "sender" "[I") ∈ BIG := in_big 149 (by decide +kernel) (by decide +kernel)
theorem kw_151 : (Jvm.Cond.laysFinal "StarSenders$Windows" "StarSenders$Windows" "letter" "[I") ∈ BIG := in_big 151 (by decide +kernel) (by decide +kernel)
theorem kw_153 : (Jvm.Cond.laysFinal "StarSenders$Windows" "StarSenders$Windows" "opened" "[I") ∈ BIG := in_big 153 (by decide +kernel) (by decide +kernel)
theorem kw_155 : (Jvm.Cond.laysFinal "StarSenders$Windows" "StarSenders$Windows" "heard" "[I") ∈ BIG := in_big 155 (by decide +kernel) (by decide +kernel)
theorem kw_157 : (Jvm.Cond.lays "StarSenders$Windows" "StarSenders$Windows" "count" "I") ∈ BIG := in_big 157 (by decide +kernel) (by decide +kernel)
theorem kw_160 : (Jvm.Cond.classLink "StarSenders$Net" (52 : Nat) "StarSenders$Tuning") ∈ BIG := in_big 160 (by decide +kernel) (by decide +kernel)
theorem kw_161 : (Jvm.Cond.instantiable "StarSenders$Tuning" (2 : Nat)) ∈ BIG := in_big 161 (by decide +kernel) (by decide +kernel)
theorem kw_163 : (Jvm.Cond.instanceMethod ({ cls := "StarSenders$Tuning", name := "<init>", desc := "()V" } : Jvm.MethodName)) ∈ BIG := in_big 163 (by decide +kernel) (by decide +kernel)
theorem kw_164 : (Jvm.Cond.code ({ cls := "StarSenders$Tuning", name := "<init>", desc := "()V" } : Jvm.MethodName) prog_7_method_1_code (1 : Nat) (Option.none : Option Jvm.ClassFile.FieldType)) ∈ BIG := in_big 164 (by decide +kernel) (by decide +kernel)
theorem kw_165 : (Jvm.Cond.methodLink "StarSenders$Tuning" (3 : Nat) ({ cls := "java/lang/Object", name := "<init>", desc := "()V" } : Jvm.MethodName)) ∈ BIG := in_big 165 (by decide +kernel) (by decide +kernel)
theorem kw_166 : (Jvm.Cond.fieldLink "StarSenders$Tuning" (9 : Nat) "StarSenders$Tuning" "rate" "I") ∈ BIG := in_big 166 (by decide +kernel) (by decide +kernel)
theorem kw_167 : (Jvm.Cond.fieldLink "StarSenders$Net" (237 : Nat) "StarSenders$Tuning" "rate" "I") ∈ BIG := in_big 167 (by decide +kernel) (by decide +kernel)
theorem kw_168 : (Jvm.Cond.fieldLink "StarSenders$Tuning" (15 : Nat) "StarSenders$Tuning" "power" "I") ∈ BIG := in_big 168 (by decide +kernel) (by decide +kernel)
theorem kw_169 : (Jvm.Cond.fieldLink "StarSenders$Net" (238 : Nat) "StarSenders$Tuning" "power" "I") ∈ BIG := in_big 169 (by decide +kernel) (by decide +kernel)
theorem kw_170 : (Jvm.Cond.lays "StarSenders$Tuning" "StarSenders$Tuning" "rate" "I") ∈ BIG := in_big 170 (by decide +kernel) (by decide +kernel)
theorem kw_172 : (Jvm.Cond.lays "StarSenders$Tuning" "StarSenders$Tuning" "power" "I") ∈ BIG := in_big 172 (by decide +kernel) (by decide +kernel)
theorem kw_175 : (Jvm.Cond.instantiable "StarSenders$Sender" (10 : Nat)) ∈ BIG := in_big 175 (by decide +kernel) (by decide +kernel)
theorem kw_177 : (Jvm.Cond.instanceMethod ({ cls := "StarSenders$Sender", name := "<init>", desc := "()V" } : Jvm.MethodName)) ∈ BIG := in_big 177 (by decide +kernel) (by decide +kernel)
theorem kw_178 : (Jvm.Cond.code ({ cls := "StarSenders$Sender", name := "<init>", desc := "()V" } : Jvm.MethodName) prog_5_method_1_code (1 : Nat) (Option.none : Option Jvm.ClassFile.FieldType)) ∈ BIG := in_big 178 (by decide +kernel) (by decide +kernel)
theorem kw_179 : (Jvm.Cond.methodLink "StarSenders$Sender" (3 : Nat) ({ cls := "java/lang/Object", name := "<init>", desc := "()V" } : Jvm.MethodName)) ∈ BIG := in_big 179 (by decide +kernel) (by decide +kernel)
theorem kw_180 : (Jvm.Cond.fieldLink "StarSenders$Sender" (15 : Nat) "StarSenders$Sender" "rate" "I") ∈ BIG := in_big 180 (by decide +kernel) (by decide +kernel)
theorem kw_181 : (Jvm.Cond.fieldLink "StarSenders$Net" (112 : Nat) "StarSenders$Sender" "rate" "I") ∈ BIG := in_big 181 (by decide +kernel) (by decide +kernel)
theorem kw_182 : (Jvm.Cond.fieldLink "StarSenders$Sender" (19 : Nat) "StarSenders$Sender" "power" "I") ∈ BIG := in_big 182 (by decide +kernel) (by decide +kernel)
theorem kw_183 : (Jvm.Cond.fieldLink "StarSenders$Net" (109 : Nat) "StarSenders$Sender" "power" "I") ∈ BIG := in_big 183 (by decide +kernel) (by decide +kernel)
theorem kw_184 : (Jvm.Cond.fieldLink "StarSenders$Sender" (22 : Nat) "StarSenders$Sender" "counter" "I") ∈ BIG := in_big 184 (by decide +kernel) (by decide +kernel)
theorem kw_185 : (Jvm.Cond.fieldLink "StarSenders$Net" (217 : Nat) "StarSenders$Sender" "counter" "I") ∈ BIG := in_big 185 (by decide +kernel) (by decide +kernel)
theorem kw_186 : (Jvm.Cond.fieldLink "StarSenders$Sender" (25 : Nat) "StarSenders$Sender" "joined" "I") ∈ BIG := in_big 186 (by decide +kernel) (by decide +kernel)
theorem kw_187 : (Jvm.Cond.fieldLink "StarSenders" (109 : Nat) "StarSenders$Sender" "joined" "I") ∈ BIG := in_big 187 (by decide +kernel) (by decide +kernel)
theorem kw_188 : (Jvm.Cond.fieldLink "StarSenders$Net" (214 : Nat) "StarSenders$Sender" "joined" "I") ∈ BIG := in_big 188 (by decide +kernel) (by decide +kernel)
theorem kw_189 : (Jvm.Cond.fieldLink "StarSenders$Sender" (28 : Nat) "StarSenders$Sender" "sentLast" "I") ∈ BIG := in_big 189 (by decide +kernel) (by decide +kernel)
theorem kw_190 : (Jvm.Cond.fieldLink "StarSenders$Net" (123 : Nat) "StarSenders$Sender" "sentLast" "I") ∈ BIG := in_big 190 (by decide +kernel) (by decide +kernel)
theorem kw_191 : (Jvm.Cond.fieldLink "StarSenders$Sender" (31 : Nat) "StarSenders$Sender" "last" "I") ∈ BIG := in_big 191 (by decide +kernel) (by decide +kernel)
theorem kw_192 : (Jvm.Cond.fieldLink "StarSenders$Net" (204 : Nat) "StarSenders$Sender" "last" "I") ∈ BIG := in_big 192 (by decide +kernel) (by decide +kernel)
theorem kw_193 : (Jvm.Cond.fieldLink "StarSenders$Sender" (9 : Nat) "StarSenders$Sender" "margins" "[I") ∈ BIG := in_big 193 (by decide +kernel) (by decide +kernel)
theorem kw_194 : (Jvm.Cond.fieldLink "StarSenders" (121 : Nat) "StarSenders$Sender" "margins" "[I") ∈ BIG := in_big 194 (by decide +kernel) (by decide +kernel)
theorem kw_195 : (Jvm.Cond.fieldLink "StarSenders$Sender" (34 : Nat) "StarSenders$Sender" "noted" "I") ∈ BIG := in_big 195 (by decide +kernel) (by decide +kernel)
theorem kw_196 : (Jvm.Cond.fieldLink "StarSenders" (118 : Nat) "StarSenders$Sender" "noted" "I") ∈ BIG := in_big 196 (by decide +kernel) (by decide +kernel)
theorem kw_197 : (Jvm.Cond.fieldLink "StarSenders$Net" (207 : Nat) "StarSenders$Sender" "noted" "I") ∈ BIG := in_big 197 (by decide +kernel) (by decide +kernel)
theorem kw_198 : (Jvm.Cond.fieldLink "StarSenders$Sender" (37 : Nat) "StarSenders$Sender" "taken" "I") ∈ BIG := in_big 198 (by decide +kernel) (by decide +kernel)
theorem kw_199 : (Jvm.Cond.fieldLink "StarSenders$Sender" (40 : Nat) "StarSenders$Sender" "gaps" "I") ∈ BIG := in_big 199 (by decide +kernel) (by decide +kernel)
theorem kw_200 : (Jvm.Cond.lays "StarSenders$Sender" "StarSenders$Sender" "rate" "I") ∈ BIG := in_big 200 (by decide +kernel) (by decide +kernel)
theorem kw_202 : (Jvm.Cond.lays "StarSenders$Sender" "StarSenders$Sender" "power" "I") ∈ BIG := in_big 202 (by decide +kernel) (by decide +kernel)
theorem kw_204 : (Jvm.Cond.lays "StarSenders$Sender" "StarSenders$Sender" "counter" "I") ∈ BIG := in_big 204 (by decide +kernel) (by decide +kernel)
theorem kw_206 : (Jvm.Cond.lays "StarSenders$Sender" "StarSenders$Sender" "joined" "I") ∈ BIG := in_big 206 (by decide +kernel) (by decide +kernel)
theorem kw_208 : (Jvm.Cond.lays "StarSenders$Sender" "StarSenders$Sender" "sentLast" "I") ∈ BIG := in_big 208 (by decide +kernel) (by decide +kernel)
theorem kw_210 : (Jvm.Cond.lays "StarSenders$Sender" "StarSenders$Sender" "last" "I") ∈ BIG := in_big 210 (by decide +kernel) (by decide +kernel)
theorem kw_212 : (Jvm.Cond.laysFinal "StarSenders$Sender" "StarSenders$Sender" "margins" "[I") ∈ BIG := in_big 212 (by decide +kernel) (by decide +kernel)
theorem kw_214 : (Jvm.Cond.lays "StarSenders$Sender" "StarSenders$Sender" "noted" "I") ∈ BIG := in_big 214 (by decide +kernel) (by decide +kernel)
theorem kw_216 : (Jvm.Cond.lays "StarSenders$Sender" "StarSenders$Sender" "taken" "I") ∈ BIG := in_big 216 (by decide +kernel) (by decide +kernel)
theorem kw_218 : (Jvm.Cond.lays "StarSenders$Sender" "StarSenders$Sender" "gaps" "I") ∈ BIG := in_big 218 (by decide +kernel) (by decide +kernel)
theorem kw_221 : (Jvm.Cond.instantiable "StarSenders$Gate" (6 : Nat)) ∈ BIG := in_big 221 (by decide +kernel) (by decide +kernel)
theorem kw_223 : (Jvm.Cond.instanceMethod ({ cls := "StarSenders$Gate", name := "<init>", desc := "()V" } : Jvm.MethodName)) ∈ BIG := in_big 223 (by decide +kernel) (by decide +kernel)
theorem kw_224 : (Jvm.Cond.code ({ cls := "StarSenders$Gate", name := "<init>", desc := "()V" } : Jvm.MethodName) prog_3_method_1_code (1 : Nat) (Option.none : Option Jvm.ClassFile.FieldType)) ∈ BIG := in_big 224 (by decide +kernel) (by decide +kernel)
theorem kw_225 : (Jvm.Cond.methodLink "StarSenders$Gate" (3 : Nat) ({ cls := "java/lang/Object", name := "<init>", desc := "()V" } : Jvm.MethodName)) ∈ BIG := in_big 225 (by decide +kernel) (by decide +kernel)
theorem kw_226 : (Jvm.Cond.fieldLink "StarSenders$Gate" (9 : Nat) "StarSenders$Gate" "lag" "I") ∈ BIG := in_big 226 (by decide +kernel) (by decide +kernel)
theorem kw_227 : (Jvm.Cond.fieldLink "StarSenders" (55 : Nat) "StarSenders$Gate" "lag" "I") ∈ BIG := in_big 227 (by decide +kernel) (by decide +kernel)
theorem kw_228 : (Jvm.Cond.fieldLink "StarSenders$Net" (129 : Nat) "StarSenders$Gate" "lag" "I") ∈ BIG := in_big 228 (by decide +kernel) (by decide +kernel)
theorem kw_229 : (Jvm.Cond.fieldLink "StarSenders$Gate" (15 : Nat) "StarSenders$Gate" "budget" "I") ∈ BIG := in_big 229 (by decide +kernel) (by decide +kernel)
theorem kw_230 : (Jvm.Cond.fieldLink "StarSenders" (60 : Nat) "StarSenders$Gate" "budget" "I") ∈ BIG := in_big 230 (by decide +kernel) (by decide +kernel)
theorem kw_231 : (Jvm.Cond.fieldLink "StarSenders$Gate" (18 : Nat) "StarSenders$Gate" "spent" "I") ∈ BIG := in_big 231 (by decide +kernel) (by decide +kernel)
theorem kw_232 : (Jvm.Cond.fieldLink "StarSenders$Net" (148 : Nat) "StarSenders$Gate" "spent" "I") ∈ BIG := in_big 232 (by decide +kernel) (by decide +kernel)
theorem kw_233 : (Jvm.Cond.fieldLink "StarSenders$Gate" (21 : Nat) "StarSenders$Gate" "sentOn" "I") ∈ BIG := in_big 233 (by decide +kernel) (by decide +kernel)
theorem kw_234 : (Jvm.Cond.fieldLink "StarSenders$Net" (136 : Nat) "StarSenders$Gate" "sentOn" "I") ∈ BIG := in_big 234 (by decide +kernel) (by decide +kernel)
theorem kw_235 : (Jvm.Cond.fieldLink "StarSenders$Gate" (24 : Nat) "StarSenders$Gate" "answers" "I") ∈ BIG := in_big 235 (by decide +kernel) (by decide +kernel)
theorem kw_236 : (Jvm.Cond.fieldLink "StarSenders$Net" (242 : Nat) "StarSenders$Gate" "answers" "I") ∈ BIG := in_big 236 (by decide +kernel) (by decide +kernel)
theorem kw_237 : (Jvm.Cond.fieldLink "StarSenders$Gate" (27 : Nat) "StarSenders$Gate" "best" "I") ∈ BIG := in_big 237 (by decide +kernel) (by decide +kernel)
theorem kw_238 : (Jvm.Cond.fieldLink "StarSenders$Net" (224 : Nat) "StarSenders$Gate" "best" "I") ∈ BIG := in_big 238 (by decide +kernel) (by decide +kernel)
theorem kw_239 : (Jvm.Cond.lays "StarSenders$Gate" "StarSenders$Gate" "lag" "I") ∈ BIG := in_big 239 (by decide +kernel) (by decide +kernel)
theorem kw_241 : (Jvm.Cond.lays "StarSenders$Gate" "StarSenders$Gate" "budget" "I") ∈ BIG := in_big 241 (by decide +kernel) (by decide +kernel)
theorem kw_243 : (Jvm.Cond.lays "StarSenders$Gate" "StarSenders$Gate" "spent" "I") ∈ BIG := in_big 243 (by decide +kernel) (by decide +kernel)
theorem kw_245 : (Jvm.Cond.lays "StarSenders$Gate" "StarSenders$Gate" "sentOn" "I") ∈ BIG := in_big 245 (by decide +kernel) (by decide +kernel)
theorem kw_247 : (Jvm.Cond.lays "StarSenders$Gate" "StarSenders$Gate" "answers" "I") ∈ BIG := in_big 247 (by decide +kernel) (by decide +kernel)
theorem kw_249 : (Jvm.Cond.lays "StarSenders$Gate" "StarSenders$Gate" "best" "I") ∈ BIG := in_big 249 (by decide +kernel) (by decide +kernel)
theorem kw_252 : (Jvm.Cond.fieldLink "StarSenders$Net" (9 : Nat) "StarSenders$Net" "senderCount" "I") ∈ BIG := in_big 252 (by decide +kernel) (by decide +kernel)
theorem kw_253 : (Jvm.Cond.fieldLink "StarSenders" (37 : Nat) "StarSenders$Net" "senderCount" "I") ∈ BIG := in_big 253 (by decide +kernel) (by decide +kernel)
theorem kw_254 : (Jvm.Cond.fieldLink "StarSenders$Net" (15 : Nat) "StarSenders$Net" "gateCount" "I") ∈ BIG := in_big 254 (by decide +kernel) (by decide +kernel)
theorem kw_255 : (Jvm.Cond.fieldLink "StarSenders" (41 : Nat) "StarSenders$Net" "gateCount" "I") ∈ BIG := in_big 255 (by decide +kernel) (by decide +kernel)
theorem kw_256 : (Jvm.Cond.fieldLink "StarSenders$Net" (18 : Nat) "StarSenders$Net" "windowTicks" "I") ∈ BIG := in_big 256 (by decide +kernel) (by decide +kernel)
theorem kw_257 : (Jvm.Cond.fieldLink "StarSenders" (44 : Nat) "StarSenders$Net" "windowTicks" "I") ∈ BIG := in_big 257 (by decide +kernel) (by decide +kernel)
theorem kw_258 : (Jvm.Cond.fieldLink "StarSenders$Net" (61 : Nat) "StarSenders$Net" "tick" "I") ∈ BIG := in_big 258 (by decide +kernel) (by decide +kernel)
theorem kw_259 : (Jvm.Cond.fieldLink "StarSenders" (145 : Nat) "StarSenders$Net" "tick" "I") ∈ BIG := in_big 259 (by decide +kernel) (by decide +kernel)
theorem kw_260 : (Jvm.Cond.fieldLink "StarSenders$Net" (23 : Nat) "StarSenders$Net" "gains" "[[I") ∈ BIG := in_big 260 (by decide +kernel) (by decide +kernel)
theorem kw_261 : (Jvm.Cond.fieldLink "StarSenders" (66 : Nat) "StarSenders$Net" "gains" "[[I") ∈ BIG := in_big 261 (by decide +kernel) (by decide +kernel)
theorem kw_262 : (Jvm.Cond.fieldLink "StarSenders$Net" (28 : Nat) "StarSenders$Net" "senders" "[LStarSenders$Sender;") ∈ BIG := in_big 262 (by decide +kernel) (by decide +kernel)
theorem kw_263 : (Jvm.Cond.fieldLink "StarSenders" (77 : Nat) "StarSenders$Net" "senders" "[LStarSenders$Sender;") ∈ BIG := in_big 263 (by decide +kernel) (by decide +kernel)
theorem kw_264 : (Jvm.Cond.fieldLink "StarSenders$Net" (34 : Nat) "StarSenders$Net" "gates" "[LStarSenders$Gate;") ∈ BIG := in_big 264 (by decide +kernel) (by decide +kernel)
theorem kw_265 : (Jvm.Cond.fieldLink "StarSenders" (51 : Nat) "StarSenders$Net" "gates" "[LStarSenders$Gate;") ∈ BIG := in_big 265 (by decide +kernel) (by decide +kernel)
theorem kw_266 : (Jvm.Cond.fieldLink "StarSenders$Net" (41 : Nat) "StarSenders$Net" "copies" "LStarSenders$Copies;") ∈ BIG := in_big 266 (by decide +kernel) (by decide +kernel)
theorem kw_267 : (Jvm.Cond.fieldLink "StarSenders" (150 : Nat) "StarSenders$Net" "copies" "LStarSenders$Copies;") ∈ BIG := in_big 267 (by decide +kernel) (by decide +kernel)
theorem kw_268 : (Jvm.Cond.fieldLink "StarSenders$Net" (48 : Nat) "StarSenders$Net" "windows" "LStarSenders$Windows;") ∈ BIG := in_big 268 (by decide +kernel) (by decide +kernel)
theorem kw_269 : (Jvm.Cond.fieldLink "StarSenders" (133 : Nat) "StarSenders$Net" "windows" "LStarSenders$Windows;") ∈ BIG := in_big 269 (by decide +kernel) (by decide +kernel)
theorem kw_270 : (Jvm.Cond.fieldLink "StarSenders$Net" (55 : Nat) "StarSenders$Net" "tuning" "LStarSenders$Tuning;") ∈ BIG := in_big 270 (by decide +kernel) (by decide +kernel)
theorem kw_271 : (Jvm.Cond.fieldLink "StarSenders$Net" (68 : Nat) "StarSenders$Net" "lettersTaken" "I") ∈ BIG := in_big 271 (by decide +kernel) (by decide +kernel)
theorem kw_272 : (Jvm.Cond.fieldLink "StarSenders$Net" (71 : Nat) "StarSenders$Net" "joiningsTaken" "I") ∈ BIG := in_big 272 (by decide +kernel) (by decide +kernel)
theorem kw_273 : (Jvm.Cond.fieldLink "StarSenders$Net" (74 : Nat) "StarSenders$Net" "replays" "I") ∈ BIG := in_big 273 (by decide +kernel) (by decide +kernel)
theorem kw_274 : (Jvm.Cond.fieldLink "StarSenders$Net" (77 : Nat) "StarSenders$Net" "answers" "I") ∈ BIG := in_big 274 (by decide +kernel) (by decide +kernel)
theorem kw_275 : (Jvm.Cond.fieldLink "StarSenders$Net" (80 : Nat) "StarSenders$Net" "lost" "I") ∈ BIG := in_big 275 (by decide +kernel) (by decide +kernel)
theorem kw_276 : (Jvm.Cond.fieldLink "StarSenders$Net" (83 : Nat) "StarSenders$Net" "merged" "I") ∈ BIG := in_big 276 (by decide +kernel) (by decide +kernel)
theorem kw_277 : (Jvm.Cond.lays "StarSenders$Net" "StarSenders$Net" "senderCount" "I") ∈ BIG := in_big 277 (by decide +kernel) (by decide +kernel)
theorem kw_279 : (Jvm.Cond.lays "StarSenders$Net" "StarSenders$Net" "gateCount" "I") ∈ BIG := in_big 279 (by decide +kernel) (by decide +kernel)
theorem kw_281 : (Jvm.Cond.lays "StarSenders$Net" "StarSenders$Net" "windowTicks" "I") ∈ BIG := in_big 281 (by decide +kernel) (by decide +kernel)
theorem kw_283 : (Jvm.Cond.lays "StarSenders$Net" "StarSenders$Net" "tick" "I") ∈ BIG := in_big 283 (by decide +kernel) (by decide +kernel)
theorem kw_285 : (Jvm.Cond.laysFinal "StarSenders$Net" "StarSenders$Net" "gains" "[[I") ∈ BIG := in_big 285 (by decide +kernel) (by decide +kernel)
theorem kw_287 : (Jvm.Cond.laysFinal "StarSenders$Net" "StarSenders$Net" "senders" "[LStarSenders$Sender;") ∈ BIG := in_big 287 (by decide +kernel) (by decide +kernel)
theorem kw_289 : (Jvm.Cond.laysFinal "StarSenders$Net" "StarSenders$Net" "gates" "[LStarSenders$Gate;") ∈ BIG := in_big 289 (by decide +kernel) (by decide +kernel)
theorem kw_291 : (Jvm.Cond.laysFinal "StarSenders$Net" "StarSenders$Net" "copies" "LStarSenders$Copies;") ∈ BIG := in_big 291 (by decide +kernel) (by decide +kernel)
theorem kw_293 : (Jvm.Cond.laysFinal "StarSenders$Net" "StarSenders$Net" "windows" "LStarSenders$Windows;") ∈ BIG := in_big 293 (by decide +kernel) (by decide +kernel)
theorem kw_295 : (Jvm.Cond.laysFinal "StarSenders$Net" "StarSenders$Net" "tuning" "LStarSenders$Tuning;") ∈ BIG := in_big 295 (by decide +kernel) (by decide +kernel)
theorem kw_297 : (Jvm.Cond.lays "StarSenders$Net" "StarSenders$Net" "lettersTaken" "I") ∈ BIG := in_big 297 (by decide +kernel) (by decide +kernel)
theorem kw_299 : (Jvm.Cond.lays "StarSenders$Net" "StarSenders$Net" "joiningsTaken" "I") ∈ BIG := in_big 299 (by decide +kernel) (by decide +kernel)
theorem kw_301 : (Jvm.Cond.lays "StarSenders$Net" "StarSenders$Net" "replays" "I") ∈ BIG := in_big 301 (by decide +kernel) (by decide +kernel)
theorem kw_303 : (Jvm.Cond.lays "StarSenders$Net" "StarSenders$Net" "answers" "I") ∈ BIG := in_big 303 (by decide +kernel) (by decide +kernel)
theorem kw_305 : (Jvm.Cond.lays "StarSenders$Net" "StarSenders$Net" "lost" "I") ∈ BIG := in_big 305 (by decide +kernel) (by decide +kernel)
theorem kw_307 : (Jvm.Cond.lays "StarSenders$Net" "StarSenders$Net" "merged" "I") ∈ BIG := in_big 307 (by decide +kernel) (by decide +kernel)
theorem kw_310 : (Jvm.Cond.classLink "StarSenders" (16 : Nat) "StarSenders$Text") ∈ BIG := in_big 310 (by decide +kernel) (by decide +kernel)
theorem kw_311 : (Jvm.Cond.instantiable "StarSenders$Text" (8 : Nat)) ∈ BIG := in_big 311 (by decide +kernel) (by decide +kernel)
theorem kw_313 : (Jvm.Cond.instanceMethod ({ cls := "StarSenders$Text", name := "<init>", desc := "()V" } : Jvm.MethodName)) ∈ BIG := in_big 313 (by decide +kernel) (by decide +kernel)
theorem kw_314 : (Jvm.Cond.code ({ cls := "StarSenders$Text", name := "<init>", desc := "()V" } : Jvm.MethodName) prog_6_method_1_code (1 : Nat) (Option.none : Option Jvm.ClassFile.FieldType)) ∈ BIG := in_big 314 (by decide +kernel) (by decide +kernel)
theorem kw_315 : (Jvm.Cond.methodLink "StarSenders$Text" (3 : Nat) ({ cls := "java/lang/Object", name := "<init>", desc := "()V" } : Jvm.MethodName)) ∈ BIG := in_big 315 (by decide +kernel) (by decide +kernel)
theorem kw_316 : (Jvm.Cond.fieldLink "StarSenders$Text" (9 : Nat) "StarSenders$Text" "bytes" "[I") ∈ BIG := in_big 316 (by decide +kernel) (by decide +kernel)
theorem kw_317 : (Jvm.Cond.fieldLink "StarSenders" (169 : Nat) "StarSenders$Text" "bytes" "[I") ∈ BIG := in_big 317 (by decide +kernel) (by decide +kernel)
theorem kw_318 : (Jvm.Cond.fieldLink "StarSenders$Text" (37 : Nat) "StarSenders$Text" "length" "I") ∈ BIG := in_big 318 (by decide +kernel) (by decide +kernel)
theorem kw_319 : (Jvm.Cond.fieldLink "StarSenders" (166 : Nat) "StarSenders$Text" "length" "I") ∈ BIG := in_big 319 (by decide +kernel) (by decide +kernel)
theorem kw_320 : (Jvm.Cond.fieldLink "StarSenders$Text" (15 : Nat) "StarSenders$Text" "orderKind" "[I") ∈ BIG := in_big 320 (by decide +kernel) (by decide +kernel)
theorem kw_321 : (Jvm.Cond.fieldLink "StarSenders" (212 : Nat) "StarSenders$Text" "orderKind" "[I") ∈ BIG := in_big 321 (by decide +kernel) (by decide +kernel)
theorem kw_322 : (Jvm.Cond.fieldLink "StarSenders$Text" (18 : Nat) "StarSenders$Text" "orderSender" "[I") ∈ BIG := in_big 322 (by decide +kernel) (by decide +kernel)
theorem kw_323 : (Jvm.Cond.fieldLink "StarSenders" (203 : Nat) "StarSenders$Text" "orderSender" "[I") ∈ BIG := in_big 323 (by decide +kernel) (by decide +kernel)
theorem kw_324 : (Jvm.Cond.fieldLink "StarSenders$Text" (21 : Nat) "StarSenders$Text" "orderGate" "[I") ∈ BIG := in_big 324 (by decide +kernel) (by decide +kernel)
theorem kw_325 : (Jvm.Cond.fieldLink "StarSenders" (206 : Nat) "StarSenders$Text" "orderGate" "[I") ∈ BIG := in_big 325 (by decide +kernel) (by decide +kernel)
theorem kw_326 : (Jvm.Cond.fieldLink "StarSenders$Text" (24 : Nat) "StarSenders$Text" "orderNumber" "[I") ∈ BIG := in_big 326 (by decide +kernel) (by decide +kernel)
theorem kw_327 : (Jvm.Cond.fieldLink "StarSenders" (209 : Nat) "StarSenders$Text" "orderNumber" "[I") ∈ BIG := in_big 327 (by decide +kernel) (by decide +kernel)
theorem kw_328 : (Jvm.Cond.fieldLink "StarSenders$Text" (27 : Nat) "StarSenders$Text" "orders" "I") ∈ BIG := in_big 328 (by decide +kernel) (by decide +kernel)
theorem kw_329 : (Jvm.Cond.fieldLink "StarSenders" (175 : Nat) "StarSenders$Text" "orders" "I") ∈ BIG := in_big 329 (by decide +kernel) (by decide +kernel)
theorem kw_330 : (Jvm.Cond.fieldLink "StarSenders$Text" (31 : Nat) "StarSenders$Text" "place" "I") ∈ BIG := in_big 330 (by decide +kernel) (by decide +kernel)
theorem kw_331 : (Jvm.Cond.laysFinal "StarSenders$Text" "StarSenders$Text" "bytes" "[I") ∈ BIG := in_big 331 (by decide +kernel) (by decide +kernel)
theorem kw_333 : (Jvm.Cond.lays "StarSenders$Text" "StarSenders$Text" "length" "I") ∈ BIG := in_big 333 (by decide +kernel) (by decide +kernel)
theorem kw_335 : (Jvm.Cond.laysFinal "StarSenders$Text" "StarSenders$Text" "orderKind" "[I") ∈ BIG := in_big 335 (by decide +kernel) (by decide +kernel)
theorem kw_337 : (Jvm.Cond.laysFinal "StarSenders$Text" "StarSenders$Text" "orderSender" "[I") ∈ BIG := in_big 337 (by decide +kernel) (by decide +kernel)
theorem kw_339 : (Jvm.Cond.laysFinal "StarSenders$Text" "StarSenders$Text" "orderGate" "[I") ∈ BIG := in_big 339 (by decide +kernel) (by decide +kernel)
theorem kw_341 : (Jvm.Cond.laysFinal "StarSenders$Text" "StarSenders$Text" "orderNumber" "[I") ∈ BIG := in_big 341 (by decide +kernel) (by decide +kernel)
theorem kw_343 : (Jvm.Cond.lays "StarSenders$Text" "StarSenders$Text" "orders" "I") ∈ BIG := in_big 343 (by decide +kernel) (by decide +kernel)
theorem kw_345 : (Jvm.Cond.lays "StarSenders$Text" "StarSenders$Text" "place" "I") ∈ BIG := in_big 345 (by decide +kernel) (by decide +kernel)
theorem kw_348 : (Jvm.Cond.methodLink "StarSenders" (23 : Nat) ({ cls := "StarSenders$Net", name := "startAnew", desc := "()V" } : Jvm.MethodName)) ∈ BIG := in_big 348 (by decide +kernel) (by decide +kernel)
theorem kw_349 : (Jvm.Cond.instanceMethod ({ cls := "StarSenders$Net", name := "startAnew", desc := "()V" } : Jvm.MethodName)) ∈ BIG := in_big 349 (by decide +kernel) (by decide +kernel)
theorem kw_350 : (Jvm.Cond.selects "StarSenders$Net" ({ cls := "StarSenders$Net", name := "startAnew", desc := "()V" } : Jvm.MethodName) ({ cls := "StarSenders$Net", name := "startAnew", desc := "()V" } : Jvm.MethodName)) ∈ BIG := in_big 350 (by decide +kernel) (by decide +kernel)
theorem kw_351 : (Jvm.Cond.code ({ cls := "StarSenders$Net", name := "startAnew", desc := "()V" } : Jvm.MethodName) prog_4_method_2_code (2 : Nat) (Option.none : Option Jvm.ClassFile.FieldType)) ∈ BIG := in_big 351 (by decide +kernel) (by decide +kernel)
theorem kw_352 : (Jvm.Cond.methodLink "StarSenders$Net" (86 : Nat) ({ cls := "StarSenders$Sender", name := "becomeNew", desc := "()V" } : Jvm.MethodName)) ∈ BIG := in_big 352 (by decide +kernel) (by decide +kernel)
theorem kw_353 : (Jvm.Cond.instanceMethod ({ cls := "StarSenders$Sender", name := "becomeNew", desc := "()V" } : Jvm.MethodName)) ∈ BIG := in_big 353 (by decide +kernel) (by decide +kernel)
theorem kw_354 : (Jvm.Cond.selects "StarSenders$Sender" ({ cls := "StarSenders$Sender", name := "becomeNew", desc := "()V" } : Jvm.MethodName) ({ cls := "StarSenders$Sender", name := "becomeNew", desc := "()V" } : Jvm.MethodName)) ∈ BIG := in_big 354 (by decide +kernel) (by decide +kernel)
theorem kw_355 : (Jvm.Cond.code ({ cls := "StarSenders$Sender", name := "becomeNew", desc := "()V" } : Jvm.MethodName) prog_5_method_2_code (1 : Nat) (Option.none : Option Jvm.ClassFile.FieldType)) ∈ BIG := in_big 355 (by decide +kernel) (by decide +kernel)
theorem kw_356 : (Jvm.Cond.methodLink "StarSenders$Net" (89 : Nat) ({ cls := "StarSenders$Sender", name := "becomeUnknown", desc := "()V" } : Jvm.MethodName)) ∈ BIG := in_big 356 (by decide +kernel) (by decide +kernel)
theorem kw_357 : (Jvm.Cond.instanceMethod ({ cls := "StarSenders$Sender", name := "becomeUnknown", desc := "()V" } : Jvm.MethodName)) ∈ BIG := in_big 357 (by decide +kernel) (by decide +kernel)
theorem kw_358 : (Jvm.Cond.selects "StarSenders$Sender" ({ cls := "StarSenders$Sender", name := "becomeUnknown", desc := "()V" } : Jvm.MethodName) ({ cls := "StarSenders$Sender", name := "becomeUnknown", desc := "()V" } : Jvm.MethodName)) ∈ BIG := in_big 358 (by decide +kernel) (by decide +kernel)
theorem kw_359 : (Jvm.Cond.code ({ cls := "StarSenders$Sender", name := "becomeUnknown", desc := "()V" } : Jvm.MethodName) prog_5_method_3_code (1 : Nat) (Option.none : Option Jvm.ClassFile.FieldType)) ∈ BIG := in_big 359 (by decide +kernel) (by decide +kernel)
theorem kw_360 : (Jvm.Cond.methodLink "StarSenders$Net" (92 : Nat) ({ cls := "java/util/Arrays", name := "fill", desc := "([II)V" } : Jvm.MethodName)) ∈ BIG := in_big 360 (by decide +kernel) (by decide +kernel)
theorem kw_361 : (Jvm.Cond.static ({ cls := "java/util/Arrays", name := "fill", desc := "([II)V" } : Jvm.MethodName)) ∈ BIG := in_big 361 (by decide +kernel) (by decide +kernel)
theorem kw_362 : (Jvm.Cond.code ({ cls := "java/util/Arrays", name := "fill", desc := "([II)V" } : Jvm.MethodName) prog_13_method_103_code (4 : Nat) (Option.none : Option Jvm.ClassFile.FieldType)) ∈ BIG := in_big 362 (by decide +kernel) (by decide +kernel)
theorem kw_363 : (Jvm.Cond.methodLink "StarSenders$Net" (98 : Nat) ({ cls := "StarSenders$Gate", name := "becomeNew", desc := "()V" } : Jvm.MethodName)) ∈ BIG := in_big 363 (by decide +kernel) (by decide +kernel)
theorem kw_364 : (Jvm.Cond.instanceMethod ({ cls := "StarSenders$Gate", name := "becomeNew", desc := "()V" } : Jvm.MethodName)) ∈ BIG := in_big 364 (by decide +kernel) (by decide +kernel)
theorem kw_365 : (Jvm.Cond.selects "StarSenders$Gate" ({ cls := "StarSenders$Gate", name := "becomeNew", desc := "()V" } : Jvm.MethodName) ({ cls := "StarSenders$Gate", name := "becomeNew", desc := "()V" } : Jvm.MethodName)) ∈ BIG := in_big 365 (by decide +kernel) (by decide +kernel)
theorem kw_366 : (Jvm.Cond.code ({ cls := "StarSenders$Gate", name := "becomeNew", desc := "()V" } : Jvm.MethodName) prog_3_method_2_code (1 : Nat) (Option.none : Option Jvm.ClassFile.FieldType)) ∈ BIG := in_big 366 (by decide +kernel) (by decide +kernel)
theorem kw_367 : (Jvm.Cond.fieldLink "StarSenders" (12 : Nat) "StarSenders" "net" "LStarSenders$Net;") ∈ BIG := in_big 367 (by decide +kernel) (by decide +kernel)
theorem kw_368 : (Jvm.Cond.fieldLink "StarSenders" (19 : Nat) "StarSenders" "text" "LStarSenders$Text;") ∈ BIG := in_big 368 (by decide +kernel) (by decide +kernel)
theorem kw_369 : (Jvm.Cond.fieldLink "StarSenders" (125 : Nat) "StarSenders" "badCount" "I") ∈ BIG := in_big 369 (by decide +kernel) (by decide +kernel)
theorem kw_370 : (Jvm.Cond.fieldLink "StarSenders" (181 : Nat) "StarSenders" "noCount" "I") ∈ BIG := in_big 370 (by decide +kernel) (by decide +kernel)
theorem kw_371 : (Jvm.Cond.fieldLink "StarSenders" (184 : Nat) "StarSenders" "fullCount" "I") ∈ BIG := in_big 371 (by decide +kernel) (by decide +kernel)
theorem kw_372 : (Jvm.Cond.laysFinal "StarSenders" "StarSenders" "net" "LStarSenders$Net;") ∈ BIG := in_big 372 (by decide +kernel) (by decide +kernel)
theorem kw_374 : (Jvm.Cond.laysFinal "StarSenders" "StarSenders" "text" "LStarSenders$Text;") ∈ BIG := in_big 374 (by decide +kernel) (by decide +kernel)
theorem kw_376 : (Jvm.Cond.lays "StarSenders" "StarSenders" "badCount" "I") ∈ BIG := in_big 376 (by decide +kernel) (by decide +kernel)
theorem kw_378 : (Jvm.Cond.lays "StarSenders" "StarSenders" "noCount" "I") ∈ BIG := in_big 378 (by decide +kernel) (by decide +kernel)
theorem kw_380 : (Jvm.Cond.lays "StarSenders" "StarSenders" "fullCount" "I") ∈ BIG := in_big 380 (by decide +kernel) (by decide +kernel)
theorem kw_383 : (Jvm.Cond.methodLink "StarSendersLaw" (13 : Nat) ({ cls := "StarSenders", name := "sets", desc := "(II)I" } : Jvm.MethodName)) ∈ BIG := in_big 383 (by decide +kernel) (by decide +kernel)
theorem kw_384 : (Jvm.Cond.instanceMethod ({ cls := "StarSenders", name := "sets", desc := "(II)I" } : Jvm.MethodName)) ∈ BIG := in_big 384 (by decide +kernel) (by decide +kernel)
theorem kw_385 : (Jvm.Cond.selects "StarSenders" ({ cls := "StarSenders", name := "sets", desc := "(II)I" } : Jvm.MethodName) ({ cls := "StarSenders", name := "sets", desc := "(II)I" } : Jvm.MethodName)) ∈ BIG := in_big 385 (by decide +kernel) (by decide +kernel)
theorem kw_386 : (Jvm.Cond.code ({ cls := "StarSenders", name := "sets", desc := "(II)I" } : Jvm.MethodName) prog_1_method_2_code (4 : Nat) (Option.some Jvm.ClassFile.FieldType.int)) ∈ BIG := in_big 386 (by decide +kernel) (by decide +kernel)
theorem kw_387 : (Jvm.Cond.methodLink "StarSenders" (26 : Nat) ({ cls := "StarSenders", name := "mostOfSetting", desc := "(I)I" } : Jvm.MethodName)) ∈ BIG := in_big 387 (by decide +kernel) (by decide +kernel)
theorem kw_388 : (Jvm.Cond.static ({ cls := "StarSenders", name := "mostOfSetting", desc := "(I)I" } : Jvm.MethodName)) ∈ BIG := in_big 388 (by decide +kernel) (by decide +kernel)
theorem kw_389 : (Jvm.Cond.code ({ cls := "StarSenders", name := "mostOfSetting", desc := "(I)I" } : Jvm.MethodName) prog_1_method_29_code (1 : Nat) (Option.some Jvm.ClassFile.FieldType.int)) ∈ BIG := in_big 389 (by decide +kernel) (by decide +kernel)
theorem kw_390 : (Jvm.Cond.methodLink "StarSenders" (30 : Nat) ({ cls := "StarSenders", name := "refuseBad", desc := "()I" } : Jvm.MethodName)) ∈ BIG := in_big 390 (by decide +kernel) (by decide +kernel)
theorem kw_392 : (Jvm.Cond.instanceMethod ({ cls := "StarSenders", name := "refuseBad", desc := "()I" } : Jvm.MethodName)) ∈ BIG := in_big 392 (by decide +kernel) (by decide +kernel)
theorem kw_393 : (Jvm.Cond.code ({ cls := "StarSenders", name := "refuseBad", desc := "()I" } : Jvm.MethodName) prog_1_method_23_code (1 : Nat) (Option.some Jvm.ClassFile.FieldType.int)) ∈ BIG := in_big 393 (by decide +kernel) (by decide +kernel)
theorem kw_394 : (Jvm.Cond.methodLink "StarSenders" (34 : Nat) ({ cls := "StarSenders", name := "setting", desc := "(I)I" } : Jvm.MethodName)) ∈ BIG := in_big 394 (by decide +kernel) (by decide +kernel)
theorem kw_396 : (Jvm.Cond.instanceMethod ({ cls := "StarSenders", name := "setting", desc := "(I)I" } : Jvm.MethodName)) ∈ BIG := in_big 396 (by decide +kernel) (by decide +kernel)
theorem kw_397 : (Jvm.Cond.code ({ cls := "StarSenders", name := "setting", desc := "(I)I" } : Jvm.MethodName) prog_1_method_28_code (2 : Nat) (Option.some Jvm.ClassFile.FieldType.int)) ∈ BIG := in_big 397 (by decide +kernel) (by decide +kernel)
theorem kw_398 : (Jvm.Cond.methodLink "StarSendersLaw" (18 : Nat) ({ cls := "StarSenders", name := "gate", desc := "(III)I" } : Jvm.MethodName)) ∈ BIG := in_big 398 (by decide +kernel) (by decide +kernel)
theorem kw_399 : (Jvm.Cond.instanceMethod ({ cls := "StarSenders", name := "gate", desc := "(III)I" } : Jvm.MethodName)) ∈ BIG := in_big 399 (by decide +kernel) (by decide +kernel)
theorem kw_400 : (Jvm.Cond.selects "StarSenders" ({ cls := "StarSenders", name := "gate", desc := "(III)I" } : Jvm.MethodName) ({ cls := "StarSenders", name := "gate", desc := "(III)I" } : Jvm.MethodName)) ∈ BIG := in_big 400 (by decide +kernel) (by decide +kernel)
theorem kw_401 : (Jvm.Cond.code ({ cls := "StarSenders", name := "gate", desc := "(III)I" } : Jvm.MethodName) prog_1_method_3_code (6 : Nat) (Option.some Jvm.ClassFile.FieldType.int)) ∈ BIG := in_big 401 (by decide +kernel) (by decide +kernel)
theorem kw_402 : (Jvm.Cond.methodLink "StarSenders" (47 : Nat) ({ cls := "StarSenders", name := "isGate", desc := "(I)Z" } : Jvm.MethodName)) ∈ BIG := in_big 402 (by decide +kernel) (by decide +kernel)
theorem kw_404 : (Jvm.Cond.instanceMethod ({ cls := "StarSenders", name := "isGate", desc := "(I)Z" } : Jvm.MethodName)) ∈ BIG := in_big 404 (by decide +kernel) (by decide +kernel)
theorem kw_405 : (Jvm.Cond.code ({ cls := "StarSenders", name := "isGate", desc := "(I)Z" } : Jvm.MethodName) prog_1_method_27_code (2 : Nat) (Option.some Jvm.ClassFile.FieldType.boolean)) ∈ BIG := in_big 405 (by decide +kernel) (by decide +kernel)
theorem kw_406 : (Jvm.Cond.methodLink "StarSendersLaw" (23 : Nat) ({ cls := "StarSenders", name := "gain", desc := "(III)I" } : Jvm.MethodName)) ∈ BIG := in_big 406 (by decide +kernel) (by decide +kernel)
theorem kw_407 : (Jvm.Cond.instanceMethod ({ cls := "StarSenders", name := "gain", desc := "(III)I" } : Jvm.MethodName)) ∈ BIG := in_big 407 (by decide +kernel) (by decide +kernel)
theorem kw_408 : (Jvm.Cond.selects "StarSenders" ({ cls := "StarSenders", name := "gain", desc := "(III)I" } : Jvm.MethodName) ({ cls := "StarSenders", name := "gain", desc := "(III)I" } : Jvm.MethodName)) ∈ BIG := in_big 408 (by decide +kernel) (by decide +kernel)
theorem kw_409 : (Jvm.Cond.code ({ cls := "StarSenders", name := "gain", desc := "(III)I" } : Jvm.MethodName) prog_1_method_4_code (5 : Nat) (Option.some Jvm.ClassFile.FieldType.int)) ∈ BIG := in_big 409 (by decide +kernel) (by decide +kernel)
theorem kw_410 : (Jvm.Cond.methodLink "StarSenders" (63 : Nat) ({ cls := "StarSenders", name := "isSender", desc := "(I)Z" } : Jvm.MethodName)) ∈ BIG := in_big 410 (by decide +kernel) (by decide +kernel)
theorem kw_412 : (Jvm.Cond.instanceMethod ({ cls := "StarSenders", name := "isSender", desc := "(I)Z" } : Jvm.MethodName)) ∈ BIG := in_big 412 (by decide +kernel) (by decide +kernel)
theorem kw_413 : (Jvm.Cond.code ({ cls := "StarSenders", name := "isSender", desc := "(I)Z" } : Jvm.MethodName) prog_1_method_26_code (2 : Nat) (Option.some Jvm.ClassFile.FieldType.boolean)) ∈ BIG := in_big 413 (by decide +kernel) (by decide +kernel)
theorem kw_414 : (Jvm.Cond.methodLink "StarSendersLaw" (27 : Nat) ({ cls := "StarSenders", name := "draw", desc := "(I)I" } : Jvm.MethodName)) ∈ BIG := in_big 414 (by decide +kernel) (by decide +kernel)
theorem kw_415 : (Jvm.Cond.instanceMethod ({ cls := "StarSenders", name := "draw", desc := "(I)I" } : Jvm.MethodName)) ∈ BIG := in_big 415 (by decide +kernel) (by decide +kernel)
theorem kw_416 : (Jvm.Cond.selects "StarSenders" ({ cls := "StarSenders", name := "draw", desc := "(I)I" } : Jvm.MethodName) ({ cls := "StarSenders", name := "draw", desc := "(I)I" } : Jvm.MethodName)) ∈ BIG := in_big 416 (by decide +kernel) (by decide +kernel)
theorem kw_417 : (Jvm.Cond.code ({ cls := "StarSenders", name := "draw", desc := "(I)I" } : Jvm.MethodName) prog_1_method_5_code (2 : Nat) (Option.some Jvm.ClassFile.FieldType.int)) ∈ BIG := in_big 417 (by decide +kernel) (by decide +kernel)
theorem kw_418 : (Jvm.Cond.constant "StarSenders" (70 : Nat) (999999 : Int32)) ∈ BIG := in_big 418 (by decide +kernel) (by decide +kernel)
theorem kw_419 : (Jvm.Cond.methodLink "StarSenders" (71 : Nat) ({ cls := "StarSenders$Net", name := "drawGains", desc := "(I)I" } : Jvm.MethodName)) ∈ BIG := in_big 419 (by decide +kernel) (by decide +kernel)
theorem kw_420 : (Jvm.Cond.instanceMethod ({ cls := "StarSenders$Net", name := "drawGains", desc := "(I)I" } : Jvm.MethodName)) ∈ BIG := in_big 420 (by decide +kernel) (by decide +kernel)
theorem kw_421 : (Jvm.Cond.selects "StarSenders$Net" ({ cls := "StarSenders$Net", name := "drawGains", desc := "(I)I" } : Jvm.MethodName) ({ cls := "StarSenders$Net", name := "drawGains", desc := "(I)I" } : Jvm.MethodName)) ∈ BIG := in_big 421 (by decide +kernel) (by decide +kernel)
theorem kw_422 : (Jvm.Cond.code ({ cls := "StarSenders$Net", name := "drawGains", desc := "(I)I" } : Jvm.MethodName) prog_4_method_3_code (7 : Nat) (Option.some Jvm.ClassFile.FieldType.int)) ∈ BIG := in_big 422 (by decide +kernel) (by decide +kernel)
theorem kw_423 : (Jvm.Cond.constantLong "StarSenders$Net" (99 : Nat) (1103515245 : Int64)) ∈ BIG := in_big 423 (by decide +kernel) (by decide +kernel)
theorem kw_424 : (Jvm.Cond.constantLong "StarSenders$Net" (101 : Nat) (12345 : Int64)) ∈ BIG := in_big 424 (by decide +kernel) (by decide +kernel)
theorem kw_425 : (Jvm.Cond.constantLong "StarSenders$Net" (103 : Nat) (2147483648 : Int64)) ∈ BIG := in_big 425 (by decide +kernel) (by decide +kernel)
theorem kw_426 : (Jvm.Cond.constantLong "StarSenders$Net" (105 : Nat) (65536 : Int64)) ∈ BIG := in_big 426 (by decide +kernel) (by decide +kernel)
theorem kw_427 : (Jvm.Cond.constantLong "StarSenders$Net" (107 : Nat) (61 : Int64)) ∈ BIG := in_big 427 (by decide +kernel) (by decide +kernel)
theorem kw_428 : (Jvm.Cond.methodLink "StarSendersLaw" (32 : Nat) ({ cls := "StarSenders", name := "sender", desc := "(III)I" } : Jvm.MethodName)) ∈ BIG := in_big 428 (by decide +kernel) (by decide +kernel)
theorem kw_429 : (Jvm.Cond.instanceMethod ({ cls := "StarSenders", name := "sender", desc := "(III)I" } : Jvm.MethodName)) ∈ BIG := in_big 429 (by decide +kernel) (by decide +kernel)
theorem kw_430 : (Jvm.Cond.selects "StarSenders" ({ cls := "StarSenders", name := "sender", desc := "(III)I" } : Jvm.MethodName) ({ cls := "StarSenders", name := "sender", desc := "(III)I" } : Jvm.MethodName)) ∈ BIG := in_big 430 (by decide +kernel) (by decide +kernel)
theorem kw_431 : (Jvm.Cond.code ({ cls := "StarSenders", name := "sender", desc := "(III)I" } : Jvm.MethodName) prog_1_method_6_code (4 : Nat) (Option.some Jvm.ClassFile.FieldType.int)) ∈ BIG := in_big 431 (by decide +kernel) (by decide +kernel)
theorem kw_432 : (Jvm.Cond.methodLink "StarSenders" (74 : Nat) ({ cls := "StarSenders", name := "mostOfSender", desc := "(I)I" } : Jvm.MethodName)) ∈ BIG := in_big 432 (by decide +kernel) (by decide +kernel)
theorem kw_433 : (Jvm.Cond.static ({ cls := "StarSenders", name := "mostOfSender", desc := "(I)I" } : Jvm.MethodName)) ∈ BIG := in_big 433 (by decide +kernel) (by decide +kernel)
theorem kw_434 : (Jvm.Cond.code ({ cls := "StarSenders", name := "mostOfSender", desc := "(I)I" } : Jvm.MethodName) prog_1_method_30_code (1 : Nat) (Option.some Jvm.ClassFile.FieldType.int)) ∈ BIG := in_big 434 (by decide +kernel) (by decide +kernel)
theorem kw_435 : (Jvm.Cond.methodLink "StarSenders" (81 : Nat) ({ cls := "StarSenders$Sender", name := "change", desc := "(II)I" } : Jvm.MethodName)) ∈ BIG := in_big 435 (by decide +kernel) (by decide +kernel)
theorem kw_436 : (Jvm.Cond.instanceMethod ({ cls := "StarSenders$Sender", name := "change", desc := "(II)I" } : Jvm.MethodName)) ∈ BIG := in_big 436 (by decide +kernel) (by decide +kernel)
theorem kw_437 : (Jvm.Cond.selects "StarSenders$Sender" ({ cls := "StarSenders$Sender", name := "change", desc := "(II)I" } : Jvm.MethodName) ({ cls := "StarSenders$Sender", name := "change", desc := "(II)I" } : Jvm.MethodName)) ∈ BIG := in_big 437 (by decide +kernel) (by decide +kernel)
theorem kw_438 : (Jvm.Cond.code ({ cls := "StarSenders$Sender", name := "change", desc := "(II)I" } : Jvm.MethodName) prog_5_method_10_code (4 : Nat) (Option.some Jvm.ClassFile.FieldType.int)) ∈ BIG := in_big 438 (by decide +kernel) (by decide +kernel)
theorem kw_439 : (Jvm.Cond.methodLink "StarSenders$Sender" (62 : Nat) ({ cls := "StarSenders$Sender", name := "value", desc := "(I)I" } : Jvm.MethodName)) ∈ BIG := in_big 439 (by decide +kernel) (by decide +kernel)
theorem kw_440 : (Jvm.Cond.instanceMethod ({ cls := "StarSenders$Sender", name := "value", desc := "(I)I" } : Jvm.MethodName)) ∈ BIG := in_big 440 (by decide +kernel) (by decide +kernel)
theorem kw_441 : (Jvm.Cond.selects "StarSenders$Sender" ({ cls := "StarSenders$Sender", name := "value", desc := "(I)I" } : Jvm.MethodName) ({ cls := "StarSenders$Sender", name := "value", desc := "(I)I" } : Jvm.MethodName)) ∈ BIG := in_big 441 (by decide +kernel) (by decide +kernel)
theorem kw_442 : (Jvm.Cond.code ({ cls := "StarSenders$Sender", name := "value", desc := "(I)I" } : Jvm.MethodName) prog_5_method_11_code (2 : Nat) (Option.some Jvm.ClassFile.FieldType.int)) ∈ BIG := in_big 442 (by decide +kernel) (by decide +kernel)
theorem kw_443 : (Jvm.Cond.methodLink "StarSendersLaw" (36 : Nat) ({ cls := "StarSenders", name := "sends", desc := "(I)I" } : Jvm.MethodName)) ∈ BIG := in_big 443 (by decide +kernel) (by decide +kernel)
theorem kw_444 : (Jvm.Cond.instanceMethod ({ cls := "StarSenders", name := "sends", desc := "(I)I" } : Jvm.MethodName)) ∈ BIG := in_big 444 (by decide +kernel) (by decide +kernel)
theorem kw_445 : (Jvm.Cond.selects "StarSenders" ({ cls := "StarSenders", name := "sends", desc := "(I)I" } : Jvm.MethodName) ({ cls := "StarSenders", name := "sends", desc := "(I)I" } : Jvm.MethodName)) ∈ BIG := in_big 445 (by decide +kernel) (by decide +kernel)
theorem kw_446 : (Jvm.Cond.code ({ cls := "StarSenders", name := "sends", desc := "(I)I" } : Jvm.MethodName) prog_1_method_7_code (2 : Nat) (Option.some Jvm.ClassFile.FieldType.int)) ∈ BIG := in_big 446 (by decide +kernel) (by decide +kernel)
theorem kw_447 : (Jvm.Cond.methodLink "StarSenders" (87 : Nat) ({ cls := "StarSenders$Net", name := "isFull", desc := "()Z" } : Jvm.MethodName)) ∈ BIG := in_big 447 (by decide +kernel) (by decide +kernel)
theorem kw_448 : (Jvm.Cond.instanceMethod ({ cls := "StarSenders$Net", name := "isFull", desc := "()Z" } : Jvm.MethodName)) ∈ BIG := in_big 448 (by decide +kernel) (by decide +kernel)
theorem kw_449 : (Jvm.Cond.selects "StarSenders$Net" ({ cls := "StarSenders$Net", name := "isFull", desc := "()Z" } : Jvm.MethodName) ({ cls := "StarSenders$Net", name := "isFull", desc := "()Z" } : Jvm.MethodName)) ∈ BIG := in_big 449 (by decide +kernel) (by decide +kernel)
theorem kw_450 : (Jvm.Cond.code ({ cls := "StarSenders$Net", name := "isFull", desc := "()Z" } : Jvm.MethodName) prog_4_method_4_code (1 : Nat) (Option.some Jvm.ClassFile.FieldType.boolean)) ∈ BIG := in_big 450 (by decide +kernel) (by decide +kernel)
theorem kw_451 : (Jvm.Cond.methodLink "StarSenders" (91 : Nat) ({ cls := "StarSenders", name := "refuseFull", desc := "()I" } : Jvm.MethodName)) ∈ BIG := in_big 451 (by decide +kernel) (by decide +kernel)
theorem kw_453 : (Jvm.Cond.instanceMethod ({ cls := "StarSenders", name := "refuseFull", desc := "()I" } : Jvm.MethodName)) ∈ BIG := in_big 453 (by decide +kernel) (by decide +kernel)
theorem kw_454 : (Jvm.Cond.code ({ cls := "StarSenders", name := "refuseFull", desc := "()I" } : Jvm.MethodName) prog_1_method_25_code (1 : Nat) (Option.some Jvm.ClassFile.FieldType.int)) ∈ BIG := in_big 454 (by decide +kernel) (by decide +kernel)
theorem kw_455 : (Jvm.Cond.methodLink "StarSenders" (94 : Nat) ({ cls := "StarSenders$Net", name := "sendNext", desc := "(I)I" } : Jvm.MethodName)) ∈ BIG := in_big 455 (by decide +kernel) (by decide +kernel)
theorem kw_456 : (Jvm.Cond.instanceMethod ({ cls := "StarSenders$Net", name := "sendNext", desc := "(I)I" } : Jvm.MethodName)) ∈ BIG := in_big 456 (by decide +kernel) (by decide +kernel)
theorem kw_457 : (Jvm.Cond.selects "StarSenders$Net" ({ cls := "StarSenders$Net", name := "sendNext", desc := "(I)I" } : Jvm.MethodName) ({ cls := "StarSenders$Net", name := "sendNext", desc := "(I)I" } : Jvm.MethodName)) ∈ BIG := in_big 457 (by decide +kernel) (by decide +kernel)
theorem kw_458 : (Jvm.Cond.code ({ cls := "StarSenders$Net", name := "sendNext", desc := "(I)I" } : Jvm.MethodName) prog_4_method_6_code (2 : Nat) (Option.some Jvm.ClassFile.FieldType.int)) ∈ BIG := in_big 458 (by decide +kernel) (by decide +kernel)
theorem kw_459 : (Jvm.Cond.methodLink "StarSenders$Net" (115 : Nat) ({ cls := "StarSenders$Sender", name := "nextLetter", desc := "()I" } : Jvm.MethodName)) ∈ BIG := in_big 459 (by decide +kernel) (by decide +kernel)
theorem kw_460 : (Jvm.Cond.instanceMethod ({ cls := "StarSenders$Sender", name := "nextLetter", desc := "()I" } : Jvm.MethodName)) ∈ BIG := in_big 460 (by decide +kernel) (by decide +kernel)
theorem kw_461 : (Jvm.Cond.selects "StarSenders$Sender" ({ cls := "StarSenders$Sender", name := "nextLetter", desc := "()I" } : Jvm.MethodName) ({ cls := "StarSenders$Sender", name := "nextLetter", desc := "()I" } : Jvm.MethodName)) ∈ BIG := in_big 461 (by decide +kernel) (by decide +kernel)
theorem kw_462 : (Jvm.Cond.code ({ cls := "StarSenders$Sender", name := "nextLetter", desc := "()I" } : Jvm.MethodName) prog_5_method_5_code (1 : Nat) (Option.some Jvm.ClassFile.FieldType.int)) ∈ BIG := in_big 462 (by decide +kernel) (by decide +kernel)
theorem kw_463 : (Jvm.Cond.methodLink "StarSenders$Net" (119 : Nat) ({ cls := "StarSenders$Net", name := "spread", desc := "(II)I" } : Jvm.MethodName)) ∈ BIG := in_big 463 (by decide +kernel) (by decide +kernel)
theorem kw_465 : (Jvm.Cond.instanceMethod ({ cls := "StarSenders$Net", name := "spread", desc := "(II)I" } : Jvm.MethodName)) ∈ BIG := in_big 465 (by decide +kernel) (by decide +kernel)
theorem kw_466 : (Jvm.Cond.code ({ cls := "StarSenders$Net", name := "spread", desc := "(II)I" } : Jvm.MethodName) prog_4_method_8_code (6 : Nat) (Option.some Jvm.ClassFile.FieldType.int)) ∈ BIG := in_big 466 (by decide +kernel) (by decide +kernel)
theorem kw_467 : (Jvm.Cond.methodLink "StarSenders$Net" (126 : Nat) ({ cls := "StarSenders$Net", name := "marginAt", desc := "(II)I" } : Jvm.MethodName)) ∈ BIG := in_big 467 (by decide +kernel) (by decide +kernel)
theorem kw_468 : (Jvm.Cond.instanceMethod ({ cls := "StarSenders$Net", name := "marginAt", desc := "(II)I" } : Jvm.MethodName)) ∈ BIG := in_big 468 (by decide +kernel) (by decide +kernel)
theorem kw_469 : (Jvm.Cond.selects "StarSenders$Net" ({ cls := "StarSenders$Net", name := "marginAt", desc := "(II)I" } : Jvm.MethodName) ({ cls := "StarSenders$Net", name := "marginAt", desc := "(II)I" } : Jvm.MethodName)) ∈ BIG := in_big 469 (by decide +kernel) (by decide +kernel)
theorem kw_470 : (Jvm.Cond.code ({ cls := "StarSenders$Net", name := "marginAt", desc := "(II)I" } : Jvm.MethodName) prog_4_method_5_code (3 : Nat) (Option.some Jvm.ClassFile.FieldType.int)) ∈ BIG := in_big 470 (by decide +kernel) (by decide +kernel)
theorem kw_471 : (Jvm.Cond.methodLink "StarSenders$Net" (132 : Nat) ({ cls := "StarSenders$Copies", name := "add", desc := "(IIIII)V" } : Jvm.MethodName)) ∈ BIG := in_big 471 (by decide +kernel) (by decide +kernel)
theorem kw_472 : (Jvm.Cond.instanceMethod ({ cls := "StarSenders$Copies", name := "add", desc := "(IIIII)V" } : Jvm.MethodName)) ∈ BIG := in_big 472 (by decide +kernel) (by decide +kernel)
theorem kw_473 : (Jvm.Cond.selects "StarSenders$Copies" ({ cls := "StarSenders$Copies", name := "add", desc := "(IIIII)V" } : Jvm.MethodName) ({ cls := "StarSenders$Copies", name := "add", desc := "(IIIII)V" } : Jvm.MethodName)) ∈ BIG := in_big 473 (by decide +kernel) (by decide +kernel)
theorem kw_474 : (Jvm.Cond.code ({ cls := "StarSenders$Copies", name := "add", desc := "(IIIII)V" } : Jvm.MethodName) prog_2_method_2_code (6 : Nat) (Option.none : Option Jvm.ClassFile.FieldType)) ∈ BIG := in_big 474 (by decide +kernel) (by decide +kernel)
theorem kw_475 : (Jvm.Cond.methodLink "StarSendersLaw" (40 : Nat) ({ cls := "StarSenders", name := "again", desc := "(I)I" } : Jvm.MethodName)) ∈ BIG := in_big 475 (by decide +kernel) (by decide +kernel)
theorem kw_476 : (Jvm.Cond.instanceMethod ({ cls := "StarSenders", name := "again", desc := "(I)I" } : Jvm.MethodName)) ∈ BIG := in_big 476 (by decide +kernel) (by decide +kernel)
theorem kw_477 : (Jvm.Cond.selects "StarSenders" ({ cls := "StarSenders", name := "again", desc := "(I)I" } : Jvm.MethodName) ({ cls := "StarSenders", name := "again", desc := "(I)I" } : Jvm.MethodName)) ∈ BIG := in_big 477 (by decide +kernel) (by decide +kernel)
theorem kw_478 : (Jvm.Cond.code ({ cls := "StarSenders", name := "again", desc := "(I)I" } : Jvm.MethodName) prog_1_method_8_code (2 : Nat) (Option.some Jvm.ClassFile.FieldType.int)) ∈ BIG := in_big 478 (by decide +kernel) (by decide +kernel)
theorem kw_479 : (Jvm.Cond.methodLink "StarSenders" (97 : Nat) ({ cls := "StarSenders$Sender", name := "hasSent", desc := "()Z" } : Jvm.MethodName)) ∈ BIG := in_big 479 (by decide +kernel) (by decide +kernel)
theorem kw_480 : (Jvm.Cond.instanceMethod ({ cls := "StarSenders$Sender", name := "hasSent", desc := "()Z" } : Jvm.MethodName)) ∈ BIG := in_big 480 (by decide +kernel) (by decide +kernel)
theorem kw_481 : (Jvm.Cond.selects "StarSenders$Sender" ({ cls := "StarSenders$Sender", name := "hasSent", desc := "()Z" } : Jvm.MethodName) ({ cls := "StarSenders$Sender", name := "hasSent", desc := "()Z" } : Jvm.MethodName)) ∈ BIG := in_big 481 (by decide +kernel) (by decide +kernel)
theorem kw_482 : (Jvm.Cond.code ({ cls := "StarSenders$Sender", name := "hasSent", desc := "()Z" } : Jvm.MethodName) prog_5_method_4_code (1 : Nat) (Option.some Jvm.ClassFile.FieldType.boolean)) ∈ BIG := in_big 482 (by decide +kernel) (by decide +kernel)
theorem kw_483 : (Jvm.Cond.methodLink "StarSenders" (100 : Nat) ({ cls := "StarSenders", name := "refuseNo", desc := "()I" } : Jvm.MethodName)) ∈ BIG := in_big 483 (by decide +kernel) (by decide +kernel)
theorem kw_485 : (Jvm.Cond.instanceMethod ({ cls := "StarSenders", name := "refuseNo", desc := "()I" } : Jvm.MethodName)) ∈ BIG := in_big 485 (by decide +kernel) (by decide +kernel)
theorem kw_486 : (Jvm.Cond.code ({ cls := "StarSenders", name := "refuseNo", desc := "()I" } : Jvm.MethodName) prog_1_method_24_code (1 : Nat) (Option.some Jvm.ClassFile.FieldType.int)) ∈ BIG := in_big 486 (by decide +kernel) (by decide +kernel)
theorem kw_487 : (Jvm.Cond.methodLink "StarSenders" (103 : Nat) ({ cls := "StarSenders$Net", name := "sendLastAgain", desc := "(I)I" } : Jvm.MethodName)) ∈ BIG := in_big 487 (by decide +kernel) (by decide +kernel)
theorem kw_488 : (Jvm.Cond.instanceMethod ({ cls := "StarSenders$Net", name := "sendLastAgain", desc := "(I)I" } : Jvm.MethodName)) ∈ BIG := in_big 488 (by decide +kernel) (by decide +kernel)
theorem kw_489 : (Jvm.Cond.selects "StarSenders$Net" ({ cls := "StarSenders$Net", name := "sendLastAgain", desc := "(I)I" } : Jvm.MethodName) ({ cls := "StarSenders$Net", name := "sendLastAgain", desc := "(I)I" } : Jvm.MethodName)) ∈ BIG := in_big 489 (by decide +kernel) (by decide +kernel)
theorem kw_490 : (Jvm.Cond.code ({ cls := "StarSenders$Net", name := "sendLastAgain", desc := "(I)I" } : Jvm.MethodName) prog_4_method_7_code (2 : Nat) (Option.some Jvm.ClassFile.FieldType.int)) ∈ BIG := in_big 490 (by decide +kernel) (by decide +kernel)
theorem kw_491 : (Jvm.Cond.methodLink "StarSendersLaw" (44 : Nat) ({ cls := "StarSenders", name := "ticks", desc := "(I)I" } : Jvm.MethodName)) ∈ BIG := in_big 491 (by decide +kernel) (by decide +kernel)
theorem kw_492 : (Jvm.Cond.instanceMethod ({ cls := "StarSenders", name := "ticks", desc := "(I)I" } : Jvm.MethodName)) ∈ BIG := in_big 492 (by decide +kernel) (by decide +kernel)
theorem kw_493 : (Jvm.Cond.selects "StarSenders" ({ cls := "StarSenders", name := "ticks", desc := "(I)I" } : Jvm.MethodName) ({ cls := "StarSenders", name := "ticks", desc := "(I)I" } : Jvm.MethodName)) ∈ BIG := in_big 493 (by decide +kernel) (by decide +kernel)
theorem kw_494 : (Jvm.Cond.code ({ cls := "StarSenders", name := "ticks", desc := "(I)I" } : Jvm.MethodName) prog_1_method_9_code (2 : Nat) (Option.some Jvm.ClassFile.FieldType.int)) ∈ BIG := in_big 494 (by decide +kernel) (by decide +kernel)
theorem kw_495 : (Jvm.Cond.methodLink "StarSenders" (106 : Nat) ({ cls := "StarSenders$Net", name := "passTicks", desc := "(I)I" } : Jvm.MethodName)) ∈ BIG := in_big 495 (by decide +kernel) (by decide +kernel)
theorem kw_496 : (Jvm.Cond.instanceMethod ({ cls := "StarSenders$Net", name := "passTicks", desc := "(I)I" } : Jvm.MethodName)) ∈ BIG := in_big 496 (by decide +kernel) (by decide +kernel)
theorem kw_497 : (Jvm.Cond.selects "StarSenders$Net" ({ cls := "StarSenders$Net", name := "passTicks", desc := "(I)I" } : Jvm.MethodName) ({ cls := "StarSenders$Net", name := "passTicks", desc := "(I)I" } : Jvm.MethodName)) ∈ BIG := in_big 497 (by decide +kernel) (by decide +kernel)
theorem kw_498 : (Jvm.Cond.code ({ cls := "StarSenders$Net", name := "passTicks", desc := "(I)I" } : Jvm.MethodName) prog_4_method_9_code (4 : Nat) (Option.some Jvm.ClassFile.FieldType.int)) ∈ BIG := in_big 498 (by decide +kernel) (by decide +kernel)
theorem kw_499 : (Jvm.Cond.methodLink "StarSenders$Net" (139 : Nat) ({ cls := "StarSenders$Net", name := "refillBudgets", desc := "()V" } : Jvm.MethodName)) ∈ BIG := in_big 499 (by decide +kernel) (by decide +kernel)
theorem kw_501 : (Jvm.Cond.instanceMethod ({ cls := "StarSenders$Net", name := "refillBudgets", desc := "()V" } : Jvm.MethodName)) ∈ BIG := in_big 501 (by decide +kernel) (by decide +kernel)
theorem kw_502 : (Jvm.Cond.code ({ cls := "StarSenders$Net", name := "refillBudgets", desc := "()V" } : Jvm.MethodName) prog_4_method_10_code (2 : Nat) (Option.none : Option Jvm.ClassFile.FieldType)) ∈ BIG := in_big 502 (by decide +kernel) (by decide +kernel)
theorem kw_503 : (Jvm.Cond.methodLink "StarSenders$Net" (142 : Nat) ({ cls := "StarSenders$Net", name := "bringCopies", desc := "()V" } : Jvm.MethodName)) ∈ BIG := in_big 503 (by decide +kernel) (by decide +kernel)
theorem kw_505 : (Jvm.Cond.instanceMethod ({ cls := "StarSenders$Net", name := "bringCopies", desc := "()V" } : Jvm.MethodName)) ∈ BIG := in_big 505 (by decide +kernel) (by decide +kernel)
theorem kw_506 : (Jvm.Cond.code ({ cls := "StarSenders$Net", name := "bringCopies", desc := "()V" } : Jvm.MethodName) prog_4_method_11_code (3 : Nat) (Option.none : Option Jvm.ClassFile.FieldType)) ∈ BIG := in_big 506 (by decide +kernel) (by decide +kernel)
theorem kw_507 : (Jvm.Cond.methodLink "StarSenders$Net" (155 : Nat) ({ cls := "StarSenders$Net", name := "bring", desc := "(I)V" } : Jvm.MethodName)) ∈ BIG := in_big 507 (by decide +kernel) (by decide +kernel)
theorem kw_509 : (Jvm.Cond.instanceMethod ({ cls := "StarSenders$Net", name := "bring", desc := "(I)V" } : Jvm.MethodName)) ∈ BIG := in_big 509 (by decide +kernel) (by decide +kernel)
theorem kw_510 : (Jvm.Cond.code ({ cls := "StarSenders$Net", name := "bring", desc := "(I)V" } : Jvm.MethodName) prog_4_method_12_code (5 : Nat) (Option.none : Option Jvm.ClassFile.FieldType)) ∈ BIG := in_big 510 (by decide +kernel) (by decide +kernel)
theorem kw_511 : (Jvm.Cond.methodLink "StarSenders$Net" (169 : Nat) ({ cls := "StarSenders$Windows", name := "find", desc := "(II)I" } : Jvm.MethodName)) ∈ BIG := in_big 511 (by decide +kernel) (by decide +kernel)
theorem kw_512 : (Jvm.Cond.instanceMethod ({ cls := "StarSenders$Windows", name := "find", desc := "(II)I" } : Jvm.MethodName)) ∈ BIG := in_big 512 (by decide +kernel) (by decide +kernel)
theorem kw_513 : (Jvm.Cond.selects "StarSenders$Windows" ({ cls := "StarSenders$Windows", name := "find", desc := "(II)I" } : Jvm.MethodName) ({ cls := "StarSenders$Windows", name := "find", desc := "(II)I" } : Jvm.MethodName)) ∈ BIG := in_big 513 (by decide +kernel) (by decide +kernel)
theorem kw_514 : (Jvm.Cond.code ({ cls := "StarSenders$Windows", name := "find", desc := "(II)I" } : Jvm.MethodName) prog_8_method_2_code (4 : Nat) (Option.some Jvm.ClassFile.FieldType.int)) ∈ BIG := in_big 514 (by decide +kernel) (by decide +kernel)
theorem kw_515 : (Jvm.Cond.methodLink "StarSenders$Net" (178 : Nat) ({ cls := "StarSenders$Windows", name := "hear", desc := "(III)V" } : Jvm.MethodName)) ∈ BIG := in_big 515 (by decide +kernel) (by decide +kernel)
theorem kw_516 : (Jvm.Cond.instanceMethod ({ cls := "StarSenders$Windows", name := "hear", desc := "(III)V" } : Jvm.MethodName)) ∈ BIG := in_big 516 (by decide +kernel) (by decide +kernel)
theorem kw_517 : (Jvm.Cond.selects "StarSenders$Windows" ({ cls := "StarSenders$Windows", name := "hear", desc := "(III)V" } : Jvm.MethodName) ({ cls := "StarSenders$Windows", name := "hear", desc := "(III)V" } : Jvm.MethodName)) ∈ BIG := in_big 517 (by decide +kernel) (by decide +kernel)
theorem kw_518 : (Jvm.Cond.code ({ cls := "StarSenders$Windows", name := "hear", desc := "(III)V" } : Jvm.MethodName) prog_8_method_4_code (5 : Nat) (Option.none : Option Jvm.ClassFile.FieldType)) ∈ BIG := in_big 518 (by decide +kernel) (by decide +kernel)
theorem kw_519 : (Jvm.Cond.methodLink "StarSenders$Windows" (28 : Nat) ({ cls := "java/lang/Math", name := "max", desc := "(II)I" } : Jvm.MethodName)) ∈ BIG := in_big 519 (by decide +kernel) (by decide +kernel)
theorem kw_520 : (Jvm.Cond.static ({ cls := "java/lang/Math", name := "max", desc := "(II)I" } : Jvm.MethodName)) ∈ BIG := in_big 520 (by decide +kernel) (by decide +kernel)
theorem kw_521 : (Jvm.Cond.code ({ cls := "java/lang/Math", name := "max", desc := "(II)I" } : Jvm.MethodName) prog_11_method_65_code (2 : Nat) (Option.some Jvm.ClassFile.FieldType.int)) ∈ BIG := in_big 521 (by decide +kernel) (by decide +kernel)
theorem kw_522 : (Jvm.Cond.methodLink "StarSenders$Net" (182 : Nat) ({ cls := "StarSenders$Sender", name := "isDue", desc := "(I)Z" } : Jvm.MethodName)) ∈ BIG := in_big 522 (by decide +kernel) (by decide +kernel)
theorem kw_523 : (Jvm.Cond.instanceMethod ({ cls := "StarSenders$Sender", name := "isDue", desc := "(I)Z" } : Jvm.MethodName)) ∈ BIG := in_big 523 (by decide +kernel) (by decide +kernel)
theorem kw_524 : (Jvm.Cond.selects "StarSenders$Sender" ({ cls := "StarSenders$Sender", name := "isDue", desc := "(I)Z" } : Jvm.MethodName) ({ cls := "StarSenders$Sender", name := "isDue", desc := "(I)Z" } : Jvm.MethodName)) ∈ BIG := in_big 524 (by decide +kernel) (by decide +kernel)
theorem kw_525 : (Jvm.Cond.code ({ cls := "StarSenders$Sender", name := "isDue", desc := "(I)Z" } : Jvm.MethodName) prog_5_method_7_code (3 : Nat) (Option.some Jvm.ClassFile.FieldType.boolean)) ∈ BIG := in_big 525 (by decide +kernel) (by decide +kernel)
theorem kw_526 : (Jvm.Cond.methodLink "StarSenders$Sender" (49 : Nat) ({ cls := "StarSenders$Sender", name := "aheadOfLast", desc := "(I)I" } : Jvm.MethodName)) ∈ BIG := in_big 526 (by decide +kernel) (by decide +kernel)
theorem kw_527 : (Jvm.Cond.instanceMethod ({ cls := "StarSenders$Sender", name := "aheadOfLast", desc := "(I)I" } : Jvm.MethodName)) ∈ BIG := in_big 527 (by decide +kernel) (by decide +kernel)
theorem kw_528 : (Jvm.Cond.selects "StarSenders$Sender" ({ cls := "StarSenders$Sender", name := "aheadOfLast", desc := "(I)I" } : Jvm.MethodName) ({ cls := "StarSenders$Sender", name := "aheadOfLast", desc := "(I)I" } : Jvm.MethodName)) ∈ BIG := in_big 528 (by decide +kernel) (by decide +kernel)
theorem kw_529 : (Jvm.Cond.code ({ cls := "StarSenders$Sender", name := "aheadOfLast", desc := "(I)I" } : Jvm.MethodName) prog_5_method_6_code (2 : Nat) (Option.some Jvm.ClassFile.FieldType.int)) ∈ BIG := in_big 529 (by decide +kernel) (by decide +kernel)
theorem kw_530 : (Jvm.Cond.methodLink "StarSenders$Sender" (43 : Nat) ({ cls := "java/lang/Math", name := "floorMod", desc := "(II)I" } : Jvm.MethodName)) ∈ BIG := in_big 530 (by decide +kernel) (by decide +kernel)
theorem kw_531 : (Jvm.Cond.static ({ cls := "java/lang/Math", name := "floorMod", desc := "(II)I" } : Jvm.MethodName)) ∈ BIG := in_big 531 (by decide +kernel) (by decide +kernel)
theorem kw_532 : (Jvm.Cond.code ({ cls := "java/lang/Math", name := "floorMod", desc := "(II)I" } : Jvm.MethodName) prog_11_method_50_code (3 : Nat) (Option.some Jvm.ClassFile.FieldType.int)) ∈ BIG := in_big 532 (by decide +kernel) (by decide +kernel)
theorem kw_533 : (Jvm.Cond.methodLink "StarSenders$Net" (186 : Nat) ({ cls := "StarSenders$Windows", name := "open", desc := "(III)V" } : Jvm.MethodName)) ∈ BIG := in_big 533 (by decide +kernel) (by decide +kernel)
theorem kw_534 : (Jvm.Cond.instanceMethod ({ cls := "StarSenders$Windows", name := "open", desc := "(III)V" } : Jvm.MethodName)) ∈ BIG := in_big 534 (by decide +kernel) (by decide +kernel)
theorem kw_535 : (Jvm.Cond.selects "StarSenders$Windows" ({ cls := "StarSenders$Windows", name := "open", desc := "(III)V" } : Jvm.MethodName) ({ cls := "StarSenders$Windows", name := "open", desc := "(III)V" } : Jvm.MethodName)) ∈ BIG := in_big 535 (by decide +kernel) (by decide +kernel)
theorem kw_536 : (Jvm.Cond.code ({ cls := "StarSenders$Windows", name := "open", desc := "(III)V" } : Jvm.MethodName) prog_8_method_3_code (5 : Nat) (Option.none : Option Jvm.ClassFile.FieldType)) ∈ BIG := in_big 536 (by decide +kernel) (by decide +kernel)
theorem kw_537 : (Jvm.Cond.methodLink "StarSenders$Net" (159 : Nat) ({ cls := "StarSenders$Copies", name := "move", desc := "(II)V" } : Jvm.MethodName)) ∈ BIG := in_big 537 (by decide +kernel) (by decide +kernel)
theorem kw_538 : (Jvm.Cond.instanceMethod ({ cls := "StarSenders$Copies", name := "move", desc := "(II)V" } : Jvm.MethodName)) ∈ BIG := in_big 538 (by decide +kernel) (by decide +kernel)
theorem kw_539 : (Jvm.Cond.selects "StarSenders$Copies" ({ cls := "StarSenders$Copies", name := "move", desc := "(II)V" } : Jvm.MethodName) ({ cls := "StarSenders$Copies", name := "move", desc := "(II)V" } : Jvm.MethodName)) ∈ BIG := in_big 539 (by decide +kernel) (by decide +kernel)
theorem kw_540 : (Jvm.Cond.code ({ cls := "StarSenders$Copies", name := "move", desc := "(II)V" } : Jvm.MethodName) prog_2_method_3_code (3 : Nat) (Option.none : Option Jvm.ClassFile.FieldType)) ∈ BIG := in_big 540 (by decide +kernel) (by decide +kernel)
theorem kw_541 : (Jvm.Cond.methodLink "StarSenders$Net" (145 : Nat) ({ cls := "StarSenders$Net", name := "closeWindows", desc := "()I" } : Jvm.MethodName)) ∈ BIG := in_big 541 (by decide +kernel) (by decide +kernel)
theorem kw_543 : (Jvm.Cond.instanceMethod ({ cls := "StarSenders$Net", name := "closeWindows", desc := "()I" } : Jvm.MethodName)) ∈ BIG := in_big 543 (by decide +kernel) (by decide +kernel)
theorem kw_544 : (Jvm.Cond.code ({ cls := "StarSenders$Net", name := "closeWindows", desc := "()I" } : Jvm.MethodName) prog_4_method_13_code (5 : Nat) (Option.some Jvm.ClassFile.FieldType.int)) ∈ BIG := in_big 544 (by decide +kernel) (by decide +kernel)
theorem kw_545 : (Jvm.Cond.methodLink "StarSenders$Net" (194 : Nat) ({ cls := "StarSenders$Net", name := "takeJoining", desc := "(ILStarSenders$Sender;)V" } : Jvm.MethodName)) ∈ BIG := in_big 545 (by decide +kernel) (by decide +kernel)
theorem kw_547 : (Jvm.Cond.instanceMethod ({ cls := "StarSenders$Net", name := "takeJoining", desc := "(ILStarSenders$Sender;)V" } : Jvm.MethodName)) ∈ BIG := in_big 547 (by decide +kernel) (by decide +kernel)
theorem kw_548 : (Jvm.Cond.code ({ cls := "StarSenders$Net", name := "takeJoining", desc := "(ILStarSenders$Sender;)V" } : Jvm.MethodName) prog_4_method_14_code (3 : Nat) (Option.none : Option Jvm.ClassFile.FieldType)) ∈ BIG := in_big 548 (by decide +kernel) (by decide +kernel)
theorem kw_549 : (Jvm.Cond.methodLink "StarSenders$Net" (210 : Nat) ({ cls := "StarSenders$Net", name := "sendAnswer", desc := "(ILStarSenders$Sender;)Z" } : Jvm.MethodName)) ∈ BIG := in_big 549 (by decide +kernel) (by decide +kernel)
theorem kw_551 : (Jvm.Cond.instanceMethod ({ cls := "StarSenders$Net", name := "sendAnswer", desc := "(ILStarSenders$Sender;)Z" } : Jvm.MethodName)) ∈ BIG := in_big 551 (by decide +kernel) (by decide +kernel)
theorem kw_552 : (Jvm.Cond.code ({ cls := "StarSenders$Net", name := "sendAnswer", desc := "(ILStarSenders$Sender;)Z" } : Jvm.MethodName) prog_4_method_16_code (8 : Nat) (Option.some Jvm.ClassFile.FieldType.boolean)) ∈ BIG := in_big 552 (by decide +kernel) (by decide +kernel)
theorem kw_553 : (Jvm.Cond.methodLink "StarSenders$Net" (227 : Nat) ({ cls := "StarSenders$Windows", name := "heardAt", desc := "(II)I" } : Jvm.MethodName)) ∈ BIG := in_big 553 (by decide +kernel) (by decide +kernel)
theorem kw_554 : (Jvm.Cond.instanceMethod ({ cls := "StarSenders$Windows", name := "heardAt", desc := "(II)I" } : Jvm.MethodName)) ∈ BIG := in_big 554 (by decide +kernel) (by decide +kernel)
theorem kw_555 : (Jvm.Cond.selects "StarSenders$Windows" ({ cls := "StarSenders$Windows", name := "heardAt", desc := "(II)I" } : Jvm.MethodName) ({ cls := "StarSenders$Windows", name := "heardAt", desc := "(II)I" } : Jvm.MethodName)) ∈ BIG := in_big 555 (by decide +kernel) (by decide +kernel)
theorem kw_556 : (Jvm.Cond.code ({ cls := "StarSenders$Windows", name := "heardAt", desc := "(II)I" } : Jvm.MethodName) prog_8_method_5_code (3 : Nat) (Option.some Jvm.ClassFile.FieldType.int)) ∈ BIG := in_big 556 (by decide +kernel) (by decide +kernel)
theorem kw_557 : (Jvm.Cond.methodLink "StarSenders$Net" (239 : Nat) ({ cls := "StarSenders$Gate", name := "left", desc := "()I" } : Jvm.MethodName)) ∈ BIG := in_big 557 (by decide +kernel) (by decide +kernel)
theorem kw_558 : (Jvm.Cond.instanceMethod ({ cls := "StarSenders$Gate", name := "left", desc := "()I" } : Jvm.MethodName)) ∈ BIG := in_big 558 (by decide +kernel) (by decide +kernel)
theorem kw_559 : (Jvm.Cond.selects "StarSenders$Gate" ({ cls := "StarSenders$Gate", name := "left", desc := "()I" } : Jvm.MethodName) ({ cls := "StarSenders$Gate", name := "left", desc := "()I" } : Jvm.MethodName)) ∈ BIG := in_big 559 (by decide +kernel) (by decide +kernel)
theorem kw_560 : (Jvm.Cond.code ({ cls := "StarSenders$Gate", name := "left", desc := "()I" } : Jvm.MethodName) prog_3_method_3_code (1 : Nat) (Option.some Jvm.ClassFile.FieldType.int)) ∈ BIG := in_big 560 (by decide +kernel) (by decide +kernel)
theorem kw_561 : (Jvm.Cond.methodLink "StarSenders$Net" (198 : Nat) ({ cls := "StarSenders$Net", name := "takeLetter", desc := "(ILStarSenders$Sender;)V" } : Jvm.MethodName)) ∈ BIG := in_big 561 (by decide +kernel) (by decide +kernel)
theorem kw_563 : (Jvm.Cond.instanceMethod ({ cls := "StarSenders$Net", name := "takeLetter", desc := "(ILStarSenders$Sender;)V" } : Jvm.MethodName)) ∈ BIG := in_big 563 (by decide +kernel) (by decide +kernel)
theorem kw_564 : (Jvm.Cond.code ({ cls := "StarSenders$Net", name := "takeLetter", desc := "(ILStarSenders$Sender;)V" } : Jvm.MethodName) prog_4_method_15_code (4 : Nat) (Option.none : Option Jvm.ClassFile.FieldType)) ∈ BIG := in_big 564 (by decide +kernel) (by decide +kernel)
theorem kw_565 : (Jvm.Cond.methodLink "StarSenders$Net" (220 : Nat) ({ cls := "StarSenders$Windows", name := "bestGate", desc := "(I)I" } : Jvm.MethodName)) ∈ BIG := in_big 565 (by decide +kernel) (by decide +kernel)
theorem kw_566 : (Jvm.Cond.instanceMethod ({ cls := "StarSenders$Windows", name := "bestGate", desc := "(I)I" } : Jvm.MethodName)) ∈ BIG := in_big 566 (by decide +kernel) (by decide +kernel)
theorem kw_567 : (Jvm.Cond.selects "StarSenders$Windows" ({ cls := "StarSenders$Windows", name := "bestGate", desc := "(I)I" } : Jvm.MethodName) ({ cls := "StarSenders$Windows", name := "bestGate", desc := "(I)I" } : Jvm.MethodName)) ∈ BIG := in_big 567 (by decide +kernel) (by decide +kernel)
theorem kw_568 : (Jvm.Cond.code ({ cls := "StarSenders$Windows", name := "bestGate", desc := "(I)I" } : Jvm.MethodName) prog_8_method_6_code (4 : Nat) (Option.some Jvm.ClassFile.FieldType.int)) ∈ BIG := in_big 568 (by decide +kernel) (by decide +kernel)
theorem kw_569 : (Jvm.Cond.methodLink "StarSenders$Windows" (34 : Nat) ({ cls := "StarSenders$Windows", name := "heardAt", desc := "(II)I" } : Jvm.MethodName)) ∈ BIG := in_big 569 (by decide +kernel) (by decide +kernel)
theorem kw_570 : (Jvm.Cond.methodLink "StarSenders$Net" (230 : Nat) ({ cls := "StarSenders$Sender", name := "takeLetter", desc := "(II)V" } : Jvm.MethodName)) ∈ BIG := in_big 570 (by decide +kernel) (by decide +kernel)
theorem kw_571 : (Jvm.Cond.instanceMethod ({ cls := "StarSenders$Sender", name := "takeLetter", desc := "(II)V" } : Jvm.MethodName)) ∈ BIG := in_big 571 (by decide +kernel) (by decide +kernel)
theorem kw_572 : (Jvm.Cond.selects "StarSenders$Sender" ({ cls := "StarSenders$Sender", name := "takeLetter", desc := "(II)V" } : Jvm.MethodName) ({ cls := "StarSenders$Sender", name := "takeLetter", desc := "(II)V" } : Jvm.MethodName)) ∈ BIG := in_big 572 (by decide +kernel) (by decide +kernel)
theorem kw_573 : (Jvm.Cond.code ({ cls := "StarSenders$Sender", name := "takeLetter", desc := "(II)V" } : Jvm.MethodName) prog_5_method_8_code (3 : Nat) (Option.none : Option Jvm.ClassFile.FieldType)) ∈ BIG := in_big 573 (by decide +kernel) (by decide +kernel)
theorem kw_574 : (Jvm.Cond.methodLink "StarSenders$Sender" (53 : Nat) ({ cls := "java/lang/System", name := "arraycopy", desc := "(Ljava/lang/Object;ILjava/lang/Object;II)V" } : Jvm.MethodName)) ∈ BIG := in_big 574 (by decide +kernel) (by decide +kernel)
theorem kw_575 : (Jvm.Cond.static ({ cls := "java/lang/System", name := "arraycopy", desc := "(Ljava/lang/Object;ILjava/lang/Object;II)V" } : Jvm.MethodName)) ∈ BIG := in_big 575 (by decide +kernel) (by decide +kernel)
theorem kw_576 : (Jvm.Cond.native ({ cls := "java/lang/System", name := "arraycopy", desc := "(Ljava/lang/Object;ILjava/lang/Object;II)V" } : Jvm.MethodName)) ∈ BIG := in_big 576 (by decide +kernel) (by decide +kernel)
theorem kw_577 : (Jvm.Cond.methodLink "StarSenders$Net" (232 : Nat) ({ cls := "StarSenders$Sender", name := "greatestMargin", desc := "()I" } : Jvm.MethodName)) ∈ BIG := in_big 577 (by decide +kernel) (by decide +kernel)
theorem kw_578 : (Jvm.Cond.instanceMethod ({ cls := "StarSenders$Sender", name := "greatestMargin", desc := "()I" } : Jvm.MethodName)) ∈ BIG := in_big 578 (by decide +kernel) (by decide +kernel)
theorem kw_579 : (Jvm.Cond.selects "StarSenders$Sender" ({ cls := "StarSenders$Sender", name := "greatestMargin", desc := "()I" } : Jvm.MethodName) ({ cls := "StarSenders$Sender", name := "greatestMargin", desc := "()I" } : Jvm.MethodName)) ∈ BIG := in_big 579 (by decide +kernel) (by decide +kernel)
theorem kw_580 : (Jvm.Cond.code ({ cls := "StarSenders$Sender", name := "greatestMargin", desc := "()I" } : Jvm.MethodName) prog_5_method_9_code (3 : Nat) (Option.some Jvm.ClassFile.FieldType.int)) ∈ BIG := in_big 580 (by decide +kernel) (by decide +kernel)
theorem kw_581 : (Jvm.Cond.methodLink "StarSenders$Sender" (59 : Nat) ({ cls := "java/lang/Math", name := "max", desc := "(II)I" } : Jvm.MethodName)) ∈ BIG := in_big 581 (by decide +kernel) (by decide +kernel)
theorem kw_582 : (Jvm.Cond.methodLink "StarSenders$Net" (235 : Nat) ({ cls := "StarSenders$Tuning", name := "find", desc := "(III)V" } : Jvm.MethodName)) ∈ BIG := in_big 582 (by decide +kernel) (by decide +kernel)
theorem kw_583 : (Jvm.Cond.instanceMethod ({ cls := "StarSenders$Tuning", name := "find", desc := "(III)V" } : Jvm.MethodName)) ∈ BIG := in_big 583 (by decide +kernel) (by decide +kernel)
theorem kw_584 : (Jvm.Cond.selects "StarSenders$Tuning" ({ cls := "StarSenders$Tuning", name := "find", desc := "(III)V" } : Jvm.MethodName) ({ cls := "StarSenders$Tuning", name := "find", desc := "(III)V" } : Jvm.MethodName)) ∈ BIG := in_big 584 (by decide +kernel) (by decide +kernel)
theorem kw_585 : (Jvm.Cond.code ({ cls := "StarSenders$Tuning", name := "find", desc := "(III)V" } : Jvm.MethodName) prog_7_method_2_code (5 : Nat) (Option.none : Option Jvm.ClassFile.FieldType)) ∈ BIG := in_big 585 (by decide +kernel) (by decide +kernel)
theorem kw_586 : (Jvm.Cond.methodLink "StarSenders$Net" (201 : Nat) ({ cls := "StarSenders$Windows", name := "dropFirst", desc := "(I)V" } : Jvm.MethodName)) ∈ BIG := in_big 586 (by decide +kernel) (by decide +kernel)
theorem kw_587 : (Jvm.Cond.instanceMethod ({ cls := "StarSenders$Windows", name := "dropFirst", desc := "(I)V" } : Jvm.MethodName)) ∈ BIG := in_big 587 (by decide +kernel) (by decide +kernel)
theorem kw_588 : (Jvm.Cond.selects "StarSenders$Windows" ({ cls := "StarSenders$Windows", name := "dropFirst", desc := "(I)V" } : Jvm.MethodName) ({ cls := "StarSenders$Windows", name := "dropFirst", desc := "(I)V" } : Jvm.MethodName)) ∈ BIG := in_big 588 (by decide +kernel) (by decide +kernel)
theorem kw_589 : (Jvm.Cond.code ({ cls := "StarSenders$Windows", name := "dropFirst", desc := "(I)V" } : Jvm.MethodName) prog_8_method_7_code (3 : Nat) (Option.none : Option Jvm.ClassFile.FieldType)) ∈ BIG := in_big 589 (by decide +kernel) (by decide +kernel)
theorem kw_590 : (Jvm.Cond.methodLink "StarSenders$Windows" (37 : Nat) ({ cls := "java/lang/System", name := "arraycopy", desc := "(Ljava/lang/Object;ILjava/lang/Object;II)V" } : Jvm.MethodName)) ∈ BIG := in_big 590 (by decide +kernel) (by decide +kernel)
theorem kw_591 : (Jvm.Cond.methodLink "StarSendersLaw" (48 : Nat) ({ cls := "StarSenders", name := "renews", desc := "(I)I" } : Jvm.MethodName)) ∈ BIG := in_big 591 (by decide +kernel) (by decide +kernel)
theorem kw_592 : (Jvm.Cond.instanceMethod ({ cls := "StarSenders", name := "renews", desc := "(I)I" } : Jvm.MethodName)) ∈ BIG := in_big 592 (by decide +kernel) (by decide +kernel)
theorem kw_593 : (Jvm.Cond.selects "StarSenders" ({ cls := "StarSenders", name := "renews", desc := "(I)I" } : Jvm.MethodName) ({ cls := "StarSenders", name := "renews", desc := "(I)I" } : Jvm.MethodName)) ∈ BIG := in_big 593 (by decide +kernel) (by decide +kernel)
theorem kw_594 : (Jvm.Cond.code ({ cls := "StarSenders", name := "renews", desc := "(I)I" } : Jvm.MethodName) prog_1_method_10_code (3 : Nat) (Option.some Jvm.ClassFile.FieldType.int)) ∈ BIG := in_big 594 (by decide +kernel) (by decide +kernel)
theorem kw_595 : (Jvm.Cond.methodLink "StarSenders" (112 : Nat) ({ cls := "StarSenders$Sender", name := "becomeNew", desc := "()V" } : Jvm.MethodName)) ∈ BIG := in_big 595 (by decide +kernel) (by decide +kernel)
theorem kw_596 : (Jvm.Cond.methodLink "StarSendersLaw" (52 : Nat) ({ cls := "StarSenders", name := "of", desc := "(II)I" } : Jvm.MethodName)) ∈ BIG := in_big 596 (by decide +kernel) (by decide +kernel)
theorem kw_597 : (Jvm.Cond.instanceMethod ({ cls := "StarSenders", name := "of", desc := "(II)I" } : Jvm.MethodName)) ∈ BIG := in_big 597 (by decide +kernel) (by decide +kernel)
theorem kw_598 : (Jvm.Cond.selects "StarSenders" ({ cls := "StarSenders", name := "of", desc := "(II)I" } : Jvm.MethodName) ({ cls := "StarSenders", name := "of", desc := "(II)I" } : Jvm.MethodName)) ∈ BIG := in_big 598 (by decide +kernel) (by decide +kernel)
theorem kw_599 : (Jvm.Cond.code ({ cls := "StarSenders", name := "of", desc := "(II)I" } : Jvm.MethodName) prog_1_method_11_code (3 : Nat) (Option.some Jvm.ClassFile.FieldType.int)) ∈ BIG := in_big 599 (by decide +kernel) (by decide +kernel)
theorem kw_600 : (Jvm.Cond.methodLink "StarSenders" (115 : Nat) ({ cls := "StarSenders$Sender", name := "value", desc := "(I)I" } : Jvm.MethodName)) ∈ BIG := in_big 600 (by decide +kernel) (by decide +kernel)
theorem kw_601 : (Jvm.Cond.methodLink "StarSendersLaw" (56 : Nat) ({ cls := "StarSenders", name := "margin", desc := "(II)I" } : Jvm.MethodName)) ∈ BIG := in_big 601 (by decide +kernel) (by decide +kernel)
theorem kw_602 : (Jvm.Cond.instanceMethod ({ cls := "StarSenders", name := "margin", desc := "(II)I" } : Jvm.MethodName)) ∈ BIG := in_big 602 (by decide +kernel) (by decide +kernel)
theorem kw_603 : (Jvm.Cond.selects "StarSenders" ({ cls := "StarSenders", name := "margin", desc := "(II)I" } : Jvm.MethodName) ({ cls := "StarSenders", name := "margin", desc := "(II)I" } : Jvm.MethodName)) ∈ BIG := in_big 603 (by decide +kernel) (by decide +kernel)
theorem kw_604 : (Jvm.Cond.code ({ cls := "StarSenders", name := "margin", desc := "(II)I" } : Jvm.MethodName) prog_1_method_12_code (4 : Nat) (Option.some Jvm.ClassFile.FieldType.int)) ∈ BIG := in_big 604 (by decide +kernel) (by decide +kernel)
theorem kw_605 : (Jvm.Cond.methodLink "StarSendersLaw" (60 : Nat) ({ cls := "StarSenders", name := "hears", desc := "(II)I" } : Jvm.MethodName)) ∈ BIG := in_big 605 (by decide +kernel) (by decide +kernel)
theorem kw_606 : (Jvm.Cond.instanceMethod ({ cls := "StarSenders", name := "hears", desc := "(II)I" } : Jvm.MethodName)) ∈ BIG := in_big 606 (by decide +kernel) (by decide +kernel)
theorem kw_607 : (Jvm.Cond.selects "StarSenders" ({ cls := "StarSenders", name := "hears", desc := "(II)I" } : Jvm.MethodName) ({ cls := "StarSenders", name := "hears", desc := "(II)I" } : Jvm.MethodName)) ∈ BIG := in_big 607 (by decide +kernel) (by decide +kernel)
theorem kw_608 : (Jvm.Cond.code ({ cls := "StarSenders", name := "hears", desc := "(II)I" } : Jvm.MethodName) prog_1_method_13_code (3 : Nat) (Option.some Jvm.ClassFile.FieldType.int)) ∈ BIG := in_big 608 (by decide +kernel) (by decide +kernel)
theorem kw_609 : (Jvm.Cond.methodLink "StarSenders" (128 : Nat) ({ cls := "StarSenders$Net", name := "marginAt", desc := "(II)I" } : Jvm.MethodName)) ∈ BIG := in_big 609 (by decide +kernel) (by decide +kernel)
theorem kw_610 : (Jvm.Cond.methodLink "StarSendersLaw" (64 : Nat) ({ cls := "StarSenders", name := "at", desc := "(II)I" } : Jvm.MethodName)) ∈ BIG := in_big 610 (by decide +kernel) (by decide +kernel)
theorem kw_611 : (Jvm.Cond.instanceMethod ({ cls := "StarSenders", name := "at", desc := "(II)I" } : Jvm.MethodName)) ∈ BIG := in_big 611 (by decide +kernel) (by decide +kernel)
theorem kw_612 : (Jvm.Cond.selects "StarSenders" ({ cls := "StarSenders", name := "at", desc := "(II)I" } : Jvm.MethodName) ({ cls := "StarSenders", name := "at", desc := "(II)I" } : Jvm.MethodName)) ∈ BIG := in_big 612 (by decide +kernel) (by decide +kernel)
theorem kw_613 : (Jvm.Cond.code ({ cls := "StarSenders", name := "at", desc := "(II)I" } : Jvm.MethodName) prog_1_method_14_code (3 : Nat) (Option.some Jvm.ClassFile.FieldType.int)) ∈ BIG := in_big 613 (by decide +kernel) (by decide +kernel)
theorem kw_614 : (Jvm.Cond.methodLink "StarSenders" (131 : Nat) ({ cls := "StarSenders$Gate", name := "value", desc := "(I)I" } : Jvm.MethodName)) ∈ BIG := in_big 614 (by decide +kernel) (by decide +kernel)
theorem kw_615 : (Jvm.Cond.instanceMethod ({ cls := "StarSenders$Gate", name := "value", desc := "(I)I" } : Jvm.MethodName)) ∈ BIG := in_big 615 (by decide +kernel) (by decide +kernel)
theorem kw_616 : (Jvm.Cond.selects "StarSenders$Gate" ({ cls := "StarSenders$Gate", name := "value", desc := "(I)I" } : Jvm.MethodName) ({ cls := "StarSenders$Gate", name := "value", desc := "(I)I" } : Jvm.MethodName)) ∈ BIG := in_big 616 (by decide +kernel) (by decide +kernel)
theorem kw_617 : (Jvm.Cond.code ({ cls := "StarSenders$Gate", name := "value", desc := "(I)I" } : Jvm.MethodName) prog_3_method_4_code (2 : Nat) (Option.some Jvm.ClassFile.FieldType.int)) ∈ BIG := in_big 617 (by decide +kernel) (by decide +kernel)
theorem kw_618 : (Jvm.Cond.methodLink "StarSenders$Gate" (30 : Nat) ({ cls := "StarSenders$Gate", name := "left", desc := "()I" } : Jvm.MethodName)) ∈ BIG := in_big 618 (by decide +kernel) (by decide +kernel)
theorem kw_619 : (Jvm.Cond.methodLink "StarSendersLaw" (68 : Nat) ({ cls := "StarSenders", name := "all", desc := "(I)I" } : Jvm.MethodName)) ∈ BIG := in_big 619 (by decide +kernel) (by decide +kernel)
theorem kw_620 : (Jvm.Cond.instanceMethod ({ cls := "StarSenders", name := "all", desc := "(I)I" } : Jvm.MethodName)) ∈ BIG := in_big 620 (by decide +kernel) (by decide +kernel)
theorem kw_621 : (Jvm.Cond.selects "StarSenders" ({ cls := "StarSenders", name := "all", desc := "(I)I" } : Jvm.MethodName) ({ cls := "StarSenders", name := "all", desc := "(I)I" } : Jvm.MethodName)) ∈ BIG := in_big 621 (by decide +kernel) (by decide +kernel)
theorem kw_622 : (Jvm.Cond.code ({ cls := "StarSenders", name := "all", desc := "(I)I" } : Jvm.MethodName) prog_1_method_15_code (2 : Nat) (Option.some Jvm.ClassFile.FieldType.int)) ∈ BIG := in_big 622 (by decide +kernel) (by decide +kernel)
theorem kw_623 : (Jvm.Cond.methodLink "StarSenders" (132 : Nat) ({ cls := "StarSenders$Net", name := "value", desc := "(I)I" } : Jvm.MethodName)) ∈ BIG := in_big 623 (by decide +kernel) (by decide +kernel)
theorem kw_624 : (Jvm.Cond.instanceMethod ({ cls := "StarSenders$Net", name := "value", desc := "(I)I" } : Jvm.MethodName)) ∈ BIG := in_big 624 (by decide +kernel) (by decide +kernel)
theorem kw_625 : (Jvm.Cond.selects "StarSenders$Net" ({ cls := "StarSenders$Net", name := "value", desc := "(I)I" } : Jvm.MethodName) ({ cls := "StarSenders$Net", name := "value", desc := "(I)I" } : Jvm.MethodName)) ∈ BIG := in_big 625 (by decide +kernel) (by decide +kernel)
theorem kw_626 : (Jvm.Cond.code ({ cls := "StarSenders$Net", name := "value", desc := "(I)I" } : Jvm.MethodName) prog_4_method_17_code (2 : Nat) (Option.some Jvm.ClassFile.FieldType.int)) ∈ BIG := in_big 626 (by decide +kernel) (by decide +kernel)
theorem kw_627 : (Jvm.Cond.methodLink "StarSendersLaw" (72 : Nat) ({ cls := "StarSenders", name := "window", desc := "(II)I" } : Jvm.MethodName)) ∈ BIG := in_big 627 (by decide +kernel) (by decide +kernel)
theorem kw_628 : (Jvm.Cond.instanceMethod ({ cls := "StarSenders", name := "window", desc := "(II)I" } : Jvm.MethodName)) ∈ BIG := in_big 628 (by decide +kernel) (by decide +kernel)
theorem kw_629 : (Jvm.Cond.selects "StarSenders" ({ cls := "StarSenders", name := "window", desc := "(II)I" } : Jvm.MethodName) ({ cls := "StarSenders", name := "window", desc := "(II)I" } : Jvm.MethodName)) ∈ BIG := in_big 629 (by decide +kernel) (by decide +kernel)
theorem kw_630 : (Jvm.Cond.code ({ cls := "StarSenders", name := "window", desc := "(II)I" } : Jvm.MethodName) prog_1_method_16_code (3 : Nat) (Option.some Jvm.ClassFile.FieldType.int)) ∈ BIG := in_big 630 (by decide +kernel) (by decide +kernel)
theorem kw_631 : (Jvm.Cond.methodLink "StarSenders" (148 : Nat) ({ cls := "StarSenders$Windows", name := "value", desc := "(II)I" } : Jvm.MethodName)) ∈ BIG := in_big 631 (by decide +kernel) (by decide +kernel)
theorem kw_632 : (Jvm.Cond.instanceMethod ({ cls := "StarSenders$Windows", name := "value", desc := "(II)I" } : Jvm.MethodName)) ∈ BIG := in_big 632 (by decide +kernel) (by decide +kernel)
theorem kw_633 : (Jvm.Cond.selects "StarSenders$Windows" ({ cls := "StarSenders$Windows", name := "value", desc := "(II)I" } : Jvm.MethodName) ({ cls := "StarSenders$Windows", name := "value", desc := "(II)I" } : Jvm.MethodName)) ∈ BIG := in_big 633 (by decide +kernel) (by decide +kernel)
theorem kw_634 : (Jvm.Cond.code ({ cls := "StarSenders$Windows", name := "value", desc := "(II)I" } : Jvm.MethodName) prog_8_method_8_code (3 : Nat) (Option.some Jvm.ClassFile.FieldType.int)) ∈ BIG := in_big 634 (by decide +kernel) (by decide +kernel)
theorem kw_635 : (Jvm.Cond.methodLink "StarSenders$Windows" (43 : Nat) ({ cls := "StarSenders$Windows", name := "gateBits", desc := "(I)I" } : Jvm.MethodName)) ∈ BIG := in_big 635 (by decide +kernel) (by decide +kernel)
theorem kw_637 : (Jvm.Cond.instanceMethod ({ cls := "StarSenders$Windows", name := "gateBits", desc := "(I)I" } : Jvm.MethodName)) ∈ BIG := in_big 637 (by decide +kernel) (by decide +kernel)
theorem kw_638 : (Jvm.Cond.code ({ cls := "StarSenders$Windows", name := "gateBits", desc := "(I)I" } : Jvm.MethodName) prog_8_method_9_code (4 : Nat) (Option.some Jvm.ClassFile.FieldType.int)) ∈ BIG := in_big 638 (by decide +kernel) (by decide +kernel)
theorem kw_639 : (Jvm.Cond.methodLink "StarSendersLaw" (76 : Nat) ({ cls := "StarSenders", name := "copy", desc := "(II)I" } : Jvm.MethodName)) ∈ BIG := in_big 639 (by decide +kernel) (by decide +kernel)
theorem kw_640 : (Jvm.Cond.instanceMethod ({ cls := "StarSenders", name := "copy", desc := "(II)I" } : Jvm.MethodName)) ∈ BIG := in_big 640 (by decide +kernel) (by decide +kernel)
theorem kw_641 : (Jvm.Cond.selects "StarSenders" ({ cls := "StarSenders", name := "copy", desc := "(II)I" } : Jvm.MethodName) ({ cls := "StarSenders", name := "copy", desc := "(II)I" } : Jvm.MethodName)) ∈ BIG := in_big 641 (by decide +kernel) (by decide +kernel)
theorem kw_642 : (Jvm.Cond.code ({ cls := "StarSenders", name := "copy", desc := "(II)I" } : Jvm.MethodName) prog_1_method_17_code (3 : Nat) (Option.some Jvm.ClassFile.FieldType.int)) ∈ BIG := in_big 642 (by decide +kernel) (by decide +kernel)
theorem kw_643 : (Jvm.Cond.methodLink "StarSendersLaw" (80 : Nat) ({ cls := "StarSenders", name := "type", desc := "(I)I" } : Jvm.MethodName)) ∈ BIG := in_big 643 (by decide +kernel) (by decide +kernel)
theorem kw_644 : (Jvm.Cond.instanceMethod ({ cls := "StarSenders", name := "type", desc := "(I)I" } : Jvm.MethodName)) ∈ BIG := in_big 644 (by decide +kernel) (by decide +kernel)
theorem kw_645 : (Jvm.Cond.selects "StarSenders" ({ cls := "StarSenders", name := "type", desc := "(I)I" } : Jvm.MethodName) ({ cls := "StarSenders", name := "type", desc := "(I)I" } : Jvm.MethodName)) ∈ BIG := in_big 645 (by decide +kernel) (by decide +kernel)
theorem kw_646 : (Jvm.Cond.code ({ cls := "StarSenders", name := "type", desc := "(I)I" } : Jvm.MethodName) prog_1_method_18_code (2 : Nat) (Option.some Jvm.ClassFile.FieldType.int)) ∈ BIG := in_big 646 (by decide +kernel) (by decide +kernel)
theorem kw_647 : (Jvm.Cond.methodLink "StarSendersLaw" (84 : Nat) ({ cls := "StarSenders", name := "clear", desc := "()I" } : Jvm.MethodName)) ∈ BIG := in_big 647 (by decide +kernel) (by decide +kernel)
theorem kw_648 : (Jvm.Cond.instanceMethod ({ cls := "StarSenders", name := "clear", desc := "()I" } : Jvm.MethodName)) ∈ BIG := in_big 648 (by decide +kernel) (by decide +kernel)
theorem kw_649 : (Jvm.Cond.selects "StarSenders" ({ cls := "StarSenders", name := "clear", desc := "()I" } : Jvm.MethodName) ({ cls := "StarSenders", name := "clear", desc := "()I" } : Jvm.MethodName)) ∈ BIG := in_big 649 (by decide +kernel) (by decide +kernel)
theorem kw_650 : (Jvm.Cond.code ({ cls := "StarSenders", name := "clear", desc := "()I" } : Jvm.MethodName) prog_1_method_19_code (2 : Nat) (Option.some Jvm.ClassFile.FieldType.int)) ∈ BIG := in_big 650 (by decide +kernel) (by decide +kernel)
theorem kw_651 : (Jvm.Cond.methodLink "StarSendersLaw" (89 : Nat) ({ cls := "StarSenders", name := "does", desc := "()I" } : Jvm.MethodName)) ∈ BIG := in_big 651 (by decide +kernel) (by decide +kernel)
theorem kw_652 : (Jvm.Cond.instanceMethod ({ cls := "StarSenders", name := "does", desc := "()I" } : Jvm.MethodName)) ∈ BIG := in_big 652 (by decide +kernel) (by decide +kernel)
theorem kw_653 : (Jvm.Cond.selects "StarSenders" ({ cls := "StarSenders", name := "does", desc := "()I" } : Jvm.MethodName) ({ cls := "StarSenders", name := "does", desc := "()I" } : Jvm.MethodName)) ∈ BIG := in_big 653 (by decide +kernel) (by decide +kernel)
theorem kw_654 : (Jvm.Cond.code ({ cls := "StarSenders", name := "does", desc := "()I" } : Jvm.MethodName) prog_1_method_20_code (4 : Nat) (Option.some Jvm.ClassFile.FieldType.int)) ∈ BIG := in_big 654 (by decide +kernel) (by decide +kernel)
theorem kw_655 : (Jvm.Cond.methodLink "StarSenders" (172 : Nat) ({ cls := "StarSenders$Text", name := "readOrders", desc := "(II)I" } : Jvm.MethodName)) ∈ BIG := in_big 655 (by decide +kernel) (by decide +kernel)
theorem kw_656 : (Jvm.Cond.instanceMethod ({ cls := "StarSenders$Text", name := "readOrders", desc := "(II)I" } : Jvm.MethodName)) ∈ BIG := in_big 656 (by decide +kernel) (by decide +kernel)
theorem kw_657 : (Jvm.Cond.selects "StarSenders$Text" ({ cls := "StarSenders$Text", name := "readOrders", desc := "(II)I" } : Jvm.MethodName) ({ cls := "StarSenders$Text", name := "readOrders", desc := "(II)I" } : Jvm.MethodName)) ∈ BIG := in_big 657 (by decide +kernel) (by decide +kernel)
theorem kw_658 : (Jvm.Cond.code ({ cls := "StarSenders$Text", name := "readOrders", desc := "(II)I" } : Jvm.MethodName) prog_6_method_2_code (3 : Nat) (Option.some Jvm.ClassFile.FieldType.int)) ∈ BIG := in_big 658 (by decide +kernel) (by decide +kernel)
theorem kw_659 : (Jvm.Cond.methodLink "StarSenders$Text" (34 : Nat) ({ cls := "StarSenders$Text", name := "skipBlanks", desc := "()V" } : Jvm.MethodName)) ∈ BIG := in_big 659 (by decide +kernel) (by decide +kernel)
theorem kw_661 : (Jvm.Cond.instanceMethod ({ cls := "StarSenders$Text", name := "skipBlanks", desc := "()V" } : Jvm.MethodName)) ∈ BIG := in_big 661 (by decide +kernel) (by decide +kernel)
theorem kw_662 : (Jvm.Cond.code ({ cls := "StarSenders$Text", name := "skipBlanks", desc := "()V" } : Jvm.MethodName) prog_6_method_9_code (1 : Nat) (Option.none : Option Jvm.ClassFile.FieldType)) ∈ BIG := in_big 662 (by decide +kernel) (by decide +kernel)
theorem kw_663 : (Jvm.Cond.methodLink "StarSenders$Text" (40 : Nat) ({ cls := "StarSenders$Text", name := "readOrder", desc := "(II)Z" } : Jvm.MethodName)) ∈ BIG := in_big 663 (by decide +kernel) (by decide +kernel)
theorem kw_665 : (Jvm.Cond.instanceMethod ({ cls := "StarSenders$Text", name := "readOrder", desc := "(II)Z" } : Jvm.MethodName)) ∈ BIG := in_big 665 (by decide +kernel) (by decide +kernel)
theorem kw_666 : (Jvm.Cond.code ({ cls := "StarSenders$Text", name := "readOrder", desc := "(II)Z" } : Jvm.MethodName) prog_6_method_3_code (7 : Nat) (Option.some Jvm.ClassFile.FieldType.boolean)) ∈ BIG := in_big 666 (by decide +kernel) (by decide +kernel)
theorem kw_667 : (Jvm.Cond.methodLink "StarSenders$Text" (44 : Nat) ({ cls := "StarSenders$Text", name := "isKind", desc := "(I)Z" } : Jvm.MethodName)) ∈ BIG := in_big 667 (by decide +kernel) (by decide +kernel)
theorem kw_668 : (Jvm.Cond.static ({ cls := "StarSenders$Text", name := "isKind", desc := "(I)Z" } : Jvm.MethodName)) ∈ BIG := in_big 668 (by decide +kernel) (by decide +kernel)
theorem kw_669 : (Jvm.Cond.code ({ cls := "StarSenders$Text", name := "isKind", desc := "(I)Z" } : Jvm.MethodName) prog_6_method_4_code (1 : Nat) (Option.some Jvm.ClassFile.FieldType.boolean)) ∈ BIG := in_big 669 (by decide +kernel) (by decide +kernel)
theorem kw_670 : (Jvm.Cond.methodLink "StarSenders$Text" (48 : Nat) ({ cls := "StarSenders$Text", name := "hasSender", desc := "(I)Z" } : Jvm.MethodName)) ∈ BIG := in_big 670 (by decide +kernel) (by decide +kernel)
theorem kw_671 : (Jvm.Cond.static ({ cls := "StarSenders$Text", name := "hasSender", desc := "(I)Z" } : Jvm.MethodName)) ∈ BIG := in_big 671 (by decide +kernel) (by decide +kernel)
theorem kw_672 : (Jvm.Cond.code ({ cls := "StarSenders$Text", name := "hasSender", desc := "(I)Z" } : Jvm.MethodName) prog_6_method_5_code (1 : Nat) (Option.some Jvm.ClassFile.FieldType.boolean)) ∈ BIG := in_big 672 (by decide +kernel) (by decide +kernel)
theorem kw_673 : (Jvm.Cond.methodLink "StarSenders$Text" (55 : Nat) ({ cls := "StarSenders$Text", name := "hasGate", desc := "(I)Z" } : Jvm.MethodName)) ∈ BIG := in_big 673 (by decide +kernel) (by decide +kernel)
theorem kw_674 : (Jvm.Cond.static ({ cls := "StarSenders$Text", name := "hasGate", desc := "(I)Z" } : Jvm.MethodName)) ∈ BIG := in_big 674 (by decide +kernel) (by decide +kernel)
theorem kw_675 : (Jvm.Cond.code ({ cls := "StarSenders$Text", name := "hasGate", desc := "(I)Z" } : Jvm.MethodName) prog_6_method_6_code (1 : Nat) (Option.some Jvm.ClassFile.FieldType.boolean)) ∈ BIG := in_big 675 (by decide +kernel) (by decide +kernel)
theorem kw_676 : (Jvm.Cond.methodLink "StarSenders$Text" (58 : Nat) ({ cls := "StarSenders$Text", name := "hasNumber", desc := "(I)Z" } : Jvm.MethodName)) ∈ BIG := in_big 676 (by decide +kernel) (by decide +kernel)
theorem kw_677 : (Jvm.Cond.static ({ cls := "StarSenders$Text", name := "hasNumber", desc := "(I)Z" } : Jvm.MethodName)) ∈ BIG := in_big 677 (by decide +kernel) (by decide +kernel)
theorem kw_678 : (Jvm.Cond.code ({ cls := "StarSenders$Text", name := "hasNumber", desc := "(I)Z" } : Jvm.MethodName) prog_6_method_7_code (1 : Nat) (Option.some Jvm.ClassFile.FieldType.boolean)) ∈ BIG := in_big 678 (by decide +kernel) (by decide +kernel)
theorem kw_679 : (Jvm.Cond.methodLink "StarSenders$Text" (51 : Nat) ({ cls := "StarSenders$Text", name := "readFigure", desc := "(I)I" } : Jvm.MethodName)) ∈ BIG := in_big 679 (by decide +kernel) (by decide +kernel)
theorem kw_681 : (Jvm.Cond.instanceMethod ({ cls := "StarSenders$Text", name := "readFigure", desc := "(I)I" } : Jvm.MethodName)) ∈ BIG := in_big 681 (by decide +kernel) (by decide +kernel)
theorem kw_682 : (Jvm.Cond.code ({ cls := "StarSenders$Text", name := "readFigure", desc := "(I)I" } : Jvm.MethodName) prog_6_method_11_code (3 : Nat) (Option.some Jvm.ClassFile.FieldType.int)) ∈ BIG := in_big 682 (by decide +kernel) (by decide +kernel)
theorem kw_683 : (Jvm.Cond.methodLink "StarSenders$Text" (71 : Nat) ({ cls := "StarSenders$Text", name := "isFigureNext", desc := "()Z" } : Jvm.MethodName)) ∈ BIG := in_big 683 (by decide +kernel) (by decide +kernel)
theorem kw_685 : (Jvm.Cond.instanceMethod ({ cls := "StarSenders$Text", name := "isFigureNext", desc := "()Z" } : Jvm.MethodName)) ∈ BIG := in_big 685 (by decide +kernel) (by decide +kernel)
theorem kw_686 : (Jvm.Cond.code ({ cls := "StarSenders$Text", name := "isFigureNext", desc := "()Z" } : Jvm.MethodName) prog_6_method_10_code (1 : Nat) (Option.some Jvm.ClassFile.FieldType.boolean)) ∈ BIG := in_big 686 (by decide +kernel) (by decide +kernel)
theorem kw_687 : (Jvm.Cond.methodLink "StarSenders$Text" (61 : Nat) ({ cls := "StarSenders$Text", name := "mostOfNumber", desc := "(I)I" } : Jvm.MethodName)) ∈ BIG := in_big 687 (by decide +kernel) (by decide +kernel)
theorem kw_688 : (Jvm.Cond.static ({ cls := "StarSenders$Text", name := "mostOfNumber", desc := "(I)I" } : Jvm.MethodName)) ∈ BIG := in_big 688 (by decide +kernel) (by decide +kernel)
theorem kw_689 : (Jvm.Cond.code ({ cls := "StarSenders$Text", name := "mostOfNumber", desc := "(I)I" } : Jvm.MethodName) prog_6_method_8_code (1 : Nat) (Option.some Jvm.ClassFile.FieldType.int)) ∈ BIG := in_big 689 (by decide +kernel) (by decide +kernel)
theorem kw_690 : (Jvm.Cond.methodLink "StarSenders$Text" (64 : Nat) ({ cls := "StarSenders$Text", name := "readNumber", desc := "(I)I" } : Jvm.MethodName)) ∈ BIG := in_big 690 (by decide +kernel) (by decide +kernel)
theorem kw_692 : (Jvm.Cond.instanceMethod ({ cls := "StarSenders$Text", name := "readNumber", desc := "(I)I" } : Jvm.MethodName)) ∈ BIG := in_big 692 (by decide +kernel) (by decide +kernel)
theorem kw_693 : (Jvm.Cond.code ({ cls := "StarSenders$Text", name := "readNumber", desc := "(I)I" } : Jvm.MethodName) prog_6_method_12_code (5 : Nat) (Option.some Jvm.ClassFile.FieldType.int)) ∈ BIG := in_big 693 (by decide +kernel) (by decide +kernel)
theorem kw_694 : (Jvm.Cond.methodLink "StarSenders$Text" (67 : Nat) ({ cls := "StarSenders$Text", name := "readEnd", desc := "()Z" } : Jvm.MethodName)) ∈ BIG := in_big 694 (by decide +kernel) (by decide +kernel)
theorem kw_696 : (Jvm.Cond.instanceMethod ({ cls := "StarSenders$Text", name := "readEnd", desc := "()Z" } : Jvm.MethodName)) ∈ BIG := in_big 696 (by decide +kernel) (by decide +kernel)
theorem kw_697 : (Jvm.Cond.code ({ cls := "StarSenders$Text", name := "readEnd", desc := "()Z" } : Jvm.MethodName) prog_6_method_13_code (1 : Nat) (Option.some Jvm.ClassFile.FieldType.boolean)) ∈ BIG := in_big 697 (by decide +kernel) (by decide +kernel)
theorem kw_698 : (Jvm.Cond.methodLink "StarSenders" (178 : Nat) ({ cls := "StarSenders", name := "carryOut", desc := "(I)I" } : Jvm.MethodName)) ∈ BIG := in_big 698 (by decide +kernel) (by decide +kernel)
theorem kw_700 : (Jvm.Cond.instanceMethod ({ cls := "StarSenders", name := "carryOut", desc := "(I)I" } : Jvm.MethodName)) ∈ BIG := in_big 700 (by decide +kernel) (by decide +kernel)
theorem kw_701 : (Jvm.Cond.code ({ cls := "StarSenders", name := "carryOut", desc := "(I)I" } : Jvm.MethodName) prog_1_method_31_code (5 : Nat) (Option.some Jvm.ClassFile.FieldType.int)) ∈ BIG := in_big 701 (by decide +kernel) (by decide +kernel)
theorem kw_702 : (Jvm.Cond.methodLink "StarSendersLaw" (93 : Nat) ({ cls := "StarSenders", name := "told", desc := "(I)I" } : Jvm.MethodName)) ∈ BIG := in_big 702 (by decide +kernel) (by decide +kernel)
theorem kw_703 : (Jvm.Cond.instanceMethod ({ cls := "StarSenders", name := "told", desc := "(I)I" } : Jvm.MethodName)) ∈ BIG := in_big 703 (by decide +kernel) (by decide +kernel)
theorem kw_704 : (Jvm.Cond.selects "StarSenders" ({ cls := "StarSenders", name := "told", desc := "(I)I" } : Jvm.MethodName) ({ cls := "StarSenders", name := "told", desc := "(I)I" } : Jvm.MethodName)) ∈ BIG := in_big 704 (by decide +kernel) (by decide +kernel)
theorem kw_705 : (Jvm.Cond.code ({ cls := "StarSenders", name := "told", desc := "(I)I" } : Jvm.MethodName) prog_1_method_21_code (2 : Nat) (Option.some Jvm.ClassFile.FieldType.int)) ∈ BIG := in_big 705 (by decide +kernel) (by decide +kernel)
theorem kw_706 : (Jvm.Cond.methodLink "StarSendersLaw" (97 : Nat) ({ cls := "StarSenders", name := "digest", desc := "()J" } : Jvm.MethodName)) ∈ BIG := in_big 706 (by decide +kernel) (by decide +kernel)
theorem kw_707 : (Jvm.Cond.instanceMethod ({ cls := "StarSenders", name := "digest", desc := "()J" } : Jvm.MethodName)) ∈ BIG := in_big 707 (by decide +kernel) (by decide +kernel)
theorem kw_708 : (Jvm.Cond.selects "StarSenders" ({ cls := "StarSenders", name := "digest", desc := "()J" } : Jvm.MethodName) ({ cls := "StarSenders", name := "digest", desc := "()J" } : Jvm.MethodName)) ∈ BIG := in_big 708 (by decide +kernel) (by decide +kernel)
theorem kw_709 : (Jvm.Cond.code ({ cls := "StarSenders", name := "digest", desc := "()J" } : Jvm.MethodName) prog_1_method_22_code (5 : Nat) (Option.some Jvm.ClassFile.FieldType.long)) ∈ BIG := in_big 709 (by decide +kernel) (by decide +kernel)
theorem kw_710 : (Jvm.Cond.constantLong "StarSenders" (187 : Nat) (2131 : Int64)) ∈ BIG := in_big 710 (by decide +kernel) (by decide +kernel)
theorem kw_711 : (Jvm.Cond.constantLong "StarSenders" (189 : Nat) (31 : Int64)) ∈ BIG := in_big 711 (by decide +kernel) (by decide +kernel)
theorem kw_712 : (Jvm.Cond.methodLink "StarSenders" (191 : Nat) ({ cls := "StarSenders", name := "told", desc := "(I)I" } : Jvm.MethodName)) ∈ BIG := in_big 712 (by decide +kernel) (by decide +kernel)
theorem kw_713 : (Jvm.Cond.methodLink "StarSenders" (194 : Nat) ({ cls := "StarSenders", name := "of", desc := "(II)I" } : Jvm.MethodName)) ∈ BIG := in_big 713 (by decide +kernel) (by decide +kernel)
theorem kw_714 : (Jvm.Cond.methodLink "StarSenders" (197 : Nat) ({ cls := "StarSenders", name := "at", desc := "(II)I" } : Jvm.MethodName)) ∈ BIG := in_big 714 (by decide +kernel) (by decide +kernel)
theorem kw_715 : (Jvm.Cond.methodLink "StarSenders" (200 : Nat) ({ cls := "StarSenders", name := "all", desc := "(I)I" } : Jvm.MethodName)) ∈ BIG := in_big 715 (by decide +kernel) (by decide +kernel)
theorem kw_716 : (Jvm.Cond.classLink "StarSendersLaw" (10 : Nat) "StarSendersModel") ∈ BIG := in_big 716 (by decide +kernel) (by decide +kernel)
theorem kw_717 : (Jvm.Cond.instantiable "StarSendersModel" (44 : Nat)) ∈ BIG := in_big 717 (by decide +kernel) (by decide +kernel)
theorem kw_718 : (Jvm.Cond.methodLink "StarSendersLaw" (12 : Nat) ({ cls := "StarSendersModel", name := "<init>", desc := "()V" } : Jvm.MethodName)) ∈ BIG := in_big 718 (by decide +kernel) (by decide +kernel)
theorem kw_719 : (Jvm.Cond.instanceMethod ({ cls := "StarSendersModel", name := "<init>", desc := "()V" } : Jvm.MethodName)) ∈ BIG := in_big 719 (by decide +kernel) (by decide +kernel)
theorem kw_720 : (Jvm.Cond.code ({ cls := "StarSendersModel", name := "<init>", desc := "()V" } : Jvm.MethodName) prog_10_method_1_code (1 : Nat) (Option.none : Option Jvm.ClassFile.FieldType)) ∈ BIG := in_big 720 (by decide +kernel) (by decide +kernel)
theorem kw_721 : (Jvm.Cond.methodLink "StarSendersModel" (1 : Nat) ({ cls := "java/lang/Object", name := "<init>", desc := "()V" } : Jvm.MethodName)) ∈ BIG := in_big 721 (by decide +kernel) (by decide +kernel)
theorem kw_722 : (Jvm.Cond.fieldLink "StarSendersModel" (7 : Nat) "StarSendersModel" "refused" "[I") ∈ BIG := in_big 722 (by decide +kernel) (by decide +kernel)
theorem kw_723 : (Jvm.Cond.fieldLink "StarSendersModel" (13 : Nat) "StarSendersModel" "senders" "I") ∈ BIG := in_big 723 (by decide +kernel) (by decide +kernel)
theorem kw_724 : (Jvm.Cond.fieldLink "StarSendersModel" (17 : Nat) "StarSendersModel" "gates" "I") ∈ BIG := in_big 724 (by decide +kernel) (by decide +kernel)
theorem kw_725 : (Jvm.Cond.fieldLink "StarSendersModel" (20 : Nat) "StarSendersModel" "wide" "I") ∈ BIG := in_big 725 (by decide +kernel) (by decide +kernel)
theorem kw_726 : (Jvm.Cond.fieldLink "StarSendersModel" (114 : Nat) "StarSendersModel" "tick" "I") ∈ BIG := in_big 726 (by decide +kernel) (by decide +kernel)
theorem kw_727 : (Jvm.Cond.fieldLink "StarSendersModel" (23 : Nat) "StarSendersModel" "lag" "[I") ∈ BIG := in_big 727 (by decide +kernel) (by decide +kernel)
theorem kw_728 : (Jvm.Cond.fieldLink "StarSendersModel" (26 : Nat) "StarSendersModel" "budget" "[I") ∈ BIG := in_big 728 (by decide +kernel) (by decide +kernel)
theorem kw_729 : (Jvm.Cond.fieldLink "StarSendersModel" (29 : Nat) "StarSendersModel" "spent" "[I") ∈ BIG := in_big 729 (by decide +kernel) (by decide +kernel)
theorem kw_730 : (Jvm.Cond.fieldLink "StarSendersModel" (32 : Nat) "StarSendersModel" "sentOn" "[I") ∈ BIG := in_big 730 (by decide +kernel) (by decide +kernel)
theorem kw_731 : (Jvm.Cond.fieldLink "StarSendersModel" (35 : Nat) "StarSendersModel" "answered" "[I") ∈ BIG := in_big 731 (by decide +kernel) (by decide +kernel)
theorem kw_732 : (Jvm.Cond.fieldLink "StarSendersModel" (38 : Nat) "StarSendersModel" "bestOf" "[I") ∈ BIG := in_big 732 (by decide +kernel) (by decide +kernel)
theorem kw_733 : (Jvm.Cond.fieldLink "StarSendersModel" (41 : Nat) "StarSendersModel" "gain" "[I") ∈ BIG := in_big 733 (by decide +kernel) (by decide +kernel)
theorem kw_734 : (Jvm.Cond.fieldLink "StarSendersModel" (44 : Nat) "StarSendersModel" "rate" "[I") ∈ BIG := in_big 734 (by decide +kernel) (by decide +kernel)
theorem kw_735 : (Jvm.Cond.fieldLink "StarSendersModel" (47 : Nat) "StarSendersModel" "power" "[I") ∈ BIG := in_big 735 (by decide +kernel) (by decide +kernel)
theorem kw_736 : (Jvm.Cond.fieldLink "StarSendersModel" (50 : Nat) "StarSendersModel" "counter" "[I") ∈ BIG := in_big 736 (by decide +kernel) (by decide +kernel)
theorem kw_737 : (Jvm.Cond.fieldLink "StarSendersModel" (53 : Nat) "StarSendersModel" "joined" "[I") ∈ BIG := in_big 737 (by decide +kernel) (by decide +kernel)
theorem kw_738 : (Jvm.Cond.fieldLink "StarSendersModel" (56 : Nat) "StarSendersModel" "sentLast" "[I") ∈ BIG := in_big 738 (by decide +kernel) (by decide +kernel)
theorem kw_739 : (Jvm.Cond.fieldLink "StarSendersModel" (59 : Nat) "StarSendersModel" "last" "[I") ∈ BIG := in_big 739 (by decide +kernel) (by decide +kernel)
theorem kw_740 : (Jvm.Cond.fieldLink "StarSendersModel" (62 : Nat) "StarSendersModel" "noted" "[I") ∈ BIG := in_big 740 (by decide +kernel) (by decide +kernel)
theorem kw_741 : (Jvm.Cond.fieldLink "StarSendersModel" (65 : Nat) "StarSendersModel" "margins" "[I") ∈ BIG := in_big 741 (by decide +kernel) (by decide +kernel)
theorem kw_742 : (Jvm.Cond.fieldLink "StarSendersModel" (68 : Nat) "StarSendersModel" "taken" "[I") ∈ BIG := in_big 742 (by decide +kernel) (by decide +kernel)
theorem kw_743 : (Jvm.Cond.fieldLink "StarSendersModel" (71 : Nat) "StarSendersModel" "gaps" "[I") ∈ BIG := in_big 743 (by decide +kernel) (by decide +kernel)
theorem kw_744 : (Jvm.Cond.fieldLink "StarSendersModel" (117 : Nat) "StarSendersModel" "copies" "I") ∈ BIG := in_big 744 (by decide +kernel) (by decide +kernel)
theorem kw_745 : (Jvm.Cond.fieldLink "StarSendersModel" (74 : Nat) "StarSendersModel" "copyBy" "[I") ∈ BIG := in_big 745 (by decide +kernel) (by decide +kernel)
theorem kw_746 : (Jvm.Cond.fieldLink "StarSendersModel" (77 : Nat) "StarSendersModel" "copyAt" "[I") ∈ BIG := in_big 746 (by decide +kernel) (by decide +kernel)
theorem kw_747 : (Jvm.Cond.fieldLink "StarSendersModel" (80 : Nat) "StarSendersModel" "copyKey" "[I") ∈ BIG := in_big 747 (by decide +kernel) (by decide +kernel)
theorem kw_748 : (Jvm.Cond.fieldLink "StarSendersModel" (83 : Nat) "StarSendersModel" "copyMargin" "[I") ∈ BIG := in_big 748 (by decide +kernel) (by decide +kernel)
theorem kw_749 : (Jvm.Cond.fieldLink "StarSendersModel" (86 : Nat) "StarSendersModel" "copyDue" "[I") ∈ BIG := in_big 749 (by decide +kernel) (by decide +kernel)
theorem kw_750 : (Jvm.Cond.fieldLink "StarSendersModel" (120 : Nat) "StarSendersModel" "windows" "I") ∈ BIG := in_big 750 (by decide +kernel) (by decide +kernel)
theorem kw_751 : (Jvm.Cond.fieldLink "StarSendersModel" (89 : Nat) "StarSendersModel" "windowBy" "[I") ∈ BIG := in_big 751 (by decide +kernel) (by decide +kernel)
theorem kw_752 : (Jvm.Cond.fieldLink "StarSendersModel" (92 : Nat) "StarSendersModel" "windowKey" "[I") ∈ BIG := in_big 752 (by decide +kernel) (by decide +kernel)
theorem kw_753 : (Jvm.Cond.fieldLink "StarSendersModel" (95 : Nat) "StarSendersModel" "windowSince" "[I") ∈ BIG := in_big 753 (by decide +kernel) (by decide +kernel)
theorem kw_754 : (Jvm.Cond.fieldLink "StarSendersModel" (98 : Nat) "StarSendersModel" "windowHeard" "[I") ∈ BIG := in_big 754 (by decide +kernel) (by decide +kernel)
theorem kw_755 : (Jvm.Cond.fieldLink "StarSendersModel" (101 : Nat) "StarSendersModel" "windowMargin" "[I") ∈ BIG := in_big 755 (by decide +kernel) (by decide +kernel)
theorem kw_756 : (Jvm.Cond.fieldLink "StarSendersModel" (104 : Nat) "StarSendersModel" "sums" "[I") ∈ BIG := in_big 756 (by decide +kernel) (by decide +kernel)
theorem kw_757 : (Jvm.Cond.fieldLink "StarSendersModel" (200 : Nat) "StarSendersModel" "toRate" "I") ∈ BIG := in_big 757 (by decide +kernel) (by decide +kernel)
theorem kw_758 : (Jvm.Cond.fieldLink "StarSendersModel" (203 : Nat) "StarSendersModel" "toPower" "I") ∈ BIG := in_big 758 (by decide +kernel) (by decide +kernel)
theorem kw_759 : (Jvm.Cond.fieldLink "StarSendersModel" (107 : Nat) "StarSendersModel" "text" "[I") ∈ BIG := in_big 759 (by decide +kernel) (by decide +kernel)
theorem kw_760 : (Jvm.Cond.fieldLink "StarSendersModel" (243 : Nat) "StarSendersModel" "size" "I") ∈ BIG := in_big 760 (by decide +kernel) (by decide +kernel)
theorem kw_761 : (Jvm.Cond.fieldLink "StarSendersModel" (246 : Nat) "StarSendersModel" "readAt" "I") ∈ BIG := in_big 761 (by decide +kernel) (by decide +kernel)
theorem kw_762 : (Jvm.Cond.fieldLink "StarSendersModel" (252 : Nat) "StarSendersModel" "readValue" "I") ∈ BIG := in_big 762 (by decide +kernel) (by decide +kernel)
theorem kw_763 : (Jvm.Cond.fieldLink "StarSendersModel" (258 : Nat) "StarSendersModel" "first" "I") ∈ BIG := in_big 763 (by decide +kernel) (by decide +kernel)
theorem kw_764 : (Jvm.Cond.fieldLink "StarSendersModel" (261 : Nat) "StarSendersModel" "second" "I") ∈ BIG := in_big 764 (by decide +kernel) (by decide +kernel)
theorem kw_765 : (Jvm.Cond.fieldLink "StarSendersModel" (267 : Nat) "StarSendersModel" "third" "I") ∈ BIG := in_big 765 (by decide +kernel) (by decide +kernel)
theorem kw_766 : (Jvm.Cond.laysFinal "StarSendersModel" "StarSendersModel" "refused" "[I") ∈ BIG := in_big 766 (by decide +kernel) (by decide +kernel)
theorem kw_768 : (Jvm.Cond.lays "StarSendersModel" "StarSendersModel" "senders" "I") ∈ BIG := in_big 768 (by decide +kernel) (by decide +kernel)
theorem kw_770 : (Jvm.Cond.lays "StarSendersModel" "StarSendersModel" "gates" "I") ∈ BIG := in_big 770 (by decide +kernel) (by decide +kernel)
theorem kw_772 : (Jvm.Cond.lays "StarSendersModel" "StarSendersModel" "wide" "I") ∈ BIG := in_big 772 (by decide +kernel) (by decide +kernel)
theorem kw_774 : (Jvm.Cond.lays "StarSendersModel" "StarSendersModel" "tick" "I") ∈ BIG := in_big 774 (by decide +kernel) (by decide +kernel)
theorem kw_776 : (Jvm.Cond.laysFinal "StarSendersModel" "StarSendersModel" "lag" "[I") ∈ BIG := in_big 776 (by decide +kernel) (by decide +kernel)
theorem kw_778 : (Jvm.Cond.laysFinal "StarSendersModel" "StarSendersModel" "budget" "[I") ∈ BIG := in_big 778 (by decide +kernel) (by decide +kernel)
theorem kw_780 : (Jvm.Cond.laysFinal "StarSendersModel" "StarSendersModel" "spent" "[I") ∈ BIG := in_big 780 (by decide +kernel) (by decide +kernel)
theorem kw_782 : (Jvm.Cond.laysFinal "StarSendersModel" "StarSendersModel" "sentOn" "[I") ∈ BIG := in_big 782 (by decide +kernel) (by decide +kernel)
theorem kw_784 : (Jvm.Cond.laysFinal "StarSendersModel" "StarSendersModel" "answered" "[I") ∈ BIG := in_big 784 (by decide +kernel) (by decide +kernel)
theorem kw_786 : (Jvm.Cond.laysFinal "StarSendersModel" "StarSendersModel" "bestOf" "[I") ∈ BIG := in_big 786 (by decide +kernel) (by decide +kernel)
theorem kw_788 : (Jvm.Cond.laysFinal "StarSendersModel" "StarSendersModel" "gain" "[I") ∈ BIG := in_big 788 (by decide +kernel) (by decide +kernel)
theorem kw_790 : (Jvm.Cond.laysFinal "StarSendersModel" "StarSendersModel" "rate" "[I") ∈ BIG := in_big 790 (by decide +kernel) (by decide +kernel)
theorem kw_792 : (Jvm.Cond.laysFinal "StarSendersModel" "StarSendersModel" "power" "[I") ∈ BIG := in_big 792 (by decide +kernel) (by decide +kernel)
theorem kw_794 : (Jvm.Cond.laysFinal "StarSendersModel" "StarSendersModel" "counter" "[I") ∈ BIG := in_big 794 (by decide +kernel) (by decide +kernel)
theorem kw_796 : (Jvm.Cond.laysFinal "StarSendersModel" "StarSendersModel" "joined" "[I") ∈ BIG := in_big 796 (by decide +kernel) (by decide +kernel)
theorem kw_798 : (Jvm.Cond.laysFinal "StarSendersModel" "StarSendersModel" "sentLast" "[I") ∈ BIG := in_big 798 (by decide +kernel) (by decide +kernel)
theorem kw_800 : (Jvm.Cond.laysFinal "StarSendersModel" "StarSendersModel" "last" "[I") ∈ BIG := in_big 800 (by decide +kernel) (by decide +kernel)
theorem kw_802 : (Jvm.Cond.laysFinal "StarSendersModel" "StarSendersModel" "noted" "[I") ∈ BIG := in_big 802 (by decide +kernel) (by decide +kernel)
theorem kw_804 : (Jvm.Cond.laysFinal "StarSendersModel" "StarSendersModel" "margins" "[I") ∈ BIG := in_big 804 (by decide +kernel) (by decide +kernel)
theorem kw_806 : (Jvm.Cond.laysFinal "StarSendersModel" "StarSendersModel" "taken" "[I") ∈ BIG := in_big 806 (by decide +kernel) (by decide +kernel)
theorem kw_808 : (Jvm.Cond.laysFinal "StarSendersModel" "StarSendersModel" "gaps" "[I") ∈ BIG := in_big 808 (by decide +kernel) (by decide +kernel)
theorem kw_810 : (Jvm.Cond.lays "StarSendersModel" "StarSendersModel" "copies" "I") ∈ BIG := in_big 810 (by decide +kernel) (by decide +kernel)
theorem kw_812 : (Jvm.Cond.laysFinal "StarSendersModel" "StarSendersModel" "copyBy" "[I") ∈ BIG := in_big 812 (by decide +kernel) (by decide +kernel)
theorem kw_814 : (Jvm.Cond.laysFinal "StarSendersModel" "StarSendersModel" "copyAt" "[I") ∈ BIG := in_big 814 (by decide +kernel) (by decide +kernel)
theorem kw_816 : (Jvm.Cond.laysFinal "StarSendersModel" "StarSendersModel" "copyKey" "[I") ∈ BIG := in_big 816 (by decide +kernel) (by decide +kernel)
theorem kw_818 : (Jvm.Cond.laysFinal "StarSendersModel" "StarSendersModel" "copyMargin" "[I") ∈ BIG := in_big 818 (by decide +kernel) (by decide +kernel)
theorem kw_820 : (Jvm.Cond.laysFinal "StarSendersModel" "StarSendersModel" "copyDue" "[I") ∈ BIG := in_big 820 (by decide +kernel) (by decide +kernel)
theorem kw_822 : (Jvm.Cond.lays "StarSendersModel" "StarSendersModel" "windows" "I") ∈ BIG := in_big 822 (by decide +kernel) (by decide +kernel)
theorem kw_824 : (Jvm.Cond.laysFinal "StarSendersModel" "StarSendersModel" "windowBy" "[I") ∈ BIG := in_big 824 (by decide +kernel) (by decide +kernel)
theorem kw_826 : (Jvm.Cond.laysFinal "StarSendersModel" "StarSendersModel" "windowKey" "[I") ∈ BIG := in_big 826 (by decide +kernel) (by decide +kernel)
theorem kw_828 : (Jvm.Cond.laysFinal "StarSendersModel" "StarSendersModel" "windowSince" "[I") ∈ BIG := in_big 828 (by decide +kernel) (by decide +kernel)
theorem kw_830 : (Jvm.Cond.laysFinal "StarSendersModel" "StarSendersModel" "windowHeard" "[I") ∈ BIG := in_big 830 (by decide +kernel) (by decide +kernel)
theorem kw_832 : (Jvm.Cond.laysFinal "StarSendersModel" "StarSendersModel" "windowMargin" "[I") ∈ BIG := in_big 832 (by decide +kernel) (by decide +kernel)
theorem kw_834 : (Jvm.Cond.laysFinal "StarSendersModel" "StarSendersModel" "sums" "[I") ∈ BIG := in_big 834 (by decide +kernel) (by decide +kernel)
theorem kw_836 : (Jvm.Cond.lays "StarSendersModel" "StarSendersModel" "toRate" "I") ∈ BIG := in_big 836 (by decide +kernel) (by decide +kernel)
theorem kw_838 : (Jvm.Cond.lays "StarSendersModel" "StarSendersModel" "toPower" "I") ∈ BIG := in_big 838 (by decide +kernel) (by decide +kernel)
theorem kw_840 : (Jvm.Cond.laysFinal "StarSendersModel" "StarSendersModel" "text" "[I") ∈ BIG := in_big 840 (by decide +kernel) (by decide +kernel)
theorem kw_842 : (Jvm.Cond.lays "StarSendersModel" "StarSendersModel" "size" "I") ∈ BIG := in_big 842 (by decide +kernel) (by decide +kernel)
theorem kw_844 : (Jvm.Cond.lays "StarSendersModel" "StarSendersModel" "readAt" "I") ∈ BIG := in_big 844 (by decide +kernel) (by decide +kernel)
theorem kw_846 : (Jvm.Cond.lays "StarSendersModel" "StarSendersModel" "readValue" "I") ∈ BIG := in_big 846 (by decide +kernel) (by decide +kernel)
theorem kw_848 : (Jvm.Cond.lays "StarSendersModel" "StarSendersModel" "first" "I") ∈ BIG := in_big 848 (by decide +kernel) (by decide +kernel)
theorem kw_850 : (Jvm.Cond.lays "StarSendersModel" "StarSendersModel" "second" "I") ∈ BIG := in_big 850 (by decide +kernel) (by decide +kernel)
theorem kw_852 : (Jvm.Cond.lays "StarSendersModel" "StarSendersModel" "third" "I") ∈ BIG := in_big 852 (by decide +kernel) (by decide +kernel)
theorem kw_855 : (Jvm.Cond.methodLink "StarSendersLaw" (17 : Nat) ({ cls := "StarSendersModel", name := "sets", desc := "(II)I" } : Jvm.MethodName)) ∈ BIG := in_big 855 (by decide +kernel) (by decide +kernel)
theorem kw_856 : (Jvm.Cond.instanceMethod ({ cls := "StarSendersModel", name := "sets", desc := "(II)I" } : Jvm.MethodName)) ∈ BIG := in_big 856 (by decide +kernel) (by decide +kernel)
theorem kw_857 : (Jvm.Cond.selects "StarSendersModel" ({ cls := "StarSendersModel", name := "sets", desc := "(II)I" } : Jvm.MethodName) ({ cls := "StarSendersModel", name := "sets", desc := "(II)I" } : Jvm.MethodName)) ∈ BIG := in_big 857 (by decide +kernel) (by decide +kernel)
theorem kw_858 : (Jvm.Cond.code ({ cls := "StarSendersModel", name := "sets", desc := "(II)I" } : Jvm.MethodName) prog_10_method_10_code (4 : Nat) (Option.some Jvm.ClassFile.FieldType.int)) ∈ BIG := in_big 858 (by decide +kernel) (by decide +kernel)
theorem kw_859 : (Jvm.Cond.methodLink "StarSendersModel" (110 : Nat) ({ cls := "StarSendersModel", name := "in", desc := "(III)Z" } : Jvm.MethodName)) ∈ BIG := in_big 859 (by decide +kernel) (by decide +kernel)
theorem kw_860 : (Jvm.Cond.static ({ cls := "StarSendersModel", name := "in", desc := "(III)Z" } : Jvm.MethodName)) ∈ BIG := in_big 860 (by decide +kernel) (by decide +kernel)
theorem kw_861 : (Jvm.Cond.code ({ cls := "StarSendersModel", name := "in", desc := "(III)Z" } : Jvm.MethodName) prog_10_method_5_code (3 : Nat) (Option.some Jvm.ClassFile.FieldType.boolean)) ∈ BIG := in_big 861 (by decide +kernel) (by decide +kernel)
theorem kw_862 : (Jvm.Cond.methodLink "StarSendersModel" (127 : Nat) ({ cls := "StarSendersModel", name := "bad", desc := "()I" } : Jvm.MethodName)) ∈ BIG := in_big 862 (by decide +kernel) (by decide +kernel)
theorem kw_864 : (Jvm.Cond.instanceMethod ({ cls := "StarSendersModel", name := "bad", desc := "()I" } : Jvm.MethodName)) ∈ BIG := in_big 864 (by decide +kernel) (by decide +kernel)
theorem kw_865 : (Jvm.Cond.code ({ cls := "StarSendersModel", name := "bad", desc := "()I" } : Jvm.MethodName) prog_10_method_2_code (1 : Nat) (Option.some Jvm.ClassFile.FieldType.int)) ∈ BIG := in_big 865 (by decide +kernel) (by decide +kernel)
theorem kw_866 : (Jvm.Cond.methodLink "StarSendersModel" (131 : Nat) ({ cls := "StarSendersModel", name := "begins", desc := "()V" } : Jvm.MethodName)) ∈ BIG := in_big 866 (by decide +kernel) (by decide +kernel)
theorem kw_868 : (Jvm.Cond.instanceMethod ({ cls := "StarSendersModel", name := "begins", desc := "()V" } : Jvm.MethodName)) ∈ BIG := in_big 868 (by decide +kernel) (by decide +kernel)
theorem kw_869 : (Jvm.Cond.code ({ cls := "StarSendersModel", name := "begins", desc := "()V" } : Jvm.MethodName) prog_10_method_8_code (2 : Nat) (Option.none : Option Jvm.ClassFile.FieldType)) ∈ BIG := in_big 869 (by decide +kernel) (by decide +kernel)
theorem kw_870 : (Jvm.Cond.methodLink "StarSendersModel" (123 : Nat) ({ cls := "StarSendersModel", name := "comesNew", desc := "(I)V" } : Jvm.MethodName)) ∈ BIG := in_big 870 (by decide +kernel) (by decide +kernel)
theorem kw_872 : (Jvm.Cond.instanceMethod ({ cls := "StarSendersModel", name := "comesNew", desc := "(I)V" } : Jvm.MethodName)) ∈ BIG := in_big 872 (by decide +kernel) (by decide +kernel)
theorem kw_873 : (Jvm.Cond.code ({ cls := "StarSendersModel", name := "comesNew", desc := "(I)V" } : Jvm.MethodName) prog_10_method_9_code (2 : Nat) (Option.none : Option Jvm.ClassFile.FieldType)) ∈ BIG := in_big 873 (by decide +kernel) (by decide +kernel)
theorem kw_874 : (Jvm.Cond.methodLink "StarSendersLaw" (22 : Nat) ({ cls := "StarSendersModel", name := "gate", desc := "(III)I" } : Jvm.MethodName)) ∈ BIG := in_big 874 (by decide +kernel) (by decide +kernel)
theorem kw_875 : (Jvm.Cond.instanceMethod ({ cls := "StarSendersModel", name := "gate", desc := "(III)I" } : Jvm.MethodName)) ∈ BIG := in_big 875 (by decide +kernel) (by decide +kernel)
theorem kw_876 : (Jvm.Cond.selects "StarSendersModel" ({ cls := "StarSendersModel", name := "gate", desc := "(III)I" } : Jvm.MethodName) ({ cls := "StarSendersModel", name := "gate", desc := "(III)I" } : Jvm.MethodName)) ∈ BIG := in_big 876 (by decide +kernel) (by decide +kernel)
theorem kw_877 : (Jvm.Cond.code ({ cls := "StarSendersModel", name := "gate", desc := "(III)I" } : Jvm.MethodName) prog_10_method_12_code (4 : Nat) (Option.some Jvm.ClassFile.FieldType.int)) ∈ BIG := in_big 877 (by decide +kernel) (by decide +kernel)
theorem kw_878 : (Jvm.Cond.methodLink "StarSendersModel" (134 : Nat) ({ cls := "StarSendersModel", name := "isGate", desc := "(I)Z" } : Jvm.MethodName)) ∈ BIG := in_big 878 (by decide +kernel) (by decide +kernel)
theorem kw_880 : (Jvm.Cond.instanceMethod ({ cls := "StarSendersModel", name := "isGate", desc := "(I)Z" } : Jvm.MethodName)) ∈ BIG := in_big 880 (by decide +kernel) (by decide +kernel)
theorem kw_881 : (Jvm.Cond.code ({ cls := "StarSendersModel", name := "isGate", desc := "(I)Z" } : Jvm.MethodName) prog_10_method_7_code (2 : Nat) (Option.some Jvm.ClassFile.FieldType.boolean)) ∈ BIG := in_big 881 (by decide +kernel) (by decide +kernel)
theorem kw_882 : (Jvm.Cond.methodLink "StarSendersModel" (138 : Nat) ({ cls := "StarSendersModel", name := "gateBecomes", desc := "(III)I" } : Jvm.MethodName)) ∈ BIG := in_big 882 (by decide +kernel) (by decide +kernel)
theorem kw_884 : (Jvm.Cond.instanceMethod ({ cls := "StarSendersModel", name := "gateBecomes", desc := "(III)I" } : Jvm.MethodName)) ∈ BIG := in_big 884 (by decide +kernel) (by decide +kernel)
theorem kw_885 : (Jvm.Cond.code ({ cls := "StarSendersModel", name := "gateBecomes", desc := "(III)I" } : Jvm.MethodName) prog_10_method_11_code (5 : Nat) (Option.some Jvm.ClassFile.FieldType.int)) ∈ BIG := in_big 885 (by decide +kernel) (by decide +kernel)
theorem kw_886 : (Jvm.Cond.methodLink "StarSendersLaw" (26 : Nat) ({ cls := "StarSendersModel", name := "gain", desc := "(III)I" } : Jvm.MethodName)) ∈ BIG := in_big 886 (by decide +kernel) (by decide +kernel)
theorem kw_887 : (Jvm.Cond.instanceMethod ({ cls := "StarSendersModel", name := "gain", desc := "(III)I" } : Jvm.MethodName)) ∈ BIG := in_big 887 (by decide +kernel) (by decide +kernel)
theorem kw_888 : (Jvm.Cond.selects "StarSendersModel" ({ cls := "StarSendersModel", name := "gain", desc := "(III)I" } : Jvm.MethodName) ({ cls := "StarSendersModel", name := "gain", desc := "(III)I" } : Jvm.MethodName)) ∈ BIG := in_big 888 (by decide +kernel) (by decide +kernel)
theorem kw_889 : (Jvm.Cond.code ({ cls := "StarSendersModel", name := "gain", desc := "(III)I" } : Jvm.MethodName) prog_10_method_13_code (5 : Nat) (Option.some Jvm.ClassFile.FieldType.int)) ∈ BIG := in_big 889 (by decide +kernel) (by decide +kernel)
theorem kw_890 : (Jvm.Cond.methodLink "StarSendersModel" (142 : Nat) ({ cls := "StarSendersModel", name := "isSender", desc := "(I)Z" } : Jvm.MethodName)) ∈ BIG := in_big 890 (by decide +kernel) (by decide +kernel)
theorem kw_892 : (Jvm.Cond.instanceMethod ({ cls := "StarSendersModel", name := "isSender", desc := "(I)Z" } : Jvm.MethodName)) ∈ BIG := in_big 892 (by decide +kernel) (by decide +kernel)
theorem kw_893 : (Jvm.Cond.code ({ cls := "StarSendersModel", name := "isSender", desc := "(I)Z" } : Jvm.MethodName) prog_10_method_6_code (2 : Nat) (Option.some Jvm.ClassFile.FieldType.boolean)) ∈ BIG := in_big 893 (by decide +kernel) (by decide +kernel)
theorem kw_894 : (Jvm.Cond.methodLink "StarSendersLaw" (31 : Nat) ({ cls := "StarSendersModel", name := "draw", desc := "(I)I" } : Jvm.MethodName)) ∈ BIG := in_big 894 (by decide +kernel) (by decide +kernel)
theorem kw_895 : (Jvm.Cond.instanceMethod ({ cls := "StarSendersModel", name := "draw", desc := "(I)I" } : Jvm.MethodName)) ∈ BIG := in_big 895 (by decide +kernel) (by decide +kernel)
theorem kw_896 : (Jvm.Cond.selects "StarSendersModel" ({ cls := "StarSendersModel", name := "draw", desc := "(I)I" } : Jvm.MethodName) ({ cls := "StarSendersModel", name := "draw", desc := "(I)I" } : Jvm.MethodName)) ∈ BIG := in_big 896 (by decide +kernel) (by decide +kernel)
theorem kw_897 : (Jvm.Cond.code ({ cls := "StarSendersModel", name := "draw", desc := "(I)I" } : Jvm.MethodName) prog_10_method_14_code (7 : Nat) (Option.some Jvm.ClassFile.FieldType.int)) ∈ BIG := in_big 897 (by decide +kernel) (by decide +kernel)
theorem kw_898 : (Jvm.Cond.constant "StarSendersModel" (145 : Nat) (999999 : Int32)) ∈ BIG := in_big 898 (by decide +kernel) (by decide +kernel)
theorem kw_899 : (Jvm.Cond.constantLong "StarSendersModel" (146 : Nat) (1103515245 : Int64)) ∈ BIG := in_big 899 (by decide +kernel) (by decide +kernel)
theorem kw_900 : (Jvm.Cond.constantLong "StarSendersModel" (148 : Nat) (12345 : Int64)) ∈ BIG := in_big 900 (by decide +kernel) (by decide +kernel)
theorem kw_901 : (Jvm.Cond.constantLong "StarSendersModel" (150 : Nat) (2147483648 : Int64)) ∈ BIG := in_big 901 (by decide +kernel) (by decide +kernel)
theorem kw_902 : (Jvm.Cond.constantLong "StarSendersModel" (152 : Nat) (65536 : Int64)) ∈ BIG := in_big 902 (by decide +kernel) (by decide +kernel)
theorem kw_903 : (Jvm.Cond.constantLong "StarSendersModel" (154 : Nat) (61 : Int64)) ∈ BIG := in_big 903 (by decide +kernel) (by decide +kernel)
theorem kw_904 : (Jvm.Cond.methodLink "StarSendersLaw" (35 : Nat) ({ cls := "StarSendersModel", name := "sender", desc := "(III)I" } : Jvm.MethodName)) ∈ BIG := in_big 904 (by decide +kernel) (by decide +kernel)
theorem kw_905 : (Jvm.Cond.instanceMethod ({ cls := "StarSendersModel", name := "sender", desc := "(III)I" } : Jvm.MethodName)) ∈ BIG := in_big 905 (by decide +kernel) (by decide +kernel)
theorem kw_906 : (Jvm.Cond.selects "StarSendersModel" ({ cls := "StarSendersModel", name := "sender", desc := "(III)I" } : Jvm.MethodName) ({ cls := "StarSendersModel", name := "sender", desc := "(III)I" } : Jvm.MethodName)) ∈ BIG := in_big 906 (by decide +kernel) (by decide +kernel)
theorem kw_907 : (Jvm.Cond.code ({ cls := "StarSendersModel", name := "sender", desc := "(III)I" } : Jvm.MethodName) prog_10_method_16_code (5 : Nat) (Option.some Jvm.ClassFile.FieldType.int)) ∈ BIG := in_big 907 (by decide +kernel) (by decide +kernel)
theorem kw_908 : (Jvm.Cond.methodLink "StarSendersModel" (156 : Nat) ({ cls := "StarSendersModel", name := "mostOf", desc := "(I)I" } : Jvm.MethodName)) ∈ BIG := in_big 908 (by decide +kernel) (by decide +kernel)
theorem kw_909 : (Jvm.Cond.static ({ cls := "StarSendersModel", name := "mostOf", desc := "(I)I" } : Jvm.MethodName)) ∈ BIG := in_big 909 (by decide +kernel) (by decide +kernel)
theorem kw_910 : (Jvm.Cond.code ({ cls := "StarSendersModel", name := "mostOf", desc := "(I)I" } : Jvm.MethodName) prog_10_method_15_code (1 : Nat) (Option.some Jvm.ClassFile.FieldType.int)) ∈ BIG := in_big 910 (by decide +kernel) (by decide +kernel)
theorem kw_911 : (Jvm.Cond.methodLink "StarSendersLaw" (39 : Nat) ({ cls := "StarSendersModel", name := "sends", desc := "(I)I" } : Jvm.MethodName)) ∈ BIG := in_big 911 (by decide +kernel) (by decide +kernel)
theorem kw_912 : (Jvm.Cond.instanceMethod ({ cls := "StarSendersModel", name := "sends", desc := "(I)I" } : Jvm.MethodName)) ∈ BIG := in_big 912 (by decide +kernel) (by decide +kernel)
theorem kw_913 : (Jvm.Cond.selects "StarSendersModel" ({ cls := "StarSendersModel", name := "sends", desc := "(I)I" } : Jvm.MethodName) ({ cls := "StarSendersModel", name := "sends", desc := "(I)I" } : Jvm.MethodName)) ∈ BIG := in_big 913 (by decide +kernel) (by decide +kernel)
theorem kw_914 : (Jvm.Cond.code ({ cls := "StarSendersModel", name := "sends", desc := "(I)I" } : Jvm.MethodName) prog_10_method_21_code (2 : Nat) (Option.some Jvm.ClassFile.FieldType.int)) ∈ BIG := in_big 914 (by decide +kernel) (by decide +kernel)
theorem kw_915 : (Jvm.Cond.methodLink "StarSendersModel" (167 : Nat) ({ cls := "StarSendersModel", name := "isRoom", desc := "()Z" } : Jvm.MethodName)) ∈ BIG := in_big 915 (by decide +kernel) (by decide +kernel)
theorem kw_917 : (Jvm.Cond.instanceMethod ({ cls := "StarSendersModel", name := "isRoom", desc := "()Z" } : Jvm.MethodName)) ∈ BIG := in_big 917 (by decide +kernel) (by decide +kernel)
theorem kw_918 : (Jvm.Cond.code ({ cls := "StarSendersModel", name := "isRoom", desc := "()Z" } : Jvm.MethodName) prog_10_method_18_code (1 : Nat) (Option.some Jvm.ClassFile.FieldType.boolean)) ∈ BIG := in_big 918 (by decide +kernel) (by decide +kernel)
theorem kw_919 : (Jvm.Cond.methodLink "StarSendersModel" (171 : Nat) ({ cls := "StarSendersModel", name := "sendsNow", desc := "(I)I" } : Jvm.MethodName)) ∈ BIG := in_big 919 (by decide +kernel) (by decide +kernel)
theorem kw_921 : (Jvm.Cond.instanceMethod ({ cls := "StarSendersModel", name := "sendsNow", desc := "(I)I" } : Jvm.MethodName)) ∈ BIG := in_big 921 (by decide +kernel) (by decide +kernel)
theorem kw_922 : (Jvm.Cond.code ({ cls := "StarSendersModel", name := "sendsNow", desc := "(I)I" } : Jvm.MethodName) prog_10_method_20_code (3 : Nat) (Option.some Jvm.ClassFile.FieldType.int)) ∈ BIG := in_big 922 (by decide +kernel) (by decide +kernel)
theorem kw_923 : (Jvm.Cond.methodLink "StarSendersModel" (164 : Nat) ({ cls := "StarSendersModel", name := "goes", desc := "(II)I" } : Jvm.MethodName)) ∈ BIG := in_big 923 (by decide +kernel) (by decide +kernel)
theorem kw_925 : (Jvm.Cond.instanceMethod ({ cls := "StarSendersModel", name := "goes", desc := "(II)I" } : Jvm.MethodName)) ∈ BIG := in_big 925 (by decide +kernel) (by decide +kernel)
theorem kw_926 : (Jvm.Cond.code ({ cls := "StarSendersModel", name := "goes", desc := "(II)I" } : Jvm.MethodName) prog_10_method_19_code (6 : Nat) (Option.some Jvm.ClassFile.FieldType.int)) ∈ BIG := in_big 926 (by decide +kernel) (by decide +kernel)
theorem kw_927 : (Jvm.Cond.methodLink "StarSendersModel" (160 : Nat) ({ cls := "StarSendersModel", name := "marginOf", desc := "(II)I" } : Jvm.MethodName)) ∈ BIG := in_big 927 (by decide +kernel) (by decide +kernel)
theorem kw_929 : (Jvm.Cond.instanceMethod ({ cls := "StarSendersModel", name := "marginOf", desc := "(II)I" } : Jvm.MethodName)) ∈ BIG := in_big 929 (by decide +kernel) (by decide +kernel)
theorem kw_930 : (Jvm.Cond.code ({ cls := "StarSendersModel", name := "marginOf", desc := "(II)I" } : Jvm.MethodName) prog_10_method_17_code (3 : Nat) (Option.some Jvm.ClassFile.FieldType.int)) ∈ BIG := in_big 930 (by decide +kernel) (by decide +kernel)
theorem kw_931 : (Jvm.Cond.methodLink "StarSendersModel" (174 : Nat) ({ cls := "StarSendersModel", name := "full", desc := "()I" } : Jvm.MethodName)) ∈ BIG := in_big 931 (by decide +kernel) (by decide +kernel)
theorem kw_933 : (Jvm.Cond.instanceMethod ({ cls := "StarSendersModel", name := "full", desc := "()I" } : Jvm.MethodName)) ∈ BIG := in_big 933 (by decide +kernel) (by decide +kernel)
theorem kw_934 : (Jvm.Cond.code ({ cls := "StarSendersModel", name := "full", desc := "()I" } : Jvm.MethodName) prog_10_method_4_code (1 : Nat) (Option.some Jvm.ClassFile.FieldType.int)) ∈ BIG := in_big 934 (by decide +kernel) (by decide +kernel)
theorem kw_935 : (Jvm.Cond.methodLink "StarSendersLaw" (43 : Nat) ({ cls := "StarSendersModel", name := "again", desc := "(I)I" } : Jvm.MethodName)) ∈ BIG := in_big 935 (by decide +kernel) (by decide +kernel)
theorem kw_936 : (Jvm.Cond.instanceMethod ({ cls := "StarSendersModel", name := "again", desc := "(I)I" } : Jvm.MethodName)) ∈ BIG := in_big 936 (by decide +kernel) (by decide +kernel)
theorem kw_937 : (Jvm.Cond.selects "StarSendersModel" ({ cls := "StarSendersModel", name := "again", desc := "(I)I" } : Jvm.MethodName) ({ cls := "StarSendersModel", name := "again", desc := "(I)I" } : Jvm.MethodName)) ∈ BIG := in_big 937 (by decide +kernel) (by decide +kernel)
theorem kw_938 : (Jvm.Cond.code ({ cls := "StarSendersModel", name := "again", desc := "(I)I" } : Jvm.MethodName) prog_10_method_22_code (2 : Nat) (Option.some Jvm.ClassFile.FieldType.int)) ∈ BIG := in_big 938 (by decide +kernel) (by decide +kernel)
theorem kw_939 : (Jvm.Cond.methodLink "StarSendersModel" (177 : Nat) ({ cls := "StarSendersModel", name := "no", desc := "()I" } : Jvm.MethodName)) ∈ BIG := in_big 939 (by decide +kernel) (by decide +kernel)
theorem kw_941 : (Jvm.Cond.instanceMethod ({ cls := "StarSendersModel", name := "no", desc := "()I" } : Jvm.MethodName)) ∈ BIG := in_big 941 (by decide +kernel) (by decide +kernel)
theorem kw_942 : (Jvm.Cond.code ({ cls := "StarSendersModel", name := "no", desc := "()I" } : Jvm.MethodName) prog_10_method_3_code (1 : Nat) (Option.some Jvm.ClassFile.FieldType.int)) ∈ BIG := in_big 942 (by decide +kernel) (by decide +kernel)
theorem kw_943 : (Jvm.Cond.methodLink "StarSendersLaw" (51 : Nat) ({ cls := "StarSendersModel", name := "renews", desc := "(I)I" } : Jvm.MethodName)) ∈ BIG := in_big 943 (by decide +kernel) (by decide +kernel)
theorem kw_944 : (Jvm.Cond.instanceMethod ({ cls := "StarSendersModel", name := "renews", desc := "(I)I" } : Jvm.MethodName)) ∈ BIG := in_big 944 (by decide +kernel) (by decide +kernel)
theorem kw_945 : (Jvm.Cond.selects "StarSendersModel" ({ cls := "StarSendersModel", name := "renews", desc := "(I)I" } : Jvm.MethodName) ({ cls := "StarSendersModel", name := "renews", desc := "(I)I" } : Jvm.MethodName)) ∈ BIG := in_big 945 (by decide +kernel) (by decide +kernel)
theorem kw_946 : (Jvm.Cond.code ({ cls := "StarSendersModel", name := "renews", desc := "(I)I" } : Jvm.MethodName) prog_10_method_23_code (3 : Nat) (Option.some Jvm.ClassFile.FieldType.int)) ∈ BIG := in_big 946 (by decide +kernel) (by decide +kernel)
theorem kw_947 : (Jvm.Cond.methodLink "StarSendersLaw" (47 : Nat) ({ cls := "StarSendersModel", name := "ticks", desc := "(I)I" } : Jvm.MethodName)) ∈ BIG := in_big 947 (by decide +kernel) (by decide +kernel)
theorem kw_948 : (Jvm.Cond.instanceMethod ({ cls := "StarSendersModel", name := "ticks", desc := "(I)I" } : Jvm.MethodName)) ∈ BIG := in_big 948 (by decide +kernel) (by decide +kernel)
theorem kw_949 : (Jvm.Cond.selects "StarSendersModel" ({ cls := "StarSendersModel", name := "ticks", desc := "(I)I" } : Jvm.MethodName) ({ cls := "StarSendersModel", name := "ticks", desc := "(I)I" } : Jvm.MethodName)) ∈ BIG := in_big 949 (by decide +kernel) (by decide +kernel)
theorem kw_950 : (Jvm.Cond.code ({ cls := "StarSendersModel", name := "ticks", desc := "(I)I" } : Jvm.MethodName) prog_10_method_39_code (2 : Nat) (Option.some Jvm.ClassFile.FieldType.int)) ∈ BIG := in_big 950 (by decide +kernel) (by decide +kernel)
theorem kw_951 : (Jvm.Cond.methodLink "StarSendersModel" (231 : Nat) ({ cls := "StarSendersModel", name := "goBy", desc := "(I)I" } : Jvm.MethodName)) ∈ BIG := in_big 951 (by decide +kernel) (by decide +kernel)
theorem kw_953 : (Jvm.Cond.instanceMethod ({ cls := "StarSendersModel", name := "goBy", desc := "(I)I" } : Jvm.MethodName)) ∈ BIG := in_big 953 (by decide +kernel) (by decide +kernel)
theorem kw_954 : (Jvm.Cond.code ({ cls := "StarSendersModel", name := "goBy", desc := "(I)I" } : Jvm.MethodName) prog_10_method_38_code (4 : Nat) (Option.some Jvm.ClassFile.FieldType.int)) ∈ BIG := in_big 954 (by decide +kernel) (by decide +kernel)
theorem kw_955 : (Jvm.Cond.methodLink "StarSendersModel" (228 : Nat) ({ cls := "StarSendersModel", name := "oneTick", desc := "()I" } : Jvm.MethodName)) ∈ BIG := in_big 955 (by decide +kernel) (by decide +kernel)
theorem kw_957 : (Jvm.Cond.instanceMethod ({ cls := "StarSendersModel", name := "oneTick", desc := "()I" } : Jvm.MethodName)) ∈ BIG := in_big 957 (by decide +kernel) (by decide +kernel)
theorem kw_958 : (Jvm.Cond.code ({ cls := "StarSendersModel", name := "oneTick", desc := "()I" } : Jvm.MethodName) prog_10_method_37_code (2 : Nat) (Option.some Jvm.ClassFile.FieldType.int)) ∈ BIG := in_big 958 (by decide +kernel) (by decide +kernel)
theorem kw_959 : (Jvm.Cond.methodLink "StarSendersModel" (219 : Nat) ({ cls := "StarSendersModel", name := "allCome", desc := "()V" } : Jvm.MethodName)) ∈ BIG := in_big 959 (by decide +kernel) (by decide +kernel)
theorem kw_961 : (Jvm.Cond.instanceMethod ({ cls := "StarSendersModel", name := "allCome", desc := "()V" } : Jvm.MethodName)) ∈ BIG := in_big 961 (by decide +kernel) (by decide +kernel)
theorem kw_962 : (Jvm.Cond.code ({ cls := "StarSendersModel", name := "allCome", desc := "()V" } : Jvm.MethodName) prog_10_method_29_code (3 : Nat) (Option.none : Option Jvm.ClassFile.FieldType)) ∈ BIG := in_big 962 (by decide +kernel) (by decide +kernel)
theorem kw_963 : (Jvm.Cond.methodLink "StarSendersModel" (194 : Nat) ({ cls := "StarSendersModel", name := "comes", desc := "(I)V" } : Jvm.MethodName)) ∈ BIG := in_big 963 (by decide +kernel) (by decide +kernel)
theorem kw_965 : (Jvm.Cond.instanceMethod ({ cls := "StarSendersModel", name := "comes", desc := "(I)V" } : Jvm.MethodName)) ∈ BIG := in_big 965 (by decide +kernel) (by decide +kernel)
theorem kw_966 : (Jvm.Cond.code ({ cls := "StarSendersModel", name := "comes", desc := "(I)V" } : Jvm.MethodName) prog_10_method_28_code (4 : Nat) (Option.none : Option Jvm.ClassFile.FieldType)) ∈ BIG := in_big 966 (by decide +kernel) (by decide +kernel)
theorem kw_967 : (Jvm.Cond.methodLink "StarSendersModel" (183 : Nat) ({ cls := "StarSendersModel", name := "windowOf", desc := "(II)I" } : Jvm.MethodName)) ∈ BIG := in_big 967 (by decide +kernel) (by decide +kernel)
theorem kw_969 : (Jvm.Cond.instanceMethod ({ cls := "StarSendersModel", name := "windowOf", desc := "(II)I" } : Jvm.MethodName)) ∈ BIG := in_big 969 (by decide +kernel) (by decide +kernel)
theorem kw_970 : (Jvm.Cond.code ({ cls := "StarSendersModel", name := "windowOf", desc := "(II)I" } : Jvm.MethodName) prog_10_method_26_code (4 : Nat) (Option.some Jvm.ClassFile.FieldType.int)) ∈ BIG := in_big 970 (by decide +kernel) (by decide +kernel)
theorem kw_971 : (Jvm.Cond.methodLink "StarSendersModel" (186 : Nat) ({ cls := "StarSendersModel", name := "hearsIn", desc := "(III)V" } : Jvm.MethodName)) ∈ BIG := in_big 971 (by decide +kernel) (by decide +kernel)
theorem kw_973 : (Jvm.Cond.instanceMethod ({ cls := "StarSendersModel", name := "hearsIn", desc := "(III)V" } : Jvm.MethodName)) ∈ BIG := in_big 973 (by decide +kernel) (by decide +kernel)
theorem kw_974 : (Jvm.Cond.code ({ cls := "StarSendersModel", name := "hearsIn", desc := "(III)V" } : Jvm.MethodName) prog_10_method_27_code (6 : Nat) (Option.none : Option Jvm.ClassFile.FieldType)) ∈ BIG := in_big 974 (by decide +kernel) (by decide +kernel)
theorem kw_975 : (Jvm.Cond.methodLink "StarSendersModel" (190 : Nat) ({ cls := "StarSendersModel", name := "isOn", desc := "(II)Z" } : Jvm.MethodName)) ∈ BIG := in_big 975 (by decide +kernel) (by decide +kernel)
theorem kw_977 : (Jvm.Cond.instanceMethod ({ cls := "StarSendersModel", name := "isOn", desc := "(II)Z" } : Jvm.MethodName)) ∈ BIG := in_big 977 (by decide +kernel) (by decide +kernel)
theorem kw_978 : (Jvm.Cond.code ({ cls := "StarSendersModel", name := "isOn", desc := "(II)Z" } : Jvm.MethodName) prog_10_method_25_code (3 : Nat) (Option.some Jvm.ClassFile.FieldType.boolean)) ∈ BIG := in_big 978 (by decide +kernel) (by decide +kernel)
theorem kw_979 : (Jvm.Cond.methodLink "StarSendersModel" (180 : Nat) ({ cls := "StarSendersModel", name := "far", desc := "(II)I" } : Jvm.MethodName)) ∈ BIG := in_big 979 (by decide +kernel) (by decide +kernel)
theorem kw_981 : (Jvm.Cond.instanceMethod ({ cls := "StarSendersModel", name := "far", desc := "(II)I" } : Jvm.MethodName)) ∈ BIG := in_big 981 (by decide +kernel) (by decide +kernel)
theorem kw_982 : (Jvm.Cond.code ({ cls := "StarSendersModel", name := "far", desc := "(II)I" } : Jvm.MethodName) prog_10_method_24_code (3 : Nat) (Option.some Jvm.ClassFile.FieldType.int)) ∈ BIG := in_big 982 (by decide +kernel) (by decide +kernel)
theorem kw_983 : (Jvm.Cond.methodLink "StarSendersModel" (222 : Nat) ({ cls := "StarSendersModel", name := "closes", desc := "()I" } : Jvm.MethodName)) ∈ BIG := in_big 983 (by decide +kernel) (by decide +kernel)
theorem kw_985 : (Jvm.Cond.instanceMethod ({ cls := "StarSendersModel", name := "closes", desc := "()I" } : Jvm.MethodName)) ∈ BIG := in_big 985 (by decide +kernel) (by decide +kernel)
theorem kw_986 : (Jvm.Cond.code ({ cls := "StarSendersModel", name := "closes", desc := "()I" } : Jvm.MethodName) prog_10_method_36_code (4 : Nat) (Option.some Jvm.ClassFile.FieldType.int)) ∈ BIG := in_big 986 (by decide +kernel) (by decide +kernel)
theorem kw_987 : (Jvm.Cond.methodLink "StarSendersModel" (209 : Nat) ({ cls := "StarSendersModel", name := "answers", desc := "(I)Z" } : Jvm.MethodName)) ∈ BIG := in_big 987 (by decide +kernel) (by decide +kernel)
theorem kw_989 : (Jvm.Cond.instanceMethod ({ cls := "StarSendersModel", name := "answers", desc := "(I)Z" } : Jvm.MethodName)) ∈ BIG := in_big 989 (by decide +kernel) (by decide +kernel)
theorem kw_990 : (Jvm.Cond.code ({ cls := "StarSendersModel", name := "answers", desc := "(I)Z" } : Jvm.MethodName) prog_10_method_32_code (4 : Nat) (Option.some Jvm.ClassFile.FieldType.boolean)) ∈ BIG := in_big 990 (by decide +kernel) (by decide +kernel)
theorem kw_991 : (Jvm.Cond.methodLink "StarSendersModel" (197 : Nat) ({ cls := "StarSendersModel", name := "gateBehind", desc := "(I)I" } : Jvm.MethodName)) ∈ BIG := in_big 991 (by decide +kernel) (by decide +kernel)
theorem kw_993 : (Jvm.Cond.instanceMethod ({ cls := "StarSendersModel", name := "gateBehind", desc := "(I)I" } : Jvm.MethodName)) ∈ BIG := in_big 993 (by decide +kernel) (by decide +kernel)
theorem kw_994 : (Jvm.Cond.code ({ cls := "StarSendersModel", name := "gateBehind", desc := "(I)I" } : Jvm.MethodName) prog_10_method_31_code (6 : Nat) (Option.some Jvm.ClassFile.FieldType.int)) ∈ BIG := in_big 994 (by decide +kernel) (by decide +kernel)
theorem kw_995 : (Jvm.Cond.methodLink "StarSendersModel" (212 : Nat) ({ cls := "StarSendersModel", name := "notes", desc := "(II)V" } : Jvm.MethodName)) ∈ BIG := in_big 995 (by decide +kernel) (by decide +kernel)
theorem kw_997 : (Jvm.Cond.instanceMethod ({ cls := "StarSendersModel", name := "notes", desc := "(II)V" } : Jvm.MethodName)) ∈ BIG := in_big 997 (by decide +kernel) (by decide +kernel)
theorem kw_998 : (Jvm.Cond.code ({ cls := "StarSendersModel", name := "notes", desc := "(II)V" } : Jvm.MethodName) prog_10_method_33_code (5 : Nat) (Option.none : Option Jvm.ClassFile.FieldType)) ∈ BIG := in_big 998 (by decide +kernel) (by decide +kernel)
theorem kw_999 : (Jvm.Cond.methodLink "StarSendersModel" (216 : Nat) ({ cls := "StarSendersModel", name := "adapts", desc := "(I)V" } : Jvm.MethodName)) ∈ BIG := in_big 999 (by decide +kernel) (by decide +kernel)
theorem kw_1001 : (Jvm.Cond.instanceMethod ({ cls := "StarSendersModel", name := "adapts", desc := "(I)V" } : Jvm.MethodName)) ∈ BIG := in_big 1001 (by decide +kernel) (by decide +kernel)
theorem kw_1002 : (Jvm.Cond.code ({ cls := "StarSendersModel", name := "adapts", desc := "(I)V" } : Jvm.MethodName) prog_10_method_35_code (4 : Nat) (Option.none : Option Jvm.ClassFile.FieldType)) ∈ BIG := in_big 1002 (by decide +kernel) (by decide +kernel)
theorem kw_1003 : (Jvm.Cond.methodLink "StarSendersModel" (206 : Nat) ({ cls := "StarSendersModel", name := "reckons", desc := "(I)V" } : Jvm.MethodName)) ∈ BIG := in_big 1003 (by decide +kernel) (by decide +kernel)
theorem kw_1005 : (Jvm.Cond.instanceMethod ({ cls := "StarSendersModel", name := "reckons", desc := "(I)V" } : Jvm.MethodName)) ∈ BIG := in_big 1005 (by decide +kernel) (by decide +kernel)
theorem kw_1006 : (Jvm.Cond.code ({ cls := "StarSendersModel", name := "reckons", desc := "(I)V" } : Jvm.MethodName) prog_10_method_34_code (5 : Nat) (Option.none : Option Jvm.ClassFile.FieldType)) ∈ BIG := in_big 1006 (by decide +kernel) (by decide +kernel)
theorem kw_1007 : (Jvm.Cond.methodLink "StarSendersModel" (225 : Nat) ({ cls := "StarSendersModel", name := "firstGoes", desc := "()V" } : Jvm.MethodName)) ∈ BIG := in_big 1007 (by decide +kernel) (by decide +kernel)
theorem kw_1009 : (Jvm.Cond.instanceMethod ({ cls := "StarSendersModel", name := "firstGoes", desc := "()V" } : Jvm.MethodName)) ∈ BIG := in_big 1009 (by decide +kernel) (by decide +kernel)
theorem kw_1010 : (Jvm.Cond.code ({ cls := "StarSendersModel", name := "firstGoes", desc := "()V" } : Jvm.MethodName) prog_10_method_30_code (3 : Nat) (Option.none : Option Jvm.ClassFile.FieldType)) ∈ BIG := in_big 1010 (by decide +kernel) (by decide +kernel)
theorem kw_1011 : (Jvm.Cond.methodLink "StarSendersLaw" (55 : Nat) ({ cls := "StarSendersModel", name := "of", desc := "(II)I" } : Jvm.MethodName)) ∈ BIG := in_big 1011 (by decide +kernel) (by decide +kernel)
theorem kw_1012 : (Jvm.Cond.instanceMethod ({ cls := "StarSendersModel", name := "of", desc := "(II)I" } : Jvm.MethodName)) ∈ BIG := in_big 1012 (by decide +kernel) (by decide +kernel)
theorem kw_1013 : (Jvm.Cond.selects "StarSendersModel" ({ cls := "StarSendersModel", name := "of", desc := "(II)I" } : Jvm.MethodName) ({ cls := "StarSendersModel", name := "of", desc := "(II)I" } : Jvm.MethodName)) ∈ BIG := in_big 1013 (by decide +kernel) (by decide +kernel)
theorem kw_1014 : (Jvm.Cond.code ({ cls := "StarSendersModel", name := "of", desc := "(II)I" } : Jvm.MethodName) prog_10_method_41_code (3 : Nat) (Option.some Jvm.ClassFile.FieldType.int)) ∈ BIG := in_big 1014 (by decide +kernel) (by decide +kernel)
theorem kw_1015 : (Jvm.Cond.methodLink "StarSendersModel" (234 : Nat) ({ cls := "StarSendersModel", name := "ofBy", desc := "(II)I" } : Jvm.MethodName)) ∈ BIG := in_big 1015 (by decide +kernel) (by decide +kernel)
theorem kw_1017 : (Jvm.Cond.instanceMethod ({ cls := "StarSendersModel", name := "ofBy", desc := "(II)I" } : Jvm.MethodName)) ∈ BIG := in_big 1017 (by decide +kernel) (by decide +kernel)
theorem kw_1018 : (Jvm.Cond.code ({ cls := "StarSendersModel", name := "ofBy", desc := "(II)I" } : Jvm.MethodName) prog_10_method_40_code (3 : Nat) (Option.some Jvm.ClassFile.FieldType.int)) ∈ BIG := in_big 1018 (by decide +kernel) (by decide +kernel)
theorem kw_1019 : (Jvm.Cond.methodLink "StarSendersLaw" (59 : Nat) ({ cls := "StarSendersModel", name := "margin", desc := "(II)I" } : Jvm.MethodName)) ∈ BIG := in_big 1019 (by decide +kernel) (by decide +kernel)
theorem kw_1020 : (Jvm.Cond.instanceMethod ({ cls := "StarSendersModel", name := "margin", desc := "(II)I" } : Jvm.MethodName)) ∈ BIG := in_big 1020 (by decide +kernel) (by decide +kernel)
theorem kw_1021 : (Jvm.Cond.selects "StarSendersModel" ({ cls := "StarSendersModel", name := "margin", desc := "(II)I" } : Jvm.MethodName) ({ cls := "StarSendersModel", name := "margin", desc := "(II)I" } : Jvm.MethodName)) ∈ BIG := in_big 1021 (by decide +kernel) (by decide +kernel)
theorem kw_1022 : (Jvm.Cond.code ({ cls := "StarSendersModel", name := "margin", desc := "(II)I" } : Jvm.MethodName) prog_10_method_42_code (3 : Nat) (Option.some Jvm.ClassFile.FieldType.int)) ∈ BIG := in_big 1022 (by decide +kernel) (by decide +kernel)
theorem kw_1023 : (Jvm.Cond.methodLink "StarSendersLaw" (63 : Nat) ({ cls := "StarSendersModel", name := "hears", desc := "(II)I" } : Jvm.MethodName)) ∈ BIG := in_big 1023 (by decide +kernel) (by decide +kernel)
theorem kw_1024 : (Jvm.Cond.instanceMethod ({ cls := "StarSendersModel", name := "hears", desc := "(II)I" } : Jvm.MethodName)) ∈ BIG := in_big 1024 (by decide +kernel) (by decide +kernel)
theorem kw_1025 : (Jvm.Cond.selects "StarSendersModel" ({ cls := "StarSendersModel", name := "hears", desc := "(II)I" } : Jvm.MethodName) ({ cls := "StarSendersModel", name := "hears", desc := "(II)I" } : Jvm.MethodName)) ∈ BIG := in_big 1025 (by decide +kernel) (by decide +kernel)
theorem kw_1026 : (Jvm.Cond.code ({ cls := "StarSendersModel", name := "hears", desc := "(II)I" } : Jvm.MethodName) prog_10_method_43_code (3 : Nat) (Option.some Jvm.ClassFile.FieldType.int)) ∈ BIG := in_big 1026 (by decide +kernel) (by decide +kernel)
theorem kw_1027 : (Jvm.Cond.methodLink "StarSendersLaw" (67 : Nat) ({ cls := "StarSendersModel", name := "at", desc := "(II)I" } : Jvm.MethodName)) ∈ BIG := in_big 1027 (by decide +kernel) (by decide +kernel)
theorem kw_1028 : (Jvm.Cond.instanceMethod ({ cls := "StarSendersModel", name := "at", desc := "(II)I" } : Jvm.MethodName)) ∈ BIG := in_big 1028 (by decide +kernel) (by decide +kernel)
theorem kw_1029 : (Jvm.Cond.selects "StarSendersModel" ({ cls := "StarSendersModel", name := "at", desc := "(II)I" } : Jvm.MethodName) ({ cls := "StarSendersModel", name := "at", desc := "(II)I" } : Jvm.MethodName)) ∈ BIG := in_big 1029 (by decide +kernel) (by decide +kernel)
theorem kw_1030 : (Jvm.Cond.code ({ cls := "StarSendersModel", name := "at", desc := "(II)I" } : Jvm.MethodName) prog_10_method_45_code (3 : Nat) (Option.some Jvm.ClassFile.FieldType.int)) ∈ BIG := in_big 1030 (by decide +kernel) (by decide +kernel)
theorem kw_1031 : (Jvm.Cond.methodLink "StarSendersModel" (237 : Nat) ({ cls := "StarSendersModel", name := "atBy", desc := "(II)I" } : Jvm.MethodName)) ∈ BIG := in_big 1031 (by decide +kernel) (by decide +kernel)
theorem kw_1033 : (Jvm.Cond.instanceMethod ({ cls := "StarSendersModel", name := "atBy", desc := "(II)I" } : Jvm.MethodName)) ∈ BIG := in_big 1033 (by decide +kernel) (by decide +kernel)
theorem kw_1034 : (Jvm.Cond.code ({ cls := "StarSendersModel", name := "atBy", desc := "(II)I" } : Jvm.MethodName) prog_10_method_44_code (3 : Nat) (Option.some Jvm.ClassFile.FieldType.int)) ∈ BIG := in_big 1034 (by decide +kernel) (by decide +kernel)
theorem kw_1035 : (Jvm.Cond.methodLink "StarSendersLaw" (71 : Nat) ({ cls := "StarSendersModel", name := "all", desc := "(I)I" } : Jvm.MethodName)) ∈ BIG := in_big 1035 (by decide +kernel) (by decide +kernel)
theorem kw_1036 : (Jvm.Cond.instanceMethod ({ cls := "StarSendersModel", name := "all", desc := "(I)I" } : Jvm.MethodName)) ∈ BIG := in_big 1036 (by decide +kernel) (by decide +kernel)
theorem kw_1037 : (Jvm.Cond.selects "StarSendersModel" ({ cls := "StarSendersModel", name := "all", desc := "(I)I" } : Jvm.MethodName) ({ cls := "StarSendersModel", name := "all", desc := "(I)I" } : Jvm.MethodName)) ∈ BIG := in_big 1037 (by decide +kernel) (by decide +kernel)
theorem kw_1038 : (Jvm.Cond.code ({ cls := "StarSendersModel", name := "all", desc := "(I)I" } : Jvm.MethodName) prog_10_method_47_code (2 : Nat) (Option.some Jvm.ClassFile.FieldType.int)) ∈ BIG := in_big 1038 (by decide +kernel) (by decide +kernel)
theorem kw_1039 : (Jvm.Cond.methodLink "StarSendersModel" (240 : Nat) ({ cls := "StarSendersModel", name := "allBy", desc := "(I)I" } : Jvm.MethodName)) ∈ BIG := in_big 1039 (by decide +kernel) (by decide +kernel)
theorem kw_1041 : (Jvm.Cond.instanceMethod ({ cls := "StarSendersModel", name := "allBy", desc := "(I)I" } : Jvm.MethodName)) ∈ BIG := in_big 1041 (by decide +kernel) (by decide +kernel)
theorem kw_1042 : (Jvm.Cond.code ({ cls := "StarSendersModel", name := "allBy", desc := "(I)I" } : Jvm.MethodName) prog_10_method_46_code (2 : Nat) (Option.some Jvm.ClassFile.FieldType.int)) ∈ BIG := in_big 1042 (by decide +kernel) (by decide +kernel)
theorem kw_1043 : (Jvm.Cond.methodLink "StarSendersLaw" (75 : Nat) ({ cls := "StarSendersModel", name := "window", desc := "(II)I" } : Jvm.MethodName)) ∈ BIG := in_big 1043 (by decide +kernel) (by decide +kernel)
theorem kw_1044 : (Jvm.Cond.instanceMethod ({ cls := "StarSendersModel", name := "window", desc := "(II)I" } : Jvm.MethodName)) ∈ BIG := in_big 1044 (by decide +kernel) (by decide +kernel)
theorem kw_1045 : (Jvm.Cond.selects "StarSendersModel" ({ cls := "StarSendersModel", name := "window", desc := "(II)I" } : Jvm.MethodName) ({ cls := "StarSendersModel", name := "window", desc := "(II)I" } : Jvm.MethodName)) ∈ BIG := in_big 1045 (by decide +kernel) (by decide +kernel)
theorem kw_1046 : (Jvm.Cond.code ({ cls := "StarSendersModel", name := "window", desc := "(II)I" } : Jvm.MethodName) prog_10_method_48_code (3 : Nat) (Option.some Jvm.ClassFile.FieldType.int)) ∈ BIG := in_big 1046 (by decide +kernel) (by decide +kernel)
theorem kw_1047 : (Jvm.Cond.methodLink "StarSendersLaw" (79 : Nat) ({ cls := "StarSendersModel", name := "copy", desc := "(II)I" } : Jvm.MethodName)) ∈ BIG := in_big 1047 (by decide +kernel) (by decide +kernel)
theorem kw_1048 : (Jvm.Cond.instanceMethod ({ cls := "StarSendersModel", name := "copy", desc := "(II)I" } : Jvm.MethodName)) ∈ BIG := in_big 1048 (by decide +kernel) (by decide +kernel)
theorem kw_1049 : (Jvm.Cond.selects "StarSendersModel" ({ cls := "StarSendersModel", name := "copy", desc := "(II)I" } : Jvm.MethodName) ({ cls := "StarSendersModel", name := "copy", desc := "(II)I" } : Jvm.MethodName)) ∈ BIG := in_big 1049 (by decide +kernel) (by decide +kernel)
theorem kw_1050 : (Jvm.Cond.code ({ cls := "StarSendersModel", name := "copy", desc := "(II)I" } : Jvm.MethodName) prog_10_method_49_code (3 : Nat) (Option.some Jvm.ClassFile.FieldType.int)) ∈ BIG := in_big 1050 (by decide +kernel) (by decide +kernel)
theorem kw_1051 : (Jvm.Cond.methodLink "StarSendersLaw" (83 : Nat) ({ cls := "StarSendersModel", name := "type", desc := "(I)I" } : Jvm.MethodName)) ∈ BIG := in_big 1051 (by decide +kernel) (by decide +kernel)
theorem kw_1052 : (Jvm.Cond.instanceMethod ({ cls := "StarSendersModel", name := "type", desc := "(I)I" } : Jvm.MethodName)) ∈ BIG := in_big 1052 (by decide +kernel) (by decide +kernel)
theorem kw_1053 : (Jvm.Cond.selects "StarSendersModel" ({ cls := "StarSendersModel", name := "type", desc := "(I)I" } : Jvm.MethodName) ({ cls := "StarSendersModel", name := "type", desc := "(I)I" } : Jvm.MethodName)) ∈ BIG := in_big 1053 (by decide +kernel) (by decide +kernel)
theorem kw_1054 : (Jvm.Cond.code ({ cls := "StarSendersModel", name := "type", desc := "(I)I" } : Jvm.MethodName) prog_10_method_50_code (2 : Nat) (Option.some Jvm.ClassFile.FieldType.int)) ∈ BIG := in_big 1054 (by decide +kernel) (by decide +kernel)
theorem kw_1055 : (Jvm.Cond.methodLink "StarSendersLaw" (88 : Nat) ({ cls := "StarSendersModel", name := "clear", desc := "()I" } : Jvm.MethodName)) ∈ BIG := in_big 1055 (by decide +kernel) (by decide +kernel)
theorem kw_1056 : (Jvm.Cond.instanceMethod ({ cls := "StarSendersModel", name := "clear", desc := "()I" } : Jvm.MethodName)) ∈ BIG := in_big 1056 (by decide +kernel) (by decide +kernel)
theorem kw_1057 : (Jvm.Cond.selects "StarSendersModel" ({ cls := "StarSendersModel", name := "clear", desc := "()I" } : Jvm.MethodName) ({ cls := "StarSendersModel", name := "clear", desc := "()I" } : Jvm.MethodName)) ∈ BIG := in_big 1057 (by decide +kernel) (by decide +kernel)
theorem kw_1058 : (Jvm.Cond.code ({ cls := "StarSendersModel", name := "clear", desc := "()I" } : Jvm.MethodName) prog_10_method_51_code (2 : Nat) (Option.some Jvm.ClassFile.FieldType.int)) ∈ BIG := in_big 1058 (by decide +kernel) (by decide +kernel)
theorem kw_1059 : (Jvm.Cond.methodLink "StarSendersLaw" (92 : Nat) ({ cls := "StarSendersModel", name := "does", desc := "()I" } : Jvm.MethodName)) ∈ BIG := in_big 1059 (by decide +kernel) (by decide +kernel)
theorem kw_1060 : (Jvm.Cond.instanceMethod ({ cls := "StarSendersModel", name := "does", desc := "()I" } : Jvm.MethodName)) ∈ BIG := in_big 1060 (by decide +kernel) (by decide +kernel)
theorem kw_1061 : (Jvm.Cond.selects "StarSendersModel" ({ cls := "StarSendersModel", name := "does", desc := "()I" } : Jvm.MethodName) ({ cls := "StarSendersModel", name := "does", desc := "()I" } : Jvm.MethodName)) ∈ BIG := in_big 1061 (by decide +kernel) (by decide +kernel)
theorem kw_1062 : (Jvm.Cond.code ({ cls := "StarSendersModel", name := "does", desc := "()I" } : Jvm.MethodName) prog_10_method_63_code (2 : Nat) (Option.some Jvm.ClassFile.FieldType.int)) ∈ BIG := in_big 1062 (by decide +kernel) (by decide +kernel)
theorem kw_1063 : (Jvm.Cond.methodLink "StarSendersModel" (291 : Nat) ({ cls := "StarSendersModel", name := "goesThrough", desc := "(Z)I" } : Jvm.MethodName)) ∈ BIG := in_big 1063 (by decide +kernel) (by decide +kernel)
theorem kw_1065 : (Jvm.Cond.instanceMethod ({ cls := "StarSendersModel", name := "goesThrough", desc := "(Z)I" } : Jvm.MethodName)) ∈ BIG := in_big 1065 (by decide +kernel) (by decide +kernel)
theorem kw_1066 : (Jvm.Cond.code ({ cls := "StarSendersModel", name := "goesThrough", desc := "(Z)I" } : Jvm.MethodName) prog_10_method_62_code (4 : Nat) (Option.some Jvm.ClassFile.FieldType.int)) ∈ BIG := in_big 1066 (by decide +kernel) (by decide +kernel)
theorem kw_1067 : (Jvm.Cond.methodLink "StarSendersModel" (249 : Nat) ({ cls := "StarSendersModel", name := "here", desc := "()I" } : Jvm.MethodName)) ∈ BIG := in_big 1067 (by decide +kernel) (by decide +kernel)
theorem kw_1069 : (Jvm.Cond.instanceMethod ({ cls := "StarSendersModel", name := "here", desc := "()I" } : Jvm.MethodName)) ∈ BIG := in_big 1069 (by decide +kernel) (by decide +kernel)
theorem kw_1070 : (Jvm.Cond.code ({ cls := "StarSendersModel", name := "here", desc := "()I" } : Jvm.MethodName) prog_10_method_52_code (1 : Nat) (Option.some Jvm.ClassFile.FieldType.int)) ∈ BIG := in_big 1070 (by decide +kernel) (by decide +kernel)
theorem kw_1071 : (Jvm.Cond.methodLink "StarSendersModel" (285 : Nat) ({ cls := "StarSendersModel", name := "readsOrder", desc := "(I)Z" } : Jvm.MethodName)) ∈ BIG := in_big 1071 (by decide +kernel) (by decide +kernel)
theorem kw_1073 : (Jvm.Cond.instanceMethod ({ cls := "StarSendersModel", name := "readsOrder", desc := "(I)Z" } : Jvm.MethodName)) ∈ BIG := in_big 1073 (by decide +kernel) (by decide +kernel)
theorem kw_1074 : (Jvm.Cond.code ({ cls := "StarSendersModel", name := "readsOrder", desc := "(I)Z" } : Jvm.MethodName) prog_10_method_60_code (2 : Nat) (Option.some Jvm.ClassFile.FieldType.boolean)) ∈ BIG := in_big 1074 (by decide +kernel) (by decide +kernel)
theorem kw_1075 : (Jvm.Cond.methodLink "StarSendersModel" (279 : Nat) ({ cls := "StarSendersModel", name := "isOrder", desc := "(I)Z" } : Jvm.MethodName)) ∈ BIG := in_big 1075 (by decide +kernel) (by decide +kernel)
theorem kw_1076 : (Jvm.Cond.static ({ cls := "StarSendersModel", name := "isOrder", desc := "(I)Z" } : Jvm.MethodName)) ∈ BIG := in_big 1076 (by decide +kernel) (by decide +kernel)
theorem kw_1077 : (Jvm.Cond.code ({ cls := "StarSendersModel", name := "isOrder", desc := "(I)Z" } : Jvm.MethodName) prog_10_method_59_code (1 : Nat) (Option.some Jvm.ClassFile.FieldType.boolean)) ∈ BIG := in_big 1077 (by decide +kernel) (by decide +kernel)
theorem kw_1078 : (Jvm.Cond.methodLink "StarSendersModel" (282 : Nat) ({ cls := "StarSendersModel", name := "readsNumbers", desc := "(I)Z" } : Jvm.MethodName)) ∈ BIG := in_big 1078 (by decide +kernel) (by decide +kernel)
theorem kw_1080 : (Jvm.Cond.instanceMethod ({ cls := "StarSendersModel", name := "readsNumbers", desc := "(I)Z" } : Jvm.MethodName)) ∈ BIG := in_big 1080 (by decide +kernel) (by decide +kernel)
theorem kw_1081 : (Jvm.Cond.code ({ cls := "StarSendersModel", name := "readsNumbers", desc := "(I)Z" } : Jvm.MethodName) prog_10_method_58_code (2 : Nat) (Option.some Jvm.ClassFile.FieldType.boolean)) ∈ BIG := in_big 1081 (by decide +kernel) (by decide +kernel)
theorem kw_1082 : (Jvm.Cond.methodLink "StarSendersModel" (270 : Nat) ({ cls := "StarSendersModel", name := "readsSender", desc := "()Z" } : Jvm.MethodName)) ∈ BIG := in_big 1082 (by decide +kernel) (by decide +kernel)
theorem kw_1084 : (Jvm.Cond.instanceMethod ({ cls := "StarSendersModel", name := "readsSender", desc := "()Z" } : Jvm.MethodName)) ∈ BIG := in_big 1084 (by decide +kernel) (by decide +kernel)
theorem kw_1085 : (Jvm.Cond.code ({ cls := "StarSendersModel", name := "readsSender", desc := "()Z" } : Jvm.MethodName) prog_10_method_55_code (2 : Nat) (Option.some Jvm.ClassFile.FieldType.boolean)) ∈ BIG := in_big 1085 (by decide +kernel) (by decide +kernel)
theorem kw_1086 : (Jvm.Cond.methodLink "StarSendersModel" (255 : Nat) ({ cls := "StarSendersModel", name := "readsOne", desc := "(I)Z" } : Jvm.MethodName)) ∈ BIG := in_big 1086 (by decide +kernel) (by decide +kernel)
theorem kw_1088 : (Jvm.Cond.instanceMethod ({ cls := "StarSendersModel", name := "readsOne", desc := "(I)Z" } : Jvm.MethodName)) ∈ BIG := in_big 1088 (by decide +kernel) (by decide +kernel)
theorem kw_1089 : (Jvm.Cond.code ({ cls := "StarSendersModel", name := "readsOne", desc := "(I)Z" } : Jvm.MethodName) prog_10_method_53_code (3 : Nat) (Option.some Jvm.ClassFile.FieldType.boolean)) ∈ BIG := in_big 1089 (by decide +kernel) (by decide +kernel)
theorem kw_1090 : (Jvm.Cond.methodLink "StarSendersModel" (273 : Nat) ({ cls := "StarSendersModel", name := "readsThird", desc := "(I)Z" } : Jvm.MethodName)) ∈ BIG := in_big 1090 (by decide +kernel) (by decide +kernel)
theorem kw_1092 : (Jvm.Cond.instanceMethod ({ cls := "StarSendersModel", name := "readsThird", desc := "(I)Z" } : Jvm.MethodName)) ∈ BIG := in_big 1092 (by decide +kernel) (by decide +kernel)
theorem kw_1093 : (Jvm.Cond.code ({ cls := "StarSendersModel", name := "readsThird", desc := "(I)Z" } : Jvm.MethodName) prog_10_method_57_code (3 : Nat) (Option.some Jvm.ClassFile.FieldType.boolean)) ∈ BIG := in_big 1093 (by decide +kernel) (by decide +kernel)
theorem kw_1094 : (Jvm.Cond.methodLink "StarSendersModel" (264 : Nat) ({ cls := "StarSendersModel", name := "readsNumber", desc := "(I)Z" } : Jvm.MethodName)) ∈ BIG := in_big 1094 (by decide +kernel) (by decide +kernel)
theorem kw_1096 : (Jvm.Cond.instanceMethod ({ cls := "StarSendersModel", name := "readsNumber", desc := "(I)Z" } : Jvm.MethodName)) ∈ BIG := in_big 1096 (by decide +kernel) (by decide +kernel)
theorem kw_1097 : (Jvm.Cond.code ({ cls := "StarSendersModel", name := "readsNumber", desc := "(I)Z" } : Jvm.MethodName) prog_10_method_54_code (4 : Nat) (Option.some Jvm.ClassFile.FieldType.boolean)) ∈ BIG := in_big 1097 (by decide +kernel) (by decide +kernel)
theorem kw_1098 : (Jvm.Cond.methodLink "StarSendersModel" (276 : Nat) ({ cls := "StarSendersModel", name := "readsGate", desc := "()Z" } : Jvm.MethodName)) ∈ BIG := in_big 1098 (by decide +kernel) (by decide +kernel)
theorem kw_1100 : (Jvm.Cond.instanceMethod ({ cls := "StarSendersModel", name := "readsGate", desc := "()Z" } : Jvm.MethodName)) ∈ BIG := in_big 1100 (by decide +kernel) (by decide +kernel)
theorem kw_1101 : (Jvm.Cond.code ({ cls := "StarSendersModel", name := "readsGate", desc := "()Z" } : Jvm.MethodName) prog_10_method_56_code (2 : Nat) (Option.some Jvm.ClassFile.FieldType.boolean)) ∈ BIG := in_big 1101 (by decide +kernel) (by decide +kernel)
theorem kw_1102 : (Jvm.Cond.methodLink "StarSendersModel" (288 : Nat) ({ cls := "StarSendersModel", name := "doesOrder", desc := "(I)I" } : Jvm.MethodName)) ∈ BIG := in_big 1102 (by decide +kernel) (by decide +kernel)
theorem kw_1104 : (Jvm.Cond.instanceMethod ({ cls := "StarSendersModel", name := "doesOrder", desc := "(I)I" } : Jvm.MethodName)) ∈ BIG := in_big 1104 (by decide +kernel) (by decide +kernel)
theorem kw_1105 : (Jvm.Cond.code ({ cls := "StarSendersModel", name := "doesOrder", desc := "(I)I" } : Jvm.MethodName) prog_10_method_61_code (2 : Nat) (Option.some Jvm.ClassFile.FieldType.int)) ∈ BIG := in_big 1105 (by decide +kernel) (by decide +kernel)
theorem kw_1106 : (Jvm.Cond.methodLink "StarSendersLaw" (96 : Nat) ({ cls := "StarSendersModel", name := "told", desc := "(I)I" } : Jvm.MethodName)) ∈ BIG := in_big 1106 (by decide +kernel) (by decide +kernel)
theorem kw_1107 : (Jvm.Cond.instanceMethod ({ cls := "StarSendersModel", name := "told", desc := "(I)I" } : Jvm.MethodName)) ∈ BIG := in_big 1107 (by decide +kernel) (by decide +kernel)
theorem kw_1108 : (Jvm.Cond.selects "StarSendersModel" ({ cls := "StarSendersModel", name := "told", desc := "(I)I" } : Jvm.MethodName) ({ cls := "StarSendersModel", name := "told", desc := "(I)I" } : Jvm.MethodName)) ∈ BIG := in_big 1108 (by decide +kernel) (by decide +kernel)
theorem kw_1109 : (Jvm.Cond.code ({ cls := "StarSendersModel", name := "told", desc := "(I)I" } : Jvm.MethodName) prog_10_method_65_code (2 : Nat) (Option.some Jvm.ClassFile.FieldType.int)) ∈ BIG := in_big 1109 (by decide +kernel) (by decide +kernel)
theorem kw_1110 : (Jvm.Cond.methodLink "StarSendersModel" (295 : Nat) ({ cls := "StarSendersModel", name := "toldBy", desc := "(I)I" } : Jvm.MethodName)) ∈ BIG := in_big 1110 (by decide +kernel) (by decide +kernel)
theorem kw_1112 : (Jvm.Cond.instanceMethod ({ cls := "StarSendersModel", name := "toldBy", desc := "(I)I" } : Jvm.MethodName)) ∈ BIG := in_big 1112 (by decide +kernel) (by decide +kernel)
theorem kw_1113 : (Jvm.Cond.code ({ cls := "StarSendersModel", name := "toldBy", desc := "(I)I" } : Jvm.MethodName) prog_10_method_64_code (2 : Nat) (Option.some Jvm.ClassFile.FieldType.int)) ∈ BIG := in_big 1113 (by decide +kernel) (by decide +kernel)
theorem kw_1114 : (Jvm.Cond.methodLink "StarSendersLaw" (101 : Nat) ({ cls := "StarSendersModel", name := "digest", desc := "()J" } : Jvm.MethodName)) ∈ BIG := in_big 1114 (by decide +kernel) (by decide +kernel)
theorem kw_1115 : (Jvm.Cond.instanceMethod ({ cls := "StarSendersModel", name := "digest", desc := "()J" } : Jvm.MethodName)) ∈ BIG := in_big 1115 (by decide +kernel) (by decide +kernel)
theorem kw_1116 : (Jvm.Cond.selects "StarSendersModel" ({ cls := "StarSendersModel", name := "digest", desc := "()J" } : Jvm.MethodName) ({ cls := "StarSendersModel", name := "digest", desc := "()J" } : Jvm.MethodName)) ∈ BIG := in_big 1116 (by decide +kernel) (by decide +kernel)
theorem kw_1117 : (Jvm.Cond.code ({ cls := "StarSendersModel", name := "digest", desc := "()J" } : Jvm.MethodName) prog_10_method_66_code (5 : Nat) (Option.some Jvm.ClassFile.FieldType.long)) ∈ BIG := in_big 1117 (by decide +kernel) (by decide +kernel)
theorem kw_1118 : (Jvm.Cond.constantLong "StarSendersModel" (298 : Nat) (2131 : Int64)) ∈ BIG := in_big 1118 (by decide +kernel) (by decide +kernel)
theorem kw_1119 : (Jvm.Cond.constantLong "StarSendersModel" (300 : Nat) (31 : Int64)) ∈ BIG := in_big 1119 (by decide +kernel) (by decide +kernel)
end
section
/-! one picture of a heap for class and reference alike: cells by number, a cell's ints by place -/
abbrev Mem : Type := Nat → Nat → Int32
def up2 (M : Mem) (x k : Nat) (v : Int32) : Mem := fun y => if y = x then upd (M x) k v else M y
theorem up2_same (M : Mem) (x k : Nat) (v : Int32) : up2 M x k v x = upd (M x) k v := if_pos rfl
theorem up2_ne {M : Mem} {x y k : Nat} {v : Int32} (h : y ≠ x) : up2 M x k v y = M y := if_neg h
/-- a cell's shape: an int array of n places; an array of n references to the cells from b on; an object, its fields ints or references to a cell so far on -/
abbrev Sh : Type := (Nat ⊕ (Nat × Nat × Nat)) ⊕ (Nat × List (Option Nat))
def wfv (ad : Nat → Nat) (x : Nat) (f : Nat → Int32) (q : Option Nat × Nat) : Value := match q.1 with
  | none => .int (f q.2)
  | some d => .ref (ad (x + d))
def wcell (ad : Nat → Nat) (cA : Nat → ClassId) (x : Nat) (f : Nat → Int32) (sh : Sh) : va_E := match sh with
  | .inl (.inl n) => .inl (cA 0, n, .inl f)
  | .inl (.inr (t, b, n)) => .inl (cA t, n, .inr (.inr (.inr (.inr (fun i => if i < n then some (ad (b + i)) else none)))))
  | .inr (ci, fs) => .inr (ci, fs.zipIdx.map (wfv ad x f))
def wW (sh : List Sh) (ad : Nat → Nat) (cA : Nat → ClassId) (M : Mem) : va_W := sh.zipIdx.map (fun q => (ad q.2, wcell ad cA q.2 (M q.2) q.1))
theorem wW_at (sh : List Sh) (ad : Nat → Nat) (cA : Nat → ClassId) (M : Mem) (i : Nat) : (wW sh ad cA M)[i]? = (sh[i]?).map (fun x => (ad i, wcell ad cA i (M i) x)) := by
  unfold wW
  rw [List.getElem?_map, List.getElem?_zipIdx]
  cases sh[i]? <;> simp
theorem wW_get {sh : List Sh} {x : Nat} {z : Sh} (ad : Nat → Nat) (cA : Nat → ClassId) (M : Mem) (h : sh[x]? = some z) : (wW sh ad cA M)[x]? = some (ad x, wcell ad cA x (M x) z) := by
  rw [wW_at, h]; rfl
theorem wW_set {sh : List Sh} {x : Nat} {z : Sh} {ad : Nat → Nat} {cA : Nat → ClassId} {M : Mem} (h : sh[x]? = some z) (M' : Mem) (hM : ∀ y, y ≠ x → M' y = M y) : (wW sh ad cA M).set x (ad x, wcell ad cA x (M' x) z) = wW sh ad cA M' := by
  have hl : x < (wW sh ad cA M).length := by
    unfold wW
    rw [List.length_map, List.length_zipIdx]
    exact (List.getElem?_eq_some_iff.mp h).1
  apply List.ext_getElem?
  intro i
  by_cases e : x = i
  · subst e
    rw [List.getElem?_set_self hl, wW_get ad cA M' h]
  · rw [List.getElem?_set_ne e, wW_at, wW_at, hM i (fun q => e q.symm)]
theorem wfs_get {fs : List (Option Nat)} {k : Nat} {o : Option Nat} (ad : Nat → Nat) (x : Nat) (f : Nat → Int32) (h : fs[k]? = some o) : (fs.zipIdx.map (wfv ad x f))[k]? = some (wfv ad x f (o, k)) := by
  rw [List.getElem?_map, List.getElem?_zipIdx, h]
  simp
theorem wfs_set {fs : List (Option Nat)} {k : Nat} (ad : Nat → Nat) (x : Nat) (f : Nat → Int32) (v : Int32) (h : fs[k]? = some none) : (fs.zipIdx.map (wfv ad x f)).set k (.int v) = fs.zipIdx.map (wfv ad x (upd f k v)) := by
  have hl : k < (fs.zipIdx.map (wfv ad x f)).length := by
    rw [List.length_map, List.length_zipIdx]
    exact (List.getElem?_eq_some_iff.mp h).1
  apply List.ext_getElem?
  intro i
  by_cases e : k = i
  · subst e
    rw [List.getElem?_set_self hl, wfs_get ad x (upd f k v) h]
    simp [wfv, upd]
  · rw [List.getElem?_set_ne e, List.getElem?_map, List.getElem?_map, List.getElem?_zipIdx]
    cases fs[i]? with
    | none => rfl
    | some o =>
      cases o with
      | none =>
        have e9 : ¬ i = k := fun q => e q.symm
        simp [wfv, upd, e9]
      | some d => simp [wfv]
/-- the addresses of a picture -/
def Az (sh : List Sh) (ad : Nat → Nat) : Nat → Prop := fun q => ∃ x, x < sh.length ∧ q = ad x
theorem wW_D {A : Nat → Prop} {sh : List Sh} {ad : Nat → Nat} {cA : Nat → ClassId} {M : Mem} (M' : Mem) (h : va_D A (wW sh ad cA M)) : va_D A (wW sh ad cA M') := by
  have k1 : ∀ (i : Nat) (p : Nat × va_E), (wW sh ad cA M')[i]? = some p → ∃ p', (wW sh ad cA M)[i]? = some p' ∧ p'.1 = p.1 := by
    intro i p hp
    rw [wW_at] at hp ⊢
    cases hs : sh[i]? with
    | none => rw [hs] at hp; cases hp
    | some z =>
      rw [hs] at hp
      cases hp
      exact ⟨_, rfl, rfl⟩
  refine ⟨fun i j p q hp hq e => ?_, fun i p hp => ?_⟩
  · obtain ⟨p', h1, h2⟩ := k1 i p hp
    obtain ⟨q', h3, h4⟩ := k1 j q hq
    exact h.1 i j p' q' h1 h3 (by rw [h2, h4, e])
  · obtain ⟨p', h1, h2⟩ := k1 i p hp
    rw [← h2]
    exact h.2 i p' h1
abbrev cls9 : List vw_C := [(RX0, TX0, 6), (RX1, TX1, 6), (RX2, TX2, 16), (RX3, TX3, 10), (RX4, TX4, 8), (RX5, TX5, 2), (RX6, TX6, 5), (RX7, TX7, 5), (RX8, TX8, 44)]
abbrev tysz (cA : Nat → ClassId) : List (ClassId × FieldType) := [(cA 0, .int), (cA 1, .array .int), (cA 2, .object "StarSenders$Sender"), (cA 3, .object "StarSenders$Gate")]
/-- what stays the same through a method's run -/
def Fx (D : va_G) (cA : Nat → ClassId) (own : String) (cc : ByteArray) (nL : Nat) (ret : Option FieldType) (p : Program) (s : State) (m : MethodId) (args : Array Value) (meth : Method) (c : Code) : Prop :=
  p.tables.exec = Jvm.exec ∧ c.code = cc ∧ c.maxLocals = nL ∧ s.vm.findClass own = some m.cls ∧ (∀ w ∈ BIG, w.before args s = true) ∧ va_K D cls9 (tysz cA) s ∧ meth.sig.returnType = ret ∧ meth.locks = false
/-- the heap holds the picture M, since H0 nothing but its cells has changed -/
def Wd (sh : List Sh) (D : va_G) (cA : Nat → ClassId) (ad : Nat → Nat) (H0 : Heap) (M : Mem) (H : Heap) (locs : List Loc) : Prop :=
  va_P D cls9 (wW sh ad cA M) H ∧ va_D (Az sh ad) (wW sh ad cA M) ∧ va_S (Az sh ad) H0 H locs
/-- the same, of a state: a contract's word -/
def Wp (sh : List Sh) (D : va_G) (cA : Nat → ClassId) (ad : Nat → Nat) (M : Mem) (U : State) : Prop :=
  va_P D cls9 (wW sh ad cA M) U.heap ∧ va_D (Az sh ad) (wW sh ad cA M) ∧ va_K D cls9 (tysz cA) U
/-- the pure side: a write, an index that is looked at -/
def wr {α : Type} (M : Mem) (x k : Nat) (v : Int32) (K : Mem → α) : α := K (up2 M x k v)
def ix {α : Type} (i : Int32) (n : Nat) (K : Option α) : Option α := if i < 0 ∨ n ≤ i.toNatClampNeg then none else K
theorem ix_some {α : Type} {i : Int32} {n : Nat} {K : Option α} {r : α} (h : ix i n K = some r) : vp_in i n ∧ K = some r := by
  unfold ix at h
  by_cases q : i < 0 ∨ n ≤ i.toNatClampNeg
  · rw [if_pos q] at h; cases h
  · rw [if_neg q] at h; exact ⟨q, h⟩
theorem ix_in {α : Type} {i : Int32} {n : Nat} {K : Option α} (h : vp_in i n) : ix i n K = K := if_neg h
def cpy {α : Type} (M : Mem) (x0 n0 x1 n1 : Nat) (sp dp n : Int32) (K : Mem → Option α) : Option α :=
  if sp < 0 ∨ dp < 0 ∨ n < 0 ∨ n0 < sp.toNatClampNeg + n.toNatClampNeg ∨ n1 < dp.toNatClampNeg + n.toNatClampNeg then none
  else K (fun y => if y = x1 then va_cpy (M x0) (M x1) sp.toNatClampNeg dp.toNatClampNeg n.toNatClampNeg else M y)
def FUEL : Nat := 4096
/-- a class's table -/
def Cz (ci : Nat) (C : String) (T : u_T) (N : Nat) : Prop := cls9[ci]? = some (C, T, N) ∧ (∀ w ∈ u_ws C T N, w ∈ BIG) ∧ (∃ ty0 : Nat → FieldType, ∀ k, k < N → parseFieldDescriptor (T k).2.2.1 = some (ty0 k)) ∧ (∀ a, a < N → ∀ b, b < N → a ≠ b → (T a).2.1 ≠ (T b).2.1)
section RZ
variable {p : Program} {l : Launch} {e : Env} {R : Room} {s : State} {m : MethodId} {args : Array Value} {below : List Frame} {meth : Method} {c : Code} {H : Heap} {locs : List Loc} {Q : State → Prop}
variable {sh : List Sh} {D : va_G} {cA : Nat → ClassId} {ad : Nat → Nat} {H0 : Heap} {M : Mem} {cc : ByteArray} {own : String} {nL : Nat} {ret : Option FieldType} {pc : Nat} {ls : Array Slot} {rest : List Value} {lv : List (Nat × Value)}
theorem r_get (F : Fx D cA own cc nL ret p s m args meth c) (hw : Wd sh D cA ad H0 M H locs) {x ci : Nat} {fs : List (Option Nat)} {C : String} {T : u_T} {N : Nat} (hz : Cz ci C T N) (hx : sh[x]? = some (.inr (ci, fs))) (k : Nat) (hk : k < N) {o : Option Nat} (ho : fs[k]? = some o) {index : Nat} (hl : Cond.fieldLink own index C (T k).2.1 (T k).2.2.1 ∈ BIG) (hT : (T k).1 = C) (hd : decode cc pc = .ok (.getfield index, 3))
    (kk : W p l e R s m args below meth c H locs 0 0 Q (F0 m (pc + 3) ls (wfv ad x (M x) (o, k) :: rest))) : W p l e R s m args below meth c H locs 0 0 Q (F0 m pc ls (.ref (ad x) :: rest)) := by
  obtain ⟨f1, f2, f3, f4, f5, f6, f7, f8⟩ := F
  exact va_get f1 f2 f5 hz.2.1 f4 f6 hw.1 x (wW_get ad cA M hx) hz.1 k hk (f5 _ hl) (fun _ h => by rw [hT] at h; exact h) (wfs_get ad x (M x) ho) hd kk
theorem r_put (F : Fx D cA own cc nL ret p s m args meth c) (hw : Wd sh D cA ad H0 M H locs) {x ci : Nat} {fs : List (Option Nat)} {C : String} {T : u_T} {N : Nat} (hz : Cz ci C T N) (hx : sh[x]? = some (.inr (ci, fs))) (k : Nat) (hk : k < N) (ho : fs[k]? = some none) {index : Nat} (hl : Cond.fieldLink own index C (T k).2.1 (T k).2.2.1 ∈ BIG) (hT : (T k).1 = C) (hfin : (T k).2.2.2 = false) (hdsc : parseFieldDescriptor (T k).2.2.1 = some .int) (hd : decode cc pc = .ok (.putfield index, 3)) {v : Int32} {α : Type} {K : Mem → α} {res : α} (hf : wr M x k v K = res)
    (kk : ∀ (M1 : Mem) (H1 : Heap) (locs1 : List Loc), Wd sh D cA ad H0 M1 H1 locs1 → K M1 = res → W p l e R s m args below meth c H1 locs1 0 0 Q (F0 m (pc + 3) ls rest)) : W p l e R s m args below meth c H locs 0 0 Q (F0 m pc ls (.int v :: .ref (ad x) :: rest)) := by
  obtain ⟨f1, f2, f3, f4, f5, f6, f7, f8⟩ := F
  obtain ⟨w1, w2, w3⟩ := hw
  obtain ⟨z1, z2, ⟨ty0, z3⟩, z4⟩ := hz
  refine va_put (ty := .int) f1 f2 f5 z2 ty0 z3 z4 f4 f6 w1 w2 w3 x (wW_get ad cA M hx) z1 k hk (f5 _ hl) (fun _ h => by rw [hT] at h; exact h) hfin hdsc rfl rfl ?_ hd (fun H1 locs1 h1 h2 h3 => ?_)
  · rw [List.length_map, List.length_zipIdx]
    exact (List.getElem?_eq_some_iff.mp ho).1
  · have e : (wW sh ad cA M).set x (ad x, .inr (ci, (fs.zipIdx.map (wfv ad x (M x))).set k (.int v))) = wW sh ad cA (up2 M x k v) := by
      rw [wfs_set ad x (M x) v ho, ← up2_same]
      exact wW_set hx (up2 M x k v) (fun y hy => up2_ne hy)
    rw [e] at h1 h2
    exact kk _ H1 locs1 ⟨h1, h2, h3⟩ hf
theorem r_iald0 (F : Fx D cA own cc nL ret p s m args meth c) (hw : Wd sh D cA ad H0 M H locs) {x n : Nat} (hx : sh[x]? = some (.inl (.inl n))) (hd : decode cc pc = .ok (.iaload, 1)) {i : Int32} (hin : vp_in i n)
    (kk : W p l e R s m args below meth c H locs 0 0 Q (F0 m (pc + 1) ls (.int (M x i.toNatClampNeg) :: rest))) : W p l e R s m args below meth c H locs 0 0 Q (F0 m pc ls (.int i :: .ref (ad x) :: rest)) := by
  obtain ⟨f1, f2, f3, f4, f5, f6, f7, f8⟩ := F
  exact va_iald (cA := cA 0) f1 f2 f6 hw.1 x 0 (wW_get ad cA M hx) rfl hin hd kk
theorem r_iald (F : Fx D cA own cc nL ret p s m args meth c) (hw : Wd sh D cA ad H0 M H locs) {x n : Nat} (hx : sh[x]? = some (.inl (.inl n))) (hd : decode cc pc = .ok (.iaload, 1)) {i : Int32} {α : Type} {K : Option α} {r : α} (hf : ix i n K = some r)
    (kk : vp_in i n → K = some r → W p l e R s m args below meth c H locs 0 0 Q (F0 m (pc + 1) ls (.int (M x i.toNatClampNeg) :: rest))) : W p l e R s m args below meth c H locs 0 0 Q (F0 m pc ls (.int i :: .ref (ad x) :: rest)) := by
  obtain ⟨h1, h2⟩ := ix_some hf
  exact r_iald0 F hw hx hd h1 (kk h1 h2)
theorem r_iast0 (F : Fx D cA own cc nL ret p s m args meth c) (hw : Wd sh D cA ad H0 M H locs) {x n : Nat} (hx : sh[x]? = some (.inl (.inl n))) (hd : decode cc pc = .ok (.iastore, 1)) {i v : Int32} (hin : vp_in i n) {α : Type} {K : Mem → α} {res : α} (hf : wr M x i.toNatClampNeg v K = res)
    (kk : ∀ (M1 : Mem) (H1 : Heap) (locs1 : List Loc), Wd sh D cA ad H0 M1 H1 locs1 → K M1 = res → W p l e R s m args below meth c H1 locs1 0 0 Q (F0 m (pc + 1) ls rest)) : W p l e R s m args below meth c H locs 0 0 Q (F0 m pc ls (.int v :: .int i :: .ref (ad x) :: rest)) := by
  obtain ⟨f1, f2, f3, f4, f5, f6, f7, f8⟩ := F
  obtain ⟨w1, w2, w3⟩ := hw
  refine va_iast (cA := cA 0) f1 f2 f6 w1 w2 w3 x 0 (wW_get ad cA M hx) rfl hin hd (fun H1 locs1 h1 h2 h3 => ?_)
  have e : (wW sh ad cA M).set x (ad x, .inl (cA 0, n, .inl (upd (M x) i.toNatClampNeg v))) = wW sh ad cA (up2 M x i.toNatClampNeg v) := by
    rw [← up2_same]
    exact wW_set hx (up2 M x i.toNatClampNeg v) (fun y hy => up2_ne hy)
  rw [e] at h1 h2
  exact kk _ H1 locs1 ⟨h1, h2, h3⟩ hf
theorem r_iast (F : Fx D cA own cc nL ret p s m args meth c) (hw : Wd sh D cA ad H0 M H locs) {x n : Nat} (hx : sh[x]? = some (.inl (.inl n))) (hd : decode cc pc = .ok (.iastore, 1)) {i v : Int32} {α : Type} {K : Mem → Option α} {r : α} (hf : ix i n (wr M x i.toNatClampNeg v K) = some r)
    (kk : vp_in i n → ∀ (M1 : Mem) (H1 : Heap) (locs1 : List Loc), Wd sh D cA ad H0 M1 H1 locs1 → K M1 = some r → W p l e R s m args below meth c H1 locs1 0 0 Q (F0 m (pc + 1) ls rest)) : W p l e R s m args below meth c H locs 0 0 Q (F0 m pc ls (.int v :: .int i :: .ref (ad x) :: rest)) := by
  obtain ⟨h1, h2⟩ := ix_some hf
  exact r_iast0 F hw hx hd h1 h2 (kk h1)
/-- an element of an array of references -/
theorem r_aald0 (F : Fx D cA own cc nL ret p s m args meth c) (hw : Wd sh D cA ad H0 M H locs) {x t b n : Nat} {ty : FieldType} (hty : (tysz cA)[t]? = some (cA t, ty)) (hrk : refKind ty = true) (hx : sh[x]? = some (.inl (.inr (t, b, n)))) (hd : decode cc pc = .ok (.aaload, 1)) {i : Int32} (hin : vp_in i n)
    (kk : W p l e R s m args below meth c H locs 0 0 Q (F0 m (pc + 1) ls (.ref (ad (b + i.toNatClampNeg)) :: rest))) : W p l e R s m args below meth c H locs 0 0 Q (F0 m pc ls (.int i :: .ref (ad x) :: rest)) := by
  obtain ⟨f1, f2, f3, f4, f5, f6, f7, f8⟩ := F
  have hlt : i.toNatClampNeg < n := Nat.not_le.mp fun q => hin (Or.inr q)
  have h0 : va_at D cls9 (ad x, wcell ad cA x (M x) (.inl (.inr (t, b, n)))) H := hw.1 x _ (wW_get ad cA M hx)
  exact W.aald (v := .ref (ad (b + i.toNatClampNeg))) (ty := ty) f1 f2 h0 ((f6.2 t _ hty).1 n (fun j => va_rf (if j < n then some (ad (b + j)) else none))) hrk (fun q => by cases q) (by show ¬ (i < 0 ∨ (arrV _ _ _).slots.size ≤ _); rw [arrV_size]; exact hin) (by show (arrV _ _ _).slots[_]? = _; rw [arrV_read _ _ hlt]; simp only [if_pos hlt]; rfl) rfl rfl hd kk
theorem r_aald (F : Fx D cA own cc nL ret p s m args meth c) (hw : Wd sh D cA ad H0 M H locs) {x t b n : Nat} {ty : FieldType} (hty : (tysz cA)[t]? = some (cA t, ty)) (hrk : refKind ty = true) (hx : sh[x]? = some (.inl (.inr (t, b, n)))) (hd : decode cc pc = .ok (.aaload, 1)) {i : Int32} {α : Type} {K : Option α} {r : α} (hf : ix i n K = some r)
    (kk : vp_in i n → K = some r → W p l e R s m args below meth c H locs 0 0 Q (F0 m (pc + 1) ls (.ref (ad (b + i.toNatClampNeg)) :: rest))) : W p l e R s m args below meth c H locs 0 0 Q (F0 m pc ls (.int i :: .ref (ad x) :: rest)) := by
  obtain ⟨h1, h2⟩ := ix_some hf
  exact r_aald0 F hw hty hrk hx hd h1 (kk h1 h2)
theorem r_alen (F : Fx D cA own cc nL ret p s m args meth c) (hw : Wd sh D cA ad H0 M H locs) {x n : Nat} (hx : sh[x]? = some (.inl (.inl n))) (hd : decode cc pc = .ok (.arraylength, 1))
    (kk : W p l e R s m args below meth c H locs 0 0 Q (F0 m (pc + 1) ls (.int (Int32.ofNat n) :: rest))) : W p l e R s m args below meth c H locs 0 0 Q (F0 m pc ls (.ref (ad x) :: rest)) := by
  obtain ⟨f1, f2, f3, f4, f5, f6, f7, f8⟩ := F
  have h0 : va_at D cls9 (ad x, wcell ad cA x (M x) (.inl (.inl n))) H := hw.1 x _ (wW_get ad cA M hx)
  exact W.alen (n := Int32.ofNat n) f1 f2 h0 ((f6.2 0 _ rfl).1 n (fun j => .int (M x j))) (by show (arrV _ _ _).slots.size.toInt32 = _; rw [arrV_size]) rfl rfl hd kk
end RZ
end
section
/-! contracts over the one picture; returns, calls, branches -/
abbrev rz (fr lo : Nat) : Room := { frames := fr, cells := 0, slots := 0, locals := lo }
def wz (y : MethodName) (bytes : ByteArray) (nL : Nat) (ret : Option FieldType) : List Cond := .code y bytes nL ret :: BIG
def Qzi (sh : List Sh) (D : va_G) (cA : Nat → ClassId) (ad : Nat → Nat) (ty : FieldType) (r : Int32) (M' : Mem) : Array Value → State → Outcome → State → Prop := va_Qi (fun r' (_ : Unit) => r' = r ∧ narrow ty (.int r') = .int r') (fun _ t => Wp sh D cA ad M' t) (Az sh ad)
def Qzl (sh : List Sh) (D : va_G) (cA : Nat → ClassId) (ad : Nat → Nat) (r : Int64) (M' : Mem) : Array Value → State → Outcome → State → Prop := va_Ql (fun r' (_ : Unit) => r' = r) (fun _ t => Wp sh D cA ad M' t) (Az sh ad)
def Qzv (sh : List Sh) (D : va_G) (cA : Nat → ClassId) (ad : Nat → Nat) (M' : Mem) : Array Value → State → Outcome → State → Prop := va_Qv (fun (_ : Unit) => True) (fun _ t => Wp sh D cA ad M' t) (Az sh ad)
def Ctg (l : Launch) (y : MethodName) (bytes : ByteArray) (nL : Nat) (ret : Option FieldType) (fr lo : Nat) (sh : List Sh) (D : va_G) (cA : Nat → ClassId) (ad : Nat → Nat) (av : List Value) (M : Mem) (Qc : Array Value → State → Outcome → State → Prop) : Prop :=
  Met l y (wz y bytes nL ret) (rz fr lo) (va_Pc av (fun U => Wp sh D cA ad M U)) Qc 0 0 (Az sh ad)
theorem big_in {ws : List Cond} (h : ∀ w ∈ ws, w ∈ BIG) : GoodIn BIG ws := fun w hw => big_good w (h w hw)
theorem Wp_blind {sh : List Sh} {D : va_G} {cA : Nat → ClassId} {ad : Nat → Nat} {av : List Value} {M : Mem} : FrameBlind (va_Pc av (fun U => Wp sh D cA ad M U)) := fun a U g mk q => by
  obtain ⟨q0, qP, qD, qK⟩ := q
  exact ⟨q0, qP, qD, va_K.moved (u := U) (U := U.calling g mk a) (Vm.Alike.refl U.vm) qK⟩
/-- a call's words -/
def Cw (own : String) (index : Nat) (y : MethodName) (bytes : ByteArray) (nL : Nat) (ret : Option FieldType) (C : String) (n : Nat) : Prop :=
  (Cond.methodLink own index y ∈ BIG ∧ Cond.instanceMethod y ∈ BIG ∧ Cond.selects C y y ∈ BIG ∧ Cond.initialized C ∈ BIG ∧ Cond.code y bytes nL ret ∈ BIG) ∧ y.cls = C ∧ y.cls ≠ "java/lang/invoke/MethodHandle" ∧ y.cls ≠ "java/lang/invoke/VarHandle" ∧ (parseMethodDescriptor y.desc).map (fun d => d.parameters.length) = some n
def Cs (own : String) (index : Nat) (y : MethodName) (bytes : ByteArray) (nL : Nat) (ret : Option FieldType) (n : Nat) : Prop :=
  (Cond.methodLink own index y ∈ BIG ∧ Cond.static y ∈ BIG ∧ Cond.initialized y.cls ∈ BIG ∧ Cond.code y bytes nL ret ∈ BIG) ∧ y.cls ≠ "java/lang/invoke/MethodHandle" ∧ y.cls ≠ "java/lang/invoke/VarHandle" ∧ (parseMethodDescriptor y.desc).map (fun d => d.parameters.length) = some n
theorem bind_some' {α β : Type} {o : Option α} {K : α → Option β} {r : β} (h : o.bind K = some r) : ∃ a, o = some a ∧ K a = some r := by
  cases o with
  | none => cases h
  | some a => exact ⟨a, rfl, h⟩
section RY
variable {p : Program} {l : Launch} {e : Env} {R : Room} {s : State} {m : MethodId} {args : Array Value} {below : List Frame} {meth : Method} {c : Code} {H : Heap} {locs : List Loc} {Q : State → Prop}
variable {sh : List Sh} {D : va_G} {cA : Nat → ClassId} {ad : Nat → Nat} {H0 : Heap} {M : Mem} {cc : ByteArray} {own : String} {nL : Nat} {ret : Option FieldType} {pc : Nat} {ls : Array Slot} {rest : List Value} {lv : List (Nat × Value)}
theorem ct_in {y : MethodName} {bytes : ByteArray} {fr lo : Nat} {av : List Value} {Qc : Array Value → State → Outcome → State → Prop} (hy : plainName y.cls = true) (hlen : (lg_sl av).length ≤ nL)
    (body : ∀ (p : Program) (e : Env) (s : State) (m : MethodId) (below : List Frame) (meth : Method) (c : Code) (ls : Array Slot), Fx D cA y.cls bytes nL ret p s m av.toArray meth c → lv_has ls nL (lv_args 0 av) → Wd sh D cA ad s.heap M s.heap [] → W p l e (rz fr lo) s m av.toArray below meth c s.heap [] 0 0 (MQ below Qc av.toArray s 0 0 (Az sh ad)) (F0 m 0 ls [])) :
    Ctg l y bytes nL ret fr lo sh D cA ad av M Qc := by
  refine Met.ofW (cc := bytes) (maxL := nL) (ret := ret) hy rfl ?_
  intro p e s m args below meth c s₁ B hml hv
  obtain ⟨rfl, hP, hD, hK⟩ := hv
  have hts := atoms_spec (ws := wz y bytes nL ret) B.pre
  have hown : s.vm.findClass y.cls = some m.cls := findClass_of_methodNamed B.named
  have hl := lv_entry av (n := nL) hlen
  rw [lg_entry_eq]
  exact body p e s m below meth c _ ⟨B.exec, B.bytes, hml, hown, fun w h => hts w (List.mem_cons_of_mem _ h), hK, B.returns, B.notSynchronized⟩ hl ⟨hP, hD, va_S.rf⟩
theorem r_iret {ty : FieldType} (F : Fx D cA own cc nL (some ty) p s m args meth c) (hw : Wd sh D cA ad s.heap M H locs) {v : Int32} (hn : narrow ty (.int v) = .int v) (hd : decode cc pc = .ok (.ireturn, 1)) :
    W p l e R s m args below meth c H locs 0 0 (MQ below (Qzi sh D cA ad ty v M) args s 0 0 (Az sh ad)) (F0 m pc ls [.int v]) := by
  obtain ⟨f1, f2, f3, f4, f5, f6, f7, f8⟩ := F
  obtain ⟨w1, w2, w3⟩ := hw
  exact W.zret (ty := ty) f1 f2 f7 hn (fun t ht hW => ⟨⟨v, (), rfl, ⟨rfl, hn⟩, by rw [ht]; exact w1, w2, va_K.moved hW.alike f6⟩, w3.F ht⟩) w3.2.2 hd f8
theorem r_iret_t {ty : FieldType} (F : Fx D cA own cc nL (some ty) p s m args meth c) (hw : Wd sh D cA ad s.heap M H locs) {v r : Int32} (hn : narrow ty (.int v) = .int v) (hd : decode cc pc = .ok (.ireturn, 1)) (hf : v = r) :
    W p l e R s m args below meth c H locs 0 0 (MQ below (Qzi sh D cA ad ty r M) args s 0 0 (Az sh ad)) (F0 m pc ls [.int v]) := by
  subst hf; exact r_iret F hw hn hd
theorem r_iret_o {ty : FieldType} (F : Fx D cA own cc nL (some ty) p s m args meth c) (hw : Wd sh D cA ad s.heap M H locs) {v r : Int32} (hn : narrow ty (.int v) = .int v) (hd : decode cc pc = .ok (.ireturn, 1)) (hf : some v = some r) :
    W p l e R s m args below meth c H locs 0 0 (MQ below (Qzi sh D cA ad ty r M) args s 0 0 (Az sh ad)) (F0 m pc ls [.int v]) := by
  cases hf; exact r_iret F hw hn hd
theorem r_iret_w {ty : FieldType} (F : Fx D cA own cc nL (some ty) p s m args meth c) (hw : Wd sh D cA ad s.heap M H locs) {v r : Int32} {M' : Mem} (hn : narrow ty (.int v) = .int v) (hd : decode cc pc = .ok (.ireturn, 1)) (hf : some (v, M) = some (r, M')) :
    W p l e R s m args below meth c H locs 0 0 (MQ below (Qzi sh D cA ad ty r M') args s 0 0 (Az sh ad)) (F0 m pc ls [.int v]) := by
  cases hf; exact r_iret F hw hn hd
theorem r_lret (F : Fx D cA own cc nL (some .long) p s m args meth c) (hw : Wd sh D cA ad s.heap M H locs) {v : Int64} (hd : decode cc pc = .ok (.lreturn, 1)) :
    W p l e R s m args below meth c H locs 0 0 (MQ below (Qzl sh D cA ad v M) args s 0 0 (Az sh ad)) (F0 m pc ls [.long v]) := by
  obtain ⟨f1, f2, f3, f4, f5, f6, f7, f8⟩ := F
  obtain ⟨w1, w2, w3⟩ := hw
  exact W.lret f1 f2 f7 (fun t ht hW => ⟨⟨v, (), rfl, rfl, by rw [ht]; exact w1, w2, va_K.moved hW.alike f6⟩, w3.F ht⟩) w3.2.2 hd f8
theorem r_lret_o (F : Fx D cA own cc nL (some .long) p s m args meth c) (hw : Wd sh D cA ad s.heap M H locs) {v r : Int64} (hd : decode cc pc = .ok (.lreturn, 1)) (hf : some v = some r) :
    W p l e R s m args below meth c H locs 0 0 (MQ below (Qzl sh D cA ad r M) args s 0 0 (Az sh ad)) (F0 m pc ls [.long v]) := by
  cases hf; exact r_lret F hw hd
theorem r_lret_w (F : Fx D cA own cc nL (some .long) p s m args meth c) (hw : Wd sh D cA ad s.heap M H locs) {v r : Int64} {M' : Mem} (hd : decode cc pc = .ok (.lreturn, 1)) (hf : some (v, M) = some (r, M')) :
    W p l e R s m args below meth c H locs 0 0 (MQ below (Qzl sh D cA ad r M') args s 0 0 (Az sh ad)) (F0 m pc ls [.long v]) := by
  cases hf; exact r_lret F hw hd
theorem r_vret_w (F : Fx D cA own cc nL none p s m args meth c) (hw : Wd sh D cA ad s.heap M H locs) {M' : Mem} (hd : decode cc pc = .ok (.return_, 1)) (hf : some M = some M') :
    W p l e R s m args below meth c H locs 0 0 (MQ below (Qzv sh D cA ad M') args s 0 0 (Az sh ad)) (F0 m pc ls []) := by
  cases hf
  obtain ⟨f1, f2, f3, f4, f5, f6, f7, f8⟩ := F
  obtain ⟨w1, w2, w3⟩ := hw
  exact W.vret f1 f2 f7 (fun t ht hW => ⟨⟨(), rfl, trivial, by rw [ht]; exact w1, w2, va_K.moved hW.alike f6⟩, w3.F ht⟩) w3.2.2 hd f8
theorem r_runV (F : Fx D cA own cc nL ret p s m args meth c) (hw : Wd sh D cA ad H0 M H locs) (hl : lv_has ls nL lv) {y : MethodName} {bytes : ByteArray} {nL' fr lo x ci index : Nat} {ret' : Option FieldType} {As : List Value} {Qc : Array Value → State → Outcome → State → Prop} {C : String} {T : u_T} {N : Nat} {fs : List (Option Nat)}
    (hC : Ctg l y bytes nL' ret' fr lo sh D cA ad (.ref (ad x) :: As) M Qc) (hz : Cz ci C T N) (hx : sh[x]? = some (.inr (ci, fs))) (k : Cw own index y bytes nL' ret' C As.length) (hR : fr + 1 ≤ R.frames ∧ 8 + (nL' + 11) + lo ≤ R.locals) (hrm : (rest.map fun v => v.category).sum ≤ 8) (hd : decode cc pc = .ok (.invokevirtual index, 3)) :
    va_Run p l e R s m args below meth c H locs 0 0 0 0 (F0 m pc ls (As.reverse ++ .ref (ad x) :: rest)) rest (Qc (Value.ref (ad x) :: As).toArray) (Az sh ad) := by
  obtain ⟨f1, f2, f3, f4, f5, f6, f7, f8⟩ := F
  obtain ⟨w1, w2, w3⟩ := hw
  obtain ⟨⟨k1, k2, k3, k4, k5⟩, k6⟩ := k
  refine va_runV (As := As) (C := C) (n := As.length) (Ts := BIG) ⟨f1, f2, f3, f4, f5⟩ hC (cwV As.length f5 (big_in ?_) rfl rfl rfl k6 hR) ⟨Wp_blind, va_recv f6 w1 hz.1 (wW_get ad cA M hx), fun U hU hW => ⟨rfl, by rw [hU]; exact w1, w2, va_K.moved hW.alike f6⟩⟩ rfl rfl hl.1 rfl (lv_room hrm) hd ⟨Nat.zero_le _, Nat.zero_le _⟩
  intro w hw
  rcases List.mem_append.mp hw with h | h
  · rcases List.mem_cons.mp h with rfl | h
    · exact k1
    · rcases List.mem_cons.mp h with rfl | h
      · exact k2
      · rcases List.mem_cons.mp h with rfl | h
        · exact k3
        · rcases List.mem_cons.mp h with rfl | h
          · exact k4
          · cases h
  · rcases List.mem_cons.mp h with rfl | h
    · exact k5
    · exact h
theorem r_runS (F : Fx D cA own cc nL ret p s m args meth c) (hw : Wd sh D cA ad H0 M H locs) (hl : lv_has ls nL lv) {y : MethodName} {bytes : ByteArray} {nL' fr lo index : Nat} {ret' : Option FieldType} {As : List Value} {Qc : Array Value → State → Outcome → State → Prop}
    (hC : Ctg l y bytes nL' ret' fr lo sh D cA ad As M Qc) (k : Cs own index y bytes nL' ret' As.length) (hR : fr + 1 ≤ R.frames ∧ 8 + (nL' + 11) + lo ≤ R.locals) (hrm : (rest.map fun v => v.category).sum ≤ 8) (hd : decode cc pc = .ok (.invokestatic index, 3)) :
    va_Run p l e R s m args below meth c H locs 0 0 0 0 (F0 m pc ls (As.reverse ++ rest)) rest (Qc As.toArray) (Az sh ad) := by
  obtain ⟨f1, f2, f3, f4, f5, f6, f7, f8⟩ := F
  obtain ⟨w1, w2, w3⟩ := hw
  obtain ⟨⟨k1, k2, k3, k5⟩, k6⟩ := k
  refine va_runS (As := As) (n := As.length) (Ts := BIG) ⟨f1, f2, f3, f4, f5⟩ hC (va_cwS As.length f5 (big_in ?_) rfl rfl rfl k6 hR) ⟨Wp_blind, fun U hU hW => ⟨rfl, by rw [hU]; exact w1, w2, va_K.moved hW.alike f6⟩⟩ rfl rfl hl.1 rfl (lv_room hrm) hd ⟨Nat.zero_le _, Nat.zero_le _⟩
  intro w hw
  rcases List.mem_append.mp hw with h | h
  · rcases List.mem_cons.mp h with rfl | h
    · exact k1
    · rcases List.mem_cons.mp h with rfl | h
      · exact k2
      · rcases List.mem_cons.mp h with rfl | h
        · exact k3
        · cases h
  · rcases List.mem_cons.mp h with rfl | h
    · exact k5
    · exact h
theorem r_afti {ty : FieldType} {r : Int32} {M1 : Mem} {st0 : List Value} {a : Array Value} (hw : Wd sh D cA ad H0 M H locs) (hr : va_Run p l e R s m args below meth c H locs 0 0 0 0 (F0 m pc ls st0) rest (Qzi sh D cA ad ty r M1 a) (Az sh ad))
    (kk : ∀ (H1 : Heap) (locs1 : List Loc), Wd sh D cA ad H0 M1 H1 locs1 → narrow ty (.int r) = .int r → W p l e R s m args below meth c H1 locs1 0 0 Q (F0 m (pc + 3) ls (.int r :: rest))) : W p l e R s m args below meth c H locs 0 0 Q (F0 m pc ls st0) := by
  refine va_calli hr hw.2.2 (fun q _ h => h) (fun q h => h) (fun r' u t H1 locs1 ht hvm hp hB hz1 hk1 hS => ?_)
  obtain ⟨rfl, hn⟩ := hp
  obtain ⟨b1, b2, b3⟩ := hB
  rw [ht] at b1
  exact kk H1 locs1 ⟨b1, b2, hS⟩ hn
theorem r_aftl {r : Int64} {M1 : Mem} {st0 : List Value} {a : Array Value} (hw : Wd sh D cA ad H0 M H locs) (hr : va_Run p l e R s m args below meth c H locs 0 0 0 0 (F0 m pc ls st0) rest (Qzl sh D cA ad r M1 a) (Az sh ad))
    (kk : ∀ (H1 : Heap) (locs1 : List Loc), Wd sh D cA ad H0 M1 H1 locs1 → W p l e R s m args below meth c H1 locs1 0 0 Q (F0 m (pc + 3) ls (.long r :: rest))) : W p l e R s m args below meth c H locs 0 0 Q (F0 m pc ls st0) := by
  refine va_calll hr hw.2.2 (fun q _ h => h) (fun q h => h) (fun r' u t H1 locs1 ht hvm hp hB hz1 hk1 hS => ?_)
  obtain rfl := hp
  obtain ⟨b1, b2, b3⟩ := hB
  rw [ht] at b1
  exact kk H1 locs1 ⟨b1, b2, hS⟩
theorem r_aftv {M1 : Mem} {st0 : List Value} {a : Array Value} (hw : Wd sh D cA ad H0 M H locs) (hr : va_Run p l e R s m args below meth c H locs 0 0 0 0 (F0 m pc ls st0) rest (Qzv sh D cA ad M1 a) (Az sh ad))
    (kk : ∀ (H1 : Heap) (locs1 : List Loc), Wd sh D cA ad H0 M1 H1 locs1 → W p l e R s m args below meth c H1 locs1 0 0 Q (F0 m (pc + 3) ls rest)) : W p l e R s m args below meth c H locs 0 0 Q (F0 m pc ls st0) := by
  refine va_callv hr hw.2.2 (fun q _ h => h) (fun q h => h) (fun u t H1 locs1 ht hvm hp hB hz1 hk1 hS => ?_)
  obtain ⟨b1, b2, b3⟩ := hB
  rw [ht] at b1
  exact kk H1 locs1 ⟨b1, b2, hS⟩
theorem r_max (F : Fx D cA own cc nL ret p s m args meth c) (hl : lv_has ls nL lv) {index : Nat} (k1 : Cond.methodLink own index Lib.Math.max.name ∈ BIG) (k2 : Cond.static Lib.Math.max.name ∈ BIG) (k3 : Cond.initialized "java/lang/Math" ∈ BIG) (k4 : Cond.code Lib.Math.max.name Lib.Math.max.code 2 (some .int) ∈ BIG) (hR : 1 ≤ R.frames ∧ (rest.map fun v => v.category).sum + 13 ≤ R.locals) {x y : Int32} (hd : decode cc pc = .ok (.invokestatic index, 3))
    (kk : W p l e R s m args below meth c H locs 0 0 Q (F0 m (pc + 3) ls (.int (if x < y then y else x) :: rest))) : W p l e R s m args below meth c H locs 0 0 Q (F0 m pc ls (.int y :: .int x :: rest)) := by
  obtain ⟨f1, f2, f3, f4, f5, f6, f7, f8⟩ := F
  exact va_mmax f1 f2 (f3.trans hl.1.symm) f4 (f5 _ k1) (f5 _ k2) (f5 _ k3) (f5 _ k4) hR.1 hR.2 (Nat.zero_le _) (Nat.zero_le _) hd kk
theorem r_copy (F : Fx D cA own cc nL ret p s m args meth c) (hw : Wd sh D cA ad H0 M H locs) (hl : lv_has ls nL lv) {index : Nat} (k1 : Cond.methodLink own index arraycopyName ∈ BIG) (k2 : Cond.native arraycopyName ∈ BIG) (k3 : Cond.static arraycopyName ∈ BIG) (k4 : Cond.initialized "java/lang/System" ∈ BIG) {x0 n0 x1 n1 : Nat} (hx0 : sh[x0]? = some (.inl (.inl n0))) (hx1 : sh[x1]? = some (.inl (.inl n1))) (hR : 1 ≤ R.frames ∧ (rest.map fun v => v.category).sum + (nativeFrameWords "java/lang/System" "arraycopy" 5 + 11) ≤ R.locals) {sp dp n : Int32} (hd : decode cc pc = .ok (.invokestatic index, 3)) {α : Type} {K : Mem → Option α} {r : α} (hf : cpy M x0 n0 x1 n1 sp dp n K = some r)
    (kk : ∀ (M1 : Mem) (H1 : Heap) (locs1 : List Loc), Wd sh D cA ad H0 M1 H1 locs1 → K M1 = some r → W p l e R s m args below meth c H1 locs1 0 0 Q (F0 m (pc + 3) ls rest)) : W p l e R s m args below meth c H locs 0 0 Q (F0 m pc ls (.int n :: .int dp :: .ref (ad x1) :: .int sp :: .ref (ad x0) :: rest)) := by
  obtain ⟨f1, f2, f3, f4, f5, f6, f7, f8⟩ := F
  obtain ⟨w1, w2, w3⟩ := hw
  unfold cpy at hf
  by_cases q : sp < 0 ∨ dp < 0 ∨ n < 0 ∨ n0 < sp.toNatClampNeg + n.toNatClampNeg ∨ n1 < dp.toNatClampNeg + n.toNatClampNeg
  · rw [if_pos q] at hf; cases hf
  · rw [if_neg q] at hf
    refine va_copyi (c0 := cA 0) (c1 := cA 0) (ty := .int) f1 f2 (f3.trans hl.1.symm) f4 (f5 _ k1) (f5 _ k2) (f5 _ k3) (f5 _ k4) f6 w1 w2 w3 x0 x1 0 0 (wW_get ad cA M hx0) (wW_get ad cA M hx1) rfl rfl rfl (fun h => q (Or.inl h)) (fun h => q (Or.inr (Or.inl h))) (fun h => q (Or.inr (Or.inr (Or.inl h)))) (Nat.not_lt.mp fun h => q (Or.inr (Or.inr (Or.inr (Or.inl h))))) (Nat.not_lt.mp fun h => q (Or.inr (Or.inr (Or.inr (Or.inr h))))) (fun _ _ => rfl) hR.1 hR.2 hd (fun H1 locs1 h1 h2 h3 => ?_)
    have e9 : (wW sh ad cA M).set x1 (ad x1, .inl (cA 0, n1, .inl (va_cpy (M x0) (M x1) sp.toNatClampNeg dp.toNatClampNeg n.toNatClampNeg))) = wW sh ad cA (fun y => if y = x1 then va_cpy (M x0) (M x1) sp.toNatClampNeg dp.toNatClampNeg n.toNatClampNeg else M y) := by
      have h9 := wW_set (ad := ad) (cA := cA) (M := M) hx1 (fun y => if y = x1 then va_cpy (M x0) (M x1) sp.toNatClampNeg dp.toNatClampNeg n.toNatClampNeg else M y) (fun y hy => if_neg hy)
      simp only [if_pos] at h9
      exact h9
    rw [e9] at h1 h2
    exact kk _ H1 locs1 ⟨h1, h2, h3⟩ hf
theorem b_icmp_eq (F : Fx D cA own cc nL ret p s m args meth c) {x y : Int32} {off : Int} {tgt : Nat} (hd : decode cc pc = .ok (.if_icmp .eq off, 3)) (ht : (pc : Int) + off = (tgt : Int)) {α : Type} {X Y res : α} [d9 : Decidable (x = y)] (hf : (if x = y then X else Y) = res)
    (kt : x = y → X = res → W p l e R s m args below meth c H locs 0 0 Q (F0 m tgt ls rest)) (kf : ¬ x = y → Y = res → W p l e R s m args below meth c H locs 0 0 Q (F0 m (pc + 3) ls rest)) : W p l e R s m args below meth c H locs 0 0 Q (F0 m pc ls (.int y :: .int x :: rest)) :=
  lv_icmp_eq F.1 F.2.1 hd ht (fun h => kt h (by rw [if_pos h] at hf; exact hf)) (fun h => kf h (by rw [if_neg h] at hf; exact hf))
theorem b_icmp_ne (F : Fx D cA own cc nL ret p s m args meth c) {x y : Int32} {off : Int} {tgt : Nat} (hd : decode cc pc = .ok (.if_icmp .ne off, 3)) (ht : (pc : Int) + off = (tgt : Int)) {α : Type} {X Y res : α} [d9 : Decidable (x = y)] (hf : (if x = y then X else Y) = res)
    (kf : x = y → X = res → W p l e R s m args below meth c H locs 0 0 Q (F0 m (pc + 3) ls rest)) (kt : ¬ x = y → Y = res → W p l e R s m args below meth c H locs 0 0 Q (F0 m tgt ls rest)) : W p l e R s m args below meth c H locs 0 0 Q (F0 m pc ls (.int y :: .int x :: rest)) :=
  lv_icmp_ne F.1 F.2.1 hd ht (fun h => kt h (by rw [if_neg h] at hf; exact hf)) (fun h => kf h (by rw [if_pos h] at hf; exact hf))
theorem b_icmp_lt (F : Fx D cA own cc nL ret p s m args meth c) {x y : Int32} {off : Int} {tgt : Nat} (hd : decode cc pc = .ok (.if_icmp .lt off, 3)) (ht : (pc : Int) + off = (tgt : Int)) {α : Type} {X Y res : α} [d9 : Decidable (x < y)] (hf : (if x < y then X else Y) = res)
    (kt : x < y → X = res → W p l e R s m args below meth c H locs 0 0 Q (F0 m tgt ls rest)) (kf : ¬ x < y → Y = res → W p l e R s m args below meth c H locs 0 0 Q (F0 m (pc + 3) ls rest)) : W p l e R s m args below meth c H locs 0 0 Q (F0 m pc ls (.int y :: .int x :: rest)) :=
  lv_icmp_lt F.1 F.2.1 hd ht (fun h => kt h (by rw [if_pos h] at hf; exact hf)) (fun h => kf h (by rw [if_neg h] at hf; exact hf))
theorem b_icmp_ge (F : Fx D cA own cc nL ret p s m args meth c) {x y : Int32} {off : Int} {tgt : Nat} (hd : decode cc pc = .ok (.if_icmp .ge off, 3)) (ht : (pc : Int) + off = (tgt : Int)) {α : Type} {X Y res : α} [d9 : Decidable (y ≤ x)] (hf : (if y ≤ x then X else Y) = res)
    (kt : y ≤ x → X = res → W p l e R s m args below meth c H locs 0 0 Q (F0 m tgt ls rest)) (kf : ¬ y ≤ x → Y = res → W p l e R s m args below meth c H locs 0 0 Q (F0 m (pc + 3) ls rest)) : W p l e R s m args below meth c H locs 0 0 Q (F0 m pc ls (.int y :: .int x :: rest)) :=
  lv_icmp_ge F.1 F.2.1 hd ht (fun h => kt h (by rw [if_pos h] at hf; exact hf)) (fun h => kf h (by rw [if_neg h] at hf; exact hf))
theorem b_icmp_gt (F : Fx D cA own cc nL ret p s m args meth c) {x y : Int32} {off : Int} {tgt : Nat} (hd : decode cc pc = .ok (.if_icmp .gt off, 3)) (ht : (pc : Int) + off = (tgt : Int)) {α : Type} {X Y res : α} [d9 : Decidable (y < x)] (hf : (if y < x then X else Y) = res)
    (kt : y < x → X = res → W p l e R s m args below meth c H locs 0 0 Q (F0 m tgt ls rest)) (kf : ¬ y < x → Y = res → W p l e R s m args below meth c H locs 0 0 Q (F0 m (pc + 3) ls rest)) : W p l e R s m args below meth c H locs 0 0 Q (F0 m pc ls (.int y :: .int x :: rest)) :=
  lv_icmp_gt F.1 F.2.1 hd ht (fun h => kt h (by rw [if_pos h] at hf; exact hf)) (fun h => kf h (by rw [if_neg h] at hf; exact hf))
theorem b_icmp_le (F : Fx D cA own cc nL ret p s m args meth c) {x y : Int32} {off : Int} {tgt : Nat} (hd : decode cc pc = .ok (.if_icmp .le off, 3)) (ht : (pc : Int) + off = (tgt : Int)) {α : Type} {X Y res : α} [d9 : Decidable (x ≤ y)] (hf : (if x ≤ y then X else Y) = res)
    (kt : x ≤ y → X = res → W p l e R s m args below meth c H locs 0 0 Q (F0 m tgt ls rest)) (kf : ¬ x ≤ y → Y = res → W p l e R s m args below meth c H locs 0 0 Q (F0 m (pc + 3) ls rest)) : W p l e R s m args below meth c H locs 0 0 Q (F0 m pc ls (.int y :: .int x :: rest)) :=
  lv_icmp_le F.1 F.2.1 hd ht (fun h => kt h (by rw [if_pos h] at hf; exact hf)) (fun h => kf h (by rw [if_neg h] at hf; exact hf))
theorem b_if_eq (F : Fx D cA own cc nL ret p s m args meth c) {x : Int32} {off : Int} {tgt : Nat} (hd : decode cc pc = .ok (.ifCond .eq off, 3)) (ht : (pc : Int) + off = (tgt : Int)) {α : Type} {X Y res : α} [d9 : Decidable (x = 0)] (hf : (if x = 0 then X else Y) = res)
    (kt : x = 0 → X = res → W p l e R s m args below meth c H locs 0 0 Q (F0 m tgt ls rest)) (kf : ¬ x = 0 → Y = res → W p l e R s m args below meth c H locs 0 0 Q (F0 m (pc + 3) ls rest)) : W p l e R s m args below meth c H locs 0 0 Q (F0 m pc ls (.int x :: rest)) :=
  lv_if_eq F.1 F.2.1 hd ht (fun h => kt h (by rw [if_pos h] at hf; exact hf)) (fun h => kf h (by rw [if_neg h] at hf; exact hf))
theorem b_if_ne (F : Fx D cA own cc nL ret p s m args meth c) {x : Int32} {off : Int} {tgt : Nat} (hd : decode cc pc = .ok (.ifCond .ne off, 3)) (ht : (pc : Int) + off = (tgt : Int)) {α : Type} {X Y res : α} [d9 : Decidable (x = 0)] (hf : (if x = 0 then X else Y) = res)
    (kf : x = 0 → X = res → W p l e R s m args below meth c H locs 0 0 Q (F0 m (pc + 3) ls rest)) (kt : ¬ x = 0 → Y = res → W p l e R s m args below meth c H locs 0 0 Q (F0 m tgt ls rest)) : W p l e R s m args below meth c H locs 0 0 Q (F0 m pc ls (.int x :: rest)) :=
  lv_if_ne F.1 F.2.1 hd ht (fun h => kt h (by rw [if_neg h] at hf; exact hf)) (fun h => kf h (by rw [if_pos h] at hf; exact hf))
theorem b_if_lt (F : Fx D cA own cc nL ret p s m args meth c) {x : Int32} {off : Int} {tgt : Nat} (hd : decode cc pc = .ok (.ifCond .lt off, 3)) (ht : (pc : Int) + off = (tgt : Int)) {α : Type} {X Y res : α} [d9 : Decidable (x < 0)] (hf : (if x < 0 then X else Y) = res)
    (kt : x < 0 → X = res → W p l e R s m args below meth c H locs 0 0 Q (F0 m tgt ls rest)) (kf : ¬ x < 0 → Y = res → W p l e R s m args below meth c H locs 0 0 Q (F0 m (pc + 3) ls rest)) : W p l e R s m args below meth c H locs 0 0 Q (F0 m pc ls (.int x :: rest)) :=
  lv_if_lt F.1 F.2.1 hd ht (fun h => kt h (by rw [if_pos h] at hf; exact hf)) (fun h => kf h (by rw [if_neg h] at hf; exact hf))
theorem b_if_ge (F : Fx D cA own cc nL ret p s m args meth c) {x : Int32} {off : Int} {tgt : Nat} (hd : decode cc pc = .ok (.ifCond .ge off, 3)) (ht : (pc : Int) + off = (tgt : Int)) {α : Type} {X Y res : α} [d9 : Decidable (0 ≤ x)] (hf : (if 0 ≤ x then X else Y) = res)
    (kt : 0 ≤ x → X = res → W p l e R s m args below meth c H locs 0 0 Q (F0 m tgt ls rest)) (kf : ¬ 0 ≤ x → Y = res → W p l e R s m args below meth c H locs 0 0 Q (F0 m (pc + 3) ls rest)) : W p l e R s m args below meth c H locs 0 0 Q (F0 m pc ls (.int x :: rest)) :=
  lv_if_ge F.1 F.2.1 hd ht (fun h => kt h (by rw [if_pos h] at hf; exact hf)) (fun h => kf h (by rw [if_neg h] at hf; exact hf))
theorem b_if_gt (F : Fx D cA own cc nL ret p s m args meth c) {x : Int32} {off : Int} {tgt : Nat} (hd : decode cc pc = .ok (.ifCond .gt off, 3)) (ht : (pc : Int) + off = (tgt : Int)) {α : Type} {X Y res : α} [d9 : Decidable (0 < x)] (hf : (if 0 < x then X else Y) = res)
    (kt : 0 < x → X = res → W p l e R s m args below meth c H locs 0 0 Q (F0 m tgt ls rest)) (kf : ¬ 0 < x → Y = res → W p l e R s m args below meth c H locs 0 0 Q (F0 m (pc + 3) ls rest)) : W p l e R s m args below meth c H locs 0 0 Q (F0 m pc ls (.int x :: rest)) :=
  lv_if_gt F.1 F.2.1 hd ht (fun h => kt h (by rw [if_pos h] at hf; exact hf)) (fun h => kf h (by rw [if_neg h] at hf; exact hf))
theorem b_if_le (F : Fx D cA own cc nL ret p s m args meth c) {x : Int32} {off : Int} {tgt : Nat} (hd : decode cc pc = .ok (.ifCond .le off, 3)) (ht : (pc : Int) + off = (tgt : Int)) {α : Type} {X Y res : α} [d9 : Decidable (x ≤ 0)] (hf : (if x ≤ 0 then X else Y) = res)
    (kt : x ≤ 0 → X = res → W p l e R s m args below meth c H locs 0 0 Q (F0 m tgt ls rest)) (kf : ¬ x ≤ 0 → Y = res → W p l e R s m args below meth c H locs 0 0 Q (F0 m (pc + 3) ls rest)) : W p l e R s m args below meth c H locs 0 0 Q (F0 m pc ls (.int x :: rest)) :=
  lv_if_le F.1 F.2.1 hd ht (fun h => kt h (by rw [if_pos h] at hf; exact hf)) (fun h => kf h (by rw [if_neg h] at hf; exact hf))
end RY
end
