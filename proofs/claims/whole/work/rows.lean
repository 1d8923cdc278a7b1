section
-- ===== PART A: goes FIRST, ahead of the names: the tables' words, and 'selects' of the private methods out of them =====
/-- a private method of a class that the tables say can be made, by its rows of tables_1 -/
def lw_okq (q : MethodName × Nat) : Prop := (q.1.cls ≠ "java/lang/invoke/MethodHandle" ∧ q.1.cls ≠ "java/lang/invoke/VarHandle") ∧ Cond.instantiable q.1.cls q.2 ∈ tables_1 ∧ Cond.privateMethod q.1 ∈ tables_1 ∧ Cond.instanceMethod q.1 ∈ tables_1
theorem lw_p0 : lw_okq (⟨"EscrowCounter$Script", "readCommand", "(LEscrowCounter$Command;)Z"⟩, 5) := ⟨⟨by decide +kernel, by decide +kernel⟩, List.mem_of_getElem? (i := 202) (by decide +kernel), List.mem_of_getElem? (i := 316) (by decide +kernel), List.mem_of_getElem? (i := 317) (by decide +kernel)⟩
theorem lw_p1 : lw_okq (⟨"EscrowCounter$Script", "readSign", "(I)Z"⟩, 5) := ⟨⟨by decide +kernel, by decide +kernel⟩, List.mem_of_getElem? (i := 202) (by decide +kernel), List.mem_of_getElem? (i := 320) (by decide +kernel), List.mem_of_getElem? (i := 321) (by decide +kernel)⟩
theorem lw_p2 : lw_okq (⟨"EscrowCounter$Script", "readSite", "(LEscrowCounter$Command;)Z"⟩, 5) := ⟨⟨by decide +kernel, by decide +kernel⟩, List.mem_of_getElem? (i := 202) (by decide +kernel), List.mem_of_getElem? (i := 324) (by decide +kernel), List.mem_of_getElem? (i := 325) (by decide +kernel)⟩
theorem lw_p3 : lw_okq (⟨"EscrowCounter$Script", "isDigitNext", "()Z"⟩, 5) := ⟨⟨by decide +kernel, by decide +kernel⟩, List.mem_of_getElem? (i := 202) (by decide +kernel), List.mem_of_getElem? (i := 328) (by decide +kernel), List.mem_of_getElem? (i := 329) (by decide +kernel)⟩
theorem lw_p4 : lw_okq (⟨"EscrowCounter$Script", "readDigit", "()I"⟩, 5) := ⟨⟨by decide +kernel, by decide +kernel⟩, List.mem_of_getElem? (i := 202) (by decide +kernel), List.mem_of_getElem? (i := 332) (by decide +kernel), List.mem_of_getElem? (i := 333) (by decide +kernel)⟩
theorem lw_p5 : lw_okq (⟨"EscrowCounter$Script", "readNumberBehind", "(ILEscrowCounter$Command;)Z"⟩, 5) := ⟨⟨by decide +kernel, by decide +kernel⟩, List.mem_of_getElem? (i := 202) (by decide +kernel), List.mem_of_getElem? (i := 336) (by decide +kernel), List.mem_of_getElem? (i := 337) (by decide +kernel)⟩
theorem lw_p6 : lw_okq (⟨"EscrowCounter$Script", "readSecondSite", "(LEscrowCounter$Command;)Z"⟩, 5) := ⟨⟨by decide +kernel, by decide +kernel⟩, List.mem_of_getElem? (i := 202) (by decide +kernel), List.mem_of_getElem? (i := 340) (by decide +kernel), List.mem_of_getElem? (i := 341) (by decide +kernel)⟩
theorem lw_p7 : lw_okq (⟨"EscrowCounter$History", "place", "(I)LEscrowCounter$State;"⟩, 3) := ⟨⟨by decide +kernel, by decide +kernel⟩, List.mem_of_getElem? (i := 182) (by decide +kernel), List.mem_of_getElem? (i := 348) (by decide +kernel), List.mem_of_getElem? (i := 349) (by decide +kernel)⟩
theorem lw_p8 : lw_okq (⟨"EscrowCounter", "runCommand", "(LEscrowCounter$Command;)Z"⟩, 4) := ⟨⟨by decide +kernel, by decide +kernel⟩, List.mem_of_getElem? (i := 20) (by decide +kernel), List.mem_of_getElem? (i := 376) (by decide +kernel), List.mem_of_getElem? (i := 377) (by decide +kernel)⟩
theorem lw_p9 : lw_okq (⟨"EscrowCounter", "changeFault", "(II)I"⟩, 4) := ⟨⟨by decide +kernel, by decide +kernel⟩, List.mem_of_getElem? (i := 20) (by decide +kernel), List.mem_of_getElem? (i := 380) (by decide +kernel), List.mem_of_getElem? (i := 381) (by decide +kernel)⟩
theorem lw_p10 : lw_okq (⟨"EscrowCounter", "isSite", "(I)Z"⟩, 4) := ⟨⟨by decide +kernel, by decide +kernel⟩, List.mem_of_getElem? (i := 20) (by decide +kernel), List.mem_of_getElem? (i := 384) (by decide +kernel), List.mem_of_getElem? (i := 385) (by decide +kernel)⟩
theorem lw_p11 : lw_okq (⟨"EscrowCounter$State", "loanBalance", "(II)I"⟩, 10) := ⟨⟨by decide +kernel, by decide +kernel⟩, List.mem_of_getElem? (i := 34) (by decide +kernel), List.mem_of_getElem? (i := 411) (by decide +kernel), List.mem_of_getElem? (i := 412) (by decide +kernel)⟩
theorem lw_p12 : lw_okq (⟨"EscrowCounter$State", "useLoans", "(III)V"⟩, 10) := ⟨⟨by decide +kernel, by decide +kernel⟩, List.mem_of_getElem? (i := 34) (by decide +kernel), List.mem_of_getElem? (i := 429) (by decide +kernel), List.mem_of_getElem? (i := 430) (by decide +kernel)⟩
theorem lw_p13 : lw_okq (⟨"EscrowCounter$State", "soonestLoan", "(II)I"⟩, 10) := ⟨⟨by decide +kernel, by decide +kernel⟩, List.mem_of_getElem? (i := 34) (by decide +kernel), List.mem_of_getElem? (i := 433) (by decide +kernel), List.mem_of_getElem? (i := 434) (by decide +kernel)⟩
theorem lw_p14 : lw_okq (⟨"EscrowCounter", "runTransfer", "(ILEscrowCounter$Command;)Z"⟩, 4) := ⟨⟨by decide +kernel, by decide +kernel⟩, List.mem_of_getElem? (i := 20) (by decide +kernel), List.mem_of_getElem? (i := 437) (by decide +kernel), List.mem_of_getElem? (i := 438) (by decide +kernel)⟩
theorem lw_p15 : lw_okq (⟨"EscrowCounter", "transferFault", "(IIII)I"⟩, 4) := ⟨⟨by decide +kernel, by decide +kernel⟩, List.mem_of_getElem? (i := 20) (by decide +kernel), List.mem_of_getElem? (i := 441) (by decide +kernel), List.mem_of_getElem? (i := 442) (by decide +kernel)⟩
def lw_privs_1 : List (MethodName × Nat) := [(⟨"EscrowCounter$Script", "readCommand", "(LEscrowCounter$Command;)Z"⟩, 5), (⟨"EscrowCounter$Script", "readSign", "(I)Z"⟩, 5), (⟨"EscrowCounter$Script", "readSite", "(LEscrowCounter$Command;)Z"⟩, 5), (⟨"EscrowCounter$Script", "isDigitNext", "()Z"⟩, 5), (⟨"EscrowCounter$Script", "readDigit", "()I"⟩, 5), (⟨"EscrowCounter$Script", "readNumberBehind", "(ILEscrowCounter$Command;)Z"⟩, 5), (⟨"EscrowCounter$Script", "readSecondSite", "(LEscrowCounter$Command;)Z"⟩, 5), (⟨"EscrowCounter$History", "place", "(I)LEscrowCounter$State;"⟩, 3), (⟨"EscrowCounter", "runCommand", "(LEscrowCounter$Command;)Z"⟩, 4), (⟨"EscrowCounter", "changeFault", "(II)I"⟩, 4), (⟨"EscrowCounter", "isSite", "(I)Z"⟩, 4), (⟨"EscrowCounter$State", "loanBalance", "(II)I"⟩, 10), (⟨"EscrowCounter$State", "useLoans", "(III)V"⟩, 10), (⟨"EscrowCounter$State", "soonestLoan", "(II)I"⟩, 10), (⟨"EscrowCounter", "runTransfer", "(ILEscrowCounter$Command;)Z"⟩, 4), (⟨"EscrowCounter", "transferFault", "(IIII)I"⟩, 4)]
theorem lw_r1 : ∀ q ∈ lw_privs_1, lw_okq q := List.forall_mem_cons.mpr ⟨lw_p0, List.forall_mem_cons.mpr ⟨lw_p1, List.forall_mem_cons.mpr ⟨lw_p2, List.forall_mem_cons.mpr ⟨lw_p3, List.forall_mem_cons.mpr ⟨lw_p4, List.forall_mem_cons.mpr ⟨lw_p5, List.forall_mem_cons.mpr ⟨lw_p6, List.forall_mem_cons.mpr ⟨lw_p7, List.forall_mem_cons.mpr ⟨lw_p8, List.forall_mem_cons.mpr ⟨lw_p9, List.forall_mem_cons.mpr ⟨lw_p10, List.forall_mem_cons.mpr ⟨lw_p11, List.forall_mem_cons.mpr ⟨lw_p12, List.forall_mem_cons.mpr ⟨lw_p13, List.forall_mem_cons.mpr ⟨lw_p14, List.forall_mem_cons.mpr ⟨lw_p15, fun _ h => absurd h List.not_mem_nil⟩⟩⟩⟩⟩⟩⟩⟩⟩⟩⟩⟩⟩⟩⟩⟩
theorem lw_p16 : lw_okq (⟨"EscrowCounter", "runMessage", "(LEscrowCounter$Command;)Z"⟩, 4) := ⟨⟨by decide +kernel, by decide +kernel⟩, List.mem_of_getElem? (i := 20) (by decide +kernel), List.mem_of_getElem? (i := 457) (by decide +kernel), List.mem_of_getElem? (i := 458) (by decide +kernel)⟩
theorem lw_p17 : lw_okq (⟨"EscrowCounter", "sendFault", "(II)I"⟩, 4) := ⟨⟨by decide +kernel, by decide +kernel⟩, List.mem_of_getElem? (i := 20) (by decide +kernel), List.mem_of_getElem? (i := 461) (by decide +kernel), List.mem_of_getElem? (i := 462) (by decide +kernel)⟩
theorem lw_p18 : lw_okq (⟨"EscrowCounter", "runPass", "(LEscrowCounter$Command;)Z"⟩, 4) := ⟨⟨by decide +kernel, by decide +kernel⟩, List.mem_of_getElem? (i := 20) (by decide +kernel), List.mem_of_getElem? (i := 485) (by decide +kernel), List.mem_of_getElem? (i := 486) (by decide +kernel)⟩
theorem lw_p19 : lw_okq (⟨"EscrowCounter", "passFault", "(I)I"⟩, 4) := ⟨⟨by decide +kernel, by decide +kernel⟩, List.mem_of_getElem? (i := 20) (by decide +kernel), List.mem_of_getElem? (i := 489) (by decide +kernel), List.mem_of_getElem? (i := 490) (by decide +kernel)⟩
theorem lw_p20 : lw_okq (⟨"EscrowCounter", "withSite", "(JI)J"⟩, 4) := ⟨⟨by decide +kernel, by decide +kernel⟩, List.mem_of_getElem? (i := 20) (by decide +kernel), List.mem_of_getElem? (i := 515) (by decide +kernel), List.mem_of_getElem? (i := 516) (by decide +kernel)⟩
theorem lw_p21 : lw_okq (⟨"java/lang/Throwable", "fillInStackTrace", "(I)Ljava/lang/Throwable;"⟩, 6) := ⟨⟨by decide +kernel, by decide +kernel⟩, List.mem_of_getElem? (i := 577) (by decide +kernel), List.mem_of_getElem? (i := 575) (by decide +kernel), List.mem_of_getElem? (i := 576) (by decide +kernel)⟩
theorem lw_p22 : lw_okq (⟨"EscrowCounter", "lendFault", "(IIIII)I"⟩, 4) := ⟨⟨by decide +kernel, by decide +kernel⟩, List.mem_of_getElem? (i := 20) (by decide +kernel), List.mem_of_getElem? (i := 682) (by decide +kernel), List.mem_of_getElem? (i := 683) (by decide +kernel)⟩
theorem lw_p23 : lw_okq (⟨"EscrowCounter", "siteAndKindFault", "(II)I"⟩, 4) := ⟨⟨by decide +kernel, by decide +kernel⟩, List.mem_of_getElem? (i := 20) (by decide +kernel), List.mem_of_getElem? (i := 697) (by decide +kernel), List.mem_of_getElem? (i := 698) (by decide +kernel)⟩
theorem lw_p24 : lw_okq (⟨"EscrowCounter", "messageFault", "(I)I"⟩, 4) := ⟨⟨by decide +kernel, by decide +kernel⟩, List.mem_of_getElem? (i := 20) (by decide +kernel), List.mem_of_getElem? (i := 727) (by decide +kernel), List.mem_of_getElem? (i := 728) (by decide +kernel)⟩
theorem lw_p25 : lw_okq (⟨"EscrowCounter", "siteFault", "(I)I"⟩, 4) := ⟨⟨by decide +kernel, by decide +kernel⟩, List.mem_of_getElem? (i := 20) (by decide +kernel), List.mem_of_getElem? (i := 770) (by decide +kernel), List.mem_of_getElem? (i := 771) (by decide +kernel)⟩
theorem lw_p26 : lw_okq (⟨"EscrowCounter$State", "richestOutside", "(II)I"⟩, 10) := ⟨⟨by decide +kernel, by decide +kernel⟩, List.mem_of_getElem? (i := 34) (by decide +kernel), List.mem_of_getElem? (i := 842) (by decide +kernel), List.mem_of_getElem? (i := 843) (by decide +kernel)⟩
theorem lw_p27 : lw_okq (⟨"EscrowCounterModel", "starts", "(III)V"⟩, 15) := ⟨⟨by decide +kernel, by decide +kernel⟩, List.mem_of_getElem? (i := 871) (by decide +kernel), List.mem_of_getElem? (i := 877) (by decide +kernel), List.mem_of_getElem? (i := 878) (by decide +kernel)⟩
theorem lw_p28 : lw_okq (⟨"EscrowCounterModel", "fails", "(I)I"⟩, 15) := ⟨⟨by decide +kernel, by decide +kernel⟩, List.mem_of_getElem? (i := 871) (by decide +kernel), List.mem_of_getElem? (i := 942) (by decide +kernel), List.mem_of_getElem? (i := 943) (by decide +kernel)⟩
theorem lw_p29 : lw_okq (⟨"EscrowCounterModel", "valueNow", "()I"⟩, 15) := ⟨⟨by decide +kernel, by decide +kernel⟩, List.mem_of_getElem? (i := 871) (by decide +kernel), List.mem_of_getElem? (i := 946) (by decide +kernel), List.mem_of_getElem? (i := 947) (by decide +kernel)⟩
theorem lw_p30 : lw_okq (⟨"EscrowCounterModel", "mineAt", "(I)I"⟩, 15) := ⟨⟨by decide +kernel, by decide +kernel⟩, List.mem_of_getElem? (i := 871) (by decide +kernel), List.mem_of_getElem? (i := 950) (by decide +kernel), List.mem_of_getElem? (i := 951) (by decide +kernel)⟩
theorem lw_p31 : lw_okq (⟨"EscrowCounterModel", "change", "(III)Z"⟩, 15) := ⟨⟨by decide +kernel, by decide +kernel⟩, List.mem_of_getElem? (i := 871) (by decide +kernel), List.mem_of_getElem? (i := 961) (by decide +kernel), List.mem_of_getElem? (i := 962) (by decide +kernel)⟩
def lw_privs_2 : List (MethodName × Nat) := [(⟨"EscrowCounter", "runMessage", "(LEscrowCounter$Command;)Z"⟩, 4), (⟨"EscrowCounter", "sendFault", "(II)I"⟩, 4), (⟨"EscrowCounter", "runPass", "(LEscrowCounter$Command;)Z"⟩, 4), (⟨"EscrowCounter", "passFault", "(I)I"⟩, 4), (⟨"EscrowCounter", "withSite", "(JI)J"⟩, 4), (⟨"java/lang/Throwable", "fillInStackTrace", "(I)Ljava/lang/Throwable;"⟩, 6), (⟨"EscrowCounter", "lendFault", "(IIIII)I"⟩, 4), (⟨"EscrowCounter", "siteAndKindFault", "(II)I"⟩, 4), (⟨"EscrowCounter", "messageFault", "(I)I"⟩, 4), (⟨"EscrowCounter", "siteFault", "(I)I"⟩, 4), (⟨"EscrowCounter$State", "richestOutside", "(II)I"⟩, 10), (⟨"EscrowCounterModel", "starts", "(III)V"⟩, 15), (⟨"EscrowCounterModel", "fails", "(I)I"⟩, 15), (⟨"EscrowCounterModel", "valueNow", "()I"⟩, 15), (⟨"EscrowCounterModel", "mineAt", "(I)I"⟩, 15), (⟨"EscrowCounterModel", "change", "(III)Z"⟩, 15)]
theorem lw_r2 : ∀ q ∈ lw_privs_2, lw_okq q := List.forall_mem_cons.mpr ⟨lw_p16, List.forall_mem_cons.mpr ⟨lw_p17, List.forall_mem_cons.mpr ⟨lw_p18, List.forall_mem_cons.mpr ⟨lw_p19, List.forall_mem_cons.mpr ⟨lw_p20, List.forall_mem_cons.mpr ⟨lw_p21, List.forall_mem_cons.mpr ⟨lw_p22, List.forall_mem_cons.mpr ⟨lw_p23, List.forall_mem_cons.mpr ⟨lw_p24, List.forall_mem_cons.mpr ⟨lw_p25, List.forall_mem_cons.mpr ⟨lw_p26, List.forall_mem_cons.mpr ⟨lw_p27, List.forall_mem_cons.mpr ⟨lw_p28, List.forall_mem_cons.mpr ⟨lw_p29, List.forall_mem_cons.mpr ⟨lw_p30, List.forall_mem_cons.mpr ⟨lw_p31, fun _ h => absurd h List.not_mem_nil⟩⟩⟩⟩⟩⟩⟩⟩⟩⟩⟩⟩⟩⟩⟩⟩
theorem lw_p32 : lw_okq (⟨"EscrowCounterModel", "isSite", "(I)Z"⟩, 15) := ⟨⟨by decide +kernel, by decide +kernel⟩, List.mem_of_getElem? (i := 871) (by decide +kernel), List.mem_of_getElem? (i := 965) (by decide +kernel), List.mem_of_getElem? (i := 966) (by decide +kernel)⟩
theorem lw_p33 : lw_okq (⟨"EscrowCounterModel", "act", "()V"⟩, 15) := ⟨⟨by decide +kernel, by decide +kernel⟩, List.mem_of_getElem? (i := 871) (by decide +kernel), List.mem_of_getElem? (i := 969) (by decide +kernel), List.mem_of_getElem? (i := 970) (by decide +kernel)⟩
theorem lw_p34 : lw_okq (⟨"EscrowCounterModel", "uses", "(III)Z"⟩, 15) := ⟨⟨by decide +kernel, by decide +kernel⟩, List.mem_of_getElem? (i := 871) (by decide +kernel), List.mem_of_getElem? (i := 973) (by decide +kernel), List.mem_of_getElem? (i := 974) (by decide +kernel)⟩
theorem lw_p35 : lw_okq (⟨"EscrowCounterModel", "allRights", "(II)I"⟩, 15) := ⟨⟨by decide +kernel, by decide +kernel⟩, List.mem_of_getElem? (i := 871) (by decide +kernel), List.mem_of_getElem? (i := 977) (by decide +kernel), List.mem_of_getElem? (i := 978) (by decide +kernel)⟩
theorem lw_p36 : lw_okq (⟨"EscrowCounterModel", "ownRights", "(II)I"⟩, 15) := ⟨⟨by decide +kernel, by decide +kernel⟩, List.mem_of_getElem? (i := 871) (by decide +kernel), List.mem_of_getElem? (i := 981) (by decide +kernel), List.mem_of_getElem? (i := 982) (by decide +kernel)⟩
theorem lw_p37 : lw_okq (⟨"EscrowCounterModel", "isBack", "(I)Z"⟩, 15) := ⟨⟨by decide +kernel, by decide +kernel⟩, List.mem_of_getElem? (i := 871) (by decide +kernel), List.mem_of_getElem? (i := 988) (by decide +kernel), List.mem_of_getElem? (i := 989) (by decide +kernel)⟩
theorem lw_p38 : lw_okq (⟨"EscrowCounterModel", "timeOf", "(II)I"⟩, 15) := ⟨⟨by decide +kernel, by decide +kernel⟩, List.mem_of_getElem? (i := 871) (by decide +kernel), List.mem_of_getElem? (i := 992) (by decide +kernel), List.mem_of_getElem? (i := 993) (by decide +kernel)⟩
theorem lw_p39 : lw_okq (⟨"EscrowCounterModel", "usedOf", "(II)I"⟩, 15) := ⟨⟨by decide +kernel, by decide +kernel⟩, List.mem_of_getElem? (i := 871) (by decide +kernel), List.mem_of_getElem? (i := 996) (by decide +kernel), List.mem_of_getElem? (i := 997) (by decide +kernel)⟩
theorem lw_p40 : lw_okq (⟨"EscrowCounterModel", "lentRights", "(II)I"⟩, 15) := ⟨⟨by decide +kernel, by decide +kernel⟩, List.mem_of_getElem? (i := 871) (by decide +kernel), List.mem_of_getElem? (i := 1000) (by decide +kernel), List.mem_of_getElem? (i := 1001) (by decide +kernel)⟩
theorem lw_p41 : lw_okq (⟨"EscrowCounterModel", "restOf", "(I)I"⟩, 15) := ⟨⟨by decide +kernel, by decide +kernel⟩, List.mem_of_getElem? (i := 871) (by decide +kernel), List.mem_of_getElem? (i := 1004) (by decide +kernel), List.mem_of_getElem? (i := 1005) (by decide +kernel)⟩
theorem lw_p42 : lw_okq (⟨"EscrowCounterModel", "isKnown", "(I)Z"⟩, 15) := ⟨⟨by decide +kernel, by decide +kernel⟩, List.mem_of_getElem? (i := 871) (by decide +kernel), List.mem_of_getElem? (i := 1008) (by decide +kernel), List.mem_of_getElem? (i := 1009) (by decide +kernel)⟩
theorem lw_p43 : lw_okq (⟨"EscrowCounterModel", "changed", "(I)V"⟩, 15) := ⟨⟨by decide +kernel, by decide +kernel⟩, List.mem_of_getElem? (i := 871) (by decide +kernel), List.mem_of_getElem? (i := 1013) (by decide +kernel), List.mem_of_getElem? (i := 1014) (by decide +kernel)⟩
theorem lw_p44 : lw_okq (⟨"EscrowCounterModel", "firstLoan", "(II)I"⟩, 15) := ⟨⟨by decide +kernel, by decide +kernel⟩, List.mem_of_getElem? (i := 871) (by decide +kernel), List.mem_of_getElem? (i := 1017) (by decide +kernel), List.mem_of_getElem? (i := 1018) (by decide +kernel)⟩
theorem lw_p45 : lw_okq (⟨"EscrowCounterModel", "wrongPair", "(IIIZ)I"⟩, 15) := ⟨⟨by decide +kernel, by decide +kernel⟩, List.mem_of_getElem? (i := 871) (by decide +kernel), List.mem_of_getElem? (i := 1029) (by decide +kernel), List.mem_of_getElem? (i := 1030) (by decide +kernel)⟩
theorem lw_p46 : lw_okq (⟨"EscrowCounterModel", "gives", "(IIII)V"⟩, 15) := ⟨⟨by decide +kernel, by decide +kernel⟩, List.mem_of_getElem? (i := 871) (by decide +kernel), List.mem_of_getElem? (i := 1033) (by decide +kernel), List.mem_of_getElem? (i := 1034) (by decide +kernel)⟩
theorem lw_p47 : lw_okq (⟨"EscrowCounterModel", "writes", "(III)V"⟩, 15) := ⟨⟨by decide +kernel, by decide +kernel⟩, List.mem_of_getElem? (i := 871) (by decide +kernel), List.mem_of_getElem? (i := 1054) (by decide +kernel), List.mem_of_getElem? (i := 1055) (by decide +kernel)⟩
def lw_privs_3 : List (MethodName × Nat) := [(⟨"EscrowCounterModel", "isSite", "(I)Z"⟩, 15), (⟨"EscrowCounterModel", "act", "()V"⟩, 15), (⟨"EscrowCounterModel", "uses", "(III)Z"⟩, 15), (⟨"EscrowCounterModel", "allRights", "(II)I"⟩, 15), (⟨"EscrowCounterModel", "ownRights", "(II)I"⟩, 15), (⟨"EscrowCounterModel", "isBack", "(I)Z"⟩, 15), (⟨"EscrowCounterModel", "timeOf", "(II)I"⟩, 15), (⟨"EscrowCounterModel", "usedOf", "(II)I"⟩, 15), (⟨"EscrowCounterModel", "lentRights", "(II)I"⟩, 15), (⟨"EscrowCounterModel", "restOf", "(I)I"⟩, 15), (⟨"EscrowCounterModel", "isKnown", "(I)Z"⟩, 15), (⟨"EscrowCounterModel", "changed", "(I)V"⟩, 15), (⟨"EscrowCounterModel", "firstLoan", "(II)I"⟩, 15), (⟨"EscrowCounterModel", "wrongPair", "(IIIZ)I"⟩, 15), (⟨"EscrowCounterModel", "gives", "(IIII)V"⟩, 15), (⟨"EscrowCounterModel", "writes", "(III)V"⟩, 15)]
theorem lw_r3 : ∀ q ∈ lw_privs_3, lw_okq q := List.forall_mem_cons.mpr ⟨lw_p32, List.forall_mem_cons.mpr ⟨lw_p33, List.forall_mem_cons.mpr ⟨lw_p34, List.forall_mem_cons.mpr ⟨lw_p35, List.forall_mem_cons.mpr ⟨lw_p36, List.forall_mem_cons.mpr ⟨lw_p37, List.forall_mem_cons.mpr ⟨lw_p38, List.forall_mem_cons.mpr ⟨lw_p39, List.forall_mem_cons.mpr ⟨lw_p40, List.forall_mem_cons.mpr ⟨lw_p41, List.forall_mem_cons.mpr ⟨lw_p42, List.forall_mem_cons.mpr ⟨lw_p43, List.forall_mem_cons.mpr ⟨lw_p44, List.forall_mem_cons.mpr ⟨lw_p45, List.forall_mem_cons.mpr ⟨lw_p46, List.forall_mem_cons.mpr ⟨lw_p47, fun _ h => absurd h List.not_mem_nil⟩⟩⟩⟩⟩⟩⟩⟩⟩⟩⟩⟩⟩⟩⟩⟩
theorem lw_p48 : lw_okq (⟨"EscrowCounterModel", "isMessage", "(I)Z"⟩, 15) := ⟨⟨by decide +kernel, by decide +kernel⟩, List.mem_of_getElem? (i := 871) (by decide +kernel), List.mem_of_getElem? (i := 1065) (by decide +kernel), List.mem_of_getElem? (i := 1066) (by decide +kernel)⟩
theorem lw_p49 : lw_okq (⟨"EscrowCounterModel", "arrives", "(I)I"⟩, 15) := ⟨⟨by decide +kernel, by decide +kernel⟩, List.mem_of_getElem? (i := 871) (by decide +kernel), List.mem_of_getElem? (i := 1069) (by decide +kernel), List.mem_of_getElem? (i := 1070) (by decide +kernel)⟩
theorem lw_p50 : lw_okq (⟨"EscrowCounterModel", "goes", "(I)V"⟩, 15) := ⟨⟨by decide +kernel, by decide +kernel⟩, List.mem_of_getElem? (i := 871) (by decide +kernel), List.mem_of_getElem? (i := 1073) (by decide +kernel), List.mem_of_getElem? (i := 1074) (by decide +kernel)⟩
theorem lw_p51 : lw_okq (⟨"EscrowCounterModel", "knownBy", "(I)I"⟩, 15) := ⟨⟨by decide +kernel, by decide +kernel⟩, List.mem_of_getElem? (i := 871) (by decide +kernel), List.mem_of_getElem? (i := 1105) (by decide +kernel), List.mem_of_getElem? (i := 1106) (by decide +kernel)⟩
theorem lw_p52 : lw_okq (⟨"EscrowCounterModel", "isWrong", "(II)Z"⟩, 15) := ⟨⟨by decide +kernel, by decide +kernel⟩, List.mem_of_getElem? (i := 871) (by decide +kernel), List.mem_of_getElem? (i := 1113) (by decide +kernel), List.mem_of_getElem? (i := 1114) (by decide +kernel)⟩
theorem lw_p53 : lw_okq (⟨"EscrowCounterModel", "isTwo", "(II)Z"⟩, 15) := ⟨⟨by decide +kernel, by decide +kernel⟩, List.mem_of_getElem? (i := 871) (by decide +kernel), List.mem_of_getElem? (i := 1133) (by decide +kernel), List.mem_of_getElem? (i := 1134) (by decide +kernel)⟩
theorem lw_p54 : lw_okq (⟨"EscrowCounterModel", "ofLoan", "(II)I"⟩, 15) := ⟨⟨by decide +kernel, by decide +kernel⟩, List.mem_of_getElem? (i := 871) (by decide +kernel), List.mem_of_getElem? (i := 1149) (by decide +kernel), List.mem_of_getElem? (i := 1150) (by decide +kernel)⟩
theorem lw_p55 : lw_okq (⟨"EscrowCounterModel", "readsScript", "()Z"⟩, 15) := ⟨⟨by decide +kernel, by decide +kernel⟩, List.mem_of_getElem? (i := 871) (by decide +kernel), List.mem_of_getElem? (i := 1169) (by decide +kernel), List.mem_of_getElem? (i := 1170) (by decide +kernel)⟩
theorem lw_p56 : lw_okq (⟨"EscrowCounterModel", "readsCommand", "()Z"⟩, 15) := ⟨⟨by decide +kernel, by decide +kernel⟩, List.mem_of_getElem? (i := 871) (by decide +kernel), List.mem_of_getElem? (i := 1173) (by decide +kernel), List.mem_of_getElem? (i := 1174) (by decide +kernel)⟩
theorem lw_p57 : lw_okq (⟨"EscrowCounterModel", "sign", "()I"⟩, 15) := ⟨⟨by decide +kernel, by decide +kernel⟩, List.mem_of_getElem? (i := 871) (by decide +kernel), List.mem_of_getElem? (i := 1177) (by decide +kernel), List.mem_of_getElem? (i := 1178) (by decide +kernel)⟩
theorem lw_p58 : lw_okq (⟨"EscrowCounterModel", "readsNumber", "()Z"⟩, 15) := ⟨⟨by decide +kernel, by decide +kernel⟩, List.mem_of_getElem? (i := 871) (by decide +kernel), List.mem_of_getElem? (i := 1181) (by decide +kernel), List.mem_of_getElem? (i := 1182) (by decide +kernel)⟩
theorem lw_p59 : lw_okq (⟨"EscrowCounterModel", "readsSite", "()Z"⟩, 15) := ⟨⟨by decide +kernel, by decide +kernel⟩, List.mem_of_getElem? (i := 871) (by decide +kernel), List.mem_of_getElem? (i := 1185) (by decide +kernel), List.mem_of_getElem? (i := 1186) (by decide +kernel)⟩
theorem lw_p60 : lw_okq (⟨"EscrowCounterModel", "takes", "(I)Z"⟩, 15) := ⟨⟨by decide +kernel, by decide +kernel⟩, List.mem_of_getElem? (i := 871) (by decide +kernel), List.mem_of_getElem? (i := 1189) (by decide +kernel), List.mem_of_getElem? (i := 1190) (by decide +kernel)⟩
theorem lw_p61 : lw_okq (⟨"EscrowCounterModel", "does", "(I)Z"⟩, 15) := ⟨⟨by decide +kernel, by decide +kernel⟩, List.mem_of_getElem? (i := 871) (by decide +kernel), List.mem_of_getElem? (i := 1193) (by decide +kernel), List.mem_of_getElem? (i := 1194) (by decide +kernel)⟩
theorem lw_p62 : lw_okq (⟨"EscrowCounterModel", "passesOn", "(II)Z"⟩, 15) := ⟨⟨by decide +kernel, by decide +kernel⟩, List.mem_of_getElem? (i := 871) (by decide +kernel), List.mem_of_getElem? (i := 1197) (by decide +kernel), List.mem_of_getElem? (i := 1198) (by decide +kernel)⟩
theorem lw_p63 : lw_okq (⟨"EscrowCounterModel", "keepsAside", "()V"⟩, 15) := ⟨⟨by decide +kernel, by decide +kernel⟩, List.mem_of_getElem? (i := 871) (by decide +kernel), List.mem_of_getElem? (i := 1201) (by decide +kernel), List.mem_of_getElem? (i := 1202) (by decide +kernel)⟩
def lw_privs_4 : List (MethodName × Nat) := [(⟨"EscrowCounterModel", "isMessage", "(I)Z"⟩, 15), (⟨"EscrowCounterModel", "arrives", "(I)I"⟩, 15), (⟨"EscrowCounterModel", "goes", "(I)V"⟩, 15), (⟨"EscrowCounterModel", "knownBy", "(I)I"⟩, 15), (⟨"EscrowCounterModel", "isWrong", "(II)Z"⟩, 15), (⟨"EscrowCounterModel", "isTwo", "(II)Z"⟩, 15), (⟨"EscrowCounterModel", "ofLoan", "(II)I"⟩, 15), (⟨"EscrowCounterModel", "readsScript", "()Z"⟩, 15), (⟨"EscrowCounterModel", "readsCommand", "()Z"⟩, 15), (⟨"EscrowCounterModel", "sign", "()I"⟩, 15), (⟨"EscrowCounterModel", "readsNumber", "()Z"⟩, 15), (⟨"EscrowCounterModel", "readsSite", "()Z"⟩, 15), (⟨"EscrowCounterModel", "takes", "(I)Z"⟩, 15), (⟨"EscrowCounterModel", "does", "(I)Z"⟩, 15), (⟨"EscrowCounterModel", "passesOn", "(II)Z"⟩, 15), (⟨"EscrowCounterModel", "keepsAside", "()V"⟩, 15)]
theorem lw_r4 : ∀ q ∈ lw_privs_4, lw_okq q := List.forall_mem_cons.mpr ⟨lw_p48, List.forall_mem_cons.mpr ⟨lw_p49, List.forall_mem_cons.mpr ⟨lw_p50, List.forall_mem_cons.mpr ⟨lw_p51, List.forall_mem_cons.mpr ⟨lw_p52, List.forall_mem_cons.mpr ⟨lw_p53, List.forall_mem_cons.mpr ⟨lw_p54, List.forall_mem_cons.mpr ⟨lw_p55, List.forall_mem_cons.mpr ⟨lw_p56, List.forall_mem_cons.mpr ⟨lw_p57, List.forall_mem_cons.mpr ⟨lw_p58, List.forall_mem_cons.mpr ⟨lw_p59, List.forall_mem_cons.mpr ⟨lw_p60, List.forall_mem_cons.mpr ⟨lw_p61, List.forall_mem_cons.mpr ⟨lw_p62, List.forall_mem_cons.mpr ⟨lw_p63, fun _ h => absurd h List.not_mem_nil⟩⟩⟩⟩⟩⟩⟩⟩⟩⟩⟩⟩⟩⟩⟩⟩
def lw_privs : List (MethodName × Nat) := lw_privs_1 ++ (lw_privs_2 ++ (lw_privs_3 ++ (lw_privs_4)))
def lw_tbl : List Cond := k2_sels lw_privs ++ tables_1
theorem lw_privs_ok : ∀ q ∈ lw_privs, lw_okq q := by
  show ∀ q ∈ lw_privs_1 ++ (lw_privs_2 ++ (lw_privs_3 ++ (lw_privs_4))), lw_okq q
  exact List.forall_mem_append.mpr ⟨lw_r1, List.forall_mem_append.mpr ⟨lw_r2, List.forall_mem_append.mpr ⟨lw_r3, lw_r4⟩⟩⟩
end
section
/-! ===== BEGIN words of one list among another's, by their places ===== -/
theorem goodIn_r {big : List Cond} (ws : List Cond) (ps : List Nat) (hp : ws = ps.filterMap (fun i => big[i]?)) (h : ws.all goodWord = true) : GoodIn big ws := by
  intro w hw
  have h1 := List.all_eq_true.mp h w hw
  rw [hp] at hw
  obtain ⟨i, -, hi⟩ := List.mem_filterMap.mp hw
  have hm : w ∈ big := by first | exact List.mem_of_getElem? hi | exact List.getElem?_mem hi
  exact ⟨hm, good_of_word h1⟩
theorem goodIn_app {big a b : List Cond} (ha : GoodIn big a) (hb : GoodIn big b) : GoodIn big (a ++ b) := fun w h => (List.mem_append.mp h).elim (ha w) (hb w)
theorem goodIn_ca {big a b : List Cond} {c : Cond} (ha : GoodIn big (c :: a)) (hb : GoodIn big b) : GoodIn big (c :: (a ++ b)) := fun w h => (List.mem_cons.mp h).elim (fun e => ha w (List.mem_cons.mpr (Or.inl e))) (fun h => (List.mem_append.mp h).elim (fun h => ha w (List.mem_cons.mpr (Or.inr h))) (hb w))
theorem goodIn_sub {big ws : List Cond} (hm : ∀ w ∈ ws, w ∈ big) (h : ws.all goodWord = true) : GoodIn big ws := fun w hw => ⟨hm w hw, good_of_word (List.all_eq_true.mp h w hw)⟩
/-! ===== END ===== -/
/-! ===== BEGIN exceptions that leave a method, and their catching by the caller (launches without stack traces) ===== -/
section VXA
/-! The laws vx_back, vx_callV, vx_callS, vx_callSW, vx_throw0, vx_throwS follow proofs of the library, with one case more: JvmDerived/Free/Laws.lean (Back.of_free), Shelf42/LK1.lean (callV, callS), Shelf/KitTraced.lean (throwNew0V, throwNewS). -/
/-- where a method has thrown q: the class by its name, the cell, what was written, the world -/
def vx_T (XC : String → State → State → Prop) (st : State) (q : Addr) (t : State) (mc ms : Nat) (free : Addr → Prop) : Prop :=
  ∃ (E : String) (ce : Cell) (L : List Loc), XC E st t ∧ t.heap[q]? = some ce ∧ ce.vm = .none ∧ st.vm.findClass E = some ce.cls ∧ st.WarmedH t.vm ∧ st.sameButNew ({ t with vm := st.vm } : State) L mc ms ∧ ∀ z ∈ L, free z.base
def vx_Q (Qc : Array Value → State → Outcome → State → Prop) (XC : String → State → State → Prop) (mc ms : Nat) (free : Addr → Prop) : Array Value → State → Outcome → State → Prop := fun a st o t =>
  (Qc a st o t ∧ ∃ L, FrameEnd st o t L mc ms ∧ ∀ q ∈ L, free q.base) ∨ ∃ q, o = .threw q ∧ vx_T XC st q t mc ms free
/-- a callee that returns or throws -/
def vx_Met (l : Launch) (y : MethodName) (ws : List Cond) (rm : Room) (Pc : Array Value → State → Prop) (Qc : Array Value → State → Outcome → State → Prop) (XC : String → State → State → Prop) (mc ms : Nat) (free : Addr → Prop) : Prop :=
  MetFree l y (headSpec ws rm) Pc (fun _ _ _ _ _ => True) (vx_Q Qc XC mc ms free)
def vx_Post (XC : String → State → State → Prop) (mc ms : Nat) (free : Addr → Prop) : Pt → Array Value → Addr → Pt → Prop := fun A a q B =>
  ∃ (g : JFrame) (mk : MethodId) (t : State) (L : List Loc) (E : String) (ce : Cell), B.U.heap = t.heap ∧ B.U.vm = t.vm ∧ XC E (A.U.calling g mk a) t ∧ t.heap[q]? = some ce ∧ ce.vm = .none ∧ A.U.vm.findClass E = some ce.cls ∧ B.locs = A.locs ++ L ∧ (∀ z ∈ L, free z.base) ∧ B.cells = A.cells + mc ∧ B.slots = A.slots + ms
def vx_Back (l : Launch) (R : Room) (p : Program) (e : Env) (below : List Frame) (s : State) (sargs : Array Value) (y : MethodName) (len W9 : Nat)
    (Pre : Pt → Array Value → Prop) (Post : Pt → Array Value → Option Value → Pt → Prop) (PostX : Pt → Array Value → Addr → Pt → Prop) : Prop :=
  ∀ (m : MethodId) (meth : Method) (c : Code) (A : Pt) (g : JFrame) (ig : Instr) (mk : MethodId) (a : Array Value),
    Stand p l e R s m sargs below meth c A.U A.locs A.cells A.slots → g.method = m → g.locals.size = c.maxLocals → decode c.code g.pc = .ok (ig, len) →
    2 * g.monitorRoom + (g.stack.map fun v => v.category).sum ≤ W9 → A.U.methodNamed? y = some mk → Pre A a →
    (∃ (v : Option Value) (B : Pt), Stand p l e R s m sargs below meth c B.U B.locs B.cells B.slots ∧ Post A a v B ∧
      Steps p.tables e below (doInvoke e (A.U.setTop g) [] mk a).1 (B.U.setTop { g with pc := g.pc + len, stack := v.toList ++ g.stack })) ∨
    (∃ (q : Addr) (B : Pt), Stand p l e R s m sargs below meth c B.U B.locs B.cells B.slots ∧ PostX A a q B ∧
      Steps p.tables e below (doInvoke e (A.U.setTop g) [] mk a).1 ((B.U.setTop g).pushFrame (.throwing q)))
section Payer
variable {l : Launch} {R : Room} {p : Program} {e : Env} {below : List Frame} {s : State} {sargs : Array Value} {y : MethodName} {len W9 : Nat}
theorem vx_back {ws : List Cond} {rm : Room} {Pc : Array Value → State → Prop} {Qc : Array Value → State → Outcome → State → Prop} {XC : String → State → State → Prop} {mc ms : Nat} {free : Addr → Prop} {bytes : ByteArray} {maxL : Nat} {ret : Option FieldType}
    (hM : vx_Met l y ws rm Pc Qc XC mc ms free) (hblind : FrameBlind Pc) (hrc : rm.cells = mc) (hrs : rm.slots = ms)
    (hframes : rm.frames + 1 ≤ R.frames) (hlocals : W9 + (maxL + 11) + rm.locals ≤ R.locals)
    (hws : ∀ w ∈ ws, ∀ a' U, s.WarmedH U.vm → w.before a' U = true) (hcode : Cond.code y bytes maxL ret ∈ ws) (hinit : ∀ a' U, s.WarmedH U.vm → (Cond.initialized y.cls).before a' U = true) :
    vx_Back l R p e below s sargs y len W9 (PreOf R mc ms Pc) (PostOf Qc mc ms free) (vx_Post XC mc ms free) := by
  intro m meth c A g ig mk a X hg hsize hdg hW hn hp
  have h1 : (headSpec ws rm).pre.before a A.U = true := atoms_intro fun w hw => hws w hw _ _ X.warmed
  have h2 : (Cond.code y bytes maxL ret).before a A.U = true := hws _ hcode _ _ X.warmed
  have h3 : (Cond.initialized y.cls).before a A.U = true := hinit _ _ X.warmed
  have h4 : A.cells + (headSpec ws rm).room.cells ≤ R.cells := by rw [show (headSpec ws rm).room.cells = mc from hrc]; exact hp.1
  have h5 : A.slots + (headSpec ws rm).room.slots ≤ R.slots := by rw [show (headSpec ws rm).room.slots = ms from hrs]; exact hp.2.1
  have hPc : Pc a (A.U.calling g mk a) := hblind _ _ _ _ hp.2.2
  obtain ⟨U, Ls, c0, s0⟩ := A
  dsimp only [Pt.U, Pt.locs, Pt.cells, Pt.slots] at h1 h2 h3 h4 h5 X hn hPc ⊢
  obtain ⟨methY, cY, hmY, hcY, -, hlY, -, -, -, -⟩ := Cond.code_spec hn h2
  obtain ⟨kY, hkY, -⟩ := className_of_methodNamed hn
  have hinitY : kY.init = .initialized := Cond.initialized_spec (findClass_of_methodNamed hn) hkY h3
  have h : At U g.method c below := by rw [hg]; exact X.here
  have hlocals9 : W9 + (maxL + 11) + (headSpec ws rm).room.locals ≤ R.locals := hlocals
  have happ : (headSpec ws rm).appliesLoose y e.platform (U.calling g mk a) = true :=
    Spec.appliesLoose_calling (g := g) h hdg hn hkY hinitY
      (X.room_calling (g := g) (R' := (headSpec ws rm).room) hsize hmY hcY hframes (by rw [hlY]; omega) h4 h5) h1
  obtain ⟨mid, hmid⟩ := h.above
  have hfr : (U.setTop g).frames = (.java g :: mid) ++ below := by rw [State.frames_setTop' g h.top, hmid]; rfl
  obtain ⟨o, s₂, hsteps, -, hend, hq⟩ := Steps.callFree hM p X.admits X.cas X.clock (acts := []) hfr happ hPc trivial
  have hq' : vx_Q Qc XC mc ms free a (U.calling g mk a) o s₂ := hq
  rw [State.frames_setTop' g h.top] at hend
  obtain ⟨g₀, hg0⟩ := Option.isSome_iff_exists.mp h.top
  obtain ⟨r, hr⟩ := State.topJava?_eq_some.mp hg0
  have hr' : (({ U with heap := s₂.heap, slotsUsed := s₂.slotsUsed } : State).setVm s₂.vm).frames = .java g₀ :: r := hr
  rcases hq' with ⟨hqc, L, hfe, hL⟩ | ⟨q, rfl, E, ce, L, hx, hce, hcv, hcl, hW₂, hsm, hL⟩
  · obtain ⟨⟨v, rfl⟩, hW₂, e2, q2, q3, q4, q5, q6⟩ := id hfe
    have e3 : s₂ = ({ (U.calling g mk a).setFrames s₂.frames with heap := s₂.heap, slotsUsed := s₂.slotsUsed } : State).setVm s₂.vm := by
      have : s₂ = ({ s₂ with vm := (U.calling g mk a).vm } : State).setVm s₂.vm := rfl
      rw [e2] at this
      exact this
    obtain ⟨c₂, i₂, len₂, hc₂, hd₂, hf₂⟩ := hend
    have hW' : U.WarmedH s₂.vm := hW₂
    have hcc : c₂ = c := by
      have h1 : s₂.code? g.method = U.code? g.method := by
        rw [State.code?_eq, State.code?_eq, hW'.alike.method?]
      exact Option.some.inj (hc₂.symm.trans (h1.trans h.code))
    subst hcc
    have hlen : len₂ = len := by rw [hdg] at hd₂; cases hd₂; rfl
    subst hlen
    have hs₂ : s₂ = (({ U with heap := s₂.heap, slotsUsed := s₂.slotsUsed } : State).setVm s₂.vm).setTop { g with pc := g.pc + len₂, stack := v.toList ++ g.stack } := by
      refine e3.trans ?_
      rw [hf₂, State.calling_eq h.top, State.setFrames_setFrames, State.setTop_of_frames _ hr', hr]
      rfl
    have hsame : U.sameButNew ({ U with heap := s₂.heap, slotsUsed := s₂.slotsUsed } : State) L mc ms := by
      refine ⟨?_, q2, q3, q4, q5, q6⟩
      obtain ⟨t, ht, -⟩ := State.frames_cons hr
      show ({ U with heap := s₂.heap, slotsUsed := s₂.slotsUsed } : State) = { U.setFrames U.frames with heap := s₂.heap, slotsUsed := s₂.slotsUsed }
      rw [State.setFrames_self ht]
    subst hg
    refine Or.inl ⟨v, ⟨(({ U with heap := s₂.heap, slotsUsed := s₂.slotsUsed } : State).setVm s₂.vm), Ls ++ L, c0 + mc, s0 + ms⟩,
      ⟨X.admits, X.cas, X.clock, X.frames, X.room, X.hears, X.method, X.code, (X.here.setHeapUsed s₂.heap s₂.slotsUsed).setVm hW'.alike, X.tail, State.WarmedH.trans X.warmed hW', X.limits, X.bytes, X.same.trans (hsame.setVm s.vm)⟩,
      ⟨g, mk, s₂, L, rfl, rfl, hqc, rfl, hL, rfl, rfl⟩, ?_⟩
    show Steps p.tables e below _ ((({ U with heap := s₂.heap, slotsUsed := s₂.slotsUsed } : State).setVm s₂.vm).setTop { g with pc := g.pc + len₂, stack := v.toList ++ g.stack })
    rw [← hs₂]
    exact hsteps
  · obtain ⟨e2, q2, q3, q4, q5, q6⟩ := id hsm
    have e3 : s₂ = ({ (U.calling g mk a).setFrames s₂.frames with heap := s₂.heap, slotsUsed := s₂.slotsUsed } : State).setVm s₂.vm := by
      have : s₂ = ({ s₂ with vm := (U.calling g mk a).vm } : State).setVm s₂.vm := rfl
      rw [e2] at this
      exact this
    have hf₂ : s₂.frames = .throwing q :: .java g :: U.frames.tail := hend
    have hW' : U.WarmedH s₂.vm := hW₂
    have hs₂ : s₂ = ((({ U with heap := s₂.heap, slotsUsed := s₂.slotsUsed } : State).setVm s₂.vm).setTop g).pushFrame (.throwing q) := by
      refine e3.trans ?_
      rw [hf₂, State.calling_eq h.top, State.setFrames_setFrames, State.pushFrame, State.frames_setTop _ hr', State.setTop_of_frames _ hr', State.setFrames_setFrames, hr]
      rfl
    have hsame : U.sameButNew ({ U with heap := s₂.heap, slotsUsed := s₂.slotsUsed } : State) L mc ms := by
      refine ⟨?_, q2, q3, q4, q5, q6⟩
      obtain ⟨t, ht, -⟩ := State.frames_cons hr
      show ({ U with heap := s₂.heap, slotsUsed := s₂.slotsUsed } : State) = { U.setFrames U.frames with heap := s₂.heap, slotsUsed := s₂.slotsUsed }
      rw [State.setFrames_self ht]
    subst hg
    refine Or.inr ⟨q, ⟨(({ U with heap := s₂.heap, slotsUsed := s₂.slotsUsed } : State).setVm s₂.vm), Ls ++ L, c0 + mc, s0 + ms⟩,
      ⟨X.admits, X.cas, X.clock, X.frames, X.room, X.hears, X.method, X.code, (X.here.setHeapUsed s₂.heap s₂.slotsUsed).setVm hW'.alike, X.tail, State.WarmedH.trans X.warmed hW', X.limits, X.bytes, X.same.trans (hsame.setVm s.vm)⟩,
      ⟨g, mk, s₂, L, E, ce, rfl, rfl, hx, hce, hcv, hcl, rfl, hL, rfl, rfl⟩, ?_⟩
    show Steps p.tables e below _ (((({ U with heap := s₂.heap, slotsUsed := s₂.slotsUsed } : State).setVm s₂.vm).setTop g).pushFrame (.throwing q))
    rw [← hs₂]
    exact hsteps
end Payer
section Calls
variable {p : Program} {l : Launch} {e : Env} {R : Room} {s : State} {m : MethodId} {args : Array Value} {below : List Frame} {meth : Method} {c : Code} {T : State} {locs : List Loc} {cells slots : Nat}
theorem vx_callV (X : Stand p l e R s m args below meth c T locs cells slots) (hexec : p.tables.exec = Jvm.exec) {own C : String} {index : Nat} {y : MethodName} {bytes : ByteArray} {maxL : Nat} {ret : Option FieldType}
    (hown : s.vm.findClass own = some m.cls) (hlink : (Cond.methodLink own index y).before args s = true) (hinst : (Cond.instanceMethod y).before args s = true) (hsel : (Cond.selects C y y).before args s = true)
    (hcode : (Cond.code y bytes maxL ret).before args s = true) (hy : y.cls ≠ "java/lang/invoke/MethodHandle" ∧ y.cls ≠ "java/lang/invoke/VarHandle")
    {W9 : Nat} {Pre : Pt → Array Value → Prop} {Post : Pt → Array Value → Option Value → Pt → Prop} {PostX : Pt → Array Value → Addr → Pt → Prop} (hK : vx_Back l R p e below s args y 3 W9 Pre Post PostX)
    {b : Addr} {cellB : Cell} (hcell : T.heap[b]? = some cellB) (hobj : cellB.vm.isStatics = false) (hcls : s.vm.findClass C = some cellB.cls)
    {g : JFrame} (hg : g.method = m) (hsize : g.locals.size = c.maxLocals) {argsL rest : List Value} (hlen : ∀ sig, parseMethodDescriptor y.desc = some sig → argsL.length = sig.parameters.length)
    (hstack : g.stack = argsL.reverse ++ .ref b :: rest) (hW : 2 * g.monitorRoom + (rest.map fun v => v.category).sum ≤ W9) (hdg : decode c.code g.pc = .ok (.invokevirtual index, 3))
    (hpre : ∀ vm₁, s.WarmedH vm₁ → Pre ⟨T.setVm vm₁, locs, cells, slots⟩ (Value.ref b :: argsL).toArray) :
    (∃ (v : Option Value) (vm₁ : Vm) (B : Pt), s.WarmedH vm₁ ∧ Stand p l e R s m args below meth c B.U B.locs B.cells B.slots ∧ Post ⟨T.setVm vm₁, locs, cells, slots⟩ (Value.ref b :: argsL).toArray v B ∧
      ∀ target, Steps p.tables e below (B.U.setTop { g with pc := g.pc + 3, stack := v.toList ++ rest }) target → Steps p.tables e below (T.setTop g) target) ∨
    (∃ (q : Addr) (vm₁ : Vm) (B : Pt), s.WarmedH vm₁ ∧ Stand p l e R s m args below meth c B.U B.locs B.cells B.slots ∧ PostX ⟨T.setVm vm₁, locs, cells, slots⟩ (Value.ref b :: argsL).toArray q B ∧
      Steps p.tables e below (T.setTop g) ((B.U.setTop { g with stack := rest }).pushFrame (.throwing q))) := by
  obtain ⟨mk, methM, hnamed, hmethM, hstM, habM⟩ := Cond.instanceMethod_spec hinst
  obtain ⟨methM', cM, hmethM', -, -, -, -, -, -, hsigM⟩ := Cond.code_spec hnamed hcode
  cases hmethM.symm.trans hmethM'
  obtain ⟨c2, r2, m2, q1, q2, q3, q4, kP, hkP, hkPi⟩ := Cond.selects_spec hsel
  cases hcls.symm.trans q1
  cases (State.methodFound?_of_named hnamed hy).symm.trans q2
  cases hnamed.symm.trans q3
  have hselP : selectMethod e.platform s.vm cellB.cls mk = .method mk := by rw [Launch.admits_selectMethod X.admits]; exact q4
  obtain ⟨vm₁, X₁, hstep₁⟩ := X.invokevirtual hexec hown hlink hnamed hmethM hstM hkP hkPi hy (a := b) (cell := cellB) hcell
    (fun z h => by rw [h] at hobj; cases hobj) hselP hmethM habM hkP hkPi (g := g) hg (argsL := argsL) (rest := rest) (hlen _ hsigM) hstack hdg
  rcases hK m meth c ⟨T.setVm vm₁, locs, cells, slots⟩ { g with stack := rest } (.invokevirtual index) mk (Value.ref b :: argsL).toArray X₁ hg hsize hdg hW (X₁.named hnamed) (hpre vm₁ X₁.warmed) with ⟨v, B, X', hpost, hsteps⟩ | ⟨q, B, X', hpost, hsteps⟩
  · exact Or.inl ⟨v, vm₁, B, X₁.warmed, X', hpost, fun target h => hstep₁ _ fun acts => by rw [doInvoke_state]; exact hsteps.trans h⟩
  · exact Or.inr ⟨q, vm₁, B, X₁.warmed, X', hpost, hstep₁ _ fun acts => by rw [doInvoke_state]; exact hsteps⟩
theorem vx_callS (X : Stand p l e R s m args below meth c T locs cells slots) (hexec : p.tables.exec = Jvm.exec) {own : String} {index : Nat} {y : MethodName} {bytes : ByteArray} {maxL : Nat} {ret : Option FieldType}
    (hown : s.vm.findClass own = some m.cls) (hlink : (Cond.methodLink own index y).before args s = true) (hstat : (Cond.static y).before args s = true) (hinit : (Cond.initialized y.cls).before args s = true)
    (hcode : (Cond.code y bytes maxL ret).before args s = true) (hy : y.cls ≠ "java/lang/invoke/MethodHandle" ∧ y.cls ≠ "java/lang/invoke/VarHandle")
    {W9 : Nat} {Pre : Pt → Array Value → Prop} {Post : Pt → Array Value → Option Value → Pt → Prop} {PostX : Pt → Array Value → Addr → Pt → Prop} (hK : vx_Back l R p e below s args y 3 W9 Pre Post PostX)
    {g : JFrame} (hg : g.method = m) (hsize : g.locals.size = c.maxLocals) {argsL rest : List Value} (hlen : ∀ sig, parseMethodDescriptor y.desc = some sig → argsL.length = sig.parameters.length)
    (hstack : g.stack = argsL.reverse ++ rest) (hW : 2 * g.monitorRoom + (rest.map fun v => v.category).sum ≤ W9) (hdg : decode c.code g.pc = .ok (.invokestatic index, 3))
    (hpre : ∀ vm₁, s.WarmedH vm₁ → Pre ⟨T.setVm vm₁, locs, cells, slots⟩ argsL.toArray) :
    (∃ (v : Option Value) (vm₁ : Vm) (B : Pt), s.WarmedH vm₁ ∧ Stand p l e R s m args below meth c B.U B.locs B.cells B.slots ∧ Post ⟨T.setVm vm₁, locs, cells, slots⟩ argsL.toArray v B ∧
      ∀ target, Steps p.tables e below (B.U.setTop { g with pc := g.pc + 3, stack := v.toList ++ rest }) target → Steps p.tables e below (T.setTop g) target) ∨
    (∃ (q : Addr) (vm₁ : Vm) (B : Pt), s.WarmedH vm₁ ∧ Stand p l e R s m args below meth c B.U B.locs B.cells B.slots ∧ PostX ⟨T.setVm vm₁, locs, cells, slots⟩ argsL.toArray q B ∧
      Steps p.tables e below (T.setTop g) ((B.U.setTop { g with stack := rest }).pushFrame (.throwing q))) := by
  obtain ⟨mk, hnamed⟩ := Cond.code_named hcode
  obtain ⟨methM, cM, hmethM, -, -, -, -, -, -, hsigM⟩ := Cond.code_spec hnamed hcode
  have hstatic : methM.isStatic = true := Cond.static_spec hnamed hmethM hstat
  obtain ⟨kP, hkP, -⟩ := className_of_methodNamed hnamed
  have hinitP : kP.init = .initialized := Cond.initialized_spec (findClass_of_methodNamed hnamed) hkP hinit
  obtain ⟨vm₁, X₁, hstep₁⟩ := X.invokestatic hexec hown hlink hnamed hmethM hstatic hkP hinitP hy (g := g) hg (argsL := argsL) (rest := rest) (hlen _ hsigM) hstack hdg
  rcases hK m meth c ⟨T.setVm vm₁, locs, cells, slots⟩ { g with stack := rest } (.invokestatic index) mk argsL.toArray X₁ hg hsize hdg hW (X₁.named hnamed) (hpre vm₁ X₁.warmed) with ⟨v, B, X', hpost, hsteps⟩ | ⟨q, B, X', hpost, hsteps⟩
  · exact Or.inl ⟨v, vm₁, B, X₁.warmed, X', hpost, fun target h => hstep₁ _ fun acts => by rw [doInvoke_state]; exact hsteps.trans h⟩
  · exact Or.inr ⟨q, vm₁, B, X₁.warmed, X', hpost, hstep₁ _ fun acts => by rw [doInvoke_state]; exact hsteps⟩
end Calls
theorem vx_cls {s : State} {T : State} {vm₁ : Vm} {E : String} {k : ClassId} (hW : s.WarmedH vm₁) (h : (T.setVm vm₁).vm.findClass E = some k) : s.vm.findClass E = some k := by
  have h1 : vm₁.findClass E = some k := h
  rw [hW.alike.findClass] at h1
  exact h1
/-- the method's frame g, with q thrown over it -/
def vx_W (p : Program) (l : Launch) (e : Env) (R : Room) (s : State) (m : MethodId) (args : Array Value) (below : List Frame) (meth : Method) (c : Code) (H : Heap) (locs : List Loc) (cells slots : Nat) (Q : State → Prop) (g : JFrame) (q : Addr) : Prop :=
  ∀ T : State, T.heap = H → Stand p l e R s m args below meth c T locs cells slots → ∃ t, Steps p.tables e below ((T.setTop g).pushFrame (.throwing q)) t ∧ Q t
def vx_Run (p : Program) (l : Launch) (e : Env) (R : Room) (s : State) (m : MethodId) (args : Array Value) (below : List Frame) (meth : Method) (c : Code) (H : Heap) (locs : List Loc) (cells slots mc ms : Nat) (g : JFrame) (rest : List Value) (Qa : State → Outcome → State → Prop) (XC : String → State → State → Prop) (free : Addr → Prop) : Prop :=
  ∀ T : State, T.heap = H → Stand p l e R s m args below meth c T locs cells slots →
    (∃ (v : Option Value) (st₀ t T' : State) (L : List Loc), st₀.heap = H ∧ Stand p l e R s m args below meth c T' (locs ++ L) (cells + mc) (slots + ms) ∧ (∀ q ∈ L, free q.base) ∧ T'.heap = t.heap ∧ T'.vm = t.vm ∧ Qa st₀ (.returned v) t ∧
      Goes p e below T g T' { g with pc := g.pc + 3, stack := v.toList ++ rest }) ∨
    (∃ (q : Addr) (st₀ t T' : State) (L : List Loc) (E : String) (ce : Cell), st₀.heap = H ∧ Stand p l e R s m args below meth c T' (locs ++ L) (cells + mc) (slots + ms) ∧ (∀ z ∈ L, free z.base) ∧ T'.heap = t.heap ∧ T'.vm = t.vm ∧ XC E st₀ t ∧ t.heap[q]? = some ce ∧ ce.vm = .none ∧ s.vm.findClass E = some ce.cls ∧
      Steps p.tables e below (T.setTop g) ((T'.setTop { g with stack := rest }).pushFrame (.throwing q)))
def vx_X {S : Type} (px : S → Prop) (B : String → S → State → Prop) (A : Nat → Prop) : String → State → State → Prop := fun E st t => ∃ u : S, px u ∧ B E u t ∧ va_F A st t
section Runs
variable {p : Program} {l : Launch} {e : Env} {R : Room} {s : State} {m : MethodId} {args : Array Value} {below : List Frame} {meth : Method} {c : Code} {H : Heap} {locs : List Loc} {cells slots : Nat}
variable {y : MethodName} {bytes cc : ByteArray} {maxL nL mc ms n index : Nat} {ret : Option FieldType} {ws : List Cond} {rm : Room} {Pc : Array Value → State → Prop} {Qc : Array Value → State → Outcome → State → Prop} {XC : String → State → State → Prop} {free : Addr → Prop} {Ts : List Cond} {own C : String} {b : Addr} {As rest : List Value} {g : JFrame}
theorem vx_callBack (cb : CallB R s args own index y bytes maxL ret ws rm mc ms n) (hM : vx_Met l y ws rm Pc Qc XC mc ms free) (hbl : FrameBlind Pc) : vx_Back l R p e below s args y 3 8 (PreOf R mc ms Pc) (PostOf Qc mc ms free) (vx_Post XC mc ms free) := by
  obtain ⟨hrc, hrs, hfr, hlo, hws, hcw, -, hini, -⟩ := cb
  exact vx_back (bytes := bytes) (maxL := maxL) (ret := ret) hM hbl hrc hrs hfr hlo hws hcw (fun a' U hW => word_at hW (Or.inl (by first | rfl | simp [Cond.onTables, Cond.keeps, Cond.steady])) hini)
theorem vx_runV (S : CallFix p m c cc nL s args Ts own) (hM : vx_Met l y ws rm Pc Qc XC mc ms free) (cw : CallW R s args own C index y bytes maxL ret ws rm mc ms n) (hp : PreV s H C b Pc As)
    (hg : g.method = m) (hn : As.length = n) (hsize : g.locals.size = nL) (hstack : g.stack = As.reverse ++ .ref b :: rest) (hW : 2 * g.monitorRoom + (rest.map fun v => v.category).sum ≤ 8) (hdg : decode cc g.pc = .ok (.invokevirtual index, 3)) (hf : cells + mc ≤ R.cells ∧ slots + ms ≤ R.slots) :
    vx_Run p l e R s m args below meth c H locs cells slots mc ms g rest (Qc (Value.ref b :: As).toArray) XC free := by
  have hK : vx_Back l R p e below s args y 3 8 (PreOf R mc ms Pc) (PostOf Qc mc ms free) (vx_Post XC mc ms free) := vx_callBack cw.1 hM hp.1
  obtain ⟨⟨-, -, -, -, -, -, hcode, -, hy, hlen, hl⟩, hin, hse⟩ := cw
  obtain ⟨hx, hb, hml, ho, -⟩ := S
  obtain ⟨-, ⟨cellB, hcB, hoB, hclB⟩, hPc⟩ := hp
  intro T hT X
  rcases vx_callV X hx (C := C) (bytes := bytes) (maxL := maxL) (ret := ret) ho hl hin hse hcode hy hK (by rw [hT]; exact hcB) hoB hclB hg (hsize.trans hml.symm) (argsL := As) (rest := rest) (fun sig h => hn.trans (hlen sig h)) hstack hW (by rw [hb]; exact hdg)
    (fun vm₁ hW₁ => ⟨hf.1, hf.2, hPc (T.setVm vm₁) hT hW₁⟩) with ⟨v, vm₁, ⟨U', l2, c2, s2⟩, hW₁, X', ⟨g', mk, t, L, e1, e2, hq, h1, hL, h2, h3⟩, st⟩ | ⟨q, vm₁, ⟨U', l2, c2, s2⟩, hW₁, X', ⟨g', mk, t, L, E, ce, e1, e2, hq, hce, hcv, hcl, h1, hL, h2, h3⟩, st⟩
  · dsimp only [Pt.U, Pt.locs, Pt.cells, Pt.slots] at X' e1 e2 h1 h2 h3 st
    subst h1; subst h2; subst h3
    exact Or.inl ⟨v, (T.setVm vm₁).calling g' mk (Value.ref b :: As).toArray, t, U', L, hT, X', hL, e1, e2, hq, st⟩
  · dsimp only [Pt.U, Pt.locs, Pt.cells, Pt.slots] at X' e1 e2 h1 h2 h3 st hcl
    subst h1; subst h2; subst h3
    exact Or.inr ⟨q, (T.setVm vm₁).calling g' mk (Value.ref b :: As).toArray, t, U', L, E, ce, hT, X', hL, e1, e2, hq, hce, hcv, vx_cls hW₁ hcl, st⟩
theorem vx_runS (S : CallFix p m c cc nL s args Ts own) (hM : vx_Met l y ws rm Pc Qc XC mc ms free) (cw : CallB R s args own index y bytes maxL ret ws rm mc ms n ∧ (Cond.static y).before args s = true) (hp : PreS s H Pc As)
    (hg : g.method = m) (hn : As.length = n) (hsize : g.locals.size = nL) (hstack : g.stack = As.reverse ++ rest) (hW : 2 * g.monitorRoom + (rest.map fun v => v.category).sum ≤ 8) (hdg : decode cc g.pc = .ok (.invokestatic index, 3)) (hf : cells + mc ≤ R.cells ∧ slots + ms ≤ R.slots) :
    vx_Run p l e R s m args below meth c H locs cells slots mc ms g rest (Qc As.toArray) XC free := by
  have hK : vx_Back l R p e below s args y 3 8 (PreOf R mc ms Pc) (PostOf Qc mc ms free) (vx_Post XC mc ms free) := vx_callBack cw.1 hM hp.1
  obtain ⟨⟨-, -, -, -, -, -, hcode, hini, hy, hlen, hl⟩, hstt⟩ := cw
  obtain ⟨hx, hb, hml, ho, -⟩ := S
  intro T hT X
  rcases vx_callS X hx (bytes := bytes) (maxL := maxL) (ret := ret) ho hl hstt hini hcode hy hK hg (hsize.trans hml.symm) (argsL := As) (rest := rest) (fun sig h => hn.trans (hlen sig h)) hstack hW (by rw [hb]; exact hdg)
    (fun vm₁ hW₁ => ⟨hf.1, hf.2, hp.2 (T.setVm vm₁) hT hW₁⟩) with ⟨v, vm₁, ⟨U', l2, c2, s2⟩, hW₁, X', ⟨g', mk, t, L, e1, e2, hq, h1, hL, h2, h3⟩, st⟩ | ⟨q, vm₁, ⟨U', l2, c2, s2⟩, hW₁, X', ⟨g', mk, t, L, E, ce, e1, e2, hq, hce, hcv, hcl, h1, hL, h2, h3⟩, st⟩
  · dsimp only [Pt.U, Pt.locs, Pt.cells, Pt.slots] at X' e1 e2 h1 h2 h3 st
    subst h1; subst h2; subst h3
    exact Or.inl ⟨v, (T.setVm vm₁).calling g' mk As.toArray, t, U', L, hT, X', hL, e1, e2, hq, st⟩
  · dsimp only [Pt.U, Pt.locs, Pt.cells, Pt.slots] at X' e1 e2 h1 h2 h3 st hcl
    subst h1; subst h2; subst h3
    exact Or.inr ⟨q, (T.setVm vm₁).calling g' mk As.toArray, t, U', L, E, ce, hT, X', hL, e1, e2, hq, hce, hcv, vx_cls hW₁ hcl, st⟩
end Runs
section Rows
variable {p : Program} {l : Launch} {e : Env} {R : Room} {s : State} {m : MethodId} {args : Array Value} {below : List Frame} {meth : Method} {c : Code} {H : Heap} {locs : List Loc} {cells slots : Nat} {Q : State → Prop}
variable {mc ms : Nat} {free : Addr → Prop} {A0 A1 : Nat → Prop} {H0 : Heap} {a : Array Value} {pc : Nat} {ls : Array Slot} {st0 rest : List Value}
theorem vx_keep {st₀ t T' : State} {L : List Loc} (h0 : st₀.heap = H) (e1 : T'.heap = t.heap) (hS : va_S A0 H0 H locs) (hA : ∀ q, q < H.size → A1 q → A0 q) (hf : ∀ q, free q → A0 q) (hL : ∀ q ∈ L, free q.base) (hF : va_F A1 st₀ t) :
    H.size ≤ T'.heap.size ∧ (∀ q : Nat, q < H.size → ¬ A1 q → T'.heap[q]? = H[q]?) ∧ va_S A0 H0 T'.heap (locs ++ L) := by
  obtain ⟨hz, hk⟩ := hF
  rw [h0] at hz hk
  exact ⟨by rw [e1]; exact hz, fun q h1 h2 => by rw [e1]; exact hk q h1 h2,
    ⟨Nat.le_trans hS.1 (by rw [e1]; exact hz), fun q h1 h2 => by rw [e1, hk q (Nat.lt_of_lt_of_le h1 hS.1) (fun z => h2 (hA q (Nat.lt_of_lt_of_le h1 hS.1) z))]; exact hS.2.1 q h1 h2, fun q hq => by
      rcases List.mem_append.mp hq with h | h
      · exact hS.2.2 q h
      · exact hf _ (hL q h)⟩⟩
theorem vx_calli {S SX : Type} {post : Int32 → S → Prop} {px : SX → Prop} {B : S → State → Prop} {BX : String → SX → State → Prop} {AX : Nat → Prop} (hr : vx_Run p l e R s m args below meth c H locs cells slots mc ms (F0 m pc ls st0) rest (va_Qi post B A1 a) (vx_X px BX AX) free) (hS : va_S A0 H0 H locs) (hA : ∀ q, q < H.size → A1 q → A0 q) (hf : ∀ q, free q → A0 q) (hAX : ∀ q, q < H.size → AX q → A0 q)
    (kx : ∀ (E : String) (ce : Cell) (q9 : Addr) (u : SX) (t : State) (H1 : Heap) (locs1 : List Loc), t.heap = H1 → s.vm.Alike t.vm → px u → BX E u t → H.size ≤ H1.size → (∀ q : Nat, q < H.size → ¬ AX q → H1[q]? = H[q]?) → va_S A0 H0 H1 locs1 → H1[q9]? = some ce → ce.vm = .none → s.vm.findClass E = some ce.cls → vx_W p l e R s m args below meth c H1 locs1 (cells + mc) (slots + ms) Q (F0 m pc ls rest) q9)
    (kk : ∀ (r : Int32) (u : S) (t : State) (H1 : Heap) (locs1 : List Loc), t.heap = H1 → s.vm.Alike t.vm → post r u → B u t → H.size ≤ H1.size → (∀ q : Nat, q < H.size → ¬ A1 q → H1[q]? = H[q]?) → va_S A0 H0 H1 locs1 → W p l e R s m args below meth c H1 locs1 (cells + mc) (slots + ms) Q (F0 m (pc + 3) ls (.int r :: rest))) : W p l e R s m args below meth c H locs cells slots Q (F0 m pc ls st0) := by
  intro T hT X
  rcases hr T hT X with ⟨v, st₀, t, T', L, h0, X', hL, e1, e2, ⟨⟨r, u, hv, hp, hb⟩, hF⟩, st⟩ | ⟨q, st₀, t, T', L, E, ce, h0, X', hL, e1, e2, ⟨u, hp, hb, hF⟩, hce, hcv, hcl, st⟩
  · cases hv
    obtain ⟨k1, k2, k3⟩ := vx_keep h0 e1 hS hA hf hL hF
    obtain ⟨t2, a1, b1⟩ := kk r u t T'.heap (locs ++ L) e1.symm (by rw [← e2]; exact X'.warmed.alike) hp hb k1 k2 k3 T' rfl X'
    exact ⟨t2, st t2 a1, b1⟩
  · obtain ⟨k1, k2, k3⟩ := vx_keep h0 e1 hS hAX hf hL hF
    obtain ⟨t2, a1, b1⟩ := kx E ce q u t T'.heap (locs ++ L) e1.symm (by rw [← e2]; exact X'.warmed.alike) hp hb k1 k2 k3 (by rw [e1]; exact hce) hcv hcl T' rfl X'
    exact ⟨t2, st.trans a1, b1⟩
theorem vx_calll {S SX : Type} {post : Int64 → S → Prop} {px : SX → Prop} {B : S → State → Prop} {BX : String → SX → State → Prop} {AX : Nat → Prop} (hr : vx_Run p l e R s m args below meth c H locs cells slots mc ms (F0 m pc ls st0) rest (va_Ql post B A1 a) (vx_X px BX AX) free) (hS : va_S A0 H0 H locs) (hA : ∀ q, q < H.size → A1 q → A0 q) (hf : ∀ q, free q → A0 q) (hAX : ∀ q, q < H.size → AX q → A0 q)
    (kx : ∀ (E : String) (ce : Cell) (q9 : Addr) (u : SX) (t : State) (H1 : Heap) (locs1 : List Loc), t.heap = H1 → s.vm.Alike t.vm → px u → BX E u t → H.size ≤ H1.size → (∀ q : Nat, q < H.size → ¬ AX q → H1[q]? = H[q]?) → va_S A0 H0 H1 locs1 → H1[q9]? = some ce → ce.vm = .none → s.vm.findClass E = some ce.cls → vx_W p l e R s m args below meth c H1 locs1 (cells + mc) (slots + ms) Q (F0 m pc ls rest) q9)
    (kk : ∀ (r : Int64) (u : S) (t : State) (H1 : Heap) (locs1 : List Loc), t.heap = H1 → s.vm.Alike t.vm → post r u → B u t → H.size ≤ H1.size → (∀ q : Nat, q < H.size → ¬ A1 q → H1[q]? = H[q]?) → va_S A0 H0 H1 locs1 → W p l e R s m args below meth c H1 locs1 (cells + mc) (slots + ms) Q (F0 m (pc + 3) ls (.long r :: rest))) : W p l e R s m args below meth c H locs cells slots Q (F0 m pc ls st0) := by
  intro T hT X
  rcases hr T hT X with ⟨v, st₀, t, T', L, h0, X', hL, e1, e2, ⟨⟨r, u, hv, hp, hb⟩, hF⟩, st⟩ | ⟨q, st₀, t, T', L, E, ce, h0, X', hL, e1, e2, ⟨u, hp, hb, hF⟩, hce, hcv, hcl, st⟩
  · cases hv
    obtain ⟨k1, k2, k3⟩ := vx_keep h0 e1 hS hA hf hL hF
    obtain ⟨t2, a1, b1⟩ := kk r u t T'.heap (locs ++ L) e1.symm (by rw [← e2]; exact X'.warmed.alike) hp hb k1 k2 k3 T' rfl X'
    exact ⟨t2, st t2 a1, b1⟩
  · obtain ⟨k1, k2, k3⟩ := vx_keep h0 e1 hS hAX hf hL hF
    obtain ⟨t2, a1, b1⟩ := kx E ce q u t T'.heap (locs ++ L) e1.symm (by rw [← e2]; exact X'.warmed.alike) hp hb k1 k2 k3 (by rw [e1]; exact hce) hcv hcl T' rfl X'
    exact ⟨t2, st.trans a1, b1⟩
theorem vx_callf {S SX : Type} {post : UInt32 → S → Prop} {px : SX → Prop} {B : S → State → Prop} {BX : String → SX → State → Prop} {AX : Nat → Prop} (hr : vx_Run p l e R s m args below meth c H locs cells slots mc ms (F0 m pc ls st0) rest (va_Qf post B A1 a) (vx_X px BX AX) free) (hS : va_S A0 H0 H locs) (hA : ∀ q, q < H.size → A1 q → A0 q) (hf : ∀ q, free q → A0 q) (hAX : ∀ q, q < H.size → AX q → A0 q)
    (kx : ∀ (E : String) (ce : Cell) (q9 : Addr) (u : SX) (t : State) (H1 : Heap) (locs1 : List Loc), t.heap = H1 → s.vm.Alike t.vm → px u → BX E u t → H.size ≤ H1.size → (∀ q : Nat, q < H.size → ¬ AX q → H1[q]? = H[q]?) → va_S A0 H0 H1 locs1 → H1[q9]? = some ce → ce.vm = .none → s.vm.findClass E = some ce.cls → vx_W p l e R s m args below meth c H1 locs1 (cells + mc) (slots + ms) Q (F0 m pc ls rest) q9)
    (kk : ∀ (r : UInt32) (u : S) (t : State) (H1 : Heap) (locs1 : List Loc), t.heap = H1 → s.vm.Alike t.vm → post r u → B u t → H.size ≤ H1.size → (∀ q : Nat, q < H.size → ¬ A1 q → H1[q]? = H[q]?) → va_S A0 H0 H1 locs1 → W p l e R s m args below meth c H1 locs1 (cells + mc) (slots + ms) Q (F0 m (pc + 3) ls (.float r :: rest))) : W p l e R s m args below meth c H locs cells slots Q (F0 m pc ls st0) := by
  intro T hT X
  rcases hr T hT X with ⟨v, st₀, t, T', L, h0, X', hL, e1, e2, ⟨⟨r, u, hv, hp, hb⟩, hF⟩, st⟩ | ⟨q, st₀, t, T', L, E, ce, h0, X', hL, e1, e2, ⟨u, hp, hb, hF⟩, hce, hcv, hcl, st⟩
  · cases hv
    obtain ⟨k1, k2, k3⟩ := vx_keep h0 e1 hS hA hf hL hF
    obtain ⟨t2, a1, b1⟩ := kk r u t T'.heap (locs ++ L) e1.symm (by rw [← e2]; exact X'.warmed.alike) hp hb k1 k2 k3 T' rfl X'
    exact ⟨t2, st t2 a1, b1⟩
  · obtain ⟨k1, k2, k3⟩ := vx_keep h0 e1 hS hAX hf hL hF
    obtain ⟨t2, a1, b1⟩ := kx E ce q u t T'.heap (locs ++ L) e1.symm (by rw [← e2]; exact X'.warmed.alike) hp hb k1 k2 k3 (by rw [e1]; exact hce) hcv hcl T' rfl X'
    exact ⟨t2, st.trans a1, b1⟩
theorem vx_calld {S SX : Type} {post : UInt64 → S → Prop} {px : SX → Prop} {B : S → State → Prop} {BX : String → SX → State → Prop} {AX : Nat → Prop} (hr : vx_Run p l e R s m args below meth c H locs cells slots mc ms (F0 m pc ls st0) rest (va_Qd post B A1 a) (vx_X px BX AX) free) (hS : va_S A0 H0 H locs) (hA : ∀ q, q < H.size → A1 q → A0 q) (hf : ∀ q, free q → A0 q) (hAX : ∀ q, q < H.size → AX q → A0 q)
    (kx : ∀ (E : String) (ce : Cell) (q9 : Addr) (u : SX) (t : State) (H1 : Heap) (locs1 : List Loc), t.heap = H1 → s.vm.Alike t.vm → px u → BX E u t → H.size ≤ H1.size → (∀ q : Nat, q < H.size → ¬ AX q → H1[q]? = H[q]?) → va_S A0 H0 H1 locs1 → H1[q9]? = some ce → ce.vm = .none → s.vm.findClass E = some ce.cls → vx_W p l e R s m args below meth c H1 locs1 (cells + mc) (slots + ms) Q (F0 m pc ls rest) q9)
    (kk : ∀ (r : UInt64) (u : S) (t : State) (H1 : Heap) (locs1 : List Loc), t.heap = H1 → s.vm.Alike t.vm → post r u → B u t → H.size ≤ H1.size → (∀ q : Nat, q < H.size → ¬ A1 q → H1[q]? = H[q]?) → va_S A0 H0 H1 locs1 → W p l e R s m args below meth c H1 locs1 (cells + mc) (slots + ms) Q (F0 m (pc + 3) ls (.double r :: rest))) : W p l e R s m args below meth c H locs cells slots Q (F0 m pc ls st0) := by
  intro T hT X
  rcases hr T hT X with ⟨v, st₀, t, T', L, h0, X', hL, e1, e2, ⟨⟨r, u, hv, hp, hb⟩, hF⟩, st⟩ | ⟨q, st₀, t, T', L, E, ce, h0, X', hL, e1, e2, ⟨u, hp, hb, hF⟩, hce, hcv, hcl, st⟩
  · cases hv
    obtain ⟨k1, k2, k3⟩ := vx_keep h0 e1 hS hA hf hL hF
    obtain ⟨t2, a1, b1⟩ := kk r u t T'.heap (locs ++ L) e1.symm (by rw [← e2]; exact X'.warmed.alike) hp hb k1 k2 k3 T' rfl X'
    exact ⟨t2, st t2 a1, b1⟩
  · obtain ⟨k1, k2, k3⟩ := vx_keep h0 e1 hS hAX hf hL hF
    obtain ⟨t2, a1, b1⟩ := kx E ce q u t T'.heap (locs ++ L) e1.symm (by rw [← e2]; exact X'.warmed.alike) hp hb k1 k2 k3 (by rw [e1]; exact hce) hcv hcl T' rfl X'
    exact ⟨t2, st.trans a1, b1⟩
theorem vx_callv {S SX : Type} {post : S → Prop} {px : SX → Prop} {B : S → State → Prop} {BX : String → SX → State → Prop} {AX : Nat → Prop} (hr : vx_Run p l e R s m args below meth c H locs cells slots mc ms (F0 m pc ls st0) rest (va_Qv post B A1 a) (vx_X px BX AX) free) (hS : va_S A0 H0 H locs) (hA : ∀ q, q < H.size → A1 q → A0 q) (hf : ∀ q, free q → A0 q) (hAX : ∀ q, q < H.size → AX q → A0 q)
    (kx : ∀ (E : String) (ce : Cell) (q9 : Addr) (u : SX) (t : State) (H1 : Heap) (locs1 : List Loc), t.heap = H1 → s.vm.Alike t.vm → px u → BX E u t → H.size ≤ H1.size → (∀ q : Nat, q < H.size → ¬ AX q → H1[q]? = H[q]?) → va_S A0 H0 H1 locs1 → H1[q9]? = some ce → ce.vm = .none → s.vm.findClass E = some ce.cls → vx_W p l e R s m args below meth c H1 locs1 (cells + mc) (slots + ms) Q (F0 m pc ls rest) q9)
    (kk : ∀ (u : S) (t : State) (H1 : Heap) (locs1 : List Loc), t.heap = H1 → s.vm.Alike t.vm → post u → B u t → H.size ≤ H1.size → (∀ q : Nat, q < H.size → ¬ A1 q → H1[q]? = H[q]?) → va_S A0 H0 H1 locs1 → W p l e R s m args below meth c H1 locs1 (cells + mc) (slots + ms) Q (F0 m (pc + 3) ls (rest))) : W p l e R s m args below meth c H locs cells slots Q (F0 m pc ls st0) := by
  intro T hT X
  rcases hr T hT X with ⟨v, st₀, t, T', L, h0, X', hL, e1, e2, ⟨⟨u, hv, hp, hb⟩, hF⟩, st⟩ | ⟨q, st₀, t, T', L, E, ce, h0, X', hL, e1, e2, ⟨u, hp, hb, hF⟩, hce, hcv, hcl, st⟩
  · cases hv
    obtain ⟨k1, k2, k3⟩ := vx_keep h0 e1 hS hA hf hL hF
    obtain ⟨t2, a1, b1⟩ := kk u t T'.heap (locs ++ L) e1.symm (by rw [← e2]; exact X'.warmed.alike) hp hb k1 k2 k3 T' rfl X'
    exact ⟨t2, st t2 a1, b1⟩
  · obtain ⟨k1, k2, k3⟩ := vx_keep h0 e1 hS hAX hf hL hF
    obtain ⟨t2, a1, b1⟩ := kx E ce q u t T'.heap (locs ++ L) e1.symm (by rw [← e2]; exact X'.warmed.alike) hp hb k1 k2 k3 (by rw [e1]; exact hce) hcv hcl T' rfl X'
    exact ⟨t2, st.trans a1, b1⟩
/-- caught by the row x of this method's table; the rows ahead don't take it -/
theorem vx_catch {own name : String} {E : String} {ce : Cell} {q : Addr} (hown : s.vm.findClass own = some m.cls) (pre : List ExceptionTableEntry) (x : ExceptionTableEntry) (suf : List ExceptionTableEntry) (hsplit : c.exceptionTable.toList = pre ++ x :: suf)
    (hpass : ∀ z ∈ pre, covers z pc = false ∨ (z.catchType ≠ 0 ∧ ∃ nm : String, (Cond.classLink own z.catchType nm).before args s = true ∧ va_Nc E nm s)) (hx : covers x pc = true) (h0 : x.catchType ≠ 0)
    (hlink : (Cond.classLink own x.catchType name).before args s = true) (hcast : (Cond.castable E name).before args s = true) (hcell : H[q]? = some ce) (hv : ce.vm = .none) (hcl : s.vm.findClass E = some ce.cls)
    (kk : W p l e R s m args below meth c H locs cells slots Q (F0 m x.handlerPc ls [.ref q])) : vx_W p l e R s m args below meth c H locs cells slots Q (F0 m pc ls rest) q := by
  intro T hT X
  have hpl : e.platform.magicAccessors = ({} : Platform).magicAccessors := by rw [X.admits.platform]
  obtain ⟨c3, c4, hc3, hc4, hasg⟩ := Cond.castable_spec hcast
  cases Option.some.inj (hc3.symm.trans hcl)
  obtain ⟨c5, hc5, hcl5⟩ := Cond.classLink_spec hown hlink e.platform hpl
  cases Option.some.inj (hc4.symm.trans hc5)
  obtain ⟨vm', X', st⟩ := X.thenCaughtThrough q (g := F0 m pc ls rest) rfl (Steps.refl _) (by rw [hT]; exact hcell) (by rw [hv]; rfl) (by obtain ⟨k9, h9, -⟩ := Vm.findClass_spec hcl; exact ⟨k9, h9⟩) pre x suf hsplit
    (fun z hz => by
      rcases hpass z hz with h | ⟨hz0, nm, hl1, hn1⟩
      · exact Or.inl h
      · obtain ⟨c6, hc6, hcl6⟩ := Cond.classLink_spec hown hl1 e.platform hpl
        obtain ⟨a8, b8, h1, h2, h3⟩ := hn1
        cases Option.some.inj (h1.symm.trans hcl)
        cases Option.some.inj (h2.symm.trans hc6)
        exact Or.inr ⟨hz0, _, hcl6, h3⟩) hx (Or.inr ⟨h0, c4, hcl5, hasg⟩)
  obtain ⟨t, a1, b1⟩ := kk (T.setVm vm') hT X'
  exact ⟨t, st.trans a1, b1⟩
end Rows
section Ends
variable {p : Program} {l : Launch} {e : Env} {R : Room} {s : State} {m : MethodId} {args : Array Value} {below : List Frame} {meth : Method} {c : Code} {H : Heap} {locs : List Loc} {cells slots : Nat} {Q : State → Prop}
variable {mc ms : Nat} {free : Addr → Prop} {A0 A1 : Nat → Prop} {H0 : Heap} {a : Array Value} {ls : Array Slot} {st0 rest : List Value}
variable {Qc : Array Value → State → Outcome → State → Prop} {XC : String → State → State → Prop}
/-- what a body that may throw owes at its end -/
def vx_MQ (below : List Frame) (Qc : Array Value → State → Outcome → State → Prop) (XC : String → State → State → Prop) (a : Array Value) (s : State) (mc ms : Nat) (free : Addr → Prop) : State → Prop := fun t =>
  ∃ o, t.status = .running ∧ Ended t below o ∧ vx_Q Qc XC mc ms free a s o t
theorem vx_ret {g : JFrame} {mc ms : Nat} (k : W p l e R s m args below meth c H locs cells slots (MQ below Qc args s mc ms free) g) : W p l e R s m args below meth c H locs cells slots (vx_MQ below Qc XC args s mc ms free) g := by
  intro T hT X
  obtain ⟨t, a1, o, b1, b2, b3, b4⟩ := k T hT X
  exact ⟨t, a1, o, b1, b2, Or.inl ⟨b3, b4⟩⟩
/-- not caught here: it goes on to the caller -/
theorem vx_widen {g : JFrame} {q : Addr} {k n : Nat} (h1 : cells ≤ k) (h2 : slots ≤ n) (kk : vx_W p l e R s m args below meth c H locs k n Q g q) : vx_W p l e R s m args below meth c H locs cells slots Q g q := fun T hT X => kk T hT (stand_widen X h1 h2)
theorem vx_out {pc : Nat} {E : String} {ce : Cell} {q : Addr} {mc ms : Nat} (hout : ∀ x ∈ c.exceptionTable.toList, covers x pc = false) (hlocks : meth.locks = false) (hcell : H[q]? = some ce) (hv : ce.vm = .none) (hcl : s.vm.findClass E = some ce.cls)
    (hx : ∀ t : State, t.heap = H → s.vm.Alike t.vm → XC E s t) (hf : ∀ z ∈ locs, free z.base) (hc : cells ≤ mc) (hs : slots ≤ ms) :
    vx_W p l e R s m args below meth c H locs cells slots (vx_MQ below Qc XC args s mc ms free) (F0 m pc ls rest) q := by
  intro T hT X
  obtain ⟨st1, hrun, hend, hW, hsm⟩ := X.leaveThrown q (g := F0 m pc ls rest) rfl rfl rfl hout hlocks
  have hcell9 : (T.setFrames (.throwing q :: below)).heap[q]? = some ce := by
    show T.heap[q]? = some ce
    rw [hT]; exact hcell
  exact ⟨_, st1, .threw q, hrun, hend, Or.inr ⟨q, rfl, E, ce, locs, hx _ hT hW.alike, hcell9, hv, hcl, hW, hsm.mono hc hs, hf⟩⟩
theorem vx_frame {U : State} {k n : Nat} (h : s.sameButNew ({ U with vm := s.vm } : State) locs k n) : s.heap.size ≤ U.heap.size ∧ ∀ q : Nat, q < s.heap.size → (∀ z ∈ locs, z.base ≠ q) → U.heap[q]? = s.heap[q]? := by
  obtain ⟨-, h2, -, -, -, h6⟩ := h
  refine ⟨h2, fun q hq hz => ?_⟩
  obtain ⟨c9, e1, e2, e3, e4⟩ := h6 q _ (Array.getElem?_eq_getElem hq)
  have hs : c9.slots = (s.heap[q]).slots := Array.ext_getElem? fun i => e4 i fun hm => hz _ hm rfl
  have h9 : c9 = s.heap[q] := by
    rw [hs] at e2
    exact e2
  have e5 : U.heap[q]? = some c9 := e1
  rw [e5, h9, Array.getElem?_eq_getElem hq]
/-- the words of a throw but the four that speak of the heap -/
def vx_no (w : Cond) : Bool := decide (w ≠ .isRef (.static Bundle.tN "UNASSIGNED_STACK" Bundle.steD)) && decide (w ≠ .isRef (.static Bundle.tN "SUPPRESSED_SENTINEL" Bundle.listD)) && decide (w ≠ .laysStatic Bundle.tN "UNASSIGNED_STACK" Bundle.steD) && decide (w ≠ .laysStatic Bundle.tN "SUPPRESSED_SENTINEL" Bundle.listD)
def vx_at0 (own : String) (ic : Nat) (X : String) (names : List String) : List Cond := (Bundle.ownAtoms0 own ic X names).filter vx_no
def vx_atS (own : String) (ic : Nat) (X : String) (names : List String) : List Cond := (Bundle.ownAtoms own ic X names).filter vx_no
/-- a word that the tables alone decide, or a good one -/
def vx_ot (w : Cond) : Bool := w.onTables || goodWord w
theorem vx_ot_at {args a' : Array Value} {s U : State} {w : Cond} (hW : s.WarmedH U.vm) (hvm : s.vm = U.vm) (hg : vx_ot w = true) (h : w.before args s = true) : w.before a' U = true := by
  simp only [vx_ot, Bool.or_eq_true] at hg
  rcases hg with hg | hg
  · exact va_tabs hg hvm h
  · exact word_at hW (good_of_word hg) h
/-- a list's words: the good ones out of the method's own list, the others by premises of their own -/
theorem vx_hat {args : Array Value} {s : State} {L B : List Cond} (h1 : ∀ w ∈ L.filter goodWord, w.before args s = true) (h2 : ∀ w ∈ L.filter (fun w => !goodWord w), w ∈ B) (h3 : ∀ w ∈ B, w.before args s = true) : ∀ w ∈ L, w.before args s = true := by
  intro w hw
  by_cases g : goodWord w = true
  · exact h1 w (List.mem_filter.mpr ⟨hw, g⟩)
  · refine h3 w (h2 w (List.mem_filter.mpr ⟨hw, ?_⟩))
    show (!goodWord w) = true
    cases hgw : goodWord w
    · rfl
    · exact absurd hgw g
theorem vx_c {args : Array Value} {s : State} {w : Cond} {B : List Cond} (h : w.before args s = true) (t : ∀ w ∈ B, w.before args s = true) : ∀ w' ∈ w :: B, w'.before args s = true := fun w' h' => (List.mem_cons.mp h').elim (fun e => by rw [e]; exact h) (t w')
theorem vx_n {args : Array Value} {s : State} : ∀ w ∈ ([] : List Cond), w.before args s = true := fun _ h => nomatch h
theorem vx_own {args : Array Value} {s : State} {L : List Cond} (h1 : ∀ w ∈ L.filter vx_no, w.before args s = true)
    (hU : (Cond.isRef (.static Bundle.tN "UNASSIGNED_STACK" Bundle.steD)).before args s = true) (hN : (Cond.isRef (.static Bundle.tN "SUPPRESSED_SENTINEL" Bundle.listD)).before args s = true)
    (lU : (Cond.laysStatic Bundle.tN "UNASSIGNED_STACK" Bundle.steD).before args s = true) (lN : (Cond.laysStatic Bundle.tN "SUPPRESSED_SENTINEL" Bundle.listD).before args s = true) : ∀ w ∈ L, w.before args s = true := by
  intro w hw
  by_cases e1 : w = .isRef (.static Bundle.tN "UNASSIGNED_STACK" Bundle.steD)
  · rw [e1]; exact hU
  · by_cases e2 : w = .isRef (.static Bundle.tN "SUPPRESSED_SENTINEL" Bundle.listD)
    · rw [e2]; exact hN
    · by_cases e3 : w = .laysStatic Bundle.tN "UNASSIGNED_STACK" Bundle.steD
      · rw [e3]; exact lU
      · by_cases e4 : w = .laysStatic Bundle.tN "SUPPRESSED_SENTINEL" Bundle.listD
        · rw [e4]; exact lN
        · exact h1 w (List.mem_filter.mpr ⟨hw, by unfold vx_no; rw [decide_eq_true e1, decide_eq_true e2, decide_eq_true e3, decide_eq_true e4]; rfl⟩)
/-- where a static field lies, its class's statics cell in H -/
def vx_L (C n d : String) (A : Nat → Prop) (U : State) (H : Heap) : Prop := ∃ (c : ClassId) (k : Class) (i : Nat) (f : Field) (a : Nat) (cell : Cell), U.vm.findClass C = some c ∧ U.fieldFound? C n d = some (c, k, i, f) ∧ f.isStatic = true ∧ k.statics = some a ∧ H[a]? = some cell ∧ cell.vm.isStatics = true ∧ cell.cls = c ∧ f.slot < cell.slots.size ∧ k.staticTypes[f.slot]? = some f.type ∧ ¬ A a
theorem vx_L.moved {C n d : String} {A : Nat → Prop} {u U : State} {H : Heap} (hvm : u.vm.Alike U.vm) (h : vx_L C n d A u H) : vx_L C n d A U H := by
  obtain ⟨c, k, i, f, a, cell, h1, h2, h3, h4, h5, h6, h7, h8, h9, h10⟩ := h
  obtain ⟨k', hi', he⟩ := State.fieldFound?_setVm hvm h2
  exact ⟨c, k', i, f, a, cell, by rw [hvm.findClass]; exact h1, hi', h3, by rw [he]; exact h4, h5, h6, h7, h8, by rw [he]; exact h9, h10⟩
theorem vx_L.kept {C n d : String} {A : Nat → Prop} {U : State} {H H1 : Heap} (h : vx_L C n d A U H) (hq : ∀ a : Nat, a < H.size → ¬ A a → H1[a]? = H[a]?) : vx_L C n d A U H1 := by
  obtain ⟨c, k, i, f, a, cell, h1, h2, h3, h4, h5, h6, h7, h8, h9, h10⟩ := h
  exact ⟨c, k, i, f, a, cell, h1, h2, h3, h4, by rw [hq a (Array.getElem?_eq_some_iff.mp h5).1 h10]; exact h5, h6, h7, h8, h9, h10⟩
theorem vx_L.narrow {C n d : String} {A B : Nat → Prop} {U : State} {H : Heap} (h : vx_L C n d A U H) (hAB : ∀ q, B q → A q) : vx_L C n d B U H := by
  obtain ⟨c, k, i, f, a, cell, h1, h2, h3, h4, h5, h6, h7, h8, h9, h10⟩ := h
  exact ⟨c, k, i, f, a, cell, h1, h2, h3, h4, h5, h6, h7, h8, h9, fun z => h10 (hAB _ z)⟩
theorem vx_L.word {C n d : String} {A : Nat → Prop} {s : State} {args : Array Value} (h : vx_L C n d A s s.heap) : (Cond.laysStatic C n d).before args s = true := by
  obtain ⟨c, k, i, f, a, cell, h1, h2, h3, h4, h5, h6, h7, h8, h9, -⟩ := h
  show (Cond.laysStatic C n d).holds args s none s [] = true
  exact Cond.laysStatic_of h1 h2 h3 h4 h5 h6 h7 h8 h9
/-- .. and what it holds: null or some reference -/
def vx_Zq (C n d : String) (A : Nat → Prop) (U : State) (H : Heap) : Prop := va_Zq C n d A U H ∧ vx_L C n d A U H
theorem vx_Zq.moved {C n d : String} {A : Nat → Prop} {u U : State} {H : Heap} (hvm : u.vm.Alike U.vm) (h : vx_Zq C n d A u H) : vx_Zq C n d A U H := ⟨va_Zq.moved hvm h.1, vx_L.moved hvm h.2⟩
theorem vx_Zq.kept {C n d : String} {A : Nat → Prop} {U : State} {H H1 : Heap} (h : vx_Zq C n d A U H) (hq : ∀ a : Nat, a < H.size → ¬ A a → H1[a]? = H[a]?) : vx_Zq C n d A U H1 := ⟨va_Zq.kept h.1 hq, vx_L.kept h.2 hq⟩
theorem vx_Zq.narrow {C n d : String} {A B : Nat → Prop} {U : State} {H : Heap} (h : vx_Zq C n d A U H) (hAB : ∀ q, B q → A q) : vx_Zq C n d B U H := ⟨va_Zq.narrow h.1 hAB, vx_L.narrow h.2 hAB⟩
theorem vx_Zqof {args : Array Value} {s : State} {C n d : String} {A : Nat → Prop} (hl : (Cond.laysStatic C n d).before args s = true) (hini : (Cond.initialized C).before args s = true) (h : (Cond.isRef (.static C n d)).before args s = true) (hA : ∀ a : Nat, a < s.heap.size → ¬ A a) : vx_Zq C n d A s s.heap := by
  refine ⟨va_Zqof hl hini h hA, ?_⟩
  obtain ⟨c, k, i, f, a, cell, h1, h2, h3, h4, h5, h6, h7, h8, h9⟩ := Cond.laysStatic_spec hl
  exact ⟨c, k, i, f, a, cell, h1, h2, h3, h4, h5, h6, h7, h8, h9, hA a (Array.getElem?_eq_some_iff.mp h5).1⟩
theorem vx_isRef {C n d : String} {v : Value} {A : Nat → Prop} {s : State} {args : Array Value} (h : va_Z C n d v A s s.heap) (hv : v.isRef = true) : (Cond.isRef (.static C n d)).before args s = true := by
  obtain ⟨cf, kf, fi, f, a, cell, h1, h2, h3, h4, h5, h6, h7, -⟩ := h
  have he : (Term.static C n d).eval args s none [] s = some v := by
    simp [Term.eval, State.fieldNamed?, h1, h2, h4, h5, h6, h7]
  simp only [Cond.before, Cond.holds, Cond.value, he]
  cases v <;> simp_all [Value.isRef]
theorem vx_isRefq {C n d : String} {A : Nat → Prop} {s : State} {args : Array Value} (h : va_Zq C n d A s s.heap) : (Cond.isRef (.static C n d)).before args s = true := by
  rcases h with h | ⟨t, h⟩
  · exact vx_isRef h rfl
  · exact vx_isRef h rfl
/-- the same frame, seen from here: as if the method were called anew in this heap -/
theorem vx_rebase {T : State} (X : Stand p l e R s m args below meth c T locs cells slots) {R' : Room} (hf : R'.frames ≤ R.frames) (hl : R'.locals ≤ R.locals) (hc : cells + R'.cells ≤ R.cells) (hs : slots + R'.slots ≤ R.slots) :
    Stand p l e R' ((T.setVm s.vm).setFrames (.invoking m args :: below)) m args below meth c T [] 0 0 := by
  have htop : (T.setVm s.vm).topJava?.isSome := X.here.top
  have hF : ((T.setVm s.vm).setFrames (.invoking m args :: below)).frames = .invoking m args :: below := State.frames_setFrames _ (State.cur_lt_of_top htop)
  obtain ⟨g₀, hg0⟩ := Option.isSome_iff_exists.mp htop
  obtain ⟨r, hr⟩ := State.topJava?_eq_some.mp hg0
  have hl9 : e.platform.stackLimits (T.setVm s.vm).me = e.platform.stackLimits s.me := X.limits
  have hb9 : (T.setVm s.vm).me.stackBytes = s.me.stackBytes := X.bytes
  refine ⟨X.admits, X.cas, X.clock, hF, ?_, X.hears, X.method, X.code, X.here, X.tail, X.warmed, ?_, ?_, ?_⟩
  · have h := X.room
    have hU : ((T.setVm s.vm).setFrames (.invoking m args :: below)).localsInUse = s.localsInUse := by
      rw [State.localsInUse_invoking hF (meth := meth) (c := c) X.method X.code, State.localsInUse_invoking X.frames X.method X.code]
    simp only [State.hasRoom, Bool.and_eq_true, decide_eq_true_eq] at h ⊢
    obtain ⟨⟨⟨⟨h1, h2, h3, h4, h5, h6⟩, h7⟩, h8⟩, h9⟩ := h
    rw [X.frames, List.length_cons] at h2 h3
    have q1 := X.heapSize
    have q2 := X.used
    simp only [hF, hU, List.length_cons, State.stackLimits_setFrames, State.stackBytes_setFrames, hl9, hb9]
    refine ⟨⟨⟨⟨by omega, by omega, by omega, by omega, by omega, h6⟩, ?_⟩, ?_⟩, X.book⟩
    · show T.heap.size + R'.cells ≤ e.platform.maxCells
      omega
    · show T.slotsUsed + R'.slots ≤ e.platform.maxSlots
      omega
  · rw [State.stackLimits_setFrames]; rfl
  · rw [State.stackBytes_setFrames]; rfl
  · refine ⟨?_, Nat.le_refl _, Nat.le_refl _, ?_, ?_, fun a c9 h9 => ⟨c9, h9, rfl, rfl, fun _ _ => rfl⟩⟩
    · obtain ⟨t, ht, -⟩ := State.frames_cons hr
      show T.setVm s.vm = { ((T.setVm s.vm).setFrames (.invoking m args :: below)).setFrames (T.setVm s.vm).frames with heap := T.heap, slotsUsed := T.slotsUsed }
      rw [State.setFrames_setFrames, State.setFrames_self ht]
      rfl
    · show T.slotsUsed = T.slotsUsed + ((T.heap.toList.drop T.heap.size).map (·.slots.size)).sum
      rw [List.drop_eq_nil_of_le (Nat.le_of_eq Array.length_toList)]
      rfl
    · show ((T.heap.toList.drop T.heap.size).map (·.slots.size)).sum ≤ 0
      rw [List.drop_eq_nil_of_le (Nat.le_of_eq Array.length_toList)]
      exact Nat.le_refl _
/-- 'throw new E()': new; dup; invokespecial; athrow -/
theorem vx_throw0 {cc : ByteArray} {pc : Nat} (hexec : p.tables.exec = Jvm.exec) (hb : c.code = cc) (hl : l.stackTraces = false) {own cls : String} {names : List String} {ik ic mc ms : Nat} {A : Nat → Prop}
    (hown : s.vm.findClass own = some m.cls) (hcls : Bundle.fit cls = true) (hnames : ∀ n ∈ names, Bundle.fit n = true)
    (hk : (Cond.classLink own ik cls).before args s = true) (hini : (Cond.initialized cls).before args s = true) (hat : ∀ w ∈ vx_at0 own ic cls names, w.before args s = true)
    (hgood : ∀ w ∈ Cond.classLink own ik cls :: Cond.initialized cls :: vx_at0 own ic cls names, vx_ot w = true)
    (hU : vx_Zq Bundle.tN "UNASSIGNED_STACK" Bundle.steD A s s.heap) (hN : vx_Zq Bundle.tN "SUPPRESSED_SENTINEL" Bundle.listD A s s.heap) (hS : va_S A s.heap H locs) (hsize : ls.size = c.maxLocals)
    (d0 : decode cc pc = .ok (.new ik, 3)) (d3 : decode cc (pc + 3) = .ok (.dup, 1)) (d4 : decode cc (pc + 4) = .ok (.invokespecial ic, 3)) (d7 : decode cc (pc + 7) = .ok (.athrow, 1))
    (hout : ∀ x ∈ c.exceptionTable.toList, covers x (pc + 7) = false)
    (hRframes : names.length + 3 < R.frames) (hRlocals : (rest.map fun v => v.category).sum + (13 * (names.length + 1) + 42) ≤ R.locals) (hRcells : cells + 1 ≤ R.cells) (hRslots : slots + 6 ≤ R.slots) (hlocks : meth.locks = false)
    (hx : ∀ t : State, s.vm.Alike t.vm → H.size ≤ t.heap.size → (∀ q : Nat, q < H.size → t.heap[q]? = H[q]?) → XC cls s t)
    (hf : ∀ z ∈ locs, free z.base) (hc : cells + 1 ≤ mc) (hs : slots + 6 ≤ ms) :
    W p l e R s m args below meth c H locs cells slots (vx_MQ below Qc XC args s mc ms free) (F0 m pc ls rest) := by
  intro T hT X
  have htr : e.platform.stackTraces = false := (show e.platform.stackTraces = l.stackTraces by rw [X.admits.platform]).trans hl
  have Y := vx_rebase X (R' := { frames := R.frames, locals := R.locals, cells := 1, slots := 6 }) (Nat.le_refl _) (Nat.le_refl _) hRcells hRslots
  obtain ⟨s', hA⟩ : ∃ z, z = (T.setVm s.vm).setFrames (.invoking m args :: below) := ⟨_, rfl⟩
  rw [← hA] at Y
  have hvm : s'.vm = s.vm := by rw [hA]; rfl
  have hhp : s'.heap = H := by rw [hA]; exact hT
  have hW0 : s.WarmedH s'.vm := by rw [hvm]; exact State.WarmedH.refl s
  have hat' : ∀ w ∈ vx_at0 own ic cls names, w.before args s' = true := fun w hw => vx_ot_at hW0 hvm.symm (hgood w (List.mem_cons_of_mem _ (List.mem_cons_of_mem _ hw))) (hat w hw)
  have hk' : (Cond.classLink own ik cls).before args s' = true := vx_ot_at hW0 hvm.symm (hgood _ List.mem_cons_self) hk
  have hini' : (Cond.initialized cls).before args s' = true := vx_ot_at hW0 hvm.symm (hgood _ (List.mem_cons_of_mem _ List.mem_cons_self)) hini
  have hU' : vx_Zq Bundle.tN "UNASSIGNED_STACK" Bundle.steD A s' s'.heap := by rw [hhp]; exact vx_Zq.moved hW0.alike (hU.kept hS.2.1)
  have hN' : vx_Zq Bundle.tN "SUPPRESSED_SENTINEL" Bundle.listD A s' s'.heap := by rw [hhp]; exact vx_Zq.moved hW0.alike (hN.kept hS.2.1)
  have h : ∀ w ∈ Bundle.ownAtoms0 own ic cls names, w.before args s' = true := vx_own hat' (vx_isRefq hU'.1) (vx_isRefq hN'.1) hU'.2.word hN'.2.word
  have hown' : s'.vm.findClass own = some m.cls := by rw [hvm]; exact hown
  have hins : (Cond.instantiable cls 6).before args s' = true := h _ (by simp [Bundle.ownAtoms0])
  obtain ⟨vm₁, cX, kX, hfX, hkX, -, -, X₁, st1⟩ := Y.newCold hexec (own := own) (C := cls) (index := ik) (n := 6) hown' hk' hins hini'
    (g := F0 m pc ls rest) rfl (by rw [hb]; exact d0) (Nat.le_refl _) (Nat.le_refl _)
  generalize hT1 : (T.setVm vm₁).pushCell { cls := cX, slots := kX.instanceTypes.map defaultValue, vm := .none } = T1 at X₁ st1
  have hcat : (Value.ref T.heap.size).category = 1 := rfl
  have hcellA : T1.heap[T.heap.size]? = some (freshCell cX kX) := by rw [← hT1]; exact State.heap_pushCell_size _ _
  have d3' : decode c.code (pc + 3) = .ok (.dup, 1) := by rw [hb]; exact d3
  obtain ⟨U, hsteps, hrun, hend, hW, hsame, ce, hce, hO⟩ := X₁.ctorThrow0 hexec htr (own := own) (cls := cls) (names := names) (ic := ic) hown' hcls hnames h (fun x hx => nomatch hx) hfX hkX hcellA (by rw [hhp, hT]; exact Nat.le_refl _)
    (g := { method := m, pc := pc + 4, locals := ls, stack := .ref T.heap.size :: .ref T.heap.size :: rest, locked := none }) rfl hsize rfl rfl (rest := rest) rfl
    (by rw [hb]; exact d4) (by rw [hb]; exact d7) hout hRframes (by simp only [List.map_cons, List.sum_cons, hcat]; omega) hlocks
  obtain ⟨f1, f2⟩ := vx_frame hsame
  rw [hhp] at f1 f2
  have hWs : s.WarmedH U.vm := State.WarmedH.trans hW0 hW
  have hcl : s.vm.findClass cls = some ce.cls := by
    have h9 := hO.cls
    rw [hvm] at h9
    exact h9
  have hall : s.sameButNew ({ U with vm := s.vm } : State) locs mc ms := by
    subst hA
    obtain ⟨e1, e2⟩ := hsame
    rw [State.setFrames_setFrames] at e1
    have h2 : (T.setVm s.vm).sameButNew ({ U with vm := s.vm } : State) [] (0 + 1) (0 + 6) := ⟨e1, e2⟩
    have h3 := X.same.trans h2
    rw [List.append_nil] at h3
    exact h3.mono hc hs
  refine ⟨U, ?_, .threw T.heap.size, hrun, hend, Or.inr ⟨T.heap.size, rfl, cls, ce, locs, hx U hWs.alike f1 (fun q hq => f2 q hq (fun z hz => nomatch hz)), hce, hO.vm, hcl, hWs, hall, hf⟩⟩
  refine st1 _ ?_
  show Steps p.tables e below (T1.setTop { method := m, pc := pc + 3, locals := ls, stack := .ref T.heap.size :: rest, locked := none }) _
  jvm_step X₁.here [X₁.here.top, hexec, d3', Value.category]
  exact hsteps
/-- 'throw new E("text")': new; dup; ldc; invokespecial; athrow -/
theorem vx_throwS {cc : ByteArray} {pc : Nat} (hexec : p.tables.exec = Jvm.exec) (hb : c.code = cc) (hl : l.stackTraces = false) {own cls text : String} {names : List String} {ik is ic mc ms sa : Nat} {A : Nat → Prop}
    (hown : s.vm.findClass own = some m.cls) (hcls : Bundle.fit cls = true) (hnames : ∀ n ∈ names, Bundle.fit n = true)
    (hk : (Cond.classLink own ik cls).before args s = true) (hini : (Cond.initialized cls).before args s = true) (hstr : vk_R own is text sa s) (hat : ∀ w ∈ vx_atS own ic cls names, w.before args s = true)
    (hgood : ∀ w ∈ Cond.classLink own ik cls :: Cond.initialized cls :: vx_atS own ic cls names, vx_ot w = true)
    (hU : vx_Zq Bundle.tN "UNASSIGNED_STACK" Bundle.steD A s s.heap) (hN : vx_Zq Bundle.tN "SUPPRESSED_SENTINEL" Bundle.listD A s s.heap) (hS : va_S A s.heap H locs) (hsize : ls.size = c.maxLocals)
    (d0 : decode cc pc = .ok (.new ik, 3)) (d3 : decode cc (pc + 3) = .ok (.dup, 1)) (d4 : decode cc (pc + 4) = .ok (.ldc is, 2)) (d6 : decode cc (pc + 6) = .ok (.invokespecial ic, 3)) (d9 : decode cc (pc + 9) = .ok (.athrow, 1))
    (hout : ∀ x ∈ c.exceptionTable.toList, covers x (pc + 9) = false)
    (hRframes : names.length + 3 < R.frames) (hRlocals : (rest.map fun v => v.category).sum + (13 * (names.length + 1) + 43) ≤ R.locals) (hRcells : cells + 1 ≤ R.cells) (hRslots : slots + 6 ≤ R.slots) (hlocks : meth.locks = false)
    (hx : ∀ t : State, s.vm.Alike t.vm → H.size ≤ t.heap.size → (∀ q : Nat, q < H.size → t.heap[q]? = H[q]?) → XC cls s t)
    (hf : ∀ z ∈ locs, free z.base) (hc : cells + 1 ≤ mc) (hs : slots + 6 ≤ ms) :
    W p l e R s m args below meth c H locs cells slots (vx_MQ below Qc XC args s mc ms free) (F0 m pc ls rest) := by
  intro T hT X
  have htr : e.platform.stackTraces = false := (show e.platform.stackTraces = l.stackTraces by rw [X.admits.platform]).trans hl
  have Y := vx_rebase X (R' := { frames := R.frames, locals := R.locals, cells := 1, slots := 6 }) (Nat.le_refl _) (Nat.le_refl _) hRcells hRslots
  obtain ⟨s', hA⟩ : ∃ z, z = (T.setVm s.vm).setFrames (.invoking m args :: below) := ⟨_, rfl⟩
  rw [← hA] at Y
  have hvm : s'.vm = s.vm := by rw [hA]; rfl
  have hhp : s'.heap = H := by rw [hA]; exact hT
  have hW0 : s.WarmedH s'.vm := by rw [hvm]; exact State.WarmedH.refl s
  have hat' : ∀ w ∈ vx_atS own ic cls names, w.before args s' = true := fun w hw => vx_ot_at hW0 hvm.symm (hgood w (List.mem_cons_of_mem _ (List.mem_cons_of_mem _ hw))) (hat w hw)
  have hk' : (Cond.classLink own ik cls).before args s' = true := vx_ot_at hW0 hvm.symm (hgood _ List.mem_cons_self) hk
  have hini' : (Cond.initialized cls).before args s' = true := vx_ot_at hW0 hvm.symm (hgood _ (List.mem_cons_of_mem _ List.mem_cons_self)) hini
  have hU' : vx_Zq Bundle.tN "UNASSIGNED_STACK" Bundle.steD A s' s'.heap := by rw [hhp]; exact vx_Zq.moved hW0.alike (hU.kept hS.2.1)
  have hN' : vx_Zq Bundle.tN "SUPPRESSED_SENTINEL" Bundle.listD A s' s'.heap := by rw [hhp]; exact vx_Zq.moved hW0.alike (hN.kept hS.2.1)
  have h : ∀ w ∈ Bundle.ownAtoms own ic cls names, w.before args s' = true := vx_own hat' (vx_isRefq hU'.1) (vx_isRefq hN'.1) hU'.2.word hN'.2.word
  have hown' : s'.vm.findClass own = some m.cls := by rw [hvm]; exact hown
  have hins : (Cond.instantiable cls 6).before args s' = true := h _ (by simp [Bundle.ownAtoms])
  obtain ⟨vm₁, cX, kX, hfX, hkX, -, -, X₁, st1⟩ := Y.newCold hexec (own := own) (C := cls) (index := ik) (n := 6) hown' hk' hins hini'
    (g := F0 m pc ls rest) rfl (by rw [hb]; exact d0) (Nat.le_refl _) (Nat.le_refl _)
  generalize hT1 : (T.setVm vm₁).pushCell { cls := cX, slots := kX.instanceTypes.map defaultValue, vm := .none } = T1 at X₁ st1
  have hcat : (Value.ref T.heap.size).category = 1 := rfl
  have hcellA : T1.heap[T.heap.size]? = some (freshCell cX kX) := by rw [← hT1]; exact State.heap_pushCell_size _ _
  have d3' : decode c.code (pc + 3) = .ok (.dup, 1) := by rw [hb]; exact d3
  have d4' : decode c.code (pc + 4) = .ok (.ldc is, 2) := by rw [hb]; exact d4
  have hstr' : vk_R own is text sa s' := vk_R.warm hW0 hstr
  obtain ⟨U, hsteps, hrun, hend, hW, hsame, ce, hce, hO⟩ := X₁.ctorThrowS hexec htr (own := own) (cls := cls) (names := names) (ic := ic) hown' hcls hnames h (fun x hx => nomatch hx) hfX hkX hcellA (by rw [hhp, hT]; exact Nat.le_refl _) (msg := .ref sa) rfl
    (g := { method := m, pc := pc + 6, locals := ls, stack := .ref sa :: .ref T.heap.size :: .ref T.heap.size :: rest, locked := none }) rfl hsize rfl rfl (rest := rest) rfl
    (by rw [hb]; exact d6) (by rw [hb]; exact d9) hout hRframes (by simp only [List.map_cons, List.sum_cons, hcat]; omega) hlocks
  obtain ⟨f1, f2⟩ := vx_frame hsame
  rw [hhp] at f1 f2
  have hWs : s.WarmedH U.vm := State.WarmedH.trans hW0 hW
  have hcl : s.vm.findClass cls = some ce.cls := by
    have h9 := hO.cls
    rw [hvm] at h9
    exact h9
  have hall : s.sameButNew ({ U with vm := s.vm } : State) locs mc ms := by
    subst hA
    obtain ⟨e1, e2⟩ := hsame
    rw [State.setFrames_setFrames] at e1
    have h2 : (T.setVm s.vm).sameButNew ({ U with vm := s.vm } : State) [] (0 + 1) (0 + 6) := ⟨e1, e2⟩
    have h3 := X.same.trans h2
    rw [List.append_nil] at h3
    exact h3.mono hc hs
  refine ⟨U, ?_, .threw T.heap.size, hrun, hend, Or.inr ⟨T.heap.size, rfl, cls, ce, locs, hx U hWs.alike f1 (fun q hq => f2 q hq (fun z hz => nomatch hz)), hce, hO.vm, hcl, hWs, hall, hf⟩⟩
  refine st1 _ ?_
  show Steps p.tables e below (T1.setTop { method := m, pc := pc + 3, locals := ls, stack := .ref T.heap.size :: rest, locked := none }) _
  jvm_step X₁.here [X₁.here.top, hexec, d3', Value.category]
  exact X₁.ldcString hexec (own := own) (text := text) (index := is) (a := sa) hown' hstr'.1 hstr'.2
    (g := { method := m, pc := pc + 4, locals := ls, stack := .ref T.heap.size :: .ref T.heap.size :: rest, locked := none }) rfl d4' _ hsteps
/-- 'throw new E("text")', the text by a wide index -/
theorem vx_throwSW {cc : ByteArray} {pc : Nat} (hexec : p.tables.exec = Jvm.exec) (hb : c.code = cc) (hl : l.stackTraces = false) {own cls text : String} {names : List String} {ik is ic mc ms sa : Nat} {A : Nat → Prop}
    (hown : s.vm.findClass own = some m.cls) (hcls : Bundle.fit cls = true) (hnames : ∀ n ∈ names, Bundle.fit n = true)
    (hk : (Cond.classLink own ik cls).before args s = true) (hini : (Cond.initialized cls).before args s = true) (hstr : vk_R own is text sa s) (hat : ∀ w ∈ vx_atS own ic cls names, w.before args s = true)
    (hgood : ∀ w ∈ Cond.classLink own ik cls :: Cond.initialized cls :: vx_atS own ic cls names, vx_ot w = true)
    (hU : vx_Zq Bundle.tN "UNASSIGNED_STACK" Bundle.steD A s s.heap) (hN : vx_Zq Bundle.tN "SUPPRESSED_SENTINEL" Bundle.listD A s s.heap) (hS : va_S A s.heap H locs) (hsize : ls.size = c.maxLocals)
    (d0 : decode cc pc = .ok (.new ik, 3)) (d3 : decode cc (pc + 3) = .ok (.dup, 1)) (d4 : decode cc (pc + 4) = .ok (.ldc_w is, 3)) (d7 : decode cc (pc + 7) = .ok (.invokespecial ic, 3)) (d10 : decode cc (pc + 10) = .ok (.athrow, 1))
    (hout : ∀ x ∈ c.exceptionTable.toList, covers x (pc + 10) = false)
    (hRframes : names.length + 3 < R.frames) (hRlocals : (rest.map fun v => v.category).sum + (13 * (names.length + 1) + 43) ≤ R.locals) (hRcells : cells + 1 ≤ R.cells) (hRslots : slots + 6 ≤ R.slots) (hlocks : meth.locks = false)
    (hx : ∀ t : State, s.vm.Alike t.vm → H.size ≤ t.heap.size → (∀ q : Nat, q < H.size → t.heap[q]? = H[q]?) → XC cls s t)
    (hf : ∀ z ∈ locs, free z.base) (hc : cells + 1 ≤ mc) (hs : slots + 6 ≤ ms) :
    W p l e R s m args below meth c H locs cells slots (vx_MQ below Qc XC args s mc ms free) (F0 m pc ls rest) := by
  intro T hT X
  have htr : e.platform.stackTraces = false := (show e.platform.stackTraces = l.stackTraces by rw [X.admits.platform]).trans hl
  have Y := vx_rebase X (R' := { frames := R.frames, locals := R.locals, cells := 1, slots := 6 }) (Nat.le_refl _) (Nat.le_refl _) hRcells hRslots
  obtain ⟨s', hA⟩ : ∃ z, z = (T.setVm s.vm).setFrames (.invoking m args :: below) := ⟨_, rfl⟩
  rw [← hA] at Y
  have hvm : s'.vm = s.vm := by rw [hA]; rfl
  have hhp : s'.heap = H := by rw [hA]; exact hT
  have hW0 : s.WarmedH s'.vm := by rw [hvm]; exact State.WarmedH.refl s
  have hat' : ∀ w ∈ vx_atS own ic cls names, w.before args s' = true := fun w hw => vx_ot_at hW0 hvm.symm (hgood w (List.mem_cons_of_mem _ (List.mem_cons_of_mem _ hw))) (hat w hw)
  have hk' : (Cond.classLink own ik cls).before args s' = true := vx_ot_at hW0 hvm.symm (hgood _ List.mem_cons_self) hk
  have hini' : (Cond.initialized cls).before args s' = true := vx_ot_at hW0 hvm.symm (hgood _ (List.mem_cons_of_mem _ List.mem_cons_self)) hini
  have hU' : vx_Zq Bundle.tN "UNASSIGNED_STACK" Bundle.steD A s' s'.heap := by rw [hhp]; exact vx_Zq.moved hW0.alike (hU.kept hS.2.1)
  have hN' : vx_Zq Bundle.tN "SUPPRESSED_SENTINEL" Bundle.listD A s' s'.heap := by rw [hhp]; exact vx_Zq.moved hW0.alike (hN.kept hS.2.1)
  have h : ∀ w ∈ Bundle.ownAtoms own ic cls names, w.before args s' = true := vx_own hat' (vx_isRefq hU'.1) (vx_isRefq hN'.1) hU'.2.word hN'.2.word
  have hown' : s'.vm.findClass own = some m.cls := by rw [hvm]; exact hown
  have hins : (Cond.instantiable cls 6).before args s' = true := h _ (by simp [Bundle.ownAtoms])
  obtain ⟨vm₁, cX, kX, hfX, hkX, -, -, X₁, st1⟩ := Y.newCold hexec (own := own) (C := cls) (index := ik) (n := 6) hown' hk' hins hini'
    (g := F0 m pc ls rest) rfl (by rw [hb]; exact d0) (Nat.le_refl _) (Nat.le_refl _)
  generalize hT1 : (T.setVm vm₁).pushCell { cls := cX, slots := kX.instanceTypes.map defaultValue, vm := .none } = T1 at X₁ st1
  have hcat : (Value.ref T.heap.size).category = 1 := rfl
  have hcellA : T1.heap[T.heap.size]? = some (freshCell cX kX) := by rw [← hT1]; exact State.heap_pushCell_size _ _
  have d3' : decode c.code (pc + 3) = .ok (.dup, 1) := by rw [hb]; exact d3
  have d4' : decode c.code (pc + 4) = .ok (.ldc_w is, 3) := by rw [hb]; exact d4
  have hstr' : vk_R own is text sa s' := vk_R.warm hW0 hstr
  obtain ⟨U, hsteps, hrun, hend, hW, hsame, ce, hce, hO⟩ := X₁.ctorThrowS hexec htr (own := own) (cls := cls) (names := names) (ic := ic) hown' hcls hnames h (fun x hx => nomatch hx) hfX hkX hcellA (by rw [hhp, hT]; exact Nat.le_refl _) (msg := .ref sa) rfl
    (g := { method := m, pc := pc + 7, locals := ls, stack := .ref sa :: .ref T.heap.size :: .ref T.heap.size :: rest, locked := none }) rfl hsize rfl rfl (rest := rest) rfl
    (by rw [hb]; exact d7) (by rw [hb]; exact d10) hout hRframes (by simp only [List.map_cons, List.sum_cons, hcat]; omega) hlocks
  obtain ⟨f1, f2⟩ := vx_frame hsame
  rw [hhp] at f1 f2
  have hWs : s.WarmedH U.vm := State.WarmedH.trans hW0 hW
  have hcl : s.vm.findClass cls = some ce.cls := by
    have h9 := hO.cls
    rw [hvm] at h9
    exact h9
  have hall : s.sameButNew ({ U with vm := s.vm } : State) locs mc ms := by
    subst hA
    obtain ⟨e1, e2⟩ := hsame
    rw [State.setFrames_setFrames] at e1
    have h2 : (T.setVm s.vm).sameButNew ({ U with vm := s.vm } : State) [] (0 + 1) (0 + 6) := ⟨e1, e2⟩
    have h3 := X.same.trans h2
    rw [List.append_nil] at h3
    exact h3.mono hc hs
  refine ⟨U, ?_, .threw T.heap.size, hrun, hend, Or.inr ⟨T.heap.size, rfl, cls, ce, locs, hx U hWs.alike f1 (fun q hq => f2 q hq (fun z hz => nomatch hz)), hce, hO.vm, hcl, hWs, hall, hf⟩⟩
  refine st1 _ ?_
  show Steps p.tables e below (T1.setTop { method := m, pc := pc + 3, locals := ls, stack := .ref T.heap.size :: rest, locked := none }) _
  jvm_step X₁.here [X₁.here.top, hexec, d3', Value.category]
  exact X₁.ldcStringW hexec (own := own) (text := text) (index := is) (a := sa) hown' hstr'.1 hstr'.2
    (g := { method := m, pc := pc + 4, locals := ls, stack := .ref T.heap.size :: .ref T.heap.size :: rest, locked := none }) rfl d4' _ hsteps
end Ends
section Bodies
variable {l : Launch}
theorem vx_ofW {y : MethodName} {ws ws' : List Cond} {rm : Room} {Pc : Array Value → State → Prop} {Qc : Array Value → State → Outcome → State → Prop} {XC : String → State → State → Prop} {mc ms : Nat} {free : Addr → Prop} {cc : ByteArray} {maxL : Nat} {ret : Option FieldType}
    (hy : plainName y.cls = true) (hw : ws = Cond.code y cc maxL ret :: ws')
    (body : ∀ p e s m args below meth c s₁, BodyLoose p l y (headSpec ws rm) cc maxL ret e s m args below meth c s₁ → c.maxLocals = maxL → (∀ x ∈ c.exceptionTable.toList, False) → Pc args s →
      W p l e (headSpec ws rm).room s m args below meth c s.heap [] 0 0 (vx_MQ below Qc XC args s mc ms free) (entryFrame m args maxL)) : vx_Met l y ws rm Pc Qc XC mc ms free := by
  refine MetFree.of_bodyS (code := cc) (maxLocals := maxL) (ret := ret) hy ?_ ?_
  · intro args s m h hn
    obtain ⟨meth, c, h1, h2, h3, h4, h5, h6, -, -⟩ := Cond.code_spec hn (atoms_spec (ws := ws) h _ (by rw [hw]; exact List.mem_cons_self))
    exact ⟨meth, c, h1, h2, h3, h4, h5, h6⟩
  · intro p e s m args below meth c s₁ B hml hP _
    have hh0 : s₁.heap = s.heap := by rw [B.state]; rfl
    have ht : ∀ x ∈ c.exceptionTable.toList, False := by
      obtain ⟨meth9, c9, h1, h2, -, -, -, -, h7, -⟩ := Cond.code_spec B.named (atoms_spec (ws := ws) B.pre _ (by rw [hw]; exact List.mem_cons_self))
      cases Option.some.inj (h1.symm.trans B.method)
      cases Option.some.inj (h2.symm.trans (Stand.of_body B).code)
      intro x hx
      rw [Array.isEmpty_iff.mp h7] at hx
      cases hx
    obtain ⟨t, a1, o, b1, b2, b3⟩ := body p e s m args below meth c s₁ B hml ht hP s₁ hh0 (Stand.of_body B)
    exact ⟨t, o, a1, b1, b2, b3⟩
/-- the table of a body with handlers -/
theorem vx_table {p : Program} {x y : MethodName} {S : Spec} {cc bytes : ByteArray} {maxL maxL' : Nat} {ret ret' : Option FieldType} {e : Env} {s s₁ : State} {m : MethodId} {args : Array Value} {below : List Frame} {meth : Method} {c : Code} {hh : List (Nat × Nat × Nat × Nat)}
    (B : BodyLoose p l y S cc maxL ret e s m args below meth c s₁) (h : (Cond.codeWith y bytes maxL' ret' hh).before args s = true) : c.exceptionTable.toList = tableOf hh := by
  obtain ⟨m9, meth9, c9, hn9, h1, h2, -, -, h6, -⟩ := Cond.codeWith_spec h
  cases Option.some.inj (hn9.symm.trans B.named)
  cases Option.some.inj (h1.symm.trans B.method)
  cases Option.some.inj (h2.symm.trans (Stand.of_body B).code)
  rw [← h6, table_eq]
end Bodies
end VXA
/-! ===== END ===== -/
/-! ===== BEGIN a static call of a method with an exception table ===== -/
section VXS
variable {p : Program} {l : Launch} {e : Env} {R : Room} {s : State} {m : MethodId} {args : Array Value} {below : List Frame} {meth : Method} {c : Code} {T : State} {H : Heap} {locs : List Loc} {cells slots : Nat}
abbrev vx_CSW (R : Room) (s : State) (args : Array Value) (own : String) (index : Nat) (y : MethodName) (bytes : ByteArray) (maxL : Nat) (ret : Option FieldType) (hh : List (Nat × Nat × Nat × Nat)) (ws : List Cond) (rm : Room) (mc ms n : Nat) : Prop :=
  (rm.cells = mc ∧ rm.slots = ms ∧ rm.frames + 1 ≤ R.frames ∧ 8 + (maxL + 11) + rm.locals ≤ R.locals ∧ (∀ w ∈ ws, ∀ (a' : Array Value) (U : State), s.WarmedH U.vm → w.before a' U = true) ∧ Cond.codeWith y bytes maxL ret hh ∈ ws) ∧
  (Cond.codeWith y bytes maxL ret hh).before args s = true ∧ (Cond.initialized y.cls).before args s = true ∧ (y.cls ≠ "java/lang/invoke/MethodHandle" ∧ y.cls ≠ "java/lang/invoke/VarHandle") ∧
  (∀ sig, parseMethodDescriptor y.desc = some sig → n = sig.parameters.length) ∧ (Cond.methodLink own index y).before args s = true ∧ (Cond.static y).before args s = true
theorem vx_cwSW {own : String} {index maxL mc ms : Nat} {y : MethodName} {bytes : ByteArray} {ret : Option FieldType} {hh : List (Nat × Nat × Nat × Nat)} {Ts ws ws' : List Cond} {rm : Room} (n : Nat) (ht : ∀ w ∈ Ts, w.before args s = true) (hT : GoodIn Ts (va_wsS own index y ws)) (hw : ws = Cond.codeWith y bytes maxL ret hh :: ws') (hrc : rm.cells = mc) (hrs : rm.slots = ms)
    (hd : y.cls ≠ "java/lang/invoke/MethodHandle" ∧ y.cls ≠ "java/lang/invoke/VarHandle" ∧ (parseMethodDescriptor y.desc).map (fun d => d.parameters.length) = some n) (hR : rm.frames + 1 ≤ R.frames ∧ 8 + (maxL + 11) + rm.locals ≤ R.locals) :
    vx_CSW R s args own index y bytes maxL ret hh ws rm mc ms n := by
  have ok : ∀ w ∈ va_wsS own index y ws, w.before args s = true := fun w h => ht w (hT w h).1
  have hG : GoodIn Ts ws := fun w h => hT w (by unfold va_wsS; exact List.mem_append_right _ h)
  have hc : Cond.codeWith y bytes maxL ret hh ∈ ws := by rw [hw]; exact List.mem_cons_self
  refine ⟨⟨hrc, hrs, hR.1, hR.2, pay_in ht hG, hc⟩, ht _ (hG _ hc).1, ok _ (by simp [va_wsS]), ⟨hd.1, hd.2.1⟩, fun sig h => ?_, ok _ (by simp [va_wsS]), ok _ (by simp [va_wsS])⟩
  have h2 := hd.2.2
  rw [h] at h2
  exact (Option.some.inj h2).symm
theorem vx_callSW (X : Stand p l e R s m args below meth c T locs cells slots) (hexec : p.tables.exec = Jvm.exec) {own : String} {index : Nat} {y : MethodName} {bytes : ByteArray} {maxL : Nat} {ret : Option FieldType} {hh : List (Nat × Nat × Nat × Nat)}
    (hown : s.vm.findClass own = some m.cls) (hlink : (Cond.methodLink own index y).before args s = true) (hstat : (Cond.static y).before args s = true) (hinit : (Cond.initialized y.cls).before args s = true)
    (hcode : (Cond.codeWith y bytes maxL ret hh).before args s = true) (hy : y.cls ≠ "java/lang/invoke/MethodHandle" ∧ y.cls ≠ "java/lang/invoke/VarHandle")
    {W9 : Nat} {Pre : Pt → Array Value → Prop} {Post : Pt → Array Value → Option Value → Pt → Prop} (hK : Back l R p e below s args y 3 W9 Pre Post)
    {g : JFrame} (hg : g.method = m) (hsize : g.locals.size = c.maxLocals) {argsL rest : List Value} (hlen : ∀ sig, parseMethodDescriptor y.desc = some sig → argsL.length = sig.parameters.length)
    (hstack : g.stack = argsL.reverse ++ rest) (hW : 2 * g.monitorRoom + (rest.map fun v => v.category).sum ≤ W9) (hdg : decode c.code g.pc = .ok (.invokestatic index, 3))
    (hpre : ∀ vm₁, s.WarmedH vm₁ → Pre ⟨T.setVm vm₁, locs, cells, slots⟩ argsL.toArray) :
    ∃ (v : Option Value) (vm₁ : Vm) (B : Pt), s.WarmedH vm₁ ∧ Stand p l e R s m args below meth c B.U B.locs B.cells B.slots ∧ Post ⟨T.setVm vm₁, locs, cells, slots⟩ argsL.toArray v B ∧
      ∀ target, Steps p.tables e below (B.U.setTop { g with pc := g.pc + 3, stack := v.toList ++ rest }) target → Steps p.tables e below (T.setTop g) target := by
  obtain ⟨mk, methM, cM, hnamed, hmethM, -, -, -, -, -, -, hsigM⟩ := Cond.codeWith_spec hcode
  have hstatic : methM.isStatic = true := Cond.static_spec hnamed hmethM hstat
  obtain ⟨kP, hkP, -⟩ := className_of_methodNamed hnamed
  have hinitP : kP.init = .initialized := Cond.initialized_spec (findClass_of_methodNamed hnamed) hkP hinit
  obtain ⟨vm₁, X₁, hstep₁⟩ := X.invokestatic hexec hown hlink hnamed hmethM hstatic hkP hinitP hy (g := g) hg (argsL := argsL) (rest := rest) (hlen _ hsigM) hstack hdg
  obtain ⟨v, B, X', hpost, hsteps⟩ := hK m meth c ⟨T.setVm vm₁, locs, cells, slots⟩ { g with stack := rest } (.invokestatic index) mk argsL.toArray X₁ hg hsize hdg hW (X₁.named hnamed) (hpre vm₁ X₁.warmed)
  exact ⟨v, vm₁, B, X₁.warmed, X', hpost, fun target h => hstep₁ _ fun acts => by rw [doInvoke_state]; exact hsteps.trans h⟩
theorem vx_runSW {y : MethodName} {bytes cc : ByteArray} {maxL nL mc ms n index : Nat} {ret : Option FieldType} {hh : List (Nat × Nat × Nat × Nat)} {ws : List Cond} {rm : Room} {Pc : Array Value → State → Prop} {Qc : Array Value → State → Outcome → State → Prop} {free : Addr → Prop} {Ts : List Cond} {own : String} {As rest : List Value} {g : JFrame}
    (S : CallFix p m c cc nL s args Ts own) (hM : Met l y ws rm Pc Qc mc ms free) (cw : vx_CSW R s args own index y bytes maxL ret hh ws rm mc ms n) (hp : PreS s H Pc As)
    (hg : g.method = m) (hn : As.length = n) (hsize : g.locals.size = nL) (hstack : g.stack = As.reverse ++ rest) (hW : 2 * g.monitorRoom + (rest.map fun v => v.category).sum ≤ 8) (hdg : decode cc g.pc = .ok (.invokestatic index, 3)) (hf : cells + mc ≤ R.cells ∧ slots + ms ≤ R.slots) :
    va_Run p l e R s m args below meth c H locs cells slots mc ms g rest (Qc As.toArray) (free) := by
  obtain ⟨⟨hrc, hrs, hfr, hlo, hws, hcw⟩, hcode, hini, hy, hlen, hl, hstt⟩ := cw
  have hK : Back l R p e below s args y 3 8 (PreOf R mc ms Pc) (PostOf Qc mc ms free) := va_backW (hh := hh) (bytes := bytes) (maxL := maxL) (ret := ret) hM hp.1 hrc hrs hfr hlo hws hcw (fun a' U hW => word_at hW (Or.inl (by first | rfl | simp [Cond.onTables, Cond.keeps, Cond.steady])) hini)
  obtain ⟨hx, hb, hml, ho, -⟩ := S
  intro T hT X
  obtain ⟨v, vm₁, ⟨U', l2, c2, s2⟩, hW₁, X', ⟨g', mk, t, L, e1, e2, hq, h1, hL, h2, h3⟩, st⟩ := vx_callSW X hx (hh := hh) (bytes := bytes) (maxL := maxL) (ret := ret) ho hl hstt hini hcode hy hK hg (hsize.trans hml.symm) (argsL := As) (rest := rest) (fun sig h => hn.trans (hlen sig h)) hstack hW (by rw [hb]; exact hdg)
    (fun vm₁ hW₁ => ⟨hf.1, hf.2, hp.2 (T.setVm vm₁) hT hW₁⟩)
  dsimp only [Pt.U, Pt.locs, Pt.cells, Pt.slots] at X' e1 e2 h1 h2 h3 st
  subst h1; subst h2; subst h3
  exact ⟨v, (T.setVm vm₁).calling g' mk As.toArray, t, U', L, hT, X', hL, e1, e2, hq, st⟩
/-- not caught here, past rows that name other classes: it goes on to the caller -/
theorem vx_outP {p : Program} {l : Launch} {e : Env} {R : Room} {s : State} {m : MethodId} {args : Array Value} {below : List Frame} {meth : Method} {c : Code} {H : Heap} {locs : List Loc} {cells slots : Nat} {free : Addr → Prop} {ls : Array Slot} {rest : List Value} {Qc : Array Value → State → Outcome → State → Prop} {XC : String → State → State → Prop}
    {pc : Nat} {own E : String} {ce : Cell} {q : Addr} {mc ms : Nat} (hown : s.vm.findClass own = some m.cls) (hlocks : meth.locks = false)
    (hpass : ∀ z ∈ c.exceptionTable.toList, covers z pc = false ∨ (z.catchType ≠ 0 ∧ ∃ nm : String, (Cond.classLink own z.catchType nm).before args s = true ∧ va_Nc E nm s)) (hcell : H[q]? = some ce) (hv : ce.vm = .none) (hcl : s.vm.findClass E = some ce.cls)
    (hx : ∀ t : State, t.heap = H → s.vm.Alike t.vm → XC E s t) (hf : ∀ z ∈ locs, free z.base) (hc : cells ≤ mc) (hs : slots ≤ ms) :
    vx_W p l e R s m args below meth c H locs cells slots (vx_MQ below Qc XC args s mc ms free) (F0 m pc ls rest) q := by
  intro T hT X
  have hpl : e.platform.magicAccessors = ({} : Platform).magicAccessors := by rw [X.admits.platform]
  obtain ⟨vm', hW', X', st⟩ := X.outThrough hlocks q (g := F0 m pc ls rest) rfl rfl rfl (cell := ce) (by rw [hT]; exact hcell) (by rw [hv]; rfl)
    (by obtain ⟨k9, h9, -⟩ := Vm.findClass_spec hcl; exact ⟨k9, h9⟩) (fun z hz => by
      rcases hpass z hz with h | ⟨hz0, nm, hl1, hn1⟩
      · exact Or.inl h
      · obtain ⟨c6, hc6, hcl6⟩ := Cond.classLink_spec hown hl1 e.platform hpl
        obtain ⟨a8, b8, h1, h2, h3⟩ := hn1
        cases Option.some.inj (h1.symm.trans hcl)
        cases Option.some.inj (h2.symm.trans hc6)
        exact Or.inr ⟨hz0, _, hcl6, h3⟩)
  obtain ⟨g₀, hfr⟩ := X'.frames_eq
  have hcell9 : ((T.setVm vm').setFrames (.throwing q :: below)).heap[q]? = some ce := by
    show T.heap[q]? = some ce
    rw [hT]; exact hcell
  have hend : Ended ((T.setVm vm').setFrames (.throwing q :: below)) below (.threw q) := State.frames_setFrames _ (State.cur_lt_of_frames hfr)
  refine ⟨(T.setVm vm').setFrames (.throwing q :: below), ?_, .threw q, X'.here.running, hend, Or.inr ⟨q, rfl, E, ce, locs, hx _ hT (X'.ends _).1.alike, hcell9, hv, hcl, (X'.ends _).1, (X'.ends _).2.mono hc hs, hf⟩⟩
  rw [X.pushThrowing_eq]
  exact st
/-- a thing of a world lies in the heap -/
theorem vx_lt {D : va_G} {cl : List vw_C} {ws : va_W} {H1 : Heap} (h : va_P D cl ws H1) {k : Nat} {q : Nat × va_E} (hk : ws[k]? = some q) : q.1 < H1.size := (h k q hk).lt
end VXS
/-! ===== END ===== -/
/-! ===== BEGIN methods with a table of their own: called by a name, returning or throwing ===== -/
section VXH
/-! vx_backW, vx_callVX, vx_callSX, vx_callVW, vx_runVW, vx_runVX, vx_runSX, vx_ofWH follow the same proofs as their sisters above (Free/Laws.lean, Shelf42/LK1.lean); vx_outP calls Shelf42/NT130.lean (outThrough). -/
section
variable {l : Launch} {R : Room} {p : Program} {e : Env} {below : List Frame} {s : State} {sargs : Array Value} {y : MethodName} {len W9 : Nat}
theorem vx_backW {ws : List Cond} {rm : Room} {Pc : Array Value → State → Prop} {Qc : Array Value → State → Outcome → State → Prop} {XC : String → State → State → Prop} {mc ms : Nat} {free : Addr → Prop} {bytes : ByteArray} {maxL : Nat} {ret : Option FieldType} {hh : List (Nat × Nat × Nat × Nat)}
    (hM : vx_Met l y ws rm Pc Qc XC mc ms free) (hblind : FrameBlind Pc) (hrc : rm.cells = mc) (hrs : rm.slots = ms)
    (hframes : rm.frames + 1 ≤ R.frames) (hlocals : W9 + (maxL + 11) + rm.locals ≤ R.locals)
    (hws : ∀ w ∈ ws, ∀ a' U, s.WarmedH U.vm → w.before a' U = true) (hcode : Cond.codeWith y bytes maxL ret hh ∈ ws) (hinit : ∀ a' U, s.WarmedH U.vm → (Cond.initialized y.cls).before a' U = true) :
    vx_Back l R p e below s sargs y len W9 (PreOf R mc ms Pc) (PostOf Qc mc ms free) (vx_Post XC mc ms free) := by
  intro m meth c A g ig mk a X hg hsize hdg hW hn hp
  have h1 : (headSpec ws rm).pre.before a A.U = true := atoms_intro fun w hw => hws w hw _ _ X.warmed
  have h2 : (Cond.codeWith y bytes maxL ret hh).before a A.U = true := hws _ hcode _ _ X.warmed
  have h3 : (Cond.initialized y.cls).before a A.U = true := hinit _ _ X.warmed
  have h4 : A.cells + (headSpec ws rm).room.cells ≤ R.cells := by rw [show (headSpec ws rm).room.cells = mc from hrc]; exact hp.1
  have h5 : A.slots + (headSpec ws rm).room.slots ≤ R.slots := by rw [show (headSpec ws rm).room.slots = ms from hrs]; exact hp.2.1
  have hPc : Pc a (A.U.calling g mk a) := hblind _ _ _ _ hp.2.2
  obtain ⟨U, Ls, c0, s0⟩ := A
  dsimp only [Pt.U, Pt.locs, Pt.cells, Pt.slots] at h1 h2 h3 h4 h5 X hn hPc ⊢
  obtain ⟨m9, methY, cY, hn9, hmY, hcY, -, hlY, -⟩ := Cond.codeWith_spec h2
  cases Option.some.inj (hn9.symm.trans hn)
  obtain ⟨kY, hkY, -⟩ := className_of_methodNamed hn
  have hinitY : kY.init = .initialized := Cond.initialized_spec (findClass_of_methodNamed hn) hkY h3
  have h : At U g.method c below := by rw [hg]; exact X.here
  have hlocals9 : W9 + (maxL + 11) + (headSpec ws rm).room.locals ≤ R.locals := hlocals
  have happ : (headSpec ws rm).appliesLoose y e.platform (U.calling g mk a) = true :=
    Spec.appliesLoose_calling (g := g) h hdg hn hkY hinitY
      (X.room_calling (g := g) (R' := (headSpec ws rm).room) hsize hmY hcY hframes (by rw [hlY]; omega) h4 h5) h1
  obtain ⟨mid, hmid⟩ := h.above
  have hfr : (U.setTop g).frames = (.java g :: mid) ++ below := by rw [State.frames_setTop' g h.top, hmid]; rfl
  obtain ⟨o, s₂, hsteps, -, hend, hq⟩ := Steps.callFree hM p X.admits X.cas X.clock (acts := []) hfr happ hPc trivial
  have hq' : vx_Q Qc XC mc ms free a (U.calling g mk a) o s₂ := hq
  rw [State.frames_setTop' g h.top] at hend
  obtain ⟨g₀, hg0⟩ := Option.isSome_iff_exists.mp h.top
  obtain ⟨r, hr⟩ := State.topJava?_eq_some.mp hg0
  have hr' : (({ U with heap := s₂.heap, slotsUsed := s₂.slotsUsed } : State).setVm s₂.vm).frames = .java g₀ :: r := hr
  rcases hq' with ⟨hqc, L, hfe, hL⟩ | ⟨q, rfl, E, ce, L, hx, hce, hcv, hcl, hW₂, hsm, hL⟩
  · obtain ⟨⟨v, rfl⟩, hW₂, e2, q2, q3, q4, q5, q6⟩ := id hfe
    have e3 : s₂ = ({ (U.calling g mk a).setFrames s₂.frames with heap := s₂.heap, slotsUsed := s₂.slotsUsed } : State).setVm s₂.vm := by
      have : s₂ = ({ s₂ with vm := (U.calling g mk a).vm } : State).setVm s₂.vm := rfl
      rw [e2] at this
      exact this
    obtain ⟨c₂, i₂, len₂, hc₂, hd₂, hf₂⟩ := hend
    have hW' : U.WarmedH s₂.vm := hW₂
    have hcc : c₂ = c := by
      have h1 : s₂.code? g.method = U.code? g.method := by
        rw [State.code?_eq, State.code?_eq, hW'.alike.method?]
      exact Option.some.inj (hc₂.symm.trans (h1.trans h.code))
    subst hcc
    have hlen : len₂ = len := by rw [hdg] at hd₂; cases hd₂; rfl
    subst hlen
    have hs₂ : s₂ = (({ U with heap := s₂.heap, slotsUsed := s₂.slotsUsed } : State).setVm s₂.vm).setTop { g with pc := g.pc + len₂, stack := v.toList ++ g.stack } := by
      refine e3.trans ?_
      rw [hf₂, State.calling_eq h.top, State.setFrames_setFrames, State.setTop_of_frames _ hr', hr]
      rfl
    have hsame : U.sameButNew ({ U with heap := s₂.heap, slotsUsed := s₂.slotsUsed } : State) L mc ms := by
      refine ⟨?_, q2, q3, q4, q5, q6⟩
      obtain ⟨t, ht, -⟩ := State.frames_cons hr
      show ({ U with heap := s₂.heap, slotsUsed := s₂.slotsUsed } : State) = { U.setFrames U.frames with heap := s₂.heap, slotsUsed := s₂.slotsUsed }
      rw [State.setFrames_self ht]
    subst hg
    refine Or.inl ⟨v, ⟨(({ U with heap := s₂.heap, slotsUsed := s₂.slotsUsed } : State).setVm s₂.vm), Ls ++ L, c0 + mc, s0 + ms⟩,
      ⟨X.admits, X.cas, X.clock, X.frames, X.room, X.hears, X.method, X.code, (X.here.setHeapUsed s₂.heap s₂.slotsUsed).setVm hW'.alike, X.tail, State.WarmedH.trans X.warmed hW', X.limits, X.bytes, X.same.trans (hsame.setVm s.vm)⟩,
      ⟨g, mk, s₂, L, rfl, rfl, hqc, rfl, hL, rfl, rfl⟩, ?_⟩
    show Steps p.tables e below _ ((({ U with heap := s₂.heap, slotsUsed := s₂.slotsUsed } : State).setVm s₂.vm).setTop { g with pc := g.pc + len₂, stack := v.toList ++ g.stack })
    rw [← hs₂]
    exact hsteps
  · obtain ⟨e2, q2, q3, q4, q5, q6⟩ := id hsm
    have e3 : s₂ = ({ (U.calling g mk a).setFrames s₂.frames with heap := s₂.heap, slotsUsed := s₂.slotsUsed } : State).setVm s₂.vm := by
      have : s₂ = ({ s₂ with vm := (U.calling g mk a).vm } : State).setVm s₂.vm := rfl
      rw [e2] at this
      exact this
    have hf₂ : s₂.frames = .throwing q :: .java g :: U.frames.tail := hend
    have hW' : U.WarmedH s₂.vm := hW₂
    have hs₂ : s₂ = ((({ U with heap := s₂.heap, slotsUsed := s₂.slotsUsed } : State).setVm s₂.vm).setTop g).pushFrame (.throwing q) := by
      refine e3.trans ?_
      rw [hf₂, State.calling_eq h.top, State.setFrames_setFrames, State.pushFrame, State.frames_setTop _ hr', State.setTop_of_frames _ hr', State.setFrames_setFrames, hr]
      rfl
    have hsame : U.sameButNew ({ U with heap := s₂.heap, slotsUsed := s₂.slotsUsed } : State) L mc ms := by
      refine ⟨?_, q2, q3, q4, q5, q6⟩
      obtain ⟨t, ht, -⟩ := State.frames_cons hr
      show ({ U with heap := s₂.heap, slotsUsed := s₂.slotsUsed } : State) = { U.setFrames U.frames with heap := s₂.heap, slotsUsed := s₂.slotsUsed }
      rw [State.setFrames_self ht]
    subst hg
    refine Or.inr ⟨q, ⟨(({ U with heap := s₂.heap, slotsUsed := s₂.slotsUsed } : State).setVm s₂.vm), Ls ++ L, c0 + mc, s0 + ms⟩,
      ⟨X.admits, X.cas, X.clock, X.frames, X.room, X.hears, X.method, X.code, (X.here.setHeapUsed s₂.heap s₂.slotsUsed).setVm hW'.alike, X.tail, State.WarmedH.trans X.warmed hW', X.limits, X.bytes, X.same.trans (hsame.setVm s.vm)⟩,
      ⟨g, mk, s₂, L, E, ce, rfl, rfl, hx, hce, hcv, hcl, rfl, hL, rfl, rfl⟩, ?_⟩
    show Steps p.tables e below _ (((({ U with heap := s₂.heap, slotsUsed := s₂.slotsUsed } : State).setVm s₂.vm).setTop g).pushFrame (.throwing q))
    rw [← hs₂]
    exact hsteps
end
variable {p : Program} {l : Launch} {e : Env} {R : Room} {s : State} {m : MethodId} {args : Array Value} {below : List Frame} {meth : Method} {c : Code} {T : State} {H : Heap} {locs : List Loc} {cells slots : Nat}
theorem vx_callVX (X : Stand p l e R s m args below meth c T locs cells slots) (hexec : p.tables.exec = Jvm.exec) {own C : String} {index : Nat} {y : MethodName} {bytes : ByteArray} {maxL : Nat} {ret : Option FieldType} {hh : List (Nat × Nat × Nat × Nat)}
    (hown : s.vm.findClass own = some m.cls) (hlink : (Cond.methodLink own index y).before args s = true) (hinst : (Cond.instanceMethod y).before args s = true) (hsel : (Cond.selects C y y).before args s = true)
    (hcode : (Cond.codeWith y bytes maxL ret hh).before args s = true) (hy : y.cls ≠ "java/lang/invoke/MethodHandle" ∧ y.cls ≠ "java/lang/invoke/VarHandle")
    {W9 : Nat} {Pre : Pt → Array Value → Prop} {Post : Pt → Array Value → Option Value → Pt → Prop} {PostX : Pt → Array Value → Addr → Pt → Prop} (hK : vx_Back l R p e below s args y 3 W9 Pre Post PostX)
    {b : Addr} {cellB : Cell} (hcell : T.heap[b]? = some cellB) (hobj : cellB.vm.isStatics = false) (hcls : s.vm.findClass C = some cellB.cls)
    {g : JFrame} (hg : g.method = m) (hsize : g.locals.size = c.maxLocals) {argsL rest : List Value} (hlen : ∀ sig, parseMethodDescriptor y.desc = some sig → argsL.length = sig.parameters.length)
    (hstack : g.stack = argsL.reverse ++ .ref b :: rest) (hW : 2 * g.monitorRoom + (rest.map fun v => v.category).sum ≤ W9) (hdg : decode c.code g.pc = .ok (.invokevirtual index, 3))
    (hpre : ∀ vm₁, s.WarmedH vm₁ → Pre ⟨T.setVm vm₁, locs, cells, slots⟩ (Value.ref b :: argsL).toArray) :
    (∃ (v : Option Value) (vm₁ : Vm) (B : Pt), s.WarmedH vm₁ ∧ Stand p l e R s m args below meth c B.U B.locs B.cells B.slots ∧ Post ⟨T.setVm vm₁, locs, cells, slots⟩ (Value.ref b :: argsL).toArray v B ∧
      ∀ target, Steps p.tables e below (B.U.setTop { g with pc := g.pc + 3, stack := v.toList ++ rest }) target → Steps p.tables e below (T.setTop g) target) ∨
    (∃ (q : Addr) (vm₁ : Vm) (B : Pt), s.WarmedH vm₁ ∧ Stand p l e R s m args below meth c B.U B.locs B.cells B.slots ∧ PostX ⟨T.setVm vm₁, locs, cells, slots⟩ (Value.ref b :: argsL).toArray q B ∧
      Steps p.tables e below (T.setTop g) ((B.U.setTop { g with stack := rest }).pushFrame (.throwing q))) := by
  obtain ⟨mk, methM, hnamed, hmethM, hstM, habM⟩ := Cond.instanceMethod_spec hinst
  obtain ⟨m8, methM', cM, hn8, hmethM', -, -, -, -, -, -, hsigM⟩ := Cond.codeWith_spec hcode
  cases Option.some.inj (hn8.symm.trans hnamed)
  cases hmethM.symm.trans hmethM'
  obtain ⟨c2, r2, m2, q1, q2, q3, q4, kP, hkP, hkPi⟩ := Cond.selects_spec hsel
  cases hcls.symm.trans q1
  cases (State.methodFound?_of_named hnamed hy).symm.trans q2
  cases hnamed.symm.trans q3
  have hselP : selectMethod e.platform s.vm cellB.cls mk = .method mk := by rw [Launch.admits_selectMethod X.admits]; exact q4
  obtain ⟨vm₁, X₁, hstep₁⟩ := X.invokevirtual hexec hown hlink hnamed hmethM hstM hkP hkPi hy (a := b) (cell := cellB) hcell
    (fun z h => by rw [h] at hobj; cases hobj) hselP hmethM habM hkP hkPi (g := g) hg (argsL := argsL) (rest := rest) (hlen _ hsigM) hstack hdg
  rcases hK m meth c ⟨T.setVm vm₁, locs, cells, slots⟩ { g with stack := rest } (.invokevirtual index) mk (Value.ref b :: argsL).toArray X₁ hg hsize hdg hW (X₁.named hnamed) (hpre vm₁ X₁.warmed) with ⟨v, B, X', hpost, hsteps⟩ | ⟨q, B, X', hpost, hsteps⟩
  · exact Or.inl ⟨v, vm₁, B, X₁.warmed, X', hpost, fun target h => hstep₁ _ fun acts => by rw [doInvoke_state]; exact hsteps.trans h⟩
  · exact Or.inr ⟨q, vm₁, B, X₁.warmed, X', hpost, hstep₁ _ fun acts => by rw [doInvoke_state]; exact hsteps⟩
theorem vx_callSX (X : Stand p l e R s m args below meth c T locs cells slots) (hexec : p.tables.exec = Jvm.exec) {own : String} {index : Nat} {y : MethodName} {bytes : ByteArray} {maxL : Nat} {ret : Option FieldType} {hh : List (Nat × Nat × Nat × Nat)}
    (hown : s.vm.findClass own = some m.cls) (hlink : (Cond.methodLink own index y).before args s = true) (hstat : (Cond.static y).before args s = true) (hinit : (Cond.initialized y.cls).before args s = true)
    (hcode : (Cond.codeWith y bytes maxL ret hh).before args s = true) (hy : y.cls ≠ "java/lang/invoke/MethodHandle" ∧ y.cls ≠ "java/lang/invoke/VarHandle")
    {W9 : Nat} {Pre : Pt → Array Value → Prop} {Post : Pt → Array Value → Option Value → Pt → Prop} {PostX : Pt → Array Value → Addr → Pt → Prop} (hK : vx_Back l R p e below s args y 3 W9 Pre Post PostX)
    {g : JFrame} (hg : g.method = m) (hsize : g.locals.size = c.maxLocals) {argsL rest : List Value} (hlen : ∀ sig, parseMethodDescriptor y.desc = some sig → argsL.length = sig.parameters.length)
    (hstack : g.stack = argsL.reverse ++ rest) (hW : 2 * g.monitorRoom + (rest.map fun v => v.category).sum ≤ W9) (hdg : decode c.code g.pc = .ok (.invokestatic index, 3))
    (hpre : ∀ vm₁, s.WarmedH vm₁ → Pre ⟨T.setVm vm₁, locs, cells, slots⟩ argsL.toArray) :
    (∃ (v : Option Value) (vm₁ : Vm) (B : Pt), s.WarmedH vm₁ ∧ Stand p l e R s m args below meth c B.U B.locs B.cells B.slots ∧ Post ⟨T.setVm vm₁, locs, cells, slots⟩ argsL.toArray v B ∧
      ∀ target, Steps p.tables e below (B.U.setTop { g with pc := g.pc + 3, stack := v.toList ++ rest }) target → Steps p.tables e below (T.setTop g) target) ∨
    (∃ (q : Addr) (vm₁ : Vm) (B : Pt), s.WarmedH vm₁ ∧ Stand p l e R s m args below meth c B.U B.locs B.cells B.slots ∧ PostX ⟨T.setVm vm₁, locs, cells, slots⟩ argsL.toArray q B ∧
      Steps p.tables e below (T.setTop g) ((B.U.setTop { g with stack := rest }).pushFrame (.throwing q))) := by
  obtain ⟨mk, methM, cM, hnamed, hmethM, -, -, -, -, -, -, hsigM⟩ := Cond.codeWith_spec hcode
  have hstatic : methM.isStatic = true := Cond.static_spec hnamed hmethM hstat
  obtain ⟨kP, hkP, -⟩ := className_of_methodNamed hnamed
  have hinitP : kP.init = .initialized := Cond.initialized_spec (findClass_of_methodNamed hnamed) hkP hinit
  obtain ⟨vm₁, X₁, hstep₁⟩ := X.invokestatic hexec hown hlink hnamed hmethM hstatic hkP hinitP hy (g := g) hg (argsL := argsL) (rest := rest) (hlen _ hsigM) hstack hdg
  rcases hK m meth c ⟨T.setVm vm₁, locs, cells, slots⟩ { g with stack := rest } (.invokestatic index) mk argsL.toArray X₁ hg hsize hdg hW (X₁.named hnamed) (hpre vm₁ X₁.warmed) with ⟨v, B, X', hpost, hsteps⟩ | ⟨q, B, X', hpost, hsteps⟩
  · exact Or.inl ⟨v, vm₁, B, X₁.warmed, X', hpost, fun target h => hstep₁ _ fun acts => by rw [doInvoke_state]; exact hsteps.trans h⟩
  · exact Or.inr ⟨q, vm₁, B, X₁.warmed, X', hpost, hstep₁ _ fun acts => by rw [doInvoke_state]; exact hsteps⟩
theorem vx_callVW (X : Stand p l e R s m args below meth c T locs cells slots) (hexec : p.tables.exec = Jvm.exec) {own C : String} {index : Nat} {y : MethodName} {bytes : ByteArray} {maxL : Nat} {ret : Option FieldType} {hh : List (Nat × Nat × Nat × Nat)}
    (hown : s.vm.findClass own = some m.cls) (hlink : (Cond.methodLink own index y).before args s = true) (hinst : (Cond.instanceMethod y).before args s = true) (hsel : (Cond.selects C y y).before args s = true)
    (hcode : (Cond.codeWith y bytes maxL ret hh).before args s = true) (hy : y.cls ≠ "java/lang/invoke/MethodHandle" ∧ y.cls ≠ "java/lang/invoke/VarHandle")
    {W9 : Nat} {Pre : Pt → Array Value → Prop} {Post : Pt → Array Value → Option Value → Pt → Prop} (hK : Back l R p e below s args y 3 W9 Pre Post)
    {b : Addr} {cellB : Cell} (hcell : T.heap[b]? = some cellB) (hobj : cellB.vm.isStatics = false) (hcls : s.vm.findClass C = some cellB.cls)
    {g : JFrame} (hg : g.method = m) (hsize : g.locals.size = c.maxLocals) {argsL rest : List Value} (hlen : ∀ sig, parseMethodDescriptor y.desc = some sig → argsL.length = sig.parameters.length)
    (hstack : g.stack = argsL.reverse ++ .ref b :: rest) (hW : 2 * g.monitorRoom + (rest.map fun v => v.category).sum ≤ W9) (hdg : decode c.code g.pc = .ok (.invokevirtual index, 3))
    (hpre : ∀ vm₁, s.WarmedH vm₁ → Pre ⟨T.setVm vm₁, locs, cells, slots⟩ (Value.ref b :: argsL).toArray) :
    ∃ (v : Option Value) (vm₁ : Vm) (B : Pt), s.WarmedH vm₁ ∧ Stand p l e R s m args below meth c B.U B.locs B.cells B.slots ∧ Post ⟨T.setVm vm₁, locs, cells, slots⟩ (Value.ref b :: argsL).toArray v B ∧
      ∀ target, Steps p.tables e below (B.U.setTop { g with pc := g.pc + 3, stack := v.toList ++ rest }) target → Steps p.tables e below (T.setTop g) target := by
  obtain ⟨mk, methM, hnamed, hmethM, hstM, habM⟩ := Cond.instanceMethod_spec hinst
  obtain ⟨m8, methM', cM, hn8, hmethM', -, -, -, -, -, -, hsigM⟩ := Cond.codeWith_spec hcode
  cases Option.some.inj (hn8.symm.trans hnamed)
  cases hmethM.symm.trans hmethM'
  obtain ⟨c2, r2, m2, q1, q2, q3, q4, kP, hkP, hkPi⟩ := Cond.selects_spec hsel
  cases hcls.symm.trans q1
  cases (State.methodFound?_of_named hnamed hy).symm.trans q2
  cases hnamed.symm.trans q3
  have hselP : selectMethod e.platform s.vm cellB.cls mk = .method mk := by rw [Launch.admits_selectMethod X.admits]; exact q4
  obtain ⟨vm₁, X₁, hstep₁⟩ := X.invokevirtual hexec hown hlink hnamed hmethM hstM hkP hkPi hy (a := b) (cell := cellB) hcell
    (fun z h => by rw [h] at hobj; cases hobj) hselP hmethM habM hkP hkPi (g := g) hg (argsL := argsL) (rest := rest) (hlen _ hsigM) hstack hdg
  obtain ⟨v, B, X', hpost, hsteps⟩ := hK m meth c ⟨T.setVm vm₁, locs, cells, slots⟩ { g with stack := rest } (.invokevirtual index) mk (Value.ref b :: argsL).toArray X₁ hg hsize hdg hW (X₁.named hnamed) (hpre vm₁ X₁.warmed)
  exact ⟨v, vm₁, B, X₁.warmed, X', hpost, fun target h => hstep₁ _ fun acts => by rw [doInvoke_state]; exact hsteps.trans h⟩
abbrev vx_CVW (R : Room) (s : State) (args : Array Value) (own C : String) (index : Nat) (y : MethodName) (bytes : ByteArray) (maxL : Nat) (ret : Option FieldType) (hh : List (Nat × Nat × Nat × Nat)) (ws : List Cond) (rm : Room) (mc ms n : Nat) : Prop :=
  (rm.cells = mc ∧ rm.slots = ms ∧ rm.frames + 1 ≤ R.frames ∧ 8 + (maxL + 11) + rm.locals ≤ R.locals ∧ (∀ w ∈ ws, ∀ (a' : Array Value) (U : State), s.WarmedH U.vm → w.before a' U = true) ∧ Cond.codeWith y bytes maxL ret hh ∈ ws) ∧
  (Cond.codeWith y bytes maxL ret hh).before args s = true ∧ (Cond.initialized y.cls).before args s = true ∧ (y.cls ≠ "java/lang/invoke/MethodHandle" ∧ y.cls ≠ "java/lang/invoke/VarHandle") ∧
  (∀ sig, parseMethodDescriptor y.desc = some sig → n = sig.parameters.length) ∧ (Cond.methodLink own index y).before args s = true ∧ (Cond.instanceMethod y).before args s = true ∧ (Cond.selects C y y).before args s = true
theorem vx_cwVW {own C : String} {index maxL mc ms : Nat} {y : MethodName} {bytes : ByteArray} {ret : Option FieldType} {hh : List (Nat × Nat × Nat × Nat)} {Ts ws ws' : List Cond} {rm : Room} (n : Nat) (ht : ∀ w ∈ Ts, w.before args s = true) (hT : GoodIn Ts (wsV own index C y ws)) (hw : ws = Cond.codeWith y bytes maxL ret hh :: ws') (hrc : rm.cells = mc) (hrs : rm.slots = ms)
    (hd : y.cls = C ∧ y.cls ≠ "java/lang/invoke/MethodHandle" ∧ y.cls ≠ "java/lang/invoke/VarHandle" ∧ (parseMethodDescriptor y.desc).map (fun d => d.parameters.length) = some n) (hR : rm.frames + 1 ≤ R.frames ∧ 8 + (maxL + 11) + rm.locals ≤ R.locals) :
    vx_CVW R s args own C index y bytes maxL ret hh ws rm mc ms n := by
  obtain ⟨hC, hd⟩ := hd
  subst hC
  have ok : ∀ w ∈ wsV own index y.cls y ws, w.before args s = true := fun w h => ht w (hT w h).1
  have hG : GoodIn Ts ws := fun w h => hT w (by unfold wsV; exact List.mem_append_right _ h)
  have hc : Cond.codeWith y bytes maxL ret hh ∈ ws := by rw [hw]; exact List.mem_cons_self
  refine ⟨⟨hrc, hrs, hR.1, hR.2, pay_in ht hG, hc⟩, ht _ (hG _ hc).1, ok _ (by simp [wsV]), ⟨hd.1, hd.2.1⟩, fun sig h => ?_, ok _ (by simp [wsV]), ok _ (by simp [wsV]), ok _ (by simp [wsV])⟩
  have h2 := hd.2.2
  rw [h] at h2
  exact (Option.some.inj h2).symm
theorem vx_runVW {y : MethodName} {bytes cc : ByteArray} {maxL nL mc ms n index : Nat} {ret : Option FieldType} {hh : List (Nat × Nat × Nat × Nat)} {ws : List Cond} {rm : Room} {Pc : Array Value → State → Prop} {Qc : Array Value → State → Outcome → State → Prop} {free : Addr → Prop} {Ts : List Cond} {own C : String} {b : Addr} {As rest : List Value} {g : JFrame}
    (S : CallFix p m c cc nL s args Ts own) (hM : Met l y ws rm Pc Qc mc ms free) (cw : vx_CVW R s args own C index y bytes maxL ret hh ws rm mc ms n) (hp : PreV s H C b Pc As)
    (hg : g.method = m) (hn : As.length = n) (hsize : g.locals.size = nL) (hstack : g.stack = As.reverse ++ .ref b :: rest) (hW : 2 * g.monitorRoom + (rest.map fun v => v.category).sum ≤ 8) (hdg : decode cc g.pc = .ok (.invokevirtual index, 3)) (hf : cells + mc ≤ R.cells ∧ slots + ms ≤ R.slots) :
    va_Run p l e R s m args below meth c H locs cells slots mc ms g rest (Qc (Value.ref b :: As).toArray) free := by
  obtain ⟨⟨hrc, hrs, hfr, hlo, hws, hcw⟩, hcode, hini, hy, hlen, hl, hin, hse⟩ := cw
  have hK : Back l R p e below s args y 3 8 (PreOf R mc ms Pc) (PostOf Qc mc ms free) := va_backW (hh := hh) (bytes := bytes) (maxL := maxL) (ret := ret) hM hp.1 hrc hrs hfr hlo hws hcw (fun a' U hW => word_at hW (Or.inl (by first | rfl | simp [Cond.onTables, Cond.keeps, Cond.steady])) hini)
  obtain ⟨hx, hb, hml, ho, -⟩ := S
  obtain ⟨-, ⟨cellB, hcB, hoB, hclB⟩, hPc⟩ := hp
  intro T hT X
  obtain ⟨v, vm₁, ⟨U', l2, c2, s2⟩, hW₁, X', ⟨g', mk, t, L, e1, e2, hq, h1, hL, h2, h3⟩, st⟩ := vx_callVW X hx (C := C) (hh := hh) (bytes := bytes) (maxL := maxL) (ret := ret) ho hl hin hse hcode hy hK (by rw [hT]; exact hcB) hoB hclB hg (hsize.trans hml.symm) (argsL := As) (rest := rest) (fun sig h => hn.trans (hlen sig h)) hstack hW (by rw [hb]; exact hdg)
    (fun vm₁ hW₁ => ⟨hf.1, hf.2, hPc (T.setVm vm₁) hT hW₁⟩)
  dsimp only [Pt.U, Pt.locs, Pt.cells, Pt.slots] at X' e1 e2 h1 h2 h3 st
  subst h1; subst h2; subst h3
  exact ⟨v, (T.setVm vm₁).calling g' mk (Value.ref b :: As).toArray, t, U', L, hT, X', hL, e1, e2, hq, st⟩
section
variable {y : MethodName} {bytes cc : ByteArray} {maxL nL mc ms n index : Nat} {ret : Option FieldType} {ws : List Cond} {rm : Room} {Pc : Array Value → State → Prop} {Qc : Array Value → State → Outcome → State → Prop} {XC : String → State → State → Prop} {free : Addr → Prop} {Ts : List Cond} {own C : String} {b : Addr} {As rest : List Value} {g : JFrame}
theorem vx_runVX {hh : List (Nat × Nat × Nat × Nat)} (S : CallFix p m c cc nL s args Ts own) (hM : vx_Met l y ws rm Pc Qc XC mc ms free) (cw : vx_CVW R s args own C index y bytes maxL ret hh ws rm mc ms n) (hp : PreV s H C b Pc As)
    (hg : g.method = m) (hn : As.length = n) (hsize : g.locals.size = nL) (hstack : g.stack = As.reverse ++ .ref b :: rest) (hW : 2 * g.monitorRoom + (rest.map fun v => v.category).sum ≤ 8) (hdg : decode cc g.pc = .ok (.invokevirtual index, 3)) (hf : cells + mc ≤ R.cells ∧ slots + ms ≤ R.slots) :
    vx_Run p l e R s m args below meth c H locs cells slots mc ms g rest (Qc (Value.ref b :: As).toArray) XC free := by
  obtain ⟨⟨hrc, hrs, hfr, hlo, hws, hcw⟩, hcode, hini, hy, hlen, hl, hin, hse⟩ := cw
  have hK : vx_Back l R p e below s args y 3 8 (PreOf R mc ms Pc) (PostOf Qc mc ms free) (vx_Post XC mc ms free) := vx_backW (hh := hh) (bytes := bytes) (maxL := maxL) (ret := ret) hM hp.1 hrc hrs hfr hlo hws hcw (fun a' U hW => word_at hW (Or.inl (by first | rfl | simp [Cond.onTables, Cond.keeps, Cond.steady])) hini)
  obtain ⟨hx, hb, hml, ho, -⟩ := S
  obtain ⟨-, ⟨cellB, hcB, hoB, hclB⟩, hPc⟩ := hp
  intro T hT X
  rcases vx_callVX X hx (C := C) (hh := hh) (bytes := bytes) (maxL := maxL) (ret := ret) ho hl hin hse hcode hy hK (by rw [hT]; exact hcB) hoB hclB hg (hsize.trans hml.symm) (argsL := As) (rest := rest) (fun sig h => hn.trans (hlen sig h)) hstack hW (by rw [hb]; exact hdg)
    (fun vm₁ hW₁ => ⟨hf.1, hf.2, hPc (T.setVm vm₁) hT hW₁⟩) with ⟨v, vm₁, ⟨U', l2, c2, s2⟩, hW₁, X', ⟨g', mk, t, L, e1, e2, hq, h1, hL, h2, h3⟩, st⟩ | ⟨q, vm₁, ⟨U', l2, c2, s2⟩, hW₁, X', ⟨g', mk, t, L, E, ce, e1, e2, hq, hce, hcv, hcl, h1, hL, h2, h3⟩, st⟩
  · dsimp only [Pt.U, Pt.locs, Pt.cells, Pt.slots] at X' e1 e2 h1 h2 h3 st
    subst h1; subst h2; subst h3
    exact Or.inl ⟨v, (T.setVm vm₁).calling g' mk (Value.ref b :: As).toArray, t, U', L, hT, X', hL, e1, e2, hq, st⟩
  · dsimp only [Pt.U, Pt.locs, Pt.cells, Pt.slots] at X' e1 e2 h1 h2 h3 st hcl
    subst h1; subst h2; subst h3
    exact Or.inr ⟨q, (T.setVm vm₁).calling g' mk (Value.ref b :: As).toArray, t, U', L, E, ce, hT, X', hL, e1, e2, hq, hce, hcv, vx_cls hW₁ hcl, st⟩
theorem vx_runSX {hh : List (Nat × Nat × Nat × Nat)} (S : CallFix p m c cc nL s args Ts own) (hM : vx_Met l y ws rm Pc Qc XC mc ms free) (cw : vx_CSW R s args own index y bytes maxL ret hh ws rm mc ms n) (hp : PreS s H Pc As)
    (hg : g.method = m) (hn : As.length = n) (hsize : g.locals.size = nL) (hstack : g.stack = As.reverse ++ rest) (hW : 2 * g.monitorRoom + (rest.map fun v => v.category).sum ≤ 8) (hdg : decode cc g.pc = .ok (.invokestatic index, 3)) (hf : cells + mc ≤ R.cells ∧ slots + ms ≤ R.slots) :
    vx_Run p l e R s m args below meth c H locs cells slots mc ms g rest (Qc As.toArray) XC free := by
  obtain ⟨⟨hrc, hrs, hfr, hlo, hws, hcw⟩, hcode, hini, hy, hlen, hl, hstt⟩ := cw
  have hK : vx_Back l R p e below s args y 3 8 (PreOf R mc ms Pc) (PostOf Qc mc ms free) (vx_Post XC mc ms free) := vx_backW (hh := hh) (bytes := bytes) (maxL := maxL) (ret := ret) hM hp.1 hrc hrs hfr hlo hws hcw (fun a' U hW => word_at hW (Or.inl (by first | rfl | simp [Cond.onTables, Cond.keeps, Cond.steady])) hini)
  obtain ⟨hx, hb, hml, ho, -⟩ := S
  intro T hT X
  rcases vx_callSX X hx (hh := hh) (bytes := bytes) (maxL := maxL) (ret := ret) ho hl hstt hini hcode hy hK hg (hsize.trans hml.symm) (argsL := As) (rest := rest) (fun sig h => hn.trans (hlen sig h)) hstack hW (by rw [hb]; exact hdg)
    (fun vm₁ hW₁ => ⟨hf.1, hf.2, hp.2 (T.setVm vm₁) hT hW₁⟩) with ⟨v, vm₁, ⟨U', l2, c2, s2⟩, hW₁, X', ⟨g', mk, t, L, e1, e2, hq, h1, hL, h2, h3⟩, st⟩ | ⟨q, vm₁, ⟨U', l2, c2, s2⟩, hW₁, X', ⟨g', mk, t, L, E, ce, e1, e2, hq, hce, hcv, hcl, h1, hL, h2, h3⟩, st⟩
  · dsimp only [Pt.U, Pt.locs, Pt.cells, Pt.slots] at X' e1 e2 h1 h2 h3 st
    subst h1; subst h2; subst h3
    exact Or.inl ⟨v, (T.setVm vm₁).calling g' mk As.toArray, t, U', L, hT, X', hL, e1, e2, hq, st⟩
  · dsimp only [Pt.U, Pt.locs, Pt.cells, Pt.slots] at X' e1 e2 h1 h2 h3 st hcl
    subst h1; subst h2; subst h3
    exact Or.inr ⟨q, (T.setVm vm₁).calling g' mk As.toArray, t, U', L, E, ce, hT, X', hL, e1, e2, hq, hce, hcv, vx_cls hW₁ hcl, st⟩
end
end VXH
theorem vx_ofWH {l : Launch} {y : MethodName} {ws ws' : List Cond} {rm : Room} {Pc : Array Value → State → Prop} {Qc : Array Value → State → Outcome → State → Prop} {XC : String → State → State → Prop} {mc ms : Nat} {free : Addr → Prop} {cc : ByteArray} {maxL : Nat} {ret : Option FieldType} {hh : List (Nat × Nat × Nat × Nat)}
    (hy : plainName y.cls = true) (hw : ws = Cond.codeWith y cc maxL ret hh :: ws')
    (body : ∀ p e s m args below meth c s₁, BodyLoose p l y (headSpec ws rm) cc maxL ret e s m args below meth c s₁ → c.maxLocals = maxL → Pc args s →
      W p l e (headSpec ws rm).room s m args below meth c s.heap [] 0 0 (vx_MQ below Qc XC args s mc ms free) (entryFrame m args maxL)) : vx_Met l y ws rm Pc Qc XC mc ms free := by
  refine MetFree.of_bodyS (code := cc) (maxLocals := maxL) (ret := ret) hy ?_ ?_
  · intro args s m h hn
    obtain ⟨m9, meth, c, hn9, h1, h2, h3, h4, -, h5, h6, -⟩ := Cond.codeWith_spec (atoms_spec (ws := ws) h _ (by rw [hw]; exact List.mem_cons_self))
    cases hn.symm.trans hn9
    exact ⟨meth, c, h1, h2, h3, h4, h5, h6⟩
  · intro p e s m args below meth c s₁ B hml hP _
    have hh0 : s₁.heap = s.heap := by rw [B.state]; rfl
    obtain ⟨t, a1, o, b1, b2, b3⟩ := body p e s m args below meth c s₁ B hml hP s₁ hh0 (Stand.of_body B)
    exact ⟨t, o, a1, b1, b2, b3⟩
/-! ===== END ===== -/
/-! ===== BEGIN what the machine throws by itself, no traces kept ===== -/
section VXM
set_option maxHeartbeats 1000000 in
/-- the machine throws cls with the message text, no traces kept: from its note over the frame g to 'throwing' over the same frame (follows the proofs of Stand.vmThrowsMessage, Shelf/KitTracedVmS.lean, and Stand.throwsMessageColdBareV, StandMessageColdV.lean, without the step out of the frame) -/
theorem vx_vmAt {p : Program} {l : Launch} {e : Env} {R : Room} {s : State} {m₀ : MethodId} {args : Array Value} {below : List Frame} {meth : Method} {c : Code} {W : State} {locs : List Loc} {cells slots : Nat}
    (X : Stand p l e R s m₀ args below meth c W locs cells slots) (hexec : p.tables.exec = Jvm.exec) (htr : e.platform.stackTraces = false) {cls : String} {names : List String} {text : String}
    (hcls : Bundle.fit cls = true) (hnames : ∀ n ∈ names, Bundle.fit n = true) (hsoe : (cls == "java/lang/StackOverflowError") = false) (hoom : (cls == "java/lang/OutOfMemoryError") = false)
    (h : ∀ a ∈ Bundle.messageArmAtoms cls names, a.before args s = true)
    (hlocs : ∀ x ∈ locs, ∀ cell, s.heap[x.base]? = some cell → cell.vm.isStatics = false)
    (htext : (text == notModelled) = false) (hlimit : ¬ (stringBytes (stringToUtf16 text)).size > e.platform.arrayLengthLimit) (hheap : ¬ (stringBytes (stringToUtf16 text)).size * componentBytes .byte > e.platform.maxHeapBytes)
    {g : JFrame} (hg : g.method = m₀) (hsize : g.locals.size = c.maxLocals)
    (hRframes : names.length + 4 < R.frames) (hRlocals : 2 * g.monitorRoom + (g.stack.map fun v => v.category).sum + 10240 ≤ R.locals) (hshort : 13 * names.length + 55 ≤ 10240)
    (hRcells : cells + 3 ≤ R.cells) (hRslots : slots + ((stringBytes (stringToUtf16 text)).size + 4 + 6) ≤ R.slots) (hlocks : meth.locks = false) :
    ∃ (S : State) (q : Addr) (ce : Cell), (∀ target, Steps p.tables e below ((S.setTop g).pushFrame (.throwing q)) target → Steps p.tables e below ((W.setTop g).pushFrame (.throwNew cls (some text) none)) target) ∧
      Stand p l e R s m₀ args below meth c S locs (cells + 3) (slots + ((stringBytes (stringToUtf16 text)).size + 4 + 6)) ∧ S.heap[q]? = some ce ∧ s.vm.findClass cls = some ce.cls ∧ ce.vm = .none := by
  have howns : e.platform.frameOwnsMonitors = true := by rw [X.admits.platform]
  have hfin : e.platform.finalization = false := by rw [X.admits.platform]
  have hpl : e.platform.magicAccessors = ({} : Platform).magicAccessors := by rw [X.admits.platform]
  have a : ∀ x, x ∈ Bundle.messageArmAtoms cls names → x.holds args s none s [] = true := fun x hx => h x hx
  obtain ⟨T, Z0, L, -, Y⟩ := ThrowableC.of_atoms (args := args) howns hfin hpl (fun x hx => h x (by simp [Bundle.messageArmAtoms, hx]))
  obtain ⟨Z, M, LZ, LM, hnZ⟩ := Init0T.ofS_atoms (args := args) hpl L Y (fun x hx => h x (by simp [Bundle.messageArmAtoms, hx]))
  obtain ⟨P1, Ps, hlen, L1, hL, hP1m, hlink1, hlink⟩ := Bundle.chainS (args := args) hpl hnZ names cls hcls hnames (fun x hx => h x (by simp [Bundle.messageArmAtoms, hx]))
  obtain ⟨Zs, LZs, hn4, hfitv, hfitc⟩ := StringT.of_atoms (args := args) (fun x hx => h x (by simp [Bundle.messageArmAtoms, hx]))
  have hfound : s.vm.findClass cls = some P1.m.cls := findClass_of_methodNamed hP1m
  obtain ⟨c1, kX, hc1, hk, hord, -, -, hn6⟩ := Cond.instantiable_spec (a (.instantiable cls 6) (by simp [Bundle.messageArmAtoms]))
  cases Option.some.inj (hc1.symm.trans hfound)
  have hinit := Cond.initialized_spec hfound hk (a (.initialized cls) (by simp [Bundle.messageArmAtoms]))
  have hctor : kX.findMethod "<init>" "(Ljava/lang/String;)V" = some P1.m.idx := findMethod_of_methodNamed hP1m hk
  have hsel0 : selectMethod e.platform s.vm P1.m.cls T.fill0 = .method T.fill0 := by
    obtain ⟨c2, r2, m2, q1, q2, q3, q4, -⟩ := Cond.selects_spec (a (.selects cls Bundle.tFill0 Bundle.tFill0) (by simp [Bundle.messageArmAtoms]))
    cases Option.some.inj (q1.symm.trans hfound)
    cases Option.some.inj (q2.symm.trans (State.methodFound?_of_named Y.fill0 (by decide)))
    cases Option.some.inj (q3.symm.trans Y.fill0)
    rw [Launch.admits_selectMethod X.admits]; exact q4
  have hselF : selectMethod e.platform s.vm P1.m.cls T.fill = .method T.fill := by
    obtain ⟨c2, r2, m2, q1, q2, q3, q4, -⟩ := Cond.selects_spec (a (.selects cls Bundle.tFill Bundle.tFill) (by simp [Bundle.messageArmAtoms]))
    cases Option.some.inj (q1.symm.trans hfound)
    cases Option.some.inj (q2.symm.trans (State.methodFound?_of_named Y.fill (by decide)))
    cases Option.some.inj (q3.symm.trans Y.fill)
    rw [Launch.admits_selectMethod X.admits]; exact q4
  obtain ⟨cellS0, hcS0, hiss⟩ := Y.statics
  obtain ⟨u0, hu0⟩ := Cond.staticRefV Y.unassigned L.unassignedStatic L.statics hcS0 hiss (a (.isRef (.static Bundle.tN "UNASSIGNED_STACK" Bundle.steD)) (by simp [Bundle.messageArmAtoms]))
  obtain ⟨sen, hsen⟩ := Cond.staticRefV Y.sentinel L.sentinelStatic L.statics hcS0 hiss (a (.isRef (.static Bundle.tN "SUPPRESSED_SENTINEL" Bundle.listD)) (by simp [Bundle.messageArmAtoms]))
  obtain ⟨ci198, i198, fB, hk198, hg198, ha198, hsB, -, hnB, htB, hffB⟩ := Cond.ownField (t := .object "java/lang/Object") Y.found L.cls (by decide +kernel) (a (.fieldLink Bundle.tN 198 Bundle.tN "backtrace" "Ljava/lang/Object;") (by simp [Bundle.messageArmAtoms])) (a (.lays Bundle.tN Bundle.tN "backtrace" "Ljava/lang/Object;") (by simp [Bundle.messageArmAtoms])) e.platform hpl
  obtain ⟨cellS, hcS', heS, -, hkeep⟩ := X.same.2.2.2.2.2 T.aS cellS0 hcS0
  have hcellS : W.heap[T.aS]? = some cellS := hcS'
  have hout' : ∀ i, (⟨T.aS, i⟩ : Loc) ∉ locs := fun i hmem => by
    have := hlocs _ hmem cellS0 hcS0
    rw [hiss] at this; cases this
  have hknownS : cellS.vm ≠ .unknown := by
    rw [heS]; intro hu
    rw [show cellS0.vm = .unknown from hu] at hiss
    cases hiss
  have hvU : cellS.slots[T.fUnassigned.slot]? = some u0.v := by rw [hkeep _ (hout' _)]; exact hu0
  have hvSen : cellS.slots[T.fSentinel.slot]? = some sen.v := by rw [hkeep _ (hout' _)]; exact hsen
  obtain ⟨iM, hffM⟩ := Y.msg
  obtain ⟨tyC, dC, hdC, hdnC⟩ := Cond.laysAt hfound hk Y.cause (a (.lays cls Bundle.tN "cause" "Ljava/lang/Throwable;") (by simp [Bundle.messageArmAtoms]))
  obtain ⟨tyS, dS, hdS, hdnS⟩ := Cond.laysAt hfound hk Y.stack (a (.lays cls Bundle.tN "stackTrace" Bundle.steD) (by simp [Bundle.messageArmAtoms]))
  obtain ⟨tyP, dP, hdP, hdnP⟩ := Cond.laysAt hfound hk Y.supp (a (.lays cls Bundle.tN "suppressedExceptions" Bundle.listD) (by simp [Bundle.messageArmAtoms]))
  obtain ⟨tyM, dM, hdM, hdnM⟩ := Cond.laysAt hfound hk hffM (a (.lays cls Bundle.tN "detailMessage" "Ljava/lang/String;") (by simp [Bundle.messageArmAtoms]))
  obtain ⟨tyB, dB, hdB, hdnB⟩ := Cond.laysAt hfound hk hffB (a (.lays cls Bundle.tN "backtrace" "Ljava/lang/Object;") (by simp [Bundle.messageArmAtoms]))
  have bC := Cond.laysApart hdB hdC hdnB hdnC (by rw [hnB, Y.causeName]; decide)
  have bS := Cond.laysApart hdB hdS hdnB hdnS (by rw [hnB, Y.stackName]; decide)
  have bP := Cond.laysApart hdB hdP hdnB hdnP (by rw [hnB, Y.suppName]; decide)
  have hbk : ((preparedCellV T.toThrowableT (freshCell P1.m.cls kX) (W.heap.size + 2) u0 sen).withEntry W.cur).slots[fB.slot]? = some .null := by
    have := fresh_default (c := P1.m.cls) tyB
    rw [htB] at this
    simpa [preparedCellV, Cell.setSlot, Cell.withEntry, Array.getElem?_setIfInBounds, bC, bS, bP, bC.symm, bS.symm, bP.symm, defaultValue] using this
  have tkC := Takes.of_laid (v := .ref (W.heap.size + 2)) hk hord tyC (by rw [Y.causeType]; rfl)
  have tkS := Takes.of_laid (v := u0.v) hk hord tyS (by rw [Y.stackType]; exact fits_refV_array _ u0)
  have tkP := Takes.of_laid (v := sen.v) hk hord tyP (by rw [Y.suppType]; exact fits_refV_object _ sen)
  have tkM := Takes.of_laid (v := .ref (W.heap.size + 1)) hk hord tyM (by rw [Y.msgType]; rfl)
  have hskip : SkipFacts T e.platform s (fun u => u) u0 ((preparedCellV T.toThrowableT (freshCell P1.m.cls kX) (W.heap.size + 2) u0 sen).withEntry W.cur) := ⟨{ ci198 := ci198, i198 := i198, fBack := fB }, ⟨hk198, hg198, ha198, hsB⟩, hbk, fun _ _ => rfl⟩
  have h0 : At W g.method c below := by rw [hg]; exact X.here
  obtain ⟨hbeyond, hfreeW⟩ := X.vmMayThrow hsize (.throwNew cls (some text) none) (fun f hf => by cases hf) rfl hRlocals
  have hfr' : W.frames.length + Ps.length + 4 < (e.platform.stackLimits W.me).1 := by have := X.framesAbove hRframes; omega
  have hwd' : (stackUse (.java g :: W.frames.tail)).2 + 13 * Ps.length + 55 ≤ (e.platform.stackLimits W.me).2 := by have := X.stackAbove hsize (K := 13 * Ps.length + 55) (by omega); omega
  have hslots : W.slotsUsed + (stringBytes (stringToUtf16 text)).size + Zs.kS.instanceTypes.size + kX.instanceTypes.size ≤ e.platform.maxSlots := by
    have := X.slotsAbove hRslots
    rw [hn4, hn6]
    omega
  obtain ⟨vm', hW', st⟩ := Steps.vmThrowsMessageColdByV p (s₀ := s) (S := W) (g := g) h0 hexec T L Z LZ M LM X.warmed (t := W.cur) rfl Zs LZs P1 L1 Ps hL hlink1 hlink hsoe hoom hfound hk hinit hord hctor
    (Launch.admits_hotImplicitExceptions X.admits) hbeyond hfreeW htext hlimit hheap (X.cellsAbove hRcells) hslots (hfitv _) (hfitc _)
    (Nn := fun u => u) heapOnly_id (fun _ _ => rfl) (fun _ => rfl) (fun u x y => setCell_twice _ _ _ _) (fun _ => Nat.le_refl _) (cN := ((preparedCellV T.toThrowableT (freshCell P1.m.cls kX) (W.heap.size + 2) u0 sen).withEntry W.cur))
    hsel0 hcellS hknownS hvU tkS (fun _ hu => hu) (fun _ hu => hu) rfl rfl rfl (by simp [preparedCellV, Cell.setSlot, Cell.withEntry]) hskip (fun _ _ hA hW _ hroom _ hrest => L.nativeOff p htr hA hW hroom hrest) hselF hvSen tkC tkP tkM Y.objLocals rfl hfr' hwd'
  rw [plainBareV_eq T.toThrowableT (W.heap.size + 2) u0 sen (.ref (W.heap.size + 1)) W.cur rfl rfl] at st
  obtain ⟨-, -, w3, w4, -, -, -⟩ := withThrown_facts e.platform W Zs text P1.m.cls kX
  have X3 := ((X.pushed (bytesOf Zs.cB (stringToUtf16 text))).pushed (stringAt Zs.cS Zs.kS Zs.fv Zs.fc (stringToUtf16 text) W.heap.size)).pushed (freshCell P1.m.cls kX)
  rw [← withString_eq] at X3
  have X4 := X3.noted hW'
  have ha : (W.heap.size + 2) < ((withThrown W Zs text P1.m.cls kX).setVm vm').heap.size := by show _ < (withThrown W Zs text P1.m.cls kX).heap.size; rw [w3]; omega
  have hcell : ((withThrown W Zs text P1.m.cls kX).setVm vm').heap[(W.heap.size + 2)]? = some (freshCell P1.m.cls kX) := w4
  have X5 := ((((X4.stored hcell T.fCause.slot (.ref (W.heap.size + 2))).storedAgain ha T.fStack.slot u0.v).storedAgain ha T.fSupp.slot sen.v).storedAgain ha T.fStack.slot u0.v).storedAgain ha T.fMsg.slot (.ref (W.heap.size + 1))
  obtain ⟨g₁, hfrM⟩ := X5.frames_eq
  have hU : ((((withThrown W Zs text P1.m.cls kX).setVm vm').setCell (W.heap.size + 2) (plainBareV T.toThrowableT (freshCell P1.m.cls kX) (W.heap.size + 2) u0 sen (.ref (W.heap.size + 1)))).setTop g).pushFrame (.throwing (W.heap.size + 2)) = (((withThrown W Zs text P1.m.cls kX).setVm vm').setCell (W.heap.size + 2) (plainBareV T.toThrowableT (freshCell P1.m.cls kX) (W.heap.size + 2) u0 sen (.ref (W.heap.size + 1)))).setFrames (.throwing (W.heap.size + 2) :: .java g :: below) := by
    rw [State.pushFrame, State.frames_setTop _ hfrM, State.setTop_of_frames _ hfrM, State.setFrames_setFrames]
  have b1 : (bytesOf Zs.cB (stringToUtf16 text)).slots.size = (stringBytes (stringToUtf16 text)).size := by
    rw [(Cell.writeAll_facts _ _).2.2]; simp [bytes0]
  have b2 : (stringAt Zs.cS Zs.kS Zs.fv Zs.fc (stringToUtf16 text) W.heap.size).slots.size = 4 := by simp [string0, Cell.setSlot, hn4]
  have b3 : (freshCell P1.m.cls kX).slots.size = 6 := by simp [hn6]
  rw [b1, b2, b3] at X5
  have e9 : slots + (stringBytes (stringToUtf16 text)).size + 4 + 6 = slots + ((stringBytes (stringToUtf16 text)).size + 4 + 6) := by omega
  rw [e9] at X5
  simp only [List.append_assoc, List.cons_append, List.nil_append] at X5
  refine ⟨((withThrown W Zs text P1.m.cls kX).setVm vm').setCell (W.heap.size + 2) (plainBareV T.toThrowableT (freshCell P1.m.cls kX) (W.heap.size + 2) u0 sen (.ref (W.heap.size + 1))), W.heap.size + 2, _, fun target ht => st _ (by rw [X.tail, ← hU]; exact ht),
    X5.forget (fun y hy => ?_), heapAt_setCell_self _ ha, hfound, rfl⟩
  simp only [List.mem_cons, List.not_mem_nil, or_false] at hy
  have hge : s.heap.size ≤ W.heap.size := X.same.2.1
  rcases hy with rfl | rfl | rfl | rfl | rfl <;> exact Nat.le_trans hge (Nat.le_add_right _ 2)
set_option maxHeartbeats 1000000 in
/-- the machine throws NullPointerException, no traces kept: from its note over the frame g to 'throwing' over the same frame (follows the proof of Stand.vmThrowsNpe, Shelf42/KT2.lean; throwsNpeColdBareVAt, Shelf42/NT91.lean, called) -/
theorem vx_npeAt {p : Program} {l : Launch} {e : Env} {R : Room} {s : State} {m₀ : MethodId} {args : Array Value} {below : List Frame} {meth : Method} {c : Code} {W : State} {locs : List Loc} {cells slots : Nat}
    (X : Stand p l e R s m₀ args below meth c W locs cells slots) (hexec : p.tables.exec = Jvm.exec) (htr : e.platform.stackTraces = false) {n : Nat}
    (h : ∀ a ∈ Bundle.npeArmAtoms n, a.before args s = true)
    (hlocs : ∀ x ∈ locs, ∀ cell, s.heap[x.base]? = some cell → cell.vm.isStatics = false)
    {g : JFrame} (hg : g.method = m₀) (hsize : g.locals.size = c.maxLocals)
    (hRframes : 7 < R.frames) (hRlocals : 2 * g.monitorRoom + (g.stack.map fun v => v.category).sum + 10240 ≤ R.locals)
    (hRcells : cells + 1 ≤ R.cells) (hRslots : slots + n ≤ R.slots) (hlocks : meth.locks = false) :
    ∃ (S : State) (q : Addr) (ce : Cell), (∀ target, Steps p.tables e below ((S.setTop g).pushFrame (.throwing q)) target → Steps p.tables e below ((W.setTop g).pushFrame (.throwNew "java/lang/NullPointerException" none none)) target) ∧
      Stand p l e R s m₀ args below meth c S locs (cells + 1) (slots + n) ∧ S.heap[q]? = some ce ∧ s.vm.findClass "java/lang/NullPointerException" = some ce.cls ∧ ce.vm = .none := by
  have howns : e.platform.frameOwnsMonitors = true := by rw [X.admits.platform]
  have hfin : e.platform.finalization = false := by rw [X.admits.platform]
  have hpl : e.platform.magicAccessors = ({} : Platform).magicAccessors := by rw [X.admits.platform]
  have hpl2 : e.platform.arrayCloneIsPublic = true := by rw [X.admits.platform]
  have a' : ∀ x, x ∈ Bundle.npeArmAtoms n → x.holds args s none s [] = true := fun x hx => h x hx
  obtain ⟨T, Z, L, LZ, Y⟩ := ThrowableC.of_atoms (args := args) howns hfin hpl (fun x hx => h x (by simp [Bundle.npeArmAtoms, hx]))
  obtain ⟨N, LN, hcN, hnNF, hordN, hffS⟩ := NpeC.of_atoms (args := args) hpl hpl2 L Y (fun x hx => h x (by simp [Bundle.npeArmAtoms, hx]))
  obtain ⟨P1, L1, hP1m, hP1s⟩ := PassC.of_atoms (args := args) (s := s) hpl (X := Bundle.nN) (Y := Bundle.rN) (by decide) (by decide) LibCode.NullPointerException.Init0.at_0 LibCode.NullPointerException.Init0.at_1 LibCode.NullPointerException.Init0.at_4 (fun x hx => h x (by simp [Bundle.npeArmAtoms, hx]))
  obtain ⟨PR, LR, hPRm, hPRs⟩ := PassC.of_atoms (args := args) (s := s) hpl (X := Bundle.rN) (Y := Bundle.eN) (by decide) (by decide) LibCode.RuntimeException.Init0.at_0 LibCode.RuntimeException.Init0.at_1 LibCode.RuntimeException.Init0.at_4 (fun x hx => h x (by simp [Bundle.npeArmAtoms, hx]))
  obtain ⟨PE, LEx, hPEm, hPEs⟩ := PassC.of_atoms (args := args) (s := s) hpl (X := Bundle.eN) (Y := Bundle.tN) (by decide) (by decide) LibCode.Exception.Init0.at_0 LibCode.Exception.Init0.at_1 LibCode.Exception.Init0.at_4 (fun x hx => h x (by simp [Bundle.npeArmAtoms, hx]))
  have hfound : s.vm.findClass Bundle.nN = some P1.m.cls := findClass_of_methodNamed hP1m
  have ecls : N.cN = P1.m.cls := Option.some.inj (hcN.symm.trans hfound)
  have hk : s.vm.classes[P1.m.cls]? = some N.kN := by rw [← ecls]; exact LN.cls
  have hinit := Cond.initialized_spec hfound hk (a' (.initialized Bundle.nN) (by simp [Bundle.npeArmAtoms]))
  have hctor : N.kN.findMethod "<init>" "()V" = some P1.m.idx := findMethod_of_methodNamed hP1m hk
  obtain ⟨c1, k1, hc1, hk1, -, -, -, hn⟩ := Cond.instantiable_spec (a' (.instantiable Bundle.nN n) (by simp [Bundle.npeArmAtoms]))
  cases Option.some.inj (hc1.symm.trans hfound)
  cases Option.some.inj (hk1.symm.trans hk)
  have hfsz : (freshCell P1.m.cls N.kN).slots.size = n := by simp [hn]
  have hlink1 : P1.sup = PR.m := Option.some.inj (hP1s.symm.trans hPRm)
  have hlinkR : PR.sup = PE.m := Option.some.inj (hPRs.symm.trans hPEm)
  have hlinkE : PE.sup = Z.m T.toThrowableT := Option.some.inj (hPEs.symm.trans Y.init0)
  have hLs : ∀ P, P ∈ [PR, PE] → P.Links0 e.platform s := fun P hP => by
    simp only [List.mem_cons, List.not_mem_nil, or_false] at hP
    rcases hP with rfl | rfl
    · exact LR
    · exact LEx
  have hsel0 : selectMethod e.platform s.vm P1.m.cls T.fill0 = .method T.fill0 := by
    obtain ⟨c2, r2, m2, q1, q2, q3, q4, -⟩ := Cond.selects_spec (a' (.selects Bundle.nN Bundle.tFill0 Bundle.tFill0) (by simp [Bundle.npeArmAtoms]))
    cases Option.some.inj (q1.symm.trans hfound)
    cases Option.some.inj (q2.symm.trans (State.methodFound?_of_named Y.fill0 (by decide)))
    cases Option.some.inj (q3.symm.trans Y.fill0)
    rw [Launch.admits_selectMethod X.admits]; exact q4
  have hselF : selectMethod e.platform s.vm P1.m.cls T.fill = .method N.fill := by
    obtain ⟨c2, r2, m2, q1, q2, q3, q4, -⟩ := Cond.selects_spec (a' (.selects Bundle.nN Bundle.tFill Bundle.nFill) (by simp [Bundle.npeArmAtoms]))
    cases Option.some.inj (q1.symm.trans hfound)
    cases Option.some.inj (q2.symm.trans (State.methodFound?_of_named Y.fill (by decide)))
    cases Option.some.inj (q3.symm.trans hnNF)
    rw [Launch.admits_selectMethod X.admits]; exact q4
  obtain ⟨cellS0, hcS0, hiss⟩ := Y.statics
  obtain ⟨u0, hu0⟩ := Cond.staticRefV Y.unassigned L.unassignedStatic L.statics hcS0 hiss (a' (.isRef (.static Bundle.tN "UNASSIGNED_STACK" Bundle.steD)) (by simp [Bundle.npeArmAtoms]))
  obtain ⟨sen, hsen⟩ := Cond.staticRefV Y.sentinel L.sentinelStatic L.statics hcS0 hiss (a' (.isRef (.static Bundle.tN "SUPPRESSED_SENTINEL" Bundle.listD)) (by simp [Bundle.npeArmAtoms]))
  obtain ⟨ci198, i198, fB, hk198, hg198, ha198, hsB, -, hnB, htB, hffB⟩ := Cond.ownField (t := .object "java/lang/Object") Y.found L.cls (by decide +kernel) (a' (.fieldLink Bundle.tN 198 Bundle.tN "backtrace" Bundle.objD) (by simp [Bundle.npeArmAtoms])) (a' (.lays Bundle.tN Bundle.tN "backtrace" Bundle.objD) (by simp [Bundle.npeArmAtoms])) e.platform hpl
  obtain ⟨cellS, hcS', heS, -, hkeep⟩ := X.same.2.2.2.2.2 T.aS cellS0 hcS0
  have hcellS : W.heap[T.aS]? = some cellS := hcS'
  have hout' : ∀ i, (⟨T.aS, i⟩ : Loc) ∉ locs := fun i hmem => by
    have := hlocs _ hmem cellS0 hcS0
    rw [hiss] at this; cases this
  have hknownS : cellS.vm ≠ .unknown := by
    rw [heS]; intro hu
    rw [show cellS0.vm = .unknown from hu] at hiss
    cases hiss
  have hvU : cellS.slots[T.fUnassigned.slot]? = some u0.v := by rw [hkeep _ (hout' _)]; exact hu0
  have hvSen : cellS.slots[T.fSentinel.slot]? = some sen.v := by rw [hkeep _ (hout' _)]; exact hsen
  obtain ⟨tyC, dC, hdC, hdnC⟩ := Cond.laysAt hfound hk Y.cause (a' (.lays Bundle.nN Bundle.tN "cause" "Ljava/lang/Throwable;") (by simp [Bundle.npeArmAtoms]))
  obtain ⟨tyS, dS, hdS, hdnS⟩ := Cond.laysAt hfound hk Y.stack (a' (.lays Bundle.nN Bundle.tN "stackTrace" Bundle.steD) (by simp [Bundle.npeArmAtoms]))
  obtain ⟨tyP, dP, hdP, hdnP⟩ := Cond.laysAt hfound hk Y.supp (a' (.lays Bundle.nN Bundle.tN "suppressedExceptions" Bundle.listD) (by simp [Bundle.npeArmAtoms]))
  obtain ⟨tyX, dX, hdX, hdnX⟩ := Cond.laysAt hfound hk hffS (a' (.lays Bundle.nN Bundle.nN "extendedMessageState" "I") (by simp [Bundle.npeArmAtoms, Bundle.npeAtoms]))
  obtain ⟨hnX, htX⟩ := State.fieldFound?_type hffS (t := .int) (by decide +kernel)
  have xC := Cond.laysApart hdC hdX hdnC hdnX (by rw [hnX, Y.causeName]; decide)
  have xS := Cond.laysApart hdS hdX hdnS hdnX (by rw [hnX, Y.stackName]; decide)
  have xP := Cond.laysApart hdP hdX hdnP hdnX (by rw [hnX, Y.suppName]; decide)
  have hv0 : (freshCell P1.m.cls N.kN).slots[N.fState.slot]? = some (.int 0) := by
    have := fresh_default (c := P1.m.cls) tyX
    rw [htX] at this; exact this
  obtain ⟨tyB, dB, hdB, hdnB⟩ := Cond.laysAt hfound hk hffB (a' (.lays Bundle.nN Bundle.tN "backtrace" Bundle.objD) (by simp [Bundle.npeArmAtoms]))
  have bC := Cond.laysApart hdB hdC hdnB hdnC (by rw [hnB, Y.causeName]; decide)
  have bS := Cond.laysApart hdB hdS hdnB hdnS (by rw [hnB, Y.stackName]; decide)
  have bP := Cond.laysApart hdB hdP hdnB hdnP (by rw [hnB, Y.suppName]; decide)
  have bX := Cond.laysApart hdB hdX hdnB hdnX (by rw [hnB, hnX]; decide)
  have hbk : ((npeCell N.toNpeT (preparedCellV T.toThrowableT (freshCell P1.m.cls N.kN) W.heap.size u0 sen) W.cur).withEntry W.cur).slots[fB.slot]? = some .null := by
    have := fresh_default (c := P1.m.cls) tyB
    rw [htB] at this
    simpa [npeCell, preparedCellV, Cell.setSlot, Cell.withEntry, Array.getElem?_setIfInBounds, bC, bS, bP, bX, bC.symm, bS.symm, bP.symm, bX.symm, defaultValue] using this
  have tkC := Takes.of_laid (v := .ref W.heap.size) hk hordN tyC (by rw [Y.causeType]; rfl)
  have tkS := Takes.of_laid (v := u0.v) hk hordN tyS (by rw [Y.stackType]; exact fits_refV_array _ u0)
  have tkP := Takes.of_laid (v := sen.v) hk hordN tyP (by rw [Y.suppType]; exact fits_refV_object _ sen)
  have tkX := Takes.of_laid (v := .int 1) hk hordN tyX (by rw [htX]; rfl)
  have hskip : SkipFacts T e.platform s (fun u => u) u0 ((npeCell N.toNpeT (preparedCellV T.toThrowableT (freshCell P1.m.cls N.kN) W.heap.size u0 sen) W.cur).withEntry W.cur) := ⟨{ ci198 := ci198, i198 := i198, fBack := fB }, ⟨hk198, hg198, ha198, hsB⟩, hbk, fun _ _ => rfl⟩
  obtain ⟨vm', X3, st, -⟩ := X.throwsNpeColdBareVAt hexec hg hsize T L Z LZ N LN P1 L1 [PR, PE] hLs hlink1 ⟨hlinkR, hlinkE, trivial⟩ hfound hk hinit hordN hctor hsel0 hselF hcellS hknownS hvU hvSen
    hv0 xC xS xP tkC tkS tkP tkX Y.objLocals hskip (fun _ _ hA hW _ hroom _ hrest => L.nativeOff p htr hA hW hroom hrest) (by simpa using hRframes) hRlocals (by simp) hRcells (by rw [hn]; exact hRslots)
  have hlt : W.heap.size < ((W.pushCell (freshCell P1.m.cls N.kN)).setVm vm').heap.size := by
    show W.heap.size < (W.pushCell (freshCell P1.m.cls N.kN)).heap.size
    rw [State.heap_size_pushCell]; omega
  rw [hfsz] at X3
  obtain ⟨g₁, hfrM⟩ := X3.frames_eq
  have hU : ((((W.pushCell (freshCell P1.m.cls N.kN)).setVm vm').setCell W.heap.size (npeBareV T.toThrowableT N.toNpeT (freshCell P1.m.cls N.kN) W.heap.size u0 sen)).setTop g).pushFrame (.throwing W.heap.size) = (((W.pushCell (freshCell P1.m.cls N.kN)).setVm vm').setCell W.heap.size (npeBareV T.toThrowableT N.toNpeT (freshCell P1.m.cls N.kN) W.heap.size u0 sen)).setFrames (.throwing W.heap.size :: .java g :: below) := by
    rw [State.pushFrame, State.frames_setTop _ hfrM, State.setTop_of_frames _ hfrM, State.setFrames_setFrames]
  refine ⟨_, W.heap.size, _, fun target ht => st.trans (by rw [← hU]; exact ht), X3.forget (fun y hy => ?_), heapAt_setCell_self _ hlt, hfound, rfl⟩
  simp only [List.mem_cons, List.not_mem_nil, or_false] at hy
  have hge : s.heap.size ≤ W.heap.size := X.same.2.1
  rcases hy with rfl | rfl | rfl | rfl | rfl <;> exact hge
/-- the words of a machine's NullPointerException, but the four that speak of the heap -/
def vx_atN (n : Nat) : List Cond := (Bundle.npeArmAtoms n).filter vx_no
/-- the words of a machine's throw with a message, but the four that speak of the heap -/
def vx_atM (X : String) (names : List String) : List Cond := (Bundle.messageArmAtoms X names).filter vx_no
section
variable {p : Program} {l : Launch} {e : Env} {R : Room} {s : State} {m : MethodId} {args : Array Value} {below : List Frame} {meth : Method} {c : Code} {H : Heap} {locs : List Loc} {cells slots : Nat}
/-- a frame seen from a rebased start, seen from the first start again -/
theorem vx_back9 {T S : State} {R' : Room} {k n : Nat} (X : Stand p l e R s m args below meth c T locs cells slots) (Y : Stand p l e R' ((T.setVm s.vm).setFrames (.invoking m args :: below)) m args below meth c T [] 0 0) (Z : Stand p l e R' ((T.setVm s.vm).setFrames (.invoking m args :: below)) m args below meth c S [] k n) :
    Stand p l e R s m args below meth c S locs (cells + k) (slots + n) := by
  have hW0 : s.WarmedH ((T.setVm s.vm).setFrames (.invoking m args :: below)).vm := State.WarmedH.refl s
  refine { admits := X.admits, cas := X.cas, clock := X.clock, frames := X.frames, room := X.room, hears := X.hears, method := X.method, code := X.code, here := Z.here, tail := Z.tail, warmed := State.WarmedH.trans hW0 Z.warmed, limits := Z.limits.trans (Y.limits.symm.trans X.limits), bytes := Z.bytes.trans (Y.bytes.symm.trans X.bytes), same := ?_ }
  obtain ⟨e1, e2⟩ := Z.same
  rw [State.setFrames_setFrames] at e1
  have h2 : (T.setVm s.vm).sameButNew (S.setVm s.vm) [] k n := ⟨e1, e2⟩
  have h3 := X.same.trans h2
  rw [List.append_nil] at h3
  exact h3
/-- from the machine's note that E is thrown here with this text -/
def vx_Note (p : Program) (l : Launch) (e : Env) (R : Room) (s : State) (m : MethodId) (args : Array Value) (below : List Frame) (meth : Method) (c : Code) (H : Heap) (locs : List Loc) (cells slots : Nat) (Q : State → Prop) (g : JFrame) (E text : String) : Prop :=
  ∀ T : State, T.heap = H → Stand p l e R s m args below meth c T locs cells slots → ∃ t, Steps p.tables e below ((T.setTop g).pushFrame (.throwNew E (some text) none)) t ∧ Q t
theorem vx_vm {pc : Nat} {ls : Array Slot} {rest : List Value} {Q : State → Prop} (hexec : p.tables.exec = Jvm.exec) (hl : l.stackTraces = false) {cls text : String} {names : List String} {nb : Nat} {A : Nat → Prop}
    (hcls : Bundle.fit cls = true) (hnames : ∀ n ∈ names, Bundle.fit n = true) (hsoe : (cls == "java/lang/StackOverflowError") = false) (hoom : (cls == "java/lang/OutOfMemoryError") = false)
    (hat : ∀ w ∈ vx_atM cls names, w.before args s = true) (hgood : ∀ w ∈ vx_atM cls names, vx_ot w = true)
    (hU : vx_Zq Bundle.tN "UNASSIGNED_STACK" Bundle.steD A s s.heap) (hN : vx_Zq Bundle.tN "SUPPRESSED_SENTINEL" Bundle.listD A s s.heap) (hS : va_S A s.heap H locs) (hsize : ls.size = c.maxLocals)
    (htext : (text == notModelled) = false) (hnb : (stringBytes (stringToUtf16 text)).size ≤ nb) (hnb1 : nb ≤ 1000)
    (hRframes : names.length + 4 < R.frames) (hRlocals : (rest.map fun v => v.category).sum + 10240 ≤ R.locals) (hshort : 13 * names.length + 55 ≤ 10240) (hRcells : cells + 3 ≤ R.cells) (hRslots : slots + (nb + 10) ≤ R.slots) (hlocks : meth.locks = false)
    (k : ∀ (H1 : Heap) (q9 : Addr) (ce : Cell), H.size ≤ H1.size → (∀ q : Nat, q < H.size → H1[q]? = H[q]?) → va_S A s.heap H1 locs → H1[q9]? = some ce → ce.vm = .none → s.vm.findClass cls = some ce.cls → vx_W p l e R s m args below meth c H1 locs (cells + 3) (slots + (nb + 10)) Q (F0 m pc ls rest) q9) :
    vx_Note p l e R s m args below meth c H locs cells slots Q (F0 m pc ls rest) cls text := by
  intro T hT X
  have htr : e.platform.stackTraces = false := (show e.platform.stackTraces = l.stackTraces by rw [X.admits.platform]).trans hl
  have Y := vx_rebase X (R' := { frames := R.frames, locals := R.locals, cells := 3, slots := nb + 10 }) (Nat.le_refl _) (Nat.le_refl _) hRcells hRslots
  have hhp : ((T.setVm s.vm).setFrames (.invoking m args :: below)).heap = H := hT
  have hW0 : s.WarmedH ((T.setVm s.vm).setFrames (.invoking m args :: below)).vm := State.WarmedH.refl s
  have hat' : ∀ w ∈ vx_atM cls names, w.before args ((T.setVm s.vm).setFrames (.invoking m args :: below)) = true := fun w hw => vx_ot_at hW0 rfl (hgood w hw) (hat w hw)
  have hU' : vx_Zq Bundle.tN "UNASSIGNED_STACK" Bundle.steD A ((T.setVm s.vm).setFrames (.invoking m args :: below)) ((T.setVm s.vm).setFrames (.invoking m args :: below)).heap := by rw [hhp]; exact vx_Zq.moved hW0.alike (hU.kept hS.2.1)
  have hN' : vx_Zq Bundle.tN "SUPPRESSED_SENTINEL" Bundle.listD A ((T.setVm s.vm).setFrames (.invoking m args :: below)) ((T.setVm s.vm).setFrames (.invoking m args :: below)).heap := by rw [hhp]; exact vx_Zq.moved hW0.alike (hN.kept hS.2.1)
  obtain ⟨S, q, ce, st, Z, hce, hcl', hv⟩ := vx_vmAt Y hexec htr (cls := cls) (names := names) (text := text) hcls hnames hsoe hoom (vx_own hat' (vx_isRefq hU'.1) (vx_isRefq hN'.1) hU'.2.word hN'.2.word) (fun x hx => nomatch hx) htext
    (by rw [Launch.admits_arrayLengthLimit X.admits]; omega) (by rw [Launch.admits_maxHeapBytes X.admits]; simp only [componentBytes]; omega)
    (g := F0 m pc ls rest) rfl hsize hRframes (by show 2 * 0 + (rest.map fun v => v.category).sum + 10240 ≤ R.locals; omega) hshort (by show 0 + 3 ≤ 3; omega) (by show 0 + (_ + 4 + 6) ≤ nb + 10; omega) hlocks
  obtain ⟨f1, f2⟩ := vx_frame Z.same
  have f1' : H.size ≤ S.heap.size := by rw [← hT]; exact f1
  have f2' : ∀ q : Nat, q < H.size → S.heap[q]? = H[q]? := fun q hq => by
    rw [← hT]
    exact f2 q (by rw [← hT] at hq; exact hq) (fun z hz => nomatch hz)
  have X5 := vx_back9 X Y Z
  have X6 : Stand p l e R s m args below meth c S locs (cells + 3) (slots + (nb + 10)) := { X5 with same := X5.same.mono (by omega) (by omega) }
  obtain ⟨t, a1, b1⟩ := k S.heap q ce f1' f2' ⟨Nat.le_trans hS.1 f1', fun q h1 h2 => (f2' q (Nat.lt_of_lt_of_le h1 hS.1)).trans (hS.2.1 q h1 h2), hS.2.2⟩ hce hv hcl' S rfl X6
  exact ⟨t, st t a1, b1⟩
/-- from the machine's note that NullPointerException is thrown here -/
def vx_NoteN (p : Program) (l : Launch) (e : Env) (R : Room) (s : State) (m : MethodId) (args : Array Value) (below : List Frame) (meth : Method) (c : Code) (H : Heap) (locs : List Loc) (cells slots : Nat) (Q : State → Prop) (g : JFrame) : Prop :=
  ∀ T : State, T.heap = H → Stand p l e R s m args below meth c T locs cells slots → ∃ t, Steps p.tables e below ((T.setTop g).pushFrame (.throwNew "java/lang/NullPointerException" none none)) t ∧ Q t
theorem vx_npe {pc : Nat} {ls : Array Slot} {rest : List Value} {Q : State → Prop} (hexec : p.tables.exec = Jvm.exec) (hl : l.stackTraces = false) {nb : Nat} {A : Nat → Prop}
    (hat : ∀ w ∈ vx_atN nb, w.before args s = true) (hgood : ∀ w ∈ vx_atN nb, vx_ot w = true)
    (hU : vx_Zq Bundle.tN "UNASSIGNED_STACK" Bundle.steD A s s.heap) (hN : vx_Zq Bundle.tN "SUPPRESSED_SENTINEL" Bundle.listD A s s.heap) (hS : va_S A s.heap H locs) (hsize : ls.size = c.maxLocals)
    (hRframes : 7 < R.frames) (hRlocals : (rest.map fun v => v.category).sum + 10240 ≤ R.locals) (hRcells : cells + 1 ≤ R.cells) (hRslots : slots + nb ≤ R.slots) (hlocks : meth.locks = false)
    (k : ∀ (H1 : Heap) (q9 : Addr) (ce : Cell), H.size ≤ H1.size → (∀ q : Nat, q < H.size → H1[q]? = H[q]?) → va_S A s.heap H1 locs → H1[q9]? = some ce → ce.vm = .none → s.vm.findClass "java/lang/NullPointerException" = some ce.cls → vx_W p l e R s m args below meth c H1 locs (cells + 1) (slots + nb) Q (F0 m pc ls rest) q9) :
    vx_NoteN p l e R s m args below meth c H locs cells slots Q (F0 m pc ls rest) := by
  intro T hT X
  have htr : e.platform.stackTraces = false := (show e.platform.stackTraces = l.stackTraces by rw [X.admits.platform]).trans hl
  have Y := vx_rebase X (R' := { frames := R.frames, locals := R.locals, cells := 1, slots := nb }) (Nat.le_refl _) (Nat.le_refl _) hRcells hRslots
  have hhp : ((T.setVm s.vm).setFrames (.invoking m args :: below)).heap = H := hT
  have hW0 : s.WarmedH ((T.setVm s.vm).setFrames (.invoking m args :: below)).vm := State.WarmedH.refl s
  have hat' : ∀ w ∈ vx_atN nb, w.before args ((T.setVm s.vm).setFrames (.invoking m args :: below)) = true := fun w hw => vx_ot_at hW0 rfl (hgood w hw) (hat w hw)
  have hU' : vx_Zq Bundle.tN "UNASSIGNED_STACK" Bundle.steD A ((T.setVm s.vm).setFrames (.invoking m args :: below)) ((T.setVm s.vm).setFrames (.invoking m args :: below)).heap := by rw [hhp]; exact vx_Zq.moved hW0.alike (hU.kept hS.2.1)
  have hN' : vx_Zq Bundle.tN "SUPPRESSED_SENTINEL" Bundle.listD A ((T.setVm s.vm).setFrames (.invoking m args :: below)) ((T.setVm s.vm).setFrames (.invoking m args :: below)).heap := by rw [hhp]; exact vx_Zq.moved hW0.alike (hN.kept hS.2.1)
  obtain ⟨S, q, ce, st, Z, hce, hcl', hv⟩ := vx_npeAt Y hexec htr (n := nb) (vx_own hat' (vx_isRefq hU'.1) (vx_isRefq hN'.1) hU'.2.word hN'.2.word) (fun x hx => nomatch hx)
    (g := F0 m pc ls rest) rfl hsize hRframes (by show 2 * 0 + (rest.map fun v => v.category).sum + 10240 ≤ R.locals; omega) (by show 0 + 1 ≤ 1; omega) (by show 0 + nb ≤ nb; omega) hlocks
  obtain ⟨f1, f2⟩ := vx_frame Z.same
  have f1' : H.size ≤ S.heap.size := by rw [← hT]; exact f1
  have f2' : ∀ q : Nat, q < H.size → S.heap[q]? = H[q]? := fun q hq => by
    rw [← hT]
    exact f2 q (by rw [← hT] at hq; exact hq) (fun z hz => nomatch hz)
  have X5 := vx_back9 X Y Z
  have X6 : Stand p l e R s m args below meth c S locs (cells + 1) (slots + nb) := { X5 with same := X5.same.mono (by omega) (by omega) }
  obtain ⟨t, a1, b1⟩ := k S.heap q ce f1' f2' ⟨Nat.le_trans hS.1 f1', fun q h1 h2 => (f2' q (Nat.lt_of_lt_of_le h1 hS.1)).trans (hS.2.1 q h1 h2), hS.2.2⟩ hce hv hcl' S rfl X6
  exact ⟨t, st t a1, b1⟩
variable {Q : State → Prop} {cc : ByteArray} {pc : Nat} {ls : Array Slot} {rest : List Value}
theorem vx_idivZ (hexec : p.tables.exec = Jvm.exec) (hb : c.code = cc) {a b : Int32} (h0 : b = 0) (d : decode cc pc = .ok (.idiv, 1)) (k : vx_Note p l e R s m args below meth c H locs cells slots Q (F0 m pc ls rest) "java/lang/ArithmeticException" "/ by zero") :
    W p l e R s m args below meth c H locs cells slots Q (F0 m pc ls (.int b :: .int a :: rest)) := by
  intro T hT X
  obtain ⟨t, st, q⟩ := k T hT X
  exact ⟨t, X.idivZero hexec (g := F0 m pc ls (.int b :: .int a :: rest)) rfl (a := a) (rest := rest) (by rw [h0]) (by rw [hb]; exact d) t st, q⟩
theorem vx_iremZ (hexec : p.tables.exec = Jvm.exec) (hb : c.code = cc) {a b : Int32} (h0 : b = 0) (d : decode cc pc = .ok (.irem, 1)) (k : vx_Note p l e R s m args below meth c H locs cells slots Q (F0 m pc ls rest) "java/lang/ArithmeticException" "/ by zero") :
    W p l e R s m args below meth c H locs cells slots Q (F0 m pc ls (.int b :: .int a :: rest)) := by
  intro T hT X
  obtain ⟨t, st, q⟩ := k T hT X
  exact ⟨t, X.iremZero hexec (g := F0 m pc ls (.int b :: .int a :: rest)) rfl (a := a) (rest := rest) (by rw [h0]) (by rw [hb]; exact d) t st, q⟩
theorem vx_ldivZ (hexec : p.tables.exec = Jvm.exec) (hb : c.code = cc) {a b : Int64} (h0 : b = 0) (d : decode cc pc = .ok (.ldiv, 1)) (k : vx_Note p l e R s m args below meth c H locs cells slots Q (F0 m pc ls rest) "java/lang/ArithmeticException" "/ by zero") :
    W p l e R s m args below meth c H locs cells slots Q (F0 m pc ls (.long b :: .long a :: rest)) := by
  intro T hT X
  obtain ⟨t, st, q⟩ := k T hT X
  exact ⟨t, X.ldivZero hexec (g := F0 m pc ls (.long b :: .long a :: rest)) rfl (a := a) (rest := rest) (by rw [h0]) (by rw [hb]; exact d) t st, q⟩
theorem vx_lremZ (hexec : p.tables.exec = Jvm.exec) (hb : c.code = cc) {a b : Int64} (h0 : b = 0) (d : decode cc pc = .ok (.lrem, 1)) (k : vx_Note p l e R s m args below meth c H locs cells slots Q (F0 m pc ls rest) "java/lang/ArithmeticException" "/ by zero") :
    W p l e R s m args below meth c H locs cells slots Q (F0 m pc ls (.long b :: .long a :: rest)) := by
  intro T hT X
  obtain ⟨t, st, q⟩ := k T hT X
  exact ⟨t, X.lremZero hexec (g := F0 m pc ls (.long b :: .long a :: rest)) rfl (a := a) (rest := rest) (by rw [h0]) (by rw [hb]; exact d) t st, q⟩
theorem vx_ialdZ {D : va_G} {cl : List vw_C} {ws : va_W} {tys : List (ClassId × FieldType)} {a : Nat} (hexec : p.tables.exec = Jvm.exec) (hb : c.code = cc) (hK : va_K D cl tys s) (hP : va_P D cl ws H) (q0 t0 : Nat) {cA : ClassId} {n : Nat} {f : Nat → Int32} (ha : ws[q0]? = some (a, .inl (cA, n, .inl f))) (ht : tys[t0]? = some (cA, .int)) {i : Int32} (hout : ¬ vp_in i n) (hdg : decode cc pc = .ok (.iaload, 1))
    (k : ∀ tx : String, tx = (toString "Index " ++ toString i ++ toString " out of bounds for length " ++ toString n : String) → vx_Note p l e R s m args below meth c H locs cells slots Q (F0 m pc ls rest) "java/lang/ArrayIndexOutOfBoundsException" tx) : W p l e R s m args below meth c H locs cells slots Q (F0 m pc ls (.int i :: .ref a :: rest)) := by
  intro T hT X
  obtain ⟨t, st, q⟩ := k _ rfl T hT X
  refine ⟨t, ?_, q⟩
  have h1 := X.ialoadOut hexec (by rw [hT]; exact hP q0 _ ha) ((hK.2 t0 _ ht).1 n (fun j => .int (f j))) (j := i) (by show (i < 0 ∨ (arrV _ _ _).slots.size ≤ _); rw [arrV_size]; exact Classical.byContradiction hout) (g := F0 m pc ls (.int i :: .ref a :: rest)) rfl (rest := rest) rfl (by rw [hb]; exact hdg) t
  simp only [arrV_size] at h1
  exact h1 st
theorem vx_iastZ {D : va_G} {cl : List vw_C} {ws : va_W} {tys : List (ClassId × FieldType)} {a : Nat} (hexec : p.tables.exec = Jvm.exec) (hb : c.code = cc) (hK : va_K D cl tys s) (hP : va_P D cl ws H) (q0 t0 : Nat) {cA : ClassId} {n : Nat} {f : Nat → Int32} (ha : ws[q0]? = some (a, .inl (cA, n, .inl f))) (ht : tys[t0]? = some (cA, .int)) {i : Int32} {x : Int32} (hout : ¬ vp_in i n) (hdg : decode cc pc = .ok (.iastore, 1))
    (k : ∀ tx : String, tx = (toString "Index " ++ toString i ++ toString " out of bounds for length " ++ toString n : String) → vx_Note p l e R s m args below meth c H locs cells slots Q (F0 m pc ls rest) "java/lang/ArrayIndexOutOfBoundsException" tx) : W p l e R s m args below meth c H locs cells slots Q (F0 m pc ls (.int x :: .int i :: .ref a :: rest)) := by
  intro T hT X
  obtain ⟨t, st, q⟩ := k _ rfl T hT X
  refine ⟨t, ?_, q⟩
  have h1 := X.iastoreOut hexec (by rw [hT]; exact hP q0 _ ha) ((hK.2 t0 _ ht).1 n (fun j => .int (f j))) (j := i) (by show (i < 0 ∨ (arrV _ _ _).slots.size ≤ _); rw [arrV_size]; exact Classical.byContradiction hout) (g := F0 m pc ls (.int x :: .int i :: .ref a :: rest)) rfl (rest := rest) rfl (by rw [hb]; exact hdg) t
  simp only [arrV_size] at h1
  exact h1 st
theorem vx_baldZ {D : va_G} {cl : List vw_C} {ws : va_W} {tys : List (ClassId × FieldType)} {a : Nat} (hexec : p.tables.exec = Jvm.exec) (hb : c.code = cc) (hK : va_K D cl tys s) (hP : va_P D cl ws H) (q0 t0 : Nat) {cA : ClassId} {n : Nat} {f : Nat → Int32} (ha : ws[q0]? = some (a, .inl (cA, n, .inl f))) (ht : tys[t0]? = some (cA, .byte)) {i : Int32} (hout : ¬ vp_in i n) (hdg : decode cc pc = .ok (.baload, 1))
    (k : ∀ tx : String, tx = (toString "Index " ++ toString i ++ toString " out of bounds for length " ++ toString n : String) → vx_Note p l e R s m args below meth c H locs cells slots Q (F0 m pc ls rest) "java/lang/ArrayIndexOutOfBoundsException" tx) : W p l e R s m args below meth c H locs cells slots Q (F0 m pc ls (.int i :: .ref a :: rest)) := by
  intro T hT X
  obtain ⟨t, st, q⟩ := k _ rfl T hT X
  refine ⟨t, ?_, q⟩
  have h1 := X.baloadOut hexec (by rw [hT]; exact hP q0 _ ha) ((hK.2 t0 _ ht).1 n (fun j => .int (f j))) (j := i) (by show (i < 0 ∨ (arrV _ _ _).slots.size ≤ _); rw [arrV_size]; exact Classical.byContradiction hout) (g := F0 m pc ls (.int i :: .ref a :: rest)) rfl (rest := rest) rfl (by rw [hb]; exact hdg) t
  simp only [arrV_size] at h1
  exact h1 st
theorem vx_bastZ {D : va_G} {cl : List vw_C} {ws : va_W} {tys : List (ClassId × FieldType)} {a : Nat} (hexec : p.tables.exec = Jvm.exec) (hb : c.code = cc) (hK : va_K D cl tys s) (hP : va_P D cl ws H) (q0 t0 : Nat) {cA : ClassId} {n : Nat} {f : Nat → Int32} (ha : ws[q0]? = some (a, .inl (cA, n, .inl f))) (ht : tys[t0]? = some (cA, .byte)) {i : Int32} {x : Int32} (hout : ¬ vp_in i n) (hdg : decode cc pc = .ok (.bastore, 1))
    (k : ∀ tx : String, tx = (toString "Index " ++ toString i ++ toString " out of bounds for length " ++ toString n : String) → vx_Note p l e R s m args below meth c H locs cells slots Q (F0 m pc ls rest) "java/lang/ArrayIndexOutOfBoundsException" tx) : W p l e R s m args below meth c H locs cells slots Q (F0 m pc ls (.int x :: .int i :: .ref a :: rest)) := by
  intro T hT X
  obtain ⟨t, st, q⟩ := k _ rfl T hT X
  refine ⟨t, ?_, q⟩
  have h1 := X.bastoreOut hexec (by rw [hT]; exact hP q0 _ ha) ((hK.2 t0 _ ht).1 n (fun j => .int (f j))) (j := i) (by show (i < 0 ∨ (arrV _ _ _).slots.size ≤ _); rw [arrV_size]; exact Classical.byContradiction hout) (g := F0 m pc ls (.int x :: .int i :: .ref a :: rest)) rfl (rest := rest) rfl (by rw [hb]; exact hdg) t
  simp only [arrV_size] at h1
  exact h1 st
theorem vx_zaldZ {D : va_G} {cl : List vw_C} {ws : va_W} {tys : List (ClassId × FieldType)} {a : Nat} (hexec : p.tables.exec = Jvm.exec) (hb : c.code = cc) (hK : va_K D cl tys s) (hP : va_P D cl ws H) (q0 t0 : Nat) {cA : ClassId} {n : Nat} {f : Nat → Int32} (ha : ws[q0]? = some (a, .inl (cA, n, .inl f))) (ht : tys[t0]? = some (cA, .boolean)) {i : Int32} (hout : ¬ vp_in i n) (hdg : decode cc pc = .ok (.baload, 1))
    (k : ∀ tx : String, tx = (toString "Index " ++ toString i ++ toString " out of bounds for length " ++ toString n : String) → vx_Note p l e R s m args below meth c H locs cells slots Q (F0 m pc ls rest) "java/lang/ArrayIndexOutOfBoundsException" tx) : W p l e R s m args below meth c H locs cells slots Q (F0 m pc ls (.int i :: .ref a :: rest)) := by
  intro T hT X
  obtain ⟨t, st, q⟩ := k _ rfl T hT X
  refine ⟨t, ?_, q⟩
  have h1 := X.baloadOut hexec (by rw [hT]; exact hP q0 _ ha) ((hK.2 t0 _ ht).1 n (fun j => .int (f j))) (j := i) (by show (i < 0 ∨ (arrV _ _ _).slots.size ≤ _); rw [arrV_size]; exact Classical.byContradiction hout) (g := F0 m pc ls (.int i :: .ref a :: rest)) rfl (rest := rest) rfl (by rw [hb]; exact hdg) t
  simp only [arrV_size] at h1
  exact h1 st
theorem vx_zastZ {D : va_G} {cl : List vw_C} {ws : va_W} {tys : List (ClassId × FieldType)} {a : Nat} (hexec : p.tables.exec = Jvm.exec) (hb : c.code = cc) (hK : va_K D cl tys s) (hP : va_P D cl ws H) (q0 t0 : Nat) {cA : ClassId} {n : Nat} {f : Nat → Int32} (ha : ws[q0]? = some (a, .inl (cA, n, .inl f))) (ht : tys[t0]? = some (cA, .boolean)) {i : Int32} {x : Int32} (hout : ¬ vp_in i n) (hdg : decode cc pc = .ok (.bastore, 1))
    (k : ∀ tx : String, tx = (toString "Index " ++ toString i ++ toString " out of bounds for length " ++ toString n : String) → vx_Note p l e R s m args below meth c H locs cells slots Q (F0 m pc ls rest) "java/lang/ArrayIndexOutOfBoundsException" tx) : W p l e R s m args below meth c H locs cells slots Q (F0 m pc ls (.int x :: .int i :: .ref a :: rest)) := by
  intro T hT X
  obtain ⟨t, st, q⟩ := k _ rfl T hT X
  refine ⟨t, ?_, q⟩
  have h1 := X.bastoreOut hexec (by rw [hT]; exact hP q0 _ ha) ((hK.2 t0 _ ht).1 n (fun j => .int (f j))) (j := i) (by show (i < 0 ∨ (arrV _ _ _).slots.size ≤ _); rw [arrV_size]; exact Classical.byContradiction hout) (g := F0 m pc ls (.int x :: .int i :: .ref a :: rest)) rfl (rest := rest) rfl (by rw [hb]; exact hdg) t
  simp only [arrV_size] at h1
  exact h1 st
theorem vx_caldZ {D : va_G} {cl : List vw_C} {ws : va_W} {tys : List (ClassId × FieldType)} {a : Nat} (hexec : p.tables.exec = Jvm.exec) (hb : c.code = cc) (hK : va_K D cl tys s) (hP : va_P D cl ws H) (q0 t0 : Nat) {cA : ClassId} {n : Nat} {f : Nat → Int32} (ha : ws[q0]? = some (a, .inl (cA, n, .inl f))) (ht : tys[t0]? = some (cA, .char)) {i : Int32} (hout : ¬ vp_in i n) (hdg : decode cc pc = .ok (.caload, 1))
    (k : ∀ tx : String, tx = (toString "Index " ++ toString i ++ toString " out of bounds for length " ++ toString n : String) → vx_Note p l e R s m args below meth c H locs cells slots Q (F0 m pc ls rest) "java/lang/ArrayIndexOutOfBoundsException" tx) : W p l e R s m args below meth c H locs cells slots Q (F0 m pc ls (.int i :: .ref a :: rest)) := by
  intro T hT X
  obtain ⟨t, st, q⟩ := k _ rfl T hT X
  refine ⟨t, ?_, q⟩
  have h1 := X.caloadOut hexec (by rw [hT]; exact hP q0 _ ha) ((hK.2 t0 _ ht).1 n (fun j => .int (f j))) (j := i) (by show (i < 0 ∨ (arrV _ _ _).slots.size ≤ _); rw [arrV_size]; exact Classical.byContradiction hout) (g := F0 m pc ls (.int i :: .ref a :: rest)) rfl (rest := rest) rfl (by rw [hb]; exact hdg) t
  simp only [arrV_size] at h1
  exact h1 st
theorem vx_castZ {D : va_G} {cl : List vw_C} {ws : va_W} {tys : List (ClassId × FieldType)} {a : Nat} (hexec : p.tables.exec = Jvm.exec) (hb : c.code = cc) (hK : va_K D cl tys s) (hP : va_P D cl ws H) (q0 t0 : Nat) {cA : ClassId} {n : Nat} {f : Nat → Int32} (ha : ws[q0]? = some (a, .inl (cA, n, .inl f))) (ht : tys[t0]? = some (cA, .char)) {i : Int32} {x : Int32} (hout : ¬ vp_in i n) (hdg : decode cc pc = .ok (.castore, 1))
    (k : ∀ tx : String, tx = (toString "Index " ++ toString i ++ toString " out of bounds for length " ++ toString n : String) → vx_Note p l e R s m args below meth c H locs cells slots Q (F0 m pc ls rest) "java/lang/ArrayIndexOutOfBoundsException" tx) : W p l e R s m args below meth c H locs cells slots Q (F0 m pc ls (.int x :: .int i :: .ref a :: rest)) := by
  intro T hT X
  obtain ⟨t, st, q⟩ := k _ rfl T hT X
  refine ⟨t, ?_, q⟩
  have h1 := X.castoreOut hexec (by rw [hT]; exact hP q0 _ ha) ((hK.2 t0 _ ht).1 n (fun j => .int (f j))) (j := i) (by show (i < 0 ∨ (arrV _ _ _).slots.size ≤ _); rw [arrV_size]; exact Classical.byContradiction hout) (g := F0 m pc ls (.int x :: .int i :: .ref a :: rest)) rfl (rest := rest) rfl (by rw [hb]; exact hdg) t
  simp only [arrV_size] at h1
  exact h1 st
theorem vx_saldZ {D : va_G} {cl : List vw_C} {ws : va_W} {tys : List (ClassId × FieldType)} {a : Nat} (hexec : p.tables.exec = Jvm.exec) (hb : c.code = cc) (hK : va_K D cl tys s) (hP : va_P D cl ws H) (q0 t0 : Nat) {cA : ClassId} {n : Nat} {f : Nat → Int32} (ha : ws[q0]? = some (a, .inl (cA, n, .inl f))) (ht : tys[t0]? = some (cA, .short)) {i : Int32} (hout : ¬ vp_in i n) (hdg : decode cc pc = .ok (.saload, 1))
    (k : ∀ tx : String, tx = (toString "Index " ++ toString i ++ toString " out of bounds for length " ++ toString n : String) → vx_Note p l e R s m args below meth c H locs cells slots Q (F0 m pc ls rest) "java/lang/ArrayIndexOutOfBoundsException" tx) : W p l e R s m args below meth c H locs cells slots Q (F0 m pc ls (.int i :: .ref a :: rest)) := by
  intro T hT X
  obtain ⟨t, st, q⟩ := k _ rfl T hT X
  refine ⟨t, ?_, q⟩
  have h1 := X.saloadOut hexec (by rw [hT]; exact hP q0 _ ha) ((hK.2 t0 _ ht).1 n (fun j => .int (f j))) (j := i) (by show (i < 0 ∨ (arrV _ _ _).slots.size ≤ _); rw [arrV_size]; exact Classical.byContradiction hout) (g := F0 m pc ls (.int i :: .ref a :: rest)) rfl (rest := rest) rfl (by rw [hb]; exact hdg) t
  simp only [arrV_size] at h1
  exact h1 st
theorem vx_sastZ {D : va_G} {cl : List vw_C} {ws : va_W} {tys : List (ClassId × FieldType)} {a : Nat} (hexec : p.tables.exec = Jvm.exec) (hb : c.code = cc) (hK : va_K D cl tys s) (hP : va_P D cl ws H) (q0 t0 : Nat) {cA : ClassId} {n : Nat} {f : Nat → Int32} (ha : ws[q0]? = some (a, .inl (cA, n, .inl f))) (ht : tys[t0]? = some (cA, .short)) {i : Int32} {x : Int32} (hout : ¬ vp_in i n) (hdg : decode cc pc = .ok (.sastore, 1))
    (k : ∀ tx : String, tx = (toString "Index " ++ toString i ++ toString " out of bounds for length " ++ toString n : String) → vx_Note p l e R s m args below meth c H locs cells slots Q (F0 m pc ls rest) "java/lang/ArrayIndexOutOfBoundsException" tx) : W p l e R s m args below meth c H locs cells slots Q (F0 m pc ls (.int x :: .int i :: .ref a :: rest)) := by
  intro T hT X
  obtain ⟨t, st, q⟩ := k _ rfl T hT X
  refine ⟨t, ?_, q⟩
  have h1 := X.sastoreOut hexec (by rw [hT]; exact hP q0 _ ha) ((hK.2 t0 _ ht).1 n (fun j => .int (f j))) (j := i) (by show (i < 0 ∨ (arrV _ _ _).slots.size ≤ _); rw [arrV_size]; exact Classical.byContradiction hout) (g := F0 m pc ls (.int x :: .int i :: .ref a :: rest)) rfl (rest := rest) rfl (by rw [hb]; exact hdg) t
  simp only [arrV_size] at h1
  exact h1 st
theorem vx_laldZ {D : va_G} {cl : List vw_C} {ws : va_W} {tys : List (ClassId × FieldType)} {a : Nat} (hexec : p.tables.exec = Jvm.exec) (hb : c.code = cc) (hK : va_K D cl tys s) (hP : va_P D cl ws H) (q0 t0 : Nat) {cA : ClassId} {n : Nat} {f : Nat → Int64} (ha : ws[q0]? = some (a, .inl (cA, n, .inr (.inl f)))) (ht : tys[t0]? = some (cA, .long)) {i : Int32} (hout : ¬ vp_in i n) (hdg : decode cc pc = .ok (.laload, 1))
    (k : ∀ tx : String, tx = (toString "Index " ++ toString i ++ toString " out of bounds for length " ++ toString n : String) → vx_Note p l e R s m args below meth c H locs cells slots Q (F0 m pc ls rest) "java/lang/ArrayIndexOutOfBoundsException" tx) : W p l e R s m args below meth c H locs cells slots Q (F0 m pc ls (.int i :: .ref a :: rest)) := by
  intro T hT X
  obtain ⟨t, st, q⟩ := k _ rfl T hT X
  refine ⟨t, ?_, q⟩
  have h1 := X.laloadOut hexec (by rw [hT]; exact hP q0 _ ha) ((hK.2 t0 _ ht).1 n (fun j => .long (f j))) (j := i) (by show (i < 0 ∨ (arrV _ _ _).slots.size ≤ _); rw [arrV_size]; exact Classical.byContradiction hout) (g := F0 m pc ls (.int i :: .ref a :: rest)) rfl (rest := rest) rfl (by rw [hb]; exact hdg) t
  simp only [arrV_size] at h1
  exact h1 st
theorem vx_lastZ {D : va_G} {cl : List vw_C} {ws : va_W} {tys : List (ClassId × FieldType)} {a : Nat} (hexec : p.tables.exec = Jvm.exec) (hb : c.code = cc) (hK : va_K D cl tys s) (hP : va_P D cl ws H) (q0 t0 : Nat) {cA : ClassId} {n : Nat} {f : Nat → Int64} (ha : ws[q0]? = some (a, .inl (cA, n, .inr (.inl f)))) (ht : tys[t0]? = some (cA, .long)) {i : Int32} {x : Int64} (hout : ¬ vp_in i n) (hdg : decode cc pc = .ok (.lastore, 1))
    (k : ∀ tx : String, tx = (toString "Index " ++ toString i ++ toString " out of bounds for length " ++ toString n : String) → vx_Note p l e R s m args below meth c H locs cells slots Q (F0 m pc ls rest) "java/lang/ArrayIndexOutOfBoundsException" tx) : W p l e R s m args below meth c H locs cells slots Q (F0 m pc ls (.long x :: .int i :: .ref a :: rest)) := by
  intro T hT X
  obtain ⟨t, st, q⟩ := k _ rfl T hT X
  refine ⟨t, ?_, q⟩
  have h1 := X.lastoreOut hexec (by rw [hT]; exact hP q0 _ ha) ((hK.2 t0 _ ht).1 n (fun j => .long (f j))) (j := i) (by show (i < 0 ∨ (arrV _ _ _).slots.size ≤ _); rw [arrV_size]; exact Classical.byContradiction hout) (g := F0 m pc ls (.long x :: .int i :: .ref a :: rest)) rfl (rest := rest) rfl (by rw [hb]; exact hdg) t
  simp only [arrV_size] at h1
  exact h1 st
theorem vx_faldZ {D : va_G} {cl : List vw_C} {ws : va_W} {tys : List (ClassId × FieldType)} {a : Nat} (hexec : p.tables.exec = Jvm.exec) (hb : c.code = cc) (hK : va_K D cl tys s) (hP : va_P D cl ws H) (q0 t0 : Nat) {cA : ClassId} {n : Nat} {f : Nat → UInt32} (ha : ws[q0]? = some (a, .inl (cA, n, .inr (.inr (.inl f))))) (ht : tys[t0]? = some (cA, .float)) {i : Int32} (hout : ¬ vp_in i n) (hdg : decode cc pc = .ok (.faload, 1))
    (k : ∀ tx : String, tx = (toString "Index " ++ toString i ++ toString " out of bounds for length " ++ toString n : String) → vx_Note p l e R s m args below meth c H locs cells slots Q (F0 m pc ls rest) "java/lang/ArrayIndexOutOfBoundsException" tx) : W p l e R s m args below meth c H locs cells slots Q (F0 m pc ls (.int i :: .ref a :: rest)) := by
  intro T hT X
  obtain ⟨t, st, q⟩ := k _ rfl T hT X
  refine ⟨t, ?_, q⟩
  have h1 := X.faloadOut hexec (by rw [hT]; exact hP q0 _ ha) ((hK.2 t0 _ ht).1 n (fun j => .float (f j))) (j := i) (by show (i < 0 ∨ (arrV _ _ _).slots.size ≤ _); rw [arrV_size]; exact Classical.byContradiction hout) (g := F0 m pc ls (.int i :: .ref a :: rest)) rfl (rest := rest) rfl (by rw [hb]; exact hdg) t
  simp only [arrV_size] at h1
  exact h1 st
theorem vx_fastZ {D : va_G} {cl : List vw_C} {ws : va_W} {tys : List (ClassId × FieldType)} {a : Nat} (hexec : p.tables.exec = Jvm.exec) (hb : c.code = cc) (hK : va_K D cl tys s) (hP : va_P D cl ws H) (q0 t0 : Nat) {cA : ClassId} {n : Nat} {f : Nat → UInt32} (ha : ws[q0]? = some (a, .inl (cA, n, .inr (.inr (.inl f))))) (ht : tys[t0]? = some (cA, .float)) {i : Int32} {x : UInt32} (hout : ¬ vp_in i n) (hdg : decode cc pc = .ok (.fastore, 1))
    (k : ∀ tx : String, tx = (toString "Index " ++ toString i ++ toString " out of bounds for length " ++ toString n : String) → vx_Note p l e R s m args below meth c H locs cells slots Q (F0 m pc ls rest) "java/lang/ArrayIndexOutOfBoundsException" tx) : W p l e R s m args below meth c H locs cells slots Q (F0 m pc ls (.float x :: .int i :: .ref a :: rest)) := by
  intro T hT X
  obtain ⟨t, st, q⟩ := k _ rfl T hT X
  refine ⟨t, ?_, q⟩
  have h1 := X.fastoreOut hexec (by rw [hT]; exact hP q0 _ ha) ((hK.2 t0 _ ht).1 n (fun j => .float (f j))) (j := i) (by show (i < 0 ∨ (arrV _ _ _).slots.size ≤ _); rw [arrV_size]; exact Classical.byContradiction hout) (g := F0 m pc ls (.float x :: .int i :: .ref a :: rest)) rfl (rest := rest) rfl (by rw [hb]; exact hdg) t
  simp only [arrV_size] at h1
  exact h1 st
theorem vx_daldZ {D : va_G} {cl : List vw_C} {ws : va_W} {tys : List (ClassId × FieldType)} {a : Nat} (hexec : p.tables.exec = Jvm.exec) (hb : c.code = cc) (hK : va_K D cl tys s) (hP : va_P D cl ws H) (q0 t0 : Nat) {cA : ClassId} {n : Nat} {f : Nat → UInt64} (ha : ws[q0]? = some (a, .inl (cA, n, .inr (.inr (.inr (.inl f)))))) (ht : tys[t0]? = some (cA, .double)) {i : Int32} (hout : ¬ vp_in i n) (hdg : decode cc pc = .ok (.daload, 1))
    (k : ∀ tx : String, tx = (toString "Index " ++ toString i ++ toString " out of bounds for length " ++ toString n : String) → vx_Note p l e R s m args below meth c H locs cells slots Q (F0 m pc ls rest) "java/lang/ArrayIndexOutOfBoundsException" tx) : W p l e R s m args below meth c H locs cells slots Q (F0 m pc ls (.int i :: .ref a :: rest)) := by
  intro T hT X
  obtain ⟨t, st, q⟩ := k _ rfl T hT X
  refine ⟨t, ?_, q⟩
  have h1 := X.daloadOut hexec (by rw [hT]; exact hP q0 _ ha) ((hK.2 t0 _ ht).1 n (fun j => .double (f j))) (j := i) (by show (i < 0 ∨ (arrV _ _ _).slots.size ≤ _); rw [arrV_size]; exact Classical.byContradiction hout) (g := F0 m pc ls (.int i :: .ref a :: rest)) rfl (rest := rest) rfl (by rw [hb]; exact hdg) t
  simp only [arrV_size] at h1
  exact h1 st
theorem vx_dastZ {D : va_G} {cl : List vw_C} {ws : va_W} {tys : List (ClassId × FieldType)} {a : Nat} (hexec : p.tables.exec = Jvm.exec) (hb : c.code = cc) (hK : va_K D cl tys s) (hP : va_P D cl ws H) (q0 t0 : Nat) {cA : ClassId} {n : Nat} {f : Nat → UInt64} (ha : ws[q0]? = some (a, .inl (cA, n, .inr (.inr (.inr (.inl f)))))) (ht : tys[t0]? = some (cA, .double)) {i : Int32} {x : UInt64} (hout : ¬ vp_in i n) (hdg : decode cc pc = .ok (.dastore, 1))
    (k : ∀ tx : String, tx = (toString "Index " ++ toString i ++ toString " out of bounds for length " ++ toString n : String) → vx_Note p l e R s m args below meth c H locs cells slots Q (F0 m pc ls rest) "java/lang/ArrayIndexOutOfBoundsException" tx) : W p l e R s m args below meth c H locs cells slots Q (F0 m pc ls (.double x :: .int i :: .ref a :: rest)) := by
  intro T hT X
  obtain ⟨t, st, q⟩ := k _ rfl T hT X
  refine ⟨t, ?_, q⟩
  have h1 := X.dastoreOut hexec (by rw [hT]; exact hP q0 _ ha) ((hK.2 t0 _ ht).1 n (fun j => .double (f j))) (j := i) (by show (i < 0 ∨ (arrV _ _ _).slots.size ≤ _); rw [arrV_size]; exact Classical.byContradiction hout) (g := F0 m pc ls (.double x :: .int i :: .ref a :: rest)) rfl (rest := rest) rfl (by rw [hb]; exact hdg) t
  simp only [arrV_size] at h1
  exact h1 st
theorem vx_arraylengthN (hexec : p.tables.exec = Jvm.exec) (hb : c.code = cc) (hdg : decode cc pc = .ok (.arraylength, 1)) (k : vx_NoteN p l e R s m args below meth c H locs cells slots Q (F0 m pc ls rest)) : W p l e R s m args below meth c H locs cells slots Q (F0 m pc ls (.null :: rest)) := by
  intro T hT X
  obtain ⟨t, st, q⟩ := k T hT X
  exact ⟨t, X.arraylengthNull hexec (g := F0 m pc ls (.null :: rest)) rfl (rest := rest) rfl (by rw [hb]; exact hdg) t st, q⟩
theorem vx_ialoadN (hexec : p.tables.exec = Jvm.exec) (hb : c.code = cc) {i : Int32} (hdg : decode cc pc = .ok (.iaload, 1)) (k : vx_NoteN p l e R s m args below meth c H locs cells slots Q (F0 m pc ls rest)) : W p l e R s m args below meth c H locs cells slots Q (F0 m pc ls (.int i :: .null :: rest)) := by
  intro T hT X
  obtain ⟨t, st, q⟩ := k T hT X
  exact ⟨t, X.ialoadNull hexec (g := F0 m pc ls (.int i :: .null :: rest)) rfl (rest := rest) rfl (by rw [hb]; exact hdg) t st, q⟩
theorem vx_laloadN (hexec : p.tables.exec = Jvm.exec) (hb : c.code = cc) {i : Int32} (hdg : decode cc pc = .ok (.laload, 1)) (k : vx_NoteN p l e R s m args below meth c H locs cells slots Q (F0 m pc ls rest)) : W p l e R s m args below meth c H locs cells slots Q (F0 m pc ls (.int i :: .null :: rest)) := by
  intro T hT X
  obtain ⟨t, st, q⟩ := k T hT X
  exact ⟨t, X.laloadNull hexec (g := F0 m pc ls (.int i :: .null :: rest)) rfl (rest := rest) rfl (by rw [hb]; exact hdg) t st, q⟩
theorem vx_faloadN (hexec : p.tables.exec = Jvm.exec) (hb : c.code = cc) {i : Int32} (hdg : decode cc pc = .ok (.faload, 1)) (k : vx_NoteN p l e R s m args below meth c H locs cells slots Q (F0 m pc ls rest)) : W p l e R s m args below meth c H locs cells slots Q (F0 m pc ls (.int i :: .null :: rest)) := by
  intro T hT X
  obtain ⟨t, st, q⟩ := k T hT X
  exact ⟨t, X.faloadNull hexec (g := F0 m pc ls (.int i :: .null :: rest)) rfl (rest := rest) rfl (by rw [hb]; exact hdg) t st, q⟩
theorem vx_daloadN (hexec : p.tables.exec = Jvm.exec) (hb : c.code = cc) {i : Int32} (hdg : decode cc pc = .ok (.daload, 1)) (k : vx_NoteN p l e R s m args below meth c H locs cells slots Q (F0 m pc ls rest)) : W p l e R s m args below meth c H locs cells slots Q (F0 m pc ls (.int i :: .null :: rest)) := by
  intro T hT X
  obtain ⟨t, st, q⟩ := k T hT X
  exact ⟨t, X.daloadNull hexec (g := F0 m pc ls (.int i :: .null :: rest)) rfl (rest := rest) rfl (by rw [hb]; exact hdg) t st, q⟩
theorem vx_aaloadN (hexec : p.tables.exec = Jvm.exec) (hb : c.code = cc) {i : Int32} (hdg : decode cc pc = .ok (.aaload, 1)) (k : vx_NoteN p l e R s m args below meth c H locs cells slots Q (F0 m pc ls rest)) : W p l e R s m args below meth c H locs cells slots Q (F0 m pc ls (.int i :: .null :: rest)) := by
  intro T hT X
  obtain ⟨t, st, q⟩ := k T hT X
  exact ⟨t, X.aaloadNull hexec (g := F0 m pc ls (.int i :: .null :: rest)) rfl (rest := rest) rfl (by rw [hb]; exact hdg) t st, q⟩
theorem vx_baloadN (hexec : p.tables.exec = Jvm.exec) (hb : c.code = cc) {i : Int32} (hdg : decode cc pc = .ok (.baload, 1)) (k : vx_NoteN p l e R s m args below meth c H locs cells slots Q (F0 m pc ls rest)) : W p l e R s m args below meth c H locs cells slots Q (F0 m pc ls (.int i :: .null :: rest)) := by
  intro T hT X
  obtain ⟨t, st, q⟩ := k T hT X
  exact ⟨t, X.baloadNull hexec (g := F0 m pc ls (.int i :: .null :: rest)) rfl (rest := rest) rfl (by rw [hb]; exact hdg) t st, q⟩
theorem vx_caloadN (hexec : p.tables.exec = Jvm.exec) (hb : c.code = cc) {i : Int32} (hdg : decode cc pc = .ok (.caload, 1)) (k : vx_NoteN p l e R s m args below meth c H locs cells slots Q (F0 m pc ls rest)) : W p l e R s m args below meth c H locs cells slots Q (F0 m pc ls (.int i :: .null :: rest)) := by
  intro T hT X
  obtain ⟨t, st, q⟩ := k T hT X
  exact ⟨t, X.caloadNull hexec (g := F0 m pc ls (.int i :: .null :: rest)) rfl (rest := rest) rfl (by rw [hb]; exact hdg) t st, q⟩
theorem vx_saloadN (hexec : p.tables.exec = Jvm.exec) (hb : c.code = cc) {i : Int32} (hdg : decode cc pc = .ok (.saload, 1)) (k : vx_NoteN p l e R s m args below meth c H locs cells slots Q (F0 m pc ls rest)) : W p l e R s m args below meth c H locs cells slots Q (F0 m pc ls (.int i :: .null :: rest)) := by
  intro T hT X
  obtain ⟨t, st, q⟩ := k T hT X
  exact ⟨t, X.saloadNull hexec (g := F0 m pc ls (.int i :: .null :: rest)) rfl (rest := rest) rfl (by rw [hb]; exact hdg) t st, q⟩
theorem vx_iastoreN (hexec : p.tables.exec = Jvm.exec) (hb : c.code = cc) {x : Int32} {i : Int32} (hdg : decode cc pc = .ok (.iastore, 1)) (k : vx_NoteN p l e R s m args below meth c H locs cells slots Q (F0 m pc ls rest)) : W p l e R s m args below meth c H locs cells slots Q (F0 m pc ls (.int x :: .int i :: .null :: rest)) := by
  intro T hT X
  obtain ⟨t, st, q⟩ := k T hT X
  exact ⟨t, X.iastoreNull hexec (g := F0 m pc ls (.int x :: .int i :: .null :: rest)) rfl (rest := rest) rfl (by rw [hb]; exact hdg) t st, q⟩
theorem vx_lastoreN (hexec : p.tables.exec = Jvm.exec) (hb : c.code = cc) {x : Int64} {i : Int32} (hdg : decode cc pc = .ok (.lastore, 1)) (k : vx_NoteN p l e R s m args below meth c H locs cells slots Q (F0 m pc ls rest)) : W p l e R s m args below meth c H locs cells slots Q (F0 m pc ls (.long x :: .int i :: .null :: rest)) := by
  intro T hT X
  obtain ⟨t, st, q⟩ := k T hT X
  exact ⟨t, X.lastoreNull hexec (g := F0 m pc ls (.long x :: .int i :: .null :: rest)) rfl (rest := rest) rfl (by rw [hb]; exact hdg) t st, q⟩
theorem vx_fastoreN (hexec : p.tables.exec = Jvm.exec) (hb : c.code = cc) {x : UInt32} {i : Int32} (hdg : decode cc pc = .ok (.fastore, 1)) (k : vx_NoteN p l e R s m args below meth c H locs cells slots Q (F0 m pc ls rest)) : W p l e R s m args below meth c H locs cells slots Q (F0 m pc ls (.float x :: .int i :: .null :: rest)) := by
  intro T hT X
  obtain ⟨t, st, q⟩ := k T hT X
  exact ⟨t, X.fastoreNull hexec (g := F0 m pc ls (.float x :: .int i :: .null :: rest)) rfl (rest := rest) rfl (by rw [hb]; exact hdg) t st, q⟩
theorem vx_dastoreN (hexec : p.tables.exec = Jvm.exec) (hb : c.code = cc) {x : UInt64} {i : Int32} (hdg : decode cc pc = .ok (.dastore, 1)) (k : vx_NoteN p l e R s m args below meth c H locs cells slots Q (F0 m pc ls rest)) : W p l e R s m args below meth c H locs cells slots Q (F0 m pc ls (.double x :: .int i :: .null :: rest)) := by
  intro T hT X
  obtain ⟨t, st, q⟩ := k T hT X
  exact ⟨t, X.dastoreNull hexec (g := F0 m pc ls (.double x :: .int i :: .null :: rest)) rfl (rest := rest) rfl (by rw [hb]; exact hdg) t st, q⟩
theorem vx_bastoreN (hexec : p.tables.exec = Jvm.exec) (hb : c.code = cc) {x : Int32} {i : Int32} (hdg : decode cc pc = .ok (.bastore, 1)) (k : vx_NoteN p l e R s m args below meth c H locs cells slots Q (F0 m pc ls rest)) : W p l e R s m args below meth c H locs cells slots Q (F0 m pc ls (.int x :: .int i :: .null :: rest)) := by
  intro T hT X
  obtain ⟨t, st, q⟩ := k T hT X
  exact ⟨t, X.bastoreNull hexec (g := F0 m pc ls (.int x :: .int i :: .null :: rest)) rfl (rest := rest) rfl (by rw [hb]; exact hdg) t st, q⟩
theorem vx_castoreN (hexec : p.tables.exec = Jvm.exec) (hb : c.code = cc) {x : Int32} {i : Int32} (hdg : decode cc pc = .ok (.castore, 1)) (k : vx_NoteN p l e R s m args below meth c H locs cells slots Q (F0 m pc ls rest)) : W p l e R s m args below meth c H locs cells slots Q (F0 m pc ls (.int x :: .int i :: .null :: rest)) := by
  intro T hT X
  obtain ⟨t, st, q⟩ := k T hT X
  exact ⟨t, X.castoreNull hexec (g := F0 m pc ls (.int x :: .int i :: .null :: rest)) rfl (rest := rest) rfl (by rw [hb]; exact hdg) t st, q⟩
theorem vx_sastoreN (hexec : p.tables.exec = Jvm.exec) (hb : c.code = cc) {x : Int32} {i : Int32} (hdg : decode cc pc = .ok (.sastore, 1)) (k : vx_NoteN p l e R s m args below meth c H locs cells slots Q (F0 m pc ls rest)) : W p l e R s m args below meth c H locs cells slots Q (F0 m pc ls (.int x :: .int i :: .null :: rest)) := by
  intro T hT X
  obtain ⟨t, st, q⟩ := k T hT X
  exact ⟨t, X.sastoreNull hexec (g := F0 m pc ls (.int x :: .int i :: .null :: rest)) rfl (rest := rest) rfl (by rw [hb]; exact hdg) t st, q⟩
theorem vx_invokeN {own C : String} {index maxL : Nat} {y : MethodName} {bytes : ByteArray} {ret : Option FieldType} (hexec : p.tables.exec = Jvm.exec) (hb : c.code = cc) (hown : s.vm.findClass own = some m.cls) (hlink : (Cond.methodLink own index y).before args s = true) (hinst : (Cond.instanceMethod y).before args s = true) (hcode : (Cond.code y bytes maxL ret).before args s = true) (hsel : (Cond.selects C y y).before args s = true)
    (hx : y.cls ≠ "java/lang/invoke/MethodHandle" ∧ y.cls ≠ "java/lang/invoke/VarHandle") {As : List Value} (hlen : (parseMethodDescriptor y.desc).map (fun d => d.parameters.length) = some As.length) (hdg : decode cc pc = .ok (.invokevirtual index, 3))
    (k : vx_NoteN p l e R s m args below meth c H locs cells slots Q (F0 m pc ls rest)) {st0 : List Value} (hst : st0 = As.reverse ++ .null :: rest) : W p l e R s m args below meth c H locs cells slots Q (F0 m pc ls st0) := by
  intro T hT X
  obtain ⟨r0, r, hn, hrm, hstR, hsigR⟩ := va_Decl.of hinst hcode
  obtain ⟨c2, r2, m2, q1, q2, q3, q4, kP, hkP, hkPi⟩ := Cond.selects_spec hsel
  cases hn.symm.trans q3
  have hl9 : As.length = r.sig.parameters.length := by
    rw [hsigR] at hlen
    exact (Option.some.inj hlen).symm
  obtain ⟨vm', X1, st1⟩ := X.invokevirtualNull hexec hown hlink hn hrm hstR hkP hkPi hx (g := F0 m pc ls st0) rfl (argsL := As) (rest := rest) hl9 hst (by rw [hb]; exact hdg)
  obtain ⟨t, st, q⟩ := k (T.setVm vm') hT X1
  exact ⟨t, st1 t st, q⟩
theorem vx_newarrayZ {atype : ArrayType} (hexec : p.tables.exec = Jvm.exec) (hb : c.code = cc) {n : Int32} (h0 : n < 0) (hdg : decode cc pc = .ok (.newarray atype, 2)) (k : ∀ tx : String, tx = toString n → vx_Note p l e R s m args below meth c H locs cells slots Q (F0 m pc ls rest) "java/lang/NegativeArraySizeException" tx) : W p l e R s m args below meth c H locs cells slots Q (F0 m pc ls (.int n :: rest)) := by
  intro T hT X
  obtain ⟨t, st, q⟩ := k _ rfl T hT X
  exact ⟨t, X.newarrayNegative hexec (g := F0 m pc ls (.int n :: rest)) rfl h0 (rest := rest) rfl (by rw [hb]; exact hdg) t st, q⟩
end
end VXM
/-! ===== END ===== -/
/-! ===== BEGIN an exception as an object: made, kept, thrown later (no traces kept) ===== -/
section VXK
variable {p : Program} {l : Launch} {e : Env} {R : Room} {s : State} {m₀ : MethodId} {args : Array Value} {below : List Frame} {meth : Method} {c : Code} {W : State} {locs : List Loc} {cells slots : Nat}
set_option maxHeartbeats 1000000 in
theorem vx_ctorMadeS (X : Stand p l e R s m₀ args below meth c W locs cells slots) (hexec : p.tables.exec = Jvm.exec) (htr : e.platform.stackTraces = false) {own cls : String} {names : List String} {ic : Nat}
    (hown : s.vm.findClass own = some m₀.cls) (hcls : Bundle.fit cls = true) (hnames : ∀ n ∈ names, Bundle.fit n = true)
    (h : ∀ a ∈ Bundle.ownAtoms own ic cls names, a.before args s = true)
    (hlocs : ∀ x ∈ locs, ∀ cell, s.heap[x.base]? = some cell → cell.vm.isStatics = false)
    {a : Addr} {cX : ClassId} {kX : Class} (hfoundX : s.vm.findClass cls = some cX) (hkX : s.vm.classes[cX]? = some kX) (hcell : W.heap[a]? = some (freshCell cX kX)) (hnew : s.heap.size ≤ a)
    {msg : Value} (hmsg : msg.isRef = true)
    {g : JFrame} (hg : g.method = m₀) (hsize : g.locals.size = c.maxLocals) {rest : List Value} (hstack : g.stack = msg :: .ref a :: .ref a :: rest)
    (hd6 : decode c.code g.pc = .ok (.invokespecial ic, 3))
    (hRframes : names.length + 3 < R.frames) (hRlocals : 2 * g.monitorRoom + ((Value.ref a :: rest).map fun v => v.category).sum + (13 * (names.length + 1) + 42) ≤ R.locals) :
    ∃ (V : State) (ce : Cell) (L : List Loc), Stand p l e R s m₀ args below meth c (V.setCell a ce) (locs ++ L) cells slots ∧ (∀ y ∈ L, y.base = a) ∧ a < V.heap.size ∧ ce.cls = cX ∧ ce.vm = .none ∧
      ∀ target, Steps p.tables e below ((V.setCell a ce).setTop { g with stack := .ref a :: rest, pc := g.pc + 3 }) target → Steps p.tables e below (W.setTop g) target := by
  have howns : e.platform.frameOwnsMonitors = true := by rw [X.admits.platform]
  have hfin : e.platform.finalization = false := by rw [X.admits.platform]
  have hpl : e.platform.magicAccessors = ({} : Platform).magicAccessors := by rw [X.admits.platform]
  have a' : ∀ x, x ∈ Bundle.ownAtoms own ic cls names → x.holds args s none s [] = true := fun x hx => h x hx
  obtain ⟨T, Z0, L, -, Y⟩ := ThrowableC.of_atoms (args := args) howns hfin hpl (fun x hx => h x (by simp [Bundle.ownAtoms, hx]))
  obtain ⟨Z, M, LZ, LM, hnZ⟩ := Init0T.ofS_atoms (args := args) hpl L Y (fun x hx => h x (by simp [Bundle.ownAtoms, hx]))
  obtain ⟨P1, Ps, hlen, L1, hL, hP1m, hlink1, hlink⟩ := Bundle.chainS (args := args) hpl hnZ names cls hcls hnames (fun x hx => h x (by simp [Bundle.ownAtoms, hx]))
  have hfound : s.vm.findClass cls = some P1.m.cls := findClass_of_methodNamed hP1m
  cases Option.some.inj (hfoundX.symm.trans hfound)
  obtain ⟨c1, kX', hc1, hk, hord, -, -, hn6⟩ := Cond.instantiable_spec (a' (.instantiable cls 6) (by simp [Bundle.ownAtoms]))
  cases Option.some.inj (hc1.symm.trans hfound)
  cases Option.some.inj (hkX.symm.trans hk)
  have hsel0 : selectMethod e.platform s.vm P1.m.cls T.fill0 = .method T.fill0 := by
    obtain ⟨c2, r2, m2, q1, q2, q3, q4, -⟩ := Cond.selects_spec (a' (.selects cls Bundle.tFill0 Bundle.tFill0) (by simp [Bundle.ownAtoms]))
    cases Option.some.inj (q1.symm.trans hfound)
    cases Option.some.inj (q2.symm.trans (State.methodFound?_of_named Y.fill0 (by decide)))
    cases Option.some.inj (q3.symm.trans Y.fill0)
    rw [Launch.admits_selectMethod X.admits]; exact q4
  have hselF : selectMethod e.platform s.vm P1.m.cls T.fill = .method T.fill := by
    obtain ⟨c2, r2, m2, q1, q2, q3, q4, -⟩ := Cond.selects_spec (a' (.selects cls Bundle.tFill Bundle.tFill) (by simp [Bundle.ownAtoms]))
    cases Option.some.inj (q1.symm.trans hfound)
    cases Option.some.inj (q2.symm.trans (State.methodFound?_of_named Y.fill (by decide)))
    cases Option.some.inj (q3.symm.trans Y.fill)
    rw [Launch.admits_selectMethod X.admits]; exact q4
  obtain ⟨cellS0, hcS0, hiss⟩ := Y.statics
  obtain ⟨u0, hu0⟩ := Cond.staticRefV Y.unassigned L.unassignedStatic L.statics hcS0 hiss (a' (.isRef (.static Bundle.tN "UNASSIGNED_STACK" Bundle.steD)) (by simp [Bundle.ownAtoms]))
  obtain ⟨sen, hsen⟩ := Cond.staticRefV Y.sentinel L.sentinelStatic L.statics hcS0 hiss (a' (.isRef (.static Bundle.tN "SUPPRESSED_SENTINEL" Bundle.listD)) (by simp [Bundle.ownAtoms]))
  obtain ⟨ci198, i198, fB, hk198, hg198, ha198, hsB, -, hnB, htB, hffB⟩ := Cond.ownField (t := .object "java/lang/Object") Y.found L.cls (by decide +kernel) (a' (.fieldLink Bundle.tN 198 Bundle.tN "backtrace" "Ljava/lang/Object;") (by simp [Bundle.ownAtoms])) (a' (.lays Bundle.tN Bundle.tN "backtrace" "Ljava/lang/Object;") (by simp [Bundle.ownAtoms])) e.platform hpl
  obtain ⟨cellS, hcS', heS, -, hkeep⟩ := X.same.2.2.2.2.2 T.aS cellS0 hcS0
  have hcellS : W.heap[T.aS]? = some cellS := hcS'
  have hout' : ∀ i, (⟨T.aS, i⟩ : Loc) ∉ locs := fun i hmem => by
    have := hlocs _ hmem cellS0 hcS0
    rw [hiss] at this; cases this
  have hknownS : cellS.vm ≠ .unknown := by
    rw [heS]; intro hu
    rw [show cellS0.vm = .unknown from hu] at hiss
    cases hiss
  have hneS : T.aS ≠ a := Nat.ne_of_lt (Nat.lt_of_lt_of_le (Array.getElem?_eq_some_iff.mp hcS0).1 hnew)
  obtain ⟨iM, hffM⟩ := Y.msg
  obtain ⟨tyC, dC, hdC, hdnC⟩ := Cond.laysAt hfound hk Y.cause (a' (.lays cls Bundle.tN "cause" "Ljava/lang/Throwable;") (by simp [Bundle.ownAtoms]))
  obtain ⟨tyS, dS, hdS, hdnS⟩ := Cond.laysAt hfound hk Y.stack (a' (.lays cls Bundle.tN "stackTrace" Bundle.steD) (by simp [Bundle.ownAtoms]))
  obtain ⟨tyP, dP, hdP, hdnP⟩ := Cond.laysAt hfound hk Y.supp (a' (.lays cls Bundle.tN "suppressedExceptions" Bundle.listD) (by simp [Bundle.ownAtoms]))
  obtain ⟨tyM, dM, hdM, hdnM⟩ := Cond.laysAt hfound hk hffM (a' (.lays cls Bundle.tN "detailMessage" "Ljava/lang/String;") (by simp [Bundle.ownAtoms]))
  obtain ⟨tyB, dB, hdB, hdnB⟩ := Cond.laysAt hfound hk hffB (a' (.lays cls Bundle.tN "backtrace" "Ljava/lang/Object;") (by simp [Bundle.ownAtoms]))
  have bC := Cond.laysApart hdB hdC hdnB hdnC (by rw [hnB, Y.causeName]; decide)
  have bS := Cond.laysApart hdB hdS hdnB hdnS (by rw [hnB, Y.stackName]; decide)
  have bP := Cond.laysApart hdB hdP hdnB hdnP (by rw [hnB, Y.suppName]; decide)
  have hskip : SkipFacts T e.platform s (fun u => u) u0 ((preparedCellV T.toThrowableT (freshCell P1.m.cls kX) a u0 sen).withEntry W.cur) :=
    ⟨{ ci198 := ci198, i198 := i198, fBack := fB }, ⟨hk198, hg198, ha198, hsB⟩, by
      have := fresh_default (c := P1.m.cls) tyB
      rw [htB] at this
      simpa [preparedCellV, Cell.setSlot, Cell.withEntry, Array.getElem?_setIfInBounds, bC, bS, bP, bC.symm, bS.symm, bP.symm, defaultValue] using this, fun _ _ => rfl⟩
  obtain ⟨tm, methC, cdC, kC, vm₁, hnC, -, -, -, -, -, -, -, hW₁, st1⟩ := Steps.initColdS (tb := p.tables) (e := e) (below := below) (s := s) (U := W) X.here hexec X.warmed hpl hown (t := Bundle.initS cls) rfl rfl (Bundle.fit_spec hcls).2
    (a' (.methodLink own ic (Bundle.initS cls)) (by simp [Bundle.ownAtoms])) (h (.instanceMethod (Bundle.initS cls)) (by cases names <;> simp [Bundle.ownAtoms, Bundle.chainSAtoms, Bundle.passSAtoms])) (bytes := Bundle.six) (maxL := 2) (h (.code (Bundle.initS cls) Bundle.six 2 none) (by cases names <;> simp [Bundle.ownAtoms, Bundle.chainSAtoms, Bundle.passSAtoms]))
    (f := g) hg (a := a) (msg := msg) (rest := .ref a :: rest) hstack hd6
  cases Option.some.inj (hnC.symm.trans hP1m)
  have X₁ := X.noted hW₁
  obtain ⟨vm₂, X₂, st2⟩ := X₁.ctorMessageOffV hexec (g := { g with stack := .ref a :: rest }) hg hsize T L Z LZ M LM (P1 :: Ps)
    (fun P hP => by rcases List.mem_cons.mp hP with rfl | hP; exact L1; exact hL P hP) ⟨hlink1, hlink⟩ (u0 := u0) (sen := sen) (self := a) hmsg (cell := freshCell P1.m.cls kX) (cellS := cellS)
    hcell (fun _ => by simp) (by simp) rfl rfl hsel0 hselF hcellS hneS hknownS (by rw [hkeep _ (hout' _)]; exact hu0) (by rw [hkeep _ (hout' _)]; exact hsen)
    (Takes.of_laid hk hord tyC (by rw [Y.causeType]; rfl)) (Takes.of_laid hk hord tyS (by rw [Y.stackType]; exact fits_refV_array _ u0)) (Takes.of_laid hk hord tyP (by rw [Y.suppType]; exact fits_refV_object _ sen))
    (Takes.of_laid hk hord tyM (by rw [Y.msgType]; exact fits_refV_object _ ⟨msg, hmsg⟩)) Y.objLocals hskip htr [] hd6
    (by simp only [List.length_cons, hlen]; omega) (by simp only [List.length_cons, hlen]; exact hRlocals)
  have hlt : a < ((W.setVm vm₁).setVm vm₂).heap.size := (Array.getElem?_eq_some_iff.mp hcell).1
  refine ⟨(W.setVm vm₁).setVm vm₂, _, _, X₂, fun y hy => ?_, hlt, rfl, rfl, fun target hwalk => st1 _ (fun acts => ?_)⟩
  · simp only [List.mem_cons, List.not_mem_nil, or_false] at hy
    rcases hy with rfl | rfl | rfl | rfl | rfl <;> rfl
  · rw [doInvoke_state]
    exact st2 _ hwalk
set_option maxHeartbeats 1000000 in
theorem vx_ctorMade0 (X : Stand p l e R s m₀ args below meth c W locs cells slots) (hexec : p.tables.exec = Jvm.exec) (htr : e.platform.stackTraces = false) {own cls : String} {names : List String} {ic : Nat}
    (hown : s.vm.findClass own = some m₀.cls) (hcls : Bundle.fit cls = true) (hnames : ∀ n ∈ names, Bundle.fit n = true)
    (h : ∀ a ∈ Bundle.ownAtoms0 own ic cls names, a.before args s = true)
    (hlocs : ∀ x ∈ locs, ∀ cell, s.heap[x.base]? = some cell → cell.vm.isStatics = false)
    {a : Addr} {cX : ClassId} {kX : Class} (hfoundX : s.vm.findClass cls = some cX) (hkX : s.vm.classes[cX]? = some kX) (hcell : W.heap[a]? = some (freshCell cX kX)) (hnew : s.heap.size ≤ a)
    {g : JFrame} (hg : g.method = m₀) (hsize : g.locals.size = c.maxLocals) {rest : List Value} (hstack : g.stack = .ref a :: .ref a :: rest)
    (hd6 : decode c.code g.pc = .ok (.invokespecial ic, 3))
    (hRframes : names.length + 3 < R.frames) (hRlocals : 2 * g.monitorRoom + ((Value.ref a :: rest).map fun v => v.category).sum + (13 * (names.length + 1) + 41) ≤ R.locals) :
    ∃ (V : State) (ce : Cell) (L : List Loc), Stand p l e R s m₀ args below meth c (V.setCell a ce) (locs ++ L) cells slots ∧ (∀ y ∈ L, y.base = a) ∧ a < V.heap.size ∧ ce.cls = cX ∧ ce.vm = .none ∧
      ∀ target, Steps p.tables e below ((V.setCell a ce).setTop { g with stack := .ref a :: rest, pc := g.pc + 3 }) target → Steps p.tables e below (W.setTop g) target := by
  have howns : e.platform.frameOwnsMonitors = true := by rw [X.admits.platform]
  have hfin : e.platform.finalization = false := by rw [X.admits.platform]
  have hpl : e.platform.magicAccessors = ({} : Platform).magicAccessors := by rw [X.admits.platform]
  have a' : ∀ x, x ∈ Bundle.ownAtoms0 own ic cls names → x.holds args s none s [] = true := fun x hx => h x hx
  obtain ⟨T, Z, L, LZ, Y⟩ := ThrowableC.of_atoms (args := args) howns hfin hpl (fun x hx => h x (by simp [Bundle.ownAtoms0, hx]))
  obtain ⟨P1, Ps, hlen, L1, hL, hP1m, hlink1, hlink⟩ := Bundle.chain0 (args := args) hpl Y.init0 names cls hcls hnames (fun x hx => h x (by simp [Bundle.ownAtoms0, hx]))
  have hfound : s.vm.findClass cls = some P1.m.cls := findClass_of_methodNamed hP1m
  cases Option.some.inj (hfoundX.symm.trans hfound)
  obtain ⟨c1, kX', hc1, hk, hord, -, -, hn6⟩ := Cond.instantiable_spec (a' (.instantiable cls 6) (by simp [Bundle.ownAtoms0]))
  cases Option.some.inj (hc1.symm.trans hfound)
  cases Option.some.inj (hkX.symm.trans hk)
  have hsel0 : selectMethod e.platform s.vm P1.m.cls T.fill0 = .method T.fill0 := by
    obtain ⟨c2, r2, m2, q1, q2, q3, q4, -⟩ := Cond.selects_spec (a' (.selects cls Bundle.tFill0 Bundle.tFill0) (by simp [Bundle.ownAtoms0]))
    cases Option.some.inj (q1.symm.trans hfound)
    cases Option.some.inj (q2.symm.trans (State.methodFound?_of_named Y.fill0 (by decide)))
    cases Option.some.inj (q3.symm.trans Y.fill0)
    rw [Launch.admits_selectMethod X.admits]; exact q4
  have hselF : selectMethod e.platform s.vm P1.m.cls T.fill = .method T.fill := by
    obtain ⟨c2, r2, m2, q1, q2, q3, q4, -⟩ := Cond.selects_spec (a' (.selects cls Bundle.tFill Bundle.tFill) (by simp [Bundle.ownAtoms0]))
    cases Option.some.inj (q1.symm.trans hfound)
    cases Option.some.inj (q2.symm.trans (State.methodFound?_of_named Y.fill (by decide)))
    cases Option.some.inj (q3.symm.trans Y.fill)
    rw [Launch.admits_selectMethod X.admits]; exact q4
  obtain ⟨cellS0, hcS0, hiss⟩ := Y.statics
  obtain ⟨u0, hu0⟩ := Cond.staticRefV Y.unassigned L.unassignedStatic L.statics hcS0 hiss (a' (.isRef (.static Bundle.tN "UNASSIGNED_STACK" Bundle.steD)) (by simp [Bundle.ownAtoms0]))
  obtain ⟨sen, hsen⟩ := Cond.staticRefV Y.sentinel L.sentinelStatic L.statics hcS0 hiss (a' (.isRef (.static Bundle.tN "SUPPRESSED_SENTINEL" Bundle.listD)) (by simp [Bundle.ownAtoms0]))
  obtain ⟨ci198, i198, fB, hk198, hg198, ha198, hsB, -, hnB, htB, hffB⟩ := Cond.ownField (t := .object "java/lang/Object") Y.found L.cls (by decide +kernel) (a' (.fieldLink Bundle.tN 198 Bundle.tN "backtrace" "Ljava/lang/Object;") (by simp [Bundle.ownAtoms0])) (a' (.lays Bundle.tN Bundle.tN "backtrace" "Ljava/lang/Object;") (by simp [Bundle.ownAtoms0])) e.platform hpl
  obtain ⟨cellS, hcS', heS, -, hkeep⟩ := X.same.2.2.2.2.2 T.aS cellS0 hcS0
  have hcellS : W.heap[T.aS]? = some cellS := hcS'
  have hout' : ∀ i, (⟨T.aS, i⟩ : Loc) ∉ locs := fun i hmem => by
    have := hlocs _ hmem cellS0 hcS0
    rw [hiss] at this; cases this
  have hknownS : cellS.vm ≠ .unknown := by
    rw [heS]; intro hu
    rw [show cellS0.vm = .unknown from hu] at hiss
    cases hiss
  have hneS : T.aS ≠ a := Nat.ne_of_lt (Nat.lt_of_lt_of_le (Array.getElem?_eq_some_iff.mp hcS0).1 hnew)
  obtain ⟨iM, hffM⟩ := Y.msg
  obtain ⟨tyC, dC, hdC, hdnC⟩ := Cond.laysAt hfound hk Y.cause (a' (.lays cls Bundle.tN "cause" "Ljava/lang/Throwable;") (by simp [Bundle.ownAtoms0]))
  obtain ⟨tyS, dS, hdS, hdnS⟩ := Cond.laysAt hfound hk Y.stack (a' (.lays cls Bundle.tN "stackTrace" Bundle.steD) (by simp [Bundle.ownAtoms0]))
  obtain ⟨tyP, dP, hdP, hdnP⟩ := Cond.laysAt hfound hk Y.supp (a' (.lays cls Bundle.tN "suppressedExceptions" Bundle.listD) (by simp [Bundle.ownAtoms0]))
  obtain ⟨tyM, dM, hdM, hdnM⟩ := Cond.laysAt hfound hk hffM (a' (.lays cls Bundle.tN "detailMessage" "Ljava/lang/String;") (by simp [Bundle.ownAtoms0]))
  obtain ⟨tyB, dB, hdB, hdnB⟩ := Cond.laysAt hfound hk hffB (a' (.lays cls Bundle.tN "backtrace" "Ljava/lang/Object;") (by simp [Bundle.ownAtoms0]))
  have bC := Cond.laysApart hdB hdC hdnB hdnC (by rw [hnB, Y.causeName]; decide)
  have bS := Cond.laysApart hdB hdS hdnB hdnS (by rw [hnB, Y.stackName]; decide)
  have bP := Cond.laysApart hdB hdP hdnB hdnP (by rw [hnB, Y.suppName]; decide)
  have hskip : SkipFacts T e.platform s (fun u => u) u0 ((preparedCellV T.toThrowableT (freshCell P1.m.cls kX) a u0 sen).withEntry W.cur) :=
    ⟨{ ci198 := ci198, i198 := i198, fBack := fB }, ⟨hk198, hg198, ha198, hsB⟩, by
      have := fresh_default (c := P1.m.cls) tyB
      rw [htB] at this
      simpa [preparedCellV, Cell.setSlot, Cell.withEntry, Array.getElem?_setIfInBounds, bC, bS, bP, bC.symm, bS.symm, bP.symm, defaultValue] using this, fun _ _ => rfl⟩
  obtain ⟨tm, methC, cdC, kC, vm₁, hnC, -, -, -, -, -, -, -, hW₁, st1⟩ := Steps.initCold (tb := p.tables) (e := e) (below := below) (s := s) (U := W) X.here hexec X.warmed hpl hown (t := Bundle.init0 cls) rfl rfl (Bundle.fit_spec hcls).2
    (a' (.methodLink own ic (Bundle.init0 cls)) (by simp [Bundle.ownAtoms0])) (h (.instanceMethod (Bundle.init0 cls)) (by cases names <;> simp [Bundle.ownAtoms0, Bundle.chain0Atoms, Bundle.passAtoms])) (bytes := Bundle.five) (maxL := 1) (h (.code (Bundle.init0 cls) Bundle.five 1 none) (by cases names <;> simp [Bundle.ownAtoms0, Bundle.chain0Atoms, Bundle.passAtoms]))
    (f := g) hg (a := a) (rest := .ref a :: rest) hstack hd6
  cases Option.some.inj (hnC.symm.trans hP1m)
  have X₁ := X.noted hW₁
  obtain ⟨vm₂, X₂, st2⟩ := X₁.ctorPlainOffV hexec (g := { g with stack := .ref a :: rest }) hg hsize T L Z LZ (P1 :: Ps)
    (fun P hP => by rcases List.mem_cons.mp hP with rfl | hP; exact L1; exact hL P hP) ⟨hlink1, hlink⟩ (u0 := u0) (sen := sen) (self := a) (cell := freshCell P1.m.cls kX) (cellS := cellS)
    hcell (fun _ => by simp) (by simp) rfl rfl hsel0 hselF hcellS hneS hknownS (by rw [hkeep _ (hout' _)]; exact hu0) (by rw [hkeep _ (hout' _)]; exact hsen)
    (Takes.of_laid hk hord tyC (by rw [Y.causeType]; rfl)) (Takes.of_laid hk hord tyS (by rw [Y.stackType]; exact fits_refV_array _ u0)) (Takes.of_laid hk hord tyP (by rw [Y.suppType]; exact fits_refV_object _ sen)) Y.objLocals hskip htr [] hd6
    (by simp only [List.length_cons, hlen]; omega) (by simp only [List.length_cons, hlen]; exact hRlocals)
  have hlt : a < ((W.setVm vm₁).setVm vm₂).heap.size := (Array.getElem?_eq_some_iff.mp hcell).1
  refine ⟨(W.setVm vm₁).setVm vm₂, _, _, X₂, fun y hy => ?_, hlt, rfl, rfl, fun target hwalk => st1 _ (fun acts => ?_)⟩
  · simp only [List.mem_cons, List.not_mem_nil, or_false] at hy
    rcases hy with rfl | rfl | rfl | rfl <;> rfl
  · rw [doInvoke_state]
    exact st2 _ hwalk
end VXK
section VXK2
variable {p : Program} {l : Launch} {e : Env} {R : Room} {s : State} {m : MethodId} {args : Array Value} {below : List Frame} {meth : Method} {c : Code} {H : Heap} {locs : List Loc} {cells slots : Nat} {Q : State → Prop}
variable {ls : Array Slot} {rest : List Value} {D : va_G} {cl : List vw_C} {tys : List (ClassId × FieldType)} {ws : va_W}
/-- 'new E("text")' that isn't thrown at once: the object goes on the stack -/
theorem vx_makeS {cc : ByteArray} {pc : Nat} (hexec : p.tables.exec = Jvm.exec) (hb : c.code = cc) (hl : l.stackTraces = false) {own cls text : String} {names : List String} {ik is ic sa ci : Nat} {A : Nat → Prop} {T0 : u_T}
    (hown : s.vm.findClass own = some m.cls) (hcls : Bundle.fit cls = true) (hnames : ∀ n ∈ names, Bundle.fit n = true)
    (hk : (Cond.classLink own ik cls).before args s = true) (hini : (Cond.initialized cls).before args s = true) (hstr : vk_R own is text sa s) (hat : ∀ w ∈ vx_atS own ic cls names, w.before args s = true)
    (hgood : ∀ w ∈ Cond.classLink own ik cls :: Cond.initialized cls :: vx_atS own ic cls names, vx_ot w = true)
    (hU : vx_Zq Bundle.tN "UNASSIGNED_STACK" Bundle.steD A s s.heap) (hN : vx_Zq Bundle.tN "SUPPRESSED_SENTINEL" Bundle.listD A s s.heap) (hS : va_S A s.heap H locs) (hsize : ls.size = c.maxLocals)
    (d0 : decode cc pc = .ok (.new ik, 3)) (d3 : decode cc (pc + 3) = .ok (.dup, 1)) (d4 : decode cc (pc + 4) = .ok (.ldc is, 2)) (d6 : decode cc (pc + 6) = .ok (.invokespecial ic, 3))
    (hK : va_K D cl tys s) (hP : va_P D cl ws H) (hD : va_D A ws) (hA : ∀ q, s.heap.size ≤ q → A q) (hc : cl[ci]? = some (cls, T0, 0))
    (hRframes : names.length + 3 < R.frames) (hRlocals : (rest.map fun v => v.category).sum + (13 * (names.length + 1) + 43) ≤ R.locals) (hRcells : cells + 1 ≤ R.cells) (hRslots : slots + 6 ≤ R.slots)
    (kk : ∀ (q : Nat) (H1 : Heap), va_P D cl (ws ++ [(q, .inr (ci, []))]) H1 → va_D A (ws ++ [(q, .inr (ci, []))]) → va_S A s.heap H1 locs → W p l e R s m args below meth c H1 locs (cells + 1) (slots + 6) Q (F0 m (pc + 9) ls (.ref q :: rest))) :
    W p l e R s m args below meth c H locs cells slots Q (F0 m pc ls rest) := by
  intro T hT X
  subst hT
  have htr : e.platform.stackTraces = false := (show e.platform.stackTraces = l.stackTraces by rw [X.admits.platform]).trans hl
  have Y := vx_rebase X (R' := { frames := R.frames, locals := R.locals, cells := 1, slots := 6 }) (Nat.le_refl _) (Nat.le_refl _) hRcells hRslots
  obtain ⟨s', hA'⟩ : ∃ z, z = (T.setVm s.vm).setFrames (.invoking m args :: below) := ⟨_, rfl⟩
  rw [← hA'] at Y
  have hvm : s'.vm = s.vm := by rw [hA']; rfl
  have hhp : s'.heap = T.heap := by rw [hA']; rfl
  have hW0 : s.WarmedH s'.vm := by rw [hvm]; exact State.WarmedH.refl s
  have hat' : ∀ w ∈ vx_atS own ic cls names, w.before args s' = true := fun w hw => vx_ot_at hW0 hvm.symm (hgood w (List.mem_cons_of_mem _ (List.mem_cons_of_mem _ hw))) (hat w hw)
  have hk' : (Cond.classLink own ik cls).before args s' = true := vx_ot_at hW0 hvm.symm (hgood _ List.mem_cons_self) hk
  have hini' : (Cond.initialized cls).before args s' = true := vx_ot_at hW0 hvm.symm (hgood _ (List.mem_cons_of_mem _ List.mem_cons_self)) hini
  have hU' : vx_Zq Bundle.tN "UNASSIGNED_STACK" Bundle.steD A s' s'.heap := by rw [hhp]; exact vx_Zq.moved hW0.alike (hU.kept hS.2.1)
  have hN' : vx_Zq Bundle.tN "SUPPRESSED_SENTINEL" Bundle.listD A s' s'.heap := by rw [hhp]; exact vx_Zq.moved hW0.alike (hN.kept hS.2.1)
  have h : ∀ w ∈ Bundle.ownAtoms own ic cls names, w.before args s' = true := vx_own hat' (vx_isRefq hU'.1) (vx_isRefq hN'.1) hU'.2.word hN'.2.word
  have hown' : s'.vm.findClass own = some m.cls := by rw [hvm]; exact hown
  have hins : (Cond.instantiable cls 6).before args s' = true := h _ (by simp [Bundle.ownAtoms])
  obtain ⟨vm₁, cX, kX, hfX, hkX, -, -, X₁, st1⟩ := Y.newCold hexec (own := own) (C := cls) (index := ik) (n := 6) hown' hk' hins hini'
    (g := F0 m pc ls rest) rfl (by rw [hb]; exact d0) (Nat.le_refl _) (Nat.le_refl _)
  generalize hT1 : (T.setVm vm₁).pushCell { cls := cX, slots := kX.instanceTypes.map defaultValue, vm := .none } = T1 at X₁ st1
  have hcat : (Value.ref T.heap.size).category = 1 := rfl
  have hcellA : T1.heap[T.heap.size]? = some (freshCell cX kX) := by rw [← hT1]; exact State.heap_pushCell_size _ _
  have d3' : decode c.code (pc + 3) = .ok (.dup, 1) := by rw [hb]; exact d3
  have d4' : decode c.code (pc + 4) = .ok (.ldc is, 2) := by rw [hb]; exact d4
  have hstr' : vk_R own is text sa s' := vk_R.warm hW0 hstr
  obtain ⟨V, ce, L, Z, hL, hlt, hcl9, hvm9, st⟩ := vx_ctorMadeS X₁ hexec htr (own := own) (cls := cls) (names := names) (ic := ic) hown' hcls hnames h (fun x hx => nomatch hx) hfX hkX hcellA (by rw [hhp]; exact Nat.le_refl _) (msg := .ref sa) rfl
    (g := { method := m, pc := pc + 6, locals := ls, stack := .ref sa :: .ref T.heap.size :: .ref T.heap.size :: rest, locked := none }) rfl hsize (rest := rest) rfl
    (by rw [hb]; exact d6) hRframes (by simp only [List.map_cons, List.sum_cons, hcat]; omega)
  have Z0 := Stand.forget (locs := []) Z (fun y hy => by rw [hL y hy, hhp]; exact Nat.le_refl _)
  obtain ⟨f1, f2⟩ := vx_frame Z0.same
  rw [hhp] at f1 f2
  have hcid : ce.cls = D.1 ci := by
    rw [hcl9]
    have h1 := (hK.1 ci _ hc).2.1
    rw [hvm] at hfX
    exact Option.some.inj (hfX.symm.trans h1)
  have hh : (V.setCell T.heap.size ce).heap[T.heap.size]? = some ce := heapAt_setCell_self (s := V) ce hlt
  subst hA'
  have X5 := vx_back9 X Y Z0
  have X6 : Stand p l e R s m args below meth c (V.setCell T.heap.size ce) locs (cells + 1) (slots + 6) := { X5 with same := X5.same.mono (by omega) (by omega) }
  have hk9 : ∀ (k : Nat) (x : Nat × va_E), ws[k]? = some x → (V.setCell T.heap.size ce).heap[x.1]? = T.heap[x.1]? := fun k x hx => f2 x.1 ((hP k x hx).lt) (fun z hz => nomatch hz)
  obtain ⟨t, a1, b1⟩ := kk T.heap.size (V.setCell T.heap.size ce).heap ((hP.kept hk9).app (fun k x hx => by
      have hz : k < 1 := (List.getElem?_eq_some_iff.mp hx).1
      rw [show k = 0 by omega] at hx
      cases hx
      exact ⟨_, hc, ce, hh, hcid, hvm9, fun k hk => absurd hk (Nat.not_lt_zero k)⟩)) (hD.push hP rfl (hA _ hS.1)) ⟨Nat.le_trans hS.1 f1, fun q h1 h2 => (f2 q (Nat.lt_of_lt_of_le h1 hS.1) (fun z hz => nomatch hz)).trans (hS.2.1 q h1 h2), hS.2.2⟩ _ rfl X6
  refine ⟨t, st1 _ ?_, b1⟩
  show Steps p.tables e below (T1.setTop { method := m, pc := pc + 3, locals := ls, stack := .ref T.heap.size :: rest, locked := none }) _
  jvm_step X₁.here [X₁.here.top, hexec, d3', Value.category]
  exact X₁.ldcString hexec (own := own) (text := text) (index := is) (a := sa) hown' hstr'.1 hstr'.2
    (g := { method := m, pc := pc + 4, locals := ls, stack := .ref T.heap.size :: .ref T.heap.size :: rest, locked := none }) rfl d4' _ (st _ a1)
/-- 'new E()' that isn't thrown at once: the object goes on the stack -/
theorem vx_make0 {cc : ByteArray} {pc : Nat} (hexec : p.tables.exec = Jvm.exec) (hb : c.code = cc) (hl : l.stackTraces = false) {own cls : String} {names : List String} {ik ic ci : Nat} {A : Nat → Prop} {T0 : u_T}
    (hown : s.vm.findClass own = some m.cls) (hcls : Bundle.fit cls = true) (hnames : ∀ n ∈ names, Bundle.fit n = true)
    (hk : (Cond.classLink own ik cls).before args s = true) (hini : (Cond.initialized cls).before args s = true) (hat : ∀ w ∈ vx_at0 own ic cls names, w.before args s = true)
    (hgood : ∀ w ∈ Cond.classLink own ik cls :: Cond.initialized cls :: vx_at0 own ic cls names, vx_ot w = true)
    (hU : vx_Zq Bundle.tN "UNASSIGNED_STACK" Bundle.steD A s s.heap) (hN : vx_Zq Bundle.tN "SUPPRESSED_SENTINEL" Bundle.listD A s s.heap) (hS : va_S A s.heap H locs) (hsize : ls.size = c.maxLocals)
    (d0 : decode cc pc = .ok (.new ik, 3)) (d3 : decode cc (pc + 3) = .ok (.dup, 1)) (d4 : decode cc (pc + 4) = .ok (.invokespecial ic, 3))
    (hK : va_K D cl tys s) (hP : va_P D cl ws H) (hD : va_D A ws) (hA : ∀ q, s.heap.size ≤ q → A q) (hc : cl[ci]? = some (cls, T0, 0))
    (hRframes : names.length + 3 < R.frames) (hRlocals : (rest.map fun v => v.category).sum + (13 * (names.length + 1) + 42) ≤ R.locals) (hRcells : cells + 1 ≤ R.cells) (hRslots : slots + 6 ≤ R.slots)
    (kk : ∀ (q : Nat) (H1 : Heap), va_P D cl (ws ++ [(q, .inr (ci, []))]) H1 → va_D A (ws ++ [(q, .inr (ci, []))]) → va_S A s.heap H1 locs → W p l e R s m args below meth c H1 locs (cells + 1) (slots + 6) Q (F0 m (pc + 7) ls (.ref q :: rest))) :
    W p l e R s m args below meth c H locs cells slots Q (F0 m pc ls rest) := by
  intro T hT X
  subst hT
  have htr : e.platform.stackTraces = false := (show e.platform.stackTraces = l.stackTraces by rw [X.admits.platform]).trans hl
  have Y := vx_rebase X (R' := { frames := R.frames, locals := R.locals, cells := 1, slots := 6 }) (Nat.le_refl _) (Nat.le_refl _) hRcells hRslots
  obtain ⟨s', hA'⟩ : ∃ z, z = (T.setVm s.vm).setFrames (.invoking m args :: below) := ⟨_, rfl⟩
  rw [← hA'] at Y
  have hvm : s'.vm = s.vm := by rw [hA']; rfl
  have hhp : s'.heap = T.heap := by rw [hA']; rfl
  have hW0 : s.WarmedH s'.vm := by rw [hvm]; exact State.WarmedH.refl s
  have hat' : ∀ w ∈ vx_at0 own ic cls names, w.before args s' = true := fun w hw => vx_ot_at hW0 hvm.symm (hgood w (List.mem_cons_of_mem _ (List.mem_cons_of_mem _ hw))) (hat w hw)
  have hk' : (Cond.classLink own ik cls).before args s' = true := vx_ot_at hW0 hvm.symm (hgood _ List.mem_cons_self) hk
  have hini' : (Cond.initialized cls).before args s' = true := vx_ot_at hW0 hvm.symm (hgood _ (List.mem_cons_of_mem _ List.mem_cons_self)) hini
  have hU' : vx_Zq Bundle.tN "UNASSIGNED_STACK" Bundle.steD A s' s'.heap := by rw [hhp]; exact vx_Zq.moved hW0.alike (hU.kept hS.2.1)
  have hN' : vx_Zq Bundle.tN "SUPPRESSED_SENTINEL" Bundle.listD A s' s'.heap := by rw [hhp]; exact vx_Zq.moved hW0.alike (hN.kept hS.2.1)
  have h : ∀ w ∈ Bundle.ownAtoms0 own ic cls names, w.before args s' = true := vx_own hat' (vx_isRefq hU'.1) (vx_isRefq hN'.1) hU'.2.word hN'.2.word
  have hown' : s'.vm.findClass own = some m.cls := by rw [hvm]; exact hown
  have hins : (Cond.instantiable cls 6).before args s' = true := h _ (by simp [Bundle.ownAtoms0])
  obtain ⟨vm₁, cX, kX, hfX, hkX, -, -, X₁, st1⟩ := Y.newCold hexec (own := own) (C := cls) (index := ik) (n := 6) hown' hk' hins hini'
    (g := F0 m pc ls rest) rfl (by rw [hb]; exact d0) (Nat.le_refl _) (Nat.le_refl _)
  generalize hT1 : (T.setVm vm₁).pushCell { cls := cX, slots := kX.instanceTypes.map defaultValue, vm := .none } = T1 at X₁ st1
  have hcat : (Value.ref T.heap.size).category = 1 := rfl
  have hcellA : T1.heap[T.heap.size]? = some (freshCell cX kX) := by rw [← hT1]; exact State.heap_pushCell_size _ _
  have d3' : decode c.code (pc + 3) = .ok (.dup, 1) := by rw [hb]; exact d3
  obtain ⟨V, ce, L, Z, hL, hlt, hcl9, hvm9, st⟩ := vx_ctorMade0 X₁ hexec htr (own := own) (cls := cls) (names := names) (ic := ic) hown' hcls hnames h (fun x hx => nomatch hx) hfX hkX hcellA (by rw [hhp]; exact Nat.le_refl _)
    (g := { method := m, pc := pc + 4, locals := ls, stack := .ref T.heap.size :: .ref T.heap.size :: rest, locked := none }) rfl hsize (rest := rest) rfl
    (by rw [hb]; exact d4) hRframes (by simp only [List.map_cons, List.sum_cons, hcat]; omega)
  have Z0 := Stand.forget (locs := []) Z (fun y hy => by rw [hL y hy, hhp]; exact Nat.le_refl _)
  obtain ⟨f1, f2⟩ := vx_frame Z0.same
  rw [hhp] at f1 f2
  have hcid : ce.cls = D.1 ci := by
    rw [hcl9]
    have h1 := (hK.1 ci _ hc).2.1
    rw [hvm] at hfX
    exact Option.some.inj (hfX.symm.trans h1)
  have hh : (V.setCell T.heap.size ce).heap[T.heap.size]? = some ce := heapAt_setCell_self (s := V) ce hlt
  subst hA'
  have X5 := vx_back9 X Y Z0
  have X6 : Stand p l e R s m args below meth c (V.setCell T.heap.size ce) locs (cells + 1) (slots + 6) := { X5 with same := X5.same.mono (by omega) (by omega) }
  have hk9 : ∀ (k : Nat) (x : Nat × va_E), ws[k]? = some x → (V.setCell T.heap.size ce).heap[x.1]? = T.heap[x.1]? := fun k x hx => f2 x.1 ((hP k x hx).lt) (fun z hz => nomatch hz)
  obtain ⟨t, a1, b1⟩ := kk T.heap.size (V.setCell T.heap.size ce).heap ((hP.kept hk9).app (fun k x hx => by
      have hz : k < 1 := (List.getElem?_eq_some_iff.mp hx).1
      rw [show k = 0 by omega] at hx
      cases hx
      exact ⟨_, hc, ce, hh, hcid, hvm9, fun k hk => absurd hk (Nat.not_lt_zero k)⟩)) (hD.push hP rfl (hA _ hS.1)) ⟨Nat.le_trans hS.1 f1, fun q h1 h2 => (f2 q (Nat.lt_of_lt_of_le h1 hS.1) (fun z hz => nomatch hz)).trans (hS.2.1 q h1 h2), hS.2.2⟩ _ rfl X6
  refine ⟨t, st1 _ ?_, b1⟩
  show Steps p.tables e below (T1.setTop { method := m, pc := pc + 3, locals := ls, stack := .ref T.heap.size :: rest, locked := none }) _
  jvm_step X₁.here [X₁.here.top, hexec, d3', Value.category]
  exact st _ a1
/-- 'throw x' of an object that was made before -/
theorem vx_athrow {cc : ByteArray} {pc : Nat} (hexec : p.tables.exec = Jvm.exec) (hb : c.code = cc) {q : Addr} (hdg : decode cc pc = .ok (.athrow, 1)) (k : vx_W p l e R s m args below meth c H locs cells slots Q (F0 m pc ls rest) q) : W p l e R s m args below meth c H locs cells slots Q (F0 m pc ls (.ref q :: rest)) := by
  intro T hT X
  obtain ⟨t, st, hq⟩ := k T hT X
  refine ⟨t, ?_, hq⟩
  have hdg' : decode c.code pc = .ok (.athrow, 1) := by rw [hb]; exact hdg
  jvm_step X.here [X.here.top, hexec, hdg', athrow.wp_sem]
  exact st
end VXK2
/-! ===== END ===== -/
/-! ===== BEGIN a constructor that throws (launches without stack traces) ===== -/
section VXIA
variable {p : Program} {l : Launch} {e : Env} {R : Room} {s : State} {m : MethodId} {args : Array Value} {below : List Frame} {meth : Method} {c : Code} {T : State} {locs : List Loc} {cells slots : Nat}
theorem vx_callI (X : Stand p l e R s m args below meth c T locs cells slots) (hexec : p.tables.exec = Jvm.exec) {own : String} {index : Nat} {y : MethodName} {bytes : ByteArray} {maxL : Nat}
    (hown : s.vm.findClass own = some m.cls) (hy1 : y.name = "<init>") (hlink : (Cond.methodLink own index y).before args s = true) (hinst : (Cond.instanceMethod y).before args s = true)
    (hcode : (Cond.code y bytes maxL none).before args s = true) (hy : y.cls ≠ "java/lang/invoke/MethodHandle" ∧ y.cls ≠ "java/lang/invoke/VarHandle")
    {W9 : Nat} {Pre : Pt → Array Value → Prop} {Post : Pt → Array Value → Option Value → Pt → Prop} {PostX : Pt → Array Value → Addr → Pt → Prop} (hK : vx_Back l R p e below s args y 3 W9 Pre Post PostX)
    {g : JFrame} (hg : g.method = m) (hsize : g.locals.size = c.maxLocals) {a : Addr} {argsL rest : List Value} (hlen : ∀ sig, parseMethodDescriptor y.desc = some sig → argsL.length = sig.parameters.length)
    (hstack : g.stack = argsL.reverse ++ .ref a :: rest) (hW : 2 * g.monitorRoom + (rest.map fun v => v.category).sum ≤ W9) (hdg : decode c.code g.pc = .ok (.invokespecial index, 3))
    (hpre : ∀ vm₁, s.WarmedH vm₁ → Pre ⟨T.setVm vm₁, locs, cells, slots⟩ (Value.ref a :: argsL).toArray) :
    (∃ (v : Option Value) (vm₁ : Vm) (B : Pt), s.WarmedH vm₁ ∧ Stand p l e R s m args below meth c B.U B.locs B.cells B.slots ∧ Post ⟨T.setVm vm₁, locs, cells, slots⟩ (Value.ref a :: argsL).toArray v B ∧
      ∀ target, Steps p.tables e below (B.U.setTop { g with pc := g.pc + 3, stack := v.toList ++ rest }) target → Steps p.tables e below (T.setTop g) target) ∨
    (∃ (q : Addr) (vm₁ : Vm) (B : Pt), s.WarmedH vm₁ ∧ Stand p l e R s m args below meth c B.U B.locs B.cells B.slots ∧ PostX ⟨T.setVm vm₁, locs, cells, slots⟩ (Value.ref a :: argsL).toArray q B ∧
      Steps p.tables e below (T.setTop g) ((B.U.setTop { g with stack := rest }).pushFrame (.throwing q))) := by
  subst hg
  have hpl : e.platform.magicAccessors = ({} : Platform).magicAccessors := by rw [X.admits.platform]
  obtain ⟨mk, methM, cM, kP, vm₁, hnamed, hmethM, hcodeM, -, hlocalsM, -, hkP, -, hW₁, hstep₁⟩ := Steps.initColdArgs (e := e) X.here hexec X.warmed hpl hown hy1 hy hlink hinst hcode (f := g) rfl hlen hstack hdg
  have X₁ := X.noted hW₁
  rcases hK g.method meth c ⟨T.setVm vm₁, locs, cells, slots⟩ { g with stack := rest } (.invokespecial index) mk (Value.ref a :: argsL).toArray X₁ rfl hsize hdg hW (X₁.named hnamed) (hpre vm₁ X₁.warmed) with ⟨v, B, X', hpost, hsteps⟩ | ⟨q, B, X', hpost, hsteps⟩
  · exact Or.inl ⟨v, vm₁, B, X₁.warmed, X', hpost, fun target h => hstep₁ _ fun acts => by rw [doInvoke_state]; exact hsteps.trans h⟩
  · exact Or.inr ⟨q, vm₁, B, X₁.warmed, X', hpost, hstep₁ _ fun acts => by rw [doInvoke_state]; exact hsteps⟩
end VXIA
section VXIB
variable {p : Program} {l : Launch} {e : Env} {R : Room} {s : State} {m : MethodId} {args : Array Value} {below : List Frame} {meth : Method} {c : Code} {H : Heap} {locs : List Loc} {cells slots : Nat}
variable {y : MethodName} {bytes cc : ByteArray} {maxL nL mc ms n index : Nat} {ret : Option FieldType} {ws : List Cond} {rm : Room} {Pc : Array Value → State → Prop} {Qc : Array Value → State → Outcome → State → Prop} {XC : String → State → State → Prop} {free : Addr → Prop} {Ts : List Cond} {own C : String} {b : Addr} {As rest : List Value} {g : JFrame}
theorem vx_runI (S : CallFix p m c cc nL s args Ts own) (hM : vx_Met l y ws rm Pc Qc XC mc ms free) (cw : CallB R s args own index y bytes maxL none ws rm mc ms n ∧ y.name = "<init>" ∧ (Cond.instanceMethod y).before args s = true) (hp : PreS s H Pc (.ref b :: As))
    (hg : g.method = m) (hn : As.length = n) (hsize : g.locals.size = nL) (hstack : g.stack = As.reverse ++ .ref b :: rest) (hW : 2 * g.monitorRoom + (rest.map fun v => v.category).sum ≤ 8) (hdg : decode cc g.pc = .ok (.invokespecial index, 3)) (hf : cells + mc ≤ R.cells ∧ slots + ms ≤ R.slots) :
    vx_Run p l e R s m args below meth c H locs cells slots mc ms g rest (Qc (Value.ref b :: As).toArray) XC free := by
  have hK : vx_Back l R p e below s args y 3 8 (PreOf R mc ms Pc) (PostOf Qc mc ms free) (vx_Post XC mc ms free) := vx_callBack cw.1 hM hp.1
  obtain ⟨⟨-, -, -, -, -, -, hcode, -, hy, hlen, hl⟩, hy1, hin⟩ := cw
  obtain ⟨hx, hb, hml, ho, -⟩ := S
  have hPc := hp.2
  intro T hT X
  rcases vx_callI X hx (bytes := bytes) (maxL := maxL) ho hy1 hl hin hcode hy hK hg (hsize.trans hml.symm) (a := b) (argsL := As) (rest := rest) (fun sig h => hn.trans (hlen sig h)) hstack hW (by rw [hb]; exact hdg)
    (fun vm₁ hW₁ => ⟨hf.1, hf.2, hPc (T.setVm vm₁) hT hW₁⟩) with ⟨v, vm₁, ⟨U', l2, c2, s2⟩, hW₁, X', ⟨g', mk, t, L, e1, e2, hq, h1, hL, h2, h3⟩, st⟩ | ⟨q, vm₁, ⟨U', l2, c2, s2⟩, hW₁, X', ⟨g', mk, t, L, E, ce, e1, e2, hq, hce, hcv, hcl, h1, hL, h2, h3⟩, st⟩
  · dsimp only [Pt.U, Pt.locs, Pt.cells, Pt.slots] at X' e1 e2 h1 h2 h3 st
    subst h1; subst h2; subst h3
    exact Or.inl ⟨v, (T.setVm vm₁).calling g' mk (Value.ref b :: As).toArray, t, U', L, hT, X', hL, e1, e2, hq, st⟩
  · dsimp only [Pt.U, Pt.locs, Pt.cells, Pt.slots] at X' e1 e2 h1 h2 h3 st hcl
    subst h1; subst h2; subst h3
    exact Or.inr ⟨q, (T.setVm vm₁).calling g' mk (Value.ref b :: As).toArray, t, U', L, E, ce, hT, X', hL, e1, e2, hq, hce, hcv, vx_cls hW₁ hcl, st⟩
end VXIB
/-! ===== END ===== -/
/-! ===== BEGIN a private constructor of a nest mate that throws ===== -/
section VXIC
variable {p : Program} {l : Launch} {e : Env} {R : Room} {s : State} {m : MethodId} {args : Array Value} {below : List Frame} {meth : Method} {c : Code} {T : State} {locs : List Loc} {cells slots : Nat}
theorem vx_callIN (X : Stand p l e R s m args below meth c T locs cells slots) (hexec : p.tables.exec = Jvm.exec) {own : String} {index : Nat} {host : String} {y : MethodName} {bytes : ByteArray} {maxL : Nat}
    (hown : s.vm.findClass own = some m.cls) (hy1 : y.name = "<init>") (hlink : (Cond.methodLinkNest own index y host).before args s = true) (hinst : (Cond.instanceMethod y).before args s = true)
    (hcode : (Cond.code y bytes maxL none).before args s = true) (hy : y.cls ≠ "java/lang/invoke/MethodHandle" ∧ y.cls ≠ "java/lang/invoke/VarHandle")
    {W9 : Nat} {Pre : Pt → Array Value → Prop} {Post : Pt → Array Value → Option Value → Pt → Prop} {PostX : Pt → Array Value → Addr → Pt → Prop} (hK : vx_Back l R p e below s args y 3 W9 Pre Post PostX)
    {g : JFrame} (hg : g.method = m) (hsize : g.locals.size = c.maxLocals) {a : Addr} {argsL rest : List Value} (hlen : ∀ sig, parseMethodDescriptor y.desc = some sig → argsL.length = sig.parameters.length)
    (hstack : g.stack = argsL.reverse ++ .ref a :: rest) (hW : 2 * g.monitorRoom + (rest.map fun v => v.category).sum ≤ W9) (hdg : decode c.code g.pc = .ok (.invokespecial index, 3))
    (hpre : ∀ vm₁, s.WarmedH vm₁ → Pre ⟨T.setVm vm₁, locs, cells, slots⟩ (Value.ref a :: argsL).toArray) :
    (∃ (v : Option Value) (vm₁ : Vm) (B : Pt), s.WarmedH vm₁ ∧ Stand p l e R s m args below meth c B.U B.locs B.cells B.slots ∧ Post ⟨T.setVm vm₁, locs, cells, slots⟩ (Value.ref a :: argsL).toArray v B ∧
      ∀ target, Steps p.tables e below (B.U.setTop { g with pc := g.pc + 3, stack := v.toList ++ rest }) target → Steps p.tables e below (T.setTop g) target) ∨
    (∃ (q : Addr) (vm₁ : Vm) (B : Pt), s.WarmedH vm₁ ∧ Stand p l e R s m args below meth c B.U B.locs B.cells B.slots ∧ PostX ⟨T.setVm vm₁, locs, cells, slots⟩ (Value.ref a :: argsL).toArray q B ∧
      Steps p.tables e below (T.setTop g) ((B.U.setTop { g with stack := rest }).pushFrame (.throwing q))) := by
  subst hg
  have hpl : e.platform.magicAccessors = ({} : Platform).magicAccessors := by rw [X.admits.platform]
  obtain ⟨mk, methM, cM, kP, vm₁, hnamed, hmethM, hcodeM, -, hlocalsM, -, hkP, -, hW₁, hstep₁⟩ := Steps.initColdArgsNest (e := e) X.here hexec X.warmed hpl hown hy1 hy hlink hinst hcode (f := g) rfl hlen hstack hdg
  have X₁ := X.noted hW₁
  rcases hK g.method meth c ⟨T.setVm vm₁, locs, cells, slots⟩ { g with stack := rest } (.invokespecial index) mk (Value.ref a :: argsL).toArray X₁ rfl hsize hdg hW (X₁.named hnamed) (hpre vm₁ X₁.warmed) with ⟨v, B, X', hpost, hsteps⟩ | ⟨q, B, X', hpost, hsteps⟩
  · exact Or.inl ⟨v, vm₁, B, X₁.warmed, X', hpost, fun target h => hstep₁ _ fun acts => by rw [doInvoke_state]; exact hsteps.trans h⟩
  · exact Or.inr ⟨q, vm₁, B, X₁.warmed, X', hpost, hstep₁ _ fun acts => by rw [doInvoke_state]; exact hsteps⟩
end VXIC
section VXID
variable {p : Program} {l : Launch} {e : Env} {R : Room} {s : State} {m : MethodId} {args : Array Value} {below : List Frame} {meth : Method} {c : Code} {H : Heap} {locs : List Loc} {cells slots : Nat}
theorem vx_runIN {y : MethodName} {bytes cc : ByteArray} {maxL nL mc ms n index : Nat} {ws : List Cond} {rm : Room} {Pc : Array Value → State → Prop} {Qc : Array Value → State → Outcome → State → Prop} {XC : String → State → State → Prop} {free : Addr → Prop} {Ts : List Cond} {own host : String} {b : Addr} {As rest : List Value} {g : JFrame}
    (S : CallFix p m c cc nL s args Ts own) (hM : vx_Met l y ws rm Pc Qc XC mc ms free) (cw : va_CN R s args own index y host bytes maxL none ws rm mc ms n ∧ y.name = "<init>" ∧ (Cond.instanceMethod y).before args s = true) (hp : PreS s H Pc (.ref b :: As))
    (hg : g.method = m) (hn : As.length = n) (hsize : g.locals.size = nL) (hstack : g.stack = As.reverse ++ .ref b :: rest) (hW : 2 * g.monitorRoom + (rest.map fun v => v.category).sum ≤ 8) (hdg : decode cc g.pc = .ok (.invokespecial index, 3)) (hf : cells + mc ≤ R.cells ∧ slots + ms ≤ R.slots) :
    vx_Run p l e R s m args below meth c H locs cells slots mc ms g rest (Qc (Value.ref b :: As).toArray) XC free := by
  obtain ⟨⟨⟨hrc, hrs, hfr, hlo, hws, hcw⟩, hcode, hini, hy, hlen, hl⟩, hx1, hx2⟩ := cw
  have hK : vx_Back l R p e below s args y 3 8 (PreOf R mc ms Pc) (PostOf Qc mc ms free) (vx_Post XC mc ms free) := vx_back (bytes := bytes) (maxL := maxL) (ret := none) hM hp.1 hrc hrs hfr hlo hws hcw (fun a' U hW => word_at hW (Or.inl (by first | rfl | simp [Cond.onTables, Cond.keeps, Cond.steady])) hini)
  obtain ⟨hx, hb, hml, ho, -⟩ := S
  have hPc := hp.2
  intro T hT X
  rcases vx_callIN X hx (bytes := bytes) (maxL := maxL) ho hx1 hl hx2 hcode hy hK hg (hsize.trans hml.symm) (a := b) (argsL := As) (rest := rest) (fun sig h => hn.trans (hlen sig h)) hstack hW (by rw [hb]; exact hdg)
    (fun vm₁ hW₁ => ⟨hf.1, hf.2, hPc (T.setVm vm₁) hT hW₁⟩) with ⟨v, vm₁, ⟨U', l2, c2, s2⟩, hW₁, X', ⟨g', mk, t, L, e1, e2, hq, h1, hL, h2, h3⟩, st⟩ | ⟨q, vm₁, ⟨U', l2, c2, s2⟩, hW₁, X', ⟨g', mk, t, L, E, ce, e1, e2, hq, hce, hcv, hcl, h1, hL, h2, h3⟩, st⟩
  · dsimp only [Pt.U, Pt.locs, Pt.cells, Pt.slots] at X' e1 e2 h1 h2 h3 st
    subst h1; subst h2; subst h3
    exact Or.inl ⟨v, (T.setVm vm₁).calling g' mk (Value.ref b :: As).toArray, t, U', L, hT, X', hL, e1, e2, hq, st⟩
  · dsimp only [Pt.U, Pt.locs, Pt.cells, Pt.slots] at X' e1 e2 h1 h2 h3 st hcl
    subst h1; subst h2; subst h3
    exact Or.inr ⟨q, (T.setVm vm₁).calling g' mk (Value.ref b :: As).toArray, t, U', L, E, ce, hT, X', hL, e1, e2, hq, hce, hcv, vx_cls hW₁ hcl, st⟩
end VXID
/-! ===== END ===== -/
/-! ===== BEGIN a method of a class above, found by the receiver, that may throw (follows va_callVU, va_runU of this kit) ===== -/
section
variable {p : Program} {l : Launch} {e : Env} {R : Room} {s : State} {m : MethodId} {args : Array Value} {below : List Frame} {meth : Method} {c : Code} {H : Heap} {locs : List Loc} {cells slots : Nat}
theorem vx_callVU {T : State} {locs : List Loc} {cells slots : Nat} (X : Stand p l e R s m args below meth c T locs cells slots) (hexec : p.tables.exec = Jvm.exec) {own C owner : String} {index : Nat} {x y : MethodName} {bytes : ByteArray} {maxL : Nat} {ret : Option FieldType}
    (hown : s.vm.findClass own = some m.cls) (hlink : (Cond.methodLink own index x).before args s = true) (hsame : (Cond.sameMethod x.cls owner x.name x.desc).before args s = true)
    (hd0 : va_Decl s ⟨owner, x.name, x.desc⟩) (howner : owner ≠ "java/lang/invoke/MethodHandle" ∧ owner ≠ "java/lang/invoke/VarHandle")
    (hsel : (Cond.selects C x y).before args s = true) (hinst : (Cond.instanceMethod y).before args s = true) (hcode : (Cond.code y bytes maxL ret).before args s = true)
    {W : Nat} {Pre : Pt → Array Value → Prop} {Post : Pt → Array Value → Option Value → Pt → Prop} {PostX : Pt → Array Value → Addr → Pt → Prop} (hK : vx_Back l R p e below s args y 3 W Pre Post PostX)
    {b : Addr} {cellB : Cell} (hcell : T.heap[b]? = some cellB) (hobj : cellB.vm.isStatics = false) (hcls : s.vm.findClass C = some cellB.cls)
    {g : JFrame} (hg : g.method = m) (hsize : g.locals.size = c.maxLocals) {argsL rest : List Value} (hlen : ∀ sig, parseMethodDescriptor x.desc = some sig → argsL.length = sig.parameters.length)
    (hstack : g.stack = argsL.reverse ++ .ref b :: rest) (hW : 2 * g.monitorRoom + (rest.map fun v => v.category).sum ≤ W) (hdg : decode c.code g.pc = .ok (.invokevirtual index, 3))
    (hpre : ∀ vm₁, s.WarmedH vm₁ → Pre ⟨T.setVm vm₁, locs, cells, slots⟩ (Value.ref b :: argsL).toArray) :
    (∃ (v : Option Value) (vm₁ : Vm) (B : Pt), s.WarmedH vm₁ ∧ Stand p l e R s m args below meth c B.U B.locs B.cells B.slots ∧ Post ⟨T.setVm vm₁, locs, cells, slots⟩ (Value.ref b :: argsL).toArray v B ∧
      ∀ target, Steps p.tables e below (B.U.setTop { g with pc := g.pc + 3, stack := v.toList ++ rest }) target → Steps p.tables e below (T.setTop g) target) ∨
    (∃ (q : Addr) (vm₁ : Vm) (B : Pt), s.WarmedH vm₁ ∧ Stand p l e R s m args below meth c B.U B.locs B.cells B.slots ∧ PostX ⟨T.setVm vm₁, locs, cells, slots⟩ (Value.ref b :: argsL).toArray q B ∧
      Steps p.tables e below (T.setTop g) ((B.U.setTop { g with stack := rest }).pushFrame (.throwing q))) := by
  obtain ⟨r0, r, hn, hrm, hstR, hsigR⟩ := hd0
  obtain ⟨cn, ck, r1, hcn, hck, hni, hf, hn1⟩ := Cond.sameMethod_found hsame
  cases hn.symm.trans hn1
  obtain ⟨mk, methM, hnamed, hmethM, -, habM⟩ := Cond.instanceMethod_spec hinst
  obtain ⟨c2, r2, m2, q1, q2, q3, q4, kP, hkP, hkPi⟩ := Cond.selects_spec hsel
  cases hcls.symm.trans q1
  cases hf.symm.trans q2
  cases hnamed.symm.trans q3
  have hselP : selectMethod e.platform s.vm cellB.cls r0 = .method mk := by rw [Launch.admits_selectMethod X.admits]; exact q4
  obtain ⟨vm₁, X₁, hstep₁⟩ := X.invokevirtualUp hexec hown hlink hsame howner hn hrm hstR (a := b) (cell := cellB) hcell
    (fun z h => by rw [h] at hobj; cases hobj) hselP hmethM habM hkP hkPi (g := g) hg (argsL := argsL) (rest := rest) (hlen _ hsigR) hstack hdg
  rcases hK m meth c ⟨T.setVm vm₁, locs, cells, slots⟩ { g with stack := rest } (.invokevirtual index) mk (Value.ref b :: argsL).toArray X₁ hg hsize hdg hW (X₁.named hnamed) (hpre vm₁ X₁.warmed) with ⟨v, B, X', hpost, hsteps⟩ | ⟨q, B, X', hpost, hsteps⟩
  · exact Or.inl ⟨v, vm₁, B, X₁.warmed, X', hpost, fun target h => hstep₁ _ fun acts => by rw [doInvoke_state]; exact hsteps.trans h⟩
  · exact Or.inr ⟨q, vm₁, B, X₁.warmed, X', hpost, hstep₁ _ fun acts => by rw [doInvoke_state]; exact hsteps⟩
theorem vx_runU {x y : MethodName} {bytes cc : ByteArray} {maxL nL mc ms n index : Nat} {ret : Option FieldType} {ws : List Cond} {rm : Room} {Pc : Array Value → State → Prop} {Qc : Array Value → State → Outcome → State → Prop} {XC : String → State → State → Prop} {free : Addr → Prop} {Ts : List Cond} {own C owner : String} {b : Addr} {As rest : List Value} {g : JFrame}
    (S : CallFix p m c cc nL s args Ts own) (hM : vx_Met l y ws rm Pc Qc XC mc ms free) (cw : va_CU R s args own C owner index x y bytes maxL ret ws rm mc ms n) (hp : PreV s H C b Pc As)
    (hg : g.method = m) (hn : As.length = n) (hsize : g.locals.size = nL) (hstack : g.stack = As.reverse ++ .ref b :: rest) (hW : 2 * g.monitorRoom + (rest.map fun v => v.category).sum ≤ 8) (hdg : decode cc g.pc = .ok (.invokevirtual index, 3)) (hf : cells + mc ≤ R.cells ∧ slots + ms ≤ R.slots) :
    vx_Run p l e R s m args below meth c H locs cells slots mc ms g rest (Qc (Value.ref b :: As).toArray) XC free := by
  obtain ⟨hrc, hrs, hfr, hlo, hws, hcw⟩ := cw.back
  have hini := cw.init
  have hK : vx_Back l R p e below s args y 3 8 (PreOf R mc ms Pc) (PostOf Qc mc ms free) (vx_Post XC mc ms free) := vx_back (bytes := bytes) (maxL := maxL) (ret := ret) hM hp.1 hrc hrs hfr hlo hws hcw (fun a' U hW => word_at hW (Or.inl (by first | rfl | simp [Cond.onTables, Cond.keeps, Cond.steady])) hini)
  obtain ⟨hx, hb, hml, ho, -⟩ := S
  obtain ⟨-, ⟨cellB, hcB, hoB, hclB⟩, hPc⟩ := hp
  intro T hT X
  rcases vx_callVU X hx (C := C) (owner := owner) (bytes := bytes) (maxL := maxL) (ret := ret) ho cw.link cw.same cw.decl cw.notMH cw.sel cw.inst cw.code hK (by rw [hT]; exact hcB) hoB hclB hg (hsize.trans hml.symm) (argsL := As) (rest := rest) (fun sig h => hn.trans (cw.len sig h)) hstack hW (by rw [hb]; exact hdg)
    (fun vm₁ hW₁ => ⟨hf.1, hf.2, hPc (T.setVm vm₁) hT hW₁⟩) with ⟨v, vm₁, ⟨U', l2, c2, s2⟩, hW₁, X', ⟨g', mk, t, L, e1, e2, hq, h1, hL, h2, h3⟩, st⟩ | ⟨q, vm₁, ⟨U', l2, c2, s2⟩, hW₁, X', ⟨g', mk, t, L, E, ce, e1, e2, hq, hce, hcv, hcl, h1, hL, h2, h3⟩, st⟩
  · dsimp only [Pt.U, Pt.locs, Pt.cells, Pt.slots] at X' e1 e2 h1 h2 h3 st
    subst h1; subst h2; subst h3
    exact Or.inl ⟨v, (T.setVm vm₁).calling g' mk (Value.ref b :: As).toArray, t, U', L, hT, X', hL, e1, e2, hq, st⟩
  · dsimp only [Pt.U, Pt.locs, Pt.cells, Pt.slots] at X' e1 e2 h1 h2 h3 st hcl
    subst h1; subst h2; subst h3
    exact Or.inr ⟨q, (T.setVm vm₁).calling g' mk (Value.ref b :: As).toArray, t, U', L, E, ce, hT, X', hL, e1, e2, hq, hce, hcv, vx_cls hW₁ hcl, st⟩
end
/-! ===== END ===== -/
/-! ===== BEGIN super.m(..) that may throw (follows va_callSU, va_runSU) ===== -/
section
variable {p : Program} {l : Launch} {e : Env} {R : Room} {s : State} {m : MethodId} {args : Array Value} {below : List Frame} {meth : Method} {c : Code} {H : Heap} {locs : List Loc} {cells slots : Nat}
theorem vx_callSU {T : State} {locs : List Loc} {cells slots : Nat} (X : Stand p l e R s m args below meth c T locs cells slots) (hexec : p.tables.exec = Jvm.exec) {own : String} {index : Nat} {y : MethodName} {bytes : ByteArray} {maxL : Nat} {ret : Option FieldType}
    (hown : s.vm.findClass own = some m.cls) (hlink : (Cond.methodLink own index y).before args s = true) (hsame : (Cond.sameMethod y.cls y.cls y.name y.desc).before args s = true) (hsup : (Cond.superclass own y.cls).before args s = true)
    (hinst : (Cond.instanceMethod y).before args s = true) (hcode : (Cond.code y bytes maxL ret).before args s = true) (hno : y.name ≠ "<init>")
    {W : Nat} {Pre : Pt → Array Value → Prop} {Post : Pt → Array Value → Option Value → Pt → Prop} {PostX : Pt → Array Value → Addr → Pt → Prop} (hK : vx_Back l R p e below s args y 3 W Pre Post PostX)
    {b : Addr} {cellB : Cell} {kB : Class} (hcell : T.heap[b]? = some cellB) (hobj : cellB.vm.isStatics = false) (hkB : s.vm.classes[cellB.cls]? = some kB)
    {g : JFrame} (hg : g.method = m) (hsize : g.locals.size = c.maxLocals) {argsL rest : List Value} (hlen : ∀ sig, parseMethodDescriptor y.desc = some sig → argsL.length = sig.parameters.length)
    (hstack : g.stack = argsL.reverse ++ .ref b :: rest) (hW : 2 * g.monitorRoom + (rest.map fun v => v.category).sum ≤ W) (hdg : decode c.code g.pc = .ok (.invokespecial index, 3))
    (hpre : ∀ vm₁, s.WarmedH vm₁ → Pre ⟨T.setVm vm₁, locs, cells, slots⟩ (Value.ref b :: argsL).toArray) :
    (∃ (v : Option Value) (vm₁ : Vm) (B : Pt), s.WarmedH vm₁ ∧ Stand p l e R s m args below meth c B.U B.locs B.cells B.slots ∧ Post ⟨T.setVm vm₁, locs, cells, slots⟩ (Value.ref b :: argsL).toArray v B ∧
      ∀ target, Steps p.tables e below (B.U.setTop { g with pc := g.pc + 3, stack := v.toList ++ rest }) target → Steps p.tables e below (T.setTop g) target) ∨
    (∃ (q : Addr) (vm₁ : Vm) (B : Pt), s.WarmedH vm₁ ∧ Stand p l e R s m args below meth c B.U B.locs B.cells B.slots ∧ PostX ⟨T.setVm vm₁, locs, cells, slots⟩ (Value.ref b :: argsL).toArray q B ∧
      Steps p.tables e below (T.setTop g) ((B.U.setTop { g with stack := rest }).pushFrame (.throwing q))) := by
  obtain ⟨mk, methM, hnamed, hmethM, hstM, habM⟩ := Cond.instanceMethod_spec hinst
  obtain ⟨methM', cM, hmethM', -, -, -, -, -, -, hsigM⟩ := Cond.code_spec hnamed hcode
  cases hmethM.symm.trans hmethM'
  obtain ⟨ps, dk, kp, hps, hdk, hkp, hsuper, -, -, hnid⟩ := Cond.superclass_spec hown hsup
  have hn : s.methodNamed? ⟨y.cls, y.name, y.desc⟩ = some mk := hnamed
  have hpm : ps = mk.cls := Option.some.inj (hps.symm.trans (findClass_of_methodNamed hnamed))
  have hsub : s.vm.isSubclass ps mk.cls = true := by rw [hpm]; simp [Vm.isSubclass, Vm.isSubclassAux]
  obtain ⟨vm₁, X₁, hstep₁⟩ := X.invokespecialUp hexec hown hlink hsame hn hmethM hstM habM hno hdk hnid hps hsuper hsub (a := b) (cell := cellB) hcell
    (fun z h => by rw [h] at hobj; cases hobj) hkB (g := g) hg (argsL := argsL) (rest := rest) (hlen _ hsigM) hstack hdg
  rcases hK m meth c ⟨T.setVm vm₁, locs, cells, slots⟩ { g with stack := rest } (.invokespecial index) mk (Value.ref b :: argsL).toArray X₁ hg hsize hdg hW (X₁.named hnamed) (hpre vm₁ X₁.warmed) with ⟨v, B, X', hpost, hsteps⟩ | ⟨q, B, X', hpost, hsteps⟩
  · exact Or.inl ⟨v, vm₁, B, X₁.warmed, X', hpost, fun target h => hstep₁ _ (by rw [doInvoke_state]; exact hsteps.trans h)⟩
  · exact Or.inr ⟨q, vm₁, B, X₁.warmed, X', hpost, hstep₁ _ (by rw [doInvoke_state]; exact hsteps)⟩
theorem vx_runSU {y : MethodName} {bytes cc : ByteArray} {maxL nL mc ms n index : Nat} {ret : Option FieldType} {ws : List Cond} {rm : Room} {Pc : Array Value → State → Prop} {Qc : Array Value → State → Outcome → State → Prop} {XC : String → State → State → Prop} {free : Addr → Prop} {Ts : List Cond} {own C : String} {cC : ClassId} {b : Addr} {As rest : List Value} {g : JFrame}
    (hat : ClassAt s C cC) (S : CallFix p m c cc nL s args Ts own) (hM : vx_Met l y ws rm Pc Qc XC mc ms free) (cw : va_CS R s args own index y bytes maxL ret ws rm mc ms n) (hp : PreV s H C b Pc As)
    (hg : g.method = m) (hn : As.length = n) (hsize : g.locals.size = nL) (hstack : g.stack = As.reverse ++ .ref b :: rest) (hW : 2 * g.monitorRoom + (rest.map fun v => v.category).sum ≤ 8) (hdg : decode cc g.pc = .ok (.invokespecial index, 3)) (hf : cells + mc ≤ R.cells ∧ slots + ms ≤ R.slots) :
    vx_Run p l e R s m args below meth c H locs cells slots mc ms g rest (Qc (Value.ref b :: As).toArray) XC free := by
  obtain ⟨⟨hrc, hrs, hfr, hlo, hws, hcw⟩, hl1, hl2, hl3, hl4, hini, hcode, hno, hlen⟩ := cw
  have hK : vx_Back l R p e below s args y 3 8 (PreOf R mc ms Pc) (PostOf Qc mc ms free) (vx_Post XC mc ms free) := vx_back (bytes := bytes) (maxL := maxL) (ret := ret) hM hp.1 hrc hrs hfr hlo hws hcw (fun a' U hW => word_at hW (Or.inl (by first | rfl | simp [Cond.onTables, Cond.keeps, Cond.steady])) hini)
  obtain ⟨hx, hb, hml, ho, -⟩ := S
  obtain ⟨-, ⟨cellB, hcB, hoB, hclB⟩, hPc⟩ := hp
  obtain ⟨hfc, kB, hkB, -⟩ := hat
  cases hfc.symm.trans hclB
  intro T hT X
  rcases vx_callSU X hx (bytes := bytes) (maxL := maxL) (ret := ret) ho hl1 hl2 hl3 hl4 hcode hno hK (by rw [hT]; exact hcB) hoB hkB hg (hsize.trans hml.symm) (argsL := As) (rest := rest) (fun sig h => hn.trans (hlen sig h)) hstack hW (by rw [hb]; exact hdg)
    (fun vm₁ hW₁ => ⟨hf.1, hf.2, hPc (T.setVm vm₁) hT hW₁⟩) with ⟨v, vm₁, ⟨U', l2, c2, s2⟩, hW₁, X', ⟨g', mk, t, L, e1, e2, hq, h1, hL, h2, h3⟩, st⟩ | ⟨q, vm₁, ⟨U', l2, c2, s2⟩, hW₁, X', ⟨g', mk, t, L, E, ce, e1, e2, hq, hce, hcv, hcl, h1, hL, h2, h3⟩, st⟩
  · dsimp only [Pt.U, Pt.locs, Pt.cells, Pt.slots] at X' e1 e2 h1 h2 h3 st
    subst h1; subst h2; subst h3
    exact Or.inl ⟨v, (T.setVm vm₁).calling g' mk (Value.ref b :: As).toArray, t, U', L, hT, X', hL, e1, e2, hq, st⟩
  · dsimp only [Pt.U, Pt.locs, Pt.cells, Pt.slots] at X' e1 e2 h1 h2 h3 st hcl
    subst h1; subst h2; subst h3
    exact Or.inr ⟨q, (T.setVm vm₁).calling g' mk (Value.ref b :: As).toArray, t, U', L, E, ce, hT, X', hL, e1, e2, hq, hce, hcv, vx_cls hW₁ hcl, st⟩
end
/-! ===== END ===== -/
/-! ===== BEGIN a private method of a nest mate that may throw (follows va_callVN, va_callSN, va_runVN, va_runSN) ===== -/
section
variable {p : Program} {l : Launch} {e : Env} {R : Room} {s : State} {m : MethodId} {args : Array Value} {below : List Frame} {meth : Method} {c : Code} {H : Heap} {locs : List Loc} {cells slots : Nat}
variable {T : State}
theorem vx_callVN (X : Stand p l e R s m args below meth c T locs cells slots) (hexec : p.tables.exec = Jvm.exec) {own C : String} {index : Nat} {host : String} {y : MethodName} {bytes : ByteArray} {maxL : Nat} {ret : Option FieldType}
    (hown : s.vm.findClass own = some m.cls) (hlink : (Cond.methodLinkNest own index y host).before args s = true) (hinst : (Cond.instanceMethod y).before args s = true) (hsel : (Cond.selects C y y).before args s = true)
    (hcode : (Cond.code y bytes maxL ret).before args s = true) (hy : y.cls ≠ "java/lang/invoke/MethodHandle" ∧ y.cls ≠ "java/lang/invoke/VarHandle")
    {W : Nat} {Pre : Pt → Array Value → Prop} {Post : Pt → Array Value → Option Value → Pt → Prop} {PostX : Pt → Array Value → Addr → Pt → Prop} (hK : vx_Back l R p e below s args y 3 W Pre Post PostX)
    {b : Addr} {cellB : Cell} (hcell : T.heap[b]? = some cellB) (hobj : cellB.vm.isStatics = false) (hcls : s.vm.findClass C = some cellB.cls)
    {g : JFrame} (hg : g.method = m) (hsize : g.locals.size = c.maxLocals) {argsL rest : List Value} (hlen : ∀ sig, parseMethodDescriptor y.desc = some sig → argsL.length = sig.parameters.length)
    (hstack : g.stack = argsL.reverse ++ .ref b :: rest) (hW : 2 * g.monitorRoom + (rest.map fun v => v.category).sum ≤ W) (hdg : decode c.code g.pc = .ok (.invokevirtual index, 3))
    (hpre : ∀ vm₁, s.WarmedH vm₁ → Pre ⟨T.setVm vm₁, locs, cells, slots⟩ (Value.ref b :: argsL).toArray) :
    (∃ (v : Option Value) (vm₁ : Vm) (B : Pt), s.WarmedH vm₁ ∧ Stand p l e R s m args below meth c B.U B.locs B.cells B.slots ∧ Post ⟨T.setVm vm₁, locs, cells, slots⟩ (Value.ref b :: argsL).toArray v B ∧
      ∀ target, Steps p.tables e below (B.U.setTop { g with pc := g.pc + 3, stack := v.toList ++ rest }) target → Steps p.tables e below (T.setTop g) target) ∨
    (∃ (q : Addr) (vm₁ : Vm) (B : Pt), s.WarmedH vm₁ ∧ Stand p l e R s m args below meth c B.U B.locs B.cells B.slots ∧ PostX ⟨T.setVm vm₁, locs, cells, slots⟩ (Value.ref b :: argsL).toArray q B ∧
      Steps p.tables e below (T.setTop g) ((B.U.setTop { g with stack := rest }).pushFrame (.throwing q))) := by
  obtain ⟨mk, methM, hnamed, hmethM, hstM, habM⟩ := Cond.instanceMethod_spec hinst
  obtain ⟨methM', cM, hmethM', -, -, -, -, -, -, hsigM⟩ := Cond.code_spec hnamed hcode
  cases hmethM.symm.trans hmethM'
  obtain ⟨c2, r2, m2, q1, q2, q3, q4, kP, hkP, hkPi⟩ := Cond.selects_spec hsel
  cases hcls.symm.trans q1
  cases (State.methodFound?_of_named hnamed hy).symm.trans q2
  cases hnamed.symm.trans q3
  have hselP : selectMethod e.platform s.vm cellB.cls mk = .method mk := by rw [Launch.admits_selectMethod X.admits]; exact q4
  obtain ⟨vm₁, X₁, hstep₁⟩ := X.invokevirtualNest hexec hown hlink hnamed hmethM hstM hkP hkPi hy (a := b) (cell := cellB) hcell
    (fun z h => by rw [h] at hobj; cases hobj) hselP hmethM habM hkP hkPi (g := g) hg (argsL := argsL) (rest := rest) (hlen _ hsigM) hstack hdg
  rcases hK m meth c ⟨T.setVm vm₁, locs, cells, slots⟩ { g with stack := rest } (.invokevirtual index) mk (Value.ref b :: argsL).toArray X₁ hg hsize hdg hW (X₁.named hnamed) (hpre vm₁ X₁.warmed) with ⟨v, B, X', hpost, hsteps⟩ | ⟨q, B, X', hpost, hsteps⟩
  · exact Or.inl ⟨v, vm₁, B, X₁.warmed, X', hpost, fun target h => hstep₁ _ fun acts => by rw [doInvoke_state]; exact hsteps.trans h⟩
  · exact Or.inr ⟨q, vm₁, B, X₁.warmed, X', hpost, hstep₁ _ fun acts => by rw [doInvoke_state]; exact hsteps⟩
theorem vx_callSN (X : Stand p l e R s m args below meth c T locs cells slots) (hexec : p.tables.exec = Jvm.exec) {own : String} {index : Nat} {host : String} {y : MethodName} {bytes : ByteArray} {maxL : Nat} {ret : Option FieldType}
    (hown : s.vm.findClass own = some m.cls) (hlink : (Cond.methodLinkNest own index y host).before args s = true) (hstat : (Cond.static y).before args s = true) (hinit : (Cond.initialized y.cls).before args s = true)
    (hcode : (Cond.code y bytes maxL ret).before args s = true) (hy : y.cls ≠ "java/lang/invoke/MethodHandle" ∧ y.cls ≠ "java/lang/invoke/VarHandle")
    {W : Nat} {Pre : Pt → Array Value → Prop} {Post : Pt → Array Value → Option Value → Pt → Prop} {PostX : Pt → Array Value → Addr → Pt → Prop} (hK : vx_Back l R p e below s args y 3 W Pre Post PostX)
    {g : JFrame} (hg : g.method = m) (hsize : g.locals.size = c.maxLocals) {argsL rest : List Value} (hlen : ∀ sig, parseMethodDescriptor y.desc = some sig → argsL.length = sig.parameters.length)
    (hstack : g.stack = argsL.reverse ++ rest) (hW : 2 * g.monitorRoom + (rest.map fun v => v.category).sum ≤ W) (hdg : decode c.code g.pc = .ok (.invokestatic index, 3))
    (hpre : ∀ vm₁, s.WarmedH vm₁ → Pre ⟨T.setVm vm₁, locs, cells, slots⟩ argsL.toArray) :
    (∃ (v : Option Value) (vm₁ : Vm) (B : Pt), s.WarmedH vm₁ ∧ Stand p l e R s m args below meth c B.U B.locs B.cells B.slots ∧ Post ⟨T.setVm vm₁, locs, cells, slots⟩ argsL.toArray v B ∧
      ∀ target, Steps p.tables e below (B.U.setTop { g with pc := g.pc + 3, stack := v.toList ++ rest }) target → Steps p.tables e below (T.setTop g) target) ∨
    (∃ (q : Addr) (vm₁ : Vm) (B : Pt), s.WarmedH vm₁ ∧ Stand p l e R s m args below meth c B.U B.locs B.cells B.slots ∧ PostX ⟨T.setVm vm₁, locs, cells, slots⟩ argsL.toArray q B ∧
      Steps p.tables e below (T.setTop g) ((B.U.setTop { g with stack := rest }).pushFrame (.throwing q))) := by
  obtain ⟨mk, hnamed⟩ := Cond.code_named hcode
  obtain ⟨methM, cM, hmethM, -, -, -, -, -, -, hsigM⟩ := Cond.code_spec hnamed hcode
  have hstatic : methM.isStatic = true := Cond.static_spec hnamed hmethM hstat
  obtain ⟨kP, hkP, -⟩ := className_of_methodNamed hnamed
  have hinitP : kP.init = .initialized := Cond.initialized_spec (findClass_of_methodNamed hnamed) hkP hinit
  obtain ⟨vm₁, X₁, hstep₁⟩ := X.invokestaticNest hexec hown hlink hnamed hmethM hstatic hkP hinitP hy (g := g) hg (argsL := argsL) (rest := rest) (hlen _ hsigM) hstack hdg
  rcases hK m meth c ⟨T.setVm vm₁, locs, cells, slots⟩ { g with stack := rest } (.invokestatic index) mk argsL.toArray X₁ hg hsize hdg hW (X₁.named hnamed) (hpre vm₁ X₁.warmed) with ⟨v, B, X', hpost, hsteps⟩ | ⟨q, B, X', hpost, hsteps⟩
  · exact Or.inl ⟨v, vm₁, B, X₁.warmed, X', hpost, fun target h => hstep₁ _ fun acts => by rw [doInvoke_state]; exact hsteps.trans h⟩
  · exact Or.inr ⟨q, vm₁, B, X₁.warmed, X', hpost, hstep₁ _ fun acts => by rw [doInvoke_state]; exact hsteps⟩
theorem vx_runVN {y : MethodName} {bytes cc : ByteArray} {maxL nL mc ms n index : Nat} {ret : Option FieldType} {ws : List Cond} {rm : Room} {Pc : Array Value → State → Prop} {Qc : Array Value → State → Outcome → State → Prop} {XC : String → State → State → Prop} {free : Addr → Prop} {Ts : List Cond} {own C host : String} {b : Addr} {As rest : List Value} {g : JFrame}
    (S : CallFix p m c cc nL s args Ts own) (hM : vx_Met l y ws rm Pc Qc XC mc ms free) (cw : va_CN R s args own index y host bytes maxL ret ws rm mc ms n ∧ (Cond.instanceMethod y).before args s = true ∧ (Cond.selects C y y).before args s = true) (hp : PreV s H C b Pc As)
    (hg : g.method = m) (hn : As.length = n) (hsize : g.locals.size = nL) (hstack : g.stack = As.reverse ++ .ref b :: rest) (hW : 2 * g.monitorRoom + (rest.map fun v => v.category).sum ≤ 8) (hdg : decode cc g.pc = .ok (.invokevirtual index, 3)) (hf : cells + mc ≤ R.cells ∧ slots + ms ≤ R.slots) :
    vx_Run p l e R s m args below meth c H locs cells slots mc ms g rest (Qc (Value.ref b :: As).toArray) XC free := by
  obtain ⟨⟨⟨hrc, hrs, hfr, hlo, hws, hcw⟩, hcode, hini, hy, hlen, hl⟩, hx1, hx2⟩ := cw
  have hK : vx_Back l R p e below s args y 3 8 (PreOf R mc ms Pc) (PostOf Qc mc ms free) (vx_Post XC mc ms free) := vx_back (bytes := bytes) (maxL := maxL) (ret := ret) hM hp.1 hrc hrs hfr hlo hws hcw (fun a' U hW => word_at hW (Or.inl (by first | rfl | simp [Cond.onTables, Cond.keeps, Cond.steady])) hini)
  obtain ⟨hx, hb, hml, ho, -⟩ := S
  obtain ⟨-, ⟨cellB, hcB, hoB, hclB⟩, hPc⟩ := hp
  intro T hT X
  rcases vx_callVN X hx (C := C) (bytes := bytes) (maxL := maxL) (ret := ret) ho hl hx1 hx2 hcode hy hK (by rw [hT]; exact hcB) hoB hclB hg (hsize.trans hml.symm) (argsL := As) (rest := rest) (fun sig h => hn.trans (hlen sig h)) hstack hW (by rw [hb]; exact hdg)
    (fun vm₁ hW₁ => ⟨hf.1, hf.2, hPc (T.setVm vm₁) hT hW₁⟩) with ⟨v, vm₁, ⟨U', l2, c2, s2⟩, hW₁, X', ⟨g', mk, t, L, e1, e2, hq, h1, hL, h2, h3⟩, st⟩ | ⟨q, vm₁, ⟨U', l2, c2, s2⟩, hW₁, X', ⟨g', mk, t, L, E, ce, e1, e2, hq, hce, hcv, hcl, h1, hL, h2, h3⟩, st⟩
  · dsimp only [Pt.U, Pt.locs, Pt.cells, Pt.slots] at X' e1 e2 h1 h2 h3 st
    subst h1; subst h2; subst h3
    exact Or.inl ⟨v, (T.setVm vm₁).calling g' mk (Value.ref b :: As).toArray, t, U', L, hT, X', hL, e1, e2, hq, st⟩
  · dsimp only [Pt.U, Pt.locs, Pt.cells, Pt.slots] at X' e1 e2 h1 h2 h3 st hcl
    subst h1; subst h2; subst h3
    exact Or.inr ⟨q, (T.setVm vm₁).calling g' mk (Value.ref b :: As).toArray, t, U', L, E, ce, hT, X', hL, e1, e2, hq, hce, hcv, vx_cls hW₁ hcl, st⟩
theorem vx_runSN {y : MethodName} {bytes cc : ByteArray} {maxL nL mc ms n index : Nat} {ret : Option FieldType} {ws : List Cond} {rm : Room} {Pc : Array Value → State → Prop} {Qc : Array Value → State → Outcome → State → Prop} {XC : String → State → State → Prop} {free : Addr → Prop} {Ts : List Cond} {own host : String} {As rest : List Value} {g : JFrame}
    (S : CallFix p m c cc nL s args Ts own) (hM : vx_Met l y ws rm Pc Qc XC mc ms free) (cw : va_CN R s args own index y host bytes maxL ret ws rm mc ms n ∧ (Cond.static y).before args s = true ∧ True) (hp : PreS s H Pc As)
    (hg : g.method = m) (hn : As.length = n) (hsize : g.locals.size = nL) (hstack : g.stack = As.reverse ++ rest) (hW : 2 * g.monitorRoom + (rest.map fun v => v.category).sum ≤ 8) (hdg : decode cc g.pc = .ok (.invokestatic index, 3)) (hf : cells + mc ≤ R.cells ∧ slots + ms ≤ R.slots) :
    vx_Run p l e R s m args below meth c H locs cells slots mc ms g rest (Qc As.toArray) XC free := by
  obtain ⟨⟨⟨hrc, hrs, hfr, hlo, hws, hcw⟩, hcode, hini, hy, hlen, hl⟩, hx1, hx2⟩ := cw
  have hK : vx_Back l R p e below s args y 3 8 (PreOf R mc ms Pc) (PostOf Qc mc ms free) (vx_Post XC mc ms free) := vx_back (bytes := bytes) (maxL := maxL) (ret := ret) hM hp.1 hrc hrs hfr hlo hws hcw (fun a' U hW => word_at hW (Or.inl (by first | rfl | simp [Cond.onTables, Cond.keeps, Cond.steady])) hini)
  obtain ⟨hx, hb, hml, ho, -⟩ := S
  have hPc := hp.2
  intro T hT X
  rcases vx_callSN X hx (bytes := bytes) (maxL := maxL) (ret := ret) ho hl hx1 hini hcode hy hK hg (hsize.trans hml.symm) (argsL := As) (rest := rest) (fun sig h => hn.trans (hlen sig h)) hstack hW (by rw [hb]; exact hdg)
    (fun vm₁ hW₁ => ⟨hf.1, hf.2, hPc (T.setVm vm₁) hT hW₁⟩) with ⟨v, vm₁, ⟨U', l2, c2, s2⟩, hW₁, X', ⟨g', mk, t, L, e1, e2, hq, h1, hL, h2, h3⟩, st⟩ | ⟨q, vm₁, ⟨U', l2, c2, s2⟩, hW₁, X', ⟨g', mk, t, L, E, ce, e1, e2, hq, hce, hcv, hcl, h1, hL, h2, h3⟩, st⟩
  · dsimp only [Pt.U, Pt.locs, Pt.cells, Pt.slots] at X' e1 e2 h1 h2 h3 st
    subst h1; subst h2; subst h3
    exact Or.inl ⟨v, (T.setVm vm₁).calling g' mk As.toArray, t, U', L, hT, X', hL, e1, e2, hq, st⟩
  · dsimp only [Pt.U, Pt.locs, Pt.cells, Pt.slots] at X' e1 e2 h1 h2 h3 st hcl
    subst h1; subst h2; subst h3
    exact Or.inr ⟨q, (T.setVm vm₁).calling g' mk As.toArray, t, U', L, E, ce, hT, X', hL, e1, e2, hq, hce, hcv, vx_cls hW₁ hcl, st⟩
end
/-! ===== END ===== -/
/-! ===== BEGIN calls by an interface of methods that may throw (vx_callIF, vx_runF follow va_callIF, va_runF of this kit) ===== -/
section
variable {p : Program} {l : Launch} {e : Env} {R : Room} {s : State} {m : MethodId} {args : Array Value} {below : List Frame} {meth : Method} {c : Code} {H : Heap} {locs : List Loc} {cells slots : Nat} {Q : State → Prop}
variable {mc ms : Nat} {free : Addr → Prop} {A0 A1 : Nat → Prop} {H0 : Heap} {a : Array Value} {pc : Nat} {ls : Array Slot} {st0 rest : List Value}
def vx_Run5 (p : Program) (l : Launch) (e : Env) (R : Room) (s : State) (m : MethodId) (args : Array Value) (below : List Frame) (meth : Method) (c : Code) (H : Heap) (locs : List Loc) (cells slots mc ms : Nat) (g : JFrame) (rest : List Value) (Qa : State → Outcome → State → Prop) (XC : String → State → State → Prop) (free : Addr → Prop) : Prop :=
  ∀ T : State, T.heap = H → Stand p l e R s m args below meth c T locs cells slots →
    (∃ (v : Option Value) (st₀ t T' : State) (L : List Loc), st₀.heap = H ∧ Stand p l e R s m args below meth c T' (locs ++ L) (cells + mc) (slots + ms) ∧ (∀ q ∈ L, free q.base) ∧ T'.heap = t.heap ∧ T'.vm = t.vm ∧ Qa st₀ (.returned v) t ∧
      Goes p e below T g T' { g with pc := g.pc + 5, stack := v.toList ++ rest }) ∨
    (∃ (q : Addr) (st₀ t T' : State) (L : List Loc) (E : String) (ce : Cell), st₀.heap = H ∧ Stand p l e R s m args below meth c T' (locs ++ L) (cells + mc) (slots + ms) ∧ (∀ z ∈ L, free z.base) ∧ T'.heap = t.heap ∧ T'.vm = t.vm ∧ XC E st₀ t ∧ t.heap[q]? = some ce ∧ ce.vm = .none ∧ s.vm.findClass E = some ce.cls ∧
      Steps p.tables e below (T.setTop g) ((T'.setTop { g with stack := rest }).pushFrame (.throwing q)))
theorem vx_callIF {T : State} (X : Stand p l e R s m args below meth c T locs cells slots) (hexec : p.tables.exec = Jvm.exec) {own C : String} {index count : Nat} {x y : MethodName} {bytes : ByteArray} {maxL : Nat} {ret : Option FieldType}
    (hown : s.vm.findClass own = some m.cls) (hlink : (Cond.methodLink own index x).before args s = true) (hdecl : (Cond.declares x).before args s = true) (hface : (Cond.interfaceMethod x.cls x.cls x.name x.desc).before args s = true)
    (hsel : (Cond.selects C x y).before args s = true) (hinst : (Cond.instanceMethod y).before args s = true) (hpub : (Cond.publicMethod y).before args s = true) (hunh : (Cond.unhidden C x.name x.desc).before args s = true)
    (hcast : (Cond.castable C x.cls).before args s = true) (hcode : (Cond.code y bytes maxL ret).before args s = true) (hx : x.cls ≠ "java/lang/invoke/MethodHandle" ∧ x.cls ≠ "java/lang/invoke/VarHandle")
    {W9 : Nat} {Pre : Pt → Array Value → Prop} {Post : Pt → Array Value → Option Value → Pt → Prop} {PostX : Pt → Array Value → Addr → Pt → Prop} (hK : vx_Back l R p e below s args y 5 W9 Pre Post PostX)
    {b : Addr} {cellB : Cell} {kB : Class} (hcell : T.heap[b]? = some cellB) (hobj : cellB.vm.isStatics = false) (hcls : s.vm.findClass C = some cellB.cls) (hkB : s.vm.classes[cellB.cls]? = some kB)
    {g : JFrame} (hg : g.method = m) (hsize : g.locals.size = c.maxLocals) {argsL rest : List Value} (hlen : ∀ sig, parseMethodDescriptor x.desc = some sig → argsL.length = sig.parameters.length)
    (hstack : g.stack = argsL.reverse ++ .ref b :: rest) (hW : 2 * g.monitorRoom + (rest.map fun v => v.category).sum ≤ W9) (hdg : decode c.code g.pc = .ok (.invokeinterface index count, 5))
    (hpre : ∀ vm₁, s.WarmedH vm₁ → Pre ⟨T.setVm vm₁, locs, cells, slots⟩ (Value.ref b :: argsL).toArray) :
    (∃ (v : Option Value) (vm₁ : Vm) (B : Pt), s.WarmedH vm₁ ∧ Stand p l e R s m args below meth c B.U B.locs B.cells B.slots ∧ Post ⟨T.setVm vm₁, locs, cells, slots⟩ (Value.ref b :: argsL).toArray v B ∧
      ∀ target, Steps p.tables e below (B.U.setTop { g with pc := g.pc + 5, stack := v.toList ++ rest }) target → Steps p.tables e below (T.setTop g) target) ∨
    (∃ (q : Addr) (vm₁ : Vm) (B : Pt), s.WarmedH vm₁ ∧ Stand p l e R s m args below meth c B.U B.locs B.cells B.slots ∧ PostX ⟨T.setVm vm₁, locs, cells, slots⟩ (Value.ref b :: argsL).toArray q B ∧
      Steps p.tables e below (T.setTop g) ((B.U.setTop { g with stack := rest }).pushFrame (.throwing q))) := by
  obtain ⟨r0, r, hn, hrm, hstR, hsigR⟩ := Cond.declares_spec hdecl
  obtain ⟨cL, kL, r1, hcL, hkL, hiL, hfoundL, hn1⟩ := Cond.interfaceMethod_spec hface
  cases hn.symm.trans hn1
  have hr0cls : r0.cls = cL := Option.some.inj ((findClass_of_methodNamed hn).symm.trans hcL)
  obtain ⟨hnameR, hdescR⟩ := name_of_methodNamed hn hrm
  obtain ⟨mk, methM, hnamed, hmethM, -, habM⟩ := Cond.instanceMethod_spec hinst
  obtain ⟨c2, r2, m2, q1, q2, q3, q4, -⟩ := Cond.selects_spec hsel
  cases hcls.symm.trans q1
  cases hfoundL.symm.trans q2
  cases hnamed.symm.trans q3
  have hselP : selectMethod e.platform s.vm cellB.cls r0 = .method mk := by rw [Launch.admits_selectMethod X.admits]; exact q4
  have hpubM : hasFlag methM.accessFlags Acc.public_ = true := Cond.publicMethod_spec hnamed hmethM hpub
  have hway : ((cellB.cls :: s.vm.superclasses cellB.cls).any fun k => (declaredIn s.vm r.name r.desc k).any fun (_, z) => z.isPrivate || z.isStatic) = false := by
    rw [hnameR, hdescR]; exact Cond.unhidden_spec hcls hunh
  obtain ⟨c3, t3, w1, w2, w3⟩ := Cond.castable_spec hcast
  cases hcls.symm.trans w1
  cases hcL.symm.trans w2
  obtain ⟨vm₁, X₁, hstep₁⟩ := X.invokeinterface hexec hown hlink hn hrm hstR (by rw [hr0cls]; exact hkL) hiL hx (a := b) (cell := cellB) (kcell := kB) hcell
    (fun z h => by rw [h] at hobj; cases hobj) hkB (by rw [hr0cls]; exact w3) hselP hmethM hway hpubM habM (g := g) hg (argsL := argsL) (rest := rest) (hlen _ hsigR) hstack hdg
  rcases hK m meth c ⟨T.setVm vm₁, locs, cells, slots⟩ { g with stack := rest } (.invokeinterface index count) mk (Value.ref b :: argsL).toArray X₁ hg hsize hdg hW (X₁.named hnamed) (hpre vm₁ X₁.warmed) with ⟨v, B, X', hpost, hsteps⟩ | ⟨q, B, X', hpost, hsteps⟩
  · exact Or.inl ⟨v, vm₁, B, X₁.warmed, X', hpost, fun target h => hstep₁ _ fun acts => by rw [doInvoke_state]; exact hsteps.trans h⟩
  · exact Or.inr ⟨q, vm₁, B, X₁.warmed, X', hpost, hstep₁ _ fun acts => by rw [doInvoke_state]; exact hsteps⟩
theorem vx_runF {x y : MethodName} {bytes cc : ByteArray} {maxL nL mc ms n index count : Nat} {ret : Option FieldType} {ws : List Cond} {rm : Room} {Pc : Array Value → State → Prop} {Qc : Array Value → State → Outcome → State → Prop} {XC : String → State → State → Prop} {free : Addr → Prop} {Ts : List Cond} {own C : String} {cC : ClassId} {b : Addr} {As rest : List Value} {g : JFrame}
    (hat : ClassAt s C cC) (S : CallFix p m c cc nL s args Ts own) (hM : vx_Met l y ws rm Pc Qc XC mc ms free) (cw : va_CI R s args own C index x y bytes maxL ret ws rm mc ms n) (hp : PreV s H C b Pc As)
    (hg : g.method = m) (hn : As.length = n) (hsize : g.locals.size = nL) (hstack : g.stack = As.reverse ++ .ref b :: rest) (hW : 2 * g.monitorRoom + (rest.map fun v => v.category).sum ≤ 8) (hdg : decode cc g.pc = .ok (.invokeinterface index count, 5)) (hf : cells + mc ≤ R.cells ∧ slots + ms ≤ R.slots) :
    vx_Run5 p l e R s m args below meth c H locs cells slots mc ms g rest (Qc (Value.ref b :: As).toArray) XC free := by
  obtain ⟨hrc, hrs, hfr, hlo, hws, hcw⟩ := cw.back
  have hini := cw.init
  have hK : vx_Back l R p e below s args y 5 8 (PreOf R mc ms Pc) (PostOf Qc mc ms free) (vx_Post XC mc ms free) := vx_back (bytes := bytes) (maxL := maxL) (ret := ret) hM hp.1 hrc hrs hfr hlo hws hcw (fun a' U hW => word_at hW (Or.inl (by first | rfl | simp [Cond.onTables, Cond.keeps, Cond.steady])) hini)
  obtain ⟨hx, hb, hml, ho, -⟩ := S
  obtain ⟨-, ⟨cellB, hcB, hoB, hclB⟩, hPc⟩ := hp
  obtain ⟨hfc, kB, hkB, -⟩ := hat
  cases hfc.symm.trans hclB
  intro T hT X
  rcases vx_callIF X hx (C := C) (bytes := bytes) (maxL := maxL) (ret := ret) ho cw.link cw.decl cw.face cw.sel cw.inst cw.pub cw.unh cw.cast cw.code cw.notMH hK (by rw [hT]; exact hcB) hoB hclB hkB hg (hsize.trans hml.symm) (argsL := As) (rest := rest) (fun sig h => hn.trans (cw.len sig h)) hstack hW (by rw [hb]; exact hdg)
    (fun vm₁ hW₁ => ⟨hf.1, hf.2, hPc (T.setVm vm₁) hT hW₁⟩) with ⟨v, vm₁, ⟨U', l2, c2, s2⟩, hW₁, X', ⟨g', mk, t, L, e1, e2, hq, h1, hL, h2, h3⟩, st⟩ | ⟨q, vm₁, ⟨U', l2, c2, s2⟩, hW₁, X', ⟨g', mk, t, L, E, ce, e1, e2, hq, hce, hcv, hcl, h1, hL, h2, h3⟩, st⟩
  · dsimp only [Pt.U, Pt.locs, Pt.cells, Pt.slots] at X' e1 e2 h1 h2 h3 st
    subst h1; subst h2; subst h3
    exact Or.inl ⟨v, (T.setVm vm₁).calling g' mk (Value.ref b :: As).toArray, t, U', L, hT, X', hL, e1, e2, hq, st⟩
  · dsimp only [Pt.U, Pt.locs, Pt.cells, Pt.slots] at X' e1 e2 h1 h2 h3 st hcl
    subst h1; subst h2; subst h3
    exact Or.inr ⟨q, (T.setVm vm₁).calling g' mk (Value.ref b :: As).toArray, t, U', L, E, ce, hT, X', hL, e1, e2, hq, hce, hcv, vx_cls hW₁ hcl, st⟩
theorem vx_callFv {S SX : Type} {post : S → Prop} {px : SX → Prop} {B : S → State → Prop} {BX : String → SX → State → Prop} {AX : Nat → Prop} (hr : vx_Run5 p l e R s m args below meth c H locs cells slots mc ms (F0 m pc ls st0) rest (va_Qv post B A1 a) (vx_X px BX AX) free) (hS : va_S A0 H0 H locs) (hA : ∀ q, q < H.size → A1 q → A0 q) (hf : ∀ q, free q → A0 q) (hAX : ∀ q, q < H.size → AX q → A0 q)
    (kx : ∀ (E : String) (ce : Cell) (q9 : Addr) (u : SX) (t : State) (H1 : Heap) (locs1 : List Loc), t.heap = H1 → s.vm.Alike t.vm → px u → BX E u t → H.size ≤ H1.size → (∀ q : Nat, q < H.size → ¬ AX q → H1[q]? = H[q]?) → va_S A0 H0 H1 locs1 → H1[q9]? = some ce → ce.vm = .none → s.vm.findClass E = some ce.cls → vx_W p l e R s m args below meth c H1 locs1 (cells + mc) (slots + ms) Q (F0 m pc ls rest) q9)
    (kk : ∀ (u : S) (t : State) (H1 : Heap) (locs1 : List Loc), t.heap = H1 → s.vm.Alike t.vm → post u → B u t → H.size ≤ H1.size → (∀ q : Nat, q < H.size → ¬ A1 q → H1[q]? = H[q]?) → va_S A0 H0 H1 locs1 → W p l e R s m args below meth c H1 locs1 (cells + mc) (slots + ms) Q (F0 m (pc + 5) ls (rest))) : W p l e R s m args below meth c H locs cells slots Q (F0 m pc ls st0) := by
  intro T hT X
  rcases hr T hT X with ⟨v, st₀, t, T', L, h0, X', hL, e1, e2, ⟨⟨u, hv, hp, hb⟩, hF⟩, st⟩ | ⟨q, st₀, t, T', L, E, ce, h0, X', hL, e1, e2, ⟨u, hp, hb, hF⟩, hce, hcv, hcl, st⟩
  · cases hv
    obtain ⟨k1, k2, k3⟩ := vx_keep h0 e1 hS hA hf hL hF
    obtain ⟨t2, a1, b1⟩ := kk u t T'.heap (locs ++ L) e1.symm (by rw [← e2]; exact X'.warmed.alike) hp hb k1 k2 k3 T' rfl X'
    exact ⟨t2, st t2 a1, b1⟩
  · obtain ⟨k1, k2, k3⟩ := vx_keep h0 e1 hS hAX hf hL hF
    obtain ⟨t2, a1, b1⟩ := kx E ce q u t T'.heap (locs ++ L) e1.symm (by rw [← e2]; exact X'.warmed.alike) hp hb k1 k2 k3 (by rw [e1]; exact hce) hcv hcl T' rfl X'
    exact ⟨t2, st.trans a1, b1⟩
theorem vx_callFi {S SX : Type} {post : Int32 → S → Prop} {px : SX → Prop} {B : S → State → Prop} {BX : String → SX → State → Prop} {AX : Nat → Prop} (hr : vx_Run5 p l e R s m args below meth c H locs cells slots mc ms (F0 m pc ls st0) rest (va_Qi post B A1 a) (vx_X px BX AX) free) (hS : va_S A0 H0 H locs) (hA : ∀ q, q < H.size → A1 q → A0 q) (hf : ∀ q, free q → A0 q) (hAX : ∀ q, q < H.size → AX q → A0 q)
    (kx : ∀ (E : String) (ce : Cell) (q9 : Addr) (u : SX) (t : State) (H1 : Heap) (locs1 : List Loc), t.heap = H1 → s.vm.Alike t.vm → px u → BX E u t → H.size ≤ H1.size → (∀ q : Nat, q < H.size → ¬ AX q → H1[q]? = H[q]?) → va_S A0 H0 H1 locs1 → H1[q9]? = some ce → ce.vm = .none → s.vm.findClass E = some ce.cls → vx_W p l e R s m args below meth c H1 locs1 (cells + mc) (slots + ms) Q (F0 m pc ls rest) q9)
    (kk : ∀ (r : Int32) (u : S) (t : State) (H1 : Heap) (locs1 : List Loc), t.heap = H1 → s.vm.Alike t.vm → post r u → B u t → H.size ≤ H1.size → (∀ q : Nat, q < H.size → ¬ A1 q → H1[q]? = H[q]?) → va_S A0 H0 H1 locs1 → W p l e R s m args below meth c H1 locs1 (cells + mc) (slots + ms) Q (F0 m (pc + 5) ls (.int r :: rest))) : W p l e R s m args below meth c H locs cells slots Q (F0 m pc ls st0) := by
  intro T hT X
  rcases hr T hT X with ⟨v, st₀, t, T', L, h0, X', hL, e1, e2, ⟨⟨r, u, hv, hp, hb⟩, hF⟩, st⟩ | ⟨q, st₀, t, T', L, E, ce, h0, X', hL, e1, e2, ⟨u, hp, hb, hF⟩, hce, hcv, hcl, st⟩
  · cases hv
    obtain ⟨k1, k2, k3⟩ := vx_keep h0 e1 hS hA hf hL hF
    obtain ⟨t2, a1, b1⟩ := kk r u t T'.heap (locs ++ L) e1.symm (by rw [← e2]; exact X'.warmed.alike) hp hb k1 k2 k3 T' rfl X'
    exact ⟨t2, st t2 a1, b1⟩
  · obtain ⟨k1, k2, k3⟩ := vx_keep h0 e1 hS hAX hf hL hF
    obtain ⟨t2, a1, b1⟩ := kx E ce q u t T'.heap (locs ++ L) e1.symm (by rw [← e2]; exact X'.warmed.alike) hp hb k1 k2 k3 (by rw [e1]; exact hce) hcv hcl T' rfl X'
    exact ⟨t2, st.trans a1, b1⟩
theorem vx_callFl {S SX : Type} {post : Int64 → S → Prop} {px : SX → Prop} {B : S → State → Prop} {BX : String → SX → State → Prop} {AX : Nat → Prop} (hr : vx_Run5 p l e R s m args below meth c H locs cells slots mc ms (F0 m pc ls st0) rest (va_Ql post B A1 a) (vx_X px BX AX) free) (hS : va_S A0 H0 H locs) (hA : ∀ q, q < H.size → A1 q → A0 q) (hf : ∀ q, free q → A0 q) (hAX : ∀ q, q < H.size → AX q → A0 q)
    (kx : ∀ (E : String) (ce : Cell) (q9 : Addr) (u : SX) (t : State) (H1 : Heap) (locs1 : List Loc), t.heap = H1 → s.vm.Alike t.vm → px u → BX E u t → H.size ≤ H1.size → (∀ q : Nat, q < H.size → ¬ AX q → H1[q]? = H[q]?) → va_S A0 H0 H1 locs1 → H1[q9]? = some ce → ce.vm = .none → s.vm.findClass E = some ce.cls → vx_W p l e R s m args below meth c H1 locs1 (cells + mc) (slots + ms) Q (F0 m pc ls rest) q9)
    (kk : ∀ (r : Int64) (u : S) (t : State) (H1 : Heap) (locs1 : List Loc), t.heap = H1 → s.vm.Alike t.vm → post r u → B u t → H.size ≤ H1.size → (∀ q : Nat, q < H.size → ¬ A1 q → H1[q]? = H[q]?) → va_S A0 H0 H1 locs1 → W p l e R s m args below meth c H1 locs1 (cells + mc) (slots + ms) Q (F0 m (pc + 5) ls (.long r :: rest))) : W p l e R s m args below meth c H locs cells slots Q (F0 m pc ls st0) := by
  intro T hT X
  rcases hr T hT X with ⟨v, st₀, t, T', L, h0, X', hL, e1, e2, ⟨⟨r, u, hv, hp, hb⟩, hF⟩, st⟩ | ⟨q, st₀, t, T', L, E, ce, h0, X', hL, e1, e2, ⟨u, hp, hb, hF⟩, hce, hcv, hcl, st⟩
  · cases hv
    obtain ⟨k1, k2, k3⟩ := vx_keep h0 e1 hS hA hf hL hF
    obtain ⟨t2, a1, b1⟩ := kk r u t T'.heap (locs ++ L) e1.symm (by rw [← e2]; exact X'.warmed.alike) hp hb k1 k2 k3 T' rfl X'
    exact ⟨t2, st t2 a1, b1⟩
  · obtain ⟨k1, k2, k3⟩ := vx_keep h0 e1 hS hAX hf hL hF
    obtain ⟨t2, a1, b1⟩ := kx E ce q u t T'.heap (locs ++ L) e1.symm (by rw [← e2]; exact X'.warmed.alike) hp hb k1 k2 k3 (by rw [e1]; exact hce) hcv hcl T' rfl X'
    exact ⟨t2, st.trans a1, b1⟩
theorem vx_callFf {S SX : Type} {post : UInt32 → S → Prop} {px : SX → Prop} {B : S → State → Prop} {BX : String → SX → State → Prop} {AX : Nat → Prop} (hr : vx_Run5 p l e R s m args below meth c H locs cells slots mc ms (F0 m pc ls st0) rest (va_Qf post B A1 a) (vx_X px BX AX) free) (hS : va_S A0 H0 H locs) (hA : ∀ q, q < H.size → A1 q → A0 q) (hf : ∀ q, free q → A0 q) (hAX : ∀ q, q < H.size → AX q → A0 q)
    (kx : ∀ (E : String) (ce : Cell) (q9 : Addr) (u : SX) (t : State) (H1 : Heap) (locs1 : List Loc), t.heap = H1 → s.vm.Alike t.vm → px u → BX E u t → H.size ≤ H1.size → (∀ q : Nat, q < H.size → ¬ AX q → H1[q]? = H[q]?) → va_S A0 H0 H1 locs1 → H1[q9]? = some ce → ce.vm = .none → s.vm.findClass E = some ce.cls → vx_W p l e R s m args below meth c H1 locs1 (cells + mc) (slots + ms) Q (F0 m pc ls rest) q9)
    (kk : ∀ (r : UInt32) (u : S) (t : State) (H1 : Heap) (locs1 : List Loc), t.heap = H1 → s.vm.Alike t.vm → post r u → B u t → H.size ≤ H1.size → (∀ q : Nat, q < H.size → ¬ A1 q → H1[q]? = H[q]?) → va_S A0 H0 H1 locs1 → W p l e R s m args below meth c H1 locs1 (cells + mc) (slots + ms) Q (F0 m (pc + 5) ls (.float r :: rest))) : W p l e R s m args below meth c H locs cells slots Q (F0 m pc ls st0) := by
  intro T hT X
  rcases hr T hT X with ⟨v, st₀, t, T', L, h0, X', hL, e1, e2, ⟨⟨r, u, hv, hp, hb⟩, hF⟩, st⟩ | ⟨q, st₀, t, T', L, E, ce, h0, X', hL, e1, e2, ⟨u, hp, hb, hF⟩, hce, hcv, hcl, st⟩
  · cases hv
    obtain ⟨k1, k2, k3⟩ := vx_keep h0 e1 hS hA hf hL hF
    obtain ⟨t2, a1, b1⟩ := kk r u t T'.heap (locs ++ L) e1.symm (by rw [← e2]; exact X'.warmed.alike) hp hb k1 k2 k3 T' rfl X'
    exact ⟨t2, st t2 a1, b1⟩
  · obtain ⟨k1, k2, k3⟩ := vx_keep h0 e1 hS hAX hf hL hF
    obtain ⟨t2, a1, b1⟩ := kx E ce q u t T'.heap (locs ++ L) e1.symm (by rw [← e2]; exact X'.warmed.alike) hp hb k1 k2 k3 (by rw [e1]; exact hce) hcv hcl T' rfl X'
    exact ⟨t2, st.trans a1, b1⟩
theorem vx_callFd {S SX : Type} {post : UInt64 → S → Prop} {px : SX → Prop} {B : S → State → Prop} {BX : String → SX → State → Prop} {AX : Nat → Prop} (hr : vx_Run5 p l e R s m args below meth c H locs cells slots mc ms (F0 m pc ls st0) rest (va_Qd post B A1 a) (vx_X px BX AX) free) (hS : va_S A0 H0 H locs) (hA : ∀ q, q < H.size → A1 q → A0 q) (hf : ∀ q, free q → A0 q) (hAX : ∀ q, q < H.size → AX q → A0 q)
    (kx : ∀ (E : String) (ce : Cell) (q9 : Addr) (u : SX) (t : State) (H1 : Heap) (locs1 : List Loc), t.heap = H1 → s.vm.Alike t.vm → px u → BX E u t → H.size ≤ H1.size → (∀ q : Nat, q < H.size → ¬ AX q → H1[q]? = H[q]?) → va_S A0 H0 H1 locs1 → H1[q9]? = some ce → ce.vm = .none → s.vm.findClass E = some ce.cls → vx_W p l e R s m args below meth c H1 locs1 (cells + mc) (slots + ms) Q (F0 m pc ls rest) q9)
    (kk : ∀ (r : UInt64) (u : S) (t : State) (H1 : Heap) (locs1 : List Loc), t.heap = H1 → s.vm.Alike t.vm → post r u → B u t → H.size ≤ H1.size → (∀ q : Nat, q < H.size → ¬ A1 q → H1[q]? = H[q]?) → va_S A0 H0 H1 locs1 → W p l e R s m args below meth c H1 locs1 (cells + mc) (slots + ms) Q (F0 m (pc + 5) ls (.double r :: rest))) : W p l e R s m args below meth c H locs cells slots Q (F0 m pc ls st0) := by
  intro T hT X
  rcases hr T hT X with ⟨v, st₀, t, T', L, h0, X', hL, e1, e2, ⟨⟨r, u, hv, hp, hb⟩, hF⟩, st⟩ | ⟨q, st₀, t, T', L, E, ce, h0, X', hL, e1, e2, ⟨u, hp, hb, hF⟩, hce, hcv, hcl, st⟩
  · cases hv
    obtain ⟨k1, k2, k3⟩ := vx_keep h0 e1 hS hA hf hL hF
    obtain ⟨t2, a1, b1⟩ := kk r u t T'.heap (locs ++ L) e1.symm (by rw [← e2]; exact X'.warmed.alike) hp hb k1 k2 k3 T' rfl X'
    exact ⟨t2, st t2 a1, b1⟩
  · obtain ⟨k1, k2, k3⟩ := vx_keep h0 e1 hS hAX hf hL hF
    obtain ⟨t2, a1, b1⟩ := kx E ce q u t T'.heap (locs ++ L) e1.symm (by rw [← e2]; exact X'.warmed.alike) hp hb k1 k2 k3 (by rw [e1]; exact hce) hcv hcl T' rfl X'
    exact ⟨t2, st.trans a1, b1⟩
end
/-! ===== END ===== -/
/-! ===== BEGIN by an interface, a method with a table of its own that may throw (follows va_callIFW, va_runFW) ===== -/
section
variable {p : Program} {l : Launch} {e : Env} {R : Room} {s : State} {m : MethodId} {args : Array Value} {below : List Frame} {meth : Method} {c : Code} {H : Heap} {locs : List Loc} {cells slots : Nat}
theorem vx_callIFW {T : State} (X : Stand p l e R s m args below meth c T locs cells slots) (hexec : p.tables.exec = Jvm.exec) {own C : String} {index count : Nat} {x y : MethodName} {bytes : ByteArray} {maxL : Nat} {ret : Option FieldType} {hh : List (Nat × Nat × Nat × Nat)}
    (hown : s.vm.findClass own = some m.cls) (hlink : (Cond.methodLink own index x).before args s = true) (hdecl : (Cond.declares x).before args s = true) (hface : (Cond.interfaceMethod x.cls x.cls x.name x.desc).before args s = true)
    (hsel : (Cond.selects C x y).before args s = true) (hinst : (Cond.instanceMethod y).before args s = true) (hpub : (Cond.publicMethod y).before args s = true) (hunh : (Cond.unhidden C x.name x.desc).before args s = true)
    (hcast : (Cond.castable C x.cls).before args s = true) (hcode : (Cond.codeWith y bytes maxL ret hh).before args s = true) (hx : x.cls ≠ "java/lang/invoke/MethodHandle" ∧ x.cls ≠ "java/lang/invoke/VarHandle")
    {W : Nat} {Pre : Pt → Array Value → Prop} {Post : Pt → Array Value → Option Value → Pt → Prop} {PostX : Pt → Array Value → Addr → Pt → Prop} (hK : vx_Back l R p e below s args y 5 W Pre Post PostX)
    {b : Addr} {cellB : Cell} {kB : Class} (hcell : T.heap[b]? = some cellB) (hobj : cellB.vm.isStatics = false) (hcls : s.vm.findClass C = some cellB.cls) (hkB : s.vm.classes[cellB.cls]? = some kB)
    {g : JFrame} (hg : g.method = m) (hsize : g.locals.size = c.maxLocals) {argsL rest : List Value} (hlen : ∀ sig, parseMethodDescriptor x.desc = some sig → argsL.length = sig.parameters.length)
    (hstack : g.stack = argsL.reverse ++ .ref b :: rest) (hW : 2 * g.monitorRoom + (rest.map fun v => v.category).sum ≤ W) (hdg : decode c.code g.pc = .ok (.invokeinterface index count, 5))
    (hpre : ∀ vm₁, s.WarmedH vm₁ → Pre ⟨T.setVm vm₁, locs, cells, slots⟩ (Value.ref b :: argsL).toArray) :
    (∃ (v : Option Value) (vm₁ : Vm) (B : Pt), s.WarmedH vm₁ ∧ Stand p l e R s m args below meth c B.U B.locs B.cells B.slots ∧ Post ⟨T.setVm vm₁, locs, cells, slots⟩ (Value.ref b :: argsL).toArray v B ∧
      ∀ target, Steps p.tables e below (B.U.setTop { g with pc := g.pc + 5, stack := v.toList ++ rest }) target → Steps p.tables e below (T.setTop g) target) ∨
    (∃ (q : Addr) (vm₁ : Vm) (B : Pt), s.WarmedH vm₁ ∧ Stand p l e R s m args below meth c B.U B.locs B.cells B.slots ∧ PostX ⟨T.setVm vm₁, locs, cells, slots⟩ (Value.ref b :: argsL).toArray q B ∧
      Steps p.tables e below (T.setTop g) ((B.U.setTop { g with stack := rest }).pushFrame (.throwing q))) := by
  obtain ⟨r0, r, hn, hrm, hstR, hsigR⟩ := Cond.declares_spec hdecl
  obtain ⟨cL, kL, r1, hcL, hkL, hiL, hfoundL, hn1⟩ := Cond.interfaceMethod_spec hface
  cases hn.symm.trans hn1
  have hr0cls : r0.cls = cL := Option.some.inj ((findClass_of_methodNamed hn).symm.trans hcL)
  obtain ⟨hnameR, hdescR⟩ := name_of_methodNamed hn hrm
  obtain ⟨mk, methM, hnamed, hmethM, -, habM⟩ := Cond.instanceMethod_spec hinst
  obtain ⟨c2, r2, m2, q1, q2, q3, q4, -⟩ := Cond.selects_spec hsel
  cases hcls.symm.trans q1
  cases hfoundL.symm.trans q2
  cases hnamed.symm.trans q3
  have hselP : selectMethod e.platform s.vm cellB.cls r0 = .method mk := by rw [Launch.admits_selectMethod X.admits]; exact q4
  have hpubM : hasFlag methM.accessFlags Acc.public_ = true := Cond.publicMethod_spec hnamed hmethM hpub
  have hway : ((cellB.cls :: s.vm.superclasses cellB.cls).any fun k => (declaredIn s.vm r.name r.desc k).any fun (_, z) => z.isPrivate || z.isStatic) = false := by
    rw [hnameR, hdescR]; exact Cond.unhidden_spec hcls hunh
  obtain ⟨c3, t3, w1, w2, w3⟩ := Cond.castable_spec hcast
  cases hcls.symm.trans w1
  cases hcL.symm.trans w2
  obtain ⟨vm₁, X₁, hstep₁⟩ := X.invokeinterface hexec hown hlink hn hrm hstR (by rw [hr0cls]; exact hkL) hiL hx (a := b) (cell := cellB) (kcell := kB) hcell
    (fun z h => by rw [h] at hobj; cases hobj) hkB (by rw [hr0cls]; exact w3) hselP hmethM hway hpubM habM (g := g) hg (argsL := argsL) (rest := rest) (hlen _ hsigR) hstack hdg
  rcases hK m meth c ⟨T.setVm vm₁, locs, cells, slots⟩ { g with stack := rest } (.invokeinterface index count) mk (Value.ref b :: argsL).toArray X₁ hg hsize hdg hW (X₁.named hnamed) (hpre vm₁ X₁.warmed) with ⟨v, B, X', hpost, hsteps⟩ | ⟨q, B, X', hpost, hsteps⟩
  · exact Or.inl ⟨v, vm₁, B, X₁.warmed, X', hpost, fun target h => hstep₁ _ fun acts => by rw [doInvoke_state]; exact hsteps.trans h⟩
  · exact Or.inr ⟨q, vm₁, B, X₁.warmed, X', hpost, hstep₁ _ fun acts => by rw [doInvoke_state]; exact hsteps⟩
theorem vx_runFW {x y : MethodName} {bytes cc : ByteArray} {maxL nL mc ms n index count : Nat} {ret : Option FieldType} {hh : List (Nat × Nat × Nat × Nat)} {ws : List Cond} {rm : Room} {Pc : Array Value → State → Prop} {Qc : Array Value → State → Outcome → State → Prop} {XC : String → State → State → Prop} {free : Addr → Prop} {Ts : List Cond} {own C : String} {cC : ClassId} {b : Addr} {As rest : List Value} {g : JFrame}
    (hat : ClassAt s C cC) (S : CallFix p m c cc nL s args Ts own) (hM : vx_Met l y ws rm Pc Qc XC mc ms free) (cw : va_CIW R s args own C index x y bytes maxL ret hh ws rm mc ms n) (hp : PreV s H C b Pc As)
    (hg : g.method = m) (hn : As.length = n) (hsize : g.locals.size = nL) (hstack : g.stack = As.reverse ++ .ref b :: rest) (hW : 2 * g.monitorRoom + (rest.map fun v => v.category).sum ≤ 8) (hdg : decode cc g.pc = .ok (.invokeinterface index count, 5)) (hf : cells + mc ≤ R.cells ∧ slots + ms ≤ R.slots) :
    vx_Run5 p l e R s m args below meth c H locs cells slots mc ms g rest (Qc (Value.ref b :: As).toArray) XC free := by
  obtain ⟨hrc, hrs, hfr, hlo, hws, hcw⟩ := cw.back
  have hini := cw.init
  have hK : vx_Back l R p e below s args y 5 8 (PreOf R mc ms Pc) (PostOf Qc mc ms free) (vx_Post XC mc ms free) := vx_backW (hh := hh) (bytes := bytes) (maxL := maxL) (ret := ret) hM hp.1 hrc hrs hfr hlo hws hcw (fun a' U hW => word_at hW (Or.inl (by first | rfl | simp [Cond.onTables, Cond.keeps, Cond.steady])) hini)
  obtain ⟨hx, hb, hml, ho, -⟩ := S
  obtain ⟨-, ⟨cellB, hcB, hoB, hclB⟩, hPc⟩ := hp
  obtain ⟨hfc, kB, hkB, -⟩ := hat
  cases hfc.symm.trans hclB
  intro T hT X
  rcases vx_callIFW X hx (C := C) (hh := hh) (bytes := bytes) (maxL := maxL) (ret := ret) ho cw.link cw.decl cw.face cw.sel cw.inst cw.pub cw.unh cw.cast cw.code cw.notMH hK (by rw [hT]; exact hcB) hoB hclB hkB hg (hsize.trans hml.symm) (argsL := As) (rest := rest) (fun sig h => hn.trans (cw.len sig h)) hstack hW (by rw [hb]; exact hdg)
    (fun vm₁ hW₁ => ⟨hf.1, hf.2, hPc (T.setVm vm₁) hT hW₁⟩) with ⟨v, vm₁, ⟨U', l2, c2, s2⟩, hW₁, X', ⟨g', mk, t, L, e1, e2, hq, h1, hL, h2, h3⟩, st⟩ | ⟨q, vm₁, ⟨U', l2, c2, s2⟩, hW₁, X', ⟨g', mk, t, L, E, ce, e1, e2, hq, hce, hcv, hcl, h1, hL, h2, h3⟩, st⟩
  · dsimp only [Pt.U, Pt.locs, Pt.cells, Pt.slots] at X' e1 e2 h1 h2 h3 st
    subst h1; subst h2; subst h3
    exact Or.inl ⟨v, (T.setVm vm₁).calling g' mk (Value.ref b :: As).toArray, t, U', L, hT, X', hL, e1, e2, hq, st⟩
  · dsimp only [Pt.U, Pt.locs, Pt.cells, Pt.slots] at X' e1 e2 h1 h2 h3 st hcl
    subst h1; subst h2; subst h3
    exact Or.inr ⟨q, (T.setVm vm₁).calling g' mk (Value.ref b :: As).toArray, t, U', L, E, ce, hT, X', hL, e1, e2, hq, hce, hcv, vx_cls hW₁ hcl, st⟩
end
/-! ===== END ===== -/
/-! ===== BEGIN .. of methods that hand back an object of the pool ===== -/
section
variable {p : Program} {l : Launch} {e : Env} {R : Room} {s : State} {m : MethodId} {args : Array Value} {below : List Frame} {meth : Method} {c : Code} {H : Heap} {locs : List Loc} {cells slots : Nat} {Q : State → Prop}
variable {mc ms : Nat} {free : Addr → Prop} {A0 A1 : Nat → Prop} {H0 : Heap} {a : Array Value} {pc : Nat} {ls : Array Slot} {st0 rest : List Value}
theorem vx_callq {S SX : Type} {post : Option Nat → S → Prop} {px : SX → Prop} {B : S → State → Prop} {BX : String → SX → State → Prop} {AX : Nat → Prop} (hr : vx_Run p l e R s m args below meth c H locs cells slots mc ms (F0 m pc ls st0) rest (va_Qq post B A1 a) (vx_X px BX AX) free) (hS : va_S A0 H0 H locs) (hA : ∀ q, q < H.size → A1 q → A0 q) (hf : ∀ q, free q → A0 q) (hAX : ∀ q, q < H.size → AX q → A0 q)
    (kx : ∀ (E : String) (ce : Cell) (q9 : Addr) (u : SX) (t : State) (H1 : Heap) (locs1 : List Loc), t.heap = H1 → s.vm.Alike t.vm → px u → BX E u t → H.size ≤ H1.size → (∀ q : Nat, q < H.size → ¬ AX q → H1[q]? = H[q]?) → va_S A0 H0 H1 locs1 → H1[q9]? = some ce → ce.vm = .none → s.vm.findClass E = some ce.cls → vx_W p l e R s m args below meth c H1 locs1 (cells + mc) (slots + ms) Q (F0 m pc ls rest) q9)
    (kk : ∀ (r : Option Nat) (u : S) (t : State) (H1 : Heap) (locs1 : List Loc), t.heap = H1 → s.vm.Alike t.vm → post r u → B u t → H.size ≤ H1.size → (∀ q : Nat, q < H.size → ¬ A1 q → H1[q]? = H[q]?) → va_S A0 H0 H1 locs1 → W p l e R s m args below meth c H1 locs1 (cells + mc) (slots + ms) Q (F0 m (pc + 3) ls (va_rf r :: rest))) : W p l e R s m args below meth c H locs cells slots Q (F0 m pc ls st0) := by
  intro T hT X
  rcases hr T hT X with ⟨v, st₀, t, T', L, h0, X', hL, e1, e2, ⟨⟨r, u, hv, hp, hb⟩, hF⟩, st⟩ | ⟨q, st₀, t, T', L, E, ce, h0, X', hL, e1, e2, ⟨u, hp, hb, hF⟩, hce, hcv, hcl, st⟩
  · cases hv
    obtain ⟨k1, k2, k3⟩ := vx_keep h0 e1 hS hA hf hL hF
    obtain ⟨t2, a1, b1⟩ := kk r u t T'.heap (locs ++ L) e1.symm (by rw [← e2]; exact X'.warmed.alike) hp hb k1 k2 k3 T' rfl X'
    exact ⟨t2, st t2 a1, b1⟩
  · obtain ⟨k1, k2, k3⟩ := vx_keep h0 e1 hS hAX hf hL hF
    obtain ⟨t2, a1, b1⟩ := kx E ce q u t T'.heap (locs ++ L) e1.symm (by rw [← e2]; exact X'.warmed.alike) hp hb k1 k2 k3 (by rw [e1]; exact hce) hcv hcl T' rfl X'
    exact ⟨t2, st.trans a1, b1⟩
end
/-! ===== END ===== -/
/-! ===== BEGIN .. a constant ===== -/
section
variable {p : Program} {l : Launch} {e : Env} {R : Room} {s : State} {m : MethodId} {args : Array Value} {below : List Frame} {meth : Method} {c : Code} {H : Heap} {locs : List Loc} {cells slots : Nat} {Q : State → Prop}
variable {mc ms : Nat} {free : Addr → Prop} {A0 A1 : Nat → Prop} {H0 : Heap} {a : Array Value} {pc : Nat} {ls : Array Slot} {st0 rest : List Value}
theorem vx_calle {ad : Nat → Nat} {S SX : Type} {post : Option Nat → S → Prop} {px : SX → Prop} {B : S → State → Prop} {BX : String → SX → State → Prop} {AX : Nat → Prop} (hr : vx_Run p l e R s m args below meth c H locs cells slots mc ms (F0 m pc ls st0) rest (va_Qe ad post B A1 a) (vx_X px BX AX) free) (hS : va_S A0 H0 H locs) (hA : ∀ q, q < H.size → A1 q → A0 q) (hf : ∀ q, free q → A0 q) (hAX : ∀ q, q < H.size → AX q → A0 q)
    (kx : ∀ (E : String) (ce : Cell) (q9 : Addr) (u : SX) (t : State) (H1 : Heap) (locs1 : List Loc), t.heap = H1 → s.vm.Alike t.vm → px u → BX E u t → H.size ≤ H1.size → (∀ q : Nat, q < H.size → ¬ AX q → H1[q]? = H[q]?) → va_S A0 H0 H1 locs1 → H1[q9]? = some ce → ce.vm = .none → s.vm.findClass E = some ce.cls → vx_W p l e R s m args below meth c H1 locs1 (cells + mc) (slots + ms) Q (F0 m pc ls rest) q9)
    (kk : ∀ (r : Option Nat) (u : S) (t : State) (H1 : Heap) (locs1 : List Loc), t.heap = H1 → s.vm.Alike t.vm → post r u → B u t → H.size ≤ H1.size → (∀ q : Nat, q < H.size → ¬ A1 q → H1[q]? = H[q]?) → va_S A0 H0 H1 locs1 → W p l e R s m args below meth c H1 locs1 (cells + mc) (slots + ms) Q (F0 m (pc + 3) ls (va_re ad r :: rest))) : W p l e R s m args below meth c H locs cells slots Q (F0 m pc ls st0) := by
  intro T hT X
  rcases hr T hT X with ⟨v, st₀, t, T', L, h0, X', hL, e1, e2, ⟨⟨r, u, hv, hp, hb⟩, hF⟩, st⟩ | ⟨q, st₀, t, T', L, E, ce, h0, X', hL, e1, e2, ⟨u, hp, hb, hF⟩, hce, hcv, hcl, st⟩
  · cases hv
    obtain ⟨k1, k2, k3⟩ := vx_keep h0 e1 hS hA hf hL hF
    obtain ⟨t2, a1, b1⟩ := kk r u t T'.heap (locs ++ L) e1.symm (by rw [← e2]; exact X'.warmed.alike) hp hb k1 k2 k3 T' rfl X'
    exact ⟨t2, st t2 a1, b1⟩
  · obtain ⟨k1, k2, k3⟩ := vx_keep h0 e1 hS hAX hf hL hF
    obtain ⟨t2, a1, b1⟩ := kx E ce q u t T'.heap (locs ++ L) e1.symm (by rw [← e2]; exact X'.warmed.alike) hp hb k1 k2 k3 (by rw [e1]; exact hce) hcv hcl T' rfl X'
    exact ⟨t2, st.trans a1, b1⟩
end
/-! ===== END ===== -/
/-! ===== BEGIN .. by an interface, an object ===== -/
section
variable {p : Program} {l : Launch} {e : Env} {R : Room} {s : State} {m : MethodId} {args : Array Value} {below : List Frame} {meth : Method} {c : Code} {H : Heap} {locs : List Loc} {cells slots : Nat} {Q : State → Prop}
variable {mc ms : Nat} {free : Addr → Prop} {A0 A1 : Nat → Prop} {H0 : Heap} {a : Array Value} {pc : Nat} {ls : Array Slot} {st0 rest : List Value}
theorem vx_callFq {S SX : Type} {post : Option Nat → S → Prop} {px : SX → Prop} {B : S → State → Prop} {BX : String → SX → State → Prop} {AX : Nat → Prop} (hr : vx_Run5 p l e R s m args below meth c H locs cells slots mc ms (F0 m pc ls st0) rest (va_Qq post B A1 a) (vx_X px BX AX) free) (hS : va_S A0 H0 H locs) (hA : ∀ q, q < H.size → A1 q → A0 q) (hf : ∀ q, free q → A0 q) (hAX : ∀ q, q < H.size → AX q → A0 q)
    (kx : ∀ (E : String) (ce : Cell) (q9 : Addr) (u : SX) (t : State) (H1 : Heap) (locs1 : List Loc), t.heap = H1 → s.vm.Alike t.vm → px u → BX E u t → H.size ≤ H1.size → (∀ q : Nat, q < H.size → ¬ AX q → H1[q]? = H[q]?) → va_S A0 H0 H1 locs1 → H1[q9]? = some ce → ce.vm = .none → s.vm.findClass E = some ce.cls → vx_W p l e R s m args below meth c H1 locs1 (cells + mc) (slots + ms) Q (F0 m pc ls rest) q9)
    (kk : ∀ (r : Option Nat) (u : S) (t : State) (H1 : Heap) (locs1 : List Loc), t.heap = H1 → s.vm.Alike t.vm → post r u → B u t → H.size ≤ H1.size → (∀ q : Nat, q < H.size → ¬ A1 q → H1[q]? = H[q]?) → va_S A0 H0 H1 locs1 → W p l e R s m args below meth c H1 locs1 (cells + mc) (slots + ms) Q (F0 m (pc + 5) ls (va_rf r :: rest))) : W p l e R s m args below meth c H locs cells slots Q (F0 m pc ls st0) := by
  intro T hT X
  rcases hr T hT X with ⟨v, st₀, t, T', L, h0, X', hL, e1, e2, ⟨⟨r, u, hv, hp, hb⟩, hF⟩, st⟩ | ⟨q, st₀, t, T', L, E, ce, h0, X', hL, e1, e2, ⟨u, hp, hb, hF⟩, hce, hcv, hcl, st⟩
  · cases hv
    obtain ⟨k1, k2, k3⟩ := vx_keep h0 e1 hS hA hf hL hF
    obtain ⟨t2, a1, b1⟩ := kk r u t T'.heap (locs ++ L) e1.symm (by rw [← e2]; exact X'.warmed.alike) hp hb k1 k2 k3 T' rfl X'
    exact ⟨t2, st t2 a1, b1⟩
  · obtain ⟨k1, k2, k3⟩ := vx_keep h0 e1 hS hAX hf hL hF
    obtain ⟨t2, a1, b1⟩ := kx E ce q u t T'.heap (locs ++ L) e1.symm (by rw [← e2]; exact X'.warmed.alike) hp hb k1 k2 k3 (by rw [e1]; exact hce) hcv hcl T' rfl X'
    exact ⟨t2, st.trans a1, b1⟩
end
/-! ===== END ===== -/
/-! ===== BEGIN .. by an interface, a constant ===== -/
section
variable {p : Program} {l : Launch} {e : Env} {R : Room} {s : State} {m : MethodId} {args : Array Value} {below : List Frame} {meth : Method} {c : Code} {H : Heap} {locs : List Loc} {cells slots : Nat} {Q : State → Prop}
variable {mc ms : Nat} {free : Addr → Prop} {A0 A1 : Nat → Prop} {H0 : Heap} {a : Array Value} {pc : Nat} {ls : Array Slot} {st0 rest : List Value}
theorem vx_callFe {ad : Nat → Nat} {S SX : Type} {post : Option Nat → S → Prop} {px : SX → Prop} {B : S → State → Prop} {BX : String → SX → State → Prop} {AX : Nat → Prop} (hr : vx_Run5 p l e R s m args below meth c H locs cells slots mc ms (F0 m pc ls st0) rest (va_Qe ad post B A1 a) (vx_X px BX AX) free) (hS : va_S A0 H0 H locs) (hA : ∀ q, q < H.size → A1 q → A0 q) (hf : ∀ q, free q → A0 q) (hAX : ∀ q, q < H.size → AX q → A0 q)
    (kx : ∀ (E : String) (ce : Cell) (q9 : Addr) (u : SX) (t : State) (H1 : Heap) (locs1 : List Loc), t.heap = H1 → s.vm.Alike t.vm → px u → BX E u t → H.size ≤ H1.size → (∀ q : Nat, q < H.size → ¬ AX q → H1[q]? = H[q]?) → va_S A0 H0 H1 locs1 → H1[q9]? = some ce → ce.vm = .none → s.vm.findClass E = some ce.cls → vx_W p l e R s m args below meth c H1 locs1 (cells + mc) (slots + ms) Q (F0 m pc ls rest) q9)
    (kk : ∀ (r : Option Nat) (u : S) (t : State) (H1 : Heap) (locs1 : List Loc), t.heap = H1 → s.vm.Alike t.vm → post r u → B u t → H.size ≤ H1.size → (∀ q : Nat, q < H.size → ¬ A1 q → H1[q]? = H[q]?) → va_S A0 H0 H1 locs1 → W p l e R s m args below meth c H1 locs1 (cells + mc) (slots + ms) Q (F0 m (pc + 5) ls (va_re ad r :: rest))) : W p l e R s m args below meth c H locs cells slots Q (F0 m pc ls st0) := by
  intro T hT X
  rcases hr T hT X with ⟨v, st₀, t, T', L, h0, X', hL, e1, e2, ⟨⟨r, u, hv, hp, hb⟩, hF⟩, st⟩ | ⟨q, st₀, t, T', L, E, ce, h0, X', hL, e1, e2, ⟨u, hp, hb, hF⟩, hce, hcv, hcl, st⟩
  · cases hv
    obtain ⟨k1, k2, k3⟩ := vx_keep h0 e1 hS hA hf hL hF
    obtain ⟨t2, a1, b1⟩ := kk r u t T'.heap (locs ++ L) e1.symm (by rw [← e2]; exact X'.warmed.alike) hp hb k1 k2 k3 T' rfl X'
    exact ⟨t2, st t2 a1, b1⟩
  · obtain ⟨k1, k2, k3⟩ := vx_keep h0 e1 hS hAX hf hL hF
    obtain ⟨t2, a1, b1⟩ := kx E ce q u t T'.heap (locs ++ L) e1.symm (by rw [← e2]; exact X'.warmed.alike) hp hb k1 k2 k3 (by rw [e1]; exact hce) hcv hcl T' rfl X'
    exact ⟨t2, st.trans a1, b1⟩
end
/-! ===== END ===== -/
/-! ===== BEGIN what the machine throws by itself: null at a field, at athrow ===== -/
section VXM2
variable {p : Program} {l : Launch} {e : Env} {R : Room} {s : State} {m : MethodId} {args : Array Value} {below : List Frame} {meth : Method} {c : Code} {H : Heap} {locs : List Loc} {cells slots : Nat}
variable {Q : State → Prop} {cc : ByteArray} {pc : Nat} {ls : Array Slot} {rest : List Value}
theorem vx_getfN {D cl tys} {own ref C : String} {T : u_T} {N ci index : Nat} {Ts : List Cond} (hexec : p.tables.exec = Jvm.exec) (hb : c.code = cc) (hts : ∀ w ∈ Ts, w.before args s = true) (hin : ∀ w ∈ u_ws C T N, w ∈ Ts) (hown : s.vm.findClass own = some m.cls) (hK : va_K D cl tys s) (hc : cl[ci]? = some (C, T, N)) (k : Nat) (hk : k < N) (hlink : (Cond.fieldLink own index ref (T k).2.1 (T k).2.2.1).before args s = true) (hsame : ∀ x, s.fieldFound? (T k).1 (T k).2.1 (T k).2.2.1 = some x → s.fieldFound? ref (T k).2.1 (T k).2.2.1 = some x) (hdg : decode cc pc = .ok (.getfield index, 3)) (kk : vx_NoteN p l e R s m args below meth c H locs cells slots Q (F0 m pc ls rest)) : W p l e R s m args below meth c H locs cells slots Q (F0 m pc ls (.null :: rest)) := by
  obtain ⟨hS, hfc, kC, hkC, -⟩ := hK.1 ci _ hc
  obtain ⟨cf, kf, fi, f, hi, -⟩ := hS k hk
  intro U hU X
  obtain ⟨vm', X1, st1⟩ := X.getfieldNull hexec hown hlink (hsame _ hi) (u_facts hfc hkC (u_lays hts hin hk) hi).1 (g := F0 m pc ls (.null :: rest)) rfl (rest := rest) rfl (by rw [hb]; exact hdg)
  obtain ⟨t, st, q⟩ := kk (U.setVm vm') hU X1
  exact ⟨t, st1 t st, q⟩
theorem vx_getfNN {D cl tys} {own ref C host : String} {T : u_T} {N ci index : Nat} {Ts : List Cond} (hexec : p.tables.exec = Jvm.exec) (hb : c.code = cc) (hts : ∀ w ∈ Ts, w.before args s = true) (hin : ∀ w ∈ u_ws C T N, w ∈ Ts) (hown : s.vm.findClass own = some m.cls) (hK : va_K D cl tys s) (hc : cl[ci]? = some (C, T, N)) (k : Nat) (hk : k < N) (hlink : (Cond.fieldLinkNest own index ref (T k).2.1 (T k).2.2.1 host).before args s = true) (hsame : ∀ x, s.fieldFound? (T k).1 (T k).2.1 (T k).2.2.1 = some x → s.fieldFound? ref (T k).2.1 (T k).2.2.1 = some x) (hdg : decode cc pc = .ok (.getfield index, 3)) (kk : vx_NoteN p l e R s m args below meth c H locs cells slots Q (F0 m pc ls rest)) : W p l e R s m args below meth c H locs cells slots Q (F0 m pc ls (.null :: rest)) := by
  obtain ⟨hS, hfc, kC, hkC, -⟩ := hK.1 ci _ hc
  obtain ⟨cf, kf, fi, f, hi, -⟩ := hS k hk
  intro U hU X
  obtain ⟨vm', X1, st1⟩ := X.getfieldNullNest hexec hown hlink (hsame _ hi) (u_facts hfc hkC (u_lays hts hin hk) hi).1 (g := F0 m pc ls (.null :: rest)) rfl (rest := rest) rfl (by rw [hb]; exact hdg)
  obtain ⟨t, st, q⟩ := kk (U.setVm vm') hU X1
  exact ⟨t, st1 t st, q⟩
theorem vx_putfN {D cl tys} {own ref C : String} {T : u_T} {N ci index : Nat} {Ts : List Cond} (hexec : p.tables.exec = Jvm.exec) (hb : c.code = cc) (hts : ∀ w ∈ Ts, w.before args s = true) (hin : ∀ w ∈ u_ws C T N, w ∈ Ts) (hown : s.vm.findClass own = some m.cls) (hK : va_K D cl tys s) (hc : cl[ci]? = some (C, T, N)) (k : Nat) (hk : k < N) (hlink : (Cond.fieldLink own index ref (T k).2.1 (T k).2.2.1).before args s = true) (hsame : ∀ x, s.fieldFound? (T k).1 (T k).2.1 (T k).2.2.1 = some x → s.fieldFound? ref (T k).2.1 (T k).2.2.1 = some x) (hfin : (T k).2.2.2 = false) {v : Value} (hdg : decode cc pc = .ok (.putfield index, 3)) (kk : vx_NoteN p l e R s m args below meth c H locs cells slots Q (F0 m pc ls rest)) : W p l e R s m args below meth c H locs cells slots Q (F0 m pc ls (v :: .null :: rest)) := by
  obtain ⟨hS, hfc, kC, hkC, -⟩ := hK.1 ci _ hc
  obtain ⟨cf, kf, fi, f, hi, -⟩ := hS k hk
  have hlay := hts _ (hin _ (u_in_lay hk))
  unfold u_lay at hlay
  rw [if_neg (by rw [hfin]; decide)] at hlay
  obtain ⟨c9, k9, cf9, kf9, fi9, f9, -, -, hi9, hst9, hnf9, -⟩ := Cond.lays_spec hlay
  cases hi.symm.trans hi9
  intro U hU X
  obtain ⟨vm', X1, st1⟩ := X.putfieldNull hexec hown hlink (hsame _ hi) hst9 hnf9 (g := F0 m pc ls (v :: .null :: rest)) rfl (v := v) (rest := rest) rfl (by rw [hb]; exact hdg)
  obtain ⟨t, st, q⟩ := kk (U.setVm vm') hU X1
  exact ⟨t, st1 t st, q⟩
theorem vx_putfNN {D cl tys} {own ref C host : String} {T : u_T} {N ci index : Nat} {Ts : List Cond} (hexec : p.tables.exec = Jvm.exec) (hb : c.code = cc) (hts : ∀ w ∈ Ts, w.before args s = true) (hin : ∀ w ∈ u_ws C T N, w ∈ Ts) (hown : s.vm.findClass own = some m.cls) (hK : va_K D cl tys s) (hc : cl[ci]? = some (C, T, N)) (k : Nat) (hk : k < N) (hlink : (Cond.fieldLinkNest own index ref (T k).2.1 (T k).2.2.1 host).before args s = true) (hsame : ∀ x, s.fieldFound? (T k).1 (T k).2.1 (T k).2.2.1 = some x → s.fieldFound? ref (T k).2.1 (T k).2.2.1 = some x) (hfin : (T k).2.2.2 = false) {v : Value} (hdg : decode cc pc = .ok (.putfield index, 3)) (kk : vx_NoteN p l e R s m args below meth c H locs cells slots Q (F0 m pc ls rest)) : W p l e R s m args below meth c H locs cells slots Q (F0 m pc ls (v :: .null :: rest)) := by
  obtain ⟨hS, hfc, kC, hkC, -⟩ := hK.1 ci _ hc
  obtain ⟨cf, kf, fi, f, hi, -⟩ := hS k hk
  have hlay := hts _ (hin _ (u_in_lay hk))
  unfold u_lay at hlay
  rw [if_neg (by rw [hfin]; decide)] at hlay
  obtain ⟨c9, k9, cf9, kf9, fi9, f9, -, -, hi9, hst9, hnf9, -⟩ := Cond.lays_spec hlay
  cases hi.symm.trans hi9
  intro U hU X
  obtain ⟨vm', X1, st1⟩ := X.putfieldNullNest hexec hown hlink (hsame _ hi) hst9 hnf9 (g := F0 m pc ls (v :: .null :: rest)) rfl (v := v) (rest := rest) rfl (by rw [hb]; exact hdg)
  obtain ⟨t, st, q⟩ := kk (U.setVm vm') hU X1
  exact ⟨t, st1 t st, q⟩
theorem vx_athrowN (hexec : p.tables.exec = Jvm.exec) (hb : c.code = cc) (hdg : decode cc pc = .ok (.athrow, 1)) (k : vx_NoteN p l e R s m args below meth c H locs cells slots Q (F0 m pc ls rest)) : W p l e R s m args below meth c H locs cells slots Q (F0 m pc ls (.null :: rest)) := by
  intro T hT X
  obtain ⟨t, st, q⟩ := k T hT X
  exact ⟨t, X.athrowNull hexec (g := F0 m pc ls (.null :: rest)) rfl (rest := rest) rfl (by rw [hb]; exact hdg) t st, q⟩
end VXM2
/-! ===== END ===== -/
end
section
/-! ===== BEGIN printed: names, fields, word lists, decode rows ===== -/
def RX0 : String := "EscrowCounter$Command"
def TX0 : u_T := fun k => match k with
  | 0 => ("EscrowCounter$Command", "letter", "I", false)
  | 1 => ("EscrowCounter$Command", "site", "I", false)
  | 2 => ("EscrowCounter$Command", "to", "I", false)
  | _ => ("EscrowCounter$Command", "number", "I", false)
def tyX0 : Nat → FieldType := fun k => match k with
  | 0 => .int
  | 1 => .int
  | 2 => .int
  | _ => .int
abbrev wsX00 : List Cond := u_ws RX0 TX0 4
theorem nmX0 : ∀ a, a < 4 → ∀ b, b < 4 → a ≠ b → (TX0 a).2.1 ≠ (TX0 b).2.1 := by decide +kernel
theorem tyX0_ok : ∀ k, k < 4 → parseFieldDescriptor (TX0 k).2.2.1 = some (tyX0 k) := by decide +kernel
abbrev cX0_init : ByteArray := prog_2_method_1_code
def yX0_init : MethodName := ⟨RX0, "<init>", "()V"⟩
def RX1 : String := "EscrowCounter$History"
def TX1 : u_T := fun k => match k with
  | 0 => ("EscrowCounter$History", "ring", "[LEscrowCounter$State;", true)
  | 1 => ("EscrowCounter$History", "oldest", "I", false)
  | _ => ("EscrowCounter$History", "count", "I", false)
def tyX1 : Nat → FieldType := fun k => match k with
  | 0 => .array (.object "EscrowCounter$State")
  | 1 => .int
  | _ => .int
abbrev wsX10 : List Cond := u_ws RX1 TX1 3
theorem nmX1 : ∀ a, a < 3 → ∀ b, b < 3 → a ≠ b → (TX1 a).2.1 ≠ (TX1 b).2.1 := by decide +kernel
theorem tyX1_ok : ∀ k, k < 3 → parseFieldDescriptor (TX1 k).2.2.1 = some (tyX1 k) := by decide +kernel
abbrev cX1_init : ByteArray := prog_3_method_1_code
def yX1_init : MethodName := ⟨RX1, "<init>", "(I)V"⟩
abbrev cX1_forget : ByteArray := prog_3_method_2_code
def yX1_forget : MethodName := ⟨RX1, "forget", "()V"⟩
abbrev cX1_add : ByteArray := prog_3_method_3_code
def yX1_add : MethodName := ⟨RX1, "add", "(LEscrowCounter$State;)V"⟩
abbrev cX1_save : ByteArray := prog_3_method_4_code
def yX1_save : MethodName := ⟨RX1, "save", "(LEscrowCounter$State;)V"⟩
abbrev cX1_keep : ByteArray := prog_3_method_5_code
def yX1_keep : MethodName := ⟨RX1, "keep", "()V"⟩
abbrev cX1_bringBackSaved : ByteArray := prog_3_method_6_code
def yX1_bringBackSaved : MethodName := ⟨RX1, "bringBackSaved", "(LEscrowCounter$State;)V"⟩
abbrev cX1_bringBackLatest : ByteArray := prog_3_method_7_code
def yX1_bringBackLatest : MethodName := ⟨RX1, "bringBackLatest", "(LEscrowCounter$State;)V"⟩
abbrev cX1_place : ByteArray := prog_3_method_8_code
def yX1_place : MethodName := ⟨RX1, "place", "(I)LEscrowCounter$State;"⟩
def RX2 : String := "EscrowCounter$Loan"
def TX2 : u_T := fun k => match k with
  | 0 => ("EscrowCounter$Loan", "lender", "I", false)
  | 1 => ("EscrowCounter$Loan", "borrower", "I", false)
  | 2 => ("EscrowCounter$Loan", "kind", "I", false)
  | 3 => ("EscrowCounter$Loan", "amount", "I", false)
  | _ => ("EscrowCounter$Loan", "end", "I", false)
def tyX2 : Nat → FieldType := fun k => match k with
  | 0 => .int
  | 1 => .int
  | 2 => .int
  | 3 => .int
  | _ => .int
abbrev wsX20 : List Cond := u_ws RX2 TX2 5
theorem nmX2 : ∀ a, a < 5 → ∀ b, b < 5 → a ≠ b → (TX2 a).2.1 ≠ (TX2 b).2.1 := by decide +kernel
theorem tyX2_ok : ∀ k, k < 5 → parseFieldDescriptor (TX2 k).2.2.1 = some (tyX2 k) := by decide +kernel
abbrev cX2_init : ByteArray := prog_4_method_1_code
def yX2_init : MethodName := ⟨RX2, "<init>", "()V"⟩
abbrev cX2_copyFrom : ByteArray := prog_4_method_2_code
def yX2_copyFrom : MethodName := ⟨RX2, "copyFrom", "(LEscrowCounter$Loan;)V"⟩
def RX3 : String := "EscrowCounter$Message"
def TX3 : u_T := fun k => match k with
  | 0 => ("EscrowCounter$Message", "from", "I", false)
  | 1 => ("EscrowCounter$Message", "to", "I", false)
  | 2 => ("EscrowCounter$Message", "sentAt", "I", false)
  | _ => ("EscrowCounter$Message", "content", "LEscrowCounter$View;", true)
def tyX3 : Nat → FieldType := fun k => match k with
  | 0 => .int
  | 1 => .int
  | 2 => .int
  | _ => .object "EscrowCounter$View"
abbrev wsX30 : List Cond := u_ws RX3 TX3 4
theorem nmX3 : ∀ a, a < 4 → ∀ b, b < 4 → a ≠ b → (TX3 a).2.1 ≠ (TX3 b).2.1 := by decide +kernel
theorem tyX3_ok : ∀ k, k < 4 → parseFieldDescriptor (TX3 k).2.2.1 = some (tyX3 k) := by decide +kernel
abbrev cX3_init : ByteArray := prog_5_method_1_code
def yX3_init : MethodName := ⟨RX3, "<init>", "(I)V"⟩
abbrev cX3_copyFrom : ByteArray := prog_5_method_2_code
def yX3_copyFrom : MethodName := ⟨RX3, "copyFrom", "(LEscrowCounter$Message;)V"⟩
abbrev cX3_fact : ByteArray := prog_5_method_3_code
def yX3_fact : MethodName := ⟨RX3, "fact", "(I)I"⟩
def RX4 : String := "EscrowCounter$Script"
def TX4 : u_T := fun k => match k with
  | 0 => ("EscrowCounter$Script", "signs", "[I", true)
  | 1 => ("EscrowCounter$Script", "commands", "[LEscrowCounter$Command;", true)
  | 2 => ("EscrowCounter$Script", "length", "I", false)
  | 3 => ("EscrowCounter$Script", "count", "I", false)
  | _ => ("EscrowCounter$Script", "position", "I", false)
def tyX4 : Nat → FieldType := fun k => match k with
  | 0 => .array .int
  | 1 => .array (.object "EscrowCounter$Command")
  | 2 => .int
  | 3 => .int
  | _ => .int
abbrev wsX40 : List Cond := u_ws RX4 TX4 5
theorem nmX4 : ∀ a, a < 5 → ∀ b, b < 5 → a ≠ b → (TX4 a).2.1 ≠ (TX4 b).2.1 := by decide +kernel
theorem tyX4_ok : ∀ k, k < 5 → parseFieldDescriptor (TX4 k).2.2.1 = some (tyX4 k) := by decide +kernel
abbrev cX4_init : ByteArray := prog_6_method_1_code
def yX4_init : MethodName := ⟨RX4, "<init>", "()V"⟩
abbrev cX4_append : ByteArray := prog_6_method_2_code
def yX4_append : MethodName := ⟨RX4, "append", "(I)V"⟩
abbrev cX4_read : ByteArray := prog_6_method_3_code
def yX4_read : MethodName := ⟨RX4, "read", "()I"⟩
abbrev cX4_readCommand : ByteArray := prog_6_method_4_code
def yX4_readCommand : MethodName := ⟨RX4, "readCommand", "(LEscrowCounter$Command;)Z"⟩
abbrev cX4_readSite : ByteArray := prog_6_method_5_code
def yX4_readSite : MethodName := ⟨RX4, "readSite", "(LEscrowCounter$Command;)Z"⟩
abbrev cX4_readSecondSite : ByteArray := prog_6_method_6_code
def yX4_readSecondSite : MethodName := ⟨RX4, "readSecondSite", "(LEscrowCounter$Command;)Z"⟩
abbrev cX4_readNumberBehind : ByteArray := prog_6_method_7_code
def yX4_readNumberBehind : MethodName := ⟨RX4, "readNumberBehind", "(ILEscrowCounter$Command;)Z"⟩
abbrev cX4_readSign : ByteArray := prog_6_method_8_code
def yX4_readSign : MethodName := ⟨RX4, "readSign", "(I)Z"⟩
abbrev cX4_isDigitNext : ByteArray := prog_6_method_9_code
def yX4_isDigitNext : MethodName := ⟨RX4, "isDigitNext", "()Z"⟩
abbrev cX4_readDigit : ByteArray := prog_6_method_10_code
def yX4_readDigit : MethodName := ⟨RX4, "readDigit", "()I"⟩
def RX5 : String := "EscrowCounter$SiteRecord"
def TX5 : u_T := fun k => match k with
  | 0 => ("EscrowCounter$SiteRecord", "version", "I", false)
  | 1 => ("EscrowCounter$SiteRecord", "time", "I", false)
  | 2 => ("EscrowCounter$SiteRecord", "changes", "[I", true)
  | 3 => ("EscrowCounter$SiteRecord", "demands", "[I", true)
  | 4 => ("EscrowCounter$SiteRecord", "given", "[I", true)
  | 5 => ("EscrowCounter$SiteRecord", "lent", "I", false)
  | _ => ("EscrowCounter$SiteRecord", "used", "[I", true)
def tyX5 : Nat → FieldType := fun k => match k with
  | 0 => .int
  | 1 => .int
  | 2 => .array .int
  | 3 => .array .int
  | 4 => .array .int
  | 5 => .int
  | _ => .array .int
abbrev wsX50 : List Cond := u_ws RX5 TX5 7
theorem nmX5 : ∀ a, a < 7 → ∀ b, b < 7 → a ≠ b → (TX5 a).2.1 ≠ (TX5 b).2.1 := by decide +kernel
theorem tyX5_ok : ∀ k, k < 7 → parseFieldDescriptor (TX5 k).2.2.1 = some (tyX5 k) := by decide +kernel
abbrev cX5_init : ByteArray := prog_7_method_1_code
def yX5_init : MethodName := ⟨RX5, "<init>", "()V"⟩
abbrev cX5_clear : ByteArray := prog_7_method_2_code
def yX5_clear : MethodName := ⟨RX5, "clear", "()V"⟩
abbrev cX5_copyFrom : ByteArray := prog_7_method_3_code
def yX5_copyFrom : MethodName := ⟨RX5, "copyFrom", "(LEscrowCounter$SiteRecord;)V"⟩
abbrev cX5_hasLent : ByteArray := prog_7_method_4_code
def yX5_hasLent : MethodName := ⟨RX5, "hasLent", "(I)Z"⟩
abbrev cX5_isOlderThan : ByteArray := prog_7_method_5_code
def yX5_isOlderThan : MethodName := ⟨RX5, "isOlderThan", "(LEscrowCounter$SiteRecord;)Z"⟩
abbrev cX5_givenTo : ByteArray := prog_7_method_6_code
def yX5_givenTo : MethodName := ⟨RX5, "givenTo", "(II)I"⟩
abbrev cX5_give : ByteArray := prog_7_method_7_code
def yX5_give : MethodName := ⟨RX5, "give", "(III)V"⟩
def RX6 : String := "EscrowCounter$State"
def TX6 : u_T := fun k => match k with
  | 0 => ("EscrowCounter$State", "sites", "I", true)
  | 1 => ("EscrowCounter$State", "low", "I", false)
  | 2 => ("EscrowCounter$State", "high", "I", false)
  | 3 => ("EscrowCounter$State", "start", "I", false)
  | 4 => ("EscrowCounter$State", "time", "I", false)
  | 5 => ("EscrowCounter$State", "loanCount", "I", false)
  | 6 => ("EscrowCounter$State", "messageCount", "I", false)
  | 7 => ("EscrowCounter$State", "views", "[LEscrowCounter$View;", true)
  | 8 => ("EscrowCounter$State", "loans", "[LEscrowCounter$Loan;", true)
  | _ => ("EscrowCounter$State", "messages", "[LEscrowCounter$Message;", true)
def tyX6 : Nat → FieldType := fun k => match k with
  | 0 => .int
  | 1 => .int
  | 2 => .int
  | 3 => .int
  | 4 => .int
  | 5 => .int
  | 6 => .int
  | 7 => .array (.object "EscrowCounter$View")
  | 8 => .array (.object "EscrowCounter$Loan")
  | _ => .array (.object "EscrowCounter$Message")
abbrev wsX60 : List Cond := u_ws RX6 TX6 10
theorem nmX6 : ∀ a, a < 10 → ∀ b, b < 10 → a ≠ b → (TX6 a).2.1 ≠ (TX6 b).2.1 := by decide +kernel
theorem tyX6_ok : ∀ k, k < 10 → parseFieldDescriptor (TX6 k).2.2.1 = some (tyX6 k) := by decide +kernel
abbrev cX6_init : ByteArray := prog_8_method_1_code
def yX6_init : MethodName := ⟨RX6, "<init>", "(I)V"⟩
abbrev cX6_beginAnew : ByteArray := prog_8_method_2_code
def yX6_beginAnew : MethodName := ⟨RX6, "beginAnew", "(III)V"⟩
abbrev cX6_copyFrom : ByteArray := prog_8_method_3_code
def yX6_copyFrom : MethodName := ⟨RX6, "copyFrom", "(LEscrowCounter$State;)V"⟩
abbrev cX6_recordOf : ByteArray := prog_8_method_4_code
def yX6_recordOf : MethodName := ⟨RX6, "recordOf", "(I)LEscrowCounter$SiteRecord;"⟩
abbrev cX6_trueValue : ByteArray := prog_8_method_5_code
def yX6_trueValue : MethodName := ⟨RX6, "trueValue", "()I"⟩
abbrev cX6_valueKnownAt : ByteArray := prog_8_method_6_code
def yX6_valueKnownAt : MethodName := ⟨RX6, "valueKnownAt", "(I)I"⟩
abbrev cX6_roomAt : ByteArray := prog_8_method_7_code
def yX6_roomAt : MethodName := ⟨RX6, "roomAt", "(II)I"⟩
abbrev cX6_ownRights : ByteArray := prog_8_method_8_code
def yX6_ownRights : MethodName := ⟨RX6, "ownRights", "(II)I"⟩
abbrev cX6_loanBalance : ByteArray := prog_8_method_9_code
def yX6_loanBalance : MethodName := ⟨RX6, "loanBalance", "(II)I"⟩
abbrev cX6_hasComeBack : ByteArray := prog_8_method_10_code
def yX6_hasComeBack : MethodName := ⟨RX6, "hasComeBack", "(LEscrowCounter$Loan;)Z"⟩
abbrev cX6_restOf : ByteArray := prog_8_method_11_code
def yX6_restOf : MethodName := ⟨RX6, "restOf", "(I)I"⟩
abbrev cX6_availableRights : ByteArray := prog_8_method_12_code
def yX6_availableRights : MethodName := ⟨RX6, "availableRights", "(II)I"⟩
abbrev cX6_dormantRights : ByteArray := prog_8_method_13_code
def yX6_dormantRights : MethodName := ⟨RX6, "dormantRights", "(I)I"⟩
abbrev cX6_fewestHelpers : ByteArray := prog_8_method_14_code
def yX6_fewestHelpers : MethodName := ⟨RX6, "fewestHelpers", "(III)I"⟩
abbrev cX6_richestOutside : ByteArray := prog_8_method_15_code
def yX6_richestOutside : MethodName := ⟨RX6, "richestOutside", "(II)I"⟩
abbrev cX6_change : ByteArray := prog_8_method_16_code
def yX6_change : MethodName := ⟨RX6, "change", "(III)Z"⟩
abbrev cX6_useLoans : ByteArray := prog_8_method_17_code
def yX6_useLoans : MethodName := ⟨RX6, "useLoans", "(III)V"⟩
abbrev cX6_soonestLoan : ByteArray := prog_8_method_18_code
def yX6_soonestLoan : MethodName := ⟨RX6, "soonestLoan", "(II)I"⟩
abbrev cX6_give : ByteArray := prog_8_method_19_code
def yX6_give : MethodName := ⟨RX6, "give", "(IIII)V"⟩
abbrev cX6_makeLoan : ByteArray := prog_8_method_20_code
def yX6_makeLoan : MethodName := ⟨RX6, "makeLoan", "(IIIII)I"⟩
abbrev cX6_shareOut : ByteArray := prog_8_method_21_code
def yX6_shareOut : MethodName := ⟨RX6, "shareOut", "(II)I"⟩
abbrev cX6_letPass : ByteArray := prog_8_method_22_code
def yX6_letPass : MethodName := ⟨RX6, "letPass", "(I)V"⟩
abbrev cX6_loanFact : ByteArray := prog_8_method_23_code
def yX6_loanFact : MethodName := ⟨RX6, "loanFact", "(II)I"⟩
abbrev cX6_post : ByteArray := prog_8_method_24_code
def yX6_post : MethodName := ⟨RX6, "post", "(II)I"⟩
abbrev cX6_postAgain : ByteArray := prog_8_method_25_code
def yX6_postAgain : MethodName := ⟨RX6, "postAgain", "(I)I"⟩
abbrev cX6_handOver : ByteArray := prog_8_method_26_code
def yX6_handOver : MethodName := ⟨RX6, "handOver", "(I)I"⟩
abbrev cX6_drop : ByteArray := prog_8_method_27_code
def yX6_drop : MethodName := ⟨RX6, "drop", "(I)V"⟩
def RX7 : String := "EscrowCounter$View"
def TX7 : u_T := fun k => match k with
  | _ => ("EscrowCounter$View", "records", "[LEscrowCounter$SiteRecord;", true)
def tyX7 : Nat → FieldType := fun k => match k with
  | _ => .array (.object "EscrowCounter$SiteRecord")
abbrev wsX70 : List Cond := u_ws RX7 TX7 1
theorem nmX7 : ∀ a, a < 1 → ∀ b, b < 1 → a ≠ b → (TX7 a).2.1 ≠ (TX7 b).2.1 := by decide +kernel
theorem tyX7_ok : ∀ k, k < 1 → parseFieldDescriptor (TX7 k).2.2.1 = some (tyX7 k) := by decide +kernel
abbrev cX7_init : ByteArray := prog_9_method_1_code
def yX7_init : MethodName := ⟨RX7, "<init>", "(I)V"⟩
abbrev cX7_clear : ByteArray := prog_9_method_2_code
def yX7_clear : MethodName := ⟨RX7, "clear", "()V"⟩
abbrev cX7_copyFrom : ByteArray := prog_9_method_3_code
def yX7_copyFrom : MethodName := ⟨RX7, "copyFrom", "(LEscrowCounter$View;)V"⟩
abbrev cX7_learn : ByteArray := prog_9_method_4_code
def yX7_learn : MethodName := ⟨RX7, "learn", "(LEscrowCounter$View;I)I"⟩
def RX8 : String := "EscrowCounter"
def TX8 : u_T := fun k => match k with
  | 0 => ("EscrowCounter", "siteCount", "I", true)
  | 1 => ("EscrowCounter", "now", "LEscrowCounter$State;", true)
  | 2 => ("EscrowCounter", "history", "LEscrowCounter$History;", true)
  | _ => ("EscrowCounter", "script", "LEscrowCounter$Script;", true)
def tyX8 : Nat → FieldType := fun k => match k with
  | 0 => .int
  | 1 => .object "EscrowCounter$State"
  | 2 => .object "EscrowCounter$History"
  | _ => .object "EscrowCounter$Script"
abbrev wsX80 : List Cond := u_ws RX8 TX8 4
theorem nmX8 : ∀ a, a < 4 → ∀ b, b < 4 → a ≠ b → (TX8 a).2.1 ≠ (TX8 b).2.1 := by decide +kernel
theorem tyX8_ok : ∀ k, k < 4 → parseFieldDescriptor (TX8 k).2.2.1 = some (tyX8 k) := by decide +kernel
abbrev cX8_init : ByteArray := prog_1_method_1_code
def yX8_init : MethodName := ⟨RX8, "<init>", "(I)V"⟩
abbrev cX8_sites : ByteArray := prog_1_method_2_code
def yX8_sites : MethodName := ⟨RX8, "sites", "()I"⟩
abbrev cX8_begin : ByteArray := prog_1_method_3_code
def yX8_begin : MethodName := ⟨RX8, "begin", "(III)I"⟩
abbrev cX8_increase : ByteArray := prog_1_method_4_code
def yX8_increase : MethodName := ⟨RX8, "increase", "(II)Z"⟩
abbrev cX8_decrease : ByteArray := prog_1_method_5_code
def yX8_decrease : MethodName := ⟨RX8, "decrease", "(II)Z"⟩
abbrev cX8_transfer : ByteArray := prog_1_method_6_code
def yX8_transfer : MethodName := ⟨RX8, "transfer", "(IIII)I"⟩
abbrev cX8_lend : ByteArray := prog_1_method_7_code
def yX8_lend : MethodName := ⟨RX8, "lend", "(IIIII)I"⟩
abbrev cX8_rebalance : ByteArray := prog_1_method_8_code
def yX8_rebalance : MethodName := ⟨RX8, "rebalance", "(II)I"⟩
abbrev cX8_pass : ByteArray := prog_1_method_9_code
def yX8_pass : MethodName := ⟨RX8, "pass", "(I)I"⟩
abbrev cX8_send : ByteArray := prog_1_method_10_code
def yX8_send : MethodName := ⟨RX8, "send", "(II)I"⟩
abbrev cX8_deliver : ByteArray := prog_1_method_11_code
def yX8_deliver : MethodName := ⟨RX8, "deliver", "(I)I"⟩
abbrev cX8_lose : ByteArray := prog_1_method_12_code
def yX8_lose : MethodName := ⟨RX8, "lose", "(I)I"⟩
abbrev cX8_repeat : ByteArray := prog_1_method_13_code
def yX8_repeat : MethodName := ⟨RX8, "repeat", "(I)I"⟩
abbrev cX8_messages : ByteArray := prog_1_method_14_code
def yX8_messages : MethodName := ⟨RX8, "messages", "()I"⟩
abbrev cX8_message : ByteArray := prog_1_method_15_code
def yX8_message : MethodName := ⟨RX8, "message", "(II)I"⟩
abbrev cX8_time : ByteArray := prog_1_method_16_code
def yX8_time : MethodName := ⟨RX8, "time", "()I"⟩
abbrev cX8_value : ByteArray := prog_1_method_17_code
def yX8_value : MethodName := ⟨RX8, "value", "()I"⟩
abbrev cX8_known : ByteArray := prog_1_method_18_code
def yX8_known : MethodName := ⟨RX8, "known", "(I)I"⟩
abbrev cX8_own : ByteArray := prog_1_method_19_code
def yX8_own : MethodName := ⟨RX8, "own", "(II)I"⟩
abbrev cX8_available : ByteArray := prog_1_method_20_code
def yX8_available : MethodName := ⟨RX8, "available", "(II)I"⟩
abbrev cX8_dormant : ByteArray := prog_1_method_21_code
def yX8_dormant : MethodName := ⟨RX8, "dormant", "(I)I"⟩
abbrev cX8_demand : ByteArray := prog_1_method_22_code
def yX8_demand : MethodName := ⟨RX8, "demand", "(III)I"⟩
abbrev cX8_version : ByteArray := prog_1_method_23_code
def yX8_version : MethodName := ⟨RX8, "version", "(II)I"⟩
abbrev cX8_copyTime : ByteArray := prog_1_method_24_code
def yX8_copyTime : MethodName := ⟨RX8, "copyTime", "(II)I"⟩
abbrev cX8_loans : ByteArray := prog_1_method_25_code
def yX8_loans : MethodName := ⟨RX8, "loans", "()I"⟩
abbrev cX8_loan : ByteArray := prog_1_method_26_code
def yX8_loan : MethodName := ⟨RX8, "loan", "(II)I"⟩
abbrev cX8_helpers : ByteArray := prog_1_method_27_code
def yX8_helpers : MethodName := ⟨RX8, "helpers", "(III)I"⟩
abbrev cX8_type : ByteArray := prog_1_method_28_code
def yX8_type : MethodName := ⟨RX8, "type", "(I)I"⟩
abbrev cX8_clearText : ByteArray := prog_1_method_29_code
def yX8_clearText : MethodName := ⟨RX8, "clearText", "()I"⟩
abbrev cX8_runScript : ByteArray := prog_1_method_30_code
def yX8_runScript : MethodName := ⟨RX8, "runScript", "()I"⟩
abbrev cX8_undo : ByteArray := prog_1_method_31_code
def yX8_undo : MethodName := ⟨RX8, "undo", "()I"⟩
abbrev cX8_fingerprint : ByteArray := prog_1_method_32_code
def yX8_fingerprint : MethodName := ⟨RX8, "fingerprint", "()J"⟩
abbrev cX8_withSite : ByteArray := prog_1_method_33_code
def yX8_withSite : MethodName := ⟨RX8, "withSite", "(JI)J"⟩
abbrev cX8_mixed : ByteArray := prog_1_method_34_code
def yX8_mixed : MethodName := ⟨RX8, "mixed", "(JI)J"⟩
abbrev cX8_runCommand : ByteArray := prog_1_method_35_code
def yX8_runCommand : MethodName := ⟨RX8, "runCommand", "(LEscrowCounter$Command;)Z"⟩
abbrev cX8_runTransfer : ByteArray := prog_1_method_36_code
def yX8_runTransfer : MethodName := ⟨RX8, "runTransfer", "(ILEscrowCounter$Command;)Z"⟩
abbrev cX8_runMessage : ByteArray := prog_1_method_37_code
def yX8_runMessage : MethodName := ⟨RX8, "runMessage", "(LEscrowCounter$Command;)Z"⟩
abbrev cX8_runPass : ByteArray := prog_1_method_38_code
def yX8_runPass : MethodName := ⟨RX8, "runPass", "(LEscrowCounter$Command;)Z"⟩
abbrev cX8_throwFor : ByteArray := prog_1_method_39_code
def yX8_throwFor : MethodName := ⟨RX8, "throwFor", "(I)V"⟩
abbrev cX8_changeFault : ByteArray := prog_1_method_40_code
def yX8_changeFault : MethodName := ⟨RX8, "changeFault", "(II)I"⟩
abbrev cX8_transferFault : ByteArray := prog_1_method_41_code
def yX8_transferFault : MethodName := ⟨RX8, "transferFault", "(IIII)I"⟩
abbrev cX8_lendFault : ByteArray := prog_1_method_42_code
def yX8_lendFault : MethodName := ⟨RX8, "lendFault", "(IIIII)I"⟩
abbrev cX8_passFault : ByteArray := prog_1_method_43_code
def yX8_passFault : MethodName := ⟨RX8, "passFault", "(I)I"⟩
abbrev cX8_sendFault : ByteArray := prog_1_method_44_code
def yX8_sendFault : MethodName := ⟨RX8, "sendFault", "(II)I"⟩
abbrev cX8_messageFault : ByteArray := prog_1_method_45_code
def yX8_messageFault : MethodName := ⟨RX8, "messageFault", "(I)I"⟩
abbrev cX8_siteFault : ByteArray := prog_1_method_46_code
def yX8_siteFault : MethodName := ⟨RX8, "siteFault", "(I)I"⟩
abbrev cX8_siteAndKindFault : ByteArray := prog_1_method_47_code
def yX8_siteAndKindFault : MethodName := ⟨RX8, "siteAndKindFault", "(II)I"⟩
abbrev cX8_isSite : ByteArray := prog_1_method_48_code
def yX8_isSite : MethodName := ⟨RX8, "isSite", "(I)Z"⟩
abbrev cX8_isKind : ByteArray := prog_1_method_49_code
def yX8_isKind : MethodName := ⟨RX8, "isKind", "(I)Z"⟩
abbrev cX8_isAmount : ByteArray := prog_1_method_50_code
def yX8_isAmount : MethodName := ⟨RX8, "isAmount", "(I)Z"⟩
def RX9 : String := "EscrowCounterModel"
def TX9 : u_T := fun k => match k with
  | 0 => ("EscrowCounterModel", "n", "I", true)
  | 1 => ("EscrowCounterModel", "v", "[I", true)
  | 2 => ("EscrowCounterModel", "past", "[I", true)
  | 3 => ("EscrowCounterModel", "aside", "[I", true)
  | 4 => ("EscrowCounterModel", "states", "I", false)
  | 5 => ("EscrowCounterModel", "text", "[I", true)
  | 6 => ("EscrowCounterModel", "typed", "I", false)
  | 7 => ("EscrowCounterModel", "thrown", "I", false)
  | 8 => ("EscrowCounterModel", "at", "I", false)
  | 9 => ("EscrowCounterModel", "commands", "I", false)
  | 10 => ("EscrowCounterModel", "kinds", "[I", true)
  | 11 => ("EscrowCounterModel", "firsts", "[I", true)
  | 12 => ("EscrowCounterModel", "seconds", "[I", true)
  | 13 => ("EscrowCounterModel", "numbers", "[I", true)
  | _ => ("EscrowCounterModel", "read", "I", false)
def tyX9 : Nat → FieldType := fun k => match k with
  | 0 => .int
  | 1 => .array .int
  | 2 => .array .int
  | 3 => .array .int
  | 4 => .int
  | 5 => .array .int
  | 6 => .int
  | 7 => .int
  | 8 => .int
  | 9 => .int
  | 10 => .array .int
  | 11 => .array .int
  | 12 => .array .int
  | 13 => .array .int
  | _ => .int
abbrev wsX90 : List Cond := u_ws RX9 TX9 15
theorem nmX9 : ∀ a, a < 15 → ∀ b, b < 15 → a ≠ b → (TX9 a).2.1 ≠ (TX9 b).2.1 := by decide +kernel
theorem tyX9_ok : ∀ k, k < 15 → parseFieldDescriptor (TX9 k).2.2.1 = some (tyX9 k) := by decide +kernel
abbrev cX9_init : ByteArray := prog_11_method_1_code
def yX9_init : MethodName := ⟨RX9, "<init>", "(I)V"⟩
abbrev cX9_thrown : ByteArray := prog_11_method_2_code
def yX9_thrown : MethodName := ⟨RX9, "thrown", "()I"⟩
abbrev cX9_in : ByteArray := prog_11_method_3_code
def yX9_in : MethodName := ⟨RX9, "in", "(III)Z"⟩
abbrev cX9_fails : ByteArray := prog_11_method_4_code
def yX9_fails : MethodName := ⟨RX9, "fails", "(I)I"⟩
abbrev cX9_starts : ByteArray := prog_11_method_5_code
def yX9_starts : MethodName := ⟨RX9, "starts", "(III)V"⟩
abbrev cX9_act : ByteArray := prog_11_method_6_code
def yX9_act : MethodName := ⟨RX9, "act", "()V"⟩
abbrev cX9_isSite : ByteArray := prog_11_method_7_code
def yX9_isSite : MethodName := ⟨RX9, "isSite", "(I)Z"⟩
abbrev cX9_record : ByteArray := prog_11_method_8_code
def yX9_record : MethodName := ⟨RX9, "record", "(II)I"⟩
abbrev cX9_mineAt : ByteArray := prog_11_method_9_code
def yX9_mineAt : MethodName := ⟨RX9, "mineAt", "(I)I"⟩
abbrev cX9_changed : ByteArray := prog_11_method_10_code
def yX9_changed : MethodName := ⟨RX9, "changed", "(I)V"⟩
abbrev cX9_loanAt : ByteArray := prog_11_method_11_code
def yX9_loanAt : MethodName := ⟨RX9, "loanAt", "(I)I"⟩
abbrev cX9_timeOf : ByteArray := prog_11_method_12_code
def yX9_timeOf : MethodName := ⟨RX9, "timeOf", "(II)I"⟩
abbrev cX9_isBack : ByteArray := prog_11_method_13_code
def yX9_isBack : MethodName := ⟨RX9, "isBack", "(I)Z"⟩
abbrev cX9_usedOf : ByteArray := prog_11_method_14_code
def yX9_usedOf : MethodName := ⟨RX9, "usedOf", "(II)I"⟩
abbrev cX9_isKnown : ByteArray := prog_11_method_15_code
def yX9_isKnown : MethodName := ⟨RX9, "isKnown", "(I)Z"⟩
abbrev cX9_restOf : ByteArray := prog_11_method_16_code
def yX9_restOf : MethodName := ⟨RX9, "restOf", "(I)I"⟩
abbrev cX9_ownRights : ByteArray := prog_11_method_17_code
def yX9_ownRights : MethodName := ⟨RX9, "ownRights", "(II)I"⟩
abbrev cX9_lentRights : ByteArray := prog_11_method_18_code
def yX9_lentRights : MethodName := ⟨RX9, "lentRights", "(II)I"⟩
abbrev cX9_allRights : ByteArray := prog_11_method_19_code
def yX9_allRights : MethodName := ⟨RX9, "allRights", "(II)I"⟩
abbrev cX9_firstLoan : ByteArray := prog_11_method_20_code
def yX9_firstLoan : MethodName := ⟨RX9, "firstLoan", "(II)I"⟩
abbrev cX9_uses : ByteArray := prog_11_method_21_code
def yX9_uses : MethodName := ⟨RX9, "uses", "(III)Z"⟩
abbrev cX9_change : ByteArray := prog_11_method_22_code
def yX9_change : MethodName := ⟨RX9, "change", "(III)Z"⟩
abbrev cX9_sites : ByteArray := prog_11_method_23_code
def yX9_sites : MethodName := ⟨RX9, "sites", "()I"⟩
abbrev cX9_valueNow : ByteArray := prog_11_method_24_code
def yX9_valueNow : MethodName := ⟨RX9, "valueNow", "()I"⟩
abbrev cX9_begin : ByteArray := prog_11_method_25_code
def yX9_begin : MethodName := ⟨RX9, "begin", "(III)I"⟩
abbrev cX9_increase : ByteArray := prog_11_method_26_code
def yX9_increase : MethodName := ⟨RX9, "increase", "(II)Z"⟩
abbrev cX9_decrease : ByteArray := prog_11_method_27_code
def yX9_decrease : MethodName := ⟨RX9, "decrease", "(II)Z"⟩
abbrev cX9_gives : ByteArray := prog_11_method_28_code
def yX9_gives : MethodName := ⟨RX9, "gives", "(IIII)V"⟩
abbrev cX9_wrongPair : ByteArray := prog_11_method_29_code
def yX9_wrongPair : MethodName := ⟨RX9, "wrongPair", "(IIIZ)I"⟩
abbrev cX9_transfer : ByteArray := prog_11_method_30_code
def yX9_transfer : MethodName := ⟨RX9, "transfer", "(IIII)I"⟩
abbrev cX9_lend : ByteArray := prog_11_method_31_code
def yX9_lend : MethodName := ⟨RX9, "lend", "(IIIII)I"⟩
abbrev cX9_rebalance : ByteArray := prog_11_method_32_code
def yX9_rebalance : MethodName := ⟨RX9, "rebalance", "(II)I"⟩
abbrev cX9_pass : ByteArray := prog_11_method_33_code
def yX9_pass : MethodName := ⟨RX9, "pass", "(I)I"⟩
abbrev cX9_messageAt : ByteArray := prog_11_method_34_code
def yX9_messageAt : MethodName := ⟨RX9, "messageAt", "(I)I"⟩
abbrev cX9_isMessage : ByteArray := prog_11_method_35_code
def yX9_isMessage : MethodName := ⟨RX9, "isMessage", "(I)Z"⟩
abbrev cX9_writes : ByteArray := prog_11_method_36_code
def yX9_writes : MethodName := ⟨RX9, "writes", "(III)V"⟩
abbrev cX9_arrives : ByteArray := prog_11_method_37_code
def yX9_arrives : MethodName := ⟨RX9, "arrives", "(I)I"⟩
abbrev cX9_goes : ByteArray := prog_11_method_38_code
def yX9_goes : MethodName := ⟨RX9, "goes", "(I)V"⟩
abbrev cX9_send : ByteArray := prog_11_method_39_code
def yX9_send : MethodName := ⟨RX9, "send", "(II)I"⟩
abbrev cX9_deliver : ByteArray := prog_11_method_40_code
def yX9_deliver : MethodName := ⟨RX9, "deliver", "(I)I"⟩
abbrev cX9_lose : ByteArray := prog_11_method_41_code
def yX9_lose : MethodName := ⟨RX9, "lose", "(I)I"⟩
abbrev cX9_repeat : ByteArray := prog_11_method_42_code
def yX9_repeat : MethodName := ⟨RX9, "repeat", "(I)I"⟩
abbrev cX9_messages : ByteArray := prog_11_method_43_code
def yX9_messages : MethodName := ⟨RX9, "messages", "()I"⟩
abbrev cX9_message : ByteArray := prog_11_method_44_code
def yX9_message : MethodName := ⟨RX9, "message", "(II)I"⟩
abbrev cX9_time : ByteArray := prog_11_method_45_code
def yX9_time : MethodName := ⟨RX9, "time", "()I"⟩
abbrev cX9_value : ByteArray := prog_11_method_46_code
def yX9_value : MethodName := ⟨RX9, "value", "()I"⟩
abbrev cX9_knownBy : ByteArray := prog_11_method_47_code
def yX9_knownBy : MethodName := ⟨RX9, "knownBy", "(I)I"⟩
abbrev cX9_known : ByteArray := prog_11_method_48_code
def yX9_known : MethodName := ⟨RX9, "known", "(I)I"⟩
abbrev cX9_isWrong : ByteArray := prog_11_method_49_code
def yX9_isWrong : MethodName := ⟨RX9, "isWrong", "(II)Z"⟩
abbrev cX9_own : ByteArray := prog_11_method_50_code
def yX9_own : MethodName := ⟨RX9, "own", "(II)I"⟩
abbrev cX9_available : ByteArray := prog_11_method_51_code
def yX9_available : MethodName := ⟨RX9, "available", "(II)I"⟩
abbrev cX9_dormant : ByteArray := prog_11_method_52_code
def yX9_dormant : MethodName := ⟨RX9, "dormant", "(I)I"⟩
abbrev cX9_demand : ByteArray := prog_11_method_53_code
def yX9_demand : MethodName := ⟨RX9, "demand", "(III)I"⟩
abbrev cX9_isTwo : ByteArray := prog_11_method_54_code
def yX9_isTwo : MethodName := ⟨RX9, "isTwo", "(II)Z"⟩
abbrev cX9_version : ByteArray := prog_11_method_55_code
def yX9_version : MethodName := ⟨RX9, "version", "(II)I"⟩
abbrev cX9_copyTime : ByteArray := prog_11_method_56_code
def yX9_copyTime : MethodName := ⟨RX9, "copyTime", "(II)I"⟩
abbrev cX9_loans : ByteArray := prog_11_method_57_code
def yX9_loans : MethodName := ⟨RX9, "loans", "()I"⟩
abbrev cX9_ofLoan : ByteArray := prog_11_method_58_code
def yX9_ofLoan : MethodName := ⟨RX9, "ofLoan", "(II)I"⟩
abbrev cX9_loan : ByteArray := prog_11_method_59_code
def yX9_loan : MethodName := ⟨RX9, "loan", "(II)I"⟩
abbrev cX9_helpers : ByteArray := prog_11_method_60_code
def yX9_helpers : MethodName := ⟨RX9, "helpers", "(III)I"⟩
abbrev cX9_type : ByteArray := prog_11_method_61_code
def yX9_type : MethodName := ⟨RX9, "type", "(I)I"⟩
abbrev cX9_clearText : ByteArray := prog_11_method_62_code
def yX9_clearText : MethodName := ⟨RX9, "clearText", "()I"⟩
abbrev cX9_sign : ByteArray := prog_11_method_63_code
def yX9_sign : MethodName := ⟨RX9, "sign", "()I"⟩
abbrev cX9_takes : ByteArray := prog_11_method_64_code
def yX9_takes : MethodName := ⟨RX9, "takes", "(I)Z"⟩
abbrev cX9_readsSite : ByteArray := prog_11_method_65_code
def yX9_readsSite : MethodName := ⟨RX9, "readsSite", "()Z"⟩
abbrev cX9_readsNumber : ByteArray := prog_11_method_66_code
def yX9_readsNumber : MethodName := ⟨RX9, "readsNumber", "()Z"⟩
abbrev cX9_readsCommand : ByteArray := prog_11_method_67_code
def yX9_readsCommand : MethodName := ⟨RX9, "readsCommand", "()Z"⟩
abbrev cX9_readsScript : ByteArray := prog_11_method_68_code
def yX9_readsScript : MethodName := ⟨RX9, "readsScript", "()Z"⟩
abbrev cX9_does : ByteArray := prog_11_method_69_code
def yX9_does : MethodName := ⟨RX9, "does", "(I)Z"⟩
abbrev cX9_passesOn : ByteArray := prog_11_method_70_code
def yX9_passesOn : MethodName := ⟨RX9, "passesOn", "(II)Z"⟩
abbrev cX9_runScript : ByteArray := prog_11_method_71_code
def yX9_runScript : MethodName := ⟨RX9, "runScript", "()I"⟩
abbrev cX9_keepsAside : ByteArray := prog_11_method_72_code
def yX9_keepsAside : MethodName := ⟨RX9, "keepsAside", "()V"⟩
abbrev cX9_undo : ByteArray := prog_11_method_73_code
def yX9_undo : MethodName := ⟨RX9, "undo", "()I"⟩
abbrev cX9_fingerprint : ByteArray := prog_11_method_74_code
def yX9_fingerprint : MethodName := ⟨RX9, "fingerprint", "()J"⟩
def RJ9 : String := "java/lang/Math"
def TJ9 : u_T := fun k => match k with
  | _ => ("", "", "", false)
def tyJ9 : Nat → FieldType := fun k => match k with
  | _ => .int
abbrev wsJ90 : List Cond := u_ws RJ9 TJ9 0
theorem nmJ9 : ∀ a, a < 0 → ∀ b, b < 0 → a ≠ b → (TJ9 a).2.1 ≠ (TJ9 b).2.1 := by decide +kernel
theorem tyJ9_ok : ∀ k, k < 0 → parseFieldDescriptor (TJ9 k).2.2.1 = some (tyJ9 k) := by decide +kernel
abbrev cJ9_max_7cf53 : ByteArray := prog_16_method_65_code
def yJ9_max_7cf53 : MethodName := ⟨RJ9, "max", "(II)I"⟩
abbrev cJ9_min_7cf53 : ByteArray := prog_16_method_69_code
def yJ9_min_7cf53 : MethodName := ⟨RJ9, "min", "(II)I"⟩
def RJ0 : String := "java/lang/String"
def TJ0 : u_T := fun k => match k with
  | _ => ("", "", "", false)
def tyJ0 : Nat → FieldType := fun k => match k with
  | _ => .int
abbrev wsJ00 : List Cond := u_ws RJ0 TJ0 0
theorem nmJ0 : ∀ a, a < 0 → ∀ b, b < 0 → a ≠ b → (TJ0 a).2.1 ≠ (TJ0 b).2.1 := by decide +kernel
theorem tyJ0_ok : ∀ k, k < 0 → parseFieldDescriptor (TJ0 k).2.2.1 = some (tyJ0 k) := by decide +kernel
def RJ10 : String := "java/lang/System"
def TJ10 : u_T := fun k => match k with
  | _ => ("", "", "", false)
def tyJ10 : Nat → FieldType := fun k => match k with
  | _ => .int
abbrev wsJ100 : List Cond := u_ws RJ10 TJ10 0
theorem nmJ10 : ∀ a, a < 0 → ∀ b, b < 0 → a ≠ b → (TJ10 a).2.1 ≠ (TJ10 b).2.1 := by decide +kernel
theorem tyJ10_ok : ∀ k, k < 0 → parseFieldDescriptor (TJ10 k).2.2.1 = some (tyJ10 k) := by decide +kernel
def RL : String := "EscrowCounterLaw"
abbrev cL_cell : ByteArray := method_2_code
def yL_cell : MethodName := ⟨RL, "cell", "([II)I"⟩
abbrev cL_begin : ByteArray := method_3_code
def yL_begin : MethodName := ⟨RL, "begin", "(LEscrowCounter;III[J)I"⟩
abbrev cL_increase : ByteArray := method_4_code
def yL_increase : MethodName := ⟨RL, "increase", "(LEscrowCounter;II[J)I"⟩
abbrev cL_decrease : ByteArray := method_5_code
def yL_decrease : MethodName := ⟨RL, "decrease", "(LEscrowCounter;II[J)I"⟩
abbrev cL_transfer : ByteArray := method_6_code
def yL_transfer : MethodName := ⟨RL, "transfer", "(LEscrowCounter;IIII[J)I"⟩
abbrev cL_lend : ByteArray := method_7_code
def yL_lend : MethodName := ⟨RL, "lend", "(LEscrowCounter;IIIII[J)I"⟩
abbrev cL_rebalance : ByteArray := method_8_code
def yL_rebalance : MethodName := ⟨RL, "rebalance", "(LEscrowCounter;II[J)I"⟩
abbrev cL_pass : ByteArray := method_9_code
def yL_pass : MethodName := ⟨RL, "pass", "(LEscrowCounter;I[J)I"⟩
abbrev cL_send : ByteArray := method_10_code
def yL_send : MethodName := ⟨RL, "send", "(LEscrowCounter;II[J)I"⟩
abbrev cL_deliver : ByteArray := method_11_code
def yL_deliver : MethodName := ⟨RL, "deliver", "(LEscrowCounter;I[J)I"⟩
abbrev cL_lose : ByteArray := method_12_code
def yL_lose : MethodName := ⟨RL, "lose", "(LEscrowCounter;I[J)I"⟩
abbrev cL_repeat : ByteArray := method_13_code
def yL_repeat : MethodName := ⟨RL, "repeat", "(LEscrowCounter;I[J)I"⟩
abbrev cL_message : ByteArray := method_14_code
def yL_message : MethodName := ⟨RL, "message", "(LEscrowCounter;II[J)I"⟩
abbrev cL_known : ByteArray := method_15_code
def yL_known : MethodName := ⟨RL, "known", "(LEscrowCounter;I[J)I"⟩
abbrev cL_own : ByteArray := method_16_code
def yL_own : MethodName := ⟨RL, "own", "(LEscrowCounter;II[J)I"⟩
abbrev cL_available : ByteArray := method_17_code
def yL_available : MethodName := ⟨RL, "available", "(LEscrowCounter;II[J)I"⟩
abbrev cL_dormant : ByteArray := method_18_code
def yL_dormant : MethodName := ⟨RL, "dormant", "(LEscrowCounter;I[J)I"⟩
abbrev cL_demand : ByteArray := method_19_code
def yL_demand : MethodName := ⟨RL, "demand", "(LEscrowCounter;III[J)I"⟩
abbrev cL_version : ByteArray := method_20_code
def yL_version : MethodName := ⟨RL, "version", "(LEscrowCounter;II[J)I"⟩
abbrev cL_copyTime : ByteArray := method_21_code
def yL_copyTime : MethodName := ⟨RL, "copyTime", "(LEscrowCounter;II[J)I"⟩
abbrev cL_loan : ByteArray := method_22_code
def yL_loan : MethodName := ⟨RL, "loan", "(LEscrowCounter;II[J)I"⟩
abbrev cL_helpers : ByteArray := method_23_code
def yL_helpers : MethodName := ⟨RL, "helpers", "(LEscrowCounter;III[J)I"⟩
abbrev cL_type : ByteArray := method_24_code
def yL_type : MethodName := ⟨RL, "type", "(LEscrowCounter;I[J)I"⟩
abbrev cL_undo : ByteArray := method_25_code
def yL_undo : MethodName := ⟨RL, "undo", "(LEscrowCounter;[J)I"⟩
abbrev cL_law : ByteArray := code
def yL_law : MethodName := ⟨RL, "law", "([I)Z"⟩
abbrev Cls : List vw_C := [(RX0, TX0, 4), (RX1, TX1, 3), (RX2, TX2, 5), (RX3, TX3, 4), (RX4, TX4, 5), (RX5, TX5, 7), (RX6, TX6, 10), (RX7, TX7, 1), (RX8, TX8, 4), (RX9, TX9, 15)]
end
section
theorem dX0_init_0 : decode cX0_init 0 = .ok (.aload_n 0, 1) := by decide +kernel
theorem dX0_init_1 : decode cX0_init 1 = .ok (.invokespecial 1, 3) := by decide +kernel
theorem dX0_init_4 : decode cX0_init 4 = .ok (.return_, 1) := by decide +kernel
theorem dX1_init_0 : decode cX1_init 0 = .ok (.aload_n 0, 1) := by decide +kernel
theorem dX1_init_1 : decode cX1_init 1 = .ok (.invokespecial 3, 3) := by decide +kernel
theorem dX1_init_4 : decode cX1_init 4 = .ok (.aload_n 0, 1) := by decide +kernel
theorem dX1_init_5 : decode cX1_init 5 = .ok (.bipush 6, 2) := by decide +kernel
theorem dX1_init_7 : decode cX1_init 7 = .ok (.anewarray 9, 3) := by decide +kernel
theorem dX1_init_10 : decode cX1_init 10 = .ok (.putfield 11, 3) := by decide +kernel
theorem dX1_init_13 : decode cX1_init 13 = .ok (.iconst 0, 1) := by decide +kernel
theorem dX1_init_14 : decode cX1_init 14 = .ok (.istore_n 2, 1) := by decide +kernel
theorem dX1_init_15 : decode cX1_init 15 = .ok (.iload_n 2, 1) := by decide +kernel
theorem dX1_init_16 : decode cX1_init 16 = .ok (.bipush 6, 2) := by decide +kernel
theorem dX1_init_18 : decode cX1_init 18 = .ok (.if_icmp .ge 23, 3) := by decide +kernel
theorem dX1_init_21 : decode cX1_init 21 = .ok (.aload_n 0, 1) := by decide +kernel
theorem dX1_init_22 : decode cX1_init 22 = .ok (.getfield 11, 3) := by decide +kernel
theorem dX1_init_25 : decode cX1_init 25 = .ok (.iload_n 2, 1) := by decide +kernel
theorem dX1_init_26 : decode cX1_init 26 = .ok (.new 9, 3) := by decide +kernel
theorem dX1_init_29 : decode cX1_init 29 = .ok (.dup, 1) := by decide +kernel
theorem dX1_init_30 : decode cX1_init 30 = .ok (.iload_n 1, 1) := by decide +kernel
theorem dX1_init_31 : decode cX1_init 31 = .ok (.invokespecial 17, 3) := by decide +kernel
theorem dX1_init_34 : decode cX1_init 34 = .ok (.aastore, 1) := by decide +kernel
theorem dX1_init_35 : decode cX1_init 35 = .ok (.iinc 2 1, 3) := by decide +kernel
theorem dX1_init_38 : decode cX1_init 38 = .ok (.goto (-23), 3) := by decide +kernel
theorem dX1_init_41 : decode cX1_init 41 = .ok (.return_, 1) := by decide +kernel
theorem dX1_forget_0 : decode cX1_forget 0 = .ok (.aload_n 0, 1) := by decide +kernel
theorem dX1_forget_1 : decode cX1_forget 1 = .ok (.iconst 0, 1) := by decide +kernel
theorem dX1_forget_2 : decode cX1_forget 2 = .ok (.putfield 20, 3) := by decide +kernel
theorem dX1_forget_5 : decode cX1_forget 5 = .ok (.aload_n 0, 1) := by decide +kernel
theorem dX1_forget_6 : decode cX1_forget 6 = .ok (.iconst 0, 1) := by decide +kernel
theorem dX1_forget_7 : decode cX1_forget 7 = .ok (.putfield 24, 3) := by decide +kernel
theorem dX1_forget_10 : decode cX1_forget 10 = .ok (.return_, 1) := by decide +kernel
theorem dX1_add_0 : decode cX1_add 0 = .ok (.aload_n 0, 1) := by decide +kernel
theorem dX1_add_1 : decode cX1_add 1 = .ok (.aload_n 0, 1) := by decide +kernel
theorem dX1_add_2 : decode cX1_add 2 = .ok (.getfield 24, 3) := by decide +kernel
theorem dX1_add_5 : decode cX1_add 5 = .ok (.invokevirtual 27, 3) := by decide +kernel
theorem dX1_add_8 : decode cX1_add 8 = .ok (.aload_n 1, 1) := by decide +kernel
theorem dX1_add_9 : decode cX1_add 9 = .ok (.invokevirtual 31, 3) := by decide +kernel
theorem dX1_add_12 : decode cX1_add 12 = .ok (.aload_n 0, 1) := by decide +kernel
theorem dX1_add_13 : decode cX1_add 13 = .ok (.invokevirtual 35, 3) := by decide +kernel
theorem dX1_add_16 : decode cX1_add 16 = .ok (.return_, 1) := by decide +kernel
theorem dX1_save_0 : decode cX1_save 0 = .ok (.aload_n 0, 1) := by decide +kernel
theorem dX1_save_1 : decode cX1_save 1 = .ok (.aload_n 0, 1) := by decide +kernel
theorem dX1_save_2 : decode cX1_save 2 = .ok (.getfield 24, 3) := by decide +kernel
theorem dX1_save_5 : decode cX1_save 5 = .ok (.invokevirtual 27, 3) := by decide +kernel
theorem dX1_save_8 : decode cX1_save 8 = .ok (.aload_n 1, 1) := by decide +kernel
theorem dX1_save_9 : decode cX1_save 9 = .ok (.invokevirtual 31, 3) := by decide +kernel
theorem dX1_save_12 : decode cX1_save 12 = .ok (.return_, 1) := by decide +kernel
theorem dX1_keep_0 : decode cX1_keep 0 = .ok (.aload_n 0, 1) := by decide +kernel
theorem dX1_keep_1 : decode cX1_keep 1 = .ok (.getfield 24, 3) := by decide +kernel
theorem dX1_keep_4 : decode cX1_keep 4 = .ok (.iconst 5, 1) := by decide +kernel
theorem dX1_keep_5 : decode cX1_keep 5 = .ok (.if_icmp .ge 16, 3) := by decide +kernel
theorem dX1_keep_8 : decode cX1_keep 8 = .ok (.aload_n 0, 1) := by decide +kernel
theorem dX1_keep_9 : decode cX1_keep 9 = .ok (.dup, 1) := by decide +kernel
theorem dX1_keep_10 : decode cX1_keep 10 = .ok (.getfield 24, 3) := by decide +kernel
theorem dX1_keep_13 : decode cX1_keep 13 = .ok (.iconst 1, 1) := by decide +kernel
theorem dX1_keep_14 : decode cX1_keep 14 = .ok (.iadd, 1) := by decide +kernel
theorem dX1_keep_15 : decode cX1_keep 15 = .ok (.putfield 24, 3) := by decide +kernel
theorem dX1_keep_18 : decode cX1_keep 18 = .ok (.goto 16, 3) := by decide +kernel
theorem dX1_keep_21 : decode cX1_keep 21 = .ok (.aload_n 0, 1) := by decide +kernel
theorem dX1_keep_22 : decode cX1_keep 22 = .ok (.aload_n 0, 1) := by decide +kernel
theorem dX1_keep_23 : decode cX1_keep 23 = .ok (.getfield 20, 3) := by decide +kernel
theorem dX1_keep_26 : decode cX1_keep 26 = .ok (.iconst 1, 1) := by decide +kernel
theorem dX1_keep_27 : decode cX1_keep 27 = .ok (.iadd, 1) := by decide +kernel
theorem dX1_keep_28 : decode cX1_keep 28 = .ok (.bipush 6, 2) := by decide +kernel
theorem dX1_keep_30 : decode cX1_keep 30 = .ok (.irem, 1) := by decide +kernel
theorem dX1_keep_31 : decode cX1_keep 31 = .ok (.putfield 20, 3) := by decide +kernel
theorem dX1_keep_34 : decode cX1_keep 34 = .ok (.return_, 1) := by decide +kernel
theorem dX1_bringBackSaved_0 : decode cX1_bringBackSaved 0 = .ok (.aload_n 1, 1) := by decide +kernel
theorem dX1_bringBackSaved_1 : decode cX1_bringBackSaved 1 = .ok (.aload_n 0, 1) := by decide +kernel
theorem dX1_bringBackSaved_2 : decode cX1_bringBackSaved 2 = .ok (.aload_n 0, 1) := by decide +kernel
theorem dX1_bringBackSaved_3 : decode cX1_bringBackSaved 3 = .ok (.getfield 24, 3) := by decide +kernel
theorem dX1_bringBackSaved_6 : decode cX1_bringBackSaved 6 = .ok (.invokevirtual 27, 3) := by decide +kernel
theorem dX1_bringBackSaved_9 : decode cX1_bringBackSaved 9 = .ok (.invokevirtual 31, 3) := by decide +kernel
theorem dX1_bringBackSaved_12 : decode cX1_bringBackSaved 12 = .ok (.return_, 1) := by decide +kernel
theorem dX1_bringBackLatest_0 : decode cX1_bringBackLatest 0 = .ok (.aload_n 0, 1) := by decide +kernel
theorem dX1_bringBackLatest_1 : decode cX1_bringBackLatest 1 = .ok (.dup, 1) := by decide +kernel
theorem dX1_bringBackLatest_2 : decode cX1_bringBackLatest 2 = .ok (.getfield 24, 3) := by decide +kernel
theorem dX1_bringBackLatest_5 : decode cX1_bringBackLatest 5 = .ok (.iconst 1, 1) := by decide +kernel
theorem dX1_bringBackLatest_6 : decode cX1_bringBackLatest 6 = .ok (.isub, 1) := by decide +kernel
theorem dX1_bringBackLatest_7 : decode cX1_bringBackLatest 7 = .ok (.putfield 24, 3) := by decide +kernel
theorem dX1_bringBackLatest_10 : decode cX1_bringBackLatest 10 = .ok (.aload_n 1, 1) := by decide +kernel
theorem dX1_bringBackLatest_11 : decode cX1_bringBackLatest 11 = .ok (.aload_n 0, 1) := by decide +kernel
theorem dX1_bringBackLatest_12 : decode cX1_bringBackLatest 12 = .ok (.aload_n 0, 1) := by decide +kernel
theorem dX1_bringBackLatest_13 : decode cX1_bringBackLatest 13 = .ok (.getfield 24, 3) := by decide +kernel
theorem dX1_bringBackLatest_16 : decode cX1_bringBackLatest 16 = .ok (.invokevirtual 27, 3) := by decide +kernel
theorem dX1_bringBackLatest_19 : decode cX1_bringBackLatest 19 = .ok (.invokevirtual 31, 3) := by decide +kernel
theorem dX1_bringBackLatest_22 : decode cX1_bringBackLatest 22 = .ok (.return_, 1) := by decide +kernel
theorem dX1_place_0 : decode cX1_place 0 = .ok (.aload_n 0, 1) := by decide +kernel
theorem dX1_place_1 : decode cX1_place 1 = .ok (.getfield 11, 3) := by decide +kernel
theorem dX1_place_4 : decode cX1_place 4 = .ok (.aload_n 0, 1) := by decide +kernel
theorem dX1_place_5 : decode cX1_place 5 = .ok (.getfield 20, 3) := by decide +kernel
theorem dX1_place_8 : decode cX1_place 8 = .ok (.iload_n 1, 1) := by decide +kernel
theorem dX1_place_9 : decode cX1_place 9 = .ok (.iadd, 1) := by decide +kernel
theorem dX1_place_10 : decode cX1_place 10 = .ok (.bipush 6, 2) := by decide +kernel
theorem dX1_place_12 : decode cX1_place 12 = .ok (.irem, 1) := by decide +kernel
theorem dX1_place_13 : decode cX1_place 13 = .ok (.aaload, 1) := by decide +kernel
theorem dX1_place_14 : decode cX1_place 14 = .ok (.areturn, 1) := by decide +kernel
theorem dX2_init_0 : decode cX2_init 0 = .ok (.aload_n 0, 1) := by decide +kernel
theorem dX2_init_1 : decode cX2_init 1 = .ok (.invokespecial 1, 3) := by decide +kernel
theorem dX2_init_4 : decode cX2_init 4 = .ok (.return_, 1) := by decide +kernel
theorem dX2_copyFrom_0 : decode cX2_copyFrom 0 = .ok (.aload_n 0, 1) := by decide +kernel
theorem dX2_copyFrom_1 : decode cX2_copyFrom 1 = .ok (.aload_n 1, 1) := by decide +kernel
theorem dX2_copyFrom_2 : decode cX2_copyFrom 2 = .ok (.getfield 7, 3) := by decide +kernel
theorem dX2_copyFrom_5 : decode cX2_copyFrom 5 = .ok (.putfield 7, 3) := by decide +kernel
theorem dX2_copyFrom_8 : decode cX2_copyFrom 8 = .ok (.aload_n 0, 1) := by decide +kernel
theorem dX2_copyFrom_9 : decode cX2_copyFrom 9 = .ok (.aload_n 1, 1) := by decide +kernel
theorem dX2_copyFrom_10 : decode cX2_copyFrom 10 = .ok (.getfield 13, 3) := by decide +kernel
theorem dX2_copyFrom_13 : decode cX2_copyFrom 13 = .ok (.putfield 13, 3) := by decide +kernel
theorem dX2_copyFrom_16 : decode cX2_copyFrom 16 = .ok (.aload_n 0, 1) := by decide +kernel
theorem dX2_copyFrom_17 : decode cX2_copyFrom 17 = .ok (.aload_n 1, 1) := by decide +kernel
theorem dX2_copyFrom_18 : decode cX2_copyFrom 18 = .ok (.getfield 16, 3) := by decide +kernel
theorem dX2_copyFrom_21 : decode cX2_copyFrom 21 = .ok (.putfield 16, 3) := by decide +kernel
theorem dX2_copyFrom_24 : decode cX2_copyFrom 24 = .ok (.aload_n 0, 1) := by decide +kernel
theorem dX2_copyFrom_25 : decode cX2_copyFrom 25 = .ok (.aload_n 1, 1) := by decide +kernel
theorem dX2_copyFrom_26 : decode cX2_copyFrom 26 = .ok (.getfield 19, 3) := by decide +kernel
theorem dX2_copyFrom_29 : decode cX2_copyFrom 29 = .ok (.putfield 19, 3) := by decide +kernel
theorem dX2_copyFrom_32 : decode cX2_copyFrom 32 = .ok (.aload_n 0, 1) := by decide +kernel
theorem dX2_copyFrom_33 : decode cX2_copyFrom 33 = .ok (.aload_n 1, 1) := by decide +kernel
theorem dX2_copyFrom_34 : decode cX2_copyFrom 34 = .ok (.getfield 22, 3) := by decide +kernel
theorem dX2_copyFrom_37 : decode cX2_copyFrom 37 = .ok (.putfield 22, 3) := by decide +kernel
theorem dX2_copyFrom_40 : decode cX2_copyFrom 40 = .ok (.return_, 1) := by decide +kernel
theorem dX3_init_0 : decode cX3_init 0 = .ok (.aload_n 0, 1) := by decide +kernel
theorem dX3_init_1 : decode cX3_init 1 = .ok (.invokespecial 1, 3) := by decide +kernel
theorem dX3_init_4 : decode cX3_init 4 = .ok (.aload_n 0, 1) := by decide +kernel
theorem dX3_init_5 : decode cX3_init 5 = .ok (.new 7, 3) := by decide +kernel
theorem dX3_init_8 : decode cX3_init 8 = .ok (.dup, 1) := by decide +kernel
theorem dX3_init_9 : decode cX3_init 9 = .ok (.iload_n 1, 1) := by decide +kernel
theorem dX3_init_10 : decode cX3_init 10 = .ok (.invokespecial 9, 3) := by decide +kernel
theorem dX3_init_13 : decode cX3_init 13 = .ok (.putfield 12, 3) := by decide +kernel
theorem dX3_init_16 : decode cX3_init 16 = .ok (.return_, 1) := by decide +kernel
theorem dX3_copyFrom_0 : decode cX3_copyFrom 0 = .ok (.aload_n 0, 1) := by decide +kernel
theorem dX3_copyFrom_1 : decode cX3_copyFrom 1 = .ok (.aload_n 1, 1) := by decide +kernel
theorem dX3_copyFrom_2 : decode cX3_copyFrom 2 = .ok (.getfield 18, 3) := by decide +kernel
theorem dX3_copyFrom_5 : decode cX3_copyFrom 5 = .ok (.putfield 18, 3) := by decide +kernel
theorem dX3_copyFrom_8 : decode cX3_copyFrom 8 = .ok (.aload_n 0, 1) := by decide +kernel
theorem dX3_copyFrom_9 : decode cX3_copyFrom 9 = .ok (.aload_n 1, 1) := by decide +kernel
theorem dX3_copyFrom_10 : decode cX3_copyFrom 10 = .ok (.getfield 22, 3) := by decide +kernel
theorem dX3_copyFrom_13 : decode cX3_copyFrom 13 = .ok (.putfield 22, 3) := by decide +kernel
theorem dX3_copyFrom_16 : decode cX3_copyFrom 16 = .ok (.aload_n 0, 1) := by decide +kernel
theorem dX3_copyFrom_17 : decode cX3_copyFrom 17 = .ok (.aload_n 1, 1) := by decide +kernel
theorem dX3_copyFrom_18 : decode cX3_copyFrom 18 = .ok (.getfield 25, 3) := by decide +kernel
theorem dX3_copyFrom_21 : decode cX3_copyFrom 21 = .ok (.putfield 25, 3) := by decide +kernel
theorem dX3_copyFrom_24 : decode cX3_copyFrom 24 = .ok (.aload_n 0, 1) := by decide +kernel
theorem dX3_copyFrom_25 : decode cX3_copyFrom 25 = .ok (.getfield 12, 3) := by decide +kernel
theorem dX3_copyFrom_28 : decode cX3_copyFrom 28 = .ok (.aload_n 1, 1) := by decide +kernel
theorem dX3_copyFrom_29 : decode cX3_copyFrom 29 = .ok (.getfield 12, 3) := by decide +kernel
theorem dX3_copyFrom_32 : decode cX3_copyFrom 32 = .ok (.invokevirtual 28, 3) := by decide +kernel
theorem dX3_copyFrom_35 : decode cX3_copyFrom 35 = .ok (.return_, 1) := by decide +kernel
theorem dX3_fact_0 : decode cX3_fact 0 = .ok (.iload_n 1, 1) := by decide +kernel
theorem dX3_fact_1 : decode cX3_fact 1 = .ok (.lookupswitch 37 #[(0, 27), (1, 32)], 27) := by decide +kernel
theorem dX3_fact_28 : decode cX3_fact 28 = .ok (.aload_n 0, 1) := by decide +kernel
theorem dX3_fact_29 : decode cX3_fact 29 = .ok (.getfield 18, 3) := by decide +kernel
theorem dX3_fact_32 : decode cX3_fact 32 = .ok (.ireturn, 1) := by decide +kernel
theorem dX3_fact_33 : decode cX3_fact 33 = .ok (.aload_n 0, 1) := by decide +kernel
theorem dX3_fact_34 : decode cX3_fact 34 = .ok (.getfield 22, 3) := by decide +kernel
theorem dX3_fact_37 : decode cX3_fact 37 = .ok (.ireturn, 1) := by decide +kernel
theorem dX3_fact_38 : decode cX3_fact 38 = .ok (.aload_n 0, 1) := by decide +kernel
theorem dX3_fact_39 : decode cX3_fact 39 = .ok (.getfield 25, 3) := by decide +kernel
theorem dX3_fact_42 : decode cX3_fact 42 = .ok (.ireturn, 1) := by decide +kernel
theorem dX4_init_0 : decode cX4_init 0 = .ok (.aload_n 0, 1) := by decide +kernel
theorem dX4_init_1 : decode cX4_init 1 = .ok (.invokespecial 3, 3) := by decide +kernel
theorem dX4_init_4 : decode cX4_init 4 = .ok (.aload_n 0, 1) := by decide +kernel
theorem dX4_init_5 : decode cX4_init 5 = .ok (.bipush 60, 2) := by decide +kernel
theorem dX4_init_7 : decode cX4_init 7 = .ok (.newarray .int, 2) := by decide +kernel
theorem dX4_init_9 : decode cX4_init 9 = .ok (.putfield 9, 3) := by decide +kernel
theorem dX4_init_12 : decode cX4_init 12 = .ok (.aload_n 0, 1) := by decide +kernel
theorem dX4_init_13 : decode cX4_init 13 = .ok (.bipush 30, 2) := by decide +kernel
theorem dX4_init_15 : decode cX4_init 15 = .ok (.anewarray 15, 3) := by decide +kernel
theorem dX4_init_18 : decode cX4_init 18 = .ok (.putfield 17, 3) := by decide +kernel
theorem dX4_init_21 : decode cX4_init 21 = .ok (.iconst 0, 1) := by decide +kernel
theorem dX4_init_22 : decode cX4_init 22 = .ok (.istore_n 1, 1) := by decide +kernel
theorem dX4_init_23 : decode cX4_init 23 = .ok (.iload_n 1, 1) := by decide +kernel
theorem dX4_init_24 : decode cX4_init 24 = .ok (.bipush 30, 2) := by decide +kernel
theorem dX4_init_26 : decode cX4_init 26 = .ok (.if_icmp .ge 22, 3) := by decide +kernel
theorem dX4_init_29 : decode cX4_init 29 = .ok (.aload_n 0, 1) := by decide +kernel
theorem dX4_init_30 : decode cX4_init 30 = .ok (.getfield 17, 3) := by decide +kernel
theorem dX4_init_33 : decode cX4_init 33 = .ok (.iload_n 1, 1) := by decide +kernel
theorem dX4_init_34 : decode cX4_init 34 = .ok (.new 15, 3) := by decide +kernel
theorem dX4_init_37 : decode cX4_init 37 = .ok (.dup, 1) := by decide +kernel
theorem dX4_init_38 : decode cX4_init 38 = .ok (.invokespecial 21, 3) := by decide +kernel
theorem dX4_init_41 : decode cX4_init 41 = .ok (.aastore, 1) := by decide +kernel
theorem dX4_init_42 : decode cX4_init 42 = .ok (.iinc 1 1, 3) := by decide +kernel
theorem dX4_init_45 : decode cX4_init 45 = .ok (.goto (-22), 3) := by decide +kernel
theorem dX4_init_48 : decode cX4_init 48 = .ok (.return_, 1) := by decide +kernel
theorem dX4_append_0 : decode cX4_append 0 = .ok (.aload_n 0, 1) := by decide +kernel
theorem dX4_append_1 : decode cX4_append 1 = .ok (.getfield 9, 3) := by decide +kernel
theorem dX4_append_4 : decode cX4_append 4 = .ok (.aload_n 0, 1) := by decide +kernel
theorem dX4_append_5 : decode cX4_append 5 = .ok (.getfield 22, 3) := by decide +kernel
theorem dX4_append_8 : decode cX4_append 8 = .ok (.iload_n 1, 1) := by decide +kernel
theorem dX4_append_9 : decode cX4_append 9 = .ok (.iastore, 1) := by decide +kernel
theorem dX4_append_10 : decode cX4_append 10 = .ok (.aload_n 0, 1) := by decide +kernel
theorem dX4_append_11 : decode cX4_append 11 = .ok (.dup, 1) := by decide +kernel
theorem dX4_append_12 : decode cX4_append 12 = .ok (.getfield 22, 3) := by decide +kernel
theorem dX4_append_15 : decode cX4_append 15 = .ok (.iconst 1, 1) := by decide +kernel
theorem dX4_append_16 : decode cX4_append 16 = .ok (.iadd, 1) := by decide +kernel
theorem dX4_append_17 : decode cX4_append 17 = .ok (.putfield 22, 3) := by decide +kernel
theorem dX4_append_20 : decode cX4_append 20 = .ok (.return_, 1) := by decide +kernel
theorem dX4_read_0 : decode cX4_read 0 = .ok (.aload_n 0, 1) := by decide +kernel
theorem dX4_read_1 : decode cX4_read 1 = .ok (.iconst 0, 1) := by decide +kernel
theorem dX4_read_2 : decode cX4_read 2 = .ok (.putfield 26, 3) := by decide +kernel
theorem dX4_read_5 : decode cX4_read 5 = .ok (.aload_n 0, 1) := by decide +kernel
theorem dX4_read_6 : decode cX4_read 6 = .ok (.iconst 0, 1) := by decide +kernel
theorem dX4_read_7 : decode cX4_read 7 = .ok (.putfield 29, 3) := by decide +kernel
theorem dX4_read_10 : decode cX4_read 10 = .ok (.aload_n 0, 1) := by decide +kernel
theorem dX4_read_11 : decode cX4_read 11 = .ok (.getfield 29, 3) := by decide +kernel
theorem dX4_read_14 : decode cX4_read 14 = .ok (.bipush 30, 2) := by decide +kernel
theorem dX4_read_16 : decode cX4_read 16 = .ok (.if_icmp .ge 61, 3) := by decide +kernel
theorem dX4_read_19 : decode cX4_read 19 = .ok (.aload_n 0, 1) := by decide +kernel
theorem dX4_read_20 : decode cX4_read 20 = .ok (.aload_n 0, 1) := by decide +kernel
theorem dX4_read_21 : decode cX4_read 21 = .ok (.getfield 17, 3) := by decide +kernel
theorem dX4_read_24 : decode cX4_read 24 = .ok (.aload_n 0, 1) := by decide +kernel
theorem dX4_read_25 : decode cX4_read 25 = .ok (.getfield 29, 3) := by decide +kernel
theorem dX4_read_28 : decode cX4_read 28 = .ok (.aaload, 1) := by decide +kernel
theorem dX4_read_29 : decode cX4_read 29 = .ok (.invokevirtual 32, 3) := by decide +kernel
theorem dX4_read_32 : decode cX4_read 32 = .ok (.ifCond .ne 8, 3) := by decide +kernel
theorem dX4_read_35 : decode cX4_read 35 = .ok (.aload_n 0, 1) := by decide +kernel
theorem dX4_read_36 : decode cX4_read 36 = .ok (.getfield 26, 3) := by decide +kernel
theorem dX4_read_39 : decode cX4_read 39 = .ok (.ireturn, 1) := by decide +kernel
theorem dX4_read_40 : decode cX4_read 40 = .ok (.aload_n 0, 1) := by decide +kernel
theorem dX4_read_41 : decode cX4_read 41 = .ok (.dup, 1) := by decide +kernel
theorem dX4_read_42 : decode cX4_read 42 = .ok (.getfield 29, 3) := by decide +kernel
theorem dX4_read_45 : decode cX4_read 45 = .ok (.iconst 1, 1) := by decide +kernel
theorem dX4_read_46 : decode cX4_read 46 = .ok (.iadd, 1) := by decide +kernel
theorem dX4_read_47 : decode cX4_read 47 = .ok (.putfield 29, 3) := by decide +kernel
theorem dX4_read_50 : decode cX4_read 50 = .ok (.aload_n 0, 1) := by decide +kernel
theorem dX4_read_51 : decode cX4_read 51 = .ok (.getfield 26, 3) := by decide +kernel
theorem dX4_read_54 : decode cX4_read 54 = .ok (.aload_n 0, 1) := by decide +kernel
theorem dX4_read_55 : decode cX4_read 55 = .ok (.getfield 22, 3) := by decide +kernel
theorem dX4_read_58 : decode cX4_read 58 = .ok (.if_icmp .lt 5, 3) := by decide +kernel
theorem dX4_read_61 : decode cX4_read 61 = .ok (.iconst (-1), 1) := by decide +kernel
theorem dX4_read_62 : decode cX4_read 62 = .ok (.ireturn, 1) := by decide +kernel
theorem dX4_read_63 : decode cX4_read 63 = .ok (.aload_n 0, 1) := by decide +kernel
theorem dX4_read_64 : decode cX4_read 64 = .ok (.bipush 59, 2) := by decide +kernel
theorem dX4_read_66 : decode cX4_read 66 = .ok (.invokevirtual 36, 3) := by decide +kernel
theorem dX4_read_69 : decode cX4_read 69 = .ok (.ifCond .ne (-59), 3) := by decide +kernel
theorem dX4_read_72 : decode cX4_read 72 = .ok (.aload_n 0, 1) := by decide +kernel
theorem dX4_read_73 : decode cX4_read 73 = .ok (.getfield 26, 3) := by decide +kernel
theorem dX4_read_76 : decode cX4_read 76 = .ok (.ireturn, 1) := by decide +kernel
theorem dX4_read_77 : decode cX4_read 77 = .ok (.aload_n 0, 1) := by decide +kernel
theorem dX4_read_78 : decode cX4_read 78 = .ok (.getfield 26, 3) := by decide +kernel
theorem dX4_read_81 : decode cX4_read 81 = .ok (.ireturn, 1) := by decide +kernel
theorem dX4_readCommand_0 : decode cX4_readCommand 0 = .ok (.aload_n 0, 1) := by decide +kernel
theorem dX4_readCommand_1 : decode cX4_readCommand 1 = .ok (.getfield 26, 3) := by decide +kernel
theorem dX4_readCommand_4 : decode cX4_readCommand 4 = .ok (.aload_n 0, 1) := by decide +kernel
theorem dX4_readCommand_5 : decode cX4_readCommand 5 = .ok (.getfield 22, 3) := by decide +kernel
theorem dX4_readCommand_8 : decode cX4_readCommand 8 = .ok (.if_icmp .lt 5, 3) := by decide +kernel
theorem dX4_readCommand_11 : decode cX4_readCommand 11 = .ok (.iconst 0, 1) := by decide +kernel
theorem dX4_readCommand_12 : decode cX4_readCommand 12 = .ok (.ireturn, 1) := by decide +kernel
theorem dX4_readCommand_13 : decode cX4_readCommand 13 = .ok (.aload_n 1, 1) := by decide +kernel
theorem dX4_readCommand_14 : decode cX4_readCommand 14 = .ok (.aload_n 0, 1) := by decide +kernel
theorem dX4_readCommand_15 : decode cX4_readCommand 15 = .ok (.getfield 9, 3) := by decide +kernel
theorem dX4_readCommand_18 : decode cX4_readCommand 18 = .ok (.aload_n 0, 1) := by decide +kernel
theorem dX4_readCommand_19 : decode cX4_readCommand 19 = .ok (.getfield 26, 3) := by decide +kernel
theorem dX4_readCommand_22 : decode cX4_readCommand 22 = .ok (.iaload, 1) := by decide +kernel
theorem dX4_readCommand_23 : decode cX4_readCommand 23 = .ok (.putfield 40, 3) := by decide +kernel
theorem dX4_readCommand_26 : decode cX4_readCommand 26 = .ok (.aload_n 1, 1) := by decide +kernel
theorem dX4_readCommand_27 : decode cX4_readCommand 27 = .ok (.getfield 40, 3) := by decide +kernel
theorem dX4_readCommand_30 : decode cX4_readCommand 30 = .ok (.lookupswitch 177 #[(43, 58), (45, 58), (100, 93), (109, 136), (116, 169), (117, 93)], 58) := by decide +kernel
theorem dX4_readCommand_88 : decode cX4_readCommand 88 = .ok (.aload_n 0, 1) := by decide +kernel
theorem dX4_readCommand_89 : decode cX4_readCommand 89 = .ok (.aload_n 1, 1) := by decide +kernel
theorem dX4_readCommand_90 : decode cX4_readCommand 90 = .ok (.getfield 40, 3) := by decide +kernel
theorem dX4_readCommand_93 : decode cX4_readCommand 93 = .ok (.invokevirtual 36, 3) := by decide +kernel
theorem dX4_readCommand_96 : decode cX4_readCommand 96 = .ok (.ifCond .eq 25, 3) := by decide +kernel
theorem dX4_readCommand_99 : decode cX4_readCommand 99 = .ok (.aload_n 0, 1) := by decide +kernel
theorem dX4_readCommand_100 : decode cX4_readCommand 100 = .ok (.aload_n 1, 1) := by decide +kernel
theorem dX4_readCommand_101 : decode cX4_readCommand 101 = .ok (.invokevirtual 43, 3) := by decide +kernel
theorem dX4_readCommand_104 : decode cX4_readCommand 104 = .ok (.ifCond .eq 17, 3) := by decide +kernel
theorem dX4_readCommand_107 : decode cX4_readCommand 107 = .ok (.aload_n 0, 1) := by decide +kernel
theorem dX4_readCommand_108 : decode cX4_readCommand 108 = .ok (.bipush 58, 2) := by decide +kernel
theorem dX4_readCommand_110 : decode cX4_readCommand 110 = .ok (.aload_n 1, 1) := by decide +kernel
theorem dX4_readCommand_111 : decode cX4_readCommand 111 = .ok (.invokevirtual 46, 3) := by decide +kernel
theorem dX4_readCommand_114 : decode cX4_readCommand 114 = .ok (.ifCond .eq 7, 3) := by decide +kernel
theorem dX4_readCommand_117 : decode cX4_readCommand 117 = .ok (.iconst 1, 1) := by decide +kernel
theorem dX4_readCommand_118 : decode cX4_readCommand 118 = .ok (.goto 4, 3) := by decide +kernel
theorem dX4_readCommand_121 : decode cX4_readCommand 121 = .ok (.iconst 0, 1) := by decide +kernel
theorem dX4_readCommand_122 : decode cX4_readCommand 122 = .ok (.ireturn, 1) := by decide +kernel
theorem dX4_readCommand_123 : decode cX4_readCommand 123 = .ok (.aload_n 0, 1) := by decide +kernel
theorem dX4_readCommand_124 : decode cX4_readCommand 124 = .ok (.aload_n 1, 1) := by decide +kernel
theorem dX4_readCommand_125 : decode cX4_readCommand 125 = .ok (.getfield 40, 3) := by decide +kernel
theorem dX4_readCommand_128 : decode cX4_readCommand 128 = .ok (.invokevirtual 36, 3) := by decide +kernel
theorem dX4_readCommand_131 : decode cX4_readCommand 131 = .ok (.ifCond .eq 33, 3) := by decide +kernel
theorem dX4_readCommand_134 : decode cX4_readCommand 134 = .ok (.aload_n 0, 1) := by decide +kernel
theorem dX4_readCommand_135 : decode cX4_readCommand 135 = .ok (.aload_n 1, 1) := by decide +kernel
theorem dX4_readCommand_136 : decode cX4_readCommand 136 = .ok (.invokevirtual 43, 3) := by decide +kernel
theorem dX4_readCommand_139 : decode cX4_readCommand 139 = .ok (.ifCond .eq 25, 3) := by decide +kernel
theorem dX4_readCommand_142 : decode cX4_readCommand 142 = .ok (.aload_n 0, 1) := by decide +kernel
theorem dX4_readCommand_143 : decode cX4_readCommand 143 = .ok (.aload_n 1, 1) := by decide +kernel
theorem dX4_readCommand_144 : decode cX4_readCommand 144 = .ok (.invokevirtual 50, 3) := by decide +kernel
theorem dX4_readCommand_147 : decode cX4_readCommand 147 = .ok (.ifCond .eq 17, 3) := by decide +kernel
theorem dX4_readCommand_150 : decode cX4_readCommand 150 = .ok (.aload_n 0, 1) := by decide +kernel
theorem dX4_readCommand_151 : decode cX4_readCommand 151 = .ok (.bipush 58, 2) := by decide +kernel
theorem dX4_readCommand_153 : decode cX4_readCommand 153 = .ok (.aload_n 1, 1) := by decide +kernel
theorem dX4_readCommand_154 : decode cX4_readCommand 154 = .ok (.invokevirtual 46, 3) := by decide +kernel
theorem dX4_readCommand_157 : decode cX4_readCommand 157 = .ok (.ifCond .eq 7, 3) := by decide +kernel
theorem dX4_readCommand_160 : decode cX4_readCommand 160 = .ok (.iconst 1, 1) := by decide +kernel
theorem dX4_readCommand_161 : decode cX4_readCommand 161 = .ok (.goto 4, 3) := by decide +kernel
theorem dX4_readCommand_164 : decode cX4_readCommand 164 = .ok (.iconst 0, 1) := by decide +kernel
theorem dX4_readCommand_165 : decode cX4_readCommand 165 = .ok (.ireturn, 1) := by decide +kernel
theorem dX4_readCommand_166 : decode cX4_readCommand 166 = .ok (.aload_n 0, 1) := by decide +kernel
theorem dX4_readCommand_167 : decode cX4_readCommand 167 = .ok (.aload_n 1, 1) := by decide +kernel
theorem dX4_readCommand_168 : decode cX4_readCommand 168 = .ok (.getfield 40, 3) := by decide +kernel
theorem dX4_readCommand_171 : decode cX4_readCommand 171 = .ok (.invokevirtual 36, 3) := by decide +kernel
theorem dX4_readCommand_174 : decode cX4_readCommand 174 = .ok (.ifCond .eq 23, 3) := by decide +kernel
theorem dX4_readCommand_177 : decode cX4_readCommand 177 = .ok (.aload_n 0, 1) := by decide +kernel
theorem dX4_readCommand_178 : decode cX4_readCommand 178 = .ok (.aload_n 1, 1) := by decide +kernel
theorem dX4_readCommand_179 : decode cX4_readCommand 179 = .ok (.invokevirtual 43, 3) := by decide +kernel
theorem dX4_readCommand_182 : decode cX4_readCommand 182 = .ok (.ifCond .eq 15, 3) := by decide +kernel
theorem dX4_readCommand_185 : decode cX4_readCommand 185 = .ok (.aload_n 0, 1) := by decide +kernel
theorem dX4_readCommand_186 : decode cX4_readCommand 186 = .ok (.aload_n 1, 1) := by decide +kernel
theorem dX4_readCommand_187 : decode cX4_readCommand 187 = .ok (.invokevirtual 50, 3) := by decide +kernel
theorem dX4_readCommand_190 : decode cX4_readCommand 190 = .ok (.ifCond .eq 7, 3) := by decide +kernel
theorem dX4_readCommand_193 : decode cX4_readCommand 193 = .ok (.iconst 1, 1) := by decide +kernel
theorem dX4_readCommand_194 : decode cX4_readCommand 194 = .ok (.goto 4, 3) := by decide +kernel
theorem dX4_readCommand_197 : decode cX4_readCommand 197 = .ok (.iconst 0, 1) := by decide +kernel
theorem dX4_readCommand_198 : decode cX4_readCommand 198 = .ok (.ireturn, 1) := by decide +kernel
theorem dX4_readCommand_199 : decode cX4_readCommand 199 = .ok (.aload_n 0, 1) := by decide +kernel
theorem dX4_readCommand_200 : decode cX4_readCommand 200 = .ok (.bipush 116, 2) := by decide +kernel
theorem dX4_readCommand_202 : decode cX4_readCommand 202 = .ok (.aload_n 1, 1) := by decide +kernel
theorem dX4_readCommand_203 : decode cX4_readCommand 203 = .ok (.invokevirtual 46, 3) := by decide +kernel
theorem dX4_readCommand_206 : decode cX4_readCommand 206 = .ok (.ireturn, 1) := by decide +kernel
theorem dX4_readCommand_207 : decode cX4_readCommand 207 = .ok (.iconst 0, 1) := by decide +kernel
theorem dX4_readCommand_208 : decode cX4_readCommand 208 = .ok (.ireturn, 1) := by decide +kernel
theorem dX4_readSite_0 : decode cX4_readSite 0 = .ok (.aload_n 0, 1) := by decide +kernel
theorem dX4_readSite_1 : decode cX4_readSite 1 = .ok (.invokevirtual 53, 3) := by decide +kernel
theorem dX4_readSite_4 : decode cX4_readSite 4 = .ok (.ifCond .ne 5, 3) := by decide +kernel
theorem dX4_readSite_7 : decode cX4_readSite 7 = .ok (.iconst 0, 1) := by decide +kernel
theorem dX4_readSite_8 : decode cX4_readSite 8 = .ok (.ireturn, 1) := by decide +kernel
theorem dX4_readSite_9 : decode cX4_readSite 9 = .ok (.aload_n 1, 1) := by decide +kernel
theorem dX4_readSite_10 : decode cX4_readSite 10 = .ok (.aload_n 0, 1) := by decide +kernel
theorem dX4_readSite_11 : decode cX4_readSite 11 = .ok (.invokevirtual 57, 3) := by decide +kernel
theorem dX4_readSite_14 : decode cX4_readSite 14 = .ok (.putfield 61, 3) := by decide +kernel
theorem dX4_readSite_17 : decode cX4_readSite 17 = .ok (.iconst 1, 1) := by decide +kernel
theorem dX4_readSite_18 : decode cX4_readSite 18 = .ok (.ireturn, 1) := by decide +kernel
theorem dX4_readSecondSite_0 : decode cX4_readSecondSite 0 = .ok (.aload_n 0, 1) := by decide +kernel
theorem dX4_readSecondSite_1 : decode cX4_readSecondSite 1 = .ok (.bipush 62, 2) := by decide +kernel
theorem dX4_readSecondSite_3 : decode cX4_readSecondSite 3 = .ok (.invokevirtual 36, 3) := by decide +kernel
theorem dX4_readSecondSite_6 : decode cX4_readSecondSite 6 = .ok (.ifCond .eq 10, 3) := by decide +kernel
theorem dX4_readSecondSite_9 : decode cX4_readSecondSite 9 = .ok (.aload_n 0, 1) := by decide +kernel
theorem dX4_readSecondSite_10 : decode cX4_readSecondSite 10 = .ok (.invokevirtual 53, 3) := by decide +kernel
theorem dX4_readSecondSite_13 : decode cX4_readSecondSite 13 = .ok (.ifCond .ne 5, 3) := by decide +kernel
theorem dX4_readSecondSite_16 : decode cX4_readSecondSite 16 = .ok (.iconst 0, 1) := by decide +kernel
theorem dX4_readSecondSite_17 : decode cX4_readSecondSite 17 = .ok (.ireturn, 1) := by decide +kernel
theorem dX4_readSecondSite_18 : decode cX4_readSecondSite 18 = .ok (.aload_n 1, 1) := by decide +kernel
theorem dX4_readSecondSite_19 : decode cX4_readSecondSite 19 = .ok (.aload_n 0, 1) := by decide +kernel
theorem dX4_readSecondSite_20 : decode cX4_readSecondSite 20 = .ok (.invokevirtual 57, 3) := by decide +kernel
theorem dX4_readSecondSite_23 : decode cX4_readSecondSite 23 = .ok (.putfield 64, 3) := by decide +kernel
theorem dX4_readSecondSite_26 : decode cX4_readSecondSite 26 = .ok (.iconst 1, 1) := by decide +kernel
theorem dX4_readSecondSite_27 : decode cX4_readSecondSite 27 = .ok (.ireturn, 1) := by decide +kernel
theorem dX4_readNumberBehind_0 : decode cX4_readNumberBehind 0 = .ok (.aload_n 0, 1) := by decide +kernel
theorem dX4_readNumberBehind_1 : decode cX4_readNumberBehind 1 = .ok (.iload_n 1, 1) := by decide +kernel
theorem dX4_readNumberBehind_2 : decode cX4_readNumberBehind 2 = .ok (.invokevirtual 36, 3) := by decide +kernel
theorem dX4_readNumberBehind_5 : decode cX4_readNumberBehind 5 = .ok (.ifCond .ne 5, 3) := by decide +kernel
theorem dX4_readNumberBehind_8 : decode cX4_readNumberBehind 8 = .ok (.iconst 0, 1) := by decide +kernel
theorem dX4_readNumberBehind_9 : decode cX4_readNumberBehind 9 = .ok (.ireturn, 1) := by decide +kernel
theorem dX4_readNumberBehind_10 : decode cX4_readNumberBehind 10 = .ok (.iconst 0, 1) := by decide +kernel
theorem dX4_readNumberBehind_11 : decode cX4_readNumberBehind 11 = .ok (.istore_n 3, 1) := by decide +kernel
theorem dX4_readNumberBehind_12 : decode cX4_readNumberBehind 12 = .ok (.aload_n 2, 1) := by decide +kernel
theorem dX4_readNumberBehind_13 : decode cX4_readNumberBehind 13 = .ok (.iconst 0, 1) := by decide +kernel
theorem dX4_readNumberBehind_14 : decode cX4_readNumberBehind 14 = .ok (.putfield 67, 3) := by decide +kernel
theorem dX4_readNumberBehind_17 : decode cX4_readNumberBehind 17 = .ok (.iload_n 3, 1) := by decide +kernel
theorem dX4_readNumberBehind_18 : decode cX4_readNumberBehind 18 = .ok (.iconst 3, 1) := by decide +kernel
theorem dX4_readNumberBehind_19 : decode cX4_readNumberBehind 19 = .ok (.if_icmp .ge 32, 3) := by decide +kernel
theorem dX4_readNumberBehind_22 : decode cX4_readNumberBehind 22 = .ok (.aload_n 0, 1) := by decide +kernel
theorem dX4_readNumberBehind_23 : decode cX4_readNumberBehind 23 = .ok (.invokevirtual 53, 3) := by decide +kernel
theorem dX4_readNumberBehind_26 : decode cX4_readNumberBehind 26 = .ok (.ifCond .eq 25, 3) := by decide +kernel
theorem dX4_readNumberBehind_29 : decode cX4_readNumberBehind 29 = .ok (.aload_n 2, 1) := by decide +kernel
theorem dX4_readNumberBehind_30 : decode cX4_readNumberBehind 30 = .ok (.aload_n 2, 1) := by decide +kernel
theorem dX4_readNumberBehind_31 : decode cX4_readNumberBehind 31 = .ok (.getfield 67, 3) := by decide +kernel
theorem dX4_readNumberBehind_34 : decode cX4_readNumberBehind 34 = .ok (.bipush 10, 2) := by decide +kernel
theorem dX4_readNumberBehind_36 : decode cX4_readNumberBehind 36 = .ok (.imul, 1) := by decide +kernel
theorem dX4_readNumberBehind_37 : decode cX4_readNumberBehind 37 = .ok (.aload_n 0, 1) := by decide +kernel
theorem dX4_readNumberBehind_38 : decode cX4_readNumberBehind 38 = .ok (.invokevirtual 57, 3) := by decide +kernel
theorem dX4_readNumberBehind_41 : decode cX4_readNumberBehind 41 = .ok (.iadd, 1) := by decide +kernel
theorem dX4_readNumberBehind_42 : decode cX4_readNumberBehind 42 = .ok (.putfield 67, 3) := by decide +kernel
theorem dX4_readNumberBehind_45 : decode cX4_readNumberBehind 45 = .ok (.iinc 3 1, 3) := by decide +kernel
theorem dX4_readNumberBehind_48 : decode cX4_readNumberBehind 48 = .ok (.goto (-31), 3) := by decide +kernel
theorem dX4_readNumberBehind_51 : decode cX4_readNumberBehind 51 = .ok (.iload_n 3, 1) := by decide +kernel
theorem dX4_readNumberBehind_52 : decode cX4_readNumberBehind 52 = .ok (.ifCond .le 7, 3) := by decide +kernel
theorem dX4_readNumberBehind_55 : decode cX4_readNumberBehind 55 = .ok (.iconst 1, 1) := by decide +kernel
theorem dX4_readNumberBehind_56 : decode cX4_readNumberBehind 56 = .ok (.goto 4, 3) := by decide +kernel
theorem dX4_readNumberBehind_59 : decode cX4_readNumberBehind 59 = .ok (.iconst 0, 1) := by decide +kernel
theorem dX4_readNumberBehind_60 : decode cX4_readNumberBehind 60 = .ok (.ireturn, 1) := by decide +kernel
theorem dX4_readSign_0 : decode cX4_readSign 0 = .ok (.aload_n 0, 1) := by decide +kernel
theorem dX4_readSign_1 : decode cX4_readSign 1 = .ok (.getfield 26, 3) := by decide +kernel
theorem dX4_readSign_4 : decode cX4_readSign 4 = .ok (.aload_n 0, 1) := by decide +kernel
theorem dX4_readSign_5 : decode cX4_readSign 5 = .ok (.getfield 22, 3) := by decide +kernel
theorem dX4_readSign_8 : decode cX4_readSign 8 = .ok (.if_icmp .ge 16, 3) := by decide +kernel
theorem dX4_readSign_11 : decode cX4_readSign 11 = .ok (.aload_n 0, 1) := by decide +kernel
theorem dX4_readSign_12 : decode cX4_readSign 12 = .ok (.getfield 9, 3) := by decide +kernel
theorem dX4_readSign_15 : decode cX4_readSign 15 = .ok (.aload_n 0, 1) := by decide +kernel
theorem dX4_readSign_16 : decode cX4_readSign 16 = .ok (.getfield 26, 3) := by decide +kernel
theorem dX4_readSign_19 : decode cX4_readSign 19 = .ok (.iaload, 1) := by decide +kernel
theorem dX4_readSign_20 : decode cX4_readSign 20 = .ok (.iload_n 1, 1) := by decide +kernel
theorem dX4_readSign_21 : decode cX4_readSign 21 = .ok (.if_icmp .eq 5, 3) := by decide +kernel
theorem dX4_readSign_24 : decode cX4_readSign 24 = .ok (.iconst 0, 1) := by decide +kernel
theorem dX4_readSign_25 : decode cX4_readSign 25 = .ok (.ireturn, 1) := by decide +kernel
theorem dX4_readSign_26 : decode cX4_readSign 26 = .ok (.aload_n 0, 1) := by decide +kernel
theorem dX4_readSign_27 : decode cX4_readSign 27 = .ok (.dup, 1) := by decide +kernel
theorem dX4_readSign_28 : decode cX4_readSign 28 = .ok (.getfield 26, 3) := by decide +kernel
theorem dX4_readSign_31 : decode cX4_readSign 31 = .ok (.iconst 1, 1) := by decide +kernel
theorem dX4_readSign_32 : decode cX4_readSign 32 = .ok (.iadd, 1) := by decide +kernel
theorem dX4_readSign_33 : decode cX4_readSign 33 = .ok (.putfield 26, 3) := by decide +kernel
theorem dX4_readSign_36 : decode cX4_readSign 36 = .ok (.iconst 1, 1) := by decide +kernel
theorem dX4_readSign_37 : decode cX4_readSign 37 = .ok (.ireturn, 1) := by decide +kernel
theorem dX4_isDigitNext_0 : decode cX4_isDigitNext 0 = .ok (.aload_n 0, 1) := by decide +kernel
theorem dX4_isDigitNext_1 : decode cX4_isDigitNext 1 = .ok (.getfield 26, 3) := by decide +kernel
theorem dX4_isDigitNext_4 : decode cX4_isDigitNext 4 = .ok (.aload_n 0, 1) := by decide +kernel
theorem dX4_isDigitNext_5 : decode cX4_isDigitNext 5 = .ok (.getfield 22, 3) := by decide +kernel
theorem dX4_isDigitNext_8 : decode cX4_isDigitNext 8 = .ok (.if_icmp .ge 35, 3) := by decide +kernel
theorem dX4_isDigitNext_11 : decode cX4_isDigitNext 11 = .ok (.aload_n 0, 1) := by decide +kernel
theorem dX4_isDigitNext_12 : decode cX4_isDigitNext 12 = .ok (.getfield 9, 3) := by decide +kernel
theorem dX4_isDigitNext_15 : decode cX4_isDigitNext 15 = .ok (.aload_n 0, 1) := by decide +kernel
theorem dX4_isDigitNext_16 : decode cX4_isDigitNext 16 = .ok (.getfield 26, 3) := by decide +kernel
theorem dX4_isDigitNext_19 : decode cX4_isDigitNext 19 = .ok (.iaload, 1) := by decide +kernel
theorem dX4_isDigitNext_20 : decode cX4_isDigitNext 20 = .ok (.bipush 48, 2) := by decide +kernel
theorem dX4_isDigitNext_22 : decode cX4_isDigitNext 22 = .ok (.if_icmp .lt 21, 3) := by decide +kernel
theorem dX4_isDigitNext_25 : decode cX4_isDigitNext 25 = .ok (.aload_n 0, 1) := by decide +kernel
theorem dX4_isDigitNext_26 : decode cX4_isDigitNext 26 = .ok (.getfield 9, 3) := by decide +kernel
theorem dX4_isDigitNext_29 : decode cX4_isDigitNext 29 = .ok (.aload_n 0, 1) := by decide +kernel
theorem dX4_isDigitNext_30 : decode cX4_isDigitNext 30 = .ok (.getfield 26, 3) := by decide +kernel
theorem dX4_isDigitNext_33 : decode cX4_isDigitNext 33 = .ok (.iaload, 1) := by decide +kernel
theorem dX4_isDigitNext_34 : decode cX4_isDigitNext 34 = .ok (.bipush 57, 2) := by decide +kernel
theorem dX4_isDigitNext_36 : decode cX4_isDigitNext 36 = .ok (.if_icmp .gt 7, 3) := by decide +kernel
theorem dX4_isDigitNext_39 : decode cX4_isDigitNext 39 = .ok (.iconst 1, 1) := by decide +kernel
theorem dX4_isDigitNext_40 : decode cX4_isDigitNext 40 = .ok (.goto 4, 3) := by decide +kernel
theorem dX4_isDigitNext_43 : decode cX4_isDigitNext 43 = .ok (.iconst 0, 1) := by decide +kernel
theorem dX4_isDigitNext_44 : decode cX4_isDigitNext 44 = .ok (.ireturn, 1) := by decide +kernel
theorem dX4_readDigit_0 : decode cX4_readDigit 0 = .ok (.aload_n 0, 1) := by decide +kernel
theorem dX4_readDigit_1 : decode cX4_readDigit 1 = .ok (.getfield 9, 3) := by decide +kernel
theorem dX4_readDigit_4 : decode cX4_readDigit 4 = .ok (.aload_n 0, 1) := by decide +kernel
theorem dX4_readDigit_5 : decode cX4_readDigit 5 = .ok (.getfield 26, 3) := by decide +kernel
theorem dX4_readDigit_8 : decode cX4_readDigit 8 = .ok (.iaload, 1) := by decide +kernel
theorem dX4_readDigit_9 : decode cX4_readDigit 9 = .ok (.bipush 48, 2) := by decide +kernel
theorem dX4_readDigit_11 : decode cX4_readDigit 11 = .ok (.isub, 1) := by decide +kernel
theorem dX4_readDigit_12 : decode cX4_readDigit 12 = .ok (.istore_n 1, 1) := by decide +kernel
theorem dX4_readDigit_13 : decode cX4_readDigit 13 = .ok (.aload_n 0, 1) := by decide +kernel
theorem dX4_readDigit_14 : decode cX4_readDigit 14 = .ok (.dup, 1) := by decide +kernel
theorem dX4_readDigit_15 : decode cX4_readDigit 15 = .ok (.getfield 26, 3) := by decide +kernel
theorem dX4_readDigit_18 : decode cX4_readDigit 18 = .ok (.iconst 1, 1) := by decide +kernel
theorem dX4_readDigit_19 : decode cX4_readDigit 19 = .ok (.iadd, 1) := by decide +kernel
theorem dX4_readDigit_20 : decode cX4_readDigit 20 = .ok (.putfield 26, 3) := by decide +kernel
theorem dX4_readDigit_23 : decode cX4_readDigit 23 = .ok (.iload_n 1, 1) := by decide +kernel
theorem dX4_readDigit_24 : decode cX4_readDigit 24 = .ok (.ireturn, 1) := by decide +kernel
theorem dX5_init_0 : decode cX5_init 0 = .ok (.aload_n 0, 1) := by decide +kernel
theorem dX5_init_1 : decode cX5_init 1 = .ok (.invokespecial 3, 3) := by decide +kernel
theorem dX5_init_4 : decode cX5_init 4 = .ok (.aload_n 0, 1) := by decide +kernel
theorem dX5_init_5 : decode cX5_init 5 = .ok (.iconst 2, 1) := by decide +kernel
theorem dX5_init_6 : decode cX5_init 6 = .ok (.newarray .int, 2) := by decide +kernel
theorem dX5_init_8 : decode cX5_init 8 = .ok (.putfield 9, 3) := by decide +kernel
theorem dX5_init_11 : decode cX5_init 11 = .ok (.aload_n 0, 1) := by decide +kernel
theorem dX5_init_12 : decode cX5_init 12 = .ok (.iconst 2, 1) := by decide +kernel
theorem dX5_init_13 : decode cX5_init 13 = .ok (.newarray .int, 2) := by decide +kernel
theorem dX5_init_15 : decode cX5_init 15 = .ok (.putfield 15, 3) := by decide +kernel
theorem dX5_init_18 : decode cX5_init 18 = .ok (.aload_n 0, 1) := by decide +kernel
theorem dX5_init_19 : decode cX5_init 19 = .ok (.bipush 10, 2) := by decide +kernel
theorem dX5_init_21 : decode cX5_init 21 = .ok (.newarray .int, 2) := by decide +kernel
theorem dX5_init_23 : decode cX5_init 23 = .ok (.putfield 18, 3) := by decide +kernel
theorem dX5_init_26 : decode cX5_init 26 = .ok (.aload_n 0, 1) := by decide +kernel
theorem dX5_init_27 : decode cX5_init 27 = .ok (.bipush 10, 2) := by decide +kernel
theorem dX5_init_29 : decode cX5_init 29 = .ok (.newarray .int, 2) := by decide +kernel
theorem dX5_init_31 : decode cX5_init 31 = .ok (.putfield 21, 3) := by decide +kernel
theorem dX5_init_34 : decode cX5_init 34 = .ok (.return_, 1) := by decide +kernel
theorem dX5_clear_0 : decode cX5_clear 0 = .ok (.aload_n 0, 1) := by decide +kernel
theorem dX5_clear_1 : decode cX5_clear 1 = .ok (.iconst 0, 1) := by decide +kernel
theorem dX5_clear_2 : decode cX5_clear 2 = .ok (.putfield 24, 3) := by decide +kernel
theorem dX5_clear_5 : decode cX5_clear 5 = .ok (.aload_n 0, 1) := by decide +kernel
theorem dX5_clear_6 : decode cX5_clear 6 = .ok (.iconst 0, 1) := by decide +kernel
theorem dX5_clear_7 : decode cX5_clear 7 = .ok (.putfield 28, 3) := by decide +kernel
theorem dX5_clear_10 : decode cX5_clear 10 = .ok (.aload_n 0, 1) := by decide +kernel
theorem dX5_clear_11 : decode cX5_clear 11 = .ok (.iconst 0, 1) := by decide +kernel
theorem dX5_clear_12 : decode cX5_clear 12 = .ok (.putfield 31, 3) := by decide +kernel
theorem dX5_clear_15 : decode cX5_clear 15 = .ok (.iconst 0, 1) := by decide +kernel
theorem dX5_clear_16 : decode cX5_clear 16 = .ok (.istore_n 1, 1) := by decide +kernel
theorem dX5_clear_17 : decode cX5_clear 17 = .ok (.iload_n 1, 1) := by decide +kernel
theorem dX5_clear_18 : decode cX5_clear 18 = .ok (.iconst 2, 1) := by decide +kernel
theorem dX5_clear_19 : decode cX5_clear 19 = .ok (.if_icmp .ge 23, 3) := by decide +kernel
theorem dX5_clear_22 : decode cX5_clear 22 = .ok (.aload_n 0, 1) := by decide +kernel
theorem dX5_clear_23 : decode cX5_clear 23 = .ok (.getfield 9, 3) := by decide +kernel
theorem dX5_clear_26 : decode cX5_clear 26 = .ok (.iload_n 1, 1) := by decide +kernel
theorem dX5_clear_27 : decode cX5_clear 27 = .ok (.iconst 0, 1) := by decide +kernel
theorem dX5_clear_28 : decode cX5_clear 28 = .ok (.iastore, 1) := by decide +kernel
theorem dX5_clear_29 : decode cX5_clear 29 = .ok (.aload_n 0, 1) := by decide +kernel
theorem dX5_clear_30 : decode cX5_clear 30 = .ok (.getfield 15, 3) := by decide +kernel
theorem dX5_clear_33 : decode cX5_clear 33 = .ok (.iload_n 1, 1) := by decide +kernel
theorem dX5_clear_34 : decode cX5_clear 34 = .ok (.iconst 0, 1) := by decide +kernel
theorem dX5_clear_35 : decode cX5_clear 35 = .ok (.iastore, 1) := by decide +kernel
theorem dX5_clear_36 : decode cX5_clear 36 = .ok (.iinc 1 1, 3) := by decide +kernel
theorem dX5_clear_39 : decode cX5_clear 39 = .ok (.goto (-22), 3) := by decide +kernel
theorem dX5_clear_42 : decode cX5_clear 42 = .ok (.iconst 0, 1) := by decide +kernel
theorem dX5_clear_43 : decode cX5_clear 43 = .ok (.istore_n 1, 1) := by decide +kernel
theorem dX5_clear_44 : decode cX5_clear 44 = .ok (.iload_n 1, 1) := by decide +kernel
theorem dX5_clear_45 : decode cX5_clear 45 = .ok (.aload_n 0, 1) := by decide +kernel
theorem dX5_clear_46 : decode cX5_clear 46 = .ok (.getfield 18, 3) := by decide +kernel
theorem dX5_clear_49 : decode cX5_clear 49 = .ok (.arraylength, 1) := by decide +kernel
theorem dX5_clear_50 : decode cX5_clear 50 = .ok (.if_icmp .ge 16, 3) := by decide +kernel
theorem dX5_clear_53 : decode cX5_clear 53 = .ok (.aload_n 0, 1) := by decide +kernel
theorem dX5_clear_54 : decode cX5_clear 54 = .ok (.getfield 18, 3) := by decide +kernel
theorem dX5_clear_57 : decode cX5_clear 57 = .ok (.iload_n 1, 1) := by decide +kernel
theorem dX5_clear_58 : decode cX5_clear 58 = .ok (.iconst 0, 1) := by decide +kernel
theorem dX5_clear_59 : decode cX5_clear 59 = .ok (.iastore, 1) := by decide +kernel
theorem dX5_clear_60 : decode cX5_clear 60 = .ok (.iinc 1 1, 3) := by decide +kernel
theorem dX5_clear_63 : decode cX5_clear 63 = .ok (.goto (-19), 3) := by decide +kernel
theorem dX5_clear_66 : decode cX5_clear 66 = .ok (.iconst 0, 1) := by decide +kernel
theorem dX5_clear_67 : decode cX5_clear 67 = .ok (.istore_n 1, 1) := by decide +kernel
theorem dX5_clear_68 : decode cX5_clear 68 = .ok (.iload_n 1, 1) := by decide +kernel
theorem dX5_clear_69 : decode cX5_clear 69 = .ok (.bipush 10, 2) := by decide +kernel
theorem dX5_clear_71 : decode cX5_clear 71 = .ok (.if_icmp .ge 16, 3) := by decide +kernel
theorem dX5_clear_74 : decode cX5_clear 74 = .ok (.aload_n 0, 1) := by decide +kernel
theorem dX5_clear_75 : decode cX5_clear 75 = .ok (.getfield 21, 3) := by decide +kernel
theorem dX5_clear_78 : decode cX5_clear 78 = .ok (.iload_n 1, 1) := by decide +kernel
theorem dX5_clear_79 : decode cX5_clear 79 = .ok (.iconst 0, 1) := by decide +kernel
theorem dX5_clear_80 : decode cX5_clear 80 = .ok (.iastore, 1) := by decide +kernel
theorem dX5_clear_81 : decode cX5_clear 81 = .ok (.iinc 1 1, 3) := by decide +kernel
theorem dX5_clear_84 : decode cX5_clear 84 = .ok (.goto (-16), 3) := by decide +kernel
theorem dX5_clear_87 : decode cX5_clear 87 = .ok (.return_, 1) := by decide +kernel
theorem dX5_copyFrom_0 : decode cX5_copyFrom 0 = .ok (.aload_n 0, 1) := by decide +kernel
theorem dX5_copyFrom_1 : decode cX5_copyFrom 1 = .ok (.aload_n 1, 1) := by decide +kernel
theorem dX5_copyFrom_2 : decode cX5_copyFrom 2 = .ok (.getfield 24, 3) := by decide +kernel
theorem dX5_copyFrom_5 : decode cX5_copyFrom 5 = .ok (.putfield 24, 3) := by decide +kernel
theorem dX5_copyFrom_8 : decode cX5_copyFrom 8 = .ok (.aload_n 0, 1) := by decide +kernel
theorem dX5_copyFrom_9 : decode cX5_copyFrom 9 = .ok (.aload_n 1, 1) := by decide +kernel
theorem dX5_copyFrom_10 : decode cX5_copyFrom 10 = .ok (.getfield 28, 3) := by decide +kernel
theorem dX5_copyFrom_13 : decode cX5_copyFrom 13 = .ok (.putfield 28, 3) := by decide +kernel
theorem dX5_copyFrom_16 : decode cX5_copyFrom 16 = .ok (.aload_n 0, 1) := by decide +kernel
theorem dX5_copyFrom_17 : decode cX5_copyFrom 17 = .ok (.aload_n 1, 1) := by decide +kernel
theorem dX5_copyFrom_18 : decode cX5_copyFrom 18 = .ok (.getfield 31, 3) := by decide +kernel
theorem dX5_copyFrom_21 : decode cX5_copyFrom 21 = .ok (.putfield 31, 3) := by decide +kernel
theorem dX5_copyFrom_24 : decode cX5_copyFrom 24 = .ok (.aload_n 1, 1) := by decide +kernel
theorem dX5_copyFrom_25 : decode cX5_copyFrom 25 = .ok (.getfield 9, 3) := by decide +kernel
theorem dX5_copyFrom_28 : decode cX5_copyFrom 28 = .ok (.iconst 0, 1) := by decide +kernel
theorem dX5_copyFrom_29 : decode cX5_copyFrom 29 = .ok (.aload_n 0, 1) := by decide +kernel
theorem dX5_copyFrom_30 : decode cX5_copyFrom 30 = .ok (.getfield 9, 3) := by decide +kernel
theorem dX5_copyFrom_33 : decode cX5_copyFrom 33 = .ok (.iconst 0, 1) := by decide +kernel
theorem dX5_copyFrom_34 : decode cX5_copyFrom 34 = .ok (.iconst 2, 1) := by decide +kernel
theorem dX5_copyFrom_35 : decode cX5_copyFrom 35 = .ok (.invokestatic 34, 3) := by decide +kernel
theorem dX5_copyFrom_38 : decode cX5_copyFrom 38 = .ok (.aload_n 1, 1) := by decide +kernel
theorem dX5_copyFrom_39 : decode cX5_copyFrom 39 = .ok (.getfield 15, 3) := by decide +kernel
theorem dX5_copyFrom_42 : decode cX5_copyFrom 42 = .ok (.iconst 0, 1) := by decide +kernel
theorem dX5_copyFrom_43 : decode cX5_copyFrom 43 = .ok (.aload_n 0, 1) := by decide +kernel
theorem dX5_copyFrom_44 : decode cX5_copyFrom 44 = .ok (.getfield 15, 3) := by decide +kernel
theorem dX5_copyFrom_47 : decode cX5_copyFrom 47 = .ok (.iconst 0, 1) := by decide +kernel
theorem dX5_copyFrom_48 : decode cX5_copyFrom 48 = .ok (.iconst 2, 1) := by decide +kernel
theorem dX5_copyFrom_49 : decode cX5_copyFrom 49 = .ok (.invokestatic 34, 3) := by decide +kernel
theorem dX5_copyFrom_52 : decode cX5_copyFrom 52 = .ok (.aload_n 1, 1) := by decide +kernel
theorem dX5_copyFrom_53 : decode cX5_copyFrom 53 = .ok (.getfield 18, 3) := by decide +kernel
theorem dX5_copyFrom_56 : decode cX5_copyFrom 56 = .ok (.iconst 0, 1) := by decide +kernel
theorem dX5_copyFrom_57 : decode cX5_copyFrom 57 = .ok (.aload_n 0, 1) := by decide +kernel
theorem dX5_copyFrom_58 : decode cX5_copyFrom 58 = .ok (.getfield 18, 3) := by decide +kernel
theorem dX5_copyFrom_61 : decode cX5_copyFrom 61 = .ok (.iconst 0, 1) := by decide +kernel
theorem dX5_copyFrom_62 : decode cX5_copyFrom 62 = .ok (.bipush 10, 2) := by decide +kernel
theorem dX5_copyFrom_64 : decode cX5_copyFrom 64 = .ok (.invokestatic 34, 3) := by decide +kernel
theorem dX5_copyFrom_67 : decode cX5_copyFrom 67 = .ok (.aload_n 1, 1) := by decide +kernel
theorem dX5_copyFrom_68 : decode cX5_copyFrom 68 = .ok (.getfield 21, 3) := by decide +kernel
theorem dX5_copyFrom_71 : decode cX5_copyFrom 71 = .ok (.iconst 0, 1) := by decide +kernel
theorem dX5_copyFrom_72 : decode cX5_copyFrom 72 = .ok (.aload_n 0, 1) := by decide +kernel
theorem dX5_copyFrom_73 : decode cX5_copyFrom 73 = .ok (.getfield 21, 3) := by decide +kernel
theorem dX5_copyFrom_76 : decode cX5_copyFrom 76 = .ok (.iconst 0, 1) := by decide +kernel
theorem dX5_copyFrom_77 : decode cX5_copyFrom 77 = .ok (.bipush 10, 2) := by decide +kernel
theorem dX5_copyFrom_79 : decode cX5_copyFrom 79 = .ok (.invokestatic 34, 3) := by decide +kernel
theorem dX5_copyFrom_82 : decode cX5_copyFrom 82 = .ok (.return_, 1) := by decide +kernel
theorem dX5_hasLent_0 : decode cX5_hasLent 0 = .ok (.aload_n 0, 1) := by decide +kernel
theorem dX5_hasLent_1 : decode cX5_hasLent 1 = .ok (.getfield 31, 3) := by decide +kernel
theorem dX5_hasLent_4 : decode cX5_hasLent 4 = .ok (.iload_n 1, 1) := by decide +kernel
theorem dX5_hasLent_5 : decode cX5_hasLent 5 = .ok (.ishr, 1) := by decide +kernel
theorem dX5_hasLent_6 : decode cX5_hasLent 6 = .ok (.iconst 1, 1) := by decide +kernel
theorem dX5_hasLent_7 : decode cX5_hasLent 7 = .ok (.iand, 1) := by decide +kernel
theorem dX5_hasLent_8 : decode cX5_hasLent 8 = .ok (.iconst 1, 1) := by decide +kernel
theorem dX5_hasLent_9 : decode cX5_hasLent 9 = .ok (.if_icmp .ne 7, 3) := by decide +kernel
theorem dX5_hasLent_12 : decode cX5_hasLent 12 = .ok (.iconst 1, 1) := by decide +kernel
theorem dX5_hasLent_13 : decode cX5_hasLent 13 = .ok (.goto 4, 3) := by decide +kernel
theorem dX5_hasLent_16 : decode cX5_hasLent 16 = .ok (.iconst 0, 1) := by decide +kernel
theorem dX5_hasLent_17 : decode cX5_hasLent 17 = .ok (.ireturn, 1) := by decide +kernel
theorem dX5_isOlderThan_0 : decode cX5_isOlderThan 0 = .ok (.aload_n 0, 1) := by decide +kernel
theorem dX5_isOlderThan_1 : decode cX5_isOlderThan 1 = .ok (.getfield 24, 3) := by decide +kernel
theorem dX5_isOlderThan_4 : decode cX5_isOlderThan 4 = .ok (.aload_n 1, 1) := by decide +kernel
theorem dX5_isOlderThan_5 : decode cX5_isOlderThan 5 = .ok (.getfield 24, 3) := by decide +kernel
theorem dX5_isOlderThan_8 : decode cX5_isOlderThan 8 = .ok (.if_icmp .lt 25, 3) := by decide +kernel
theorem dX5_isOlderThan_11 : decode cX5_isOlderThan 11 = .ok (.aload_n 0, 1) := by decide +kernel
theorem dX5_isOlderThan_12 : decode cX5_isOlderThan 12 = .ok (.getfield 24, 3) := by decide +kernel
theorem dX5_isOlderThan_15 : decode cX5_isOlderThan 15 = .ok (.aload_n 1, 1) := by decide +kernel
theorem dX5_isOlderThan_16 : decode cX5_isOlderThan 16 = .ok (.getfield 24, 3) := by decide +kernel
theorem dX5_isOlderThan_19 : decode cX5_isOlderThan 19 = .ok (.if_icmp .ne 18, 3) := by decide +kernel
theorem dX5_isOlderThan_22 : decode cX5_isOlderThan 22 = .ok (.aload_n 0, 1) := by decide +kernel
theorem dX5_isOlderThan_23 : decode cX5_isOlderThan 23 = .ok (.getfield 28, 3) := by decide +kernel
theorem dX5_isOlderThan_26 : decode cX5_isOlderThan 26 = .ok (.aload_n 1, 1) := by decide +kernel
theorem dX5_isOlderThan_27 : decode cX5_isOlderThan 27 = .ok (.getfield 28, 3) := by decide +kernel
theorem dX5_isOlderThan_30 : decode cX5_isOlderThan 30 = .ok (.if_icmp .ge 7, 3) := by decide +kernel
theorem dX5_isOlderThan_33 : decode cX5_isOlderThan 33 = .ok (.iconst 1, 1) := by decide +kernel
theorem dX5_isOlderThan_34 : decode cX5_isOlderThan 34 = .ok (.goto 4, 3) := by decide +kernel
theorem dX5_isOlderThan_37 : decode cX5_isOlderThan 37 = .ok (.iconst 0, 1) := by decide +kernel
theorem dX5_isOlderThan_38 : decode cX5_isOlderThan 38 = .ok (.ireturn, 1) := by decide +kernel
theorem dX5_givenTo_0 : decode cX5_givenTo 0 = .ok (.aload_n 0, 1) := by decide +kernel
theorem dX5_givenTo_1 : decode cX5_givenTo 1 = .ok (.getfield 18, 3) := by decide +kernel
theorem dX5_givenTo_4 : decode cX5_givenTo 4 = .ok (.iload_n 2, 1) := by decide +kernel
theorem dX5_givenTo_5 : decode cX5_givenTo 5 = .ok (.iconst 5, 1) := by decide +kernel
theorem dX5_givenTo_6 : decode cX5_givenTo 6 = .ok (.imul, 1) := by decide +kernel
theorem dX5_givenTo_7 : decode cX5_givenTo 7 = .ok (.iload_n 1, 1) := by decide +kernel
theorem dX5_givenTo_8 : decode cX5_givenTo 8 = .ok (.iadd, 1) := by decide +kernel
theorem dX5_givenTo_9 : decode cX5_givenTo 9 = .ok (.iaload, 1) := by decide +kernel
theorem dX5_givenTo_10 : decode cX5_givenTo 10 = .ok (.ireturn, 1) := by decide +kernel
theorem dX5_give_0 : decode cX5_give 0 = .ok (.aload_n 0, 1) := by decide +kernel
theorem dX5_give_1 : decode cX5_give 1 = .ok (.getfield 18, 3) := by decide +kernel
theorem dX5_give_4 : decode cX5_give 4 = .ok (.iload_n 2, 1) := by decide +kernel
theorem dX5_give_5 : decode cX5_give 5 = .ok (.iconst 5, 1) := by decide +kernel
theorem dX5_give_6 : decode cX5_give 6 = .ok (.imul, 1) := by decide +kernel
theorem dX5_give_7 : decode cX5_give 7 = .ok (.iload_n 1, 1) := by decide +kernel
theorem dX5_give_8 : decode cX5_give 8 = .ok (.iadd, 1) := by decide +kernel
theorem dX5_give_9 : decode cX5_give 9 = .ok (.dup2, 1) := by decide +kernel
theorem dX5_give_10 : decode cX5_give 10 = .ok (.iaload, 1) := by decide +kernel
theorem dX5_give_11 : decode cX5_give 11 = .ok (.iload_n 3, 1) := by decide +kernel
theorem dX5_give_12 : decode cX5_give 12 = .ok (.iadd, 1) := by decide +kernel
theorem dX5_give_13 : decode cX5_give 13 = .ok (.iastore, 1) := by decide +kernel
theorem dX5_give_14 : decode cX5_give 14 = .ok (.aload_n 0, 1) := by decide +kernel
theorem dX5_give_15 : decode cX5_give 15 = .ok (.dup, 1) := by decide +kernel
theorem dX5_give_16 : decode cX5_give 16 = .ok (.getfield 24, 3) := by decide +kernel
theorem dX5_give_19 : decode cX5_give 19 = .ok (.iconst 1, 1) := by decide +kernel
theorem dX5_give_20 : decode cX5_give 20 = .ok (.iadd, 1) := by decide +kernel
theorem dX5_give_21 : decode cX5_give 21 = .ok (.putfield 24, 3) := by decide +kernel
theorem dX5_give_24 : decode cX5_give 24 = .ok (.return_, 1) := by decide +kernel
theorem dX6_init_0 : decode cX6_init 0 = .ok (.aload_n 0, 1) := by decide +kernel
theorem dX6_init_1 : decode cX6_init 1 = .ok (.invokespecial 3, 3) := by decide +kernel
theorem dX6_init_4 : decode cX6_init 4 = .ok (.aload_n 0, 1) := by decide +kernel
theorem dX6_init_5 : decode cX6_init 5 = .ok (.bipush 10, 2) := by decide +kernel
theorem dX6_init_7 : decode cX6_init 7 = .ok (.anewarray 9, 3) := by decide +kernel
theorem dX6_init_10 : decode cX6_init 10 = .ok (.putfield 11, 3) := by decide +kernel
theorem dX6_init_13 : decode cX6_init 13 = .ok (.aload_n 0, 1) := by decide +kernel
theorem dX6_init_14 : decode cX6_init 14 = .ok (.bipush 8, 2) := by decide +kernel
theorem dX6_init_16 : decode cX6_init 16 = .ok (.anewarray 17, 3) := by decide +kernel
theorem dX6_init_19 : decode cX6_init 19 = .ok (.putfield 19, 3) := by decide +kernel
theorem dX6_init_22 : decode cX6_init 22 = .ok (.aload_n 0, 1) := by decide +kernel
theorem dX6_init_23 : decode cX6_init 23 = .ok (.iload_n 1, 1) := by decide +kernel
theorem dX6_init_24 : decode cX6_init 24 = .ok (.putfield 23, 3) := by decide +kernel
theorem dX6_init_27 : decode cX6_init 27 = .ok (.aload_n 0, 1) := by decide +kernel
theorem dX6_init_28 : decode cX6_init 28 = .ok (.iload_n 1, 1) := by decide +kernel
theorem dX6_init_29 : decode cX6_init 29 = .ok (.anewarray 27, 3) := by decide +kernel
theorem dX6_init_32 : decode cX6_init 32 = .ok (.putfield 29, 3) := by decide +kernel
theorem dX6_init_35 : decode cX6_init 35 = .ok (.iconst 0, 1) := by decide +kernel
theorem dX6_init_36 : decode cX6_init 36 = .ok (.istore_n 2, 1) := by decide +kernel
theorem dX6_init_37 : decode cX6_init 37 = .ok (.iload_n 2, 1) := by decide +kernel
theorem dX6_init_38 : decode cX6_init 38 = .ok (.iload_n 1, 1) := by decide +kernel
theorem dX6_init_39 : decode cX6_init 39 = .ok (.if_icmp .ge 23, 3) := by decide +kernel
theorem dX6_init_42 : decode cX6_init 42 = .ok (.aload_n 0, 1) := by decide +kernel
theorem dX6_init_43 : decode cX6_init 43 = .ok (.getfield 29, 3) := by decide +kernel
theorem dX6_init_46 : decode cX6_init 46 = .ok (.iload_n 2, 1) := by decide +kernel
theorem dX6_init_47 : decode cX6_init 47 = .ok (.new 27, 3) := by decide +kernel
theorem dX6_init_50 : decode cX6_init 50 = .ok (.dup, 1) := by decide +kernel
theorem dX6_init_51 : decode cX6_init 51 = .ok (.iload_n 1, 1) := by decide +kernel
theorem dX6_init_52 : decode cX6_init 52 = .ok (.invokespecial 33, 3) := by decide +kernel
theorem dX6_init_55 : decode cX6_init 55 = .ok (.aastore, 1) := by decide +kernel
theorem dX6_init_56 : decode cX6_init 56 = .ok (.iinc 2 1, 3) := by decide +kernel
theorem dX6_init_59 : decode cX6_init 59 = .ok (.goto (-22), 3) := by decide +kernel
theorem dX6_init_62 : decode cX6_init 62 = .ok (.iconst 0, 1) := by decide +kernel
theorem dX6_init_63 : decode cX6_init 63 = .ok (.istore_n 2, 1) := by decide +kernel
theorem dX6_init_64 : decode cX6_init 64 = .ok (.iload_n 2, 1) := by decide +kernel
theorem dX6_init_65 : decode cX6_init 65 = .ok (.bipush 10, 2) := by decide +kernel
theorem dX6_init_67 : decode cX6_init 67 = .ok (.if_icmp .ge 22, 3) := by decide +kernel
theorem dX6_init_70 : decode cX6_init 70 = .ok (.aload_n 0, 1) := by decide +kernel
theorem dX6_init_71 : decode cX6_init 71 = .ok (.getfield 11, 3) := by decide +kernel
theorem dX6_init_74 : decode cX6_init 74 = .ok (.iload_n 2, 1) := by decide +kernel
theorem dX6_init_75 : decode cX6_init 75 = .ok (.new 9, 3) := by decide +kernel
theorem dX6_init_78 : decode cX6_init 78 = .ok (.dup, 1) := by decide +kernel
theorem dX6_init_79 : decode cX6_init 79 = .ok (.invokespecial 36, 3) := by decide +kernel
theorem dX6_init_82 : decode cX6_init 82 = .ok (.aastore, 1) := by decide +kernel
theorem dX6_init_83 : decode cX6_init 83 = .ok (.iinc 2 1, 3) := by decide +kernel
theorem dX6_init_86 : decode cX6_init 86 = .ok (.goto (-22), 3) := by decide +kernel
theorem dX6_init_89 : decode cX6_init 89 = .ok (.iconst 0, 1) := by decide +kernel
theorem dX6_init_90 : decode cX6_init 90 = .ok (.istore_n 2, 1) := by decide +kernel
theorem dX6_init_91 : decode cX6_init 91 = .ok (.iload_n 2, 1) := by decide +kernel
theorem dX6_init_92 : decode cX6_init 92 = .ok (.bipush 8, 2) := by decide +kernel
theorem dX6_init_94 : decode cX6_init 94 = .ok (.if_icmp .ge 23, 3) := by decide +kernel
theorem dX6_init_97 : decode cX6_init 97 = .ok (.aload_n 0, 1) := by decide +kernel
theorem dX6_init_98 : decode cX6_init 98 = .ok (.getfield 19, 3) := by decide +kernel
theorem dX6_init_101 : decode cX6_init 101 = .ok (.iload_n 2, 1) := by decide +kernel
theorem dX6_init_102 : decode cX6_init 102 = .ok (.new 17, 3) := by decide +kernel
theorem dX6_init_105 : decode cX6_init 105 = .ok (.dup, 1) := by decide +kernel
theorem dX6_init_106 : decode cX6_init 106 = .ok (.iload_n 1, 1) := by decide +kernel
theorem dX6_init_107 : decode cX6_init 107 = .ok (.invokespecial 37, 3) := by decide +kernel
theorem dX6_init_110 : decode cX6_init 110 = .ok (.aastore, 1) := by decide +kernel
theorem dX6_init_111 : decode cX6_init 111 = .ok (.iinc 2 1, 3) := by decide +kernel
theorem dX6_init_114 : decode cX6_init 114 = .ok (.goto (-23), 3) := by decide +kernel
theorem dX6_init_117 : decode cX6_init 117 = .ok (.return_, 1) := by decide +kernel
theorem dX6_beginAnew_0 : decode cX6_beginAnew 0 = .ok (.aload_n 0, 1) := by decide +kernel
theorem dX6_beginAnew_1 : decode cX6_beginAnew 1 = .ok (.iload_n 1, 1) := by decide +kernel
theorem dX6_beginAnew_2 : decode cX6_beginAnew 2 = .ok (.putfield 38, 3) := by decide +kernel
theorem dX6_beginAnew_5 : decode cX6_beginAnew 5 = .ok (.aload_n 0, 1) := by decide +kernel
theorem dX6_beginAnew_6 : decode cX6_beginAnew 6 = .ok (.iload_n 2, 1) := by decide +kernel
theorem dX6_beginAnew_7 : decode cX6_beginAnew 7 = .ok (.putfield 41, 3) := by decide +kernel
theorem dX6_beginAnew_10 : decode cX6_beginAnew 10 = .ok (.aload_n 0, 1) := by decide +kernel
theorem dX6_beginAnew_11 : decode cX6_beginAnew 11 = .ok (.iload_n 3, 1) := by decide +kernel
theorem dX6_beginAnew_12 : decode cX6_beginAnew 12 = .ok (.putfield 44, 3) := by decide +kernel
theorem dX6_beginAnew_15 : decode cX6_beginAnew 15 = .ok (.aload_n 0, 1) := by decide +kernel
theorem dX6_beginAnew_16 : decode cX6_beginAnew 16 = .ok (.iconst 0, 1) := by decide +kernel
theorem dX6_beginAnew_17 : decode cX6_beginAnew 17 = .ok (.putfield 47, 3) := by decide +kernel
theorem dX6_beginAnew_20 : decode cX6_beginAnew 20 = .ok (.aload_n 0, 1) := by decide +kernel
theorem dX6_beginAnew_21 : decode cX6_beginAnew 21 = .ok (.iconst 0, 1) := by decide +kernel
theorem dX6_beginAnew_22 : decode cX6_beginAnew 22 = .ok (.putfield 50, 3) := by decide +kernel
theorem dX6_beginAnew_25 : decode cX6_beginAnew 25 = .ok (.aload_n 0, 1) := by decide +kernel
theorem dX6_beginAnew_26 : decode cX6_beginAnew 26 = .ok (.iconst 0, 1) := by decide +kernel
theorem dX6_beginAnew_27 : decode cX6_beginAnew 27 = .ok (.putfield 53, 3) := by decide +kernel
theorem dX6_beginAnew_30 : decode cX6_beginAnew 30 = .ok (.iconst 0, 1) := by decide +kernel
theorem dX6_beginAnew_31 : decode cX6_beginAnew 31 = .ok (.istore 4, 2) := by decide +kernel
theorem dX6_beginAnew_33 : decode cX6_beginAnew 33 = .ok (.iload 4, 2) := by decide +kernel
theorem dX6_beginAnew_35 : decode cX6_beginAnew 35 = .ok (.aload_n 0, 1) := by decide +kernel
theorem dX6_beginAnew_36 : decode cX6_beginAnew 36 = .ok (.getfield 23, 3) := by decide +kernel
theorem dX6_beginAnew_39 : decode cX6_beginAnew 39 = .ok (.if_icmp .ge 19, 3) := by decide +kernel
theorem dX6_beginAnew_42 : decode cX6_beginAnew 42 = .ok (.aload_n 0, 1) := by decide +kernel
theorem dX6_beginAnew_43 : decode cX6_beginAnew 43 = .ok (.getfield 29, 3) := by decide +kernel
theorem dX6_beginAnew_46 : decode cX6_beginAnew 46 = .ok (.iload 4, 2) := by decide +kernel
theorem dX6_beginAnew_48 : decode cX6_beginAnew 48 = .ok (.aaload, 1) := by decide +kernel
theorem dX6_beginAnew_49 : decode cX6_beginAnew 49 = .ok (.invokevirtual 56, 3) := by decide +kernel
theorem dX6_beginAnew_52 : decode cX6_beginAnew 52 = .ok (.iinc 4 1, 3) := by decide +kernel
theorem dX6_beginAnew_55 : decode cX6_beginAnew 55 = .ok (.goto (-22), 3) := by decide +kernel
theorem dX6_beginAnew_58 : decode cX6_beginAnew 58 = .ok (.return_, 1) := by decide +kernel
theorem dX6_copyFrom_0 : decode cX6_copyFrom 0 = .ok (.aload_n 0, 1) := by decide +kernel
theorem dX6_copyFrom_1 : decode cX6_copyFrom 1 = .ok (.aload_n 1, 1) := by decide +kernel
theorem dX6_copyFrom_2 : decode cX6_copyFrom 2 = .ok (.getfield 38, 3) := by decide +kernel
theorem dX6_copyFrom_5 : decode cX6_copyFrom 5 = .ok (.putfield 38, 3) := by decide +kernel
theorem dX6_copyFrom_8 : decode cX6_copyFrom 8 = .ok (.aload_n 0, 1) := by decide +kernel
theorem dX6_copyFrom_9 : decode cX6_copyFrom 9 = .ok (.aload_n 1, 1) := by decide +kernel
theorem dX6_copyFrom_10 : decode cX6_copyFrom 10 = .ok (.getfield 41, 3) := by decide +kernel
theorem dX6_copyFrom_13 : decode cX6_copyFrom 13 = .ok (.putfield 41, 3) := by decide +kernel
theorem dX6_copyFrom_16 : decode cX6_copyFrom 16 = .ok (.aload_n 0, 1) := by decide +kernel
theorem dX6_copyFrom_17 : decode cX6_copyFrom 17 = .ok (.aload_n 1, 1) := by decide +kernel
theorem dX6_copyFrom_18 : decode cX6_copyFrom 18 = .ok (.getfield 44, 3) := by decide +kernel
theorem dX6_copyFrom_21 : decode cX6_copyFrom 21 = .ok (.putfield 44, 3) := by decide +kernel
theorem dX6_copyFrom_24 : decode cX6_copyFrom 24 = .ok (.aload_n 0, 1) := by decide +kernel
theorem dX6_copyFrom_25 : decode cX6_copyFrom 25 = .ok (.aload_n 1, 1) := by decide +kernel
theorem dX6_copyFrom_26 : decode cX6_copyFrom 26 = .ok (.getfield 47, 3) := by decide +kernel
theorem dX6_copyFrom_29 : decode cX6_copyFrom 29 = .ok (.putfield 47, 3) := by decide +kernel
theorem dX6_copyFrom_32 : decode cX6_copyFrom 32 = .ok (.aload_n 0, 1) := by decide +kernel
theorem dX6_copyFrom_33 : decode cX6_copyFrom 33 = .ok (.aload_n 1, 1) := by decide +kernel
theorem dX6_copyFrom_34 : decode cX6_copyFrom 34 = .ok (.getfield 50, 3) := by decide +kernel
theorem dX6_copyFrom_37 : decode cX6_copyFrom 37 = .ok (.putfield 50, 3) := by decide +kernel
theorem dX6_copyFrom_40 : decode cX6_copyFrom 40 = .ok (.aload_n 0, 1) := by decide +kernel
theorem dX6_copyFrom_41 : decode cX6_copyFrom 41 = .ok (.aload_n 1, 1) := by decide +kernel
theorem dX6_copyFrom_42 : decode cX6_copyFrom 42 = .ok (.getfield 53, 3) := by decide +kernel
theorem dX6_copyFrom_45 : decode cX6_copyFrom 45 = .ok (.putfield 53, 3) := by decide +kernel
theorem dX6_copyFrom_48 : decode cX6_copyFrom 48 = .ok (.iconst 0, 1) := by decide +kernel
theorem dX6_copyFrom_49 : decode cX6_copyFrom 49 = .ok (.istore_n 2, 1) := by decide +kernel
theorem dX6_copyFrom_50 : decode cX6_copyFrom 50 = .ok (.iload_n 2, 1) := by decide +kernel
theorem dX6_copyFrom_51 : decode cX6_copyFrom 51 = .ok (.aload_n 0, 1) := by decide +kernel
theorem dX6_copyFrom_52 : decode cX6_copyFrom 52 = .ok (.getfield 23, 3) := by decide +kernel
theorem dX6_copyFrom_55 : decode cX6_copyFrom 55 = .ok (.if_icmp .ge 24, 3) := by decide +kernel
theorem dX6_copyFrom_58 : decode cX6_copyFrom 58 = .ok (.aload_n 0, 1) := by decide +kernel
theorem dX6_copyFrom_59 : decode cX6_copyFrom 59 = .ok (.getfield 29, 3) := by decide +kernel
theorem dX6_copyFrom_62 : decode cX6_copyFrom 62 = .ok (.iload_n 2, 1) := by decide +kernel
theorem dX6_copyFrom_63 : decode cX6_copyFrom 63 = .ok (.aaload, 1) := by decide +kernel
theorem dX6_copyFrom_64 : decode cX6_copyFrom 64 = .ok (.aload_n 1, 1) := by decide +kernel
theorem dX6_copyFrom_65 : decode cX6_copyFrom 65 = .ok (.getfield 29, 3) := by decide +kernel
theorem dX6_copyFrom_68 : decode cX6_copyFrom 68 = .ok (.iload_n 2, 1) := by decide +kernel
theorem dX6_copyFrom_69 : decode cX6_copyFrom 69 = .ok (.aaload, 1) := by decide +kernel
theorem dX6_copyFrom_70 : decode cX6_copyFrom 70 = .ok (.invokevirtual 59, 3) := by decide +kernel
theorem dX6_copyFrom_73 : decode cX6_copyFrom 73 = .ok (.iinc 2 1, 3) := by decide +kernel
theorem dX6_copyFrom_76 : decode cX6_copyFrom 76 = .ok (.goto (-26), 3) := by decide +kernel
theorem dX6_copyFrom_79 : decode cX6_copyFrom 79 = .ok (.iconst 0, 1) := by decide +kernel
theorem dX6_copyFrom_80 : decode cX6_copyFrom 80 = .ok (.istore_n 2, 1) := by decide +kernel
theorem dX6_copyFrom_81 : decode cX6_copyFrom 81 = .ok (.iload_n 2, 1) := by decide +kernel
theorem dX6_copyFrom_82 : decode cX6_copyFrom 82 = .ok (.aload_n 0, 1) := by decide +kernel
theorem dX6_copyFrom_83 : decode cX6_copyFrom 83 = .ok (.getfield 50, 3) := by decide +kernel
theorem dX6_copyFrom_86 : decode cX6_copyFrom 86 = .ok (.if_icmp .ge 24, 3) := by decide +kernel
theorem dX6_copyFrom_89 : decode cX6_copyFrom 89 = .ok (.aload_n 0, 1) := by decide +kernel
theorem dX6_copyFrom_90 : decode cX6_copyFrom 90 = .ok (.getfield 11, 3) := by decide +kernel
theorem dX6_copyFrom_93 : decode cX6_copyFrom 93 = .ok (.iload_n 2, 1) := by decide +kernel
theorem dX6_copyFrom_94 : decode cX6_copyFrom 94 = .ok (.aaload, 1) := by decide +kernel
theorem dX6_copyFrom_95 : decode cX6_copyFrom 95 = .ok (.aload_n 1, 1) := by decide +kernel
theorem dX6_copyFrom_96 : decode cX6_copyFrom 96 = .ok (.getfield 11, 3) := by decide +kernel
theorem dX6_copyFrom_99 : decode cX6_copyFrom 99 = .ok (.iload_n 2, 1) := by decide +kernel
theorem dX6_copyFrom_100 : decode cX6_copyFrom 100 = .ok (.aaload, 1) := by decide +kernel
theorem dX6_copyFrom_101 : decode cX6_copyFrom 101 = .ok (.invokevirtual 63, 3) := by decide +kernel
theorem dX6_copyFrom_104 : decode cX6_copyFrom 104 = .ok (.iinc 2 1, 3) := by decide +kernel
theorem dX6_copyFrom_107 : decode cX6_copyFrom 107 = .ok (.goto (-26), 3) := by decide +kernel
theorem dX6_copyFrom_110 : decode cX6_copyFrom 110 = .ok (.iconst 0, 1) := by decide +kernel
theorem dX6_copyFrom_111 : decode cX6_copyFrom 111 = .ok (.istore_n 2, 1) := by decide +kernel
theorem dX6_copyFrom_112 : decode cX6_copyFrom 112 = .ok (.iload_n 2, 1) := by decide +kernel
theorem dX6_copyFrom_113 : decode cX6_copyFrom 113 = .ok (.aload_n 0, 1) := by decide +kernel
theorem dX6_copyFrom_114 : decode cX6_copyFrom 114 = .ok (.getfield 53, 3) := by decide +kernel
theorem dX6_copyFrom_117 : decode cX6_copyFrom 117 = .ok (.if_icmp .ge 24, 3) := by decide +kernel
theorem dX6_copyFrom_120 : decode cX6_copyFrom 120 = .ok (.aload_n 0, 1) := by decide +kernel
theorem dX6_copyFrom_121 : decode cX6_copyFrom 121 = .ok (.getfield 19, 3) := by decide +kernel
theorem dX6_copyFrom_124 : decode cX6_copyFrom 124 = .ok (.iload_n 2, 1) := by decide +kernel
theorem dX6_copyFrom_125 : decode cX6_copyFrom 125 = .ok (.aaload, 1) := by decide +kernel
theorem dX6_copyFrom_126 : decode cX6_copyFrom 126 = .ok (.aload_n 1, 1) := by decide +kernel
theorem dX6_copyFrom_127 : decode cX6_copyFrom 127 = .ok (.getfield 19, 3) := by decide +kernel
theorem dX6_copyFrom_130 : decode cX6_copyFrom 130 = .ok (.iload_n 2, 1) := by decide +kernel
theorem dX6_copyFrom_131 : decode cX6_copyFrom 131 = .ok (.aaload, 1) := by decide +kernel
theorem dX6_copyFrom_132 : decode cX6_copyFrom 132 = .ok (.invokevirtual 66, 3) := by decide +kernel
theorem dX6_copyFrom_135 : decode cX6_copyFrom 135 = .ok (.iinc 2 1, 3) := by decide +kernel
theorem dX6_copyFrom_138 : decode cX6_copyFrom 138 = .ok (.goto (-26), 3) := by decide +kernel
theorem dX6_copyFrom_141 : decode cX6_copyFrom 141 = .ok (.return_, 1) := by decide +kernel
theorem dX6_recordOf_0 : decode cX6_recordOf 0 = .ok (.aload_n 0, 1) := by decide +kernel
theorem dX6_recordOf_1 : decode cX6_recordOf 1 = .ok (.getfield 29, 3) := by decide +kernel
theorem dX6_recordOf_4 : decode cX6_recordOf 4 = .ok (.iload_n 1, 1) := by decide +kernel
theorem dX6_recordOf_5 : decode cX6_recordOf 5 = .ok (.aaload, 1) := by decide +kernel
theorem dX6_recordOf_6 : decode cX6_recordOf 6 = .ok (.getfield 69, 3) := by decide +kernel
theorem dX6_recordOf_9 : decode cX6_recordOf 9 = .ok (.iload_n 1, 1) := by decide +kernel
theorem dX6_recordOf_10 : decode cX6_recordOf 10 = .ok (.aaload, 1) := by decide +kernel
theorem dX6_recordOf_11 : decode cX6_recordOf 11 = .ok (.areturn, 1) := by decide +kernel
theorem dX6_trueValue_0 : decode cX6_trueValue 0 = .ok (.aload_n 0, 1) := by decide +kernel
theorem dX6_trueValue_1 : decode cX6_trueValue 1 = .ok (.getfield 44, 3) := by decide +kernel
theorem dX6_trueValue_4 : decode cX6_trueValue 4 = .ok (.istore_n 1, 1) := by decide +kernel
theorem dX6_trueValue_5 : decode cX6_trueValue 5 = .ok (.iconst 0, 1) := by decide +kernel
theorem dX6_trueValue_6 : decode cX6_trueValue 6 = .ok (.istore_n 2, 1) := by decide +kernel
theorem dX6_trueValue_7 : decode cX6_trueValue 7 = .ok (.iload_n 2, 1) := by decide +kernel
theorem dX6_trueValue_8 : decode cX6_trueValue 8 = .ok (.aload_n 0, 1) := by decide +kernel
theorem dX6_trueValue_9 : decode cX6_trueValue 9 = .ok (.getfield 23, 3) := by decide +kernel
theorem dX6_trueValue_12 : decode cX6_trueValue 12 = .ok (.if_icmp .ge 31, 3) := by decide +kernel
theorem dX6_trueValue_15 : decode cX6_trueValue 15 = .ok (.aload_n 0, 1) := by decide +kernel
theorem dX6_trueValue_16 : decode cX6_trueValue 16 = .ok (.iload_n 2, 1) := by decide +kernel
theorem dX6_trueValue_17 : decode cX6_trueValue 17 = .ok (.invokevirtual 73, 3) := by decide +kernel
theorem dX6_trueValue_20 : decode cX6_trueValue 20 = .ok (.astore_n 3, 1) := by decide +kernel
theorem dX6_trueValue_21 : decode cX6_trueValue 21 = .ok (.iload_n 1, 1) := by decide +kernel
theorem dX6_trueValue_22 : decode cX6_trueValue 22 = .ok (.aload_n 3, 1) := by decide +kernel
theorem dX6_trueValue_23 : decode cX6_trueValue 23 = .ok (.getfield 77, 3) := by decide +kernel
theorem dX6_trueValue_26 : decode cX6_trueValue 26 = .ok (.iconst 0, 1) := by decide +kernel
theorem dX6_trueValue_27 : decode cX6_trueValue 27 = .ok (.iaload, 1) := by decide +kernel
theorem dX6_trueValue_28 : decode cX6_trueValue 28 = .ok (.aload_n 3, 1) := by decide +kernel
theorem dX6_trueValue_29 : decode cX6_trueValue 29 = .ok (.getfield 77, 3) := by decide +kernel
theorem dX6_trueValue_32 : decode cX6_trueValue 32 = .ok (.iconst 1, 1) := by decide +kernel
theorem dX6_trueValue_33 : decode cX6_trueValue 33 = .ok (.iaload, 1) := by decide +kernel
theorem dX6_trueValue_34 : decode cX6_trueValue 34 = .ok (.isub, 1) := by decide +kernel
theorem dX6_trueValue_35 : decode cX6_trueValue 35 = .ok (.iadd, 1) := by decide +kernel
theorem dX6_trueValue_36 : decode cX6_trueValue 36 = .ok (.istore_n 1, 1) := by decide +kernel
theorem dX6_trueValue_37 : decode cX6_trueValue 37 = .ok (.iinc 2 1, 3) := by decide +kernel
theorem dX6_trueValue_40 : decode cX6_trueValue 40 = .ok (.goto (-33), 3) := by decide +kernel
theorem dX6_trueValue_43 : decode cX6_trueValue 43 = .ok (.iload_n 1, 1) := by decide +kernel
theorem dX6_trueValue_44 : decode cX6_trueValue 44 = .ok (.ireturn, 1) := by decide +kernel
theorem dX6_valueKnownAt_0 : decode cX6_valueKnownAt 0 = .ok (.aload_n 0, 1) := by decide +kernel
theorem dX6_valueKnownAt_1 : decode cX6_valueKnownAt 1 = .ok (.getfield 44, 3) := by decide +kernel
theorem dX6_valueKnownAt_4 : decode cX6_valueKnownAt 4 = .ok (.istore_n 2, 1) := by decide +kernel
theorem dX6_valueKnownAt_5 : decode cX6_valueKnownAt 5 = .ok (.iconst 0, 1) := by decide +kernel
theorem dX6_valueKnownAt_6 : decode cX6_valueKnownAt 6 = .ok (.istore_n 3, 1) := by decide +kernel
theorem dX6_valueKnownAt_7 : decode cX6_valueKnownAt 7 = .ok (.iload_n 3, 1) := by decide +kernel
theorem dX6_valueKnownAt_8 : decode cX6_valueKnownAt 8 = .ok (.aload_n 0, 1) := by decide +kernel
theorem dX6_valueKnownAt_9 : decode cX6_valueKnownAt 9 = .ok (.getfield 23, 3) := by decide +kernel
theorem dX6_valueKnownAt_12 : decode cX6_valueKnownAt 12 = .ok (.if_icmp .ge 40, 3) := by decide +kernel
theorem dX6_valueKnownAt_15 : decode cX6_valueKnownAt 15 = .ok (.aload_n 0, 1) := by decide +kernel
theorem dX6_valueKnownAt_16 : decode cX6_valueKnownAt 16 = .ok (.getfield 29, 3) := by decide +kernel
theorem dX6_valueKnownAt_19 : decode cX6_valueKnownAt 19 = .ok (.iload_n 1, 1) := by decide +kernel
theorem dX6_valueKnownAt_20 : decode cX6_valueKnownAt 20 = .ok (.aaload, 1) := by decide +kernel
theorem dX6_valueKnownAt_21 : decode cX6_valueKnownAt 21 = .ok (.getfield 69, 3) := by decide +kernel
theorem dX6_valueKnownAt_24 : decode cX6_valueKnownAt 24 = .ok (.iload_n 3, 1) := by decide +kernel
theorem dX6_valueKnownAt_25 : decode cX6_valueKnownAt 25 = .ok (.aaload, 1) := by decide +kernel
theorem dX6_valueKnownAt_26 : decode cX6_valueKnownAt 26 = .ok (.astore 4, 2) := by decide +kernel
theorem dX6_valueKnownAt_28 : decode cX6_valueKnownAt 28 = .ok (.iload_n 2, 1) := by decide +kernel
theorem dX6_valueKnownAt_29 : decode cX6_valueKnownAt 29 = .ok (.aload 4, 2) := by decide +kernel
theorem dX6_valueKnownAt_31 : decode cX6_valueKnownAt 31 = .ok (.getfield 77, 3) := by decide +kernel
theorem dX6_valueKnownAt_34 : decode cX6_valueKnownAt 34 = .ok (.iconst 0, 1) := by decide +kernel
theorem dX6_valueKnownAt_35 : decode cX6_valueKnownAt 35 = .ok (.iaload, 1) := by decide +kernel
theorem dX6_valueKnownAt_36 : decode cX6_valueKnownAt 36 = .ok (.aload 4, 2) := by decide +kernel
theorem dX6_valueKnownAt_38 : decode cX6_valueKnownAt 38 = .ok (.getfield 77, 3) := by decide +kernel
theorem dX6_valueKnownAt_41 : decode cX6_valueKnownAt 41 = .ok (.iconst 1, 1) := by decide +kernel
theorem dX6_valueKnownAt_42 : decode cX6_valueKnownAt 42 = .ok (.iaload, 1) := by decide +kernel
theorem dX6_valueKnownAt_43 : decode cX6_valueKnownAt 43 = .ok (.isub, 1) := by decide +kernel
theorem dX6_valueKnownAt_44 : decode cX6_valueKnownAt 44 = .ok (.iadd, 1) := by decide +kernel
theorem dX6_valueKnownAt_45 : decode cX6_valueKnownAt 45 = .ok (.istore_n 2, 1) := by decide +kernel
theorem dX6_valueKnownAt_46 : decode cX6_valueKnownAt 46 = .ok (.iinc 3 1, 3) := by decide +kernel
theorem dX6_valueKnownAt_49 : decode cX6_valueKnownAt 49 = .ok (.goto (-42), 3) := by decide +kernel
theorem dX6_valueKnownAt_52 : decode cX6_valueKnownAt 52 = .ok (.iload_n 2, 1) := by decide +kernel
theorem dX6_valueKnownAt_53 : decode cX6_valueKnownAt 53 = .ok (.ireturn, 1) := by decide +kernel
theorem dX6_roomAt_0 : decode cX6_roomAt 0 = .ok (.iload_n 2, 1) := by decide +kernel
theorem dX6_roomAt_1 : decode cX6_roomAt 1 = .ok (.ifCond .ne 12, 3) := by decide +kernel
theorem dX6_roomAt_4 : decode cX6_roomAt 4 = .ok (.aload_n 0, 1) := by decide +kernel
theorem dX6_roomAt_5 : decode cX6_roomAt 5 = .ok (.getfield 41, 3) := by decide +kernel
theorem dX6_roomAt_8 : decode cX6_roomAt 8 = .ok (.iload_n 1, 1) := by decide +kernel
theorem dX6_roomAt_9 : decode cX6_roomAt 9 = .ok (.isub, 1) := by decide +kernel
theorem dX6_roomAt_10 : decode cX6_roomAt 10 = .ok (.goto 9, 3) := by decide +kernel
theorem dX6_roomAt_13 : decode cX6_roomAt 13 = .ok (.iload_n 1, 1) := by decide +kernel
theorem dX6_roomAt_14 : decode cX6_roomAt 14 = .ok (.aload_n 0, 1) := by decide +kernel
theorem dX6_roomAt_15 : decode cX6_roomAt 15 = .ok (.getfield 38, 3) := by decide +kernel
theorem dX6_roomAt_18 : decode cX6_roomAt 18 = .ok (.isub, 1) := by decide +kernel
theorem dX6_roomAt_19 : decode cX6_roomAt 19 = .ok (.ireturn, 1) := by decide +kernel
theorem dX6_ownRights_0 : decode cX6_ownRights 0 = .ok (.aload_n 0, 1) := by decide +kernel
theorem dX6_ownRights_1 : decode cX6_ownRights 1 = .ok (.iload_n 1, 1) := by decide +kernel
theorem dX6_ownRights_2 : decode cX6_ownRights 2 = .ok (.invokevirtual 73, 3) := by decide +kernel
theorem dX6_ownRights_5 : decode cX6_ownRights 5 = .ok (.astore_n 3, 1) := by decide +kernel
theorem dX6_ownRights_6 : decode cX6_ownRights 6 = .ok (.iload_n 1, 1) := by decide +kernel
theorem dX6_ownRights_7 : decode cX6_ownRights 7 = .ok (.ifCond .ne 15, 3) := by decide +kernel
theorem dX6_ownRights_10 : decode cX6_ownRights 10 = .ok (.aload_n 0, 1) := by decide +kernel
theorem dX6_ownRights_11 : decode cX6_ownRights 11 = .ok (.aload_n 0, 1) := by decide +kernel
theorem dX6_ownRights_12 : decode cX6_ownRights 12 = .ok (.getfield 44, 3) := by decide +kernel
theorem dX6_ownRights_15 : decode cX6_ownRights 15 = .ok (.iload_n 2, 1) := by decide +kernel
theorem dX6_ownRights_16 : decode cX6_ownRights 16 = .ok (.invokevirtual 83, 3) := by decide +kernel
theorem dX6_ownRights_19 : decode cX6_ownRights 19 = .ok (.goto 4, 3) := by decide +kernel
theorem dX6_ownRights_22 : decode cX6_ownRights 22 = .ok (.iconst 0, 1) := by decide +kernel
theorem dX6_ownRights_23 : decode cX6_ownRights 23 = .ok (.istore 4, 2) := by decide +kernel
theorem dX6_ownRights_25 : decode cX6_ownRights 25 = .ok (.iload 4, 2) := by decide +kernel
theorem dX6_ownRights_27 : decode cX6_ownRights 27 = .ok (.aload_n 3, 1) := by decide +kernel
theorem dX6_ownRights_28 : decode cX6_ownRights 28 = .ok (.getfield 77, 3) := by decide +kernel
theorem dX6_ownRights_31 : decode cX6_ownRights 31 = .ok (.iload_n 2, 1) := by decide +kernel
theorem dX6_ownRights_32 : decode cX6_ownRights 32 = .ok (.ifCond .ne 7, 3) := by decide +kernel
theorem dX6_ownRights_35 : decode cX6_ownRights 35 = .ok (.iconst 1, 1) := by decide +kernel
theorem dX6_ownRights_36 : decode cX6_ownRights 36 = .ok (.goto 4, 3) := by decide +kernel
theorem dX6_ownRights_39 : decode cX6_ownRights 39 = .ok (.iconst 0, 1) := by decide +kernel
theorem dX6_ownRights_40 : decode cX6_ownRights 40 = .ok (.iaload, 1) := by decide +kernel
theorem dX6_ownRights_41 : decode cX6_ownRights 41 = .ok (.aload_n 3, 1) := by decide +kernel
theorem dX6_ownRights_42 : decode cX6_ownRights 42 = .ok (.getfield 77, 3) := by decide +kernel
theorem dX6_ownRights_45 : decode cX6_ownRights 45 = .ok (.iload_n 2, 1) := by decide +kernel
theorem dX6_ownRights_46 : decode cX6_ownRights 46 = .ok (.iaload, 1) := by decide +kernel
theorem dX6_ownRights_47 : decode cX6_ownRights 47 = .ok (.isub, 1) := by decide +kernel
theorem dX6_ownRights_48 : decode cX6_ownRights 48 = .ok (.iadd, 1) := by decide +kernel
theorem dX6_ownRights_49 : decode cX6_ownRights 49 = .ok (.istore 4, 2) := by decide +kernel
theorem dX6_ownRights_51 : decode cX6_ownRights 51 = .ok (.iconst 0, 1) := by decide +kernel
theorem dX6_ownRights_52 : decode cX6_ownRights 52 = .ok (.istore 5, 2) := by decide +kernel
theorem dX6_ownRights_54 : decode cX6_ownRights 54 = .ok (.iload 5, 2) := by decide +kernel
theorem dX6_ownRights_56 : decode cX6_ownRights 56 = .ok (.aload_n 0, 1) := by decide +kernel
theorem dX6_ownRights_57 : decode cX6_ownRights 57 = .ok (.getfield 23, 3) := by decide +kernel
theorem dX6_ownRights_60 : decode cX6_ownRights 60 = .ok (.if_icmp .ge 45, 3) := by decide +kernel
theorem dX6_ownRights_63 : decode cX6_ownRights 63 = .ok (.iload 5, 2) := by decide +kernel
theorem dX6_ownRights_65 : decode cX6_ownRights 65 = .ok (.iload_n 1, 1) := by decide +kernel
theorem dX6_ownRights_66 : decode cX6_ownRights 66 = .ok (.if_icmp .eq 33, 3) := by decide +kernel
theorem dX6_ownRights_69 : decode cX6_ownRights 69 = .ok (.iload 4, 2) := by decide +kernel
theorem dX6_ownRights_71 : decode cX6_ownRights 71 = .ok (.aload_n 0, 1) := by decide +kernel
theorem dX6_ownRights_72 : decode cX6_ownRights 72 = .ok (.getfield 29, 3) := by decide +kernel
theorem dX6_ownRights_75 : decode cX6_ownRights 75 = .ok (.iload_n 1, 1) := by decide +kernel
theorem dX6_ownRights_76 : decode cX6_ownRights 76 = .ok (.aaload, 1) := by decide +kernel
theorem dX6_ownRights_77 : decode cX6_ownRights 77 = .ok (.getfield 69, 3) := by decide +kernel
theorem dX6_ownRights_80 : decode cX6_ownRights 80 = .ok (.iload 5, 2) := by decide +kernel
theorem dX6_ownRights_82 : decode cX6_ownRights 82 = .ok (.aaload, 1) := by decide +kernel
theorem dX6_ownRights_83 : decode cX6_ownRights 83 = .ok (.iload_n 1, 1) := by decide +kernel
theorem dX6_ownRights_84 : decode cX6_ownRights 84 = .ok (.iload_n 2, 1) := by decide +kernel
theorem dX6_ownRights_85 : decode cX6_ownRights 85 = .ok (.invokevirtual 87, 3) := by decide +kernel
theorem dX6_ownRights_88 : decode cX6_ownRights 88 = .ok (.aload_n 3, 1) := by decide +kernel
theorem dX6_ownRights_89 : decode cX6_ownRights 89 = .ok (.iload 5, 2) := by decide +kernel
theorem dX6_ownRights_91 : decode cX6_ownRights 91 = .ok (.iload_n 2, 1) := by decide +kernel
theorem dX6_ownRights_92 : decode cX6_ownRights 92 = .ok (.invokevirtual 87, 3) := by decide +kernel
theorem dX6_ownRights_95 : decode cX6_ownRights 95 = .ok (.isub, 1) := by decide +kernel
theorem dX6_ownRights_96 : decode cX6_ownRights 96 = .ok (.iadd, 1) := by decide +kernel
theorem dX6_ownRights_97 : decode cX6_ownRights 97 = .ok (.istore 4, 2) := by decide +kernel
theorem dX6_ownRights_99 : decode cX6_ownRights 99 = .ok (.iinc 5 1, 3) := by decide +kernel
theorem dX6_ownRights_102 : decode cX6_ownRights 102 = .ok (.goto (-48), 3) := by decide +kernel
theorem dX6_ownRights_105 : decode cX6_ownRights 105 = .ok (.iconst 0, 1) := by decide +kernel
theorem dX6_ownRights_106 : decode cX6_ownRights 106 = .ok (.istore 5, 2) := by decide +kernel
theorem dX6_ownRights_108 : decode cX6_ownRights 108 = .ok (.iload 5, 2) := by decide +kernel
theorem dX6_ownRights_110 : decode cX6_ownRights 110 = .ok (.aload_n 0, 1) := by decide +kernel
theorem dX6_ownRights_111 : decode cX6_ownRights 111 = .ok (.getfield 50, 3) := by decide +kernel
theorem dX6_ownRights_114 : decode cX6_ownRights 114 = .ok (.if_icmp .ge 35, 3) := by decide +kernel
theorem dX6_ownRights_117 : decode cX6_ownRights 117 = .ok (.aload_n 0, 1) := by decide +kernel
theorem dX6_ownRights_118 : decode cX6_ownRights 118 = .ok (.getfield 11, 3) := by decide +kernel
theorem dX6_ownRights_121 : decode cX6_ownRights 121 = .ok (.iload 5, 2) := by decide +kernel
theorem dX6_ownRights_123 : decode cX6_ownRights 123 = .ok (.aaload, 1) := by decide +kernel
theorem dX6_ownRights_124 : decode cX6_ownRights 124 = .ok (.getfield 90, 3) := by decide +kernel
theorem dX6_ownRights_127 : decode cX6_ownRights 127 = .ok (.iload_n 2, 1) := by decide +kernel
theorem dX6_ownRights_128 : decode cX6_ownRights 128 = .ok (.if_icmp .ne 15, 3) := by decide +kernel
theorem dX6_ownRights_131 : decode cX6_ownRights 131 = .ok (.iload 4, 2) := by decide +kernel
theorem dX6_ownRights_133 : decode cX6_ownRights 133 = .ok (.aload_n 0, 1) := by decide +kernel
theorem dX6_ownRights_134 : decode cX6_ownRights 134 = .ok (.iload 5, 2) := by decide +kernel
theorem dX6_ownRights_136 : decode cX6_ownRights 136 = .ok (.iload_n 1, 1) := by decide +kernel
theorem dX6_ownRights_137 : decode cX6_ownRights 137 = .ok (.invokevirtual 93, 3) := by decide +kernel
theorem dX6_ownRights_140 : decode cX6_ownRights 140 = .ok (.iadd, 1) := by decide +kernel
theorem dX6_ownRights_141 : decode cX6_ownRights 141 = .ok (.istore 4, 2) := by decide +kernel
theorem dX6_ownRights_143 : decode cX6_ownRights 143 = .ok (.iinc 5 1, 3) := by decide +kernel
theorem dX6_ownRights_146 : decode cX6_ownRights 146 = .ok (.goto (-38), 3) := by decide +kernel
theorem dX6_ownRights_149 : decode cX6_ownRights 149 = .ok (.iload 4, 2) := by decide +kernel
theorem dX6_ownRights_151 : decode cX6_ownRights 151 = .ok (.ireturn, 1) := by decide +kernel
theorem dX6_loanBalance_0 : decode cX6_loanBalance 0 = .ok (.aload_n 0, 1) := by decide +kernel
theorem dX6_loanBalance_1 : decode cX6_loanBalance 1 = .ok (.getfield 11, 3) := by decide +kernel
theorem dX6_loanBalance_4 : decode cX6_loanBalance 4 = .ok (.iload_n 1, 1) := by decide +kernel
theorem dX6_loanBalance_5 : decode cX6_loanBalance 5 = .ok (.aaload, 1) := by decide +kernel
theorem dX6_loanBalance_6 : decode cX6_loanBalance 6 = .ok (.astore_n 3, 1) := by decide +kernel
theorem dX6_loanBalance_7 : decode cX6_loanBalance 7 = .ok (.aload_n 3, 1) := by decide +kernel
theorem dX6_loanBalance_8 : decode cX6_loanBalance 8 = .ok (.getfield 96, 3) := by decide +kernel
theorem dX6_loanBalance_11 : decode cX6_loanBalance 11 = .ok (.iload_n 2, 1) := by decide +kernel
theorem dX6_loanBalance_12 : decode cX6_loanBalance 12 = .ok (.if_icmp .ne 14, 3) := by decide +kernel
theorem dX6_loanBalance_15 : decode cX6_loanBalance 15 = .ok (.aload_n 0, 1) := by decide +kernel
theorem dX6_loanBalance_16 : decode cX6_loanBalance 16 = .ok (.iload_n 2, 1) := by decide +kernel
theorem dX6_loanBalance_17 : decode cX6_loanBalance 17 = .ok (.invokevirtual 73, 3) := by decide +kernel
theorem dX6_loanBalance_20 : decode cX6_loanBalance 20 = .ok (.getfield 99, 3) := by decide +kernel
theorem dX6_loanBalance_23 : decode cX6_loanBalance 23 = .ok (.iload_n 1, 1) := by decide +kernel
theorem dX6_loanBalance_24 : decode cX6_loanBalance 24 = .ok (.iaload, 1) := by decide +kernel
theorem dX6_loanBalance_25 : decode cX6_loanBalance 25 = .ok (.ireturn, 1) := by decide +kernel
theorem dX6_loanBalance_26 : decode cX6_loanBalance 26 = .ok (.aload_n 3, 1) := by decide +kernel
theorem dX6_loanBalance_27 : decode cX6_loanBalance 27 = .ok (.getfield 102, 3) := by decide +kernel
theorem dX6_loanBalance_30 : decode cX6_loanBalance 30 = .ok (.iload_n 2, 1) := by decide +kernel
theorem dX6_loanBalance_31 : decode cX6_loanBalance 31 = .ok (.if_icmp .eq 5, 3) := by decide +kernel
theorem dX6_loanBalance_34 : decode cX6_loanBalance 34 = .ok (.iconst 0, 1) := by decide +kernel
theorem dX6_loanBalance_35 : decode cX6_loanBalance 35 = .ok (.ireturn, 1) := by decide +kernel
theorem dX6_loanBalance_36 : decode cX6_loanBalance 36 = .ok (.aload_n 0, 1) := by decide +kernel
theorem dX6_loanBalance_37 : decode cX6_loanBalance 37 = .ok (.aload_n 3, 1) := by decide +kernel
theorem dX6_loanBalance_38 : decode cX6_loanBalance 38 = .ok (.invokevirtual 105, 3) := by decide +kernel
theorem dX6_loanBalance_41 : decode cX6_loanBalance 41 = .ok (.ifCond .ne 9, 3) := by decide +kernel
theorem dX6_loanBalance_44 : decode cX6_loanBalance 44 = .ok (.aload_n 3, 1) := by decide +kernel
theorem dX6_loanBalance_45 : decode cX6_loanBalance 45 = .ok (.getfield 109, 3) := by decide +kernel
theorem dX6_loanBalance_48 : decode cX6_loanBalance 48 = .ok (.ineg, 1) := by decide +kernel
theorem dX6_loanBalance_49 : decode cX6_loanBalance 49 = .ok (.ireturn, 1) := by decide +kernel
theorem dX6_loanBalance_50 : decode cX6_loanBalance 50 = .ok (.aload_n 0, 1) := by decide +kernel
theorem dX6_loanBalance_51 : decode cX6_loanBalance 51 = .ok (.getfield 29, 3) := by decide +kernel
theorem dX6_loanBalance_54 : decode cX6_loanBalance 54 = .ok (.iload_n 2, 1) := by decide +kernel
theorem dX6_loanBalance_55 : decode cX6_loanBalance 55 = .ok (.aaload, 1) := by decide +kernel
theorem dX6_loanBalance_56 : decode cX6_loanBalance 56 = .ok (.getfield 69, 3) := by decide +kernel
theorem dX6_loanBalance_59 : decode cX6_loanBalance 59 = .ok (.aload_n 3, 1) := by decide +kernel
theorem dX6_loanBalance_60 : decode cX6_loanBalance 60 = .ok (.getfield 96, 3) := by decide +kernel
theorem dX6_loanBalance_63 : decode cX6_loanBalance 63 = .ok (.aaload, 1) := by decide +kernel
theorem dX6_loanBalance_64 : decode cX6_loanBalance 64 = .ok (.getfield 99, 3) := by decide +kernel
theorem dX6_loanBalance_67 : decode cX6_loanBalance 67 = .ok (.iload_n 1, 1) := by decide +kernel
theorem dX6_loanBalance_68 : decode cX6_loanBalance 68 = .ok (.iaload, 1) := by decide +kernel
theorem dX6_loanBalance_69 : decode cX6_loanBalance 69 = .ok (.ineg, 1) := by decide +kernel
theorem dX6_loanBalance_70 : decode cX6_loanBalance 70 = .ok (.ireturn, 1) := by decide +kernel
theorem dX6_hasComeBack_0 : decode cX6_hasComeBack 0 = .ok (.aload_n 0, 1) := by decide +kernel
theorem dX6_hasComeBack_1 : decode cX6_hasComeBack 1 = .ok (.getfield 47, 3) := by decide +kernel
theorem dX6_hasComeBack_4 : decode cX6_hasComeBack 4 = .ok (.aload_n 1, 1) := by decide +kernel
theorem dX6_hasComeBack_5 : decode cX6_hasComeBack 5 = .ok (.getfield 112, 3) := by decide +kernel
theorem dX6_hasComeBack_8 : decode cX6_hasComeBack 8 = .ok (.if_icmp .lt 34, 3) := by decide +kernel
theorem dX6_hasComeBack_11 : decode cX6_hasComeBack 11 = .ok (.aload_n 0, 1) := by decide +kernel
theorem dX6_hasComeBack_12 : decode cX6_hasComeBack 12 = .ok (.getfield 29, 3) := by decide +kernel
theorem dX6_hasComeBack_15 : decode cX6_hasComeBack 15 = .ok (.aload_n 1, 1) := by decide +kernel
theorem dX6_hasComeBack_16 : decode cX6_hasComeBack 16 = .ok (.getfield 102, 3) := by decide +kernel
theorem dX6_hasComeBack_19 : decode cX6_hasComeBack 19 = .ok (.aaload, 1) := by decide +kernel
theorem dX6_hasComeBack_20 : decode cX6_hasComeBack 20 = .ok (.getfield 69, 3) := by decide +kernel
theorem dX6_hasComeBack_23 : decode cX6_hasComeBack 23 = .ok (.aload_n 1, 1) := by decide +kernel
theorem dX6_hasComeBack_24 : decode cX6_hasComeBack 24 = .ok (.getfield 96, 3) := by decide +kernel
theorem dX6_hasComeBack_27 : decode cX6_hasComeBack 27 = .ok (.aaload, 1) := by decide +kernel
theorem dX6_hasComeBack_28 : decode cX6_hasComeBack 28 = .ok (.getfield 115, 3) := by decide +kernel
theorem dX6_hasComeBack_31 : decode cX6_hasComeBack 31 = .ok (.aload_n 1, 1) := by decide +kernel
theorem dX6_hasComeBack_32 : decode cX6_hasComeBack 32 = .ok (.getfield 112, 3) := by decide +kernel
theorem dX6_hasComeBack_35 : decode cX6_hasComeBack 35 = .ok (.if_icmp .lt 7, 3) := by decide +kernel
theorem dX6_hasComeBack_38 : decode cX6_hasComeBack 38 = .ok (.iconst 1, 1) := by decide +kernel
theorem dX6_hasComeBack_39 : decode cX6_hasComeBack 39 = .ok (.goto 4, 3) := by decide +kernel
theorem dX6_hasComeBack_42 : decode cX6_hasComeBack 42 = .ok (.iconst 0, 1) := by decide +kernel
theorem dX6_hasComeBack_43 : decode cX6_hasComeBack 43 = .ok (.ireturn, 1) := by decide +kernel
theorem dX6_restOf_0 : decode cX6_restOf 0 = .ok (.aload_n 0, 1) := by decide +kernel
theorem dX6_restOf_1 : decode cX6_restOf 1 = .ok (.getfield 11, 3) := by decide +kernel
theorem dX6_restOf_4 : decode cX6_restOf 4 = .ok (.iload_n 1, 1) := by decide +kernel
theorem dX6_restOf_5 : decode cX6_restOf 5 = .ok (.aaload, 1) := by decide +kernel
theorem dX6_restOf_6 : decode cX6_restOf 6 = .ok (.astore_n 2, 1) := by decide +kernel
theorem dX6_restOf_7 : decode cX6_restOf 7 = .ok (.aload_n 0, 1) := by decide +kernel
theorem dX6_restOf_8 : decode cX6_restOf 8 = .ok (.getfield 29, 3) := by decide +kernel
theorem dX6_restOf_11 : decode cX6_restOf 11 = .ok (.aload_n 2, 1) := by decide +kernel
theorem dX6_restOf_12 : decode cX6_restOf 12 = .ok (.getfield 96, 3) := by decide +kernel
theorem dX6_restOf_15 : decode cX6_restOf 15 = .ok (.aaload, 1) := by decide +kernel
theorem dX6_restOf_16 : decode cX6_restOf 16 = .ok (.getfield 69, 3) := by decide +kernel
theorem dX6_restOf_19 : decode cX6_restOf 19 = .ok (.aload_n 2, 1) := by decide +kernel
theorem dX6_restOf_20 : decode cX6_restOf 20 = .ok (.getfield 102, 3) := by decide +kernel
theorem dX6_restOf_23 : decode cX6_restOf 23 = .ok (.aaload, 1) := by decide +kernel
theorem dX6_restOf_24 : decode cX6_restOf 24 = .ok (.iload_n 1, 1) := by decide +kernel
theorem dX6_restOf_25 : decode cX6_restOf 25 = .ok (.invokevirtual 116, 3) := by decide +kernel
theorem dX6_restOf_28 : decode cX6_restOf 28 = .ok (.istore_n 3, 1) := by decide +kernel
theorem dX6_restOf_29 : decode cX6_restOf 29 = .ok (.iload_n 3, 1) := by decide +kernel
theorem dX6_restOf_30 : decode cX6_restOf 30 = .ok (.ifCond .eq 14, 3) := by decide +kernel
theorem dX6_restOf_33 : decode cX6_restOf 33 = .ok (.aload_n 0, 1) := by decide +kernel
theorem dX6_restOf_34 : decode cX6_restOf 34 = .ok (.getfield 47, 3) := by decide +kernel
theorem dX6_restOf_37 : decode cX6_restOf 37 = .ok (.aload_n 2, 1) := by decide +kernel
theorem dX6_restOf_38 : decode cX6_restOf 38 = .ok (.getfield 112, 3) := by decide +kernel
theorem dX6_restOf_41 : decode cX6_restOf 41 = .ok (.if_icmp .lt 5, 3) := by decide +kernel
theorem dX6_restOf_44 : decode cX6_restOf 44 = .ok (.iconst 0, 1) := by decide +kernel
theorem dX6_restOf_45 : decode cX6_restOf 45 = .ok (.ireturn, 1) := by decide +kernel
theorem dX6_restOf_46 : decode cX6_restOf 46 = .ok (.aload_n 2, 1) := by decide +kernel
theorem dX6_restOf_47 : decode cX6_restOf 47 = .ok (.getfield 109, 3) := by decide +kernel
theorem dX6_restOf_50 : decode cX6_restOf 50 = .ok (.aload_n 0, 1) := by decide +kernel
theorem dX6_restOf_51 : decode cX6_restOf 51 = .ok (.aload_n 2, 1) := by decide +kernel
theorem dX6_restOf_52 : decode cX6_restOf 52 = .ok (.getfield 96, 3) := by decide +kernel
theorem dX6_restOf_55 : decode cX6_restOf 55 = .ok (.invokevirtual 73, 3) := by decide +kernel
theorem dX6_restOf_58 : decode cX6_restOf 58 = .ok (.getfield 99, 3) := by decide +kernel
theorem dX6_restOf_61 : decode cX6_restOf 61 = .ok (.iload_n 1, 1) := by decide +kernel
theorem dX6_restOf_62 : decode cX6_restOf 62 = .ok (.iaload, 1) := by decide +kernel
theorem dX6_restOf_63 : decode cX6_restOf 63 = .ok (.isub, 1) := by decide +kernel
theorem dX6_restOf_64 : decode cX6_restOf 64 = .ok (.ireturn, 1) := by decide +kernel
theorem dX6_availableRights_0 : decode cX6_availableRights 0 = .ok (.aload_n 0, 1) := by decide +kernel
theorem dX6_availableRights_1 : decode cX6_availableRights 1 = .ok (.iload_n 1, 1) := by decide +kernel
theorem dX6_availableRights_2 : decode cX6_availableRights 2 = .ok (.iload_n 2, 1) := by decide +kernel
theorem dX6_availableRights_3 : decode cX6_availableRights 3 = .ok (.invokevirtual 120, 3) := by decide +kernel
theorem dX6_availableRights_6 : decode cX6_availableRights 6 = .ok (.istore_n 3, 1) := by decide +kernel
theorem dX6_availableRights_7 : decode cX6_availableRights 7 = .ok (.iconst 0, 1) := by decide +kernel
theorem dX6_availableRights_8 : decode cX6_availableRights 8 = .ok (.istore 4, 2) := by decide +kernel
theorem dX6_availableRights_10 : decode cX6_availableRights 10 = .ok (.iload 4, 2) := by decide +kernel
theorem dX6_availableRights_12 : decode cX6_availableRights 12 = .ok (.aload_n 0, 1) := by decide +kernel
theorem dX6_availableRights_13 : decode cX6_availableRights 13 = .ok (.getfield 50, 3) := by decide +kernel
theorem dX6_availableRights_16 : decode cX6_availableRights 16 = .ok (.if_icmp .ge 46, 3) := by decide +kernel
theorem dX6_availableRights_19 : decode cX6_availableRights 19 = .ok (.aload_n 0, 1) := by decide +kernel
theorem dX6_availableRights_20 : decode cX6_availableRights 20 = .ok (.getfield 11, 3) := by decide +kernel
theorem dX6_availableRights_23 : decode cX6_availableRights 23 = .ok (.iload 4, 2) := by decide +kernel
theorem dX6_availableRights_25 : decode cX6_availableRights 25 = .ok (.aaload, 1) := by decide +kernel
theorem dX6_availableRights_26 : decode cX6_availableRights 26 = .ok (.getfield 96, 3) := by decide +kernel
theorem dX6_availableRights_29 : decode cX6_availableRights 29 = .ok (.iload_n 1, 1) := by decide +kernel
theorem dX6_availableRights_30 : decode cX6_availableRights 30 = .ok (.if_icmp .ne 26, 3) := by decide +kernel
theorem dX6_availableRights_33 : decode cX6_availableRights 33 = .ok (.aload_n 0, 1) := by decide +kernel
theorem dX6_availableRights_34 : decode cX6_availableRights 34 = .ok (.getfield 11, 3) := by decide +kernel
theorem dX6_availableRights_37 : decode cX6_availableRights 37 = .ok (.iload 4, 2) := by decide +kernel
theorem dX6_availableRights_39 : decode cX6_availableRights 39 = .ok (.aaload, 1) := by decide +kernel
theorem dX6_availableRights_40 : decode cX6_availableRights 40 = .ok (.getfield 90, 3) := by decide +kernel
theorem dX6_availableRights_43 : decode cX6_availableRights 43 = .ok (.iload_n 2, 1) := by decide +kernel
theorem dX6_availableRights_44 : decode cX6_availableRights 44 = .ok (.if_icmp .ne 12, 3) := by decide +kernel
theorem dX6_availableRights_47 : decode cX6_availableRights 47 = .ok (.iload_n 3, 1) := by decide +kernel
theorem dX6_availableRights_48 : decode cX6_availableRights 48 = .ok (.aload_n 0, 1) := by decide +kernel
theorem dX6_availableRights_49 : decode cX6_availableRights 49 = .ok (.iload 4, 2) := by decide +kernel
theorem dX6_availableRights_51 : decode cX6_availableRights 51 = .ok (.invokevirtual 123, 3) := by decide +kernel
theorem dX6_availableRights_54 : decode cX6_availableRights 54 = .ok (.iadd, 1) := by decide +kernel
theorem dX6_availableRights_55 : decode cX6_availableRights 55 = .ok (.istore_n 3, 1) := by decide +kernel
theorem dX6_availableRights_56 : decode cX6_availableRights 56 = .ok (.iinc 4 1, 3) := by decide +kernel
theorem dX6_availableRights_59 : decode cX6_availableRights 59 = .ok (.goto (-49), 3) := by decide +kernel
theorem dX6_availableRights_62 : decode cX6_availableRights 62 = .ok (.iload_n 3, 1) := by decide +kernel
theorem dX6_availableRights_63 : decode cX6_availableRights 63 = .ok (.ireturn, 1) := by decide +kernel
theorem dX6_dormantRights_0 : decode cX6_dormantRights 0 = .ok (.aload_n 0, 1) := by decide +kernel
theorem dX6_dormantRights_1 : decode cX6_dormantRights 1 = .ok (.aload_n 0, 1) := by decide +kernel
theorem dX6_dormantRights_2 : decode cX6_dormantRights 2 = .ok (.invokevirtual 127, 3) := by decide +kernel
theorem dX6_dormantRights_5 : decode cX6_dormantRights 5 = .ok (.iload_n 1, 1) := by decide +kernel
theorem dX6_dormantRights_6 : decode cX6_dormantRights 6 = .ok (.invokevirtual 83, 3) := by decide +kernel
theorem dX6_dormantRights_9 : decode cX6_dormantRights 9 = .ok (.istore_n 2, 1) := by decide +kernel
theorem dX6_dormantRights_10 : decode cX6_dormantRights 10 = .ok (.iconst 0, 1) := by decide +kernel
theorem dX6_dormantRights_11 : decode cX6_dormantRights 11 = .ok (.istore_n 3, 1) := by decide +kernel
theorem dX6_dormantRights_12 : decode cX6_dormantRights 12 = .ok (.iload_n 3, 1) := by decide +kernel
theorem dX6_dormantRights_13 : decode cX6_dormantRights 13 = .ok (.aload_n 0, 1) := by decide +kernel
theorem dX6_dormantRights_14 : decode cX6_dormantRights 14 = .ok (.getfield 23, 3) := by decide +kernel
theorem dX6_dormantRights_17 : decode cX6_dormantRights 17 = .ok (.if_icmp .ge 18, 3) := by decide +kernel
theorem dX6_dormantRights_20 : decode cX6_dormantRights 20 = .ok (.iload_n 2, 1) := by decide +kernel
theorem dX6_dormantRights_21 : decode cX6_dormantRights 21 = .ok (.aload_n 0, 1) := by decide +kernel
theorem dX6_dormantRights_22 : decode cX6_dormantRights 22 = .ok (.iload_n 3, 1) := by decide +kernel
theorem dX6_dormantRights_23 : decode cX6_dormantRights 23 = .ok (.iload_n 1, 1) := by decide +kernel
theorem dX6_dormantRights_24 : decode cX6_dormantRights 24 = .ok (.invokevirtual 131, 3) := by decide +kernel
theorem dX6_dormantRights_27 : decode cX6_dormantRights 27 = .ok (.isub, 1) := by decide +kernel
theorem dX6_dormantRights_28 : decode cX6_dormantRights 28 = .ok (.istore_n 2, 1) := by decide +kernel
theorem dX6_dormantRights_29 : decode cX6_dormantRights 29 = .ok (.iinc 3 1, 3) := by decide +kernel
theorem dX6_dormantRights_32 : decode cX6_dormantRights 32 = .ok (.goto (-20), 3) := by decide +kernel
theorem dX6_dormantRights_35 : decode cX6_dormantRights 35 = .ok (.iload_n 2, 1) := by decide +kernel
theorem dX6_dormantRights_36 : decode cX6_dormantRights 36 = .ok (.ireturn, 1) := by decide +kernel
theorem dX6_fewestHelpers_0 : decode cX6_fewestHelpers 0 = .ok (.iload_n 3, 1) := by decide +kernel
theorem dX6_fewestHelpers_1 : decode cX6_fewestHelpers 1 = .ok (.aload_n 0, 1) := by decide +kernel
theorem dX6_fewestHelpers_2 : decode cX6_fewestHelpers 2 = .ok (.iload_n 1, 1) := by decide +kernel
theorem dX6_fewestHelpers_3 : decode cX6_fewestHelpers 3 = .ok (.iload_n 2, 1) := by decide +kernel
theorem dX6_fewestHelpers_4 : decode cX6_fewestHelpers 4 = .ok (.invokevirtual 131, 3) := by decide +kernel
theorem dX6_fewestHelpers_7 : decode cX6_fewestHelpers 7 = .ok (.isub, 1) := by decide +kernel
theorem dX6_fewestHelpers_8 : decode cX6_fewestHelpers 8 = .ok (.istore 4, 2) := by decide +kernel
theorem dX6_fewestHelpers_10 : decode cX6_fewestHelpers 10 = .ok (.iconst 1, 1) := by decide +kernel
theorem dX6_fewestHelpers_11 : decode cX6_fewestHelpers 11 = .ok (.iload_n 1, 1) := by decide +kernel
theorem dX6_fewestHelpers_12 : decode cX6_fewestHelpers 12 = .ok (.ishl, 1) := by decide +kernel
theorem dX6_fewestHelpers_13 : decode cX6_fewestHelpers 13 = .ok (.istore 5, 2) := by decide +kernel
theorem dX6_fewestHelpers_15 : decode cX6_fewestHelpers 15 = .ok (.iconst 0, 1) := by decide +kernel
theorem dX6_fewestHelpers_16 : decode cX6_fewestHelpers 16 = .ok (.istore 6, 2) := by decide +kernel
theorem dX6_fewestHelpers_18 : decode cX6_fewestHelpers 18 = .ok (.iload 6, 2) := by decide +kernel
theorem dX6_fewestHelpers_20 : decode cX6_fewestHelpers 20 = .ok (.aload_n 0, 1) := by decide +kernel
theorem dX6_fewestHelpers_21 : decode cX6_fewestHelpers 21 = .ok (.getfield 23, 3) := by decide +kernel
theorem dX6_fewestHelpers_24 : decode cX6_fewestHelpers 24 = .ok (.if_icmp .ge 55, 3) := by decide +kernel
theorem dX6_fewestHelpers_27 : decode cX6_fewestHelpers 27 = .ok (.iload 4, 2) := by decide +kernel
theorem dX6_fewestHelpers_29 : decode cX6_fewestHelpers 29 = .ok (.ifCond .gt 6, 3) := by decide +kernel
theorem dX6_fewestHelpers_32 : decode cX6_fewestHelpers 32 = .ok (.iload 6, 2) := by decide +kernel
theorem dX6_fewestHelpers_34 : decode cX6_fewestHelpers 34 = .ok (.ireturn, 1) := by decide +kernel
theorem dX6_fewestHelpers_35 : decode cX6_fewestHelpers 35 = .ok (.aload_n 0, 1) := by decide +kernel
theorem dX6_fewestHelpers_36 : decode cX6_fewestHelpers 36 = .ok (.iload 5, 2) := by decide +kernel
theorem dX6_fewestHelpers_38 : decode cX6_fewestHelpers 38 = .ok (.iload_n 2, 1) := by decide +kernel
theorem dX6_fewestHelpers_39 : decode cX6_fewestHelpers 39 = .ok (.invokevirtual 134, 3) := by decide +kernel
theorem dX6_fewestHelpers_42 : decode cX6_fewestHelpers 42 = .ok (.istore 7, 2) := by decide +kernel
theorem dX6_fewestHelpers_44 : decode cX6_fewestHelpers 44 = .ok (.iload 7, 2) := by decide +kernel
theorem dX6_fewestHelpers_46 : decode cX6_fewestHelpers 46 = .ok (.iconst (-1), 1) := by decide +kernel
theorem dX6_fewestHelpers_47 : decode cX6_fewestHelpers 47 = .ok (.if_icmp .ne 5, 3) := by decide +kernel
theorem dX6_fewestHelpers_50 : decode cX6_fewestHelpers 50 = .ok (.iconst (-1), 1) := by decide +kernel
theorem dX6_fewestHelpers_51 : decode cX6_fewestHelpers 51 = .ok (.ireturn, 1) := by decide +kernel
theorem dX6_fewestHelpers_52 : decode cX6_fewestHelpers 52 = .ok (.iload 4, 2) := by decide +kernel
theorem dX6_fewestHelpers_54 : decode cX6_fewestHelpers 54 = .ok (.aload_n 0, 1) := by decide +kernel
theorem dX6_fewestHelpers_55 : decode cX6_fewestHelpers 55 = .ok (.iload 7, 2) := by decide +kernel
theorem dX6_fewestHelpers_57 : decode cX6_fewestHelpers 57 = .ok (.iload_n 2, 1) := by decide +kernel
theorem dX6_fewestHelpers_58 : decode cX6_fewestHelpers 58 = .ok (.invokevirtual 120, 3) := by decide +kernel
theorem dX6_fewestHelpers_61 : decode cX6_fewestHelpers 61 = .ok (.isub, 1) := by decide +kernel
theorem dX6_fewestHelpers_62 : decode cX6_fewestHelpers 62 = .ok (.istore 4, 2) := by decide +kernel
theorem dX6_fewestHelpers_64 : decode cX6_fewestHelpers 64 = .ok (.iload 5, 2) := by decide +kernel
theorem dX6_fewestHelpers_66 : decode cX6_fewestHelpers 66 = .ok (.iconst 1, 1) := by decide +kernel
theorem dX6_fewestHelpers_67 : decode cX6_fewestHelpers 67 = .ok (.iload 7, 2) := by decide +kernel
theorem dX6_fewestHelpers_69 : decode cX6_fewestHelpers 69 = .ok (.ishl, 1) := by decide +kernel
theorem dX6_fewestHelpers_70 : decode cX6_fewestHelpers 70 = .ok (.ior, 1) := by decide +kernel
theorem dX6_fewestHelpers_71 : decode cX6_fewestHelpers 71 = .ok (.istore 5, 2) := by decide +kernel
theorem dX6_fewestHelpers_73 : decode cX6_fewestHelpers 73 = .ok (.iinc 6 1, 3) := by decide +kernel
theorem dX6_fewestHelpers_76 : decode cX6_fewestHelpers 76 = .ok (.goto (-58), 3) := by decide +kernel
theorem dX6_fewestHelpers_79 : decode cX6_fewestHelpers 79 = .ok (.iconst (-1), 1) := by decide +kernel
theorem dX6_fewestHelpers_80 : decode cX6_fewestHelpers 80 = .ok (.ireturn, 1) := by decide +kernel
theorem dX6_richestOutside_0 : decode cX6_richestOutside 0 = .ok (.iconst (-1), 1) := by decide +kernel
theorem dX6_richestOutside_1 : decode cX6_richestOutside 1 = .ok (.istore_n 3, 1) := by decide +kernel
theorem dX6_richestOutside_2 : decode cX6_richestOutside 2 = .ok (.iconst 0, 1) := by decide +kernel
theorem dX6_richestOutside_3 : decode cX6_richestOutside 3 = .ok (.istore 4, 2) := by decide +kernel
theorem dX6_richestOutside_5 : decode cX6_richestOutside 5 = .ok (.iconst 0, 1) := by decide +kernel
theorem dX6_richestOutside_6 : decode cX6_richestOutside 6 = .ok (.istore 5, 2) := by decide +kernel
theorem dX6_richestOutside_8 : decode cX6_richestOutside 8 = .ok (.iload 5, 2) := by decide +kernel
theorem dX6_richestOutside_10 : decode cX6_richestOutside 10 = .ok (.aload_n 0, 1) := by decide +kernel
theorem dX6_richestOutside_11 : decode cX6_richestOutside 11 = .ok (.getfield 23, 3) := by decide +kernel
theorem dX6_richestOutside_14 : decode cX6_richestOutside 14 = .ok (.if_icmp .ge 46, 3) := by decide +kernel
theorem dX6_richestOutside_17 : decode cX6_richestOutside 17 = .ok (.iload_n 1, 1) := by decide +kernel
theorem dX6_richestOutside_18 : decode cX6_richestOutside 18 = .ok (.iload 5, 2) := by decide +kernel
theorem dX6_richestOutside_20 : decode cX6_richestOutside 20 = .ok (.ishr, 1) := by decide +kernel
theorem dX6_richestOutside_21 : decode cX6_richestOutside 21 = .ok (.iconst 1, 1) := by decide +kernel
theorem dX6_richestOutside_22 : decode cX6_richestOutside 22 = .ok (.iand, 1) := by decide +kernel
theorem dX6_richestOutside_23 : decode cX6_richestOutside 23 = .ok (.ifCond .ne 31, 3) := by decide +kernel
theorem dX6_richestOutside_26 : decode cX6_richestOutside 26 = .ok (.aload_n 0, 1) := by decide +kernel
theorem dX6_richestOutside_27 : decode cX6_richestOutside 27 = .ok (.iload 5, 2) := by decide +kernel
theorem dX6_richestOutside_29 : decode cX6_richestOutside 29 = .ok (.iload_n 2, 1) := by decide +kernel
theorem dX6_richestOutside_30 : decode cX6_richestOutside 30 = .ok (.invokevirtual 120, 3) := by decide +kernel
theorem dX6_richestOutside_33 : decode cX6_richestOutside 33 = .ok (.istore 6, 2) := by decide +kernel
theorem dX6_richestOutside_35 : decode cX6_richestOutside 35 = .ok (.iload_n 3, 1) := by decide +kernel
theorem dX6_richestOutside_36 : decode cX6_richestOutside 36 = .ok (.iconst (-1), 1) := by decide +kernel
theorem dX6_richestOutside_37 : decode cX6_richestOutside 37 = .ok (.if_icmp .eq 10, 3) := by decide +kernel
theorem dX6_richestOutside_40 : decode cX6_richestOutside 40 = .ok (.iload 6, 2) := by decide +kernel
theorem dX6_richestOutside_42 : decode cX6_richestOutside 42 = .ok (.iload 4, 2) := by decide +kernel
theorem dX6_richestOutside_44 : decode cX6_richestOutside 44 = .ok (.if_icmp .le 10, 3) := by decide +kernel
theorem dX6_richestOutside_47 : decode cX6_richestOutside 47 = .ok (.iload 5, 2) := by decide +kernel
theorem dX6_richestOutside_49 : decode cX6_richestOutside 49 = .ok (.istore_n 3, 1) := by decide +kernel
theorem dX6_richestOutside_50 : decode cX6_richestOutside 50 = .ok (.iload 6, 2) := by decide +kernel
theorem dX6_richestOutside_52 : decode cX6_richestOutside 52 = .ok (.istore 4, 2) := by decide +kernel
theorem dX6_richestOutside_54 : decode cX6_richestOutside 54 = .ok (.iinc 5 1, 3) := by decide +kernel
theorem dX6_richestOutside_57 : decode cX6_richestOutside 57 = .ok (.goto (-49), 3) := by decide +kernel
theorem dX6_richestOutside_60 : decode cX6_richestOutside 60 = .ok (.iload_n 3, 1) := by decide +kernel
theorem dX6_richestOutside_61 : decode cX6_richestOutside 61 = .ok (.ireturn, 1) := by decide +kernel
theorem dX6_change_0 : decode cX6_change 0 = .ok (.aload_n 0, 1) := by decide +kernel
theorem dX6_change_1 : decode cX6_change 1 = .ok (.iload_n 1, 1) := by decide +kernel
theorem dX6_change_2 : decode cX6_change 2 = .ok (.invokevirtual 73, 3) := by decide +kernel
theorem dX6_change_5 : decode cX6_change 5 = .ok (.astore 4, 2) := by decide +kernel
theorem dX6_change_7 : decode cX6_change 7 = .ok (.iload_n 3, 1) := by decide +kernel
theorem dX6_change_8 : decode cX6_change 8 = .ok (.aload_n 0, 1) := by decide +kernel
theorem dX6_change_9 : decode cX6_change 9 = .ok (.iload_n 1, 1) := by decide +kernel
theorem dX6_change_10 : decode cX6_change 10 = .ok (.iload_n 2, 1) := by decide +kernel
theorem dX6_change_11 : decode cX6_change 11 = .ok (.invokevirtual 131, 3) := by decide +kernel
theorem dX6_change_14 : decode cX6_change 14 = .ok (.isub, 1) := by decide +kernel
theorem dX6_change_15 : decode cX6_change 15 = .ok (.istore 5, 2) := by decide +kernel
theorem dX6_change_17 : decode cX6_change 17 = .ok (.aload 4, 2) := by decide +kernel
theorem dX6_change_19 : decode cX6_change 19 = .ok (.dup, 1) := by decide +kernel
theorem dX6_change_20 : decode cX6_change 20 = .ok (.getfield 137, 3) := by decide +kernel
theorem dX6_change_23 : decode cX6_change 23 = .ok (.iconst 1, 1) := by decide +kernel
theorem dX6_change_24 : decode cX6_change 24 = .ok (.iadd, 1) := by decide +kernel
theorem dX6_change_25 : decode cX6_change 25 = .ok (.putfield 137, 3) := by decide +kernel
theorem dX6_change_28 : decode cX6_change 28 = .ok (.iload 5, 2) := by decide +kernel
theorem dX6_change_30 : decode cX6_change 30 = .ok (.ifCond .le 27, 3) := by decide +kernel
theorem dX6_change_33 : decode cX6_change 33 = .ok (.aload 4, 2) := by decide +kernel
theorem dX6_change_35 : decode cX6_change 35 = .ok (.getfield 140, 3) := by decide +kernel
theorem dX6_change_38 : decode cX6_change 38 = .ok (.iload_n 2, 1) := by decide +kernel
theorem dX6_change_39 : decode cX6_change 39 = .ok (.ldc 143, 2) := by decide +kernel
theorem dX6_change_41 : decode cX6_change 41 = .ok (.aload 4, 2) := by decide +kernel
theorem dX6_change_43 : decode cX6_change 43 = .ok (.getfield 140, 3) := by decide +kernel
theorem dX6_change_46 : decode cX6_change 46 = .ok (.iload_n 2, 1) := by decide +kernel
theorem dX6_change_47 : decode cX6_change 47 = .ok (.iaload, 1) := by decide +kernel
theorem dX6_change_48 : decode cX6_change 48 = .ok (.iload 5, 2) := by decide +kernel
theorem dX6_change_50 : decode cX6_change 50 = .ok (.iadd, 1) := by decide +kernel
theorem dX6_change_51 : decode cX6_change 51 = .ok (.invokestatic 144, 3) := by decide +kernel
theorem dX6_change_54 : decode cX6_change 54 = .ok (.iastore, 1) := by decide +kernel
theorem dX6_change_55 : decode cX6_change 55 = .ok (.iconst 0, 1) := by decide +kernel
theorem dX6_change_56 : decode cX6_change 56 = .ok (.ireturn, 1) := by decide +kernel
theorem dX6_change_57 : decode cX6_change 57 = .ok (.aload_n 0, 1) := by decide +kernel
theorem dX6_change_58 : decode cX6_change 58 = .ok (.iload_n 1, 1) := by decide +kernel
theorem dX6_change_59 : decode cX6_change 59 = .ok (.iload_n 2, 1) := by decide +kernel
theorem dX6_change_60 : decode cX6_change 60 = .ok (.iload_n 3, 1) := by decide +kernel
theorem dX6_change_61 : decode cX6_change 61 = .ok (.invokevirtual 149, 3) := by decide +kernel
theorem dX6_change_64 : decode cX6_change 64 = .ok (.aload 4, 2) := by decide +kernel
theorem dX6_change_66 : decode cX6_change 66 = .ok (.getfield 77, 3) := by decide +kernel
theorem dX6_change_69 : decode cX6_change 69 = .ok (.iload_n 2, 1) := by decide +kernel
theorem dX6_change_70 : decode cX6_change 70 = .ok (.dup2, 1) := by decide +kernel
theorem dX6_change_71 : decode cX6_change 71 = .ok (.iaload, 1) := by decide +kernel
theorem dX6_change_72 : decode cX6_change 72 = .ok (.iload_n 3, 1) := by decide +kernel
theorem dX6_change_73 : decode cX6_change 73 = .ok (.iadd, 1) := by decide +kernel
theorem dX6_change_74 : decode cX6_change 74 = .ok (.iastore, 1) := by decide +kernel
theorem dX6_change_75 : decode cX6_change 75 = .ok (.iconst 1, 1) := by decide +kernel
theorem dX6_change_76 : decode cX6_change 76 = .ok (.ireturn, 1) := by decide +kernel
theorem dX6_useLoans_0 : decode cX6_useLoans 0 = .ok (.iload_n 3, 1) := by decide +kernel
theorem dX6_useLoans_1 : decode cX6_useLoans 1 = .ok (.istore 4, 2) := by decide +kernel
theorem dX6_useLoans_3 : decode cX6_useLoans 3 = .ok (.iconst 0, 1) := by decide +kernel
theorem dX6_useLoans_4 : decode cX6_useLoans 4 = .ok (.istore 5, 2) := by decide +kernel
theorem dX6_useLoans_6 : decode cX6_useLoans 6 = .ok (.iload 5, 2) := by decide +kernel
theorem dX6_useLoans_8 : decode cX6_useLoans 8 = .ok (.aload_n 0, 1) := by decide +kernel
theorem dX6_useLoans_9 : decode cX6_useLoans 9 = .ok (.getfield 50, 3) := by decide +kernel
theorem dX6_useLoans_12 : decode cX6_useLoans 12 = .ok (.if_icmp .ge 65, 3) := by decide +kernel
theorem dX6_useLoans_15 : decode cX6_useLoans 15 = .ok (.iload 4, 2) := by decide +kernel
theorem dX6_useLoans_17 : decode cX6_useLoans 17 = .ok (.ifCond .le 60, 3) := by decide +kernel
theorem dX6_useLoans_20 : decode cX6_useLoans 20 = .ok (.aload_n 0, 1) := by decide +kernel
theorem dX6_useLoans_21 : decode cX6_useLoans 21 = .ok (.iload_n 1, 1) := by decide +kernel
theorem dX6_useLoans_22 : decode cX6_useLoans 22 = .ok (.iload_n 2, 1) := by decide +kernel
theorem dX6_useLoans_23 : decode cX6_useLoans 23 = .ok (.invokevirtual 153, 3) := by decide +kernel
theorem dX6_useLoans_26 : decode cX6_useLoans 26 = .ok (.istore 6, 2) := by decide +kernel
theorem dX6_useLoans_28 : decode cX6_useLoans 28 = .ok (.iload 6, 2) := by decide +kernel
theorem dX6_useLoans_30 : decode cX6_useLoans 30 = .ok (.iconst (-1), 1) := by decide +kernel
theorem dX6_useLoans_31 : decode cX6_useLoans 31 = .ok (.if_icmp .ne 4, 3) := by decide +kernel
theorem dX6_useLoans_34 : decode cX6_useLoans 34 = .ok (.return_, 1) := by decide +kernel
theorem dX6_useLoans_35 : decode cX6_useLoans 35 = .ok (.iload 4, 2) := by decide +kernel
theorem dX6_useLoans_37 : decode cX6_useLoans 37 = .ok (.aload_n 0, 1) := by decide +kernel
theorem dX6_useLoans_38 : decode cX6_useLoans 38 = .ok (.iload 6, 2) := by decide +kernel
theorem dX6_useLoans_40 : decode cX6_useLoans 40 = .ok (.invokevirtual 123, 3) := by decide +kernel
theorem dX6_useLoans_43 : decode cX6_useLoans 43 = .ok (.invokestatic 144, 3) := by decide +kernel
theorem dX6_useLoans_46 : decode cX6_useLoans 46 = .ok (.istore 7, 2) := by decide +kernel
theorem dX6_useLoans_48 : decode cX6_useLoans 48 = .ok (.aload_n 0, 1) := by decide +kernel
theorem dX6_useLoans_49 : decode cX6_useLoans 49 = .ok (.iload_n 1, 1) := by decide +kernel
theorem dX6_useLoans_50 : decode cX6_useLoans 50 = .ok (.invokevirtual 73, 3) := by decide +kernel
theorem dX6_useLoans_53 : decode cX6_useLoans 53 = .ok (.getfield 99, 3) := by decide +kernel
theorem dX6_useLoans_56 : decode cX6_useLoans 56 = .ok (.iload 6, 2) := by decide +kernel
theorem dX6_useLoans_58 : decode cX6_useLoans 58 = .ok (.dup2, 1) := by decide +kernel
theorem dX6_useLoans_59 : decode cX6_useLoans 59 = .ok (.iaload, 1) := by decide +kernel
theorem dX6_useLoans_60 : decode cX6_useLoans 60 = .ok (.iload 7, 2) := by decide +kernel
theorem dX6_useLoans_62 : decode cX6_useLoans 62 = .ok (.iadd, 1) := by decide +kernel
theorem dX6_useLoans_63 : decode cX6_useLoans 63 = .ok (.iastore, 1) := by decide +kernel
theorem dX6_useLoans_64 : decode cX6_useLoans 64 = .ok (.iload 4, 2) := by decide +kernel
theorem dX6_useLoans_66 : decode cX6_useLoans 66 = .ok (.iload 7, 2) := by decide +kernel
theorem dX6_useLoans_68 : decode cX6_useLoans 68 = .ok (.isub, 1) := by decide +kernel
theorem dX6_useLoans_69 : decode cX6_useLoans 69 = .ok (.istore 4, 2) := by decide +kernel
theorem dX6_useLoans_71 : decode cX6_useLoans 71 = .ok (.iinc 5 1, 3) := by decide +kernel
theorem dX6_useLoans_74 : decode cX6_useLoans 74 = .ok (.goto (-68), 3) := by decide +kernel
theorem dX6_useLoans_77 : decode cX6_useLoans 77 = .ok (.return_, 1) := by decide +kernel
theorem dX6_soonestLoan_0 : decode cX6_soonestLoan 0 = .ok (.iconst (-1), 1) := by decide +kernel
theorem dX6_soonestLoan_1 : decode cX6_soonestLoan 1 = .ok (.istore_n 3, 1) := by decide +kernel
theorem dX6_soonestLoan_2 : decode cX6_soonestLoan 2 = .ok (.iconst 0, 1) := by decide +kernel
theorem dX6_soonestLoan_3 : decode cX6_soonestLoan 3 = .ok (.istore 4, 2) := by decide +kernel
theorem dX6_soonestLoan_5 : decode cX6_soonestLoan 5 = .ok (.iload 4, 2) := by decide +kernel
theorem dX6_soonestLoan_7 : decode cX6_soonestLoan 7 = .ok (.aload_n 0, 1) := by decide +kernel
theorem dX6_soonestLoan_8 : decode cX6_soonestLoan 8 = .ok (.getfield 50, 3) := by decide +kernel
theorem dX6_soonestLoan_11 : decode cX6_soonestLoan 11 = .ok (.if_icmp .ge 88, 3) := by decide +kernel
theorem dX6_soonestLoan_14 : decode cX6_soonestLoan 14 = .ok (.aload_n 0, 1) := by decide +kernel
theorem dX6_soonestLoan_15 : decode cX6_soonestLoan 15 = .ok (.getfield 11, 3) := by decide +kernel
theorem dX6_soonestLoan_18 : decode cX6_soonestLoan 18 = .ok (.iload 4, 2) := by decide +kernel
theorem dX6_soonestLoan_20 : decode cX6_soonestLoan 20 = .ok (.aaload, 1) := by decide +kernel
theorem dX6_soonestLoan_21 : decode cX6_soonestLoan 21 = .ok (.getfield 96, 3) := by decide +kernel
theorem dX6_soonestLoan_24 : decode cX6_soonestLoan 24 = .ok (.iload_n 1, 1) := by decide +kernel
theorem dX6_soonestLoan_25 : decode cX6_soonestLoan 25 = .ok (.if_icmp .ne 30, 3) := by decide +kernel
theorem dX6_soonestLoan_28 : decode cX6_soonestLoan 28 = .ok (.aload_n 0, 1) := by decide +kernel
theorem dX6_soonestLoan_29 : decode cX6_soonestLoan 29 = .ok (.getfield 11, 3) := by decide +kernel
theorem dX6_soonestLoan_32 : decode cX6_soonestLoan 32 = .ok (.iload 4, 2) := by decide +kernel
theorem dX6_soonestLoan_34 : decode cX6_soonestLoan 34 = .ok (.aaload, 1) := by decide +kernel
theorem dX6_soonestLoan_35 : decode cX6_soonestLoan 35 = .ok (.getfield 90, 3) := by decide +kernel
theorem dX6_soonestLoan_38 : decode cX6_soonestLoan 38 = .ok (.iload_n 2, 1) := by decide +kernel
theorem dX6_soonestLoan_39 : decode cX6_soonestLoan 39 = .ok (.if_icmp .ne 16, 3) := by decide +kernel
theorem dX6_soonestLoan_42 : decode cX6_soonestLoan 42 = .ok (.aload_n 0, 1) := by decide +kernel
theorem dX6_soonestLoan_43 : decode cX6_soonestLoan 43 = .ok (.iload 4, 2) := by decide +kernel
theorem dX6_soonestLoan_45 : decode cX6_soonestLoan 45 = .ok (.invokevirtual 123, 3) := by decide +kernel
theorem dX6_soonestLoan_48 : decode cX6_soonestLoan 48 = .ok (.ifCond .le 7, 3) := by decide +kernel
theorem dX6_soonestLoan_51 : decode cX6_soonestLoan 51 = .ok (.iconst 1, 1) := by decide +kernel
theorem dX6_soonestLoan_52 : decode cX6_soonestLoan 52 = .ok (.goto 4, 3) := by decide +kernel
theorem dX6_soonestLoan_55 : decode cX6_soonestLoan 55 = .ok (.iconst 0, 1) := by decide +kernel
theorem dX6_soonestLoan_56 : decode cX6_soonestLoan 56 = .ok (.istore 5, 2) := by decide +kernel
theorem dX6_soonestLoan_58 : decode cX6_soonestLoan 58 = .ok (.iload 5, 2) := by decide +kernel
theorem dX6_soonestLoan_60 : decode cX6_soonestLoan 60 = .ok (.ifCond .eq 33, 3) := by decide +kernel
theorem dX6_soonestLoan_63 : decode cX6_soonestLoan 63 = .ok (.iload_n 3, 1) := by decide +kernel
theorem dX6_soonestLoan_64 : decode cX6_soonestLoan 64 = .ok (.iconst (-1), 1) := by decide +kernel
theorem dX6_soonestLoan_65 : decode cX6_soonestLoan 65 = .ok (.if_icmp .eq 25, 3) := by decide +kernel
theorem dX6_soonestLoan_68 : decode cX6_soonestLoan 68 = .ok (.aload_n 0, 1) := by decide +kernel
theorem dX6_soonestLoan_69 : decode cX6_soonestLoan 69 = .ok (.getfield 11, 3) := by decide +kernel
theorem dX6_soonestLoan_72 : decode cX6_soonestLoan 72 = .ok (.iload 4, 2) := by decide +kernel
theorem dX6_soonestLoan_74 : decode cX6_soonestLoan 74 = .ok (.aaload, 1) := by decide +kernel
theorem dX6_soonestLoan_75 : decode cX6_soonestLoan 75 = .ok (.getfield 112, 3) := by decide +kernel
theorem dX6_soonestLoan_78 : decode cX6_soonestLoan 78 = .ok (.aload_n 0, 1) := by decide +kernel
theorem dX6_soonestLoan_79 : decode cX6_soonestLoan 79 = .ok (.getfield 11, 3) := by decide +kernel
theorem dX6_soonestLoan_82 : decode cX6_soonestLoan 82 = .ok (.iload_n 3, 1) := by decide +kernel
theorem dX6_soonestLoan_83 : decode cX6_soonestLoan 83 = .ok (.aaload, 1) := by decide +kernel
theorem dX6_soonestLoan_84 : decode cX6_soonestLoan 84 = .ok (.getfield 112, 3) := by decide +kernel
theorem dX6_soonestLoan_87 : decode cX6_soonestLoan 87 = .ok (.if_icmp .ge 6, 3) := by decide +kernel
theorem dX6_soonestLoan_90 : decode cX6_soonestLoan 90 = .ok (.iload 4, 2) := by decide +kernel
theorem dX6_soonestLoan_92 : decode cX6_soonestLoan 92 = .ok (.istore_n 3, 1) := by decide +kernel
theorem dX6_soonestLoan_93 : decode cX6_soonestLoan 93 = .ok (.iinc 4 1, 3) := by decide +kernel
theorem dX6_soonestLoan_96 : decode cX6_soonestLoan 96 = .ok (.goto (-91), 3) := by decide +kernel
theorem dX6_soonestLoan_99 : decode cX6_soonestLoan 99 = .ok (.iload_n 3, 1) := by decide +kernel
theorem dX6_soonestLoan_100 : decode cX6_soonestLoan 100 = .ok (.ireturn, 1) := by decide +kernel
theorem dX6_give_0 : decode cX6_give 0 = .ok (.aload_n 0, 1) := by decide +kernel
theorem dX6_give_1 : decode cX6_give 1 = .ok (.iload_n 2, 1) := by decide +kernel
theorem dX6_give_2 : decode cX6_give 2 = .ok (.invokevirtual 73, 3) := by decide +kernel
theorem dX6_give_5 : decode cX6_give 5 = .ok (.iload_n 3, 1) := by decide +kernel
theorem dX6_give_6 : decode cX6_give 6 = .ok (.iload_n 1, 1) := by decide +kernel
theorem dX6_give_7 : decode cX6_give 7 = .ok (.iload 4, 2) := by decide +kernel
theorem dX6_give_9 : decode cX6_give 9 = .ok (.invokevirtual 156, 3) := by decide +kernel
theorem dX6_give_12 : decode cX6_give 12 = .ok (.return_, 1) := by decide +kernel
theorem dX6_makeLoan_0 : decode cX6_makeLoan 0 = .ok (.aload_n 0, 1) := by decide +kernel
theorem dX6_makeLoan_1 : decode cX6_makeLoan 1 = .ok (.getfield 50, 3) := by decide +kernel
theorem dX6_makeLoan_4 : decode cX6_makeLoan 4 = .ok (.istore 6, 2) := by decide +kernel
theorem dX6_makeLoan_6 : decode cX6_makeLoan 6 = .ok (.aload_n 0, 1) := by decide +kernel
theorem dX6_makeLoan_7 : decode cX6_makeLoan 7 = .ok (.getfield 11, 3) := by decide +kernel
theorem dX6_makeLoan_10 : decode cX6_makeLoan 10 = .ok (.iload 6, 2) := by decide +kernel
theorem dX6_makeLoan_12 : decode cX6_makeLoan 12 = .ok (.aaload, 1) := by decide +kernel
theorem dX6_makeLoan_13 : decode cX6_makeLoan 13 = .ok (.astore 7, 2) := by decide +kernel
theorem dX6_makeLoan_15 : decode cX6_makeLoan 15 = .ok (.aload 7, 2) := by decide +kernel
theorem dX6_makeLoan_17 : decode cX6_makeLoan 17 = .ok (.iload_n 2, 1) := by decide +kernel
theorem dX6_makeLoan_18 : decode cX6_makeLoan 18 = .ok (.putfield 102, 3) := by decide +kernel
theorem dX6_makeLoan_21 : decode cX6_makeLoan 21 = .ok (.aload 7, 2) := by decide +kernel
theorem dX6_makeLoan_23 : decode cX6_makeLoan 23 = .ok (.iload_n 3, 1) := by decide +kernel
theorem dX6_makeLoan_24 : decode cX6_makeLoan 24 = .ok (.putfield 96, 3) := by decide +kernel
theorem dX6_makeLoan_27 : decode cX6_makeLoan 27 = .ok (.aload 7, 2) := by decide +kernel
theorem dX6_makeLoan_29 : decode cX6_makeLoan 29 = .ok (.iload_n 1, 1) := by decide +kernel
theorem dX6_makeLoan_30 : decode cX6_makeLoan 30 = .ok (.putfield 90, 3) := by decide +kernel
theorem dX6_makeLoan_33 : decode cX6_makeLoan 33 = .ok (.aload 7, 2) := by decide +kernel
theorem dX6_makeLoan_35 : decode cX6_makeLoan 35 = .ok (.iload 4, 2) := by decide +kernel
theorem dX6_makeLoan_37 : decode cX6_makeLoan 37 = .ok (.putfield 109, 3) := by decide +kernel
theorem dX6_makeLoan_40 : decode cX6_makeLoan 40 = .ok (.aload 7, 2) := by decide +kernel
theorem dX6_makeLoan_42 : decode cX6_makeLoan 42 = .ok (.aload_n 0, 1) := by decide +kernel
theorem dX6_makeLoan_43 : decode cX6_makeLoan 43 = .ok (.getfield 47, 3) := by decide +kernel
theorem dX6_makeLoan_46 : decode cX6_makeLoan 46 = .ok (.iload 5, 2) := by decide +kernel
theorem dX6_makeLoan_48 : decode cX6_makeLoan 48 = .ok (.iadd, 1) := by decide +kernel
theorem dX6_makeLoan_49 : decode cX6_makeLoan 49 = .ok (.putfield 112, 3) := by decide +kernel
theorem dX6_makeLoan_52 : decode cX6_makeLoan 52 = .ok (.aload_n 0, 1) := by decide +kernel
theorem dX6_makeLoan_53 : decode cX6_makeLoan 53 = .ok (.dup, 1) := by decide +kernel
theorem dX6_makeLoan_54 : decode cX6_makeLoan 54 = .ok (.getfield 50, 3) := by decide +kernel
theorem dX6_makeLoan_57 : decode cX6_makeLoan 57 = .ok (.iconst 1, 1) := by decide +kernel
theorem dX6_makeLoan_58 : decode cX6_makeLoan 58 = .ok (.iadd, 1) := by decide +kernel
theorem dX6_makeLoan_59 : decode cX6_makeLoan 59 = .ok (.putfield 50, 3) := by decide +kernel
theorem dX6_makeLoan_62 : decode cX6_makeLoan 62 = .ok (.aload_n 0, 1) := by decide +kernel
theorem dX6_makeLoan_63 : decode cX6_makeLoan 63 = .ok (.iload_n 2, 1) := by decide +kernel
theorem dX6_makeLoan_64 : decode cX6_makeLoan 64 = .ok (.invokevirtual 73, 3) := by decide +kernel
theorem dX6_makeLoan_67 : decode cX6_makeLoan 67 = .ok (.astore 8, 2) := by decide +kernel
theorem dX6_makeLoan_69 : decode cX6_makeLoan 69 = .ok (.aload 8, 2) := by decide +kernel
theorem dX6_makeLoan_71 : decode cX6_makeLoan 71 = .ok (.dup, 1) := by decide +kernel
theorem dX6_makeLoan_72 : decode cX6_makeLoan 72 = .ok (.getfield 159, 3) := by decide +kernel
theorem dX6_makeLoan_75 : decode cX6_makeLoan 75 = .ok (.iconst 1, 1) := by decide +kernel
theorem dX6_makeLoan_76 : decode cX6_makeLoan 76 = .ok (.iload 6, 2) := by decide +kernel
theorem dX6_makeLoan_78 : decode cX6_makeLoan 78 = .ok (.ishl, 1) := by decide +kernel
theorem dX6_makeLoan_79 : decode cX6_makeLoan 79 = .ok (.ior, 1) := by decide +kernel
theorem dX6_makeLoan_80 : decode cX6_makeLoan 80 = .ok (.putfield 159, 3) := by decide +kernel
theorem dX6_makeLoan_83 : decode cX6_makeLoan 83 = .ok (.aload 8, 2) := by decide +kernel
theorem dX6_makeLoan_85 : decode cX6_makeLoan 85 = .ok (.dup, 1) := by decide +kernel
theorem dX6_makeLoan_86 : decode cX6_makeLoan 86 = .ok (.getfield 137, 3) := by decide +kernel
theorem dX6_makeLoan_89 : decode cX6_makeLoan 89 = .ok (.iconst 1, 1) := by decide +kernel
theorem dX6_makeLoan_90 : decode cX6_makeLoan 90 = .ok (.iadd, 1) := by decide +kernel
theorem dX6_makeLoan_91 : decode cX6_makeLoan 91 = .ok (.putfield 137, 3) := by decide +kernel
theorem dX6_makeLoan_94 : decode cX6_makeLoan 94 = .ok (.iload 6, 2) := by decide +kernel
theorem dX6_makeLoan_96 : decode cX6_makeLoan 96 = .ok (.ireturn, 1) := by decide +kernel
theorem dX6_shareOut_0 : decode cX6_shareOut 0 = .ok (.iconst 0, 1) := by decide +kernel
theorem dX6_shareOut_1 : decode cX6_shareOut 1 = .ok (.istore_n 3, 1) := by decide +kernel
theorem dX6_shareOut_2 : decode cX6_shareOut 2 = .ok (.iconst 0, 1) := by decide +kernel
theorem dX6_shareOut_3 : decode cX6_shareOut 3 = .ok (.istore 4, 2) := by decide +kernel
theorem dX6_shareOut_5 : decode cX6_shareOut 5 = .ok (.iload 4, 2) := by decide +kernel
theorem dX6_shareOut_7 : decode cX6_shareOut 7 = .ok (.aload_n 0, 1) := by decide +kernel
theorem dX6_shareOut_8 : decode cX6_shareOut 8 = .ok (.getfield 23, 3) := by decide +kernel
theorem dX6_shareOut_11 : decode cX6_shareOut 11 = .ok (.if_icmp .ge 29, 3) := by decide +kernel
theorem dX6_shareOut_14 : decode cX6_shareOut 14 = .ok (.iload_n 3, 1) := by decide +kernel
theorem dX6_shareOut_15 : decode cX6_shareOut 15 = .ok (.aload_n 0, 1) := by decide +kernel
theorem dX6_shareOut_16 : decode cX6_shareOut 16 = .ok (.getfield 29, 3) := by decide +kernel
theorem dX6_shareOut_19 : decode cX6_shareOut 19 = .ok (.iload_n 1, 1) := by decide +kernel
theorem dX6_shareOut_20 : decode cX6_shareOut 20 = .ok (.aaload, 1) := by decide +kernel
theorem dX6_shareOut_21 : decode cX6_shareOut 21 = .ok (.getfield 69, 3) := by decide +kernel
theorem dX6_shareOut_24 : decode cX6_shareOut 24 = .ok (.iload 4, 2) := by decide +kernel
theorem dX6_shareOut_26 : decode cX6_shareOut 26 = .ok (.aaload, 1) := by decide +kernel
theorem dX6_shareOut_27 : decode cX6_shareOut 27 = .ok (.getfield 140, 3) := by decide +kernel
theorem dX6_shareOut_30 : decode cX6_shareOut 30 = .ok (.iload_n 2, 1) := by decide +kernel
theorem dX6_shareOut_31 : decode cX6_shareOut 31 = .ok (.iaload, 1) := by decide +kernel
theorem dX6_shareOut_32 : decode cX6_shareOut 32 = .ok (.iadd, 1) := by decide +kernel
theorem dX6_shareOut_33 : decode cX6_shareOut 33 = .ok (.istore_n 3, 1) := by decide +kernel
theorem dX6_shareOut_34 : decode cX6_shareOut 34 = .ok (.iinc 4 1, 3) := by decide +kernel
theorem dX6_shareOut_37 : decode cX6_shareOut 37 = .ok (.goto (-32), 3) := by decide +kernel
theorem dX6_shareOut_40 : decode cX6_shareOut 40 = .ok (.iload_n 3, 1) := by decide +kernel
theorem dX6_shareOut_41 : decode cX6_shareOut 41 = .ok (.ifCond .gt 5, 3) := by decide +kernel
theorem dX6_shareOut_44 : decode cX6_shareOut 44 = .ok (.iconst 0, 1) := by decide +kernel
theorem dX6_shareOut_45 : decode cX6_shareOut 45 = .ok (.ireturn, 1) := by decide +kernel
theorem dX6_shareOut_46 : decode cX6_shareOut 46 = .ok (.aload_n 0, 1) := by decide +kernel
theorem dX6_shareOut_47 : decode cX6_shareOut 47 = .ok (.iload_n 1, 1) := by decide +kernel
theorem dX6_shareOut_48 : decode cX6_shareOut 48 = .ok (.iload_n 2, 1) := by decide +kernel
theorem dX6_shareOut_49 : decode cX6_shareOut 49 = .ok (.invokevirtual 120, 3) := by decide +kernel
theorem dX6_shareOut_52 : decode cX6_shareOut 52 = .ok (.i2l, 1) := by decide +kernel
theorem dX6_shareOut_53 : decode cX6_shareOut 53 = .ok (.lstore 4, 2) := by decide +kernel
theorem dX6_shareOut_55 : decode cX6_shareOut 55 = .ok (.iconst 0, 1) := by decide +kernel
theorem dX6_shareOut_56 : decode cX6_shareOut 56 = .ok (.istore 6, 2) := by decide +kernel
theorem dX6_shareOut_58 : decode cX6_shareOut 58 = .ok (.iconst 0, 1) := by decide +kernel
theorem dX6_shareOut_59 : decode cX6_shareOut 59 = .ok (.istore 7, 2) := by decide +kernel
theorem dX6_shareOut_61 : decode cX6_shareOut 61 = .ok (.iload 7, 2) := by decide +kernel
theorem dX6_shareOut_63 : decode cX6_shareOut 63 = .ok (.aload_n 0, 1) := by decide +kernel
theorem dX6_shareOut_64 : decode cX6_shareOut 64 = .ok (.getfield 23, 3) := by decide +kernel
theorem dX6_shareOut_67 : decode cX6_shareOut 67 = .ok (.if_icmp .ge 67, 3) := by decide +kernel
theorem dX6_shareOut_70 : decode cX6_shareOut 70 = .ok (.lload 4, 2) := by decide +kernel
theorem dX6_shareOut_72 : decode cX6_shareOut 72 = .ok (.aload_n 0, 1) := by decide +kernel
theorem dX6_shareOut_73 : decode cX6_shareOut 73 = .ok (.getfield 29, 3) := by decide +kernel
theorem dX6_shareOut_76 : decode cX6_shareOut 76 = .ok (.iload_n 1, 1) := by decide +kernel
theorem dX6_shareOut_77 : decode cX6_shareOut 77 = .ok (.aaload, 1) := by decide +kernel
theorem dX6_shareOut_78 : decode cX6_shareOut 78 = .ok (.getfield 69, 3) := by decide +kernel
theorem dX6_shareOut_81 : decode cX6_shareOut 81 = .ok (.iload 7, 2) := by decide +kernel
theorem dX6_shareOut_83 : decode cX6_shareOut 83 = .ok (.aaload, 1) := by decide +kernel
theorem dX6_shareOut_84 : decode cX6_shareOut 84 = .ok (.getfield 140, 3) := by decide +kernel
theorem dX6_shareOut_87 : decode cX6_shareOut 87 = .ok (.iload_n 2, 1) := by decide +kernel
theorem dX6_shareOut_88 : decode cX6_shareOut 88 = .ok (.iaload, 1) := by decide +kernel
theorem dX6_shareOut_89 : decode cX6_shareOut 89 = .ok (.i2l, 1) := by decide +kernel
theorem dX6_shareOut_90 : decode cX6_shareOut 90 = .ok (.lmul, 1) := by decide +kernel
theorem dX6_shareOut_91 : decode cX6_shareOut 91 = .ok (.iload_n 3, 1) := by decide +kernel
theorem dX6_shareOut_92 : decode cX6_shareOut 92 = .ok (.i2l, 1) := by decide +kernel
theorem dX6_shareOut_93 : decode cX6_shareOut 93 = .ok (.ldiv, 1) := by decide +kernel
theorem dX6_shareOut_94 : decode cX6_shareOut 94 = .ok (.lstore 8, 2) := by decide +kernel
theorem dX6_shareOut_96 : decode cX6_shareOut 96 = .ok (.iload 7, 2) := by decide +kernel
theorem dX6_shareOut_98 : decode cX6_shareOut 98 = .ok (.iload_n 1, 1) := by decide +kernel
theorem dX6_shareOut_99 : decode cX6_shareOut 99 = .ok (.if_icmp .eq 29, 3) := by decide +kernel
theorem dX6_shareOut_102 : decode cX6_shareOut 102 = .ok (.lload 8, 2) := by decide +kernel
theorem dX6_shareOut_104 : decode cX6_shareOut 104 = .ok (.lconst 0, 1) := by decide +kernel
theorem dX6_shareOut_105 : decode cX6_shareOut 105 = .ok (.lcmp, 1) := by decide +kernel
theorem dX6_shareOut_106 : decode cX6_shareOut 106 = .ok (.ifCond .le 22, 3) := by decide +kernel
theorem dX6_shareOut_109 : decode cX6_shareOut 109 = .ok (.aload_n 0, 1) := by decide +kernel
theorem dX6_shareOut_110 : decode cX6_shareOut 110 = .ok (.iload_n 2, 1) := by decide +kernel
theorem dX6_shareOut_111 : decode cX6_shareOut 111 = .ok (.iload_n 1, 1) := by decide +kernel
theorem dX6_shareOut_112 : decode cX6_shareOut 112 = .ok (.iload 7, 2) := by decide +kernel
theorem dX6_shareOut_114 : decode cX6_shareOut 114 = .ok (.lload 8, 2) := by decide +kernel
theorem dX6_shareOut_116 : decode cX6_shareOut 116 = .ok (.l2i, 1) := by decide +kernel
theorem dX6_shareOut_117 : decode cX6_shareOut 117 = .ok (.invokevirtual 162, 3) := by decide +kernel
theorem dX6_shareOut_120 : decode cX6_shareOut 120 = .ok (.iload 6, 2) := by decide +kernel
theorem dX6_shareOut_122 : decode cX6_shareOut 122 = .ok (.lload 8, 2) := by decide +kernel
theorem dX6_shareOut_124 : decode cX6_shareOut 124 = .ok (.l2i, 1) := by decide +kernel
theorem dX6_shareOut_125 : decode cX6_shareOut 125 = .ok (.iadd, 1) := by decide +kernel
theorem dX6_shareOut_126 : decode cX6_shareOut 126 = .ok (.istore 6, 2) := by decide +kernel
theorem dX6_shareOut_128 : decode cX6_shareOut 128 = .ok (.iinc 7 1, 3) := by decide +kernel
theorem dX6_shareOut_131 : decode cX6_shareOut 131 = .ok (.goto (-70), 3) := by decide +kernel
theorem dX6_shareOut_134 : decode cX6_shareOut 134 = .ok (.iload 6, 2) := by decide +kernel
theorem dX6_shareOut_136 : decode cX6_shareOut 136 = .ok (.ireturn, 1) := by decide +kernel
theorem dX6_letPass_0 : decode cX6_letPass 0 = .ok (.aload_n 0, 1) := by decide +kernel
theorem dX6_letPass_1 : decode cX6_letPass 1 = .ok (.dup, 1) := by decide +kernel
theorem dX6_letPass_2 : decode cX6_letPass 2 = .ok (.getfield 47, 3) := by decide +kernel
theorem dX6_letPass_5 : decode cX6_letPass 5 = .ok (.iload_n 1, 1) := by decide +kernel
theorem dX6_letPass_6 : decode cX6_letPass 6 = .ok (.iadd, 1) := by decide +kernel
theorem dX6_letPass_7 : decode cX6_letPass 7 = .ok (.putfield 47, 3) := by decide +kernel
theorem dX6_letPass_10 : decode cX6_letPass 10 = .ok (.iconst 0, 1) := by decide +kernel
theorem dX6_letPass_11 : decode cX6_letPass 11 = .ok (.istore_n 2, 1) := by decide +kernel
theorem dX6_letPass_12 : decode cX6_letPass 12 = .ok (.iload_n 2, 1) := by decide +kernel
theorem dX6_letPass_13 : decode cX6_letPass 13 = .ok (.aload_n 0, 1) := by decide +kernel
theorem dX6_letPass_14 : decode cX6_letPass 14 = .ok (.getfield 23, 3) := by decide +kernel
theorem dX6_letPass_17 : decode cX6_letPass 17 = .ok (.if_icmp .ge 21, 3) := by decide +kernel
theorem dX6_letPass_20 : decode cX6_letPass 20 = .ok (.aload_n 0, 1) := by decide +kernel
theorem dX6_letPass_21 : decode cX6_letPass 21 = .ok (.iload_n 2, 1) := by decide +kernel
theorem dX6_letPass_22 : decode cX6_letPass 22 = .ok (.invokevirtual 73, 3) := by decide +kernel
theorem dX6_letPass_25 : decode cX6_letPass 25 = .ok (.aload_n 0, 1) := by decide +kernel
theorem dX6_letPass_26 : decode cX6_letPass 26 = .ok (.getfield 47, 3) := by decide +kernel
theorem dX6_letPass_29 : decode cX6_letPass 29 = .ok (.putfield 115, 3) := by decide +kernel
theorem dX6_letPass_32 : decode cX6_letPass 32 = .ok (.iinc 2 1, 3) := by decide +kernel
theorem dX6_letPass_35 : decode cX6_letPass 35 = .ok (.goto (-23), 3) := by decide +kernel
theorem dX6_letPass_38 : decode cX6_letPass 38 = .ok (.return_, 1) := by decide +kernel
theorem dX6_loanFact_0 : decode cX6_loanFact 0 = .ok (.aload_n 0, 1) := by decide +kernel
theorem dX6_loanFact_1 : decode cX6_loanFact 1 = .ok (.getfield 11, 3) := by decide +kernel
theorem dX6_loanFact_4 : decode cX6_loanFact 4 = .ok (.iload_n 1, 1) := by decide +kernel
theorem dX6_loanFact_5 : decode cX6_loanFact 5 = .ok (.aaload, 1) := by decide +kernel
theorem dX6_loanFact_6 : decode cX6_loanFact 6 = .ok (.astore_n 3, 1) := by decide +kernel
theorem dX6_loanFact_7 : decode cX6_loanFact 7 = .ok (.iload_n 2, 1) := by decide +kernel
theorem dX6_loanFact_8 : decode cX6_loanFact 8 = .ok (.tableswitch 89 0 6 #[44, 49, 54, 59, 64, 69, 83], 44) := by decide +kernel
theorem dX6_loanFact_52 : decode cX6_loanFact 52 = .ok (.aload_n 3, 1) := by decide +kernel
theorem dX6_loanFact_53 : decode cX6_loanFact 53 = .ok (.getfield 102, 3) := by decide +kernel
theorem dX6_loanFact_56 : decode cX6_loanFact 56 = .ok (.ireturn, 1) := by decide +kernel
theorem dX6_loanFact_57 : decode cX6_loanFact 57 = .ok (.aload_n 3, 1) := by decide +kernel
theorem dX6_loanFact_58 : decode cX6_loanFact 58 = .ok (.getfield 96, 3) := by decide +kernel
theorem dX6_loanFact_61 : decode cX6_loanFact 61 = .ok (.ireturn, 1) := by decide +kernel
theorem dX6_loanFact_62 : decode cX6_loanFact 62 = .ok (.aload_n 3, 1) := by decide +kernel
theorem dX6_loanFact_63 : decode cX6_loanFact 63 = .ok (.getfield 90, 3) := by decide +kernel
theorem dX6_loanFact_66 : decode cX6_loanFact 66 = .ok (.ireturn, 1) := by decide +kernel
theorem dX6_loanFact_67 : decode cX6_loanFact 67 = .ok (.aload_n 3, 1) := by decide +kernel
theorem dX6_loanFact_68 : decode cX6_loanFact 68 = .ok (.getfield 109, 3) := by decide +kernel
theorem dX6_loanFact_71 : decode cX6_loanFact 71 = .ok (.ireturn, 1) := by decide +kernel
theorem dX6_loanFact_72 : decode cX6_loanFact 72 = .ok (.aload_n 3, 1) := by decide +kernel
theorem dX6_loanFact_73 : decode cX6_loanFact 73 = .ok (.getfield 112, 3) := by decide +kernel
theorem dX6_loanFact_76 : decode cX6_loanFact 76 = .ok (.ireturn, 1) := by decide +kernel
theorem dX6_loanFact_77 : decode cX6_loanFact 77 = .ok (.aload_n 0, 1) := by decide +kernel
theorem dX6_loanFact_78 : decode cX6_loanFact 78 = .ok (.aload_n 3, 1) := by decide +kernel
theorem dX6_loanFact_79 : decode cX6_loanFact 79 = .ok (.getfield 96, 3) := by decide +kernel
theorem dX6_loanFact_82 : decode cX6_loanFact 82 = .ok (.invokevirtual 73, 3) := by decide +kernel
theorem dX6_loanFact_85 : decode cX6_loanFact 85 = .ok (.getfield 99, 3) := by decide +kernel
theorem dX6_loanFact_88 : decode cX6_loanFact 88 = .ok (.iload_n 1, 1) := by decide +kernel
theorem dX6_loanFact_89 : decode cX6_loanFact 89 = .ok (.iaload, 1) := by decide +kernel
theorem dX6_loanFact_90 : decode cX6_loanFact 90 = .ok (.ireturn, 1) := by decide +kernel
theorem dX6_loanFact_91 : decode cX6_loanFact 91 = .ok (.aload_n 0, 1) := by decide +kernel
theorem dX6_loanFact_92 : decode cX6_loanFact 92 = .ok (.iload_n 1, 1) := by decide +kernel
theorem dX6_loanFact_93 : decode cX6_loanFact 93 = .ok (.invokevirtual 123, 3) := by decide +kernel
theorem dX6_loanFact_96 : decode cX6_loanFact 96 = .ok (.ireturn, 1) := by decide +kernel
theorem dX6_loanFact_97 : decode cX6_loanFact 97 = .ok (.aload_n 0, 1) := by decide +kernel
theorem dX6_loanFact_98 : decode cX6_loanFact 98 = .ok (.aload_n 3, 1) := by decide +kernel
theorem dX6_loanFact_99 : decode cX6_loanFact 99 = .ok (.invokevirtual 105, 3) := by decide +kernel
theorem dX6_loanFact_102 : decode cX6_loanFact 102 = .ok (.ifCond .eq 7, 3) := by decide +kernel
theorem dX6_loanFact_105 : decode cX6_loanFact 105 = .ok (.iconst 1, 1) := by decide +kernel
theorem dX6_loanFact_106 : decode cX6_loanFact 106 = .ok (.goto 4, 3) := by decide +kernel
theorem dX6_loanFact_109 : decode cX6_loanFact 109 = .ok (.iconst 0, 1) := by decide +kernel
theorem dX6_loanFact_110 : decode cX6_loanFact 110 = .ok (.ireturn, 1) := by decide +kernel
theorem dX6_post_0 : decode cX6_post 0 = .ok (.aload_n 0, 1) := by decide +kernel
theorem dX6_post_1 : decode cX6_post 1 = .ok (.getfield 53, 3) := by decide +kernel
theorem dX6_post_4 : decode cX6_post 4 = .ok (.istore_n 3, 1) := by decide +kernel
theorem dX6_post_5 : decode cX6_post 5 = .ok (.aload_n 0, 1) := by decide +kernel
theorem dX6_post_6 : decode cX6_post 6 = .ok (.getfield 19, 3) := by decide +kernel
theorem dX6_post_9 : decode cX6_post 9 = .ok (.iload_n 3, 1) := by decide +kernel
theorem dX6_post_10 : decode cX6_post 10 = .ok (.aaload, 1) := by decide +kernel
theorem dX6_post_11 : decode cX6_post 11 = .ok (.astore 4, 2) := by decide +kernel
theorem dX6_post_13 : decode cX6_post 13 = .ok (.aload 4, 2) := by decide +kernel
theorem dX6_post_15 : decode cX6_post 15 = .ok (.iload_n 1, 1) := by decide +kernel
theorem dX6_post_16 : decode cX6_post 16 = .ok (.putfield 165, 3) := by decide +kernel
theorem dX6_post_19 : decode cX6_post 19 = .ok (.aload 4, 2) := by decide +kernel
theorem dX6_post_21 : decode cX6_post 21 = .ok (.iload_n 2, 1) := by decide +kernel
theorem dX6_post_22 : decode cX6_post 22 = .ok (.putfield 168, 3) := by decide +kernel
theorem dX6_post_25 : decode cX6_post 25 = .ok (.aload 4, 2) := by decide +kernel
theorem dX6_post_27 : decode cX6_post 27 = .ok (.aload_n 0, 1) := by decide +kernel
theorem dX6_post_28 : decode cX6_post 28 = .ok (.getfield 47, 3) := by decide +kernel
theorem dX6_post_31 : decode cX6_post 31 = .ok (.putfield 171, 3) := by decide +kernel
theorem dX6_post_34 : decode cX6_post 34 = .ok (.aload 4, 2) := by decide +kernel
theorem dX6_post_36 : decode cX6_post 36 = .ok (.getfield 174, 3) := by decide +kernel
theorem dX6_post_39 : decode cX6_post 39 = .ok (.aload_n 0, 1) := by decide +kernel
theorem dX6_post_40 : decode cX6_post 40 = .ok (.getfield 29, 3) := by decide +kernel
theorem dX6_post_43 : decode cX6_post 43 = .ok (.iload_n 1, 1) := by decide +kernel
theorem dX6_post_44 : decode cX6_post 44 = .ok (.aaload, 1) := by decide +kernel
theorem dX6_post_45 : decode cX6_post 45 = .ok (.invokevirtual 59, 3) := by decide +kernel
theorem dX6_post_48 : decode cX6_post 48 = .ok (.aload_n 0, 1) := by decide +kernel
theorem dX6_post_49 : decode cX6_post 49 = .ok (.dup, 1) := by decide +kernel
theorem dX6_post_50 : decode cX6_post 50 = .ok (.getfield 53, 3) := by decide +kernel
theorem dX6_post_53 : decode cX6_post 53 = .ok (.iconst 1, 1) := by decide +kernel
theorem dX6_post_54 : decode cX6_post 54 = .ok (.iadd, 1) := by decide +kernel
theorem dX6_post_55 : decode cX6_post 55 = .ok (.putfield 53, 3) := by decide +kernel
theorem dX6_post_58 : decode cX6_post 58 = .ok (.iload_n 3, 1) := by decide +kernel
theorem dX6_post_59 : decode cX6_post 59 = .ok (.ireturn, 1) := by decide +kernel
theorem dX6_postAgain_0 : decode cX6_postAgain 0 = .ok (.aload_n 0, 1) := by decide +kernel
theorem dX6_postAgain_1 : decode cX6_postAgain 1 = .ok (.getfield 53, 3) := by decide +kernel
theorem dX6_postAgain_4 : decode cX6_postAgain 4 = .ok (.istore_n 2, 1) := by decide +kernel
theorem dX6_postAgain_5 : decode cX6_postAgain 5 = .ok (.aload_n 0, 1) := by decide +kernel
theorem dX6_postAgain_6 : decode cX6_postAgain 6 = .ok (.getfield 19, 3) := by decide +kernel
theorem dX6_postAgain_9 : decode cX6_postAgain 9 = .ok (.iload_n 2, 1) := by decide +kernel
theorem dX6_postAgain_10 : decode cX6_postAgain 10 = .ok (.aaload, 1) := by decide +kernel
theorem dX6_postAgain_11 : decode cX6_postAgain 11 = .ok (.aload_n 0, 1) := by decide +kernel
theorem dX6_postAgain_12 : decode cX6_postAgain 12 = .ok (.getfield 19, 3) := by decide +kernel
theorem dX6_postAgain_15 : decode cX6_postAgain 15 = .ok (.iload_n 1, 1) := by decide +kernel
theorem dX6_postAgain_16 : decode cX6_postAgain 16 = .ok (.aaload, 1) := by decide +kernel
theorem dX6_postAgain_17 : decode cX6_postAgain 17 = .ok (.invokevirtual 66, 3) := by decide +kernel
theorem dX6_postAgain_20 : decode cX6_postAgain 20 = .ok (.aload_n 0, 1) := by decide +kernel
theorem dX6_postAgain_21 : decode cX6_postAgain 21 = .ok (.dup, 1) := by decide +kernel
theorem dX6_postAgain_22 : decode cX6_postAgain 22 = .ok (.getfield 53, 3) := by decide +kernel
theorem dX6_postAgain_25 : decode cX6_postAgain 25 = .ok (.iconst 1, 1) := by decide +kernel
theorem dX6_postAgain_26 : decode cX6_postAgain 26 = .ok (.iadd, 1) := by decide +kernel
theorem dX6_postAgain_27 : decode cX6_postAgain 27 = .ok (.putfield 53, 3) := by decide +kernel
theorem dX6_postAgain_30 : decode cX6_postAgain 30 = .ok (.iload_n 2, 1) := by decide +kernel
theorem dX6_postAgain_31 : decode cX6_postAgain 31 = .ok (.ireturn, 1) := by decide +kernel
theorem dX6_handOver_0 : decode cX6_handOver 0 = .ok (.aload_n 0, 1) := by decide +kernel
theorem dX6_handOver_1 : decode cX6_handOver 1 = .ok (.getfield 19, 3) := by decide +kernel
theorem dX6_handOver_4 : decode cX6_handOver 4 = .ok (.iload_n 1, 1) := by decide +kernel
theorem dX6_handOver_5 : decode cX6_handOver 5 = .ok (.aaload, 1) := by decide +kernel
theorem dX6_handOver_6 : decode cX6_handOver 6 = .ok (.astore_n 2, 1) := by decide +kernel
theorem dX6_handOver_7 : decode cX6_handOver 7 = .ok (.aload_n 0, 1) := by decide +kernel
theorem dX6_handOver_8 : decode cX6_handOver 8 = .ok (.getfield 29, 3) := by decide +kernel
theorem dX6_handOver_11 : decode cX6_handOver 11 = .ok (.aload_n 2, 1) := by decide +kernel
theorem dX6_handOver_12 : decode cX6_handOver 12 = .ok (.getfield 168, 3) := by decide +kernel
theorem dX6_handOver_15 : decode cX6_handOver 15 = .ok (.aaload, 1) := by decide +kernel
theorem dX6_handOver_16 : decode cX6_handOver 16 = .ok (.aload_n 2, 1) := by decide +kernel
theorem dX6_handOver_17 : decode cX6_handOver 17 = .ok (.getfield 174, 3) := by decide +kernel
theorem dX6_handOver_20 : decode cX6_handOver 20 = .ok (.aload_n 2, 1) := by decide +kernel
theorem dX6_handOver_21 : decode cX6_handOver 21 = .ok (.getfield 168, 3) := by decide +kernel
theorem dX6_handOver_24 : decode cX6_handOver 24 = .ok (.invokevirtual 178, 3) := by decide +kernel
theorem dX6_handOver_27 : decode cX6_handOver 27 = .ok (.istore_n 3, 1) := by decide +kernel
theorem dX6_handOver_28 : decode cX6_handOver 28 = .ok (.aload_n 0, 1) := by decide +kernel
theorem dX6_handOver_29 : decode cX6_handOver 29 = .ok (.iload_n 1, 1) := by decide +kernel
theorem dX6_handOver_30 : decode cX6_handOver 30 = .ok (.invokevirtual 182, 3) := by decide +kernel
theorem dX6_handOver_33 : decode cX6_handOver 33 = .ok (.iload_n 3, 1) := by decide +kernel
theorem dX6_handOver_34 : decode cX6_handOver 34 = .ok (.ireturn, 1) := by decide +kernel
theorem dX6_drop_0 : decode cX6_drop 0 = .ok (.aload_n 0, 1) := by decide +kernel
theorem dX6_drop_1 : decode cX6_drop 1 = .ok (.getfield 19, 3) := by decide +kernel
theorem dX6_drop_4 : decode cX6_drop 4 = .ok (.iload_n 1, 1) := by decide +kernel
theorem dX6_drop_5 : decode cX6_drop 5 = .ok (.aaload, 1) := by decide +kernel
theorem dX6_drop_6 : decode cX6_drop 6 = .ok (.astore_n 2, 1) := by decide +kernel
theorem dX6_drop_7 : decode cX6_drop 7 = .ok (.iload_n 1, 1) := by decide +kernel
theorem dX6_drop_8 : decode cX6_drop 8 = .ok (.istore_n 3, 1) := by decide +kernel
theorem dX6_drop_9 : decode cX6_drop 9 = .ok (.iload_n 3, 1) := by decide +kernel
theorem dX6_drop_10 : decode cX6_drop 10 = .ok (.iconst 1, 1) := by decide +kernel
theorem dX6_drop_11 : decode cX6_drop 11 = .ok (.iadd, 1) := by decide +kernel
theorem dX6_drop_12 : decode cX6_drop 12 = .ok (.aload_n 0, 1) := by decide +kernel
theorem dX6_drop_13 : decode cX6_drop 13 = .ok (.getfield 53, 3) := by decide +kernel
theorem dX6_drop_16 : decode cX6_drop 16 = .ok (.if_icmp .ge 23, 3) := by decide +kernel
theorem dX6_drop_19 : decode cX6_drop 19 = .ok (.aload_n 0, 1) := by decide +kernel
theorem dX6_drop_20 : decode cX6_drop 20 = .ok (.getfield 19, 3) := by decide +kernel
theorem dX6_drop_23 : decode cX6_drop 23 = .ok (.iload_n 3, 1) := by decide +kernel
theorem dX6_drop_24 : decode cX6_drop 24 = .ok (.aload_n 0, 1) := by decide +kernel
theorem dX6_drop_25 : decode cX6_drop 25 = .ok (.getfield 19, 3) := by decide +kernel
theorem dX6_drop_28 : decode cX6_drop 28 = .ok (.iload_n 3, 1) := by decide +kernel
theorem dX6_drop_29 : decode cX6_drop 29 = .ok (.iconst 1, 1) := by decide +kernel
theorem dX6_drop_30 : decode cX6_drop 30 = .ok (.iadd, 1) := by decide +kernel
theorem dX6_drop_31 : decode cX6_drop 31 = .ok (.aaload, 1) := by decide +kernel
theorem dX6_drop_32 : decode cX6_drop 32 = .ok (.aastore, 1) := by decide +kernel
theorem dX6_drop_33 : decode cX6_drop 33 = .ok (.iinc 3 1, 3) := by decide +kernel
theorem dX6_drop_36 : decode cX6_drop 36 = .ok (.goto (-27), 3) := by decide +kernel
theorem dX6_drop_39 : decode cX6_drop 39 = .ok (.aload_n 0, 1) := by decide +kernel
theorem dX6_drop_40 : decode cX6_drop 40 = .ok (.dup, 1) := by decide +kernel
theorem dX6_drop_41 : decode cX6_drop 41 = .ok (.getfield 53, 3) := by decide +kernel
theorem dX6_drop_44 : decode cX6_drop 44 = .ok (.iconst 1, 1) := by decide +kernel
theorem dX6_drop_45 : decode cX6_drop 45 = .ok (.isub, 1) := by decide +kernel
theorem dX6_drop_46 : decode cX6_drop 46 = .ok (.putfield 53, 3) := by decide +kernel
theorem dX6_drop_49 : decode cX6_drop 49 = .ok (.aload_n 0, 1) := by decide +kernel
theorem dX6_drop_50 : decode cX6_drop 50 = .ok (.getfield 19, 3) := by decide +kernel
theorem dX6_drop_53 : decode cX6_drop 53 = .ok (.aload_n 0, 1) := by decide +kernel
theorem dX6_drop_54 : decode cX6_drop 54 = .ok (.getfield 53, 3) := by decide +kernel
theorem dX6_drop_57 : decode cX6_drop 57 = .ok (.aload_n 2, 1) := by decide +kernel
theorem dX6_drop_58 : decode cX6_drop 58 = .ok (.aastore, 1) := by decide +kernel
theorem dX6_drop_59 : decode cX6_drop 59 = .ok (.return_, 1) := by decide +kernel
theorem dX7_init_0 : decode cX7_init 0 = .ok (.aload_n 0, 1) := by decide +kernel
theorem dX7_init_1 : decode cX7_init 1 = .ok (.invokespecial 1, 3) := by decide +kernel
theorem dX7_init_4 : decode cX7_init 4 = .ok (.aload_n 0, 1) := by decide +kernel
theorem dX7_init_5 : decode cX7_init 5 = .ok (.iload_n 1, 1) := by decide +kernel
theorem dX7_init_6 : decode cX7_init 6 = .ok (.anewarray 7, 3) := by decide +kernel
theorem dX7_init_9 : decode cX7_init 9 = .ok (.putfield 9, 3) := by decide +kernel
theorem dX7_init_12 : decode cX7_init 12 = .ok (.iconst 0, 1) := by decide +kernel
theorem dX7_init_13 : decode cX7_init 13 = .ok (.istore_n 2, 1) := by decide +kernel
theorem dX7_init_14 : decode cX7_init 14 = .ok (.iload_n 2, 1) := by decide +kernel
theorem dX7_init_15 : decode cX7_init 15 = .ok (.iload_n 1, 1) := by decide +kernel
theorem dX7_init_16 : decode cX7_init 16 = .ok (.if_icmp .ge 22, 3) := by decide +kernel
theorem dX7_init_19 : decode cX7_init 19 = .ok (.aload_n 0, 1) := by decide +kernel
theorem dX7_init_20 : decode cX7_init 20 = .ok (.getfield 9, 3) := by decide +kernel
theorem dX7_init_23 : decode cX7_init 23 = .ok (.iload_n 2, 1) := by decide +kernel
theorem dX7_init_24 : decode cX7_init 24 = .ok (.new 7, 3) := by decide +kernel
theorem dX7_init_27 : decode cX7_init 27 = .ok (.dup, 1) := by decide +kernel
theorem dX7_init_28 : decode cX7_init 28 = .ok (.invokespecial 15, 3) := by decide +kernel
theorem dX7_init_31 : decode cX7_init 31 = .ok (.aastore, 1) := by decide +kernel
theorem dX7_init_32 : decode cX7_init 32 = .ok (.iinc 2 1, 3) := by decide +kernel
theorem dX7_init_35 : decode cX7_init 35 = .ok (.goto (-21), 3) := by decide +kernel
theorem dX7_init_38 : decode cX7_init 38 = .ok (.return_, 1) := by decide +kernel
theorem dX7_clear_0 : decode cX7_clear 0 = .ok (.iconst 0, 1) := by decide +kernel
theorem dX7_clear_1 : decode cX7_clear 1 = .ok (.istore_n 1, 1) := by decide +kernel
theorem dX7_clear_2 : decode cX7_clear 2 = .ok (.iload_n 1, 1) := by decide +kernel
theorem dX7_clear_3 : decode cX7_clear 3 = .ok (.aload_n 0, 1) := by decide +kernel
theorem dX7_clear_4 : decode cX7_clear 4 = .ok (.getfield 9, 3) := by decide +kernel
theorem dX7_clear_7 : decode cX7_clear 7 = .ok (.arraylength, 1) := by decide +kernel
theorem dX7_clear_8 : decode cX7_clear 8 = .ok (.if_icmp .ge 18, 3) := by decide +kernel
theorem dX7_clear_11 : decode cX7_clear 11 = .ok (.aload_n 0, 1) := by decide +kernel
theorem dX7_clear_12 : decode cX7_clear 12 = .ok (.getfield 9, 3) := by decide +kernel
theorem dX7_clear_15 : decode cX7_clear 15 = .ok (.iload_n 1, 1) := by decide +kernel
theorem dX7_clear_16 : decode cX7_clear 16 = .ok (.aaload, 1) := by decide +kernel
theorem dX7_clear_17 : decode cX7_clear 17 = .ok (.invokevirtual 16, 3) := by decide +kernel
theorem dX7_clear_20 : decode cX7_clear 20 = .ok (.iinc 1 1, 3) := by decide +kernel
theorem dX7_clear_23 : decode cX7_clear 23 = .ok (.goto (-21), 3) := by decide +kernel
theorem dX7_clear_26 : decode cX7_clear 26 = .ok (.return_, 1) := by decide +kernel
theorem dX7_copyFrom_0 : decode cX7_copyFrom 0 = .ok (.iconst 0, 1) := by decide +kernel
theorem dX7_copyFrom_1 : decode cX7_copyFrom 1 = .ok (.istore_n 2, 1) := by decide +kernel
theorem dX7_copyFrom_2 : decode cX7_copyFrom 2 = .ok (.iload_n 2, 1) := by decide +kernel
theorem dX7_copyFrom_3 : decode cX7_copyFrom 3 = .ok (.aload_n 0, 1) := by decide +kernel
theorem dX7_copyFrom_4 : decode cX7_copyFrom 4 = .ok (.getfield 9, 3) := by decide +kernel
theorem dX7_copyFrom_7 : decode cX7_copyFrom 7 = .ok (.arraylength, 1) := by decide +kernel
theorem dX7_copyFrom_8 : decode cX7_copyFrom 8 = .ok (.if_icmp .ge 24, 3) := by decide +kernel
theorem dX7_copyFrom_11 : decode cX7_copyFrom 11 = .ok (.aload_n 0, 1) := by decide +kernel
theorem dX7_copyFrom_12 : decode cX7_copyFrom 12 = .ok (.getfield 9, 3) := by decide +kernel
theorem dX7_copyFrom_15 : decode cX7_copyFrom 15 = .ok (.iload_n 2, 1) := by decide +kernel
theorem dX7_copyFrom_16 : decode cX7_copyFrom 16 = .ok (.aaload, 1) := by decide +kernel
theorem dX7_copyFrom_17 : decode cX7_copyFrom 17 = .ok (.aload_n 1, 1) := by decide +kernel
theorem dX7_copyFrom_18 : decode cX7_copyFrom 18 = .ok (.getfield 9, 3) := by decide +kernel
theorem dX7_copyFrom_21 : decode cX7_copyFrom 21 = .ok (.iload_n 2, 1) := by decide +kernel
theorem dX7_copyFrom_22 : decode cX7_copyFrom 22 = .ok (.aaload, 1) := by decide +kernel
theorem dX7_copyFrom_23 : decode cX7_copyFrom 23 = .ok (.invokevirtual 19, 3) := by decide +kernel
theorem dX7_copyFrom_26 : decode cX7_copyFrom 26 = .ok (.iinc 2 1, 3) := by decide +kernel
theorem dX7_copyFrom_29 : decode cX7_copyFrom 29 = .ok (.goto (-27), 3) := by decide +kernel
theorem dX7_copyFrom_32 : decode cX7_copyFrom 32 = .ok (.return_, 1) := by decide +kernel
theorem dX7_learn_0 : decode cX7_learn 0 = .ok (.iconst 0, 1) := by decide +kernel
theorem dX7_learn_1 : decode cX7_learn 1 = .ok (.istore_n 3, 1) := by decide +kernel
theorem dX7_learn_2 : decode cX7_learn 2 = .ok (.iconst 0, 1) := by decide +kernel
theorem dX7_learn_3 : decode cX7_learn 3 = .ok (.istore 4, 2) := by decide +kernel
theorem dX7_learn_5 : decode cX7_learn 5 = .ok (.iload 4, 2) := by decide +kernel
theorem dX7_learn_7 : decode cX7_learn 7 = .ok (.aload_n 0, 1) := by decide +kernel
theorem dX7_learn_8 : decode cX7_learn 8 = .ok (.getfield 9, 3) := by decide +kernel
theorem dX7_learn_11 : decode cX7_learn 11 = .ok (.arraylength, 1) := by decide +kernel
theorem dX7_learn_12 : decode cX7_learn 12 = .ok (.if_icmp .ge 55, 3) := by decide +kernel
theorem dX7_learn_15 : decode cX7_learn 15 = .ok (.iload 4, 2) := by decide +kernel
theorem dX7_learn_17 : decode cX7_learn 17 = .ok (.iload_n 2, 1) := by decide +kernel
theorem dX7_learn_18 : decode cX7_learn 18 = .ok (.if_icmp .eq 43, 3) := by decide +kernel
theorem dX7_learn_21 : decode cX7_learn 21 = .ok (.aload_n 0, 1) := by decide +kernel
theorem dX7_learn_22 : decode cX7_learn 22 = .ok (.getfield 9, 3) := by decide +kernel
theorem dX7_learn_25 : decode cX7_learn 25 = .ok (.iload 4, 2) := by decide +kernel
theorem dX7_learn_27 : decode cX7_learn 27 = .ok (.aaload, 1) := by decide +kernel
theorem dX7_learn_28 : decode cX7_learn 28 = .ok (.aload_n 1, 1) := by decide +kernel
theorem dX7_learn_29 : decode cX7_learn 29 = .ok (.getfield 9, 3) := by decide +kernel
theorem dX7_learn_32 : decode cX7_learn 32 = .ok (.iload 4, 2) := by decide +kernel
theorem dX7_learn_34 : decode cX7_learn 34 = .ok (.aaload, 1) := by decide +kernel
theorem dX7_learn_35 : decode cX7_learn 35 = .ok (.invokevirtual 23, 3) := by decide +kernel
theorem dX7_learn_38 : decode cX7_learn 38 = .ok (.ifCond .eq 23, 3) := by decide +kernel
theorem dX7_learn_41 : decode cX7_learn 41 = .ok (.aload_n 0, 1) := by decide +kernel
theorem dX7_learn_42 : decode cX7_learn 42 = .ok (.getfield 9, 3) := by decide +kernel
theorem dX7_learn_45 : decode cX7_learn 45 = .ok (.iload 4, 2) := by decide +kernel
theorem dX7_learn_47 : decode cX7_learn 47 = .ok (.aaload, 1) := by decide +kernel
theorem dX7_learn_48 : decode cX7_learn 48 = .ok (.aload_n 1, 1) := by decide +kernel
theorem dX7_learn_49 : decode cX7_learn 49 = .ok (.getfield 9, 3) := by decide +kernel
theorem dX7_learn_52 : decode cX7_learn 52 = .ok (.iload 4, 2) := by decide +kernel
theorem dX7_learn_54 : decode cX7_learn 54 = .ok (.aaload, 1) := by decide +kernel
theorem dX7_learn_55 : decode cX7_learn 55 = .ok (.invokevirtual 19, 3) := by decide +kernel
theorem dX7_learn_58 : decode cX7_learn 58 = .ok (.iinc 3 1, 3) := by decide +kernel
theorem dX7_learn_61 : decode cX7_learn 61 = .ok (.iinc 4 1, 3) := by decide +kernel
theorem dX7_learn_64 : decode cX7_learn 64 = .ok (.goto (-59), 3) := by decide +kernel
theorem dX7_learn_67 : decode cX7_learn 67 = .ok (.iload_n 3, 1) := by decide +kernel
theorem dX7_learn_68 : decode cX7_learn 68 = .ok (.ireturn, 1) := by decide +kernel
end
section
theorem dX8_init_0 : decode cX8_init 0 = .ok (.aload_n 0, 1) := by decide +kernel
theorem dX8_init_1 : decode cX8_init 1 = .ok (.invokespecial 3, 3) := by decide +kernel
theorem dX8_init_4 : decode cX8_init 4 = .ok (.aload_n 0, 1) := by decide +kernel
theorem dX8_init_5 : decode cX8_init 5 = .ok (.iconst 2, 1) := by decide +kernel
theorem dX8_init_6 : decode cX8_init 6 = .ok (.iconst 5, 1) := by decide +kernel
theorem dX8_init_7 : decode cX8_init 7 = .ok (.iload_n 1, 1) := by decide +kernel
theorem dX8_init_8 : decode cX8_init 8 = .ok (.invokestatic 9, 3) := by decide +kernel
theorem dX8_init_11 : decode cX8_init 11 = .ok (.invokestatic 15, 3) := by decide +kernel
theorem dX8_init_14 : decode cX8_init 14 = .ok (.putfield 18, 3) := by decide +kernel
theorem dX8_init_17 : decode cX8_init 17 = .ok (.aload_n 0, 1) := by decide +kernel
theorem dX8_init_18 : decode cX8_init 18 = .ok (.new 22, 3) := by decide +kernel
theorem dX8_init_21 : decode cX8_init 21 = .ok (.dup, 1) := by decide +kernel
theorem dX8_init_22 : decode cX8_init 22 = .ok (.aload_n 0, 1) := by decide +kernel
theorem dX8_init_23 : decode cX8_init 23 = .ok (.getfield 18, 3) := by decide +kernel
theorem dX8_init_26 : decode cX8_init 26 = .ok (.invokespecial 24, 3) := by decide +kernel
theorem dX8_init_29 : decode cX8_init 29 = .ok (.putfield 27, 3) := by decide +kernel
theorem dX8_init_32 : decode cX8_init 32 = .ok (.aload_n 0, 1) := by decide +kernel
theorem dX8_init_33 : decode cX8_init 33 = .ok (.new 31, 3) := by decide +kernel
theorem dX8_init_36 : decode cX8_init 36 = .ok (.dup, 1) := by decide +kernel
theorem dX8_init_37 : decode cX8_init 37 = .ok (.aload_n 0, 1) := by decide +kernel
theorem dX8_init_38 : decode cX8_init 38 = .ok (.getfield 18, 3) := by decide +kernel
theorem dX8_init_41 : decode cX8_init 41 = .ok (.invokespecial 33, 3) := by decide +kernel
theorem dX8_init_44 : decode cX8_init 44 = .ok (.putfield 34, 3) := by decide +kernel
theorem dX8_init_47 : decode cX8_init 47 = .ok (.aload_n 0, 1) := by decide +kernel
theorem dX8_init_48 : decode cX8_init 48 = .ok (.new 38, 3) := by decide +kernel
theorem dX8_init_51 : decode cX8_init 51 = .ok (.dup, 1) := by decide +kernel
theorem dX8_init_52 : decode cX8_init 52 = .ok (.invokespecial 40, 3) := by decide +kernel
theorem dX8_init_55 : decode cX8_init 55 = .ok (.putfield 41, 3) := by decide +kernel
theorem dX8_init_58 : decode cX8_init 58 = .ok (.aload_n 0, 1) := by decide +kernel
theorem dX8_init_59 : decode cX8_init 59 = .ok (.getfield 27, 3) := by decide +kernel
theorem dX8_init_62 : decode cX8_init 62 = .ok (.iconst 0, 1) := by decide +kernel
theorem dX8_init_63 : decode cX8_init 63 = .ok (.bipush 100, 2) := by decide +kernel
theorem dX8_init_65 : decode cX8_init 65 = .ok (.bipush 50, 2) := by decide +kernel
theorem dX8_init_67 : decode cX8_init 67 = .ok (.invokevirtual 45, 3) := by decide +kernel
theorem dX8_init_70 : decode cX8_init 70 = .ok (.return_, 1) := by decide +kernel
theorem dX8_sites_0 : decode cX8_sites 0 = .ok (.aload_n 0, 1) := by decide +kernel
theorem dX8_sites_1 : decode cX8_sites 1 = .ok (.getfield 18, 3) := by decide +kernel
theorem dX8_sites_4 : decode cX8_sites 4 = .ok (.ireturn, 1) := by decide +kernel
theorem dX8_begin_0 : decode cX8_begin 0 = .ok (.iload_n 1, 1) := by decide +kernel
theorem dX8_begin_1 : decode cX8_begin 1 = .ok (.sipush (-10000), 3) := by decide +kernel
theorem dX8_begin_4 : decode cX8_begin 4 = .ok (.if_icmp .lt 19, 3) := by decide +kernel
theorem dX8_begin_7 : decode cX8_begin 7 = .ok (.iload_n 1, 1) := by decide +kernel
theorem dX8_begin_8 : decode cX8_begin 8 = .ok (.iload_n 2, 1) := by decide +kernel
theorem dX8_begin_9 : decode cX8_begin 9 = .ok (.if_icmp .gt 14, 3) := by decide +kernel
theorem dX8_begin_12 : decode cX8_begin 12 = .ok (.iload_n 2, 1) := by decide +kernel
theorem dX8_begin_13 : decode cX8_begin 13 = .ok (.sipush 10000, 3) := by decide +kernel
theorem dX8_begin_16 : decode cX8_begin 16 = .ok (.if_icmp .gt 7, 3) := by decide +kernel
theorem dX8_begin_19 : decode cX8_begin 19 = .ok (.iconst 1, 1) := by decide +kernel
theorem dX8_begin_20 : decode cX8_begin 20 = .ok (.goto 4, 3) := by decide +kernel
theorem dX8_begin_23 : decode cX8_begin 23 = .ok (.iconst 0, 1) := by decide +kernel
theorem dX8_begin_24 : decode cX8_begin 24 = .ok (.istore 4, 2) := by decide +kernel
theorem dX8_begin_26 : decode cX8_begin 26 = .ok (.iload 4, 2) := by decide +kernel
theorem dX8_begin_28 : decode cX8_begin 28 = .ok (.ifCond .eq 13, 3) := by decide +kernel
theorem dX8_begin_31 : decode cX8_begin 31 = .ok (.iload_n 3, 1) := by decide +kernel
theorem dX8_begin_32 : decode cX8_begin 32 = .ok (.iload_n 1, 1) := by decide +kernel
theorem dX8_begin_33 : decode cX8_begin 33 = .ok (.if_icmp .lt 8, 3) := by decide +kernel
theorem dX8_begin_36 : decode cX8_begin 36 = .ok (.iload_n 3, 1) := by decide +kernel
theorem dX8_begin_37 : decode cX8_begin 37 = .ok (.iload_n 2, 1) := by decide +kernel
theorem dX8_begin_38 : decode cX8_begin 38 = .ok (.if_icmp .le 13, 3) := by decide +kernel
theorem dX8_begin_41 : decode cX8_begin 41 = .ok (.new 49, 3) := by decide +kernel
theorem dX8_begin_44 : decode cX8_begin 44 = .ok (.dup, 1) := by decide +kernel
theorem dX8_begin_45 : decode cX8_begin 45 = .ok (.ldc 51, 2) := by decide +kernel
theorem dX8_begin_47 : decode cX8_begin 47 = .ok (.invokespecial 53, 3) := by decide +kernel
theorem dX8_begin_50 : decode cX8_begin 50 = .ok (.athrow, 1) := by decide +kernel
theorem dX8_begin_51 : decode cX8_begin 51 = .ok (.aload_n 0, 1) := by decide +kernel
theorem dX8_begin_52 : decode cX8_begin 52 = .ok (.getfield 27, 3) := by decide +kernel
theorem dX8_begin_55 : decode cX8_begin 55 = .ok (.invokevirtual 56, 3) := by decide +kernel
theorem dX8_begin_58 : decode cX8_begin 58 = .ok (.istore 5, 2) := by decide +kernel
theorem dX8_begin_60 : decode cX8_begin 60 = .ok (.aload_n 0, 1) := by decide +kernel
theorem dX8_begin_61 : decode cX8_begin 61 = .ok (.getfield 27, 3) := by decide +kernel
theorem dX8_begin_64 : decode cX8_begin 64 = .ok (.iload_n 1, 1) := by decide +kernel
theorem dX8_begin_65 : decode cX8_begin 65 = .ok (.iload_n 2, 1) := by decide +kernel
theorem dX8_begin_66 : decode cX8_begin 66 = .ok (.iload_n 3, 1) := by decide +kernel
theorem dX8_begin_67 : decode cX8_begin 67 = .ok (.invokevirtual 45, 3) := by decide +kernel
theorem dX8_begin_70 : decode cX8_begin 70 = .ok (.aload_n 0, 1) := by decide +kernel
theorem dX8_begin_71 : decode cX8_begin 71 = .ok (.getfield 34, 3) := by decide +kernel
theorem dX8_begin_74 : decode cX8_begin 74 = .ok (.invokevirtual 60, 3) := by decide +kernel
theorem dX8_begin_77 : decode cX8_begin 77 = .ok (.iload 5, 2) := by decide +kernel
theorem dX8_begin_79 : decode cX8_begin 79 = .ok (.ireturn, 1) := by decide +kernel
theorem dX8_increase_0 : decode cX8_increase 0 = .ok (.aload_n 0, 1) := by decide +kernel
theorem dX8_increase_1 : decode cX8_increase 1 = .ok (.iload_n 1, 1) := by decide +kernel
theorem dX8_increase_2 : decode cX8_increase 2 = .ok (.iload_n 2, 1) := by decide +kernel
theorem dX8_increase_3 : decode cX8_increase 3 = .ok (.invokevirtual 63, 3) := by decide +kernel
theorem dX8_increase_6 : decode cX8_increase 6 = .ok (.invokestatic 66, 3) := by decide +kernel
theorem dX8_increase_9 : decode cX8_increase 9 = .ok (.aload_n 0, 1) := by decide +kernel
theorem dX8_increase_10 : decode cX8_increase 10 = .ok (.getfield 34, 3) := by decide +kernel
theorem dX8_increase_13 : decode cX8_increase 13 = .ok (.aload_n 0, 1) := by decide +kernel
theorem dX8_increase_14 : decode cX8_increase 14 = .ok (.getfield 27, 3) := by decide +kernel
theorem dX8_increase_17 : decode cX8_increase 17 = .ok (.invokevirtual 69, 3) := by decide +kernel
theorem dX8_increase_20 : decode cX8_increase 20 = .ok (.aload_n 0, 1) := by decide +kernel
theorem dX8_increase_21 : decode cX8_increase 21 = .ok (.getfield 27, 3) := by decide +kernel
theorem dX8_increase_24 : decode cX8_increase 24 = .ok (.iload_n 1, 1) := by decide +kernel
theorem dX8_increase_25 : decode cX8_increase 25 = .ok (.iconst 0, 1) := by decide +kernel
theorem dX8_increase_26 : decode cX8_increase 26 = .ok (.iload_n 2, 1) := by decide +kernel
theorem dX8_increase_27 : decode cX8_increase 27 = .ok (.invokevirtual 73, 3) := by decide +kernel
theorem dX8_increase_30 : decode cX8_increase 30 = .ok (.ireturn, 1) := by decide +kernel
theorem dX8_decrease_0 : decode cX8_decrease 0 = .ok (.aload_n 0, 1) := by decide +kernel
theorem dX8_decrease_1 : decode cX8_decrease 1 = .ok (.iload_n 1, 1) := by decide +kernel
theorem dX8_decrease_2 : decode cX8_decrease 2 = .ok (.iload_n 2, 1) := by decide +kernel
theorem dX8_decrease_3 : decode cX8_decrease 3 = .ok (.invokevirtual 63, 3) := by decide +kernel
theorem dX8_decrease_6 : decode cX8_decrease 6 = .ok (.invokestatic 66, 3) := by decide +kernel
theorem dX8_decrease_9 : decode cX8_decrease 9 = .ok (.aload_n 0, 1) := by decide +kernel
theorem dX8_decrease_10 : decode cX8_decrease 10 = .ok (.getfield 34, 3) := by decide +kernel
theorem dX8_decrease_13 : decode cX8_decrease 13 = .ok (.aload_n 0, 1) := by decide +kernel
theorem dX8_decrease_14 : decode cX8_decrease 14 = .ok (.getfield 27, 3) := by decide +kernel
theorem dX8_decrease_17 : decode cX8_decrease 17 = .ok (.invokevirtual 69, 3) := by decide +kernel
theorem dX8_decrease_20 : decode cX8_decrease 20 = .ok (.aload_n 0, 1) := by decide +kernel
theorem dX8_decrease_21 : decode cX8_decrease 21 = .ok (.getfield 27, 3) := by decide +kernel
theorem dX8_decrease_24 : decode cX8_decrease 24 = .ok (.iload_n 1, 1) := by decide +kernel
theorem dX8_decrease_25 : decode cX8_decrease 25 = .ok (.iconst 1, 1) := by decide +kernel
theorem dX8_decrease_26 : decode cX8_decrease 26 = .ok (.iload_n 2, 1) := by decide +kernel
theorem dX8_decrease_27 : decode cX8_decrease 27 = .ok (.invokevirtual 73, 3) := by decide +kernel
theorem dX8_decrease_30 : decode cX8_decrease 30 = .ok (.ireturn, 1) := by decide +kernel
theorem dX8_transfer_0 : decode cX8_transfer 0 = .ok (.aload_n 0, 1) := by decide +kernel
theorem dX8_transfer_1 : decode cX8_transfer 1 = .ok (.iload_n 1, 1) := by decide +kernel
theorem dX8_transfer_2 : decode cX8_transfer 2 = .ok (.iload_n 2, 1) := by decide +kernel
theorem dX8_transfer_3 : decode cX8_transfer 3 = .ok (.iload_n 3, 1) := by decide +kernel
theorem dX8_transfer_4 : decode cX8_transfer 4 = .ok (.iload 4, 2) := by decide +kernel
theorem dX8_transfer_6 : decode cX8_transfer 6 = .ok (.invokevirtual 77, 3) := by decide +kernel
theorem dX8_transfer_9 : decode cX8_transfer 9 = .ok (.invokestatic 66, 3) := by decide +kernel
theorem dX8_transfer_12 : decode cX8_transfer 12 = .ok (.aload_n 0, 1) := by decide +kernel
theorem dX8_transfer_13 : decode cX8_transfer 13 = .ok (.getfield 34, 3) := by decide +kernel
theorem dX8_transfer_16 : decode cX8_transfer 16 = .ok (.aload_n 0, 1) := by decide +kernel
theorem dX8_transfer_17 : decode cX8_transfer 17 = .ok (.getfield 27, 3) := by decide +kernel
theorem dX8_transfer_20 : decode cX8_transfer 20 = .ok (.invokevirtual 69, 3) := by decide +kernel
theorem dX8_transfer_23 : decode cX8_transfer 23 = .ok (.aload_n 0, 1) := by decide +kernel
theorem dX8_transfer_24 : decode cX8_transfer 24 = .ok (.getfield 27, 3) := by decide +kernel
theorem dX8_transfer_27 : decode cX8_transfer 27 = .ok (.iload_n 1, 1) := by decide +kernel
theorem dX8_transfer_28 : decode cX8_transfer 28 = .ok (.iload_n 2, 1) := by decide +kernel
theorem dX8_transfer_29 : decode cX8_transfer 29 = .ok (.iload_n 3, 1) := by decide +kernel
theorem dX8_transfer_30 : decode cX8_transfer 30 = .ok (.iload 4, 2) := by decide +kernel
theorem dX8_transfer_32 : decode cX8_transfer 32 = .ok (.invokevirtual 81, 3) := by decide +kernel
theorem dX8_transfer_35 : decode cX8_transfer 35 = .ok (.aload_n 0, 1) := by decide +kernel
theorem dX8_transfer_36 : decode cX8_transfer 36 = .ok (.getfield 27, 3) := by decide +kernel
theorem dX8_transfer_39 : decode cX8_transfer 39 = .ok (.iload_n 2, 1) := by decide +kernel
theorem dX8_transfer_40 : decode cX8_transfer 40 = .ok (.iload_n 1, 1) := by decide +kernel
theorem dX8_transfer_41 : decode cX8_transfer 41 = .ok (.invokevirtual 85, 3) := by decide +kernel
theorem dX8_transfer_44 : decode cX8_transfer 44 = .ok (.ireturn, 1) := by decide +kernel
theorem dX8_lend_0 : decode cX8_lend 0 = .ok (.aload_n 0, 1) := by decide +kernel
theorem dX8_lend_1 : decode cX8_lend 1 = .ok (.iload_n 1, 1) := by decide +kernel
theorem dX8_lend_2 : decode cX8_lend 2 = .ok (.iload_n 2, 1) := by decide +kernel
theorem dX8_lend_3 : decode cX8_lend 3 = .ok (.iload_n 3, 1) := by decide +kernel
theorem dX8_lend_4 : decode cX8_lend 4 = .ok (.iload 4, 2) := by decide +kernel
theorem dX8_lend_6 : decode cX8_lend 6 = .ok (.iload 5, 2) := by decide +kernel
theorem dX8_lend_8 : decode cX8_lend 8 = .ok (.invokevirtual 88, 3) := by decide +kernel
theorem dX8_lend_11 : decode cX8_lend 11 = .ok (.invokestatic 66, 3) := by decide +kernel
theorem dX8_lend_14 : decode cX8_lend 14 = .ok (.aload_n 0, 1) := by decide +kernel
theorem dX8_lend_15 : decode cX8_lend 15 = .ok (.getfield 34, 3) := by decide +kernel
theorem dX8_lend_18 : decode cX8_lend 18 = .ok (.aload_n 0, 1) := by decide +kernel
theorem dX8_lend_19 : decode cX8_lend 19 = .ok (.getfield 27, 3) := by decide +kernel
theorem dX8_lend_22 : decode cX8_lend 22 = .ok (.invokevirtual 69, 3) := by decide +kernel
theorem dX8_lend_25 : decode cX8_lend 25 = .ok (.aload_n 0, 1) := by decide +kernel
theorem dX8_lend_26 : decode cX8_lend 26 = .ok (.getfield 27, 3) := by decide +kernel
theorem dX8_lend_29 : decode cX8_lend 29 = .ok (.iload_n 1, 1) := by decide +kernel
theorem dX8_lend_30 : decode cX8_lend 30 = .ok (.iload_n 2, 1) := by decide +kernel
theorem dX8_lend_31 : decode cX8_lend 31 = .ok (.iload_n 3, 1) := by decide +kernel
theorem dX8_lend_32 : decode cX8_lend 32 = .ok (.iload 4, 2) := by decide +kernel
theorem dX8_lend_34 : decode cX8_lend 34 = .ok (.iload 5, 2) := by decide +kernel
theorem dX8_lend_36 : decode cX8_lend 36 = .ok (.invokevirtual 92, 3) := by decide +kernel
theorem dX8_lend_39 : decode cX8_lend 39 = .ok (.ireturn, 1) := by decide +kernel
theorem dX8_rebalance_0 : decode cX8_rebalance 0 = .ok (.aload_n 0, 1) := by decide +kernel
theorem dX8_rebalance_1 : decode cX8_rebalance 1 = .ok (.iload_n 1, 1) := by decide +kernel
theorem dX8_rebalance_2 : decode cX8_rebalance 2 = .ok (.iload_n 2, 1) := by decide +kernel
theorem dX8_rebalance_3 : decode cX8_rebalance 3 = .ok (.invokevirtual 95, 3) := by decide +kernel
theorem dX8_rebalance_6 : decode cX8_rebalance 6 = .ok (.invokestatic 66, 3) := by decide +kernel
theorem dX8_rebalance_9 : decode cX8_rebalance 9 = .ok (.aload_n 0, 1) := by decide +kernel
theorem dX8_rebalance_10 : decode cX8_rebalance 10 = .ok (.getfield 34, 3) := by decide +kernel
theorem dX8_rebalance_13 : decode cX8_rebalance 13 = .ok (.aload_n 0, 1) := by decide +kernel
theorem dX8_rebalance_14 : decode cX8_rebalance 14 = .ok (.getfield 27, 3) := by decide +kernel
theorem dX8_rebalance_17 : decode cX8_rebalance 17 = .ok (.invokevirtual 98, 3) := by decide +kernel
theorem dX8_rebalance_20 : decode cX8_rebalance 20 = .ok (.aload_n 0, 1) := by decide +kernel
theorem dX8_rebalance_21 : decode cX8_rebalance 21 = .ok (.getfield 27, 3) := by decide +kernel
theorem dX8_rebalance_24 : decode cX8_rebalance 24 = .ok (.iload_n 1, 1) := by decide +kernel
theorem dX8_rebalance_25 : decode cX8_rebalance 25 = .ok (.iload_n 2, 1) := by decide +kernel
theorem dX8_rebalance_26 : decode cX8_rebalance 26 = .ok (.invokevirtual 101, 3) := by decide +kernel
theorem dX8_rebalance_29 : decode cX8_rebalance 29 = .ok (.istore_n 3, 1) := by decide +kernel
theorem dX8_rebalance_30 : decode cX8_rebalance 30 = .ok (.iload_n 3, 1) := by decide +kernel
theorem dX8_rebalance_31 : decode cX8_rebalance 31 = .ok (.ifCond .le 10, 3) := by decide +kernel
theorem dX8_rebalance_34 : decode cX8_rebalance 34 = .ok (.aload_n 0, 1) := by decide +kernel
theorem dX8_rebalance_35 : decode cX8_rebalance 35 = .ok (.getfield 34, 3) := by decide +kernel
theorem dX8_rebalance_38 : decode cX8_rebalance 38 = .ok (.invokevirtual 104, 3) := by decide +kernel
theorem dX8_rebalance_41 : decode cX8_rebalance 41 = .ok (.iload_n 3, 1) := by decide +kernel
theorem dX8_rebalance_42 : decode cX8_rebalance 42 = .ok (.ireturn, 1) := by decide +kernel
theorem dX8_pass_0 : decode cX8_pass 0 = .ok (.aload_n 0, 1) := by decide +kernel
theorem dX8_pass_1 : decode cX8_pass 1 = .ok (.iload_n 1, 1) := by decide +kernel
theorem dX8_pass_2 : decode cX8_pass 2 = .ok (.invokevirtual 107, 3) := by decide +kernel
theorem dX8_pass_5 : decode cX8_pass 5 = .ok (.invokestatic 66, 3) := by decide +kernel
theorem dX8_pass_8 : decode cX8_pass 8 = .ok (.aload_n 0, 1) := by decide +kernel
theorem dX8_pass_9 : decode cX8_pass 9 = .ok (.getfield 34, 3) := by decide +kernel
theorem dX8_pass_12 : decode cX8_pass 12 = .ok (.aload_n 0, 1) := by decide +kernel
theorem dX8_pass_13 : decode cX8_pass 13 = .ok (.getfield 27, 3) := by decide +kernel
theorem dX8_pass_16 : decode cX8_pass 16 = .ok (.invokevirtual 69, 3) := by decide +kernel
theorem dX8_pass_19 : decode cX8_pass 19 = .ok (.aload_n 0, 1) := by decide +kernel
theorem dX8_pass_20 : decode cX8_pass 20 = .ok (.getfield 27, 3) := by decide +kernel
theorem dX8_pass_23 : decode cX8_pass 23 = .ok (.iload_n 1, 1) := by decide +kernel
theorem dX8_pass_24 : decode cX8_pass 24 = .ok (.invokevirtual 111, 3) := by decide +kernel
theorem dX8_pass_27 : decode cX8_pass 27 = .ok (.aload_n 0, 1) := by decide +kernel
theorem dX8_pass_28 : decode cX8_pass 28 = .ok (.getfield 27, 3) := by decide +kernel
theorem dX8_pass_31 : decode cX8_pass 31 = .ok (.getfield 114, 3) := by decide +kernel
theorem dX8_pass_34 : decode cX8_pass 34 = .ok (.ireturn, 1) := by decide +kernel
theorem dX8_send_0 : decode cX8_send 0 = .ok (.aload_n 0, 1) := by decide +kernel
theorem dX8_send_1 : decode cX8_send 1 = .ok (.iload_n 1, 1) := by decide +kernel
theorem dX8_send_2 : decode cX8_send 2 = .ok (.iload_n 2, 1) := by decide +kernel
theorem dX8_send_3 : decode cX8_send 3 = .ok (.invokevirtual 117, 3) := by decide +kernel
theorem dX8_send_6 : decode cX8_send 6 = .ok (.invokestatic 66, 3) := by decide +kernel
theorem dX8_send_9 : decode cX8_send 9 = .ok (.aload_n 0, 1) := by decide +kernel
theorem dX8_send_10 : decode cX8_send 10 = .ok (.getfield 34, 3) := by decide +kernel
theorem dX8_send_13 : decode cX8_send 13 = .ok (.aload_n 0, 1) := by decide +kernel
theorem dX8_send_14 : decode cX8_send 14 = .ok (.getfield 27, 3) := by decide +kernel
theorem dX8_send_17 : decode cX8_send 17 = .ok (.invokevirtual 69, 3) := by decide +kernel
theorem dX8_send_20 : decode cX8_send 20 = .ok (.aload_n 0, 1) := by decide +kernel
theorem dX8_send_21 : decode cX8_send 21 = .ok (.getfield 27, 3) := by decide +kernel
theorem dX8_send_24 : decode cX8_send 24 = .ok (.iload_n 1, 1) := by decide +kernel
theorem dX8_send_25 : decode cX8_send 25 = .ok (.iload_n 2, 1) := by decide +kernel
theorem dX8_send_26 : decode cX8_send 26 = .ok (.invokevirtual 120, 3) := by decide +kernel
theorem dX8_send_29 : decode cX8_send 29 = .ok (.ireturn, 1) := by decide +kernel
theorem dX8_deliver_0 : decode cX8_deliver 0 = .ok (.aload_n 0, 1) := by decide +kernel
theorem dX8_deliver_1 : decode cX8_deliver 1 = .ok (.iload_n 1, 1) := by decide +kernel
theorem dX8_deliver_2 : decode cX8_deliver 2 = .ok (.invokevirtual 123, 3) := by decide +kernel
theorem dX8_deliver_5 : decode cX8_deliver 5 = .ok (.invokestatic 66, 3) := by decide +kernel
theorem dX8_deliver_8 : decode cX8_deliver 8 = .ok (.aload_n 0, 1) := by decide +kernel
theorem dX8_deliver_9 : decode cX8_deliver 9 = .ok (.getfield 34, 3) := by decide +kernel
theorem dX8_deliver_12 : decode cX8_deliver 12 = .ok (.aload_n 0, 1) := by decide +kernel
theorem dX8_deliver_13 : decode cX8_deliver 13 = .ok (.getfield 27, 3) := by decide +kernel
theorem dX8_deliver_16 : decode cX8_deliver 16 = .ok (.invokevirtual 69, 3) := by decide +kernel
theorem dX8_deliver_19 : decode cX8_deliver 19 = .ok (.aload_n 0, 1) := by decide +kernel
theorem dX8_deliver_20 : decode cX8_deliver 20 = .ok (.getfield 27, 3) := by decide +kernel
theorem dX8_deliver_23 : decode cX8_deliver 23 = .ok (.iload_n 1, 1) := by decide +kernel
theorem dX8_deliver_24 : decode cX8_deliver 24 = .ok (.invokevirtual 126, 3) := by decide +kernel
theorem dX8_deliver_27 : decode cX8_deliver 27 = .ok (.ireturn, 1) := by decide +kernel
theorem dX8_lose_0 : decode cX8_lose 0 = .ok (.aload_n 0, 1) := by decide +kernel
theorem dX8_lose_1 : decode cX8_lose 1 = .ok (.iload_n 1, 1) := by decide +kernel
theorem dX8_lose_2 : decode cX8_lose 2 = .ok (.invokevirtual 123, 3) := by decide +kernel
theorem dX8_lose_5 : decode cX8_lose 5 = .ok (.invokestatic 66, 3) := by decide +kernel
theorem dX8_lose_8 : decode cX8_lose 8 = .ok (.aload_n 0, 1) := by decide +kernel
theorem dX8_lose_9 : decode cX8_lose 9 = .ok (.getfield 34, 3) := by decide +kernel
theorem dX8_lose_12 : decode cX8_lose 12 = .ok (.aload_n 0, 1) := by decide +kernel
theorem dX8_lose_13 : decode cX8_lose 13 = .ok (.getfield 27, 3) := by decide +kernel
theorem dX8_lose_16 : decode cX8_lose 16 = .ok (.invokevirtual 69, 3) := by decide +kernel
theorem dX8_lose_19 : decode cX8_lose 19 = .ok (.aload_n 0, 1) := by decide +kernel
theorem dX8_lose_20 : decode cX8_lose 20 = .ok (.getfield 27, 3) := by decide +kernel
theorem dX8_lose_23 : decode cX8_lose 23 = .ok (.iload_n 1, 1) := by decide +kernel
theorem dX8_lose_24 : decode cX8_lose 24 = .ok (.invokevirtual 129, 3) := by decide +kernel
theorem dX8_lose_27 : decode cX8_lose 27 = .ok (.aload_n 0, 1) := by decide +kernel
theorem dX8_lose_28 : decode cX8_lose 28 = .ok (.getfield 27, 3) := by decide +kernel
theorem dX8_lose_31 : decode cX8_lose 31 = .ok (.getfield 132, 3) := by decide +kernel
theorem dX8_lose_34 : decode cX8_lose 34 = .ok (.ireturn, 1) := by decide +kernel
theorem dX8_repeat_0 : decode cX8_repeat 0 = .ok (.aload_n 0, 1) := by decide +kernel
theorem dX8_repeat_1 : decode cX8_repeat 1 = .ok (.iload_n 1, 1) := by decide +kernel
theorem dX8_repeat_2 : decode cX8_repeat 2 = .ok (.invokevirtual 123, 3) := by decide +kernel
theorem dX8_repeat_5 : decode cX8_repeat 5 = .ok (.invokestatic 66, 3) := by decide +kernel
theorem dX8_repeat_8 : decode cX8_repeat 8 = .ok (.aload_n 0, 1) := by decide +kernel
theorem dX8_repeat_9 : decode cX8_repeat 9 = .ok (.getfield 27, 3) := by decide +kernel
theorem dX8_repeat_12 : decode cX8_repeat 12 = .ok (.getfield 132, 3) := by decide +kernel
theorem dX8_repeat_15 : decode cX8_repeat 15 = .ok (.bipush 8, 2) := by decide +kernel
theorem dX8_repeat_17 : decode cX8_repeat 17 = .ok (.if_icmp .lt 13, 3) := by decide +kernel
theorem dX8_repeat_20 : decode cX8_repeat 20 = .ok (.new 135, 3) := by decide +kernel
theorem dX8_repeat_23 : decode cX8_repeat 23 = .ok (.dup, 1) := by decide +kernel
theorem dX8_repeat_24 : decode cX8_repeat 24 = .ok (.ldc 137, 2) := by decide +kernel
theorem dX8_repeat_26 : decode cX8_repeat 26 = .ok (.invokespecial 139, 3) := by decide +kernel
theorem dX8_repeat_29 : decode cX8_repeat 29 = .ok (.athrow, 1) := by decide +kernel
theorem dX8_repeat_30 : decode cX8_repeat 30 = .ok (.aload_n 0, 1) := by decide +kernel
theorem dX8_repeat_31 : decode cX8_repeat 31 = .ok (.getfield 34, 3) := by decide +kernel
theorem dX8_repeat_34 : decode cX8_repeat 34 = .ok (.aload_n 0, 1) := by decide +kernel
theorem dX8_repeat_35 : decode cX8_repeat 35 = .ok (.getfield 27, 3) := by decide +kernel
theorem dX8_repeat_38 : decode cX8_repeat 38 = .ok (.invokevirtual 69, 3) := by decide +kernel
theorem dX8_repeat_41 : decode cX8_repeat 41 = .ok (.aload_n 0, 1) := by decide +kernel
theorem dX8_repeat_42 : decode cX8_repeat 42 = .ok (.getfield 27, 3) := by decide +kernel
theorem dX8_repeat_45 : decode cX8_repeat 45 = .ok (.iload_n 1, 1) := by decide +kernel
theorem dX8_repeat_46 : decode cX8_repeat 46 = .ok (.invokevirtual 140, 3) := by decide +kernel
theorem dX8_repeat_49 : decode cX8_repeat 49 = .ok (.ireturn, 1) := by decide +kernel
theorem dX8_messages_0 : decode cX8_messages 0 = .ok (.aload_n 0, 1) := by decide +kernel
theorem dX8_messages_1 : decode cX8_messages 1 = .ok (.getfield 27, 3) := by decide +kernel
theorem dX8_messages_4 : decode cX8_messages 4 = .ok (.getfield 132, 3) := by decide +kernel
theorem dX8_messages_7 : decode cX8_messages 7 = .ok (.ireturn, 1) := by decide +kernel
theorem dX8_message_0 : decode cX8_message 0 = .ok (.aload_n 0, 1) := by decide +kernel
theorem dX8_message_1 : decode cX8_message 1 = .ok (.iload_n 1, 1) := by decide +kernel
theorem dX8_message_2 : decode cX8_message 2 = .ok (.invokevirtual 123, 3) := by decide +kernel
theorem dX8_message_5 : decode cX8_message 5 = .ok (.invokestatic 66, 3) := by decide +kernel
theorem dX8_message_8 : decode cX8_message 8 = .ok (.iload_n 2, 1) := by decide +kernel
theorem dX8_message_9 : decode cX8_message 9 = .ok (.ifCond .lt 8, 3) := by decide +kernel
theorem dX8_message_12 : decode cX8_message 12 = .ok (.iload_n 2, 1) := by decide +kernel
theorem dX8_message_13 : decode cX8_message 13 = .ok (.iconst 3, 1) := by decide +kernel
theorem dX8_message_14 : decode cX8_message 14 = .ok (.if_icmp .lt 13, 3) := by decide +kernel
theorem dX8_message_17 : decode cX8_message 17 = .ok (.new 143, 3) := by decide +kernel
theorem dX8_message_20 : decode cX8_message 20 = .ok (.dup, 1) := by decide +kernel
theorem dX8_message_21 : decode cX8_message 21 = .ok (.ldc 145, 2) := by decide +kernel
theorem dX8_message_23 : decode cX8_message 23 = .ok (.invokespecial 147, 3) := by decide +kernel
theorem dX8_message_26 : decode cX8_message 26 = .ok (.athrow, 1) := by decide +kernel
theorem dX8_message_27 : decode cX8_message 27 = .ok (.aload_n 0, 1) := by decide +kernel
theorem dX8_message_28 : decode cX8_message 28 = .ok (.getfield 27, 3) := by decide +kernel
theorem dX8_message_31 : decode cX8_message 31 = .ok (.getfield 148, 3) := by decide +kernel
theorem dX8_message_34 : decode cX8_message 34 = .ok (.iload_n 1, 1) := by decide +kernel
theorem dX8_message_35 : decode cX8_message 35 = .ok (.aaload, 1) := by decide +kernel
theorem dX8_message_36 : decode cX8_message 36 = .ok (.iload_n 2, 1) := by decide +kernel
theorem dX8_message_37 : decode cX8_message 37 = .ok (.invokevirtual 152, 3) := by decide +kernel
theorem dX8_message_40 : decode cX8_message 40 = .ok (.ireturn, 1) := by decide +kernel
theorem dX8_time_0 : decode cX8_time 0 = .ok (.aload_n 0, 1) := by decide +kernel
theorem dX8_time_1 : decode cX8_time 1 = .ok (.getfield 27, 3) := by decide +kernel
theorem dX8_time_4 : decode cX8_time 4 = .ok (.getfield 114, 3) := by decide +kernel
theorem dX8_time_7 : decode cX8_time 7 = .ok (.ireturn, 1) := by decide +kernel
theorem dX8_value_0 : decode cX8_value 0 = .ok (.aload_n 0, 1) := by decide +kernel
theorem dX8_value_1 : decode cX8_value 1 = .ok (.getfield 27, 3) := by decide +kernel
theorem dX8_value_4 : decode cX8_value 4 = .ok (.invokevirtual 56, 3) := by decide +kernel
theorem dX8_value_7 : decode cX8_value 7 = .ok (.ireturn, 1) := by decide +kernel
theorem dX8_known_0 : decode cX8_known 0 = .ok (.aload_n 0, 1) := by decide +kernel
theorem dX8_known_1 : decode cX8_known 1 = .ok (.iload_n 1, 1) := by decide +kernel
theorem dX8_known_2 : decode cX8_known 2 = .ok (.invokevirtual 157, 3) := by decide +kernel
theorem dX8_known_5 : decode cX8_known 5 = .ok (.invokestatic 66, 3) := by decide +kernel
theorem dX8_known_8 : decode cX8_known 8 = .ok (.aload_n 0, 1) := by decide +kernel
theorem dX8_known_9 : decode cX8_known 9 = .ok (.getfield 27, 3) := by decide +kernel
theorem dX8_known_12 : decode cX8_known 12 = .ok (.iload_n 1, 1) := by decide +kernel
theorem dX8_known_13 : decode cX8_known 13 = .ok (.invokevirtual 160, 3) := by decide +kernel
theorem dX8_known_16 : decode cX8_known 16 = .ok (.ireturn, 1) := by decide +kernel
theorem dX8_own_0 : decode cX8_own 0 = .ok (.aload_n 0, 1) := by decide +kernel
theorem dX8_own_1 : decode cX8_own 1 = .ok (.iload_n 1, 1) := by decide +kernel
theorem dX8_own_2 : decode cX8_own 2 = .ok (.iload_n 2, 1) := by decide +kernel
theorem dX8_own_3 : decode cX8_own 3 = .ok (.invokevirtual 95, 3) := by decide +kernel
theorem dX8_own_6 : decode cX8_own 6 = .ok (.invokestatic 66, 3) := by decide +kernel
theorem dX8_own_9 : decode cX8_own 9 = .ok (.aload_n 0, 1) := by decide +kernel
theorem dX8_own_10 : decode cX8_own 10 = .ok (.getfield 27, 3) := by decide +kernel
theorem dX8_own_13 : decode cX8_own 13 = .ok (.iload_n 1, 1) := by decide +kernel
theorem dX8_own_14 : decode cX8_own 14 = .ok (.iload_n 2, 1) := by decide +kernel
theorem dX8_own_15 : decode cX8_own 15 = .ok (.invokevirtual 85, 3) := by decide +kernel
theorem dX8_own_18 : decode cX8_own 18 = .ok (.ireturn, 1) := by decide +kernel
theorem dX8_available_0 : decode cX8_available 0 = .ok (.aload_n 0, 1) := by decide +kernel
theorem dX8_available_1 : decode cX8_available 1 = .ok (.iload_n 1, 1) := by decide +kernel
theorem dX8_available_2 : decode cX8_available 2 = .ok (.iload_n 2, 1) := by decide +kernel
theorem dX8_available_3 : decode cX8_available 3 = .ok (.invokevirtual 95, 3) := by decide +kernel
theorem dX8_available_6 : decode cX8_available 6 = .ok (.invokestatic 66, 3) := by decide +kernel
theorem dX8_available_9 : decode cX8_available 9 = .ok (.aload_n 0, 1) := by decide +kernel
theorem dX8_available_10 : decode cX8_available 10 = .ok (.getfield 27, 3) := by decide +kernel
theorem dX8_available_13 : decode cX8_available 13 = .ok (.iload_n 1, 1) := by decide +kernel
theorem dX8_available_14 : decode cX8_available 14 = .ok (.iload_n 2, 1) := by decide +kernel
theorem dX8_available_15 : decode cX8_available 15 = .ok (.invokevirtual 163, 3) := by decide +kernel
theorem dX8_available_18 : decode cX8_available 18 = .ok (.ireturn, 1) := by decide +kernel
theorem dX8_dormant_0 : decode cX8_dormant 0 = .ok (.iload_n 1, 1) := by decide +kernel
theorem dX8_dormant_1 : decode cX8_dormant 1 = .ok (.invokestatic 166, 3) := by decide +kernel
theorem dX8_dormant_4 : decode cX8_dormant 4 = .ok (.ifCond .ne 13, 3) := by decide +kernel
theorem dX8_dormant_7 : decode cX8_dormant 7 = .ok (.new 143, 3) := by decide +kernel
theorem dX8_dormant_10 : decode cX8_dormant 10 = .ok (.dup, 1) := by decide +kernel
theorem dX8_dormant_11 : decode cX8_dormant 11 = .ok (.ldc 170, 2) := by decide +kernel
theorem dX8_dormant_13 : decode cX8_dormant 13 = .ok (.invokespecial 147, 3) := by decide +kernel
theorem dX8_dormant_16 : decode cX8_dormant 16 = .ok (.athrow, 1) := by decide +kernel
theorem dX8_dormant_17 : decode cX8_dormant 17 = .ok (.aload_n 0, 1) := by decide +kernel
theorem dX8_dormant_18 : decode cX8_dormant 18 = .ok (.getfield 27, 3) := by decide +kernel
theorem dX8_dormant_21 : decode cX8_dormant 21 = .ok (.iload_n 1, 1) := by decide +kernel
theorem dX8_dormant_22 : decode cX8_dormant 22 = .ok (.invokevirtual 172, 3) := by decide +kernel
theorem dX8_dormant_25 : decode cX8_dormant 25 = .ok (.ireturn, 1) := by decide +kernel
theorem dX8_demand_0 : decode cX8_demand 0 = .ok (.aload_n 0, 1) := by decide +kernel
theorem dX8_demand_1 : decode cX8_demand 1 = .ok (.iload_n 1, 1) := by decide +kernel
theorem dX8_demand_2 : decode cX8_demand 2 = .ok (.iload_n 3, 1) := by decide +kernel
theorem dX8_demand_3 : decode cX8_demand 3 = .ok (.invokevirtual 95, 3) := by decide +kernel
theorem dX8_demand_6 : decode cX8_demand 6 = .ok (.invokestatic 66, 3) := by decide +kernel
theorem dX8_demand_9 : decode cX8_demand 9 = .ok (.aload_n 0, 1) := by decide +kernel
theorem dX8_demand_10 : decode cX8_demand 10 = .ok (.iload_n 2, 1) := by decide +kernel
theorem dX8_demand_11 : decode cX8_demand 11 = .ok (.invokevirtual 157, 3) := by decide +kernel
theorem dX8_demand_14 : decode cX8_demand 14 = .ok (.invokestatic 66, 3) := by decide +kernel
theorem dX8_demand_17 : decode cX8_demand 17 = .ok (.aload_n 0, 1) := by decide +kernel
theorem dX8_demand_18 : decode cX8_demand 18 = .ok (.getfield 27, 3) := by decide +kernel
theorem dX8_demand_21 : decode cX8_demand 21 = .ok (.getfield 175, 3) := by decide +kernel
theorem dX8_demand_24 : decode cX8_demand 24 = .ok (.iload_n 1, 1) := by decide +kernel
theorem dX8_demand_25 : decode cX8_demand 25 = .ok (.aaload, 1) := by decide +kernel
theorem dX8_demand_26 : decode cX8_demand 26 = .ok (.getfield 179, 3) := by decide +kernel
theorem dX8_demand_29 : decode cX8_demand 29 = .ok (.iload_n 2, 1) := by decide +kernel
theorem dX8_demand_30 : decode cX8_demand 30 = .ok (.aaload, 1) := by decide +kernel
theorem dX8_demand_31 : decode cX8_demand 31 = .ok (.getfield 185, 3) := by decide +kernel
theorem dX8_demand_34 : decode cX8_demand 34 = .ok (.iload_n 3, 1) := by decide +kernel
theorem dX8_demand_35 : decode cX8_demand 35 = .ok (.iaload, 1) := by decide +kernel
theorem dX8_demand_36 : decode cX8_demand 36 = .ok (.ireturn, 1) := by decide +kernel
theorem dX8_version_0 : decode cX8_version 0 = .ok (.aload_n 0, 1) := by decide +kernel
theorem dX8_version_1 : decode cX8_version 1 = .ok (.iload_n 1, 1) := by decide +kernel
theorem dX8_version_2 : decode cX8_version 2 = .ok (.invokevirtual 157, 3) := by decide +kernel
theorem dX8_version_5 : decode cX8_version 5 = .ok (.invokestatic 66, 3) := by decide +kernel
theorem dX8_version_8 : decode cX8_version 8 = .ok (.aload_n 0, 1) := by decide +kernel
theorem dX8_version_9 : decode cX8_version 9 = .ok (.iload_n 2, 1) := by decide +kernel
theorem dX8_version_10 : decode cX8_version 10 = .ok (.invokevirtual 157, 3) := by decide +kernel
theorem dX8_version_13 : decode cX8_version 13 = .ok (.invokestatic 66, 3) := by decide +kernel
theorem dX8_version_16 : decode cX8_version 16 = .ok (.aload_n 0, 1) := by decide +kernel
theorem dX8_version_17 : decode cX8_version 17 = .ok (.getfield 27, 3) := by decide +kernel
theorem dX8_version_20 : decode cX8_version 20 = .ok (.getfield 175, 3) := by decide +kernel
theorem dX8_version_23 : decode cX8_version 23 = .ok (.iload_n 1, 1) := by decide +kernel
theorem dX8_version_24 : decode cX8_version 24 = .ok (.aaload, 1) := by decide +kernel
theorem dX8_version_25 : decode cX8_version 25 = .ok (.getfield 179, 3) := by decide +kernel
theorem dX8_version_28 : decode cX8_version 28 = .ok (.iload_n 2, 1) := by decide +kernel
theorem dX8_version_29 : decode cX8_version 29 = .ok (.aaload, 1) := by decide +kernel
theorem dX8_version_30 : decode cX8_version 30 = .ok (.getfield 191, 3) := by decide +kernel
theorem dX8_version_33 : decode cX8_version 33 = .ok (.ireturn, 1) := by decide +kernel
theorem dX8_copyTime_0 : decode cX8_copyTime 0 = .ok (.aload_n 0, 1) := by decide +kernel
theorem dX8_copyTime_1 : decode cX8_copyTime 1 = .ok (.iload_n 1, 1) := by decide +kernel
theorem dX8_copyTime_2 : decode cX8_copyTime 2 = .ok (.invokevirtual 157, 3) := by decide +kernel
theorem dX8_copyTime_5 : decode cX8_copyTime 5 = .ok (.invokestatic 66, 3) := by decide +kernel
theorem dX8_copyTime_8 : decode cX8_copyTime 8 = .ok (.aload_n 0, 1) := by decide +kernel
theorem dX8_copyTime_9 : decode cX8_copyTime 9 = .ok (.iload_n 2, 1) := by decide +kernel
theorem dX8_copyTime_10 : decode cX8_copyTime 10 = .ok (.invokevirtual 157, 3) := by decide +kernel
theorem dX8_copyTime_13 : decode cX8_copyTime 13 = .ok (.invokestatic 66, 3) := by decide +kernel
theorem dX8_copyTime_16 : decode cX8_copyTime 16 = .ok (.aload_n 0, 1) := by decide +kernel
theorem dX8_copyTime_17 : decode cX8_copyTime 17 = .ok (.getfield 27, 3) := by decide +kernel
theorem dX8_copyTime_20 : decode cX8_copyTime 20 = .ok (.getfield 175, 3) := by decide +kernel
theorem dX8_copyTime_23 : decode cX8_copyTime 23 = .ok (.iload_n 1, 1) := by decide +kernel
theorem dX8_copyTime_24 : decode cX8_copyTime 24 = .ok (.aaload, 1) := by decide +kernel
theorem dX8_copyTime_25 : decode cX8_copyTime 25 = .ok (.getfield 179, 3) := by decide +kernel
theorem dX8_copyTime_28 : decode cX8_copyTime 28 = .ok (.iload_n 2, 1) := by decide +kernel
theorem dX8_copyTime_29 : decode cX8_copyTime 29 = .ok (.aaload, 1) := by decide +kernel
theorem dX8_copyTime_30 : decode cX8_copyTime 30 = .ok (.getfield 194, 3) := by decide +kernel
theorem dX8_copyTime_33 : decode cX8_copyTime 33 = .ok (.ireturn, 1) := by decide +kernel
theorem dX8_loans_0 : decode cX8_loans 0 = .ok (.aload_n 0, 1) := by decide +kernel
theorem dX8_loans_1 : decode cX8_loans 1 = .ok (.getfield 27, 3) := by decide +kernel
theorem dX8_loans_4 : decode cX8_loans 4 = .ok (.getfield 195, 3) := by decide +kernel
theorem dX8_loans_7 : decode cX8_loans 7 = .ok (.ireturn, 1) := by decide +kernel
theorem dX8_loan_0 : decode cX8_loan 0 = .ok (.iload_n 1, 1) := by decide +kernel
theorem dX8_loan_1 : decode cX8_loan 1 = .ok (.ifCond .lt 24, 3) := by decide +kernel
theorem dX8_loan_4 : decode cX8_loan 4 = .ok (.iload_n 1, 1) := by decide +kernel
theorem dX8_loan_5 : decode cX8_loan 5 = .ok (.aload_n 0, 1) := by decide +kernel
theorem dX8_loan_6 : decode cX8_loan 6 = .ok (.getfield 27, 3) := by decide +kernel
theorem dX8_loan_9 : decode cX8_loan 9 = .ok (.getfield 195, 3) := by decide +kernel
theorem dX8_loan_12 : decode cX8_loan 12 = .ok (.if_icmp .ge 13, 3) := by decide +kernel
theorem dX8_loan_15 : decode cX8_loan 15 = .ok (.iload_n 2, 1) := by decide +kernel
theorem dX8_loan_16 : decode cX8_loan 16 = .ok (.ifCond .lt 9, 3) := by decide +kernel
theorem dX8_loan_19 : decode cX8_loan 19 = .ok (.iload_n 2, 1) := by decide +kernel
theorem dX8_loan_20 : decode cX8_loan 20 = .ok (.bipush 8, 2) := by decide +kernel
theorem dX8_loan_22 : decode cX8_loan 22 = .ok (.if_icmp .lt 13, 3) := by decide +kernel
theorem dX8_loan_25 : decode cX8_loan 25 = .ok (.new 143, 3) := by decide +kernel
theorem dX8_loan_28 : decode cX8_loan 28 = .ok (.dup, 1) := by decide +kernel
theorem dX8_loan_29 : decode cX8_loan 29 = .ok (.ldc 198, 2) := by decide +kernel
theorem dX8_loan_31 : decode cX8_loan 31 = .ok (.invokespecial 147, 3) := by decide +kernel
theorem dX8_loan_34 : decode cX8_loan 34 = .ok (.athrow, 1) := by decide +kernel
theorem dX8_loan_35 : decode cX8_loan 35 = .ok (.aload_n 0, 1) := by decide +kernel
theorem dX8_loan_36 : decode cX8_loan 36 = .ok (.getfield 27, 3) := by decide +kernel
theorem dX8_loan_39 : decode cX8_loan 39 = .ok (.iload_n 1, 1) := by decide +kernel
theorem dX8_loan_40 : decode cX8_loan 40 = .ok (.iload_n 2, 1) := by decide +kernel
theorem dX8_loan_41 : decode cX8_loan 41 = .ok (.invokevirtual 200, 3) := by decide +kernel
theorem dX8_loan_44 : decode cX8_loan 44 = .ok (.ireturn, 1) := by decide +kernel
theorem dX8_helpers_0 : decode cX8_helpers 0 = .ok (.aload_n 0, 1) := by decide +kernel
theorem dX8_helpers_1 : decode cX8_helpers 1 = .ok (.iload_n 1, 1) := by decide +kernel
theorem dX8_helpers_2 : decode cX8_helpers 2 = .ok (.iload_n 2, 1) := by decide +kernel
theorem dX8_helpers_3 : decode cX8_helpers 3 = .ok (.invokevirtual 95, 3) := by decide +kernel
theorem dX8_helpers_6 : decode cX8_helpers 6 = .ok (.invokestatic 66, 3) := by decide +kernel
theorem dX8_helpers_9 : decode cX8_helpers 9 = .ok (.iload_n 3, 1) := by decide +kernel
theorem dX8_helpers_10 : decode cX8_helpers 10 = .ok (.ifCond .lt 10, 3) := by decide +kernel
theorem dX8_helpers_13 : decode cX8_helpers 13 = .ok (.iload_n 3, 1) := by decide +kernel
theorem dX8_helpers_14 : decode cX8_helpers 14 = .ok (.sipush 30000, 3) := by decide +kernel
theorem dX8_helpers_17 : decode cX8_helpers 17 = .ok (.if_icmp .le 13, 3) := by decide +kernel
theorem dX8_helpers_20 : decode cX8_helpers 20 = .ok (.new 49, 3) := by decide +kernel
theorem dX8_helpers_23 : decode cX8_helpers 23 = .ok (.dup, 1) := by decide +kernel
theorem dX8_helpers_24 : decode cX8_helpers 24 = .ok (.ldc 203, 2) := by decide +kernel
theorem dX8_helpers_26 : decode cX8_helpers 26 = .ok (.invokespecial 53, 3) := by decide +kernel
theorem dX8_helpers_29 : decode cX8_helpers 29 = .ok (.athrow, 1) := by decide +kernel
theorem dX8_helpers_30 : decode cX8_helpers 30 = .ok (.aload_n 0, 1) := by decide +kernel
theorem dX8_helpers_31 : decode cX8_helpers 31 = .ok (.getfield 27, 3) := by decide +kernel
theorem dX8_helpers_34 : decode cX8_helpers 34 = .ok (.iload_n 1, 1) := by decide +kernel
theorem dX8_helpers_35 : decode cX8_helpers 35 = .ok (.iload_n 2, 1) := by decide +kernel
theorem dX8_helpers_36 : decode cX8_helpers 36 = .ok (.iload_n 3, 1) := by decide +kernel
theorem dX8_helpers_37 : decode cX8_helpers 37 = .ok (.invokevirtual 205, 3) := by decide +kernel
theorem dX8_helpers_40 : decode cX8_helpers 40 = .ok (.ireturn, 1) := by decide +kernel
theorem dX8_type_0 : decode cX8_type 0 = .ok (.iload_n 1, 1) := by decide +kernel
theorem dX8_type_1 : decode cX8_type 1 = .ok (.bipush 32, 2) := by decide +kernel
theorem dX8_type_3 : decode cX8_type 3 = .ok (.if_icmp .lt 9, 3) := by decide +kernel
theorem dX8_type_6 : decode cX8_type 6 = .ok (.iload_n 1, 1) := by decide +kernel
theorem dX8_type_7 : decode cX8_type 7 = .ok (.bipush 126, 2) := by decide +kernel
theorem dX8_type_9 : decode cX8_type 9 = .ok (.if_icmp .le 13, 3) := by decide +kernel
theorem dX8_type_12 : decode cX8_type 12 = .ok (.new 49, 3) := by decide +kernel
theorem dX8_type_15 : decode cX8_type 15 = .ok (.dup, 1) := by decide +kernel
theorem dX8_type_16 : decode cX8_type 16 = .ok (.ldc 209, 2) := by decide +kernel
theorem dX8_type_18 : decode cX8_type 18 = .ok (.invokespecial 53, 3) := by decide +kernel
theorem dX8_type_21 : decode cX8_type 21 = .ok (.athrow, 1) := by decide +kernel
theorem dX8_type_22 : decode cX8_type 22 = .ok (.aload_n 0, 1) := by decide +kernel
theorem dX8_type_23 : decode cX8_type 23 = .ok (.getfield 41, 3) := by decide +kernel
theorem dX8_type_26 : decode cX8_type 26 = .ok (.getfield 211, 3) := by decide +kernel
theorem dX8_type_29 : decode cX8_type 29 = .ok (.bipush 60, 2) := by decide +kernel
theorem dX8_type_31 : decode cX8_type 31 = .ok (.if_icmp .lt 13, 3) := by decide +kernel
theorem dX8_type_34 : decode cX8_type 34 = .ok (.new 135, 3) := by decide +kernel
theorem dX8_type_37 : decode cX8_type 37 = .ok (.dup, 1) := by decide +kernel
theorem dX8_type_38 : decode cX8_type 38 = .ok (.ldc 214, 2) := by decide +kernel
theorem dX8_type_40 : decode cX8_type 40 = .ok (.invokespecial 139, 3) := by decide +kernel
theorem dX8_type_43 : decode cX8_type 43 = .ok (.athrow, 1) := by decide +kernel
theorem dX8_type_44 : decode cX8_type 44 = .ok (.aload_n 0, 1) := by decide +kernel
theorem dX8_type_45 : decode cX8_type 45 = .ok (.getfield 41, 3) := by decide +kernel
theorem dX8_type_48 : decode cX8_type 48 = .ok (.iload_n 1, 1) := by decide +kernel
theorem dX8_type_49 : decode cX8_type 49 = .ok (.invokevirtual 216, 3) := by decide +kernel
theorem dX8_type_52 : decode cX8_type 52 = .ok (.aload_n 0, 1) := by decide +kernel
theorem dX8_type_53 : decode cX8_type 53 = .ok (.getfield 41, 3) := by decide +kernel
theorem dX8_type_56 : decode cX8_type 56 = .ok (.getfield 211, 3) := by decide +kernel
theorem dX8_type_59 : decode cX8_type 59 = .ok (.ireturn, 1) := by decide +kernel
theorem dX8_clearText_0 : decode cX8_clearText 0 = .ok (.aload_n 0, 1) := by decide +kernel
theorem dX8_clearText_1 : decode cX8_clearText 1 = .ok (.getfield 41, 3) := by decide +kernel
theorem dX8_clearText_4 : decode cX8_clearText 4 = .ok (.getfield 211, 3) := by decide +kernel
theorem dX8_clearText_7 : decode cX8_clearText 7 = .ok (.istore_n 1, 1) := by decide +kernel
theorem dX8_clearText_8 : decode cX8_clearText 8 = .ok (.aload_n 0, 1) := by decide +kernel
theorem dX8_clearText_9 : decode cX8_clearText 9 = .ok (.getfield 41, 3) := by decide +kernel
theorem dX8_clearText_12 : decode cX8_clearText 12 = .ok (.iconst 0, 1) := by decide +kernel
theorem dX8_clearText_13 : decode cX8_clearText 13 = .ok (.putfield 211, 3) := by decide +kernel
theorem dX8_clearText_16 : decode cX8_clearText 16 = .ok (.iload_n 1, 1) := by decide +kernel
theorem dX8_clearText_17 : decode cX8_clearText 17 = .ok (.ireturn, 1) := by decide +kernel
theorem dX8_runScript_0 : decode cX8_runScript 0 = .ok (.aload_n 0, 1) := by decide +kernel
theorem dX8_runScript_1 : decode cX8_runScript 1 = .ok (.getfield 41, 3) := by decide +kernel
theorem dX8_runScript_4 : decode cX8_runScript 4 = .ok (.invokevirtual 219, 3) := by decide +kernel
theorem dX8_runScript_7 : decode cX8_runScript 7 = .ok (.istore_n 1, 1) := by decide +kernel
theorem dX8_runScript_8 : decode cX8_runScript 8 = .ok (.iload_n 1, 1) := by decide +kernel
theorem dX8_runScript_9 : decode cX8_runScript 9 = .ok (.iconst (-1), 1) := by decide +kernel
theorem dX8_runScript_10 : decode cX8_runScript 10 = .ok (.if_icmp .eq 7, 3) := by decide +kernel
theorem dX8_runScript_13 : decode cX8_runScript 13 = .ok (.iconst (-1), 1) := by decide +kernel
theorem dX8_runScript_14 : decode cX8_runScript 14 = .ok (.iload_n 1, 1) := by decide +kernel
theorem dX8_runScript_15 : decode cX8_runScript 15 = .ok (.isub, 1) := by decide +kernel
theorem dX8_runScript_16 : decode cX8_runScript 16 = .ok (.ireturn, 1) := by decide +kernel
theorem dX8_runScript_17 : decode cX8_runScript 17 = .ok (.aload_n 0, 1) := by decide +kernel
theorem dX8_runScript_18 : decode cX8_runScript 18 = .ok (.getfield 34, 3) := by decide +kernel
theorem dX8_runScript_21 : decode cX8_runScript 21 = .ok (.aload_n 0, 1) := by decide +kernel
theorem dX8_runScript_22 : decode cX8_runScript 22 = .ok (.getfield 27, 3) := by decide +kernel
theorem dX8_runScript_25 : decode cX8_runScript 25 = .ok (.invokevirtual 98, 3) := by decide +kernel
theorem dX8_runScript_28 : decode cX8_runScript 28 = .ok (.iconst 0, 1) := by decide +kernel
theorem dX8_runScript_29 : decode cX8_runScript 29 = .ok (.istore_n 2, 1) := by decide +kernel
theorem dX8_runScript_30 : decode cX8_runScript 30 = .ok (.iload_n 2, 1) := by decide +kernel
theorem dX8_runScript_31 : decode cX8_runScript 31 = .ok (.aload_n 0, 1) := by decide +kernel
theorem dX8_runScript_32 : decode cX8_runScript 32 = .ok (.getfield 41, 3) := by decide +kernel
theorem dX8_runScript_35 : decode cX8_runScript 35 = .ok (.getfield 222, 3) := by decide +kernel
theorem dX8_runScript_38 : decode cX8_runScript 38 = .ok (.if_icmp .ge 42, 3) := by decide +kernel
theorem dX8_runScript_41 : decode cX8_runScript 41 = .ok (.aload_n 0, 1) := by decide +kernel
theorem dX8_runScript_42 : decode cX8_runScript 42 = .ok (.aload_n 0, 1) := by decide +kernel
theorem dX8_runScript_43 : decode cX8_runScript 43 = .ok (.getfield 41, 3) := by decide +kernel
theorem dX8_runScript_46 : decode cX8_runScript 46 = .ok (.getfield 225, 3) := by decide +kernel
theorem dX8_runScript_49 : decode cX8_runScript 49 = .ok (.iload_n 2, 1) := by decide +kernel
theorem dX8_runScript_50 : decode cX8_runScript 50 = .ok (.aaload, 1) := by decide +kernel
theorem dX8_runScript_51 : decode cX8_runScript 51 = .ok (.invokevirtual 229, 3) := by decide +kernel
theorem dX8_runScript_54 : decode cX8_runScript 54 = .ok (.ifCond .ne 20, 3) := by decide +kernel
theorem dX8_runScript_57 : decode cX8_runScript 57 = .ok (.aload_n 0, 1) := by decide +kernel
theorem dX8_runScript_58 : decode cX8_runScript 58 = .ok (.getfield 34, 3) := by decide +kernel
theorem dX8_runScript_61 : decode cX8_runScript 61 = .ok (.aload_n 0, 1) := by decide +kernel
theorem dX8_runScript_62 : decode cX8_runScript 62 = .ok (.getfield 27, 3) := by decide +kernel
theorem dX8_runScript_65 : decode cX8_runScript 65 = .ok (.invokevirtual 233, 3) := by decide +kernel
theorem dX8_runScript_68 : decode cX8_runScript 68 = .ok (.sipush (-1000), 3) := by decide +kernel
theorem dX8_runScript_71 : decode cX8_runScript 71 = .ok (.iload_n 2, 1) := by decide +kernel
theorem dX8_runScript_72 : decode cX8_runScript 72 = .ok (.isub, 1) := by decide +kernel
theorem dX8_runScript_73 : decode cX8_runScript 73 = .ok (.ireturn, 1) := by decide +kernel
theorem dX8_runScript_74 : decode cX8_runScript 74 = .ok (.iinc 2 1, 3) := by decide +kernel
theorem dX8_runScript_77 : decode cX8_runScript 77 = .ok (.goto (-47), 3) := by decide +kernel
theorem dX8_runScript_80 : decode cX8_runScript 80 = .ok (.aload_n 0, 1) := by decide +kernel
theorem dX8_runScript_81 : decode cX8_runScript 81 = .ok (.getfield 34, 3) := by decide +kernel
theorem dX8_runScript_84 : decode cX8_runScript 84 = .ok (.invokevirtual 104, 3) := by decide +kernel
theorem dX8_runScript_87 : decode cX8_runScript 87 = .ok (.aload_n 0, 1) := by decide +kernel
theorem dX8_runScript_88 : decode cX8_runScript 88 = .ok (.getfield 41, 3) := by decide +kernel
theorem dX8_runScript_91 : decode cX8_runScript 91 = .ok (.iconst 0, 1) := by decide +kernel
theorem dX8_runScript_92 : decode cX8_runScript 92 = .ok (.putfield 211, 3) := by decide +kernel
theorem dX8_runScript_95 : decode cX8_runScript 95 = .ok (.aload_n 0, 1) := by decide +kernel
theorem dX8_runScript_96 : decode cX8_runScript 96 = .ok (.getfield 41, 3) := by decide +kernel
theorem dX8_runScript_99 : decode cX8_runScript 99 = .ok (.getfield 222, 3) := by decide +kernel
theorem dX8_runScript_102 : decode cX8_runScript 102 = .ok (.ireturn, 1) := by decide +kernel
theorem dX8_undo_0 : decode cX8_undo 0 = .ok (.aload_n 0, 1) := by decide +kernel
theorem dX8_undo_1 : decode cX8_undo 1 = .ok (.getfield 34, 3) := by decide +kernel
theorem dX8_undo_4 : decode cX8_undo 4 = .ok (.getfield 236, 3) := by decide +kernel
theorem dX8_undo_7 : decode cX8_undo 7 = .ok (.ifCond .ne 13, 3) := by decide +kernel
theorem dX8_undo_10 : decode cX8_undo 10 = .ok (.new 135, 3) := by decide +kernel
theorem dX8_undo_13 : decode cX8_undo 13 = .ok (.dup, 1) := by decide +kernel
theorem dX8_undo_14 : decode cX8_undo 14 = .ok (.ldc 237, 2) := by decide +kernel
theorem dX8_undo_16 : decode cX8_undo 16 = .ok (.invokespecial 139, 3) := by decide +kernel
theorem dX8_undo_19 : decode cX8_undo 19 = .ok (.athrow, 1) := by decide +kernel
theorem dX8_undo_20 : decode cX8_undo 20 = .ok (.aload_n 0, 1) := by decide +kernel
theorem dX8_undo_21 : decode cX8_undo 21 = .ok (.getfield 34, 3) := by decide +kernel
theorem dX8_undo_24 : decode cX8_undo 24 = .ok (.aload_n 0, 1) := by decide +kernel
theorem dX8_undo_25 : decode cX8_undo 25 = .ok (.getfield 27, 3) := by decide +kernel
theorem dX8_undo_28 : decode cX8_undo 28 = .ok (.invokevirtual 239, 3) := by decide +kernel
theorem dX8_undo_31 : decode cX8_undo 31 = .ok (.aload_n 0, 1) := by decide +kernel
theorem dX8_undo_32 : decode cX8_undo 32 = .ok (.getfield 34, 3) := by decide +kernel
theorem dX8_undo_35 : decode cX8_undo 35 = .ok (.getfield 236, 3) := by decide +kernel
theorem dX8_undo_38 : decode cX8_undo 38 = .ok (.ireturn, 1) := by decide +kernel
theorem dX8_fingerprint_0 : decode cX8_fingerprint 0 = .ok (.ldc2_w 242, 3) := by decide +kernel
theorem dX8_fingerprint_3 : decode cX8_fingerprint 3 = .ok (.lstore_n 1, 1) := by decide +kernel
theorem dX8_fingerprint_4 : decode cX8_fingerprint 4 = .ok (.lload_n 1, 1) := by decide +kernel
theorem dX8_fingerprint_5 : decode cX8_fingerprint 5 = .ok (.aload_n 0, 1) := by decide +kernel
theorem dX8_fingerprint_6 : decode cX8_fingerprint 6 = .ok (.getfield 27, 3) := by decide +kernel
theorem dX8_fingerprint_9 : decode cX8_fingerprint 9 = .ok (.getfield 114, 3) := by decide +kernel
theorem dX8_fingerprint_12 : decode cX8_fingerprint 12 = .ok (.invokestatic 244, 3) := by decide +kernel
theorem dX8_fingerprint_15 : decode cX8_fingerprint 15 = .ok (.lstore_n 1, 1) := by decide +kernel
theorem dX8_fingerprint_16 : decode cX8_fingerprint 16 = .ok (.lload_n 1, 1) := by decide +kernel
theorem dX8_fingerprint_17 : decode cX8_fingerprint 17 = .ok (.aload_n 0, 1) := by decide +kernel
theorem dX8_fingerprint_18 : decode cX8_fingerprint 18 = .ok (.getfield 27, 3) := by decide +kernel
theorem dX8_fingerprint_21 : decode cX8_fingerprint 21 = .ok (.invokevirtual 56, 3) := by decide +kernel
theorem dX8_fingerprint_24 : decode cX8_fingerprint 24 = .ok (.invokestatic 244, 3) := by decide +kernel
theorem dX8_fingerprint_27 : decode cX8_fingerprint 27 = .ok (.lstore_n 1, 1) := by decide +kernel
theorem dX8_fingerprint_28 : decode cX8_fingerprint 28 = .ok (.lload_n 1, 1) := by decide +kernel
theorem dX8_fingerprint_29 : decode cX8_fingerprint 29 = .ok (.aload_n 0, 1) := by decide +kernel
theorem dX8_fingerprint_30 : decode cX8_fingerprint 30 = .ok (.getfield 27, 3) := by decide +kernel
theorem dX8_fingerprint_33 : decode cX8_fingerprint 33 = .ok (.getfield 195, 3) := by decide +kernel
theorem dX8_fingerprint_36 : decode cX8_fingerprint 36 = .ok (.invokestatic 244, 3) := by decide +kernel
theorem dX8_fingerprint_39 : decode cX8_fingerprint 39 = .ok (.lstore_n 1, 1) := by decide +kernel
theorem dX8_fingerprint_40 : decode cX8_fingerprint 40 = .ok (.lload_n 1, 1) := by decide +kernel
theorem dX8_fingerprint_41 : decode cX8_fingerprint 41 = .ok (.aload_n 0, 1) := by decide +kernel
theorem dX8_fingerprint_42 : decode cX8_fingerprint 42 = .ok (.getfield 27, 3) := by decide +kernel
theorem dX8_fingerprint_45 : decode cX8_fingerprint 45 = .ok (.getfield 132, 3) := by decide +kernel
theorem dX8_fingerprint_48 : decode cX8_fingerprint 48 = .ok (.invokestatic 244, 3) := by decide +kernel
theorem dX8_fingerprint_51 : decode cX8_fingerprint 51 = .ok (.lstore_n 1, 1) := by decide +kernel
theorem dX8_fingerprint_52 : decode cX8_fingerprint 52 = .ok (.iconst 0, 1) := by decide +kernel
theorem dX8_fingerprint_53 : decode cX8_fingerprint 53 = .ok (.istore_n 3, 1) := by decide +kernel
theorem dX8_fingerprint_54 : decode cX8_fingerprint 54 = .ok (.iload_n 3, 1) := by decide +kernel
theorem dX8_fingerprint_55 : decode cX8_fingerprint 55 = .ok (.aload_n 0, 1) := by decide +kernel
theorem dX8_fingerprint_56 : decode cX8_fingerprint 56 = .ok (.getfield 18, 3) := by decide +kernel
theorem dX8_fingerprint_59 : decode cX8_fingerprint 59 = .ok (.if_icmp .ge 16, 3) := by decide +kernel
theorem dX8_fingerprint_62 : decode cX8_fingerprint 62 = .ok (.aload_n 0, 1) := by decide +kernel
theorem dX8_fingerprint_63 : decode cX8_fingerprint 63 = .ok (.lload_n 1, 1) := by decide +kernel
theorem dX8_fingerprint_64 : decode cX8_fingerprint 64 = .ok (.iload_n 3, 1) := by decide +kernel
theorem dX8_fingerprint_65 : decode cX8_fingerprint 65 = .ok (.invokevirtual 248, 3) := by decide +kernel
theorem dX8_fingerprint_68 : decode cX8_fingerprint 68 = .ok (.lstore_n 1, 1) := by decide +kernel
theorem dX8_fingerprint_69 : decode cX8_fingerprint 69 = .ok (.iinc 3 1, 3) := by decide +kernel
theorem dX8_fingerprint_72 : decode cX8_fingerprint 72 = .ok (.goto (-18), 3) := by decide +kernel
theorem dX8_fingerprint_75 : decode cX8_fingerprint 75 = .ok (.iconst 0, 1) := by decide +kernel
theorem dX8_fingerprint_76 : decode cX8_fingerprint 76 = .ok (.istore_n 3, 1) := by decide +kernel
theorem dX8_fingerprint_77 : decode cX8_fingerprint 77 = .ok (.iload_n 3, 1) := by decide +kernel
theorem dX8_fingerprint_78 : decode cX8_fingerprint 78 = .ok (.aload_n 0, 1) := by decide +kernel
theorem dX8_fingerprint_79 : decode cX8_fingerprint 79 = .ok (.getfield 27, 3) := by decide +kernel
theorem dX8_fingerprint_82 : decode cX8_fingerprint 82 = .ok (.getfield 195, 3) := by decide +kernel
theorem dX8_fingerprint_85 : decode cX8_fingerprint 85 = .ok (.if_icmp .ge 40, 3) := by decide +kernel
theorem dX8_fingerprint_88 : decode cX8_fingerprint 88 = .ok (.iconst 5, 1) := by decide +kernel
theorem dX8_fingerprint_89 : decode cX8_fingerprint 89 = .ok (.istore 4, 2) := by decide +kernel
theorem dX8_fingerprint_91 : decode cX8_fingerprint 91 = .ok (.iload 4, 2) := by decide +kernel
theorem dX8_fingerprint_93 : decode cX8_fingerprint 93 = .ok (.bipush 8, 2) := by decide +kernel
theorem dX8_fingerprint_95 : decode cX8_fingerprint 95 = .ok (.if_icmp .ge 24, 3) := by decide +kernel
theorem dX8_fingerprint_98 : decode cX8_fingerprint 98 = .ok (.lload_n 1, 1) := by decide +kernel
theorem dX8_fingerprint_99 : decode cX8_fingerprint 99 = .ok (.aload_n 0, 1) := by decide +kernel
theorem dX8_fingerprint_100 : decode cX8_fingerprint 100 = .ok (.getfield 27, 3) := by decide +kernel
theorem dX8_fingerprint_103 : decode cX8_fingerprint 103 = .ok (.iload_n 3, 1) := by decide +kernel
theorem dX8_fingerprint_104 : decode cX8_fingerprint 104 = .ok (.iload 4, 2) := by decide +kernel
theorem dX8_fingerprint_106 : decode cX8_fingerprint 106 = .ok (.invokevirtual 200, 3) := by decide +kernel
theorem dX8_fingerprint_109 : decode cX8_fingerprint 109 = .ok (.invokestatic 244, 3) := by decide +kernel
theorem dX8_fingerprint_112 : decode cX8_fingerprint 112 = .ok (.lstore_n 1, 1) := by decide +kernel
theorem dX8_fingerprint_113 : decode cX8_fingerprint 113 = .ok (.iinc 4 1, 3) := by decide +kernel
theorem dX8_fingerprint_116 : decode cX8_fingerprint 116 = .ok (.goto (-25), 3) := by decide +kernel
theorem dX8_fingerprint_119 : decode cX8_fingerprint 119 = .ok (.iinc 3 1, 3) := by decide +kernel
theorem dX8_fingerprint_122 : decode cX8_fingerprint 122 = .ok (.goto (-45), 3) := by decide +kernel
theorem dX8_fingerprint_125 : decode cX8_fingerprint 125 = .ok (.lload_n 1, 1) := by decide +kernel
theorem dX8_fingerprint_126 : decode cX8_fingerprint 126 = .ok (.lreturn, 1) := by decide +kernel
theorem dX8_withSite_0 : decode cX8_withSite 0 = .ok (.lload_n 1, 1) := by decide +kernel
theorem dX8_withSite_1 : decode cX8_withSite 1 = .ok (.lstore 4, 2) := by decide +kernel
theorem dX8_withSite_3 : decode cX8_withSite 3 = .ok (.iconst 0, 1) := by decide +kernel
theorem dX8_withSite_4 : decode cX8_withSite 4 = .ok (.istore 6, 2) := by decide +kernel
theorem dX8_withSite_6 : decode cX8_withSite 6 = .ok (.iload 6, 2) := by decide +kernel
theorem dX8_withSite_8 : decode cX8_withSite 8 = .ok (.iconst 2, 1) := by decide +kernel
theorem dX8_withSite_9 : decode cX8_withSite 9 = .ok (.if_icmp .ge 43, 3) := by decide +kernel
theorem dX8_withSite_12 : decode cX8_withSite 12 = .ok (.lload 4, 2) := by decide +kernel
theorem dX8_withSite_14 : decode cX8_withSite 14 = .ok (.aload_n 0, 1) := by decide +kernel
theorem dX8_withSite_15 : decode cX8_withSite 15 = .ok (.getfield 27, 3) := by decide +kernel
theorem dX8_withSite_18 : decode cX8_withSite 18 = .ok (.iload_n 3, 1) := by decide +kernel
theorem dX8_withSite_19 : decode cX8_withSite 19 = .ok (.iload 6, 2) := by decide +kernel
theorem dX8_withSite_21 : decode cX8_withSite 21 = .ok (.invokevirtual 85, 3) := by decide +kernel
theorem dX8_withSite_24 : decode cX8_withSite 24 = .ok (.invokestatic 244, 3) := by decide +kernel
theorem dX8_withSite_27 : decode cX8_withSite 27 = .ok (.lstore 4, 2) := by decide +kernel
theorem dX8_withSite_29 : decode cX8_withSite 29 = .ok (.lload 4, 2) := by decide +kernel
theorem dX8_withSite_31 : decode cX8_withSite 31 = .ok (.aload_n 0, 1) := by decide +kernel
theorem dX8_withSite_32 : decode cX8_withSite 32 = .ok (.getfield 27, 3) := by decide +kernel
theorem dX8_withSite_35 : decode cX8_withSite 35 = .ok (.iload_n 3, 1) := by decide +kernel
theorem dX8_withSite_36 : decode cX8_withSite 36 = .ok (.iload 6, 2) := by decide +kernel
theorem dX8_withSite_38 : decode cX8_withSite 38 = .ok (.invokevirtual 163, 3) := by decide +kernel
theorem dX8_withSite_41 : decode cX8_withSite 41 = .ok (.invokestatic 244, 3) := by decide +kernel
theorem dX8_withSite_44 : decode cX8_withSite 44 = .ok (.lstore 4, 2) := by decide +kernel
theorem dX8_withSite_46 : decode cX8_withSite 46 = .ok (.iinc 6 1, 3) := by decide +kernel
theorem dX8_withSite_49 : decode cX8_withSite 49 = .ok (.goto (-43), 3) := by decide +kernel
theorem dX8_withSite_52 : decode cX8_withSite 52 = .ok (.lload 4, 2) := by decide +kernel
theorem dX8_withSite_54 : decode cX8_withSite 54 = .ok (.aload_n 0, 1) := by decide +kernel
theorem dX8_withSite_55 : decode cX8_withSite 55 = .ok (.getfield 27, 3) := by decide +kernel
theorem dX8_withSite_58 : decode cX8_withSite 58 = .ok (.iload_n 3, 1) := by decide +kernel
theorem dX8_withSite_59 : decode cX8_withSite 59 = .ok (.invokevirtual 160, 3) := by decide +kernel
theorem dX8_withSite_62 : decode cX8_withSite 62 = .ok (.invokestatic 244, 3) := by decide +kernel
theorem dX8_withSite_65 : decode cX8_withSite 65 = .ok (.lstore 4, 2) := by decide +kernel
theorem dX8_withSite_67 : decode cX8_withSite 67 = .ok (.iconst 0, 1) := by decide +kernel
theorem dX8_withSite_68 : decode cX8_withSite 68 = .ok (.istore 6, 2) := by decide +kernel
theorem dX8_withSite_70 : decode cX8_withSite 70 = .ok (.iload 6, 2) := by decide +kernel
theorem dX8_withSite_72 : decode cX8_withSite 72 = .ok (.aload_n 0, 1) := by decide +kernel
theorem dX8_withSite_73 : decode cX8_withSite 73 = .ok (.getfield 18, 3) := by decide +kernel
theorem dX8_withSite_76 : decode cX8_withSite 76 = .ok (.if_icmp .ge 59, 3) := by decide +kernel
theorem dX8_withSite_79 : decode cX8_withSite 79 = .ok (.lload 4, 2) := by decide +kernel
theorem dX8_withSite_81 : decode cX8_withSite 81 = .ok (.aload_n 0, 1) := by decide +kernel
theorem dX8_withSite_82 : decode cX8_withSite 82 = .ok (.getfield 27, 3) := by decide +kernel
theorem dX8_withSite_85 : decode cX8_withSite 85 = .ok (.getfield 175, 3) := by decide +kernel
theorem dX8_withSite_88 : decode cX8_withSite 88 = .ok (.iload_n 3, 1) := by decide +kernel
theorem dX8_withSite_89 : decode cX8_withSite 89 = .ok (.aaload, 1) := by decide +kernel
theorem dX8_withSite_90 : decode cX8_withSite 90 = .ok (.getfield 179, 3) := by decide +kernel
theorem dX8_withSite_93 : decode cX8_withSite 93 = .ok (.iload 6, 2) := by decide +kernel
theorem dX8_withSite_95 : decode cX8_withSite 95 = .ok (.aaload, 1) := by decide +kernel
theorem dX8_withSite_96 : decode cX8_withSite 96 = .ok (.getfield 191, 3) := by decide +kernel
theorem dX8_withSite_99 : decode cX8_withSite 99 = .ok (.invokestatic 244, 3) := by decide +kernel
theorem dX8_withSite_102 : decode cX8_withSite 102 = .ok (.lstore 4, 2) := by decide +kernel
theorem dX8_withSite_104 : decode cX8_withSite 104 = .ok (.lload 4, 2) := by decide +kernel
theorem dX8_withSite_106 : decode cX8_withSite 106 = .ok (.aload_n 0, 1) := by decide +kernel
theorem dX8_withSite_107 : decode cX8_withSite 107 = .ok (.getfield 27, 3) := by decide +kernel
theorem dX8_withSite_110 : decode cX8_withSite 110 = .ok (.getfield 175, 3) := by decide +kernel
theorem dX8_withSite_113 : decode cX8_withSite 113 = .ok (.iload_n 3, 1) := by decide +kernel
theorem dX8_withSite_114 : decode cX8_withSite 114 = .ok (.aaload, 1) := by decide +kernel
theorem dX8_withSite_115 : decode cX8_withSite 115 = .ok (.getfield 179, 3) := by decide +kernel
theorem dX8_withSite_118 : decode cX8_withSite 118 = .ok (.iload 6, 2) := by decide +kernel
theorem dX8_withSite_120 : decode cX8_withSite 120 = .ok (.aaload, 1) := by decide +kernel
theorem dX8_withSite_121 : decode cX8_withSite 121 = .ok (.getfield 194, 3) := by decide +kernel
theorem dX8_withSite_124 : decode cX8_withSite 124 = .ok (.invokestatic 244, 3) := by decide +kernel
theorem dX8_withSite_127 : decode cX8_withSite 127 = .ok (.lstore 4, 2) := by decide +kernel
theorem dX8_withSite_129 : decode cX8_withSite 129 = .ok (.iinc 6 1, 3) := by decide +kernel
theorem dX8_withSite_132 : decode cX8_withSite 132 = .ok (.goto (-62), 3) := by decide +kernel
theorem dX8_withSite_135 : decode cX8_withSite 135 = .ok (.lload 4, 2) := by decide +kernel
theorem dX8_withSite_137 : decode cX8_withSite 137 = .ok (.lreturn, 1) := by decide +kernel
theorem dX8_mixed_0 : decode cX8_mixed 0 = .ok (.ldc2_w 251, 3) := by decide +kernel
theorem dX8_mixed_3 : decode cX8_mixed 3 = .ok (.lload_n 0, 1) := by decide +kernel
theorem dX8_mixed_4 : decode cX8_mixed 4 = .ok (.lmul, 1) := by decide +kernel
theorem dX8_mixed_5 : decode cX8_mixed 5 = .ok (.iload_n 2, 1) := by decide +kernel
theorem dX8_mixed_6 : decode cX8_mixed 6 = .ok (.i2l, 1) := by decide +kernel
theorem dX8_mixed_7 : decode cX8_mixed 7 = .ok (.ladd, 1) := by decide +kernel
theorem dX8_mixed_8 : decode cX8_mixed 8 = .ok (.lreturn, 1) := by decide +kernel
theorem dX8_runCommand_0 : decode cX8_runCommand 0 = .ok (.aload_n 1, 1) := by decide +kernel
theorem dX8_runCommand_1 : decode cX8_runCommand 1 = .ok (.getfield 253, 3) := by decide +kernel
theorem dX8_runCommand_4 : decode cX8_runCommand 4 = .ok (.lookupswitch 166 #[(43, 60), (45, 100), (100, 147), (109, 154), (116, 160), (117, 140)], 60) := by decide +kernel
theorem dX8_runCommand_64 : decode cX8_runCommand 64 = .ok (.aload_n 0, 1) := by decide +kernel
theorem dX8_runCommand_65 : decode cX8_runCommand 65 = .ok (.aload_n 1, 1) := by decide +kernel
theorem dX8_runCommand_66 : decode cX8_runCommand 66 = .ok (.getfield 258, 3) := by decide +kernel
theorem dX8_runCommand_69 : decode cX8_runCommand 69 = .ok (.aload_n 1, 1) := by decide +kernel
theorem dX8_runCommand_70 : decode cX8_runCommand 70 = .ok (.getfield 261, 3) := by decide +kernel
theorem dX8_runCommand_73 : decode cX8_runCommand 73 = .ok (.invokevirtual 63, 3) := by decide +kernel
theorem dX8_runCommand_76 : decode cX8_runCommand 76 = .ok (.ifCond .ne 26, 3) := by decide +kernel
theorem dX8_runCommand_79 : decode cX8_runCommand 79 = .ok (.aload_n 0, 1) := by decide +kernel
theorem dX8_runCommand_80 : decode cX8_runCommand 80 = .ok (.getfield 27, 3) := by decide +kernel
theorem dX8_runCommand_83 : decode cX8_runCommand 83 = .ok (.aload_n 1, 1) := by decide +kernel
theorem dX8_runCommand_84 : decode cX8_runCommand 84 = .ok (.getfield 258, 3) := by decide +kernel
theorem dX8_runCommand_87 : decode cX8_runCommand 87 = .ok (.iconst 0, 1) := by decide +kernel
theorem dX8_runCommand_88 : decode cX8_runCommand 88 = .ok (.aload_n 1, 1) := by decide +kernel
theorem dX8_runCommand_89 : decode cX8_runCommand 89 = .ok (.getfield 261, 3) := by decide +kernel
theorem dX8_runCommand_92 : decode cX8_runCommand 92 = .ok (.invokevirtual 73, 3) := by decide +kernel
theorem dX8_runCommand_95 : decode cX8_runCommand 95 = .ok (.ifCond .eq 7, 3) := by decide +kernel
theorem dX8_runCommand_98 : decode cX8_runCommand 98 = .ok (.iconst 1, 1) := by decide +kernel
theorem dX8_runCommand_99 : decode cX8_runCommand 99 = .ok (.goto 4, 3) := by decide +kernel
theorem dX8_runCommand_102 : decode cX8_runCommand 102 = .ok (.iconst 0, 1) := by decide +kernel
theorem dX8_runCommand_103 : decode cX8_runCommand 103 = .ok (.ireturn, 1) := by decide +kernel
theorem dX8_runCommand_104 : decode cX8_runCommand 104 = .ok (.aload_n 0, 1) := by decide +kernel
theorem dX8_runCommand_105 : decode cX8_runCommand 105 = .ok (.aload_n 1, 1) := by decide +kernel
theorem dX8_runCommand_106 : decode cX8_runCommand 106 = .ok (.getfield 258, 3) := by decide +kernel
theorem dX8_runCommand_109 : decode cX8_runCommand 109 = .ok (.aload_n 1, 1) := by decide +kernel
theorem dX8_runCommand_110 : decode cX8_runCommand 110 = .ok (.getfield 261, 3) := by decide +kernel
theorem dX8_runCommand_113 : decode cX8_runCommand 113 = .ok (.invokevirtual 63, 3) := by decide +kernel
theorem dX8_runCommand_116 : decode cX8_runCommand 116 = .ok (.ifCond .ne 26, 3) := by decide +kernel
theorem dX8_runCommand_119 : decode cX8_runCommand 119 = .ok (.aload_n 0, 1) := by decide +kernel
theorem dX8_runCommand_120 : decode cX8_runCommand 120 = .ok (.getfield 27, 3) := by decide +kernel
theorem dX8_runCommand_123 : decode cX8_runCommand 123 = .ok (.aload_n 1, 1) := by decide +kernel
theorem dX8_runCommand_124 : decode cX8_runCommand 124 = .ok (.getfield 258, 3) := by decide +kernel
theorem dX8_runCommand_127 : decode cX8_runCommand 127 = .ok (.iconst 1, 1) := by decide +kernel
theorem dX8_runCommand_128 : decode cX8_runCommand 128 = .ok (.aload_n 1, 1) := by decide +kernel
theorem dX8_runCommand_129 : decode cX8_runCommand 129 = .ok (.getfield 261, 3) := by decide +kernel
theorem dX8_runCommand_132 : decode cX8_runCommand 132 = .ok (.invokevirtual 73, 3) := by decide +kernel
theorem dX8_runCommand_135 : decode cX8_runCommand 135 = .ok (.ifCond .eq 7, 3) := by decide +kernel
theorem dX8_runCommand_138 : decode cX8_runCommand 138 = .ok (.iconst 1, 1) := by decide +kernel
theorem dX8_runCommand_139 : decode cX8_runCommand 139 = .ok (.goto 4, 3) := by decide +kernel
theorem dX8_runCommand_142 : decode cX8_runCommand 142 = .ok (.iconst 0, 1) := by decide +kernel
theorem dX8_runCommand_143 : decode cX8_runCommand 143 = .ok (.ireturn, 1) := by decide +kernel
theorem dX8_runCommand_144 : decode cX8_runCommand 144 = .ok (.aload_n 0, 1) := by decide +kernel
theorem dX8_runCommand_145 : decode cX8_runCommand 145 = .ok (.iconst 0, 1) := by decide +kernel
theorem dX8_runCommand_146 : decode cX8_runCommand 146 = .ok (.aload_n 1, 1) := by decide +kernel
theorem dX8_runCommand_147 : decode cX8_runCommand 147 = .ok (.invokevirtual 264, 3) := by decide +kernel
theorem dX8_runCommand_150 : decode cX8_runCommand 150 = .ok (.ireturn, 1) := by decide +kernel
theorem dX8_runCommand_151 : decode cX8_runCommand 151 = .ok (.aload_n 0, 1) := by decide +kernel
theorem dX8_runCommand_152 : decode cX8_runCommand 152 = .ok (.iconst 1, 1) := by decide +kernel
theorem dX8_runCommand_153 : decode cX8_runCommand 153 = .ok (.aload_n 1, 1) := by decide +kernel
theorem dX8_runCommand_154 : decode cX8_runCommand 154 = .ok (.invokevirtual 264, 3) := by decide +kernel
theorem dX8_runCommand_157 : decode cX8_runCommand 157 = .ok (.ireturn, 1) := by decide +kernel
theorem dX8_runCommand_158 : decode cX8_runCommand 158 = .ok (.aload_n 0, 1) := by decide +kernel
theorem dX8_runCommand_159 : decode cX8_runCommand 159 = .ok (.aload_n 1, 1) := by decide +kernel
theorem dX8_runCommand_160 : decode cX8_runCommand 160 = .ok (.invokevirtual 268, 3) := by decide +kernel
theorem dX8_runCommand_163 : decode cX8_runCommand 163 = .ok (.ireturn, 1) := by decide +kernel
theorem dX8_runCommand_164 : decode cX8_runCommand 164 = .ok (.aload_n 0, 1) := by decide +kernel
theorem dX8_runCommand_165 : decode cX8_runCommand 165 = .ok (.aload_n 1, 1) := by decide +kernel
theorem dX8_runCommand_166 : decode cX8_runCommand 166 = .ok (.invokevirtual 271, 3) := by decide +kernel
theorem dX8_runCommand_169 : decode cX8_runCommand 169 = .ok (.ireturn, 1) := by decide +kernel
theorem dX8_runCommand_170 : decode cX8_runCommand 170 = .ok (.iconst 0, 1) := by decide +kernel
theorem dX8_runCommand_171 : decode cX8_runCommand 171 = .ok (.ireturn, 1) := by decide +kernel
theorem dX8_runTransfer_0 : decode cX8_runTransfer 0 = .ok (.aload_n 0, 1) := by decide +kernel
theorem dX8_runTransfer_1 : decode cX8_runTransfer 1 = .ok (.iload_n 1, 1) := by decide +kernel
theorem dX8_runTransfer_2 : decode cX8_runTransfer 2 = .ok (.aload_n 2, 1) := by decide +kernel
theorem dX8_runTransfer_3 : decode cX8_runTransfer 3 = .ok (.getfield 258, 3) := by decide +kernel
theorem dX8_runTransfer_6 : decode cX8_runTransfer 6 = .ok (.aload_n 2, 1) := by decide +kernel
theorem dX8_runTransfer_7 : decode cX8_runTransfer 7 = .ok (.getfield 274, 3) := by decide +kernel
theorem dX8_runTransfer_10 : decode cX8_runTransfer 10 = .ok (.aload_n 2, 1) := by decide +kernel
theorem dX8_runTransfer_11 : decode cX8_runTransfer 11 = .ok (.getfield 261, 3) := by decide +kernel
theorem dX8_runTransfer_14 : decode cX8_runTransfer 14 = .ok (.invokevirtual 77, 3) := by decide +kernel
theorem dX8_runTransfer_17 : decode cX8_runTransfer 17 = .ok (.ifCond .eq 5, 3) := by decide +kernel
theorem dX8_runTransfer_20 : decode cX8_runTransfer 20 = .ok (.iconst 0, 1) := by decide +kernel
theorem dX8_runTransfer_21 : decode cX8_runTransfer 21 = .ok (.ireturn, 1) := by decide +kernel
theorem dX8_runTransfer_22 : decode cX8_runTransfer 22 = .ok (.aload_n 0, 1) := by decide +kernel
theorem dX8_runTransfer_23 : decode cX8_runTransfer 23 = .ok (.getfield 27, 3) := by decide +kernel
theorem dX8_runTransfer_26 : decode cX8_runTransfer 26 = .ok (.iload_n 1, 1) := by decide +kernel
theorem dX8_runTransfer_27 : decode cX8_runTransfer 27 = .ok (.aload_n 2, 1) := by decide +kernel
theorem dX8_runTransfer_28 : decode cX8_runTransfer 28 = .ok (.getfield 258, 3) := by decide +kernel
theorem dX8_runTransfer_31 : decode cX8_runTransfer 31 = .ok (.aload_n 2, 1) := by decide +kernel
theorem dX8_runTransfer_32 : decode cX8_runTransfer 32 = .ok (.getfield 274, 3) := by decide +kernel
theorem dX8_runTransfer_35 : decode cX8_runTransfer 35 = .ok (.aload_n 2, 1) := by decide +kernel
theorem dX8_runTransfer_36 : decode cX8_runTransfer 36 = .ok (.getfield 261, 3) := by decide +kernel
theorem dX8_runTransfer_39 : decode cX8_runTransfer 39 = .ok (.invokevirtual 81, 3) := by decide +kernel
theorem dX8_runTransfer_42 : decode cX8_runTransfer 42 = .ok (.iconst 1, 1) := by decide +kernel
theorem dX8_runTransfer_43 : decode cX8_runTransfer 43 = .ok (.ireturn, 1) := by decide +kernel
theorem dX8_runMessage_0 : decode cX8_runMessage 0 = .ok (.aload_n 0, 1) := by decide +kernel
theorem dX8_runMessage_1 : decode cX8_runMessage 1 = .ok (.aload_n 1, 1) := by decide +kernel
theorem dX8_runMessage_2 : decode cX8_runMessage 2 = .ok (.getfield 258, 3) := by decide +kernel
theorem dX8_runMessage_5 : decode cX8_runMessage 5 = .ok (.aload_n 1, 1) := by decide +kernel
theorem dX8_runMessage_6 : decode cX8_runMessage 6 = .ok (.getfield 274, 3) := by decide +kernel
theorem dX8_runMessage_9 : decode cX8_runMessage 9 = .ok (.invokevirtual 117, 3) := by decide +kernel
theorem dX8_runMessage_12 : decode cX8_runMessage 12 = .ok (.ifCond .eq 5, 3) := by decide +kernel
theorem dX8_runMessage_15 : decode cX8_runMessage 15 = .ok (.iconst 0, 1) := by decide +kernel
theorem dX8_runMessage_16 : decode cX8_runMessage 16 = .ok (.ireturn, 1) := by decide +kernel
theorem dX8_runMessage_17 : decode cX8_runMessage 17 = .ok (.aload_n 0, 1) := by decide +kernel
theorem dX8_runMessage_18 : decode cX8_runMessage 18 = .ok (.getfield 27, 3) := by decide +kernel
theorem dX8_runMessage_21 : decode cX8_runMessage 21 = .ok (.aload_n 0, 1) := by decide +kernel
theorem dX8_runMessage_22 : decode cX8_runMessage 22 = .ok (.getfield 27, 3) := by decide +kernel
theorem dX8_runMessage_25 : decode cX8_runMessage 25 = .ok (.aload_n 1, 1) := by decide +kernel
theorem dX8_runMessage_26 : decode cX8_runMessage 26 = .ok (.getfield 258, 3) := by decide +kernel
theorem dX8_runMessage_29 : decode cX8_runMessage 29 = .ok (.aload_n 1, 1) := by decide +kernel
theorem dX8_runMessage_30 : decode cX8_runMessage 30 = .ok (.getfield 274, 3) := by decide +kernel
theorem dX8_runMessage_33 : decode cX8_runMessage 33 = .ok (.invokevirtual 120, 3) := by decide +kernel
theorem dX8_runMessage_36 : decode cX8_runMessage 36 = .ok (.invokevirtual 126, 3) := by decide +kernel
theorem dX8_runMessage_39 : decode cX8_runMessage 39 = .ok (.pop, 1) := by decide +kernel
theorem dX8_runMessage_40 : decode cX8_runMessage 40 = .ok (.iconst 1, 1) := by decide +kernel
theorem dX8_runMessage_41 : decode cX8_runMessage 41 = .ok (.ireturn, 1) := by decide +kernel
theorem dX8_runPass_0 : decode cX8_runPass 0 = .ok (.aload_n 0, 1) := by decide +kernel
theorem dX8_runPass_1 : decode cX8_runPass 1 = .ok (.aload_n 1, 1) := by decide +kernel
theorem dX8_runPass_2 : decode cX8_runPass 2 = .ok (.getfield 261, 3) := by decide +kernel
theorem dX8_runPass_5 : decode cX8_runPass 5 = .ok (.invokevirtual 107, 3) := by decide +kernel
theorem dX8_runPass_8 : decode cX8_runPass 8 = .ok (.ifCond .eq 5, 3) := by decide +kernel
theorem dX8_runPass_11 : decode cX8_runPass 11 = .ok (.iconst 0, 1) := by decide +kernel
theorem dX8_runPass_12 : decode cX8_runPass 12 = .ok (.ireturn, 1) := by decide +kernel
theorem dX8_runPass_13 : decode cX8_runPass 13 = .ok (.aload_n 0, 1) := by decide +kernel
theorem dX8_runPass_14 : decode cX8_runPass 14 = .ok (.getfield 27, 3) := by decide +kernel
theorem dX8_runPass_17 : decode cX8_runPass 17 = .ok (.aload_n 1, 1) := by decide +kernel
theorem dX8_runPass_18 : decode cX8_runPass 18 = .ok (.getfield 261, 3) := by decide +kernel
theorem dX8_runPass_21 : decode cX8_runPass 21 = .ok (.invokevirtual 111, 3) := by decide +kernel
theorem dX8_runPass_24 : decode cX8_runPass 24 = .ok (.iconst 1, 1) := by decide +kernel
theorem dX8_runPass_25 : decode cX8_runPass 25 = .ok (.ireturn, 1) := by decide +kernel
theorem dX8_throwFor_0 : decode cX8_throwFor 0 = .ok (.iload_n 0, 1) := by decide +kernel
theorem dX8_throwFor_1 : decode cX8_throwFor 1 = .ok (.iconst 1, 1) := by decide +kernel
theorem dX8_throwFor_2 : decode cX8_throwFor 2 = .ok (.if_icmp .ne 14, 3) := by decide +kernel
theorem dX8_throwFor_5 : decode cX8_throwFor 5 = .ok (.new 143, 3) := by decide +kernel
theorem dX8_throwFor_8 : decode cX8_throwFor 8 = .ok (.dup, 1) := by decide +kernel
theorem dX8_throwFor_9 : decode cX8_throwFor 9 = .ok (.ldc_w 277, 3) := by decide +kernel
theorem dX8_throwFor_12 : decode cX8_throwFor 12 = .ok (.invokespecial 147, 3) := by decide +kernel
theorem dX8_throwFor_15 : decode cX8_throwFor 15 = .ok (.athrow, 1) := by decide +kernel
theorem dX8_throwFor_16 : decode cX8_throwFor 16 = .ok (.iload_n 0, 1) := by decide +kernel
theorem dX8_throwFor_17 : decode cX8_throwFor 17 = .ok (.iconst 2, 1) := by decide +kernel
theorem dX8_throwFor_18 : decode cX8_throwFor 18 = .ok (.if_icmp .ne 14, 3) := by decide +kernel
theorem dX8_throwFor_21 : decode cX8_throwFor 21 = .ok (.new 49, 3) := by decide +kernel
theorem dX8_throwFor_24 : decode cX8_throwFor 24 = .ok (.dup, 1) := by decide +kernel
theorem dX8_throwFor_25 : decode cX8_throwFor 25 = .ok (.ldc_w 279, 3) := by decide +kernel
theorem dX8_throwFor_28 : decode cX8_throwFor 28 = .ok (.invokespecial 53, 3) := by decide +kernel
theorem dX8_throwFor_31 : decode cX8_throwFor 31 = .ok (.athrow, 1) := by decide +kernel
theorem dX8_throwFor_32 : decode cX8_throwFor 32 = .ok (.iload_n 0, 1) := by decide +kernel
theorem dX8_throwFor_33 : decode cX8_throwFor 33 = .ok (.iconst 3, 1) := by decide +kernel
theorem dX8_throwFor_34 : decode cX8_throwFor 34 = .ok (.if_icmp .ne 14, 3) := by decide +kernel
theorem dX8_throwFor_37 : decode cX8_throwFor 37 = .ok (.new 135, 3) := by decide +kernel
theorem dX8_throwFor_40 : decode cX8_throwFor 40 = .ok (.dup, 1) := by decide +kernel
theorem dX8_throwFor_41 : decode cX8_throwFor 41 = .ok (.ldc_w 281, 3) := by decide +kernel
theorem dX8_throwFor_44 : decode cX8_throwFor 44 = .ok (.invokespecial 139, 3) := by decide +kernel
theorem dX8_throwFor_47 : decode cX8_throwFor 47 = .ok (.athrow, 1) := by decide +kernel
theorem dX8_throwFor_48 : decode cX8_throwFor 48 = .ok (.return_, 1) := by decide +kernel
theorem dX8_changeFault_0 : decode cX8_changeFault 0 = .ok (.aload_n 0, 1) := by decide +kernel
theorem dX8_changeFault_1 : decode cX8_changeFault 1 = .ok (.iload_n 1, 1) := by decide +kernel
theorem dX8_changeFault_2 : decode cX8_changeFault 2 = .ok (.invokevirtual 283, 3) := by decide +kernel
theorem dX8_changeFault_5 : decode cX8_changeFault 5 = .ok (.ifCond .ne 5, 3) := by decide +kernel
theorem dX8_changeFault_8 : decode cX8_changeFault 8 = .ok (.iconst 1, 1) := by decide +kernel
theorem dX8_changeFault_9 : decode cX8_changeFault 9 = .ok (.ireturn, 1) := by decide +kernel
theorem dX8_changeFault_10 : decode cX8_changeFault 10 = .ok (.iload_n 2, 1) := by decide +kernel
theorem dX8_changeFault_11 : decode cX8_changeFault 11 = .ok (.invokestatic 286, 3) := by decide +kernel
theorem dX8_changeFault_14 : decode cX8_changeFault 14 = .ok (.ifCond .eq 7, 3) := by decide +kernel
theorem dX8_changeFault_17 : decode cX8_changeFault 17 = .ok (.iconst 0, 1) := by decide +kernel
theorem dX8_changeFault_18 : decode cX8_changeFault 18 = .ok (.goto 4, 3) := by decide +kernel
theorem dX8_changeFault_21 : decode cX8_changeFault 21 = .ok (.iconst 2, 1) := by decide +kernel
theorem dX8_changeFault_22 : decode cX8_changeFault 22 = .ok (.ireturn, 1) := by decide +kernel
theorem dX8_transferFault_0 : decode cX8_transferFault 0 = .ok (.aload_n 0, 1) := by decide +kernel
theorem dX8_transferFault_1 : decode cX8_transferFault 1 = .ok (.iload_n 2, 1) := by decide +kernel
theorem dX8_transferFault_2 : decode cX8_transferFault 2 = .ok (.invokevirtual 283, 3) := by decide +kernel
theorem dX8_transferFault_5 : decode cX8_transferFault 5 = .ok (.ifCond .eq 18, 3) := by decide +kernel
theorem dX8_transferFault_8 : decode cX8_transferFault 8 = .ok (.aload_n 0, 1) := by decide +kernel
theorem dX8_transferFault_9 : decode cX8_transferFault 9 = .ok (.iload_n 3, 1) := by decide +kernel
theorem dX8_transferFault_10 : decode cX8_transferFault 10 = .ok (.invokevirtual 283, 3) := by decide +kernel
theorem dX8_transferFault_13 : decode cX8_transferFault 13 = .ok (.ifCond .eq 10, 3) := by decide +kernel
theorem dX8_transferFault_16 : decode cX8_transferFault 16 = .ok (.iload_n 1, 1) := by decide +kernel
theorem dX8_transferFault_17 : decode cX8_transferFault 17 = .ok (.invokestatic 166, 3) := by decide +kernel
theorem dX8_transferFault_20 : decode cX8_transferFault 20 = .ok (.ifCond .ne 5, 3) := by decide +kernel
theorem dX8_transferFault_23 : decode cX8_transferFault 23 = .ok (.iconst 1, 1) := by decide +kernel
theorem dX8_transferFault_24 : decode cX8_transferFault 24 = .ok (.ireturn, 1) := by decide +kernel
theorem dX8_transferFault_25 : decode cX8_transferFault 25 = .ok (.iload_n 2, 1) := by decide +kernel
theorem dX8_transferFault_26 : decode cX8_transferFault 26 = .ok (.iload_n 3, 1) := by decide +kernel
theorem dX8_transferFault_27 : decode cX8_transferFault 27 = .ok (.if_icmp .eq 11, 3) := by decide +kernel
theorem dX8_transferFault_30 : decode cX8_transferFault 30 = .ok (.iload 4, 2) := by decide +kernel
theorem dX8_transferFault_32 : decode cX8_transferFault 32 = .ok (.invokestatic 286, 3) := by decide +kernel
theorem dX8_transferFault_35 : decode cX8_transferFault 35 = .ok (.ifCond .ne 5, 3) := by decide +kernel
theorem dX8_transferFault_38 : decode cX8_transferFault 38 = .ok (.iconst 2, 1) := by decide +kernel
theorem dX8_transferFault_39 : decode cX8_transferFault 39 = .ok (.ireturn, 1) := by decide +kernel
theorem dX8_transferFault_40 : decode cX8_transferFault 40 = .ok (.aload_n 0, 1) := by decide +kernel
theorem dX8_transferFault_41 : decode cX8_transferFault 41 = .ok (.getfield 27, 3) := by decide +kernel
theorem dX8_transferFault_44 : decode cX8_transferFault 44 = .ok (.iload_n 2, 1) := by decide +kernel
theorem dX8_transferFault_45 : decode cX8_transferFault 45 = .ok (.iload_n 1, 1) := by decide +kernel
theorem dX8_transferFault_46 : decode cX8_transferFault 46 = .ok (.invokevirtual 85, 3) := by decide +kernel
theorem dX8_transferFault_49 : decode cX8_transferFault 49 = .ok (.iload 4, 2) := by decide +kernel
theorem dX8_transferFault_51 : decode cX8_transferFault 51 = .ok (.if_icmp .ge 7, 3) := by decide +kernel
theorem dX8_transferFault_54 : decode cX8_transferFault 54 = .ok (.iconst 3, 1) := by decide +kernel
theorem dX8_transferFault_55 : decode cX8_transferFault 55 = .ok (.goto 4, 3) := by decide +kernel
theorem dX8_transferFault_58 : decode cX8_transferFault 58 = .ok (.iconst 0, 1) := by decide +kernel
theorem dX8_transferFault_59 : decode cX8_transferFault 59 = .ok (.ireturn, 1) := by decide +kernel
theorem dX8_lendFault_0 : decode cX8_lendFault 0 = .ok (.aload_n 0, 1) := by decide +kernel
theorem dX8_lendFault_1 : decode cX8_lendFault 1 = .ok (.iload_n 1, 1) := by decide +kernel
theorem dX8_lendFault_2 : decode cX8_lendFault 2 = .ok (.iload_n 2, 1) := by decide +kernel
theorem dX8_lendFault_3 : decode cX8_lendFault 3 = .ok (.iload_n 3, 1) := by decide +kernel
theorem dX8_lendFault_4 : decode cX8_lendFault 4 = .ok (.iload 4, 2) := by decide +kernel
theorem dX8_lendFault_6 : decode cX8_lendFault 6 = .ok (.invokevirtual 77, 3) := by decide +kernel
theorem dX8_lendFault_9 : decode cX8_lendFault 9 = .ok (.istore 6, 2) := by decide +kernel
theorem dX8_lendFault_11 : decode cX8_lendFault 11 = .ok (.iload 6, 2) := by decide +kernel
theorem dX8_lendFault_13 : decode cX8_lendFault 13 = .ok (.iconst 1, 1) := by decide +kernel
theorem dX8_lendFault_14 : decode cX8_lendFault 14 = .ok (.if_icmp .eq 9, 3) := by decide +kernel
theorem dX8_lendFault_17 : decode cX8_lendFault 17 = .ok (.iload 6, 2) := by decide +kernel
theorem dX8_lendFault_19 : decode cX8_lendFault 19 = .ok (.iconst 2, 1) := by decide +kernel
theorem dX8_lendFault_20 : decode cX8_lendFault 20 = .ok (.if_icmp .ne 6, 3) := by decide +kernel
theorem dX8_lendFault_23 : decode cX8_lendFault 23 = .ok (.iload 6, 2) := by decide +kernel
theorem dX8_lendFault_25 : decode cX8_lendFault 25 = .ok (.ireturn, 1) := by decide +kernel
theorem dX8_lendFault_26 : decode cX8_lendFault 26 = .ok (.iload 5, 2) := by decide +kernel
theorem dX8_lendFault_28 : decode cX8_lendFault 28 = .ok (.iconst 1, 1) := by decide +kernel
theorem dX8_lendFault_29 : decode cX8_lendFault 29 = .ok (.if_icmp .lt 11, 3) := by decide +kernel
theorem dX8_lendFault_32 : decode cX8_lendFault 32 = .ok (.iload 5, 2) := by decide +kernel
theorem dX8_lendFault_34 : decode cX8_lendFault 34 = .ok (.sipush 1000, 3) := by decide +kernel
theorem dX8_lendFault_37 : decode cX8_lendFault 37 = .ok (.if_icmp .le 5, 3) := by decide +kernel
theorem dX8_lendFault_40 : decode cX8_lendFault 40 = .ok (.iconst 2, 1) := by decide +kernel
theorem dX8_lendFault_41 : decode cX8_lendFault 41 = .ok (.ireturn, 1) := by decide +kernel
theorem dX8_lendFault_42 : decode cX8_lendFault 42 = .ok (.aload_n 0, 1) := by decide +kernel
theorem dX8_lendFault_43 : decode cX8_lendFault 43 = .ok (.getfield 27, 3) := by decide +kernel
theorem dX8_lendFault_46 : decode cX8_lendFault 46 = .ok (.getfield 195, 3) := by decide +kernel
theorem dX8_lendFault_49 : decode cX8_lendFault 49 = .ok (.bipush 10, 2) := by decide +kernel
theorem dX8_lendFault_51 : decode cX8_lendFault 51 = .ok (.if_icmp .lt 7, 3) := by decide +kernel
theorem dX8_lendFault_54 : decode cX8_lendFault 54 = .ok (.iconst 3, 1) := by decide +kernel
theorem dX8_lendFault_55 : decode cX8_lendFault 55 = .ok (.goto 5, 3) := by decide +kernel
theorem dX8_lendFault_58 : decode cX8_lendFault 58 = .ok (.iload 6, 2) := by decide +kernel
theorem dX8_lendFault_60 : decode cX8_lendFault 60 = .ok (.ireturn, 1) := by decide +kernel
theorem dX8_passFault_0 : decode cX8_passFault 0 = .ok (.iload_n 1, 1) := by decide +kernel
theorem dX8_passFault_1 : decode cX8_passFault 1 = .ok (.iconst 1, 1) := by decide +kernel
theorem dX8_passFault_2 : decode cX8_passFault 2 = .ok (.if_icmp .lt 10, 3) := by decide +kernel
theorem dX8_passFault_5 : decode cX8_passFault 5 = .ok (.iload_n 1, 1) := by decide +kernel
theorem dX8_passFault_6 : decode cX8_passFault 6 = .ok (.sipush 1000, 3) := by decide +kernel
theorem dX8_passFault_9 : decode cX8_passFault 9 = .ok (.if_icmp .le 5, 3) := by decide +kernel
theorem dX8_passFault_12 : decode cX8_passFault 12 = .ok (.iconst 2, 1) := by decide +kernel
theorem dX8_passFault_13 : decode cX8_passFault 13 = .ok (.ireturn, 1) := by decide +kernel
theorem dX8_passFault_14 : decode cX8_passFault 14 = .ok (.aload_n 0, 1) := by decide +kernel
theorem dX8_passFault_15 : decode cX8_passFault 15 = .ok (.getfield 27, 3) := by decide +kernel
theorem dX8_passFault_18 : decode cX8_passFault 18 = .ok (.getfield 114, 3) := by decide +kernel
theorem dX8_passFault_21 : decode cX8_passFault 21 = .ok (.ldc_w 289, 3) := by decide +kernel
theorem dX8_passFault_24 : decode cX8_passFault 24 = .ok (.iload_n 1, 1) := by decide +kernel
theorem dX8_passFault_25 : decode cX8_passFault 25 = .ok (.isub, 1) := by decide +kernel
theorem dX8_passFault_26 : decode cX8_passFault 26 = .ok (.if_icmp .le 7, 3) := by decide +kernel
theorem dX8_passFault_29 : decode cX8_passFault 29 = .ok (.iconst 3, 1) := by decide +kernel
theorem dX8_passFault_30 : decode cX8_passFault 30 = .ok (.goto 4, 3) := by decide +kernel
theorem dX8_passFault_33 : decode cX8_passFault 33 = .ok (.iconst 0, 1) := by decide +kernel
theorem dX8_passFault_34 : decode cX8_passFault 34 = .ok (.ireturn, 1) := by decide +kernel
theorem dX8_sendFault_0 : decode cX8_sendFault 0 = .ok (.aload_n 0, 1) := by decide +kernel
theorem dX8_sendFault_1 : decode cX8_sendFault 1 = .ok (.iload_n 1, 1) := by decide +kernel
theorem dX8_sendFault_2 : decode cX8_sendFault 2 = .ok (.invokevirtual 283, 3) := by decide +kernel
theorem dX8_sendFault_5 : decode cX8_sendFault 5 = .ok (.ifCond .eq 11, 3) := by decide +kernel
theorem dX8_sendFault_8 : decode cX8_sendFault 8 = .ok (.aload_n 0, 1) := by decide +kernel
theorem dX8_sendFault_9 : decode cX8_sendFault 9 = .ok (.iload_n 2, 1) := by decide +kernel
theorem dX8_sendFault_10 : decode cX8_sendFault 10 = .ok (.invokevirtual 283, 3) := by decide +kernel
theorem dX8_sendFault_13 : decode cX8_sendFault 13 = .ok (.ifCond .ne 5, 3) := by decide +kernel
theorem dX8_sendFault_16 : decode cX8_sendFault 16 = .ok (.iconst 1, 1) := by decide +kernel
theorem dX8_sendFault_17 : decode cX8_sendFault 17 = .ok (.ireturn, 1) := by decide +kernel
theorem dX8_sendFault_18 : decode cX8_sendFault 18 = .ok (.iload_n 1, 1) := by decide +kernel
theorem dX8_sendFault_19 : decode cX8_sendFault 19 = .ok (.iload_n 2, 1) := by decide +kernel
theorem dX8_sendFault_20 : decode cX8_sendFault 20 = .ok (.if_icmp .ne 5, 3) := by decide +kernel
theorem dX8_sendFault_23 : decode cX8_sendFault 23 = .ok (.iconst 2, 1) := by decide +kernel
theorem dX8_sendFault_24 : decode cX8_sendFault 24 = .ok (.ireturn, 1) := by decide +kernel
theorem dX8_sendFault_25 : decode cX8_sendFault 25 = .ok (.aload_n 0, 1) := by decide +kernel
theorem dX8_sendFault_26 : decode cX8_sendFault 26 = .ok (.getfield 27, 3) := by decide +kernel
theorem dX8_sendFault_29 : decode cX8_sendFault 29 = .ok (.getfield 132, 3) := by decide +kernel
theorem dX8_sendFault_32 : decode cX8_sendFault 32 = .ok (.bipush 8, 2) := by decide +kernel
theorem dX8_sendFault_34 : decode cX8_sendFault 34 = .ok (.if_icmp .lt 7, 3) := by decide +kernel
theorem dX8_sendFault_37 : decode cX8_sendFault 37 = .ok (.iconst 3, 1) := by decide +kernel
theorem dX8_sendFault_38 : decode cX8_sendFault 38 = .ok (.goto 4, 3) := by decide +kernel
theorem dX8_sendFault_41 : decode cX8_sendFault 41 = .ok (.iconst 0, 1) := by decide +kernel
theorem dX8_sendFault_42 : decode cX8_sendFault 42 = .ok (.ireturn, 1) := by decide +kernel
theorem dX8_messageFault_0 : decode cX8_messageFault 0 = .ok (.iload_n 1, 1) := by decide +kernel
theorem dX8_messageFault_1 : decode cX8_messageFault 1 = .ok (.ifCond .lt 18, 3) := by decide +kernel
theorem dX8_messageFault_4 : decode cX8_messageFault 4 = .ok (.iload_n 1, 1) := by decide +kernel
theorem dX8_messageFault_5 : decode cX8_messageFault 5 = .ok (.aload_n 0, 1) := by decide +kernel
theorem dX8_messageFault_6 : decode cX8_messageFault 6 = .ok (.getfield 27, 3) := by decide +kernel
theorem dX8_messageFault_9 : decode cX8_messageFault 9 = .ok (.getfield 132, 3) := by decide +kernel
theorem dX8_messageFault_12 : decode cX8_messageFault 12 = .ok (.if_icmp .ge 7, 3) := by decide +kernel
theorem dX8_messageFault_15 : decode cX8_messageFault 15 = .ok (.iconst 0, 1) := by decide +kernel
theorem dX8_messageFault_16 : decode cX8_messageFault 16 = .ok (.goto 4, 3) := by decide +kernel
theorem dX8_messageFault_19 : decode cX8_messageFault 19 = .ok (.iconst 1, 1) := by decide +kernel
theorem dX8_messageFault_20 : decode cX8_messageFault 20 = .ok (.ireturn, 1) := by decide +kernel
theorem dX8_siteFault_0 : decode cX8_siteFault 0 = .ok (.aload_n 0, 1) := by decide +kernel
theorem dX8_siteFault_1 : decode cX8_siteFault 1 = .ok (.iload_n 1, 1) := by decide +kernel
theorem dX8_siteFault_2 : decode cX8_siteFault 2 = .ok (.invokevirtual 283, 3) := by decide +kernel
theorem dX8_siteFault_5 : decode cX8_siteFault 5 = .ok (.ifCond .eq 7, 3) := by decide +kernel
theorem dX8_siteFault_8 : decode cX8_siteFault 8 = .ok (.iconst 0, 1) := by decide +kernel
theorem dX8_siteFault_9 : decode cX8_siteFault 9 = .ok (.goto 4, 3) := by decide +kernel
theorem dX8_siteFault_12 : decode cX8_siteFault 12 = .ok (.iconst 1, 1) := by decide +kernel
theorem dX8_siteFault_13 : decode cX8_siteFault 13 = .ok (.ireturn, 1) := by decide +kernel
theorem dX8_siteAndKindFault_0 : decode cX8_siteAndKindFault 0 = .ok (.aload_n 0, 1) := by decide +kernel
theorem dX8_siteAndKindFault_1 : decode cX8_siteAndKindFault 1 = .ok (.iload_n 1, 1) := by decide +kernel
theorem dX8_siteAndKindFault_2 : decode cX8_siteAndKindFault 2 = .ok (.invokevirtual 283, 3) := by decide +kernel
theorem dX8_siteAndKindFault_5 : decode cX8_siteAndKindFault 5 = .ok (.ifCond .eq 14, 3) := by decide +kernel
theorem dX8_siteAndKindFault_8 : decode cX8_siteAndKindFault 8 = .ok (.iload_n 2, 1) := by decide +kernel
theorem dX8_siteAndKindFault_9 : decode cX8_siteAndKindFault 9 = .ok (.invokestatic 166, 3) := by decide +kernel
theorem dX8_siteAndKindFault_12 : decode cX8_siteAndKindFault 12 = .ok (.ifCond .eq 7, 3) := by decide +kernel
theorem dX8_siteAndKindFault_15 : decode cX8_siteAndKindFault 15 = .ok (.iconst 0, 1) := by decide +kernel
theorem dX8_siteAndKindFault_16 : decode cX8_siteAndKindFault 16 = .ok (.goto 4, 3) := by decide +kernel
theorem dX8_siteAndKindFault_19 : decode cX8_siteAndKindFault 19 = .ok (.iconst 1, 1) := by decide +kernel
theorem dX8_siteAndKindFault_20 : decode cX8_siteAndKindFault 20 = .ok (.ireturn, 1) := by decide +kernel
theorem dX8_isSite_0 : decode cX8_isSite 0 = .ok (.iload_n 1, 1) := by decide +kernel
theorem dX8_isSite_1 : decode cX8_isSite 1 = .ok (.ifCond .lt 15, 3) := by decide +kernel
theorem dX8_isSite_4 : decode cX8_isSite 4 = .ok (.iload_n 1, 1) := by decide +kernel
theorem dX8_isSite_5 : decode cX8_isSite 5 = .ok (.aload_n 0, 1) := by decide +kernel
theorem dX8_isSite_6 : decode cX8_isSite 6 = .ok (.getfield 18, 3) := by decide +kernel
theorem dX8_isSite_9 : decode cX8_isSite 9 = .ok (.if_icmp .ge 7, 3) := by decide +kernel
theorem dX8_isSite_12 : decode cX8_isSite 12 = .ok (.iconst 1, 1) := by decide +kernel
theorem dX8_isSite_13 : decode cX8_isSite 13 = .ok (.goto 4, 3) := by decide +kernel
theorem dX8_isSite_16 : decode cX8_isSite 16 = .ok (.iconst 0, 1) := by decide +kernel
theorem dX8_isSite_17 : decode cX8_isSite 17 = .ok (.ireturn, 1) := by decide +kernel
theorem dX8_isKind_0 : decode cX8_isKind 0 = .ok (.iload_n 0, 1) := by decide +kernel
theorem dX8_isKind_1 : decode cX8_isKind 1 = .ok (.ifCond .eq 8, 3) := by decide +kernel
theorem dX8_isKind_4 : decode cX8_isKind 4 = .ok (.iload_n 0, 1) := by decide +kernel
theorem dX8_isKind_5 : decode cX8_isKind 5 = .ok (.iconst 1, 1) := by decide +kernel
theorem dX8_isKind_6 : decode cX8_isKind 6 = .ok (.if_icmp .ne 7, 3) := by decide +kernel
theorem dX8_isKind_9 : decode cX8_isKind 9 = .ok (.iconst 1, 1) := by decide +kernel
theorem dX8_isKind_10 : decode cX8_isKind 10 = .ok (.goto 4, 3) := by decide +kernel
theorem dX8_isKind_13 : decode cX8_isKind 13 = .ok (.iconst 0, 1) := by decide +kernel
theorem dX8_isKind_14 : decode cX8_isKind 14 = .ok (.ireturn, 1) := by decide +kernel
theorem dX8_isAmount_0 : decode cX8_isAmount 0 = .ok (.iload_n 0, 1) := by decide +kernel
theorem dX8_isAmount_1 : decode cX8_isAmount 1 = .ok (.iconst 1, 1) := by decide +kernel
theorem dX8_isAmount_2 : decode cX8_isAmount 2 = .ok (.if_icmp .lt 14, 3) := by decide +kernel
theorem dX8_isAmount_5 : decode cX8_isAmount 5 = .ok (.iload_n 0, 1) := by decide +kernel
theorem dX8_isAmount_6 : decode cX8_isAmount 6 = .ok (.sipush 999, 3) := by decide +kernel
theorem dX8_isAmount_9 : decode cX8_isAmount 9 = .ok (.if_icmp .gt 7, 3) := by decide +kernel
theorem dX8_isAmount_12 : decode cX8_isAmount 12 = .ok (.iconst 1, 1) := by decide +kernel
theorem dX8_isAmount_13 : decode cX8_isAmount 13 = .ok (.goto 4, 3) := by decide +kernel
theorem dX8_isAmount_16 : decode cX8_isAmount 16 = .ok (.iconst 0, 1) := by decide +kernel
theorem dX8_isAmount_17 : decode cX8_isAmount 17 = .ok (.ireturn, 1) := by decide +kernel
end
section
theorem dX9_init_0 : decode cX9_init 0 = .ok (.aload_n 0, 1) := by decide +kernel
theorem dX9_init_1 : decode cX9_init 1 = .ok (.invokespecial 1, 3) := by decide +kernel
theorem dX9_init_4 : decode cX9_init 4 = .ok (.aload_n 0, 1) := by decide +kernel
theorem dX9_init_5 : decode cX9_init 5 = .ok (.sipush 2400, 3) := by decide +kernel
theorem dX9_init_8 : decode cX9_init 8 = .ok (.newarray .int, 2) := by decide +kernel
theorem dX9_init_10 : decode cX9_init 10 = .ok (.putfield 7, 3) := by decide +kernel
theorem dX9_init_13 : decode cX9_init 13 = .ok (.aload_n 0, 1) := by decide +kernel
theorem dX9_init_14 : decode cX9_init 14 = .ok (.sipush 12000, 3) := by decide +kernel
theorem dX9_init_17 : decode cX9_init 17 = .ok (.newarray .int, 2) := by decide +kernel
theorem dX9_init_19 : decode cX9_init 19 = .ok (.putfield 13, 3) := by decide +kernel
theorem dX9_init_22 : decode cX9_init 22 = .ok (.aload_n 0, 1) := by decide +kernel
theorem dX9_init_23 : decode cX9_init 23 = .ok (.sipush 2400, 3) := by decide +kernel
theorem dX9_init_26 : decode cX9_init 26 = .ok (.newarray .int, 2) := by decide +kernel
theorem dX9_init_28 : decode cX9_init 28 = .ok (.putfield 16, 3) := by decide +kernel
theorem dX9_init_31 : decode cX9_init 31 = .ok (.aload_n 0, 1) := by decide +kernel
theorem dX9_init_32 : decode cX9_init 32 = .ok (.bipush 60, 2) := by decide +kernel
theorem dX9_init_34 : decode cX9_init 34 = .ok (.newarray .int, 2) := by decide +kernel
theorem dX9_init_36 : decode cX9_init 36 = .ok (.putfield 19, 3) := by decide +kernel
theorem dX9_init_39 : decode cX9_init 39 = .ok (.aload_n 0, 1) := by decide +kernel
theorem dX9_init_40 : decode cX9_init 40 = .ok (.bipush 60, 2) := by decide +kernel
theorem dX9_init_42 : decode cX9_init 42 = .ok (.newarray .int, 2) := by decide +kernel
theorem dX9_init_44 : decode cX9_init 44 = .ok (.putfield 22, 3) := by decide +kernel
theorem dX9_init_47 : decode cX9_init 47 = .ok (.aload_n 0, 1) := by decide +kernel
theorem dX9_init_48 : decode cX9_init 48 = .ok (.bipush 60, 2) := by decide +kernel
theorem dX9_init_50 : decode cX9_init 50 = .ok (.newarray .int, 2) := by decide +kernel
theorem dX9_init_52 : decode cX9_init 52 = .ok (.putfield 25, 3) := by decide +kernel
theorem dX9_init_55 : decode cX9_init 55 = .ok (.aload_n 0, 1) := by decide +kernel
theorem dX9_init_56 : decode cX9_init 56 = .ok (.bipush 60, 2) := by decide +kernel
theorem dX9_init_58 : decode cX9_init 58 = .ok (.newarray .int, 2) := by decide +kernel
theorem dX9_init_60 : decode cX9_init 60 = .ok (.putfield 28, 3) := by decide +kernel
theorem dX9_init_63 : decode cX9_init 63 = .ok (.aload_n 0, 1) := by decide +kernel
theorem dX9_init_64 : decode cX9_init 64 = .ok (.bipush 60, 2) := by decide +kernel
theorem dX9_init_66 : decode cX9_init 66 = .ok (.newarray .int, 2) := by decide +kernel
theorem dX9_init_68 : decode cX9_init 68 = .ok (.putfield 31, 3) := by decide +kernel
theorem dX9_init_71 : decode cX9_init 71 = .ok (.aload_n 0, 1) := by decide +kernel
theorem dX9_init_72 : decode cX9_init 72 = .ok (.iload_n 1, 1) := by decide +kernel
theorem dX9_init_73 : decode cX9_init 73 = .ok (.iconst 2, 1) := by decide +kernel
theorem dX9_init_74 : decode cX9_init 74 = .ok (.if_icmp .ge 7, 3) := by decide +kernel
theorem dX9_init_77 : decode cX9_init 77 = .ok (.iconst 2, 1) := by decide +kernel
theorem dX9_init_78 : decode cX9_init 78 = .ok (.goto 13, 3) := by decide +kernel
theorem dX9_init_81 : decode cX9_init 81 = .ok (.iload_n 1, 1) := by decide +kernel
theorem dX9_init_82 : decode cX9_init 82 = .ok (.iconst 5, 1) := by decide +kernel
theorem dX9_init_83 : decode cX9_init 83 = .ok (.if_icmp .le 7, 3) := by decide +kernel
theorem dX9_init_86 : decode cX9_init 86 = .ok (.iconst 5, 1) := by decide +kernel
theorem dX9_init_87 : decode cX9_init 87 = .ok (.goto 4, 3) := by decide +kernel
theorem dX9_init_90 : decode cX9_init 90 = .ok (.iload_n 1, 1) := by decide +kernel
theorem dX9_init_91 : decode cX9_init 91 = .ok (.putfield 34, 3) := by decide +kernel
theorem dX9_init_94 : decode cX9_init 94 = .ok (.aload_n 0, 1) := by decide +kernel
theorem dX9_init_95 : decode cX9_init 95 = .ok (.iconst 0, 1) := by decide +kernel
theorem dX9_init_96 : decode cX9_init 96 = .ok (.bipush 100, 2) := by decide +kernel
theorem dX9_init_98 : decode cX9_init 98 = .ok (.bipush 50, 2) := by decide +kernel
theorem dX9_init_100 : decode cX9_init 100 = .ok (.invokevirtual 38, 3) := by decide +kernel
theorem dX9_init_103 : decode cX9_init 103 = .ok (.return_, 1) := by decide +kernel
theorem dX9_thrown_0 : decode cX9_thrown 0 = .ok (.aload_n 0, 1) := by decide +kernel
theorem dX9_thrown_1 : decode cX9_thrown 1 = .ok (.getfield 42, 3) := by decide +kernel
theorem dX9_thrown_4 : decode cX9_thrown 4 = .ok (.ireturn, 1) := by decide +kernel
theorem dX9_in_0 : decode cX9_in 0 = .ok (.iload_n 0, 1) := by decide +kernel
theorem dX9_in_1 : decode cX9_in 1 = .ok (.iload_n 1, 1) := by decide +kernel
theorem dX9_in_2 : decode cX9_in 2 = .ok (.if_icmp .lt 12, 3) := by decide +kernel
theorem dX9_in_5 : decode cX9_in 5 = .ok (.iload_n 0, 1) := by decide +kernel
theorem dX9_in_6 : decode cX9_in 6 = .ok (.iload_n 2, 1) := by decide +kernel
theorem dX9_in_7 : decode cX9_in 7 = .ok (.if_icmp .gt 7, 3) := by decide +kernel
theorem dX9_in_10 : decode cX9_in 10 = .ok (.iconst 1, 1) := by decide +kernel
theorem dX9_in_11 : decode cX9_in 11 = .ok (.goto 4, 3) := by decide +kernel
theorem dX9_in_14 : decode cX9_in 14 = .ok (.iconst 0, 1) := by decide +kernel
theorem dX9_in_15 : decode cX9_in 15 = .ok (.ireturn, 1) := by decide +kernel
theorem dX9_fails_0 : decode cX9_fails 0 = .ok (.aload_n 0, 1) := by decide +kernel
theorem dX9_fails_1 : decode cX9_fails 1 = .ok (.iload_n 1, 1) := by decide +kernel
theorem dX9_fails_2 : decode cX9_fails 2 = .ok (.putfield 42, 3) := by decide +kernel
theorem dX9_fails_5 : decode cX9_fails 5 = .ok (.iconst 0, 1) := by decide +kernel
theorem dX9_fails_6 : decode cX9_fails 6 = .ok (.ireturn, 1) := by decide +kernel
theorem dX9_starts_0 : decode cX9_starts 0 = .ok (.iconst 0, 1) := by decide +kernel
theorem dX9_starts_1 : decode cX9_starts 1 = .ok (.istore 4, 2) := by decide +kernel
theorem dX9_starts_3 : decode cX9_starts 3 = .ok (.iload 4, 2) := by decide +kernel
theorem dX9_starts_5 : decode cX9_starts 5 = .ok (.sipush 2400, 3) := by decide +kernel
theorem dX9_starts_8 : decode cX9_starts 8 = .ok (.if_icmp .ge 17, 3) := by decide +kernel
theorem dX9_starts_11 : decode cX9_starts 11 = .ok (.aload_n 0, 1) := by decide +kernel
theorem dX9_starts_12 : decode cX9_starts 12 = .ok (.getfield 7, 3) := by decide +kernel
theorem dX9_starts_15 : decode cX9_starts 15 = .ok (.iload 4, 2) := by decide +kernel
theorem dX9_starts_17 : decode cX9_starts 17 = .ok (.iconst 0, 1) := by decide +kernel
theorem dX9_starts_18 : decode cX9_starts 18 = .ok (.iastore, 1) := by decide +kernel
theorem dX9_starts_19 : decode cX9_starts 19 = .ok (.iinc 4 1, 3) := by decide +kernel
theorem dX9_starts_22 : decode cX9_starts 22 = .ok (.goto (-19), 3) := by decide +kernel
theorem dX9_starts_25 : decode cX9_starts 25 = .ok (.aload_n 0, 1) := by decide +kernel
theorem dX9_starts_26 : decode cX9_starts 26 = .ok (.getfield 7, 3) := by decide +kernel
theorem dX9_starts_29 : decode cX9_starts 29 = .ok (.iconst 1, 1) := by decide +kernel
theorem dX9_starts_30 : decode cX9_starts 30 = .ok (.iload_n 1, 1) := by decide +kernel
theorem dX9_starts_31 : decode cX9_starts 31 = .ok (.iastore, 1) := by decide +kernel
theorem dX9_starts_32 : decode cX9_starts 32 = .ok (.aload_n 0, 1) := by decide +kernel
theorem dX9_starts_33 : decode cX9_starts 33 = .ok (.getfield 7, 3) := by decide +kernel
theorem dX9_starts_36 : decode cX9_starts 36 = .ok (.iconst 2, 1) := by decide +kernel
theorem dX9_starts_37 : decode cX9_starts 37 = .ok (.iload_n 2, 1) := by decide +kernel
theorem dX9_starts_38 : decode cX9_starts 38 = .ok (.iastore, 1) := by decide +kernel
theorem dX9_starts_39 : decode cX9_starts 39 = .ok (.aload_n 0, 1) := by decide +kernel
theorem dX9_starts_40 : decode cX9_starts 40 = .ok (.getfield 7, 3) := by decide +kernel
theorem dX9_starts_43 : decode cX9_starts 43 = .ok (.iconst 3, 1) := by decide +kernel
theorem dX9_starts_44 : decode cX9_starts 44 = .ok (.iload_n 3, 1) := by decide +kernel
theorem dX9_starts_45 : decode cX9_starts 45 = .ok (.iastore, 1) := by decide +kernel
theorem dX9_starts_46 : decode cX9_starts 46 = .ok (.aload_n 0, 1) := by decide +kernel
theorem dX9_starts_47 : decode cX9_starts 47 = .ok (.iconst 0, 1) := by decide +kernel
theorem dX9_starts_48 : decode cX9_starts 48 = .ok (.putfield 45, 3) := by decide +kernel
theorem dX9_starts_51 : decode cX9_starts 51 = .ok (.return_, 1) := by decide +kernel
theorem dX9_act_0 : decode cX9_act 0 = .ok (.aload_n 0, 1) := by decide +kernel
theorem dX9_act_1 : decode cX9_act 1 = .ok (.getfield 45, 3) := by decide +kernel
theorem dX9_act_4 : decode cX9_act 4 = .ok (.iconst 5, 1) := by decide +kernel
theorem dX9_act_5 : decode cX9_act 5 = .ok (.if_icmp .ne 44, 3) := by decide +kernel
theorem dX9_act_8 : decode cX9_act 8 = .ok (.iconst 0, 1) := by decide +kernel
theorem dX9_act_9 : decode cX9_act 9 = .ok (.istore_n 1, 1) := by decide +kernel
theorem dX9_act_10 : decode cX9_act 10 = .ok (.iload_n 1, 1) := by decide +kernel
theorem dX9_act_11 : decode cX9_act 11 = .ok (.sipush 9600, 3) := by decide +kernel
theorem dX9_act_14 : decode cX9_act 14 = .ok (.if_icmp .ge 25, 3) := by decide +kernel
theorem dX9_act_17 : decode cX9_act 17 = .ok (.aload_n 0, 1) := by decide +kernel
theorem dX9_act_18 : decode cX9_act 18 = .ok (.getfield 13, 3) := by decide +kernel
theorem dX9_act_21 : decode cX9_act 21 = .ok (.iload_n 1, 1) := by decide +kernel
theorem dX9_act_22 : decode cX9_act 22 = .ok (.aload_n 0, 1) := by decide +kernel
theorem dX9_act_23 : decode cX9_act 23 = .ok (.getfield 13, 3) := by decide +kernel
theorem dX9_act_26 : decode cX9_act 26 = .ok (.iload_n 1, 1) := by decide +kernel
theorem dX9_act_27 : decode cX9_act 27 = .ok (.sipush 2400, 3) := by decide +kernel
theorem dX9_act_30 : decode cX9_act 30 = .ok (.iadd, 1) := by decide +kernel
theorem dX9_act_31 : decode cX9_act 31 = .ok (.iaload, 1) := by decide +kernel
theorem dX9_act_32 : decode cX9_act 32 = .ok (.iastore, 1) := by decide +kernel
theorem dX9_act_33 : decode cX9_act 33 = .ok (.iinc 1 1, 3) := by decide +kernel
theorem dX9_act_36 : decode cX9_act 36 = .ok (.goto (-26), 3) := by decide +kernel
theorem dX9_act_39 : decode cX9_act 39 = .ok (.aload_n 0, 1) := by decide +kernel
theorem dX9_act_40 : decode cX9_act 40 = .ok (.dup, 1) := by decide +kernel
theorem dX9_act_41 : decode cX9_act 41 = .ok (.getfield 45, 3) := by decide +kernel
theorem dX9_act_44 : decode cX9_act 44 = .ok (.iconst 1, 1) := by decide +kernel
theorem dX9_act_45 : decode cX9_act 45 = .ok (.isub, 1) := by decide +kernel
theorem dX9_act_46 : decode cX9_act 46 = .ok (.putfield 45, 3) := by decide +kernel
theorem dX9_act_49 : decode cX9_act 49 = .ok (.iconst 0, 1) := by decide +kernel
theorem dX9_act_50 : decode cX9_act 50 = .ok (.istore_n 1, 1) := by decide +kernel
theorem dX9_act_51 : decode cX9_act 51 = .ok (.iload_n 1, 1) := by decide +kernel
theorem dX9_act_52 : decode cX9_act 52 = .ok (.sipush 2400, 3) := by decide +kernel
theorem dX9_act_55 : decode cX9_act 55 = .ok (.if_icmp .ge 30, 3) := by decide +kernel
theorem dX9_act_58 : decode cX9_act 58 = .ok (.aload_n 0, 1) := by decide +kernel
theorem dX9_act_59 : decode cX9_act 59 = .ok (.getfield 13, 3) := by decide +kernel
theorem dX9_act_62 : decode cX9_act 62 = .ok (.sipush 2400, 3) := by decide +kernel
theorem dX9_act_65 : decode cX9_act 65 = .ok (.aload_n 0, 1) := by decide +kernel
theorem dX9_act_66 : decode cX9_act 66 = .ok (.getfield 45, 3) := by decide +kernel
theorem dX9_act_69 : decode cX9_act 69 = .ok (.imul, 1) := by decide +kernel
theorem dX9_act_70 : decode cX9_act 70 = .ok (.iload_n 1, 1) := by decide +kernel
theorem dX9_act_71 : decode cX9_act 71 = .ok (.iadd, 1) := by decide +kernel
theorem dX9_act_72 : decode cX9_act 72 = .ok (.aload_n 0, 1) := by decide +kernel
theorem dX9_act_73 : decode cX9_act 73 = .ok (.getfield 7, 3) := by decide +kernel
theorem dX9_act_76 : decode cX9_act 76 = .ok (.iload_n 1, 1) := by decide +kernel
theorem dX9_act_77 : decode cX9_act 77 = .ok (.iaload, 1) := by decide +kernel
theorem dX9_act_78 : decode cX9_act 78 = .ok (.iastore, 1) := by decide +kernel
theorem dX9_act_79 : decode cX9_act 79 = .ok (.iinc 1 1, 3) := by decide +kernel
theorem dX9_act_82 : decode cX9_act 82 = .ok (.goto (-31), 3) := by decide +kernel
theorem dX9_act_85 : decode cX9_act 85 = .ok (.aload_n 0, 1) := by decide +kernel
theorem dX9_act_86 : decode cX9_act 86 = .ok (.dup, 1) := by decide +kernel
theorem dX9_act_87 : decode cX9_act 87 = .ok (.getfield 45, 3) := by decide +kernel
theorem dX9_act_90 : decode cX9_act 90 = .ok (.iconst 1, 1) := by decide +kernel
theorem dX9_act_91 : decode cX9_act 91 = .ok (.iadd, 1) := by decide +kernel
theorem dX9_act_92 : decode cX9_act 92 = .ok (.putfield 45, 3) := by decide +kernel
theorem dX9_act_95 : decode cX9_act 95 = .ok (.return_, 1) := by decide +kernel
theorem dX9_isSite_0 : decode cX9_isSite 0 = .ok (.iload_n 1, 1) := by decide +kernel
theorem dX9_isSite_1 : decode cX9_isSite 1 = .ok (.iconst 0, 1) := by decide +kernel
theorem dX9_isSite_2 : decode cX9_isSite 2 = .ok (.aload_n 0, 1) := by decide +kernel
theorem dX9_isSite_3 : decode cX9_isSite 3 = .ok (.getfield 34, 3) := by decide +kernel
theorem dX9_isSite_6 : decode cX9_isSite 6 = .ok (.iconst 1, 1) := by decide +kernel
theorem dX9_isSite_7 : decode cX9_isSite 7 = .ok (.isub, 1) := by decide +kernel
theorem dX9_isSite_8 : decode cX9_isSite 8 = .ok (.invokestatic 48, 3) := by decide +kernel
theorem dX9_isSite_11 : decode cX9_isSite 11 = .ok (.ireturn, 1) := by decide +kernel
theorem dX9_record_0 : decode cX9_record 0 = .ok (.bipush 60, 2) := by decide +kernel
theorem dX9_record_2 : decode cX9_record 2 = .ok (.bipush 30, 2) := by decide +kernel
theorem dX9_record_4 : decode cX9_record 4 = .ok (.iconst 5, 1) := by decide +kernel
theorem dX9_record_5 : decode cX9_record 5 = .ok (.iload_n 0, 1) := by decide +kernel
theorem dX9_record_6 : decode cX9_record 6 = .ok (.imul, 1) := by decide +kernel
theorem dX9_record_7 : decode cX9_record 7 = .ok (.iload_n 1, 1) := by decide +kernel
theorem dX9_record_8 : decode cX9_record 8 = .ok (.iadd, 1) := by decide +kernel
theorem dX9_record_9 : decode cX9_record 9 = .ok (.imul, 1) := by decide +kernel
theorem dX9_record_10 : decode cX9_record 10 = .ok (.iadd, 1) := by decide +kernel
theorem dX9_record_11 : decode cX9_record 11 = .ok (.ireturn, 1) := by decide +kernel
theorem dX9_mineAt_0 : decode cX9_mineAt 0 = .ok (.iload_n 1, 1) := by decide +kernel
theorem dX9_mineAt_1 : decode cX9_mineAt 1 = .ok (.iload_n 1, 1) := by decide +kernel
theorem dX9_mineAt_2 : decode cX9_mineAt 2 = .ok (.invokestatic 52, 3) := by decide +kernel
theorem dX9_mineAt_5 : decode cX9_mineAt 5 = .ok (.ireturn, 1) := by decide +kernel
theorem dX9_changed_0 : decode cX9_changed 0 = .ok (.aload_n 0, 1) := by decide +kernel
theorem dX9_changed_1 : decode cX9_changed 1 = .ok (.getfield 7, 3) := by decide +kernel
theorem dX9_changed_4 : decode cX9_changed 4 = .ok (.aload_n 0, 1) := by decide +kernel
theorem dX9_changed_5 : decode cX9_changed 5 = .ok (.iload_n 1, 1) := by decide +kernel
theorem dX9_changed_6 : decode cX9_changed 6 = .ok (.invokevirtual 56, 3) := by decide +kernel
theorem dX9_changed_9 : decode cX9_changed 9 = .ok (.iconst 0, 1) := by decide +kernel
theorem dX9_changed_10 : decode cX9_changed 10 = .ok (.iadd, 1) := by decide +kernel
theorem dX9_changed_11 : decode cX9_changed 11 = .ok (.dup2, 1) := by decide +kernel
theorem dX9_changed_12 : decode cX9_changed 12 = .ok (.iaload, 1) := by decide +kernel
theorem dX9_changed_13 : decode cX9_changed 13 = .ok (.iconst 1, 1) := by decide +kernel
theorem dX9_changed_14 : decode cX9_changed 14 = .ok (.iadd, 1) := by decide +kernel
theorem dX9_changed_15 : decode cX9_changed 15 = .ok (.iastore, 1) := by decide +kernel
theorem dX9_changed_16 : decode cX9_changed 16 = .ok (.return_, 1) := by decide +kernel
theorem dX9_loanAt_0 : decode cX9_loanAt 0 = .ok (.bipush 10, 2) := by decide +kernel
theorem dX9_loanAt_2 : decode cX9_loanAt 2 = .ok (.iconst 5, 1) := by decide +kernel
theorem dX9_loanAt_3 : decode cX9_loanAt 3 = .ok (.iload_n 0, 1) := by decide +kernel
theorem dX9_loanAt_4 : decode cX9_loanAt 4 = .ok (.imul, 1) := by decide +kernel
theorem dX9_loanAt_5 : decode cX9_loanAt 5 = .ok (.iadd, 1) := by decide +kernel
theorem dX9_loanAt_6 : decode cX9_loanAt 6 = .ok (.ireturn, 1) := by decide +kernel
theorem dX9_timeOf_0 : decode cX9_timeOf 0 = .ok (.iload_n 1, 1) := by decide +kernel
theorem dX9_timeOf_1 : decode cX9_timeOf 1 = .ok (.iload_n 2, 1) := by decide +kernel
theorem dX9_timeOf_2 : decode cX9_timeOf 2 = .ok (.if_icmp .ne 12, 3) := by decide +kernel
theorem dX9_timeOf_5 : decode cX9_timeOf 5 = .ok (.aload_n 0, 1) := by decide +kernel
theorem dX9_timeOf_6 : decode cX9_timeOf 6 = .ok (.getfield 7, 3) := by decide +kernel
theorem dX9_timeOf_9 : decode cX9_timeOf 9 = .ok (.iconst 0, 1) := by decide +kernel
theorem dX9_timeOf_10 : decode cX9_timeOf 10 = .ok (.iaload, 1) := by decide +kernel
theorem dX9_timeOf_11 : decode cX9_timeOf 11 = .ok (.goto 15, 3) := by decide +kernel
theorem dX9_timeOf_14 : decode cX9_timeOf 14 = .ok (.aload_n 0, 1) := by decide +kernel
theorem dX9_timeOf_15 : decode cX9_timeOf 15 = .ok (.getfield 7, 3) := by decide +kernel
theorem dX9_timeOf_18 : decode cX9_timeOf 18 = .ok (.iload_n 1, 1) := by decide +kernel
theorem dX9_timeOf_19 : decode cX9_timeOf 19 = .ok (.iload_n 2, 1) := by decide +kernel
theorem dX9_timeOf_20 : decode cX9_timeOf 20 = .ok (.invokestatic 52, 3) := by decide +kernel
theorem dX9_timeOf_23 : decode cX9_timeOf 23 = .ok (.iconst 1, 1) := by decide +kernel
theorem dX9_timeOf_24 : decode cX9_timeOf 24 = .ok (.iadd, 1) := by decide +kernel
theorem dX9_timeOf_25 : decode cX9_timeOf 25 = .ok (.iaload, 1) := by decide +kernel
theorem dX9_timeOf_26 : decode cX9_timeOf 26 = .ok (.ireturn, 1) := by decide +kernel
theorem dX9_isBack_0 : decode cX9_isBack 0 = .ok (.iload_n 1, 1) := by decide +kernel
theorem dX9_isBack_1 : decode cX9_isBack 1 = .ok (.invokestatic 60, 3) := by decide +kernel
theorem dX9_isBack_4 : decode cX9_isBack 4 = .ok (.istore_n 2, 1) := by decide +kernel
theorem dX9_isBack_5 : decode cX9_isBack 5 = .ok (.aload_n 0, 1) := by decide +kernel
theorem dX9_isBack_6 : decode cX9_isBack 6 = .ok (.getfield 7, 3) := by decide +kernel
theorem dX9_isBack_9 : decode cX9_isBack 9 = .ok (.iconst 0, 1) := by decide +kernel
theorem dX9_isBack_10 : decode cX9_isBack 10 = .ok (.iaload, 1) := by decide +kernel
theorem dX9_isBack_11 : decode cX9_isBack 11 = .ok (.aload_n 0, 1) := by decide +kernel
theorem dX9_isBack_12 : decode cX9_isBack 12 = .ok (.getfield 7, 3) := by decide +kernel
theorem dX9_isBack_15 : decode cX9_isBack 15 = .ok (.iload_n 2, 1) := by decide +kernel
theorem dX9_isBack_16 : decode cX9_isBack 16 = .ok (.iconst 4, 1) := by decide +kernel
theorem dX9_isBack_17 : decode cX9_isBack 17 = .ok (.iadd, 1) := by decide +kernel
theorem dX9_isBack_18 : decode cX9_isBack 18 = .ok (.iaload, 1) := by decide +kernel
theorem dX9_isBack_19 : decode cX9_isBack 19 = .ok (.if_icmp .lt 36, 3) := by decide +kernel
theorem dX9_isBack_22 : decode cX9_isBack 22 = .ok (.aload_n 0, 1) := by decide +kernel
theorem dX9_isBack_23 : decode cX9_isBack 23 = .ok (.aload_n 0, 1) := by decide +kernel
theorem dX9_isBack_24 : decode cX9_isBack 24 = .ok (.getfield 7, 3) := by decide +kernel
theorem dX9_isBack_27 : decode cX9_isBack 27 = .ok (.iload_n 2, 1) := by decide +kernel
theorem dX9_isBack_28 : decode cX9_isBack 28 = .ok (.iaload, 1) := by decide +kernel
theorem dX9_isBack_29 : decode cX9_isBack 29 = .ok (.aload_n 0, 1) := by decide +kernel
theorem dX9_isBack_30 : decode cX9_isBack 30 = .ok (.getfield 7, 3) := by decide +kernel
theorem dX9_isBack_33 : decode cX9_isBack 33 = .ok (.iload_n 2, 1) := by decide +kernel
theorem dX9_isBack_34 : decode cX9_isBack 34 = .ok (.iconst 1, 1) := by decide +kernel
theorem dX9_isBack_35 : decode cX9_isBack 35 = .ok (.iadd, 1) := by decide +kernel
theorem dX9_isBack_36 : decode cX9_isBack 36 = .ok (.iaload, 1) := by decide +kernel
theorem dX9_isBack_37 : decode cX9_isBack 37 = .ok (.invokevirtual 63, 3) := by decide +kernel
theorem dX9_isBack_40 : decode cX9_isBack 40 = .ok (.aload_n 0, 1) := by decide +kernel
theorem dX9_isBack_41 : decode cX9_isBack 41 = .ok (.getfield 7, 3) := by decide +kernel
theorem dX9_isBack_44 : decode cX9_isBack 44 = .ok (.iload_n 2, 1) := by decide +kernel
theorem dX9_isBack_45 : decode cX9_isBack 45 = .ok (.iconst 4, 1) := by decide +kernel
theorem dX9_isBack_46 : decode cX9_isBack 46 = .ok (.iadd, 1) := by decide +kernel
theorem dX9_isBack_47 : decode cX9_isBack 47 = .ok (.iaload, 1) := by decide +kernel
theorem dX9_isBack_48 : decode cX9_isBack 48 = .ok (.if_icmp .lt 7, 3) := by decide +kernel
theorem dX9_isBack_51 : decode cX9_isBack 51 = .ok (.iconst 1, 1) := by decide +kernel
theorem dX9_isBack_52 : decode cX9_isBack 52 = .ok (.goto 4, 3) := by decide +kernel
theorem dX9_isBack_55 : decode cX9_isBack 55 = .ok (.iconst 0, 1) := by decide +kernel
theorem dX9_isBack_56 : decode cX9_isBack 56 = .ok (.ireturn, 1) := by decide +kernel
theorem dX9_usedOf_0 : decode cX9_usedOf 0 = .ok (.aload_n 0, 1) := by decide +kernel
theorem dX9_usedOf_1 : decode cX9_usedOf 1 = .ok (.getfield 7, 3) := by decide +kernel
theorem dX9_usedOf_4 : decode cX9_usedOf 4 = .ok (.iload_n 1, 1) := by decide +kernel
theorem dX9_usedOf_5 : decode cX9_usedOf 5 = .ok (.aload_n 0, 1) := by decide +kernel
theorem dX9_usedOf_6 : decode cX9_usedOf 6 = .ok (.getfield 7, 3) := by decide +kernel
theorem dX9_usedOf_9 : decode cX9_usedOf 9 = .ok (.iload_n 2, 1) := by decide +kernel
theorem dX9_usedOf_10 : decode cX9_usedOf 10 = .ok (.invokestatic 60, 3) := by decide +kernel
theorem dX9_usedOf_13 : decode cX9_usedOf 13 = .ok (.iconst 1, 1) := by decide +kernel
theorem dX9_usedOf_14 : decode cX9_usedOf 14 = .ok (.iadd, 1) := by decide +kernel
theorem dX9_usedOf_15 : decode cX9_usedOf 15 = .ok (.iaload, 1) := by decide +kernel
theorem dX9_usedOf_16 : decode cX9_usedOf 16 = .ok (.invokestatic 52, 3) := by decide +kernel
theorem dX9_usedOf_19 : decode cX9_usedOf 19 = .ok (.bipush 17, 2) := by decide +kernel
theorem dX9_usedOf_21 : decode cX9_usedOf 21 = .ok (.iadd, 1) := by decide +kernel
theorem dX9_usedOf_22 : decode cX9_usedOf 22 = .ok (.iload_n 2, 1) := by decide +kernel
theorem dX9_usedOf_23 : decode cX9_usedOf 23 = .ok (.iadd, 1) := by decide +kernel
theorem dX9_usedOf_24 : decode cX9_usedOf 24 = .ok (.iaload, 1) := by decide +kernel
theorem dX9_usedOf_25 : decode cX9_usedOf 25 = .ok (.ireturn, 1) := by decide +kernel
theorem dX9_isKnown_0 : decode cX9_isKnown 0 = .ok (.iload_n 1, 1) := by decide +kernel
theorem dX9_isKnown_1 : decode cX9_isKnown 1 = .ok (.invokestatic 60, 3) := by decide +kernel
theorem dX9_isKnown_4 : decode cX9_isKnown 4 = .ok (.istore_n 2, 1) := by decide +kernel
theorem dX9_isKnown_5 : decode cX9_isKnown 5 = .ok (.aload_n 0, 1) := by decide +kernel
theorem dX9_isKnown_6 : decode cX9_isKnown 6 = .ok (.getfield 7, 3) := by decide +kernel
theorem dX9_isKnown_9 : decode cX9_isKnown 9 = .ok (.aload_n 0, 1) := by decide +kernel
theorem dX9_isKnown_10 : decode cX9_isKnown 10 = .ok (.getfield 7, 3) := by decide +kernel
theorem dX9_isKnown_13 : decode cX9_isKnown 13 = .ok (.iload_n 2, 1) := by decide +kernel
theorem dX9_isKnown_14 : decode cX9_isKnown 14 = .ok (.iconst 1, 1) := by decide +kernel
theorem dX9_isKnown_15 : decode cX9_isKnown 15 = .ok (.iadd, 1) := by decide +kernel
theorem dX9_isKnown_16 : decode cX9_isKnown 16 = .ok (.iaload, 1) := by decide +kernel
theorem dX9_isKnown_17 : decode cX9_isKnown 17 = .ok (.aload_n 0, 1) := by decide +kernel
theorem dX9_isKnown_18 : decode cX9_isKnown 18 = .ok (.getfield 7, 3) := by decide +kernel
theorem dX9_isKnown_21 : decode cX9_isKnown 21 = .ok (.iload_n 2, 1) := by decide +kernel
theorem dX9_isKnown_22 : decode cX9_isKnown 22 = .ok (.iaload, 1) := by decide +kernel
theorem dX9_isKnown_23 : decode cX9_isKnown 23 = .ok (.invokestatic 52, 3) := by decide +kernel
theorem dX9_isKnown_26 : decode cX9_isKnown 26 = .ok (.bipush 16, 2) := by decide +kernel
theorem dX9_isKnown_28 : decode cX9_isKnown 28 = .ok (.iadd, 1) := by decide +kernel
theorem dX9_isKnown_29 : decode cX9_isKnown 29 = .ok (.iaload, 1) := by decide +kernel
theorem dX9_isKnown_30 : decode cX9_isKnown 30 = .ok (.iload_n 1, 1) := by decide +kernel
theorem dX9_isKnown_31 : decode cX9_isKnown 31 = .ok (.ishr, 1) := by decide +kernel
theorem dX9_isKnown_32 : decode cX9_isKnown 32 = .ok (.iconst 1, 1) := by decide +kernel
theorem dX9_isKnown_33 : decode cX9_isKnown 33 = .ok (.iand, 1) := by decide +kernel
theorem dX9_isKnown_34 : decode cX9_isKnown 34 = .ok (.iconst 1, 1) := by decide +kernel
theorem dX9_isKnown_35 : decode cX9_isKnown 35 = .ok (.if_icmp .ne 7, 3) := by decide +kernel
theorem dX9_isKnown_38 : decode cX9_isKnown 38 = .ok (.iconst 1, 1) := by decide +kernel
theorem dX9_isKnown_39 : decode cX9_isKnown 39 = .ok (.goto 4, 3) := by decide +kernel
theorem dX9_isKnown_42 : decode cX9_isKnown 42 = .ok (.iconst 0, 1) := by decide +kernel
theorem dX9_isKnown_43 : decode cX9_isKnown 43 = .ok (.ireturn, 1) := by decide +kernel
theorem dX9_restOf_0 : decode cX9_restOf 0 = .ok (.iload_n 1, 1) := by decide +kernel
theorem dX9_restOf_1 : decode cX9_restOf 1 = .ok (.invokestatic 60, 3) := by decide +kernel
theorem dX9_restOf_4 : decode cX9_restOf 4 = .ok (.istore_n 2, 1) := by decide +kernel
theorem dX9_restOf_5 : decode cX9_restOf 5 = .ok (.aload_n 0, 1) := by decide +kernel
theorem dX9_restOf_6 : decode cX9_restOf 6 = .ok (.iload_n 1, 1) := by decide +kernel
theorem dX9_restOf_7 : decode cX9_restOf 7 = .ok (.invokevirtual 66, 3) := by decide +kernel
theorem dX9_restOf_10 : decode cX9_restOf 10 = .ok (.ifCond .eq 45, 3) := by decide +kernel
theorem dX9_restOf_13 : decode cX9_restOf 13 = .ok (.aload_n 0, 1) := by decide +kernel
theorem dX9_restOf_14 : decode cX9_restOf 14 = .ok (.getfield 7, 3) := by decide +kernel
theorem dX9_restOf_17 : decode cX9_restOf 17 = .ok (.iconst 0, 1) := by decide +kernel
theorem dX9_restOf_18 : decode cX9_restOf 18 = .ok (.iaload, 1) := by decide +kernel
theorem dX9_restOf_19 : decode cX9_restOf 19 = .ok (.aload_n 0, 1) := by decide +kernel
theorem dX9_restOf_20 : decode cX9_restOf 20 = .ok (.getfield 7, 3) := by decide +kernel
theorem dX9_restOf_23 : decode cX9_restOf 23 = .ok (.iload_n 2, 1) := by decide +kernel
theorem dX9_restOf_24 : decode cX9_restOf 24 = .ok (.iconst 4, 1) := by decide +kernel
theorem dX9_restOf_25 : decode cX9_restOf 25 = .ok (.iadd, 1) := by decide +kernel
theorem dX9_restOf_26 : decode cX9_restOf 26 = .ok (.iaload, 1) := by decide +kernel
theorem dX9_restOf_27 : decode cX9_restOf 27 = .ok (.if_icmp .ge 28, 3) := by decide +kernel
theorem dX9_restOf_30 : decode cX9_restOf 30 = .ok (.aload_n 0, 1) := by decide +kernel
theorem dX9_restOf_31 : decode cX9_restOf 31 = .ok (.getfield 7, 3) := by decide +kernel
theorem dX9_restOf_34 : decode cX9_restOf 34 = .ok (.iload_n 2, 1) := by decide +kernel
theorem dX9_restOf_35 : decode cX9_restOf 35 = .ok (.iconst 3, 1) := by decide +kernel
theorem dX9_restOf_36 : decode cX9_restOf 36 = .ok (.iadd, 1) := by decide +kernel
theorem dX9_restOf_37 : decode cX9_restOf 37 = .ok (.iaload, 1) := by decide +kernel
theorem dX9_restOf_38 : decode cX9_restOf 38 = .ok (.aload_n 0, 1) := by decide +kernel
theorem dX9_restOf_39 : decode cX9_restOf 39 = .ok (.aload_n 0, 1) := by decide +kernel
theorem dX9_restOf_40 : decode cX9_restOf 40 = .ok (.getfield 7, 3) := by decide +kernel
theorem dX9_restOf_43 : decode cX9_restOf 43 = .ok (.iload_n 2, 1) := by decide +kernel
theorem dX9_restOf_44 : decode cX9_restOf 44 = .ok (.iconst 1, 1) := by decide +kernel
theorem dX9_restOf_45 : decode cX9_restOf 45 = .ok (.iadd, 1) := by decide +kernel
theorem dX9_restOf_46 : decode cX9_restOf 46 = .ok (.iaload, 1) := by decide +kernel
theorem dX9_restOf_47 : decode cX9_restOf 47 = .ok (.iload_n 1, 1) := by decide +kernel
theorem dX9_restOf_48 : decode cX9_restOf 48 = .ok (.invokevirtual 70, 3) := by decide +kernel
theorem dX9_restOf_51 : decode cX9_restOf 51 = .ok (.isub, 1) := by decide +kernel
theorem dX9_restOf_52 : decode cX9_restOf 52 = .ok (.goto 4, 3) := by decide +kernel
theorem dX9_restOf_55 : decode cX9_restOf 55 = .ok (.iconst 0, 1) := by decide +kernel
theorem dX9_restOf_56 : decode cX9_restOf 56 = .ok (.ireturn, 1) := by decide +kernel
theorem dX9_ownRights_0 : decode cX9_ownRights 0 = .ok (.aload_n 0, 1) := by decide +kernel
theorem dX9_ownRights_1 : decode cX9_ownRights 1 = .ok (.iload_n 1, 1) := by decide +kernel
theorem dX9_ownRights_2 : decode cX9_ownRights 2 = .ok (.invokevirtual 56, 3) := by decide +kernel
theorem dX9_ownRights_5 : decode cX9_ownRights 5 = .ok (.istore_n 3, 1) := by decide +kernel
theorem dX9_ownRights_6 : decode cX9_ownRights 6 = .ok (.aload_n 0, 1) := by decide +kernel
theorem dX9_ownRights_7 : decode cX9_ownRights 7 = .ok (.getfield 7, 3) := by decide +kernel
theorem dX9_ownRights_10 : decode cX9_ownRights 10 = .ok (.iload_n 3, 1) := by decide +kernel
theorem dX9_ownRights_11 : decode cX9_ownRights 11 = .ok (.iconst 3, 1) := by decide +kernel
theorem dX9_ownRights_12 : decode cX9_ownRights 12 = .ok (.iadd, 1) := by decide +kernel
theorem dX9_ownRights_13 : decode cX9_ownRights 13 = .ok (.iaload, 1) := by decide +kernel
theorem dX9_ownRights_14 : decode cX9_ownRights 14 = .ok (.aload_n 0, 1) := by decide +kernel
theorem dX9_ownRights_15 : decode cX9_ownRights 15 = .ok (.getfield 7, 3) := by decide +kernel
theorem dX9_ownRights_18 : decode cX9_ownRights 18 = .ok (.iload_n 3, 1) := by decide +kernel
theorem dX9_ownRights_19 : decode cX9_ownRights 19 = .ok (.iconst 2, 1) := by decide +kernel
theorem dX9_ownRights_20 : decode cX9_ownRights 20 = .ok (.iadd, 1) := by decide +kernel
theorem dX9_ownRights_21 : decode cX9_ownRights 21 = .ok (.iaload, 1) := by decide +kernel
theorem dX9_ownRights_22 : decode cX9_ownRights 22 = .ok (.isub, 1) := by decide +kernel
theorem dX9_ownRights_23 : decode cX9_ownRights 23 = .ok (.istore 4, 2) := by decide +kernel
theorem dX9_ownRights_25 : decode cX9_ownRights 25 = .ok (.iload_n 2, 1) := by decide +kernel
theorem dX9_ownRights_26 : decode cX9_ownRights 26 = .ok (.ifCond .ne 8, 3) := by decide +kernel
theorem dX9_ownRights_29 : decode cX9_ownRights 29 = .ok (.iload 4, 2) := by decide +kernel
theorem dX9_ownRights_31 : decode cX9_ownRights 31 = .ok (.goto 6, 3) := by decide +kernel
theorem dX9_ownRights_34 : decode cX9_ownRights 34 = .ok (.iload 4, 2) := by decide +kernel
theorem dX9_ownRights_36 : decode cX9_ownRights 36 = .ok (.ineg, 1) := by decide +kernel
theorem dX9_ownRights_37 : decode cX9_ownRights 37 = .ok (.istore 5, 2) := by decide +kernel
theorem dX9_ownRights_39 : decode cX9_ownRights 39 = .ok (.iload_n 1, 1) := by decide +kernel
theorem dX9_ownRights_40 : decode cX9_ownRights 40 = .ok (.ifCond .ne 41, 3) := by decide +kernel
theorem dX9_ownRights_43 : decode cX9_ownRights 43 = .ok (.iload 5, 2) := by decide +kernel
theorem dX9_ownRights_45 : decode cX9_ownRights 45 = .ok (.iload_n 2, 1) := by decide +kernel
theorem dX9_ownRights_46 : decode cX9_ownRights 46 = .ok (.ifCond .ne 19, 3) := by decide +kernel
theorem dX9_ownRights_49 : decode cX9_ownRights 49 = .ok (.aload_n 0, 1) := by decide +kernel
theorem dX9_ownRights_50 : decode cX9_ownRights 50 = .ok (.getfield 7, 3) := by decide +kernel
theorem dX9_ownRights_53 : decode cX9_ownRights 53 = .ok (.iconst 2, 1) := by decide +kernel
theorem dX9_ownRights_54 : decode cX9_ownRights 54 = .ok (.iaload, 1) := by decide +kernel
theorem dX9_ownRights_55 : decode cX9_ownRights 55 = .ok (.aload_n 0, 1) := by decide +kernel
theorem dX9_ownRights_56 : decode cX9_ownRights 56 = .ok (.getfield 7, 3) := by decide +kernel
theorem dX9_ownRights_59 : decode cX9_ownRights 59 = .ok (.iconst 3, 1) := by decide +kernel
theorem dX9_ownRights_60 : decode cX9_ownRights 60 = .ok (.iaload, 1) := by decide +kernel
theorem dX9_ownRights_61 : decode cX9_ownRights 61 = .ok (.isub, 1) := by decide +kernel
theorem dX9_ownRights_62 : decode cX9_ownRights 62 = .ok (.goto 16, 3) := by decide +kernel
theorem dX9_ownRights_65 : decode cX9_ownRights 65 = .ok (.aload_n 0, 1) := by decide +kernel
theorem dX9_ownRights_66 : decode cX9_ownRights 66 = .ok (.getfield 7, 3) := by decide +kernel
theorem dX9_ownRights_69 : decode cX9_ownRights 69 = .ok (.iconst 3, 1) := by decide +kernel
theorem dX9_ownRights_70 : decode cX9_ownRights 70 = .ok (.iaload, 1) := by decide +kernel
theorem dX9_ownRights_71 : decode cX9_ownRights 71 = .ok (.aload_n 0, 1) := by decide +kernel
theorem dX9_ownRights_72 : decode cX9_ownRights 72 = .ok (.getfield 7, 3) := by decide +kernel
theorem dX9_ownRights_75 : decode cX9_ownRights 75 = .ok (.iconst 1, 1) := by decide +kernel
theorem dX9_ownRights_76 : decode cX9_ownRights 76 = .ok (.iaload, 1) := by decide +kernel
theorem dX9_ownRights_77 : decode cX9_ownRights 77 = .ok (.isub, 1) := by decide +kernel
theorem dX9_ownRights_78 : decode cX9_ownRights 78 = .ok (.iadd, 1) := by decide +kernel
theorem dX9_ownRights_79 : decode cX9_ownRights 79 = .ok (.istore 5, 2) := by decide +kernel
theorem dX9_ownRights_81 : decode cX9_ownRights 81 = .ok (.iconst 0, 1) := by decide +kernel
theorem dX9_ownRights_82 : decode cX9_ownRights 82 = .ok (.istore 6, 2) := by decide +kernel
theorem dX9_ownRights_84 : decode cX9_ownRights 84 = .ok (.iload 6, 2) := by decide +kernel
theorem dX9_ownRights_86 : decode cX9_ownRights 86 = .ok (.aload_n 0, 1) := by decide +kernel
theorem dX9_ownRights_87 : decode cX9_ownRights 87 = .ok (.getfield 34, 3) := by decide +kernel
theorem dX9_ownRights_90 : decode cX9_ownRights 90 = .ok (.if_icmp .ge 55, 3) := by decide +kernel
theorem dX9_ownRights_93 : decode cX9_ownRights 93 = .ok (.iload 6, 2) := by decide +kernel
theorem dX9_ownRights_95 : decode cX9_ownRights 95 = .ok (.iload_n 1, 1) := by decide +kernel
theorem dX9_ownRights_96 : decode cX9_ownRights 96 = .ok (.if_icmp .eq 43, 3) := by decide +kernel
theorem dX9_ownRights_99 : decode cX9_ownRights 99 = .ok (.iload 5, 2) := by decide +kernel
theorem dX9_ownRights_101 : decode cX9_ownRights 101 = .ok (.aload_n 0, 1) := by decide +kernel
theorem dX9_ownRights_102 : decode cX9_ownRights 102 = .ok (.getfield 7, 3) := by decide +kernel
theorem dX9_ownRights_105 : decode cX9_ownRights 105 = .ok (.iload_n 1, 1) := by decide +kernel
theorem dX9_ownRights_106 : decode cX9_ownRights 106 = .ok (.iload 6, 2) := by decide +kernel
theorem dX9_ownRights_108 : decode cX9_ownRights 108 = .ok (.invokestatic 52, 3) := by decide +kernel
theorem dX9_ownRights_111 : decode cX9_ownRights 111 = .ok (.iconst 4, 1) := by decide +kernel
theorem dX9_ownRights_112 : decode cX9_ownRights 112 = .ok (.iadd, 1) := by decide +kernel
theorem dX9_ownRights_113 : decode cX9_ownRights 113 = .ok (.iconst 5, 1) := by decide +kernel
theorem dX9_ownRights_114 : decode cX9_ownRights 114 = .ok (.iload_n 2, 1) := by decide +kernel
theorem dX9_ownRights_115 : decode cX9_ownRights 115 = .ok (.imul, 1) := by decide +kernel
theorem dX9_ownRights_116 : decode cX9_ownRights 116 = .ok (.iadd, 1) := by decide +kernel
theorem dX9_ownRights_117 : decode cX9_ownRights 117 = .ok (.iload_n 1, 1) := by decide +kernel
theorem dX9_ownRights_118 : decode cX9_ownRights 118 = .ok (.iadd, 1) := by decide +kernel
theorem dX9_ownRights_119 : decode cX9_ownRights 119 = .ok (.iaload, 1) := by decide +kernel
theorem dX9_ownRights_120 : decode cX9_ownRights 120 = .ok (.aload_n 0, 1) := by decide +kernel
theorem dX9_ownRights_121 : decode cX9_ownRights 121 = .ok (.getfield 7, 3) := by decide +kernel
theorem dX9_ownRights_124 : decode cX9_ownRights 124 = .ok (.iload_n 3, 1) := by decide +kernel
theorem dX9_ownRights_125 : decode cX9_ownRights 125 = .ok (.iconst 4, 1) := by decide +kernel
theorem dX9_ownRights_126 : decode cX9_ownRights 126 = .ok (.iadd, 1) := by decide +kernel
theorem dX9_ownRights_127 : decode cX9_ownRights 127 = .ok (.iconst 5, 1) := by decide +kernel
theorem dX9_ownRights_128 : decode cX9_ownRights 128 = .ok (.iload_n 2, 1) := by decide +kernel
theorem dX9_ownRights_129 : decode cX9_ownRights 129 = .ok (.imul, 1) := by decide +kernel
theorem dX9_ownRights_130 : decode cX9_ownRights 130 = .ok (.iadd, 1) := by decide +kernel
theorem dX9_ownRights_131 : decode cX9_ownRights 131 = .ok (.iload 6, 2) := by decide +kernel
theorem dX9_ownRights_133 : decode cX9_ownRights 133 = .ok (.iadd, 1) := by decide +kernel
theorem dX9_ownRights_134 : decode cX9_ownRights 134 = .ok (.iaload, 1) := by decide +kernel
theorem dX9_ownRights_135 : decode cX9_ownRights 135 = .ok (.isub, 1) := by decide +kernel
theorem dX9_ownRights_136 : decode cX9_ownRights 136 = .ok (.iadd, 1) := by decide +kernel
theorem dX9_ownRights_137 : decode cX9_ownRights 137 = .ok (.istore 5, 2) := by decide +kernel
theorem dX9_ownRights_139 : decode cX9_ownRights 139 = .ok (.iinc 6 1, 3) := by decide +kernel
theorem dX9_ownRights_142 : decode cX9_ownRights 142 = .ok (.goto (-58), 3) := by decide +kernel
theorem dX9_ownRights_145 : decode cX9_ownRights 145 = .ok (.iconst 0, 1) := by decide +kernel
theorem dX9_ownRights_146 : decode cX9_ownRights 146 = .ok (.istore 6, 2) := by decide +kernel
theorem dX9_ownRights_148 : decode cX9_ownRights 148 = .ok (.iload 6, 2) := by decide +kernel
theorem dX9_ownRights_150 : decode cX9_ownRights 150 = .ok (.aload_n 0, 1) := by decide +kernel
theorem dX9_ownRights_151 : decode cX9_ownRights 151 = .ok (.getfield 7, 3) := by decide +kernel
theorem dX9_ownRights_154 : decode cX9_ownRights 154 = .ok (.iconst 4, 1) := by decide +kernel
theorem dX9_ownRights_155 : decode cX9_ownRights 155 = .ok (.iaload, 1) := by decide +kernel
theorem dX9_ownRights_156 : decode cX9_ownRights 156 = .ok (.if_icmp .ge 111, 3) := by decide +kernel
theorem dX9_ownRights_159 : decode cX9_ownRights 159 = .ok (.iload 6, 2) := by decide +kernel
theorem dX9_ownRights_161 : decode cX9_ownRights 161 = .ok (.invokestatic 60, 3) := by decide +kernel
theorem dX9_ownRights_164 : decode cX9_ownRights 164 = .ok (.istore 7, 2) := by decide +kernel
theorem dX9_ownRights_166 : decode cX9_ownRights 166 = .ok (.aload_n 0, 1) := by decide +kernel
theorem dX9_ownRights_167 : decode cX9_ownRights 167 = .ok (.getfield 7, 3) := by decide +kernel
theorem dX9_ownRights_170 : decode cX9_ownRights 170 = .ok (.iload 7, 2) := by decide +kernel
theorem dX9_ownRights_172 : decode cX9_ownRights 172 = .ok (.iconst 2, 1) := by decide +kernel
theorem dX9_ownRights_173 : decode cX9_ownRights 173 = .ok (.iadd, 1) := by decide +kernel
theorem dX9_ownRights_174 : decode cX9_ownRights 174 = .ok (.iaload, 1) := by decide +kernel
theorem dX9_ownRights_175 : decode cX9_ownRights 175 = .ok (.iload_n 2, 1) := by decide +kernel
theorem dX9_ownRights_176 : decode cX9_ownRights 176 = .ok (.if_icmp .ne 85, 3) := by decide +kernel
theorem dX9_ownRights_179 : decode cX9_ownRights 179 = .ok (.iload 5, 2) := by decide +kernel
theorem dX9_ownRights_181 : decode cX9_ownRights 181 = .ok (.aload_n 0, 1) := by decide +kernel
theorem dX9_ownRights_182 : decode cX9_ownRights 182 = .ok (.getfield 7, 3) := by decide +kernel
theorem dX9_ownRights_185 : decode cX9_ownRights 185 = .ok (.iload 7, 2) := by decide +kernel
theorem dX9_ownRights_187 : decode cX9_ownRights 187 = .ok (.iconst 1, 1) := by decide +kernel
theorem dX9_ownRights_188 : decode cX9_ownRights 188 = .ok (.iadd, 1) := by decide +kernel
theorem dX9_ownRights_189 : decode cX9_ownRights 189 = .ok (.iaload, 1) := by decide +kernel
theorem dX9_ownRights_190 : decode cX9_ownRights 190 = .ok (.iload_n 1, 1) := by decide +kernel
theorem dX9_ownRights_191 : decode cX9_ownRights 191 = .ok (.if_icmp .ne 18, 3) := by decide +kernel
theorem dX9_ownRights_194 : decode cX9_ownRights 194 = .ok (.aload_n 0, 1) := by decide +kernel
theorem dX9_ownRights_195 : decode cX9_ownRights 195 = .ok (.getfield 7, 3) := by decide +kernel
theorem dX9_ownRights_198 : decode cX9_ownRights 198 = .ok (.iload_n 3, 1) := by decide +kernel
theorem dX9_ownRights_199 : decode cX9_ownRights 199 = .ok (.bipush 17, 2) := by decide +kernel
theorem dX9_ownRights_201 : decode cX9_ownRights 201 = .ok (.iadd, 1) := by decide +kernel
theorem dX9_ownRights_202 : decode cX9_ownRights 202 = .ok (.iload 6, 2) := by decide +kernel
theorem dX9_ownRights_204 : decode cX9_ownRights 204 = .ok (.iadd, 1) := by decide +kernel
theorem dX9_ownRights_205 : decode cX9_ownRights 205 = .ok (.iaload, 1) := by decide +kernel
theorem dX9_ownRights_206 : decode cX9_ownRights 206 = .ok (.goto 4, 3) := by decide +kernel
theorem dX9_ownRights_209 : decode cX9_ownRights 209 = .ok (.iconst 0, 1) := by decide +kernel
theorem dX9_ownRights_210 : decode cX9_ownRights 210 = .ok (.iadd, 1) := by decide +kernel
theorem dX9_ownRights_211 : decode cX9_ownRights 211 = .ok (.istore 5, 2) := by decide +kernel
theorem dX9_ownRights_213 : decode cX9_ownRights 213 = .ok (.iload 5, 2) := by decide +kernel
theorem dX9_ownRights_215 : decode cX9_ownRights 215 = .ok (.aload_n 0, 1) := by decide +kernel
theorem dX9_ownRights_216 : decode cX9_ownRights 216 = .ok (.getfield 7, 3) := by decide +kernel
theorem dX9_ownRights_219 : decode cX9_ownRights 219 = .ok (.iload 7, 2) := by decide +kernel
theorem dX9_ownRights_221 : decode cX9_ownRights 221 = .ok (.iaload, 1) := by decide +kernel
theorem dX9_ownRights_222 : decode cX9_ownRights 222 = .ok (.iload_n 1, 1) := by decide +kernel
theorem dX9_ownRights_223 : decode cX9_ownRights 223 = .ok (.if_icmp .ne 34, 3) := by decide +kernel
theorem dX9_ownRights_226 : decode cX9_ownRights 226 = .ok (.aload_n 0, 1) := by decide +kernel
theorem dX9_ownRights_227 : decode cX9_ownRights 227 = .ok (.iload 6, 2) := by decide +kernel
theorem dX9_ownRights_229 : decode cX9_ownRights 229 = .ok (.invokevirtual 73, 3) := by decide +kernel
theorem dX9_ownRights_232 : decode cX9_ownRights 232 = .ok (.ifCond .eq 13, 3) := by decide +kernel
theorem dX9_ownRights_235 : decode cX9_ownRights 235 = .ok (.aload_n 0, 1) := by decide +kernel
theorem dX9_ownRights_236 : decode cX9_ownRights 236 = .ok (.iload_n 1, 1) := by decide +kernel
theorem dX9_ownRights_237 : decode cX9_ownRights 237 = .ok (.iload 6, 2) := by decide +kernel
theorem dX9_ownRights_239 : decode cX9_ownRights 239 = .ok (.invokevirtual 70, 3) := by decide +kernel
theorem dX9_ownRights_242 : decode cX9_ownRights 242 = .ok (.goto 16, 3) := by decide +kernel
theorem dX9_ownRights_245 : decode cX9_ownRights 245 = .ok (.aload_n 0, 1) := by decide +kernel
theorem dX9_ownRights_246 : decode cX9_ownRights 246 = .ok (.getfield 7, 3) := by decide +kernel
theorem dX9_ownRights_249 : decode cX9_ownRights 249 = .ok (.iload 7, 2) := by decide +kernel
theorem dX9_ownRights_251 : decode cX9_ownRights 251 = .ok (.iconst 3, 1) := by decide +kernel
theorem dX9_ownRights_252 : decode cX9_ownRights 252 = .ok (.iadd, 1) := by decide +kernel
theorem dX9_ownRights_253 : decode cX9_ownRights 253 = .ok (.iaload, 1) := by decide +kernel
theorem dX9_ownRights_254 : decode cX9_ownRights 254 = .ok (.goto 4, 3) := by decide +kernel
theorem dX9_ownRights_257 : decode cX9_ownRights 257 = .ok (.iconst 0, 1) := by decide +kernel
theorem dX9_ownRights_258 : decode cX9_ownRights 258 = .ok (.isub, 1) := by decide +kernel
theorem dX9_ownRights_259 : decode cX9_ownRights 259 = .ok (.istore 5, 2) := by decide +kernel
theorem dX9_ownRights_261 : decode cX9_ownRights 261 = .ok (.iinc 6 1, 3) := by decide +kernel
theorem dX9_ownRights_264 : decode cX9_ownRights 264 = .ok (.goto (-116), 3) := by decide +kernel
theorem dX9_ownRights_267 : decode cX9_ownRights 267 = .ok (.iload 5, 2) := by decide +kernel
theorem dX9_ownRights_269 : decode cX9_ownRights 269 = .ok (.ireturn, 1) := by decide +kernel
theorem dX9_lentRights_0 : decode cX9_lentRights 0 = .ok (.iconst 0, 1) := by decide +kernel
theorem dX9_lentRights_1 : decode cX9_lentRights 1 = .ok (.istore_n 3, 1) := by decide +kernel
theorem dX9_lentRights_2 : decode cX9_lentRights 2 = .ok (.iconst 0, 1) := by decide +kernel
theorem dX9_lentRights_3 : decode cX9_lentRights 3 = .ok (.istore 4, 2) := by decide +kernel
theorem dX9_lentRights_5 : decode cX9_lentRights 5 = .ok (.iload 4, 2) := by decide +kernel
theorem dX9_lentRights_7 : decode cX9_lentRights 7 = .ok (.aload_n 0, 1) := by decide +kernel
theorem dX9_lentRights_8 : decode cX9_lentRights 8 = .ok (.getfield 7, 3) := by decide +kernel
theorem dX9_lentRights_11 : decode cX9_lentRights 11 = .ok (.iconst 4, 1) := by decide +kernel
theorem dX9_lentRights_12 : decode cX9_lentRights 12 = .ok (.iaload, 1) := by decide +kernel
theorem dX9_lentRights_13 : decode cX9_lentRights 13 = .ok (.if_icmp .ge 54, 3) := by decide +kernel
theorem dX9_lentRights_16 : decode cX9_lentRights 16 = .ok (.iload_n 3, 1) := by decide +kernel
theorem dX9_lentRights_17 : decode cX9_lentRights 17 = .ok (.aload_n 0, 1) := by decide +kernel
theorem dX9_lentRights_18 : decode cX9_lentRights 18 = .ok (.getfield 7, 3) := by decide +kernel
theorem dX9_lentRights_21 : decode cX9_lentRights 21 = .ok (.iload 4, 2) := by decide +kernel
theorem dX9_lentRights_23 : decode cX9_lentRights 23 = .ok (.invokestatic 60, 3) := by decide +kernel
theorem dX9_lentRights_26 : decode cX9_lentRights 26 = .ok (.iconst 1, 1) := by decide +kernel
theorem dX9_lentRights_27 : decode cX9_lentRights 27 = .ok (.iadd, 1) := by decide +kernel
theorem dX9_lentRights_28 : decode cX9_lentRights 28 = .ok (.iaload, 1) := by decide +kernel
theorem dX9_lentRights_29 : decode cX9_lentRights 29 = .ok (.iload_n 1, 1) := by decide +kernel
theorem dX9_lentRights_30 : decode cX9_lentRights 30 = .ok (.if_icmp .ne 28, 3) := by decide +kernel
theorem dX9_lentRights_33 : decode cX9_lentRights 33 = .ok (.aload_n 0, 1) := by decide +kernel
theorem dX9_lentRights_34 : decode cX9_lentRights 34 = .ok (.getfield 7, 3) := by decide +kernel
theorem dX9_lentRights_37 : decode cX9_lentRights 37 = .ok (.iload 4, 2) := by decide +kernel
theorem dX9_lentRights_39 : decode cX9_lentRights 39 = .ok (.invokestatic 60, 3) := by decide +kernel
theorem dX9_lentRights_42 : decode cX9_lentRights 42 = .ok (.iconst 2, 1) := by decide +kernel
theorem dX9_lentRights_43 : decode cX9_lentRights 43 = .ok (.iadd, 1) := by decide +kernel
theorem dX9_lentRights_44 : decode cX9_lentRights 44 = .ok (.iaload, 1) := by decide +kernel
theorem dX9_lentRights_45 : decode cX9_lentRights 45 = .ok (.iload_n 2, 1) := by decide +kernel
theorem dX9_lentRights_46 : decode cX9_lentRights 46 = .ok (.if_icmp .ne 12, 3) := by decide +kernel
theorem dX9_lentRights_49 : decode cX9_lentRights 49 = .ok (.aload_n 0, 1) := by decide +kernel
theorem dX9_lentRights_50 : decode cX9_lentRights 50 = .ok (.iload 4, 2) := by decide +kernel
theorem dX9_lentRights_52 : decode cX9_lentRights 52 = .ok (.invokevirtual 76, 3) := by decide +kernel
theorem dX9_lentRights_55 : decode cX9_lentRights 55 = .ok (.goto 4, 3) := by decide +kernel
theorem dX9_lentRights_58 : decode cX9_lentRights 58 = .ok (.iconst 0, 1) := by decide +kernel
theorem dX9_lentRights_59 : decode cX9_lentRights 59 = .ok (.iadd, 1) := by decide +kernel
theorem dX9_lentRights_60 : decode cX9_lentRights 60 = .ok (.istore_n 3, 1) := by decide +kernel
theorem dX9_lentRights_61 : decode cX9_lentRights 61 = .ok (.iinc 4 1, 3) := by decide +kernel
theorem dX9_lentRights_64 : decode cX9_lentRights 64 = .ok (.goto (-59), 3) := by decide +kernel
theorem dX9_lentRights_67 : decode cX9_lentRights 67 = .ok (.iload_n 3, 1) := by decide +kernel
theorem dX9_lentRights_68 : decode cX9_lentRights 68 = .ok (.ireturn, 1) := by decide +kernel
theorem dX9_allRights_0 : decode cX9_allRights 0 = .ok (.aload_n 0, 1) := by decide +kernel
theorem dX9_allRights_1 : decode cX9_allRights 1 = .ok (.iload_n 1, 1) := by decide +kernel
theorem dX9_allRights_2 : decode cX9_allRights 2 = .ok (.iload_n 2, 1) := by decide +kernel
theorem dX9_allRights_3 : decode cX9_allRights 3 = .ok (.invokevirtual 79, 3) := by decide +kernel
theorem dX9_allRights_6 : decode cX9_allRights 6 = .ok (.aload_n 0, 1) := by decide +kernel
theorem dX9_allRights_7 : decode cX9_allRights 7 = .ok (.iload_n 1, 1) := by decide +kernel
theorem dX9_allRights_8 : decode cX9_allRights 8 = .ok (.iload_n 2, 1) := by decide +kernel
theorem dX9_allRights_9 : decode cX9_allRights 9 = .ok (.invokevirtual 82, 3) := by decide +kernel
theorem dX9_allRights_12 : decode cX9_allRights 12 = .ok (.iadd, 1) := by decide +kernel
theorem dX9_allRights_13 : decode cX9_allRights 13 = .ok (.ireturn, 1) := by decide +kernel
theorem dX9_firstLoan_0 : decode cX9_firstLoan 0 = .ok (.iconst (-1), 1) := by decide +kernel
theorem dX9_firstLoan_1 : decode cX9_firstLoan 1 = .ok (.istore_n 3, 1) := by decide +kernel
theorem dX9_firstLoan_2 : decode cX9_firstLoan 2 = .ok (.iconst 0, 1) := by decide +kernel
theorem dX9_firstLoan_3 : decode cX9_firstLoan 3 = .ok (.istore 4, 2) := by decide +kernel
theorem dX9_firstLoan_5 : decode cX9_firstLoan 5 = .ok (.iload 4, 2) := by decide +kernel
theorem dX9_firstLoan_7 : decode cX9_firstLoan 7 = .ok (.aload_n 0, 1) := by decide +kernel
theorem dX9_firstLoan_8 : decode cX9_firstLoan 8 = .ok (.getfield 7, 3) := by decide +kernel
theorem dX9_firstLoan_11 : decode cX9_firstLoan 11 = .ok (.iconst 4, 1) := by decide +kernel
theorem dX9_firstLoan_12 : decode cX9_firstLoan 12 = .ok (.iaload, 1) := by decide +kernel
theorem dX9_firstLoan_13 : decode cX9_firstLoan 13 = .ok (.if_icmp .ge 97, 3) := by decide +kernel
theorem dX9_firstLoan_16 : decode cX9_firstLoan 16 = .ok (.iload 4, 2) := by decide +kernel
theorem dX9_firstLoan_18 : decode cX9_firstLoan 18 = .ok (.invokestatic 60, 3) := by decide +kernel
theorem dX9_firstLoan_21 : decode cX9_firstLoan 21 = .ok (.istore 5, 2) := by decide +kernel
theorem dX9_firstLoan_23 : decode cX9_firstLoan 23 = .ok (.aload_n 0, 1) := by decide +kernel
theorem dX9_firstLoan_24 : decode cX9_firstLoan 24 = .ok (.getfield 7, 3) := by decide +kernel
theorem dX9_firstLoan_27 : decode cX9_firstLoan 27 = .ok (.iload 5, 2) := by decide +kernel
theorem dX9_firstLoan_29 : decode cX9_firstLoan 29 = .ok (.iconst 1, 1) := by decide +kernel
theorem dX9_firstLoan_30 : decode cX9_firstLoan 30 = .ok (.iadd, 1) := by decide +kernel
theorem dX9_firstLoan_31 : decode cX9_firstLoan 31 = .ok (.iaload, 1) := by decide +kernel
theorem dX9_firstLoan_32 : decode cX9_firstLoan 32 = .ok (.iload_n 1, 1) := by decide +kernel
theorem dX9_firstLoan_33 : decode cX9_firstLoan 33 = .ok (.if_icmp .ne 29, 3) := by decide +kernel
theorem dX9_firstLoan_36 : decode cX9_firstLoan 36 = .ok (.aload_n 0, 1) := by decide +kernel
theorem dX9_firstLoan_37 : decode cX9_firstLoan 37 = .ok (.getfield 7, 3) := by decide +kernel
theorem dX9_firstLoan_40 : decode cX9_firstLoan 40 = .ok (.iload 5, 2) := by decide +kernel
theorem dX9_firstLoan_42 : decode cX9_firstLoan 42 = .ok (.iconst 2, 1) := by decide +kernel
theorem dX9_firstLoan_43 : decode cX9_firstLoan 43 = .ok (.iadd, 1) := by decide +kernel
theorem dX9_firstLoan_44 : decode cX9_firstLoan 44 = .ok (.iaload, 1) := by decide +kernel
theorem dX9_firstLoan_45 : decode cX9_firstLoan 45 = .ok (.iload_n 2, 1) := by decide +kernel
theorem dX9_firstLoan_46 : decode cX9_firstLoan 46 = .ok (.if_icmp .ne 16, 3) := by decide +kernel
theorem dX9_firstLoan_49 : decode cX9_firstLoan 49 = .ok (.aload_n 0, 1) := by decide +kernel
theorem dX9_firstLoan_50 : decode cX9_firstLoan 50 = .ok (.iload 4, 2) := by decide +kernel
theorem dX9_firstLoan_52 : decode cX9_firstLoan 52 = .ok (.invokevirtual 76, 3) := by decide +kernel
theorem dX9_firstLoan_55 : decode cX9_firstLoan 55 = .ok (.ifCond .le 7, 3) := by decide +kernel
theorem dX9_firstLoan_58 : decode cX9_firstLoan 58 = .ok (.iconst 1, 1) := by decide +kernel
theorem dX9_firstLoan_59 : decode cX9_firstLoan 59 = .ok (.goto 4, 3) := by decide +kernel
theorem dX9_firstLoan_62 : decode cX9_firstLoan 62 = .ok (.iconst 0, 1) := by decide +kernel
theorem dX9_firstLoan_63 : decode cX9_firstLoan 63 = .ok (.istore 6, 2) := by decide +kernel
theorem dX9_firstLoan_65 : decode cX9_firstLoan 65 = .ok (.iload 6, 2) := by decide +kernel
theorem dX9_firstLoan_67 : decode cX9_firstLoan 67 = .ok (.ifCond .eq 35, 3) := by decide +kernel
theorem dX9_firstLoan_70 : decode cX9_firstLoan 70 = .ok (.iload_n 3, 1) := by decide +kernel
theorem dX9_firstLoan_71 : decode cX9_firstLoan 71 = .ok (.ifCond .lt 26, 3) := by decide +kernel
theorem dX9_firstLoan_74 : decode cX9_firstLoan 74 = .ok (.aload_n 0, 1) := by decide +kernel
theorem dX9_firstLoan_75 : decode cX9_firstLoan 75 = .ok (.getfield 7, 3) := by decide +kernel
theorem dX9_firstLoan_78 : decode cX9_firstLoan 78 = .ok (.iload 5, 2) := by decide +kernel
theorem dX9_firstLoan_80 : decode cX9_firstLoan 80 = .ok (.iconst 4, 1) := by decide +kernel
theorem dX9_firstLoan_81 : decode cX9_firstLoan 81 = .ok (.iadd, 1) := by decide +kernel
theorem dX9_firstLoan_82 : decode cX9_firstLoan 82 = .ok (.iaload, 1) := by decide +kernel
theorem dX9_firstLoan_83 : decode cX9_firstLoan 83 = .ok (.aload_n 0, 1) := by decide +kernel
theorem dX9_firstLoan_84 : decode cX9_firstLoan 84 = .ok (.getfield 7, 3) := by decide +kernel
theorem dX9_firstLoan_87 : decode cX9_firstLoan 87 = .ok (.iload_n 3, 1) := by decide +kernel
theorem dX9_firstLoan_88 : decode cX9_firstLoan 88 = .ok (.invokestatic 60, 3) := by decide +kernel
theorem dX9_firstLoan_91 : decode cX9_firstLoan 91 = .ok (.iconst 4, 1) := by decide +kernel
theorem dX9_firstLoan_92 : decode cX9_firstLoan 92 = .ok (.iadd, 1) := by decide +kernel
theorem dX9_firstLoan_93 : decode cX9_firstLoan 93 = .ok (.iaload, 1) := by decide +kernel
theorem dX9_firstLoan_94 : decode cX9_firstLoan 94 = .ok (.if_icmp .ge 8, 3) := by decide +kernel
theorem dX9_firstLoan_97 : decode cX9_firstLoan 97 = .ok (.iload 4, 2) := by decide +kernel
theorem dX9_firstLoan_99 : decode cX9_firstLoan 99 = .ok (.goto 4, 3) := by decide +kernel
theorem dX9_firstLoan_102 : decode cX9_firstLoan 102 = .ok (.iload_n 3, 1) := by decide +kernel
theorem dX9_firstLoan_103 : decode cX9_firstLoan 103 = .ok (.istore_n 3, 1) := by decide +kernel
theorem dX9_firstLoan_104 : decode cX9_firstLoan 104 = .ok (.iinc 4 1, 3) := by decide +kernel
theorem dX9_firstLoan_107 : decode cX9_firstLoan 107 = .ok (.goto (-102), 3) := by decide +kernel
theorem dX9_firstLoan_110 : decode cX9_firstLoan 110 = .ok (.iload_n 3, 1) := by decide +kernel
theorem dX9_firstLoan_111 : decode cX9_firstLoan 111 = .ok (.ireturn, 1) := by decide +kernel
theorem dX9_uses_0 : decode cX9_uses 0 = .ok (.iload_n 3, 1) := by decide +kernel
theorem dX9_uses_1 : decode cX9_uses 1 = .ok (.aload_n 0, 1) := by decide +kernel
theorem dX9_uses_2 : decode cX9_uses 2 = .ok (.iload_n 1, 1) := by decide +kernel
theorem dX9_uses_3 : decode cX9_uses 3 = .ok (.iload_n 2, 1) := by decide +kernel
theorem dX9_uses_4 : decode cX9_uses 4 = .ok (.invokevirtual 85, 3) := by decide +kernel
theorem dX9_uses_7 : decode cX9_uses 7 = .ok (.isub, 1) := by decide +kernel
theorem dX9_uses_8 : decode cX9_uses 8 = .ok (.istore 4, 2) := by decide +kernel
theorem dX9_uses_10 : decode cX9_uses 10 = .ok (.iload 4, 2) := by decide +kernel
theorem dX9_uses_12 : decode cX9_uses 12 = .ok (.ifCond .le 59, 3) := by decide +kernel
theorem dX9_uses_15 : decode cX9_uses 15 = .ok (.aload_n 0, 1) := by decide +kernel
theorem dX9_uses_16 : decode cX9_uses 16 = .ok (.getfield 7, 3) := by decide +kernel
theorem dX9_uses_19 : decode cX9_uses 19 = .ok (.aload_n 0, 1) := by decide +kernel
theorem dX9_uses_20 : decode cX9_uses 20 = .ok (.iload_n 1, 1) := by decide +kernel
theorem dX9_uses_21 : decode cX9_uses 21 = .ok (.invokevirtual 56, 3) := by decide +kernel
theorem dX9_uses_24 : decode cX9_uses 24 = .ok (.bipush 14, 2) := by decide +kernel
theorem dX9_uses_26 : decode cX9_uses 26 = .ok (.iadd, 1) := by decide +kernel
theorem dX9_uses_27 : decode cX9_uses 27 = .ok (.iload_n 2, 1) := by decide +kernel
theorem dX9_uses_28 : decode cX9_uses 28 = .ok (.iadd, 1) := by decide +kernel
theorem dX9_uses_29 : decode cX9_uses 29 = .ok (.iaload, 1) := by decide +kernel
theorem dX9_uses_30 : decode cX9_uses 30 = .ok (.iload 4, 2) := by decide +kernel
theorem dX9_uses_32 : decode cX9_uses 32 = .ok (.iadd, 1) := by decide +kernel
theorem dX9_uses_33 : decode cX9_uses 33 = .ok (.istore 5, 2) := by decide +kernel
theorem dX9_uses_35 : decode cX9_uses 35 = .ok (.aload_n 0, 1) := by decide +kernel
theorem dX9_uses_36 : decode cX9_uses 36 = .ok (.getfield 7, 3) := by decide +kernel
theorem dX9_uses_39 : decode cX9_uses 39 = .ok (.aload_n 0, 1) := by decide +kernel
theorem dX9_uses_40 : decode cX9_uses 40 = .ok (.iload_n 1, 1) := by decide +kernel
theorem dX9_uses_41 : decode cX9_uses 41 = .ok (.invokevirtual 56, 3) := by decide +kernel
theorem dX9_uses_44 : decode cX9_uses 44 = .ok (.bipush 14, 2) := by decide +kernel
theorem dX9_uses_46 : decode cX9_uses 46 = .ok (.iadd, 1) := by decide +kernel
theorem dX9_uses_47 : decode cX9_uses 47 = .ok (.iload_n 2, 1) := by decide +kernel
theorem dX9_uses_48 : decode cX9_uses 48 = .ok (.iadd, 1) := by decide +kernel
theorem dX9_uses_49 : decode cX9_uses 49 = .ok (.iload 5, 2) := by decide +kernel
theorem dX9_uses_51 : decode cX9_uses 51 = .ok (.ldc 88, 2) := by decide +kernel
theorem dX9_uses_53 : decode cX9_uses 53 = .ok (.if_icmp .le 8, 3) := by decide +kernel
theorem dX9_uses_56 : decode cX9_uses 56 = .ok (.ldc 88, 2) := by decide +kernel
theorem dX9_uses_58 : decode cX9_uses 58 = .ok (.goto 5, 3) := by decide +kernel
theorem dX9_uses_61 : decode cX9_uses 61 = .ok (.iload 5, 2) := by decide +kernel
theorem dX9_uses_63 : decode cX9_uses 63 = .ok (.iastore, 1) := by decide +kernel
theorem dX9_uses_64 : decode cX9_uses 64 = .ok (.aload_n 0, 1) := by decide +kernel
theorem dX9_uses_65 : decode cX9_uses 65 = .ok (.iload_n 1, 1) := by decide +kernel
theorem dX9_uses_66 : decode cX9_uses 66 = .ok (.invokevirtual 89, 3) := by decide +kernel
theorem dX9_uses_69 : decode cX9_uses 69 = .ok (.iconst 0, 1) := by decide +kernel
theorem dX9_uses_70 : decode cX9_uses 70 = .ok (.ireturn, 1) := by decide +kernel
theorem dX9_uses_71 : decode cX9_uses 71 = .ok (.iload_n 3, 1) := by decide +kernel
theorem dX9_uses_72 : decode cX9_uses 72 = .ok (.istore 5, 2) := by decide +kernel
theorem dX9_uses_74 : decode cX9_uses 74 = .ok (.aload_n 0, 1) := by decide +kernel
theorem dX9_uses_75 : decode cX9_uses 75 = .ok (.iload_n 1, 1) := by decide +kernel
theorem dX9_uses_76 : decode cX9_uses 76 = .ok (.iload_n 2, 1) := by decide +kernel
theorem dX9_uses_77 : decode cX9_uses 77 = .ok (.invokevirtual 93, 3) := by decide +kernel
theorem dX9_uses_80 : decode cX9_uses 80 = .ok (.istore 6, 2) := by decide +kernel
theorem dX9_uses_82 : decode cX9_uses 82 = .ok (.iload 6, 2) := by decide +kernel
theorem dX9_uses_84 : decode cX9_uses 84 = .ok (.ifCond .lt 71, 3) := by decide +kernel
theorem dX9_uses_87 : decode cX9_uses 87 = .ok (.iload 5, 2) := by decide +kernel
theorem dX9_uses_89 : decode cX9_uses 89 = .ok (.ifCond .le 66, 3) := by decide +kernel
theorem dX9_uses_92 : decode cX9_uses 92 = .ok (.aload_n 0, 1) := by decide +kernel
theorem dX9_uses_93 : decode cX9_uses 93 = .ok (.iload 6, 2) := by decide +kernel
theorem dX9_uses_95 : decode cX9_uses 95 = .ok (.invokevirtual 76, 3) := by decide +kernel
theorem dX9_uses_98 : decode cX9_uses 98 = .ok (.iload 5, 2) := by decide +kernel
theorem dX9_uses_100 : decode cX9_uses 100 = .ok (.if_icmp .ge 12, 3) := by decide +kernel
theorem dX9_uses_103 : decode cX9_uses 103 = .ok (.aload_n 0, 1) := by decide +kernel
theorem dX9_uses_104 : decode cX9_uses 104 = .ok (.iload 6, 2) := by decide +kernel
theorem dX9_uses_106 : decode cX9_uses 106 = .ok (.invokevirtual 76, 3) := by decide +kernel
theorem dX9_uses_109 : decode cX9_uses 109 = .ok (.goto 5, 3) := by decide +kernel
theorem dX9_uses_112 : decode cX9_uses 112 = .ok (.iload 5, 2) := by decide +kernel
theorem dX9_uses_114 : decode cX9_uses 114 = .ok (.istore 7, 2) := by decide +kernel
theorem dX9_uses_116 : decode cX9_uses 116 = .ok (.aload_n 0, 1) := by decide +kernel
theorem dX9_uses_117 : decode cX9_uses 117 = .ok (.getfield 7, 3) := by decide +kernel
theorem dX9_uses_120 : decode cX9_uses 120 = .ok (.aload_n 0, 1) := by decide +kernel
theorem dX9_uses_121 : decode cX9_uses 121 = .ok (.iload_n 1, 1) := by decide +kernel
theorem dX9_uses_122 : decode cX9_uses 122 = .ok (.invokevirtual 56, 3) := by decide +kernel
theorem dX9_uses_125 : decode cX9_uses 125 = .ok (.bipush 17, 2) := by decide +kernel
theorem dX9_uses_127 : decode cX9_uses 127 = .ok (.iadd, 1) := by decide +kernel
theorem dX9_uses_128 : decode cX9_uses 128 = .ok (.iload 6, 2) := by decide +kernel
theorem dX9_uses_130 : decode cX9_uses 130 = .ok (.iadd, 1) := by decide +kernel
theorem dX9_uses_131 : decode cX9_uses 131 = .ok (.dup2, 1) := by decide +kernel
theorem dX9_uses_132 : decode cX9_uses 132 = .ok (.iaload, 1) := by decide +kernel
theorem dX9_uses_133 : decode cX9_uses 133 = .ok (.iload 7, 2) := by decide +kernel
theorem dX9_uses_135 : decode cX9_uses 135 = .ok (.iadd, 1) := by decide +kernel
theorem dX9_uses_136 : decode cX9_uses 136 = .ok (.iastore, 1) := by decide +kernel
theorem dX9_uses_137 : decode cX9_uses 137 = .ok (.iload 5, 2) := by decide +kernel
theorem dX9_uses_139 : decode cX9_uses 139 = .ok (.iload 7, 2) := by decide +kernel
theorem dX9_uses_141 : decode cX9_uses 141 = .ok (.isub, 1) := by decide +kernel
theorem dX9_uses_142 : decode cX9_uses 142 = .ok (.istore 5, 2) := by decide +kernel
theorem dX9_uses_144 : decode cX9_uses 144 = .ok (.aload_n 0, 1) := by decide +kernel
theorem dX9_uses_145 : decode cX9_uses 145 = .ok (.iload_n 1, 1) := by decide +kernel
theorem dX9_uses_146 : decode cX9_uses 146 = .ok (.iload_n 2, 1) := by decide +kernel
theorem dX9_uses_147 : decode cX9_uses 147 = .ok (.invokevirtual 93, 3) := by decide +kernel
theorem dX9_uses_150 : decode cX9_uses 150 = .ok (.istore 6, 2) := by decide +kernel
theorem dX9_uses_152 : decode cX9_uses 152 = .ok (.goto (-70), 3) := by decide +kernel
theorem dX9_uses_155 : decode cX9_uses 155 = .ok (.aload_n 0, 1) := by decide +kernel
theorem dX9_uses_156 : decode cX9_uses 156 = .ok (.getfield 7, 3) := by decide +kernel
theorem dX9_uses_159 : decode cX9_uses 159 = .ok (.aload_n 0, 1) := by decide +kernel
theorem dX9_uses_160 : decode cX9_uses 160 = .ok (.iload_n 1, 1) := by decide +kernel
theorem dX9_uses_161 : decode cX9_uses 161 = .ok (.invokevirtual 56, 3) := by decide +kernel
theorem dX9_uses_164 : decode cX9_uses 164 = .ok (.iload_n 2, 1) := by decide +kernel
theorem dX9_uses_165 : decode cX9_uses 165 = .ok (.ifCond .ne 7, 3) := by decide +kernel
theorem dX9_uses_168 : decode cX9_uses 168 = .ok (.iconst 2, 1) := by decide +kernel
theorem dX9_uses_169 : decode cX9_uses 169 = .ok (.goto 4, 3) := by decide +kernel
theorem dX9_uses_172 : decode cX9_uses 172 = .ok (.iconst 3, 1) := by decide +kernel
theorem dX9_uses_173 : decode cX9_uses 173 = .ok (.iadd, 1) := by decide +kernel
theorem dX9_uses_174 : decode cX9_uses 174 = .ok (.dup2, 1) := by decide +kernel
theorem dX9_uses_175 : decode cX9_uses 175 = .ok (.iaload, 1) := by decide +kernel
theorem dX9_uses_176 : decode cX9_uses 176 = .ok (.iload_n 3, 1) := by decide +kernel
theorem dX9_uses_177 : decode cX9_uses 177 = .ok (.iadd, 1) := by decide +kernel
theorem dX9_uses_178 : decode cX9_uses 178 = .ok (.iastore, 1) := by decide +kernel
theorem dX9_uses_179 : decode cX9_uses 179 = .ok (.aload_n 0, 1) := by decide +kernel
theorem dX9_uses_180 : decode cX9_uses 180 = .ok (.iload_n 1, 1) := by decide +kernel
theorem dX9_uses_181 : decode cX9_uses 181 = .ok (.invokevirtual 89, 3) := by decide +kernel
theorem dX9_uses_184 : decode cX9_uses 184 = .ok (.iconst 1, 1) := by decide +kernel
theorem dX9_uses_185 : decode cX9_uses 185 = .ok (.ireturn, 1) := by decide +kernel
theorem dX9_change_0 : decode cX9_change 0 = .ok (.aload_n 0, 1) := by decide +kernel
theorem dX9_change_1 : decode cX9_change 1 = .ok (.aload_n 0, 1) := by decide +kernel
theorem dX9_change_2 : decode cX9_change 2 = .ok (.iload_n 1, 1) := by decide +kernel
theorem dX9_change_3 : decode cX9_change 3 = .ok (.invokevirtual 96, 3) := by decide +kernel
theorem dX9_change_6 : decode cX9_change 6 = .ok (.ifCond .ne 7, 3) := by decide +kernel
theorem dX9_change_9 : decode cX9_change 9 = .ok (.iconst 1, 1) := by decide +kernel
theorem dX9_change_10 : decode cX9_change 10 = .ok (.goto 19, 3) := by decide +kernel
theorem dX9_change_13 : decode cX9_change 13 = .ok (.iload_n 3, 1) := by decide +kernel
theorem dX9_change_14 : decode cX9_change 14 = .ok (.iconst 1, 1) := by decide +kernel
theorem dX9_change_15 : decode cX9_change 15 = .ok (.sipush 999, 3) := by decide +kernel
theorem dX9_change_18 : decode cX9_change 18 = .ok (.invokestatic 48, 3) := by decide +kernel
theorem dX9_change_21 : decode cX9_change 21 = .ok (.ifCond .ne 7, 3) := by decide +kernel
theorem dX9_change_24 : decode cX9_change 24 = .ok (.iconst 2, 1) := by decide +kernel
theorem dX9_change_25 : decode cX9_change 25 = .ok (.goto 4, 3) := by decide +kernel
theorem dX9_change_28 : decode cX9_change 28 = .ok (.iconst 0, 1) := by decide +kernel
theorem dX9_change_29 : decode cX9_change 29 = .ok (.putfield 42, 3) := by decide +kernel
theorem dX9_change_32 : decode cX9_change 32 = .ok (.aload_n 0, 1) := by decide +kernel
theorem dX9_change_33 : decode cX9_change 33 = .ok (.getfield 42, 3) := by decide +kernel
theorem dX9_change_36 : decode cX9_change 36 = .ok (.ifCond .eq 5, 3) := by decide +kernel
theorem dX9_change_39 : decode cX9_change 39 = .ok (.iconst 0, 1) := by decide +kernel
theorem dX9_change_40 : decode cX9_change 40 = .ok (.ireturn, 1) := by decide +kernel
theorem dX9_change_41 : decode cX9_change 41 = .ok (.aload_n 0, 1) := by decide +kernel
theorem dX9_change_42 : decode cX9_change 42 = .ok (.invokevirtual 99, 3) := by decide +kernel
theorem dX9_change_45 : decode cX9_change 45 = .ok (.aload_n 0, 1) := by decide +kernel
theorem dX9_change_46 : decode cX9_change 46 = .ok (.iload_n 1, 1) := by decide +kernel
theorem dX9_change_47 : decode cX9_change 47 = .ok (.iload_n 2, 1) := by decide +kernel
theorem dX9_change_48 : decode cX9_change 48 = .ok (.iload_n 3, 1) := by decide +kernel
theorem dX9_change_49 : decode cX9_change 49 = .ok (.invokevirtual 102, 3) := by decide +kernel
theorem dX9_change_52 : decode cX9_change 52 = .ok (.ireturn, 1) := by decide +kernel
theorem dX9_sites_0 : decode cX9_sites 0 = .ok (.aload_n 0, 1) := by decide +kernel
theorem dX9_sites_1 : decode cX9_sites 1 = .ok (.iconst 0, 1) := by decide +kernel
theorem dX9_sites_2 : decode cX9_sites 2 = .ok (.putfield 42, 3) := by decide +kernel
theorem dX9_sites_5 : decode cX9_sites 5 = .ok (.aload_n 0, 1) := by decide +kernel
theorem dX9_sites_6 : decode cX9_sites 6 = .ok (.getfield 34, 3) := by decide +kernel
theorem dX9_sites_9 : decode cX9_sites 9 = .ok (.ireturn, 1) := by decide +kernel
theorem dX9_valueNow_0 : decode cX9_valueNow 0 = .ok (.aload_n 0, 1) := by decide +kernel
theorem dX9_valueNow_1 : decode cX9_valueNow 1 = .ok (.getfield 7, 3) := by decide +kernel
theorem dX9_valueNow_4 : decode cX9_valueNow 4 = .ok (.iconst 3, 1) := by decide +kernel
theorem dX9_valueNow_5 : decode cX9_valueNow 5 = .ok (.iaload, 1) := by decide +kernel
theorem dX9_valueNow_6 : decode cX9_valueNow 6 = .ok (.istore_n 1, 1) := by decide +kernel
theorem dX9_valueNow_7 : decode cX9_valueNow 7 = .ok (.iconst 0, 1) := by decide +kernel
theorem dX9_valueNow_8 : decode cX9_valueNow 8 = .ok (.istore_n 2, 1) := by decide +kernel
theorem dX9_valueNow_9 : decode cX9_valueNow 9 = .ok (.iload_n 2, 1) := by decide +kernel
theorem dX9_valueNow_10 : decode cX9_valueNow 10 = .ok (.aload_n 0, 1) := by decide +kernel
theorem dX9_valueNow_11 : decode cX9_valueNow 11 = .ok (.getfield 34, 3) := by decide +kernel
theorem dX9_valueNow_14 : decode cX9_valueNow 14 = .ok (.if_icmp .ge 37, 3) := by decide +kernel
theorem dX9_valueNow_17 : decode cX9_valueNow 17 = .ok (.iload_n 1, 1) := by decide +kernel
theorem dX9_valueNow_18 : decode cX9_valueNow 18 = .ok (.aload_n 0, 1) := by decide +kernel
theorem dX9_valueNow_19 : decode cX9_valueNow 19 = .ok (.getfield 7, 3) := by decide +kernel
theorem dX9_valueNow_22 : decode cX9_valueNow 22 = .ok (.aload_n 0, 1) := by decide +kernel
theorem dX9_valueNow_23 : decode cX9_valueNow 23 = .ok (.iload_n 2, 1) := by decide +kernel
theorem dX9_valueNow_24 : decode cX9_valueNow 24 = .ok (.invokevirtual 56, 3) := by decide +kernel
theorem dX9_valueNow_27 : decode cX9_valueNow 27 = .ok (.iconst 2, 1) := by decide +kernel
theorem dX9_valueNow_28 : decode cX9_valueNow 28 = .ok (.iadd, 1) := by decide +kernel
theorem dX9_valueNow_29 : decode cX9_valueNow 29 = .ok (.iaload, 1) := by decide +kernel
theorem dX9_valueNow_30 : decode cX9_valueNow 30 = .ok (.aload_n 0, 1) := by decide +kernel
theorem dX9_valueNow_31 : decode cX9_valueNow 31 = .ok (.getfield 7, 3) := by decide +kernel
theorem dX9_valueNow_34 : decode cX9_valueNow 34 = .ok (.aload_n 0, 1) := by decide +kernel
theorem dX9_valueNow_35 : decode cX9_valueNow 35 = .ok (.iload_n 2, 1) := by decide +kernel
theorem dX9_valueNow_36 : decode cX9_valueNow 36 = .ok (.invokevirtual 56, 3) := by decide +kernel
theorem dX9_valueNow_39 : decode cX9_valueNow 39 = .ok (.iconst 3, 1) := by decide +kernel
theorem dX9_valueNow_40 : decode cX9_valueNow 40 = .ok (.iadd, 1) := by decide +kernel
theorem dX9_valueNow_41 : decode cX9_valueNow 41 = .ok (.iaload, 1) := by decide +kernel
theorem dX9_valueNow_42 : decode cX9_valueNow 42 = .ok (.isub, 1) := by decide +kernel
theorem dX9_valueNow_43 : decode cX9_valueNow 43 = .ok (.iadd, 1) := by decide +kernel
theorem dX9_valueNow_44 : decode cX9_valueNow 44 = .ok (.istore_n 1, 1) := by decide +kernel
theorem dX9_valueNow_45 : decode cX9_valueNow 45 = .ok (.iinc 2 1, 3) := by decide +kernel
theorem dX9_valueNow_48 : decode cX9_valueNow 48 = .ok (.goto (-39), 3) := by decide +kernel
theorem dX9_valueNow_51 : decode cX9_valueNow 51 = .ok (.iload_n 1, 1) := by decide +kernel
theorem dX9_valueNow_52 : decode cX9_valueNow 52 = .ok (.ireturn, 1) := by decide +kernel
theorem dX9_begin_0 : decode cX9_begin 0 = .ok (.aload_n 0, 1) := by decide +kernel
theorem dX9_begin_1 : decode cX9_begin 1 = .ok (.iconst 0, 1) := by decide +kernel
theorem dX9_begin_2 : decode cX9_begin 2 = .ok (.putfield 42, 3) := by decide +kernel
theorem dX9_begin_5 : decode cX9_begin 5 = .ok (.iload_n 1, 1) := by decide +kernel
theorem dX9_begin_6 : decode cX9_begin 6 = .ok (.sipush (-10000), 3) := by decide +kernel
theorem dX9_begin_9 : decode cX9_begin 9 = .ok (.sipush 10000, 3) := by decide +kernel
theorem dX9_begin_12 : decode cX9_begin 12 = .ok (.invokestatic 48, 3) := by decide +kernel
theorem dX9_begin_15 : decode cX9_begin 15 = .ok (.ifCond .eq 23, 3) := by decide +kernel
theorem dX9_begin_18 : decode cX9_begin 18 = .ok (.iload_n 2, 1) := by decide +kernel
theorem dX9_begin_19 : decode cX9_begin 19 = .ok (.iload_n 1, 1) := by decide +kernel
theorem dX9_begin_20 : decode cX9_begin 20 = .ok (.sipush 10000, 3) := by decide +kernel
theorem dX9_begin_23 : decode cX9_begin 23 = .ok (.invokestatic 48, 3) := by decide +kernel
theorem dX9_begin_26 : decode cX9_begin 26 = .ok (.ifCond .eq 12, 3) := by decide +kernel
theorem dX9_begin_29 : decode cX9_begin 29 = .ok (.iload_n 3, 1) := by decide +kernel
theorem dX9_begin_30 : decode cX9_begin 30 = .ok (.iload_n 1, 1) := by decide +kernel
theorem dX9_begin_31 : decode cX9_begin 31 = .ok (.iload_n 2, 1) := by decide +kernel
theorem dX9_begin_32 : decode cX9_begin 32 = .ok (.invokestatic 48, 3) := by decide +kernel
theorem dX9_begin_35 : decode cX9_begin 35 = .ok (.ifCond .ne 9, 3) := by decide +kernel
theorem dX9_begin_38 : decode cX9_begin 38 = .ok (.aload_n 0, 1) := by decide +kernel
theorem dX9_begin_39 : decode cX9_begin 39 = .ok (.iconst 1, 1) := by decide +kernel
theorem dX9_begin_40 : decode cX9_begin 40 = .ok (.invokevirtual 105, 3) := by decide +kernel
theorem dX9_begin_43 : decode cX9_begin 43 = .ok (.ireturn, 1) := by decide +kernel
theorem dX9_begin_44 : decode cX9_begin 44 = .ok (.aload_n 0, 1) := by decide +kernel
theorem dX9_begin_45 : decode cX9_begin 45 = .ok (.invokevirtual 108, 3) := by decide +kernel
theorem dX9_begin_48 : decode cX9_begin 48 = .ok (.istore 4, 2) := by decide +kernel
theorem dX9_begin_50 : decode cX9_begin 50 = .ok (.aload_n 0, 1) := by decide +kernel
theorem dX9_begin_51 : decode cX9_begin 51 = .ok (.iload_n 1, 1) := by decide +kernel
theorem dX9_begin_52 : decode cX9_begin 52 = .ok (.iload_n 2, 1) := by decide +kernel
theorem dX9_begin_53 : decode cX9_begin 53 = .ok (.iload_n 3, 1) := by decide +kernel
theorem dX9_begin_54 : decode cX9_begin 54 = .ok (.invokevirtual 38, 3) := by decide +kernel
theorem dX9_begin_57 : decode cX9_begin 57 = .ok (.iload 4, 2) := by decide +kernel
theorem dX9_begin_59 : decode cX9_begin 59 = .ok (.ireturn, 1) := by decide +kernel
theorem dX9_increase_0 : decode cX9_increase 0 = .ok (.aload_n 0, 1) := by decide +kernel
theorem dX9_increase_1 : decode cX9_increase 1 = .ok (.iload_n 1, 1) := by decide +kernel
theorem dX9_increase_2 : decode cX9_increase 2 = .ok (.iconst 0, 1) := by decide +kernel
theorem dX9_increase_3 : decode cX9_increase 3 = .ok (.iload_n 2, 1) := by decide +kernel
theorem dX9_increase_4 : decode cX9_increase 4 = .ok (.invokevirtual 112, 3) := by decide +kernel
theorem dX9_increase_7 : decode cX9_increase 7 = .ok (.ireturn, 1) := by decide +kernel
theorem dX9_decrease_0 : decode cX9_decrease 0 = .ok (.aload_n 0, 1) := by decide +kernel
theorem dX9_decrease_1 : decode cX9_decrease 1 = .ok (.iload_n 1, 1) := by decide +kernel
theorem dX9_decrease_2 : decode cX9_decrease 2 = .ok (.iconst 1, 1) := by decide +kernel
theorem dX9_decrease_3 : decode cX9_decrease 3 = .ok (.iload_n 2, 1) := by decide +kernel
theorem dX9_decrease_4 : decode cX9_decrease 4 = .ok (.invokevirtual 112, 3) := by decide +kernel
theorem dX9_decrease_7 : decode cX9_decrease 7 = .ok (.ireturn, 1) := by decide +kernel
theorem dX9_gives_0 : decode cX9_gives 0 = .ok (.aload_n 0, 1) := by decide +kernel
theorem dX9_gives_1 : decode cX9_gives 1 = .ok (.getfield 7, 3) := by decide +kernel
theorem dX9_gives_4 : decode cX9_gives 4 = .ok (.aload_n 0, 1) := by decide +kernel
theorem dX9_gives_5 : decode cX9_gives 5 = .ok (.iload_n 2, 1) := by decide +kernel
theorem dX9_gives_6 : decode cX9_gives 6 = .ok (.invokevirtual 56, 3) := by decide +kernel
theorem dX9_gives_9 : decode cX9_gives 9 = .ok (.iconst 4, 1) := by decide +kernel
theorem dX9_gives_10 : decode cX9_gives 10 = .ok (.iadd, 1) := by decide +kernel
theorem dX9_gives_11 : decode cX9_gives 11 = .ok (.iconst 5, 1) := by decide +kernel
theorem dX9_gives_12 : decode cX9_gives 12 = .ok (.iload_n 1, 1) := by decide +kernel
theorem dX9_gives_13 : decode cX9_gives 13 = .ok (.imul, 1) := by decide +kernel
theorem dX9_gives_14 : decode cX9_gives 14 = .ok (.iadd, 1) := by decide +kernel
theorem dX9_gives_15 : decode cX9_gives 15 = .ok (.iload_n 3, 1) := by decide +kernel
theorem dX9_gives_16 : decode cX9_gives 16 = .ok (.iadd, 1) := by decide +kernel
theorem dX9_gives_17 : decode cX9_gives 17 = .ok (.dup2, 1) := by decide +kernel
theorem dX9_gives_18 : decode cX9_gives 18 = .ok (.iaload, 1) := by decide +kernel
theorem dX9_gives_19 : decode cX9_gives 19 = .ok (.iload 4, 2) := by decide +kernel
theorem dX9_gives_21 : decode cX9_gives 21 = .ok (.iadd, 1) := by decide +kernel
theorem dX9_gives_22 : decode cX9_gives 22 = .ok (.iastore, 1) := by decide +kernel
theorem dX9_gives_23 : decode cX9_gives 23 = .ok (.aload_n 0, 1) := by decide +kernel
theorem dX9_gives_24 : decode cX9_gives 24 = .ok (.iload_n 2, 1) := by decide +kernel
theorem dX9_gives_25 : decode cX9_gives 25 = .ok (.invokevirtual 89, 3) := by decide +kernel
theorem dX9_gives_28 : decode cX9_gives 28 = .ok (.return_, 1) := by decide +kernel
theorem dX9_wrongPair_0 : decode cX9_wrongPair 0 = .ok (.aload_n 0, 1) := by decide +kernel
theorem dX9_wrongPair_1 : decode cX9_wrongPair 1 = .ok (.iload_n 2, 1) := by decide +kernel
theorem dX9_wrongPair_2 : decode cX9_wrongPair 2 = .ok (.invokevirtual 96, 3) := by decide +kernel
theorem dX9_wrongPair_5 : decode cX9_wrongPair 5 = .ok (.ifCond .eq 20, 3) := by decide +kernel
theorem dX9_wrongPair_8 : decode cX9_wrongPair 8 = .ok (.aload_n 0, 1) := by decide +kernel
theorem dX9_wrongPair_9 : decode cX9_wrongPair 9 = .ok (.iload_n 3, 1) := by decide +kernel
theorem dX9_wrongPair_10 : decode cX9_wrongPair 10 = .ok (.invokevirtual 96, 3) := by decide +kernel
theorem dX9_wrongPair_13 : decode cX9_wrongPair 13 = .ok (.ifCond .eq 12, 3) := by decide +kernel
theorem dX9_wrongPair_16 : decode cX9_wrongPair 16 = .ok (.iload_n 1, 1) := by decide +kernel
theorem dX9_wrongPair_17 : decode cX9_wrongPair 17 = .ok (.iconst 0, 1) := by decide +kernel
theorem dX9_wrongPair_18 : decode cX9_wrongPair 18 = .ok (.iconst 1, 1) := by decide +kernel
theorem dX9_wrongPair_19 : decode cX9_wrongPair 19 = .ok (.invokestatic 48, 3) := by decide +kernel
theorem dX9_wrongPair_22 : decode cX9_wrongPair 22 = .ok (.ifCond .ne 7, 3) := by decide +kernel
theorem dX9_wrongPair_25 : decode cX9_wrongPair 25 = .ok (.iconst 1, 1) := by decide +kernel
theorem dX9_wrongPair_26 : decode cX9_wrongPair 26 = .ok (.goto 18, 3) := by decide +kernel
theorem dX9_wrongPair_29 : decode cX9_wrongPair 29 = .ok (.iload_n 2, 1) := by decide +kernel
theorem dX9_wrongPair_30 : decode cX9_wrongPair 30 = .ok (.iload_n 3, 1) := by decide +kernel
theorem dX9_wrongPair_31 : decode cX9_wrongPair 31 = .ok (.if_icmp .eq 8, 3) := by decide +kernel
theorem dX9_wrongPair_34 : decode cX9_wrongPair 34 = .ok (.iload 4, 2) := by decide +kernel
theorem dX9_wrongPair_36 : decode cX9_wrongPair 36 = .ok (.ifCond .ne 7, 3) := by decide +kernel
theorem dX9_wrongPair_39 : decode cX9_wrongPair 39 = .ok (.iconst 2, 1) := by decide +kernel
theorem dX9_wrongPair_40 : decode cX9_wrongPair 40 = .ok (.goto 4, 3) := by decide +kernel
theorem dX9_wrongPair_43 : decode cX9_wrongPair 43 = .ok (.iconst 0, 1) := by decide +kernel
theorem dX9_wrongPair_44 : decode cX9_wrongPair 44 = .ok (.ireturn, 1) := by decide +kernel
theorem dX9_transfer_0 : decode cX9_transfer 0 = .ok (.aload_n 0, 1) := by decide +kernel
theorem dX9_transfer_1 : decode cX9_transfer 1 = .ok (.aload_n 0, 1) := by decide +kernel
theorem dX9_transfer_2 : decode cX9_transfer 2 = .ok (.iload_n 1, 1) := by decide +kernel
theorem dX9_transfer_3 : decode cX9_transfer 3 = .ok (.iload_n 2, 1) := by decide +kernel
theorem dX9_transfer_4 : decode cX9_transfer 4 = .ok (.iload_n 3, 1) := by decide +kernel
theorem dX9_transfer_5 : decode cX9_transfer 5 = .ok (.iload 4, 2) := by decide +kernel
theorem dX9_transfer_7 : decode cX9_transfer 7 = .ok (.iconst 1, 1) := by decide +kernel
theorem dX9_transfer_8 : decode cX9_transfer 8 = .ok (.sipush 999, 3) := by decide +kernel
theorem dX9_transfer_11 : decode cX9_transfer 11 = .ok (.invokestatic 48, 3) := by decide +kernel
theorem dX9_transfer_14 : decode cX9_transfer 14 = .ok (.invokevirtual 115, 3) := by decide +kernel
theorem dX9_transfer_17 : decode cX9_transfer 17 = .ok (.putfield 42, 3) := by decide +kernel
theorem dX9_transfer_20 : decode cX9_transfer 20 = .ok (.aload_n 0, 1) := by decide +kernel
theorem dX9_transfer_21 : decode cX9_transfer 21 = .ok (.getfield 42, 3) := by decide +kernel
theorem dX9_transfer_24 : decode cX9_transfer 24 = .ok (.ifCond .ne 19, 3) := by decide +kernel
theorem dX9_transfer_27 : decode cX9_transfer 27 = .ok (.aload_n 0, 1) := by decide +kernel
theorem dX9_transfer_28 : decode cX9_transfer 28 = .ok (.iload_n 2, 1) := by decide +kernel
theorem dX9_transfer_29 : decode cX9_transfer 29 = .ok (.iload_n 1, 1) := by decide +kernel
theorem dX9_transfer_30 : decode cX9_transfer 30 = .ok (.invokevirtual 79, 3) := by decide +kernel
theorem dX9_transfer_33 : decode cX9_transfer 33 = .ok (.iload 4, 2) := by decide +kernel
theorem dX9_transfer_35 : decode cX9_transfer 35 = .ok (.if_icmp .ge 8, 3) := by decide +kernel
theorem dX9_transfer_38 : decode cX9_transfer 38 = .ok (.aload_n 0, 1) := by decide +kernel
theorem dX9_transfer_39 : decode cX9_transfer 39 = .ok (.iconst 3, 1) := by decide +kernel
theorem dX9_transfer_40 : decode cX9_transfer 40 = .ok (.putfield 42, 3) := by decide +kernel
theorem dX9_transfer_43 : decode cX9_transfer 43 = .ok (.aload_n 0, 1) := by decide +kernel
theorem dX9_transfer_44 : decode cX9_transfer 44 = .ok (.getfield 42, 3) := by decide +kernel
theorem dX9_transfer_47 : decode cX9_transfer 47 = .ok (.ifCond .eq 5, 3) := by decide +kernel
theorem dX9_transfer_50 : decode cX9_transfer 50 = .ok (.iconst 0, 1) := by decide +kernel
theorem dX9_transfer_51 : decode cX9_transfer 51 = .ok (.ireturn, 1) := by decide +kernel
theorem dX9_transfer_52 : decode cX9_transfer 52 = .ok (.aload_n 0, 1) := by decide +kernel
theorem dX9_transfer_53 : decode cX9_transfer 53 = .ok (.invokevirtual 99, 3) := by decide +kernel
theorem dX9_transfer_56 : decode cX9_transfer 56 = .ok (.aload_n 0, 1) := by decide +kernel
theorem dX9_transfer_57 : decode cX9_transfer 57 = .ok (.iload_n 1, 1) := by decide +kernel
theorem dX9_transfer_58 : decode cX9_transfer 58 = .ok (.iload_n 2, 1) := by decide +kernel
theorem dX9_transfer_59 : decode cX9_transfer 59 = .ok (.iload_n 3, 1) := by decide +kernel
theorem dX9_transfer_60 : decode cX9_transfer 60 = .ok (.iload 4, 2) := by decide +kernel
theorem dX9_transfer_62 : decode cX9_transfer 62 = .ok (.invokevirtual 119, 3) := by decide +kernel
theorem dX9_transfer_65 : decode cX9_transfer 65 = .ok (.aload_n 0, 1) := by decide +kernel
theorem dX9_transfer_66 : decode cX9_transfer 66 = .ok (.iload_n 2, 1) := by decide +kernel
theorem dX9_transfer_67 : decode cX9_transfer 67 = .ok (.iload_n 1, 1) := by decide +kernel
theorem dX9_transfer_68 : decode cX9_transfer 68 = .ok (.invokevirtual 79, 3) := by decide +kernel
theorem dX9_transfer_71 : decode cX9_transfer 71 = .ok (.ireturn, 1) := by decide +kernel
theorem dX9_lend_0 : decode cX9_lend 0 = .ok (.aload_n 0, 1) := by decide +kernel
theorem dX9_lend_1 : decode cX9_lend 1 = .ok (.aload_n 0, 1) := by decide +kernel
theorem dX9_lend_2 : decode cX9_lend 2 = .ok (.iload_n 1, 1) := by decide +kernel
theorem dX9_lend_3 : decode cX9_lend 3 = .ok (.iload_n 2, 1) := by decide +kernel
theorem dX9_lend_4 : decode cX9_lend 4 = .ok (.iload_n 3, 1) := by decide +kernel
theorem dX9_lend_5 : decode cX9_lend 5 = .ok (.iload 4, 2) := by decide +kernel
theorem dX9_lend_7 : decode cX9_lend 7 = .ok (.iconst 1, 1) := by decide +kernel
theorem dX9_lend_8 : decode cX9_lend 8 = .ok (.sipush 999, 3) := by decide +kernel
theorem dX9_lend_11 : decode cX9_lend 11 = .ok (.invokestatic 48, 3) := by decide +kernel
theorem dX9_lend_14 : decode cX9_lend 14 = .ok (.ifCond .eq 19, 3) := by decide +kernel
theorem dX9_lend_17 : decode cX9_lend 17 = .ok (.iload 5, 2) := by decide +kernel
theorem dX9_lend_19 : decode cX9_lend 19 = .ok (.iconst 1, 1) := by decide +kernel
theorem dX9_lend_20 : decode cX9_lend 20 = .ok (.sipush 1000, 3) := by decide +kernel
theorem dX9_lend_23 : decode cX9_lend 23 = .ok (.invokestatic 48, 3) := by decide +kernel
theorem dX9_lend_26 : decode cX9_lend 26 = .ok (.ifCond .eq 7, 3) := by decide +kernel
theorem dX9_lend_29 : decode cX9_lend 29 = .ok (.iconst 1, 1) := by decide +kernel
theorem dX9_lend_30 : decode cX9_lend 30 = .ok (.goto 4, 3) := by decide +kernel
theorem dX9_lend_33 : decode cX9_lend 33 = .ok (.iconst 0, 1) := by decide +kernel
theorem dX9_lend_34 : decode cX9_lend 34 = .ok (.invokevirtual 115, 3) := by decide +kernel
theorem dX9_lend_37 : decode cX9_lend 37 = .ok (.putfield 42, 3) := by decide +kernel
theorem dX9_lend_40 : decode cX9_lend 40 = .ok (.aload_n 0, 1) := by decide +kernel
theorem dX9_lend_41 : decode cX9_lend 41 = .ok (.getfield 42, 3) := by decide +kernel
theorem dX9_lend_44 : decode cX9_lend 44 = .ok (.ifCond .ne 30, 3) := by decide +kernel
theorem dX9_lend_47 : decode cX9_lend 47 = .ok (.aload_n 0, 1) := by decide +kernel
theorem dX9_lend_48 : decode cX9_lend 48 = .ok (.getfield 7, 3) := by decide +kernel
theorem dX9_lend_51 : decode cX9_lend 51 = .ok (.iconst 4, 1) := by decide +kernel
theorem dX9_lend_52 : decode cX9_lend 52 = .ok (.iaload, 1) := by decide +kernel
theorem dX9_lend_53 : decode cX9_lend 53 = .ok (.bipush 10, 2) := by decide +kernel
theorem dX9_lend_55 : decode cX9_lend 55 = .ok (.if_icmp .eq 14, 3) := by decide +kernel
theorem dX9_lend_58 : decode cX9_lend 58 = .ok (.aload_n 0, 1) := by decide +kernel
theorem dX9_lend_59 : decode cX9_lend 59 = .ok (.iload_n 2, 1) := by decide +kernel
theorem dX9_lend_60 : decode cX9_lend 60 = .ok (.iload_n 1, 1) := by decide +kernel
theorem dX9_lend_61 : decode cX9_lend 61 = .ok (.invokevirtual 79, 3) := by decide +kernel
theorem dX9_lend_64 : decode cX9_lend 64 = .ok (.iload 4, 2) := by decide +kernel
theorem dX9_lend_66 : decode cX9_lend 66 = .ok (.if_icmp .ge 8, 3) := by decide +kernel
theorem dX9_lend_69 : decode cX9_lend 69 = .ok (.aload_n 0, 1) := by decide +kernel
theorem dX9_lend_70 : decode cX9_lend 70 = .ok (.iconst 3, 1) := by decide +kernel
theorem dX9_lend_71 : decode cX9_lend 71 = .ok (.putfield 42, 3) := by decide +kernel
theorem dX9_lend_74 : decode cX9_lend 74 = .ok (.aload_n 0, 1) := by decide +kernel
theorem dX9_lend_75 : decode cX9_lend 75 = .ok (.getfield 42, 3) := by decide +kernel
theorem dX9_lend_78 : decode cX9_lend 78 = .ok (.ifCond .eq 5, 3) := by decide +kernel
theorem dX9_lend_81 : decode cX9_lend 81 = .ok (.iconst 0, 1) := by decide +kernel
theorem dX9_lend_82 : decode cX9_lend 82 = .ok (.ireturn, 1) := by decide +kernel
theorem dX9_lend_83 : decode cX9_lend 83 = .ok (.aload_n 0, 1) := by decide +kernel
theorem dX9_lend_84 : decode cX9_lend 84 = .ok (.invokevirtual 99, 3) := by decide +kernel
theorem dX9_lend_87 : decode cX9_lend 87 = .ok (.aload_n 0, 1) := by decide +kernel
theorem dX9_lend_88 : decode cX9_lend 88 = .ok (.getfield 7, 3) := by decide +kernel
theorem dX9_lend_91 : decode cX9_lend 91 = .ok (.iconst 4, 1) := by decide +kernel
theorem dX9_lend_92 : decode cX9_lend 92 = .ok (.iaload, 1) := by decide +kernel
theorem dX9_lend_93 : decode cX9_lend 93 = .ok (.istore 6, 2) := by decide +kernel
theorem dX9_lend_95 : decode cX9_lend 95 = .ok (.iload 6, 2) := by decide +kernel
theorem dX9_lend_97 : decode cX9_lend 97 = .ok (.invokestatic 60, 3) := by decide +kernel
theorem dX9_lend_100 : decode cX9_lend 100 = .ok (.istore 7, 2) := by decide +kernel
theorem dX9_lend_102 : decode cX9_lend 102 = .ok (.aload_n 0, 1) := by decide +kernel
theorem dX9_lend_103 : decode cX9_lend 103 = .ok (.getfield 7, 3) := by decide +kernel
theorem dX9_lend_106 : decode cX9_lend 106 = .ok (.iload 7, 2) := by decide +kernel
theorem dX9_lend_108 : decode cX9_lend 108 = .ok (.iload_n 2, 1) := by decide +kernel
theorem dX9_lend_109 : decode cX9_lend 109 = .ok (.iastore, 1) := by decide +kernel
theorem dX9_lend_110 : decode cX9_lend 110 = .ok (.aload_n 0, 1) := by decide +kernel
theorem dX9_lend_111 : decode cX9_lend 111 = .ok (.getfield 7, 3) := by decide +kernel
theorem dX9_lend_114 : decode cX9_lend 114 = .ok (.iload 7, 2) := by decide +kernel
theorem dX9_lend_116 : decode cX9_lend 116 = .ok (.iconst 1, 1) := by decide +kernel
theorem dX9_lend_117 : decode cX9_lend 117 = .ok (.iadd, 1) := by decide +kernel
theorem dX9_lend_118 : decode cX9_lend 118 = .ok (.iload_n 3, 1) := by decide +kernel
theorem dX9_lend_119 : decode cX9_lend 119 = .ok (.iastore, 1) := by decide +kernel
theorem dX9_lend_120 : decode cX9_lend 120 = .ok (.aload_n 0, 1) := by decide +kernel
theorem dX9_lend_121 : decode cX9_lend 121 = .ok (.getfield 7, 3) := by decide +kernel
theorem dX9_lend_124 : decode cX9_lend 124 = .ok (.iload 7, 2) := by decide +kernel
theorem dX9_lend_126 : decode cX9_lend 126 = .ok (.iconst 2, 1) := by decide +kernel
theorem dX9_lend_127 : decode cX9_lend 127 = .ok (.iadd, 1) := by decide +kernel
theorem dX9_lend_128 : decode cX9_lend 128 = .ok (.iload_n 1, 1) := by decide +kernel
theorem dX9_lend_129 : decode cX9_lend 129 = .ok (.iastore, 1) := by decide +kernel
theorem dX9_lend_130 : decode cX9_lend 130 = .ok (.aload_n 0, 1) := by decide +kernel
theorem dX9_lend_131 : decode cX9_lend 131 = .ok (.getfield 7, 3) := by decide +kernel
theorem dX9_lend_134 : decode cX9_lend 134 = .ok (.iload 7, 2) := by decide +kernel
theorem dX9_lend_136 : decode cX9_lend 136 = .ok (.iconst 3, 1) := by decide +kernel
theorem dX9_lend_137 : decode cX9_lend 137 = .ok (.iadd, 1) := by decide +kernel
theorem dX9_lend_138 : decode cX9_lend 138 = .ok (.iload 4, 2) := by decide +kernel
theorem dX9_lend_140 : decode cX9_lend 140 = .ok (.iastore, 1) := by decide +kernel
theorem dX9_lend_141 : decode cX9_lend 141 = .ok (.aload_n 0, 1) := by decide +kernel
theorem dX9_lend_142 : decode cX9_lend 142 = .ok (.getfield 7, 3) := by decide +kernel
theorem dX9_lend_145 : decode cX9_lend 145 = .ok (.iload 7, 2) := by decide +kernel
theorem dX9_lend_147 : decode cX9_lend 147 = .ok (.iconst 4, 1) := by decide +kernel
theorem dX9_lend_148 : decode cX9_lend 148 = .ok (.iadd, 1) := by decide +kernel
theorem dX9_lend_149 : decode cX9_lend 149 = .ok (.aload_n 0, 1) := by decide +kernel
theorem dX9_lend_150 : decode cX9_lend 150 = .ok (.getfield 7, 3) := by decide +kernel
theorem dX9_lend_153 : decode cX9_lend 153 = .ok (.iconst 0, 1) := by decide +kernel
theorem dX9_lend_154 : decode cX9_lend 154 = .ok (.iaload, 1) := by decide +kernel
theorem dX9_lend_155 : decode cX9_lend 155 = .ok (.iload 5, 2) := by decide +kernel
theorem dX9_lend_157 : decode cX9_lend 157 = .ok (.iadd, 1) := by decide +kernel
theorem dX9_lend_158 : decode cX9_lend 158 = .ok (.iastore, 1) := by decide +kernel
theorem dX9_lend_159 : decode cX9_lend 159 = .ok (.aload_n 0, 1) := by decide +kernel
theorem dX9_lend_160 : decode cX9_lend 160 = .ok (.getfield 7, 3) := by decide +kernel
theorem dX9_lend_163 : decode cX9_lend 163 = .ok (.aload_n 0, 1) := by decide +kernel
theorem dX9_lend_164 : decode cX9_lend 164 = .ok (.iload_n 2, 1) := by decide +kernel
theorem dX9_lend_165 : decode cX9_lend 165 = .ok (.invokevirtual 56, 3) := by decide +kernel
theorem dX9_lend_168 : decode cX9_lend 168 = .ok (.bipush 16, 2) := by decide +kernel
theorem dX9_lend_170 : decode cX9_lend 170 = .ok (.iadd, 1) := by decide +kernel
theorem dX9_lend_171 : decode cX9_lend 171 = .ok (.dup2, 1) := by decide +kernel
theorem dX9_lend_172 : decode cX9_lend 172 = .ok (.iaload, 1) := by decide +kernel
theorem dX9_lend_173 : decode cX9_lend 173 = .ok (.iconst 1, 1) := by decide +kernel
theorem dX9_lend_174 : decode cX9_lend 174 = .ok (.iload 6, 2) := by decide +kernel
theorem dX9_lend_176 : decode cX9_lend 176 = .ok (.ishl, 1) := by decide +kernel
theorem dX9_lend_177 : decode cX9_lend 177 = .ok (.ior, 1) := by decide +kernel
theorem dX9_lend_178 : decode cX9_lend 178 = .ok (.iastore, 1) := by decide +kernel
theorem dX9_lend_179 : decode cX9_lend 179 = .ok (.aload_n 0, 1) := by decide +kernel
theorem dX9_lend_180 : decode cX9_lend 180 = .ok (.getfield 7, 3) := by decide +kernel
theorem dX9_lend_183 : decode cX9_lend 183 = .ok (.iconst 4, 1) := by decide +kernel
theorem dX9_lend_184 : decode cX9_lend 184 = .ok (.dup2, 1) := by decide +kernel
theorem dX9_lend_185 : decode cX9_lend 185 = .ok (.iaload, 1) := by decide +kernel
theorem dX9_lend_186 : decode cX9_lend 186 = .ok (.iconst 1, 1) := by decide +kernel
theorem dX9_lend_187 : decode cX9_lend 187 = .ok (.iadd, 1) := by decide +kernel
theorem dX9_lend_188 : decode cX9_lend 188 = .ok (.iastore, 1) := by decide +kernel
theorem dX9_lend_189 : decode cX9_lend 189 = .ok (.aload_n 0, 1) := by decide +kernel
theorem dX9_lend_190 : decode cX9_lend 190 = .ok (.iload_n 2, 1) := by decide +kernel
theorem dX9_lend_191 : decode cX9_lend 191 = .ok (.invokevirtual 89, 3) := by decide +kernel
theorem dX9_lend_194 : decode cX9_lend 194 = .ok (.iload 6, 2) := by decide +kernel
theorem dX9_lend_196 : decode cX9_lend 196 = .ok (.ireturn, 1) := by decide +kernel
theorem dX9_rebalance_0 : decode cX9_rebalance 0 = .ok (.aload_n 0, 1) := by decide +kernel
theorem dX9_rebalance_1 : decode cX9_rebalance 1 = .ok (.aload_n 0, 1) := by decide +kernel
theorem dX9_rebalance_2 : decode cX9_rebalance 2 = .ok (.iload_n 1, 1) := by decide +kernel
theorem dX9_rebalance_3 : decode cX9_rebalance 3 = .ok (.invokevirtual 96, 3) := by decide +kernel
theorem dX9_rebalance_6 : decode cX9_rebalance 6 = .ok (.ifCond .eq 16, 3) := by decide +kernel
theorem dX9_rebalance_9 : decode cX9_rebalance 9 = .ok (.iload_n 2, 1) := by decide +kernel
theorem dX9_rebalance_10 : decode cX9_rebalance 10 = .ok (.iconst 0, 1) := by decide +kernel
theorem dX9_rebalance_11 : decode cX9_rebalance 11 = .ok (.iconst 1, 1) := by decide +kernel
theorem dX9_rebalance_12 : decode cX9_rebalance 12 = .ok (.invokestatic 48, 3) := by decide +kernel
theorem dX9_rebalance_15 : decode cX9_rebalance 15 = .ok (.ifCond .eq 7, 3) := by decide +kernel
theorem dX9_rebalance_18 : decode cX9_rebalance 18 = .ok (.iconst 0, 1) := by decide +kernel
theorem dX9_rebalance_19 : decode cX9_rebalance 19 = .ok (.goto 4, 3) := by decide +kernel
theorem dX9_rebalance_22 : decode cX9_rebalance 22 = .ok (.iconst 1, 1) := by decide +kernel
theorem dX9_rebalance_23 : decode cX9_rebalance 23 = .ok (.putfield 42, 3) := by decide +kernel
theorem dX9_rebalance_26 : decode cX9_rebalance 26 = .ok (.aload_n 0, 1) := by decide +kernel
theorem dX9_rebalance_27 : decode cX9_rebalance 27 = .ok (.getfield 42, 3) := by decide +kernel
theorem dX9_rebalance_30 : decode cX9_rebalance 30 = .ok (.ifCond .eq 5, 3) := by decide +kernel
theorem dX9_rebalance_33 : decode cX9_rebalance 33 = .ok (.iconst 0, 1) := by decide +kernel
theorem dX9_rebalance_34 : decode cX9_rebalance 34 = .ok (.ireturn, 1) := by decide +kernel
theorem dX9_rebalance_35 : decode cX9_rebalance 35 = .ok (.lconst 0, 1) := by decide +kernel
theorem dX9_rebalance_36 : decode cX9_rebalance 36 = .ok (.lstore_n 3, 1) := by decide +kernel
theorem dX9_rebalance_37 : decode cX9_rebalance 37 = .ok (.iconst 0, 1) := by decide +kernel
theorem dX9_rebalance_38 : decode cX9_rebalance 38 = .ok (.istore 5, 2) := by decide +kernel
theorem dX9_rebalance_40 : decode cX9_rebalance 40 = .ok (.iload 5, 2) := by decide +kernel
theorem dX9_rebalance_42 : decode cX9_rebalance 42 = .ok (.aload_n 0, 1) := by decide +kernel
theorem dX9_rebalance_43 : decode cX9_rebalance 43 = .ok (.getfield 34, 3) := by decide +kernel
theorem dX9_rebalance_46 : decode cX9_rebalance 46 = .ok (.if_icmp .ge 29, 3) := by decide +kernel
theorem dX9_rebalance_49 : decode cX9_rebalance 49 = .ok (.lload_n 3, 1) := by decide +kernel
theorem dX9_rebalance_50 : decode cX9_rebalance 50 = .ok (.aload_n 0, 1) := by decide +kernel
theorem dX9_rebalance_51 : decode cX9_rebalance 51 = .ok (.getfield 7, 3) := by decide +kernel
theorem dX9_rebalance_54 : decode cX9_rebalance 54 = .ok (.iload_n 1, 1) := by decide +kernel
theorem dX9_rebalance_55 : decode cX9_rebalance 55 = .ok (.iload 5, 2) := by decide +kernel
theorem dX9_rebalance_57 : decode cX9_rebalance 57 = .ok (.invokestatic 52, 3) := by decide +kernel
theorem dX9_rebalance_60 : decode cX9_rebalance 60 = .ok (.bipush 14, 2) := by decide +kernel
theorem dX9_rebalance_62 : decode cX9_rebalance 62 = .ok (.iadd, 1) := by decide +kernel
theorem dX9_rebalance_63 : decode cX9_rebalance 63 = .ok (.iload_n 2, 1) := by decide +kernel
theorem dX9_rebalance_64 : decode cX9_rebalance 64 = .ok (.iadd, 1) := by decide +kernel
theorem dX9_rebalance_65 : decode cX9_rebalance 65 = .ok (.iaload, 1) := by decide +kernel
theorem dX9_rebalance_66 : decode cX9_rebalance 66 = .ok (.i2l, 1) := by decide +kernel
theorem dX9_rebalance_67 : decode cX9_rebalance 67 = .ok (.ladd, 1) := by decide +kernel
theorem dX9_rebalance_68 : decode cX9_rebalance 68 = .ok (.lstore_n 3, 1) := by decide +kernel
theorem dX9_rebalance_69 : decode cX9_rebalance 69 = .ok (.iinc 5 1, 3) := by decide +kernel
theorem dX9_rebalance_72 : decode cX9_rebalance 72 = .ok (.goto (-32), 3) := by decide +kernel
theorem dX9_rebalance_75 : decode cX9_rebalance 75 = .ok (.aload_n 0, 1) := by decide +kernel
theorem dX9_rebalance_76 : decode cX9_rebalance 76 = .ok (.iload_n 1, 1) := by decide +kernel
theorem dX9_rebalance_77 : decode cX9_rebalance 77 = .ok (.iload_n 2, 1) := by decide +kernel
theorem dX9_rebalance_78 : decode cX9_rebalance 78 = .ok (.invokevirtual 79, 3) := by decide +kernel
theorem dX9_rebalance_81 : decode cX9_rebalance 81 = .ok (.i2l, 1) := by decide +kernel
theorem dX9_rebalance_82 : decode cX9_rebalance 82 = .ok (.lstore 5, 2) := by decide +kernel
theorem dX9_rebalance_84 : decode cX9_rebalance 84 = .ok (.iconst 0, 1) := by decide +kernel
theorem dX9_rebalance_85 : decode cX9_rebalance 85 = .ok (.istore 7, 2) := by decide +kernel
theorem dX9_rebalance_87 : decode cX9_rebalance 87 = .ok (.iconst 0, 1) := by decide +kernel
theorem dX9_rebalance_88 : decode cX9_rebalance 88 = .ok (.istore 8, 2) := by decide +kernel
theorem dX9_rebalance_90 : decode cX9_rebalance 90 = .ok (.iload 8, 2) := by decide +kernel
theorem dX9_rebalance_92 : decode cX9_rebalance 92 = .ok (.aload_n 0, 1) := by decide +kernel
theorem dX9_rebalance_93 : decode cX9_rebalance 93 = .ok (.getfield 34, 3) := by decide +kernel
theorem dX9_rebalance_96 : decode cX9_rebalance 96 = .ok (.if_icmp .ge 86, 3) := by decide +kernel
theorem dX9_rebalance_99 : decode cX9_rebalance 99 = .ok (.lload_n 3, 1) := by decide +kernel
theorem dX9_rebalance_100 : decode cX9_rebalance 100 = .ok (.lconst 0, 1) := by decide +kernel
theorem dX9_rebalance_101 : decode cX9_rebalance 101 = .ok (.lcmp, 1) := by decide +kernel
theorem dX9_rebalance_102 : decode cX9_rebalance 102 = .ok (.ifCond .le 80, 3) := by decide +kernel
theorem dX9_rebalance_105 : decode cX9_rebalance 105 = .ok (.iload 8, 2) := by decide +kernel
theorem dX9_rebalance_107 : decode cX9_rebalance 107 = .ok (.iload_n 1, 1) := by decide +kernel
theorem dX9_rebalance_108 : decode cX9_rebalance 108 = .ok (.if_icmp .ne 7, 3) := by decide +kernel
theorem dX9_rebalance_111 : decode cX9_rebalance 111 = .ok (.iconst 0, 1) := by decide +kernel
theorem dX9_rebalance_112 : decode cX9_rebalance 112 = .ok (.goto 26, 3) := by decide +kernel
theorem dX9_rebalance_115 : decode cX9_rebalance 115 = .ok (.lload 5, 2) := by decide +kernel
theorem dX9_rebalance_117 : decode cX9_rebalance 117 = .ok (.aload_n 0, 1) := by decide +kernel
theorem dX9_rebalance_118 : decode cX9_rebalance 118 = .ok (.getfield 7, 3) := by decide +kernel
theorem dX9_rebalance_121 : decode cX9_rebalance 121 = .ok (.iload_n 1, 1) := by decide +kernel
theorem dX9_rebalance_122 : decode cX9_rebalance 122 = .ok (.iload 8, 2) := by decide +kernel
theorem dX9_rebalance_124 : decode cX9_rebalance 124 = .ok (.invokestatic 52, 3) := by decide +kernel
theorem dX9_rebalance_127 : decode cX9_rebalance 127 = .ok (.bipush 14, 2) := by decide +kernel
theorem dX9_rebalance_129 : decode cX9_rebalance 129 = .ok (.iadd, 1) := by decide +kernel
theorem dX9_rebalance_130 : decode cX9_rebalance 130 = .ok (.iload_n 2, 1) := by decide +kernel
theorem dX9_rebalance_131 : decode cX9_rebalance 131 = .ok (.iadd, 1) := by decide +kernel
theorem dX9_rebalance_132 : decode cX9_rebalance 132 = .ok (.iaload, 1) := by decide +kernel
theorem dX9_rebalance_133 : decode cX9_rebalance 133 = .ok (.i2l, 1) := by decide +kernel
theorem dX9_rebalance_134 : decode cX9_rebalance 134 = .ok (.lmul, 1) := by decide +kernel
theorem dX9_rebalance_135 : decode cX9_rebalance 135 = .ok (.lload_n 3, 1) := by decide +kernel
theorem dX9_rebalance_136 : decode cX9_rebalance 136 = .ok (.ldiv, 1) := by decide +kernel
theorem dX9_rebalance_137 : decode cX9_rebalance 137 = .ok (.l2i, 1) := by decide +kernel
theorem dX9_rebalance_138 : decode cX9_rebalance 138 = .ok (.istore 9, 2) := by decide +kernel
theorem dX9_rebalance_140 : decode cX9_rebalance 140 = .ok (.iload 9, 2) := by decide +kernel
theorem dX9_rebalance_142 : decode cX9_rebalance 142 = .ok (.ifCond .le 12, 3) := by decide +kernel
theorem dX9_rebalance_145 : decode cX9_rebalance 145 = .ok (.iload 7, 2) := by decide +kernel
theorem dX9_rebalance_147 : decode cX9_rebalance 147 = .ok (.ifCond .ne 7, 3) := by decide +kernel
theorem dX9_rebalance_150 : decode cX9_rebalance 150 = .ok (.aload_n 0, 1) := by decide +kernel
theorem dX9_rebalance_151 : decode cX9_rebalance 151 = .ok (.invokevirtual 99, 3) := by decide +kernel
theorem dX9_rebalance_154 : decode cX9_rebalance 154 = .ok (.iload 9, 2) := by decide +kernel
theorem dX9_rebalance_156 : decode cX9_rebalance 156 = .ok (.ifCond .le 20, 3) := by decide +kernel
theorem dX9_rebalance_159 : decode cX9_rebalance 159 = .ok (.aload_n 0, 1) := by decide +kernel
theorem dX9_rebalance_160 : decode cX9_rebalance 160 = .ok (.iload_n 2, 1) := by decide +kernel
theorem dX9_rebalance_161 : decode cX9_rebalance 161 = .ok (.iload_n 1, 1) := by decide +kernel
theorem dX9_rebalance_162 : decode cX9_rebalance 162 = .ok (.iload 8, 2) := by decide +kernel
theorem dX9_rebalance_164 : decode cX9_rebalance 164 = .ok (.iload 9, 2) := by decide +kernel
theorem dX9_rebalance_166 : decode cX9_rebalance 166 = .ok (.invokevirtual 119, 3) := by decide +kernel
theorem dX9_rebalance_169 : decode cX9_rebalance 169 = .ok (.iload 7, 2) := by decide +kernel
theorem dX9_rebalance_171 : decode cX9_rebalance 171 = .ok (.iload 9, 2) := by decide +kernel
theorem dX9_rebalance_173 : decode cX9_rebalance 173 = .ok (.iadd, 1) := by decide +kernel
theorem dX9_rebalance_174 : decode cX9_rebalance 174 = .ok (.istore 7, 2) := by decide +kernel
theorem dX9_rebalance_176 : decode cX9_rebalance 176 = .ok (.iinc 8 1, 3) := by decide +kernel
theorem dX9_rebalance_179 : decode cX9_rebalance 179 = .ok (.goto (-89), 3) := by decide +kernel
theorem dX9_rebalance_182 : decode cX9_rebalance 182 = .ok (.iload 7, 2) := by decide +kernel
theorem dX9_rebalance_184 : decode cX9_rebalance 184 = .ok (.ireturn, 1) := by decide +kernel
theorem dX9_pass_0 : decode cX9_pass 0 = .ok (.aload_n 0, 1) := by decide +kernel
theorem dX9_pass_1 : decode cX9_pass 1 = .ok (.iload_n 1, 1) := by decide +kernel
theorem dX9_pass_2 : decode cX9_pass 2 = .ok (.iconst 1, 1) := by decide +kernel
theorem dX9_pass_3 : decode cX9_pass 3 = .ok (.sipush 1000, 3) := by decide +kernel
theorem dX9_pass_6 : decode cX9_pass 6 = .ok (.invokestatic 48, 3) := by decide +kernel
theorem dX9_pass_9 : decode cX9_pass 9 = .ok (.ifCond .ne 7, 3) := by decide +kernel
theorem dX9_pass_12 : decode cX9_pass 12 = .ok (.iconst 1, 1) := by decide +kernel
theorem dX9_pass_13 : decode cX9_pass 13 = .ok (.goto 21, 3) := by decide +kernel
theorem dX9_pass_16 : decode cX9_pass 16 = .ok (.aload_n 0, 1) := by decide +kernel
theorem dX9_pass_17 : decode cX9_pass 17 = .ok (.getfield 7, 3) := by decide +kernel
theorem dX9_pass_20 : decode cX9_pass 20 = .ok (.iconst 0, 1) := by decide +kernel
theorem dX9_pass_21 : decode cX9_pass 21 = .ok (.iaload, 1) := by decide +kernel
theorem dX9_pass_22 : decode cX9_pass 22 = .ok (.iload_n 1, 1) := by decide +kernel
theorem dX9_pass_23 : decode cX9_pass 23 = .ok (.iadd, 1) := by decide +kernel
theorem dX9_pass_24 : decode cX9_pass 24 = .ok (.ldc 123, 2) := by decide +kernel
theorem dX9_pass_26 : decode cX9_pass 26 = .ok (.if_icmp .le 7, 3) := by decide +kernel
theorem dX9_pass_29 : decode cX9_pass 29 = .ok (.iconst 2, 1) := by decide +kernel
theorem dX9_pass_30 : decode cX9_pass 30 = .ok (.goto 4, 3) := by decide +kernel
theorem dX9_pass_33 : decode cX9_pass 33 = .ok (.iconst 0, 1) := by decide +kernel
theorem dX9_pass_34 : decode cX9_pass 34 = .ok (.putfield 42, 3) := by decide +kernel
theorem dX9_pass_37 : decode cX9_pass 37 = .ok (.aload_n 0, 1) := by decide +kernel
theorem dX9_pass_38 : decode cX9_pass 38 = .ok (.getfield 42, 3) := by decide +kernel
theorem dX9_pass_41 : decode cX9_pass 41 = .ok (.ifCond .eq 5, 3) := by decide +kernel
theorem dX9_pass_44 : decode cX9_pass 44 = .ok (.iconst 0, 1) := by decide +kernel
theorem dX9_pass_45 : decode cX9_pass 45 = .ok (.ireturn, 1) := by decide +kernel
theorem dX9_pass_46 : decode cX9_pass 46 = .ok (.aload_n 0, 1) := by decide +kernel
theorem dX9_pass_47 : decode cX9_pass 47 = .ok (.invokevirtual 99, 3) := by decide +kernel
theorem dX9_pass_50 : decode cX9_pass 50 = .ok (.aload_n 0, 1) := by decide +kernel
theorem dX9_pass_51 : decode cX9_pass 51 = .ok (.getfield 7, 3) := by decide +kernel
theorem dX9_pass_54 : decode cX9_pass 54 = .ok (.iconst 0, 1) := by decide +kernel
theorem dX9_pass_55 : decode cX9_pass 55 = .ok (.dup2, 1) := by decide +kernel
theorem dX9_pass_56 : decode cX9_pass 56 = .ok (.iaload, 1) := by decide +kernel
theorem dX9_pass_57 : decode cX9_pass 57 = .ok (.iload_n 1, 1) := by decide +kernel
theorem dX9_pass_58 : decode cX9_pass 58 = .ok (.iadd, 1) := by decide +kernel
theorem dX9_pass_59 : decode cX9_pass 59 = .ok (.iastore, 1) := by decide +kernel
theorem dX9_pass_60 : decode cX9_pass 60 = .ok (.aload_n 0, 1) := by decide +kernel
theorem dX9_pass_61 : decode cX9_pass 61 = .ok (.getfield 7, 3) := by decide +kernel
theorem dX9_pass_64 : decode cX9_pass 64 = .ok (.iconst 0, 1) := by decide +kernel
theorem dX9_pass_65 : decode cX9_pass 65 = .ok (.iaload, 1) := by decide +kernel
theorem dX9_pass_66 : decode cX9_pass 66 = .ok (.ireturn, 1) := by decide +kernel
theorem dX9_messageAt_0 : decode cX9_messageAt 0 = .ok (.sipush 900, 3) := by decide +kernel
theorem dX9_messageAt_3 : decode cX9_messageAt 3 = .ok (.sipush 160, 3) := by decide +kernel
theorem dX9_messageAt_6 : decode cX9_messageAt 6 = .ok (.iload_n 0, 1) := by decide +kernel
theorem dX9_messageAt_7 : decode cX9_messageAt 7 = .ok (.imul, 1) := by decide +kernel
theorem dX9_messageAt_8 : decode cX9_messageAt 8 = .ok (.iadd, 1) := by decide +kernel
theorem dX9_messageAt_9 : decode cX9_messageAt 9 = .ok (.ireturn, 1) := by decide +kernel
theorem dX9_isMessage_0 : decode cX9_isMessage 0 = .ok (.iload_n 1, 1) := by decide +kernel
theorem dX9_isMessage_1 : decode cX9_isMessage 1 = .ok (.iconst 0, 1) := by decide +kernel
theorem dX9_isMessage_2 : decode cX9_isMessage 2 = .ok (.aload_n 0, 1) := by decide +kernel
theorem dX9_isMessage_3 : decode cX9_isMessage 3 = .ok (.getfield 7, 3) := by decide +kernel
theorem dX9_isMessage_6 : decode cX9_isMessage 6 = .ok (.iconst 5, 1) := by decide +kernel
theorem dX9_isMessage_7 : decode cX9_isMessage 7 = .ok (.iaload, 1) := by decide +kernel
theorem dX9_isMessage_8 : decode cX9_isMessage 8 = .ok (.iconst 1, 1) := by decide +kernel
theorem dX9_isMessage_9 : decode cX9_isMessage 9 = .ok (.isub, 1) := by decide +kernel
theorem dX9_isMessage_10 : decode cX9_isMessage 10 = .ok (.invokestatic 48, 3) := by decide +kernel
theorem dX9_isMessage_13 : decode cX9_isMessage 13 = .ok (.ireturn, 1) := by decide +kernel
theorem dX9_writes_0 : decode cX9_writes 0 = .ok (.iload_n 1, 1) := by decide +kernel
theorem dX9_writes_1 : decode cX9_writes 1 = .ok (.invokestatic 124, 3) := by decide +kernel
theorem dX9_writes_4 : decode cX9_writes 4 = .ok (.istore 4, 2) := by decide +kernel
theorem dX9_writes_6 : decode cX9_writes 6 = .ok (.aload_n 0, 1) := by decide +kernel
theorem dX9_writes_7 : decode cX9_writes 7 = .ok (.getfield 7, 3) := by decide +kernel
theorem dX9_writes_10 : decode cX9_writes 10 = .ok (.iload 4, 2) := by decide +kernel
theorem dX9_writes_12 : decode cX9_writes 12 = .ok (.iload_n 2, 1) := by decide +kernel
theorem dX9_writes_13 : decode cX9_writes 13 = .ok (.iastore, 1) := by decide +kernel
theorem dX9_writes_14 : decode cX9_writes 14 = .ok (.aload_n 0, 1) := by decide +kernel
theorem dX9_writes_15 : decode cX9_writes 15 = .ok (.getfield 7, 3) := by decide +kernel
theorem dX9_writes_18 : decode cX9_writes 18 = .ok (.iload 4, 2) := by decide +kernel
theorem dX9_writes_20 : decode cX9_writes 20 = .ok (.iconst 1, 1) := by decide +kernel
theorem dX9_writes_21 : decode cX9_writes 21 = .ok (.iadd, 1) := by decide +kernel
theorem dX9_writes_22 : decode cX9_writes 22 = .ok (.iload_n 3, 1) := by decide +kernel
theorem dX9_writes_23 : decode cX9_writes 23 = .ok (.iastore, 1) := by decide +kernel
theorem dX9_writes_24 : decode cX9_writes 24 = .ok (.aload_n 0, 1) := by decide +kernel
theorem dX9_writes_25 : decode cX9_writes 25 = .ok (.getfield 7, 3) := by decide +kernel
theorem dX9_writes_28 : decode cX9_writes 28 = .ok (.iload 4, 2) := by decide +kernel
theorem dX9_writes_30 : decode cX9_writes 30 = .ok (.iconst 2, 1) := by decide +kernel
theorem dX9_writes_31 : decode cX9_writes 31 = .ok (.iadd, 1) := by decide +kernel
theorem dX9_writes_32 : decode cX9_writes 32 = .ok (.aload_n 0, 1) := by decide +kernel
theorem dX9_writes_33 : decode cX9_writes 33 = .ok (.getfield 7, 3) := by decide +kernel
theorem dX9_writes_36 : decode cX9_writes 36 = .ok (.iconst 0, 1) := by decide +kernel
theorem dX9_writes_37 : decode cX9_writes 37 = .ok (.iaload, 1) := by decide +kernel
theorem dX9_writes_38 : decode cX9_writes 38 = .ok (.iastore, 1) := by decide +kernel
theorem dX9_writes_39 : decode cX9_writes 39 = .ok (.iconst 0, 1) := by decide +kernel
theorem dX9_writes_40 : decode cX9_writes 40 = .ok (.istore 5, 2) := by decide +kernel
theorem dX9_writes_42 : decode cX9_writes 42 = .ok (.iload 5, 2) := by decide +kernel
theorem dX9_writes_44 : decode cX9_writes 44 = .ok (.aload_n 0, 1) := by decide +kernel
theorem dX9_writes_45 : decode cX9_writes 45 = .ok (.getfield 34, 3) := by decide +kernel
theorem dX9_writes_48 : decode cX9_writes 48 = .ok (.if_icmp .ge 81, 3) := by decide +kernel
theorem dX9_writes_51 : decode cX9_writes 51 = .ok (.iconst 0, 1) := by decide +kernel
theorem dX9_writes_52 : decode cX9_writes 52 = .ok (.istore 6, 2) := by decide +kernel
theorem dX9_writes_54 : decode cX9_writes 54 = .ok (.iload 6, 2) := by decide +kernel
theorem dX9_writes_56 : decode cX9_writes 56 = .ok (.bipush 30, 2) := by decide +kernel
theorem dX9_writes_58 : decode cX9_writes 58 = .ok (.if_icmp .ge 41, 3) := by decide +kernel
theorem dX9_writes_61 : decode cX9_writes 61 = .ok (.aload_n 0, 1) := by decide +kernel
theorem dX9_writes_62 : decode cX9_writes 62 = .ok (.getfield 7, 3) := by decide +kernel
theorem dX9_writes_65 : decode cX9_writes 65 = .ok (.iload 4, 2) := by decide +kernel
theorem dX9_writes_67 : decode cX9_writes 67 = .ok (.iconst 3, 1) := by decide +kernel
theorem dX9_writes_68 : decode cX9_writes 68 = .ok (.iadd, 1) := by decide +kernel
theorem dX9_writes_69 : decode cX9_writes 69 = .ok (.bipush 30, 2) := by decide +kernel
theorem dX9_writes_71 : decode cX9_writes 71 = .ok (.iload 5, 2) := by decide +kernel
theorem dX9_writes_73 : decode cX9_writes 73 = .ok (.imul, 1) := by decide +kernel
theorem dX9_writes_74 : decode cX9_writes 74 = .ok (.iadd, 1) := by decide +kernel
theorem dX9_writes_75 : decode cX9_writes 75 = .ok (.iload 6, 2) := by decide +kernel
theorem dX9_writes_77 : decode cX9_writes 77 = .ok (.iadd, 1) := by decide +kernel
theorem dX9_writes_78 : decode cX9_writes 78 = .ok (.aload_n 0, 1) := by decide +kernel
theorem dX9_writes_79 : decode cX9_writes 79 = .ok (.getfield 7, 3) := by decide +kernel
theorem dX9_writes_82 : decode cX9_writes 82 = .ok (.iload_n 2, 1) := by decide +kernel
theorem dX9_writes_83 : decode cX9_writes 83 = .ok (.iload 5, 2) := by decide +kernel
theorem dX9_writes_85 : decode cX9_writes 85 = .ok (.invokestatic 52, 3) := by decide +kernel
theorem dX9_writes_88 : decode cX9_writes 88 = .ok (.iload 6, 2) := by decide +kernel
theorem dX9_writes_90 : decode cX9_writes 90 = .ok (.iadd, 1) := by decide +kernel
theorem dX9_writes_91 : decode cX9_writes 91 = .ok (.iaload, 1) := by decide +kernel
theorem dX9_writes_92 : decode cX9_writes 92 = .ok (.iastore, 1) := by decide +kernel
theorem dX9_writes_93 : decode cX9_writes 93 = .ok (.iinc 6 1, 3) := by decide +kernel
theorem dX9_writes_96 : decode cX9_writes 96 = .ok (.goto (-42), 3) := by decide +kernel
theorem dX9_writes_99 : decode cX9_writes 99 = .ok (.aload_n 0, 1) := by decide +kernel
theorem dX9_writes_100 : decode cX9_writes 100 = .ok (.getfield 7, 3) := by decide +kernel
theorem dX9_writes_103 : decode cX9_writes 103 = .ok (.iload 4, 2) := by decide +kernel
theorem dX9_writes_105 : decode cX9_writes 105 = .ok (.iconst 3, 1) := by decide +kernel
theorem dX9_writes_106 : decode cX9_writes 106 = .ok (.iadd, 1) := by decide +kernel
theorem dX9_writes_107 : decode cX9_writes 107 = .ok (.bipush 30, 2) := by decide +kernel
theorem dX9_writes_109 : decode cX9_writes 109 = .ok (.iload 5, 2) := by decide +kernel
theorem dX9_writes_111 : decode cX9_writes 111 = .ok (.imul, 1) := by decide +kernel
theorem dX9_writes_112 : decode cX9_writes 112 = .ok (.iadd, 1) := by decide +kernel
theorem dX9_writes_113 : decode cX9_writes 113 = .ok (.iconst 1, 1) := by decide +kernel
theorem dX9_writes_114 : decode cX9_writes 114 = .ok (.iadd, 1) := by decide +kernel
theorem dX9_writes_115 : decode cX9_writes 115 = .ok (.aload_n 0, 1) := by decide +kernel
theorem dX9_writes_116 : decode cX9_writes 116 = .ok (.iload_n 2, 1) := by decide +kernel
theorem dX9_writes_117 : decode cX9_writes 117 = .ok (.iload 5, 2) := by decide +kernel
theorem dX9_writes_119 : decode cX9_writes 119 = .ok (.invokevirtual 63, 3) := by decide +kernel
theorem dX9_writes_122 : decode cX9_writes 122 = .ok (.iastore, 1) := by decide +kernel
theorem dX9_writes_123 : decode cX9_writes 123 = .ok (.iinc 5 1, 3) := by decide +kernel
theorem dX9_writes_126 : decode cX9_writes 126 = .ok (.goto (-84), 3) := by decide +kernel
theorem dX9_writes_129 : decode cX9_writes 129 = .ok (.return_, 1) := by decide +kernel
theorem dX9_arrives_0 : decode cX9_arrives 0 = .ok (.iload_n 1, 1) := by decide +kernel
theorem dX9_arrives_1 : decode cX9_arrives 1 = .ok (.invokestatic 124, 3) := by decide +kernel
theorem dX9_arrives_4 : decode cX9_arrives 4 = .ok (.istore_n 2, 1) := by decide +kernel
theorem dX9_arrives_5 : decode cX9_arrives 5 = .ok (.aload_n 0, 1) := by decide +kernel
theorem dX9_arrives_6 : decode cX9_arrives 6 = .ok (.getfield 7, 3) := by decide +kernel
theorem dX9_arrives_9 : decode cX9_arrives 9 = .ok (.iload_n 2, 1) := by decide +kernel
theorem dX9_arrives_10 : decode cX9_arrives 10 = .ok (.iconst 1, 1) := by decide +kernel
theorem dX9_arrives_11 : decode cX9_arrives 11 = .ok (.iadd, 1) := by decide +kernel
theorem dX9_arrives_12 : decode cX9_arrives 12 = .ok (.iaload, 1) := by decide +kernel
theorem dX9_arrives_13 : decode cX9_arrives 13 = .ok (.istore_n 3, 1) := by decide +kernel
theorem dX9_arrives_14 : decode cX9_arrives 14 = .ok (.iconst 0, 1) := by decide +kernel
theorem dX9_arrives_15 : decode cX9_arrives 15 = .ok (.istore 4, 2) := by decide +kernel
theorem dX9_arrives_17 : decode cX9_arrives 17 = .ok (.iconst 0, 1) := by decide +kernel
theorem dX9_arrives_18 : decode cX9_arrives 18 = .ok (.istore 5, 2) := by decide +kernel
theorem dX9_arrives_20 : decode cX9_arrives 20 = .ok (.iload 5, 2) := by decide +kernel
theorem dX9_arrives_22 : decode cX9_arrives 22 = .ok (.aload_n 0, 1) := by decide +kernel
theorem dX9_arrives_23 : decode cX9_arrives 23 = .ok (.getfield 34, 3) := by decide +kernel
theorem dX9_arrives_26 : decode cX9_arrives 26 = .ok (.if_icmp .ge 148, 3) := by decide +kernel
theorem dX9_arrives_29 : decode cX9_arrives 29 = .ok (.iload_n 2, 1) := by decide +kernel
theorem dX9_arrives_30 : decode cX9_arrives 30 = .ok (.iconst 3, 1) := by decide +kernel
theorem dX9_arrives_31 : decode cX9_arrives 31 = .ok (.iadd, 1) := by decide +kernel
theorem dX9_arrives_32 : decode cX9_arrives 32 = .ok (.bipush 30, 2) := by decide +kernel
theorem dX9_arrives_34 : decode cX9_arrives 34 = .ok (.iload 5, 2) := by decide +kernel
theorem dX9_arrives_36 : decode cX9_arrives 36 = .ok (.imul, 1) := by decide +kernel
theorem dX9_arrives_37 : decode cX9_arrives 37 = .ok (.iadd, 1) := by decide +kernel
theorem dX9_arrives_38 : decode cX9_arrives 38 = .ok (.istore 6, 2) := by decide +kernel
theorem dX9_arrives_40 : decode cX9_arrives 40 = .ok (.iload_n 3, 1) := by decide +kernel
theorem dX9_arrives_41 : decode cX9_arrives 41 = .ok (.iload 5, 2) := by decide +kernel
theorem dX9_arrives_43 : decode cX9_arrives 43 = .ok (.invokestatic 52, 3) := by decide +kernel
theorem dX9_arrives_46 : decode cX9_arrives 46 = .ok (.istore 7, 2) := by decide +kernel
theorem dX9_arrives_48 : decode cX9_arrives 48 = .ok (.aload_n 0, 1) := by decide +kernel
theorem dX9_arrives_49 : decode cX9_arrives 49 = .ok (.getfield 7, 3) := by decide +kernel
theorem dX9_arrives_52 : decode cX9_arrives 52 = .ok (.iload 7, 2) := by decide +kernel
theorem dX9_arrives_54 : decode cX9_arrives 54 = .ok (.iconst 0, 1) := by decide +kernel
theorem dX9_arrives_55 : decode cX9_arrives 55 = .ok (.iadd, 1) := by decide +kernel
theorem dX9_arrives_56 : decode cX9_arrives 56 = .ok (.iaload, 1) := by decide +kernel
theorem dX9_arrives_57 : decode cX9_arrives 57 = .ok (.aload_n 0, 1) := by decide +kernel
theorem dX9_arrives_58 : decode cX9_arrives 58 = .ok (.getfield 7, 3) := by decide +kernel
theorem dX9_arrives_61 : decode cX9_arrives 61 = .ok (.iload 6, 2) := by decide +kernel
theorem dX9_arrives_63 : decode cX9_arrives 63 = .ok (.iconst 0, 1) := by decide +kernel
theorem dX9_arrives_64 : decode cX9_arrives 64 = .ok (.iadd, 1) := by decide +kernel
theorem dX9_arrives_65 : decode cX9_arrives 65 = .ok (.iaload, 1) := by decide +kernel
theorem dX9_arrives_66 : decode cX9_arrives 66 = .ok (.if_icmp .lt 45, 3) := by decide +kernel
theorem dX9_arrives_69 : decode cX9_arrives 69 = .ok (.aload_n 0, 1) := by decide +kernel
theorem dX9_arrives_70 : decode cX9_arrives 70 = .ok (.getfield 7, 3) := by decide +kernel
theorem dX9_arrives_73 : decode cX9_arrives 73 = .ok (.iload 7, 2) := by decide +kernel
theorem dX9_arrives_75 : decode cX9_arrives 75 = .ok (.iconst 0, 1) := by decide +kernel
theorem dX9_arrives_76 : decode cX9_arrives 76 = .ok (.iadd, 1) := by decide +kernel
theorem dX9_arrives_77 : decode cX9_arrives 77 = .ok (.iaload, 1) := by decide +kernel
theorem dX9_arrives_78 : decode cX9_arrives 78 = .ok (.aload_n 0, 1) := by decide +kernel
theorem dX9_arrives_79 : decode cX9_arrives 79 = .ok (.getfield 7, 3) := by decide +kernel
theorem dX9_arrives_82 : decode cX9_arrives 82 = .ok (.iload 6, 2) := by decide +kernel
theorem dX9_arrives_84 : decode cX9_arrives 84 = .ok (.iconst 0, 1) := by decide +kernel
theorem dX9_arrives_85 : decode cX9_arrives 85 = .ok (.iadd, 1) := by decide +kernel
theorem dX9_arrives_86 : decode cX9_arrives 86 = .ok (.iaload, 1) := by decide +kernel
theorem dX9_arrives_87 : decode cX9_arrives 87 = .ok (.if_icmp .ne 28, 3) := by decide +kernel
theorem dX9_arrives_90 : decode cX9_arrives 90 = .ok (.aload_n 0, 1) := by decide +kernel
theorem dX9_arrives_91 : decode cX9_arrives 91 = .ok (.getfield 7, 3) := by decide +kernel
theorem dX9_arrives_94 : decode cX9_arrives 94 = .ok (.iload 7, 2) := by decide +kernel
theorem dX9_arrives_96 : decode cX9_arrives 96 = .ok (.iconst 1, 1) := by decide +kernel
theorem dX9_arrives_97 : decode cX9_arrives 97 = .ok (.iadd, 1) := by decide +kernel
theorem dX9_arrives_98 : decode cX9_arrives 98 = .ok (.iaload, 1) := by decide +kernel
theorem dX9_arrives_99 : decode cX9_arrives 99 = .ok (.aload_n 0, 1) := by decide +kernel
theorem dX9_arrives_100 : decode cX9_arrives 100 = .ok (.getfield 7, 3) := by decide +kernel
theorem dX9_arrives_103 : decode cX9_arrives 103 = .ok (.iload 6, 2) := by decide +kernel
theorem dX9_arrives_105 : decode cX9_arrives 105 = .ok (.iconst 1, 1) := by decide +kernel
theorem dX9_arrives_106 : decode cX9_arrives 106 = .ok (.iadd, 1) := by decide +kernel
theorem dX9_arrives_107 : decode cX9_arrives 107 = .ok (.iaload, 1) := by decide +kernel
theorem dX9_arrives_108 : decode cX9_arrives 108 = .ok (.if_icmp .ge 7, 3) := by decide +kernel
theorem dX9_arrives_111 : decode cX9_arrives 111 = .ok (.iconst 1, 1) := by decide +kernel
theorem dX9_arrives_112 : decode cX9_arrives 112 = .ok (.goto 4, 3) := by decide +kernel
theorem dX9_arrives_115 : decode cX9_arrives 115 = .ok (.iconst 0, 1) := by decide +kernel
theorem dX9_arrives_116 : decode cX9_arrives 116 = .ok (.istore 8, 2) := by decide +kernel
theorem dX9_arrives_118 : decode cX9_arrives 118 = .ok (.iload 5, 2) := by decide +kernel
theorem dX9_arrives_120 : decode cX9_arrives 120 = .ok (.iload_n 3, 1) := by decide +kernel
theorem dX9_arrives_121 : decode cX9_arrives 121 = .ok (.if_icmp .eq 47, 3) := by decide +kernel
theorem dX9_arrives_124 : decode cX9_arrives 124 = .ok (.iload 8, 2) := by decide +kernel
theorem dX9_arrives_126 : decode cX9_arrives 126 = .ok (.ifCond .eq 42, 3) := by decide +kernel
theorem dX9_arrives_129 : decode cX9_arrives 129 = .ok (.iinc 4 1, 3) := by decide +kernel
theorem dX9_arrives_132 : decode cX9_arrives 132 = .ok (.iconst 0, 1) := by decide +kernel
theorem dX9_arrives_133 : decode cX9_arrives 133 = .ok (.istore 9, 2) := by decide +kernel
theorem dX9_arrives_135 : decode cX9_arrives 135 = .ok (.iload 9, 2) := by decide +kernel
theorem dX9_arrives_137 : decode cX9_arrives 137 = .ok (.bipush 30, 2) := by decide +kernel
theorem dX9_arrives_139 : decode cX9_arrives 139 = .ok (.if_icmp .ge 29, 3) := by decide +kernel
theorem dX9_arrives_142 : decode cX9_arrives 142 = .ok (.aload_n 0, 1) := by decide +kernel
theorem dX9_arrives_143 : decode cX9_arrives 143 = .ok (.getfield 7, 3) := by decide +kernel
theorem dX9_arrives_146 : decode cX9_arrives 146 = .ok (.iload 7, 2) := by decide +kernel
theorem dX9_arrives_148 : decode cX9_arrives 148 = .ok (.iload 9, 2) := by decide +kernel
theorem dX9_arrives_150 : decode cX9_arrives 150 = .ok (.iadd, 1) := by decide +kernel
theorem dX9_arrives_151 : decode cX9_arrives 151 = .ok (.aload_n 0, 1) := by decide +kernel
theorem dX9_arrives_152 : decode cX9_arrives 152 = .ok (.getfield 7, 3) := by decide +kernel
theorem dX9_arrives_155 : decode cX9_arrives 155 = .ok (.iload 6, 2) := by decide +kernel
theorem dX9_arrives_157 : decode cX9_arrives 157 = .ok (.iload 9, 2) := by decide +kernel
theorem dX9_arrives_159 : decode cX9_arrives 159 = .ok (.iadd, 1) := by decide +kernel
theorem dX9_arrives_160 : decode cX9_arrives 160 = .ok (.iaload, 1) := by decide +kernel
theorem dX9_arrives_161 : decode cX9_arrives 161 = .ok (.iastore, 1) := by decide +kernel
theorem dX9_arrives_162 : decode cX9_arrives 162 = .ok (.iinc 9 1, 3) := by decide +kernel
theorem dX9_arrives_165 : decode cX9_arrives 165 = .ok (.goto (-30), 3) := by decide +kernel
theorem dX9_arrives_168 : decode cX9_arrives 168 = .ok (.iinc 5 1, 3) := by decide +kernel
theorem dX9_arrives_171 : decode cX9_arrives 171 = .ok (.goto (-151), 3) := by decide +kernel
theorem dX9_arrives_174 : decode cX9_arrives 174 = .ok (.iload 4, 2) := by decide +kernel
theorem dX9_arrives_176 : decode cX9_arrives 176 = .ok (.ireturn, 1) := by decide +kernel
theorem dX9_goes_0 : decode cX9_goes 0 = .ok (.aload_n 0, 1) := by decide +kernel
theorem dX9_goes_1 : decode cX9_goes 1 = .ok (.getfield 7, 3) := by decide +kernel
theorem dX9_goes_4 : decode cX9_goes 4 = .ok (.iconst 5, 1) := by decide +kernel
theorem dX9_goes_5 : decode cX9_goes 5 = .ok (.dup2, 1) := by decide +kernel
theorem dX9_goes_6 : decode cX9_goes 6 = .ok (.iaload, 1) := by decide +kernel
theorem dX9_goes_7 : decode cX9_goes 7 = .ok (.iconst 1, 1) := by decide +kernel
theorem dX9_goes_8 : decode cX9_goes 8 = .ok (.isub, 1) := by decide +kernel
theorem dX9_goes_9 : decode cX9_goes 9 = .ok (.iastore, 1) := by decide +kernel
theorem dX9_goes_10 : decode cX9_goes 10 = .ok (.iload_n 1, 1) := by decide +kernel
theorem dX9_goes_11 : decode cX9_goes 11 = .ok (.invokestatic 124, 3) := by decide +kernel
theorem dX9_goes_14 : decode cX9_goes 14 = .ok (.istore_n 2, 1) := by decide +kernel
theorem dX9_goes_15 : decode cX9_goes 15 = .ok (.iload_n 2, 1) := by decide +kernel
theorem dX9_goes_16 : decode cX9_goes 16 = .ok (.aload_n 0, 1) := by decide +kernel
theorem dX9_goes_17 : decode cX9_goes 17 = .ok (.getfield 7, 3) := by decide +kernel
theorem dX9_goes_20 : decode cX9_goes 20 = .ok (.iconst 5, 1) := by decide +kernel
theorem dX9_goes_21 : decode cX9_goes 21 = .ok (.iaload, 1) := by decide +kernel
theorem dX9_goes_22 : decode cX9_goes 22 = .ok (.invokestatic 124, 3) := by decide +kernel
theorem dX9_goes_25 : decode cX9_goes 25 = .ok (.if_icmp .ge 25, 3) := by decide +kernel
theorem dX9_goes_28 : decode cX9_goes 28 = .ok (.aload_n 0, 1) := by decide +kernel
theorem dX9_goes_29 : decode cX9_goes 29 = .ok (.getfield 7, 3) := by decide +kernel
theorem dX9_goes_32 : decode cX9_goes 32 = .ok (.iload_n 2, 1) := by decide +kernel
theorem dX9_goes_33 : decode cX9_goes 33 = .ok (.aload_n 0, 1) := by decide +kernel
theorem dX9_goes_34 : decode cX9_goes 34 = .ok (.getfield 7, 3) := by decide +kernel
theorem dX9_goes_37 : decode cX9_goes 37 = .ok (.iload_n 2, 1) := by decide +kernel
theorem dX9_goes_38 : decode cX9_goes 38 = .ok (.sipush 160, 3) := by decide +kernel
theorem dX9_goes_41 : decode cX9_goes 41 = .ok (.iadd, 1) := by decide +kernel
theorem dX9_goes_42 : decode cX9_goes 42 = .ok (.iaload, 1) := by decide +kernel
theorem dX9_goes_43 : decode cX9_goes 43 = .ok (.iastore, 1) := by decide +kernel
theorem dX9_goes_44 : decode cX9_goes 44 = .ok (.iinc 2 1, 3) := by decide +kernel
theorem dX9_goes_47 : decode cX9_goes 47 = .ok (.goto (-32), 3) := by decide +kernel
theorem dX9_goes_50 : decode cX9_goes 50 = .ok (.return_, 1) := by decide +kernel
theorem dX9_send_0 : decode cX9_send 0 = .ok (.aload_n 0, 1) := by decide +kernel
theorem dX9_send_1 : decode cX9_send 1 = .ok (.aload_n 0, 1) := by decide +kernel
theorem dX9_send_2 : decode cX9_send 2 = .ok (.iload_n 1, 1) := by decide +kernel
theorem dX9_send_3 : decode cX9_send 3 = .ok (.invokevirtual 96, 3) := by decide +kernel
theorem dX9_send_6 : decode cX9_send 6 = .ok (.ifCond .eq 11, 3) := by decide +kernel
theorem dX9_send_9 : decode cX9_send 9 = .ok (.aload_n 0, 1) := by decide +kernel
theorem dX9_send_10 : decode cX9_send 10 = .ok (.iload_n 2, 1) := by decide +kernel
theorem dX9_send_11 : decode cX9_send 11 = .ok (.invokevirtual 96, 3) := by decide +kernel
theorem dX9_send_14 : decode cX9_send 14 = .ok (.ifCond .ne 7, 3) := by decide +kernel
theorem dX9_send_17 : decode cX9_send 17 = .ok (.iconst 1, 1) := by decide +kernel
theorem dX9_send_18 : decode cX9_send 18 = .ok (.goto 28, 3) := by decide +kernel
theorem dX9_send_21 : decode cX9_send 21 = .ok (.iload_n 1, 1) := by decide +kernel
theorem dX9_send_22 : decode cX9_send 22 = .ok (.iload_n 2, 1) := by decide +kernel
theorem dX9_send_23 : decode cX9_send 23 = .ok (.if_icmp .ne 7, 3) := by decide +kernel
theorem dX9_send_26 : decode cX9_send 26 = .ok (.iconst 2, 1) := by decide +kernel
theorem dX9_send_27 : decode cX9_send 27 = .ok (.goto 19, 3) := by decide +kernel
theorem dX9_send_30 : decode cX9_send 30 = .ok (.aload_n 0, 1) := by decide +kernel
theorem dX9_send_31 : decode cX9_send 31 = .ok (.getfield 7, 3) := by decide +kernel
theorem dX9_send_34 : decode cX9_send 34 = .ok (.iconst 5, 1) := by decide +kernel
theorem dX9_send_35 : decode cX9_send 35 = .ok (.iaload, 1) := by decide +kernel
theorem dX9_send_36 : decode cX9_send 36 = .ok (.bipush 8, 2) := by decide +kernel
theorem dX9_send_38 : decode cX9_send 38 = .ok (.if_icmp .ne 7, 3) := by decide +kernel
theorem dX9_send_41 : decode cX9_send 41 = .ok (.iconst 3, 1) := by decide +kernel
theorem dX9_send_42 : decode cX9_send 42 = .ok (.goto 4, 3) := by decide +kernel
theorem dX9_send_45 : decode cX9_send 45 = .ok (.iconst 0, 1) := by decide +kernel
theorem dX9_send_46 : decode cX9_send 46 = .ok (.putfield 42, 3) := by decide +kernel
theorem dX9_send_49 : decode cX9_send 49 = .ok (.aload_n 0, 1) := by decide +kernel
theorem dX9_send_50 : decode cX9_send 50 = .ok (.getfield 42, 3) := by decide +kernel
theorem dX9_send_53 : decode cX9_send 53 = .ok (.ifCond .eq 5, 3) := by decide +kernel
theorem dX9_send_56 : decode cX9_send 56 = .ok (.iconst 0, 1) := by decide +kernel
theorem dX9_send_57 : decode cX9_send 57 = .ok (.ireturn, 1) := by decide +kernel
theorem dX9_send_58 : decode cX9_send 58 = .ok (.aload_n 0, 1) := by decide +kernel
theorem dX9_send_59 : decode cX9_send 59 = .ok (.invokevirtual 99, 3) := by decide +kernel
theorem dX9_send_62 : decode cX9_send 62 = .ok (.aload_n 0, 1) := by decide +kernel
theorem dX9_send_63 : decode cX9_send 63 = .ok (.aload_n 0, 1) := by decide +kernel
theorem dX9_send_64 : decode cX9_send 64 = .ok (.getfield 7, 3) := by decide +kernel
theorem dX9_send_67 : decode cX9_send 67 = .ok (.iconst 5, 1) := by decide +kernel
theorem dX9_send_68 : decode cX9_send 68 = .ok (.iaload, 1) := by decide +kernel
theorem dX9_send_69 : decode cX9_send 69 = .ok (.iload_n 1, 1) := by decide +kernel
theorem dX9_send_70 : decode cX9_send 70 = .ok (.iload_n 2, 1) := by decide +kernel
theorem dX9_send_71 : decode cX9_send 71 = .ok (.invokevirtual 127, 3) := by decide +kernel
theorem dX9_send_74 : decode cX9_send 74 = .ok (.aload_n 0, 1) := by decide +kernel
theorem dX9_send_75 : decode cX9_send 75 = .ok (.getfield 7, 3) := by decide +kernel
theorem dX9_send_78 : decode cX9_send 78 = .ok (.iconst 5, 1) := by decide +kernel
theorem dX9_send_79 : decode cX9_send 79 = .ok (.dup2, 1) := by decide +kernel
theorem dX9_send_80 : decode cX9_send 80 = .ok (.iaload, 1) := by decide +kernel
theorem dX9_send_81 : decode cX9_send 81 = .ok (.iconst 1, 1) := by decide +kernel
theorem dX9_send_82 : decode cX9_send 82 = .ok (.iadd, 1) := by decide +kernel
theorem dX9_send_83 : decode cX9_send 83 = .ok (.iastore, 1) := by decide +kernel
theorem dX9_send_84 : decode cX9_send 84 = .ok (.aload_n 0, 1) := by decide +kernel
theorem dX9_send_85 : decode cX9_send 85 = .ok (.getfield 7, 3) := by decide +kernel
theorem dX9_send_88 : decode cX9_send 88 = .ok (.iconst 5, 1) := by decide +kernel
theorem dX9_send_89 : decode cX9_send 89 = .ok (.iaload, 1) := by decide +kernel
theorem dX9_send_90 : decode cX9_send 90 = .ok (.iconst 1, 1) := by decide +kernel
theorem dX9_send_91 : decode cX9_send 91 = .ok (.isub, 1) := by decide +kernel
theorem dX9_send_92 : decode cX9_send 92 = .ok (.ireturn, 1) := by decide +kernel
theorem dX9_deliver_0 : decode cX9_deliver 0 = .ok (.aload_n 0, 1) := by decide +kernel
theorem dX9_deliver_1 : decode cX9_deliver 1 = .ok (.aload_n 0, 1) := by decide +kernel
theorem dX9_deliver_2 : decode cX9_deliver 2 = .ok (.iload_n 1, 1) := by decide +kernel
theorem dX9_deliver_3 : decode cX9_deliver 3 = .ok (.invokevirtual 130, 3) := by decide +kernel
theorem dX9_deliver_6 : decode cX9_deliver 6 = .ok (.ifCond .eq 7, 3) := by decide +kernel
theorem dX9_deliver_9 : decode cX9_deliver 9 = .ok (.iconst 0, 1) := by decide +kernel
theorem dX9_deliver_10 : decode cX9_deliver 10 = .ok (.goto 4, 3) := by decide +kernel
theorem dX9_deliver_13 : decode cX9_deliver 13 = .ok (.iconst 1, 1) := by decide +kernel
theorem dX9_deliver_14 : decode cX9_deliver 14 = .ok (.putfield 42, 3) := by decide +kernel
theorem dX9_deliver_17 : decode cX9_deliver 17 = .ok (.aload_n 0, 1) := by decide +kernel
theorem dX9_deliver_18 : decode cX9_deliver 18 = .ok (.getfield 42, 3) := by decide +kernel
theorem dX9_deliver_21 : decode cX9_deliver 21 = .ok (.ifCond .eq 5, 3) := by decide +kernel
theorem dX9_deliver_24 : decode cX9_deliver 24 = .ok (.iconst 0, 1) := by decide +kernel
theorem dX9_deliver_25 : decode cX9_deliver 25 = .ok (.ireturn, 1) := by decide +kernel
theorem dX9_deliver_26 : decode cX9_deliver 26 = .ok (.aload_n 0, 1) := by decide +kernel
theorem dX9_deliver_27 : decode cX9_deliver 27 = .ok (.invokevirtual 99, 3) := by decide +kernel
theorem dX9_deliver_30 : decode cX9_deliver 30 = .ok (.aload_n 0, 1) := by decide +kernel
theorem dX9_deliver_31 : decode cX9_deliver 31 = .ok (.iload_n 1, 1) := by decide +kernel
theorem dX9_deliver_32 : decode cX9_deliver 32 = .ok (.invokevirtual 133, 3) := by decide +kernel
theorem dX9_deliver_35 : decode cX9_deliver 35 = .ok (.istore_n 2, 1) := by decide +kernel
theorem dX9_deliver_36 : decode cX9_deliver 36 = .ok (.aload_n 0, 1) := by decide +kernel
theorem dX9_deliver_37 : decode cX9_deliver 37 = .ok (.iload_n 1, 1) := by decide +kernel
theorem dX9_deliver_38 : decode cX9_deliver 38 = .ok (.invokevirtual 136, 3) := by decide +kernel
theorem dX9_deliver_41 : decode cX9_deliver 41 = .ok (.iload_n 2, 1) := by decide +kernel
theorem dX9_deliver_42 : decode cX9_deliver 42 = .ok (.ireturn, 1) := by decide +kernel
theorem dX9_lose_0 : decode cX9_lose 0 = .ok (.aload_n 0, 1) := by decide +kernel
theorem dX9_lose_1 : decode cX9_lose 1 = .ok (.aload_n 0, 1) := by decide +kernel
theorem dX9_lose_2 : decode cX9_lose 2 = .ok (.iload_n 1, 1) := by decide +kernel
theorem dX9_lose_3 : decode cX9_lose 3 = .ok (.invokevirtual 130, 3) := by decide +kernel
theorem dX9_lose_6 : decode cX9_lose 6 = .ok (.ifCond .eq 7, 3) := by decide +kernel
theorem dX9_lose_9 : decode cX9_lose 9 = .ok (.iconst 0, 1) := by decide +kernel
theorem dX9_lose_10 : decode cX9_lose 10 = .ok (.goto 4, 3) := by decide +kernel
theorem dX9_lose_13 : decode cX9_lose 13 = .ok (.iconst 1, 1) := by decide +kernel
theorem dX9_lose_14 : decode cX9_lose 14 = .ok (.putfield 42, 3) := by decide +kernel
theorem dX9_lose_17 : decode cX9_lose 17 = .ok (.aload_n 0, 1) := by decide +kernel
theorem dX9_lose_18 : decode cX9_lose 18 = .ok (.getfield 42, 3) := by decide +kernel
theorem dX9_lose_21 : decode cX9_lose 21 = .ok (.ifCond .eq 5, 3) := by decide +kernel
theorem dX9_lose_24 : decode cX9_lose 24 = .ok (.iconst 0, 1) := by decide +kernel
theorem dX9_lose_25 : decode cX9_lose 25 = .ok (.ireturn, 1) := by decide +kernel
theorem dX9_lose_26 : decode cX9_lose 26 = .ok (.aload_n 0, 1) := by decide +kernel
theorem dX9_lose_27 : decode cX9_lose 27 = .ok (.invokevirtual 99, 3) := by decide +kernel
theorem dX9_lose_30 : decode cX9_lose 30 = .ok (.aload_n 0, 1) := by decide +kernel
theorem dX9_lose_31 : decode cX9_lose 31 = .ok (.iload_n 1, 1) := by decide +kernel
theorem dX9_lose_32 : decode cX9_lose 32 = .ok (.invokevirtual 136, 3) := by decide +kernel
theorem dX9_lose_35 : decode cX9_lose 35 = .ok (.aload_n 0, 1) := by decide +kernel
theorem dX9_lose_36 : decode cX9_lose 36 = .ok (.getfield 7, 3) := by decide +kernel
theorem dX9_lose_39 : decode cX9_lose 39 = .ok (.iconst 5, 1) := by decide +kernel
theorem dX9_lose_40 : decode cX9_lose 40 = .ok (.iaload, 1) := by decide +kernel
theorem dX9_lose_41 : decode cX9_lose 41 = .ok (.ireturn, 1) := by decide +kernel
theorem dX9_repeat_0 : decode cX9_repeat 0 = .ok (.aload_n 0, 1) := by decide +kernel
theorem dX9_repeat_1 : decode cX9_repeat 1 = .ok (.aload_n 0, 1) := by decide +kernel
theorem dX9_repeat_2 : decode cX9_repeat 2 = .ok (.iload_n 1, 1) := by decide +kernel
theorem dX9_repeat_3 : decode cX9_repeat 3 = .ok (.invokevirtual 130, 3) := by decide +kernel
theorem dX9_repeat_6 : decode cX9_repeat 6 = .ok (.ifCond .ne 7, 3) := by decide +kernel
theorem dX9_repeat_9 : decode cX9_repeat 9 = .ok (.iconst 1, 1) := by decide +kernel
theorem dX9_repeat_10 : decode cX9_repeat 10 = .ok (.goto 19, 3) := by decide +kernel
theorem dX9_repeat_13 : decode cX9_repeat 13 = .ok (.aload_n 0, 1) := by decide +kernel
theorem dX9_repeat_14 : decode cX9_repeat 14 = .ok (.getfield 7, 3) := by decide +kernel
theorem dX9_repeat_17 : decode cX9_repeat 17 = .ok (.iconst 5, 1) := by decide +kernel
theorem dX9_repeat_18 : decode cX9_repeat 18 = .ok (.iaload, 1) := by decide +kernel
theorem dX9_repeat_19 : decode cX9_repeat 19 = .ok (.bipush 8, 2) := by decide +kernel
theorem dX9_repeat_21 : decode cX9_repeat 21 = .ok (.if_icmp .ne 7, 3) := by decide +kernel
theorem dX9_repeat_24 : decode cX9_repeat 24 = .ok (.iconst 2, 1) := by decide +kernel
theorem dX9_repeat_25 : decode cX9_repeat 25 = .ok (.goto 4, 3) := by decide +kernel
theorem dX9_repeat_28 : decode cX9_repeat 28 = .ok (.iconst 0, 1) := by decide +kernel
theorem dX9_repeat_29 : decode cX9_repeat 29 = .ok (.putfield 42, 3) := by decide +kernel
theorem dX9_repeat_32 : decode cX9_repeat 32 = .ok (.aload_n 0, 1) := by decide +kernel
theorem dX9_repeat_33 : decode cX9_repeat 33 = .ok (.getfield 42, 3) := by decide +kernel
theorem dX9_repeat_36 : decode cX9_repeat 36 = .ok (.ifCond .eq 5, 3) := by decide +kernel
theorem dX9_repeat_39 : decode cX9_repeat 39 = .ok (.iconst 0, 1) := by decide +kernel
theorem dX9_repeat_40 : decode cX9_repeat 40 = .ok (.ireturn, 1) := by decide +kernel
theorem dX9_repeat_41 : decode cX9_repeat 41 = .ok (.aload_n 0, 1) := by decide +kernel
theorem dX9_repeat_42 : decode cX9_repeat 42 = .ok (.invokevirtual 99, 3) := by decide +kernel
theorem dX9_repeat_45 : decode cX9_repeat 45 = .ok (.iconst 0, 1) := by decide +kernel
theorem dX9_repeat_46 : decode cX9_repeat 46 = .ok (.istore_n 2, 1) := by decide +kernel
theorem dX9_repeat_47 : decode cX9_repeat 47 = .ok (.iload_n 2, 1) := by decide +kernel
theorem dX9_repeat_48 : decode cX9_repeat 48 = .ok (.sipush 160, 3) := by decide +kernel
theorem dX9_repeat_51 : decode cX9_repeat 51 = .ok (.if_icmp .ge 36, 3) := by decide +kernel
theorem dX9_repeat_54 : decode cX9_repeat 54 = .ok (.aload_n 0, 1) := by decide +kernel
theorem dX9_repeat_55 : decode cX9_repeat 55 = .ok (.getfield 7, 3) := by decide +kernel
theorem dX9_repeat_58 : decode cX9_repeat 58 = .ok (.aload_n 0, 1) := by decide +kernel
theorem dX9_repeat_59 : decode cX9_repeat 59 = .ok (.getfield 7, 3) := by decide +kernel
theorem dX9_repeat_62 : decode cX9_repeat 62 = .ok (.iconst 5, 1) := by decide +kernel
theorem dX9_repeat_63 : decode cX9_repeat 63 = .ok (.iaload, 1) := by decide +kernel
theorem dX9_repeat_64 : decode cX9_repeat 64 = .ok (.invokestatic 124, 3) := by decide +kernel
theorem dX9_repeat_67 : decode cX9_repeat 67 = .ok (.iload_n 2, 1) := by decide +kernel
theorem dX9_repeat_68 : decode cX9_repeat 68 = .ok (.iadd, 1) := by decide +kernel
theorem dX9_repeat_69 : decode cX9_repeat 69 = .ok (.aload_n 0, 1) := by decide +kernel
theorem dX9_repeat_70 : decode cX9_repeat 70 = .ok (.getfield 7, 3) := by decide +kernel
theorem dX9_repeat_73 : decode cX9_repeat 73 = .ok (.iload_n 1, 1) := by decide +kernel
theorem dX9_repeat_74 : decode cX9_repeat 74 = .ok (.invokestatic 124, 3) := by decide +kernel
theorem dX9_repeat_77 : decode cX9_repeat 77 = .ok (.iload_n 2, 1) := by decide +kernel
theorem dX9_repeat_78 : decode cX9_repeat 78 = .ok (.iadd, 1) := by decide +kernel
theorem dX9_repeat_79 : decode cX9_repeat 79 = .ok (.iaload, 1) := by decide +kernel
theorem dX9_repeat_80 : decode cX9_repeat 80 = .ok (.iastore, 1) := by decide +kernel
theorem dX9_repeat_81 : decode cX9_repeat 81 = .ok (.iinc 2 1, 3) := by decide +kernel
theorem dX9_repeat_84 : decode cX9_repeat 84 = .ok (.goto (-37), 3) := by decide +kernel
theorem dX9_repeat_87 : decode cX9_repeat 87 = .ok (.aload_n 0, 1) := by decide +kernel
theorem dX9_repeat_88 : decode cX9_repeat 88 = .ok (.getfield 7, 3) := by decide +kernel
theorem dX9_repeat_91 : decode cX9_repeat 91 = .ok (.iconst 5, 1) := by decide +kernel
theorem dX9_repeat_92 : decode cX9_repeat 92 = .ok (.dup2, 1) := by decide +kernel
theorem dX9_repeat_93 : decode cX9_repeat 93 = .ok (.iaload, 1) := by decide +kernel
theorem dX9_repeat_94 : decode cX9_repeat 94 = .ok (.iconst 1, 1) := by decide +kernel
theorem dX9_repeat_95 : decode cX9_repeat 95 = .ok (.iadd, 1) := by decide +kernel
theorem dX9_repeat_96 : decode cX9_repeat 96 = .ok (.iastore, 1) := by decide +kernel
theorem dX9_repeat_97 : decode cX9_repeat 97 = .ok (.aload_n 0, 1) := by decide +kernel
theorem dX9_repeat_98 : decode cX9_repeat 98 = .ok (.getfield 7, 3) := by decide +kernel
theorem dX9_repeat_101 : decode cX9_repeat 101 = .ok (.iconst 5, 1) := by decide +kernel
theorem dX9_repeat_102 : decode cX9_repeat 102 = .ok (.iaload, 1) := by decide +kernel
theorem dX9_repeat_103 : decode cX9_repeat 103 = .ok (.iconst 1, 1) := by decide +kernel
theorem dX9_repeat_104 : decode cX9_repeat 104 = .ok (.isub, 1) := by decide +kernel
theorem dX9_repeat_105 : decode cX9_repeat 105 = .ok (.ireturn, 1) := by decide +kernel
theorem dX9_messages_0 : decode cX9_messages 0 = .ok (.aload_n 0, 1) := by decide +kernel
theorem dX9_messages_1 : decode cX9_messages 1 = .ok (.iconst 0, 1) := by decide +kernel
theorem dX9_messages_2 : decode cX9_messages 2 = .ok (.putfield 42, 3) := by decide +kernel
theorem dX9_messages_5 : decode cX9_messages 5 = .ok (.aload_n 0, 1) := by decide +kernel
theorem dX9_messages_6 : decode cX9_messages 6 = .ok (.getfield 7, 3) := by decide +kernel
theorem dX9_messages_9 : decode cX9_messages 9 = .ok (.iconst 5, 1) := by decide +kernel
theorem dX9_messages_10 : decode cX9_messages 10 = .ok (.iaload, 1) := by decide +kernel
theorem dX9_messages_11 : decode cX9_messages 11 = .ok (.ireturn, 1) := by decide +kernel
theorem dX9_message_0 : decode cX9_message 0 = .ok (.aload_n 0, 1) := by decide +kernel
theorem dX9_message_1 : decode cX9_message 1 = .ok (.aload_n 0, 1) := by decide +kernel
theorem dX9_message_2 : decode cX9_message 2 = .ok (.iload_n 1, 1) := by decide +kernel
theorem dX9_message_3 : decode cX9_message 3 = .ok (.invokevirtual 130, 3) := by decide +kernel
theorem dX9_message_6 : decode cX9_message 6 = .ok (.ifCond .eq 16, 3) := by decide +kernel
theorem dX9_message_9 : decode cX9_message 9 = .ok (.iload_n 2, 1) := by decide +kernel
theorem dX9_message_10 : decode cX9_message 10 = .ok (.iconst 0, 1) := by decide +kernel
theorem dX9_message_11 : decode cX9_message 11 = .ok (.iconst 2, 1) := by decide +kernel
theorem dX9_message_12 : decode cX9_message 12 = .ok (.invokestatic 48, 3) := by decide +kernel
theorem dX9_message_15 : decode cX9_message 15 = .ok (.ifCond .eq 7, 3) := by decide +kernel
theorem dX9_message_18 : decode cX9_message 18 = .ok (.iconst 0, 1) := by decide +kernel
theorem dX9_message_19 : decode cX9_message 19 = .ok (.goto 4, 3) := by decide +kernel
theorem dX9_message_22 : decode cX9_message 22 = .ok (.iconst 1, 1) := by decide +kernel
theorem dX9_message_23 : decode cX9_message 23 = .ok (.putfield 42, 3) := by decide +kernel
theorem dX9_message_26 : decode cX9_message 26 = .ok (.aload_n 0, 1) := by decide +kernel
theorem dX9_message_27 : decode cX9_message 27 = .ok (.getfield 42, 3) := by decide +kernel
theorem dX9_message_30 : decode cX9_message 30 = .ok (.ifCond .ne 17, 3) := by decide +kernel
theorem dX9_message_33 : decode cX9_message 33 = .ok (.aload_n 0, 1) := by decide +kernel
theorem dX9_message_34 : decode cX9_message 34 = .ok (.getfield 7, 3) := by decide +kernel
theorem dX9_message_37 : decode cX9_message 37 = .ok (.iload_n 1, 1) := by decide +kernel
theorem dX9_message_38 : decode cX9_message 38 = .ok (.invokestatic 124, 3) := by decide +kernel
theorem dX9_message_41 : decode cX9_message 41 = .ok (.iload_n 2, 1) := by decide +kernel
theorem dX9_message_42 : decode cX9_message 42 = .ok (.iadd, 1) := by decide +kernel
theorem dX9_message_43 : decode cX9_message 43 = .ok (.iaload, 1) := by decide +kernel
theorem dX9_message_44 : decode cX9_message 44 = .ok (.goto 4, 3) := by decide +kernel
theorem dX9_message_47 : decode cX9_message 47 = .ok (.iconst 0, 1) := by decide +kernel
theorem dX9_message_48 : decode cX9_message 48 = .ok (.ireturn, 1) := by decide +kernel
theorem dX9_time_0 : decode cX9_time 0 = .ok (.aload_n 0, 1) := by decide +kernel
theorem dX9_time_1 : decode cX9_time 1 = .ok (.iconst 0, 1) := by decide +kernel
theorem dX9_time_2 : decode cX9_time 2 = .ok (.putfield 42, 3) := by decide +kernel
theorem dX9_time_5 : decode cX9_time 5 = .ok (.aload_n 0, 1) := by decide +kernel
theorem dX9_time_6 : decode cX9_time 6 = .ok (.getfield 7, 3) := by decide +kernel
theorem dX9_time_9 : decode cX9_time 9 = .ok (.iconst 0, 1) := by decide +kernel
theorem dX9_time_10 : decode cX9_time 10 = .ok (.iaload, 1) := by decide +kernel
theorem dX9_time_11 : decode cX9_time 11 = .ok (.ireturn, 1) := by decide +kernel
theorem dX9_value_0 : decode cX9_value 0 = .ok (.aload_n 0, 1) := by decide +kernel
theorem dX9_value_1 : decode cX9_value 1 = .ok (.iconst 0, 1) := by decide +kernel
theorem dX9_value_2 : decode cX9_value 2 = .ok (.putfield 42, 3) := by decide +kernel
theorem dX9_value_5 : decode cX9_value 5 = .ok (.aload_n 0, 1) := by decide +kernel
theorem dX9_value_6 : decode cX9_value 6 = .ok (.invokevirtual 108, 3) := by decide +kernel
theorem dX9_value_9 : decode cX9_value 9 = .ok (.ireturn, 1) := by decide +kernel
theorem dX9_knownBy_0 : decode cX9_knownBy 0 = .ok (.aload_n 0, 1) := by decide +kernel
theorem dX9_knownBy_1 : decode cX9_knownBy 1 = .ok (.getfield 7, 3) := by decide +kernel
theorem dX9_knownBy_4 : decode cX9_knownBy 4 = .ok (.iconst 3, 1) := by decide +kernel
theorem dX9_knownBy_5 : decode cX9_knownBy 5 = .ok (.iaload, 1) := by decide +kernel
theorem dX9_knownBy_6 : decode cX9_knownBy 6 = .ok (.istore_n 2, 1) := by decide +kernel
theorem dX9_knownBy_7 : decode cX9_knownBy 7 = .ok (.iconst 0, 1) := by decide +kernel
theorem dX9_knownBy_8 : decode cX9_knownBy 8 = .ok (.istore_n 3, 1) := by decide +kernel
theorem dX9_knownBy_9 : decode cX9_knownBy 9 = .ok (.iload_n 3, 1) := by decide +kernel
theorem dX9_knownBy_10 : decode cX9_knownBy 10 = .ok (.aload_n 0, 1) := by decide +kernel
theorem dX9_knownBy_11 : decode cX9_knownBy 11 = .ok (.getfield 34, 3) := by decide +kernel
theorem dX9_knownBy_14 : decode cX9_knownBy 14 = .ok (.if_icmp .ge 37, 3) := by decide +kernel
theorem dX9_knownBy_17 : decode cX9_knownBy 17 = .ok (.iload_n 2, 1) := by decide +kernel
theorem dX9_knownBy_18 : decode cX9_knownBy 18 = .ok (.aload_n 0, 1) := by decide +kernel
theorem dX9_knownBy_19 : decode cX9_knownBy 19 = .ok (.getfield 7, 3) := by decide +kernel
theorem dX9_knownBy_22 : decode cX9_knownBy 22 = .ok (.iload_n 1, 1) := by decide +kernel
theorem dX9_knownBy_23 : decode cX9_knownBy 23 = .ok (.iload_n 3, 1) := by decide +kernel
theorem dX9_knownBy_24 : decode cX9_knownBy 24 = .ok (.invokestatic 52, 3) := by decide +kernel
theorem dX9_knownBy_27 : decode cX9_knownBy 27 = .ok (.iconst 2, 1) := by decide +kernel
theorem dX9_knownBy_28 : decode cX9_knownBy 28 = .ok (.iadd, 1) := by decide +kernel
theorem dX9_knownBy_29 : decode cX9_knownBy 29 = .ok (.iaload, 1) := by decide +kernel
theorem dX9_knownBy_30 : decode cX9_knownBy 30 = .ok (.aload_n 0, 1) := by decide +kernel
theorem dX9_knownBy_31 : decode cX9_knownBy 31 = .ok (.getfield 7, 3) := by decide +kernel
theorem dX9_knownBy_34 : decode cX9_knownBy 34 = .ok (.iload_n 1, 1) := by decide +kernel
theorem dX9_knownBy_35 : decode cX9_knownBy 35 = .ok (.iload_n 3, 1) := by decide +kernel
theorem dX9_knownBy_36 : decode cX9_knownBy 36 = .ok (.invokestatic 52, 3) := by decide +kernel
theorem dX9_knownBy_39 : decode cX9_knownBy 39 = .ok (.iconst 3, 1) := by decide +kernel
theorem dX9_knownBy_40 : decode cX9_knownBy 40 = .ok (.iadd, 1) := by decide +kernel
theorem dX9_knownBy_41 : decode cX9_knownBy 41 = .ok (.iaload, 1) := by decide +kernel
theorem dX9_knownBy_42 : decode cX9_knownBy 42 = .ok (.isub, 1) := by decide +kernel
theorem dX9_knownBy_43 : decode cX9_knownBy 43 = .ok (.iadd, 1) := by decide +kernel
theorem dX9_knownBy_44 : decode cX9_knownBy 44 = .ok (.istore_n 2, 1) := by decide +kernel
theorem dX9_knownBy_45 : decode cX9_knownBy 45 = .ok (.iinc 3 1, 3) := by decide +kernel
theorem dX9_knownBy_48 : decode cX9_knownBy 48 = .ok (.goto (-39), 3) := by decide +kernel
theorem dX9_knownBy_51 : decode cX9_knownBy 51 = .ok (.iload_n 2, 1) := by decide +kernel
theorem dX9_knownBy_52 : decode cX9_knownBy 52 = .ok (.ireturn, 1) := by decide +kernel
theorem dX9_known_0 : decode cX9_known 0 = .ok (.aload_n 0, 1) := by decide +kernel
theorem dX9_known_1 : decode cX9_known 1 = .ok (.aload_n 0, 1) := by decide +kernel
theorem dX9_known_2 : decode cX9_known 2 = .ok (.iload_n 1, 1) := by decide +kernel
theorem dX9_known_3 : decode cX9_known 3 = .ok (.invokevirtual 96, 3) := by decide +kernel
theorem dX9_known_6 : decode cX9_known 6 = .ok (.ifCond .eq 7, 3) := by decide +kernel
theorem dX9_known_9 : decode cX9_known 9 = .ok (.iconst 0, 1) := by decide +kernel
theorem dX9_known_10 : decode cX9_known 10 = .ok (.goto 4, 3) := by decide +kernel
theorem dX9_known_13 : decode cX9_known 13 = .ok (.iconst 1, 1) := by decide +kernel
theorem dX9_known_14 : decode cX9_known 14 = .ok (.putfield 42, 3) := by decide +kernel
theorem dX9_known_17 : decode cX9_known 17 = .ok (.aload_n 0, 1) := by decide +kernel
theorem dX9_known_18 : decode cX9_known 18 = .ok (.getfield 42, 3) := by decide +kernel
theorem dX9_known_21 : decode cX9_known 21 = .ok (.ifCond .ne 11, 3) := by decide +kernel
theorem dX9_known_24 : decode cX9_known 24 = .ok (.aload_n 0, 1) := by decide +kernel
theorem dX9_known_25 : decode cX9_known 25 = .ok (.iload_n 1, 1) := by decide +kernel
theorem dX9_known_26 : decode cX9_known 26 = .ok (.invokevirtual 139, 3) := by decide +kernel
theorem dX9_known_29 : decode cX9_known 29 = .ok (.goto 4, 3) := by decide +kernel
theorem dX9_known_32 : decode cX9_known 32 = .ok (.iconst 0, 1) := by decide +kernel
theorem dX9_known_33 : decode cX9_known 33 = .ok (.ireturn, 1) := by decide +kernel
theorem dX9_isWrong_0 : decode cX9_isWrong 0 = .ok (.aload_n 0, 1) := by decide +kernel
theorem dX9_isWrong_1 : decode cX9_isWrong 1 = .ok (.aload_n 0, 1) := by decide +kernel
theorem dX9_isWrong_2 : decode cX9_isWrong 2 = .ok (.iload_n 1, 1) := by decide +kernel
theorem dX9_isWrong_3 : decode cX9_isWrong 3 = .ok (.invokevirtual 96, 3) := by decide +kernel
theorem dX9_isWrong_6 : decode cX9_isWrong 6 = .ok (.ifCond .eq 16, 3) := by decide +kernel
theorem dX9_isWrong_9 : decode cX9_isWrong 9 = .ok (.iload_n 2, 1) := by decide +kernel
theorem dX9_isWrong_10 : decode cX9_isWrong 10 = .ok (.iconst 0, 1) := by decide +kernel
theorem dX9_isWrong_11 : decode cX9_isWrong 11 = .ok (.iconst 1, 1) := by decide +kernel
theorem dX9_isWrong_12 : decode cX9_isWrong 12 = .ok (.invokestatic 48, 3) := by decide +kernel
theorem dX9_isWrong_15 : decode cX9_isWrong 15 = .ok (.ifCond .eq 7, 3) := by decide +kernel
theorem dX9_isWrong_18 : decode cX9_isWrong 18 = .ok (.iconst 0, 1) := by decide +kernel
theorem dX9_isWrong_19 : decode cX9_isWrong 19 = .ok (.goto 4, 3) := by decide +kernel
theorem dX9_isWrong_22 : decode cX9_isWrong 22 = .ok (.iconst 1, 1) := by decide +kernel
theorem dX9_isWrong_23 : decode cX9_isWrong 23 = .ok (.putfield 42, 3) := by decide +kernel
theorem dX9_isWrong_26 : decode cX9_isWrong 26 = .ok (.aload_n 0, 1) := by decide +kernel
theorem dX9_isWrong_27 : decode cX9_isWrong 27 = .ok (.getfield 42, 3) := by decide +kernel
theorem dX9_isWrong_30 : decode cX9_isWrong 30 = .ok (.ifCond .eq 7, 3) := by decide +kernel
theorem dX9_isWrong_33 : decode cX9_isWrong 33 = .ok (.iconst 1, 1) := by decide +kernel
theorem dX9_isWrong_34 : decode cX9_isWrong 34 = .ok (.goto 4, 3) := by decide +kernel
theorem dX9_isWrong_37 : decode cX9_isWrong 37 = .ok (.iconst 0, 1) := by decide +kernel
theorem dX9_isWrong_38 : decode cX9_isWrong 38 = .ok (.ireturn, 1) := by decide +kernel
theorem dX9_own_0 : decode cX9_own 0 = .ok (.aload_n 0, 1) := by decide +kernel
theorem dX9_own_1 : decode cX9_own 1 = .ok (.iload_n 1, 1) := by decide +kernel
theorem dX9_own_2 : decode cX9_own 2 = .ok (.iload_n 2, 1) := by decide +kernel
theorem dX9_own_3 : decode cX9_own 3 = .ok (.invokevirtual 142, 3) := by decide +kernel
theorem dX9_own_6 : decode cX9_own 6 = .ok (.ifCond .eq 7, 3) := by decide +kernel
theorem dX9_own_9 : decode cX9_own 9 = .ok (.iconst 0, 1) := by decide +kernel
theorem dX9_own_10 : decode cX9_own 10 = .ok (.goto 9, 3) := by decide +kernel
theorem dX9_own_13 : decode cX9_own 13 = .ok (.aload_n 0, 1) := by decide +kernel
theorem dX9_own_14 : decode cX9_own 14 = .ok (.iload_n 1, 1) := by decide +kernel
theorem dX9_own_15 : decode cX9_own 15 = .ok (.iload_n 2, 1) := by decide +kernel
theorem dX9_own_16 : decode cX9_own 16 = .ok (.invokevirtual 79, 3) := by decide +kernel
theorem dX9_own_19 : decode cX9_own 19 = .ok (.ireturn, 1) := by decide +kernel
theorem dX9_available_0 : decode cX9_available 0 = .ok (.aload_n 0, 1) := by decide +kernel
theorem dX9_available_1 : decode cX9_available 1 = .ok (.iload_n 1, 1) := by decide +kernel
theorem dX9_available_2 : decode cX9_available 2 = .ok (.iload_n 2, 1) := by decide +kernel
theorem dX9_available_3 : decode cX9_available 3 = .ok (.invokevirtual 142, 3) := by decide +kernel
theorem dX9_available_6 : decode cX9_available 6 = .ok (.ifCond .eq 7, 3) := by decide +kernel
theorem dX9_available_9 : decode cX9_available 9 = .ok (.iconst 0, 1) := by decide +kernel
theorem dX9_available_10 : decode cX9_available 10 = .ok (.goto 9, 3) := by decide +kernel
theorem dX9_available_13 : decode cX9_available 13 = .ok (.aload_n 0, 1) := by decide +kernel
theorem dX9_available_14 : decode cX9_available 14 = .ok (.iload_n 1, 1) := by decide +kernel
theorem dX9_available_15 : decode cX9_available 15 = .ok (.iload_n 2, 1) := by decide +kernel
theorem dX9_available_16 : decode cX9_available 16 = .ok (.invokevirtual 85, 3) := by decide +kernel
theorem dX9_available_19 : decode cX9_available 19 = .ok (.ireturn, 1) := by decide +kernel
theorem dX9_dormant_0 : decode cX9_dormant 0 = .ok (.aload_n 0, 1) := by decide +kernel
theorem dX9_dormant_1 : decode cX9_dormant 1 = .ok (.iload_n 1, 1) := by decide +kernel
theorem dX9_dormant_2 : decode cX9_dormant 2 = .ok (.iconst 0, 1) := by decide +kernel
theorem dX9_dormant_3 : decode cX9_dormant 3 = .ok (.iconst 1, 1) := by decide +kernel
theorem dX9_dormant_4 : decode cX9_dormant 4 = .ok (.invokestatic 48, 3) := by decide +kernel
theorem dX9_dormant_7 : decode cX9_dormant 7 = .ok (.ifCond .eq 7, 3) := by decide +kernel
theorem dX9_dormant_10 : decode cX9_dormant 10 = .ok (.iconst 0, 1) := by decide +kernel
theorem dX9_dormant_11 : decode cX9_dormant 11 = .ok (.goto 4, 3) := by decide +kernel
theorem dX9_dormant_14 : decode cX9_dormant 14 = .ok (.iconst 1, 1) := by decide +kernel
theorem dX9_dormant_15 : decode cX9_dormant 15 = .ok (.putfield 42, 3) := by decide +kernel
theorem dX9_dormant_18 : decode cX9_dormant 18 = .ok (.aload_n 0, 1) := by decide +kernel
theorem dX9_dormant_19 : decode cX9_dormant 19 = .ok (.getfield 42, 3) := by decide +kernel
theorem dX9_dormant_22 : decode cX9_dormant 22 = .ok (.ifCond .eq 5, 3) := by decide +kernel
theorem dX9_dormant_25 : decode cX9_dormant 25 = .ok (.iconst 0, 1) := by decide +kernel
theorem dX9_dormant_26 : decode cX9_dormant 26 = .ok (.ireturn, 1) := by decide +kernel
theorem dX9_dormant_27 : decode cX9_dormant 27 = .ok (.iload_n 1, 1) := by decide +kernel
theorem dX9_dormant_28 : decode cX9_dormant 28 = .ok (.ifCond .ne 17, 3) := by decide +kernel
theorem dX9_dormant_31 : decode cX9_dormant 31 = .ok (.aload_n 0, 1) := by decide +kernel
theorem dX9_dormant_32 : decode cX9_dormant 32 = .ok (.getfield 7, 3) := by decide +kernel
theorem dX9_dormant_35 : decode cX9_dormant 35 = .ok (.iconst 2, 1) := by decide +kernel
theorem dX9_dormant_36 : decode cX9_dormant 36 = .ok (.iaload, 1) := by decide +kernel
theorem dX9_dormant_37 : decode cX9_dormant 37 = .ok (.aload_n 0, 1) := by decide +kernel
theorem dX9_dormant_38 : decode cX9_dormant 38 = .ok (.invokevirtual 108, 3) := by decide +kernel
theorem dX9_dormant_41 : decode cX9_dormant 41 = .ok (.isub, 1) := by decide +kernel
theorem dX9_dormant_42 : decode cX9_dormant 42 = .ok (.goto 14, 3) := by decide +kernel
theorem dX9_dormant_45 : decode cX9_dormant 45 = .ok (.aload_n 0, 1) := by decide +kernel
theorem dX9_dormant_46 : decode cX9_dormant 46 = .ok (.invokevirtual 108, 3) := by decide +kernel
theorem dX9_dormant_49 : decode cX9_dormant 49 = .ok (.aload_n 0, 1) := by decide +kernel
theorem dX9_dormant_50 : decode cX9_dormant 50 = .ok (.getfield 7, 3) := by decide +kernel
theorem dX9_dormant_53 : decode cX9_dormant 53 = .ok (.iconst 1, 1) := by decide +kernel
theorem dX9_dormant_54 : decode cX9_dormant 54 = .ok (.iaload, 1) := by decide +kernel
theorem dX9_dormant_55 : decode cX9_dormant 55 = .ok (.isub, 1) := by decide +kernel
theorem dX9_dormant_56 : decode cX9_dormant 56 = .ok (.istore_n 2, 1) := by decide +kernel
theorem dX9_dormant_57 : decode cX9_dormant 57 = .ok (.iconst 0, 1) := by decide +kernel
theorem dX9_dormant_58 : decode cX9_dormant 58 = .ok (.istore_n 3, 1) := by decide +kernel
theorem dX9_dormant_59 : decode cX9_dormant 59 = .ok (.iload_n 3, 1) := by decide +kernel
theorem dX9_dormant_60 : decode cX9_dormant 60 = .ok (.aload_n 0, 1) := by decide +kernel
theorem dX9_dormant_61 : decode cX9_dormant 61 = .ok (.getfield 34, 3) := by decide +kernel
theorem dX9_dormant_64 : decode cX9_dormant 64 = .ok (.if_icmp .ge 18, 3) := by decide +kernel
theorem dX9_dormant_67 : decode cX9_dormant 67 = .ok (.iload_n 2, 1) := by decide +kernel
theorem dX9_dormant_68 : decode cX9_dormant 68 = .ok (.aload_n 0, 1) := by decide +kernel
theorem dX9_dormant_69 : decode cX9_dormant 69 = .ok (.iload_n 3, 1) := by decide +kernel
theorem dX9_dormant_70 : decode cX9_dormant 70 = .ok (.iload_n 1, 1) := by decide +kernel
theorem dX9_dormant_71 : decode cX9_dormant 71 = .ok (.invokevirtual 85, 3) := by decide +kernel
theorem dX9_dormant_74 : decode cX9_dormant 74 = .ok (.isub, 1) := by decide +kernel
theorem dX9_dormant_75 : decode cX9_dormant 75 = .ok (.istore_n 2, 1) := by decide +kernel
theorem dX9_dormant_76 : decode cX9_dormant 76 = .ok (.iinc 3 1, 3) := by decide +kernel
theorem dX9_dormant_79 : decode cX9_dormant 79 = .ok (.goto (-20), 3) := by decide +kernel
theorem dX9_dormant_82 : decode cX9_dormant 82 = .ok (.iload_n 2, 1) := by decide +kernel
theorem dX9_dormant_83 : decode cX9_dormant 83 = .ok (.ireturn, 1) := by decide +kernel
theorem dX9_demand_0 : decode cX9_demand 0 = .ok (.aload_n 0, 1) := by decide +kernel
theorem dX9_demand_1 : decode cX9_demand 1 = .ok (.aload_n 0, 1) := by decide +kernel
theorem dX9_demand_2 : decode cX9_demand 2 = .ok (.iload_n 1, 1) := by decide +kernel
theorem dX9_demand_3 : decode cX9_demand 3 = .ok (.invokevirtual 96, 3) := by decide +kernel
theorem dX9_demand_6 : decode cX9_demand 6 = .ok (.ifCond .eq 24, 3) := by decide +kernel
theorem dX9_demand_9 : decode cX9_demand 9 = .ok (.aload_n 0, 1) := by decide +kernel
theorem dX9_demand_10 : decode cX9_demand 10 = .ok (.iload_n 2, 1) := by decide +kernel
theorem dX9_demand_11 : decode cX9_demand 11 = .ok (.invokevirtual 96, 3) := by decide +kernel
theorem dX9_demand_14 : decode cX9_demand 14 = .ok (.ifCond .eq 16, 3) := by decide +kernel
theorem dX9_demand_17 : decode cX9_demand 17 = .ok (.iload_n 3, 1) := by decide +kernel
theorem dX9_demand_18 : decode cX9_demand 18 = .ok (.iconst 0, 1) := by decide +kernel
theorem dX9_demand_19 : decode cX9_demand 19 = .ok (.iconst 1, 1) := by decide +kernel
theorem dX9_demand_20 : decode cX9_demand 20 = .ok (.invokestatic 48, 3) := by decide +kernel
theorem dX9_demand_23 : decode cX9_demand 23 = .ok (.ifCond .eq 7, 3) := by decide +kernel
theorem dX9_demand_26 : decode cX9_demand 26 = .ok (.iconst 0, 1) := by decide +kernel
theorem dX9_demand_27 : decode cX9_demand 27 = .ok (.goto 4, 3) := by decide +kernel
theorem dX9_demand_30 : decode cX9_demand 30 = .ok (.iconst 1, 1) := by decide +kernel
theorem dX9_demand_31 : decode cX9_demand 31 = .ok (.putfield 42, 3) := by decide +kernel
theorem dX9_demand_34 : decode cX9_demand 34 = .ok (.aload_n 0, 1) := by decide +kernel
theorem dX9_demand_35 : decode cX9_demand 35 = .ok (.getfield 42, 3) := by decide +kernel
theorem dX9_demand_38 : decode cX9_demand 38 = .ok (.ifCond .ne 21, 3) := by decide +kernel
theorem dX9_demand_41 : decode cX9_demand 41 = .ok (.aload_n 0, 1) := by decide +kernel
theorem dX9_demand_42 : decode cX9_demand 42 = .ok (.getfield 7, 3) := by decide +kernel
theorem dX9_demand_45 : decode cX9_demand 45 = .ok (.iload_n 1, 1) := by decide +kernel
theorem dX9_demand_46 : decode cX9_demand 46 = .ok (.iload_n 2, 1) := by decide +kernel
theorem dX9_demand_47 : decode cX9_demand 47 = .ok (.invokestatic 52, 3) := by decide +kernel
theorem dX9_demand_50 : decode cX9_demand 50 = .ok (.bipush 14, 2) := by decide +kernel
theorem dX9_demand_52 : decode cX9_demand 52 = .ok (.iadd, 1) := by decide +kernel
theorem dX9_demand_53 : decode cX9_demand 53 = .ok (.iload_n 3, 1) := by decide +kernel
theorem dX9_demand_54 : decode cX9_demand 54 = .ok (.iadd, 1) := by decide +kernel
theorem dX9_demand_55 : decode cX9_demand 55 = .ok (.iaload, 1) := by decide +kernel
theorem dX9_demand_56 : decode cX9_demand 56 = .ok (.goto 4, 3) := by decide +kernel
theorem dX9_demand_59 : decode cX9_demand 59 = .ok (.iconst 0, 1) := by decide +kernel
theorem dX9_demand_60 : decode cX9_demand 60 = .ok (.ireturn, 1) := by decide +kernel
theorem dX9_isTwo_0 : decode cX9_isTwo 0 = .ok (.aload_n 0, 1) := by decide +kernel
theorem dX9_isTwo_1 : decode cX9_isTwo 1 = .ok (.aload_n 0, 1) := by decide +kernel
theorem dX9_isTwo_2 : decode cX9_isTwo 2 = .ok (.iload_n 1, 1) := by decide +kernel
theorem dX9_isTwo_3 : decode cX9_isTwo 3 = .ok (.invokevirtual 96, 3) := by decide +kernel
theorem dX9_isTwo_6 : decode cX9_isTwo 6 = .ok (.ifCond .eq 15, 3) := by decide +kernel
theorem dX9_isTwo_9 : decode cX9_isTwo 9 = .ok (.aload_n 0, 1) := by decide +kernel
theorem dX9_isTwo_10 : decode cX9_isTwo 10 = .ok (.iload_n 2, 1) := by decide +kernel
theorem dX9_isTwo_11 : decode cX9_isTwo 11 = .ok (.invokevirtual 96, 3) := by decide +kernel
theorem dX9_isTwo_14 : decode cX9_isTwo 14 = .ok (.ifCond .eq 7, 3) := by decide +kernel
theorem dX9_isTwo_17 : decode cX9_isTwo 17 = .ok (.iconst 0, 1) := by decide +kernel
theorem dX9_isTwo_18 : decode cX9_isTwo 18 = .ok (.goto 4, 3) := by decide +kernel
theorem dX9_isTwo_21 : decode cX9_isTwo 21 = .ok (.iconst 1, 1) := by decide +kernel
theorem dX9_isTwo_22 : decode cX9_isTwo 22 = .ok (.putfield 42, 3) := by decide +kernel
theorem dX9_isTwo_25 : decode cX9_isTwo 25 = .ok (.aload_n 0, 1) := by decide +kernel
theorem dX9_isTwo_26 : decode cX9_isTwo 26 = .ok (.getfield 42, 3) := by decide +kernel
theorem dX9_isTwo_29 : decode cX9_isTwo 29 = .ok (.ifCond .ne 7, 3) := by decide +kernel
theorem dX9_isTwo_32 : decode cX9_isTwo 32 = .ok (.iconst 1, 1) := by decide +kernel
theorem dX9_isTwo_33 : decode cX9_isTwo 33 = .ok (.goto 4, 3) := by decide +kernel
theorem dX9_isTwo_36 : decode cX9_isTwo 36 = .ok (.iconst 0, 1) := by decide +kernel
theorem dX9_isTwo_37 : decode cX9_isTwo 37 = .ok (.ireturn, 1) := by decide +kernel
theorem dX9_version_0 : decode cX9_version 0 = .ok (.aload_n 0, 1) := by decide +kernel
theorem dX9_version_1 : decode cX9_version 1 = .ok (.iload_n 1, 1) := by decide +kernel
theorem dX9_version_2 : decode cX9_version 2 = .ok (.iload_n 2, 1) := by decide +kernel
theorem dX9_version_3 : decode cX9_version 3 = .ok (.invokevirtual 146, 3) := by decide +kernel
theorem dX9_version_6 : decode cX9_version 6 = .ok (.ifCond .eq 18, 3) := by decide +kernel
theorem dX9_version_9 : decode cX9_version 9 = .ok (.aload_n 0, 1) := by decide +kernel
theorem dX9_version_10 : decode cX9_version 10 = .ok (.getfield 7, 3) := by decide +kernel
theorem dX9_version_13 : decode cX9_version 13 = .ok (.iload_n 1, 1) := by decide +kernel
theorem dX9_version_14 : decode cX9_version 14 = .ok (.iload_n 2, 1) := by decide +kernel
theorem dX9_version_15 : decode cX9_version 15 = .ok (.invokestatic 52, 3) := by decide +kernel
theorem dX9_version_18 : decode cX9_version 18 = .ok (.iconst 0, 1) := by decide +kernel
theorem dX9_version_19 : decode cX9_version 19 = .ok (.iadd, 1) := by decide +kernel
theorem dX9_version_20 : decode cX9_version 20 = .ok (.iaload, 1) := by decide +kernel
theorem dX9_version_21 : decode cX9_version 21 = .ok (.goto 4, 3) := by decide +kernel
theorem dX9_version_24 : decode cX9_version 24 = .ok (.iconst 0, 1) := by decide +kernel
theorem dX9_version_25 : decode cX9_version 25 = .ok (.ireturn, 1) := by decide +kernel
theorem dX9_copyTime_0 : decode cX9_copyTime 0 = .ok (.aload_n 0, 1) := by decide +kernel
theorem dX9_copyTime_1 : decode cX9_copyTime 1 = .ok (.iload_n 1, 1) := by decide +kernel
theorem dX9_copyTime_2 : decode cX9_copyTime 2 = .ok (.iload_n 2, 1) := by decide +kernel
theorem dX9_copyTime_3 : decode cX9_copyTime 3 = .ok (.invokevirtual 146, 3) := by decide +kernel
theorem dX9_copyTime_6 : decode cX9_copyTime 6 = .ok (.ifCond .eq 12, 3) := by decide +kernel
theorem dX9_copyTime_9 : decode cX9_copyTime 9 = .ok (.aload_n 0, 1) := by decide +kernel
theorem dX9_copyTime_10 : decode cX9_copyTime 10 = .ok (.iload_n 1, 1) := by decide +kernel
theorem dX9_copyTime_11 : decode cX9_copyTime 11 = .ok (.iload_n 2, 1) := by decide +kernel
theorem dX9_copyTime_12 : decode cX9_copyTime 12 = .ok (.invokevirtual 63, 3) := by decide +kernel
theorem dX9_copyTime_15 : decode cX9_copyTime 15 = .ok (.goto 4, 3) := by decide +kernel
theorem dX9_copyTime_18 : decode cX9_copyTime 18 = .ok (.iconst 0, 1) := by decide +kernel
theorem dX9_copyTime_19 : decode cX9_copyTime 19 = .ok (.ireturn, 1) := by decide +kernel
theorem dX9_loans_0 : decode cX9_loans 0 = .ok (.aload_n 0, 1) := by decide +kernel
theorem dX9_loans_1 : decode cX9_loans 1 = .ok (.iconst 0, 1) := by decide +kernel
theorem dX9_loans_2 : decode cX9_loans 2 = .ok (.putfield 42, 3) := by decide +kernel
theorem dX9_loans_5 : decode cX9_loans 5 = .ok (.aload_n 0, 1) := by decide +kernel
theorem dX9_loans_6 : decode cX9_loans 6 = .ok (.getfield 7, 3) := by decide +kernel
theorem dX9_loans_9 : decode cX9_loans 9 = .ok (.iconst 4, 1) := by decide +kernel
theorem dX9_loans_10 : decode cX9_loans 10 = .ok (.iaload, 1) := by decide +kernel
theorem dX9_loans_11 : decode cX9_loans 11 = .ok (.ireturn, 1) := by decide +kernel
theorem dX9_ofLoan_0 : decode cX9_ofLoan 0 = .ok (.iload_n 1, 1) := by decide +kernel
theorem dX9_ofLoan_1 : decode cX9_ofLoan 1 = .ok (.invokestatic 60, 3) := by decide +kernel
theorem dX9_ofLoan_4 : decode cX9_ofLoan 4 = .ok (.istore_n 3, 1) := by decide +kernel
theorem dX9_ofLoan_5 : decode cX9_ofLoan 5 = .ok (.iload_n 2, 1) := by decide +kernel
theorem dX9_ofLoan_6 : decode cX9_ofLoan 6 = .ok (.iconst 5, 1) := by decide +kernel
theorem dX9_ofLoan_7 : decode cX9_ofLoan 7 = .ok (.if_icmp .ge 14, 3) := by decide +kernel
theorem dX9_ofLoan_10 : decode cX9_ofLoan 10 = .ok (.aload_n 0, 1) := by decide +kernel
theorem dX9_ofLoan_11 : decode cX9_ofLoan 11 = .ok (.getfield 7, 3) := by decide +kernel
theorem dX9_ofLoan_14 : decode cX9_ofLoan 14 = .ok (.iload_n 3, 1) := by decide +kernel
theorem dX9_ofLoan_15 : decode cX9_ofLoan 15 = .ok (.iload_n 2, 1) := by decide +kernel
theorem dX9_ofLoan_16 : decode cX9_ofLoan 16 = .ok (.iadd, 1) := by decide +kernel
theorem dX9_ofLoan_17 : decode cX9_ofLoan 17 = .ok (.iaload, 1) := by decide +kernel
theorem dX9_ofLoan_18 : decode cX9_ofLoan 18 = .ok (.goto 51, 3) := by decide +kernel
theorem dX9_ofLoan_21 : decode cX9_ofLoan 21 = .ok (.iload_n 2, 1) := by decide +kernel
theorem dX9_ofLoan_22 : decode cX9_ofLoan 22 = .ok (.iconst 5, 1) := by decide +kernel
theorem dX9_ofLoan_23 : decode cX9_ofLoan 23 = .ok (.if_icmp .ne 19, 3) := by decide +kernel
theorem dX9_ofLoan_26 : decode cX9_ofLoan 26 = .ok (.aload_n 0, 1) := by decide +kernel
theorem dX9_ofLoan_27 : decode cX9_ofLoan 27 = .ok (.aload_n 0, 1) := by decide +kernel
theorem dX9_ofLoan_28 : decode cX9_ofLoan 28 = .ok (.getfield 7, 3) := by decide +kernel
theorem dX9_ofLoan_31 : decode cX9_ofLoan 31 = .ok (.iload_n 3, 1) := by decide +kernel
theorem dX9_ofLoan_32 : decode cX9_ofLoan 32 = .ok (.iconst 1, 1) := by decide +kernel
theorem dX9_ofLoan_33 : decode cX9_ofLoan 33 = .ok (.iadd, 1) := by decide +kernel
theorem dX9_ofLoan_34 : decode cX9_ofLoan 34 = .ok (.iaload, 1) := by decide +kernel
theorem dX9_ofLoan_35 : decode cX9_ofLoan 35 = .ok (.iload_n 1, 1) := by decide +kernel
theorem dX9_ofLoan_36 : decode cX9_ofLoan 36 = .ok (.invokevirtual 70, 3) := by decide +kernel
theorem dX9_ofLoan_39 : decode cX9_ofLoan 39 = .ok (.goto 30, 3) := by decide +kernel
theorem dX9_ofLoan_42 : decode cX9_ofLoan 42 = .ok (.iload_n 2, 1) := by decide +kernel
theorem dX9_ofLoan_43 : decode cX9_ofLoan 43 = .ok (.bipush 6, 2) := by decide +kernel
theorem dX9_ofLoan_45 : decode cX9_ofLoan 45 = .ok (.if_icmp .ne 11, 3) := by decide +kernel
theorem dX9_ofLoan_48 : decode cX9_ofLoan 48 = .ok (.aload_n 0, 1) := by decide +kernel
theorem dX9_ofLoan_49 : decode cX9_ofLoan 49 = .ok (.iload_n 1, 1) := by decide +kernel
theorem dX9_ofLoan_50 : decode cX9_ofLoan 50 = .ok (.invokevirtual 76, 3) := by decide +kernel
theorem dX9_ofLoan_53 : decode cX9_ofLoan 53 = .ok (.goto 16, 3) := by decide +kernel
theorem dX9_ofLoan_56 : decode cX9_ofLoan 56 = .ok (.aload_n 0, 1) := by decide +kernel
theorem dX9_ofLoan_57 : decode cX9_ofLoan 57 = .ok (.iload_n 1, 1) := by decide +kernel
theorem dX9_ofLoan_58 : decode cX9_ofLoan 58 = .ok (.invokevirtual 73, 3) := by decide +kernel
theorem dX9_ofLoan_61 : decode cX9_ofLoan 61 = .ok (.ifCond .eq 7, 3) := by decide +kernel
theorem dX9_ofLoan_64 : decode cX9_ofLoan 64 = .ok (.iconst 1, 1) := by decide +kernel
theorem dX9_ofLoan_65 : decode cX9_ofLoan 65 = .ok (.goto 4, 3) := by decide +kernel
theorem dX9_ofLoan_68 : decode cX9_ofLoan 68 = .ok (.iconst 0, 1) := by decide +kernel
theorem dX9_ofLoan_69 : decode cX9_ofLoan 69 = .ok (.ireturn, 1) := by decide +kernel
theorem dX9_loan_0 : decode cX9_loan 0 = .ok (.aload_n 0, 1) := by decide +kernel
theorem dX9_loan_1 : decode cX9_loan 1 = .ok (.iload_n 1, 1) := by decide +kernel
theorem dX9_loan_2 : decode cX9_loan 2 = .ok (.iconst 0, 1) := by decide +kernel
theorem dX9_loan_3 : decode cX9_loan 3 = .ok (.aload_n 0, 1) := by decide +kernel
theorem dX9_loan_4 : decode cX9_loan 4 = .ok (.getfield 7, 3) := by decide +kernel
theorem dX9_loan_7 : decode cX9_loan 7 = .ok (.iconst 4, 1) := by decide +kernel
theorem dX9_loan_8 : decode cX9_loan 8 = .ok (.iaload, 1) := by decide +kernel
theorem dX9_loan_9 : decode cX9_loan 9 = .ok (.iconst 1, 1) := by decide +kernel
theorem dX9_loan_10 : decode cX9_loan 10 = .ok (.isub, 1) := by decide +kernel
theorem dX9_loan_11 : decode cX9_loan 11 = .ok (.invokestatic 48, 3) := by decide +kernel
theorem dX9_loan_14 : decode cX9_loan 14 = .ok (.ifCond .eq 17, 3) := by decide +kernel
theorem dX9_loan_17 : decode cX9_loan 17 = .ok (.iload_n 2, 1) := by decide +kernel
theorem dX9_loan_18 : decode cX9_loan 18 = .ok (.iconst 0, 1) := by decide +kernel
theorem dX9_loan_19 : decode cX9_loan 19 = .ok (.bipush 7, 2) := by decide +kernel
theorem dX9_loan_21 : decode cX9_loan 21 = .ok (.invokestatic 48, 3) := by decide +kernel
theorem dX9_loan_24 : decode cX9_loan 24 = .ok (.ifCond .eq 7, 3) := by decide +kernel
theorem dX9_loan_27 : decode cX9_loan 27 = .ok (.iconst 0, 1) := by decide +kernel
theorem dX9_loan_28 : decode cX9_loan 28 = .ok (.goto 4, 3) := by decide +kernel
theorem dX9_loan_31 : decode cX9_loan 31 = .ok (.iconst 1, 1) := by decide +kernel
theorem dX9_loan_32 : decode cX9_loan 32 = .ok (.putfield 42, 3) := by decide +kernel
theorem dX9_loan_35 : decode cX9_loan 35 = .ok (.aload_n 0, 1) := by decide +kernel
theorem dX9_loan_36 : decode cX9_loan 36 = .ok (.getfield 42, 3) := by decide +kernel
theorem dX9_loan_39 : decode cX9_loan 39 = .ok (.ifCond .ne 12, 3) := by decide +kernel
theorem dX9_loan_42 : decode cX9_loan 42 = .ok (.aload_n 0, 1) := by decide +kernel
theorem dX9_loan_43 : decode cX9_loan 43 = .ok (.iload_n 1, 1) := by decide +kernel
theorem dX9_loan_44 : decode cX9_loan 44 = .ok (.iload_n 2, 1) := by decide +kernel
theorem dX9_loan_45 : decode cX9_loan 45 = .ok (.invokevirtual 149, 3) := by decide +kernel
theorem dX9_loan_48 : decode cX9_loan 48 = .ok (.goto 4, 3) := by decide +kernel
theorem dX9_loan_51 : decode cX9_loan 51 = .ok (.iconst 0, 1) := by decide +kernel
theorem dX9_loan_52 : decode cX9_loan 52 = .ok (.ireturn, 1) := by decide +kernel
theorem dX9_helpers_0 : decode cX9_helpers 0 = .ok (.aload_n 0, 1) := by decide +kernel
theorem dX9_helpers_1 : decode cX9_helpers 1 = .ok (.aload_n 0, 1) := by decide +kernel
theorem dX9_helpers_2 : decode cX9_helpers 2 = .ok (.iload_n 1, 1) := by decide +kernel
theorem dX9_helpers_3 : decode cX9_helpers 3 = .ok (.invokevirtual 96, 3) := by decide +kernel
theorem dX9_helpers_6 : decode cX9_helpers 6 = .ok (.ifCond .eq 12, 3) := by decide +kernel
theorem dX9_helpers_9 : decode cX9_helpers 9 = .ok (.iload_n 2, 1) := by decide +kernel
theorem dX9_helpers_10 : decode cX9_helpers 10 = .ok (.iconst 0, 1) := by decide +kernel
theorem dX9_helpers_11 : decode cX9_helpers 11 = .ok (.iconst 1, 1) := by decide +kernel
theorem dX9_helpers_12 : decode cX9_helpers 12 = .ok (.invokestatic 48, 3) := by decide +kernel
theorem dX9_helpers_15 : decode cX9_helpers 15 = .ok (.ifCond .ne 7, 3) := by decide +kernel
theorem dX9_helpers_18 : decode cX9_helpers 18 = .ok (.iconst 1, 1) := by decide +kernel
theorem dX9_helpers_19 : decode cX9_helpers 19 = .ok (.goto 19, 3) := by decide +kernel
theorem dX9_helpers_22 : decode cX9_helpers 22 = .ok (.iload_n 3, 1) := by decide +kernel
theorem dX9_helpers_23 : decode cX9_helpers 23 = .ok (.iconst 0, 1) := by decide +kernel
theorem dX9_helpers_24 : decode cX9_helpers 24 = .ok (.sipush 30000, 3) := by decide +kernel
theorem dX9_helpers_27 : decode cX9_helpers 27 = .ok (.invokestatic 48, 3) := by decide +kernel
theorem dX9_helpers_30 : decode cX9_helpers 30 = .ok (.ifCond .ne 7, 3) := by decide +kernel
theorem dX9_helpers_33 : decode cX9_helpers 33 = .ok (.iconst 2, 1) := by decide +kernel
theorem dX9_helpers_34 : decode cX9_helpers 34 = .ok (.goto 4, 3) := by decide +kernel
theorem dX9_helpers_37 : decode cX9_helpers 37 = .ok (.iconst 0, 1) := by decide +kernel
theorem dX9_helpers_38 : decode cX9_helpers 38 = .ok (.putfield 42, 3) := by decide +kernel
theorem dX9_helpers_41 : decode cX9_helpers 41 = .ok (.aload_n 0, 1) := by decide +kernel
theorem dX9_helpers_42 : decode cX9_helpers 42 = .ok (.getfield 42, 3) := by decide +kernel
theorem dX9_helpers_45 : decode cX9_helpers 45 = .ok (.ifCond .eq 5, 3) := by decide +kernel
theorem dX9_helpers_48 : decode cX9_helpers 48 = .ok (.iconst 0, 1) := by decide +kernel
theorem dX9_helpers_49 : decode cX9_helpers 49 = .ok (.ireturn, 1) := by decide +kernel
theorem dX9_helpers_50 : decode cX9_helpers 50 = .ok (.aload_n 0, 1) := by decide +kernel
theorem dX9_helpers_51 : decode cX9_helpers 51 = .ok (.iload_n 1, 1) := by decide +kernel
theorem dX9_helpers_52 : decode cX9_helpers 52 = .ok (.iload_n 2, 1) := by decide +kernel
theorem dX9_helpers_53 : decode cX9_helpers 53 = .ok (.invokevirtual 85, 3) := by decide +kernel
theorem dX9_helpers_56 : decode cX9_helpers 56 = .ok (.istore 4, 2) := by decide +kernel
theorem dX9_helpers_58 : decode cX9_helpers 58 = .ok (.iconst 1, 1) := by decide +kernel
theorem dX9_helpers_59 : decode cX9_helpers 59 = .ok (.iload_n 1, 1) := by decide +kernel
theorem dX9_helpers_60 : decode cX9_helpers 60 = .ok (.ishl, 1) := by decide +kernel
theorem dX9_helpers_61 : decode cX9_helpers 61 = .ok (.istore 5, 2) := by decide +kernel
theorem dX9_helpers_63 : decode cX9_helpers 63 = .ok (.iconst 0, 1) := by decide +kernel
theorem dX9_helpers_64 : decode cX9_helpers 64 = .ok (.istore 6, 2) := by decide +kernel
theorem dX9_helpers_66 : decode cX9_helpers 66 = .ok (.iload 6, 2) := by decide +kernel
theorem dX9_helpers_68 : decode cX9_helpers 68 = .ok (.aload_n 0, 1) := by decide +kernel
theorem dX9_helpers_69 : decode cX9_helpers 69 = .ok (.getfield 34, 3) := by decide +kernel
theorem dX9_helpers_72 : decode cX9_helpers 72 = .ok (.if_icmp .ge 131, 3) := by decide +kernel
theorem dX9_helpers_75 : decode cX9_helpers 75 = .ok (.iload 4, 2) := by decide +kernel
theorem dX9_helpers_77 : decode cX9_helpers 77 = .ok (.iload_n 3, 1) := by decide +kernel
theorem dX9_helpers_78 : decode cX9_helpers 78 = .ok (.if_icmp .lt 6, 3) := by decide +kernel
theorem dX9_helpers_81 : decode cX9_helpers 81 = .ok (.iload 6, 2) := by decide +kernel
theorem dX9_helpers_83 : decode cX9_helpers 83 = .ok (.ireturn, 1) := by decide +kernel
theorem dX9_helpers_84 : decode cX9_helpers 84 = .ok (.iconst (-1), 1) := by decide +kernel
theorem dX9_helpers_85 : decode cX9_helpers 85 = .ok (.istore 7, 2) := by decide +kernel
theorem dX9_helpers_87 : decode cX9_helpers 87 = .ok (.iconst 0, 1) := by decide +kernel
theorem dX9_helpers_88 : decode cX9_helpers 88 = .ok (.istore 8, 2) := by decide +kernel
theorem dX9_helpers_90 : decode cX9_helpers 90 = .ok (.iload 8, 2) := by decide +kernel
theorem dX9_helpers_92 : decode cX9_helpers 92 = .ok (.aload_n 0, 1) := by decide +kernel
theorem dX9_helpers_93 : decode cX9_helpers 93 = .ok (.getfield 34, 3) := by decide +kernel
theorem dX9_helpers_96 : decode cX9_helpers 96 = .ok (.if_icmp .ge 62, 3) := by decide +kernel
theorem dX9_helpers_99 : decode cX9_helpers 99 = .ok (.iload 5, 2) := by decide +kernel
theorem dX9_helpers_101 : decode cX9_helpers 101 = .ok (.iload 8, 2) := by decide +kernel
theorem dX9_helpers_103 : decode cX9_helpers 103 = .ok (.ishr, 1) := by decide +kernel
theorem dX9_helpers_104 : decode cX9_helpers 104 = .ok (.iconst 1, 1) := by decide +kernel
theorem dX9_helpers_105 : decode cX9_helpers 105 = .ok (.iand, 1) := by decide +kernel
theorem dX9_helpers_106 : decode cX9_helpers 106 = .ok (.ifCond .ne 7, 3) := by decide +kernel
theorem dX9_helpers_109 : decode cX9_helpers 109 = .ok (.iconst 1, 1) := by decide +kernel
theorem dX9_helpers_110 : decode cX9_helpers 110 = .ok (.goto 4, 3) := by decide +kernel
theorem dX9_helpers_113 : decode cX9_helpers 113 = .ok (.iconst 0, 1) := by decide +kernel
theorem dX9_helpers_114 : decode cX9_helpers 114 = .ok (.istore 9, 2) := by decide +kernel
theorem dX9_helpers_116 : decode cX9_helpers 116 = .ok (.iload 9, 2) := by decide +kernel
theorem dX9_helpers_118 : decode cX9_helpers 118 = .ok (.ifCond .eq 30, 3) := by decide +kernel
theorem dX9_helpers_121 : decode cX9_helpers 121 = .ok (.iload 7, 2) := by decide +kernel
theorem dX9_helpers_123 : decode cX9_helpers 123 = .ok (.ifCond .lt 20, 3) := by decide +kernel
theorem dX9_helpers_126 : decode cX9_helpers 126 = .ok (.aload_n 0, 1) := by decide +kernel
theorem dX9_helpers_127 : decode cX9_helpers 127 = .ok (.iload 8, 2) := by decide +kernel
theorem dX9_helpers_129 : decode cX9_helpers 129 = .ok (.iload_n 2, 1) := by decide +kernel
theorem dX9_helpers_130 : decode cX9_helpers 130 = .ok (.invokevirtual 79, 3) := by decide +kernel
theorem dX9_helpers_133 : decode cX9_helpers 133 = .ok (.aload_n 0, 1) := by decide +kernel
theorem dX9_helpers_134 : decode cX9_helpers 134 = .ok (.iload 7, 2) := by decide +kernel
theorem dX9_helpers_136 : decode cX9_helpers 136 = .ok (.iload_n 2, 1) := by decide +kernel
theorem dX9_helpers_137 : decode cX9_helpers 137 = .ok (.invokevirtual 79, 3) := by decide +kernel
theorem dX9_helpers_140 : decode cX9_helpers 140 = .ok (.if_icmp .le 8, 3) := by decide +kernel
theorem dX9_helpers_143 : decode cX9_helpers 143 = .ok (.iload 8, 2) := by decide +kernel
theorem dX9_helpers_145 : decode cX9_helpers 145 = .ok (.goto 5, 3) := by decide +kernel
theorem dX9_helpers_148 : decode cX9_helpers 148 = .ok (.iload 7, 2) := by decide +kernel
theorem dX9_helpers_150 : decode cX9_helpers 150 = .ok (.istore 7, 2) := by decide +kernel
theorem dX9_helpers_152 : decode cX9_helpers 152 = .ok (.iinc 8 1, 3) := by decide +kernel
theorem dX9_helpers_155 : decode cX9_helpers 155 = .ok (.goto (-65), 3) := by decide +kernel
theorem dX9_helpers_158 : decode cX9_helpers 158 = .ok (.iload 4, 2) := by decide +kernel
theorem dX9_helpers_160 : decode cX9_helpers 160 = .ok (.iload 7, 2) := by decide +kernel
theorem dX9_helpers_162 : decode cX9_helpers 162 = .ok (.ifCond .ge 7, 3) := by decide +kernel
theorem dX9_helpers_165 : decode cX9_helpers 165 = .ok (.iconst 0, 1) := by decide +kernel
theorem dX9_helpers_166 : decode cX9_helpers 166 = .ok (.goto 10, 3) := by decide +kernel
theorem dX9_helpers_169 : decode cX9_helpers 169 = .ok (.aload_n 0, 1) := by decide +kernel
theorem dX9_helpers_170 : decode cX9_helpers 170 = .ok (.iload 7, 2) := by decide +kernel
theorem dX9_helpers_172 : decode cX9_helpers 172 = .ok (.iload_n 2, 1) := by decide +kernel
theorem dX9_helpers_173 : decode cX9_helpers 173 = .ok (.invokevirtual 79, 3) := by decide +kernel
theorem dX9_helpers_176 : decode cX9_helpers 176 = .ok (.iadd, 1) := by decide +kernel
theorem dX9_helpers_177 : decode cX9_helpers 177 = .ok (.istore 4, 2) := by decide +kernel
theorem dX9_helpers_179 : decode cX9_helpers 179 = .ok (.iload 5, 2) := by decide +kernel
theorem dX9_helpers_181 : decode cX9_helpers 181 = .ok (.iload 7, 2) := by decide +kernel
theorem dX9_helpers_183 : decode cX9_helpers 183 = .ok (.ifCond .ge 7, 3) := by decide +kernel
theorem dX9_helpers_186 : decode cX9_helpers 186 = .ok (.iconst 0, 1) := by decide +kernel
theorem dX9_helpers_187 : decode cX9_helpers 187 = .ok (.goto 7, 3) := by decide +kernel
theorem dX9_helpers_190 : decode cX9_helpers 190 = .ok (.iconst 1, 1) := by decide +kernel
theorem dX9_helpers_191 : decode cX9_helpers 191 = .ok (.iload 7, 2) := by decide +kernel
theorem dX9_helpers_193 : decode cX9_helpers 193 = .ok (.ishl, 1) := by decide +kernel
theorem dX9_helpers_194 : decode cX9_helpers 194 = .ok (.ior, 1) := by decide +kernel
theorem dX9_helpers_195 : decode cX9_helpers 195 = .ok (.istore 5, 2) := by decide +kernel
theorem dX9_helpers_197 : decode cX9_helpers 197 = .ok (.iinc 6 1, 3) := by decide +kernel
theorem dX9_helpers_200 : decode cX9_helpers 200 = .ok (.goto (-134), 3) := by decide +kernel
theorem dX9_helpers_203 : decode cX9_helpers 203 = .ok (.iconst (-1), 1) := by decide +kernel
theorem dX9_helpers_204 : decode cX9_helpers 204 = .ok (.ireturn, 1) := by decide +kernel
theorem dX9_type_0 : decode cX9_type 0 = .ok (.aload_n 0, 1) := by decide +kernel
theorem dX9_type_1 : decode cX9_type 1 = .ok (.iconst 0, 1) := by decide +kernel
theorem dX9_type_2 : decode cX9_type 2 = .ok (.putfield 42, 3) := by decide +kernel
theorem dX9_type_5 : decode cX9_type 5 = .ok (.iload_n 1, 1) := by decide +kernel
theorem dX9_type_6 : decode cX9_type 6 = .ok (.bipush 32, 2) := by decide +kernel
theorem dX9_type_8 : decode cX9_type 8 = .ok (.bipush 126, 2) := by decide +kernel
theorem dX9_type_10 : decode cX9_type 10 = .ok (.invokestatic 48, 3) := by decide +kernel
theorem dX9_type_13 : decode cX9_type 13 = .ok (.ifCond .ne 9, 3) := by decide +kernel
theorem dX9_type_16 : decode cX9_type 16 = .ok (.aload_n 0, 1) := by decide +kernel
theorem dX9_type_17 : decode cX9_type 17 = .ok (.iconst 1, 1) := by decide +kernel
theorem dX9_type_18 : decode cX9_type 18 = .ok (.invokevirtual 105, 3) := by decide +kernel
theorem dX9_type_21 : decode cX9_type 21 = .ok (.ireturn, 1) := by decide +kernel
theorem dX9_type_22 : decode cX9_type 22 = .ok (.aload_n 0, 1) := by decide +kernel
theorem dX9_type_23 : decode cX9_type 23 = .ok (.getfield 152, 3) := by decide +kernel
theorem dX9_type_26 : decode cX9_type 26 = .ok (.bipush 60, 2) := by decide +kernel
theorem dX9_type_28 : decode cX9_type 28 = .ok (.if_icmp .ne 9, 3) := by decide +kernel
theorem dX9_type_31 : decode cX9_type 31 = .ok (.aload_n 0, 1) := by decide +kernel
theorem dX9_type_32 : decode cX9_type 32 = .ok (.iconst 2, 1) := by decide +kernel
theorem dX9_type_33 : decode cX9_type 33 = .ok (.invokevirtual 105, 3) := by decide +kernel
theorem dX9_type_36 : decode cX9_type 36 = .ok (.ireturn, 1) := by decide +kernel
theorem dX9_type_37 : decode cX9_type 37 = .ok (.aload_n 0, 1) := by decide +kernel
theorem dX9_type_38 : decode cX9_type 38 = .ok (.getfield 19, 3) := by decide +kernel
theorem dX9_type_41 : decode cX9_type 41 = .ok (.aload_n 0, 1) := by decide +kernel
theorem dX9_type_42 : decode cX9_type 42 = .ok (.getfield 152, 3) := by decide +kernel
theorem dX9_type_45 : decode cX9_type 45 = .ok (.iload_n 1, 1) := by decide +kernel
theorem dX9_type_46 : decode cX9_type 46 = .ok (.iastore, 1) := by decide +kernel
theorem dX9_type_47 : decode cX9_type 47 = .ok (.aload_n 0, 1) := by decide +kernel
theorem dX9_type_48 : decode cX9_type 48 = .ok (.dup, 1) := by decide +kernel
theorem dX9_type_49 : decode cX9_type 49 = .ok (.getfield 152, 3) := by decide +kernel
theorem dX9_type_52 : decode cX9_type 52 = .ok (.iconst 1, 1) := by decide +kernel
theorem dX9_type_53 : decode cX9_type 53 = .ok (.iadd, 1) := by decide +kernel
theorem dX9_type_54 : decode cX9_type 54 = .ok (.putfield 152, 3) := by decide +kernel
theorem dX9_type_57 : decode cX9_type 57 = .ok (.aload_n 0, 1) := by decide +kernel
theorem dX9_type_58 : decode cX9_type 58 = .ok (.getfield 152, 3) := by decide +kernel
theorem dX9_type_61 : decode cX9_type 61 = .ok (.ireturn, 1) := by decide +kernel
theorem dX9_clearText_0 : decode cX9_clearText 0 = .ok (.aload_n 0, 1) := by decide +kernel
theorem dX9_clearText_1 : decode cX9_clearText 1 = .ok (.iconst 0, 1) := by decide +kernel
theorem dX9_clearText_2 : decode cX9_clearText 2 = .ok (.putfield 42, 3) := by decide +kernel
theorem dX9_clearText_5 : decode cX9_clearText 5 = .ok (.aload_n 0, 1) := by decide +kernel
theorem dX9_clearText_6 : decode cX9_clearText 6 = .ok (.getfield 152, 3) := by decide +kernel
theorem dX9_clearText_9 : decode cX9_clearText 9 = .ok (.istore_n 1, 1) := by decide +kernel
theorem dX9_clearText_10 : decode cX9_clearText 10 = .ok (.aload_n 0, 1) := by decide +kernel
theorem dX9_clearText_11 : decode cX9_clearText 11 = .ok (.iconst 0, 1) := by decide +kernel
theorem dX9_clearText_12 : decode cX9_clearText 12 = .ok (.putfield 152, 3) := by decide +kernel
theorem dX9_clearText_15 : decode cX9_clearText 15 = .ok (.iload_n 1, 1) := by decide +kernel
theorem dX9_clearText_16 : decode cX9_clearText 16 = .ok (.ireturn, 1) := by decide +kernel
theorem dX9_sign_0 : decode cX9_sign 0 = .ok (.aload_n 0, 1) := by decide +kernel
theorem dX9_sign_1 : decode cX9_sign 1 = .ok (.getfield 155, 3) := by decide +kernel
theorem dX9_sign_4 : decode cX9_sign 4 = .ok (.aload_n 0, 1) := by decide +kernel
theorem dX9_sign_5 : decode cX9_sign 5 = .ok (.getfield 152, 3) := by decide +kernel
theorem dX9_sign_8 : decode cX9_sign 8 = .ok (.if_icmp .ge 15, 3) := by decide +kernel
theorem dX9_sign_11 : decode cX9_sign 11 = .ok (.aload_n 0, 1) := by decide +kernel
theorem dX9_sign_12 : decode cX9_sign 12 = .ok (.getfield 19, 3) := by decide +kernel
theorem dX9_sign_15 : decode cX9_sign 15 = .ok (.aload_n 0, 1) := by decide +kernel
theorem dX9_sign_16 : decode cX9_sign 16 = .ok (.getfield 155, 3) := by decide +kernel
theorem dX9_sign_19 : decode cX9_sign 19 = .ok (.iaload, 1) := by decide +kernel
theorem dX9_sign_20 : decode cX9_sign 20 = .ok (.goto 4, 3) := by decide +kernel
theorem dX9_sign_23 : decode cX9_sign 23 = .ok (.iconst (-1), 1) := by decide +kernel
theorem dX9_sign_24 : decode cX9_sign 24 = .ok (.ireturn, 1) := by decide +kernel
theorem dX9_takes_0 : decode cX9_takes 0 = .ok (.aload_n 0, 1) := by decide +kernel
theorem dX9_takes_1 : decode cX9_takes 1 = .ok (.invokevirtual 158, 3) := by decide +kernel
theorem dX9_takes_4 : decode cX9_takes 4 = .ok (.iload_n 1, 1) := by decide +kernel
theorem dX9_takes_5 : decode cX9_takes 5 = .ok (.if_icmp .ne 7, 3) := by decide +kernel
theorem dX9_takes_8 : decode cX9_takes 8 = .ok (.iconst 1, 1) := by decide +kernel
theorem dX9_takes_9 : decode cX9_takes 9 = .ok (.goto 4, 3) := by decide +kernel
theorem dX9_takes_12 : decode cX9_takes 12 = .ok (.iconst 0, 1) := by decide +kernel
theorem dX9_takes_13 : decode cX9_takes 13 = .ok (.istore_n 2, 1) := by decide +kernel
theorem dX9_takes_14 : decode cX9_takes 14 = .ok (.aload_n 0, 1) := by decide +kernel
theorem dX9_takes_15 : decode cX9_takes 15 = .ok (.dup, 1) := by decide +kernel
theorem dX9_takes_16 : decode cX9_takes 16 = .ok (.getfield 155, 3) := by decide +kernel
theorem dX9_takes_19 : decode cX9_takes 19 = .ok (.iload_n 2, 1) := by decide +kernel
theorem dX9_takes_20 : decode cX9_takes 20 = .ok (.ifCond .eq 7, 3) := by decide +kernel
theorem dX9_takes_23 : decode cX9_takes 23 = .ok (.iconst 1, 1) := by decide +kernel
theorem dX9_takes_24 : decode cX9_takes 24 = .ok (.goto 4, 3) := by decide +kernel
theorem dX9_takes_27 : decode cX9_takes 27 = .ok (.iconst 0, 1) := by decide +kernel
theorem dX9_takes_28 : decode cX9_takes 28 = .ok (.iadd, 1) := by decide +kernel
theorem dX9_takes_29 : decode cX9_takes 29 = .ok (.putfield 155, 3) := by decide +kernel
theorem dX9_takes_32 : decode cX9_takes 32 = .ok (.iload_n 2, 1) := by decide +kernel
theorem dX9_takes_33 : decode cX9_takes 33 = .ok (.ireturn, 1) := by decide +kernel
theorem dX9_readsSite_0 : decode cX9_readsSite 0 = .ok (.aload_n 0, 1) := by decide +kernel
theorem dX9_readsSite_1 : decode cX9_readsSite 1 = .ok (.invokevirtual 158, 3) := by decide +kernel
theorem dX9_readsSite_4 : decode cX9_readsSite 4 = .ok (.bipush 48, 2) := by decide +kernel
theorem dX9_readsSite_6 : decode cX9_readsSite 6 = .ok (.bipush 57, 2) := by decide +kernel
theorem dX9_readsSite_8 : decode cX9_readsSite 8 = .ok (.invokestatic 48, 3) := by decide +kernel
theorem dX9_readsSite_11 : decode cX9_readsSite 11 = .ok (.istore_n 1, 1) := by decide +kernel
theorem dX9_readsSite_12 : decode cX9_readsSite 12 = .ok (.aload_n 0, 1) := by decide +kernel
theorem dX9_readsSite_13 : decode cX9_readsSite 13 = .ok (.iload_n 1, 1) := by decide +kernel
theorem dX9_readsSite_14 : decode cX9_readsSite 14 = .ok (.ifCond .eq 13, 3) := by decide +kernel
theorem dX9_readsSite_17 : decode cX9_readsSite 17 = .ok (.aload_n 0, 1) := by decide +kernel
theorem dX9_readsSite_18 : decode cX9_readsSite 18 = .ok (.invokevirtual 158, 3) := by decide +kernel
theorem dX9_readsSite_21 : decode cX9_readsSite 21 = .ok (.bipush 48, 2) := by decide +kernel
theorem dX9_readsSite_23 : decode cX9_readsSite 23 = .ok (.isub, 1) := by decide +kernel
theorem dX9_readsSite_24 : decode cX9_readsSite 24 = .ok (.goto 4, 3) := by decide +kernel
theorem dX9_readsSite_27 : decode cX9_readsSite 27 = .ok (.iconst 0, 1) := by decide +kernel
theorem dX9_readsSite_28 : decode cX9_readsSite 28 = .ok (.putfield 161, 3) := by decide +kernel
theorem dX9_readsSite_31 : decode cX9_readsSite 31 = .ok (.aload_n 0, 1) := by decide +kernel
theorem dX9_readsSite_32 : decode cX9_readsSite 32 = .ok (.dup, 1) := by decide +kernel
theorem dX9_readsSite_33 : decode cX9_readsSite 33 = .ok (.getfield 155, 3) := by decide +kernel
theorem dX9_readsSite_36 : decode cX9_readsSite 36 = .ok (.iload_n 1, 1) := by decide +kernel
theorem dX9_readsSite_37 : decode cX9_readsSite 37 = .ok (.ifCond .eq 7, 3) := by decide +kernel
theorem dX9_readsSite_40 : decode cX9_readsSite 40 = .ok (.iconst 1, 1) := by decide +kernel
theorem dX9_readsSite_41 : decode cX9_readsSite 41 = .ok (.goto 4, 3) := by decide +kernel
theorem dX9_readsSite_44 : decode cX9_readsSite 44 = .ok (.iconst 0, 1) := by decide +kernel
theorem dX9_readsSite_45 : decode cX9_readsSite 45 = .ok (.iadd, 1) := by decide +kernel
theorem dX9_readsSite_46 : decode cX9_readsSite 46 = .ok (.putfield 155, 3) := by decide +kernel
theorem dX9_readsSite_49 : decode cX9_readsSite 49 = .ok (.iload_n 1, 1) := by decide +kernel
theorem dX9_readsSite_50 : decode cX9_readsSite 50 = .ok (.ireturn, 1) := by decide +kernel
theorem dX9_readsNumber_0 : decode cX9_readsNumber 0 = .ok (.aload_n 0, 1) := by decide +kernel
theorem dX9_readsNumber_1 : decode cX9_readsNumber 1 = .ok (.getfield 155, 3) := by decide +kernel
theorem dX9_readsNumber_4 : decode cX9_readsNumber 4 = .ok (.istore_n 1, 1) := by decide +kernel
theorem dX9_readsNumber_5 : decode cX9_readsNumber 5 = .ok (.iconst 0, 1) := by decide +kernel
theorem dX9_readsNumber_6 : decode cX9_readsNumber 6 = .ok (.istore_n 2, 1) := by decide +kernel
theorem dX9_readsNumber_7 : decode cX9_readsNumber 7 = .ok (.aload_n 0, 1) := by decide +kernel
theorem dX9_readsNumber_8 : decode cX9_readsNumber 8 = .ok (.invokevirtual 158, 3) := by decide +kernel
theorem dX9_readsNumber_11 : decode cX9_readsNumber 11 = .ok (.bipush 48, 2) := by decide +kernel
theorem dX9_readsNumber_13 : decode cX9_readsNumber 13 = .ok (.bipush 57, 2) := by decide +kernel
theorem dX9_readsNumber_15 : decode cX9_readsNumber 15 = .ok (.invokestatic 48, 3) := by decide +kernel
theorem dX9_readsNumber_18 : decode cX9_readsNumber 18 = .ok (.ifCond .eq 39, 3) := by decide +kernel
theorem dX9_readsNumber_21 : decode cX9_readsNumber 21 = .ok (.aload_n 0, 1) := by decide +kernel
theorem dX9_readsNumber_22 : decode cX9_readsNumber 22 = .ok (.getfield 155, 3) := by decide +kernel
theorem dX9_readsNumber_25 : decode cX9_readsNumber 25 = .ok (.iload_n 1, 1) := by decide +kernel
theorem dX9_readsNumber_26 : decode cX9_readsNumber 26 = .ok (.isub, 1) := by decide +kernel
theorem dX9_readsNumber_27 : decode cX9_readsNumber 27 = .ok (.iconst 3, 1) := by decide +kernel
theorem dX9_readsNumber_28 : decode cX9_readsNumber 28 = .ok (.if_icmp .ge 29, 3) := by decide +kernel
theorem dX9_readsNumber_31 : decode cX9_readsNumber 31 = .ok (.bipush 10, 2) := by decide +kernel
theorem dX9_readsNumber_33 : decode cX9_readsNumber 33 = .ok (.iload_n 2, 1) := by decide +kernel
theorem dX9_readsNumber_34 : decode cX9_readsNumber 34 = .ok (.imul, 1) := by decide +kernel
theorem dX9_readsNumber_35 : decode cX9_readsNumber 35 = .ok (.aload_n 0, 1) := by decide +kernel
theorem dX9_readsNumber_36 : decode cX9_readsNumber 36 = .ok (.invokevirtual 158, 3) := by decide +kernel
theorem dX9_readsNumber_39 : decode cX9_readsNumber 39 = .ok (.iadd, 1) := by decide +kernel
theorem dX9_readsNumber_40 : decode cX9_readsNumber 40 = .ok (.bipush 48, 2) := by decide +kernel
theorem dX9_readsNumber_42 : decode cX9_readsNumber 42 = .ok (.isub, 1) := by decide +kernel
theorem dX9_readsNumber_43 : decode cX9_readsNumber 43 = .ok (.istore_n 2, 1) := by decide +kernel
theorem dX9_readsNumber_44 : decode cX9_readsNumber 44 = .ok (.aload_n 0, 1) := by decide +kernel
theorem dX9_readsNumber_45 : decode cX9_readsNumber 45 = .ok (.dup, 1) := by decide +kernel
theorem dX9_readsNumber_46 : decode cX9_readsNumber 46 = .ok (.getfield 155, 3) := by decide +kernel
theorem dX9_readsNumber_49 : decode cX9_readsNumber 49 = .ok (.iconst 1, 1) := by decide +kernel
theorem dX9_readsNumber_50 : decode cX9_readsNumber 50 = .ok (.iadd, 1) := by decide +kernel
theorem dX9_readsNumber_51 : decode cX9_readsNumber 51 = .ok (.putfield 155, 3) := by decide +kernel
theorem dX9_readsNumber_54 : decode cX9_readsNumber 54 = .ok (.goto (-47), 3) := by decide +kernel
theorem dX9_readsNumber_57 : decode cX9_readsNumber 57 = .ok (.aload_n 0, 1) := by decide +kernel
theorem dX9_readsNumber_58 : decode cX9_readsNumber 58 = .ok (.getfield 31, 3) := by decide +kernel
theorem dX9_readsNumber_61 : decode cX9_readsNumber 61 = .ok (.aload_n 0, 1) := by decide +kernel
theorem dX9_readsNumber_62 : decode cX9_readsNumber 62 = .ok (.getfield 164, 3) := by decide +kernel
theorem dX9_readsNumber_65 : decode cX9_readsNumber 65 = .ok (.iload_n 2, 1) := by decide +kernel
theorem dX9_readsNumber_66 : decode cX9_readsNumber 66 = .ok (.iastore, 1) := by decide +kernel
theorem dX9_readsNumber_67 : decode cX9_readsNumber 67 = .ok (.aload_n 0, 1) := by decide +kernel
theorem dX9_readsNumber_68 : decode cX9_readsNumber 68 = .ok (.getfield 155, 3) := by decide +kernel
theorem dX9_readsNumber_71 : decode cX9_readsNumber 71 = .ok (.iload_n 1, 1) := by decide +kernel
theorem dX9_readsNumber_72 : decode cX9_readsNumber 72 = .ok (.if_icmp .le 7, 3) := by decide +kernel
theorem dX9_readsNumber_75 : decode cX9_readsNumber 75 = .ok (.iconst 1, 1) := by decide +kernel
theorem dX9_readsNumber_76 : decode cX9_readsNumber 76 = .ok (.goto 4, 3) := by decide +kernel
theorem dX9_readsNumber_79 : decode cX9_readsNumber 79 = .ok (.iconst 0, 1) := by decide +kernel
theorem dX9_readsNumber_80 : decode cX9_readsNumber 80 = .ok (.ireturn, 1) := by decide +kernel
theorem dX9_readsCommand_0 : decode cX9_readsCommand 0 = .ok (.aload_n 0, 1) := by decide +kernel
theorem dX9_readsCommand_1 : decode cX9_readsCommand 1 = .ok (.invokevirtual 158, 3) := by decide +kernel
theorem dX9_readsCommand_4 : decode cX9_readsCommand 4 = .ok (.istore_n 1, 1) := by decide +kernel
theorem dX9_readsCommand_5 : decode cX9_readsCommand 5 = .ok (.iload_n 1, 1) := by decide +kernel
theorem dX9_readsCommand_6 : decode cX9_readsCommand 6 = .ok (.bipush 43, 2) := by decide +kernel
theorem dX9_readsCommand_8 : decode cX9_readsCommand 8 = .ok (.if_icmp .eq 33, 3) := by decide +kernel
theorem dX9_readsCommand_11 : decode cX9_readsCommand 11 = .ok (.iload_n 1, 1) := by decide +kernel
theorem dX9_readsCommand_12 : decode cX9_readsCommand 12 = .ok (.bipush 45, 2) := by decide +kernel
theorem dX9_readsCommand_14 : decode cX9_readsCommand 14 = .ok (.if_icmp .eq 27, 3) := by decide +kernel
theorem dX9_readsCommand_17 : decode cX9_readsCommand 17 = .ok (.iload_n 1, 1) := by decide +kernel
theorem dX9_readsCommand_18 : decode cX9_readsCommand 18 = .ok (.bipush 117, 2) := by decide +kernel
theorem dX9_readsCommand_20 : decode cX9_readsCommand 20 = .ok (.if_icmp .eq 21, 3) := by decide +kernel
theorem dX9_readsCommand_23 : decode cX9_readsCommand 23 = .ok (.iload_n 1, 1) := by decide +kernel
theorem dX9_readsCommand_24 : decode cX9_readsCommand 24 = .ok (.bipush 100, 2) := by decide +kernel
theorem dX9_readsCommand_26 : decode cX9_readsCommand 26 = .ok (.if_icmp .eq 15, 3) := by decide +kernel
theorem dX9_readsCommand_29 : decode cX9_readsCommand 29 = .ok (.iload_n 1, 1) := by decide +kernel
theorem dX9_readsCommand_30 : decode cX9_readsCommand 30 = .ok (.bipush 109, 2) := by decide +kernel
theorem dX9_readsCommand_32 : decode cX9_readsCommand 32 = .ok (.if_icmp .eq 9, 3) := by decide +kernel
theorem dX9_readsCommand_35 : decode cX9_readsCommand 35 = .ok (.iload_n 1, 1) := by decide +kernel
theorem dX9_readsCommand_36 : decode cX9_readsCommand 36 = .ok (.bipush 116, 2) := by decide +kernel
theorem dX9_readsCommand_38 : decode cX9_readsCommand 38 = .ok (.if_icmp .ne 7, 3) := by decide +kernel
theorem dX9_readsCommand_41 : decode cX9_readsCommand 41 = .ok (.iconst 1, 1) := by decide +kernel
theorem dX9_readsCommand_42 : decode cX9_readsCommand 42 = .ok (.goto 4, 3) := by decide +kernel
theorem dX9_readsCommand_45 : decode cX9_readsCommand 45 = .ok (.iconst 0, 1) := by decide +kernel
theorem dX9_readsCommand_46 : decode cX9_readsCommand 46 = .ok (.istore_n 2, 1) := by decide +kernel
theorem dX9_readsCommand_47 : decode cX9_readsCommand 47 = .ok (.iload_n 2, 1) := by decide +kernel
theorem dX9_readsCommand_48 : decode cX9_readsCommand 48 = .ok (.ifCond .ne 5, 3) := by decide +kernel
theorem dX9_readsCommand_51 : decode cX9_readsCommand 51 = .ok (.iconst 0, 1) := by decide +kernel
theorem dX9_readsCommand_52 : decode cX9_readsCommand 52 = .ok (.ireturn, 1) := by decide +kernel
theorem dX9_readsCommand_53 : decode cX9_readsCommand 53 = .ok (.aload_n 0, 1) := by decide +kernel
theorem dX9_readsCommand_54 : decode cX9_readsCommand 54 = .ok (.getfield 22, 3) := by decide +kernel
theorem dX9_readsCommand_57 : decode cX9_readsCommand 57 = .ok (.aload_n 0, 1) := by decide +kernel
theorem dX9_readsCommand_58 : decode cX9_readsCommand 58 = .ok (.getfield 164, 3) := by decide +kernel
theorem dX9_readsCommand_61 : decode cX9_readsCommand 61 = .ok (.iload_n 1, 1) := by decide +kernel
theorem dX9_readsCommand_62 : decode cX9_readsCommand 62 = .ok (.iastore, 1) := by decide +kernel
theorem dX9_readsCommand_63 : decode cX9_readsCommand 63 = .ok (.aload_n 0, 1) := by decide +kernel
theorem dX9_readsCommand_64 : decode cX9_readsCommand 64 = .ok (.dup, 1) := by decide +kernel
theorem dX9_readsCommand_65 : decode cX9_readsCommand 65 = .ok (.getfield 155, 3) := by decide +kernel
theorem dX9_readsCommand_68 : decode cX9_readsCommand 68 = .ok (.iconst 1, 1) := by decide +kernel
theorem dX9_readsCommand_69 : decode cX9_readsCommand 69 = .ok (.iadd, 1) := by decide +kernel
theorem dX9_readsCommand_70 : decode cX9_readsCommand 70 = .ok (.putfield 155, 3) := by decide +kernel
theorem dX9_readsCommand_73 : decode cX9_readsCommand 73 = .ok (.iload_n 1, 1) := by decide +kernel
theorem dX9_readsCommand_74 : decode cX9_readsCommand 74 = .ok (.bipush 116, 2) := by decide +kernel
theorem dX9_readsCommand_76 : decode cX9_readsCommand 76 = .ok (.if_icmp .ne 8, 3) := by decide +kernel
theorem dX9_readsCommand_79 : decode cX9_readsCommand 79 = .ok (.aload_n 0, 1) := by decide +kernel
theorem dX9_readsCommand_80 : decode cX9_readsCommand 80 = .ok (.invokevirtual 167, 3) := by decide +kernel
theorem dX9_readsCommand_83 : decode cX9_readsCommand 83 = .ok (.ireturn, 1) := by decide +kernel
theorem dX9_readsCommand_84 : decode cX9_readsCommand 84 = .ok (.aload_n 0, 1) := by decide +kernel
theorem dX9_readsCommand_85 : decode cX9_readsCommand 85 = .ok (.invokevirtual 171, 3) := by decide +kernel
theorem dX9_readsCommand_88 : decode cX9_readsCommand 88 = .ok (.ifCond .ne 5, 3) := by decide +kernel
theorem dX9_readsCommand_91 : decode cX9_readsCommand 91 = .ok (.iconst 0, 1) := by decide +kernel
theorem dX9_readsCommand_92 : decode cX9_readsCommand 92 = .ok (.ireturn, 1) := by decide +kernel
theorem dX9_readsCommand_93 : decode cX9_readsCommand 93 = .ok (.aload_n 0, 1) := by decide +kernel
theorem dX9_readsCommand_94 : decode cX9_readsCommand 94 = .ok (.getfield 25, 3) := by decide +kernel
theorem dX9_readsCommand_97 : decode cX9_readsCommand 97 = .ok (.aload_n 0, 1) := by decide +kernel
theorem dX9_readsCommand_98 : decode cX9_readsCommand 98 = .ok (.getfield 164, 3) := by decide +kernel
theorem dX9_readsCommand_101 : decode cX9_readsCommand 101 = .ok (.aload_n 0, 1) := by decide +kernel
theorem dX9_readsCommand_102 : decode cX9_readsCommand 102 = .ok (.getfield 161, 3) := by decide +kernel
theorem dX9_readsCommand_105 : decode cX9_readsCommand 105 = .ok (.iastore, 1) := by decide +kernel
theorem dX9_readsCommand_106 : decode cX9_readsCommand 106 = .ok (.iload_n 1, 1) := by decide +kernel
theorem dX9_readsCommand_107 : decode cX9_readsCommand 107 = .ok (.bipush 117, 2) := by decide +kernel
theorem dX9_readsCommand_109 : decode cX9_readsCommand 109 = .ok (.if_icmp .eq 15, 3) := by decide +kernel
theorem dX9_readsCommand_112 : decode cX9_readsCommand 112 = .ok (.iload_n 1, 1) := by decide +kernel
theorem dX9_readsCommand_113 : decode cX9_readsCommand 113 = .ok (.bipush 100, 2) := by decide +kernel
theorem dX9_readsCommand_115 : decode cX9_readsCommand 115 = .ok (.if_icmp .eq 9, 3) := by decide +kernel
theorem dX9_readsCommand_118 : decode cX9_readsCommand 118 = .ok (.iload_n 1, 1) := by decide +kernel
theorem dX9_readsCommand_119 : decode cX9_readsCommand 119 = .ok (.bipush 109, 2) := by decide +kernel
theorem dX9_readsCommand_121 : decode cX9_readsCommand 121 = .ok (.if_icmp .ne 34, 3) := by decide +kernel
theorem dX9_readsCommand_124 : decode cX9_readsCommand 124 = .ok (.aload_n 0, 1) := by decide +kernel
theorem dX9_readsCommand_125 : decode cX9_readsCommand 125 = .ok (.bipush 62, 2) := by decide +kernel
theorem dX9_readsCommand_127 : decode cX9_readsCommand 127 = .ok (.invokevirtual 174, 3) := by decide +kernel
theorem dX9_readsCommand_130 : decode cX9_readsCommand 130 = .ok (.ifCond .eq 10, 3) := by decide +kernel
theorem dX9_readsCommand_133 : decode cX9_readsCommand 133 = .ok (.aload_n 0, 1) := by decide +kernel
theorem dX9_readsCommand_134 : decode cX9_readsCommand 134 = .ok (.invokevirtual 171, 3) := by decide +kernel
theorem dX9_readsCommand_137 : decode cX9_readsCommand 137 = .ok (.ifCond .ne 5, 3) := by decide +kernel
theorem dX9_readsCommand_140 : decode cX9_readsCommand 140 = .ok (.iconst 0, 1) := by decide +kernel
theorem dX9_readsCommand_141 : decode cX9_readsCommand 141 = .ok (.ireturn, 1) := by decide +kernel
theorem dX9_readsCommand_142 : decode cX9_readsCommand 142 = .ok (.aload_n 0, 1) := by decide +kernel
theorem dX9_readsCommand_143 : decode cX9_readsCommand 143 = .ok (.getfield 28, 3) := by decide +kernel
theorem dX9_readsCommand_146 : decode cX9_readsCommand 146 = .ok (.aload_n 0, 1) := by decide +kernel
theorem dX9_readsCommand_147 : decode cX9_readsCommand 147 = .ok (.getfield 164, 3) := by decide +kernel
theorem dX9_readsCommand_150 : decode cX9_readsCommand 150 = .ok (.aload_n 0, 1) := by decide +kernel
theorem dX9_readsCommand_151 : decode cX9_readsCommand 151 = .ok (.getfield 161, 3) := by decide +kernel
theorem dX9_readsCommand_154 : decode cX9_readsCommand 154 = .ok (.iastore, 1) := by decide +kernel
theorem dX9_readsCommand_155 : decode cX9_readsCommand 155 = .ok (.iload_n 1, 1) := by decide +kernel
theorem dX9_readsCommand_156 : decode cX9_readsCommand 156 = .ok (.bipush 109, 2) := by decide +kernel
theorem dX9_readsCommand_158 : decode cX9_readsCommand 158 = .ok (.if_icmp .eq 19, 3) := by decide +kernel
theorem dX9_readsCommand_161 : decode cX9_readsCommand 161 = .ok (.aload_n 0, 1) := by decide +kernel
theorem dX9_readsCommand_162 : decode cX9_readsCommand 162 = .ok (.bipush 58, 2) := by decide +kernel
theorem dX9_readsCommand_164 : decode cX9_readsCommand 164 = .ok (.invokevirtual 174, 3) := by decide +kernel
theorem dX9_readsCommand_167 : decode cX9_readsCommand 167 = .ok (.ifCond .eq 14, 3) := by decide +kernel
theorem dX9_readsCommand_170 : decode cX9_readsCommand 170 = .ok (.aload_n 0, 1) := by decide +kernel
theorem dX9_readsCommand_171 : decode cX9_readsCommand 171 = .ok (.invokevirtual 167, 3) := by decide +kernel
theorem dX9_readsCommand_174 : decode cX9_readsCommand 174 = .ok (.ifCond .eq 7, 3) := by decide +kernel
theorem dX9_readsCommand_177 : decode cX9_readsCommand 177 = .ok (.iconst 1, 1) := by decide +kernel
theorem dX9_readsCommand_178 : decode cX9_readsCommand 178 = .ok (.goto 4, 3) := by decide +kernel
theorem dX9_readsCommand_181 : decode cX9_readsCommand 181 = .ok (.iconst 0, 1) := by decide +kernel
theorem dX9_readsCommand_182 : decode cX9_readsCommand 182 = .ok (.ireturn, 1) := by decide +kernel
theorem dX9_readsScript_0 : decode cX9_readsScript 0 = .ok (.aload_n 0, 1) := by decide +kernel
theorem dX9_readsScript_1 : decode cX9_readsScript 1 = .ok (.iconst 0, 1) := by decide +kernel
theorem dX9_readsScript_2 : decode cX9_readsScript 2 = .ok (.putfield 155, 3) := by decide +kernel
theorem dX9_readsScript_5 : decode cX9_readsScript 5 = .ok (.aload_n 0, 1) := by decide +kernel
theorem dX9_readsScript_6 : decode cX9_readsScript 6 = .ok (.iconst 0, 1) := by decide +kernel
theorem dX9_readsScript_7 : decode cX9_readsScript 7 = .ok (.putfield 164, 3) := by decide +kernel
theorem dX9_readsScript_10 : decode cX9_readsScript 10 = .ok (.iconst 1, 1) := by decide +kernel
theorem dX9_readsScript_11 : decode cX9_readsScript 11 = .ok (.istore_n 1, 1) := by decide +kernel
theorem dX9_readsScript_12 : decode cX9_readsScript 12 = .ok (.iload_n 1, 1) := by decide +kernel
theorem dX9_readsScript_13 : decode cX9_readsScript 13 = .ok (.ifCond .eq 32, 3) := by decide +kernel
theorem dX9_readsScript_16 : decode cX9_readsScript 16 = .ok (.aload_n 0, 1) := by decide +kernel
theorem dX9_readsScript_17 : decode cX9_readsScript 17 = .ok (.invokevirtual 177, 3) := by decide +kernel
theorem dX9_readsScript_20 : decode cX9_readsScript 20 = .ok (.ifCond .ne 5, 3) := by decide +kernel
theorem dX9_readsScript_23 : decode cX9_readsScript 23 = .ok (.iconst 0, 1) := by decide +kernel
theorem dX9_readsScript_24 : decode cX9_readsScript 24 = .ok (.ireturn, 1) := by decide +kernel
theorem dX9_readsScript_25 : decode cX9_readsScript 25 = .ok (.aload_n 0, 1) := by decide +kernel
theorem dX9_readsScript_26 : decode cX9_readsScript 26 = .ok (.dup, 1) := by decide +kernel
theorem dX9_readsScript_27 : decode cX9_readsScript 27 = .ok (.getfield 164, 3) := by decide +kernel
theorem dX9_readsScript_30 : decode cX9_readsScript 30 = .ok (.iconst 1, 1) := by decide +kernel
theorem dX9_readsScript_31 : decode cX9_readsScript 31 = .ok (.iadd, 1) := by decide +kernel
theorem dX9_readsScript_32 : decode cX9_readsScript 32 = .ok (.putfield 164, 3) := by decide +kernel
theorem dX9_readsScript_35 : decode cX9_readsScript 35 = .ok (.aload_n 0, 1) := by decide +kernel
theorem dX9_readsScript_36 : decode cX9_readsScript 36 = .ok (.bipush 59, 2) := by decide +kernel
theorem dX9_readsScript_38 : decode cX9_readsScript 38 = .ok (.invokevirtual 174, 3) := by decide +kernel
theorem dX9_readsScript_41 : decode cX9_readsScript 41 = .ok (.istore_n 1, 1) := by decide +kernel
theorem dX9_readsScript_42 : decode cX9_readsScript 42 = .ok (.goto (-30), 3) := by decide +kernel
theorem dX9_readsScript_45 : decode cX9_readsScript 45 = .ok (.aload_n 0, 1) := by decide +kernel
theorem dX9_readsScript_46 : decode cX9_readsScript 46 = .ok (.getfield 155, 3) := by decide +kernel
theorem dX9_readsScript_49 : decode cX9_readsScript 49 = .ok (.aload_n 0, 1) := by decide +kernel
theorem dX9_readsScript_50 : decode cX9_readsScript 50 = .ok (.getfield 152, 3) := by decide +kernel
theorem dX9_readsScript_53 : decode cX9_readsScript 53 = .ok (.if_icmp .ne 7, 3) := by decide +kernel
theorem dX9_readsScript_56 : decode cX9_readsScript 56 = .ok (.iconst 1, 1) := by decide +kernel
theorem dX9_readsScript_57 : decode cX9_readsScript 57 = .ok (.goto 4, 3) := by decide +kernel
theorem dX9_readsScript_60 : decode cX9_readsScript 60 = .ok (.iconst 0, 1) := by decide +kernel
theorem dX9_readsScript_61 : decode cX9_readsScript 61 = .ok (.ireturn, 1) := by decide +kernel
theorem dX9_does_0 : decode cX9_does 0 = .ok (.aload_n 0, 1) := by decide +kernel
theorem dX9_does_1 : decode cX9_does 1 = .ok (.getfield 22, 3) := by decide +kernel
theorem dX9_does_4 : decode cX9_does 4 = .ok (.iload_n 1, 1) := by decide +kernel
theorem dX9_does_5 : decode cX9_does 5 = .ok (.iaload, 1) := by decide +kernel
theorem dX9_does_6 : decode cX9_does 6 = .ok (.istore_n 2, 1) := by decide +kernel
theorem dX9_does_7 : decode cX9_does 7 = .ok (.aload_n 0, 1) := by decide +kernel
theorem dX9_does_8 : decode cX9_does 8 = .ok (.getfield 25, 3) := by decide +kernel
theorem dX9_does_11 : decode cX9_does 11 = .ok (.iload_n 1, 1) := by decide +kernel
theorem dX9_does_12 : decode cX9_does 12 = .ok (.iaload, 1) := by decide +kernel
theorem dX9_does_13 : decode cX9_does 13 = .ok (.istore_n 3, 1) := by decide +kernel
theorem dX9_does_14 : decode cX9_does 14 = .ok (.aload_n 0, 1) := by decide +kernel
theorem dX9_does_15 : decode cX9_does 15 = .ok (.getfield 28, 3) := by decide +kernel
theorem dX9_does_18 : decode cX9_does 18 = .ok (.iload_n 1, 1) := by decide +kernel
theorem dX9_does_19 : decode cX9_does 19 = .ok (.iaload, 1) := by decide +kernel
theorem dX9_does_20 : decode cX9_does 20 = .ok (.istore 4, 2) := by decide +kernel
theorem dX9_does_22 : decode cX9_does 22 = .ok (.aload_n 0, 1) := by decide +kernel
theorem dX9_does_23 : decode cX9_does 23 = .ok (.getfield 31, 3) := by decide +kernel
theorem dX9_does_26 : decode cX9_does 26 = .ok (.iload_n 1, 1) := by decide +kernel
theorem dX9_does_27 : decode cX9_does 27 = .ok (.iaload, 1) := by decide +kernel
theorem dX9_does_28 : decode cX9_does 28 = .ok (.istore 5, 2) := by decide +kernel
theorem dX9_does_30 : decode cX9_does 30 = .ok (.iload_n 2, 1) := by decide +kernel
theorem dX9_does_31 : decode cX9_does 31 = .ok (.bipush 116, 2) := by decide +kernel
theorem dX9_does_33 : decode cX9_does 33 = .ok (.if_icmp .ne 43, 3) := by decide +kernel
theorem dX9_does_36 : decode cX9_does 36 = .ok (.aload_n 0, 1) := by decide +kernel
theorem dX9_does_37 : decode cX9_does 37 = .ok (.getfield 7, 3) := by decide +kernel
theorem dX9_does_40 : decode cX9_does 40 = .ok (.iconst 0, 1) := by decide +kernel
theorem dX9_does_41 : decode cX9_does 41 = .ok (.dup2, 1) := by decide +kernel
theorem dX9_does_42 : decode cX9_does 42 = .ok (.iaload, 1) := by decide +kernel
theorem dX9_does_43 : decode cX9_does 43 = .ok (.iload 5, 2) := by decide +kernel
theorem dX9_does_45 : decode cX9_does 45 = .ok (.iadd, 1) := by decide +kernel
theorem dX9_does_46 : decode cX9_does 46 = .ok (.iastore, 1) := by decide +kernel
theorem dX9_does_47 : decode cX9_does 47 = .ok (.iload 5, 2) := by decide +kernel
theorem dX9_does_49 : decode cX9_does 49 = .ok (.iconst 1, 1) := by decide +kernel
theorem dX9_does_50 : decode cX9_does 50 = .ok (.sipush 999, 3) := by decide +kernel
theorem dX9_does_53 : decode cX9_does 53 = .ok (.invokestatic 48, 3) := by decide +kernel
theorem dX9_does_56 : decode cX9_does 56 = .ok (.ifCond .eq 18, 3) := by decide +kernel
theorem dX9_does_59 : decode cX9_does 59 = .ok (.aload_n 0, 1) := by decide +kernel
theorem dX9_does_60 : decode cX9_does 60 = .ok (.getfield 7, 3) := by decide +kernel
theorem dX9_does_63 : decode cX9_does 63 = .ok (.iconst 0, 1) := by decide +kernel
theorem dX9_does_64 : decode cX9_does 64 = .ok (.iaload, 1) := by decide +kernel
theorem dX9_does_65 : decode cX9_does 65 = .ok (.ldc 123, 2) := by decide +kernel
theorem dX9_does_67 : decode cX9_does 67 = .ok (.if_icmp .gt 7, 3) := by decide +kernel
theorem dX9_does_70 : decode cX9_does 70 = .ok (.iconst 1, 1) := by decide +kernel
theorem dX9_does_71 : decode cX9_does 71 = .ok (.goto 4, 3) := by decide +kernel
theorem dX9_does_74 : decode cX9_does 74 = .ok (.iconst 0, 1) := by decide +kernel
theorem dX9_does_75 : decode cX9_does 75 = .ok (.ireturn, 1) := by decide +kernel
theorem dX9_does_76 : decode cX9_does 76 = .ok (.iload_n 2, 1) := by decide +kernel
theorem dX9_does_77 : decode cX9_does 77 = .ok (.bipush 43, 2) := by decide +kernel
theorem dX9_does_79 : decode cX9_does 79 = .ok (.if_icmp .eq 9, 3) := by decide +kernel
theorem dX9_does_82 : decode cX9_does 82 = .ok (.iload_n 2, 1) := by decide +kernel
theorem dX9_does_83 : decode cX9_does 83 = .ok (.bipush 45, 2) := by decide +kernel
theorem dX9_does_85 : decode cX9_does 85 = .ok (.if_icmp .ne 50, 3) := by decide +kernel
theorem dX9_does_88 : decode cX9_does 88 = .ok (.aload_n 0, 1) := by decide +kernel
theorem dX9_does_89 : decode cX9_does 89 = .ok (.iload_n 3, 1) := by decide +kernel
theorem dX9_does_90 : decode cX9_does 90 = .ok (.invokevirtual 96, 3) := by decide +kernel
theorem dX9_does_93 : decode cX9_does 93 = .ok (.ifCond .eq 40, 3) := by decide +kernel
theorem dX9_does_96 : decode cX9_does 96 = .ok (.iload 5, 2) := by decide +kernel
theorem dX9_does_98 : decode cX9_does 98 = .ok (.iconst 1, 1) := by decide +kernel
theorem dX9_does_99 : decode cX9_does 99 = .ok (.sipush 999, 3) := by decide +kernel
theorem dX9_does_102 : decode cX9_does 102 = .ok (.invokestatic 48, 3) := by decide +kernel
theorem dX9_does_105 : decode cX9_does 105 = .ok (.ifCond .eq 28, 3) := by decide +kernel
theorem dX9_does_108 : decode cX9_does 108 = .ok (.aload_n 0, 1) := by decide +kernel
theorem dX9_does_109 : decode cX9_does 109 = .ok (.iload_n 3, 1) := by decide +kernel
theorem dX9_does_110 : decode cX9_does 110 = .ok (.iload_n 2, 1) := by decide +kernel
theorem dX9_does_111 : decode cX9_does 111 = .ok (.bipush 43, 2) := by decide +kernel
theorem dX9_does_113 : decode cX9_does 113 = .ok (.if_icmp .ne 7, 3) := by decide +kernel
theorem dX9_does_116 : decode cX9_does 116 = .ok (.iconst 0, 1) := by decide +kernel
theorem dX9_does_117 : decode cX9_does 117 = .ok (.goto 4, 3) := by decide +kernel
theorem dX9_does_120 : decode cX9_does 120 = .ok (.iconst 1, 1) := by decide +kernel
theorem dX9_does_121 : decode cX9_does 121 = .ok (.iload 5, 2) := by decide +kernel
theorem dX9_does_123 : decode cX9_does 123 = .ok (.invokevirtual 102, 3) := by decide +kernel
theorem dX9_does_126 : decode cX9_does 126 = .ok (.ifCond .eq 7, 3) := by decide +kernel
theorem dX9_does_129 : decode cX9_does 129 = .ok (.iconst 1, 1) := by decide +kernel
theorem dX9_does_130 : decode cX9_does 130 = .ok (.goto 4, 3) := by decide +kernel
theorem dX9_does_133 : decode cX9_does 133 = .ok (.iconst 0, 1) := by decide +kernel
theorem dX9_does_134 : decode cX9_does 134 = .ok (.ireturn, 1) := by decide +kernel
theorem dX9_does_135 : decode cX9_does 135 = .ok (.aload_n 0, 1) := by decide +kernel
theorem dX9_does_136 : decode cX9_does 136 = .ok (.iload_n 3, 1) := by decide +kernel
theorem dX9_does_137 : decode cX9_does 137 = .ok (.invokevirtual 96, 3) := by decide +kernel
theorem dX9_does_140 : decode cX9_does 140 = .ok (.ifCond .eq 18, 3) := by decide +kernel
theorem dX9_does_143 : decode cX9_does 143 = .ok (.aload_n 0, 1) := by decide +kernel
theorem dX9_does_144 : decode cX9_does 144 = .ok (.iload 4, 2) := by decide +kernel
theorem dX9_does_146 : decode cX9_does 146 = .ok (.invokevirtual 96, 3) := by decide +kernel
theorem dX9_does_149 : decode cX9_does 149 = .ok (.ifCond .eq 9, 3) := by decide +kernel
theorem dX9_does_152 : decode cX9_does 152 = .ok (.iload_n 3, 1) := by decide +kernel
theorem dX9_does_153 : decode cX9_does 153 = .ok (.iload 4, 2) := by decide +kernel
theorem dX9_does_155 : decode cX9_does 155 = .ok (.if_icmp .ne 5, 3) := by decide +kernel
theorem dX9_does_158 : decode cX9_does 158 = .ok (.iconst 0, 1) := by decide +kernel
theorem dX9_does_159 : decode cX9_does 159 = .ok (.ireturn, 1) := by decide +kernel
theorem dX9_does_160 : decode cX9_does 160 = .ok (.iload_n 2, 1) := by decide +kernel
theorem dX9_does_161 : decode cX9_does 161 = .ok (.bipush 109, 2) := by decide +kernel
theorem dX9_does_163 : decode cX9_does 163 = .ok (.if_icmp .ne 30, 3) := by decide +kernel
theorem dX9_does_166 : decode cX9_does 166 = .ok (.aload_n 0, 1) := by decide +kernel
theorem dX9_does_167 : decode cX9_does 167 = .ok (.getfield 7, 3) := by decide +kernel
theorem dX9_does_170 : decode cX9_does 170 = .ok (.iconst 5, 1) := by decide +kernel
theorem dX9_does_171 : decode cX9_does 171 = .ok (.iaload, 1) := by decide +kernel
theorem dX9_does_172 : decode cX9_does 172 = .ok (.bipush 8, 2) := by decide +kernel
theorem dX9_does_174 : decode cX9_does 174 = .ok (.if_icmp .ge 17, 3) := by decide +kernel
theorem dX9_does_177 : decode cX9_does 177 = .ok (.aload_n 0, 1) := by decide +kernel
theorem dX9_does_178 : decode cX9_does 178 = .ok (.iload_n 3, 1) := by decide +kernel
theorem dX9_does_179 : decode cX9_does 179 = .ok (.iload 4, 2) := by decide +kernel
theorem dX9_does_181 : decode cX9_does 181 = .ok (.invokevirtual 180, 3) := by decide +kernel
theorem dX9_does_184 : decode cX9_does 184 = .ok (.ifCond .eq 7, 3) := by decide +kernel
theorem dX9_does_187 : decode cX9_does 187 = .ok (.iconst 1, 1) := by decide +kernel
theorem dX9_does_188 : decode cX9_does 188 = .ok (.goto 4, 3) := by decide +kernel
theorem dX9_does_191 : decode cX9_does 191 = .ok (.iconst 0, 1) := by decide +kernel
theorem dX9_does_192 : decode cX9_does 192 = .ok (.ireturn, 1) := by decide +kernel
theorem dX9_does_193 : decode cX9_does 193 = .ok (.iload_n 2, 1) := by decide +kernel
theorem dX9_does_194 : decode cX9_does 194 = .ok (.bipush 117, 2) := by decide +kernel
theorem dX9_does_196 : decode cX9_does 196 = .ok (.if_icmp .ne 7, 3) := by decide +kernel
theorem dX9_does_199 : decode cX9_does 199 = .ok (.iconst 0, 1) := by decide +kernel
theorem dX9_does_200 : decode cX9_does 200 = .ok (.goto 4, 3) := by decide +kernel
theorem dX9_does_203 : decode cX9_does 203 = .ok (.iconst 1, 1) := by decide +kernel
theorem dX9_does_204 : decode cX9_does 204 = .ok (.istore 6, 2) := by decide +kernel
theorem dX9_does_206 : decode cX9_does 206 = .ok (.iload 5, 2) := by decide +kernel
theorem dX9_does_208 : decode cX9_does 208 = .ok (.iconst 1, 1) := by decide +kernel
theorem dX9_does_209 : decode cX9_does 209 = .ok (.if_icmp .lt 15, 3) := by decide +kernel
theorem dX9_does_212 : decode cX9_does 212 = .ok (.aload_n 0, 1) := by decide +kernel
theorem dX9_does_213 : decode cX9_does 213 = .ok (.iload_n 3, 1) := by decide +kernel
theorem dX9_does_214 : decode cX9_does 214 = .ok (.iload 6, 2) := by decide +kernel
theorem dX9_does_216 : decode cX9_does 216 = .ok (.invokevirtual 79, 3) := by decide +kernel
theorem dX9_does_219 : decode cX9_does 219 = .ok (.iload 5, 2) := by decide +kernel
theorem dX9_does_221 : decode cX9_does 221 = .ok (.if_icmp .ge 5, 3) := by decide +kernel
theorem dX9_does_224 : decode cX9_does 224 = .ok (.iconst 0, 1) := by decide +kernel
theorem dX9_does_225 : decode cX9_does 225 = .ok (.ireturn, 1) := by decide +kernel
theorem dX9_does_226 : decode cX9_does 226 = .ok (.aload_n 0, 1) := by decide +kernel
theorem dX9_does_227 : decode cX9_does 227 = .ok (.iload 6, 2) := by decide +kernel
theorem dX9_does_229 : decode cX9_does 229 = .ok (.iload_n 3, 1) := by decide +kernel
theorem dX9_does_230 : decode cX9_does 230 = .ok (.iload 4, 2) := by decide +kernel
theorem dX9_does_232 : decode cX9_does 232 = .ok (.iload 5, 2) := by decide +kernel
theorem dX9_does_234 : decode cX9_does 234 = .ok (.invokevirtual 119, 3) := by decide +kernel
theorem dX9_does_237 : decode cX9_does 237 = .ok (.iconst 1, 1) := by decide +kernel
theorem dX9_does_238 : decode cX9_does 238 = .ok (.ireturn, 1) := by decide +kernel
theorem dX9_passesOn_0 : decode cX9_passesOn 0 = .ok (.aload_n 0, 1) := by decide +kernel
theorem dX9_passesOn_1 : decode cX9_passesOn 1 = .ok (.aload_n 0, 1) := by decide +kernel
theorem dX9_passesOn_2 : decode cX9_passesOn 2 = .ok (.getfield 7, 3) := by decide +kernel
theorem dX9_passesOn_5 : decode cX9_passesOn 5 = .ok (.iconst 5, 1) := by decide +kernel
theorem dX9_passesOn_6 : decode cX9_passesOn 6 = .ok (.iaload, 1) := by decide +kernel
theorem dX9_passesOn_7 : decode cX9_passesOn 7 = .ok (.iload_n 1, 1) := by decide +kernel
theorem dX9_passesOn_8 : decode cX9_passesOn 8 = .ok (.iload_n 2, 1) := by decide +kernel
theorem dX9_passesOn_9 : decode cX9_passesOn 9 = .ok (.invokevirtual 127, 3) := by decide +kernel
theorem dX9_passesOn_12 : decode cX9_passesOn 12 = .ok (.aload_n 0, 1) := by decide +kernel
theorem dX9_passesOn_13 : decode cX9_passesOn 13 = .ok (.aload_n 0, 1) := by decide +kernel
theorem dX9_passesOn_14 : decode cX9_passesOn 14 = .ok (.getfield 7, 3) := by decide +kernel
theorem dX9_passesOn_17 : decode cX9_passesOn 17 = .ok (.iconst 5, 1) := by decide +kernel
theorem dX9_passesOn_18 : decode cX9_passesOn 18 = .ok (.iaload, 1) := by decide +kernel
theorem dX9_passesOn_19 : decode cX9_passesOn 19 = .ok (.invokevirtual 133, 3) := by decide +kernel
theorem dX9_passesOn_22 : decode cX9_passesOn 22 = .ok (.istore_n 3, 1) := by decide +kernel
theorem dX9_passesOn_23 : decode cX9_passesOn 23 = .ok (.iload_n 3, 1) := by decide +kernel
theorem dX9_passesOn_24 : decode cX9_passesOn 24 = .ok (.ifCond .lt 7, 3) := by decide +kernel
theorem dX9_passesOn_27 : decode cX9_passesOn 27 = .ok (.iconst 1, 1) := by decide +kernel
theorem dX9_passesOn_28 : decode cX9_passesOn 28 = .ok (.goto 4, 3) := by decide +kernel
theorem dX9_passesOn_31 : decode cX9_passesOn 31 = .ok (.iconst 0, 1) := by decide +kernel
theorem dX9_passesOn_32 : decode cX9_passesOn 32 = .ok (.ireturn, 1) := by decide +kernel
theorem dX9_runScript_0 : decode cX9_runScript 0 = .ok (.aload_n 0, 1) := by decide +kernel
theorem dX9_runScript_1 : decode cX9_runScript 1 = .ok (.iconst 0, 1) := by decide +kernel
theorem dX9_runScript_2 : decode cX9_runScript 2 = .ok (.putfield 42, 3) := by decide +kernel
theorem dX9_runScript_5 : decode cX9_runScript 5 = .ok (.aload_n 0, 1) := by decide +kernel
theorem dX9_runScript_6 : decode cX9_runScript 6 = .ok (.invokevirtual 183, 3) := by decide +kernel
theorem dX9_runScript_9 : decode cX9_runScript 9 = .ok (.ifCond .ne 10, 3) := by decide +kernel
theorem dX9_runScript_12 : decode cX9_runScript 12 = .ok (.iconst (-1), 1) := by decide +kernel
theorem dX9_runScript_13 : decode cX9_runScript 13 = .ok (.aload_n 0, 1) := by decide +kernel
theorem dX9_runScript_14 : decode cX9_runScript 14 = .ok (.getfield 155, 3) := by decide +kernel
theorem dX9_runScript_17 : decode cX9_runScript 17 = .ok (.isub, 1) := by decide +kernel
theorem dX9_runScript_18 : decode cX9_runScript 18 = .ok (.ireturn, 1) := by decide +kernel
theorem dX9_runScript_19 : decode cX9_runScript 19 = .ok (.iconst 0, 1) := by decide +kernel
theorem dX9_runScript_20 : decode cX9_runScript 20 = .ok (.istore_n 1, 1) := by decide +kernel
theorem dX9_runScript_21 : decode cX9_runScript 21 = .ok (.iload_n 1, 1) := by decide +kernel
theorem dX9_runScript_22 : decode cX9_runScript 22 = .ok (.sipush 2400, 3) := by decide +kernel
theorem dX9_runScript_25 : decode cX9_runScript 25 = .ok (.if_icmp .ge 21, 3) := by decide +kernel
theorem dX9_runScript_28 : decode cX9_runScript 28 = .ok (.aload_n 0, 1) := by decide +kernel
theorem dX9_runScript_29 : decode cX9_runScript 29 = .ok (.getfield 16, 3) := by decide +kernel
theorem dX9_runScript_32 : decode cX9_runScript 32 = .ok (.iload_n 1, 1) := by decide +kernel
theorem dX9_runScript_33 : decode cX9_runScript 33 = .ok (.aload_n 0, 1) := by decide +kernel
theorem dX9_runScript_34 : decode cX9_runScript 34 = .ok (.getfield 7, 3) := by decide +kernel
theorem dX9_runScript_37 : decode cX9_runScript 37 = .ok (.iload_n 1, 1) := by decide +kernel
theorem dX9_runScript_38 : decode cX9_runScript 38 = .ok (.iaload, 1) := by decide +kernel
theorem dX9_runScript_39 : decode cX9_runScript 39 = .ok (.iastore, 1) := by decide +kernel
theorem dX9_runScript_40 : decode cX9_runScript 40 = .ok (.iinc 1 1, 3) := by decide +kernel
theorem dX9_runScript_43 : decode cX9_runScript 43 = .ok (.goto (-22), 3) := by decide +kernel
theorem dX9_runScript_46 : decode cX9_runScript 46 = .ok (.iconst 0, 1) := by decide +kernel
theorem dX9_runScript_47 : decode cX9_runScript 47 = .ok (.istore_n 1, 1) := by decide +kernel
theorem dX9_runScript_48 : decode cX9_runScript 48 = .ok (.iload_n 1, 1) := by decide +kernel
theorem dX9_runScript_49 : decode cX9_runScript 49 = .ok (.aload_n 0, 1) := by decide +kernel
theorem dX9_runScript_50 : decode cX9_runScript 50 = .ok (.getfield 164, 3) := by decide +kernel
theorem dX9_runScript_53 : decode cX9_runScript 53 = .ok (.if_icmp .ge 50, 3) := by decide +kernel
theorem dX9_runScript_56 : decode cX9_runScript 56 = .ok (.aload_n 0, 1) := by decide +kernel
theorem dX9_runScript_57 : decode cX9_runScript 57 = .ok (.iload_n 1, 1) := by decide +kernel
theorem dX9_runScript_58 : decode cX9_runScript 58 = .ok (.invokevirtual 186, 3) := by decide +kernel
theorem dX9_runScript_61 : decode cX9_runScript 61 = .ok (.ifCond .ne 36, 3) := by decide +kernel
theorem dX9_runScript_64 : decode cX9_runScript 64 = .ok (.iconst 0, 1) := by decide +kernel
theorem dX9_runScript_65 : decode cX9_runScript 65 = .ok (.istore_n 2, 1) := by decide +kernel
theorem dX9_runScript_66 : decode cX9_runScript 66 = .ok (.iload_n 2, 1) := by decide +kernel
theorem dX9_runScript_67 : decode cX9_runScript 67 = .ok (.sipush 2400, 3) := by decide +kernel
theorem dX9_runScript_70 : decode cX9_runScript 70 = .ok (.if_icmp .ge 21, 3) := by decide +kernel
theorem dX9_runScript_73 : decode cX9_runScript 73 = .ok (.aload_n 0, 1) := by decide +kernel
theorem dX9_runScript_74 : decode cX9_runScript 74 = .ok (.getfield 7, 3) := by decide +kernel
theorem dX9_runScript_77 : decode cX9_runScript 77 = .ok (.iload_n 2, 1) := by decide +kernel
theorem dX9_runScript_78 : decode cX9_runScript 78 = .ok (.aload_n 0, 1) := by decide +kernel
theorem dX9_runScript_79 : decode cX9_runScript 79 = .ok (.getfield 16, 3) := by decide +kernel
theorem dX9_runScript_82 : decode cX9_runScript 82 = .ok (.iload_n 2, 1) := by decide +kernel
theorem dX9_runScript_83 : decode cX9_runScript 83 = .ok (.iaload, 1) := by decide +kernel
theorem dX9_runScript_84 : decode cX9_runScript 84 = .ok (.iastore, 1) := by decide +kernel
theorem dX9_runScript_85 : decode cX9_runScript 85 = .ok (.iinc 2 1, 3) := by decide +kernel
theorem dX9_runScript_88 : decode cX9_runScript 88 = .ok (.goto (-22), 3) := by decide +kernel
theorem dX9_runScript_91 : decode cX9_runScript 91 = .ok (.sipush (-1000), 3) := by decide +kernel
theorem dX9_runScript_94 : decode cX9_runScript 94 = .ok (.iload_n 1, 1) := by decide +kernel
theorem dX9_runScript_95 : decode cX9_runScript 95 = .ok (.isub, 1) := by decide +kernel
theorem dX9_runScript_96 : decode cX9_runScript 96 = .ok (.ireturn, 1) := by decide +kernel
theorem dX9_runScript_97 : decode cX9_runScript 97 = .ok (.iinc 1 1, 3) := by decide +kernel
theorem dX9_runScript_100 : decode cX9_runScript 100 = .ok (.goto (-52), 3) := by decide +kernel
theorem dX9_runScript_103 : decode cX9_runScript 103 = .ok (.aload_n 0, 1) := by decide +kernel
theorem dX9_runScript_104 : decode cX9_runScript 104 = .ok (.invokevirtual 189, 3) := by decide +kernel
theorem dX9_runScript_107 : decode cX9_runScript 107 = .ok (.aload_n 0, 1) := by decide +kernel
theorem dX9_runScript_108 : decode cX9_runScript 108 = .ok (.iconst 0, 1) := by decide +kernel
theorem dX9_runScript_109 : decode cX9_runScript 109 = .ok (.putfield 152, 3) := by decide +kernel
theorem dX9_runScript_112 : decode cX9_runScript 112 = .ok (.aload_n 0, 1) := by decide +kernel
theorem dX9_runScript_113 : decode cX9_runScript 113 = .ok (.getfield 164, 3) := by decide +kernel
theorem dX9_runScript_116 : decode cX9_runScript 116 = .ok (.ireturn, 1) := by decide +kernel
theorem dX9_keepsAside_0 : decode cX9_keepsAside 0 = .ok (.aload_n 0, 1) := by decide +kernel
theorem dX9_keepsAside_1 : decode cX9_keepsAside 1 = .ok (.invokevirtual 99, 3) := by decide +kernel
theorem dX9_keepsAside_4 : decode cX9_keepsAside 4 = .ok (.iconst 0, 1) := by decide +kernel
theorem dX9_keepsAside_5 : decode cX9_keepsAside 5 = .ok (.istore_n 1, 1) := by decide +kernel
theorem dX9_keepsAside_6 : decode cX9_keepsAside 6 = .ok (.iload_n 1, 1) := by decide +kernel
theorem dX9_keepsAside_7 : decode cX9_keepsAside 7 = .ok (.sipush 2400, 3) := by decide +kernel
theorem dX9_keepsAside_10 : decode cX9_keepsAside 10 = .ok (.if_icmp .ge 32, 3) := by decide +kernel
theorem dX9_keepsAside_13 : decode cX9_keepsAside 13 = .ok (.aload_n 0, 1) := by decide +kernel
theorem dX9_keepsAside_14 : decode cX9_keepsAside 14 = .ok (.getfield 13, 3) := by decide +kernel
theorem dX9_keepsAside_17 : decode cX9_keepsAside 17 = .ok (.sipush 2400, 3) := by decide +kernel
theorem dX9_keepsAside_20 : decode cX9_keepsAside 20 = .ok (.aload_n 0, 1) := by decide +kernel
theorem dX9_keepsAside_21 : decode cX9_keepsAside 21 = .ok (.getfield 45, 3) := by decide +kernel
theorem dX9_keepsAside_24 : decode cX9_keepsAside 24 = .ok (.iconst 1, 1) := by decide +kernel
theorem dX9_keepsAside_25 : decode cX9_keepsAside 25 = .ok (.isub, 1) := by decide +kernel
theorem dX9_keepsAside_26 : decode cX9_keepsAside 26 = .ok (.imul, 1) := by decide +kernel
theorem dX9_keepsAside_27 : decode cX9_keepsAside 27 = .ok (.iload_n 1, 1) := by decide +kernel
theorem dX9_keepsAside_28 : decode cX9_keepsAside 28 = .ok (.iadd, 1) := by decide +kernel
theorem dX9_keepsAside_29 : decode cX9_keepsAside 29 = .ok (.aload_n 0, 1) := by decide +kernel
theorem dX9_keepsAside_30 : decode cX9_keepsAside 30 = .ok (.getfield 16, 3) := by decide +kernel
theorem dX9_keepsAside_33 : decode cX9_keepsAside 33 = .ok (.iload_n 1, 1) := by decide +kernel
theorem dX9_keepsAside_34 : decode cX9_keepsAside 34 = .ok (.iaload, 1) := by decide +kernel
theorem dX9_keepsAside_35 : decode cX9_keepsAside 35 = .ok (.iastore, 1) := by decide +kernel
theorem dX9_keepsAside_36 : decode cX9_keepsAside 36 = .ok (.iinc 1 1, 3) := by decide +kernel
theorem dX9_keepsAside_39 : decode cX9_keepsAside 39 = .ok (.goto (-33), 3) := by decide +kernel
theorem dX9_keepsAside_42 : decode cX9_keepsAside 42 = .ok (.return_, 1) := by decide +kernel
theorem dX9_undo_0 : decode cX9_undo 0 = .ok (.aload_n 0, 1) := by decide +kernel
theorem dX9_undo_1 : decode cX9_undo 1 = .ok (.iconst 0, 1) := by decide +kernel
theorem dX9_undo_2 : decode cX9_undo 2 = .ok (.putfield 42, 3) := by decide +kernel
theorem dX9_undo_5 : decode cX9_undo 5 = .ok (.aload_n 0, 1) := by decide +kernel
theorem dX9_undo_6 : decode cX9_undo 6 = .ok (.getfield 45, 3) := by decide +kernel
theorem dX9_undo_9 : decode cX9_undo 9 = .ok (.ifCond .ne 9, 3) := by decide +kernel
theorem dX9_undo_12 : decode cX9_undo 12 = .ok (.aload_n 0, 1) := by decide +kernel
theorem dX9_undo_13 : decode cX9_undo 13 = .ok (.iconst 1, 1) := by decide +kernel
theorem dX9_undo_14 : decode cX9_undo 14 = .ok (.invokevirtual 105, 3) := by decide +kernel
theorem dX9_undo_17 : decode cX9_undo 17 = .ok (.ireturn, 1) := by decide +kernel
theorem dX9_undo_18 : decode cX9_undo 18 = .ok (.aload_n 0, 1) := by decide +kernel
theorem dX9_undo_19 : decode cX9_undo 19 = .ok (.dup, 1) := by decide +kernel
theorem dX9_undo_20 : decode cX9_undo 20 = .ok (.getfield 45, 3) := by decide +kernel
theorem dX9_undo_23 : decode cX9_undo 23 = .ok (.iconst 1, 1) := by decide +kernel
theorem dX9_undo_24 : decode cX9_undo 24 = .ok (.isub, 1) := by decide +kernel
theorem dX9_undo_25 : decode cX9_undo 25 = .ok (.putfield 45, 3) := by decide +kernel
theorem dX9_undo_28 : decode cX9_undo 28 = .ok (.iconst 0, 1) := by decide +kernel
theorem dX9_undo_29 : decode cX9_undo 29 = .ok (.istore_n 1, 1) := by decide +kernel
theorem dX9_undo_30 : decode cX9_undo 30 = .ok (.iload_n 1, 1) := by decide +kernel
theorem dX9_undo_31 : decode cX9_undo 31 = .ok (.sipush 2400, 3) := by decide +kernel
theorem dX9_undo_34 : decode cX9_undo 34 = .ok (.if_icmp .ge 30, 3) := by decide +kernel
theorem dX9_undo_37 : decode cX9_undo 37 = .ok (.aload_n 0, 1) := by decide +kernel
theorem dX9_undo_38 : decode cX9_undo 38 = .ok (.getfield 7, 3) := by decide +kernel
theorem dX9_undo_41 : decode cX9_undo 41 = .ok (.iload_n 1, 1) := by decide +kernel
theorem dX9_undo_42 : decode cX9_undo 42 = .ok (.aload_n 0, 1) := by decide +kernel
theorem dX9_undo_43 : decode cX9_undo 43 = .ok (.getfield 13, 3) := by decide +kernel
theorem dX9_undo_46 : decode cX9_undo 46 = .ok (.sipush 2400, 3) := by decide +kernel
theorem dX9_undo_49 : decode cX9_undo 49 = .ok (.aload_n 0, 1) := by decide +kernel
theorem dX9_undo_50 : decode cX9_undo 50 = .ok (.getfield 45, 3) := by decide +kernel
theorem dX9_undo_53 : decode cX9_undo 53 = .ok (.imul, 1) := by decide +kernel
theorem dX9_undo_54 : decode cX9_undo 54 = .ok (.iload_n 1, 1) := by decide +kernel
theorem dX9_undo_55 : decode cX9_undo 55 = .ok (.iadd, 1) := by decide +kernel
theorem dX9_undo_56 : decode cX9_undo 56 = .ok (.iaload, 1) := by decide +kernel
theorem dX9_undo_57 : decode cX9_undo 57 = .ok (.iastore, 1) := by decide +kernel
theorem dX9_undo_58 : decode cX9_undo 58 = .ok (.iinc 1 1, 3) := by decide +kernel
theorem dX9_undo_61 : decode cX9_undo 61 = .ok (.goto (-31), 3) := by decide +kernel
theorem dX9_undo_64 : decode cX9_undo 64 = .ok (.aload_n 0, 1) := by decide +kernel
theorem dX9_undo_65 : decode cX9_undo 65 = .ok (.getfield 45, 3) := by decide +kernel
theorem dX9_undo_68 : decode cX9_undo 68 = .ok (.ireturn, 1) := by decide +kernel
theorem dX9_fingerprint_0 : decode cX9_fingerprint 0 = .ok (.aload_n 0, 1) := by decide +kernel
theorem dX9_fingerprint_1 : decode cX9_fingerprint 1 = .ok (.iconst 0, 1) := by decide +kernel
theorem dX9_fingerprint_2 : decode cX9_fingerprint 2 = .ok (.putfield 42, 3) := by decide +kernel
theorem dX9_fingerprint_5 : decode cX9_fingerprint 5 = .ok (.ldc2_w 192, 3) := by decide +kernel
theorem dX9_fingerprint_8 : decode cX9_fingerprint 8 = .ok (.ldc2_w 192, 3) := by decide +kernel
theorem dX9_fingerprint_11 : decode cX9_fingerprint 11 = .ok (.ldc2_w 194, 3) := by decide +kernel
theorem dX9_fingerprint_14 : decode cX9_fingerprint 14 = .ok (.aload_n 0, 1) := by decide +kernel
theorem dX9_fingerprint_15 : decode cX9_fingerprint 15 = .ok (.getfield 7, 3) := by decide +kernel
theorem dX9_fingerprint_18 : decode cX9_fingerprint 18 = .ok (.iconst 0, 1) := by decide +kernel
theorem dX9_fingerprint_19 : decode cX9_fingerprint 19 = .ok (.iaload, 1) := by decide +kernel
theorem dX9_fingerprint_20 : decode cX9_fingerprint 20 = .ok (.i2l, 1) := by decide +kernel
theorem dX9_fingerprint_21 : decode cX9_fingerprint 21 = .ok (.ladd, 1) := by decide +kernel
theorem dX9_fingerprint_22 : decode cX9_fingerprint 22 = .ok (.lmul, 1) := by decide +kernel
theorem dX9_fingerprint_23 : decode cX9_fingerprint 23 = .ok (.aload_n 0, 1) := by decide +kernel
theorem dX9_fingerprint_24 : decode cX9_fingerprint 24 = .ok (.invokevirtual 108, 3) := by decide +kernel
theorem dX9_fingerprint_27 : decode cX9_fingerprint 27 = .ok (.i2l, 1) := by decide +kernel
theorem dX9_fingerprint_28 : decode cX9_fingerprint 28 = .ok (.ladd, 1) := by decide +kernel
theorem dX9_fingerprint_29 : decode cX9_fingerprint 29 = .ok (.lmul, 1) := by decide +kernel
theorem dX9_fingerprint_30 : decode cX9_fingerprint 30 = .ok (.aload_n 0, 1) := by decide +kernel
theorem dX9_fingerprint_31 : decode cX9_fingerprint 31 = .ok (.getfield 7, 3) := by decide +kernel
theorem dX9_fingerprint_34 : decode cX9_fingerprint 34 = .ok (.iconst 4, 1) := by decide +kernel
theorem dX9_fingerprint_35 : decode cX9_fingerprint 35 = .ok (.iaload, 1) := by decide +kernel
theorem dX9_fingerprint_36 : decode cX9_fingerprint 36 = .ok (.i2l, 1) := by decide +kernel
theorem dX9_fingerprint_37 : decode cX9_fingerprint 37 = .ok (.ladd, 1) := by decide +kernel
theorem dX9_fingerprint_38 : decode cX9_fingerprint 38 = .ok (.lstore_n 1, 1) := by decide +kernel
theorem dX9_fingerprint_39 : decode cX9_fingerprint 39 = .ok (.ldc2_w 192, 3) := by decide +kernel
theorem dX9_fingerprint_42 : decode cX9_fingerprint 42 = .ok (.lload_n 1, 1) := by decide +kernel
theorem dX9_fingerprint_43 : decode cX9_fingerprint 43 = .ok (.lmul, 1) := by decide +kernel
theorem dX9_fingerprint_44 : decode cX9_fingerprint 44 = .ok (.aload_n 0, 1) := by decide +kernel
theorem dX9_fingerprint_45 : decode cX9_fingerprint 45 = .ok (.getfield 7, 3) := by decide +kernel
theorem dX9_fingerprint_48 : decode cX9_fingerprint 48 = .ok (.iconst 5, 1) := by decide +kernel
theorem dX9_fingerprint_49 : decode cX9_fingerprint 49 = .ok (.iaload, 1) := by decide +kernel
theorem dX9_fingerprint_50 : decode cX9_fingerprint 50 = .ok (.i2l, 1) := by decide +kernel
theorem dX9_fingerprint_51 : decode cX9_fingerprint 51 = .ok (.ladd, 1) := by decide +kernel
theorem dX9_fingerprint_52 : decode cX9_fingerprint 52 = .ok (.lstore_n 1, 1) := by decide +kernel
theorem dX9_fingerprint_53 : decode cX9_fingerprint 53 = .ok (.iconst 0, 1) := by decide +kernel
theorem dX9_fingerprint_54 : decode cX9_fingerprint 54 = .ok (.istore_n 3, 1) := by decide +kernel
theorem dX9_fingerprint_55 : decode cX9_fingerprint 55 = .ok (.iload_n 3, 1) := by decide +kernel
theorem dX9_fingerprint_56 : decode cX9_fingerprint 56 = .ok (.aload_n 0, 1) := by decide +kernel
theorem dX9_fingerprint_57 : decode cX9_fingerprint 57 = .ok (.getfield 34, 3) := by decide +kernel
theorem dX9_fingerprint_60 : decode cX9_fingerprint 60 = .ok (.if_icmp .ge 121, 3) := by decide +kernel
theorem dX9_fingerprint_63 : decode cX9_fingerprint 63 = .ok (.iconst 0, 1) := by decide +kernel
theorem dX9_fingerprint_64 : decode cX9_fingerprint 64 = .ok (.istore 4, 2) := by decide +kernel
theorem dX9_fingerprint_66 : decode cX9_fingerprint 66 = .ok (.iload 4, 2) := by decide +kernel
theorem dX9_fingerprint_68 : decode cX9_fingerprint 68 = .ok (.iconst 2, 1) := by decide +kernel
theorem dX9_fingerprint_69 : decode cX9_fingerprint 69 = .ok (.if_icmp .ge 39, 3) := by decide +kernel
theorem dX9_fingerprint_72 : decode cX9_fingerprint 72 = .ok (.ldc2_w 192, 3) := by decide +kernel
theorem dX9_fingerprint_75 : decode cX9_fingerprint 75 = .ok (.lload_n 1, 1) := by decide +kernel
theorem dX9_fingerprint_76 : decode cX9_fingerprint 76 = .ok (.lmul, 1) := by decide +kernel
theorem dX9_fingerprint_77 : decode cX9_fingerprint 77 = .ok (.aload_n 0, 1) := by decide +kernel
theorem dX9_fingerprint_78 : decode cX9_fingerprint 78 = .ok (.iload_n 3, 1) := by decide +kernel
theorem dX9_fingerprint_79 : decode cX9_fingerprint 79 = .ok (.iload 4, 2) := by decide +kernel
theorem dX9_fingerprint_81 : decode cX9_fingerprint 81 = .ok (.invokevirtual 79, 3) := by decide +kernel
theorem dX9_fingerprint_84 : decode cX9_fingerprint 84 = .ok (.i2l, 1) := by decide +kernel
theorem dX9_fingerprint_85 : decode cX9_fingerprint 85 = .ok (.ladd, 1) := by decide +kernel
theorem dX9_fingerprint_86 : decode cX9_fingerprint 86 = .ok (.lstore_n 1, 1) := by decide +kernel
theorem dX9_fingerprint_87 : decode cX9_fingerprint 87 = .ok (.ldc2_w 192, 3) := by decide +kernel
theorem dX9_fingerprint_90 : decode cX9_fingerprint 90 = .ok (.lload_n 1, 1) := by decide +kernel
theorem dX9_fingerprint_91 : decode cX9_fingerprint 91 = .ok (.lmul, 1) := by decide +kernel
theorem dX9_fingerprint_92 : decode cX9_fingerprint 92 = .ok (.aload_n 0, 1) := by decide +kernel
theorem dX9_fingerprint_93 : decode cX9_fingerprint 93 = .ok (.iload_n 3, 1) := by decide +kernel
theorem dX9_fingerprint_94 : decode cX9_fingerprint 94 = .ok (.iload 4, 2) := by decide +kernel
theorem dX9_fingerprint_96 : decode cX9_fingerprint 96 = .ok (.invokevirtual 85, 3) := by decide +kernel
theorem dX9_fingerprint_99 : decode cX9_fingerprint 99 = .ok (.i2l, 1) := by decide +kernel
theorem dX9_fingerprint_100 : decode cX9_fingerprint 100 = .ok (.ladd, 1) := by decide +kernel
theorem dX9_fingerprint_101 : decode cX9_fingerprint 101 = .ok (.lstore_n 1, 1) := by decide +kernel
theorem dX9_fingerprint_102 : decode cX9_fingerprint 102 = .ok (.iinc 4 1, 3) := by decide +kernel
theorem dX9_fingerprint_105 : decode cX9_fingerprint 105 = .ok (.goto (-39), 3) := by decide +kernel
theorem dX9_fingerprint_108 : decode cX9_fingerprint 108 = .ok (.ldc2_w 192, 3) := by decide +kernel
theorem dX9_fingerprint_111 : decode cX9_fingerprint 111 = .ok (.lload_n 1, 1) := by decide +kernel
theorem dX9_fingerprint_112 : decode cX9_fingerprint 112 = .ok (.lmul, 1) := by decide +kernel
theorem dX9_fingerprint_113 : decode cX9_fingerprint 113 = .ok (.aload_n 0, 1) := by decide +kernel
theorem dX9_fingerprint_114 : decode cX9_fingerprint 114 = .ok (.iload_n 3, 1) := by decide +kernel
theorem dX9_fingerprint_115 : decode cX9_fingerprint 115 = .ok (.invokevirtual 139, 3) := by decide +kernel
theorem dX9_fingerprint_118 : decode cX9_fingerprint 118 = .ok (.i2l, 1) := by decide +kernel
theorem dX9_fingerprint_119 : decode cX9_fingerprint 119 = .ok (.ladd, 1) := by decide +kernel
theorem dX9_fingerprint_120 : decode cX9_fingerprint 120 = .ok (.lstore_n 1, 1) := by decide +kernel
theorem dX9_fingerprint_121 : decode cX9_fingerprint 121 = .ok (.iconst 0, 1) := by decide +kernel
theorem dX9_fingerprint_122 : decode cX9_fingerprint 122 = .ok (.istore 4, 2) := by decide +kernel
theorem dX9_fingerprint_124 : decode cX9_fingerprint 124 = .ok (.iload 4, 2) := by decide +kernel
theorem dX9_fingerprint_126 : decode cX9_fingerprint 126 = .ok (.aload_n 0, 1) := by decide +kernel
theorem dX9_fingerprint_127 : decode cX9_fingerprint 127 = .ok (.getfield 34, 3) := by decide +kernel
theorem dX9_fingerprint_130 : decode cX9_fingerprint 130 = .ok (.if_icmp .ge 45, 3) := by decide +kernel
theorem dX9_fingerprint_133 : decode cX9_fingerprint 133 = .ok (.ldc2_w 192, 3) := by decide +kernel
theorem dX9_fingerprint_136 : decode cX9_fingerprint 136 = .ok (.lload_n 1, 1) := by decide +kernel
theorem dX9_fingerprint_137 : decode cX9_fingerprint 137 = .ok (.lmul, 1) := by decide +kernel
theorem dX9_fingerprint_138 : decode cX9_fingerprint 138 = .ok (.aload_n 0, 1) := by decide +kernel
theorem dX9_fingerprint_139 : decode cX9_fingerprint 139 = .ok (.getfield 7, 3) := by decide +kernel
theorem dX9_fingerprint_142 : decode cX9_fingerprint 142 = .ok (.iload_n 3, 1) := by decide +kernel
theorem dX9_fingerprint_143 : decode cX9_fingerprint 143 = .ok (.iload 4, 2) := by decide +kernel
theorem dX9_fingerprint_145 : decode cX9_fingerprint 145 = .ok (.invokestatic 52, 3) := by decide +kernel
theorem dX9_fingerprint_148 : decode cX9_fingerprint 148 = .ok (.iconst 0, 1) := by decide +kernel
theorem dX9_fingerprint_149 : decode cX9_fingerprint 149 = .ok (.iadd, 1) := by decide +kernel
theorem dX9_fingerprint_150 : decode cX9_fingerprint 150 = .ok (.iaload, 1) := by decide +kernel
theorem dX9_fingerprint_151 : decode cX9_fingerprint 151 = .ok (.i2l, 1) := by decide +kernel
theorem dX9_fingerprint_152 : decode cX9_fingerprint 152 = .ok (.ladd, 1) := by decide +kernel
theorem dX9_fingerprint_153 : decode cX9_fingerprint 153 = .ok (.lstore_n 1, 1) := by decide +kernel
theorem dX9_fingerprint_154 : decode cX9_fingerprint 154 = .ok (.ldc2_w 192, 3) := by decide +kernel
theorem dX9_fingerprint_157 : decode cX9_fingerprint 157 = .ok (.lload_n 1, 1) := by decide +kernel
theorem dX9_fingerprint_158 : decode cX9_fingerprint 158 = .ok (.lmul, 1) := by decide +kernel
theorem dX9_fingerprint_159 : decode cX9_fingerprint 159 = .ok (.aload_n 0, 1) := by decide +kernel
theorem dX9_fingerprint_160 : decode cX9_fingerprint 160 = .ok (.iload_n 3, 1) := by decide +kernel
theorem dX9_fingerprint_161 : decode cX9_fingerprint 161 = .ok (.iload 4, 2) := by decide +kernel
theorem dX9_fingerprint_163 : decode cX9_fingerprint 163 = .ok (.invokevirtual 63, 3) := by decide +kernel
theorem dX9_fingerprint_166 : decode cX9_fingerprint 166 = .ok (.i2l, 1) := by decide +kernel
theorem dX9_fingerprint_167 : decode cX9_fingerprint 167 = .ok (.ladd, 1) := by decide +kernel
theorem dX9_fingerprint_168 : decode cX9_fingerprint 168 = .ok (.lstore_n 1, 1) := by decide +kernel
theorem dX9_fingerprint_169 : decode cX9_fingerprint 169 = .ok (.iinc 4 1, 3) := by decide +kernel
theorem dX9_fingerprint_172 : decode cX9_fingerprint 172 = .ok (.goto (-48), 3) := by decide +kernel
theorem dX9_fingerprint_175 : decode cX9_fingerprint 175 = .ok (.iinc 3 1, 3) := by decide +kernel
theorem dX9_fingerprint_178 : decode cX9_fingerprint 178 = .ok (.goto (-123), 3) := by decide +kernel
theorem dX9_fingerprint_181 : decode cX9_fingerprint 181 = .ok (.iconst 0, 1) := by decide +kernel
theorem dX9_fingerprint_182 : decode cX9_fingerprint 182 = .ok (.istore_n 3, 1) := by decide +kernel
theorem dX9_fingerprint_183 : decode cX9_fingerprint 183 = .ok (.iload_n 3, 1) := by decide +kernel
theorem dX9_fingerprint_184 : decode cX9_fingerprint 184 = .ok (.aload_n 0, 1) := by decide +kernel
theorem dX9_fingerprint_185 : decode cX9_fingerprint 185 = .ok (.getfield 7, 3) := by decide +kernel
theorem dX9_fingerprint_188 : decode cX9_fingerprint 188 = .ok (.iconst 4, 1) := by decide +kernel
theorem dX9_fingerprint_189 : decode cX9_fingerprint 189 = .ok (.iaload, 1) := by decide +kernel
theorem dX9_fingerprint_190 : decode cX9_fingerprint 190 = .ok (.if_icmp .ge 40, 3) := by decide +kernel
theorem dX9_fingerprint_193 : decode cX9_fingerprint 193 = .ok (.iconst 5, 1) := by decide +kernel
theorem dX9_fingerprint_194 : decode cX9_fingerprint 194 = .ok (.istore 4, 2) := by decide +kernel
theorem dX9_fingerprint_196 : decode cX9_fingerprint 196 = .ok (.iload 4, 2) := by decide +kernel
theorem dX9_fingerprint_198 : decode cX9_fingerprint 198 = .ok (.bipush 8, 2) := by decide +kernel
theorem dX9_fingerprint_200 : decode cX9_fingerprint 200 = .ok (.if_icmp .ge 24, 3) := by decide +kernel
theorem dX9_fingerprint_203 : decode cX9_fingerprint 203 = .ok (.ldc2_w 192, 3) := by decide +kernel
theorem dX9_fingerprint_206 : decode cX9_fingerprint 206 = .ok (.lload_n 1, 1) := by decide +kernel
theorem dX9_fingerprint_207 : decode cX9_fingerprint 207 = .ok (.lmul, 1) := by decide +kernel
theorem dX9_fingerprint_208 : decode cX9_fingerprint 208 = .ok (.aload_n 0, 1) := by decide +kernel
theorem dX9_fingerprint_209 : decode cX9_fingerprint 209 = .ok (.iload_n 3, 1) := by decide +kernel
theorem dX9_fingerprint_210 : decode cX9_fingerprint 210 = .ok (.iload 4, 2) := by decide +kernel
theorem dX9_fingerprint_212 : decode cX9_fingerprint 212 = .ok (.invokevirtual 149, 3) := by decide +kernel
theorem dX9_fingerprint_215 : decode cX9_fingerprint 215 = .ok (.i2l, 1) := by decide +kernel
theorem dX9_fingerprint_216 : decode cX9_fingerprint 216 = .ok (.ladd, 1) := by decide +kernel
theorem dX9_fingerprint_217 : decode cX9_fingerprint 217 = .ok (.lstore_n 1, 1) := by decide +kernel
theorem dX9_fingerprint_218 : decode cX9_fingerprint 218 = .ok (.iinc 4 1, 3) := by decide +kernel
theorem dX9_fingerprint_221 : decode cX9_fingerprint 221 = .ok (.goto (-25), 3) := by decide +kernel
theorem dX9_fingerprint_224 : decode cX9_fingerprint 224 = .ok (.iinc 3 1, 3) := by decide +kernel
theorem dX9_fingerprint_227 : decode cX9_fingerprint 227 = .ok (.goto (-44), 3) := by decide +kernel
theorem dX9_fingerprint_230 : decode cX9_fingerprint 230 = .ok (.lload_n 1, 1) := by decide +kernel
theorem dX9_fingerprint_231 : decode cX9_fingerprint 231 = .ok (.lreturn, 1) := by decide +kernel
end
section
theorem dL_cell_0 : decode cL_cell 0 = .ok (.iload_n 1, 1) := by decide +kernel
theorem dL_cell_1 : decode cL_cell 1 = .ok (.aload_n 0, 1) := by decide +kernel
theorem dL_cell_2 : decode cL_cell 2 = .ok (.arraylength, 1) := by decide +kernel
theorem dL_cell_3 : decode cL_cell 3 = .ok (.if_icmp .ge 9, 3) := by decide +kernel
theorem dL_cell_6 : decode cL_cell 6 = .ok (.aload_n 0, 1) := by decide +kernel
theorem dL_cell_7 : decode cL_cell 7 = .ok (.iload_n 1, 1) := by decide +kernel
theorem dL_cell_8 : decode cL_cell 8 = .ok (.iaload, 1) := by decide +kernel
theorem dL_cell_9 : decode cL_cell 9 = .ok (.goto 4, 3) := by decide +kernel
theorem dL_cell_12 : decode cL_cell 12 = .ok (.iconst 0, 1) := by decide +kernel
theorem dL_cell_13 : decode cL_cell 13 = .ok (.ireturn, 1) := by decide +kernel
theorem dL_begin_0 : decode cL_begin 0 = .ok (.aload 4, 2) := by decide +kernel
theorem dL_begin_2 : decode cL_begin 2 = .ok (.iconst 0, 1) := by decide +kernel
theorem dL_begin_3 : decode cL_begin 3 = .ok (.aload_n 0, 1) := by decide +kernel
theorem dL_begin_4 : decode cL_begin 4 = .ok (.iload_n 1, 1) := by decide +kernel
theorem dL_begin_5 : decode cL_begin 5 = .ok (.iload_n 2, 1) := by decide +kernel
theorem dL_begin_6 : decode cL_begin 6 = .ok (.iload_n 3, 1) := by decide +kernel
theorem dL_begin_7 : decode cL_begin 7 = .ok (.invokevirtual 7, 3) := by decide +kernel
theorem dL_begin_10 : decode cL_begin 10 = .ok (.i2l, 1) := by decide +kernel
theorem dL_begin_11 : decode cL_begin 11 = .ok (.lastore, 1) := by decide +kernel
theorem dL_begin_12 : decode cL_begin 12 = .ok (.goto 7, 3) := by decide +kernel
theorem dL_begin_15 : decode cL_begin 15 = .ok (.astore 5, 2) := by decide +kernel
theorem dL_begin_17 : decode cL_begin 17 = .ok (.iconst 1, 1) := by decide +kernel
theorem dL_begin_18 : decode cL_begin 18 = .ok (.ireturn, 1) := by decide +kernel
theorem dL_begin_19 : decode cL_begin 19 = .ok (.iconst 0, 1) := by decide +kernel
theorem dL_begin_20 : decode cL_begin 20 = .ok (.ireturn, 1) := by decide +kernel
theorem dL_increase_0 : decode cL_increase 0 = .ok (.aload_n 3, 1) := by decide +kernel
theorem dL_increase_1 : decode cL_increase 1 = .ok (.iconst 0, 1) := by decide +kernel
theorem dL_increase_2 : decode cL_increase 2 = .ok (.aload_n 0, 1) := by decide +kernel
theorem dL_increase_3 : decode cL_increase 3 = .ok (.iload_n 1, 1) := by decide +kernel
theorem dL_increase_4 : decode cL_increase 4 = .ok (.iload_n 2, 1) := by decide +kernel
theorem dL_increase_5 : decode cL_increase 5 = .ok (.invokevirtual 15, 3) := by decide +kernel
theorem dL_increase_8 : decode cL_increase 8 = .ok (.ifCond .eq 7, 3) := by decide +kernel
theorem dL_increase_11 : decode cL_increase 11 = .ok (.lconst 1, 1) := by decide +kernel
theorem dL_increase_12 : decode cL_increase 12 = .ok (.goto 4, 3) := by decide +kernel
theorem dL_increase_15 : decode cL_increase 15 = .ok (.lconst 0, 1) := by decide +kernel
theorem dL_increase_16 : decode cL_increase 16 = .ok (.lastore, 1) := by decide +kernel
theorem dL_increase_17 : decode cL_increase 17 = .ok (.goto 11, 3) := by decide +kernel
theorem dL_increase_20 : decode cL_increase 20 = .ok (.astore 4, 2) := by decide +kernel
theorem dL_increase_22 : decode cL_increase 22 = .ok (.iconst 1, 1) := by decide +kernel
theorem dL_increase_23 : decode cL_increase 23 = .ok (.ireturn, 1) := by decide +kernel
theorem dL_increase_24 : decode cL_increase 24 = .ok (.astore 4, 2) := by decide +kernel
theorem dL_increase_26 : decode cL_increase 26 = .ok (.iconst 2, 1) := by decide +kernel
theorem dL_increase_27 : decode cL_increase 27 = .ok (.ireturn, 1) := by decide +kernel
theorem dL_increase_28 : decode cL_increase 28 = .ok (.iconst 0, 1) := by decide +kernel
theorem dL_increase_29 : decode cL_increase 29 = .ok (.ireturn, 1) := by decide +kernel
theorem dL_decrease_0 : decode cL_decrease 0 = .ok (.aload_n 3, 1) := by decide +kernel
theorem dL_decrease_1 : decode cL_decrease 1 = .ok (.iconst 0, 1) := by decide +kernel
theorem dL_decrease_2 : decode cL_decrease 2 = .ok (.aload_n 0, 1) := by decide +kernel
theorem dL_decrease_3 : decode cL_decrease 3 = .ok (.iload_n 1, 1) := by decide +kernel
theorem dL_decrease_4 : decode cL_decrease 4 = .ok (.iload_n 2, 1) := by decide +kernel
theorem dL_decrease_5 : decode cL_decrease 5 = .ok (.invokevirtual 21, 3) := by decide +kernel
theorem dL_decrease_8 : decode cL_decrease 8 = .ok (.ifCond .eq 7, 3) := by decide +kernel
theorem dL_decrease_11 : decode cL_decrease 11 = .ok (.lconst 1, 1) := by decide +kernel
theorem dL_decrease_12 : decode cL_decrease 12 = .ok (.goto 4, 3) := by decide +kernel
theorem dL_decrease_15 : decode cL_decrease 15 = .ok (.lconst 0, 1) := by decide +kernel
theorem dL_decrease_16 : decode cL_decrease 16 = .ok (.lastore, 1) := by decide +kernel
theorem dL_decrease_17 : decode cL_decrease 17 = .ok (.goto 11, 3) := by decide +kernel
theorem dL_decrease_20 : decode cL_decrease 20 = .ok (.astore 4, 2) := by decide +kernel
theorem dL_decrease_22 : decode cL_decrease 22 = .ok (.iconst 1, 1) := by decide +kernel
theorem dL_decrease_23 : decode cL_decrease 23 = .ok (.ireturn, 1) := by decide +kernel
theorem dL_decrease_24 : decode cL_decrease 24 = .ok (.astore 4, 2) := by decide +kernel
theorem dL_decrease_26 : decode cL_decrease 26 = .ok (.iconst 2, 1) := by decide +kernel
theorem dL_decrease_27 : decode cL_decrease 27 = .ok (.ireturn, 1) := by decide +kernel
theorem dL_decrease_28 : decode cL_decrease 28 = .ok (.iconst 0, 1) := by decide +kernel
theorem dL_decrease_29 : decode cL_decrease 29 = .ok (.ireturn, 1) := by decide +kernel
theorem dL_transfer_0 : decode cL_transfer 0 = .ok (.aload 5, 2) := by decide +kernel
theorem dL_transfer_2 : decode cL_transfer 2 = .ok (.iconst 0, 1) := by decide +kernel
theorem dL_transfer_3 : decode cL_transfer 3 = .ok (.aload_n 0, 1) := by decide +kernel
theorem dL_transfer_4 : decode cL_transfer 4 = .ok (.iload_n 1, 1) := by decide +kernel
theorem dL_transfer_5 : decode cL_transfer 5 = .ok (.iload_n 2, 1) := by decide +kernel
theorem dL_transfer_6 : decode cL_transfer 6 = .ok (.iload_n 3, 1) := by decide +kernel
theorem dL_transfer_7 : decode cL_transfer 7 = .ok (.iload 4, 2) := by decide +kernel
theorem dL_transfer_9 : decode cL_transfer 9 = .ok (.invokevirtual 24, 3) := by decide +kernel
theorem dL_transfer_12 : decode cL_transfer 12 = .ok (.i2l, 1) := by decide +kernel
theorem dL_transfer_13 : decode cL_transfer 13 = .ok (.lastore, 1) := by decide +kernel
theorem dL_transfer_14 : decode cL_transfer 14 = .ok (.goto 15, 3) := by decide +kernel
theorem dL_transfer_17 : decode cL_transfer 17 = .ok (.astore 6, 2) := by decide +kernel
theorem dL_transfer_19 : decode cL_transfer 19 = .ok (.iconst 1, 1) := by decide +kernel
theorem dL_transfer_20 : decode cL_transfer 20 = .ok (.ireturn, 1) := by decide +kernel
theorem dL_transfer_21 : decode cL_transfer 21 = .ok (.astore 6, 2) := by decide +kernel
theorem dL_transfer_23 : decode cL_transfer 23 = .ok (.iconst 2, 1) := by decide +kernel
theorem dL_transfer_24 : decode cL_transfer 24 = .ok (.ireturn, 1) := by decide +kernel
theorem dL_transfer_25 : decode cL_transfer 25 = .ok (.astore 6, 2) := by decide +kernel
theorem dL_transfer_27 : decode cL_transfer 27 = .ok (.iconst 3, 1) := by decide +kernel
theorem dL_transfer_28 : decode cL_transfer 28 = .ok (.ireturn, 1) := by decide +kernel
theorem dL_transfer_29 : decode cL_transfer 29 = .ok (.iconst 0, 1) := by decide +kernel
theorem dL_transfer_30 : decode cL_transfer 30 = .ok (.ireturn, 1) := by decide +kernel
theorem dL_lend_0 : decode cL_lend 0 = .ok (.aload 6, 2) := by decide +kernel
theorem dL_lend_2 : decode cL_lend 2 = .ok (.iconst 0, 1) := by decide +kernel
theorem dL_lend_3 : decode cL_lend 3 = .ok (.aload_n 0, 1) := by decide +kernel
theorem dL_lend_4 : decode cL_lend 4 = .ok (.iload_n 1, 1) := by decide +kernel
theorem dL_lend_5 : decode cL_lend 5 = .ok (.iload_n 2, 1) := by decide +kernel
theorem dL_lend_6 : decode cL_lend 6 = .ok (.iload_n 3, 1) := by decide +kernel
theorem dL_lend_7 : decode cL_lend 7 = .ok (.iload 4, 2) := by decide +kernel
theorem dL_lend_9 : decode cL_lend 9 = .ok (.iload 5, 2) := by decide +kernel
theorem dL_lend_11 : decode cL_lend 11 = .ok (.invokevirtual 30, 3) := by decide +kernel
theorem dL_lend_14 : decode cL_lend 14 = .ok (.i2l, 1) := by decide +kernel
theorem dL_lend_15 : decode cL_lend 15 = .ok (.lastore, 1) := by decide +kernel
theorem dL_lend_16 : decode cL_lend 16 = .ok (.goto 15, 3) := by decide +kernel
theorem dL_lend_19 : decode cL_lend 19 = .ok (.astore 7, 2) := by decide +kernel
theorem dL_lend_21 : decode cL_lend 21 = .ok (.iconst 1, 1) := by decide +kernel
theorem dL_lend_22 : decode cL_lend 22 = .ok (.ireturn, 1) := by decide +kernel
theorem dL_lend_23 : decode cL_lend 23 = .ok (.astore 7, 2) := by decide +kernel
theorem dL_lend_25 : decode cL_lend 25 = .ok (.iconst 2, 1) := by decide +kernel
theorem dL_lend_26 : decode cL_lend 26 = .ok (.ireturn, 1) := by decide +kernel
theorem dL_lend_27 : decode cL_lend 27 = .ok (.astore 7, 2) := by decide +kernel
theorem dL_lend_29 : decode cL_lend 29 = .ok (.iconst 3, 1) := by decide +kernel
theorem dL_lend_30 : decode cL_lend 30 = .ok (.ireturn, 1) := by decide +kernel
theorem dL_lend_31 : decode cL_lend 31 = .ok (.iconst 0, 1) := by decide +kernel
theorem dL_lend_32 : decode cL_lend 32 = .ok (.ireturn, 1) := by decide +kernel
theorem dL_rebalance_0 : decode cL_rebalance 0 = .ok (.aload_n 3, 1) := by decide +kernel
theorem dL_rebalance_1 : decode cL_rebalance 1 = .ok (.iconst 0, 1) := by decide +kernel
theorem dL_rebalance_2 : decode cL_rebalance 2 = .ok (.aload_n 0, 1) := by decide +kernel
theorem dL_rebalance_3 : decode cL_rebalance 3 = .ok (.iload_n 1, 1) := by decide +kernel
theorem dL_rebalance_4 : decode cL_rebalance 4 = .ok (.iload_n 2, 1) := by decide +kernel
theorem dL_rebalance_5 : decode cL_rebalance 5 = .ok (.invokevirtual 34, 3) := by decide +kernel
theorem dL_rebalance_8 : decode cL_rebalance 8 = .ok (.i2l, 1) := by decide +kernel
theorem dL_rebalance_9 : decode cL_rebalance 9 = .ok (.lastore, 1) := by decide +kernel
theorem dL_rebalance_10 : decode cL_rebalance 10 = .ok (.goto 7, 3) := by decide +kernel
theorem dL_rebalance_13 : decode cL_rebalance 13 = .ok (.astore 4, 2) := by decide +kernel
theorem dL_rebalance_15 : decode cL_rebalance 15 = .ok (.iconst 1, 1) := by decide +kernel
theorem dL_rebalance_16 : decode cL_rebalance 16 = .ok (.ireturn, 1) := by decide +kernel
theorem dL_rebalance_17 : decode cL_rebalance 17 = .ok (.iconst 0, 1) := by decide +kernel
theorem dL_rebalance_18 : decode cL_rebalance 18 = .ok (.ireturn, 1) := by decide +kernel
theorem dL_pass_0 : decode cL_pass 0 = .ok (.aload_n 2, 1) := by decide +kernel
theorem dL_pass_1 : decode cL_pass 1 = .ok (.iconst 0, 1) := by decide +kernel
theorem dL_pass_2 : decode cL_pass 2 = .ok (.aload_n 0, 1) := by decide +kernel
theorem dL_pass_3 : decode cL_pass 3 = .ok (.iload_n 1, 1) := by decide +kernel
theorem dL_pass_4 : decode cL_pass 4 = .ok (.invokevirtual 38, 3) := by decide +kernel
theorem dL_pass_7 : decode cL_pass 7 = .ok (.i2l, 1) := by decide +kernel
theorem dL_pass_8 : decode cL_pass 8 = .ok (.lastore, 1) := by decide +kernel
theorem dL_pass_9 : decode cL_pass 9 = .ok (.goto 9, 3) := by decide +kernel
theorem dL_pass_12 : decode cL_pass 12 = .ok (.astore_n 3, 1) := by decide +kernel
theorem dL_pass_13 : decode cL_pass 13 = .ok (.iconst 1, 1) := by decide +kernel
theorem dL_pass_14 : decode cL_pass 14 = .ok (.ireturn, 1) := by decide +kernel
theorem dL_pass_15 : decode cL_pass 15 = .ok (.astore_n 3, 1) := by decide +kernel
theorem dL_pass_16 : decode cL_pass 16 = .ok (.iconst 2, 1) := by decide +kernel
theorem dL_pass_17 : decode cL_pass 17 = .ok (.ireturn, 1) := by decide +kernel
theorem dL_pass_18 : decode cL_pass 18 = .ok (.iconst 0, 1) := by decide +kernel
theorem dL_pass_19 : decode cL_pass 19 = .ok (.ireturn, 1) := by decide +kernel
theorem dL_send_0 : decode cL_send 0 = .ok (.aload_n 3, 1) := by decide +kernel
theorem dL_send_1 : decode cL_send 1 = .ok (.iconst 0, 1) := by decide +kernel
theorem dL_send_2 : decode cL_send 2 = .ok (.aload_n 0, 1) := by decide +kernel
theorem dL_send_3 : decode cL_send 3 = .ok (.iload_n 1, 1) := by decide +kernel
theorem dL_send_4 : decode cL_send 4 = .ok (.iload_n 2, 1) := by decide +kernel
theorem dL_send_5 : decode cL_send 5 = .ok (.invokevirtual 42, 3) := by decide +kernel
theorem dL_send_8 : decode cL_send 8 = .ok (.i2l, 1) := by decide +kernel
theorem dL_send_9 : decode cL_send 9 = .ok (.lastore, 1) := by decide +kernel
theorem dL_send_10 : decode cL_send 10 = .ok (.goto 15, 3) := by decide +kernel
theorem dL_send_13 : decode cL_send 13 = .ok (.astore 4, 2) := by decide +kernel
theorem dL_send_15 : decode cL_send 15 = .ok (.iconst 1, 1) := by decide +kernel
theorem dL_send_16 : decode cL_send 16 = .ok (.ireturn, 1) := by decide +kernel
theorem dL_send_17 : decode cL_send 17 = .ok (.astore 4, 2) := by decide +kernel
theorem dL_send_19 : decode cL_send 19 = .ok (.iconst 2, 1) := by decide +kernel
theorem dL_send_20 : decode cL_send 20 = .ok (.ireturn, 1) := by decide +kernel
theorem dL_send_21 : decode cL_send 21 = .ok (.astore 4, 2) := by decide +kernel
theorem dL_send_23 : decode cL_send 23 = .ok (.iconst 3, 1) := by decide +kernel
theorem dL_send_24 : decode cL_send 24 = .ok (.ireturn, 1) := by decide +kernel
theorem dL_send_25 : decode cL_send 25 = .ok (.iconst 0, 1) := by decide +kernel
theorem dL_send_26 : decode cL_send 26 = .ok (.ireturn, 1) := by decide +kernel
theorem dL_deliver_0 : decode cL_deliver 0 = .ok (.aload_n 2, 1) := by decide +kernel
theorem dL_deliver_1 : decode cL_deliver 1 = .ok (.iconst 0, 1) := by decide +kernel
theorem dL_deliver_2 : decode cL_deliver 2 = .ok (.aload_n 0, 1) := by decide +kernel
theorem dL_deliver_3 : decode cL_deliver 3 = .ok (.iload_n 1, 1) := by decide +kernel
theorem dL_deliver_4 : decode cL_deliver 4 = .ok (.invokevirtual 45, 3) := by decide +kernel
theorem dL_deliver_7 : decode cL_deliver 7 = .ok (.i2l, 1) := by decide +kernel
theorem dL_deliver_8 : decode cL_deliver 8 = .ok (.lastore, 1) := by decide +kernel
theorem dL_deliver_9 : decode cL_deliver 9 = .ok (.goto 6, 3) := by decide +kernel
theorem dL_deliver_12 : decode cL_deliver 12 = .ok (.astore_n 3, 1) := by decide +kernel
theorem dL_deliver_13 : decode cL_deliver 13 = .ok (.iconst 1, 1) := by decide +kernel
theorem dL_deliver_14 : decode cL_deliver 14 = .ok (.ireturn, 1) := by decide +kernel
theorem dL_deliver_15 : decode cL_deliver 15 = .ok (.iconst 0, 1) := by decide +kernel
theorem dL_deliver_16 : decode cL_deliver 16 = .ok (.ireturn, 1) := by decide +kernel
theorem dL_lose_0 : decode cL_lose 0 = .ok (.aload_n 2, 1) := by decide +kernel
theorem dL_lose_1 : decode cL_lose 1 = .ok (.iconst 0, 1) := by decide +kernel
theorem dL_lose_2 : decode cL_lose 2 = .ok (.aload_n 0, 1) := by decide +kernel
theorem dL_lose_3 : decode cL_lose 3 = .ok (.iload_n 1, 1) := by decide +kernel
theorem dL_lose_4 : decode cL_lose 4 = .ok (.invokevirtual 48, 3) := by decide +kernel
theorem dL_lose_7 : decode cL_lose 7 = .ok (.i2l, 1) := by decide +kernel
theorem dL_lose_8 : decode cL_lose 8 = .ok (.lastore, 1) := by decide +kernel
theorem dL_lose_9 : decode cL_lose 9 = .ok (.goto 6, 3) := by decide +kernel
theorem dL_lose_12 : decode cL_lose 12 = .ok (.astore_n 3, 1) := by decide +kernel
theorem dL_lose_13 : decode cL_lose 13 = .ok (.iconst 1, 1) := by decide +kernel
theorem dL_lose_14 : decode cL_lose 14 = .ok (.ireturn, 1) := by decide +kernel
theorem dL_lose_15 : decode cL_lose 15 = .ok (.iconst 0, 1) := by decide +kernel
theorem dL_lose_16 : decode cL_lose 16 = .ok (.ireturn, 1) := by decide +kernel
theorem dL_repeat_0 : decode cL_repeat 0 = .ok (.aload_n 2, 1) := by decide +kernel
theorem dL_repeat_1 : decode cL_repeat 1 = .ok (.iconst 0, 1) := by decide +kernel
theorem dL_repeat_2 : decode cL_repeat 2 = .ok (.aload_n 0, 1) := by decide +kernel
theorem dL_repeat_3 : decode cL_repeat 3 = .ok (.iload_n 1, 1) := by decide +kernel
theorem dL_repeat_4 : decode cL_repeat 4 = .ok (.invokevirtual 51, 3) := by decide +kernel
theorem dL_repeat_7 : decode cL_repeat 7 = .ok (.i2l, 1) := by decide +kernel
theorem dL_repeat_8 : decode cL_repeat 8 = .ok (.lastore, 1) := by decide +kernel
theorem dL_repeat_9 : decode cL_repeat 9 = .ok (.goto 9, 3) := by decide +kernel
theorem dL_repeat_12 : decode cL_repeat 12 = .ok (.astore_n 3, 1) := by decide +kernel
theorem dL_repeat_13 : decode cL_repeat 13 = .ok (.iconst 1, 1) := by decide +kernel
theorem dL_repeat_14 : decode cL_repeat 14 = .ok (.ireturn, 1) := by decide +kernel
theorem dL_repeat_15 : decode cL_repeat 15 = .ok (.astore_n 3, 1) := by decide +kernel
theorem dL_repeat_16 : decode cL_repeat 16 = .ok (.iconst 2, 1) := by decide +kernel
theorem dL_repeat_17 : decode cL_repeat 17 = .ok (.ireturn, 1) := by decide +kernel
theorem dL_repeat_18 : decode cL_repeat 18 = .ok (.iconst 0, 1) := by decide +kernel
theorem dL_repeat_19 : decode cL_repeat 19 = .ok (.ireturn, 1) := by decide +kernel
theorem dL_message_0 : decode cL_message 0 = .ok (.aload_n 3, 1) := by decide +kernel
theorem dL_message_1 : decode cL_message 1 = .ok (.iconst 0, 1) := by decide +kernel
theorem dL_message_2 : decode cL_message 2 = .ok (.aload_n 0, 1) := by decide +kernel
theorem dL_message_3 : decode cL_message 3 = .ok (.iload_n 1, 1) := by decide +kernel
theorem dL_message_4 : decode cL_message 4 = .ok (.iload_n 2, 1) := by decide +kernel
theorem dL_message_5 : decode cL_message 5 = .ok (.invokevirtual 54, 3) := by decide +kernel
theorem dL_message_8 : decode cL_message 8 = .ok (.i2l, 1) := by decide +kernel
theorem dL_message_9 : decode cL_message 9 = .ok (.lastore, 1) := by decide +kernel
theorem dL_message_10 : decode cL_message 10 = .ok (.goto 7, 3) := by decide +kernel
theorem dL_message_13 : decode cL_message 13 = .ok (.astore 4, 2) := by decide +kernel
theorem dL_message_15 : decode cL_message 15 = .ok (.iconst 1, 1) := by decide +kernel
theorem dL_message_16 : decode cL_message 16 = .ok (.ireturn, 1) := by decide +kernel
theorem dL_message_17 : decode cL_message 17 = .ok (.iconst 0, 1) := by decide +kernel
theorem dL_message_18 : decode cL_message 18 = .ok (.ireturn, 1) := by decide +kernel
theorem dL_known_0 : decode cL_known 0 = .ok (.aload_n 2, 1) := by decide +kernel
theorem dL_known_1 : decode cL_known 1 = .ok (.iconst 0, 1) := by decide +kernel
theorem dL_known_2 : decode cL_known 2 = .ok (.aload_n 0, 1) := by decide +kernel
theorem dL_known_3 : decode cL_known 3 = .ok (.iload_n 1, 1) := by decide +kernel
theorem dL_known_4 : decode cL_known 4 = .ok (.invokevirtual 57, 3) := by decide +kernel
theorem dL_known_7 : decode cL_known 7 = .ok (.i2l, 1) := by decide +kernel
theorem dL_known_8 : decode cL_known 8 = .ok (.lastore, 1) := by decide +kernel
theorem dL_known_9 : decode cL_known 9 = .ok (.goto 6, 3) := by decide +kernel
theorem dL_known_12 : decode cL_known 12 = .ok (.astore_n 3, 1) := by decide +kernel
theorem dL_known_13 : decode cL_known 13 = .ok (.iconst 1, 1) := by decide +kernel
theorem dL_known_14 : decode cL_known 14 = .ok (.ireturn, 1) := by decide +kernel
theorem dL_known_15 : decode cL_known 15 = .ok (.iconst 0, 1) := by decide +kernel
theorem dL_known_16 : decode cL_known 16 = .ok (.ireturn, 1) := by decide +kernel
theorem dL_own_0 : decode cL_own 0 = .ok (.aload_n 3, 1) := by decide +kernel
theorem dL_own_1 : decode cL_own 1 = .ok (.iconst 0, 1) := by decide +kernel
theorem dL_own_2 : decode cL_own 2 = .ok (.aload_n 0, 1) := by decide +kernel
theorem dL_own_3 : decode cL_own 3 = .ok (.iload_n 1, 1) := by decide +kernel
theorem dL_own_4 : decode cL_own 4 = .ok (.iload_n 2, 1) := by decide +kernel
theorem dL_own_5 : decode cL_own 5 = .ok (.invokevirtual 60, 3) := by decide +kernel
theorem dL_own_8 : decode cL_own 8 = .ok (.i2l, 1) := by decide +kernel
theorem dL_own_9 : decode cL_own 9 = .ok (.lastore, 1) := by decide +kernel
theorem dL_own_10 : decode cL_own 10 = .ok (.goto 7, 3) := by decide +kernel
theorem dL_own_13 : decode cL_own 13 = .ok (.astore 4, 2) := by decide +kernel
theorem dL_own_15 : decode cL_own 15 = .ok (.iconst 1, 1) := by decide +kernel
theorem dL_own_16 : decode cL_own 16 = .ok (.ireturn, 1) := by decide +kernel
theorem dL_own_17 : decode cL_own 17 = .ok (.iconst 0, 1) := by decide +kernel
theorem dL_own_18 : decode cL_own 18 = .ok (.ireturn, 1) := by decide +kernel
theorem dL_available_0 : decode cL_available 0 = .ok (.aload_n 3, 1) := by decide +kernel
theorem dL_available_1 : decode cL_available 1 = .ok (.iconst 0, 1) := by decide +kernel
theorem dL_available_2 : decode cL_available 2 = .ok (.aload_n 0, 1) := by decide +kernel
theorem dL_available_3 : decode cL_available 3 = .ok (.iload_n 1, 1) := by decide +kernel
theorem dL_available_4 : decode cL_available 4 = .ok (.iload_n 2, 1) := by decide +kernel
theorem dL_available_5 : decode cL_available 5 = .ok (.invokevirtual 63, 3) := by decide +kernel
theorem dL_available_8 : decode cL_available 8 = .ok (.i2l, 1) := by decide +kernel
theorem dL_available_9 : decode cL_available 9 = .ok (.lastore, 1) := by decide +kernel
theorem dL_available_10 : decode cL_available 10 = .ok (.goto 7, 3) := by decide +kernel
theorem dL_available_13 : decode cL_available 13 = .ok (.astore 4, 2) := by decide +kernel
theorem dL_available_15 : decode cL_available 15 = .ok (.iconst 1, 1) := by decide +kernel
theorem dL_available_16 : decode cL_available 16 = .ok (.ireturn, 1) := by decide +kernel
theorem dL_available_17 : decode cL_available 17 = .ok (.iconst 0, 1) := by decide +kernel
theorem dL_available_18 : decode cL_available 18 = .ok (.ireturn, 1) := by decide +kernel
theorem dL_dormant_0 : decode cL_dormant 0 = .ok (.aload_n 2, 1) := by decide +kernel
theorem dL_dormant_1 : decode cL_dormant 1 = .ok (.iconst 0, 1) := by decide +kernel
theorem dL_dormant_2 : decode cL_dormant 2 = .ok (.aload_n 0, 1) := by decide +kernel
theorem dL_dormant_3 : decode cL_dormant 3 = .ok (.iload_n 1, 1) := by decide +kernel
theorem dL_dormant_4 : decode cL_dormant 4 = .ok (.invokevirtual 66, 3) := by decide +kernel
theorem dL_dormant_7 : decode cL_dormant 7 = .ok (.i2l, 1) := by decide +kernel
theorem dL_dormant_8 : decode cL_dormant 8 = .ok (.lastore, 1) := by decide +kernel
theorem dL_dormant_9 : decode cL_dormant 9 = .ok (.goto 6, 3) := by decide +kernel
theorem dL_dormant_12 : decode cL_dormant 12 = .ok (.astore_n 3, 1) := by decide +kernel
theorem dL_dormant_13 : decode cL_dormant 13 = .ok (.iconst 1, 1) := by decide +kernel
theorem dL_dormant_14 : decode cL_dormant 14 = .ok (.ireturn, 1) := by decide +kernel
theorem dL_dormant_15 : decode cL_dormant 15 = .ok (.iconst 0, 1) := by decide +kernel
theorem dL_dormant_16 : decode cL_dormant 16 = .ok (.ireturn, 1) := by decide +kernel
theorem dL_demand_0 : decode cL_demand 0 = .ok (.aload 4, 2) := by decide +kernel
theorem dL_demand_2 : decode cL_demand 2 = .ok (.iconst 0, 1) := by decide +kernel
theorem dL_demand_3 : decode cL_demand 3 = .ok (.aload_n 0, 1) := by decide +kernel
theorem dL_demand_4 : decode cL_demand 4 = .ok (.iload_n 1, 1) := by decide +kernel
theorem dL_demand_5 : decode cL_demand 5 = .ok (.iload_n 2, 1) := by decide +kernel
theorem dL_demand_6 : decode cL_demand 6 = .ok (.iload_n 3, 1) := by decide +kernel
theorem dL_demand_7 : decode cL_demand 7 = .ok (.invokevirtual 69, 3) := by decide +kernel
theorem dL_demand_10 : decode cL_demand 10 = .ok (.i2l, 1) := by decide +kernel
theorem dL_demand_11 : decode cL_demand 11 = .ok (.lastore, 1) := by decide +kernel
theorem dL_demand_12 : decode cL_demand 12 = .ok (.goto 7, 3) := by decide +kernel
theorem dL_demand_15 : decode cL_demand 15 = .ok (.astore 5, 2) := by decide +kernel
theorem dL_demand_17 : decode cL_demand 17 = .ok (.iconst 1, 1) := by decide +kernel
theorem dL_demand_18 : decode cL_demand 18 = .ok (.ireturn, 1) := by decide +kernel
theorem dL_demand_19 : decode cL_demand 19 = .ok (.iconst 0, 1) := by decide +kernel
theorem dL_demand_20 : decode cL_demand 20 = .ok (.ireturn, 1) := by decide +kernel
theorem dL_version_0 : decode cL_version 0 = .ok (.aload_n 3, 1) := by decide +kernel
theorem dL_version_1 : decode cL_version 1 = .ok (.iconst 0, 1) := by decide +kernel
theorem dL_version_2 : decode cL_version 2 = .ok (.aload_n 0, 1) := by decide +kernel
theorem dL_version_3 : decode cL_version 3 = .ok (.iload_n 1, 1) := by decide +kernel
theorem dL_version_4 : decode cL_version 4 = .ok (.iload_n 2, 1) := by decide +kernel
theorem dL_version_5 : decode cL_version 5 = .ok (.invokevirtual 72, 3) := by decide +kernel
theorem dL_version_8 : decode cL_version 8 = .ok (.i2l, 1) := by decide +kernel
theorem dL_version_9 : decode cL_version 9 = .ok (.lastore, 1) := by decide +kernel
theorem dL_version_10 : decode cL_version 10 = .ok (.goto 7, 3) := by decide +kernel
theorem dL_version_13 : decode cL_version 13 = .ok (.astore 4, 2) := by decide +kernel
theorem dL_version_15 : decode cL_version 15 = .ok (.iconst 1, 1) := by decide +kernel
theorem dL_version_16 : decode cL_version 16 = .ok (.ireturn, 1) := by decide +kernel
theorem dL_version_17 : decode cL_version 17 = .ok (.iconst 0, 1) := by decide +kernel
theorem dL_version_18 : decode cL_version 18 = .ok (.ireturn, 1) := by decide +kernel
theorem dL_copyTime_0 : decode cL_copyTime 0 = .ok (.aload_n 3, 1) := by decide +kernel
theorem dL_copyTime_1 : decode cL_copyTime 1 = .ok (.iconst 0, 1) := by decide +kernel
theorem dL_copyTime_2 : decode cL_copyTime 2 = .ok (.aload_n 0, 1) := by decide +kernel
theorem dL_copyTime_3 : decode cL_copyTime 3 = .ok (.iload_n 1, 1) := by decide +kernel
theorem dL_copyTime_4 : decode cL_copyTime 4 = .ok (.iload_n 2, 1) := by decide +kernel
theorem dL_copyTime_5 : decode cL_copyTime 5 = .ok (.invokevirtual 75, 3) := by decide +kernel
theorem dL_copyTime_8 : decode cL_copyTime 8 = .ok (.i2l, 1) := by decide +kernel
theorem dL_copyTime_9 : decode cL_copyTime 9 = .ok (.lastore, 1) := by decide +kernel
theorem dL_copyTime_10 : decode cL_copyTime 10 = .ok (.goto 7, 3) := by decide +kernel
theorem dL_copyTime_13 : decode cL_copyTime 13 = .ok (.astore 4, 2) := by decide +kernel
theorem dL_copyTime_15 : decode cL_copyTime 15 = .ok (.iconst 1, 1) := by decide +kernel
theorem dL_copyTime_16 : decode cL_copyTime 16 = .ok (.ireturn, 1) := by decide +kernel
theorem dL_copyTime_17 : decode cL_copyTime 17 = .ok (.iconst 0, 1) := by decide +kernel
theorem dL_copyTime_18 : decode cL_copyTime 18 = .ok (.ireturn, 1) := by decide +kernel
theorem dL_loan_0 : decode cL_loan 0 = .ok (.aload_n 3, 1) := by decide +kernel
theorem dL_loan_1 : decode cL_loan 1 = .ok (.iconst 0, 1) := by decide +kernel
theorem dL_loan_2 : decode cL_loan 2 = .ok (.aload_n 0, 1) := by decide +kernel
theorem dL_loan_3 : decode cL_loan 3 = .ok (.iload_n 1, 1) := by decide +kernel
theorem dL_loan_4 : decode cL_loan 4 = .ok (.iload_n 2, 1) := by decide +kernel
theorem dL_loan_5 : decode cL_loan 5 = .ok (.invokevirtual 78, 3) := by decide +kernel
theorem dL_loan_8 : decode cL_loan 8 = .ok (.i2l, 1) := by decide +kernel
theorem dL_loan_9 : decode cL_loan 9 = .ok (.lastore, 1) := by decide +kernel
theorem dL_loan_10 : decode cL_loan 10 = .ok (.goto 7, 3) := by decide +kernel
theorem dL_loan_13 : decode cL_loan 13 = .ok (.astore 4, 2) := by decide +kernel
theorem dL_loan_15 : decode cL_loan 15 = .ok (.iconst 1, 1) := by decide +kernel
theorem dL_loan_16 : decode cL_loan 16 = .ok (.ireturn, 1) := by decide +kernel
theorem dL_loan_17 : decode cL_loan 17 = .ok (.iconst 0, 1) := by decide +kernel
theorem dL_loan_18 : decode cL_loan 18 = .ok (.ireturn, 1) := by decide +kernel
theorem dL_helpers_0 : decode cL_helpers 0 = .ok (.aload 4, 2) := by decide +kernel
theorem dL_helpers_2 : decode cL_helpers 2 = .ok (.iconst 0, 1) := by decide +kernel
theorem dL_helpers_3 : decode cL_helpers 3 = .ok (.aload_n 0, 1) := by decide +kernel
theorem dL_helpers_4 : decode cL_helpers 4 = .ok (.iload_n 1, 1) := by decide +kernel
theorem dL_helpers_5 : decode cL_helpers 5 = .ok (.iload_n 2, 1) := by decide +kernel
theorem dL_helpers_6 : decode cL_helpers 6 = .ok (.iload_n 3, 1) := by decide +kernel
theorem dL_helpers_7 : decode cL_helpers 7 = .ok (.invokevirtual 81, 3) := by decide +kernel
theorem dL_helpers_10 : decode cL_helpers 10 = .ok (.i2l, 1) := by decide +kernel
theorem dL_helpers_11 : decode cL_helpers 11 = .ok (.lastore, 1) := by decide +kernel
theorem dL_helpers_12 : decode cL_helpers 12 = .ok (.goto 11, 3) := by decide +kernel
theorem dL_helpers_15 : decode cL_helpers 15 = .ok (.astore 5, 2) := by decide +kernel
theorem dL_helpers_17 : decode cL_helpers 17 = .ok (.iconst 1, 1) := by decide +kernel
theorem dL_helpers_18 : decode cL_helpers 18 = .ok (.ireturn, 1) := by decide +kernel
theorem dL_helpers_19 : decode cL_helpers 19 = .ok (.astore 5, 2) := by decide +kernel
theorem dL_helpers_21 : decode cL_helpers 21 = .ok (.iconst 2, 1) := by decide +kernel
theorem dL_helpers_22 : decode cL_helpers 22 = .ok (.ireturn, 1) := by decide +kernel
theorem dL_helpers_23 : decode cL_helpers 23 = .ok (.iconst 0, 1) := by decide +kernel
theorem dL_helpers_24 : decode cL_helpers 24 = .ok (.ireturn, 1) := by decide +kernel
theorem dL_type_0 : decode cL_type 0 = .ok (.aload_n 2, 1) := by decide +kernel
theorem dL_type_1 : decode cL_type 1 = .ok (.iconst 0, 1) := by decide +kernel
theorem dL_type_2 : decode cL_type 2 = .ok (.aload_n 0, 1) := by decide +kernel
theorem dL_type_3 : decode cL_type 3 = .ok (.iload_n 1, 1) := by decide +kernel
theorem dL_type_4 : decode cL_type 4 = .ok (.invokevirtual 84, 3) := by decide +kernel
theorem dL_type_7 : decode cL_type 7 = .ok (.i2l, 1) := by decide +kernel
theorem dL_type_8 : decode cL_type 8 = .ok (.lastore, 1) := by decide +kernel
theorem dL_type_9 : decode cL_type 9 = .ok (.goto 9, 3) := by decide +kernel
theorem dL_type_12 : decode cL_type 12 = .ok (.astore_n 3, 1) := by decide +kernel
theorem dL_type_13 : decode cL_type 13 = .ok (.iconst 1, 1) := by decide +kernel
theorem dL_type_14 : decode cL_type 14 = .ok (.ireturn, 1) := by decide +kernel
theorem dL_type_15 : decode cL_type 15 = .ok (.astore_n 3, 1) := by decide +kernel
theorem dL_type_16 : decode cL_type 16 = .ok (.iconst 2, 1) := by decide +kernel
theorem dL_type_17 : decode cL_type 17 = .ok (.ireturn, 1) := by decide +kernel
theorem dL_type_18 : decode cL_type 18 = .ok (.iconst 0, 1) := by decide +kernel
theorem dL_type_19 : decode cL_type 19 = .ok (.ireturn, 1) := by decide +kernel
theorem dL_undo_0 : decode cL_undo 0 = .ok (.aload_n 1, 1) := by decide +kernel
theorem dL_undo_1 : decode cL_undo 1 = .ok (.iconst 0, 1) := by decide +kernel
theorem dL_undo_2 : decode cL_undo 2 = .ok (.aload_n 0, 1) := by decide +kernel
theorem dL_undo_3 : decode cL_undo 3 = .ok (.invokevirtual 87, 3) := by decide +kernel
theorem dL_undo_6 : decode cL_undo 6 = .ok (.i2l, 1) := by decide +kernel
theorem dL_undo_7 : decode cL_undo 7 = .ok (.lastore, 1) := by decide +kernel
theorem dL_undo_8 : decode cL_undo 8 = .ok (.goto 6, 3) := by decide +kernel
theorem dL_undo_11 : decode cL_undo 11 = .ok (.astore_n 2, 1) := by decide +kernel
theorem dL_undo_12 : decode cL_undo 12 = .ok (.iconst 1, 1) := by decide +kernel
theorem dL_undo_13 : decode cL_undo 13 = .ok (.ireturn, 1) := by decide +kernel
theorem dL_undo_14 : decode cL_undo 14 = .ok (.iconst 0, 1) := by decide +kernel
theorem dL_undo_15 : decode cL_undo 15 = .ok (.ireturn, 1) := by decide +kernel
theorem dL_law_0 : decode cL_law 0 = .ok (.new 8, 3) := by decide +kernel
theorem dL_law_3 : decode cL_law 3 = .ok (.dup, 1) := by decide +kernel
theorem dL_law_4 : decode cL_law 4 = .ok (.aload_n 0, 1) := by decide +kernel
theorem dL_law_5 : decode cL_law 5 = .ok (.iconst 0, 1) := by decide +kernel
theorem dL_law_6 : decode cL_law 6 = .ok (.invokestatic 91, 3) := by decide +kernel
theorem dL_law_9 : decode cL_law 9 = .ok (.invokespecial 97, 3) := by decide +kernel
theorem dL_law_12 : decode cL_law 12 = .ok (.astore_n 1, 1) := by decide +kernel
theorem dL_law_13 : decode cL_law 13 = .ok (.new 100, 3) := by decide +kernel
theorem dL_law_16 : decode cL_law 16 = .ok (.dup, 1) := by decide +kernel
theorem dL_law_17 : decode cL_law 17 = .ok (.aload_n 0, 1) := by decide +kernel
theorem dL_law_18 : decode cL_law 18 = .ok (.iconst 0, 1) := by decide +kernel
theorem dL_law_19 : decode cL_law 19 = .ok (.invokestatic 91, 3) := by decide +kernel
theorem dL_law_22 : decode cL_law 22 = .ok (.invokespecial 102, 3) := by decide +kernel
theorem dL_law_25 : decode cL_law 25 = .ok (.astore_n 2, 1) := by decide +kernel
theorem dL_law_26 : decode cL_law 26 = .ok (.iconst 1, 1) := by decide +kernel
theorem dL_law_27 : decode cL_law 27 = .ok (.newarray .long, 2) := by decide +kernel
theorem dL_law_29 : decode cL_law 29 = .ok (.astore_n 3, 1) := by decide +kernel
theorem dL_law_30 : decode cL_law 30 = .ok (.iconst 1, 1) := by decide +kernel
theorem dL_law_31 : decode cL_law 31 = .ok (.istore 4, 2) := by decide +kernel
theorem dL_law_33 : decode cL_law 33 = .ok (.iload 4, 2) := by decide +kernel
theorem dL_law_35 : decode cL_law 35 = .ok (.aload_n 0, 1) := by decide +kernel
theorem dL_law_36 : decode cL_law 36 = .ok (.arraylength, 1) := by decide +kernel
theorem dL_law_37 : decode cL_law 37 = .ok (.bipush 6, 2) := by decide +kernel
theorem dL_law_39 : decode cL_law 39 = .ok (.isub, 1) := by decide +kernel
theorem dL_law_40 : decode cL_law 40 = .ok (.if_icmp .gt 1825, 3) := by decide +kernel
theorem dL_law_43 : decode cL_law 43 = .ok (.aload_n 0, 1) := by decide +kernel
theorem dL_law_44 : decode cL_law 44 = .ok (.iload 4, 2) := by decide +kernel
theorem dL_law_46 : decode cL_law 46 = .ok (.iaload, 1) := by decide +kernel
theorem dL_law_47 : decode cL_law 47 = .ok (.bipush 31, 2) := by decide +kernel
theorem dL_law_49 : decode cL_law 49 = .ok (.iand, 1) := by decide +kernel
theorem dL_law_50 : decode cL_law 50 = .ok (.tableswitch 1809 0 30 #[138, 151, 231, 306, 381, 473, 577, 645, 701, 769, 825, 881, 937, 950, 1018, 1031, 1044, 1100, 1168, 1236, 1292, 1372, 1440, 1508, 1521, 1589, 1669, 1725, 1738, 1751, 1795], 138) := by decide +kernel
theorem dL_law_188 : decode cL_law 188 = .ok (.aload_n 1, 1) := by decide +kernel
theorem dL_law_189 : decode cL_law 189 = .ok (.invokevirtual 103, 3) := by decide +kernel
theorem dL_law_192 : decode cL_law 192 = .ok (.aload_n 2, 1) := by decide +kernel
theorem dL_law_193 : decode cL_law 193 = .ok (.invokevirtual 106, 3) := by decide +kernel
theorem dL_law_196 : decode cL_law 196 = .ok (.if_icmp .eq 1663, 3) := by decide +kernel
theorem dL_law_199 : decode cL_law 199 = .ok (.iconst 0, 1) := by decide +kernel
theorem dL_law_200 : decode cL_law 200 = .ok (.ireturn, 1) := by decide +kernel
theorem dL_law_201 : decode cL_law 201 = .ok (.aload_n 1, 1) := by decide +kernel
theorem dL_law_202 : decode cL_law 202 = .ok (.aload_n 0, 1) := by decide +kernel
theorem dL_law_203 : decode cL_law 203 = .ok (.iload 4, 2) := by decide +kernel
theorem dL_law_205 : decode cL_law 205 = .ok (.iconst 1, 1) := by decide +kernel
theorem dL_law_206 : decode cL_law 206 = .ok (.iadd, 1) := by decide +kernel
theorem dL_law_207 : decode cL_law 207 = .ok (.iaload, 1) := by decide +kernel
theorem dL_law_208 : decode cL_law 208 = .ok (.aload_n 0, 1) := by decide +kernel
theorem dL_law_209 : decode cL_law 209 = .ok (.iload 4, 2) := by decide +kernel
theorem dL_law_211 : decode cL_law 211 = .ok (.iconst 2, 1) := by decide +kernel
theorem dL_law_212 : decode cL_law 212 = .ok (.iadd, 1) := by decide +kernel
theorem dL_law_213 : decode cL_law 213 = .ok (.iaload, 1) := by decide +kernel
theorem dL_law_214 : decode cL_law 214 = .ok (.aload_n 0, 1) := by decide +kernel
theorem dL_law_215 : decode cL_law 215 = .ok (.iload 4, 2) := by decide +kernel
theorem dL_law_217 : decode cL_law 217 = .ok (.iconst 3, 1) := by decide +kernel
theorem dL_law_218 : decode cL_law 218 = .ok (.iadd, 1) := by decide +kernel
theorem dL_law_219 : decode cL_law 219 = .ok (.iaload, 1) := by decide +kernel
theorem dL_law_220 : decode cL_law 220 = .ok (.aload_n 3, 1) := by decide +kernel
theorem dL_law_221 : decode cL_law 221 = .ok (.invokestatic 107, 3) := by decide +kernel
theorem dL_law_224 : decode cL_law 224 = .ok (.istore 5, 2) := by decide +kernel
theorem dL_law_226 : decode cL_law 226 = .ok (.aload_n 2, 1) := by decide +kernel
theorem dL_law_227 : decode cL_law 227 = .ok (.aload_n 0, 1) := by decide +kernel
theorem dL_law_228 : decode cL_law 228 = .ok (.iload 4, 2) := by decide +kernel
theorem dL_law_230 : decode cL_law 230 = .ok (.iconst 1, 1) := by decide +kernel
theorem dL_law_231 : decode cL_law 231 = .ok (.iadd, 1) := by decide +kernel
theorem dL_law_232 : decode cL_law 232 = .ok (.iaload, 1) := by decide +kernel
theorem dL_law_233 : decode cL_law 233 = .ok (.aload_n 0, 1) := by decide +kernel
theorem dL_law_234 : decode cL_law 234 = .ok (.iload 4, 2) := by decide +kernel
theorem dL_law_236 : decode cL_law 236 = .ok (.iconst 2, 1) := by decide +kernel
theorem dL_law_237 : decode cL_law 237 = .ok (.iadd, 1) := by decide +kernel
theorem dL_law_238 : decode cL_law 238 = .ok (.iaload, 1) := by decide +kernel
theorem dL_law_239 : decode cL_law 239 = .ok (.aload_n 0, 1) := by decide +kernel
theorem dL_law_240 : decode cL_law 240 = .ok (.iload 4, 2) := by decide +kernel
theorem dL_law_242 : decode cL_law 242 = .ok (.iconst 3, 1) := by decide +kernel
theorem dL_law_243 : decode cL_law 243 = .ok (.iadd, 1) := by decide +kernel
theorem dL_law_244 : decode cL_law 244 = .ok (.iaload, 1) := by decide +kernel
theorem dL_law_245 : decode cL_law 245 = .ok (.invokevirtual 110, 3) := by decide +kernel
theorem dL_law_248 : decode cL_law 248 = .ok (.istore 6, 2) := by decide +kernel
theorem dL_law_250 : decode cL_law 250 = .ok (.aload_n 2, 1) := by decide +kernel
theorem dL_law_251 : decode cL_law 251 = .ok (.invokevirtual 111, 3) := by decide +kernel
theorem dL_law_254 : decode cL_law 254 = .ok (.iload 5, 2) := by decide +kernel
theorem dL_law_256 : decode cL_law 256 = .ok (.if_icmp .eq 5, 3) := by decide +kernel
theorem dL_law_259 : decode cL_law 259 = .ok (.iconst 0, 1) := by decide +kernel
theorem dL_law_260 : decode cL_law 260 = .ok (.ireturn, 1) := by decide +kernel
theorem dL_law_261 : decode cL_law 261 = .ok (.iload 5, 2) := by decide +kernel
theorem dL_law_263 : decode cL_law 263 = .ok (.ifCond .ne 15, 3) := by decide +kernel
theorem dL_law_266 : decode cL_law 266 = .ok (.aload_n 3, 1) := by decide +kernel
theorem dL_law_267 : decode cL_law 267 = .ok (.iconst 0, 1) := by decide +kernel
theorem dL_law_268 : decode cL_law 268 = .ok (.laload, 1) := by decide +kernel
theorem dL_law_269 : decode cL_law 269 = .ok (.iload 6, 2) := by decide +kernel
theorem dL_law_271 : decode cL_law 271 = .ok (.i2l, 1) := by decide +kernel
theorem dL_law_272 : decode cL_law 272 = .ok (.lcmp, 1) := by decide +kernel
theorem dL_law_273 : decode cL_law 273 = .ok (.ifCond .eq 5, 3) := by decide +kernel
theorem dL_law_276 : decode cL_law 276 = .ok (.iconst 0, 1) := by decide +kernel
theorem dL_law_277 : decode cL_law 277 = .ok (.ireturn, 1) := by decide +kernel
theorem dL_law_278 : decode cL_law 278 = .ok (.goto 1581, 3) := by decide +kernel
theorem dL_law_281 : decode cL_law 281 = .ok (.aload_n 1, 1) := by decide +kernel
theorem dL_law_282 : decode cL_law 282 = .ok (.aload_n 0, 1) := by decide +kernel
theorem dL_law_283 : decode cL_law 283 = .ok (.iload 4, 2) := by decide +kernel
theorem dL_law_285 : decode cL_law 285 = .ok (.iconst 1, 1) := by decide +kernel
theorem dL_law_286 : decode cL_law 286 = .ok (.iadd, 1) := by decide +kernel
theorem dL_law_287 : decode cL_law 287 = .ok (.iaload, 1) := by decide +kernel
theorem dL_law_288 : decode cL_law 288 = .ok (.aload_n 0, 1) := by decide +kernel
theorem dL_law_289 : decode cL_law 289 = .ok (.iload 4, 2) := by decide +kernel
theorem dL_law_291 : decode cL_law 291 = .ok (.iconst 2, 1) := by decide +kernel
theorem dL_law_292 : decode cL_law 292 = .ok (.iadd, 1) := by decide +kernel
theorem dL_law_293 : decode cL_law 293 = .ok (.iaload, 1) := by decide +kernel
theorem dL_law_294 : decode cL_law 294 = .ok (.aload_n 3, 1) := by decide +kernel
theorem dL_law_295 : decode cL_law 295 = .ok (.invokestatic 114, 3) := by decide +kernel
theorem dL_law_298 : decode cL_law 298 = .ok (.istore 5, 2) := by decide +kernel
theorem dL_law_300 : decode cL_law 300 = .ok (.aload_n 2, 1) := by decide +kernel
theorem dL_law_301 : decode cL_law 301 = .ok (.aload_n 0, 1) := by decide +kernel
theorem dL_law_302 : decode cL_law 302 = .ok (.iload 4, 2) := by decide +kernel
theorem dL_law_304 : decode cL_law 304 = .ok (.iconst 1, 1) := by decide +kernel
theorem dL_law_305 : decode cL_law 305 = .ok (.iadd, 1) := by decide +kernel
theorem dL_law_306 : decode cL_law 306 = .ok (.iaload, 1) := by decide +kernel
theorem dL_law_307 : decode cL_law 307 = .ok (.aload_n 0, 1) := by decide +kernel
theorem dL_law_308 : decode cL_law 308 = .ok (.iload 4, 2) := by decide +kernel
theorem dL_law_310 : decode cL_law 310 = .ok (.iconst 2, 1) := by decide +kernel
theorem dL_law_311 : decode cL_law 311 = .ok (.iadd, 1) := by decide +kernel
theorem dL_law_312 : decode cL_law 312 = .ok (.iaload, 1) := by decide +kernel
theorem dL_law_313 : decode cL_law 313 = .ok (.invokevirtual 117, 3) := by decide +kernel
theorem dL_law_316 : decode cL_law 316 = .ok (.istore 6, 2) := by decide +kernel
theorem dL_law_318 : decode cL_law 318 = .ok (.aload_n 2, 1) := by decide +kernel
theorem dL_law_319 : decode cL_law 319 = .ok (.invokevirtual 111, 3) := by decide +kernel
theorem dL_law_322 : decode cL_law 322 = .ok (.iload 5, 2) := by decide +kernel
theorem dL_law_324 : decode cL_law 324 = .ok (.if_icmp .eq 5, 3) := by decide +kernel
theorem dL_law_327 : decode cL_law 327 = .ok (.iconst 0, 1) := by decide +kernel
theorem dL_law_328 : decode cL_law 328 = .ok (.ireturn, 1) := by decide +kernel
theorem dL_law_329 : decode cL_law 329 = .ok (.iload 5, 2) := by decide +kernel
theorem dL_law_331 : decode cL_law 331 = .ok (.ifCond .ne 22, 3) := by decide +kernel
theorem dL_law_334 : decode cL_law 334 = .ok (.aload_n 3, 1) := by decide +kernel
theorem dL_law_335 : decode cL_law 335 = .ok (.iconst 0, 1) := by decide +kernel
theorem dL_law_336 : decode cL_law 336 = .ok (.laload, 1) := by decide +kernel
theorem dL_law_337 : decode cL_law 337 = .ok (.iload 6, 2) := by decide +kernel
theorem dL_law_339 : decode cL_law 339 = .ok (.ifCond .eq 7, 3) := by decide +kernel
theorem dL_law_342 : decode cL_law 342 = .ok (.lconst 1, 1) := by decide +kernel
theorem dL_law_343 : decode cL_law 343 = .ok (.goto 4, 3) := by decide +kernel
theorem dL_law_346 : decode cL_law 346 = .ok (.lconst 0, 1) := by decide +kernel
theorem dL_law_347 : decode cL_law 347 = .ok (.lcmp, 1) := by decide +kernel
theorem dL_law_348 : decode cL_law 348 = .ok (.ifCond .eq 5, 3) := by decide +kernel
theorem dL_law_351 : decode cL_law 351 = .ok (.iconst 0, 1) := by decide +kernel
theorem dL_law_352 : decode cL_law 352 = .ok (.ireturn, 1) := by decide +kernel
theorem dL_law_353 : decode cL_law 353 = .ok (.goto 1506, 3) := by decide +kernel
theorem dL_law_356 : decode cL_law 356 = .ok (.aload_n 1, 1) := by decide +kernel
theorem dL_law_357 : decode cL_law 357 = .ok (.aload_n 0, 1) := by decide +kernel
theorem dL_law_358 : decode cL_law 358 = .ok (.iload 4, 2) := by decide +kernel
theorem dL_law_360 : decode cL_law 360 = .ok (.iconst 1, 1) := by decide +kernel
theorem dL_law_361 : decode cL_law 361 = .ok (.iadd, 1) := by decide +kernel
theorem dL_law_362 : decode cL_law 362 = .ok (.iaload, 1) := by decide +kernel
theorem dL_law_363 : decode cL_law 363 = .ok (.aload_n 0, 1) := by decide +kernel
theorem dL_law_364 : decode cL_law 364 = .ok (.iload 4, 2) := by decide +kernel
theorem dL_law_366 : decode cL_law 366 = .ok (.iconst 2, 1) := by decide +kernel
theorem dL_law_367 : decode cL_law 367 = .ok (.iadd, 1) := by decide +kernel
theorem dL_law_368 : decode cL_law 368 = .ok (.iaload, 1) := by decide +kernel
theorem dL_law_369 : decode cL_law 369 = .ok (.aload_n 3, 1) := by decide +kernel
theorem dL_law_370 : decode cL_law 370 = .ok (.invokestatic 118, 3) := by decide +kernel
theorem dL_law_373 : decode cL_law 373 = .ok (.istore 5, 2) := by decide +kernel
theorem dL_law_375 : decode cL_law 375 = .ok (.aload_n 2, 1) := by decide +kernel
theorem dL_law_376 : decode cL_law 376 = .ok (.aload_n 0, 1) := by decide +kernel
theorem dL_law_377 : decode cL_law 377 = .ok (.iload 4, 2) := by decide +kernel
theorem dL_law_379 : decode cL_law 379 = .ok (.iconst 1, 1) := by decide +kernel
theorem dL_law_380 : decode cL_law 380 = .ok (.iadd, 1) := by decide +kernel
theorem dL_law_381 : decode cL_law 381 = .ok (.iaload, 1) := by decide +kernel
theorem dL_law_382 : decode cL_law 382 = .ok (.aload_n 0, 1) := by decide +kernel
theorem dL_law_383 : decode cL_law 383 = .ok (.iload 4, 2) := by decide +kernel
theorem dL_law_385 : decode cL_law 385 = .ok (.iconst 2, 1) := by decide +kernel
theorem dL_law_386 : decode cL_law 386 = .ok (.iadd, 1) := by decide +kernel
theorem dL_law_387 : decode cL_law 387 = .ok (.iaload, 1) := by decide +kernel
theorem dL_law_388 : decode cL_law 388 = .ok (.invokevirtual 120, 3) := by decide +kernel
theorem dL_law_391 : decode cL_law 391 = .ok (.istore 6, 2) := by decide +kernel
theorem dL_law_393 : decode cL_law 393 = .ok (.aload_n 2, 1) := by decide +kernel
theorem dL_law_394 : decode cL_law 394 = .ok (.invokevirtual 111, 3) := by decide +kernel
theorem dL_law_397 : decode cL_law 397 = .ok (.iload 5, 2) := by decide +kernel
theorem dL_law_399 : decode cL_law 399 = .ok (.if_icmp .eq 5, 3) := by decide +kernel
theorem dL_law_402 : decode cL_law 402 = .ok (.iconst 0, 1) := by decide +kernel
theorem dL_law_403 : decode cL_law 403 = .ok (.ireturn, 1) := by decide +kernel
theorem dL_law_404 : decode cL_law 404 = .ok (.iload 5, 2) := by decide +kernel
theorem dL_law_406 : decode cL_law 406 = .ok (.ifCond .ne 22, 3) := by decide +kernel
theorem dL_law_409 : decode cL_law 409 = .ok (.aload_n 3, 1) := by decide +kernel
theorem dL_law_410 : decode cL_law 410 = .ok (.iconst 0, 1) := by decide +kernel
theorem dL_law_411 : decode cL_law 411 = .ok (.laload, 1) := by decide +kernel
theorem dL_law_412 : decode cL_law 412 = .ok (.iload 6, 2) := by decide +kernel
theorem dL_law_414 : decode cL_law 414 = .ok (.ifCond .eq 7, 3) := by decide +kernel
theorem dL_law_417 : decode cL_law 417 = .ok (.lconst 1, 1) := by decide +kernel
theorem dL_law_418 : decode cL_law 418 = .ok (.goto 4, 3) := by decide +kernel
theorem dL_law_421 : decode cL_law 421 = .ok (.lconst 0, 1) := by decide +kernel
theorem dL_law_422 : decode cL_law 422 = .ok (.lcmp, 1) := by decide +kernel
theorem dL_law_423 : decode cL_law 423 = .ok (.ifCond .eq 5, 3) := by decide +kernel
theorem dL_law_426 : decode cL_law 426 = .ok (.iconst 0, 1) := by decide +kernel
theorem dL_law_427 : decode cL_law 427 = .ok (.ireturn, 1) := by decide +kernel
theorem dL_law_428 : decode cL_law 428 = .ok (.goto 1431, 3) := by decide +kernel
theorem dL_law_431 : decode cL_law 431 = .ok (.aload_n 1, 1) := by decide +kernel
theorem dL_law_432 : decode cL_law 432 = .ok (.aload_n 0, 1) := by decide +kernel
theorem dL_law_433 : decode cL_law 433 = .ok (.iload 4, 2) := by decide +kernel
theorem dL_law_435 : decode cL_law 435 = .ok (.iconst 1, 1) := by decide +kernel
theorem dL_law_436 : decode cL_law 436 = .ok (.iadd, 1) := by decide +kernel
theorem dL_law_437 : decode cL_law 437 = .ok (.iaload, 1) := by decide +kernel
theorem dL_law_438 : decode cL_law 438 = .ok (.aload_n 0, 1) := by decide +kernel
theorem dL_law_439 : decode cL_law 439 = .ok (.iload 4, 2) := by decide +kernel
theorem dL_law_441 : decode cL_law 441 = .ok (.iconst 2, 1) := by decide +kernel
theorem dL_law_442 : decode cL_law 442 = .ok (.iadd, 1) := by decide +kernel
theorem dL_law_443 : decode cL_law 443 = .ok (.iaload, 1) := by decide +kernel
theorem dL_law_444 : decode cL_law 444 = .ok (.aload_n 0, 1) := by decide +kernel
theorem dL_law_445 : decode cL_law 445 = .ok (.iload 4, 2) := by decide +kernel
theorem dL_law_447 : decode cL_law 447 = .ok (.iconst 3, 1) := by decide +kernel
theorem dL_law_448 : decode cL_law 448 = .ok (.iadd, 1) := by decide +kernel
theorem dL_law_449 : decode cL_law 449 = .ok (.iaload, 1) := by decide +kernel
theorem dL_law_450 : decode cL_law 450 = .ok (.aload_n 0, 1) := by decide +kernel
theorem dL_law_451 : decode cL_law 451 = .ok (.iload 4, 2) := by decide +kernel
theorem dL_law_453 : decode cL_law 453 = .ok (.iconst 4, 1) := by decide +kernel
theorem dL_law_454 : decode cL_law 454 = .ok (.iadd, 1) := by decide +kernel
theorem dL_law_455 : decode cL_law 455 = .ok (.iaload, 1) := by decide +kernel
theorem dL_law_456 : decode cL_law 456 = .ok (.aload_n 3, 1) := by decide +kernel
theorem dL_law_457 : decode cL_law 457 = .ok (.invokestatic 121, 3) := by decide +kernel
theorem dL_law_460 : decode cL_law 460 = .ok (.istore 5, 2) := by decide +kernel
theorem dL_law_462 : decode cL_law 462 = .ok (.aload_n 2, 1) := by decide +kernel
theorem dL_law_463 : decode cL_law 463 = .ok (.aload_n 0, 1) := by decide +kernel
theorem dL_law_464 : decode cL_law 464 = .ok (.iload 4, 2) := by decide +kernel
theorem dL_law_466 : decode cL_law 466 = .ok (.iconst 1, 1) := by decide +kernel
theorem dL_law_467 : decode cL_law 467 = .ok (.iadd, 1) := by decide +kernel
theorem dL_law_468 : decode cL_law 468 = .ok (.iaload, 1) := by decide +kernel
theorem dL_law_469 : decode cL_law 469 = .ok (.aload_n 0, 1) := by decide +kernel
theorem dL_law_470 : decode cL_law 470 = .ok (.iload 4, 2) := by decide +kernel
theorem dL_law_472 : decode cL_law 472 = .ok (.iconst 2, 1) := by decide +kernel
theorem dL_law_473 : decode cL_law 473 = .ok (.iadd, 1) := by decide +kernel
theorem dL_law_474 : decode cL_law 474 = .ok (.iaload, 1) := by decide +kernel
theorem dL_law_475 : decode cL_law 475 = .ok (.aload_n 0, 1) := by decide +kernel
theorem dL_law_476 : decode cL_law 476 = .ok (.iload 4, 2) := by decide +kernel
theorem dL_law_478 : decode cL_law 478 = .ok (.iconst 3, 1) := by decide +kernel
theorem dL_law_479 : decode cL_law 479 = .ok (.iadd, 1) := by decide +kernel
theorem dL_law_480 : decode cL_law 480 = .ok (.iaload, 1) := by decide +kernel
theorem dL_law_481 : decode cL_law 481 = .ok (.aload_n 0, 1) := by decide +kernel
theorem dL_law_482 : decode cL_law 482 = .ok (.iload 4, 2) := by decide +kernel
theorem dL_law_484 : decode cL_law 484 = .ok (.iconst 4, 1) := by decide +kernel
theorem dL_law_485 : decode cL_law 485 = .ok (.iadd, 1) := by decide +kernel
theorem dL_law_486 : decode cL_law 486 = .ok (.iaload, 1) := by decide +kernel
theorem dL_law_487 : decode cL_law 487 = .ok (.invokevirtual 124, 3) := by decide +kernel
theorem dL_law_490 : decode cL_law 490 = .ok (.istore 6, 2) := by decide +kernel
theorem dL_law_492 : decode cL_law 492 = .ok (.aload_n 2, 1) := by decide +kernel
theorem dL_law_493 : decode cL_law 493 = .ok (.invokevirtual 111, 3) := by decide +kernel
theorem dL_law_496 : decode cL_law 496 = .ok (.iload 5, 2) := by decide +kernel
theorem dL_law_498 : decode cL_law 498 = .ok (.if_icmp .eq 5, 3) := by decide +kernel
theorem dL_law_501 : decode cL_law 501 = .ok (.iconst 0, 1) := by decide +kernel
theorem dL_law_502 : decode cL_law 502 = .ok (.ireturn, 1) := by decide +kernel
theorem dL_law_503 : decode cL_law 503 = .ok (.iload 5, 2) := by decide +kernel
theorem dL_law_505 : decode cL_law 505 = .ok (.ifCond .ne 15, 3) := by decide +kernel
theorem dL_law_508 : decode cL_law 508 = .ok (.aload_n 3, 1) := by decide +kernel
theorem dL_law_509 : decode cL_law 509 = .ok (.iconst 0, 1) := by decide +kernel
theorem dL_law_510 : decode cL_law 510 = .ok (.laload, 1) := by decide +kernel
theorem dL_law_511 : decode cL_law 511 = .ok (.iload 6, 2) := by decide +kernel
theorem dL_law_513 : decode cL_law 513 = .ok (.i2l, 1) := by decide +kernel
theorem dL_law_514 : decode cL_law 514 = .ok (.lcmp, 1) := by decide +kernel
theorem dL_law_515 : decode cL_law 515 = .ok (.ifCond .eq 5, 3) := by decide +kernel
theorem dL_law_518 : decode cL_law 518 = .ok (.iconst 0, 1) := by decide +kernel
theorem dL_law_519 : decode cL_law 519 = .ok (.ireturn, 1) := by decide +kernel
theorem dL_law_520 : decode cL_law 520 = .ok (.goto 1339, 3) := by decide +kernel
theorem dL_law_523 : decode cL_law 523 = .ok (.aload_n 1, 1) := by decide +kernel
theorem dL_law_524 : decode cL_law 524 = .ok (.aload_n 0, 1) := by decide +kernel
theorem dL_law_525 : decode cL_law 525 = .ok (.iload 4, 2) := by decide +kernel
theorem dL_law_527 : decode cL_law 527 = .ok (.iconst 1, 1) := by decide +kernel
theorem dL_law_528 : decode cL_law 528 = .ok (.iadd, 1) := by decide +kernel
theorem dL_law_529 : decode cL_law 529 = .ok (.iaload, 1) := by decide +kernel
theorem dL_law_530 : decode cL_law 530 = .ok (.aload_n 0, 1) := by decide +kernel
theorem dL_law_531 : decode cL_law 531 = .ok (.iload 4, 2) := by decide +kernel
theorem dL_law_533 : decode cL_law 533 = .ok (.iconst 2, 1) := by decide +kernel
theorem dL_law_534 : decode cL_law 534 = .ok (.iadd, 1) := by decide +kernel
theorem dL_law_535 : decode cL_law 535 = .ok (.iaload, 1) := by decide +kernel
theorem dL_law_536 : decode cL_law 536 = .ok (.aload_n 0, 1) := by decide +kernel
theorem dL_law_537 : decode cL_law 537 = .ok (.iload 4, 2) := by decide +kernel
theorem dL_law_539 : decode cL_law 539 = .ok (.iconst 3, 1) := by decide +kernel
theorem dL_law_540 : decode cL_law 540 = .ok (.iadd, 1) := by decide +kernel
theorem dL_law_541 : decode cL_law 541 = .ok (.iaload, 1) := by decide +kernel
theorem dL_law_542 : decode cL_law 542 = .ok (.aload_n 0, 1) := by decide +kernel
theorem dL_law_543 : decode cL_law 543 = .ok (.iload 4, 2) := by decide +kernel
theorem dL_law_545 : decode cL_law 545 = .ok (.iconst 4, 1) := by decide +kernel
theorem dL_law_546 : decode cL_law 546 = .ok (.iadd, 1) := by decide +kernel
theorem dL_law_547 : decode cL_law 547 = .ok (.iaload, 1) := by decide +kernel
theorem dL_law_548 : decode cL_law 548 = .ok (.aload_n 0, 1) := by decide +kernel
theorem dL_law_549 : decode cL_law 549 = .ok (.iload 4, 2) := by decide +kernel
theorem dL_law_551 : decode cL_law 551 = .ok (.iconst 5, 1) := by decide +kernel
theorem dL_law_552 : decode cL_law 552 = .ok (.iadd, 1) := by decide +kernel
theorem dL_law_553 : decode cL_law 553 = .ok (.iaload, 1) := by decide +kernel
theorem dL_law_554 : decode cL_law 554 = .ok (.aload_n 3, 1) := by decide +kernel
theorem dL_law_555 : decode cL_law 555 = .ok (.invokestatic 125, 3) := by decide +kernel
theorem dL_law_558 : decode cL_law 558 = .ok (.istore 5, 2) := by decide +kernel
theorem dL_law_560 : decode cL_law 560 = .ok (.aload_n 2, 1) := by decide +kernel
theorem dL_law_561 : decode cL_law 561 = .ok (.aload_n 0, 1) := by decide +kernel
theorem dL_law_562 : decode cL_law 562 = .ok (.iload 4, 2) := by decide +kernel
theorem dL_law_564 : decode cL_law 564 = .ok (.iconst 1, 1) := by decide +kernel
theorem dL_law_565 : decode cL_law 565 = .ok (.iadd, 1) := by decide +kernel
theorem dL_law_566 : decode cL_law 566 = .ok (.iaload, 1) := by decide +kernel
theorem dL_law_567 : decode cL_law 567 = .ok (.aload_n 0, 1) := by decide +kernel
theorem dL_law_568 : decode cL_law 568 = .ok (.iload 4, 2) := by decide +kernel
theorem dL_law_570 : decode cL_law 570 = .ok (.iconst 2, 1) := by decide +kernel
theorem dL_law_571 : decode cL_law 571 = .ok (.iadd, 1) := by decide +kernel
theorem dL_law_572 : decode cL_law 572 = .ok (.iaload, 1) := by decide +kernel
theorem dL_law_573 : decode cL_law 573 = .ok (.aload_n 0, 1) := by decide +kernel
theorem dL_law_574 : decode cL_law 574 = .ok (.iload 4, 2) := by decide +kernel
theorem dL_law_576 : decode cL_law 576 = .ok (.iconst 3, 1) := by decide +kernel
theorem dL_law_577 : decode cL_law 577 = .ok (.iadd, 1) := by decide +kernel
theorem dL_law_578 : decode cL_law 578 = .ok (.iaload, 1) := by decide +kernel
theorem dL_law_579 : decode cL_law 579 = .ok (.aload_n 0, 1) := by decide +kernel
theorem dL_law_580 : decode cL_law 580 = .ok (.iload 4, 2) := by decide +kernel
theorem dL_law_582 : decode cL_law 582 = .ok (.iconst 4, 1) := by decide +kernel
theorem dL_law_583 : decode cL_law 583 = .ok (.iadd, 1) := by decide +kernel
theorem dL_law_584 : decode cL_law 584 = .ok (.iaload, 1) := by decide +kernel
theorem dL_law_585 : decode cL_law 585 = .ok (.aload_n 0, 1) := by decide +kernel
theorem dL_law_586 : decode cL_law 586 = .ok (.iload 4, 2) := by decide +kernel
theorem dL_law_588 : decode cL_law 588 = .ok (.iconst 5, 1) := by decide +kernel
theorem dL_law_589 : decode cL_law 589 = .ok (.iadd, 1) := by decide +kernel
theorem dL_law_590 : decode cL_law 590 = .ok (.iaload, 1) := by decide +kernel
theorem dL_law_591 : decode cL_law 591 = .ok (.invokevirtual 128, 3) := by decide +kernel
theorem dL_law_594 : decode cL_law 594 = .ok (.istore 6, 2) := by decide +kernel
theorem dL_law_596 : decode cL_law 596 = .ok (.aload_n 2, 1) := by decide +kernel
theorem dL_law_597 : decode cL_law 597 = .ok (.invokevirtual 111, 3) := by decide +kernel
theorem dL_law_600 : decode cL_law 600 = .ok (.iload 5, 2) := by decide +kernel
theorem dL_law_602 : decode cL_law 602 = .ok (.if_icmp .eq 5, 3) := by decide +kernel
theorem dL_law_605 : decode cL_law 605 = .ok (.iconst 0, 1) := by decide +kernel
theorem dL_law_606 : decode cL_law 606 = .ok (.ireturn, 1) := by decide +kernel
theorem dL_law_607 : decode cL_law 607 = .ok (.iload 5, 2) := by decide +kernel
theorem dL_law_609 : decode cL_law 609 = .ok (.ifCond .ne 15, 3) := by decide +kernel
theorem dL_law_612 : decode cL_law 612 = .ok (.aload_n 3, 1) := by decide +kernel
theorem dL_law_613 : decode cL_law 613 = .ok (.iconst 0, 1) := by decide +kernel
theorem dL_law_614 : decode cL_law 614 = .ok (.laload, 1) := by decide +kernel
theorem dL_law_615 : decode cL_law 615 = .ok (.iload 6, 2) := by decide +kernel
theorem dL_law_617 : decode cL_law 617 = .ok (.i2l, 1) := by decide +kernel
theorem dL_law_618 : decode cL_law 618 = .ok (.lcmp, 1) := by decide +kernel
theorem dL_law_619 : decode cL_law 619 = .ok (.ifCond .eq 5, 3) := by decide +kernel
theorem dL_law_622 : decode cL_law 622 = .ok (.iconst 0, 1) := by decide +kernel
theorem dL_law_623 : decode cL_law 623 = .ok (.ireturn, 1) := by decide +kernel
theorem dL_law_624 : decode cL_law 624 = .ok (.goto 1235, 3) := by decide +kernel
theorem dL_law_627 : decode cL_law 627 = .ok (.aload_n 1, 1) := by decide +kernel
theorem dL_law_628 : decode cL_law 628 = .ok (.aload_n 0, 1) := by decide +kernel
theorem dL_law_629 : decode cL_law 629 = .ok (.iload 4, 2) := by decide +kernel
theorem dL_law_631 : decode cL_law 631 = .ok (.iconst 1, 1) := by decide +kernel
theorem dL_law_632 : decode cL_law 632 = .ok (.iadd, 1) := by decide +kernel
theorem dL_law_633 : decode cL_law 633 = .ok (.iaload, 1) := by decide +kernel
theorem dL_law_634 : decode cL_law 634 = .ok (.aload_n 0, 1) := by decide +kernel
theorem dL_law_635 : decode cL_law 635 = .ok (.iload 4, 2) := by decide +kernel
theorem dL_law_637 : decode cL_law 637 = .ok (.iconst 2, 1) := by decide +kernel
theorem dL_law_638 : decode cL_law 638 = .ok (.iadd, 1) := by decide +kernel
theorem dL_law_639 : decode cL_law 639 = .ok (.iaload, 1) := by decide +kernel
theorem dL_law_640 : decode cL_law 640 = .ok (.aload_n 3, 1) := by decide +kernel
theorem dL_law_641 : decode cL_law 641 = .ok (.invokestatic 129, 3) := by decide +kernel
theorem dL_law_644 : decode cL_law 644 = .ok (.istore 5, 2) := by decide +kernel
theorem dL_law_646 : decode cL_law 646 = .ok (.aload_n 2, 1) := by decide +kernel
theorem dL_law_647 : decode cL_law 647 = .ok (.aload_n 0, 1) := by decide +kernel
theorem dL_law_648 : decode cL_law 648 = .ok (.iload 4, 2) := by decide +kernel
theorem dL_law_650 : decode cL_law 650 = .ok (.iconst 1, 1) := by decide +kernel
theorem dL_law_651 : decode cL_law 651 = .ok (.iadd, 1) := by decide +kernel
theorem dL_law_652 : decode cL_law 652 = .ok (.iaload, 1) := by decide +kernel
theorem dL_law_653 : decode cL_law 653 = .ok (.aload_n 0, 1) := by decide +kernel
theorem dL_law_654 : decode cL_law 654 = .ok (.iload 4, 2) := by decide +kernel
theorem dL_law_656 : decode cL_law 656 = .ok (.iconst 2, 1) := by decide +kernel
theorem dL_law_657 : decode cL_law 657 = .ok (.iadd, 1) := by decide +kernel
theorem dL_law_658 : decode cL_law 658 = .ok (.iaload, 1) := by decide +kernel
theorem dL_law_659 : decode cL_law 659 = .ok (.invokevirtual 131, 3) := by decide +kernel
theorem dL_law_662 : decode cL_law 662 = .ok (.istore 6, 2) := by decide +kernel
theorem dL_law_664 : decode cL_law 664 = .ok (.aload_n 2, 1) := by decide +kernel
theorem dL_law_665 : decode cL_law 665 = .ok (.invokevirtual 111, 3) := by decide +kernel
theorem dL_law_668 : decode cL_law 668 = .ok (.iload 5, 2) := by decide +kernel
theorem dL_law_670 : decode cL_law 670 = .ok (.if_icmp .eq 5, 3) := by decide +kernel
theorem dL_law_673 : decode cL_law 673 = .ok (.iconst 0, 1) := by decide +kernel
theorem dL_law_674 : decode cL_law 674 = .ok (.ireturn, 1) := by decide +kernel
theorem dL_law_675 : decode cL_law 675 = .ok (.iload 5, 2) := by decide +kernel
theorem dL_law_677 : decode cL_law 677 = .ok (.ifCond .ne 15, 3) := by decide +kernel
theorem dL_law_680 : decode cL_law 680 = .ok (.aload_n 3, 1) := by decide +kernel
theorem dL_law_681 : decode cL_law 681 = .ok (.iconst 0, 1) := by decide +kernel
theorem dL_law_682 : decode cL_law 682 = .ok (.laload, 1) := by decide +kernel
theorem dL_law_683 : decode cL_law 683 = .ok (.iload 6, 2) := by decide +kernel
theorem dL_law_685 : decode cL_law 685 = .ok (.i2l, 1) := by decide +kernel
theorem dL_law_686 : decode cL_law 686 = .ok (.lcmp, 1) := by decide +kernel
theorem dL_law_687 : decode cL_law 687 = .ok (.ifCond .eq 5, 3) := by decide +kernel
theorem dL_law_690 : decode cL_law 690 = .ok (.iconst 0, 1) := by decide +kernel
theorem dL_law_691 : decode cL_law 691 = .ok (.ireturn, 1) := by decide +kernel
theorem dL_law_692 : decode cL_law 692 = .ok (.goto 1167, 3) := by decide +kernel
theorem dL_law_695 : decode cL_law 695 = .ok (.aload_n 1, 1) := by decide +kernel
theorem dL_law_696 : decode cL_law 696 = .ok (.aload_n 0, 1) := by decide +kernel
theorem dL_law_697 : decode cL_law 697 = .ok (.iload 4, 2) := by decide +kernel
theorem dL_law_699 : decode cL_law 699 = .ok (.iconst 1, 1) := by decide +kernel
theorem dL_law_700 : decode cL_law 700 = .ok (.iadd, 1) := by decide +kernel
theorem dL_law_701 : decode cL_law 701 = .ok (.iaload, 1) := by decide +kernel
theorem dL_law_702 : decode cL_law 702 = .ok (.aload_n 3, 1) := by decide +kernel
theorem dL_law_703 : decode cL_law 703 = .ok (.invokestatic 132, 3) := by decide +kernel
theorem dL_law_706 : decode cL_law 706 = .ok (.istore 5, 2) := by decide +kernel
theorem dL_law_708 : decode cL_law 708 = .ok (.aload_n 2, 1) := by decide +kernel
theorem dL_law_709 : decode cL_law 709 = .ok (.aload_n 0, 1) := by decide +kernel
theorem dL_law_710 : decode cL_law 710 = .ok (.iload 4, 2) := by decide +kernel
theorem dL_law_712 : decode cL_law 712 = .ok (.iconst 1, 1) := by decide +kernel
theorem dL_law_713 : decode cL_law 713 = .ok (.iadd, 1) := by decide +kernel
theorem dL_law_714 : decode cL_law 714 = .ok (.iaload, 1) := by decide +kernel
theorem dL_law_715 : decode cL_law 715 = .ok (.invokevirtual 135, 3) := by decide +kernel
theorem dL_law_718 : decode cL_law 718 = .ok (.istore 6, 2) := by decide +kernel
theorem dL_law_720 : decode cL_law 720 = .ok (.aload_n 2, 1) := by decide +kernel
theorem dL_law_721 : decode cL_law 721 = .ok (.invokevirtual 111, 3) := by decide +kernel
theorem dL_law_724 : decode cL_law 724 = .ok (.iload 5, 2) := by decide +kernel
theorem dL_law_726 : decode cL_law 726 = .ok (.if_icmp .eq 5, 3) := by decide +kernel
theorem dL_law_729 : decode cL_law 729 = .ok (.iconst 0, 1) := by decide +kernel
theorem dL_law_730 : decode cL_law 730 = .ok (.ireturn, 1) := by decide +kernel
theorem dL_law_731 : decode cL_law 731 = .ok (.iload 5, 2) := by decide +kernel
theorem dL_law_733 : decode cL_law 733 = .ok (.ifCond .ne 15, 3) := by decide +kernel
theorem dL_law_736 : decode cL_law 736 = .ok (.aload_n 3, 1) := by decide +kernel
theorem dL_law_737 : decode cL_law 737 = .ok (.iconst 0, 1) := by decide +kernel
theorem dL_law_738 : decode cL_law 738 = .ok (.laload, 1) := by decide +kernel
theorem dL_law_739 : decode cL_law 739 = .ok (.iload 6, 2) := by decide +kernel
theorem dL_law_741 : decode cL_law 741 = .ok (.i2l, 1) := by decide +kernel
theorem dL_law_742 : decode cL_law 742 = .ok (.lcmp, 1) := by decide +kernel
theorem dL_law_743 : decode cL_law 743 = .ok (.ifCond .eq 5, 3) := by decide +kernel
theorem dL_law_746 : decode cL_law 746 = .ok (.iconst 0, 1) := by decide +kernel
theorem dL_law_747 : decode cL_law 747 = .ok (.ireturn, 1) := by decide +kernel
theorem dL_law_748 : decode cL_law 748 = .ok (.goto 1111, 3) := by decide +kernel
theorem dL_law_751 : decode cL_law 751 = .ok (.aload_n 1, 1) := by decide +kernel
theorem dL_law_752 : decode cL_law 752 = .ok (.aload_n 0, 1) := by decide +kernel
theorem dL_law_753 : decode cL_law 753 = .ok (.iload 4, 2) := by decide +kernel
theorem dL_law_755 : decode cL_law 755 = .ok (.iconst 1, 1) := by decide +kernel
theorem dL_law_756 : decode cL_law 756 = .ok (.iadd, 1) := by decide +kernel
theorem dL_law_757 : decode cL_law 757 = .ok (.iaload, 1) := by decide +kernel
theorem dL_law_758 : decode cL_law 758 = .ok (.aload_n 0, 1) := by decide +kernel
theorem dL_law_759 : decode cL_law 759 = .ok (.iload 4, 2) := by decide +kernel
theorem dL_law_761 : decode cL_law 761 = .ok (.iconst 2, 1) := by decide +kernel
theorem dL_law_762 : decode cL_law 762 = .ok (.iadd, 1) := by decide +kernel
theorem dL_law_763 : decode cL_law 763 = .ok (.iaload, 1) := by decide +kernel
theorem dL_law_764 : decode cL_law 764 = .ok (.aload_n 3, 1) := by decide +kernel
theorem dL_law_765 : decode cL_law 765 = .ok (.invokestatic 136, 3) := by decide +kernel
theorem dL_law_768 : decode cL_law 768 = .ok (.istore 5, 2) := by decide +kernel
theorem dL_law_770 : decode cL_law 770 = .ok (.aload_n 2, 1) := by decide +kernel
theorem dL_law_771 : decode cL_law 771 = .ok (.aload_n 0, 1) := by decide +kernel
theorem dL_law_772 : decode cL_law 772 = .ok (.iload 4, 2) := by decide +kernel
theorem dL_law_774 : decode cL_law 774 = .ok (.iconst 1, 1) := by decide +kernel
theorem dL_law_775 : decode cL_law 775 = .ok (.iadd, 1) := by decide +kernel
theorem dL_law_776 : decode cL_law 776 = .ok (.iaload, 1) := by decide +kernel
theorem dL_law_777 : decode cL_law 777 = .ok (.aload_n 0, 1) := by decide +kernel
theorem dL_law_778 : decode cL_law 778 = .ok (.iload 4, 2) := by decide +kernel
theorem dL_law_780 : decode cL_law 780 = .ok (.iconst 2, 1) := by decide +kernel
theorem dL_law_781 : decode cL_law 781 = .ok (.iadd, 1) := by decide +kernel
theorem dL_law_782 : decode cL_law 782 = .ok (.iaload, 1) := by decide +kernel
theorem dL_law_783 : decode cL_law 783 = .ok (.invokevirtual 138, 3) := by decide +kernel
theorem dL_law_786 : decode cL_law 786 = .ok (.istore 6, 2) := by decide +kernel
theorem dL_law_788 : decode cL_law 788 = .ok (.aload_n 2, 1) := by decide +kernel
theorem dL_law_789 : decode cL_law 789 = .ok (.invokevirtual 111, 3) := by decide +kernel
theorem dL_law_792 : decode cL_law 792 = .ok (.iload 5, 2) := by decide +kernel
theorem dL_law_794 : decode cL_law 794 = .ok (.if_icmp .eq 5, 3) := by decide +kernel
theorem dL_law_797 : decode cL_law 797 = .ok (.iconst 0, 1) := by decide +kernel
theorem dL_law_798 : decode cL_law 798 = .ok (.ireturn, 1) := by decide +kernel
theorem dL_law_799 : decode cL_law 799 = .ok (.iload 5, 2) := by decide +kernel
theorem dL_law_801 : decode cL_law 801 = .ok (.ifCond .ne 15, 3) := by decide +kernel
theorem dL_law_804 : decode cL_law 804 = .ok (.aload_n 3, 1) := by decide +kernel
theorem dL_law_805 : decode cL_law 805 = .ok (.iconst 0, 1) := by decide +kernel
theorem dL_law_806 : decode cL_law 806 = .ok (.laload, 1) := by decide +kernel
theorem dL_law_807 : decode cL_law 807 = .ok (.iload 6, 2) := by decide +kernel
theorem dL_law_809 : decode cL_law 809 = .ok (.i2l, 1) := by decide +kernel
theorem dL_law_810 : decode cL_law 810 = .ok (.lcmp, 1) := by decide +kernel
theorem dL_law_811 : decode cL_law 811 = .ok (.ifCond .eq 5, 3) := by decide +kernel
theorem dL_law_814 : decode cL_law 814 = .ok (.iconst 0, 1) := by decide +kernel
theorem dL_law_815 : decode cL_law 815 = .ok (.ireturn, 1) := by decide +kernel
theorem dL_law_816 : decode cL_law 816 = .ok (.goto 1043, 3) := by decide +kernel
theorem dL_law_819 : decode cL_law 819 = .ok (.aload_n 1, 1) := by decide +kernel
theorem dL_law_820 : decode cL_law 820 = .ok (.aload_n 0, 1) := by decide +kernel
theorem dL_law_821 : decode cL_law 821 = .ok (.iload 4, 2) := by decide +kernel
theorem dL_law_823 : decode cL_law 823 = .ok (.iconst 1, 1) := by decide +kernel
theorem dL_law_824 : decode cL_law 824 = .ok (.iadd, 1) := by decide +kernel
theorem dL_law_825 : decode cL_law 825 = .ok (.iaload, 1) := by decide +kernel
theorem dL_law_826 : decode cL_law 826 = .ok (.aload_n 3, 1) := by decide +kernel
theorem dL_law_827 : decode cL_law 827 = .ok (.invokestatic 139, 3) := by decide +kernel
theorem dL_law_830 : decode cL_law 830 = .ok (.istore 5, 2) := by decide +kernel
theorem dL_law_832 : decode cL_law 832 = .ok (.aload_n 2, 1) := by decide +kernel
theorem dL_law_833 : decode cL_law 833 = .ok (.aload_n 0, 1) := by decide +kernel
theorem dL_law_834 : decode cL_law 834 = .ok (.iload 4, 2) := by decide +kernel
theorem dL_law_836 : decode cL_law 836 = .ok (.iconst 1, 1) := by decide +kernel
theorem dL_law_837 : decode cL_law 837 = .ok (.iadd, 1) := by decide +kernel
theorem dL_law_838 : decode cL_law 838 = .ok (.iaload, 1) := by decide +kernel
theorem dL_law_839 : decode cL_law 839 = .ok (.invokevirtual 141, 3) := by decide +kernel
theorem dL_law_842 : decode cL_law 842 = .ok (.istore 6, 2) := by decide +kernel
theorem dL_law_844 : decode cL_law 844 = .ok (.aload_n 2, 1) := by decide +kernel
theorem dL_law_845 : decode cL_law 845 = .ok (.invokevirtual 111, 3) := by decide +kernel
theorem dL_law_848 : decode cL_law 848 = .ok (.iload 5, 2) := by decide +kernel
theorem dL_law_850 : decode cL_law 850 = .ok (.if_icmp .eq 5, 3) := by decide +kernel
theorem dL_law_853 : decode cL_law 853 = .ok (.iconst 0, 1) := by decide +kernel
theorem dL_law_854 : decode cL_law 854 = .ok (.ireturn, 1) := by decide +kernel
theorem dL_law_855 : decode cL_law 855 = .ok (.iload 5, 2) := by decide +kernel
theorem dL_law_857 : decode cL_law 857 = .ok (.ifCond .ne 15, 3) := by decide +kernel
theorem dL_law_860 : decode cL_law 860 = .ok (.aload_n 3, 1) := by decide +kernel
theorem dL_law_861 : decode cL_law 861 = .ok (.iconst 0, 1) := by decide +kernel
theorem dL_law_862 : decode cL_law 862 = .ok (.laload, 1) := by decide +kernel
theorem dL_law_863 : decode cL_law 863 = .ok (.iload 6, 2) := by decide +kernel
theorem dL_law_865 : decode cL_law 865 = .ok (.i2l, 1) := by decide +kernel
theorem dL_law_866 : decode cL_law 866 = .ok (.lcmp, 1) := by decide +kernel
theorem dL_law_867 : decode cL_law 867 = .ok (.ifCond .eq 5, 3) := by decide +kernel
theorem dL_law_870 : decode cL_law 870 = .ok (.iconst 0, 1) := by decide +kernel
theorem dL_law_871 : decode cL_law 871 = .ok (.ireturn, 1) := by decide +kernel
theorem dL_law_872 : decode cL_law 872 = .ok (.goto 987, 3) := by decide +kernel
theorem dL_law_875 : decode cL_law 875 = .ok (.aload_n 1, 1) := by decide +kernel
theorem dL_law_876 : decode cL_law 876 = .ok (.aload_n 0, 1) := by decide +kernel
theorem dL_law_877 : decode cL_law 877 = .ok (.iload 4, 2) := by decide +kernel
theorem dL_law_879 : decode cL_law 879 = .ok (.iconst 1, 1) := by decide +kernel
theorem dL_law_880 : decode cL_law 880 = .ok (.iadd, 1) := by decide +kernel
theorem dL_law_881 : decode cL_law 881 = .ok (.iaload, 1) := by decide +kernel
theorem dL_law_882 : decode cL_law 882 = .ok (.aload_n 3, 1) := by decide +kernel
theorem dL_law_883 : decode cL_law 883 = .ok (.invokestatic 142, 3) := by decide +kernel
theorem dL_law_886 : decode cL_law 886 = .ok (.istore 5, 2) := by decide +kernel
theorem dL_law_888 : decode cL_law 888 = .ok (.aload_n 2, 1) := by decide +kernel
theorem dL_law_889 : decode cL_law 889 = .ok (.aload_n 0, 1) := by decide +kernel
theorem dL_law_890 : decode cL_law 890 = .ok (.iload 4, 2) := by decide +kernel
theorem dL_law_892 : decode cL_law 892 = .ok (.iconst 1, 1) := by decide +kernel
theorem dL_law_893 : decode cL_law 893 = .ok (.iadd, 1) := by decide +kernel
theorem dL_law_894 : decode cL_law 894 = .ok (.iaload, 1) := by decide +kernel
theorem dL_law_895 : decode cL_law 895 = .ok (.invokevirtual 144, 3) := by decide +kernel
theorem dL_law_898 : decode cL_law 898 = .ok (.istore 6, 2) := by decide +kernel
theorem dL_law_900 : decode cL_law 900 = .ok (.aload_n 2, 1) := by decide +kernel
theorem dL_law_901 : decode cL_law 901 = .ok (.invokevirtual 111, 3) := by decide +kernel
theorem dL_law_904 : decode cL_law 904 = .ok (.iload 5, 2) := by decide +kernel
theorem dL_law_906 : decode cL_law 906 = .ok (.if_icmp .eq 5, 3) := by decide +kernel
theorem dL_law_909 : decode cL_law 909 = .ok (.iconst 0, 1) := by decide +kernel
theorem dL_law_910 : decode cL_law 910 = .ok (.ireturn, 1) := by decide +kernel
theorem dL_law_911 : decode cL_law 911 = .ok (.iload 5, 2) := by decide +kernel
theorem dL_law_913 : decode cL_law 913 = .ok (.ifCond .ne 15, 3) := by decide +kernel
theorem dL_law_916 : decode cL_law 916 = .ok (.aload_n 3, 1) := by decide +kernel
theorem dL_law_917 : decode cL_law 917 = .ok (.iconst 0, 1) := by decide +kernel
theorem dL_law_918 : decode cL_law 918 = .ok (.laload, 1) := by decide +kernel
theorem dL_law_919 : decode cL_law 919 = .ok (.iload 6, 2) := by decide +kernel
theorem dL_law_921 : decode cL_law 921 = .ok (.i2l, 1) := by decide +kernel
theorem dL_law_922 : decode cL_law 922 = .ok (.lcmp, 1) := by decide +kernel
theorem dL_law_923 : decode cL_law 923 = .ok (.ifCond .eq 5, 3) := by decide +kernel
theorem dL_law_926 : decode cL_law 926 = .ok (.iconst 0, 1) := by decide +kernel
theorem dL_law_927 : decode cL_law 927 = .ok (.ireturn, 1) := by decide +kernel
theorem dL_law_928 : decode cL_law 928 = .ok (.goto 931, 3) := by decide +kernel
theorem dL_law_931 : decode cL_law 931 = .ok (.aload_n 1, 1) := by decide +kernel
theorem dL_law_932 : decode cL_law 932 = .ok (.aload_n 0, 1) := by decide +kernel
theorem dL_law_933 : decode cL_law 933 = .ok (.iload 4, 2) := by decide +kernel
theorem dL_law_935 : decode cL_law 935 = .ok (.iconst 1, 1) := by decide +kernel
theorem dL_law_936 : decode cL_law 936 = .ok (.iadd, 1) := by decide +kernel
theorem dL_law_937 : decode cL_law 937 = .ok (.iaload, 1) := by decide +kernel
theorem dL_law_938 : decode cL_law 938 = .ok (.aload_n 3, 1) := by decide +kernel
theorem dL_law_939 : decode cL_law 939 = .ok (.invokestatic 145, 3) := by decide +kernel
theorem dL_law_942 : decode cL_law 942 = .ok (.istore 5, 2) := by decide +kernel
theorem dL_law_944 : decode cL_law 944 = .ok (.aload_n 2, 1) := by decide +kernel
theorem dL_law_945 : decode cL_law 945 = .ok (.aload_n 0, 1) := by decide +kernel
theorem dL_law_946 : decode cL_law 946 = .ok (.iload 4, 2) := by decide +kernel
theorem dL_law_948 : decode cL_law 948 = .ok (.iconst 1, 1) := by decide +kernel
theorem dL_law_949 : decode cL_law 949 = .ok (.iadd, 1) := by decide +kernel
theorem dL_law_950 : decode cL_law 950 = .ok (.iaload, 1) := by decide +kernel
theorem dL_law_951 : decode cL_law 951 = .ok (.invokevirtual 147, 3) := by decide +kernel
theorem dL_law_954 : decode cL_law 954 = .ok (.istore 6, 2) := by decide +kernel
theorem dL_law_956 : decode cL_law 956 = .ok (.aload_n 2, 1) := by decide +kernel
theorem dL_law_957 : decode cL_law 957 = .ok (.invokevirtual 111, 3) := by decide +kernel
theorem dL_law_960 : decode cL_law 960 = .ok (.iload 5, 2) := by decide +kernel
theorem dL_law_962 : decode cL_law 962 = .ok (.if_icmp .eq 5, 3) := by decide +kernel
theorem dL_law_965 : decode cL_law 965 = .ok (.iconst 0, 1) := by decide +kernel
theorem dL_law_966 : decode cL_law 966 = .ok (.ireturn, 1) := by decide +kernel
theorem dL_law_967 : decode cL_law 967 = .ok (.iload 5, 2) := by decide +kernel
theorem dL_law_969 : decode cL_law 969 = .ok (.ifCond .ne 15, 3) := by decide +kernel
theorem dL_law_972 : decode cL_law 972 = .ok (.aload_n 3, 1) := by decide +kernel
theorem dL_law_973 : decode cL_law 973 = .ok (.iconst 0, 1) := by decide +kernel
theorem dL_law_974 : decode cL_law 974 = .ok (.laload, 1) := by decide +kernel
theorem dL_law_975 : decode cL_law 975 = .ok (.iload 6, 2) := by decide +kernel
theorem dL_law_977 : decode cL_law 977 = .ok (.i2l, 1) := by decide +kernel
theorem dL_law_978 : decode cL_law 978 = .ok (.lcmp, 1) := by decide +kernel
theorem dL_law_979 : decode cL_law 979 = .ok (.ifCond .eq 5, 3) := by decide +kernel
theorem dL_law_982 : decode cL_law 982 = .ok (.iconst 0, 1) := by decide +kernel
theorem dL_law_983 : decode cL_law 983 = .ok (.ireturn, 1) := by decide +kernel
theorem dL_law_984 : decode cL_law 984 = .ok (.goto 875, 3) := by decide +kernel
theorem dL_law_987 : decode cL_law 987 = .ok (.aload_n 1, 1) := by decide +kernel
theorem dL_law_988 : decode cL_law 988 = .ok (.invokevirtual 148, 3) := by decide +kernel
theorem dL_law_991 : decode cL_law 991 = .ok (.aload_n 2, 1) := by decide +kernel
theorem dL_law_992 : decode cL_law 992 = .ok (.invokevirtual 151, 3) := by decide +kernel
theorem dL_law_995 : decode cL_law 995 = .ok (.if_icmp .eq 864, 3) := by decide +kernel
theorem dL_law_998 : decode cL_law 998 = .ok (.iconst 0, 1) := by decide +kernel
theorem dL_law_999 : decode cL_law 999 = .ok (.ireturn, 1) := by decide +kernel
theorem dL_law_1000 : decode cL_law 1000 = .ok (.aload_n 1, 1) := by decide +kernel
theorem dL_law_1001 : decode cL_law 1001 = .ok (.aload_n 0, 1) := by decide +kernel
theorem dL_law_1002 : decode cL_law 1002 = .ok (.iload 4, 2) := by decide +kernel
theorem dL_law_1004 : decode cL_law 1004 = .ok (.iconst 1, 1) := by decide +kernel
theorem dL_law_1005 : decode cL_law 1005 = .ok (.iadd, 1) := by decide +kernel
theorem dL_law_1006 : decode cL_law 1006 = .ok (.iaload, 1) := by decide +kernel
theorem dL_law_1007 : decode cL_law 1007 = .ok (.aload_n 0, 1) := by decide +kernel
theorem dL_law_1008 : decode cL_law 1008 = .ok (.iload 4, 2) := by decide +kernel
theorem dL_law_1010 : decode cL_law 1010 = .ok (.iconst 2, 1) := by decide +kernel
theorem dL_law_1011 : decode cL_law 1011 = .ok (.iadd, 1) := by decide +kernel
theorem dL_law_1012 : decode cL_law 1012 = .ok (.iaload, 1) := by decide +kernel
theorem dL_law_1013 : decode cL_law 1013 = .ok (.aload_n 3, 1) := by decide +kernel
theorem dL_law_1014 : decode cL_law 1014 = .ok (.invokestatic 152, 3) := by decide +kernel
theorem dL_law_1017 : decode cL_law 1017 = .ok (.istore 5, 2) := by decide +kernel
theorem dL_law_1019 : decode cL_law 1019 = .ok (.aload_n 2, 1) := by decide +kernel
theorem dL_law_1020 : decode cL_law 1020 = .ok (.aload_n 0, 1) := by decide +kernel
theorem dL_law_1021 : decode cL_law 1021 = .ok (.iload 4, 2) := by decide +kernel
theorem dL_law_1023 : decode cL_law 1023 = .ok (.iconst 1, 1) := by decide +kernel
theorem dL_law_1024 : decode cL_law 1024 = .ok (.iadd, 1) := by decide +kernel
theorem dL_law_1025 : decode cL_law 1025 = .ok (.iaload, 1) := by decide +kernel
theorem dL_law_1026 : decode cL_law 1026 = .ok (.aload_n 0, 1) := by decide +kernel
theorem dL_law_1027 : decode cL_law 1027 = .ok (.iload 4, 2) := by decide +kernel
theorem dL_law_1029 : decode cL_law 1029 = .ok (.iconst 2, 1) := by decide +kernel
theorem dL_law_1030 : decode cL_law 1030 = .ok (.iadd, 1) := by decide +kernel
theorem dL_law_1031 : decode cL_law 1031 = .ok (.iaload, 1) := by decide +kernel
theorem dL_law_1032 : decode cL_law 1032 = .ok (.invokevirtual 154, 3) := by decide +kernel
theorem dL_law_1035 : decode cL_law 1035 = .ok (.istore 6, 2) := by decide +kernel
theorem dL_law_1037 : decode cL_law 1037 = .ok (.aload_n 2, 1) := by decide +kernel
theorem dL_law_1038 : decode cL_law 1038 = .ok (.invokevirtual 111, 3) := by decide +kernel
theorem dL_law_1041 : decode cL_law 1041 = .ok (.iload 5, 2) := by decide +kernel
theorem dL_law_1043 : decode cL_law 1043 = .ok (.if_icmp .eq 5, 3) := by decide +kernel
theorem dL_law_1046 : decode cL_law 1046 = .ok (.iconst 0, 1) := by decide +kernel
theorem dL_law_1047 : decode cL_law 1047 = .ok (.ireturn, 1) := by decide +kernel
theorem dL_law_1048 : decode cL_law 1048 = .ok (.iload 5, 2) := by decide +kernel
theorem dL_law_1050 : decode cL_law 1050 = .ok (.ifCond .ne 15, 3) := by decide +kernel
theorem dL_law_1053 : decode cL_law 1053 = .ok (.aload_n 3, 1) := by decide +kernel
theorem dL_law_1054 : decode cL_law 1054 = .ok (.iconst 0, 1) := by decide +kernel
theorem dL_law_1055 : decode cL_law 1055 = .ok (.laload, 1) := by decide +kernel
theorem dL_law_1056 : decode cL_law 1056 = .ok (.iload 6, 2) := by decide +kernel
theorem dL_law_1058 : decode cL_law 1058 = .ok (.i2l, 1) := by decide +kernel
theorem dL_law_1059 : decode cL_law 1059 = .ok (.lcmp, 1) := by decide +kernel
theorem dL_law_1060 : decode cL_law 1060 = .ok (.ifCond .eq 5, 3) := by decide +kernel
theorem dL_law_1063 : decode cL_law 1063 = .ok (.iconst 0, 1) := by decide +kernel
theorem dL_law_1064 : decode cL_law 1064 = .ok (.ireturn, 1) := by decide +kernel
theorem dL_law_1065 : decode cL_law 1065 = .ok (.goto 794, 3) := by decide +kernel
theorem dL_law_1068 : decode cL_law 1068 = .ok (.aload_n 1, 1) := by decide +kernel
theorem dL_law_1069 : decode cL_law 1069 = .ok (.invokevirtual 155, 3) := by decide +kernel
theorem dL_law_1072 : decode cL_law 1072 = .ok (.aload_n 2, 1) := by decide +kernel
theorem dL_law_1073 : decode cL_law 1073 = .ok (.invokevirtual 158, 3) := by decide +kernel
theorem dL_law_1076 : decode cL_law 1076 = .ok (.if_icmp .eq 783, 3) := by decide +kernel
theorem dL_law_1079 : decode cL_law 1079 = .ok (.iconst 0, 1) := by decide +kernel
theorem dL_law_1080 : decode cL_law 1080 = .ok (.ireturn, 1) := by decide +kernel
theorem dL_law_1081 : decode cL_law 1081 = .ok (.aload_n 1, 1) := by decide +kernel
theorem dL_law_1082 : decode cL_law 1082 = .ok (.invokevirtual 159, 3) := by decide +kernel
theorem dL_law_1085 : decode cL_law 1085 = .ok (.aload_n 2, 1) := by decide +kernel
theorem dL_law_1086 : decode cL_law 1086 = .ok (.invokevirtual 162, 3) := by decide +kernel
theorem dL_law_1089 : decode cL_law 1089 = .ok (.if_icmp .eq 770, 3) := by decide +kernel
theorem dL_law_1092 : decode cL_law 1092 = .ok (.iconst 0, 1) := by decide +kernel
theorem dL_law_1093 : decode cL_law 1093 = .ok (.ireturn, 1) := by decide +kernel
theorem dL_law_1094 : decode cL_law 1094 = .ok (.aload_n 1, 1) := by decide +kernel
theorem dL_law_1095 : decode cL_law 1095 = .ok (.aload_n 0, 1) := by decide +kernel
theorem dL_law_1096 : decode cL_law 1096 = .ok (.iload 4, 2) := by decide +kernel
theorem dL_law_1098 : decode cL_law 1098 = .ok (.iconst 1, 1) := by decide +kernel
theorem dL_law_1099 : decode cL_law 1099 = .ok (.iadd, 1) := by decide +kernel
theorem dL_law_1100 : decode cL_law 1100 = .ok (.iaload, 1) := by decide +kernel
theorem dL_law_1101 : decode cL_law 1101 = .ok (.aload_n 3, 1) := by decide +kernel
theorem dL_law_1102 : decode cL_law 1102 = .ok (.invokestatic 163, 3) := by decide +kernel
theorem dL_law_1105 : decode cL_law 1105 = .ok (.istore 5, 2) := by decide +kernel
theorem dL_law_1107 : decode cL_law 1107 = .ok (.aload_n 2, 1) := by decide +kernel
theorem dL_law_1108 : decode cL_law 1108 = .ok (.aload_n 0, 1) := by decide +kernel
theorem dL_law_1109 : decode cL_law 1109 = .ok (.iload 4, 2) := by decide +kernel
theorem dL_law_1111 : decode cL_law 1111 = .ok (.iconst 1, 1) := by decide +kernel
theorem dL_law_1112 : decode cL_law 1112 = .ok (.iadd, 1) := by decide +kernel
theorem dL_law_1113 : decode cL_law 1113 = .ok (.iaload, 1) := by decide +kernel
theorem dL_law_1114 : decode cL_law 1114 = .ok (.invokevirtual 165, 3) := by decide +kernel
theorem dL_law_1117 : decode cL_law 1117 = .ok (.istore 6, 2) := by decide +kernel
theorem dL_law_1119 : decode cL_law 1119 = .ok (.aload_n 2, 1) := by decide +kernel
theorem dL_law_1120 : decode cL_law 1120 = .ok (.invokevirtual 111, 3) := by decide +kernel
theorem dL_law_1123 : decode cL_law 1123 = .ok (.iload 5, 2) := by decide +kernel
theorem dL_law_1125 : decode cL_law 1125 = .ok (.if_icmp .eq 5, 3) := by decide +kernel
theorem dL_law_1128 : decode cL_law 1128 = .ok (.iconst 0, 1) := by decide +kernel
theorem dL_law_1129 : decode cL_law 1129 = .ok (.ireturn, 1) := by decide +kernel
theorem dL_law_1130 : decode cL_law 1130 = .ok (.iload 5, 2) := by decide +kernel
theorem dL_law_1132 : decode cL_law 1132 = .ok (.ifCond .ne 15, 3) := by decide +kernel
theorem dL_law_1135 : decode cL_law 1135 = .ok (.aload_n 3, 1) := by decide +kernel
theorem dL_law_1136 : decode cL_law 1136 = .ok (.iconst 0, 1) := by decide +kernel
theorem dL_law_1137 : decode cL_law 1137 = .ok (.laload, 1) := by decide +kernel
theorem dL_law_1138 : decode cL_law 1138 = .ok (.iload 6, 2) := by decide +kernel
theorem dL_law_1140 : decode cL_law 1140 = .ok (.i2l, 1) := by decide +kernel
theorem dL_law_1141 : decode cL_law 1141 = .ok (.lcmp, 1) := by decide +kernel
theorem dL_law_1142 : decode cL_law 1142 = .ok (.ifCond .eq 5, 3) := by decide +kernel
theorem dL_law_1145 : decode cL_law 1145 = .ok (.iconst 0, 1) := by decide +kernel
theorem dL_law_1146 : decode cL_law 1146 = .ok (.ireturn, 1) := by decide +kernel
theorem dL_law_1147 : decode cL_law 1147 = .ok (.goto 712, 3) := by decide +kernel
theorem dL_law_1150 : decode cL_law 1150 = .ok (.aload_n 1, 1) := by decide +kernel
theorem dL_law_1151 : decode cL_law 1151 = .ok (.aload_n 0, 1) := by decide +kernel
theorem dL_law_1152 : decode cL_law 1152 = .ok (.iload 4, 2) := by decide +kernel
theorem dL_law_1154 : decode cL_law 1154 = .ok (.iconst 1, 1) := by decide +kernel
theorem dL_law_1155 : decode cL_law 1155 = .ok (.iadd, 1) := by decide +kernel
theorem dL_law_1156 : decode cL_law 1156 = .ok (.iaload, 1) := by decide +kernel
theorem dL_law_1157 : decode cL_law 1157 = .ok (.aload_n 0, 1) := by decide +kernel
theorem dL_law_1158 : decode cL_law 1158 = .ok (.iload 4, 2) := by decide +kernel
theorem dL_law_1160 : decode cL_law 1160 = .ok (.iconst 2, 1) := by decide +kernel
theorem dL_law_1161 : decode cL_law 1161 = .ok (.iadd, 1) := by decide +kernel
theorem dL_law_1162 : decode cL_law 1162 = .ok (.iaload, 1) := by decide +kernel
theorem dL_law_1163 : decode cL_law 1163 = .ok (.aload_n 3, 1) := by decide +kernel
theorem dL_law_1164 : decode cL_law 1164 = .ok (.invokestatic 166, 3) := by decide +kernel
theorem dL_law_1167 : decode cL_law 1167 = .ok (.istore 5, 2) := by decide +kernel
theorem dL_law_1169 : decode cL_law 1169 = .ok (.aload_n 2, 1) := by decide +kernel
theorem dL_law_1170 : decode cL_law 1170 = .ok (.aload_n 0, 1) := by decide +kernel
theorem dL_law_1171 : decode cL_law 1171 = .ok (.iload 4, 2) := by decide +kernel
theorem dL_law_1173 : decode cL_law 1173 = .ok (.iconst 1, 1) := by decide +kernel
theorem dL_law_1174 : decode cL_law 1174 = .ok (.iadd, 1) := by decide +kernel
theorem dL_law_1175 : decode cL_law 1175 = .ok (.iaload, 1) := by decide +kernel
theorem dL_law_1176 : decode cL_law 1176 = .ok (.aload_n 0, 1) := by decide +kernel
theorem dL_law_1177 : decode cL_law 1177 = .ok (.iload 4, 2) := by decide +kernel
theorem dL_law_1179 : decode cL_law 1179 = .ok (.iconst 2, 1) := by decide +kernel
theorem dL_law_1180 : decode cL_law 1180 = .ok (.iadd, 1) := by decide +kernel
theorem dL_law_1181 : decode cL_law 1181 = .ok (.iaload, 1) := by decide +kernel
theorem dL_law_1182 : decode cL_law 1182 = .ok (.invokevirtual 168, 3) := by decide +kernel
theorem dL_law_1185 : decode cL_law 1185 = .ok (.istore 6, 2) := by decide +kernel
theorem dL_law_1187 : decode cL_law 1187 = .ok (.aload_n 2, 1) := by decide +kernel
theorem dL_law_1188 : decode cL_law 1188 = .ok (.invokevirtual 111, 3) := by decide +kernel
theorem dL_law_1191 : decode cL_law 1191 = .ok (.iload 5, 2) := by decide +kernel
theorem dL_law_1193 : decode cL_law 1193 = .ok (.if_icmp .eq 5, 3) := by decide +kernel
theorem dL_law_1196 : decode cL_law 1196 = .ok (.iconst 0, 1) := by decide +kernel
theorem dL_law_1197 : decode cL_law 1197 = .ok (.ireturn, 1) := by decide +kernel
theorem dL_law_1198 : decode cL_law 1198 = .ok (.iload 5, 2) := by decide +kernel
theorem dL_law_1200 : decode cL_law 1200 = .ok (.ifCond .ne 15, 3) := by decide +kernel
theorem dL_law_1203 : decode cL_law 1203 = .ok (.aload_n 3, 1) := by decide +kernel
theorem dL_law_1204 : decode cL_law 1204 = .ok (.iconst 0, 1) := by decide +kernel
theorem dL_law_1205 : decode cL_law 1205 = .ok (.laload, 1) := by decide +kernel
theorem dL_law_1206 : decode cL_law 1206 = .ok (.iload 6, 2) := by decide +kernel
theorem dL_law_1208 : decode cL_law 1208 = .ok (.i2l, 1) := by decide +kernel
theorem dL_law_1209 : decode cL_law 1209 = .ok (.lcmp, 1) := by decide +kernel
theorem dL_law_1210 : decode cL_law 1210 = .ok (.ifCond .eq 5, 3) := by decide +kernel
theorem dL_law_1213 : decode cL_law 1213 = .ok (.iconst 0, 1) := by decide +kernel
theorem dL_law_1214 : decode cL_law 1214 = .ok (.ireturn, 1) := by decide +kernel
theorem dL_law_1215 : decode cL_law 1215 = .ok (.goto 644, 3) := by decide +kernel
theorem dL_law_1218 : decode cL_law 1218 = .ok (.aload_n 1, 1) := by decide +kernel
theorem dL_law_1219 : decode cL_law 1219 = .ok (.aload_n 0, 1) := by decide +kernel
theorem dL_law_1220 : decode cL_law 1220 = .ok (.iload 4, 2) := by decide +kernel
theorem dL_law_1222 : decode cL_law 1222 = .ok (.iconst 1, 1) := by decide +kernel
theorem dL_law_1223 : decode cL_law 1223 = .ok (.iadd, 1) := by decide +kernel
theorem dL_law_1224 : decode cL_law 1224 = .ok (.iaload, 1) := by decide +kernel
theorem dL_law_1225 : decode cL_law 1225 = .ok (.aload_n 0, 1) := by decide +kernel
theorem dL_law_1226 : decode cL_law 1226 = .ok (.iload 4, 2) := by decide +kernel
theorem dL_law_1228 : decode cL_law 1228 = .ok (.iconst 2, 1) := by decide +kernel
theorem dL_law_1229 : decode cL_law 1229 = .ok (.iadd, 1) := by decide +kernel
theorem dL_law_1230 : decode cL_law 1230 = .ok (.iaload, 1) := by decide +kernel
theorem dL_law_1231 : decode cL_law 1231 = .ok (.aload_n 3, 1) := by decide +kernel
theorem dL_law_1232 : decode cL_law 1232 = .ok (.invokestatic 169, 3) := by decide +kernel
theorem dL_law_1235 : decode cL_law 1235 = .ok (.istore 5, 2) := by decide +kernel
theorem dL_law_1237 : decode cL_law 1237 = .ok (.aload_n 2, 1) := by decide +kernel
theorem dL_law_1238 : decode cL_law 1238 = .ok (.aload_n 0, 1) := by decide +kernel
theorem dL_law_1239 : decode cL_law 1239 = .ok (.iload 4, 2) := by decide +kernel
theorem dL_law_1241 : decode cL_law 1241 = .ok (.iconst 1, 1) := by decide +kernel
theorem dL_law_1242 : decode cL_law 1242 = .ok (.iadd, 1) := by decide +kernel
theorem dL_law_1243 : decode cL_law 1243 = .ok (.iaload, 1) := by decide +kernel
theorem dL_law_1244 : decode cL_law 1244 = .ok (.aload_n 0, 1) := by decide +kernel
theorem dL_law_1245 : decode cL_law 1245 = .ok (.iload 4, 2) := by decide +kernel
theorem dL_law_1247 : decode cL_law 1247 = .ok (.iconst 2, 1) := by decide +kernel
theorem dL_law_1248 : decode cL_law 1248 = .ok (.iadd, 1) := by decide +kernel
theorem dL_law_1249 : decode cL_law 1249 = .ok (.iaload, 1) := by decide +kernel
theorem dL_law_1250 : decode cL_law 1250 = .ok (.invokevirtual 171, 3) := by decide +kernel
theorem dL_law_1253 : decode cL_law 1253 = .ok (.istore 6, 2) := by decide +kernel
theorem dL_law_1255 : decode cL_law 1255 = .ok (.aload_n 2, 1) := by decide +kernel
theorem dL_law_1256 : decode cL_law 1256 = .ok (.invokevirtual 111, 3) := by decide +kernel
theorem dL_law_1259 : decode cL_law 1259 = .ok (.iload 5, 2) := by decide +kernel
theorem dL_law_1261 : decode cL_law 1261 = .ok (.if_icmp .eq 5, 3) := by decide +kernel
theorem dL_law_1264 : decode cL_law 1264 = .ok (.iconst 0, 1) := by decide +kernel
theorem dL_law_1265 : decode cL_law 1265 = .ok (.ireturn, 1) := by decide +kernel
theorem dL_law_1266 : decode cL_law 1266 = .ok (.iload 5, 2) := by decide +kernel
theorem dL_law_1268 : decode cL_law 1268 = .ok (.ifCond .ne 15, 3) := by decide +kernel
theorem dL_law_1271 : decode cL_law 1271 = .ok (.aload_n 3, 1) := by decide +kernel
theorem dL_law_1272 : decode cL_law 1272 = .ok (.iconst 0, 1) := by decide +kernel
theorem dL_law_1273 : decode cL_law 1273 = .ok (.laload, 1) := by decide +kernel
theorem dL_law_1274 : decode cL_law 1274 = .ok (.iload 6, 2) := by decide +kernel
theorem dL_law_1276 : decode cL_law 1276 = .ok (.i2l, 1) := by decide +kernel
theorem dL_law_1277 : decode cL_law 1277 = .ok (.lcmp, 1) := by decide +kernel
theorem dL_law_1278 : decode cL_law 1278 = .ok (.ifCond .eq 5, 3) := by decide +kernel
theorem dL_law_1281 : decode cL_law 1281 = .ok (.iconst 0, 1) := by decide +kernel
theorem dL_law_1282 : decode cL_law 1282 = .ok (.ireturn, 1) := by decide +kernel
theorem dL_law_1283 : decode cL_law 1283 = .ok (.goto 576, 3) := by decide +kernel
theorem dL_law_1286 : decode cL_law 1286 = .ok (.aload_n 1, 1) := by decide +kernel
theorem dL_law_1287 : decode cL_law 1287 = .ok (.aload_n 0, 1) := by decide +kernel
theorem dL_law_1288 : decode cL_law 1288 = .ok (.iload 4, 2) := by decide +kernel
theorem dL_law_1290 : decode cL_law 1290 = .ok (.iconst 1, 1) := by decide +kernel
theorem dL_law_1291 : decode cL_law 1291 = .ok (.iadd, 1) := by decide +kernel
theorem dL_law_1292 : decode cL_law 1292 = .ok (.iaload, 1) := by decide +kernel
theorem dL_law_1293 : decode cL_law 1293 = .ok (.aload_n 3, 1) := by decide +kernel
theorem dL_law_1294 : decode cL_law 1294 = .ok (.invokestatic 172, 3) := by decide +kernel
theorem dL_law_1297 : decode cL_law 1297 = .ok (.istore 5, 2) := by decide +kernel
theorem dL_law_1299 : decode cL_law 1299 = .ok (.aload_n 2, 1) := by decide +kernel
theorem dL_law_1300 : decode cL_law 1300 = .ok (.aload_n 0, 1) := by decide +kernel
theorem dL_law_1301 : decode cL_law 1301 = .ok (.iload 4, 2) := by decide +kernel
theorem dL_law_1303 : decode cL_law 1303 = .ok (.iconst 1, 1) := by decide +kernel
theorem dL_law_1304 : decode cL_law 1304 = .ok (.iadd, 1) := by decide +kernel
theorem dL_law_1305 : decode cL_law 1305 = .ok (.iaload, 1) := by decide +kernel
theorem dL_law_1306 : decode cL_law 1306 = .ok (.invokevirtual 174, 3) := by decide +kernel
theorem dL_law_1309 : decode cL_law 1309 = .ok (.istore 6, 2) := by decide +kernel
theorem dL_law_1311 : decode cL_law 1311 = .ok (.aload_n 2, 1) := by decide +kernel
theorem dL_law_1312 : decode cL_law 1312 = .ok (.invokevirtual 111, 3) := by decide +kernel
theorem dL_law_1315 : decode cL_law 1315 = .ok (.iload 5, 2) := by decide +kernel
theorem dL_law_1317 : decode cL_law 1317 = .ok (.if_icmp .eq 5, 3) := by decide +kernel
theorem dL_law_1320 : decode cL_law 1320 = .ok (.iconst 0, 1) := by decide +kernel
theorem dL_law_1321 : decode cL_law 1321 = .ok (.ireturn, 1) := by decide +kernel
theorem dL_law_1322 : decode cL_law 1322 = .ok (.iload 5, 2) := by decide +kernel
theorem dL_law_1324 : decode cL_law 1324 = .ok (.ifCond .ne 15, 3) := by decide +kernel
theorem dL_law_1327 : decode cL_law 1327 = .ok (.aload_n 3, 1) := by decide +kernel
theorem dL_law_1328 : decode cL_law 1328 = .ok (.iconst 0, 1) := by decide +kernel
theorem dL_law_1329 : decode cL_law 1329 = .ok (.laload, 1) := by decide +kernel
theorem dL_law_1330 : decode cL_law 1330 = .ok (.iload 6, 2) := by decide +kernel
theorem dL_law_1332 : decode cL_law 1332 = .ok (.i2l, 1) := by decide +kernel
theorem dL_law_1333 : decode cL_law 1333 = .ok (.lcmp, 1) := by decide +kernel
theorem dL_law_1334 : decode cL_law 1334 = .ok (.ifCond .eq 5, 3) := by decide +kernel
theorem dL_law_1337 : decode cL_law 1337 = .ok (.iconst 0, 1) := by decide +kernel
theorem dL_law_1338 : decode cL_law 1338 = .ok (.ireturn, 1) := by decide +kernel
theorem dL_law_1339 : decode cL_law 1339 = .ok (.goto 520, 3) := by decide +kernel
theorem dL_law_1342 : decode cL_law 1342 = .ok (.aload_n 1, 1) := by decide +kernel
theorem dL_law_1343 : decode cL_law 1343 = .ok (.aload_n 0, 1) := by decide +kernel
theorem dL_law_1344 : decode cL_law 1344 = .ok (.iload 4, 2) := by decide +kernel
theorem dL_law_1346 : decode cL_law 1346 = .ok (.iconst 1, 1) := by decide +kernel
theorem dL_law_1347 : decode cL_law 1347 = .ok (.iadd, 1) := by decide +kernel
theorem dL_law_1348 : decode cL_law 1348 = .ok (.iaload, 1) := by decide +kernel
theorem dL_law_1349 : decode cL_law 1349 = .ok (.aload_n 0, 1) := by decide +kernel
theorem dL_law_1350 : decode cL_law 1350 = .ok (.iload 4, 2) := by decide +kernel
theorem dL_law_1352 : decode cL_law 1352 = .ok (.iconst 2, 1) := by decide +kernel
theorem dL_law_1353 : decode cL_law 1353 = .ok (.iadd, 1) := by decide +kernel
theorem dL_law_1354 : decode cL_law 1354 = .ok (.iaload, 1) := by decide +kernel
theorem dL_law_1355 : decode cL_law 1355 = .ok (.aload_n 0, 1) := by decide +kernel
theorem dL_law_1356 : decode cL_law 1356 = .ok (.iload 4, 2) := by decide +kernel
theorem dL_law_1358 : decode cL_law 1358 = .ok (.iconst 3, 1) := by decide +kernel
theorem dL_law_1359 : decode cL_law 1359 = .ok (.iadd, 1) := by decide +kernel
theorem dL_law_1360 : decode cL_law 1360 = .ok (.iaload, 1) := by decide +kernel
theorem dL_law_1361 : decode cL_law 1361 = .ok (.aload_n 3, 1) := by decide +kernel
theorem dL_law_1362 : decode cL_law 1362 = .ok (.invokestatic 175, 3) := by decide +kernel
theorem dL_law_1365 : decode cL_law 1365 = .ok (.istore 5, 2) := by decide +kernel
theorem dL_law_1367 : decode cL_law 1367 = .ok (.aload_n 2, 1) := by decide +kernel
theorem dL_law_1368 : decode cL_law 1368 = .ok (.aload_n 0, 1) := by decide +kernel
theorem dL_law_1369 : decode cL_law 1369 = .ok (.iload 4, 2) := by decide +kernel
theorem dL_law_1371 : decode cL_law 1371 = .ok (.iconst 1, 1) := by decide +kernel
theorem dL_law_1372 : decode cL_law 1372 = .ok (.iadd, 1) := by decide +kernel
theorem dL_law_1373 : decode cL_law 1373 = .ok (.iaload, 1) := by decide +kernel
theorem dL_law_1374 : decode cL_law 1374 = .ok (.aload_n 0, 1) := by decide +kernel
theorem dL_law_1375 : decode cL_law 1375 = .ok (.iload 4, 2) := by decide +kernel
theorem dL_law_1377 : decode cL_law 1377 = .ok (.iconst 2, 1) := by decide +kernel
theorem dL_law_1378 : decode cL_law 1378 = .ok (.iadd, 1) := by decide +kernel
theorem dL_law_1379 : decode cL_law 1379 = .ok (.iaload, 1) := by decide +kernel
theorem dL_law_1380 : decode cL_law 1380 = .ok (.aload_n 0, 1) := by decide +kernel
theorem dL_law_1381 : decode cL_law 1381 = .ok (.iload 4, 2) := by decide +kernel
theorem dL_law_1383 : decode cL_law 1383 = .ok (.iconst 3, 1) := by decide +kernel
theorem dL_law_1384 : decode cL_law 1384 = .ok (.iadd, 1) := by decide +kernel
theorem dL_law_1385 : decode cL_law 1385 = .ok (.iaload, 1) := by decide +kernel
theorem dL_law_1386 : decode cL_law 1386 = .ok (.invokevirtual 177, 3) := by decide +kernel
theorem dL_law_1389 : decode cL_law 1389 = .ok (.istore 6, 2) := by decide +kernel
theorem dL_law_1391 : decode cL_law 1391 = .ok (.aload_n 2, 1) := by decide +kernel
theorem dL_law_1392 : decode cL_law 1392 = .ok (.invokevirtual 111, 3) := by decide +kernel
theorem dL_law_1395 : decode cL_law 1395 = .ok (.iload 5, 2) := by decide +kernel
theorem dL_law_1397 : decode cL_law 1397 = .ok (.if_icmp .eq 5, 3) := by decide +kernel
theorem dL_law_1400 : decode cL_law 1400 = .ok (.iconst 0, 1) := by decide +kernel
theorem dL_law_1401 : decode cL_law 1401 = .ok (.ireturn, 1) := by decide +kernel
theorem dL_law_1402 : decode cL_law 1402 = .ok (.iload 5, 2) := by decide +kernel
theorem dL_law_1404 : decode cL_law 1404 = .ok (.ifCond .ne 15, 3) := by decide +kernel
theorem dL_law_1407 : decode cL_law 1407 = .ok (.aload_n 3, 1) := by decide +kernel
theorem dL_law_1408 : decode cL_law 1408 = .ok (.iconst 0, 1) := by decide +kernel
theorem dL_law_1409 : decode cL_law 1409 = .ok (.laload, 1) := by decide +kernel
theorem dL_law_1410 : decode cL_law 1410 = .ok (.iload 6, 2) := by decide +kernel
theorem dL_law_1412 : decode cL_law 1412 = .ok (.i2l, 1) := by decide +kernel
theorem dL_law_1413 : decode cL_law 1413 = .ok (.lcmp, 1) := by decide +kernel
theorem dL_law_1414 : decode cL_law 1414 = .ok (.ifCond .eq 5, 3) := by decide +kernel
theorem dL_law_1417 : decode cL_law 1417 = .ok (.iconst 0, 1) := by decide +kernel
theorem dL_law_1418 : decode cL_law 1418 = .ok (.ireturn, 1) := by decide +kernel
theorem dL_law_1419 : decode cL_law 1419 = .ok (.goto 440, 3) := by decide +kernel
theorem dL_law_1422 : decode cL_law 1422 = .ok (.aload_n 1, 1) := by decide +kernel
theorem dL_law_1423 : decode cL_law 1423 = .ok (.aload_n 0, 1) := by decide +kernel
theorem dL_law_1424 : decode cL_law 1424 = .ok (.iload 4, 2) := by decide +kernel
theorem dL_law_1426 : decode cL_law 1426 = .ok (.iconst 1, 1) := by decide +kernel
theorem dL_law_1427 : decode cL_law 1427 = .ok (.iadd, 1) := by decide +kernel
theorem dL_law_1428 : decode cL_law 1428 = .ok (.iaload, 1) := by decide +kernel
theorem dL_law_1429 : decode cL_law 1429 = .ok (.aload_n 0, 1) := by decide +kernel
theorem dL_law_1430 : decode cL_law 1430 = .ok (.iload 4, 2) := by decide +kernel
theorem dL_law_1432 : decode cL_law 1432 = .ok (.iconst 2, 1) := by decide +kernel
theorem dL_law_1433 : decode cL_law 1433 = .ok (.iadd, 1) := by decide +kernel
theorem dL_law_1434 : decode cL_law 1434 = .ok (.iaload, 1) := by decide +kernel
theorem dL_law_1435 : decode cL_law 1435 = .ok (.aload_n 3, 1) := by decide +kernel
theorem dL_law_1436 : decode cL_law 1436 = .ok (.invokestatic 178, 3) := by decide +kernel
theorem dL_law_1439 : decode cL_law 1439 = .ok (.istore 5, 2) := by decide +kernel
theorem dL_law_1441 : decode cL_law 1441 = .ok (.aload_n 2, 1) := by decide +kernel
theorem dL_law_1442 : decode cL_law 1442 = .ok (.aload_n 0, 1) := by decide +kernel
theorem dL_law_1443 : decode cL_law 1443 = .ok (.iload 4, 2) := by decide +kernel
theorem dL_law_1445 : decode cL_law 1445 = .ok (.iconst 1, 1) := by decide +kernel
theorem dL_law_1446 : decode cL_law 1446 = .ok (.iadd, 1) := by decide +kernel
theorem dL_law_1447 : decode cL_law 1447 = .ok (.iaload, 1) := by decide +kernel
theorem dL_law_1448 : decode cL_law 1448 = .ok (.aload_n 0, 1) := by decide +kernel
theorem dL_law_1449 : decode cL_law 1449 = .ok (.iload 4, 2) := by decide +kernel
theorem dL_law_1451 : decode cL_law 1451 = .ok (.iconst 2, 1) := by decide +kernel
theorem dL_law_1452 : decode cL_law 1452 = .ok (.iadd, 1) := by decide +kernel
theorem dL_law_1453 : decode cL_law 1453 = .ok (.iaload, 1) := by decide +kernel
theorem dL_law_1454 : decode cL_law 1454 = .ok (.invokevirtual 180, 3) := by decide +kernel
theorem dL_law_1457 : decode cL_law 1457 = .ok (.istore 6, 2) := by decide +kernel
theorem dL_law_1459 : decode cL_law 1459 = .ok (.aload_n 2, 1) := by decide +kernel
theorem dL_law_1460 : decode cL_law 1460 = .ok (.invokevirtual 111, 3) := by decide +kernel
theorem dL_law_1463 : decode cL_law 1463 = .ok (.iload 5, 2) := by decide +kernel
theorem dL_law_1465 : decode cL_law 1465 = .ok (.if_icmp .eq 5, 3) := by decide +kernel
theorem dL_law_1468 : decode cL_law 1468 = .ok (.iconst 0, 1) := by decide +kernel
theorem dL_law_1469 : decode cL_law 1469 = .ok (.ireturn, 1) := by decide +kernel
theorem dL_law_1470 : decode cL_law 1470 = .ok (.iload 5, 2) := by decide +kernel
theorem dL_law_1472 : decode cL_law 1472 = .ok (.ifCond .ne 15, 3) := by decide +kernel
theorem dL_law_1475 : decode cL_law 1475 = .ok (.aload_n 3, 1) := by decide +kernel
theorem dL_law_1476 : decode cL_law 1476 = .ok (.iconst 0, 1) := by decide +kernel
theorem dL_law_1477 : decode cL_law 1477 = .ok (.laload, 1) := by decide +kernel
theorem dL_law_1478 : decode cL_law 1478 = .ok (.iload 6, 2) := by decide +kernel
theorem dL_law_1480 : decode cL_law 1480 = .ok (.i2l, 1) := by decide +kernel
theorem dL_law_1481 : decode cL_law 1481 = .ok (.lcmp, 1) := by decide +kernel
theorem dL_law_1482 : decode cL_law 1482 = .ok (.ifCond .eq 5, 3) := by decide +kernel
theorem dL_law_1485 : decode cL_law 1485 = .ok (.iconst 0, 1) := by decide +kernel
theorem dL_law_1486 : decode cL_law 1486 = .ok (.ireturn, 1) := by decide +kernel
theorem dL_law_1487 : decode cL_law 1487 = .ok (.goto 372, 3) := by decide +kernel
theorem dL_law_1490 : decode cL_law 1490 = .ok (.aload_n 1, 1) := by decide +kernel
theorem dL_law_1491 : decode cL_law 1491 = .ok (.aload_n 0, 1) := by decide +kernel
theorem dL_law_1492 : decode cL_law 1492 = .ok (.iload 4, 2) := by decide +kernel
theorem dL_law_1494 : decode cL_law 1494 = .ok (.iconst 1, 1) := by decide +kernel
theorem dL_law_1495 : decode cL_law 1495 = .ok (.iadd, 1) := by decide +kernel
theorem dL_law_1496 : decode cL_law 1496 = .ok (.iaload, 1) := by decide +kernel
theorem dL_law_1497 : decode cL_law 1497 = .ok (.aload_n 0, 1) := by decide +kernel
theorem dL_law_1498 : decode cL_law 1498 = .ok (.iload 4, 2) := by decide +kernel
theorem dL_law_1500 : decode cL_law 1500 = .ok (.iconst 2, 1) := by decide +kernel
theorem dL_law_1501 : decode cL_law 1501 = .ok (.iadd, 1) := by decide +kernel
theorem dL_law_1502 : decode cL_law 1502 = .ok (.iaload, 1) := by decide +kernel
theorem dL_law_1503 : decode cL_law 1503 = .ok (.aload_n 3, 1) := by decide +kernel
theorem dL_law_1504 : decode cL_law 1504 = .ok (.invokestatic 181, 3) := by decide +kernel
theorem dL_law_1507 : decode cL_law 1507 = .ok (.istore 5, 2) := by decide +kernel
theorem dL_law_1509 : decode cL_law 1509 = .ok (.aload_n 2, 1) := by decide +kernel
theorem dL_law_1510 : decode cL_law 1510 = .ok (.aload_n 0, 1) := by decide +kernel
theorem dL_law_1511 : decode cL_law 1511 = .ok (.iload 4, 2) := by decide +kernel
theorem dL_law_1513 : decode cL_law 1513 = .ok (.iconst 1, 1) := by decide +kernel
theorem dL_law_1514 : decode cL_law 1514 = .ok (.iadd, 1) := by decide +kernel
theorem dL_law_1515 : decode cL_law 1515 = .ok (.iaload, 1) := by decide +kernel
theorem dL_law_1516 : decode cL_law 1516 = .ok (.aload_n 0, 1) := by decide +kernel
theorem dL_law_1517 : decode cL_law 1517 = .ok (.iload 4, 2) := by decide +kernel
theorem dL_law_1519 : decode cL_law 1519 = .ok (.iconst 2, 1) := by decide +kernel
theorem dL_law_1520 : decode cL_law 1520 = .ok (.iadd, 1) := by decide +kernel
theorem dL_law_1521 : decode cL_law 1521 = .ok (.iaload, 1) := by decide +kernel
theorem dL_law_1522 : decode cL_law 1522 = .ok (.invokevirtual 183, 3) := by decide +kernel
theorem dL_law_1525 : decode cL_law 1525 = .ok (.istore 6, 2) := by decide +kernel
theorem dL_law_1527 : decode cL_law 1527 = .ok (.aload_n 2, 1) := by decide +kernel
theorem dL_law_1528 : decode cL_law 1528 = .ok (.invokevirtual 111, 3) := by decide +kernel
theorem dL_law_1531 : decode cL_law 1531 = .ok (.iload 5, 2) := by decide +kernel
theorem dL_law_1533 : decode cL_law 1533 = .ok (.if_icmp .eq 5, 3) := by decide +kernel
theorem dL_law_1536 : decode cL_law 1536 = .ok (.iconst 0, 1) := by decide +kernel
theorem dL_law_1537 : decode cL_law 1537 = .ok (.ireturn, 1) := by decide +kernel
theorem dL_law_1538 : decode cL_law 1538 = .ok (.iload 5, 2) := by decide +kernel
theorem dL_law_1540 : decode cL_law 1540 = .ok (.ifCond .ne 15, 3) := by decide +kernel
theorem dL_law_1543 : decode cL_law 1543 = .ok (.aload_n 3, 1) := by decide +kernel
theorem dL_law_1544 : decode cL_law 1544 = .ok (.iconst 0, 1) := by decide +kernel
theorem dL_law_1545 : decode cL_law 1545 = .ok (.laload, 1) := by decide +kernel
theorem dL_law_1546 : decode cL_law 1546 = .ok (.iload 6, 2) := by decide +kernel
theorem dL_law_1548 : decode cL_law 1548 = .ok (.i2l, 1) := by decide +kernel
theorem dL_law_1549 : decode cL_law 1549 = .ok (.lcmp, 1) := by decide +kernel
theorem dL_law_1550 : decode cL_law 1550 = .ok (.ifCond .eq 5, 3) := by decide +kernel
theorem dL_law_1553 : decode cL_law 1553 = .ok (.iconst 0, 1) := by decide +kernel
theorem dL_law_1554 : decode cL_law 1554 = .ok (.ireturn, 1) := by decide +kernel
theorem dL_law_1555 : decode cL_law 1555 = .ok (.goto 304, 3) := by decide +kernel
theorem dL_law_1558 : decode cL_law 1558 = .ok (.aload_n 1, 1) := by decide +kernel
theorem dL_law_1559 : decode cL_law 1559 = .ok (.invokevirtual 184, 3) := by decide +kernel
theorem dL_law_1562 : decode cL_law 1562 = .ok (.aload_n 2, 1) := by decide +kernel
theorem dL_law_1563 : decode cL_law 1563 = .ok (.invokevirtual 187, 3) := by decide +kernel
theorem dL_law_1566 : decode cL_law 1566 = .ok (.if_icmp .eq 293, 3) := by decide +kernel
theorem dL_law_1569 : decode cL_law 1569 = .ok (.iconst 0, 1) := by decide +kernel
theorem dL_law_1570 : decode cL_law 1570 = .ok (.ireturn, 1) := by decide +kernel
theorem dL_law_1571 : decode cL_law 1571 = .ok (.aload_n 1, 1) := by decide +kernel
theorem dL_law_1572 : decode cL_law 1572 = .ok (.aload_n 0, 1) := by decide +kernel
theorem dL_law_1573 : decode cL_law 1573 = .ok (.iload 4, 2) := by decide +kernel
theorem dL_law_1575 : decode cL_law 1575 = .ok (.iconst 1, 1) := by decide +kernel
theorem dL_law_1576 : decode cL_law 1576 = .ok (.iadd, 1) := by decide +kernel
theorem dL_law_1577 : decode cL_law 1577 = .ok (.iaload, 1) := by decide +kernel
theorem dL_law_1578 : decode cL_law 1578 = .ok (.aload_n 0, 1) := by decide +kernel
theorem dL_law_1579 : decode cL_law 1579 = .ok (.iload 4, 2) := by decide +kernel
theorem dL_law_1581 : decode cL_law 1581 = .ok (.iconst 2, 1) := by decide +kernel
theorem dL_law_1582 : decode cL_law 1582 = .ok (.iadd, 1) := by decide +kernel
theorem dL_law_1583 : decode cL_law 1583 = .ok (.iaload, 1) := by decide +kernel
theorem dL_law_1584 : decode cL_law 1584 = .ok (.aload_n 3, 1) := by decide +kernel
theorem dL_law_1585 : decode cL_law 1585 = .ok (.invokestatic 188, 3) := by decide +kernel
theorem dL_law_1588 : decode cL_law 1588 = .ok (.istore 5, 2) := by decide +kernel
theorem dL_law_1590 : decode cL_law 1590 = .ok (.aload_n 2, 1) := by decide +kernel
theorem dL_law_1591 : decode cL_law 1591 = .ok (.aload_n 0, 1) := by decide +kernel
theorem dL_law_1592 : decode cL_law 1592 = .ok (.iload 4, 2) := by decide +kernel
theorem dL_law_1594 : decode cL_law 1594 = .ok (.iconst 1, 1) := by decide +kernel
theorem dL_law_1595 : decode cL_law 1595 = .ok (.iadd, 1) := by decide +kernel
theorem dL_law_1596 : decode cL_law 1596 = .ok (.iaload, 1) := by decide +kernel
theorem dL_law_1597 : decode cL_law 1597 = .ok (.aload_n 0, 1) := by decide +kernel
theorem dL_law_1598 : decode cL_law 1598 = .ok (.iload 4, 2) := by decide +kernel
theorem dL_law_1600 : decode cL_law 1600 = .ok (.iconst 2, 1) := by decide +kernel
theorem dL_law_1601 : decode cL_law 1601 = .ok (.iadd, 1) := by decide +kernel
theorem dL_law_1602 : decode cL_law 1602 = .ok (.iaload, 1) := by decide +kernel
theorem dL_law_1603 : decode cL_law 1603 = .ok (.invokevirtual 190, 3) := by decide +kernel
theorem dL_law_1606 : decode cL_law 1606 = .ok (.istore 6, 2) := by decide +kernel
theorem dL_law_1608 : decode cL_law 1608 = .ok (.aload_n 2, 1) := by decide +kernel
theorem dL_law_1609 : decode cL_law 1609 = .ok (.invokevirtual 111, 3) := by decide +kernel
theorem dL_law_1612 : decode cL_law 1612 = .ok (.iload 5, 2) := by decide +kernel
theorem dL_law_1614 : decode cL_law 1614 = .ok (.if_icmp .eq 5, 3) := by decide +kernel
theorem dL_law_1617 : decode cL_law 1617 = .ok (.iconst 0, 1) := by decide +kernel
theorem dL_law_1618 : decode cL_law 1618 = .ok (.ireturn, 1) := by decide +kernel
theorem dL_law_1619 : decode cL_law 1619 = .ok (.iload 5, 2) := by decide +kernel
theorem dL_law_1621 : decode cL_law 1621 = .ok (.ifCond .ne 15, 3) := by decide +kernel
theorem dL_law_1624 : decode cL_law 1624 = .ok (.aload_n 3, 1) := by decide +kernel
theorem dL_law_1625 : decode cL_law 1625 = .ok (.iconst 0, 1) := by decide +kernel
theorem dL_law_1626 : decode cL_law 1626 = .ok (.laload, 1) := by decide +kernel
theorem dL_law_1627 : decode cL_law 1627 = .ok (.iload 6, 2) := by decide +kernel
theorem dL_law_1629 : decode cL_law 1629 = .ok (.i2l, 1) := by decide +kernel
theorem dL_law_1630 : decode cL_law 1630 = .ok (.lcmp, 1) := by decide +kernel
theorem dL_law_1631 : decode cL_law 1631 = .ok (.ifCond .eq 5, 3) := by decide +kernel
theorem dL_law_1634 : decode cL_law 1634 = .ok (.iconst 0, 1) := by decide +kernel
theorem dL_law_1635 : decode cL_law 1635 = .ok (.ireturn, 1) := by decide +kernel
theorem dL_law_1636 : decode cL_law 1636 = .ok (.goto 223, 3) := by decide +kernel
theorem dL_law_1639 : decode cL_law 1639 = .ok (.aload_n 1, 1) := by decide +kernel
theorem dL_law_1640 : decode cL_law 1640 = .ok (.aload_n 0, 1) := by decide +kernel
theorem dL_law_1641 : decode cL_law 1641 = .ok (.iload 4, 2) := by decide +kernel
theorem dL_law_1643 : decode cL_law 1643 = .ok (.iconst 1, 1) := by decide +kernel
theorem dL_law_1644 : decode cL_law 1644 = .ok (.iadd, 1) := by decide +kernel
theorem dL_law_1645 : decode cL_law 1645 = .ok (.iaload, 1) := by decide +kernel
theorem dL_law_1646 : decode cL_law 1646 = .ok (.aload_n 0, 1) := by decide +kernel
theorem dL_law_1647 : decode cL_law 1647 = .ok (.iload 4, 2) := by decide +kernel
theorem dL_law_1649 : decode cL_law 1649 = .ok (.iconst 2, 1) := by decide +kernel
theorem dL_law_1650 : decode cL_law 1650 = .ok (.iadd, 1) := by decide +kernel
theorem dL_law_1651 : decode cL_law 1651 = .ok (.iaload, 1) := by decide +kernel
theorem dL_law_1652 : decode cL_law 1652 = .ok (.aload_n 0, 1) := by decide +kernel
theorem dL_law_1653 : decode cL_law 1653 = .ok (.iload 4, 2) := by decide +kernel
theorem dL_law_1655 : decode cL_law 1655 = .ok (.iconst 3, 1) := by decide +kernel
theorem dL_law_1656 : decode cL_law 1656 = .ok (.iadd, 1) := by decide +kernel
theorem dL_law_1657 : decode cL_law 1657 = .ok (.iaload, 1) := by decide +kernel
theorem dL_law_1658 : decode cL_law 1658 = .ok (.aload_n 3, 1) := by decide +kernel
theorem dL_law_1659 : decode cL_law 1659 = .ok (.invokestatic 191, 3) := by decide +kernel
theorem dL_law_1662 : decode cL_law 1662 = .ok (.istore 5, 2) := by decide +kernel
theorem dL_law_1664 : decode cL_law 1664 = .ok (.aload_n 2, 1) := by decide +kernel
theorem dL_law_1665 : decode cL_law 1665 = .ok (.aload_n 0, 1) := by decide +kernel
theorem dL_law_1666 : decode cL_law 1666 = .ok (.iload 4, 2) := by decide +kernel
theorem dL_law_1668 : decode cL_law 1668 = .ok (.iconst 1, 1) := by decide +kernel
theorem dL_law_1669 : decode cL_law 1669 = .ok (.iadd, 1) := by decide +kernel
theorem dL_law_1670 : decode cL_law 1670 = .ok (.iaload, 1) := by decide +kernel
theorem dL_law_1671 : decode cL_law 1671 = .ok (.aload_n 0, 1) := by decide +kernel
theorem dL_law_1672 : decode cL_law 1672 = .ok (.iload 4, 2) := by decide +kernel
theorem dL_law_1674 : decode cL_law 1674 = .ok (.iconst 2, 1) := by decide +kernel
theorem dL_law_1675 : decode cL_law 1675 = .ok (.iadd, 1) := by decide +kernel
theorem dL_law_1676 : decode cL_law 1676 = .ok (.iaload, 1) := by decide +kernel
theorem dL_law_1677 : decode cL_law 1677 = .ok (.aload_n 0, 1) := by decide +kernel
theorem dL_law_1678 : decode cL_law 1678 = .ok (.iload 4, 2) := by decide +kernel
theorem dL_law_1680 : decode cL_law 1680 = .ok (.iconst 3, 1) := by decide +kernel
theorem dL_law_1681 : decode cL_law 1681 = .ok (.iadd, 1) := by decide +kernel
theorem dL_law_1682 : decode cL_law 1682 = .ok (.iaload, 1) := by decide +kernel
theorem dL_law_1683 : decode cL_law 1683 = .ok (.invokevirtual 193, 3) := by decide +kernel
theorem dL_law_1686 : decode cL_law 1686 = .ok (.istore 6, 2) := by decide +kernel
theorem dL_law_1688 : decode cL_law 1688 = .ok (.aload_n 2, 1) := by decide +kernel
theorem dL_law_1689 : decode cL_law 1689 = .ok (.invokevirtual 111, 3) := by decide +kernel
theorem dL_law_1692 : decode cL_law 1692 = .ok (.iload 5, 2) := by decide +kernel
theorem dL_law_1694 : decode cL_law 1694 = .ok (.if_icmp .eq 5, 3) := by decide +kernel
theorem dL_law_1697 : decode cL_law 1697 = .ok (.iconst 0, 1) := by decide +kernel
theorem dL_law_1698 : decode cL_law 1698 = .ok (.ireturn, 1) := by decide +kernel
theorem dL_law_1699 : decode cL_law 1699 = .ok (.iload 5, 2) := by decide +kernel
theorem dL_law_1701 : decode cL_law 1701 = .ok (.ifCond .ne 15, 3) := by decide +kernel
theorem dL_law_1704 : decode cL_law 1704 = .ok (.aload_n 3, 1) := by decide +kernel
theorem dL_law_1705 : decode cL_law 1705 = .ok (.iconst 0, 1) := by decide +kernel
theorem dL_law_1706 : decode cL_law 1706 = .ok (.laload, 1) := by decide +kernel
theorem dL_law_1707 : decode cL_law 1707 = .ok (.iload 6, 2) := by decide +kernel
theorem dL_law_1709 : decode cL_law 1709 = .ok (.i2l, 1) := by decide +kernel
theorem dL_law_1710 : decode cL_law 1710 = .ok (.lcmp, 1) := by decide +kernel
theorem dL_law_1711 : decode cL_law 1711 = .ok (.ifCond .eq 5, 3) := by decide +kernel
theorem dL_law_1714 : decode cL_law 1714 = .ok (.iconst 0, 1) := by decide +kernel
theorem dL_law_1715 : decode cL_law 1715 = .ok (.ireturn, 1) := by decide +kernel
theorem dL_law_1716 : decode cL_law 1716 = .ok (.goto 143, 3) := by decide +kernel
theorem dL_law_1719 : decode cL_law 1719 = .ok (.aload_n 1, 1) := by decide +kernel
theorem dL_law_1720 : decode cL_law 1720 = .ok (.aload_n 0, 1) := by decide +kernel
theorem dL_law_1721 : decode cL_law 1721 = .ok (.iload 4, 2) := by decide +kernel
theorem dL_law_1723 : decode cL_law 1723 = .ok (.iconst 1, 1) := by decide +kernel
theorem dL_law_1724 : decode cL_law 1724 = .ok (.iadd, 1) := by decide +kernel
theorem dL_law_1725 : decode cL_law 1725 = .ok (.iaload, 1) := by decide +kernel
theorem dL_law_1726 : decode cL_law 1726 = .ok (.aload_n 3, 1) := by decide +kernel
theorem dL_law_1727 : decode cL_law 1727 = .ok (.invokestatic 194, 3) := by decide +kernel
theorem dL_law_1730 : decode cL_law 1730 = .ok (.istore 5, 2) := by decide +kernel
theorem dL_law_1732 : decode cL_law 1732 = .ok (.aload_n 2, 1) := by decide +kernel
theorem dL_law_1733 : decode cL_law 1733 = .ok (.aload_n 0, 1) := by decide +kernel
theorem dL_law_1734 : decode cL_law 1734 = .ok (.iload 4, 2) := by decide +kernel
theorem dL_law_1736 : decode cL_law 1736 = .ok (.iconst 1, 1) := by decide +kernel
theorem dL_law_1737 : decode cL_law 1737 = .ok (.iadd, 1) := by decide +kernel
theorem dL_law_1738 : decode cL_law 1738 = .ok (.iaload, 1) := by decide +kernel
theorem dL_law_1739 : decode cL_law 1739 = .ok (.invokevirtual 196, 3) := by decide +kernel
theorem dL_law_1742 : decode cL_law 1742 = .ok (.istore 6, 2) := by decide +kernel
theorem dL_law_1744 : decode cL_law 1744 = .ok (.aload_n 2, 1) := by decide +kernel
theorem dL_law_1745 : decode cL_law 1745 = .ok (.invokevirtual 111, 3) := by decide +kernel
theorem dL_law_1748 : decode cL_law 1748 = .ok (.iload 5, 2) := by decide +kernel
theorem dL_law_1750 : decode cL_law 1750 = .ok (.if_icmp .eq 5, 3) := by decide +kernel
theorem dL_law_1753 : decode cL_law 1753 = .ok (.iconst 0, 1) := by decide +kernel
theorem dL_law_1754 : decode cL_law 1754 = .ok (.ireturn, 1) := by decide +kernel
theorem dL_law_1755 : decode cL_law 1755 = .ok (.iload 5, 2) := by decide +kernel
theorem dL_law_1757 : decode cL_law 1757 = .ok (.ifCond .ne 15, 3) := by decide +kernel
theorem dL_law_1760 : decode cL_law 1760 = .ok (.aload_n 3, 1) := by decide +kernel
theorem dL_law_1761 : decode cL_law 1761 = .ok (.iconst 0, 1) := by decide +kernel
theorem dL_law_1762 : decode cL_law 1762 = .ok (.laload, 1) := by decide +kernel
theorem dL_law_1763 : decode cL_law 1763 = .ok (.iload 6, 2) := by decide +kernel
theorem dL_law_1765 : decode cL_law 1765 = .ok (.i2l, 1) := by decide +kernel
theorem dL_law_1766 : decode cL_law 1766 = .ok (.lcmp, 1) := by decide +kernel
theorem dL_law_1767 : decode cL_law 1767 = .ok (.ifCond .eq 5, 3) := by decide +kernel
theorem dL_law_1770 : decode cL_law 1770 = .ok (.iconst 0, 1) := by decide +kernel
theorem dL_law_1771 : decode cL_law 1771 = .ok (.ireturn, 1) := by decide +kernel
theorem dL_law_1772 : decode cL_law 1772 = .ok (.goto 87, 3) := by decide +kernel
theorem dL_law_1775 : decode cL_law 1775 = .ok (.aload_n 1, 1) := by decide +kernel
theorem dL_law_1776 : decode cL_law 1776 = .ok (.invokevirtual 197, 3) := by decide +kernel
theorem dL_law_1779 : decode cL_law 1779 = .ok (.aload_n 2, 1) := by decide +kernel
theorem dL_law_1780 : decode cL_law 1780 = .ok (.invokevirtual 200, 3) := by decide +kernel
theorem dL_law_1783 : decode cL_law 1783 = .ok (.if_icmp .eq 76, 3) := by decide +kernel
theorem dL_law_1786 : decode cL_law 1786 = .ok (.iconst 0, 1) := by decide +kernel
theorem dL_law_1787 : decode cL_law 1787 = .ok (.ireturn, 1) := by decide +kernel
theorem dL_law_1788 : decode cL_law 1788 = .ok (.aload_n 1, 1) := by decide +kernel
theorem dL_law_1789 : decode cL_law 1789 = .ok (.invokevirtual 201, 3) := by decide +kernel
theorem dL_law_1792 : decode cL_law 1792 = .ok (.aload_n 2, 1) := by decide +kernel
theorem dL_law_1793 : decode cL_law 1793 = .ok (.invokevirtual 204, 3) := by decide +kernel
theorem dL_law_1796 : decode cL_law 1796 = .ok (.if_icmp .eq 63, 3) := by decide +kernel
theorem dL_law_1799 : decode cL_law 1799 = .ok (.iconst 0, 1) := by decide +kernel
theorem dL_law_1800 : decode cL_law 1800 = .ok (.ireturn, 1) := by decide +kernel
theorem dL_law_1801 : decode cL_law 1801 = .ok (.aload_n 1, 1) := by decide +kernel
theorem dL_law_1802 : decode cL_law 1802 = .ok (.aload_n 3, 1) := by decide +kernel
theorem dL_law_1803 : decode cL_law 1803 = .ok (.invokestatic 205, 3) := by decide +kernel
theorem dL_law_1806 : decode cL_law 1806 = .ok (.istore 5, 2) := by decide +kernel
theorem dL_law_1808 : decode cL_law 1808 = .ok (.aload_n 2, 1) := by decide +kernel
theorem dL_law_1809 : decode cL_law 1809 = .ok (.invokevirtual 208, 3) := by decide +kernel
theorem dL_law_1812 : decode cL_law 1812 = .ok (.istore 6, 2) := by decide +kernel
theorem dL_law_1814 : decode cL_law 1814 = .ok (.aload_n 2, 1) := by decide +kernel
theorem dL_law_1815 : decode cL_law 1815 = .ok (.invokevirtual 111, 3) := by decide +kernel
theorem dL_law_1818 : decode cL_law 1818 = .ok (.iload 5, 2) := by decide +kernel
theorem dL_law_1820 : decode cL_law 1820 = .ok (.if_icmp .eq 5, 3) := by decide +kernel
theorem dL_law_1823 : decode cL_law 1823 = .ok (.iconst 0, 1) := by decide +kernel
theorem dL_law_1824 : decode cL_law 1824 = .ok (.ireturn, 1) := by decide +kernel
theorem dL_law_1825 : decode cL_law 1825 = .ok (.iload 5, 2) := by decide +kernel
theorem dL_law_1827 : decode cL_law 1827 = .ok (.ifCond .ne 15, 3) := by decide +kernel
theorem dL_law_1830 : decode cL_law 1830 = .ok (.aload_n 3, 1) := by decide +kernel
theorem dL_law_1831 : decode cL_law 1831 = .ok (.iconst 0, 1) := by decide +kernel
theorem dL_law_1832 : decode cL_law 1832 = .ok (.laload, 1) := by decide +kernel
theorem dL_law_1833 : decode cL_law 1833 = .ok (.iload 6, 2) := by decide +kernel
theorem dL_law_1835 : decode cL_law 1835 = .ok (.i2l, 1) := by decide +kernel
theorem dL_law_1836 : decode cL_law 1836 = .ok (.lcmp, 1) := by decide +kernel
theorem dL_law_1837 : decode cL_law 1837 = .ok (.ifCond .eq 5, 3) := by decide +kernel
theorem dL_law_1840 : decode cL_law 1840 = .ok (.iconst 0, 1) := by decide +kernel
theorem dL_law_1841 : decode cL_law 1841 = .ok (.ireturn, 1) := by decide +kernel
theorem dL_law_1842 : decode cL_law 1842 = .ok (.goto 17, 3) := by decide +kernel
theorem dL_law_1845 : decode cL_law 1845 = .ok (.aload_n 1, 1) := by decide +kernel
theorem dL_law_1846 : decode cL_law 1846 = .ok (.invokevirtual 209, 3) := by decide +kernel
theorem dL_law_1849 : decode cL_law 1849 = .ok (.aload_n 2, 1) := by decide +kernel
theorem dL_law_1850 : decode cL_law 1850 = .ok (.invokevirtual 213, 3) := by decide +kernel
theorem dL_law_1853 : decode cL_law 1853 = .ok (.lcmp, 1) := by decide +kernel
theorem dL_law_1854 : decode cL_law 1854 = .ok (.ifCond .eq 5, 3) := by decide +kernel
theorem dL_law_1857 : decode cL_law 1857 = .ok (.iconst 0, 1) := by decide +kernel
theorem dL_law_1858 : decode cL_law 1858 = .ok (.ireturn, 1) := by decide +kernel
theorem dL_law_1859 : decode cL_law 1859 = .ok (.iinc 4 6, 3) := by decide +kernel
theorem dL_law_1862 : decode cL_law 1862 = .ok (.goto (-1829), 3) := by decide +kernel
theorem dL_law_1865 : decode cL_law 1865 = .ok (.iconst 1, 1) := by decide +kernel
theorem dL_law_1866 : decode cL_law 1866 = .ok (.ireturn, 1) := by decide +kernel
end
section
theorem zz_1 : True := trivial
end
