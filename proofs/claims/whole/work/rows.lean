section
-- ===== PART A: goes FIRST, ahead of the names: the tables' words, and 'selects' of the private methods out of them =====
/-- a private method of a class that the tables say can be made, by its rows of tables_1 -/
def lw_okq (q : MethodName × Nat) : Prop := (q.1.cls ≠ "java/lang/invoke/MethodHandle" ∧ q.1.cls ≠ "java/lang/invoke/VarHandle") ∧ Cond.instantiable q.1.cls q.2 ∈ tables_1 ∧ Cond.privateMethod q.1 ∈ tables_1 ∧ Cond.instanceMethod q.1 ∈ tables_1
theorem lw_p0 : lw_okq (⟨"BelowWorth", "tryVoyages", "()I"⟩, 8) := ⟨⟨by decide +kernel, by decide +kernel⟩, List.mem_of_getElem? (i := 13) (by decide +kernel), List.mem_of_getElem? (i := 342) (by decide +kernel), List.mem_of_getElem? (i := 343) (by decide +kernel)⟩
theorem lw_p1 : lw_okq (⟨"BelowWorth$Voyages", "begin", "()V"⟩, 7) := ⟨⟨by decide +kernel, by decide +kernel⟩, List.mem_of_getElem? (i := 112) (by decide +kernel), List.mem_of_getElem? (i := 359) (by decide +kernel), List.mem_of_getElem? (i := 360) (by decide +kernel)⟩
theorem lw_p2 : lw_okq (⟨"BelowWorth$Voyages", "take", "(LBelowWorth$Pad;ILBelowWorth$Owner;)V"⟩, 7) := ⟨⟨by decide +kernel, by decide +kernel⟩, List.mem_of_getElem? (i := 112) (by decide +kernel), List.mem_of_getElem? (i := 367) (by decide +kernel), List.mem_of_getElem? (i := 368) (by decide +kernel)⟩
theorem lw_p3 : lw_okq (⟨"BelowWorth$Owner", "reasonAgainstSailing", "(LBelowWorth$Ship;)I"⟩, 7) := ⟨⟨by decide +kernel, by decide +kernel⟩, List.mem_of_getElem? (i := 21) (by decide +kernel), List.mem_of_getElem? (i := 388) (by decide +kernel), List.mem_of_getElem? (i := 389) (by decide +kernel)⟩
theorem lw_p4 : lw_okq (⟨"BelowWorth$Owner", "comeHome", "(LBelowWorth$Ship;)V"⟩, 7) := ⟨⟨by decide +kernel, by decide +kernel⟩, List.mem_of_getElem? (i := 21) (by decide +kernel), List.mem_of_getElem? (i := 401) (by decide +kernel), List.mem_of_getElem? (i := 402) (by decide +kernel)⟩
theorem lw_p5 : lw_okq (⟨"BelowWorth$Owner", "sink", "(LBelowWorth$Ship;)V"⟩, 7) := ⟨⟨by decide +kernel, by decide +kernel⟩, List.mem_of_getElem? (i := 21) (by decide +kernel), List.mem_of_getElem? (i := 408) (by decide +kernel), List.mem_of_getElem? (i := 409) (by decide +kernel)⟩
theorem lw_p6 : lw_okq (⟨"BelowWorth$Voyages", "noteSinking", "(I)V"⟩, 7) := ⟨⟨by decide +kernel, by decide +kernel⟩, List.mem_of_getElem? (i := 112) (by decide +kernel), List.mem_of_getElem? (i := 416) (by decide +kernel), List.mem_of_getElem? (i := 417) (by decide +kernel)⟩
theorem lw_p7 : lw_okq (⟨"BelowWorth$Namings", "takes", "(IIZ)Z"⟩, 5) := ⟨⟨by decide +kernel, by decide +kernel⟩, List.mem_of_getElem? (i := 172) (by decide +kernel), List.mem_of_getElem? (i := 537) (by decide +kernel), List.mem_of_getElem? (i := 538) (by decide +kernel)⟩
theorem lw_p8 : lw_okq (⟨"BelowWorth$Namings", "areTwo", "(II)Z"⟩, 5) := ⟨⟨by decide +kernel, by decide +kernel⟩, List.mem_of_getElem? (i := 172) (by decide +kernel), List.mem_of_getElem? (i := 545) (by decide +kernel), List.mem_of_getElem? (i := 546) (by decide +kernel)⟩
theorem lw_p9 : lw_okq (⟨"BelowWorth$Namings", "partNames", "(II)V"⟩, 5) := ⟨⟨by decide +kernel, by decide +kernel⟩, List.mem_of_getElem? (i := 172) (by decide +kernel), List.mem_of_getElem? (i := 549) (by decide +kernel), List.mem_of_getElem? (i := 550) (by decide +kernel)⟩
theorem lw_p10 : lw_okq (⟨"BelowWorth$Namings", "joinNames", "(II)V"⟩, 5) := ⟨⟨by decide +kernel, by decide +kernel⟩, List.mem_of_getElem? (i := 172) (by decide +kernel), List.mem_of_getElem? (i := 558) (by decide +kernel), List.mem_of_getElem? (i := 559) (by decide +kernel)⟩
theorem lw_p11 : lw_okq (⟨"BelowWorth$Owner", "kindDrawn", "(III)I"⟩, 7) := ⟨⟨by decide +kernel, by decide +kernel⟩, List.mem_of_getElem? (i := 21) (by decide +kernel), List.mem_of_getElem? (i := 592) (by decide +kernel), List.mem_of_getElem? (i := 593) (by decide +kernel)⟩
theorem lw_p12 : lw_okq (⟨"BelowWorth", "imageAt", "(I)LBelowWorth$Image;"⟩, 8) := ⟨⟨by decide +kernel, by decide +kernel⟩, List.mem_of_getElem? (i := 13) (by decide +kernel), List.mem_of_getElem? (i := 606) (by decide +kernel), List.mem_of_getElem? (i := 607) (by decide +kernel)⟩
theorem lw_p13 : lw_okq (⟨"BelowWorthModel", "isShip", "(I)Z"⟩, 39) := ⟨⟨by decide +kernel, by decide +kernel⟩, List.mem_of_getElem? (i := 626) (by decide +kernel), List.mem_of_getElem? (i := 768) (by decide +kernel), List.mem_of_getElem? (i := 769) (by decide +kernel)⟩
theorem lw_p14 : lw_okq (⟨"BelowWorthModel", "readOn", "(II)I"⟩, 39) := ⟨⟨by decide +kernel, by decide +kernel⟩, List.mem_of_getElem? (i := 626) (by decide +kernel), List.mem_of_getElem? (i := 800) (by decide +kernel), List.mem_of_getElem? (i := 801) (by decide +kernel)⟩
theorem lw_p15 : lw_okq (⟨"BelowWorthModel", "close", "(II)I"⟩, 39) := ⟨⟨by decide +kernel, by decide +kernel⟩, List.mem_of_getElem? (i := 626) (by decide +kernel), List.mem_of_getElem? (i := 806) (by decide +kernel), List.mem_of_getElem? (i := 807) (by decide +kernel)⟩
def lw_privs_1 : List (MethodName × Nat) := [(⟨"BelowWorth", "tryVoyages", "()I"⟩, 8), (⟨"BelowWorth$Voyages", "begin", "()V"⟩, 7), (⟨"BelowWorth$Voyages", "take", "(LBelowWorth$Pad;ILBelowWorth$Owner;)V"⟩, 7), (⟨"BelowWorth$Owner", "reasonAgainstSailing", "(LBelowWorth$Ship;)I"⟩, 7), (⟨"BelowWorth$Owner", "comeHome", "(LBelowWorth$Ship;)V"⟩, 7), (⟨"BelowWorth$Owner", "sink", "(LBelowWorth$Ship;)V"⟩, 7), (⟨"BelowWorth$Voyages", "noteSinking", "(I)V"⟩, 7), (⟨"BelowWorth$Namings", "takes", "(IIZ)Z"⟩, 5), (⟨"BelowWorth$Namings", "areTwo", "(II)Z"⟩, 5), (⟨"BelowWorth$Namings", "partNames", "(II)V"⟩, 5), (⟨"BelowWorth$Namings", "joinNames", "(II)V"⟩, 5), (⟨"BelowWorth$Owner", "kindDrawn", "(III)I"⟩, 7), (⟨"BelowWorth", "imageAt", "(I)LBelowWorth$Image;"⟩, 8), (⟨"BelowWorthModel", "isShip", "(I)Z"⟩, 39), (⟨"BelowWorthModel", "readOn", "(II)I"⟩, 39), (⟨"BelowWorthModel", "close", "(II)I"⟩, 39)]
theorem lw_r1 : ∀ q ∈ lw_privs_1, lw_okq q := List.forall_mem_cons.mpr ⟨lw_p0, List.forall_mem_cons.mpr ⟨lw_p1, List.forall_mem_cons.mpr ⟨lw_p2, List.forall_mem_cons.mpr ⟨lw_p3, List.forall_mem_cons.mpr ⟨lw_p4, List.forall_mem_cons.mpr ⟨lw_p5, List.forall_mem_cons.mpr ⟨lw_p6, List.forall_mem_cons.mpr ⟨lw_p7, List.forall_mem_cons.mpr ⟨lw_p8, List.forall_mem_cons.mpr ⟨lw_p9, List.forall_mem_cons.mpr ⟨lw_p10, List.forall_mem_cons.mpr ⟨lw_p11, List.forall_mem_cons.mpr ⟨lw_p12, List.forall_mem_cons.mpr ⟨lw_p13, List.forall_mem_cons.mpr ⟨lw_p14, List.forall_mem_cons.mpr ⟨lw_p15, fun _ h => absurd h List.not_mem_nil⟩⟩⟩⟩⟩⟩⟩⟩⟩⟩⟩⟩⟩⟩⟩⟩
theorem lw_p16 : lw_okq (⟨"BelowWorthModel", "refusal", "()I"⟩, 39) := ⟨⟨by decide +kernel, by decide +kernel⟩, List.mem_of_getElem? (i := 626) (by decide +kernel), List.mem_of_getElem? (i := 817) (by decide +kernel), List.mem_of_getElem? (i := 818) (by decide +kernel)⟩
theorem lw_p17 : lw_okq (⟨"BelowWorthModel", "keepNow", "()V"⟩, 39) := ⟨⟨by decide +kernel, by decide +kernel⟩, List.mem_of_getElem? (i := 626) (by decide +kernel), List.mem_of_getElem? (i := 821) (by decide +kernel), List.mem_of_getElem? (i := 822) (by decide +kernel)⟩
theorem lw_p18 : lw_okq (⟨"BelowWorthModel", "goVoyages", "()V"⟩, 39) := ⟨⟨by decide +kernel, by decide +kernel⟩, List.mem_of_getElem? (i := 626) (by decide +kernel), List.mem_of_getElem? (i := 826) (by decide +kernel), List.mem_of_getElem? (i := 827) (by decide +kernel)⟩
theorem lw_p19 : lw_okq (⟨"BelowWorthModel", "beginCount", "()V"⟩, 39) := ⟨⟨by decide +kernel, by decide +kernel⟩, List.mem_of_getElem? (i := 626) (by decide +kernel), List.mem_of_getElem? (i := 830) (by decide +kernel), List.mem_of_getElem? (i := 831) (by decide +kernel)⟩
theorem lw_p20 : lw_okq (⟨"BelowWorthModel", "whyNot", "(III)I"⟩, 39) := ⟨⟨by decide +kernel, by decide +kernel⟩, List.mem_of_getElem? (i := 626) (by decide +kernel), List.mem_of_getElem? (i := 834) (by decide +kernel), List.mem_of_getElem? (i := 835) (by decide +kernel)⟩
theorem lw_p21 : lw_okq (⟨"BelowWorthModel", "risk", "(I)I"⟩, 39) := ⟨⟨by decide +kernel, by decide +kernel⟩, List.mem_of_getElem? (i := 626) (by decide +kernel), List.mem_of_getElem? (i := 838) (by decide +kernel), List.mem_of_getElem? (i := 839) (by decide +kernel)⟩
theorem lw_p22 : lw_okq (⟨"BelowWorthModel", "riskWith", "(II)I"⟩, 39) := ⟨⟨by decide +kernel, by decide +kernel⟩, List.mem_of_getElem? (i := 626) (by decide +kernel), List.mem_of_getElem? (i := 842) (by decide +kernel), List.mem_of_getElem? (i := 843) (by decide +kernel)⟩
theorem lw_p23 : lw_okq (⟨"BelowWorthModel", "happen", "(III)V"⟩, 39) := ⟨⟨by decide +kernel, by decide +kernel⟩, List.mem_of_getElem? (i := 626) (by decide +kernel), List.mem_of_getElem? (i := 846) (by decide +kernel), List.mem_of_getElem? (i := 847) (by decide +kernel)⟩
theorem lw_p24 : lw_okq (⟨"BelowWorthModel", "sail", "(I)V"⟩, 39) := ⟨⟨by decide +kernel, by decide +kernel⟩, List.mem_of_getElem? (i := 626) (by decide +kernel), List.mem_of_getElem? (i := 850) (by decide +kernel), List.mem_of_getElem? (i := 851) (by decide +kernel)⟩
theorem lw_p25 : lw_okq (⟨"BelowWorthModel", "sink", "(I)V"⟩, 39) := ⟨⟨by decide +kernel, by decide +kernel⟩, List.mem_of_getElem? (i := 626) (by decide +kernel), List.mem_of_getElem? (i := 854) (by decide +kernel), List.mem_of_getElem? (i := 855) (by decide +kernel)⟩
theorem lw_p26 : lw_okq (⟨"BelowWorthModel", "insured", "(I)I"⟩, 39) := ⟨⟨by decide +kernel, by decide +kernel⟩, List.mem_of_getElem? (i := 626) (by decide +kernel), List.mem_of_getElem? (i := 858) (by decide +kernel), List.mem_of_getElem? (i := 859) (by decide +kernel)⟩
theorem lw_p27 : lw_okq (⟨"BelowWorthModel", "back", "(I)I"⟩, 39) := ⟨⟨by decide +kernel, by decide +kernel⟩, List.mem_of_getElem? (i := 626) (by decide +kernel), List.mem_of_getElem? (i := 862) (by decide +kernel), List.mem_of_getElem? (i := 863) (by decide +kernel)⟩
theorem lw_p28 : lw_okq (⟨"BelowWorthModel", "ofShip", "(II)I"⟩, 39) := ⟨⟨by decide +kernel, by decide +kernel⟩, List.mem_of_getElem? (i := 626) (by decide +kernel), List.mem_of_getElem? (i := 871) (by decide +kernel), List.mem_of_getElem? (i := 872) (by decide +kernel)⟩
theorem lw_p29 : lw_okq (⟨"BelowWorthModel", "ofAll", "(I)I"⟩, 39) := ⟨⟨by decide +kernel, by decide +kernel⟩, List.mem_of_getElem? (i := 626) (by decide +kernel), List.mem_of_getElem? (i := 880) (by decide +kernel), List.mem_of_getElem? (i := 881) (by decide +kernel)⟩
theorem lw_p30 : lw_okq (⟨"BelowWorthModel", "meanWith", "(III)I"⟩, 39) := ⟨⟨by decide +kernel, by decide +kernel⟩, List.mem_of_getElem? (i := 626) (by decide +kernel), List.mem_of_getElem? (i := 899) (by decide +kernel), List.mem_of_getElem? (i := 900) (by decide +kernel)⟩
theorem lw_p31 : lw_okq (⟨"BelowWorthModel", "deepWith", "(II)I"⟩, 39) := ⟨⟨by decide +kernel, by decide +kernel⟩, List.mem_of_getElem? (i := 626) (by decide +kernel), List.mem_of_getElem? (i := 914) (by decide +kernel), List.mem_of_getElem? (i := 915) (by decide +kernel)⟩
def lw_privs_2 : List (MethodName × Nat) := [(⟨"BelowWorthModel", "refusal", "()I"⟩, 39), (⟨"BelowWorthModel", "keepNow", "()V"⟩, 39), (⟨"BelowWorthModel", "goVoyages", "()V"⟩, 39), (⟨"BelowWorthModel", "beginCount", "()V"⟩, 39), (⟨"BelowWorthModel", "whyNot", "(III)I"⟩, 39), (⟨"BelowWorthModel", "risk", "(I)I"⟩, 39), (⟨"BelowWorthModel", "riskWith", "(II)I"⟩, 39), (⟨"BelowWorthModel", "happen", "(III)V"⟩, 39), (⟨"BelowWorthModel", "sail", "(I)V"⟩, 39), (⟨"BelowWorthModel", "sink", "(I)V"⟩, 39), (⟨"BelowWorthModel", "insured", "(I)I"⟩, 39), (⟨"BelowWorthModel", "back", "(I)I"⟩, 39), (⟨"BelowWorthModel", "ofShip", "(II)I"⟩, 39), (⟨"BelowWorthModel", "ofAll", "(I)I"⟩, 39), (⟨"BelowWorthModel", "meanWith", "(III)I"⟩, 39), (⟨"BelowWorthModel", "deepWith", "(II)I"⟩, 39)]
theorem lw_r2 : ∀ q ∈ lw_privs_2, lw_okq q := List.forall_mem_cons.mpr ⟨lw_p16, List.forall_mem_cons.mpr ⟨lw_p17, List.forall_mem_cons.mpr ⟨lw_p18, List.forall_mem_cons.mpr ⟨lw_p19, List.forall_mem_cons.mpr ⟨lw_p20, List.forall_mem_cons.mpr ⟨lw_p21, List.forall_mem_cons.mpr ⟨lw_p22, List.forall_mem_cons.mpr ⟨lw_p23, List.forall_mem_cons.mpr ⟨lw_p24, List.forall_mem_cons.mpr ⟨lw_p25, List.forall_mem_cons.mpr ⟨lw_p26, List.forall_mem_cons.mpr ⟨lw_p27, List.forall_mem_cons.mpr ⟨lw_p28, List.forall_mem_cons.mpr ⟨lw_p29, List.forall_mem_cons.mpr ⟨lw_p30, List.forall_mem_cons.mpr ⟨lw_p31, fun _ h => absurd h List.not_mem_nil⟩⟩⟩⟩⟩⟩⟩⟩⟩⟩⟩⟩⟩⟩⟩⟩
theorem lw_p32 : lw_okq (⟨"BelowWorthModel", "meanOfAll", "()J"⟩, 39) := ⟨⟨by decide +kernel, by decide +kernel⟩, List.mem_of_getElem? (i := 626) (by decide +kernel), List.mem_of_getElem? (i := 928) (by decide +kernel), List.mem_of_getElem? (i := 929) (by decide +kernel)⟩
theorem lw_p33 : lw_okq (⟨"BelowWorthModel", "isAfloat", "(I)Z"⟩, 39) := ⟨⟨by decide +kernel, by decide +kernel⟩, List.mem_of_getElem? (i := 626) (by decide +kernel), List.mem_of_getElem? (i := 932) (by decide +kernel), List.mem_of_getElem? (i := 933) (by decide +kernel)⟩
theorem lw_p34 : lw_okq (⟨"BelowWorthModel", "oneMore", "(I)V"⟩, 39) := ⟨⟨by decide +kernel, by decide +kernel⟩, List.mem_of_getElem? (i := 626) (by decide +kernel), List.mem_of_getElem? (i := 936) (by decide +kernel), List.mem_of_getElem? (i := 937) (by decide +kernel)⟩
theorem lw_p35 : lw_okq (⟨"BelowWorthModel", "hearTales", "()V"⟩, 39) := ⟨⟨by decide +kernel, by decide +kernel⟩, List.mem_of_getElem? (i := 626) (by decide +kernel), List.mem_of_getElem? (i := 973) (by decide +kernel), List.mem_of_getElem? (i := 974) (by decide +kernel)⟩
theorem lw_p36 : lw_okq (⟨"BelowWorthModel", "areTwo", "(III)Z"⟩, 39) := ⟨⟨by decide +kernel, by decide +kernel⟩, List.mem_of_getElem? (i := 626) (by decide +kernel), List.mem_of_getElem? (i := 977) (by decide +kernel), List.mem_of_getElem? (i := 978) (by decide +kernel)⟩
theorem lw_p37 : lw_okq (⟨"BelowWorthModel", "join", "(II)V"⟩, 39) := ⟨⟨by decide +kernel, by decide +kernel⟩, List.mem_of_getElem? (i := 626) (by decide +kernel), List.mem_of_getElem? (i := 981) (by decide +kernel), List.mem_of_getElem? (i := 982) (by decide +kernel)⟩
theorem lw_p38 : lw_okq (⟨"BelowWorthModel", "isOneShip", "(I)Z"⟩, 39) := ⟨⟨by decide +kernel, by decide +kernel⟩, List.mem_of_getElem? (i := 626) (by decide +kernel), List.mem_of_getElem? (i := 989) (by decide +kernel), List.mem_of_getElem? (i := 990) (by decide +kernel)⟩
theorem lw_p39 : lw_okq (⟨"BelowWorthModel", "addShip", "(I)V"⟩, 39) := ⟨⟨by decide +kernel, by decide +kernel⟩, List.mem_of_getElem? (i := 626) (by decide +kernel), List.mem_of_getElem? (i := 993) (by decide +kernel), List.mem_of_getElem? (i := 994) (by decide +kernel)⟩
theorem lw_p40 : lw_okq (⟨"BelowWorthModel", "actBy", "(III)I"⟩, 39) := ⟨⟨by decide +kernel, by decide +kernel⟩, List.mem_of_getElem? (i := 626) (by decide +kernel), List.mem_of_getElem? (i := 1009) (by decide +kernel), List.mem_of_getElem? (i := 1010) (by decide +kernel)⟩
theorem lw_p41 : lw_okq (⟨"BelowWorthModel", "passAll", "()V"⟩, 39) := ⟨⟨by decide +kernel, by decide +kernel⟩, List.mem_of_getElem? (i := 626) (by decide +kernel), List.mem_of_getElem? (i := 1017) (by decide +kernel), List.mem_of_getElem? (i := 1018) (by decide +kernel)⟩
theorem lw_p42 : lw_okq (⟨"BelowWorthModel", "pass", "(I)I"⟩, 39) := ⟨⟨by decide +kernel, by decide +kernel⟩, List.mem_of_getElem? (i := 626) (by decide +kernel), List.mem_of_getElem? (i := 1021) (by decide +kernel), List.mem_of_getElem? (i := 1022) (by decide +kernel)⟩
theorem lw_p43 : lw_okq (⟨"BelowWorthModel", "passRow", "([II)V"⟩, 39) := ⟨⟨by decide +kernel, by decide +kernel⟩, List.mem_of_getElem? (i := 626) (by decide +kernel), List.mem_of_getElem? (i := 1025) (by decide +kernel), List.mem_of_getElem? (i := 1026) (by decide +kernel)⟩
theorem lw_p44 : lw_okq (⟨"BelowWorthModel", "toldOf", "(II)I"⟩, 39) := ⟨⟨by decide +kernel, by decide +kernel⟩, List.mem_of_getElem? (i := 626) (by decide +kernel), List.mem_of_getElem? (i := 1039) (by decide +kernel), List.mem_of_getElem? (i := 1040) (by decide +kernel)⟩
def lw_privs_3 : List (MethodName × Nat) := [(⟨"BelowWorthModel", "meanOfAll", "()J"⟩, 39), (⟨"BelowWorthModel", "isAfloat", "(I)Z"⟩, 39), (⟨"BelowWorthModel", "oneMore", "(I)V"⟩, 39), (⟨"BelowWorthModel", "hearTales", "()V"⟩, 39), (⟨"BelowWorthModel", "areTwo", "(III)Z"⟩, 39), (⟨"BelowWorthModel", "join", "(II)V"⟩, 39), (⟨"BelowWorthModel", "isOneShip", "(I)Z"⟩, 39), (⟨"BelowWorthModel", "addShip", "(I)V"⟩, 39), (⟨"BelowWorthModel", "actBy", "(III)I"⟩, 39), (⟨"BelowWorthModel", "passAll", "()V"⟩, 39), (⟨"BelowWorthModel", "pass", "(I)I"⟩, 39), (⟨"BelowWorthModel", "passRow", "([II)V"⟩, 39), (⟨"BelowWorthModel", "toldOf", "(II)I"⟩, 39)]
theorem lw_r3 : ∀ q ∈ lw_privs_3, lw_okq q := List.forall_mem_cons.mpr ⟨lw_p32, List.forall_mem_cons.mpr ⟨lw_p33, List.forall_mem_cons.mpr ⟨lw_p34, List.forall_mem_cons.mpr ⟨lw_p35, List.forall_mem_cons.mpr ⟨lw_p36, List.forall_mem_cons.mpr ⟨lw_p37, List.forall_mem_cons.mpr ⟨lw_p38, List.forall_mem_cons.mpr ⟨lw_p39, List.forall_mem_cons.mpr ⟨lw_p40, List.forall_mem_cons.mpr ⟨lw_p41, List.forall_mem_cons.mpr ⟨lw_p42, List.forall_mem_cons.mpr ⟨lw_p43, List.forall_mem_cons.mpr ⟨lw_p44, fun _ h => absurd h List.not_mem_nil⟩⟩⟩⟩⟩⟩⟩⟩⟩⟩⟩⟩⟩
def lw_privs : List (MethodName × Nat) := lw_privs_1 ++ (lw_privs_2 ++ (lw_privs_3))
def lw_tbl : List Cond := k2_sels lw_privs ++ tables_1
theorem lw_privs_ok : ∀ q ∈ lw_privs, lw_okq q := by
  show ∀ q ∈ lw_privs_1 ++ (lw_privs_2 ++ (lw_privs_3)), lw_okq q
  exact List.forall_mem_append.mpr ⟨lw_r1, List.forall_mem_append.mpr ⟨lw_r2, lw_r3⟩⟩
-- ===== end of PART A; then your names; then what follows =====
def RX0 : String := "BelowWorth$Image"
def TX0 : u_T := fun k => match k with
  | 0 => ("BelowWorth$Image", "kept", "Z", false)
  | 1 => ("BelowWorth$Image", "owner", "LBelowWorth$Owner;", true)
  | _ => ("BelowWorth$Image", "tales", "LBelowWorth$Tales;", true)
def tyX0 : Nat → FieldType := fun k => match k with
  | 0 => .boolean
  | 1 => .object "BelowWorth$Owner"
  | _ => .object "BelowWorth$Tales"
abbrev wsX00 : List Cond := u_ws RX0 TX0 3
theorem nmX0 : ∀ a, a < 3 → ∀ b, b < 3 → a ≠ b → (TX0 a).2.1 ≠ (TX0 b).2.1 := by decide +kernel
theorem tyX0_ok : ∀ k, k < 3 → parseFieldDescriptor (TX0 k).2.2.1 = some (tyX0 k) := by decide +kernel
abbrev cX0_init : ByteArray := prog_2_method_1_code
def yX0_init : MethodName := ⟨RX0, "<init>", "()V"⟩
def RX1 : String := "BelowWorth$Namings"
def TX1 : u_T := fun k => match k with
  | 0 => ("BelowWorth$Namings", "firsts", "[I", true)
  | 1 => ("BelowWorth$Namings", "others", "[I", true)
  | 2 => ("BelowWorth$Namings", "shipsTried", "[I", true)
  | 3 => ("BelowWorth$Namings", "firstLeftOut", "I", false)
  | _ => ("BelowWorth$Namings", "leftOut", "I", false)
def tyX1 : Nat → FieldType := fun k => match k with
  | 0 => .array .int
  | 1 => .array .int
  | 2 => .array .int
  | 3 => .int
  | _ => .int
abbrev wsX10 : List Cond := u_ws RX1 TX1 5
theorem nmX1 : ∀ a, a < 5 → ∀ b, b < 5 → a ≠ b → (TX1 a).2.1 ≠ (TX1 b).2.1 := by decide +kernel
theorem tyX1_ok : ∀ k, k < 5 → parseFieldDescriptor (TX1 k).2.2.1 = some (tyX1 k) := by decide +kernel
abbrev cX1_init : ByteArray := prog_3_method_1_code
def yX1_init : MethodName := ⟨RX1, "<init>", "()V"⟩
abbrev cX1_hear : ByteArray := prog_3_method_2_code
def yX1_hear : MethodName := ⟨RX1, "hear", "(LBelowWorth$Tales;)V"⟩
abbrev cX1_takes : ByteArray := prog_3_method_3_code
def yX1_takes : MethodName := ⟨RX1, "takes", "(IIZ)Z"⟩
abbrev cX1_firstNameOf : ByteArray := prog_3_method_4_code
def yX1_firstNameOf : MethodName := ⟨RX1, "firstNameOf", "(I)I"⟩
abbrev cX1_areTwo : ByteArray := prog_3_method_5_code
def yX1_areTwo : MethodName := ⟨RX1, "areTwo", "(II)Z"⟩
abbrev cX1_partNames : ByteArray := prog_3_method_6_code
def yX1_partNames : MethodName := ⟨RX1, "partNames", "(II)V"⟩
abbrev cX1_joinNames : ByteArray := prog_3_method_7_code
def yX1_joinNames : MethodName := ⟨RX1, "joinNames", "(II)V"⟩
abbrev cX1_mayBeOn : ByteArray := prog_3_method_8_code
def yX1_mayBeOn : MethodName := ⟨RX1, "mayBeOn", "(II)Z"⟩
abbrev cX1_putOn : ByteArray := prog_3_method_9_code
def yX1_putOn : MethodName := ⟨RX1, "putOn", "(II)V"⟩
def RX2 : String := "BelowWorth$Owner"
def TX2 : u_T := fun k => match k with
  | 0 => ("BelowWorth$Owner", "ships", "[LBelowWorth$Ship;", true)
  | 1 => ("BelowWorth$Owner", "nerve", "I", false)
  | 2 => ("BelowWorth$Owner", "freight", "I", false)
  | 3 => ("BelowWorth$Owner", "season", "I", false)
  | 4 => ("BelowWorth$Owner", "seasons", "I", false)
  | 5 => ("BelowWorth$Owner", "gain", "I", false)
  | _ => ("BelowWorth$Owner", "drowned", "I", false)
def tyX2 : Nat → FieldType := fun k => match k with
  | 0 => .array (.object "BelowWorth$Ship")
  | 1 => .int
  | 2 => .int
  | 3 => .int
  | 4 => .int
  | 5 => .int
  | _ => .int
abbrev wsX20 : List Cond := u_ws RX2 TX2 7
theorem nmX2 : ∀ a, a < 7 → ∀ b, b < 7 → a ≠ b → (TX2 a).2.1 ≠ (TX2 b).2.1 := by decide +kernel
theorem tyX2_ok : ∀ k, k < 7 → parseFieldDescriptor (TX2 k).2.2.1 = some (tyX2 k) := by decide +kernel
abbrev cX2_init : ByteArray := prog_4_method_1_code
def yX2_init : MethodName := ⟨RX2, "<init>", "()V"⟩
abbrev cX2_copyFrom : ByteArray := prog_4_method_2_code
def yX2_copyFrom : MethodName := ⟨RX2, "copyFrom", "(LBelowWorth$Owner;)V"⟩
abbrev cX2_placeAt : ByteArray := prog_4_method_3_code
def yX2_placeAt : MethodName := ⟨RX2, "placeAt", "(I)LBelowWorth$Ship;"⟩
abbrev cX2_shipAt : ByteArray := prog_4_method_4_code
def yX2_shipAt : MethodName := ⟨RX2, "shipAt", "(I)LBelowWorth$Ship;"⟩
abbrev cX2_shipAfloatAt : ByteArray := prog_4_method_5_code
def yX2_shipAfloatAt : MethodName := ⟨RX2, "shipAfloatAt", "(I)LBelowWorth$Ship;"⟩
abbrev cX2_bitsThere : ByteArray := prog_4_method_6_code
def yX2_bitsThere : MethodName := ⟨RX2, "bitsThere", "()I"⟩
abbrev cX2_countThere : ByteArray := prog_4_method_7_code
def yX2_countThere : MethodName := ⟨RX2, "countThere", "()I"⟩
abbrev cX2_countAfloat : ByteArray := prog_4_method_8_code
def yX2_countAfloat : MethodName := ⟨RX2, "countAfloat", "()I"⟩
abbrev cX2_riskWith : ByteArray := prog_4_method_9_code
def yX2_riskWith : MethodName := ⟨RX2, "riskWith", "(LBelowWorth$Ship;I)I"⟩
abbrev cX2_hundredfoldMean : ByteArray := prog_4_method_10_code
def yX2_hundredfoldMean : MethodName := ⟨RX2, "hundredfoldMean", "(LBelowWorth$Ship;II)I"⟩
abbrev cX2_hundredfoldMeanOfAll : ByteArray := prog_4_method_11_code
def yX2_hundredfoldMeanOfAll : MethodName := ⟨RX2, "hundredfoldMeanOfAll", "()I"⟩
abbrev cX2_deepestFor : ByteArray := prog_4_method_12_code
def yX2_deepestFor : MethodName := ⟨RX2, "deepestFor", "(LBelowWorth$Ship;I)I"⟩
abbrev cX2_fillChances : ByteArray := prog_4_method_13_code
def yX2_fillChances : MethodName := ⟨RX2, "fillChances", "([J)J"⟩
abbrev cX2_addChance : ByteArray := prog_4_method_14_code
def yX2_addChance : MethodName := ⟨RX2, "addChance", "([JI)V"⟩
abbrev cX2_reasonAgainst : ByteArray := prog_4_method_15_code
def yX2_reasonAgainst : MethodName := ⟨RX2, "reasonAgainst", "(III)I"⟩
abbrev cX2_reasonAgainstSailing : ByteArray := prog_4_method_16_code
def yX2_reasonAgainstSailing : MethodName := ⟨RX2, "reasonAgainstSailing", "(LBelowWorth$Ship;)I"⟩
abbrev cX2_act : ByteArray := prog_4_method_17_code
def yX2_act : MethodName := ⟨RX2, "act", "(III)V"⟩
abbrev cX2_comeHome : ByteArray := prog_4_method_18_code
def yX2_comeHome : MethodName := ⟨RX2, "comeHome", "(LBelowWorth$Ship;)V"⟩
abbrev cX2_sink : ByteArray := prog_4_method_19_code
def yX2_sink : MethodName := ⟨RX2, "sink", "(LBelowWorth$Ship;)V"⟩
abbrev cX2_actAsDrawn : ByteArray := prog_4_method_20_code
def yX2_actAsDrawn : MethodName := ⟨RX2, "actAsDrawn", "(I)V"⟩
abbrev cX2_kindDrawn : ByteArray := prog_4_method_21_code
def yX2_kindDrawn : MethodName := ⟨RX2, "kindDrawn", "(III)I"⟩
def RX3 : String := "BelowWorth$Pad"
def TX3 : u_T := fun k => match k with
  | 0 => ("BelowWorth$Pad", "signs", "[I", true)
  | _ => ("BelowWorth$Pad", "count", "I", false)
def tyX3 : Nat → FieldType := fun k => match k with
  | 0 => .array .int
  | _ => .int
abbrev wsX30 : List Cond := u_ws RX3 TX3 2
theorem nmX3 : ∀ a, a < 2 → ∀ b, b < 2 → a ≠ b → (TX3 a).2.1 ≠ (TX3 b).2.1 := by decide +kernel
theorem tyX3_ok : ∀ k, k < 2 → parseFieldDescriptor (TX3 k).2.2.1 = some (tyX3 k) := by decide +kernel
abbrev cX3_init : ByteArray := prog_5_method_1_code
def yX3_init : MethodName := ⟨RX3, "<init>", "()V"⟩
abbrev cX3_put : ByteArray := prog_5_method_2_code
def yX3_put : MethodName := ⟨RX3, "put", "(I)Z"⟩
abbrev cX3_signAt : ByteArray := prog_5_method_3_code
def yX3_signAt : MethodName := ⟨RX3, "signAt", "(I)I"⟩
abbrev cX3_faultPlace : ByteArray := prog_5_method_4_code
def yX3_faultPlace : MethodName := ⟨RX3, "faultPlace", "()I"⟩
abbrev cX3_dueBehind : ByteArray := prog_5_method_5_code
def yX3_dueBehind : MethodName := ⟨RX3, "dueBehind", "(II)I"⟩
abbrev cX3_dueBehindDeed : ByteArray := prog_5_method_6_code
def yX3_dueBehindDeed : MethodName := ⟨RX3, "dueBehindDeed", "(I)I"⟩
abbrev cX3_isLetter : ByteArray := prog_5_method_7_code
def yX3_isLetter : MethodName := ⟨RX3, "isLetter", "(I)Z"⟩
abbrev cX3_actBeginsAt : ByteArray := prog_5_method_8_code
def yX3_actBeginsAt : MethodName := ⟨RX3, "actBeginsAt", "(I)Z"⟩
abbrev cX3_kindAt : ByteArray := prog_5_method_9_code
def yX3_kindAt : MethodName := ⟨RX3, "kindAt", "(I)I"⟩
abbrev cX3_shipNumberAt : ByteArray := prog_5_method_10_code
def yX3_shipNumberAt : MethodName := ⟨RX3, "shipNumberAt", "(I)I"⟩
abbrev cX3_numberAt : ByteArray := prog_5_method_11_code
def yX3_numberAt : MethodName := ⟨RX3, "numberAt", "(I)I"⟩
def RX4 : String := "BelowWorth$Ship"
def TX4 : u_T := fun k => match k with
  | 0 => ("BelowWorth$Ship", "there", "Z", false)
  | 1 => ("BelowWorth$Ship", "afloat", "Z", false)
  | 2 => ("BelowWorth$Ship", "age", "I", false)
  | 3 => ("BelowWorth$Ship", "worth", "I", false)
  | 4 => ("BelowWorth$Ship", "crew", "I", false)
  | 5 => ("BelowWorth$Ship", "load", "I", false)
  | _ => ("BelowWorth$Ship", "sums", "[I", true)
def tyX4 : Nat → FieldType := fun k => match k with
  | 0 => .boolean
  | 1 => .boolean
  | 2 => .int
  | 3 => .int
  | 4 => .int
  | 5 => .int
  | _ => .array .int
abbrev wsX40 : List Cond := u_ws RX4 TX4 7
theorem nmX4 : ∀ a, a < 7 → ∀ b, b < 7 → a ≠ b → (TX4 a).2.1 ≠ (TX4 b).2.1 := by decide +kernel
theorem tyX4_ok : ∀ k, k < 7 → parseFieldDescriptor (TX4 k).2.2.1 = some (tyX4 k) := by decide +kernel
abbrev cX4_init : ByteArray := prog_6_method_1_code
def yX4_init : MethodName := ⟨RX4, "<init>", "()V"⟩
abbrev cX4_launch : ByteArray := prog_6_method_2_code
def yX4_launch : MethodName := ⟨RX4, "launch", "(III)V"⟩
abbrev cX4_sumAt : ByteArray := prog_6_method_3_code
def yX4_sumAt : MethodName := ⟨RX4, "sumAt", "(I)I"⟩
abbrev cX4_putSum : ByteArray := prog_6_method_4_code
def yX4_putSum : MethodName := ⟨RX4, "putSum", "(II)V"⟩
abbrev cX4_allSums : ByteArray := prog_6_method_5_code
def yX4_allSums : MethodName := ⟨RX4, "allSums", "()I"⟩
abbrev cX4_copyFrom : ByteArray := prog_6_method_6_code
def yX4_copyFrom : MethodName := ⟨RX4, "copyFrom", "(LBelowWorth$Ship;)V"⟩
def RX5 : String := "BelowWorth$Tales"
def TX5 : u_T := fun k => match k with
  | 0 => ("BelowWorth$Tales", "ones", "[I", true)
  | 1 => ("BelowWorth$Tales", "twos", "[I", true)
  | 2 => ("BelowWorth$Tales", "sames", "[Z", true)
  | _ => ("BelowWorth$Tales", "count", "I", false)
def tyX5 : Nat → FieldType := fun k => match k with
  | 0 => .array .int
  | 1 => .array .int
  | 2 => .array .boolean
  | _ => .int
abbrev wsX50 : List Cond := u_ws RX5 TX5 4
theorem nmX5 : ∀ a, a < 4 → ∀ b, b < 4 → a ≠ b → (TX5 a).2.1 ≠ (TX5 b).2.1 := by decide +kernel
theorem tyX5_ok : ∀ k, k < 4 → parseFieldDescriptor (TX5 k).2.2.1 = some (tyX5 k) := by decide +kernel
abbrev cX5_init : ByteArray := prog_7_method_1_code
def yX5_init : MethodName := ⟨RX5, "<init>", "()V"⟩
abbrev cX5_put : ByteArray := prog_7_method_2_code
def yX5_put : MethodName := ⟨RX5, "put", "(IIZ)Z"⟩
abbrev cX5_copyFrom : ByteArray := prog_7_method_3_code
def yX5_copyFrom : MethodName := ⟨RX5, "copyFrom", "(LBelowWorth$Tales;)V"⟩
def RX6 : String := "BelowWorth$Voyages"
def TX6 : u_T := fun k => match k with
  | 0 => ("BelowWorth$Voyages", "acts", "I", false)
  | 1 => ("BelowWorth$Voyages", "badAct", "I", false)
  | 2 => ("BelowWorth$Voyages", "why", "I", false)
  | 3 => ("BelowWorth$Voyages", "sailings", "I", false)
  | 4 => ("BelowWorth$Voyages", "sunkAct", "I", false)
  | 5 => ("BelowWorth$Voyages", "sunkShip", "I", false)
  | _ => ("BelowWorth$Voyages", "sinkings", "I", false)
def tyX6 : Nat → FieldType := fun k => match k with
  | 0 => .int
  | 1 => .int
  | 2 => .int
  | 3 => .int
  | 4 => .int
  | 5 => .int
  | _ => .int
abbrev wsX60 : List Cond := u_ws RX6 TX6 7
theorem nmX6 : ∀ a, a < 7 → ∀ b, b < 7 → a ≠ b → (TX6 a).2.1 ≠ (TX6 b).2.1 := by decide +kernel
theorem tyX6_ok : ∀ k, k < 7 → parseFieldDescriptor (TX6 k).2.2.1 = some (tyX6 k) := by decide +kernel
abbrev cX6_init : ByteArray := prog_8_method_1_code
def yX6_init : MethodName := ⟨RX6, "<init>", "()V"⟩
abbrev cX6_run : ByteArray := prog_8_method_2_code
def yX6_run : MethodName := ⟨RX6, "run", "(LBelowWorth$Pad;LBelowWorth$Owner;)V"⟩
abbrev cX6_begin : ByteArray := prog_8_method_3_code
def yX6_begin : MethodName := ⟨RX6, "begin", "()V"⟩
abbrev cX6_take : ByteArray := prog_8_method_4_code
def yX6_take : MethodName := ⟨RX6, "take", "(LBelowWorth$Pad;ILBelowWorth$Owner;)V"⟩
abbrev cX6_noteSinking : ByteArray := prog_8_method_5_code
def yX6_noteSinking : MethodName := ⟨RX6, "noteSinking", "(I)V"⟩
def RX7 : String := "BelowWorth"
def TX7 : u_T := fun k => match k with
  | 0 => ("BelowWorth", "now", "LBelowWorth$Owner;", true)
  | 1 => ("BelowWorth", "trial", "LBelowWorth$Owner;", true)
  | 2 => ("BelowWorth", "pad", "LBelowWorth$Pad;", true)
  | 3 => ("BelowWorth", "voyages", "LBelowWorth$Voyages;", true)
  | 4 => ("BelowWorth", "tales", "LBelowWorth$Tales;", true)
  | 5 => ("BelowWorth", "namings", "LBelowWorth$Namings;", true)
  | 6 => ("BelowWorth", "images", "[LBelowWorth$Image;", true)
  | _ => ("BelowWorth", "chances", "[J", true)
def tyX7 : Nat → FieldType := fun k => match k with
  | 0 => .object "BelowWorth$Owner"
  | 1 => .object "BelowWorth$Owner"
  | 2 => .object "BelowWorth$Pad"
  | 3 => .object "BelowWorth$Voyages"
  | 4 => .object "BelowWorth$Tales"
  | 5 => .object "BelowWorth$Namings"
  | 6 => .array (.object "BelowWorth$Image")
  | _ => .array .long
abbrev wsX70 : List Cond := u_ws RX7 TX7 8
theorem nmX7 : ∀ a, a < 8 → ∀ b, b < 8 → a ≠ b → (TX7 a).2.1 ≠ (TX7 b).2.1 := by decide +kernel
theorem tyX7_ok : ∀ k, k < 8 → parseFieldDescriptor (TX7 k).2.2.1 = some (tyX7 k) := by decide +kernel
abbrev cX7_init : ByteArray := prog_1_method_1_code
def yX7_init : MethodName := ⟨RX7, "<init>", "()V"⟩
abbrev cX7_ship : ByteArray := prog_1_method_2_code
def yX7_ship : MethodName := ⟨RX7, "ship", "(IIII)I"⟩
abbrev cX7_sell : ByteArray := prog_1_method_3_code
def yX7_sell : MethodName := ⟨RX7, "sell", "(I)I"⟩
abbrev cX7_insure : ByteArray := prog_1_method_4_code
def yX7_insure : MethodName := ⟨RX7, "insure", "(III)I"⟩
abbrev cX7_load : ByteArray := prog_1_method_5_code
def yX7_load : MethodName := ⟨RX7, "load", "(II)I"⟩
abbrev cX7_set : ByteArray := prog_1_method_6_code
def yX7_set : MethodName := ⟨RX7, "set", "(II)I"⟩
abbrev cX7_say : ByteArray := prog_1_method_7_code
def yX7_say : MethodName := ⟨RX7, "say", "(I)I"⟩
abbrev cX7_wipe : ByteArray := prog_1_method_8_code
def yX7_wipe : MethodName := ⟨RX7, "wipe", "()I"⟩
abbrev cX7_fault : ByteArray := prog_1_method_9_code
def yX7_fault : MethodName := ⟨RX7, "fault", "()I"⟩
abbrev cX7_judge : ByteArray := prog_1_method_10_code
def yX7_judge : MethodName := ⟨RX7, "judge", "(I)I"⟩
abbrev cX7_behind : ByteArray := prog_1_method_11_code
def yX7_behind : MethodName := ⟨RX7, "behind", "(II)I"⟩
abbrev cX7_total : ByteArray := prog_1_method_12_code
def yX7_total : MethodName := ⟨RX7, "total", "(I)I"⟩
abbrev cX7_sunk : ByteArray := prog_1_method_13_code
def yX7_sunk : MethodName := ⟨RX7, "sunk", "(I)I"⟩
abbrev cX7_done : ByteArray := prog_1_method_14_code
def yX7_done : MethodName := ⟨RX7, "done", "()I"⟩
abbrev cX7_mean : ByteArray := prog_1_method_15_code
def yX7_mean : MethodName := ⟨RX7, "mean", "(III)J"⟩
abbrev cX7_deep : ByteArray := prog_1_method_16_code
def yX7_deep : MethodName := ⟨RX7, "deep", "(I)I"⟩
abbrev cX7_share : ByteArray := prog_1_method_17_code
def yX7_share : MethodName := ⟨RX7, "share", "(II)I"⟩
abbrev cX7_losses : ByteArray := prog_1_method_18_code
def yX7_losses : MethodName := ⟨RX7, "losses", "(II)J"⟩
abbrev cX7_fleet : ByteArray := prog_1_method_19_code
def yX7_fleet : MethodName := ⟨RX7, "fleet", "(IIII)I"⟩
abbrev cX7_holds : ByteArray := prog_1_method_20_code
def yX7_holds : MethodName := ⟨RX7, "holds", "(II)I"⟩
abbrev cX7_meant : ByteArray := prog_1_method_21_code
def yX7_meant : MethodName := ⟨RX7, "meant", "(IIIII)J"⟩
abbrev cX7_tale : ByteArray := prog_1_method_22_code
def yX7_tale : MethodName := ⟨RX7, "tale", "(IIZ)I"⟩
abbrev cX7_forget : ByteArray := prog_1_method_23_code
def yX7_forget : MethodName := ⟨RX7, "forget", "()I"⟩
abbrev cX7_broken : ByteArray := prog_1_method_24_code
def yX7_broken : MethodName := ⟨RX7, "broken", "(I)I"⟩
abbrev cX7_ones : ByteArray := prog_1_method_25_code
def yX7_ones : MethodName := ⟨RX7, "ones", "()I"⟩
abbrev cX7_berth : ByteArray := prog_1_method_26_code
def yX7_berth : MethodName := ⟨RX7, "berth", "(III)I"⟩
abbrev cX7_year : ByteArray := prog_1_method_27_code
def yX7_year : MethodName := ⟨RX7, "year", "(III)I"⟩
abbrev cX7_image : ByteArray := prog_1_method_28_code
def yX7_image : MethodName := ⟨RX7, "image", "(I)I"⟩
abbrev cX7_restore : ByteArray := prog_1_method_29_code
def yX7_restore : MethodName := ⟨RX7, "restore", "(I)I"⟩
abbrev cX7_told : ByteArray := prog_1_method_30_code
def yX7_told : MethodName := ⟨RX7, "told", "(I)I"⟩
abbrev cX7_within : ByteArray := prog_1_method_31_code
def yX7_within : MethodName := ⟨RX7, "within", "(III)Z"⟩
abbrev cX7_tryVoyages : ByteArray := prog_1_method_32_code
def yX7_tryVoyages : MethodName := ⟨RX7, "tryVoyages", "()I"⟩
abbrev cX7_imageAt : ByteArray := prog_1_method_33_code
def yX7_imageAt : MethodName := ⟨RX7, "imageAt", "(I)LBelowWorth$Image;"⟩
abbrev cX7_toldOf : ByteArray := prog_1_method_34_code
def yX7_toldOf : MethodName := ⟨RX7, "toldOf", "(LBelowWorth$Ship;I)I"⟩
abbrev cX7_partOf : ByteArray := prog_1_method_35_code
def yX7_partOf : MethodName := ⟨RX7, "partOf", "(JJI)J"⟩
abbrev cX7_commonDivisor : ByteArray := prog_1_method_36_code
def yX7_commonDivisor : MethodName := ⟨RX7, "commonDivisor", "(JJ)J"⟩
abbrev cX7_likelihood : ByteArray := prog_1_method_37_code
def yX7_likelihood : MethodName := ⟨RX7, "likelihood", "(III)J"⟩
abbrev cX7_turned : ByteArray := prog_1_method_38_code
def yX7_turned : MethodName := ⟨RX7, "turned", "(I)I"⟩
abbrev cX7_digitsAdded : ByteArray := prog_1_method_39_code
def yX7_digitsAdded : MethodName := ⟨RX7, "digitsAdded", "(II)I"⟩
abbrev cX7_fewestShips : ByteArray := prog_1_method_40_code
def yX7_fewestShips : MethodName := ⟨RX7, "fewestShips", "(LBelowWorth$Namings;III)I"⟩
def RX8 : String := "BelowWorthModel"
def TX8 : u_T := fun k => match k with
  | 0 => ("BelowWorthModel", "ships", "I", false)
  | 1 => ("BelowWorthModel", "afloat", "I", false)
  | 2 => ("BelowWorthModel", "age", "[I", true)
  | 3 => ("BelowWorthModel", "worth", "[I", true)
  | 4 => ("BelowWorthModel", "crew", "[I", true)
  | 5 => ("BelowWorthModel", "loads", "[I", true)
  | 6 => ("BelowWorthModel", "sums", "[I", true)
  | 7 => ("BelowWorthModel", "nerve", "I", false)
  | 8 => ("BelowWorthModel", "freight", "I", false)
  | 9 => ("BelowWorthModel", "season", "I", false)
  | 10 => ("BelowWorthModel", "seasons", "I", false)
  | 11 => ("BelowWorthModel", "gain", "I", false)
  | 12 => ("BelowWorthModel", "drowned", "I", false)
  | 13 => ("BelowWorthModel", "taleOne", "[I", true)
  | 14 => ("BelowWorthModel", "taleTwo", "[I", true)
  | 15 => ("BelowWorthModel", "taleSame", "[I", true)
  | 16 => ("BelowWorthModel", "tales", "I", false)
  | 17 => ("BelowWorthModel", "pad", "[I", true)
  | 18 => ("BelowWorthModel", "padMany", "I", false)
  | 19 => ("BelowWorthModel", "act", "[I", true)
  | 20 => ("BelowWorthModel", "who", "[I", true)
  | 21 => ("BelowWorthModel", "much", "[I", true)
  | 22 => ("BelowWorthModel", "acts", "I", false)
  | 23 => ("BelowWorthModel", "sailings", "I", false)
  | 24 => ("BelowWorthModel", "firstSunk", "I", false)
  | 25 => ("BelowWorthModel", "firstShip", "I", false)
  | 26 => ("BelowWorthModel", "sunkMany", "I", false)
  | 27 => ("BelowWorthModel", "actNow", "I", false)
  | 28 => ("BelowWorthModel", "had", "[I", true)
  | 29 => ("BelowWorthModel", "badAct", "I", false)
  | 30 => ("BelowWorthModel", "badWhy", "I", false)
  | 31 => ("BelowWorthModel", "parts", "[J", true)
  | 32 => ("BelowWorthModel", "group", "[I", true)
  | 33 => ("BelowWorthModel", "leftOut", "I", false)
  | 34 => ("BelowWorthModel", "fewest", "[I", true)
  | 35 => ("BelowWorthModel", "kept", "[I", true)
  | 36 => ("BelowWorthModel", "isKept", "[Z", true)
  | 37 => ("BelowWorthModel", "keptAt", "I", false)
  | _ => ("BelowWorthModel", "isWriting", "Z", false)
def tyX8 : Nat → FieldType := fun k => match k with
  | 0 => .int
  | 1 => .int
  | 2 => .array .int
  | 3 => .array .int
  | 4 => .array .int
  | 5 => .array .int
  | 6 => .array .int
  | 7 => .int
  | 8 => .int
  | 9 => .int
  | 10 => .int
  | 11 => .int
  | 12 => .int
  | 13 => .array .int
  | 14 => .array .int
  | 15 => .array .int
  | 16 => .int
  | 17 => .array .int
  | 18 => .int
  | 19 => .array .int
  | 20 => .array .int
  | 21 => .array .int
  | 22 => .int
  | 23 => .int
  | 24 => .int
  | 25 => .int
  | 26 => .int
  | 27 => .int
  | 28 => .array .int
  | 29 => .int
  | 30 => .int
  | 31 => .array .long
  | 32 => .array .int
  | 33 => .int
  | 34 => .array .int
  | 35 => .array .int
  | 36 => .array .boolean
  | 37 => .int
  | _ => .boolean
abbrev wsX80 : List Cond := u_ws RX8 TX8 39
theorem nmX8 : ∀ a, a < 39 → ∀ b, b < 39 → a ≠ b → (TX8 a).2.1 ≠ (TX8 b).2.1 := by decide +kernel
theorem tyX8_ok : ∀ k, k < 39 → parseFieldDescriptor (TX8 k).2.2.1 = some (tyX8 k) := by decide +kernel
abbrev cX8_init : ByteArray := prog_10_method_1_code
def yX8_init : MethodName := ⟨RX8, "<init>", "()V"⟩
abbrev cX8_in : ByteArray := prog_10_method_3_code
def yX8_in : MethodName := ⟨RX8, "in", "(JJJ)Z"⟩
abbrev cX8_bitsOf : ByteArray := prog_10_method_4_code
def yX8_bitsOf : MethodName := ⟨RX8, "bitsOf", "(I)I"⟩
abbrev cX8_isShip : ByteArray := prog_10_method_5_code
def yX8_isShip : MethodName := ⟨RX8, "isShip", "(I)Z"⟩
abbrev cX8_ship : ByteArray := prog_10_method_6_code
def yX8_ship : MethodName := ⟨RX8, "ship", "(IIII)I"⟩
abbrev cX8_sell : ByteArray := prog_10_method_7_code
def yX8_sell : MethodName := ⟨RX8, "sell", "(I)I"⟩
abbrev cX8_insure : ByteArray := prog_10_method_8_code
def yX8_insure : MethodName := ⟨RX8, "insure", "(III)I"⟩
abbrev cX8_load : ByteArray := prog_10_method_9_code
def yX8_load : MethodName := ⟨RX8, "load", "(II)I"⟩
abbrev cX8_set : ByteArray := prog_10_method_10_code
def yX8_set : MethodName := ⟨RX8, "set", "(II)I"⟩
abbrev cX8_say : ByteArray := prog_10_method_11_code
def yX8_say : MethodName := ⟨RX8, "say", "(I)I"⟩
abbrev cX8_wipe : ByteArray := prog_10_method_12_code
def yX8_wipe : MethodName := ⟨RX8, "wipe", "()I"⟩
abbrev cX8_close : ByteArray := prog_10_method_13_code
def yX8_close : MethodName := ⟨RX8, "close", "(II)I"⟩
abbrev cX8_readOn : ByteArray := prog_10_method_14_code
def yX8_readOn : MethodName := ⟨RX8, "readOn", "(II)I"⟩
abbrev cX8_fault : ByteArray := prog_10_method_15_code
def yX8_fault : MethodName := ⟨RX8, "fault", "()I"⟩
abbrev cX8_riskWith : ByteArray := prog_10_method_16_code
def yX8_riskWith : MethodName := ⟨RX8, "riskWith", "(II)I"⟩
abbrev cX8_risk : ByteArray := prog_10_method_17_code
def yX8_risk : MethodName := ⟨RX8, "risk", "(I)I"⟩
abbrev cX8_insured : ByteArray := prog_10_method_18_code
def yX8_insured : MethodName := ⟨RX8, "insured", "(I)I"⟩
abbrev cX8_whyNot : ByteArray := prog_10_method_19_code
def yX8_whyNot : MethodName := ⟨RX8, "whyNot", "(III)I"⟩
abbrev cX8_sail : ByteArray := prog_10_method_20_code
def yX8_sail : MethodName := ⟨RX8, "sail", "(I)V"⟩
abbrev cX8_sink : ByteArray := prog_10_method_21_code
def yX8_sink : MethodName := ⟨RX8, "sink", "(I)V"⟩
abbrev cX8_happen : ByteArray := prog_10_method_22_code
def yX8_happen : MethodName := ⟨RX8, "happen", "(III)V"⟩
abbrev cX8_keepNow : ByteArray := prog_10_method_23_code
def yX8_keepNow : MethodName := ⟨RX8, "keepNow", "()V"⟩
abbrev cX8_back : ByteArray := prog_10_method_24_code
def yX8_back : MethodName := ⟨RX8, "back", "(I)I"⟩
abbrev cX8_beginCount : ByteArray := prog_10_method_25_code
def yX8_beginCount : MethodName := ⟨RX8, "beginCount", "()V"⟩
abbrev cX8_goVoyages : ByteArray := prog_10_method_26_code
def yX8_goVoyages : MethodName := ⟨RX8, "goVoyages", "()V"⟩
abbrev cX8_refusal : ByteArray := prog_10_method_27_code
def yX8_refusal : MethodName := ⟨RX8, "refusal", "()I"⟩
abbrev cX8_judge : ByteArray := prog_10_method_28_code
def yX8_judge : MethodName := ⟨RX8, "judge", "(I)I"⟩
abbrev cX8_ofShip : ByteArray := prog_10_method_29_code
def yX8_ofShip : MethodName := ⟨RX8, "ofShip", "(II)I"⟩
abbrev cX8_behind : ByteArray := prog_10_method_30_code
def yX8_behind : MethodName := ⟨RX8, "behind", "(II)I"⟩
abbrev cX8_ofAll : ByteArray := prog_10_method_31_code
def yX8_ofAll : MethodName := ⟨RX8, "ofAll", "(I)I"⟩
abbrev cX8_total : ByteArray := prog_10_method_32_code
def yX8_total : MethodName := ⟨RX8, "total", "(I)I"⟩
abbrev cX8_sunk : ByteArray := prog_10_method_33_code
def yX8_sunk : MethodName := ⟨RX8, "sunk", "(I)I"⟩
abbrev cX8_done : ByteArray := prog_10_method_34_code
def yX8_done : MethodName := ⟨RX8, "done", "()I"⟩
abbrev cX8_size : ByteArray := prog_10_method_35_code
def yX8_size : MethodName := ⟨RX8, "size", "(J)J"⟩
abbrev cX8_lowest : ByteArray := prog_10_method_36_code
def yX8_lowest : MethodName := ⟨RX8, "lowest", "(JJI)J"⟩
abbrev cX8_meanWith : ByteArray := prog_10_method_37_code
def yX8_meanWith : MethodName := ⟨RX8, "meanWith", "(III)I"⟩
abbrev cX8_mean : ByteArray := prog_10_method_38_code
def yX8_mean : MethodName := ⟨RX8, "mean", "(III)J"⟩
abbrev cX8_deepWith : ByteArray := prog_10_method_39_code
def yX8_deepWith : MethodName := ⟨RX8, "deepWith", "(II)I"⟩
abbrev cX8_deep : ByteArray := prog_10_method_40_code
def yX8_deep : MethodName := ⟨RX8, "deep", "(I)I"⟩
abbrev cX8_share : ByteArray := prog_10_method_41_code
def yX8_share : MethodName := ⟨RX8, "share", "(II)I"⟩
abbrev cX8_oneMore : ByteArray := prog_10_method_42_code
def yX8_oneMore : MethodName := ⟨RX8, "oneMore", "(I)V"⟩
abbrev cX8_isAfloat : ByteArray := prog_10_method_43_code
def yX8_isAfloat : MethodName := ⟨RX8, "isAfloat", "(I)Z"⟩
abbrev cX8_meanOfAll : ByteArray := prog_10_method_44_code
def yX8_meanOfAll : MethodName := ⟨RX8, "meanOfAll", "()J"⟩
abbrev cX8_losses : ByteArray := prog_10_method_45_code
def yX8_losses : MethodName := ⟨RX8, "losses", "(II)J"⟩
abbrev cX8_digitsOf : ByteArray := prog_10_method_46_code
def yX8_digitsOf : MethodName := ⟨RX8, "digitsOf", "(IIZ)I"⟩
abbrev cX8_fleet : ByteArray := prog_10_method_47_code
def yX8_fleet : MethodName := ⟨RX8, "fleet", "(IIII)I"⟩
abbrev cX8_holds : ByteArray := prog_10_method_48_code
def yX8_holds : MethodName := ⟨RX8, "holds", "(II)I"⟩
abbrev cX8_times : ByteArray := prog_10_method_49_code
def yX8_times : MethodName := ⟨RX8, "times", "(JI)J"⟩
abbrev cX8_meant : ByteArray := prog_10_method_50_code
def yX8_meant : MethodName := ⟨RX8, "meant", "(IIIII)J"⟩
abbrev cX8_tale : ByteArray := prog_10_method_51_code
def yX8_tale : MethodName := ⟨RX8, "tale", "(IIZ)I"⟩
abbrev cX8_forget : ByteArray := prog_10_method_52_code
def yX8_forget : MethodName := ⟨RX8, "forget", "()I"⟩
abbrev cX8_join : ByteArray := prog_10_method_53_code
def yX8_join : MethodName := ⟨RX8, "join", "(II)V"⟩
abbrev cX8_areTwo : ByteArray := prog_10_method_54_code
def yX8_areTwo : MethodName := ⟨RX8, "areTwo", "(III)Z"⟩
abbrev cX8_hearTales : ByteArray := prog_10_method_55_code
def yX8_hearTales : MethodName := ⟨RX8, "hearTales", "()V"⟩
abbrev cX8_broken : ByteArray := prog_10_method_56_code
def yX8_broken : MethodName := ⟨RX8, "broken", "(I)I"⟩
abbrev cX8_isOneShip : ByteArray := prog_10_method_57_code
def yX8_isOneShip : MethodName := ⟨RX8, "isOneShip", "(I)Z"⟩
abbrev cX8_ones : ByteArray := prog_10_method_58_code
def yX8_ones : MethodName := ⟨RX8, "ones", "()I"⟩
abbrev cX8_addShip : ByteArray := prog_10_method_59_code
def yX8_addShip : MethodName := ⟨RX8, "addShip", "(I)V"⟩
abbrev cX8_berth : ByteArray := prog_10_method_60_code
def yX8_berth : MethodName := ⟨RX8, "berth", "(III)I"⟩
abbrev cX8_actBy : ByteArray := prog_10_method_61_code
def yX8_actBy : MethodName := ⟨RX8, "actBy", "(III)I"⟩
abbrev cX8_year : ByteArray := prog_10_method_62_code
def yX8_year : MethodName := ⟨RX8, "year", "(III)I"⟩
abbrev cX8_pass : ByteArray := prog_10_method_63_code
def yX8_pass : MethodName := ⟨RX8, "pass", "(I)I"⟩
abbrev cX8_passRow : ByteArray := prog_10_method_64_code
def yX8_passRow : MethodName := ⟨RX8, "passRow", "([II)V"⟩
abbrev cX8_passAll : ByteArray := prog_10_method_65_code
def yX8_passAll : MethodName := ⟨RX8, "passAll", "()V"⟩
abbrev cX8_image : ByteArray := prog_10_method_66_code
def yX8_image : MethodName := ⟨RX8, "image", "(I)I"⟩
abbrev cX8_restore : ByteArray := prog_10_method_67_code
def yX8_restore : MethodName := ⟨RX8, "restore", "(I)I"⟩
abbrev cX8_toldOf : ByteArray := prog_10_method_68_code
def yX8_toldOf : MethodName := ⟨RX8, "toldOf", "(II)I"⟩
abbrev cX8_told : ByteArray := prog_10_method_69_code
def yX8_told : MethodName := ⟨RX8, "told", "(I)I"⟩
def RJ6 : String := "java/lang/Integer"
def TJ6 : u_T := fun k => match k with
  | _ => ("", "", "", false)
def tyJ6 : Nat → FieldType := fun k => match k with
  | _ => .int
abbrev wsJ60 : List Cond := u_ws RJ6 TJ6 0
theorem nmJ6 : ∀ a, a < 0 → ∀ b, b < 0 → a ≠ b → (TJ6 a).2.1 ≠ (TJ6 b).2.1 := by decide +kernel
theorem tyJ6_ok : ∀ k, k < 0 → parseFieldDescriptor (TJ6 k).2.2.1 = some (tyJ6 k) := by decide +kernel
abbrev cJ6_bitCount_0f7a4 : ByteArray := prog_11_method_49_code
def yJ6_bitCount_0f7a4 : MethodName := ⟨RJ6, "bitCount", "(I)I"⟩
def RJ9 : String := "java/lang/Math"
def TJ9 : u_T := fun k => match k with
  | _ => ("", "", "", false)
def tyJ9 : Nat → FieldType := fun k => match k with
  | _ => .int
abbrev wsJ90 : List Cond := u_ws RJ9 TJ9 0
theorem nmJ9 : ∀ a, a < 0 → ∀ b, b < 0 → a ≠ b → (TJ9 a).2.1 ≠ (TJ9 b).2.1 := by decide +kernel
theorem tyJ9_ok : ∀ k, k < 0 → parseFieldDescriptor (TJ9 k).2.2.1 = some (tyJ9 k) := by decide +kernel
abbrev cJ9_abs_0f7a4 : ByteArray := prog_12_method_59_code
def yJ9_abs_0f7a4 : MethodName := ⟨RJ9, "abs", "(I)I"⟩
abbrev cJ9_abs_067f4 : ByteArray := prog_12_method_61_code
def yJ9_abs_067f4 : MethodName := ⟨RJ9, "abs", "(J)J"⟩
abbrev cJ9_max_7cf53 : ByteArray := prog_12_method_65_code
def yJ9_max_7cf53 : MethodName := ⟨RJ9, "max", "(II)I"⟩
abbrev cJ9_min_7cf53 : ByteArray := prog_12_method_69_code
def yJ9_min_7cf53 : MethodName := ⟨RJ9, "min", "(II)I"⟩
def RL : String := "BelowWorthLaw"
abbrev cL_law : ByteArray := code
def yL_law : MethodName := ⟨RL, "law", "([I)Z"⟩
theorem dX0_init_0 : decode cX0_init 0 = .ok (.aload_n 0, 1) := by decide +kernel
theorem dX0_init_1 : decode cX0_init 1 = .ok (.invokespecial 1, 3) := by decide +kernel
theorem dX0_init_4 : decode cX0_init 4 = .ok (.aload_n 0, 1) := by decide +kernel
theorem dX0_init_5 : decode cX0_init 5 = .ok (.new 7, 3) := by decide +kernel
theorem dX0_init_8 : decode cX0_init 8 = .ok (.dup, 1) := by decide +kernel
theorem dX0_init_9 : decode cX0_init 9 = .ok (.invokespecial 9, 3) := by decide +kernel
theorem dX0_init_12 : decode cX0_init 12 = .ok (.putfield 10, 3) := by decide +kernel
theorem dX0_init_15 : decode cX0_init 15 = .ok (.aload_n 0, 1) := by decide +kernel
theorem dX0_init_16 : decode cX0_init 16 = .ok (.new 16, 3) := by decide +kernel
theorem dX0_init_19 : decode cX0_init 19 = .ok (.dup, 1) := by decide +kernel
theorem dX0_init_20 : decode cX0_init 20 = .ok (.invokespecial 18, 3) := by decide +kernel
theorem dX0_init_23 : decode cX0_init 23 = .ok (.putfield 19, 3) := by decide +kernel
theorem dX0_init_26 : decode cX0_init 26 = .ok (.return_, 1) := by decide +kernel
theorem dX1_init_0 : decode cX1_init 0 = .ok (.aload_n 0, 1) := by decide +kernel
theorem dX1_init_1 : decode cX1_init 1 = .ok (.invokespecial 3, 3) := by decide +kernel
theorem dX1_init_4 : decode cX1_init 4 = .ok (.aload_n 0, 1) := by decide +kernel
theorem dX1_init_5 : decode cX1_init 5 = .ok (.bipush 8, 2) := by decide +kernel
theorem dX1_init_7 : decode cX1_init 7 = .ok (.newarray .int, 2) := by decide +kernel
theorem dX1_init_9 : decode cX1_init 9 = .ok (.putfield 9, 3) := by decide +kernel
theorem dX1_init_12 : decode cX1_init 12 = .ok (.aload_n 0, 1) := by decide +kernel
theorem dX1_init_13 : decode cX1_init 13 = .ok (.bipush 8, 2) := by decide +kernel
theorem dX1_init_15 : decode cX1_init 15 = .ok (.newarray .int, 2) := by decide +kernel
theorem dX1_init_17 : decode cX1_init 17 = .ok (.putfield 15, 3) := by decide +kernel
theorem dX1_init_20 : decode cX1_init 20 = .ok (.aload_n 0, 1) := by decide +kernel
theorem dX1_init_21 : decode cX1_init 21 = .ok (.bipush 8, 2) := by decide +kernel
theorem dX1_init_23 : decode cX1_init 23 = .ok (.newarray .int, 2) := by decide +kernel
theorem dX1_init_25 : decode cX1_init 25 = .ok (.putfield 18, 3) := by decide +kernel
theorem dX1_init_28 : decode cX1_init 28 = .ok (.return_, 1) := by decide +kernel
theorem dX1_hear_0 : decode cX1_hear 0 = .ok (.iconst 0, 1) := by decide +kernel
theorem dX1_hear_1 : decode cX1_hear 1 = .ok (.istore_n 2, 1) := by decide +kernel
theorem dX1_hear_2 : decode cX1_hear 2 = .ok (.iload_n 2, 1) := by decide +kernel
theorem dX1_hear_3 : decode cX1_hear 3 = .ok (.bipush 8, 2) := by decide +kernel
theorem dX1_hear_5 : decode cX1_hear 5 = .ok (.if_icmp .ge 30, 3) := by decide +kernel
theorem dX1_hear_8 : decode cX1_hear 8 = .ok (.aload_n 0, 1) := by decide +kernel
theorem dX1_hear_9 : decode cX1_hear 9 = .ok (.getfield 9, 3) := by decide +kernel
theorem dX1_hear_12 : decode cX1_hear 12 = .ok (.iload_n 2, 1) := by decide +kernel
theorem dX1_hear_13 : decode cX1_hear 13 = .ok (.iload_n 2, 1) := by decide +kernel
theorem dX1_hear_14 : decode cX1_hear 14 = .ok (.iastore, 1) := by decide +kernel
theorem dX1_hear_15 : decode cX1_hear 15 = .ok (.aload_n 0, 1) := by decide +kernel
theorem dX1_hear_16 : decode cX1_hear 16 = .ok (.getfield 15, 3) := by decide +kernel
theorem dX1_hear_19 : decode cX1_hear 19 = .ok (.iload_n 2, 1) := by decide +kernel
theorem dX1_hear_20 : decode cX1_hear 20 = .ok (.iconst 0, 1) := by decide +kernel
theorem dX1_hear_21 : decode cX1_hear 21 = .ok (.iastore, 1) := by decide +kernel
theorem dX1_hear_22 : decode cX1_hear 22 = .ok (.aload_n 0, 1) := by decide +kernel
theorem dX1_hear_23 : decode cX1_hear 23 = .ok (.getfield 18, 3) := by decide +kernel
theorem dX1_hear_26 : decode cX1_hear 26 = .ok (.iload_n 2, 1) := by decide +kernel
theorem dX1_hear_27 : decode cX1_hear 27 = .ok (.iconst 0, 1) := by decide +kernel
theorem dX1_hear_28 : decode cX1_hear 28 = .ok (.iastore, 1) := by decide +kernel
theorem dX1_hear_29 : decode cX1_hear 29 = .ok (.iinc 2 1, 3) := by decide +kernel
theorem dX1_hear_32 : decode cX1_hear 32 = .ok (.goto (-30), 3) := by decide +kernel
theorem dX1_hear_35 : decode cX1_hear 35 = .ok (.aload_n 0, 1) := by decide +kernel
theorem dX1_hear_36 : decode cX1_hear 36 = .ok (.bipush (-6), 2) := by decide +kernel
theorem dX1_hear_38 : decode cX1_hear 38 = .ok (.putfield 21, 3) := by decide +kernel
theorem dX1_hear_41 : decode cX1_hear 41 = .ok (.aload_n 0, 1) := by decide +kernel
theorem dX1_hear_42 : decode cX1_hear 42 = .ok (.iconst 0, 1) := by decide +kernel
theorem dX1_hear_43 : decode cX1_hear 43 = .ok (.putfield 25, 3) := by decide +kernel
theorem dX1_hear_46 : decode cX1_hear 46 = .ok (.iconst 0, 1) := by decide +kernel
theorem dX1_hear_47 : decode cX1_hear 47 = .ok (.istore_n 2, 1) := by decide +kernel
theorem dX1_hear_48 : decode cX1_hear 48 = .ok (.iload_n 2, 1) := by decide +kernel
theorem dX1_hear_49 : decode cX1_hear 49 = .ok (.aload_n 1, 1) := by decide +kernel
theorem dX1_hear_50 : decode cX1_hear 50 = .ok (.getfield 28, 3) := by decide +kernel
theorem dX1_hear_53 : decode cX1_hear 53 = .ok (.if_icmp .ge 62, 3) := by decide +kernel
theorem dX1_hear_56 : decode cX1_hear 56 = .ok (.iload_n 2, 1) := by decide +kernel
theorem dX1_hear_57 : decode cX1_hear 57 = .ok (.bipush 8, 2) := by decide +kernel
theorem dX1_hear_59 : decode cX1_hear 59 = .ok (.if_icmp .ge 56, 3) := by decide +kernel
theorem dX1_hear_62 : decode cX1_hear 62 = .ok (.aload_n 0, 1) := by decide +kernel
theorem dX1_hear_63 : decode cX1_hear 63 = .ok (.aload_n 1, 1) := by decide +kernel
theorem dX1_hear_64 : decode cX1_hear 64 = .ok (.getfield 33, 3) := by decide +kernel
theorem dX1_hear_67 : decode cX1_hear 67 = .ok (.iload_n 2, 1) := by decide +kernel
theorem dX1_hear_68 : decode cX1_hear 68 = .ok (.iaload, 1) := by decide +kernel
theorem dX1_hear_69 : decode cX1_hear 69 = .ok (.aload_n 1, 1) := by decide +kernel
theorem dX1_hear_70 : decode cX1_hear 70 = .ok (.getfield 36, 3) := by decide +kernel
theorem dX1_hear_73 : decode cX1_hear 73 = .ok (.iload_n 2, 1) := by decide +kernel
theorem dX1_hear_74 : decode cX1_hear 74 = .ok (.iaload, 1) := by decide +kernel
theorem dX1_hear_75 : decode cX1_hear 75 = .ok (.aload_n 1, 1) := by decide +kernel
theorem dX1_hear_76 : decode cX1_hear 76 = .ok (.getfield 39, 3) := by decide +kernel
theorem dX1_hear_79 : decode cX1_hear 79 = .ok (.iload_n 2, 1) := by decide +kernel
theorem dX1_hear_80 : decode cX1_hear 80 = .ok (.baload, 1) := by decide +kernel
theorem dX1_hear_81 : decode cX1_hear 81 = .ok (.invokevirtual 43, 3) := by decide +kernel
theorem dX1_hear_84 : decode cX1_hear 84 = .ok (.ifCond .ne 25, 3) := by decide +kernel
theorem dX1_hear_87 : decode cX1_hear 87 = .ok (.aload_n 0, 1) := by decide +kernel
theorem dX1_hear_88 : decode cX1_hear 88 = .ok (.getfield 25, 3) := by decide +kernel
theorem dX1_hear_91 : decode cX1_hear 91 = .ok (.ifCond .ne 8, 3) := by decide +kernel
theorem dX1_hear_94 : decode cX1_hear 94 = .ok (.aload_n 0, 1) := by decide +kernel
theorem dX1_hear_95 : decode cX1_hear 95 = .ok (.iload_n 2, 1) := by decide +kernel
theorem dX1_hear_96 : decode cX1_hear 96 = .ok (.putfield 21, 3) := by decide +kernel
theorem dX1_hear_99 : decode cX1_hear 99 = .ok (.aload_n 0, 1) := by decide +kernel
theorem dX1_hear_100 : decode cX1_hear 100 = .ok (.dup, 1) := by decide +kernel
theorem dX1_hear_101 : decode cX1_hear 101 = .ok (.getfield 25, 3) := by decide +kernel
theorem dX1_hear_104 : decode cX1_hear 104 = .ok (.iconst 1, 1) := by decide +kernel
theorem dX1_hear_105 : decode cX1_hear 105 = .ok (.iadd, 1) := by decide +kernel
theorem dX1_hear_106 : decode cX1_hear 106 = .ok (.putfield 25, 3) := by decide +kernel
theorem dX1_hear_109 : decode cX1_hear 109 = .ok (.iinc 2 1, 3) := by decide +kernel
theorem dX1_hear_112 : decode cX1_hear 112 = .ok (.goto (-64), 3) := by decide +kernel
theorem dX1_hear_115 : decode cX1_hear 115 = .ok (.return_, 1) := by decide +kernel
theorem dX1_takes_0 : decode cX1_takes 0 = .ok (.aload_n 0, 1) := by decide +kernel
theorem dX1_takes_1 : decode cX1_takes 1 = .ok (.iload_n 1, 1) := by decide +kernel
theorem dX1_takes_2 : decode cX1_takes 2 = .ok (.invokevirtual 47, 3) := by decide +kernel
theorem dX1_takes_5 : decode cX1_takes 5 = .ok (.istore 4, 2) := by decide +kernel
theorem dX1_takes_7 : decode cX1_takes 7 = .ok (.aload_n 0, 1) := by decide +kernel
theorem dX1_takes_8 : decode cX1_takes 8 = .ok (.iload_n 2, 1) := by decide +kernel
theorem dX1_takes_9 : decode cX1_takes 9 = .ok (.invokevirtual 47, 3) := by decide +kernel
theorem dX1_takes_12 : decode cX1_takes 12 = .ok (.istore 5, 2) := by decide +kernel
theorem dX1_takes_14 : decode cX1_takes 14 = .ok (.iload 4, 2) := by decide +kernel
theorem dX1_takes_16 : decode cX1_takes 16 = .ok (.iload 5, 2) := by decide +kernel
theorem dX1_takes_18 : decode cX1_takes 18 = .ok (.if_icmp .ne 7, 3) := by decide +kernel
theorem dX1_takes_21 : decode cX1_takes 21 = .ok (.iconst 1, 1) := by decide +kernel
theorem dX1_takes_22 : decode cX1_takes 22 = .ok (.goto 4, 3) := by decide +kernel
theorem dX1_takes_25 : decode cX1_takes 25 = .ok (.iconst 0, 1) := by decide +kernel
theorem dX1_takes_26 : decode cX1_takes 26 = .ok (.istore 6, 2) := by decide +kernel
theorem dX1_takes_28 : decode cX1_takes 28 = .ok (.aload_n 0, 1) := by decide +kernel
theorem dX1_takes_29 : decode cX1_takes 29 = .ok (.iload 4, 2) := by decide +kernel
theorem dX1_takes_31 : decode cX1_takes 31 = .ok (.iload 5, 2) := by decide +kernel
theorem dX1_takes_33 : decode cX1_takes 33 = .ok (.invokevirtual 51, 3) := by decide +kernel
theorem dX1_takes_36 : decode cX1_takes 36 = .ok (.istore 7, 2) := by decide +kernel
theorem dX1_takes_38 : decode cX1_takes 38 = .ok (.iload_n 3, 1) := by decide +kernel
theorem dX1_takes_39 : decode cX1_takes 39 = .ok (.ifCond .eq 11, 3) := by decide +kernel
theorem dX1_takes_42 : decode cX1_takes 42 = .ok (.iload 7, 2) := by decide +kernel
theorem dX1_takes_44 : decode cX1_takes 44 = .ok (.ifCond .eq 13, 3) := by decide +kernel
theorem dX1_takes_47 : decode cX1_takes 47 = .ok (.goto 8, 3) := by decide +kernel
theorem dX1_takes_50 : decode cX1_takes 50 = .ok (.iload 6, 2) := by decide +kernel
theorem dX1_takes_52 : decode cX1_takes 52 = .ok (.ifCond .eq 5, 3) := by decide +kernel
theorem dX1_takes_55 : decode cX1_takes 55 = .ok (.iconst 0, 1) := by decide +kernel
theorem dX1_takes_56 : decode cX1_takes 56 = .ok (.ireturn, 1) := by decide +kernel
theorem dX1_takes_57 : decode cX1_takes 57 = .ok (.iload_n 3, 1) := by decide +kernel
theorem dX1_takes_58 : decode cX1_takes 58 = .ok (.ifCond .ne 14, 3) := by decide +kernel
theorem dX1_takes_61 : decode cX1_takes 61 = .ok (.aload_n 0, 1) := by decide +kernel
theorem dX1_takes_62 : decode cX1_takes 62 = .ok (.iload 4, 2) := by decide +kernel
theorem dX1_takes_64 : decode cX1_takes 64 = .ok (.iload 5, 2) := by decide +kernel
theorem dX1_takes_66 : decode cX1_takes 66 = .ok (.invokevirtual 55, 3) := by decide +kernel
theorem dX1_takes_69 : decode cX1_takes 69 = .ok (.goto 26, 3) := by decide +kernel
theorem dX1_takes_72 : decode cX1_takes 72 = .ok (.iload 6, 2) := by decide +kernel
theorem dX1_takes_74 : decode cX1_takes 74 = .ok (.ifCond .ne 21, 3) := by decide +kernel
theorem dX1_takes_77 : decode cX1_takes 77 = .ok (.aload_n 0, 1) := by decide +kernel
theorem dX1_takes_78 : decode cX1_takes 78 = .ok (.iload 4, 2) := by decide +kernel
theorem dX1_takes_80 : decode cX1_takes 80 = .ok (.iload 5, 2) := by decide +kernel
theorem dX1_takes_82 : decode cX1_takes 82 = .ok (.invokestatic 59, 3) := by decide +kernel
theorem dX1_takes_85 : decode cX1_takes 85 = .ok (.iload 4, 2) := by decide +kernel
theorem dX1_takes_87 : decode cX1_takes 87 = .ok (.iload 5, 2) := by decide +kernel
theorem dX1_takes_89 : decode cX1_takes 89 = .ok (.invokestatic 65, 3) := by decide +kernel
theorem dX1_takes_92 : decode cX1_takes 92 = .ok (.invokevirtual 68, 3) := by decide +kernel
theorem dX1_takes_95 : decode cX1_takes 95 = .ok (.iconst 1, 1) := by decide +kernel
theorem dX1_takes_96 : decode cX1_takes 96 = .ok (.ireturn, 1) := by decide +kernel
theorem dX1_firstNameOf_0 : decode cX1_firstNameOf 0 = .ok (.iload_n 1, 1) := by decide +kernel
theorem dX1_firstNameOf_1 : decode cX1_firstNameOf 1 = .ok (.ifCond .lt 18, 3) := by decide +kernel
theorem dX1_firstNameOf_4 : decode cX1_firstNameOf 4 = .ok (.iload_n 1, 1) := by decide +kernel
theorem dX1_firstNameOf_5 : decode cX1_firstNameOf 5 = .ok (.bipush 8, 2) := by decide +kernel
theorem dX1_firstNameOf_7 : decode cX1_firstNameOf 7 = .ok (.if_icmp .ge 12, 3) := by decide +kernel
theorem dX1_firstNameOf_10 : decode cX1_firstNameOf 10 = .ok (.aload_n 0, 1) := by decide +kernel
theorem dX1_firstNameOf_11 : decode cX1_firstNameOf 11 = .ok (.getfield 9, 3) := by decide +kernel
theorem dX1_firstNameOf_14 : decode cX1_firstNameOf 14 = .ok (.iload_n 1, 1) := by decide +kernel
theorem dX1_firstNameOf_15 : decode cX1_firstNameOf 15 = .ok (.iaload, 1) := by decide +kernel
theorem dX1_firstNameOf_16 : decode cX1_firstNameOf 16 = .ok (.goto 4, 3) := by decide +kernel
theorem dX1_firstNameOf_19 : decode cX1_firstNameOf 19 = .ok (.iconst 0, 1) := by decide +kernel
theorem dX1_firstNameOf_20 : decode cX1_firstNameOf 20 = .ok (.ireturn, 1) := by decide +kernel
theorem dX1_areTwo_0 : decode cX1_areTwo 0 = .ok (.iload_n 1, 1) := by decide +kernel
theorem dX1_areTwo_1 : decode cX1_areTwo 1 = .ok (.ifCond .lt 27, 3) := by decide +kernel
theorem dX1_areTwo_4 : decode cX1_areTwo 4 = .ok (.iload_n 1, 1) := by decide +kernel
theorem dX1_areTwo_5 : decode cX1_areTwo 5 = .ok (.bipush 8, 2) := by decide +kernel
theorem dX1_areTwo_7 : decode cX1_areTwo 7 = .ok (.if_icmp .ge 21, 3) := by decide +kernel
theorem dX1_areTwo_10 : decode cX1_areTwo 10 = .ok (.aload_n 0, 1) := by decide +kernel
theorem dX1_areTwo_11 : decode cX1_areTwo 11 = .ok (.getfield 15, 3) := by decide +kernel
theorem dX1_areTwo_14 : decode cX1_areTwo 14 = .ok (.iload_n 1, 1) := by decide +kernel
theorem dX1_areTwo_15 : decode cX1_areTwo 15 = .ok (.iaload, 1) := by decide +kernel
theorem dX1_areTwo_16 : decode cX1_areTwo 16 = .ok (.iload_n 2, 1) := by decide +kernel
theorem dX1_areTwo_17 : decode cX1_areTwo 17 = .ok (.ishr, 1) := by decide +kernel
theorem dX1_areTwo_18 : decode cX1_areTwo 18 = .ok (.iconst 1, 1) := by decide +kernel
theorem dX1_areTwo_19 : decode cX1_areTwo 19 = .ok (.iand, 1) := by decide +kernel
theorem dX1_areTwo_20 : decode cX1_areTwo 20 = .ok (.iconst 1, 1) := by decide +kernel
theorem dX1_areTwo_21 : decode cX1_areTwo 21 = .ok (.if_icmp .ne 7, 3) := by decide +kernel
theorem dX1_areTwo_24 : decode cX1_areTwo 24 = .ok (.iconst 1, 1) := by decide +kernel
theorem dX1_areTwo_25 : decode cX1_areTwo 25 = .ok (.goto 4, 3) := by decide +kernel
theorem dX1_areTwo_28 : decode cX1_areTwo 28 = .ok (.iconst 0, 1) := by decide +kernel
theorem dX1_areTwo_29 : decode cX1_areTwo 29 = .ok (.ireturn, 1) := by decide +kernel
theorem dX1_partNames_0 : decode cX1_partNames 0 = .ok (.iload_n 1, 1) := by decide +kernel
theorem dX1_partNames_1 : decode cX1_partNames 1 = .ok (.iconst 0, 1) := by decide +kernel
theorem dX1_partNames_2 : decode cX1_partNames 2 = .ok (.bipush 7, 2) := by decide +kernel
theorem dX1_partNames_4 : decode cX1_partNames 4 = .ok (.invokestatic 71, 3) := by decide +kernel
theorem dX1_partNames_7 : decode cX1_partNames 7 = .ok (.ifCond .eq 37, 3) := by decide +kernel
theorem dX1_partNames_10 : decode cX1_partNames 10 = .ok (.iload_n 2, 1) := by decide +kernel
theorem dX1_partNames_11 : decode cX1_partNames 11 = .ok (.iconst 0, 1) := by decide +kernel
theorem dX1_partNames_12 : decode cX1_partNames 12 = .ok (.bipush 7, 2) := by decide +kernel
theorem dX1_partNames_14 : decode cX1_partNames 14 = .ok (.invokestatic 71, 3) := by decide +kernel
theorem dX1_partNames_17 : decode cX1_partNames 17 = .ok (.ifCond .eq 27, 3) := by decide +kernel
theorem dX1_partNames_20 : decode cX1_partNames 20 = .ok (.aload_n 0, 1) := by decide +kernel
theorem dX1_partNames_21 : decode cX1_partNames 21 = .ok (.getfield 15, 3) := by decide +kernel
theorem dX1_partNames_24 : decode cX1_partNames 24 = .ok (.iload_n 1, 1) := by decide +kernel
theorem dX1_partNames_25 : decode cX1_partNames 25 = .ok (.dup2, 1) := by decide +kernel
theorem dX1_partNames_26 : decode cX1_partNames 26 = .ok (.iaload, 1) := by decide +kernel
theorem dX1_partNames_27 : decode cX1_partNames 27 = .ok (.iconst 1, 1) := by decide +kernel
theorem dX1_partNames_28 : decode cX1_partNames 28 = .ok (.iload_n 2, 1) := by decide +kernel
theorem dX1_partNames_29 : decode cX1_partNames 29 = .ok (.ishl, 1) := by decide +kernel
theorem dX1_partNames_30 : decode cX1_partNames 30 = .ok (.ior, 1) := by decide +kernel
theorem dX1_partNames_31 : decode cX1_partNames 31 = .ok (.iastore, 1) := by decide +kernel
theorem dX1_partNames_32 : decode cX1_partNames 32 = .ok (.aload_n 0, 1) := by decide +kernel
theorem dX1_partNames_33 : decode cX1_partNames 33 = .ok (.getfield 15, 3) := by decide +kernel
theorem dX1_partNames_36 : decode cX1_partNames 36 = .ok (.iload_n 2, 1) := by decide +kernel
theorem dX1_partNames_37 : decode cX1_partNames 37 = .ok (.dup2, 1) := by decide +kernel
theorem dX1_partNames_38 : decode cX1_partNames 38 = .ok (.iaload, 1) := by decide +kernel
theorem dX1_partNames_39 : decode cX1_partNames 39 = .ok (.iconst 1, 1) := by decide +kernel
theorem dX1_partNames_40 : decode cX1_partNames 40 = .ok (.iload_n 1, 1) := by decide +kernel
theorem dX1_partNames_41 : decode cX1_partNames 41 = .ok (.ishl, 1) := by decide +kernel
theorem dX1_partNames_42 : decode cX1_partNames 42 = .ok (.ior, 1) := by decide +kernel
theorem dX1_partNames_43 : decode cX1_partNames 43 = .ok (.iastore, 1) := by decide +kernel
theorem dX1_partNames_44 : decode cX1_partNames 44 = .ok (.return_, 1) := by decide +kernel
theorem dX1_joinNames_0 : decode cX1_joinNames 0 = .ok (.iconst 0, 1) := by decide +kernel
theorem dX1_joinNames_1 : decode cX1_joinNames 1 = .ok (.istore_n 3, 1) := by decide +kernel
theorem dX1_joinNames_2 : decode cX1_joinNames 2 = .ok (.iload_n 3, 1) := by decide +kernel
theorem dX1_joinNames_3 : decode cX1_joinNames 3 = .ok (.bipush 8, 2) := by decide +kernel
theorem dX1_joinNames_5 : decode cX1_joinNames 5 = .ok (.if_icmp .ge 41, 3) := by decide +kernel
theorem dX1_joinNames_8 : decode cX1_joinNames 8 = .ok (.aload_n 0, 1) := by decide +kernel
theorem dX1_joinNames_9 : decode cX1_joinNames 9 = .ok (.getfield 9, 3) := by decide +kernel
theorem dX1_joinNames_12 : decode cX1_joinNames 12 = .ok (.iload_n 3, 1) := by decide +kernel
theorem dX1_joinNames_13 : decode cX1_joinNames 13 = .ok (.iaload, 1) := by decide +kernel
theorem dX1_joinNames_14 : decode cX1_joinNames 14 = .ok (.iload_n 2, 1) := by decide +kernel
theorem dX1_joinNames_15 : decode cX1_joinNames 15 = .ok (.if_icmp .ne 10, 3) := by decide +kernel
theorem dX1_joinNames_18 : decode cX1_joinNames 18 = .ok (.aload_n 0, 1) := by decide +kernel
theorem dX1_joinNames_19 : decode cX1_joinNames 19 = .ok (.getfield 9, 3) := by decide +kernel
theorem dX1_joinNames_22 : decode cX1_joinNames 22 = .ok (.iload_n 3, 1) := by decide +kernel
theorem dX1_joinNames_23 : decode cX1_joinNames 23 = .ok (.iload_n 1, 1) := by decide +kernel
theorem dX1_joinNames_24 : decode cX1_joinNames 24 = .ok (.iastore, 1) := by decide +kernel
theorem dX1_joinNames_25 : decode cX1_joinNames 25 = .ok (.aload_n 0, 1) := by decide +kernel
theorem dX1_joinNames_26 : decode cX1_joinNames 26 = .ok (.iload_n 2, 1) := by decide +kernel
theorem dX1_joinNames_27 : decode cX1_joinNames 27 = .ok (.iload_n 3, 1) := by decide +kernel
theorem dX1_joinNames_28 : decode cX1_joinNames 28 = .ok (.invokevirtual 51, 3) := by decide +kernel
theorem dX1_joinNames_31 : decode cX1_joinNames 31 = .ok (.ifCond .eq 9, 3) := by decide +kernel
theorem dX1_joinNames_34 : decode cX1_joinNames 34 = .ok (.aload_n 0, 1) := by decide +kernel
theorem dX1_joinNames_35 : decode cX1_joinNames 35 = .ok (.iload_n 1, 1) := by decide +kernel
theorem dX1_joinNames_36 : decode cX1_joinNames 36 = .ok (.iload_n 3, 1) := by decide +kernel
theorem dX1_joinNames_37 : decode cX1_joinNames 37 = .ok (.invokevirtual 55, 3) := by decide +kernel
theorem dX1_joinNames_40 : decode cX1_joinNames 40 = .ok (.iinc 3 1, 3) := by decide +kernel
theorem dX1_joinNames_43 : decode cX1_joinNames 43 = .ok (.goto (-41), 3) := by decide +kernel
theorem dX1_joinNames_46 : decode cX1_joinNames 46 = .ok (.return_, 1) := by decide +kernel
theorem dX1_mayBeOn_0 : decode cX1_mayBeOn 0 = .ok (.iconst 0, 1) := by decide +kernel
theorem dX1_mayBeOn_1 : decode cX1_mayBeOn 1 = .ok (.istore_n 3, 1) := by decide +kernel
theorem dX1_mayBeOn_2 : decode cX1_mayBeOn 2 = .ok (.iload_n 3, 1) := by decide +kernel
theorem dX1_mayBeOn_3 : decode cX1_mayBeOn 3 = .ok (.iload_n 1, 1) := by decide +kernel
theorem dX1_mayBeOn_4 : decode cX1_mayBeOn 4 = .ok (.if_icmp .ge 46, 3) := by decide +kernel
theorem dX1_mayBeOn_7 : decode cX1_mayBeOn 7 = .ok (.iload_n 3, 1) := by decide +kernel
theorem dX1_mayBeOn_8 : decode cX1_mayBeOn 8 = .ok (.bipush 8, 2) := by decide +kernel
theorem dX1_mayBeOn_10 : decode cX1_mayBeOn 10 = .ok (.if_icmp .ge 40, 3) := by decide +kernel
theorem dX1_mayBeOn_13 : decode cX1_mayBeOn 13 = .ok (.aload_n 0, 1) := by decide +kernel
theorem dX1_mayBeOn_14 : decode cX1_mayBeOn 14 = .ok (.getfield 9, 3) := by decide +kernel
theorem dX1_mayBeOn_17 : decode cX1_mayBeOn 17 = .ok (.iload_n 3, 1) := by decide +kernel
theorem dX1_mayBeOn_18 : decode cX1_mayBeOn 18 = .ok (.iaload, 1) := by decide +kernel
theorem dX1_mayBeOn_19 : decode cX1_mayBeOn 19 = .ok (.iload_n 3, 1) := by decide +kernel
theorem dX1_mayBeOn_20 : decode cX1_mayBeOn 20 = .ok (.if_icmp .ne 24, 3) := by decide +kernel
theorem dX1_mayBeOn_23 : decode cX1_mayBeOn 23 = .ok (.aload_n 0, 1) := by decide +kernel
theorem dX1_mayBeOn_24 : decode cX1_mayBeOn 24 = .ok (.getfield 18, 3) := by decide +kernel
theorem dX1_mayBeOn_27 : decode cX1_mayBeOn 27 = .ok (.iload_n 3, 1) := by decide +kernel
theorem dX1_mayBeOn_28 : decode cX1_mayBeOn 28 = .ok (.iaload, 1) := by decide +kernel
theorem dX1_mayBeOn_29 : decode cX1_mayBeOn 29 = .ok (.iload_n 2, 1) := by decide +kernel
theorem dX1_mayBeOn_30 : decode cX1_mayBeOn 30 = .ok (.if_icmp .ne 14, 3) := by decide +kernel
theorem dX1_mayBeOn_33 : decode cX1_mayBeOn 33 = .ok (.aload_n 0, 1) := by decide +kernel
theorem dX1_mayBeOn_34 : decode cX1_mayBeOn 34 = .ok (.iload_n 1, 1) := by decide +kernel
theorem dX1_mayBeOn_35 : decode cX1_mayBeOn 35 = .ok (.iload_n 3, 1) := by decide +kernel
theorem dX1_mayBeOn_36 : decode cX1_mayBeOn 36 = .ok (.invokevirtual 51, 3) := by decide +kernel
theorem dX1_mayBeOn_39 : decode cX1_mayBeOn 39 = .ok (.ifCond .eq 5, 3) := by decide +kernel
theorem dX1_mayBeOn_42 : decode cX1_mayBeOn 42 = .ok (.iconst 0, 1) := by decide +kernel
theorem dX1_mayBeOn_43 : decode cX1_mayBeOn 43 = .ok (.ireturn, 1) := by decide +kernel
theorem dX1_mayBeOn_44 : decode cX1_mayBeOn 44 = .ok (.iinc 3 1, 3) := by decide +kernel
theorem dX1_mayBeOn_47 : decode cX1_mayBeOn 47 = .ok (.goto (-45), 3) := by decide +kernel
theorem dX1_mayBeOn_50 : decode cX1_mayBeOn 50 = .ok (.iconst 1, 1) := by decide +kernel
theorem dX1_mayBeOn_51 : decode cX1_mayBeOn 51 = .ok (.ireturn, 1) := by decide +kernel
theorem dX1_putOn_0 : decode cX1_putOn 0 = .ok (.iload_n 1, 1) := by decide +kernel
theorem dX1_putOn_1 : decode cX1_putOn 1 = .ok (.ifCond .lt 16, 3) := by decide +kernel
theorem dX1_putOn_4 : decode cX1_putOn 4 = .ok (.iload_n 1, 1) := by decide +kernel
theorem dX1_putOn_5 : decode cX1_putOn 5 = .ok (.bipush 8, 2) := by decide +kernel
theorem dX1_putOn_7 : decode cX1_putOn 7 = .ok (.if_icmp .ge 10, 3) := by decide +kernel
theorem dX1_putOn_10 : decode cX1_putOn 10 = .ok (.aload_n 0, 1) := by decide +kernel
theorem dX1_putOn_11 : decode cX1_putOn 11 = .ok (.getfield 18, 3) := by decide +kernel
theorem dX1_putOn_14 : decode cX1_putOn 14 = .ok (.iload_n 1, 1) := by decide +kernel
theorem dX1_putOn_15 : decode cX1_putOn 15 = .ok (.iload_n 2, 1) := by decide +kernel
theorem dX1_putOn_16 : decode cX1_putOn 16 = .ok (.iastore, 1) := by decide +kernel
theorem dX1_putOn_17 : decode cX1_putOn 17 = .ok (.return_, 1) := by decide +kernel
theorem dX2_init_0 : decode cX2_init 0 = .ok (.aload_n 0, 1) := by decide +kernel
theorem dX2_init_1 : decode cX2_init 1 = .ok (.invokespecial 3, 3) := by decide +kernel
theorem dX2_init_4 : decode cX2_init 4 = .ok (.aload_n 0, 1) := by decide +kernel
theorem dX2_init_5 : decode cX2_init 5 = .ok (.bipush 6, 2) := by decide +kernel
theorem dX2_init_7 : decode cX2_init 7 = .ok (.anewarray 9, 3) := by decide +kernel
theorem dX2_init_10 : decode cX2_init 10 = .ok (.putfield 11, 3) := by decide +kernel
theorem dX2_init_13 : decode cX2_init 13 = .ok (.iconst 0, 1) := by decide +kernel
theorem dX2_init_14 : decode cX2_init 14 = .ok (.istore_n 1, 1) := by decide +kernel
theorem dX2_init_15 : decode cX2_init 15 = .ok (.iload_n 1, 1) := by decide +kernel
theorem dX2_init_16 : decode cX2_init 16 = .ok (.aload_n 0, 1) := by decide +kernel
theorem dX2_init_17 : decode cX2_init 17 = .ok (.getfield 11, 3) := by decide +kernel
theorem dX2_init_20 : decode cX2_init 20 = .ok (.arraylength, 1) := by decide +kernel
theorem dX2_init_21 : decode cX2_init 21 = .ok (.if_icmp .ge 22, 3) := by decide +kernel
theorem dX2_init_24 : decode cX2_init 24 = .ok (.aload_n 0, 1) := by decide +kernel
theorem dX2_init_25 : decode cX2_init 25 = .ok (.getfield 11, 3) := by decide +kernel
theorem dX2_init_28 : decode cX2_init 28 = .ok (.iload_n 1, 1) := by decide +kernel
theorem dX2_init_29 : decode cX2_init 29 = .ok (.new 9, 3) := by decide +kernel
theorem dX2_init_32 : decode cX2_init 32 = .ok (.dup, 1) := by decide +kernel
theorem dX2_init_33 : decode cX2_init 33 = .ok (.invokespecial 17, 3) := by decide +kernel
theorem dX2_init_36 : decode cX2_init 36 = .ok (.aastore, 1) := by decide +kernel
theorem dX2_init_37 : decode cX2_init 37 = .ok (.iinc 1 1, 3) := by decide +kernel
theorem dX2_init_40 : decode cX2_init 40 = .ok (.goto (-25), 3) := by decide +kernel
theorem dX2_init_43 : decode cX2_init 43 = .ok (.aload_n 0, 1) := by decide +kernel
theorem dX2_init_44 : decode cX2_init 44 = .ok (.bipush 60, 2) := by decide +kernel
theorem dX2_init_46 : decode cX2_init 46 = .ok (.putfield 18, 3) := by decide +kernel
theorem dX2_init_49 : decode cX2_init 49 = .ok (.aload_n 0, 1) := by decide +kernel
theorem dX2_init_50 : decode cX2_init 50 = .ok (.iconst 5, 1) := by decide +kernel
theorem dX2_init_51 : decode cX2_init 51 = .ok (.putfield 22, 3) := by decide +kernel
theorem dX2_init_54 : decode cX2_init 54 = .ok (.return_, 1) := by decide +kernel
theorem dX2_copyFrom_0 : decode cX2_copyFrom 0 = .ok (.iconst 0, 1) := by decide +kernel
theorem dX2_copyFrom_1 : decode cX2_copyFrom 1 = .ok (.istore_n 2, 1) := by decide +kernel
theorem dX2_copyFrom_2 : decode cX2_copyFrom 2 = .ok (.iload_n 2, 1) := by decide +kernel
theorem dX2_copyFrom_3 : decode cX2_copyFrom 3 = .ok (.aload_n 0, 1) := by decide +kernel
theorem dX2_copyFrom_4 : decode cX2_copyFrom 4 = .ok (.getfield 11, 3) := by decide +kernel
theorem dX2_copyFrom_7 : decode cX2_copyFrom 7 = .ok (.arraylength, 1) := by decide +kernel
theorem dX2_copyFrom_8 : decode cX2_copyFrom 8 = .ok (.if_icmp .ge 37, 3) := by decide +kernel
theorem dX2_copyFrom_11 : decode cX2_copyFrom 11 = .ok (.aload_n 0, 1) := by decide +kernel
theorem dX2_copyFrom_12 : decode cX2_copyFrom 12 = .ok (.iload_n 2, 1) := by decide +kernel
theorem dX2_copyFrom_13 : decode cX2_copyFrom 13 = .ok (.invokevirtual 25, 3) := by decide +kernel
theorem dX2_copyFrom_16 : decode cX2_copyFrom 16 = .ok (.astore_n 3, 1) := by decide +kernel
theorem dX2_copyFrom_17 : decode cX2_copyFrom 17 = .ok (.aload_n 1, 1) := by decide +kernel
theorem dX2_copyFrom_18 : decode cX2_copyFrom 18 = .ok (.iload_n 2, 1) := by decide +kernel
theorem dX2_copyFrom_19 : decode cX2_copyFrom 19 = .ok (.invokevirtual 25, 3) := by decide +kernel
theorem dX2_copyFrom_22 : decode cX2_copyFrom 22 = .ok (.astore 4, 2) := by decide +kernel
theorem dX2_copyFrom_24 : decode cX2_copyFrom 24 = .ok (.aload_n 3, 1) := by decide +kernel
theorem dX2_copyFrom_25 : decode cX2_copyFrom 25 = .ok (.ifnull 14, 3) := by decide +kernel
theorem dX2_copyFrom_28 : decode cX2_copyFrom 28 = .ok (.aload 4, 2) := by decide +kernel
theorem dX2_copyFrom_30 : decode cX2_copyFrom 30 = .ok (.ifnull 9, 3) := by decide +kernel
theorem dX2_copyFrom_33 : decode cX2_copyFrom 33 = .ok (.aload_n 3, 1) := by decide +kernel
theorem dX2_copyFrom_34 : decode cX2_copyFrom 34 = .ok (.aload 4, 2) := by decide +kernel
theorem dX2_copyFrom_36 : decode cX2_copyFrom 36 = .ok (.invokevirtual 29, 3) := by decide +kernel
theorem dX2_copyFrom_39 : decode cX2_copyFrom 39 = .ok (.iinc 2 1, 3) := by decide +kernel
theorem dX2_copyFrom_42 : decode cX2_copyFrom 42 = .ok (.goto (-40), 3) := by decide +kernel
theorem dX2_copyFrom_45 : decode cX2_copyFrom 45 = .ok (.aload_n 0, 1) := by decide +kernel
theorem dX2_copyFrom_46 : decode cX2_copyFrom 46 = .ok (.aload_n 1, 1) := by decide +kernel
theorem dX2_copyFrom_47 : decode cX2_copyFrom 47 = .ok (.getfield 18, 3) := by decide +kernel
theorem dX2_copyFrom_50 : decode cX2_copyFrom 50 = .ok (.putfield 18, 3) := by decide +kernel
theorem dX2_copyFrom_53 : decode cX2_copyFrom 53 = .ok (.aload_n 0, 1) := by decide +kernel
theorem dX2_copyFrom_54 : decode cX2_copyFrom 54 = .ok (.aload_n 1, 1) := by decide +kernel
theorem dX2_copyFrom_55 : decode cX2_copyFrom 55 = .ok (.getfield 22, 3) := by decide +kernel
theorem dX2_copyFrom_58 : decode cX2_copyFrom 58 = .ok (.putfield 22, 3) := by decide +kernel
theorem dX2_copyFrom_61 : decode cX2_copyFrom 61 = .ok (.aload_n 0, 1) := by decide +kernel
theorem dX2_copyFrom_62 : decode cX2_copyFrom 62 = .ok (.aload_n 1, 1) := by decide +kernel
theorem dX2_copyFrom_63 : decode cX2_copyFrom 63 = .ok (.getfield 33, 3) := by decide +kernel
theorem dX2_copyFrom_66 : decode cX2_copyFrom 66 = .ok (.putfield 33, 3) := by decide +kernel
theorem dX2_copyFrom_69 : decode cX2_copyFrom 69 = .ok (.aload_n 0, 1) := by decide +kernel
theorem dX2_copyFrom_70 : decode cX2_copyFrom 70 = .ok (.aload_n 1, 1) := by decide +kernel
theorem dX2_copyFrom_71 : decode cX2_copyFrom 71 = .ok (.getfield 36, 3) := by decide +kernel
theorem dX2_copyFrom_74 : decode cX2_copyFrom 74 = .ok (.putfield 36, 3) := by decide +kernel
theorem dX2_copyFrom_77 : decode cX2_copyFrom 77 = .ok (.aload_n 0, 1) := by decide +kernel
theorem dX2_copyFrom_78 : decode cX2_copyFrom 78 = .ok (.aload_n 1, 1) := by decide +kernel
theorem dX2_copyFrom_79 : decode cX2_copyFrom 79 = .ok (.getfield 39, 3) := by decide +kernel
theorem dX2_copyFrom_82 : decode cX2_copyFrom 82 = .ok (.putfield 39, 3) := by decide +kernel
theorem dX2_copyFrom_85 : decode cX2_copyFrom 85 = .ok (.aload_n 0, 1) := by decide +kernel
theorem dX2_copyFrom_86 : decode cX2_copyFrom 86 = .ok (.aload_n 1, 1) := by decide +kernel
theorem dX2_copyFrom_87 : decode cX2_copyFrom 87 = .ok (.getfield 42, 3) := by decide +kernel
theorem dX2_copyFrom_90 : decode cX2_copyFrom 90 = .ok (.putfield 42, 3) := by decide +kernel
theorem dX2_copyFrom_93 : decode cX2_copyFrom 93 = .ok (.return_, 1) := by decide +kernel
theorem dX2_placeAt_0 : decode cX2_placeAt 0 = .ok (.iload_n 1, 1) := by decide +kernel
theorem dX2_placeAt_1 : decode cX2_placeAt 1 = .ok (.ifCond .lt 21, 3) := by decide +kernel
theorem dX2_placeAt_4 : decode cX2_placeAt 4 = .ok (.iload_n 1, 1) := by decide +kernel
theorem dX2_placeAt_5 : decode cX2_placeAt 5 = .ok (.aload_n 0, 1) := by decide +kernel
theorem dX2_placeAt_6 : decode cX2_placeAt 6 = .ok (.getfield 11, 3) := by decide +kernel
theorem dX2_placeAt_9 : decode cX2_placeAt 9 = .ok (.arraylength, 1) := by decide +kernel
theorem dX2_placeAt_10 : decode cX2_placeAt 10 = .ok (.if_icmp .ge 12, 3) := by decide +kernel
theorem dX2_placeAt_13 : decode cX2_placeAt 13 = .ok (.aload_n 0, 1) := by decide +kernel
theorem dX2_placeAt_14 : decode cX2_placeAt 14 = .ok (.getfield 11, 3) := by decide +kernel
theorem dX2_placeAt_17 : decode cX2_placeAt 17 = .ok (.iload_n 1, 1) := by decide +kernel
theorem dX2_placeAt_18 : decode cX2_placeAt 18 = .ok (.aaload, 1) := by decide +kernel
theorem dX2_placeAt_19 : decode cX2_placeAt 19 = .ok (.goto 4, 3) := by decide +kernel
theorem dX2_placeAt_22 : decode cX2_placeAt 22 = .ok (.aconst_null, 1) := by decide +kernel
theorem dX2_placeAt_23 : decode cX2_placeAt 23 = .ok (.areturn, 1) := by decide +kernel
theorem dX2_shipAt_0 : decode cX2_shipAt 0 = .ok (.aload_n 0, 1) := by decide +kernel
theorem dX2_shipAt_1 : decode cX2_shipAt 1 = .ok (.iload_n 1, 1) := by decide +kernel
theorem dX2_shipAt_2 : decode cX2_shipAt 2 = .ok (.invokevirtual 25, 3) := by decide +kernel
theorem dX2_shipAt_5 : decode cX2_shipAt 5 = .ok (.astore_n 2, 1) := by decide +kernel
theorem dX2_shipAt_6 : decode cX2_shipAt 6 = .ok (.aload_n 2, 1) := by decide +kernel
theorem dX2_shipAt_7 : decode cX2_shipAt 7 = .ok (.ifnull 14, 3) := by decide +kernel
theorem dX2_shipAt_10 : decode cX2_shipAt 10 = .ok (.aload_n 2, 1) := by decide +kernel
theorem dX2_shipAt_11 : decode cX2_shipAt 11 = .ok (.getfield 45, 3) := by decide +kernel
theorem dX2_shipAt_14 : decode cX2_shipAt 14 = .ok (.ifCond .eq 7, 3) := by decide +kernel
theorem dX2_shipAt_17 : decode cX2_shipAt 17 = .ok (.aload_n 2, 1) := by decide +kernel
theorem dX2_shipAt_18 : decode cX2_shipAt 18 = .ok (.goto 4, 3) := by decide +kernel
theorem dX2_shipAt_21 : decode cX2_shipAt 21 = .ok (.aconst_null, 1) := by decide +kernel
theorem dX2_shipAt_22 : decode cX2_shipAt 22 = .ok (.areturn, 1) := by decide +kernel
theorem dX2_shipAfloatAt_0 : decode cX2_shipAfloatAt 0 = .ok (.aload_n 0, 1) := by decide +kernel
theorem dX2_shipAfloatAt_1 : decode cX2_shipAfloatAt 1 = .ok (.iload_n 1, 1) := by decide +kernel
theorem dX2_shipAfloatAt_2 : decode cX2_shipAfloatAt 2 = .ok (.invokevirtual 49, 3) := by decide +kernel
theorem dX2_shipAfloatAt_5 : decode cX2_shipAfloatAt 5 = .ok (.astore_n 2, 1) := by decide +kernel
theorem dX2_shipAfloatAt_6 : decode cX2_shipAfloatAt 6 = .ok (.aload_n 2, 1) := by decide +kernel
theorem dX2_shipAfloatAt_7 : decode cX2_shipAfloatAt 7 = .ok (.ifnull 14, 3) := by decide +kernel
theorem dX2_shipAfloatAt_10 : decode cX2_shipAfloatAt 10 = .ok (.aload_n 2, 1) := by decide +kernel
theorem dX2_shipAfloatAt_11 : decode cX2_shipAfloatAt 11 = .ok (.getfield 52, 3) := by decide +kernel
theorem dX2_shipAfloatAt_14 : decode cX2_shipAfloatAt 14 = .ok (.ifCond .eq 7, 3) := by decide +kernel
theorem dX2_shipAfloatAt_17 : decode cX2_shipAfloatAt 17 = .ok (.aload_n 2, 1) := by decide +kernel
theorem dX2_shipAfloatAt_18 : decode cX2_shipAfloatAt 18 = .ok (.goto 4, 3) := by decide +kernel
theorem dX2_shipAfloatAt_21 : decode cX2_shipAfloatAt 21 = .ok (.aconst_null, 1) := by decide +kernel
theorem dX2_shipAfloatAt_22 : decode cX2_shipAfloatAt 22 = .ok (.areturn, 1) := by decide +kernel
theorem dX2_bitsThere_0 : decode cX2_bitsThere 0 = .ok (.iconst 0, 1) := by decide +kernel
theorem dX2_bitsThere_1 : decode cX2_bitsThere 1 = .ok (.istore_n 1, 1) := by decide +kernel
theorem dX2_bitsThere_2 : decode cX2_bitsThere 2 = .ok (.iconst 0, 1) := by decide +kernel
theorem dX2_bitsThere_3 : decode cX2_bitsThere 3 = .ok (.istore_n 2, 1) := by decide +kernel
theorem dX2_bitsThere_4 : decode cX2_bitsThere 4 = .ok (.iload_n 2, 1) := by decide +kernel
theorem dX2_bitsThere_5 : decode cX2_bitsThere 5 = .ok (.bipush 6, 2) := by decide +kernel
theorem dX2_bitsThere_7 : decode cX2_bitsThere 7 = .ok (.if_icmp .ge 23, 3) := by decide +kernel
theorem dX2_bitsThere_10 : decode cX2_bitsThere 10 = .ok (.aload_n 0, 1) := by decide +kernel
theorem dX2_bitsThere_11 : decode cX2_bitsThere 11 = .ok (.iload_n 2, 1) := by decide +kernel
theorem dX2_bitsThere_12 : decode cX2_bitsThere 12 = .ok (.invokevirtual 49, 3) := by decide +kernel
theorem dX2_bitsThere_15 : decode cX2_bitsThere 15 = .ok (.ifnull 9, 3) := by decide +kernel
theorem dX2_bitsThere_18 : decode cX2_bitsThere 18 = .ok (.iload_n 1, 1) := by decide +kernel
theorem dX2_bitsThere_19 : decode cX2_bitsThere 19 = .ok (.iconst 1, 1) := by decide +kernel
theorem dX2_bitsThere_20 : decode cX2_bitsThere 20 = .ok (.iload_n 2, 1) := by decide +kernel
theorem dX2_bitsThere_21 : decode cX2_bitsThere 21 = .ok (.ishl, 1) := by decide +kernel
theorem dX2_bitsThere_22 : decode cX2_bitsThere 22 = .ok (.ior, 1) := by decide +kernel
theorem dX2_bitsThere_23 : decode cX2_bitsThere 23 = .ok (.istore_n 1, 1) := by decide +kernel
theorem dX2_bitsThere_24 : decode cX2_bitsThere 24 = .ok (.iinc 2 1, 3) := by decide +kernel
theorem dX2_bitsThere_27 : decode cX2_bitsThere 27 = .ok (.goto (-23), 3) := by decide +kernel
theorem dX2_bitsThere_30 : decode cX2_bitsThere 30 = .ok (.iload_n 1, 1) := by decide +kernel
theorem dX2_bitsThere_31 : decode cX2_bitsThere 31 = .ok (.ireturn, 1) := by decide +kernel
theorem dX2_countThere_0 : decode cX2_countThere 0 = .ok (.aload_n 0, 1) := by decide +kernel
theorem dX2_countThere_1 : decode cX2_countThere 1 = .ok (.invokevirtual 55, 3) := by decide +kernel
theorem dX2_countThere_4 : decode cX2_countThere 4 = .ok (.invokestatic 59, 3) := by decide +kernel
theorem dX2_countThere_7 : decode cX2_countThere 7 = .ok (.ireturn, 1) := by decide +kernel
theorem dX2_countAfloat_0 : decode cX2_countAfloat 0 = .ok (.iconst 0, 1) := by decide +kernel
theorem dX2_countAfloat_1 : decode cX2_countAfloat 1 = .ok (.istore_n 1, 1) := by decide +kernel
theorem dX2_countAfloat_2 : decode cX2_countAfloat 2 = .ok (.iconst 0, 1) := by decide +kernel
theorem dX2_countAfloat_3 : decode cX2_countAfloat 3 = .ok (.istore_n 2, 1) := by decide +kernel
theorem dX2_countAfloat_4 : decode cX2_countAfloat 4 = .ok (.iload_n 2, 1) := by decide +kernel
theorem dX2_countAfloat_5 : decode cX2_countAfloat 5 = .ok (.bipush 6, 2) := by decide +kernel
theorem dX2_countAfloat_7 : decode cX2_countAfloat 7 = .ok (.if_icmp .ge 20, 3) := by decide +kernel
theorem dX2_countAfloat_10 : decode cX2_countAfloat 10 = .ok (.aload_n 0, 1) := by decide +kernel
theorem dX2_countAfloat_11 : decode cX2_countAfloat 11 = .ok (.iload_n 2, 1) := by decide +kernel
theorem dX2_countAfloat_12 : decode cX2_countAfloat 12 = .ok (.invokevirtual 65, 3) := by decide +kernel
theorem dX2_countAfloat_15 : decode cX2_countAfloat 15 = .ok (.ifnull 6, 3) := by decide +kernel
theorem dX2_countAfloat_18 : decode cX2_countAfloat 18 = .ok (.iinc 1 1, 3) := by decide +kernel
theorem dX2_countAfloat_21 : decode cX2_countAfloat 21 = .ok (.iinc 2 1, 3) := by decide +kernel
theorem dX2_countAfloat_24 : decode cX2_countAfloat 24 = .ok (.goto (-20), 3) := by decide +kernel
theorem dX2_countAfloat_27 : decode cX2_countAfloat 27 = .ok (.iload_n 1, 1) := by decide +kernel
theorem dX2_countAfloat_28 : decode cX2_countAfloat 28 = .ok (.ireturn, 1) := by decide +kernel
theorem dX2_riskWith_0 : decode cX2_riskWith 0 = .ok (.aload_n 1, 1) := by decide +kernel
theorem dX2_riskWith_1 : decode cX2_riskWith 1 = .ok (.getfield 68, 3) := by decide +kernel
theorem dX2_riskWith_4 : decode cX2_riskWith 4 = .ok (.iconst 3, 1) := by decide +kernel
theorem dX2_riskWith_5 : decode cX2_riskWith 5 = .ok (.iload_n 2, 1) := by decide +kernel
theorem dX2_riskWith_6 : decode cX2_riskWith 6 = .ok (.imul, 1) := by decide +kernel
theorem dX2_riskWith_7 : decode cX2_riskWith 7 = .ok (.iadd, 1) := by decide +kernel
theorem dX2_riskWith_8 : decode cX2_riskWith 8 = .ok (.bipush 15, 2) := by decide +kernel
theorem dX2_riskWith_10 : decode cX2_riskWith 10 = .ok (.aload_n 0, 1) := by decide +kernel
theorem dX2_riskWith_11 : decode cX2_riskWith 11 = .ok (.getfield 33, 3) := by decide +kernel
theorem dX2_riskWith_14 : decode cX2_riskWith 14 = .ok (.imul, 1) := by decide +kernel
theorem dX2_riskWith_15 : decode cX2_riskWith 15 = .ok (.iadd, 1) := by decide +kernel
theorem dX2_riskWith_16 : decode cX2_riskWith 16 = .ok (.ireturn, 1) := by decide +kernel
theorem dX2_hundredfoldMean_0 : decode cX2_hundredfoldMean 0 = .ok (.aload_n 0, 1) := by decide +kernel
theorem dX2_hundredfoldMean_1 : decode cX2_hundredfoldMean 1 = .ok (.aload_n 1, 1) := by decide +kernel
theorem dX2_hundredfoldMean_2 : decode cX2_hundredfoldMean 2 = .ok (.iload_n 2, 1) := by decide +kernel
theorem dX2_hundredfoldMean_3 : decode cX2_hundredfoldMean 3 = .ok (.invokevirtual 71, 3) := by decide +kernel
theorem dX2_hundredfoldMean_6 : decode cX2_hundredfoldMean 6 = .ok (.istore 4, 2) := by decide +kernel
theorem dX2_hundredfoldMean_8 : decode cX2_hundredfoldMean 8 = .ok (.iload 4, 2) := by decide +kernel
theorem dX2_hundredfoldMean_10 : decode cX2_hundredfoldMean 10 = .ok (.iload_n 3, 1) := by decide +kernel
theorem dX2_hundredfoldMean_11 : decode cX2_hundredfoldMean 11 = .ok (.aload_n 1, 1) := by decide +kernel
theorem dX2_hundredfoldMean_12 : decode cX2_hundredfoldMean 12 = .ok (.getfield 75, 3) := by decide +kernel
theorem dX2_hundredfoldMean_15 : decode cX2_hundredfoldMean 15 = .ok (.isub, 1) := by decide +kernel
theorem dX2_hundredfoldMean_16 : decode cX2_hundredfoldMean 16 = .ok (.imul, 1) := by decide +kernel
theorem dX2_hundredfoldMean_17 : decode cX2_hundredfoldMean 17 = .ok (.bipush 100, 2) := by decide +kernel
theorem dX2_hundredfoldMean_19 : decode cX2_hundredfoldMean 19 = .ok (.iload 4, 2) := by decide +kernel
theorem dX2_hundredfoldMean_21 : decode cX2_hundredfoldMean 21 = .ok (.isub, 1) := by decide +kernel
theorem dX2_hundredfoldMean_22 : decode cX2_hundredfoldMean 22 = .ok (.iload_n 2, 1) := by decide +kernel
theorem dX2_hundredfoldMean_23 : decode cX2_hundredfoldMean 23 = .ok (.imul, 1) := by decide +kernel
theorem dX2_hundredfoldMean_24 : decode cX2_hundredfoldMean 24 = .ok (.aload_n 0, 1) := by decide +kernel
theorem dX2_hundredfoldMean_25 : decode cX2_hundredfoldMean 25 = .ok (.getfield 22, 3) := by decide +kernel
theorem dX2_hundredfoldMean_28 : decode cX2_hundredfoldMean 28 = .ok (.imul, 1) := by decide +kernel
theorem dX2_hundredfoldMean_29 : decode cX2_hundredfoldMean 29 = .ok (.iadd, 1) := by decide +kernel
theorem dX2_hundredfoldMean_30 : decode cX2_hundredfoldMean 30 = .ok (.ireturn, 1) := by decide +kernel
theorem dX2_hundredfoldMeanOfAll_0 : decode cX2_hundredfoldMeanOfAll 0 = .ok (.iconst 0, 1) := by decide +kernel
theorem dX2_hundredfoldMeanOfAll_1 : decode cX2_hundredfoldMeanOfAll 1 = .ok (.istore_n 1, 1) := by decide +kernel
theorem dX2_hundredfoldMeanOfAll_2 : decode cX2_hundredfoldMeanOfAll 2 = .ok (.iconst 0, 1) := by decide +kernel
theorem dX2_hundredfoldMeanOfAll_3 : decode cX2_hundredfoldMeanOfAll 3 = .ok (.istore_n 2, 1) := by decide +kernel
theorem dX2_hundredfoldMeanOfAll_4 : decode cX2_hundredfoldMeanOfAll 4 = .ok (.iload_n 2, 1) := by decide +kernel
theorem dX2_hundredfoldMeanOfAll_5 : decode cX2_hundredfoldMeanOfAll 5 = .ok (.bipush 6, 2) := by decide +kernel
theorem dX2_hundredfoldMeanOfAll_7 : decode cX2_hundredfoldMeanOfAll 7 = .ok (.if_icmp .ge 35, 3) := by decide +kernel
theorem dX2_hundredfoldMeanOfAll_10 : decode cX2_hundredfoldMeanOfAll 10 = .ok (.aload_n 0, 1) := by decide +kernel
theorem dX2_hundredfoldMeanOfAll_11 : decode cX2_hundredfoldMeanOfAll 11 = .ok (.iload_n 2, 1) := by decide +kernel
theorem dX2_hundredfoldMeanOfAll_12 : decode cX2_hundredfoldMeanOfAll 12 = .ok (.invokevirtual 65, 3) := by decide +kernel
theorem dX2_hundredfoldMeanOfAll_15 : decode cX2_hundredfoldMeanOfAll 15 = .ok (.astore_n 3, 1) := by decide +kernel
theorem dX2_hundredfoldMeanOfAll_16 : decode cX2_hundredfoldMeanOfAll 16 = .ok (.aload_n 3, 1) := by decide +kernel
theorem dX2_hundredfoldMeanOfAll_17 : decode cX2_hundredfoldMeanOfAll 17 = .ok (.ifnull 19, 3) := by decide +kernel
theorem dX2_hundredfoldMeanOfAll_20 : decode cX2_hundredfoldMeanOfAll 20 = .ok (.iload_n 1, 1) := by decide +kernel
theorem dX2_hundredfoldMeanOfAll_21 : decode cX2_hundredfoldMeanOfAll 21 = .ok (.aload_n 0, 1) := by decide +kernel
theorem dX2_hundredfoldMeanOfAll_22 : decode cX2_hundredfoldMeanOfAll 22 = .ok (.aload_n 3, 1) := by decide +kernel
theorem dX2_hundredfoldMeanOfAll_23 : decode cX2_hundredfoldMeanOfAll 23 = .ok (.aload_n 3, 1) := by decide +kernel
theorem dX2_hundredfoldMeanOfAll_24 : decode cX2_hundredfoldMeanOfAll 24 = .ok (.getfield 78, 3) := by decide +kernel
theorem dX2_hundredfoldMeanOfAll_27 : decode cX2_hundredfoldMeanOfAll 27 = .ok (.aload_n 3, 1) := by decide +kernel
theorem dX2_hundredfoldMeanOfAll_28 : decode cX2_hundredfoldMeanOfAll 28 = .ok (.invokevirtual 81, 3) := by decide +kernel
theorem dX2_hundredfoldMeanOfAll_31 : decode cX2_hundredfoldMeanOfAll 31 = .ok (.invokevirtual 84, 3) := by decide +kernel
theorem dX2_hundredfoldMeanOfAll_34 : decode cX2_hundredfoldMeanOfAll 34 = .ok (.iadd, 1) := by decide +kernel
theorem dX2_hundredfoldMeanOfAll_35 : decode cX2_hundredfoldMeanOfAll 35 = .ok (.istore_n 1, 1) := by decide +kernel
theorem dX2_hundredfoldMeanOfAll_36 : decode cX2_hundredfoldMeanOfAll 36 = .ok (.iinc 2 1, 3) := by decide +kernel
theorem dX2_hundredfoldMeanOfAll_39 : decode cX2_hundredfoldMeanOfAll 39 = .ok (.goto (-35), 3) := by decide +kernel
theorem dX2_hundredfoldMeanOfAll_42 : decode cX2_hundredfoldMeanOfAll 42 = .ok (.iload_n 1, 1) := by decide +kernel
theorem dX2_hundredfoldMeanOfAll_43 : decode cX2_hundredfoldMeanOfAll 43 = .ok (.ireturn, 1) := by decide +kernel
theorem dX2_deepestFor_0 : decode cX2_deepestFor 0 = .ok (.iconst 1, 1) := by decide +kernel
theorem dX2_deepestFor_1 : decode cX2_deepestFor 1 = .ok (.istore_n 3, 1) := by decide +kernel
theorem dX2_deepestFor_2 : decode cX2_deepestFor 2 = .ok (.iconst 2, 1) := by decide +kernel
theorem dX2_deepestFor_3 : decode cX2_deepestFor 3 = .ok (.istore 4, 2) := by decide +kernel
theorem dX2_deepestFor_5 : decode cX2_deepestFor 5 = .ok (.iload 4, 2) := by decide +kernel
theorem dX2_deepestFor_7 : decode cX2_deepestFor 7 = .ok (.bipush 9, 2) := by decide +kernel
theorem dX2_deepestFor_9 : decode cX2_deepestFor 9 = .ok (.if_icmp .gt 30, 3) := by decide +kernel
theorem dX2_deepestFor_12 : decode cX2_deepestFor 12 = .ok (.aload_n 0, 1) := by decide +kernel
theorem dX2_deepestFor_13 : decode cX2_deepestFor 13 = .ok (.aload_n 1, 1) := by decide +kernel
theorem dX2_deepestFor_14 : decode cX2_deepestFor 14 = .ok (.iload 4, 2) := by decide +kernel
theorem dX2_deepestFor_16 : decode cX2_deepestFor 16 = .ok (.iload_n 2, 1) := by decide +kernel
theorem dX2_deepestFor_17 : decode cX2_deepestFor 17 = .ok (.invokevirtual 84, 3) := by decide +kernel
theorem dX2_deepestFor_20 : decode cX2_deepestFor 20 = .ok (.aload_n 0, 1) := by decide +kernel
theorem dX2_deepestFor_21 : decode cX2_deepestFor 21 = .ok (.aload_n 1, 1) := by decide +kernel
theorem dX2_deepestFor_22 : decode cX2_deepestFor 22 = .ok (.iload_n 3, 1) := by decide +kernel
theorem dX2_deepestFor_23 : decode cX2_deepestFor 23 = .ok (.iload_n 2, 1) := by decide +kernel
theorem dX2_deepestFor_24 : decode cX2_deepestFor 24 = .ok (.invokevirtual 84, 3) := by decide +kernel
theorem dX2_deepestFor_27 : decode cX2_deepestFor 27 = .ok (.if_icmp .le 6, 3) := by decide +kernel
theorem dX2_deepestFor_30 : decode cX2_deepestFor 30 = .ok (.iload 4, 2) := by decide +kernel
theorem dX2_deepestFor_32 : decode cX2_deepestFor 32 = .ok (.istore_n 3, 1) := by decide +kernel
theorem dX2_deepestFor_33 : decode cX2_deepestFor 33 = .ok (.iinc 4 1, 3) := by decide +kernel
theorem dX2_deepestFor_36 : decode cX2_deepestFor 36 = .ok (.goto (-31), 3) := by decide +kernel
theorem dX2_deepestFor_39 : decode cX2_deepestFor 39 = .ok (.iload_n 3, 1) := by decide +kernel
theorem dX2_deepestFor_40 : decode cX2_deepestFor 40 = .ok (.ireturn, 1) := by decide +kernel
theorem dX2_fillChances_0 : decode cX2_fillChances 0 = .ok (.iconst 0, 1) := by decide +kernel
theorem dX2_fillChances_1 : decode cX2_fillChances 1 = .ok (.istore_n 2, 1) := by decide +kernel
theorem dX2_fillChances_2 : decode cX2_fillChances 2 = .ok (.iload_n 2, 1) := by decide +kernel
theorem dX2_fillChances_3 : decode cX2_fillChances 3 = .ok (.aload_n 1, 1) := by decide +kernel
theorem dX2_fillChances_4 : decode cX2_fillChances 4 = .ok (.arraylength, 1) := by decide +kernel
theorem dX2_fillChances_5 : decode cX2_fillChances 5 = .ok (.if_icmp .ge 21, 3) := by decide +kernel
theorem dX2_fillChances_8 : decode cX2_fillChances 8 = .ok (.aload_n 1, 1) := by decide +kernel
theorem dX2_fillChances_9 : decode cX2_fillChances 9 = .ok (.iload_n 2, 1) := by decide +kernel
theorem dX2_fillChances_10 : decode cX2_fillChances 10 = .ok (.iload_n 2, 1) := by decide +kernel
theorem dX2_fillChances_11 : decode cX2_fillChances 11 = .ok (.ifCond .ne 7, 3) := by decide +kernel
theorem dX2_fillChances_14 : decode cX2_fillChances 14 = .ok (.lconst 1, 1) := by decide +kernel
theorem dX2_fillChances_15 : decode cX2_fillChances 15 = .ok (.goto 4, 3) := by decide +kernel
theorem dX2_fillChances_18 : decode cX2_fillChances 18 = .ok (.lconst 0, 1) := by decide +kernel
theorem dX2_fillChances_19 : decode cX2_fillChances 19 = .ok (.lastore, 1) := by decide +kernel
theorem dX2_fillChances_20 : decode cX2_fillChances 20 = .ok (.iinc 2 1, 3) := by decide +kernel
theorem dX2_fillChances_23 : decode cX2_fillChances 23 = .ok (.goto (-21), 3) := by decide +kernel
theorem dX2_fillChances_26 : decode cX2_fillChances 26 = .ok (.lconst 1, 1) := by decide +kernel
theorem dX2_fillChances_27 : decode cX2_fillChances 27 = .ok (.lstore_n 2, 1) := by decide +kernel
theorem dX2_fillChances_28 : decode cX2_fillChances 28 = .ok (.iconst 0, 1) := by decide +kernel
theorem dX2_fillChances_29 : decode cX2_fillChances 29 = .ok (.istore 4, 2) := by decide +kernel
theorem dX2_fillChances_31 : decode cX2_fillChances 31 = .ok (.iload 4, 2) := by decide +kernel
theorem dX2_fillChances_33 : decode cX2_fillChances 33 = .ok (.bipush 6, 2) := by decide +kernel
theorem dX2_fillChances_35 : decode cX2_fillChances 35 = .ok (.if_icmp .ge 43, 3) := by decide +kernel
theorem dX2_fillChances_38 : decode cX2_fillChances 38 = .ok (.aload_n 0, 1) := by decide +kernel
theorem dX2_fillChances_39 : decode cX2_fillChances 39 = .ok (.iload 4, 2) := by decide +kernel
theorem dX2_fillChances_41 : decode cX2_fillChances 41 = .ok (.invokevirtual 65, 3) := by decide +kernel
theorem dX2_fillChances_44 : decode cX2_fillChances 44 = .ok (.astore 5, 2) := by decide +kernel
theorem dX2_fillChances_46 : decode cX2_fillChances 46 = .ok (.aload 5, 2) := by decide +kernel
theorem dX2_fillChances_48 : decode cX2_fillChances 48 = .ok (.ifnull 24, 3) := by decide +kernel
theorem dX2_fillChances_51 : decode cX2_fillChances 51 = .ok (.aload_n 1, 1) := by decide +kernel
theorem dX2_fillChances_52 : decode cX2_fillChances 52 = .ok (.aload_n 0, 1) := by decide +kernel
theorem dX2_fillChances_53 : decode cX2_fillChances 53 = .ok (.aload 5, 2) := by decide +kernel
theorem dX2_fillChances_55 : decode cX2_fillChances 55 = .ok (.aload 5, 2) := by decide +kernel
theorem dX2_fillChances_57 : decode cX2_fillChances 57 = .ok (.getfield 78, 3) := by decide +kernel
theorem dX2_fillChances_60 : decode cX2_fillChances 60 = .ok (.invokevirtual 71, 3) := by decide +kernel
theorem dX2_fillChances_63 : decode cX2_fillChances 63 = .ok (.invokestatic 88, 3) := by decide +kernel
theorem dX2_fillChances_66 : decode cX2_fillChances 66 = .ok (.lload_n 2, 1) := by decide +kernel
theorem dX2_fillChances_67 : decode cX2_fillChances 67 = .ok (.ldc2_w 92, 3) := by decide +kernel
theorem dX2_fillChances_70 : decode cX2_fillChances 70 = .ok (.lmul, 1) := by decide +kernel
theorem dX2_fillChances_71 : decode cX2_fillChances 71 = .ok (.lstore_n 2, 1) := by decide +kernel
theorem dX2_fillChances_72 : decode cX2_fillChances 72 = .ok (.iinc 4 1, 3) := by decide +kernel
theorem dX2_fillChances_75 : decode cX2_fillChances 75 = .ok (.goto (-44), 3) := by decide +kernel
theorem dX2_fillChances_78 : decode cX2_fillChances 78 = .ok (.lload_n 2, 1) := by decide +kernel
theorem dX2_fillChances_79 : decode cX2_fillChances 79 = .ok (.lreturn, 1) := by decide +kernel
theorem dX2_addChance_0 : decode cX2_addChance 0 = .ok (.aload_n 0, 1) := by decide +kernel
theorem dX2_addChance_1 : decode cX2_addChance 1 = .ok (.arraylength, 1) := by decide +kernel
theorem dX2_addChance_2 : decode cX2_addChance 2 = .ok (.iconst 1, 1) := by decide +kernel
theorem dX2_addChance_3 : decode cX2_addChance 3 = .ok (.isub, 1) := by decide +kernel
theorem dX2_addChance_4 : decode cX2_addChance 4 = .ok (.istore_n 2, 1) := by decide +kernel
theorem dX2_addChance_5 : decode cX2_addChance 5 = .ok (.iload_n 2, 1) := by decide +kernel
theorem dX2_addChance_6 : decode cX2_addChance 6 = .ok (.ifCond .lt 40, 3) := by decide +kernel
theorem dX2_addChance_9 : decode cX2_addChance 9 = .ok (.iload_n 2, 1) := by decide +kernel
theorem dX2_addChance_10 : decode cX2_addChance 10 = .ok (.ifCond .le 11, 3) := by decide +kernel
theorem dX2_addChance_13 : decode cX2_addChance 13 = .ok (.aload_n 0, 1) := by decide +kernel
theorem dX2_addChance_14 : decode cX2_addChance 14 = .ok (.iload_n 2, 1) := by decide +kernel
theorem dX2_addChance_15 : decode cX2_addChance 15 = .ok (.iconst 1, 1) := by decide +kernel
theorem dX2_addChance_16 : decode cX2_addChance 16 = .ok (.isub, 1) := by decide +kernel
theorem dX2_addChance_17 : decode cX2_addChance 17 = .ok (.laload, 1) := by decide +kernel
theorem dX2_addChance_18 : decode cX2_addChance 18 = .ok (.goto 4, 3) := by decide +kernel
theorem dX2_addChance_21 : decode cX2_addChance 21 = .ok (.lconst 0, 1) := by decide +kernel
theorem dX2_addChance_22 : decode cX2_addChance 22 = .ok (.lstore_n 3, 1) := by decide +kernel
theorem dX2_addChance_23 : decode cX2_addChance 23 = .ok (.aload_n 0, 1) := by decide +kernel
theorem dX2_addChance_24 : decode cX2_addChance 24 = .ok (.iload_n 2, 1) := by decide +kernel
theorem dX2_addChance_25 : decode cX2_addChance 25 = .ok (.aload_n 0, 1) := by decide +kernel
theorem dX2_addChance_26 : decode cX2_addChance 26 = .ok (.iload_n 2, 1) := by decide +kernel
theorem dX2_addChance_27 : decode cX2_addChance 27 = .ok (.laload, 1) := by decide +kernel
theorem dX2_addChance_28 : decode cX2_addChance 28 = .ok (.bipush 100, 2) := by decide +kernel
theorem dX2_addChance_30 : decode cX2_addChance 30 = .ok (.iload_n 1, 1) := by decide +kernel
theorem dX2_addChance_31 : decode cX2_addChance 31 = .ok (.isub, 1) := by decide +kernel
theorem dX2_addChance_32 : decode cX2_addChance 32 = .ok (.i2l, 1) := by decide +kernel
theorem dX2_addChance_33 : decode cX2_addChance 33 = .ok (.lmul, 1) := by decide +kernel
theorem dX2_addChance_34 : decode cX2_addChance 34 = .ok (.lload_n 3, 1) := by decide +kernel
theorem dX2_addChance_35 : decode cX2_addChance 35 = .ok (.iload_n 1, 1) := by decide +kernel
theorem dX2_addChance_36 : decode cX2_addChance 36 = .ok (.i2l, 1) := by decide +kernel
theorem dX2_addChance_37 : decode cX2_addChance 37 = .ok (.lmul, 1) := by decide +kernel
theorem dX2_addChance_38 : decode cX2_addChance 38 = .ok (.ladd, 1) := by decide +kernel
theorem dX2_addChance_39 : decode cX2_addChance 39 = .ok (.lastore, 1) := by decide +kernel
theorem dX2_addChance_40 : decode cX2_addChance 40 = .ok (.iinc 2 (-1), 3) := by decide +kernel
theorem dX2_addChance_43 : decode cX2_addChance 43 = .ok (.goto (-38), 3) := by decide +kernel
theorem dX2_addChance_46 : decode cX2_addChance 46 = .ok (.return_, 1) := by decide +kernel
theorem dX2_reasonAgainst_0 : decode cX2_reasonAgainst 0 = .ok (.iload_n 1, 1) := by decide +kernel
theorem dX2_reasonAgainst_1 : decode cX2_reasonAgainst 1 = .ok (.bipush 46, 2) := by decide +kernel
theorem dX2_reasonAgainst_3 : decode cX2_reasonAgainst 3 = .ok (.if_icmp .ne 19, 3) := by decide +kernel
theorem dX2_reasonAgainst_6 : decode cX2_reasonAgainst 6 = .ok (.aload_n 0, 1) := by decide +kernel
theorem dX2_reasonAgainst_7 : decode cX2_reasonAgainst 7 = .ok (.getfield 36, 3) := by decide +kernel
theorem dX2_reasonAgainst_10 : decode cX2_reasonAgainst 10 = .ok (.bipush 99, 2) := by decide +kernel
theorem dX2_reasonAgainst_12 : decode cX2_reasonAgainst 12 = .ok (.if_icmp .lt 8, 3) := by decide +kernel
theorem dX2_reasonAgainst_15 : decode cX2_reasonAgainst 15 = .ok (.bipush 6, 2) := by decide +kernel
theorem dX2_reasonAgainst_17 : decode cX2_reasonAgainst 17 = .ok (.goto 4, 3) := by decide +kernel
theorem dX2_reasonAgainst_20 : decode cX2_reasonAgainst 20 = .ok (.iconst 0, 1) := by decide +kernel
theorem dX2_reasonAgainst_21 : decode cX2_reasonAgainst 21 = .ok (.ireturn, 1) := by decide +kernel
theorem dX2_reasonAgainst_22 : decode cX2_reasonAgainst 22 = .ok (.aload_n 0, 1) := by decide +kernel
theorem dX2_reasonAgainst_23 : decode cX2_reasonAgainst 23 = .ok (.iload_n 2, 1) := by decide +kernel
theorem dX2_reasonAgainst_24 : decode cX2_reasonAgainst 24 = .ok (.invokevirtual 49, 3) := by decide +kernel
theorem dX2_reasonAgainst_27 : decode cX2_reasonAgainst 27 = .ok (.astore 4, 2) := by decide +kernel
theorem dX2_reasonAgainst_29 : decode cX2_reasonAgainst 29 = .ok (.aload 4, 2) := by decide +kernel
theorem dX2_reasonAgainst_31 : decode cX2_reasonAgainst 31 = .ok (.ifnonnull 5, 3) := by decide +kernel
theorem dX2_reasonAgainst_34 : decode cX2_reasonAgainst 34 = .ok (.iconst 1, 1) := by decide +kernel
theorem dX2_reasonAgainst_35 : decode cX2_reasonAgainst 35 = .ok (.ireturn, 1) := by decide +kernel
theorem dX2_reasonAgainst_36 : decode cX2_reasonAgainst 36 = .ok (.aload 4, 2) := by decide +kernel
theorem dX2_reasonAgainst_38 : decode cX2_reasonAgainst 38 = .ok (.getfield 52, 3) := by decide +kernel
theorem dX2_reasonAgainst_41 : decode cX2_reasonAgainst 41 = .ok (.ifCond .ne 5, 3) := by decide +kernel
theorem dX2_reasonAgainst_44 : decode cX2_reasonAgainst 44 = .ok (.iconst 2, 1) := by decide +kernel
theorem dX2_reasonAgainst_45 : decode cX2_reasonAgainst 45 = .ok (.ireturn, 1) := by decide +kernel
theorem dX2_reasonAgainst_46 : decode cX2_reasonAgainst 46 = .ok (.iload_n 1, 1) := by decide +kernel
theorem dX2_reasonAgainst_47 : decode cX2_reasonAgainst 47 = .ok (.lookupswitch 83 #[(105, 41), (108, 61), (115, 76), (120, 76)], 41) := by decide +kernel
theorem dX2_reasonAgainst_88 : decode cX2_reasonAgainst 88 = .ok (.aload 4, 2) := by decide +kernel
theorem dX2_reasonAgainst_90 : decode cX2_reasonAgainst 90 = .ok (.iload_n 3, 1) := by decide +kernel
theorem dX2_reasonAgainst_91 : decode cX2_reasonAgainst 91 = .ok (.invokevirtual 94, 3) := by decide +kernel
theorem dX2_reasonAgainst_94 : decode cX2_reasonAgainst 94 = .ok (.bipush 10, 2) := by decide +kernel
theorem dX2_reasonAgainst_96 : decode cX2_reasonAgainst 96 = .ok (.iadd, 1) := by decide +kernel
theorem dX2_reasonAgainst_97 : decode cX2_reasonAgainst 97 = .ok (.bipush 99, 2) := by decide +kernel
theorem dX2_reasonAgainst_99 : decode cX2_reasonAgainst 99 = .ok (.if_icmp .le 7, 3) := by decide +kernel
theorem dX2_reasonAgainst_102 : decode cX2_reasonAgainst 102 = .ok (.iconst 3, 1) := by decide +kernel
theorem dX2_reasonAgainst_103 : decode cX2_reasonAgainst 103 = .ok (.goto 4, 3) := by decide +kernel
theorem dX2_reasonAgainst_106 : decode cX2_reasonAgainst 106 = .ok (.iconst 0, 1) := by decide +kernel
theorem dX2_reasonAgainst_107 : decode cX2_reasonAgainst 107 = .ok (.ireturn, 1) := by decide +kernel
theorem dX2_reasonAgainst_108 : decode cX2_reasonAgainst 108 = .ok (.aload 4, 2) := by decide +kernel
theorem dX2_reasonAgainst_110 : decode cX2_reasonAgainst 110 = .ok (.getfield 78, 3) := by decide +kernel
theorem dX2_reasonAgainst_113 : decode cX2_reasonAgainst 113 = .ok (.iload_n 3, 1) := by decide +kernel
theorem dX2_reasonAgainst_114 : decode cX2_reasonAgainst 114 = .ok (.if_icmp .ne 7, 3) := by decide +kernel
theorem dX2_reasonAgainst_117 : decode cX2_reasonAgainst 117 = .ok (.iconst 4, 1) := by decide +kernel
theorem dX2_reasonAgainst_118 : decode cX2_reasonAgainst 118 = .ok (.goto 4, 3) := by decide +kernel
theorem dX2_reasonAgainst_121 : decode cX2_reasonAgainst 121 = .ok (.iconst 0, 1) := by decide +kernel
theorem dX2_reasonAgainst_122 : decode cX2_reasonAgainst 122 = .ok (.ireturn, 1) := by decide +kernel
theorem dX2_reasonAgainst_123 : decode cX2_reasonAgainst 123 = .ok (.aload_n 0, 1) := by decide +kernel
theorem dX2_reasonAgainst_124 : decode cX2_reasonAgainst 124 = .ok (.aload 4, 2) := by decide +kernel
theorem dX2_reasonAgainst_126 : decode cX2_reasonAgainst 126 = .ok (.invokevirtual 97, 3) := by decide +kernel
theorem dX2_reasonAgainst_129 : decode cX2_reasonAgainst 129 = .ok (.ireturn, 1) := by decide +kernel
theorem dX2_reasonAgainst_130 : decode cX2_reasonAgainst 130 = .ok (.iconst 0, 1) := by decide +kernel
theorem dX2_reasonAgainst_131 : decode cX2_reasonAgainst 131 = .ok (.ireturn, 1) := by decide +kernel
theorem dX2_reasonAgainstSailing_0 : decode cX2_reasonAgainstSailing 0 = .ok (.aload_n 1, 1) := by decide +kernel
theorem dX2_reasonAgainstSailing_1 : decode cX2_reasonAgainstSailing 1 = .ok (.getfield 78, 3) := by decide +kernel
theorem dX2_reasonAgainstSailing_4 : decode cX2_reasonAgainstSailing 4 = .ok (.ifCond .ne 5, 3) := by decide +kernel
theorem dX2_reasonAgainstSailing_7 : decode cX2_reasonAgainstSailing 7 = .ok (.iconst 4, 1) := by decide +kernel
theorem dX2_reasonAgainstSailing_8 : decode cX2_reasonAgainstSailing 8 = .ok (.ireturn, 1) := by decide +kernel
theorem dX2_reasonAgainstSailing_9 : decode cX2_reasonAgainstSailing 9 = .ok (.aload_n 0, 1) := by decide +kernel
theorem dX2_reasonAgainstSailing_10 : decode cX2_reasonAgainstSailing 10 = .ok (.aload_n 1, 1) := by decide +kernel
theorem dX2_reasonAgainstSailing_11 : decode cX2_reasonAgainstSailing 11 = .ok (.aload_n 1, 1) := by decide +kernel
theorem dX2_reasonAgainstSailing_12 : decode cX2_reasonAgainstSailing 12 = .ok (.getfield 78, 3) := by decide +kernel
theorem dX2_reasonAgainstSailing_15 : decode cX2_reasonAgainstSailing 15 = .ok (.invokevirtual 71, 3) := by decide +kernel
theorem dX2_reasonAgainstSailing_18 : decode cX2_reasonAgainstSailing 18 = .ok (.aload_n 0, 1) := by decide +kernel
theorem dX2_reasonAgainstSailing_19 : decode cX2_reasonAgainstSailing 19 = .ok (.getfield 18, 3) := by decide +kernel
theorem dX2_reasonAgainstSailing_22 : decode cX2_reasonAgainstSailing 22 = .ok (.if_icmp .le 7, 3) := by decide +kernel
theorem dX2_reasonAgainstSailing_25 : decode cX2_reasonAgainstSailing 25 = .ok (.iconst 5, 1) := by decide +kernel
theorem dX2_reasonAgainstSailing_26 : decode cX2_reasonAgainstSailing 26 = .ok (.goto 4, 3) := by decide +kernel
theorem dX2_reasonAgainstSailing_29 : decode cX2_reasonAgainstSailing 29 = .ok (.iconst 0, 1) := by decide +kernel
theorem dX2_reasonAgainstSailing_30 : decode cX2_reasonAgainstSailing 30 = .ok (.ireturn, 1) := by decide +kernel
theorem dX2_act_0 : decode cX2_act 0 = .ok (.iload_n 1, 1) := by decide +kernel
theorem dX2_act_1 : decode cX2_act 1 = .ok (.bipush 46, 2) := by decide +kernel
theorem dX2_act_3 : decode cX2_act 3 = .ok (.if_icmp .ne 24, 3) := by decide +kernel
theorem dX2_act_6 : decode cX2_act 6 = .ok (.aload_n 0, 1) := by decide +kernel
theorem dX2_act_7 : decode cX2_act 7 = .ok (.iconst 1, 1) := by decide +kernel
theorem dX2_act_8 : decode cX2_act 8 = .ok (.aload_n 0, 1) := by decide +kernel
theorem dX2_act_9 : decode cX2_act 9 = .ok (.getfield 33, 3) := by decide +kernel
theorem dX2_act_12 : decode cX2_act 12 = .ok (.isub, 1) := by decide +kernel
theorem dX2_act_13 : decode cX2_act 13 = .ok (.putfield 33, 3) := by decide +kernel
theorem dX2_act_16 : decode cX2_act 16 = .ok (.aload_n 0, 1) := by decide +kernel
theorem dX2_act_17 : decode cX2_act 17 = .ok (.dup, 1) := by decide +kernel
theorem dX2_act_18 : decode cX2_act 18 = .ok (.getfield 36, 3) := by decide +kernel
theorem dX2_act_21 : decode cX2_act 21 = .ok (.iconst 1, 1) := by decide +kernel
theorem dX2_act_22 : decode cX2_act 22 = .ok (.iadd, 1) := by decide +kernel
theorem dX2_act_23 : decode cX2_act 23 = .ok (.putfield 36, 3) := by decide +kernel
theorem dX2_act_26 : decode cX2_act 26 = .ok (.return_, 1) := by decide +kernel
theorem dX2_act_27 : decode cX2_act 27 = .ok (.aload_n 0, 1) := by decide +kernel
theorem dX2_act_28 : decode cX2_act 28 = .ok (.iload_n 2, 1) := by decide +kernel
theorem dX2_act_29 : decode cX2_act 29 = .ok (.invokevirtual 49, 3) := by decide +kernel
theorem dX2_act_32 : decode cX2_act 32 = .ok (.astore 4, 2) := by decide +kernel
theorem dX2_act_34 : decode cX2_act 34 = .ok (.aload 4, 2) := by decide +kernel
theorem dX2_act_36 : decode cX2_act 36 = .ok (.ifnonnull 4, 3) := by decide +kernel
theorem dX2_act_39 : decode cX2_act 39 = .ok (.return_, 1) := by decide +kernel
theorem dX2_act_40 : decode cX2_act 40 = .ok (.iload_n 1, 1) := by decide +kernel
theorem dX2_act_41 : decode cX2_act 41 = .ok (.lookupswitch 110 #[(105, 51), (108, 69), (112, 78), (115, 92), (120, 101)], 51) := by decide +kernel
theorem dX2_act_92 : decode cX2_act 92 = .ok (.aload 4, 2) := by decide +kernel
theorem dX2_act_94 : decode cX2_act 94 = .ok (.iload_n 3, 1) := by decide +kernel
theorem dX2_act_95 : decode cX2_act 95 = .ok (.aload 4, 2) := by decide +kernel
theorem dX2_act_97 : decode cX2_act 97 = .ok (.iload_n 3, 1) := by decide +kernel
theorem dX2_act_98 : decode cX2_act 98 = .ok (.invokevirtual 94, 3) := by decide +kernel
theorem dX2_act_101 : decode cX2_act 101 = .ok (.bipush 10, 2) := by decide +kernel
theorem dX2_act_103 : decode cX2_act 103 = .ok (.iadd, 1) := by decide +kernel
theorem dX2_act_104 : decode cX2_act 104 = .ok (.invokevirtual 101, 3) := by decide +kernel
theorem dX2_act_107 : decode cX2_act 107 = .ok (.goto 44, 3) := by decide +kernel
theorem dX2_act_110 : decode cX2_act 110 = .ok (.aload 4, 2) := by decide +kernel
theorem dX2_act_112 : decode cX2_act 112 = .ok (.iload_n 3, 1) := by decide +kernel
theorem dX2_act_113 : decode cX2_act 113 = .ok (.putfield 78, 3) := by decide +kernel
theorem dX2_act_116 : decode cX2_act 116 = .ok (.goto 35, 3) := by decide +kernel
theorem dX2_act_119 : decode cX2_act 119 = .ok (.aload 4, 2) := by decide +kernel
theorem dX2_act_121 : decode cX2_act 121 = .ok (.dup, 1) := by decide +kernel
theorem dX2_act_122 : decode cX2_act 122 = .ok (.getfield 68, 3) := by decide +kernel
theorem dX2_act_125 : decode cX2_act 125 = .ok (.iconst 2, 1) := by decide +kernel
theorem dX2_act_126 : decode cX2_act 126 = .ok (.idiv, 1) := by decide +kernel
theorem dX2_act_127 : decode cX2_act 127 = .ok (.putfield 68, 3) := by decide +kernel
theorem dX2_act_130 : decode cX2_act 130 = .ok (.goto 21, 3) := by decide +kernel
theorem dX2_act_133 : decode cX2_act 133 = .ok (.aload_n 0, 1) := by decide +kernel
theorem dX2_act_134 : decode cX2_act 134 = .ok (.aload 4, 2) := by decide +kernel
theorem dX2_act_136 : decode cX2_act 136 = .ok (.invokevirtual 105, 3) := by decide +kernel
theorem dX2_act_139 : decode cX2_act 139 = .ok (.goto 12, 3) := by decide +kernel
theorem dX2_act_142 : decode cX2_act 142 = .ok (.aload_n 0, 1) := by decide +kernel
theorem dX2_act_143 : decode cX2_act 143 = .ok (.aload 4, 2) := by decide +kernel
theorem dX2_act_145 : decode cX2_act 145 = .ok (.invokevirtual 108, 3) := by decide +kernel
theorem dX2_act_148 : decode cX2_act 148 = .ok (.goto 3, 3) := by decide +kernel
theorem dX2_act_151 : decode cX2_act 151 = .ok (.return_, 1) := by decide +kernel
theorem dX2_comeHome_0 : decode cX2_comeHome 0 = .ok (.aload_n 0, 1) := by decide +kernel
theorem dX2_comeHome_1 : decode cX2_comeHome 1 = .ok (.dup, 1) := by decide +kernel
theorem dX2_comeHome_2 : decode cX2_comeHome 2 = .ok (.getfield 39, 3) := by decide +kernel
theorem dX2_comeHome_5 : decode cX2_comeHome 5 = .ok (.aload_n 1, 1) := by decide +kernel
theorem dX2_comeHome_6 : decode cX2_comeHome 6 = .ok (.getfield 78, 3) := by decide +kernel
theorem dX2_comeHome_9 : decode cX2_comeHome 9 = .ok (.aload_n 0, 1) := by decide +kernel
theorem dX2_comeHome_10 : decode cX2_comeHome 10 = .ok (.getfield 22, 3) := by decide +kernel
theorem dX2_comeHome_13 : decode cX2_comeHome 13 = .ok (.imul, 1) := by decide +kernel
theorem dX2_comeHome_14 : decode cX2_comeHome 14 = .ok (.iadd, 1) := by decide +kernel
theorem dX2_comeHome_15 : decode cX2_comeHome 15 = .ok (.putfield 39, 3) := by decide +kernel
theorem dX2_comeHome_18 : decode cX2_comeHome 18 = .ok (.aload_n 1, 1) := by decide +kernel
theorem dX2_comeHome_19 : decode cX2_comeHome 19 = .ok (.aload_n 1, 1) := by decide +kernel
theorem dX2_comeHome_20 : decode cX2_comeHome 20 = .ok (.getfield 68, 3) := by decide +kernel
theorem dX2_comeHome_23 : decode cX2_comeHome 23 = .ok (.iconst 1, 1) := by decide +kernel
theorem dX2_comeHome_24 : decode cX2_comeHome 24 = .ok (.iadd, 1) := by decide +kernel
theorem dX2_comeHome_25 : decode cX2_comeHome 25 = .ok (.bipush 40, 2) := by decide +kernel
theorem dX2_comeHome_27 : decode cX2_comeHome 27 = .ok (.invokestatic 111, 3) := by decide +kernel
theorem dX2_comeHome_30 : decode cX2_comeHome 30 = .ok (.putfield 68, 3) := by decide +kernel
theorem dX2_comeHome_33 : decode cX2_comeHome 33 = .ok (.aload_n 1, 1) := by decide +kernel
theorem dX2_comeHome_34 : decode cX2_comeHome 34 = .ok (.iconst 0, 1) := by decide +kernel
theorem dX2_comeHome_35 : decode cX2_comeHome 35 = .ok (.putfield 78, 3) := by decide +kernel
theorem dX2_comeHome_38 : decode cX2_comeHome 38 = .ok (.return_, 1) := by decide +kernel
theorem dX2_sink_0 : decode cX2_sink 0 = .ok (.aload_n 0, 1) := by decide +kernel
theorem dX2_sink_1 : decode cX2_sink 1 = .ok (.dup, 1) := by decide +kernel
theorem dX2_sink_2 : decode cX2_sink 2 = .ok (.getfield 39, 3) := by decide +kernel
theorem dX2_sink_5 : decode cX2_sink 5 = .ok (.aload_n 1, 1) := by decide +kernel
theorem dX2_sink_6 : decode cX2_sink 6 = .ok (.invokevirtual 81, 3) := by decide +kernel
theorem dX2_sink_9 : decode cX2_sink 9 = .ok (.aload_n 1, 1) := by decide +kernel
theorem dX2_sink_10 : decode cX2_sink 10 = .ok (.getfield 75, 3) := by decide +kernel
theorem dX2_sink_13 : decode cX2_sink 13 = .ok (.isub, 1) := by decide +kernel
theorem dX2_sink_14 : decode cX2_sink 14 = .ok (.iadd, 1) := by decide +kernel
theorem dX2_sink_15 : decode cX2_sink 15 = .ok (.putfield 39, 3) := by decide +kernel
theorem dX2_sink_18 : decode cX2_sink 18 = .ok (.aload_n 0, 1) := by decide +kernel
theorem dX2_sink_19 : decode cX2_sink 19 = .ok (.dup, 1) := by decide +kernel
theorem dX2_sink_20 : decode cX2_sink 20 = .ok (.getfield 42, 3) := by decide +kernel
theorem dX2_sink_23 : decode cX2_sink 23 = .ok (.aload_n 1, 1) := by decide +kernel
theorem dX2_sink_24 : decode cX2_sink 24 = .ok (.getfield 117, 3) := by decide +kernel
theorem dX2_sink_27 : decode cX2_sink 27 = .ok (.iadd, 1) := by decide +kernel
theorem dX2_sink_28 : decode cX2_sink 28 = .ok (.putfield 42, 3) := by decide +kernel
theorem dX2_sink_31 : decode cX2_sink 31 = .ok (.aload_n 1, 1) := by decide +kernel
theorem dX2_sink_32 : decode cX2_sink 32 = .ok (.iconst 0, 1) := by decide +kernel
theorem dX2_sink_33 : decode cX2_sink 33 = .ok (.putfield 52, 3) := by decide +kernel
theorem dX2_sink_36 : decode cX2_sink 36 = .ok (.return_, 1) := by decide +kernel
theorem dX2_actAsDrawn_0 : decode cX2_actAsDrawn 0 = .ok (.iload_n 1, 1) := by decide +kernel
theorem dX2_actAsDrawn_1 : decode cX2_actAsDrawn 1 = .ok (.bipush 6, 2) := by decide +kernel
theorem dX2_actAsDrawn_3 : decode cX2_actAsDrawn 3 = .ok (.irem, 1) := by decide +kernel
theorem dX2_actAsDrawn_4 : decode cX2_actAsDrawn 4 = .ok (.istore_n 2, 1) := by decide +kernel
theorem dX2_actAsDrawn_5 : decode cX2_actAsDrawn 5 = .ok (.iload_n 1, 1) := by decide +kernel
theorem dX2_actAsDrawn_6 : decode cX2_actAsDrawn 6 = .ok (.bipush 6, 2) := by decide +kernel
theorem dX2_actAsDrawn_8 : decode cX2_actAsDrawn 8 = .ok (.idiv, 1) := by decide +kernel
theorem dX2_actAsDrawn_9 : decode cX2_actAsDrawn 9 = .ok (.bipush 8, 2) := by decide +kernel
theorem dX2_actAsDrawn_11 : decode cX2_actAsDrawn 11 = .ok (.irem, 1) := by decide +kernel
theorem dX2_actAsDrawn_12 : decode cX2_actAsDrawn 12 = .ok (.istore_n 3, 1) := by decide +kernel
theorem dX2_actAsDrawn_13 : decode cX2_actAsDrawn 13 = .ok (.iload_n 1, 1) := by decide +kernel
theorem dX2_actAsDrawn_14 : decode cX2_actAsDrawn 14 = .ok (.bipush 48, 2) := by decide +kernel
theorem dX2_actAsDrawn_16 : decode cX2_actAsDrawn 16 = .ok (.idiv, 1) := by decide +kernel
theorem dX2_actAsDrawn_17 : decode cX2_actAsDrawn 17 = .ok (.istore 4, 2) := by decide +kernel
theorem dX2_actAsDrawn_19 : decode cX2_actAsDrawn 19 = .ok (.aload_n 0, 1) := by decide +kernel
theorem dX2_actAsDrawn_20 : decode cX2_actAsDrawn 20 = .ok (.iload_n 3, 1) := by decide +kernel
theorem dX2_actAsDrawn_21 : decode cX2_actAsDrawn 21 = .ok (.iload_n 2, 1) := by decide +kernel
theorem dX2_actAsDrawn_22 : decode cX2_actAsDrawn 22 = .ok (.iload 4, 2) := by decide +kernel
theorem dX2_actAsDrawn_24 : decode cX2_actAsDrawn 24 = .ok (.bipush 100, 2) := by decide +kernel
theorem dX2_actAsDrawn_26 : decode cX2_actAsDrawn 26 = .ok (.irem, 1) := by decide +kernel
theorem dX2_actAsDrawn_27 : decode cX2_actAsDrawn 27 = .ok (.invokevirtual 120, 3) := by decide +kernel
theorem dX2_actAsDrawn_30 : decode cX2_actAsDrawn 30 = .ok (.istore 5, 2) := by decide +kernel
theorem dX2_actAsDrawn_32 : decode cX2_actAsDrawn 32 = .ok (.iload 5, 2) := by decide +kernel
theorem dX2_actAsDrawn_34 : decode cX2_actAsDrawn 34 = .ok (.bipush 105, 2) := by decide +kernel
theorem dX2_actAsDrawn_36 : decode cX2_actAsDrawn 36 = .ok (.if_icmp .ne 10, 3) := by decide +kernel
theorem dX2_actAsDrawn_39 : decode cX2_actAsDrawn 39 = .ok (.iload 4, 2) := by decide +kernel
theorem dX2_actAsDrawn_41 : decode cX2_actAsDrawn 41 = .ok (.iconst 3, 1) := by decide +kernel
theorem dX2_actAsDrawn_42 : decode cX2_actAsDrawn 42 = .ok (.irem, 1) := by decide +kernel
theorem dX2_actAsDrawn_43 : decode cX2_actAsDrawn 43 = .ok (.goto 8, 3) := by decide +kernel
theorem dX2_actAsDrawn_46 : decode cX2_actAsDrawn 46 = .ok (.iload 4, 2) := by decide +kernel
theorem dX2_actAsDrawn_48 : decode cX2_actAsDrawn 48 = .ok (.bipush 10, 2) := by decide +kernel
theorem dX2_actAsDrawn_50 : decode cX2_actAsDrawn 50 = .ok (.irem, 1) := by decide +kernel
theorem dX2_actAsDrawn_51 : decode cX2_actAsDrawn 51 = .ok (.istore 6, 2) := by decide +kernel
theorem dX2_actAsDrawn_53 : decode cX2_actAsDrawn 53 = .ok (.aload_n 0, 1) := by decide +kernel
theorem dX2_actAsDrawn_54 : decode cX2_actAsDrawn 54 = .ok (.iload 5, 2) := by decide +kernel
theorem dX2_actAsDrawn_56 : decode cX2_actAsDrawn 56 = .ok (.iload_n 2, 1) := by decide +kernel
theorem dX2_actAsDrawn_57 : decode cX2_actAsDrawn 57 = .ok (.iload 6, 2) := by decide +kernel
theorem dX2_actAsDrawn_59 : decode cX2_actAsDrawn 59 = .ok (.invokevirtual 124, 3) := by decide +kernel
theorem dX2_actAsDrawn_62 : decode cX2_actAsDrawn 62 = .ok (.ifCond .ne 12, 3) := by decide +kernel
theorem dX2_actAsDrawn_65 : decode cX2_actAsDrawn 65 = .ok (.aload_n 0, 1) := by decide +kernel
theorem dX2_actAsDrawn_66 : decode cX2_actAsDrawn 66 = .ok (.iload 5, 2) := by decide +kernel
theorem dX2_actAsDrawn_68 : decode cX2_actAsDrawn 68 = .ok (.iload_n 2, 1) := by decide +kernel
theorem dX2_actAsDrawn_69 : decode cX2_actAsDrawn 69 = .ok (.iload 6, 2) := by decide +kernel
theorem dX2_actAsDrawn_71 : decode cX2_actAsDrawn 71 = .ok (.invokevirtual 127, 3) := by decide +kernel
theorem dX2_actAsDrawn_74 : decode cX2_actAsDrawn 74 = .ok (.return_, 1) := by decide +kernel
theorem dX2_kindDrawn_0 : decode cX2_kindDrawn 0 = .ok (.iload_n 1, 1) := by decide +kernel
theorem dX2_kindDrawn_1 : decode cX2_kindDrawn 1 = .ok (.tableswitch 47 0 4 #[35, 38, 38, 41, 44], 35) := by decide +kernel
theorem dX2_kindDrawn_36 : decode cX2_kindDrawn 36 = .ok (.bipush 105, 2) := by decide +kernel
theorem dX2_kindDrawn_38 : decode cX2_kindDrawn 38 = .ok (.ireturn, 1) := by decide +kernel
theorem dX2_kindDrawn_39 : decode cX2_kindDrawn 39 = .ok (.bipush 108, 2) := by decide +kernel
theorem dX2_kindDrawn_41 : decode cX2_kindDrawn 41 = .ok (.ireturn, 1) := by decide +kernel
theorem dX2_kindDrawn_42 : decode cX2_kindDrawn 42 = .ok (.bipush 112, 2) := by decide +kernel
theorem dX2_kindDrawn_44 : decode cX2_kindDrawn 44 = .ok (.ireturn, 1) := by decide +kernel
theorem dX2_kindDrawn_45 : decode cX2_kindDrawn 45 = .ok (.bipush 46, 2) := by decide +kernel
theorem dX2_kindDrawn_47 : decode cX2_kindDrawn 47 = .ok (.ireturn, 1) := by decide +kernel
theorem dX2_kindDrawn_48 : decode cX2_kindDrawn 48 = .ok (.aload_n 0, 1) := by decide +kernel
theorem dX2_kindDrawn_49 : decode cX2_kindDrawn 49 = .ok (.iload_n 2, 1) := by decide +kernel
theorem dX2_kindDrawn_50 : decode cX2_kindDrawn 50 = .ok (.invokevirtual 49, 3) := by decide +kernel
theorem dX2_kindDrawn_53 : decode cX2_kindDrawn 53 = .ok (.astore 4, 2) := by decide +kernel
theorem dX2_kindDrawn_55 : decode cX2_kindDrawn 55 = .ok (.aload 4, 2) := by decide +kernel
theorem dX2_kindDrawn_57 : decode cX2_kindDrawn 57 = .ok (.ifnull 23, 3) := by decide +kernel
theorem dX2_kindDrawn_60 : decode cX2_kindDrawn 60 = .ok (.iload_n 3, 1) := by decide +kernel
theorem dX2_kindDrawn_61 : decode cX2_kindDrawn 61 = .ok (.aload_n 0, 1) := by decide +kernel
theorem dX2_kindDrawn_62 : decode cX2_kindDrawn 62 = .ok (.aload 4, 2) := by decide +kernel
theorem dX2_kindDrawn_64 : decode cX2_kindDrawn 64 = .ok (.aload 4, 2) := by decide +kernel
theorem dX2_kindDrawn_66 : decode cX2_kindDrawn 66 = .ok (.getfield 78, 3) := by decide +kernel
theorem dX2_kindDrawn_69 : decode cX2_kindDrawn 69 = .ok (.invokevirtual 71, 3) := by decide +kernel
theorem dX2_kindDrawn_72 : decode cX2_kindDrawn 72 = .ok (.if_icmp .ge 8, 3) := by decide +kernel
theorem dX2_kindDrawn_75 : decode cX2_kindDrawn 75 = .ok (.bipush 120, 2) := by decide +kernel
theorem dX2_kindDrawn_77 : decode cX2_kindDrawn 77 = .ok (.goto 5, 3) := by decide +kernel
theorem dX2_kindDrawn_80 : decode cX2_kindDrawn 80 = .ok (.bipush 115, 2) := by decide +kernel
theorem dX2_kindDrawn_82 : decode cX2_kindDrawn 82 = .ok (.ireturn, 1) := by decide +kernel
theorem dX3_init_0 : decode cX3_init 0 = .ok (.aload_n 0, 1) := by decide +kernel
theorem dX3_init_1 : decode cX3_init 1 = .ok (.invokespecial 3, 3) := by decide +kernel
theorem dX3_init_4 : decode cX3_init 4 = .ok (.aload_n 0, 1) := by decide +kernel
theorem dX3_init_5 : decode cX3_init 5 = .ok (.bipush 60, 2) := by decide +kernel
theorem dX3_init_7 : decode cX3_init 7 = .ok (.newarray .int, 2) := by decide +kernel
theorem dX3_init_9 : decode cX3_init 9 = .ok (.putfield 9, 3) := by decide +kernel
theorem dX3_init_12 : decode cX3_init 12 = .ok (.return_, 1) := by decide +kernel
theorem dX3_put_0 : decode cX3_put 0 = .ok (.aload_n 0, 1) := by decide +kernel
theorem dX3_put_1 : decode cX3_put 1 = .ok (.getfield 15, 3) := by decide +kernel
theorem dX3_put_4 : decode cX3_put 4 = .ok (.ifCond .lt 15, 3) := by decide +kernel
theorem dX3_put_7 : decode cX3_put 7 = .ok (.aload_n 0, 1) := by decide +kernel
theorem dX3_put_8 : decode cX3_put 8 = .ok (.getfield 15, 3) := by decide +kernel
theorem dX3_put_11 : decode cX3_put 11 = .ok (.aload_n 0, 1) := by decide +kernel
theorem dX3_put_12 : decode cX3_put 12 = .ok (.getfield 9, 3) := by decide +kernel
theorem dX3_put_15 : decode cX3_put 15 = .ok (.arraylength, 1) := by decide +kernel
theorem dX3_put_16 : decode cX3_put 16 = .ok (.if_icmp .lt 5, 3) := by decide +kernel
theorem dX3_put_19 : decode cX3_put 19 = .ok (.iconst 0, 1) := by decide +kernel
theorem dX3_put_20 : decode cX3_put 20 = .ok (.ireturn, 1) := by decide +kernel
theorem dX3_put_21 : decode cX3_put 21 = .ok (.aload_n 0, 1) := by decide +kernel
theorem dX3_put_22 : decode cX3_put 22 = .ok (.getfield 9, 3) := by decide +kernel
theorem dX3_put_25 : decode cX3_put 25 = .ok (.aload_n 0, 1) := by decide +kernel
theorem dX3_put_26 : decode cX3_put 26 = .ok (.getfield 15, 3) := by decide +kernel
theorem dX3_put_29 : decode cX3_put 29 = .ok (.iload_n 1, 1) := by decide +kernel
theorem dX3_put_30 : decode cX3_put 30 = .ok (.iastore, 1) := by decide +kernel
theorem dX3_put_31 : decode cX3_put 31 = .ok (.aload_n 0, 1) := by decide +kernel
theorem dX3_put_32 : decode cX3_put 32 = .ok (.dup, 1) := by decide +kernel
theorem dX3_put_33 : decode cX3_put 33 = .ok (.getfield 15, 3) := by decide +kernel
theorem dX3_put_36 : decode cX3_put 36 = .ok (.iconst 1, 1) := by decide +kernel
theorem dX3_put_37 : decode cX3_put 37 = .ok (.iadd, 1) := by decide +kernel
theorem dX3_put_38 : decode cX3_put 38 = .ok (.putfield 15, 3) := by decide +kernel
theorem dX3_put_41 : decode cX3_put 41 = .ok (.iconst 1, 1) := by decide +kernel
theorem dX3_put_42 : decode cX3_put 42 = .ok (.ireturn, 1) := by decide +kernel
theorem dX3_signAt_0 : decode cX3_signAt 0 = .ok (.iload_n 1, 1) := by decide +kernel
theorem dX3_signAt_1 : decode cX3_signAt 1 = .ok (.ifCond .lt 29, 3) := by decide +kernel
theorem dX3_signAt_4 : decode cX3_signAt 4 = .ok (.iload_n 1, 1) := by decide +kernel
theorem dX3_signAt_5 : decode cX3_signAt 5 = .ok (.aload_n 0, 1) := by decide +kernel
theorem dX3_signAt_6 : decode cX3_signAt 6 = .ok (.getfield 15, 3) := by decide +kernel
theorem dX3_signAt_9 : decode cX3_signAt 9 = .ok (.if_icmp .ge 21, 3) := by decide +kernel
theorem dX3_signAt_12 : decode cX3_signAt 12 = .ok (.iload_n 1, 1) := by decide +kernel
theorem dX3_signAt_13 : decode cX3_signAt 13 = .ok (.aload_n 0, 1) := by decide +kernel
theorem dX3_signAt_14 : decode cX3_signAt 14 = .ok (.getfield 9, 3) := by decide +kernel
theorem dX3_signAt_17 : decode cX3_signAt 17 = .ok (.arraylength, 1) := by decide +kernel
theorem dX3_signAt_18 : decode cX3_signAt 18 = .ok (.if_icmp .ge 12, 3) := by decide +kernel
theorem dX3_signAt_21 : decode cX3_signAt 21 = .ok (.aload_n 0, 1) := by decide +kernel
theorem dX3_signAt_22 : decode cX3_signAt 22 = .ok (.getfield 9, 3) := by decide +kernel
theorem dX3_signAt_25 : decode cX3_signAt 25 = .ok (.iload_n 1, 1) := by decide +kernel
theorem dX3_signAt_26 : decode cX3_signAt 26 = .ok (.iaload, 1) := by decide +kernel
theorem dX3_signAt_27 : decode cX3_signAt 27 = .ok (.goto 4, 3) := by decide +kernel
theorem dX3_signAt_30 : decode cX3_signAt 30 = .ok (.iconst 0, 1) := by decide +kernel
theorem dX3_signAt_31 : decode cX3_signAt 31 = .ok (.ireturn, 1) := by decide +kernel
theorem dX3_faultPlace_0 : decode cX3_faultPlace 0 = .ok (.iconst 0, 1) := by decide +kernel
theorem dX3_faultPlace_1 : decode cX3_faultPlace 1 = .ok (.istore_n 1, 1) := by decide +kernel
theorem dX3_faultPlace_2 : decode cX3_faultPlace 2 = .ok (.iconst 0, 1) := by decide +kernel
theorem dX3_faultPlace_3 : decode cX3_faultPlace 3 = .ok (.istore_n 2, 1) := by decide +kernel
theorem dX3_faultPlace_4 : decode cX3_faultPlace 4 = .ok (.iload_n 2, 1) := by decide +kernel
theorem dX3_faultPlace_5 : decode cX3_faultPlace 5 = .ok (.aload_n 0, 1) := by decide +kernel
theorem dX3_faultPlace_6 : decode cX3_faultPlace 6 = .ok (.getfield 15, 3) := by decide +kernel
theorem dX3_faultPlace_9 : decode cX3_faultPlace 9 = .ok (.if_icmp .ge 27, 3) := by decide +kernel
theorem dX3_faultPlace_12 : decode cX3_faultPlace 12 = .ok (.iload_n 1, 1) := by decide +kernel
theorem dX3_faultPlace_13 : decode cX3_faultPlace 13 = .ok (.aload_n 0, 1) := by decide +kernel
theorem dX3_faultPlace_14 : decode cX3_faultPlace 14 = .ok (.iload_n 2, 1) := by decide +kernel
theorem dX3_faultPlace_15 : decode cX3_faultPlace 15 = .ok (.invokevirtual 19, 3) := by decide +kernel
theorem dX3_faultPlace_18 : decode cX3_faultPlace 18 = .ok (.invokestatic 23, 3) := by decide +kernel
theorem dX3_faultPlace_21 : decode cX3_faultPlace 21 = .ok (.istore_n 1, 1) := by decide +kernel
theorem dX3_faultPlace_22 : decode cX3_faultPlace 22 = .ok (.iload_n 1, 1) := by decide +kernel
theorem dX3_faultPlace_23 : decode cX3_faultPlace 23 = .ok (.bipush (-6), 2) := by decide +kernel
theorem dX3_faultPlace_25 : decode cX3_faultPlace 25 = .ok (.if_icmp .ne 5, 3) := by decide +kernel
theorem dX3_faultPlace_28 : decode cX3_faultPlace 28 = .ok (.iload_n 2, 1) := by decide +kernel
theorem dX3_faultPlace_29 : decode cX3_faultPlace 29 = .ok (.ireturn, 1) := by decide +kernel
theorem dX3_faultPlace_30 : decode cX3_faultPlace 30 = .ok (.iinc 2 1, 3) := by decide +kernel
theorem dX3_faultPlace_33 : decode cX3_faultPlace 33 = .ok (.goto (-29), 3) := by decide +kernel
theorem dX3_faultPlace_36 : decode cX3_faultPlace 36 = .ok (.iload_n 1, 1) := by decide +kernel
theorem dX3_faultPlace_37 : decode cX3_faultPlace 37 = .ok (.ifCond .ne 8, 3) := by decide +kernel
theorem dX3_faultPlace_40 : decode cX3_faultPlace 40 = .ok (.bipush (-6), 2) := by decide +kernel
theorem dX3_faultPlace_42 : decode cX3_faultPlace 42 = .ok (.goto 7, 3) := by decide +kernel
theorem dX3_faultPlace_45 : decode cX3_faultPlace 45 = .ok (.aload_n 0, 1) := by decide +kernel
theorem dX3_faultPlace_46 : decode cX3_faultPlace 46 = .ok (.getfield 15, 3) := by decide +kernel
theorem dX3_faultPlace_49 : decode cX3_faultPlace 49 = .ok (.ireturn, 1) := by decide +kernel
theorem dX3_dueBehind_0 : decode cX3_dueBehind 0 = .ok (.iload_n 0, 1) := by decide +kernel
theorem dX3_dueBehind_1 : decode cX3_dueBehind 1 = .ok (.tableswitch 75 0 2 #[27, 51, 56], 27) := by decide +kernel
theorem dX3_dueBehind_28 : decode cX3_dueBehind 28 = .ok (.iload_n 1, 1) := by decide +kernel
theorem dX3_dueBehind_29 : decode cX3_dueBehind 29 = .ok (.bipush 46, 2) := by decide +kernel
theorem dX3_dueBehind_31 : decode cX3_dueBehind 31 = .ok (.if_icmp .ne 7, 3) := by decide +kernel
theorem dX3_dueBehind_34 : decode cX3_dueBehind 34 = .ok (.iconst 0, 1) := by decide +kernel
theorem dX3_dueBehind_35 : decode cX3_dueBehind 35 = .ok (.goto 16, 3) := by decide +kernel
theorem dX3_dueBehind_38 : decode cX3_dueBehind 38 = .ok (.iload_n 1, 1) := by decide +kernel
theorem dX3_dueBehind_39 : decode cX3_dueBehind 39 = .ok (.invokestatic 27, 3) := by decide +kernel
theorem dX3_dueBehind_42 : decode cX3_dueBehind 42 = .ok (.ifCond .eq 7, 3) := by decide +kernel
theorem dX3_dueBehind_45 : decode cX3_dueBehind 45 = .ok (.iconst 1, 1) := by decide +kernel
theorem dX3_dueBehind_46 : decode cX3_dueBehind 46 = .ok (.goto 5, 3) := by decide +kernel
theorem dX3_dueBehind_49 : decode cX3_dueBehind 49 = .ok (.bipush (-6), 2) := by decide +kernel
theorem dX3_dueBehind_51 : decode cX3_dueBehind 51 = .ok (.ireturn, 1) := by decide +kernel
theorem dX3_dueBehind_52 : decode cX3_dueBehind 52 = .ok (.iload_n 1, 1) := by decide +kernel
theorem dX3_dueBehind_53 : decode cX3_dueBehind 53 = .ok (.invokestatic 31, 3) := by decide +kernel
theorem dX3_dueBehind_56 : decode cX3_dueBehind 56 = .ok (.ireturn, 1) := by decide +kernel
theorem dX3_dueBehind_57 : decode cX3_dueBehind 57 = .ok (.iload_n 1, 1) := by decide +kernel
theorem dX3_dueBehind_58 : decode cX3_dueBehind 58 = .ok (.bipush 48, 2) := by decide +kernel
theorem dX3_dueBehind_60 : decode cX3_dueBehind 60 = .ok (.isub, 1) := by decide +kernel
theorem dX3_dueBehind_61 : decode cX3_dueBehind 61 = .ok (.iconst 0, 1) := by decide +kernel
theorem dX3_dueBehind_62 : decode cX3_dueBehind 62 = .ok (.iconst 2, 1) := by decide +kernel
theorem dX3_dueBehind_63 : decode cX3_dueBehind 63 = .ok (.invokestatic 34, 3) := by decide +kernel
theorem dX3_dueBehind_66 : decode cX3_dueBehind 66 = .ok (.ifCond .eq 7, 3) := by decide +kernel
theorem dX3_dueBehind_69 : decode cX3_dueBehind 69 = .ok (.iconst 0, 1) := by decide +kernel
theorem dX3_dueBehind_70 : decode cX3_dueBehind 70 = .ok (.goto 5, 3) := by decide +kernel
theorem dX3_dueBehind_73 : decode cX3_dueBehind 73 = .ok (.bipush (-6), 2) := by decide +kernel
theorem dX3_dueBehind_75 : decode cX3_dueBehind 75 = .ok (.ireturn, 1) := by decide +kernel
theorem dX3_dueBehind_76 : decode cX3_dueBehind 76 = .ok (.iload_n 1, 1) := by decide +kernel
theorem dX3_dueBehind_77 : decode cX3_dueBehind 77 = .ok (.bipush 48, 2) := by decide +kernel
theorem dX3_dueBehind_79 : decode cX3_dueBehind 79 = .ok (.isub, 1) := by decide +kernel
theorem dX3_dueBehind_80 : decode cX3_dueBehind 80 = .ok (.iconst 0, 1) := by decide +kernel
theorem dX3_dueBehind_81 : decode cX3_dueBehind 81 = .ok (.bipush 9, 2) := by decide +kernel
theorem dX3_dueBehind_83 : decode cX3_dueBehind 83 = .ok (.invokestatic 34, 3) := by decide +kernel
theorem dX3_dueBehind_86 : decode cX3_dueBehind 86 = .ok (.ifCond .eq 7, 3) := by decide +kernel
theorem dX3_dueBehind_89 : decode cX3_dueBehind 89 = .ok (.iconst 0, 1) := by decide +kernel
theorem dX3_dueBehind_90 : decode cX3_dueBehind 90 = .ok (.goto 5, 3) := by decide +kernel
theorem dX3_dueBehind_93 : decode cX3_dueBehind 93 = .ok (.bipush (-6), 2) := by decide +kernel
theorem dX3_dueBehind_95 : decode cX3_dueBehind 95 = .ok (.ireturn, 1) := by decide +kernel
theorem dX3_dueBehindDeed_0 : decode cX3_dueBehindDeed 0 = .ok (.iload_n 0, 1) := by decide +kernel
theorem dX3_dueBehindDeed_1 : decode cX3_dueBehindDeed 1 = .ok (.lookupswitch 57 #[(105, 51), (108, 53), (112, 55), (115, 55), (120, 55)], 51) := by decide +kernel
theorem dX3_dueBehindDeed_52 : decode cX3_dueBehindDeed 52 = .ok (.iconst 2, 1) := by decide +kernel
theorem dX3_dueBehindDeed_53 : decode cX3_dueBehindDeed 53 = .ok (.ireturn, 1) := by decide +kernel
theorem dX3_dueBehindDeed_54 : decode cX3_dueBehindDeed 54 = .ok (.iconst 3, 1) := by decide +kernel
theorem dX3_dueBehindDeed_55 : decode cX3_dueBehindDeed 55 = .ok (.ireturn, 1) := by decide +kernel
theorem dX3_dueBehindDeed_56 : decode cX3_dueBehindDeed 56 = .ok (.iconst 0, 1) := by decide +kernel
theorem dX3_dueBehindDeed_57 : decode cX3_dueBehindDeed 57 = .ok (.ireturn, 1) := by decide +kernel
theorem dX3_dueBehindDeed_58 : decode cX3_dueBehindDeed 58 = .ok (.bipush (-6), 2) := by decide +kernel
theorem dX3_dueBehindDeed_60 : decode cX3_dueBehindDeed 60 = .ok (.ireturn, 1) := by decide +kernel
theorem dX3_isLetter_0 : decode cX3_isLetter 0 = .ok (.iload_n 0, 1) := by decide +kernel
theorem dX3_isLetter_1 : decode cX3_isLetter 1 = .ok (.bipush 65, 2) := by decide +kernel
theorem dX3_isLetter_3 : decode cX3_isLetter 3 = .ok (.isub, 1) := by decide +kernel
theorem dX3_isLetter_4 : decode cX3_isLetter 4 = .ok (.iconst 0, 1) := by decide +kernel
theorem dX3_isLetter_5 : decode cX3_isLetter 5 = .ok (.iconst 5, 1) := by decide +kernel
theorem dX3_isLetter_6 : decode cX3_isLetter 6 = .ok (.invokestatic 34, 3) := by decide +kernel
theorem dX3_isLetter_9 : decode cX3_isLetter 9 = .ok (.ireturn, 1) := by decide +kernel
theorem dX3_actBeginsAt_0 : decode cX3_actBeginsAt 0 = .ok (.aload_n 0, 1) := by decide +kernel
theorem dX3_actBeginsAt_1 : decode cX3_actBeginsAt 1 = .ok (.iload_n 1, 1) := by decide +kernel
theorem dX3_actBeginsAt_2 : decode cX3_actBeginsAt 2 = .ok (.invokevirtual 19, 3) := by decide +kernel
theorem dX3_actBeginsAt_5 : decode cX3_actBeginsAt 5 = .ok (.istore_n 2, 1) := by decide +kernel
theorem dX3_actBeginsAt_6 : decode cX3_actBeginsAt 6 = .ok (.iload_n 2, 1) := by decide +kernel
theorem dX3_actBeginsAt_7 : decode cX3_actBeginsAt 7 = .ok (.bipush 46, 2) := by decide +kernel
theorem dX3_actBeginsAt_9 : decode cX3_actBeginsAt 9 = .ok (.if_icmp .eq 10, 3) := by decide +kernel
theorem dX3_actBeginsAt_12 : decode cX3_actBeginsAt 12 = .ok (.iload_n 2, 1) := by decide +kernel
theorem dX3_actBeginsAt_13 : decode cX3_actBeginsAt 13 = .ok (.invokestatic 27, 3) := by decide +kernel
theorem dX3_actBeginsAt_16 : decode cX3_actBeginsAt 16 = .ok (.ifCond .eq 7, 3) := by decide +kernel
theorem dX3_actBeginsAt_19 : decode cX3_actBeginsAt 19 = .ok (.iconst 1, 1) := by decide +kernel
theorem dX3_actBeginsAt_20 : decode cX3_actBeginsAt 20 = .ok (.goto 4, 3) := by decide +kernel
theorem dX3_actBeginsAt_23 : decode cX3_actBeginsAt 23 = .ok (.iconst 0, 1) := by decide +kernel
theorem dX3_actBeginsAt_24 : decode cX3_actBeginsAt 24 = .ok (.ireturn, 1) := by decide +kernel
theorem dX3_kindAt_0 : decode cX3_kindAt 0 = .ok (.aload_n 0, 1) := by decide +kernel
theorem dX3_kindAt_1 : decode cX3_kindAt 1 = .ok (.iload_n 1, 1) := by decide +kernel
theorem dX3_kindAt_2 : decode cX3_kindAt 2 = .ok (.invokevirtual 19, 3) := by decide +kernel
theorem dX3_kindAt_5 : decode cX3_kindAt 5 = .ok (.bipush 46, 2) := by decide +kernel
theorem dX3_kindAt_7 : decode cX3_kindAt 7 = .ok (.if_icmp .ne 8, 3) := by decide +kernel
theorem dX3_kindAt_10 : decode cX3_kindAt 10 = .ok (.bipush 46, 2) := by decide +kernel
theorem dX3_kindAt_12 : decode cX3_kindAt 12 = .ok (.goto 10, 3) := by decide +kernel
theorem dX3_kindAt_15 : decode cX3_kindAt 15 = .ok (.aload_n 0, 1) := by decide +kernel
theorem dX3_kindAt_16 : decode cX3_kindAt 16 = .ok (.iload_n 1, 1) := by decide +kernel
theorem dX3_kindAt_17 : decode cX3_kindAt 17 = .ok (.iconst 1, 1) := by decide +kernel
theorem dX3_kindAt_18 : decode cX3_kindAt 18 = .ok (.iadd, 1) := by decide +kernel
theorem dX3_kindAt_19 : decode cX3_kindAt 19 = .ok (.invokevirtual 19, 3) := by decide +kernel
theorem dX3_kindAt_22 : decode cX3_kindAt 22 = .ok (.ireturn, 1) := by decide +kernel
theorem dX3_shipNumberAt_0 : decode cX3_shipNumberAt 0 = .ok (.aload_n 0, 1) := by decide +kernel
theorem dX3_shipNumberAt_1 : decode cX3_shipNumberAt 1 = .ok (.iload_n 1, 1) := by decide +kernel
theorem dX3_shipNumberAt_2 : decode cX3_shipNumberAt 2 = .ok (.invokevirtual 19, 3) := by decide +kernel
theorem dX3_shipNumberAt_5 : decode cX3_shipNumberAt 5 = .ok (.bipush 65, 2) := by decide +kernel
theorem dX3_shipNumberAt_7 : decode cX3_shipNumberAt 7 = .ok (.isub, 1) := by decide +kernel
theorem dX3_shipNumberAt_8 : decode cX3_shipNumberAt 8 = .ok (.ireturn, 1) := by decide +kernel
theorem dX3_numberAt_0 : decode cX3_numberAt 0 = .ok (.aload_n 0, 1) := by decide +kernel
theorem dX3_numberAt_1 : decode cX3_numberAt 1 = .ok (.iload_n 1, 1) := by decide +kernel
theorem dX3_numberAt_2 : decode cX3_numberAt 2 = .ok (.iconst 2, 1) := by decide +kernel
theorem dX3_numberAt_3 : decode cX3_numberAt 3 = .ok (.iadd, 1) := by decide +kernel
theorem dX3_numberAt_4 : decode cX3_numberAt 4 = .ok (.invokevirtual 19, 3) := by decide +kernel
theorem dX3_numberAt_7 : decode cX3_numberAt 7 = .ok (.bipush 48, 2) := by decide +kernel
theorem dX3_numberAt_9 : decode cX3_numberAt 9 = .ok (.isub, 1) := by decide +kernel
theorem dX3_numberAt_10 : decode cX3_numberAt 10 = .ok (.ireturn, 1) := by decide +kernel
theorem dX4_init_0 : decode cX4_init 0 = .ok (.aload_n 0, 1) := by decide +kernel
theorem dX4_init_1 : decode cX4_init 1 = .ok (.invokespecial 3, 3) := by decide +kernel
theorem dX4_init_4 : decode cX4_init 4 = .ok (.aload_n 0, 1) := by decide +kernel
theorem dX4_init_5 : decode cX4_init 5 = .ok (.iconst 3, 1) := by decide +kernel
theorem dX4_init_6 : decode cX4_init 6 = .ok (.newarray .int, 2) := by decide +kernel
theorem dX4_init_8 : decode cX4_init 8 = .ok (.putfield 9, 3) := by decide +kernel
theorem dX4_init_11 : decode cX4_init 11 = .ok (.return_, 1) := by decide +kernel
theorem dX4_launch_0 : decode cX4_launch 0 = .ok (.aload_n 0, 1) := by decide +kernel
theorem dX4_launch_1 : decode cX4_launch 1 = .ok (.iconst 1, 1) := by decide +kernel
theorem dX4_launch_2 : decode cX4_launch 2 = .ok (.putfield 15, 3) := by decide +kernel
theorem dX4_launch_5 : decode cX4_launch 5 = .ok (.aload_n 0, 1) := by decide +kernel
theorem dX4_launch_6 : decode cX4_launch 6 = .ok (.iconst 1, 1) := by decide +kernel
theorem dX4_launch_7 : decode cX4_launch 7 = .ok (.putfield 19, 3) := by decide +kernel
theorem dX4_launch_10 : decode cX4_launch 10 = .ok (.aload_n 0, 1) := by decide +kernel
theorem dX4_launch_11 : decode cX4_launch 11 = .ok (.iload_n 1, 1) := by decide +kernel
theorem dX4_launch_12 : decode cX4_launch 12 = .ok (.putfield 22, 3) := by decide +kernel
theorem dX4_launch_15 : decode cX4_launch 15 = .ok (.aload_n 0, 1) := by decide +kernel
theorem dX4_launch_16 : decode cX4_launch 16 = .ok (.iload_n 2, 1) := by decide +kernel
theorem dX4_launch_17 : decode cX4_launch 17 = .ok (.putfield 26, 3) := by decide +kernel
theorem dX4_launch_20 : decode cX4_launch 20 = .ok (.aload_n 0, 1) := by decide +kernel
theorem dX4_launch_21 : decode cX4_launch 21 = .ok (.iload_n 3, 1) := by decide +kernel
theorem dX4_launch_22 : decode cX4_launch 22 = .ok (.putfield 29, 3) := by decide +kernel
theorem dX4_launch_25 : decode cX4_launch 25 = .ok (.aload_n 0, 1) := by decide +kernel
theorem dX4_launch_26 : decode cX4_launch 26 = .ok (.iconst 0, 1) := by decide +kernel
theorem dX4_launch_27 : decode cX4_launch 27 = .ok (.putfield 32, 3) := by decide +kernel
theorem dX4_launch_30 : decode cX4_launch 30 = .ok (.iconst 0, 1) := by decide +kernel
theorem dX4_launch_31 : decode cX4_launch 31 = .ok (.istore 4, 2) := by decide +kernel
theorem dX4_launch_33 : decode cX4_launch 33 = .ok (.iload 4, 2) := by decide +kernel
theorem dX4_launch_35 : decode cX4_launch 35 = .ok (.aload_n 0, 1) := by decide +kernel
theorem dX4_launch_36 : decode cX4_launch 36 = .ok (.getfield 9, 3) := by decide +kernel
theorem dX4_launch_39 : decode cX4_launch 39 = .ok (.arraylength, 1) := by decide +kernel
theorem dX4_launch_40 : decode cX4_launch 40 = .ok (.if_icmp .ge 17, 3) := by decide +kernel
theorem dX4_launch_43 : decode cX4_launch 43 = .ok (.aload_n 0, 1) := by decide +kernel
theorem dX4_launch_44 : decode cX4_launch 44 = .ok (.getfield 9, 3) := by decide +kernel
theorem dX4_launch_47 : decode cX4_launch 47 = .ok (.iload 4, 2) := by decide +kernel
theorem dX4_launch_49 : decode cX4_launch 49 = .ok (.iconst 0, 1) := by decide +kernel
theorem dX4_launch_50 : decode cX4_launch 50 = .ok (.iastore, 1) := by decide +kernel
theorem dX4_launch_51 : decode cX4_launch 51 = .ok (.iinc 4 1, 3) := by decide +kernel
theorem dX4_launch_54 : decode cX4_launch 54 = .ok (.goto (-21), 3) := by decide +kernel
theorem dX4_launch_57 : decode cX4_launch 57 = .ok (.return_, 1) := by decide +kernel
theorem dX4_sumAt_0 : decode cX4_sumAt 0 = .ok (.iload_n 1, 1) := by decide +kernel
theorem dX4_sumAt_1 : decode cX4_sumAt 1 = .ok (.ifCond .lt 21, 3) := by decide +kernel
theorem dX4_sumAt_4 : decode cX4_sumAt 4 = .ok (.iload_n 1, 1) := by decide +kernel
theorem dX4_sumAt_5 : decode cX4_sumAt 5 = .ok (.aload_n 0, 1) := by decide +kernel
theorem dX4_sumAt_6 : decode cX4_sumAt 6 = .ok (.getfield 9, 3) := by decide +kernel
theorem dX4_sumAt_9 : decode cX4_sumAt 9 = .ok (.arraylength, 1) := by decide +kernel
theorem dX4_sumAt_10 : decode cX4_sumAt 10 = .ok (.if_icmp .ge 12, 3) := by decide +kernel
theorem dX4_sumAt_13 : decode cX4_sumAt 13 = .ok (.aload_n 0, 1) := by decide +kernel
theorem dX4_sumAt_14 : decode cX4_sumAt 14 = .ok (.getfield 9, 3) := by decide +kernel
theorem dX4_sumAt_17 : decode cX4_sumAt 17 = .ok (.iload_n 1, 1) := by decide +kernel
theorem dX4_sumAt_18 : decode cX4_sumAt 18 = .ok (.iaload, 1) := by decide +kernel
theorem dX4_sumAt_19 : decode cX4_sumAt 19 = .ok (.goto 4, 3) := by decide +kernel
theorem dX4_sumAt_22 : decode cX4_sumAt 22 = .ok (.iconst 0, 1) := by decide +kernel
theorem dX4_sumAt_23 : decode cX4_sumAt 23 = .ok (.ireturn, 1) := by decide +kernel
theorem dX4_putSum_0 : decode cX4_putSum 0 = .ok (.iload_n 1, 1) := by decide +kernel
theorem dX4_putSum_1 : decode cX4_putSum 1 = .ok (.ifCond .lt 19, 3) := by decide +kernel
theorem dX4_putSum_4 : decode cX4_putSum 4 = .ok (.iload_n 1, 1) := by decide +kernel
theorem dX4_putSum_5 : decode cX4_putSum 5 = .ok (.aload_n 0, 1) := by decide +kernel
theorem dX4_putSum_6 : decode cX4_putSum 6 = .ok (.getfield 9, 3) := by decide +kernel
theorem dX4_putSum_9 : decode cX4_putSum 9 = .ok (.arraylength, 1) := by decide +kernel
theorem dX4_putSum_10 : decode cX4_putSum 10 = .ok (.if_icmp .ge 10, 3) := by decide +kernel
theorem dX4_putSum_13 : decode cX4_putSum 13 = .ok (.aload_n 0, 1) := by decide +kernel
theorem dX4_putSum_14 : decode cX4_putSum 14 = .ok (.getfield 9, 3) := by decide +kernel
theorem dX4_putSum_17 : decode cX4_putSum 17 = .ok (.iload_n 1, 1) := by decide +kernel
theorem dX4_putSum_18 : decode cX4_putSum 18 = .ok (.iload_n 2, 1) := by decide +kernel
theorem dX4_putSum_19 : decode cX4_putSum 19 = .ok (.iastore, 1) := by decide +kernel
theorem dX4_putSum_20 : decode cX4_putSum 20 = .ok (.return_, 1) := by decide +kernel
theorem dX4_allSums_0 : decode cX4_allSums 0 = .ok (.iconst 0, 1) := by decide +kernel
theorem dX4_allSums_1 : decode cX4_allSums 1 = .ok (.istore_n 1, 1) := by decide +kernel
theorem dX4_allSums_2 : decode cX4_allSums 2 = .ok (.iconst 0, 1) := by decide +kernel
theorem dX4_allSums_3 : decode cX4_allSums 3 = .ok (.istore_n 2, 1) := by decide +kernel
theorem dX4_allSums_4 : decode cX4_allSums 4 = .ok (.iload_n 2, 1) := by decide +kernel
theorem dX4_allSums_5 : decode cX4_allSums 5 = .ok (.aload_n 0, 1) := by decide +kernel
theorem dX4_allSums_6 : decode cX4_allSums 6 = .ok (.getfield 9, 3) := by decide +kernel
theorem dX4_allSums_9 : decode cX4_allSums 9 = .ok (.arraylength, 1) := by decide +kernel
theorem dX4_allSums_10 : decode cX4_allSums 10 = .ok (.if_icmp .ge 18, 3) := by decide +kernel
theorem dX4_allSums_13 : decode cX4_allSums 13 = .ok (.iload_n 1, 1) := by decide +kernel
theorem dX4_allSums_14 : decode cX4_allSums 14 = .ok (.aload_n 0, 1) := by decide +kernel
theorem dX4_allSums_15 : decode cX4_allSums 15 = .ok (.getfield 9, 3) := by decide +kernel
theorem dX4_allSums_18 : decode cX4_allSums 18 = .ok (.iload_n 2, 1) := by decide +kernel
theorem dX4_allSums_19 : decode cX4_allSums 19 = .ok (.iaload, 1) := by decide +kernel
theorem dX4_allSums_20 : decode cX4_allSums 20 = .ok (.iadd, 1) := by decide +kernel
theorem dX4_allSums_21 : decode cX4_allSums 21 = .ok (.istore_n 1, 1) := by decide +kernel
theorem dX4_allSums_22 : decode cX4_allSums 22 = .ok (.iinc 2 1, 3) := by decide +kernel
theorem dX4_allSums_25 : decode cX4_allSums 25 = .ok (.goto (-21), 3) := by decide +kernel
theorem dX4_allSums_28 : decode cX4_allSums 28 = .ok (.iload_n 1, 1) := by decide +kernel
theorem dX4_allSums_29 : decode cX4_allSums 29 = .ok (.ireturn, 1) := by decide +kernel
theorem dX4_copyFrom_0 : decode cX4_copyFrom 0 = .ok (.aload_n 0, 1) := by decide +kernel
theorem dX4_copyFrom_1 : decode cX4_copyFrom 1 = .ok (.aload_n 1, 1) := by decide +kernel
theorem dX4_copyFrom_2 : decode cX4_copyFrom 2 = .ok (.getfield 15, 3) := by decide +kernel
theorem dX4_copyFrom_5 : decode cX4_copyFrom 5 = .ok (.putfield 15, 3) := by decide +kernel
theorem dX4_copyFrom_8 : decode cX4_copyFrom 8 = .ok (.aload_n 0, 1) := by decide +kernel
theorem dX4_copyFrom_9 : decode cX4_copyFrom 9 = .ok (.aload_n 1, 1) := by decide +kernel
theorem dX4_copyFrom_10 : decode cX4_copyFrom 10 = .ok (.getfield 19, 3) := by decide +kernel
theorem dX4_copyFrom_13 : decode cX4_copyFrom 13 = .ok (.putfield 19, 3) := by decide +kernel
theorem dX4_copyFrom_16 : decode cX4_copyFrom 16 = .ok (.aload_n 0, 1) := by decide +kernel
theorem dX4_copyFrom_17 : decode cX4_copyFrom 17 = .ok (.aload_n 1, 1) := by decide +kernel
theorem dX4_copyFrom_18 : decode cX4_copyFrom 18 = .ok (.getfield 22, 3) := by decide +kernel
theorem dX4_copyFrom_21 : decode cX4_copyFrom 21 = .ok (.putfield 22, 3) := by decide +kernel
theorem dX4_copyFrom_24 : decode cX4_copyFrom 24 = .ok (.aload_n 0, 1) := by decide +kernel
theorem dX4_copyFrom_25 : decode cX4_copyFrom 25 = .ok (.aload_n 1, 1) := by decide +kernel
theorem dX4_copyFrom_26 : decode cX4_copyFrom 26 = .ok (.getfield 26, 3) := by decide +kernel
theorem dX4_copyFrom_29 : decode cX4_copyFrom 29 = .ok (.putfield 26, 3) := by decide +kernel
theorem dX4_copyFrom_32 : decode cX4_copyFrom 32 = .ok (.aload_n 0, 1) := by decide +kernel
theorem dX4_copyFrom_33 : decode cX4_copyFrom 33 = .ok (.aload_n 1, 1) := by decide +kernel
theorem dX4_copyFrom_34 : decode cX4_copyFrom 34 = .ok (.getfield 29, 3) := by decide +kernel
theorem dX4_copyFrom_37 : decode cX4_copyFrom 37 = .ok (.putfield 29, 3) := by decide +kernel
theorem dX4_copyFrom_40 : decode cX4_copyFrom 40 = .ok (.aload_n 0, 1) := by decide +kernel
theorem dX4_copyFrom_41 : decode cX4_copyFrom 41 = .ok (.aload_n 1, 1) := by decide +kernel
theorem dX4_copyFrom_42 : decode cX4_copyFrom 42 = .ok (.getfield 32, 3) := by decide +kernel
theorem dX4_copyFrom_45 : decode cX4_copyFrom 45 = .ok (.putfield 32, 3) := by decide +kernel
theorem dX4_copyFrom_48 : decode cX4_copyFrom 48 = .ok (.iconst 0, 1) := by decide +kernel
theorem dX4_copyFrom_49 : decode cX4_copyFrom 49 = .ok (.istore_n 2, 1) := by decide +kernel
theorem dX4_copyFrom_50 : decode cX4_copyFrom 50 = .ok (.iload_n 2, 1) := by decide +kernel
theorem dX4_copyFrom_51 : decode cX4_copyFrom 51 = .ok (.aload_n 0, 1) := by decide +kernel
theorem dX4_copyFrom_52 : decode cX4_copyFrom 52 = .ok (.getfield 9, 3) := by decide +kernel
theorem dX4_copyFrom_55 : decode cX4_copyFrom 55 = .ok (.arraylength, 1) := by decide +kernel
theorem dX4_copyFrom_56 : decode cX4_copyFrom 56 = .ok (.if_icmp .ge 20, 3) := by decide +kernel
theorem dX4_copyFrom_59 : decode cX4_copyFrom 59 = .ok (.aload_n 0, 1) := by decide +kernel
theorem dX4_copyFrom_60 : decode cX4_copyFrom 60 = .ok (.getfield 9, 3) := by decide +kernel
theorem dX4_copyFrom_63 : decode cX4_copyFrom 63 = .ok (.iload_n 2, 1) := by decide +kernel
theorem dX4_copyFrom_64 : decode cX4_copyFrom 64 = .ok (.aload_n 1, 1) := by decide +kernel
theorem dX4_copyFrom_65 : decode cX4_copyFrom 65 = .ok (.iload_n 2, 1) := by decide +kernel
theorem dX4_copyFrom_66 : decode cX4_copyFrom 66 = .ok (.invokevirtual 35, 3) := by decide +kernel
theorem dX4_copyFrom_69 : decode cX4_copyFrom 69 = .ok (.iastore, 1) := by decide +kernel
theorem dX4_copyFrom_70 : decode cX4_copyFrom 70 = .ok (.iinc 2 1, 3) := by decide +kernel
theorem dX4_copyFrom_73 : decode cX4_copyFrom 73 = .ok (.goto (-23), 3) := by decide +kernel
theorem dX4_copyFrom_76 : decode cX4_copyFrom 76 = .ok (.return_, 1) := by decide +kernel
theorem dX5_init_0 : decode cX5_init 0 = .ok (.aload_n 0, 1) := by decide +kernel
theorem dX5_init_1 : decode cX5_init 1 = .ok (.invokespecial 3, 3) := by decide +kernel
theorem dX5_init_4 : decode cX5_init 4 = .ok (.aload_n 0, 1) := by decide +kernel
theorem dX5_init_5 : decode cX5_init 5 = .ok (.bipush 8, 2) := by decide +kernel
theorem dX5_init_7 : decode cX5_init 7 = .ok (.newarray .int, 2) := by decide +kernel
theorem dX5_init_9 : decode cX5_init 9 = .ok (.putfield 9, 3) := by decide +kernel
theorem dX5_init_12 : decode cX5_init 12 = .ok (.aload_n 0, 1) := by decide +kernel
theorem dX5_init_13 : decode cX5_init 13 = .ok (.bipush 8, 2) := by decide +kernel
theorem dX5_init_15 : decode cX5_init 15 = .ok (.newarray .int, 2) := by decide +kernel
theorem dX5_init_17 : decode cX5_init 17 = .ok (.putfield 15, 3) := by decide +kernel
theorem dX5_init_20 : decode cX5_init 20 = .ok (.aload_n 0, 1) := by decide +kernel
theorem dX5_init_21 : decode cX5_init 21 = .ok (.bipush 8, 2) := by decide +kernel
theorem dX5_init_23 : decode cX5_init 23 = .ok (.newarray .boolean, 2) := by decide +kernel
theorem dX5_init_25 : decode cX5_init 25 = .ok (.putfield 18, 3) := by decide +kernel
theorem dX5_init_28 : decode cX5_init 28 = .ok (.return_, 1) := by decide +kernel
theorem dX5_put_0 : decode cX5_put 0 = .ok (.aload_n 0, 1) := by decide +kernel
theorem dX5_put_1 : decode cX5_put 1 = .ok (.getfield 22, 3) := by decide +kernel
theorem dX5_put_4 : decode cX5_put 4 = .ok (.ifCond .lt 12, 3) := by decide +kernel
theorem dX5_put_7 : decode cX5_put 7 = .ok (.aload_n 0, 1) := by decide +kernel
theorem dX5_put_8 : decode cX5_put 8 = .ok (.getfield 22, 3) := by decide +kernel
theorem dX5_put_11 : decode cX5_put 11 = .ok (.bipush 8, 2) := by decide +kernel
theorem dX5_put_13 : decode cX5_put 13 = .ok (.if_icmp .lt 5, 3) := by decide +kernel
theorem dX5_put_16 : decode cX5_put 16 = .ok (.iconst 0, 1) := by decide +kernel
theorem dX5_put_17 : decode cX5_put 17 = .ok (.ireturn, 1) := by decide +kernel
theorem dX5_put_18 : decode cX5_put 18 = .ok (.aload_n 0, 1) := by decide +kernel
theorem dX5_put_19 : decode cX5_put 19 = .ok (.getfield 9, 3) := by decide +kernel
theorem dX5_put_22 : decode cX5_put 22 = .ok (.aload_n 0, 1) := by decide +kernel
theorem dX5_put_23 : decode cX5_put 23 = .ok (.getfield 22, 3) := by decide +kernel
theorem dX5_put_26 : decode cX5_put 26 = .ok (.iload_n 1, 1) := by decide +kernel
theorem dX5_put_27 : decode cX5_put 27 = .ok (.iastore, 1) := by decide +kernel
theorem dX5_put_28 : decode cX5_put 28 = .ok (.aload_n 0, 1) := by decide +kernel
theorem dX5_put_29 : decode cX5_put 29 = .ok (.getfield 15, 3) := by decide +kernel
theorem dX5_put_32 : decode cX5_put 32 = .ok (.aload_n 0, 1) := by decide +kernel
theorem dX5_put_33 : decode cX5_put 33 = .ok (.getfield 22, 3) := by decide +kernel
theorem dX5_put_36 : decode cX5_put 36 = .ok (.iload_n 2, 1) := by decide +kernel
theorem dX5_put_37 : decode cX5_put 37 = .ok (.iastore, 1) := by decide +kernel
theorem dX5_put_38 : decode cX5_put 38 = .ok (.aload_n 0, 1) := by decide +kernel
theorem dX5_put_39 : decode cX5_put 39 = .ok (.getfield 18, 3) := by decide +kernel
theorem dX5_put_42 : decode cX5_put 42 = .ok (.aload_n 0, 1) := by decide +kernel
theorem dX5_put_43 : decode cX5_put 43 = .ok (.getfield 22, 3) := by decide +kernel
theorem dX5_put_46 : decode cX5_put 46 = .ok (.iload_n 3, 1) := by decide +kernel
theorem dX5_put_47 : decode cX5_put 47 = .ok (.bastore, 1) := by decide +kernel
theorem dX5_put_48 : decode cX5_put 48 = .ok (.aload_n 0, 1) := by decide +kernel
theorem dX5_put_49 : decode cX5_put 49 = .ok (.dup, 1) := by decide +kernel
theorem dX5_put_50 : decode cX5_put 50 = .ok (.getfield 22, 3) := by decide +kernel
theorem dX5_put_53 : decode cX5_put 53 = .ok (.iconst 1, 1) := by decide +kernel
theorem dX5_put_54 : decode cX5_put 54 = .ok (.iadd, 1) := by decide +kernel
theorem dX5_put_55 : decode cX5_put 55 = .ok (.putfield 22, 3) := by decide +kernel
theorem dX5_put_58 : decode cX5_put 58 = .ok (.iconst 1, 1) := by decide +kernel
theorem dX5_put_59 : decode cX5_put 59 = .ok (.ireturn, 1) := by decide +kernel
theorem dX5_copyFrom_0 : decode cX5_copyFrom 0 = .ok (.iconst 0, 1) := by decide +kernel
theorem dX5_copyFrom_1 : decode cX5_copyFrom 1 = .ok (.istore_n 2, 1) := by decide +kernel
theorem dX5_copyFrom_2 : decode cX5_copyFrom 2 = .ok (.iload_n 2, 1) := by decide +kernel
theorem dX5_copyFrom_3 : decode cX5_copyFrom 3 = .ok (.bipush 8, 2) := by decide +kernel
theorem dX5_copyFrom_5 : decode cX5_copyFrom 5 = .ok (.if_icmp .ge 45, 3) := by decide +kernel
theorem dX5_copyFrom_8 : decode cX5_copyFrom 8 = .ok (.aload_n 0, 1) := by decide +kernel
theorem dX5_copyFrom_9 : decode cX5_copyFrom 9 = .ok (.getfield 9, 3) := by decide +kernel
theorem dX5_copyFrom_12 : decode cX5_copyFrom 12 = .ok (.iload_n 2, 1) := by decide +kernel
theorem dX5_copyFrom_13 : decode cX5_copyFrom 13 = .ok (.aload_n 1, 1) := by decide +kernel
theorem dX5_copyFrom_14 : decode cX5_copyFrom 14 = .ok (.getfield 9, 3) := by decide +kernel
theorem dX5_copyFrom_17 : decode cX5_copyFrom 17 = .ok (.iload_n 2, 1) := by decide +kernel
theorem dX5_copyFrom_18 : decode cX5_copyFrom 18 = .ok (.iaload, 1) := by decide +kernel
theorem dX5_copyFrom_19 : decode cX5_copyFrom 19 = .ok (.iastore, 1) := by decide +kernel
theorem dX5_copyFrom_20 : decode cX5_copyFrom 20 = .ok (.aload_n 0, 1) := by decide +kernel
theorem dX5_copyFrom_21 : decode cX5_copyFrom 21 = .ok (.getfield 15, 3) := by decide +kernel
theorem dX5_copyFrom_24 : decode cX5_copyFrom 24 = .ok (.iload_n 2, 1) := by decide +kernel
theorem dX5_copyFrom_25 : decode cX5_copyFrom 25 = .ok (.aload_n 1, 1) := by decide +kernel
theorem dX5_copyFrom_26 : decode cX5_copyFrom 26 = .ok (.getfield 15, 3) := by decide +kernel
theorem dX5_copyFrom_29 : decode cX5_copyFrom 29 = .ok (.iload_n 2, 1) := by decide +kernel
theorem dX5_copyFrom_30 : decode cX5_copyFrom 30 = .ok (.iaload, 1) := by decide +kernel
theorem dX5_copyFrom_31 : decode cX5_copyFrom 31 = .ok (.iastore, 1) := by decide +kernel
theorem dX5_copyFrom_32 : decode cX5_copyFrom 32 = .ok (.aload_n 0, 1) := by decide +kernel
theorem dX5_copyFrom_33 : decode cX5_copyFrom 33 = .ok (.getfield 18, 3) := by decide +kernel
theorem dX5_copyFrom_36 : decode cX5_copyFrom 36 = .ok (.iload_n 2, 1) := by decide +kernel
theorem dX5_copyFrom_37 : decode cX5_copyFrom 37 = .ok (.aload_n 1, 1) := by decide +kernel
theorem dX5_copyFrom_38 : decode cX5_copyFrom 38 = .ok (.getfield 18, 3) := by decide +kernel
theorem dX5_copyFrom_41 : decode cX5_copyFrom 41 = .ok (.iload_n 2, 1) := by decide +kernel
theorem dX5_copyFrom_42 : decode cX5_copyFrom 42 = .ok (.baload, 1) := by decide +kernel
theorem dX5_copyFrom_43 : decode cX5_copyFrom 43 = .ok (.bastore, 1) := by decide +kernel
theorem dX5_copyFrom_44 : decode cX5_copyFrom 44 = .ok (.iinc 2 1, 3) := by decide +kernel
theorem dX5_copyFrom_47 : decode cX5_copyFrom 47 = .ok (.goto (-45), 3) := by decide +kernel
theorem dX5_copyFrom_50 : decode cX5_copyFrom 50 = .ok (.aload_n 0, 1) := by decide +kernel
theorem dX5_copyFrom_51 : decode cX5_copyFrom 51 = .ok (.aload_n 1, 1) := by decide +kernel
theorem dX5_copyFrom_52 : decode cX5_copyFrom 52 = .ok (.getfield 22, 3) := by decide +kernel
theorem dX5_copyFrom_55 : decode cX5_copyFrom 55 = .ok (.putfield 22, 3) := by decide +kernel
theorem dX5_copyFrom_58 : decode cX5_copyFrom 58 = .ok (.return_, 1) := by decide +kernel
theorem dX6_init_0 : decode cX6_init 0 = .ok (.aload_n 0, 1) := by decide +kernel
theorem dX6_init_1 : decode cX6_init 1 = .ok (.invokespecial 3, 3) := by decide +kernel
theorem dX6_init_4 : decode cX6_init 4 = .ok (.return_, 1) := by decide +kernel
theorem dX6_run_0 : decode cX6_run 0 = .ok (.aload_n 0, 1) := by decide +kernel
theorem dX6_run_1 : decode cX6_run 1 = .ok (.invokevirtual 9, 3) := by decide +kernel
theorem dX6_run_4 : decode cX6_run 4 = .ok (.iconst 0, 1) := by decide +kernel
theorem dX6_run_5 : decode cX6_run 5 = .ok (.istore_n 3, 1) := by decide +kernel
theorem dX6_run_6 : decode cX6_run 6 = .ok (.iload_n 3, 1) := by decide +kernel
theorem dX6_run_7 : decode cX6_run 7 = .ok (.aload_n 1, 1) := by decide +kernel
theorem dX6_run_8 : decode cX6_run 8 = .ok (.getfield 14, 3) := by decide +kernel
theorem dX6_run_11 : decode cX6_run 11 = .ok (.if_icmp .ge 33, 3) := by decide +kernel
theorem dX6_run_14 : decode cX6_run 14 = .ok (.aload_n 0, 1) := by decide +kernel
theorem dX6_run_15 : decode cX6_run 15 = .ok (.getfield 20, 3) := by decide +kernel
theorem dX6_run_18 : decode cX6_run 18 = .ok (.bipush (-6), 2) := by decide +kernel
theorem dX6_run_20 : decode cX6_run 20 = .ok (.if_icmp .ne 24, 3) := by decide +kernel
theorem dX6_run_23 : decode cX6_run 23 = .ok (.aload_n 1, 1) := by decide +kernel
theorem dX6_run_24 : decode cX6_run 24 = .ok (.iload_n 3, 1) := by decide +kernel
theorem dX6_run_25 : decode cX6_run 25 = .ok (.invokevirtual 23, 3) := by decide +kernel
theorem dX6_run_28 : decode cX6_run 28 = .ok (.ifCond .eq 10, 3) := by decide +kernel
theorem dX6_run_31 : decode cX6_run 31 = .ok (.aload_n 0, 1) := by decide +kernel
theorem dX6_run_32 : decode cX6_run 32 = .ok (.aload_n 1, 1) := by decide +kernel
theorem dX6_run_33 : decode cX6_run 33 = .ok (.iload_n 3, 1) := by decide +kernel
theorem dX6_run_34 : decode cX6_run 34 = .ok (.aload_n 2, 1) := by decide +kernel
theorem dX6_run_35 : decode cX6_run 35 = .ok (.invokevirtual 27, 3) := by decide +kernel
theorem dX6_run_38 : decode cX6_run 38 = .ok (.iinc 3 1, 3) := by decide +kernel
theorem dX6_run_41 : decode cX6_run 41 = .ok (.goto (-35), 3) := by decide +kernel
theorem dX6_run_44 : decode cX6_run 44 = .ok (.return_, 1) := by decide +kernel
theorem dX6_begin_0 : decode cX6_begin 0 = .ok (.aload_n 0, 1) := by decide +kernel
theorem dX6_begin_1 : decode cX6_begin 1 = .ok (.iconst 0, 1) := by decide +kernel
theorem dX6_begin_2 : decode cX6_begin 2 = .ok (.putfield 31, 3) := by decide +kernel
theorem dX6_begin_5 : decode cX6_begin 5 = .ok (.aload_n 0, 1) := by decide +kernel
theorem dX6_begin_6 : decode cX6_begin 6 = .ok (.bipush (-6), 2) := by decide +kernel
theorem dX6_begin_8 : decode cX6_begin 8 = .ok (.putfield 20, 3) := by decide +kernel
theorem dX6_begin_11 : decode cX6_begin 11 = .ok (.aload_n 0, 1) := by decide +kernel
theorem dX6_begin_12 : decode cX6_begin 12 = .ok (.bipush (-6), 2) := by decide +kernel
theorem dX6_begin_14 : decode cX6_begin 14 = .ok (.putfield 34, 3) := by decide +kernel
theorem dX6_begin_17 : decode cX6_begin 17 = .ok (.aload_n 0, 1) := by decide +kernel
theorem dX6_begin_18 : decode cX6_begin 18 = .ok (.iconst 0, 1) := by decide +kernel
theorem dX6_begin_19 : decode cX6_begin 19 = .ok (.putfield 37, 3) := by decide +kernel
theorem dX6_begin_22 : decode cX6_begin 22 = .ok (.aload_n 0, 1) := by decide +kernel
theorem dX6_begin_23 : decode cX6_begin 23 = .ok (.bipush (-6), 2) := by decide +kernel
theorem dX6_begin_25 : decode cX6_begin 25 = .ok (.putfield 40, 3) := by decide +kernel
theorem dX6_begin_28 : decode cX6_begin 28 = .ok (.aload_n 0, 1) := by decide +kernel
theorem dX6_begin_29 : decode cX6_begin 29 = .ok (.bipush (-6), 2) := by decide +kernel
theorem dX6_begin_31 : decode cX6_begin 31 = .ok (.putfield 43, 3) := by decide +kernel
theorem dX6_begin_34 : decode cX6_begin 34 = .ok (.aload_n 0, 1) := by decide +kernel
theorem dX6_begin_35 : decode cX6_begin 35 = .ok (.iconst 0, 1) := by decide +kernel
theorem dX6_begin_36 : decode cX6_begin 36 = .ok (.putfield 46, 3) := by decide +kernel
theorem dX6_begin_39 : decode cX6_begin 39 = .ok (.return_, 1) := by decide +kernel
theorem dX6_take_0 : decode cX6_take 0 = .ok (.aload_n 1, 1) := by decide +kernel
theorem dX6_take_1 : decode cX6_take 1 = .ok (.iload_n 2, 1) := by decide +kernel
theorem dX6_take_2 : decode cX6_take 2 = .ok (.invokevirtual 49, 3) := by decide +kernel
theorem dX6_take_5 : decode cX6_take 5 = .ok (.istore 4, 2) := by decide +kernel
theorem dX6_take_7 : decode cX6_take 7 = .ok (.aload_n 1, 1) := by decide +kernel
theorem dX6_take_8 : decode cX6_take 8 = .ok (.iload_n 2, 1) := by decide +kernel
theorem dX6_take_9 : decode cX6_take 9 = .ok (.invokevirtual 53, 3) := by decide +kernel
theorem dX6_take_12 : decode cX6_take 12 = .ok (.istore 5, 2) := by decide +kernel
theorem dX6_take_14 : decode cX6_take 14 = .ok (.aload_n 1, 1) := by decide +kernel
theorem dX6_take_15 : decode cX6_take 15 = .ok (.iload_n 2, 1) := by decide +kernel
theorem dX6_take_16 : decode cX6_take 16 = .ok (.invokevirtual 56, 3) := by decide +kernel
theorem dX6_take_19 : decode cX6_take 19 = .ok (.istore 6, 2) := by decide +kernel
theorem dX6_take_21 : decode cX6_take 21 = .ok (.aload_n 3, 1) := by decide +kernel
theorem dX6_take_22 : decode cX6_take 22 = .ok (.iload 4, 2) := by decide +kernel
theorem dX6_take_24 : decode cX6_take 24 = .ok (.iload 5, 2) := by decide +kernel
theorem dX6_take_26 : decode cX6_take 26 = .ok (.iload 6, 2) := by decide +kernel
theorem dX6_take_28 : decode cX6_take 28 = .ok (.invokevirtual 59, 3) := by decide +kernel
theorem dX6_take_31 : decode cX6_take 31 = .ok (.istore 7, 2) := by decide +kernel
theorem dX6_take_33 : decode cX6_take 33 = .ok (.iload 7, 2) := by decide +kernel
theorem dX6_take_35 : decode cX6_take 35 = .ok (.ifCond .eq 18, 3) := by decide +kernel
theorem dX6_take_38 : decode cX6_take 38 = .ok (.aload_n 0, 1) := by decide +kernel
theorem dX6_take_39 : decode cX6_take 39 = .ok (.aload_n 0, 1) := by decide +kernel
theorem dX6_take_40 : decode cX6_take 40 = .ok (.getfield 31, 3) := by decide +kernel
theorem dX6_take_43 : decode cX6_take 43 = .ok (.putfield 20, 3) := by decide +kernel
theorem dX6_take_46 : decode cX6_take 46 = .ok (.aload_n 0, 1) := by decide +kernel
theorem dX6_take_47 : decode cX6_take 47 = .ok (.iload 7, 2) := by decide +kernel
theorem dX6_take_49 : decode cX6_take 49 = .ok (.putfield 34, 3) := by decide +kernel
theorem dX6_take_52 : decode cX6_take 52 = .ok (.return_, 1) := by decide +kernel
theorem dX6_take_53 : decode cX6_take 53 = .ok (.aload_n 3, 1) := by decide +kernel
theorem dX6_take_54 : decode cX6_take 54 = .ok (.iload 4, 2) := by decide +kernel
theorem dX6_take_56 : decode cX6_take 56 = .ok (.iload 5, 2) := by decide +kernel
theorem dX6_take_58 : decode cX6_take 58 = .ok (.iload 6, 2) := by decide +kernel
theorem dX6_take_60 : decode cX6_take 60 = .ok (.invokevirtual 65, 3) := by decide +kernel
theorem dX6_take_63 : decode cX6_take 63 = .ok (.iload 4, 2) := by decide +kernel
theorem dX6_take_65 : decode cX6_take 65 = .ok (.bipush 115, 2) := by decide +kernel
theorem dX6_take_67 : decode cX6_take 67 = .ok (.if_icmp .eq 10, 3) := by decide +kernel
theorem dX6_take_70 : decode cX6_take 70 = .ok (.iload 4, 2) := by decide +kernel
theorem dX6_take_72 : decode cX6_take 72 = .ok (.bipush 120, 2) := by decide +kernel
theorem dX6_take_74 : decode cX6_take 74 = .ok (.if_icmp .ne 13, 3) := by decide +kernel
theorem dX6_take_77 : decode cX6_take 77 = .ok (.aload_n 0, 1) := by decide +kernel
theorem dX6_take_78 : decode cX6_take 78 = .ok (.dup, 1) := by decide +kernel
theorem dX6_take_79 : decode cX6_take 79 = .ok (.getfield 37, 3) := by decide +kernel
theorem dX6_take_82 : decode cX6_take 82 = .ok (.iconst 1, 1) := by decide +kernel
theorem dX6_take_83 : decode cX6_take 83 = .ok (.iadd, 1) := by decide +kernel
theorem dX6_take_84 : decode cX6_take 84 = .ok (.putfield 37, 3) := by decide +kernel
theorem dX6_take_87 : decode cX6_take 87 = .ok (.iload 4, 2) := by decide +kernel
theorem dX6_take_89 : decode cX6_take 89 = .ok (.bipush 120, 2) := by decide +kernel
theorem dX6_take_91 : decode cX6_take 91 = .ok (.if_icmp .ne 9, 3) := by decide +kernel
theorem dX6_take_94 : decode cX6_take 94 = .ok (.aload_n 0, 1) := by decide +kernel
theorem dX6_take_95 : decode cX6_take 95 = .ok (.iload 5, 2) := by decide +kernel
theorem dX6_take_97 : decode cX6_take 97 = .ok (.invokevirtual 69, 3) := by decide +kernel
theorem dX6_take_100 : decode cX6_take 100 = .ok (.aload_n 0, 1) := by decide +kernel
theorem dX6_take_101 : decode cX6_take 101 = .ok (.dup, 1) := by decide +kernel
theorem dX6_take_102 : decode cX6_take 102 = .ok (.getfield 31, 3) := by decide +kernel
theorem dX6_take_105 : decode cX6_take 105 = .ok (.iconst 1, 1) := by decide +kernel
theorem dX6_take_106 : decode cX6_take 106 = .ok (.iadd, 1) := by decide +kernel
theorem dX6_take_107 : decode cX6_take 107 = .ok (.putfield 31, 3) := by decide +kernel
theorem dX6_take_110 : decode cX6_take 110 = .ok (.return_, 1) := by decide +kernel
theorem dX6_noteSinking_0 : decode cX6_noteSinking 0 = .ok (.aload_n 0, 1) := by decide +kernel
theorem dX6_noteSinking_1 : decode cX6_noteSinking 1 = .ok (.getfield 46, 3) := by decide +kernel
theorem dX6_noteSinking_4 : decode cX6_noteSinking 4 = .ok (.ifCond .ne 16, 3) := by decide +kernel
theorem dX6_noteSinking_7 : decode cX6_noteSinking 7 = .ok (.aload_n 0, 1) := by decide +kernel
theorem dX6_noteSinking_8 : decode cX6_noteSinking 8 = .ok (.aload_n 0, 1) := by decide +kernel
theorem dX6_noteSinking_9 : decode cX6_noteSinking 9 = .ok (.getfield 31, 3) := by decide +kernel
theorem dX6_noteSinking_12 : decode cX6_noteSinking 12 = .ok (.putfield 40, 3) := by decide +kernel
theorem dX6_noteSinking_15 : decode cX6_noteSinking 15 = .ok (.aload_n 0, 1) := by decide +kernel
theorem dX6_noteSinking_16 : decode cX6_noteSinking 16 = .ok (.iload_n 1, 1) := by decide +kernel
theorem dX6_noteSinking_17 : decode cX6_noteSinking 17 = .ok (.putfield 43, 3) := by decide +kernel
theorem dX6_noteSinking_20 : decode cX6_noteSinking 20 = .ok (.aload_n 0, 1) := by decide +kernel
theorem dX6_noteSinking_21 : decode cX6_noteSinking 21 = .ok (.dup, 1) := by decide +kernel
theorem dX6_noteSinking_22 : decode cX6_noteSinking 22 = .ok (.getfield 46, 3) := by decide +kernel
theorem dX6_noteSinking_25 : decode cX6_noteSinking 25 = .ok (.iconst 1, 1) := by decide +kernel
theorem dX6_noteSinking_26 : decode cX6_noteSinking 26 = .ok (.iadd, 1) := by decide +kernel
theorem dX6_noteSinking_27 : decode cX6_noteSinking 27 = .ok (.putfield 46, 3) := by decide +kernel
theorem dX6_noteSinking_30 : decode cX6_noteSinking 30 = .ok (.return_, 1) := by decide +kernel
theorem dX7_init_0 : decode cX7_init 0 = .ok (.aload_n 0, 1) := by decide +kernel
theorem dX7_init_1 : decode cX7_init 1 = .ok (.invokespecial 1, 3) := by decide +kernel
theorem dX7_init_4 : decode cX7_init 4 = .ok (.aload_n 0, 1) := by decide +kernel
theorem dX7_init_5 : decode cX7_init 5 = .ok (.new 7, 3) := by decide +kernel
theorem dX7_init_8 : decode cX7_init 8 = .ok (.dup, 1) := by decide +kernel
theorem dX7_init_9 : decode cX7_init 9 = .ok (.invokespecial 9, 3) := by decide +kernel
theorem dX7_init_12 : decode cX7_init 12 = .ok (.putfield 10, 3) := by decide +kernel
theorem dX7_init_15 : decode cX7_init 15 = .ok (.aload_n 0, 1) := by decide +kernel
theorem dX7_init_16 : decode cX7_init 16 = .ok (.new 7, 3) := by decide +kernel
theorem dX7_init_19 : decode cX7_init 19 = .ok (.dup, 1) := by decide +kernel
theorem dX7_init_20 : decode cX7_init 20 = .ok (.invokespecial 9, 3) := by decide +kernel
theorem dX7_init_23 : decode cX7_init 23 = .ok (.putfield 16, 3) := by decide +kernel
theorem dX7_init_26 : decode cX7_init 26 = .ok (.aload_n 0, 1) := by decide +kernel
theorem dX7_init_27 : decode cX7_init 27 = .ok (.new 19, 3) := by decide +kernel
theorem dX7_init_30 : decode cX7_init 30 = .ok (.dup, 1) := by decide +kernel
theorem dX7_init_31 : decode cX7_init 31 = .ok (.invokespecial 21, 3) := by decide +kernel
theorem dX7_init_34 : decode cX7_init 34 = .ok (.putfield 22, 3) := by decide +kernel
theorem dX7_init_37 : decode cX7_init 37 = .ok (.aload_n 0, 1) := by decide +kernel
theorem dX7_init_38 : decode cX7_init 38 = .ok (.new 26, 3) := by decide +kernel
theorem dX7_init_41 : decode cX7_init 41 = .ok (.dup, 1) := by decide +kernel
theorem dX7_init_42 : decode cX7_init 42 = .ok (.invokespecial 28, 3) := by decide +kernel
theorem dX7_init_45 : decode cX7_init 45 = .ok (.putfield 29, 3) := by decide +kernel
theorem dX7_init_48 : decode cX7_init 48 = .ok (.aload_n 0, 1) := by decide +kernel
theorem dX7_init_49 : decode cX7_init 49 = .ok (.new 33, 3) := by decide +kernel
theorem dX7_init_52 : decode cX7_init 52 = .ok (.dup, 1) := by decide +kernel
theorem dX7_init_53 : decode cX7_init 53 = .ok (.invokespecial 35, 3) := by decide +kernel
theorem dX7_init_56 : decode cX7_init 56 = .ok (.putfield 36, 3) := by decide +kernel
theorem dX7_init_59 : decode cX7_init 59 = .ok (.aload_n 0, 1) := by decide +kernel
theorem dX7_init_60 : decode cX7_init 60 = .ok (.new 40, 3) := by decide +kernel
theorem dX7_init_63 : decode cX7_init 63 = .ok (.dup, 1) := by decide +kernel
theorem dX7_init_64 : decode cX7_init 64 = .ok (.invokespecial 42, 3) := by decide +kernel
theorem dX7_init_67 : decode cX7_init 67 = .ok (.putfield 43, 3) := by decide +kernel
theorem dX7_init_70 : decode cX7_init 70 = .ok (.aload_n 0, 1) := by decide +kernel
theorem dX7_init_71 : decode cX7_init 71 = .ok (.iconst 2, 1) := by decide +kernel
theorem dX7_init_72 : decode cX7_init 72 = .ok (.anewarray 47, 3) := by decide +kernel
theorem dX7_init_75 : decode cX7_init 75 = .ok (.putfield 49, 3) := by decide +kernel
theorem dX7_init_78 : decode cX7_init 78 = .ok (.iconst 0, 1) := by decide +kernel
theorem dX7_init_79 : decode cX7_init 79 = .ok (.istore_n 1, 1) := by decide +kernel
theorem dX7_init_80 : decode cX7_init 80 = .ok (.iload_n 1, 1) := by decide +kernel
theorem dX7_init_81 : decode cX7_init 81 = .ok (.aload_n 0, 1) := by decide +kernel
theorem dX7_init_82 : decode cX7_init 82 = .ok (.getfield 49, 3) := by decide +kernel
theorem dX7_init_85 : decode cX7_init 85 = .ok (.arraylength, 1) := by decide +kernel
theorem dX7_init_86 : decode cX7_init 86 = .ok (.if_icmp .ge 22, 3) := by decide +kernel
theorem dX7_init_89 : decode cX7_init 89 = .ok (.aload_n 0, 1) := by decide +kernel
theorem dX7_init_90 : decode cX7_init 90 = .ok (.getfield 49, 3) := by decide +kernel
theorem dX7_init_93 : decode cX7_init 93 = .ok (.iload_n 1, 1) := by decide +kernel
theorem dX7_init_94 : decode cX7_init 94 = .ok (.new 47, 3) := by decide +kernel
theorem dX7_init_97 : decode cX7_init 97 = .ok (.dup, 1) := by decide +kernel
theorem dX7_init_98 : decode cX7_init 98 = .ok (.invokespecial 53, 3) := by decide +kernel
theorem dX7_init_101 : decode cX7_init 101 = .ok (.aastore, 1) := by decide +kernel
theorem dX7_init_102 : decode cX7_init 102 = .ok (.iinc 1 1, 3) := by decide +kernel
theorem dX7_init_105 : decode cX7_init 105 = .ok (.goto (-25), 3) := by decide +kernel
theorem dX7_init_108 : decode cX7_init 108 = .ok (.aload_n 0, 1) := by decide +kernel
theorem dX7_init_109 : decode cX7_init 109 = .ok (.bipush 7, 2) := by decide +kernel
theorem dX7_init_111 : decode cX7_init 111 = .ok (.newarray .long, 2) := by decide +kernel
theorem dX7_init_113 : decode cX7_init 113 = .ok (.putfield 54, 3) := by decide +kernel
theorem dX7_init_116 : decode cX7_init 116 = .ok (.return_, 1) := by decide +kernel
theorem dX7_ship_0 : decode cX7_ship 0 = .ok (.aload_n 0, 1) := by decide +kernel
theorem dX7_ship_1 : decode cX7_ship 1 = .ok (.getfield 10, 3) := by decide +kernel
theorem dX7_ship_4 : decode cX7_ship 4 = .ok (.iload_n 1, 1) := by decide +kernel
theorem dX7_ship_5 : decode cX7_ship 5 = .ok (.invokevirtual 58, 3) := by decide +kernel
theorem dX7_ship_8 : decode cX7_ship 8 = .ok (.astore 5, 2) := by decide +kernel
theorem dX7_ship_10 : decode cX7_ship 10 = .ok (.aload 5, 2) := by decide +kernel
theorem dX7_ship_12 : decode cX7_ship 12 = .ok (.ifnonnull 5, 3) := by decide +kernel
theorem dX7_ship_15 : decode cX7_ship 15 = .ok (.iconst (-1), 1) := by decide +kernel
theorem dX7_ship_16 : decode cX7_ship 16 = .ok (.ireturn, 1) := by decide +kernel
theorem dX7_ship_17 : decode cX7_ship 17 = .ok (.iload_n 2, 1) := by decide +kernel
theorem dX7_ship_18 : decode cX7_ship 18 = .ok (.iconst 0, 1) := by decide +kernel
theorem dX7_ship_19 : decode cX7_ship 19 = .ok (.bipush 40, 2) := by decide +kernel
theorem dX7_ship_21 : decode cX7_ship 21 = .ok (.invokestatic 62, 3) := by decide +kernel
theorem dX7_ship_24 : decode cX7_ship 24 = .ok (.ifCond .eq 24, 3) := by decide +kernel
theorem dX7_ship_27 : decode cX7_ship 27 = .ok (.iload_n 3, 1) := by decide +kernel
theorem dX7_ship_28 : decode cX7_ship 28 = .ok (.iconst 0, 1) := by decide +kernel
theorem dX7_ship_29 : decode cX7_ship 29 = .ok (.bipush 99, 2) := by decide +kernel
theorem dX7_ship_31 : decode cX7_ship 31 = .ok (.invokestatic 62, 3) := by decide +kernel
theorem dX7_ship_34 : decode cX7_ship 34 = .ok (.ifCond .eq 14, 3) := by decide +kernel
theorem dX7_ship_37 : decode cX7_ship 37 = .ok (.iload 4, 2) := by decide +kernel
theorem dX7_ship_39 : decode cX7_ship 39 = .ok (.iconst 1, 1) := by decide +kernel
theorem dX7_ship_40 : decode cX7_ship 40 = .ok (.bipush 20, 2) := by decide +kernel
theorem dX7_ship_42 : decode cX7_ship 42 = .ok (.invokestatic 62, 3) := by decide +kernel
theorem dX7_ship_45 : decode cX7_ship 45 = .ok (.ifCond .ne 6, 3) := by decide +kernel
theorem dX7_ship_48 : decode cX7_ship 48 = .ok (.bipush (-2), 2) := by decide +kernel
theorem dX7_ship_50 : decode cX7_ship 50 = .ok (.ireturn, 1) := by decide +kernel
theorem dX7_ship_51 : decode cX7_ship 51 = .ok (.aload 5, 2) := by decide +kernel
theorem dX7_ship_53 : decode cX7_ship 53 = .ok (.iload_n 2, 1) := by decide +kernel
theorem dX7_ship_54 : decode cX7_ship 54 = .ok (.iload_n 3, 1) := by decide +kernel
theorem dX7_ship_55 : decode cX7_ship 55 = .ok (.iload 4, 2) := by decide +kernel
theorem dX7_ship_57 : decode cX7_ship 57 = .ok (.invokevirtual 66, 3) := by decide +kernel
theorem dX7_ship_60 : decode cX7_ship 60 = .ok (.aload_n 0, 1) := by decide +kernel
theorem dX7_ship_61 : decode cX7_ship 61 = .ok (.getfield 10, 3) := by decide +kernel
theorem dX7_ship_64 : decode cX7_ship 64 = .ok (.invokevirtual 72, 3) := by decide +kernel
theorem dX7_ship_67 : decode cX7_ship 67 = .ok (.ireturn, 1) := by decide +kernel
theorem dX7_sell_0 : decode cX7_sell 0 = .ok (.aload_n 0, 1) := by decide +kernel
theorem dX7_sell_1 : decode cX7_sell 1 = .ok (.getfield 10, 3) := by decide +kernel
theorem dX7_sell_4 : decode cX7_sell 4 = .ok (.iload_n 1, 1) := by decide +kernel
theorem dX7_sell_5 : decode cX7_sell 5 = .ok (.invokevirtual 76, 3) := by decide +kernel
theorem dX7_sell_8 : decode cX7_sell 8 = .ok (.astore_n 2, 1) := by decide +kernel
theorem dX7_sell_9 : decode cX7_sell 9 = .ok (.aload_n 2, 1) := by decide +kernel
theorem dX7_sell_10 : decode cX7_sell 10 = .ok (.ifnonnull 5, 3) := by decide +kernel
theorem dX7_sell_13 : decode cX7_sell 13 = .ok (.iconst (-1), 1) := by decide +kernel
theorem dX7_sell_14 : decode cX7_sell 14 = .ok (.ireturn, 1) := by decide +kernel
theorem dX7_sell_15 : decode cX7_sell 15 = .ok (.aload_n 2, 1) := by decide +kernel
theorem dX7_sell_16 : decode cX7_sell 16 = .ok (.iconst 0, 1) := by decide +kernel
theorem dX7_sell_17 : decode cX7_sell 17 = .ok (.putfield 79, 3) := by decide +kernel
theorem dX7_sell_20 : decode cX7_sell 20 = .ok (.aload_n 0, 1) := by decide +kernel
theorem dX7_sell_21 : decode cX7_sell 21 = .ok (.getfield 10, 3) := by decide +kernel
theorem dX7_sell_24 : decode cX7_sell 24 = .ok (.invokevirtual 72, 3) := by decide +kernel
theorem dX7_sell_27 : decode cX7_sell 27 = .ok (.ireturn, 1) := by decide +kernel
theorem dX7_insure_0 : decode cX7_insure 0 = .ok (.aload_n 0, 1) := by decide +kernel
theorem dX7_insure_1 : decode cX7_insure 1 = .ok (.getfield 10, 3) := by decide +kernel
theorem dX7_insure_4 : decode cX7_insure 4 = .ok (.iload_n 1, 1) := by decide +kernel
theorem dX7_insure_5 : decode cX7_insure 5 = .ok (.invokevirtual 76, 3) := by decide +kernel
theorem dX7_insure_8 : decode cX7_insure 8 = .ok (.astore 4, 2) := by decide +kernel
theorem dX7_insure_10 : decode cX7_insure 10 = .ok (.aload 4, 2) := by decide +kernel
theorem dX7_insure_12 : decode cX7_insure 12 = .ok (.ifnonnull 5, 3) := by decide +kernel
theorem dX7_insure_15 : decode cX7_insure 15 = .ok (.iconst (-1), 1) := by decide +kernel
theorem dX7_insure_16 : decode cX7_insure 16 = .ok (.ireturn, 1) := by decide +kernel
theorem dX7_insure_17 : decode cX7_insure 17 = .ok (.iload_n 2, 1) := by decide +kernel
theorem dX7_insure_18 : decode cX7_insure 18 = .ok (.iconst 0, 1) := by decide +kernel
theorem dX7_insure_19 : decode cX7_insure 19 = .ok (.iconst 2, 1) := by decide +kernel
theorem dX7_insure_20 : decode cX7_insure 20 = .ok (.invokestatic 62, 3) := by decide +kernel
theorem dX7_insure_23 : decode cX7_insure 23 = .ok (.ifCond .eq 13, 3) := by decide +kernel
theorem dX7_insure_26 : decode cX7_insure 26 = .ok (.iload_n 3, 1) := by decide +kernel
theorem dX7_insure_27 : decode cX7_insure 27 = .ok (.iconst 0, 1) := by decide +kernel
theorem dX7_insure_28 : decode cX7_insure 28 = .ok (.bipush 99, 2) := by decide +kernel
theorem dX7_insure_30 : decode cX7_insure 30 = .ok (.invokestatic 62, 3) := by decide +kernel
theorem dX7_insure_33 : decode cX7_insure 33 = .ok (.ifCond .ne 6, 3) := by decide +kernel
theorem dX7_insure_36 : decode cX7_insure 36 = .ok (.bipush (-2), 2) := by decide +kernel
theorem dX7_insure_38 : decode cX7_insure 38 = .ok (.ireturn, 1) := by decide +kernel
theorem dX7_insure_39 : decode cX7_insure 39 = .ok (.aload 4, 2) := by decide +kernel
theorem dX7_insure_41 : decode cX7_insure 41 = .ok (.iload_n 2, 1) := by decide +kernel
theorem dX7_insure_42 : decode cX7_insure 42 = .ok (.invokevirtual 83, 3) := by decide +kernel
theorem dX7_insure_45 : decode cX7_insure 45 = .ok (.istore 5, 2) := by decide +kernel
theorem dX7_insure_47 : decode cX7_insure 47 = .ok (.aload 4, 2) := by decide +kernel
theorem dX7_insure_49 : decode cX7_insure 49 = .ok (.iload_n 2, 1) := by decide +kernel
theorem dX7_insure_50 : decode cX7_insure 50 = .ok (.iload_n 3, 1) := by decide +kernel
theorem dX7_insure_51 : decode cX7_insure 51 = .ok (.invokevirtual 87, 3) := by decide +kernel
theorem dX7_insure_54 : decode cX7_insure 54 = .ok (.iload 5, 2) := by decide +kernel
theorem dX7_insure_56 : decode cX7_insure 56 = .ok (.ireturn, 1) := by decide +kernel
theorem dX7_load_0 : decode cX7_load 0 = .ok (.aload_n 0, 1) := by decide +kernel
theorem dX7_load_1 : decode cX7_load 1 = .ok (.getfield 10, 3) := by decide +kernel
theorem dX7_load_4 : decode cX7_load 4 = .ok (.iload_n 1, 1) := by decide +kernel
theorem dX7_load_5 : decode cX7_load 5 = .ok (.invokevirtual 76, 3) := by decide +kernel
theorem dX7_load_8 : decode cX7_load 8 = .ok (.astore_n 3, 1) := by decide +kernel
theorem dX7_load_9 : decode cX7_load 9 = .ok (.aload_n 3, 1) := by decide +kernel
theorem dX7_load_10 : decode cX7_load 10 = .ok (.ifnonnull 5, 3) := by decide +kernel
theorem dX7_load_13 : decode cX7_load 13 = .ok (.iconst (-1), 1) := by decide +kernel
theorem dX7_load_14 : decode cX7_load 14 = .ok (.ireturn, 1) := by decide +kernel
theorem dX7_load_15 : decode cX7_load 15 = .ok (.iload_n 2, 1) := by decide +kernel
theorem dX7_load_16 : decode cX7_load 16 = .ok (.iconst 0, 1) := by decide +kernel
theorem dX7_load_17 : decode cX7_load 17 = .ok (.bipush 9, 2) := by decide +kernel
theorem dX7_load_19 : decode cX7_load 19 = .ok (.invokestatic 62, 3) := by decide +kernel
theorem dX7_load_22 : decode cX7_load 22 = .ok (.ifCond .ne 6, 3) := by decide +kernel
theorem dX7_load_25 : decode cX7_load 25 = .ok (.bipush (-2), 2) := by decide +kernel
theorem dX7_load_27 : decode cX7_load 27 = .ok (.ireturn, 1) := by decide +kernel
theorem dX7_load_28 : decode cX7_load 28 = .ok (.aload_n 3, 1) := by decide +kernel
theorem dX7_load_29 : decode cX7_load 29 = .ok (.getfield 91, 3) := by decide +kernel
theorem dX7_load_32 : decode cX7_load 32 = .ok (.istore 4, 2) := by decide +kernel
theorem dX7_load_34 : decode cX7_load 34 = .ok (.aload_n 3, 1) := by decide +kernel
theorem dX7_load_35 : decode cX7_load 35 = .ok (.iload_n 2, 1) := by decide +kernel
theorem dX7_load_36 : decode cX7_load 36 = .ok (.putfield 91, 3) := by decide +kernel
theorem dX7_load_39 : decode cX7_load 39 = .ok (.iload 4, 2) := by decide +kernel
theorem dX7_load_41 : decode cX7_load 41 = .ok (.ireturn, 1) := by decide +kernel
theorem dX7_set_0 : decode cX7_set 0 = .ok (.bipush (-2), 2) := by decide +kernel
theorem dX7_set_2 : decode cX7_set 2 = .ok (.istore_n 3, 1) := by decide +kernel
theorem dX7_set_3 : decode cX7_set 3 = .ok (.iload_n 1, 1) := by decide +kernel
theorem dX7_set_4 : decode cX7_set 4 = .ok (.ifCond .ne 32, 3) := by decide +kernel
theorem dX7_set_7 : decode cX7_set 7 = .ok (.iload_n 2, 1) := by decide +kernel
theorem dX7_set_8 : decode cX7_set 8 = .ok (.iconst 0, 1) := by decide +kernel
theorem dX7_set_9 : decode cX7_set 9 = .ok (.bipush 99, 2) := by decide +kernel
theorem dX7_set_11 : decode cX7_set 11 = .ok (.invokestatic 62, 3) := by decide +kernel
theorem dX7_set_14 : decode cX7_set 14 = .ok (.ifCond .eq 22, 3) := by decide +kernel
theorem dX7_set_17 : decode cX7_set 17 = .ok (.aload_n 0, 1) := by decide +kernel
theorem dX7_set_18 : decode cX7_set 18 = .ok (.getfield 10, 3) := by decide +kernel
theorem dX7_set_21 : decode cX7_set 21 = .ok (.getfield 95, 3) := by decide +kernel
theorem dX7_set_24 : decode cX7_set 24 = .ok (.istore_n 3, 1) := by decide +kernel
theorem dX7_set_25 : decode cX7_set 25 = .ok (.aload_n 0, 1) := by decide +kernel
theorem dX7_set_26 : decode cX7_set 26 = .ok (.getfield 10, 3) := by decide +kernel
theorem dX7_set_29 : decode cX7_set 29 = .ok (.iload_n 2, 1) := by decide +kernel
theorem dX7_set_30 : decode cX7_set 30 = .ok (.putfield 95, 3) := by decide +kernel
theorem dX7_set_33 : decode cX7_set 33 = .ok (.goto 67, 3) := by decide +kernel
theorem dX7_set_36 : decode cX7_set 36 = .ok (.iload_n 1, 1) := by decide +kernel
theorem dX7_set_37 : decode cX7_set 37 = .ok (.iconst 1, 1) := by decide +kernel
theorem dX7_set_38 : decode cX7_set 38 = .ok (.if_icmp .ne 32, 3) := by decide +kernel
theorem dX7_set_41 : decode cX7_set 41 = .ok (.iload_n 2, 1) := by decide +kernel
theorem dX7_set_42 : decode cX7_set 42 = .ok (.iconst 0, 1) := by decide +kernel
theorem dX7_set_43 : decode cX7_set 43 = .ok (.bipush 20, 2) := by decide +kernel
theorem dX7_set_45 : decode cX7_set 45 = .ok (.invokestatic 62, 3) := by decide +kernel
theorem dX7_set_48 : decode cX7_set 48 = .ok (.ifCond .eq 22, 3) := by decide +kernel
theorem dX7_set_51 : decode cX7_set 51 = .ok (.aload_n 0, 1) := by decide +kernel
theorem dX7_set_52 : decode cX7_set 52 = .ok (.getfield 10, 3) := by decide +kernel
theorem dX7_set_55 : decode cX7_set 55 = .ok (.getfield 98, 3) := by decide +kernel
theorem dX7_set_58 : decode cX7_set 58 = .ok (.istore_n 3, 1) := by decide +kernel
theorem dX7_set_59 : decode cX7_set 59 = .ok (.aload_n 0, 1) := by decide +kernel
theorem dX7_set_60 : decode cX7_set 60 = .ok (.getfield 10, 3) := by decide +kernel
theorem dX7_set_63 : decode cX7_set 63 = .ok (.iload_n 2, 1) := by decide +kernel
theorem dX7_set_64 : decode cX7_set 64 = .ok (.putfield 98, 3) := by decide +kernel
theorem dX7_set_67 : decode cX7_set 67 = .ok (.goto 33, 3) := by decide +kernel
theorem dX7_set_70 : decode cX7_set 70 = .ok (.iload_n 1, 1) := by decide +kernel
theorem dX7_set_71 : decode cX7_set 71 = .ok (.iconst 2, 1) := by decide +kernel
theorem dX7_set_72 : decode cX7_set 72 = .ok (.if_icmp .ne 28, 3) := by decide +kernel
theorem dX7_set_75 : decode cX7_set 75 = .ok (.iload_n 2, 1) := by decide +kernel
theorem dX7_set_76 : decode cX7_set 76 = .ok (.iconst 0, 1) := by decide +kernel
theorem dX7_set_77 : decode cX7_set 77 = .ok (.iconst 1, 1) := by decide +kernel
theorem dX7_set_78 : decode cX7_set 78 = .ok (.invokestatic 62, 3) := by decide +kernel
theorem dX7_set_81 : decode cX7_set 81 = .ok (.ifCond .eq 19, 3) := by decide +kernel
theorem dX7_set_84 : decode cX7_set 84 = .ok (.aload_n 0, 1) := by decide +kernel
theorem dX7_set_85 : decode cX7_set 85 = .ok (.getfield 10, 3) := by decide +kernel
theorem dX7_set_88 : decode cX7_set 88 = .ok (.getfield 101, 3) := by decide +kernel
theorem dX7_set_91 : decode cX7_set 91 = .ok (.istore_n 3, 1) := by decide +kernel
theorem dX7_set_92 : decode cX7_set 92 = .ok (.aload_n 0, 1) := by decide +kernel
theorem dX7_set_93 : decode cX7_set 93 = .ok (.getfield 10, 3) := by decide +kernel
theorem dX7_set_96 : decode cX7_set 96 = .ok (.iload_n 2, 1) := by decide +kernel
theorem dX7_set_97 : decode cX7_set 97 = .ok (.putfield 101, 3) := by decide +kernel
theorem dX7_set_100 : decode cX7_set 100 = .ok (.iload_n 3, 1) := by decide +kernel
theorem dX7_set_101 : decode cX7_set 101 = .ok (.ireturn, 1) := by decide +kernel
theorem dX7_say_0 : decode cX7_say 0 = .ok (.iload_n 1, 1) := by decide +kernel
theorem dX7_say_1 : decode cX7_say 1 = .ok (.bipush 33, 2) := by decide +kernel
theorem dX7_say_3 : decode cX7_say 3 = .ok (.bipush 126, 2) := by decide +kernel
theorem dX7_say_5 : decode cX7_say 5 = .ok (.invokestatic 62, 3) := by decide +kernel
theorem dX7_say_8 : decode cX7_say 8 = .ok (.ifCond .ne 6, 3) := by decide +kernel
theorem dX7_say_11 : decode cX7_say 11 = .ok (.bipush (-2), 2) := by decide +kernel
theorem dX7_say_13 : decode cX7_say 13 = .ok (.ireturn, 1) := by decide +kernel
theorem dX7_say_14 : decode cX7_say 14 = .ok (.aload_n 0, 1) := by decide +kernel
theorem dX7_say_15 : decode cX7_say 15 = .ok (.getfield 22, 3) := by decide +kernel
theorem dX7_say_18 : decode cX7_say 18 = .ok (.iload_n 1, 1) := by decide +kernel
theorem dX7_say_19 : decode cX7_say 19 = .ok (.invokevirtual 104, 3) := by decide +kernel
theorem dX7_say_22 : decode cX7_say 22 = .ok (.ifCond .eq 13, 3) := by decide +kernel
theorem dX7_say_25 : decode cX7_say 25 = .ok (.aload_n 0, 1) := by decide +kernel
theorem dX7_say_26 : decode cX7_say 26 = .ok (.getfield 22, 3) := by decide +kernel
theorem dX7_say_29 : decode cX7_say 29 = .ok (.getfield 108, 3) := by decide +kernel
theorem dX7_say_32 : decode cX7_say 32 = .ok (.goto 5, 3) := by decide +kernel
theorem dX7_say_35 : decode cX7_say 35 = .ok (.bipush (-4), 2) := by decide +kernel
theorem dX7_say_37 : decode cX7_say 37 = .ok (.ireturn, 1) := by decide +kernel
theorem dX7_wipe_0 : decode cX7_wipe 0 = .ok (.aload_n 0, 1) := by decide +kernel
theorem dX7_wipe_1 : decode cX7_wipe 1 = .ok (.getfield 22, 3) := by decide +kernel
theorem dX7_wipe_4 : decode cX7_wipe 4 = .ok (.getfield 108, 3) := by decide +kernel
theorem dX7_wipe_7 : decode cX7_wipe 7 = .ok (.istore_n 1, 1) := by decide +kernel
theorem dX7_wipe_8 : decode cX7_wipe 8 = .ok (.aload_n 0, 1) := by decide +kernel
theorem dX7_wipe_9 : decode cX7_wipe 9 = .ok (.getfield 22, 3) := by decide +kernel
theorem dX7_wipe_12 : decode cX7_wipe 12 = .ok (.iconst 0, 1) := by decide +kernel
theorem dX7_wipe_13 : decode cX7_wipe 13 = .ok (.putfield 108, 3) := by decide +kernel
theorem dX7_wipe_16 : decode cX7_wipe 16 = .ok (.iload_n 1, 1) := by decide +kernel
theorem dX7_wipe_17 : decode cX7_wipe 17 = .ok (.ireturn, 1) := by decide +kernel
theorem dX7_fault_0 : decode cX7_fault 0 = .ok (.aload_n 0, 1) := by decide +kernel
theorem dX7_fault_1 : decode cX7_fault 1 = .ok (.getfield 22, 3) := by decide +kernel
theorem dX7_fault_4 : decode cX7_fault 4 = .ok (.invokevirtual 111, 3) := by decide +kernel
theorem dX7_fault_7 : decode cX7_fault 7 = .ok (.ireturn, 1) := by decide +kernel
theorem dX7_judge_0 : decode cX7_judge 0 = .ok (.iload_n 1, 1) := by decide +kernel
theorem dX7_judge_1 : decode cX7_judge 1 = .ok (.iconst 0, 1) := by decide +kernel
theorem dX7_judge_2 : decode cX7_judge 2 = .ok (.iconst 2, 1) := by decide +kernel
theorem dX7_judge_3 : decode cX7_judge 3 = .ok (.invokestatic 62, 3) := by decide +kernel
theorem dX7_judge_6 : decode cX7_judge 6 = .ok (.ifCond .ne 6, 3) := by decide +kernel
theorem dX7_judge_9 : decode cX7_judge 9 = .ok (.bipush (-2), 2) := by decide +kernel
theorem dX7_judge_11 : decode cX7_judge 11 = .ok (.ireturn, 1) := by decide +kernel
theorem dX7_judge_12 : decode cX7_judge 12 = .ok (.aload_n 0, 1) := by decide +kernel
theorem dX7_judge_13 : decode cX7_judge 13 = .ok (.invokevirtual 114, 3) := by decide +kernel
theorem dX7_judge_16 : decode cX7_judge 16 = .ok (.istore_n 2, 1) := by decide +kernel
theorem dX7_judge_17 : decode cX7_judge 17 = .ok (.iload_n 2, 1) := by decide +kernel
theorem dX7_judge_18 : decode cX7_judge 18 = .ok (.bipush (-5), 2) := by decide +kernel
theorem dX7_judge_20 : decode cX7_judge 20 = .ok (.if_icmp .ne 6, 3) := by decide +kernel
theorem dX7_judge_23 : decode cX7_judge 23 = .ok (.bipush (-5), 2) := by decide +kernel
theorem dX7_judge_25 : decode cX7_judge 25 = .ok (.ireturn, 1) := by decide +kernel
theorem dX7_judge_26 : decode cX7_judge 26 = .ok (.iload_n 1, 1) := by decide +kernel
theorem dX7_judge_27 : decode cX7_judge 27 = .ok (.ifCond .ne 11, 3) := by decide +kernel
theorem dX7_judge_30 : decode cX7_judge 30 = .ok (.aload_n 0, 1) := by decide +kernel
theorem dX7_judge_31 : decode cX7_judge 31 = .ok (.getfield 29, 3) := by decide +kernel
theorem dX7_judge_34 : decode cX7_judge 34 = .ok (.getfield 117, 3) := by decide +kernel
theorem dX7_judge_37 : decode cX7_judge 37 = .ok (.ireturn, 1) := by decide +kernel
theorem dX7_judge_38 : decode cX7_judge 38 = .ok (.iload_n 1, 1) := by decide +kernel
theorem dX7_judge_39 : decode cX7_judge 39 = .ok (.iconst 1, 1) := by decide +kernel
theorem dX7_judge_40 : decode cX7_judge 40 = .ok (.if_icmp .ne 11, 3) := by decide +kernel
theorem dX7_judge_43 : decode cX7_judge 43 = .ok (.aload_n 0, 1) := by decide +kernel
theorem dX7_judge_44 : decode cX7_judge 44 = .ok (.getfield 29, 3) := by decide +kernel
theorem dX7_judge_47 : decode cX7_judge 47 = .ok (.getfield 120, 3) := by decide +kernel
theorem dX7_judge_50 : decode cX7_judge 50 = .ok (.ireturn, 1) := by decide +kernel
theorem dX7_judge_51 : decode cX7_judge 51 = .ok (.iload_n 2, 1) := by decide +kernel
theorem dX7_judge_52 : decode cX7_judge 52 = .ok (.ifCond .ne 13, 3) := by decide +kernel
theorem dX7_judge_55 : decode cX7_judge 55 = .ok (.aload_n 0, 1) := by decide +kernel
theorem dX7_judge_56 : decode cX7_judge 56 = .ok (.getfield 29, 3) := by decide +kernel
theorem dX7_judge_59 : decode cX7_judge 59 = .ok (.getfield 123, 3) := by decide +kernel
theorem dX7_judge_62 : decode cX7_judge 62 = .ok (.goto 4, 3) := by decide +kernel
theorem dX7_judge_65 : decode cX7_judge 65 = .ok (.iload_n 2, 1) := by decide +kernel
theorem dX7_judge_66 : decode cX7_judge 66 = .ok (.ireturn, 1) := by decide +kernel
theorem dX7_behind_0 : decode cX7_behind 0 = .ok (.aload_n 0, 1) := by decide +kernel
theorem dX7_behind_1 : decode cX7_behind 1 = .ok (.getfield 10, 3) := by decide +kernel
theorem dX7_behind_4 : decode cX7_behind 4 = .ok (.iload_n 1, 1) := by decide +kernel
theorem dX7_behind_5 : decode cX7_behind 5 = .ok (.invokevirtual 76, 3) := by decide +kernel
theorem dX7_behind_8 : decode cX7_behind 8 = .ok (.ifnonnull 5, 3) := by decide +kernel
theorem dX7_behind_11 : decode cX7_behind 11 = .ok (.iconst (-1), 1) := by decide +kernel
theorem dX7_behind_12 : decode cX7_behind 12 = .ok (.ireturn, 1) := by decide +kernel
theorem dX7_behind_13 : decode cX7_behind 13 = .ok (.iload_n 2, 1) := by decide +kernel
theorem dX7_behind_14 : decode cX7_behind 14 = .ok (.iconst 0, 1) := by decide +kernel
theorem dX7_behind_15 : decode cX7_behind 15 = .ok (.iconst 4, 1) := by decide +kernel
theorem dX7_behind_16 : decode cX7_behind 16 = .ok (.invokestatic 62, 3) := by decide +kernel
theorem dX7_behind_19 : decode cX7_behind 19 = .ok (.ifCond .ne 6, 3) := by decide +kernel
theorem dX7_behind_22 : decode cX7_behind 22 = .ok (.bipush (-2), 2) := by decide +kernel
theorem dX7_behind_24 : decode cX7_behind 24 = .ok (.ireturn, 1) := by decide +kernel
theorem dX7_behind_25 : decode cX7_behind 25 = .ok (.aload_n 0, 1) := by decide +kernel
theorem dX7_behind_26 : decode cX7_behind 26 = .ok (.invokevirtual 114, 3) := by decide +kernel
theorem dX7_behind_29 : decode cX7_behind 29 = .ok (.istore_n 3, 1) := by decide +kernel
theorem dX7_behind_30 : decode cX7_behind 30 = .ok (.iload_n 3, 1) := by decide +kernel
theorem dX7_behind_31 : decode cX7_behind 31 = .ok (.ifCond .eq 5, 3) := by decide +kernel
theorem dX7_behind_34 : decode cX7_behind 34 = .ok (.iload_n 3, 1) := by decide +kernel
theorem dX7_behind_35 : decode cX7_behind 35 = .ok (.ireturn, 1) := by decide +kernel
theorem dX7_behind_36 : decode cX7_behind 36 = .ok (.aload_n 0, 1) := by decide +kernel
theorem dX7_behind_37 : decode cX7_behind 37 = .ok (.getfield 16, 3) := by decide +kernel
theorem dX7_behind_40 : decode cX7_behind 40 = .ok (.iload_n 1, 1) := by decide +kernel
theorem dX7_behind_41 : decode cX7_behind 41 = .ok (.invokevirtual 76, 3) := by decide +kernel
theorem dX7_behind_44 : decode cX7_behind 44 = .ok (.astore 4, 2) := by decide +kernel
theorem dX7_behind_46 : decode cX7_behind 46 = .ok (.aload 4, 2) := by decide +kernel
theorem dX7_behind_48 : decode cX7_behind 48 = .ok (.ifnonnull 5, 3) := by decide +kernel
theorem dX7_behind_51 : decode cX7_behind 51 = .ok (.iconst (-1), 1) := by decide +kernel
theorem dX7_behind_52 : decode cX7_behind 52 = .ok (.ireturn, 1) := by decide +kernel
theorem dX7_behind_53 : decode cX7_behind 53 = .ok (.iload_n 2, 1) := by decide +kernel
theorem dX7_behind_54 : decode cX7_behind 54 = .ok (.tableswitch 63 0 3 #[30, 36, 42, 48], 30) := by decide +kernel
theorem dX7_behind_84 : decode cX7_behind 84 = .ok (.aload 4, 2) := by decide +kernel
theorem dX7_behind_86 : decode cX7_behind 86 = .ok (.getfield 126, 3) := by decide +kernel
theorem dX7_behind_89 : decode cX7_behind 89 = .ok (.ireturn, 1) := by decide +kernel
theorem dX7_behind_90 : decode cX7_behind 90 = .ok (.aload 4, 2) := by decide +kernel
theorem dX7_behind_92 : decode cX7_behind 92 = .ok (.getfield 91, 3) := by decide +kernel
theorem dX7_behind_95 : decode cX7_behind 95 = .ok (.ireturn, 1) := by decide +kernel
theorem dX7_behind_96 : decode cX7_behind 96 = .ok (.aload 4, 2) := by decide +kernel
theorem dX7_behind_98 : decode cX7_behind 98 = .ok (.invokevirtual 129, 3) := by decide +kernel
theorem dX7_behind_101 : decode cX7_behind 101 = .ok (.ireturn, 1) := by decide +kernel
theorem dX7_behind_102 : decode cX7_behind 102 = .ok (.aload_n 0, 1) := by decide +kernel
theorem dX7_behind_103 : decode cX7_behind 103 = .ok (.getfield 16, 3) := by decide +kernel
theorem dX7_behind_106 : decode cX7_behind 106 = .ok (.aload 4, 2) := by decide +kernel
theorem dX7_behind_108 : decode cX7_behind 108 = .ok (.aload 4, 2) := by decide +kernel
theorem dX7_behind_110 : decode cX7_behind 110 = .ok (.getfield 91, 3) := by decide +kernel
theorem dX7_behind_113 : decode cX7_behind 113 = .ok (.invokevirtual 132, 3) := by decide +kernel
theorem dX7_behind_116 : decode cX7_behind 116 = .ok (.ireturn, 1) := by decide +kernel
theorem dX7_behind_117 : decode cX7_behind 117 = .ok (.aload 4, 2) := by decide +kernel
theorem dX7_behind_119 : decode cX7_behind 119 = .ok (.getfield 136, 3) := by decide +kernel
theorem dX7_behind_122 : decode cX7_behind 122 = .ok (.ifCond .eq 7, 3) := by decide +kernel
theorem dX7_behind_125 : decode cX7_behind 125 = .ok (.iconst 1, 1) := by decide +kernel
theorem dX7_behind_126 : decode cX7_behind 126 = .ok (.goto 4, 3) := by decide +kernel
theorem dX7_behind_129 : decode cX7_behind 129 = .ok (.iconst 0, 1) := by decide +kernel
theorem dX7_behind_130 : decode cX7_behind 130 = .ok (.ireturn, 1) := by decide +kernel
theorem dX7_total_0 : decode cX7_total 0 = .ok (.iload_n 1, 1) := by decide +kernel
theorem dX7_total_1 : decode cX7_total 1 = .ok (.iconst 0, 1) := by decide +kernel
theorem dX7_total_2 : decode cX7_total 2 = .ok (.iconst 3, 1) := by decide +kernel
theorem dX7_total_3 : decode cX7_total 3 = .ok (.invokestatic 62, 3) := by decide +kernel
theorem dX7_total_6 : decode cX7_total 6 = .ok (.ifCond .ne 6, 3) := by decide +kernel
theorem dX7_total_9 : decode cX7_total 9 = .ok (.bipush (-2), 2) := by decide +kernel
theorem dX7_total_11 : decode cX7_total 11 = .ok (.ireturn, 1) := by decide +kernel
theorem dX7_total_12 : decode cX7_total 12 = .ok (.aload_n 0, 1) := by decide +kernel
theorem dX7_total_13 : decode cX7_total 13 = .ok (.invokevirtual 114, 3) := by decide +kernel
theorem dX7_total_16 : decode cX7_total 16 = .ok (.istore_n 2, 1) := by decide +kernel
theorem dX7_total_17 : decode cX7_total 17 = .ok (.iload_n 2, 1) := by decide +kernel
theorem dX7_total_18 : decode cX7_total 18 = .ok (.ifCond .eq 5, 3) := by decide +kernel
theorem dX7_total_21 : decode cX7_total 21 = .ok (.iload_n 2, 1) := by decide +kernel
theorem dX7_total_22 : decode cX7_total 22 = .ok (.ireturn, 1) := by decide +kernel
theorem dX7_total_23 : decode cX7_total 23 = .ok (.iload_n 1, 1) := by decide +kernel
theorem dX7_total_24 : decode cX7_total 24 = .ok (.tableswitch 55 0 2 #[28, 39, 47], 28) := by decide +kernel
theorem dX7_total_52 : decode cX7_total 52 = .ok (.aload_n 0, 1) := by decide +kernel
theorem dX7_total_53 : decode cX7_total 53 = .ok (.getfield 16, 3) := by decide +kernel
theorem dX7_total_56 : decode cX7_total 56 = .ok (.getfield 139, 3) := by decide +kernel
theorem dX7_total_59 : decode cX7_total 59 = .ok (.ldc 142, 2) := by decide +kernel
theorem dX7_total_61 : decode cX7_total 61 = .ok (.iadd, 1) := by decide +kernel
theorem dX7_total_62 : decode cX7_total 62 = .ok (.ireturn, 1) := by decide +kernel
theorem dX7_total_63 : decode cX7_total 63 = .ok (.aload_n 0, 1) := by decide +kernel
theorem dX7_total_64 : decode cX7_total 64 = .ok (.getfield 16, 3) := by decide +kernel
theorem dX7_total_67 : decode cX7_total 67 = .ok (.getfield 143, 3) := by decide +kernel
theorem dX7_total_70 : decode cX7_total 70 = .ok (.ireturn, 1) := by decide +kernel
theorem dX7_total_71 : decode cX7_total 71 = .ok (.aload_n 0, 1) := by decide +kernel
theorem dX7_total_72 : decode cX7_total 72 = .ok (.getfield 16, 3) := by decide +kernel
theorem dX7_total_75 : decode cX7_total 75 = .ok (.getfield 101, 3) := by decide +kernel
theorem dX7_total_78 : decode cX7_total 78 = .ok (.ireturn, 1) := by decide +kernel
theorem dX7_total_79 : decode cX7_total 79 = .ok (.aload_n 0, 1) := by decide +kernel
theorem dX7_total_80 : decode cX7_total 80 = .ok (.getfield 16, 3) := by decide +kernel
theorem dX7_total_83 : decode cX7_total 83 = .ok (.getfield 146, 3) := by decide +kernel
theorem dX7_total_86 : decode cX7_total 86 = .ok (.ireturn, 1) := by decide +kernel
theorem dX7_sunk_0 : decode cX7_sunk 0 = .ok (.iload_n 1, 1) := by decide +kernel
theorem dX7_sunk_1 : decode cX7_sunk 1 = .ok (.iconst 0, 1) := by decide +kernel
theorem dX7_sunk_2 : decode cX7_sunk 2 = .ok (.iconst 2, 1) := by decide +kernel
theorem dX7_sunk_3 : decode cX7_sunk 3 = .ok (.invokestatic 62, 3) := by decide +kernel
theorem dX7_sunk_6 : decode cX7_sunk 6 = .ok (.ifCond .ne 6, 3) := by decide +kernel
theorem dX7_sunk_9 : decode cX7_sunk 9 = .ok (.bipush (-2), 2) := by decide +kernel
theorem dX7_sunk_11 : decode cX7_sunk 11 = .ok (.ireturn, 1) := by decide +kernel
theorem dX7_sunk_12 : decode cX7_sunk 12 = .ok (.aload_n 0, 1) := by decide +kernel
theorem dX7_sunk_13 : decode cX7_sunk 13 = .ok (.invokevirtual 114, 3) := by decide +kernel
theorem dX7_sunk_16 : decode cX7_sunk 16 = .ok (.istore_n 2, 1) := by decide +kernel
theorem dX7_sunk_17 : decode cX7_sunk 17 = .ok (.iload_n 2, 1) := by decide +kernel
theorem dX7_sunk_18 : decode cX7_sunk 18 = .ok (.ifCond .eq 5, 3) := by decide +kernel
theorem dX7_sunk_21 : decode cX7_sunk 21 = .ok (.iload_n 2, 1) := by decide +kernel
theorem dX7_sunk_22 : decode cX7_sunk 22 = .ok (.ireturn, 1) := by decide +kernel
theorem dX7_sunk_23 : decode cX7_sunk 23 = .ok (.iload_n 1, 1) := by decide +kernel
theorem dX7_sunk_24 : decode cX7_sunk 24 = .ok (.lookupswitch 44 #[(0, 28), (1, 36)], 28) := by decide +kernel
theorem dX7_sunk_52 : decode cX7_sunk 52 = .ok (.aload_n 0, 1) := by decide +kernel
theorem dX7_sunk_53 : decode cX7_sunk 53 = .ok (.getfield 29, 3) := by decide +kernel
theorem dX7_sunk_56 : decode cX7_sunk 56 = .ok (.getfield 149, 3) := by decide +kernel
theorem dX7_sunk_59 : decode cX7_sunk 59 = .ok (.ireturn, 1) := by decide +kernel
theorem dX7_sunk_60 : decode cX7_sunk 60 = .ok (.aload_n 0, 1) := by decide +kernel
theorem dX7_sunk_61 : decode cX7_sunk 61 = .ok (.getfield 29, 3) := by decide +kernel
theorem dX7_sunk_64 : decode cX7_sunk 64 = .ok (.getfield 152, 3) := by decide +kernel
theorem dX7_sunk_67 : decode cX7_sunk 67 = .ok (.ireturn, 1) := by decide +kernel
theorem dX7_sunk_68 : decode cX7_sunk 68 = .ok (.aload_n 0, 1) := by decide +kernel
theorem dX7_sunk_69 : decode cX7_sunk 69 = .ok (.getfield 29, 3) := by decide +kernel
theorem dX7_sunk_72 : decode cX7_sunk 72 = .ok (.getfield 155, 3) := by decide +kernel
theorem dX7_sunk_75 : decode cX7_sunk 75 = .ok (.ireturn, 1) := by decide +kernel
theorem dX7_done_0 : decode cX7_done 0 = .ok (.aload_n 0, 1) := by decide +kernel
theorem dX7_done_1 : decode cX7_done 1 = .ok (.invokevirtual 114, 3) := by decide +kernel
theorem dX7_done_4 : decode cX7_done 4 = .ok (.istore_n 1, 1) := by decide +kernel
theorem dX7_done_5 : decode cX7_done 5 = .ok (.iload_n 1, 1) := by decide +kernel
theorem dX7_done_6 : decode cX7_done 6 = .ok (.ifCond .eq 5, 3) := by decide +kernel
theorem dX7_done_9 : decode cX7_done 9 = .ok (.iload_n 1, 1) := by decide +kernel
theorem dX7_done_10 : decode cX7_done 10 = .ok (.ireturn, 1) := by decide +kernel
theorem dX7_done_11 : decode cX7_done 11 = .ok (.aload_n 0, 1) := by decide +kernel
theorem dX7_done_12 : decode cX7_done 12 = .ok (.getfield 10, 3) := by decide +kernel
theorem dX7_done_15 : decode cX7_done 15 = .ok (.aload_n 0, 1) := by decide +kernel
theorem dX7_done_16 : decode cX7_done 16 = .ok (.getfield 16, 3) := by decide +kernel
theorem dX7_done_19 : decode cX7_done 19 = .ok (.invokevirtual 158, 3) := by decide +kernel
theorem dX7_done_22 : decode cX7_done 22 = .ok (.aload_n 0, 1) := by decide +kernel
theorem dX7_done_23 : decode cX7_done 23 = .ok (.getfield 22, 3) := by decide +kernel
theorem dX7_done_26 : decode cX7_done 26 = .ok (.iconst 0, 1) := by decide +kernel
theorem dX7_done_27 : decode cX7_done 27 = .ok (.putfield 108, 3) := by decide +kernel
theorem dX7_done_30 : decode cX7_done 30 = .ok (.aload_n 0, 1) := by decide +kernel
theorem dX7_done_31 : decode cX7_done 31 = .ok (.getfield 29, 3) := by decide +kernel
theorem dX7_done_34 : decode cX7_done 34 = .ok (.getfield 162, 3) := by decide +kernel
theorem dX7_done_37 : decode cX7_done 37 = .ok (.ireturn, 1) := by decide +kernel
theorem dX7_mean_0 : decode cX7_mean 0 = .ok (.aload_n 0, 1) := by decide +kernel
theorem dX7_mean_1 : decode cX7_mean 1 = .ok (.getfield 10, 3) := by decide +kernel
theorem dX7_mean_4 : decode cX7_mean 4 = .ok (.iload_n 1, 1) := by decide +kernel
theorem dX7_mean_5 : decode cX7_mean 5 = .ok (.invokevirtual 76, 3) := by decide +kernel
theorem dX7_mean_8 : decode cX7_mean 8 = .ok (.astore 4, 2) := by decide +kernel
theorem dX7_mean_10 : decode cX7_mean 10 = .ok (.aload 4, 2) := by decide +kernel
theorem dX7_mean_12 : decode cX7_mean 12 = .ok (.ifnonnull 7, 3) := by decide +kernel
theorem dX7_mean_15 : decode cX7_mean 15 = .ok (.ldc2_w 165, 3) := by decide +kernel
theorem dX7_mean_18 : decode cX7_mean 18 = .ok (.lreturn, 1) := by decide +kernel
theorem dX7_mean_19 : decode cX7_mean 19 = .ok (.iload_n 2, 1) := by decide +kernel
theorem dX7_mean_20 : decode cX7_mean 20 = .ok (.iconst 0, 1) := by decide +kernel
theorem dX7_mean_21 : decode cX7_mean 21 = .ok (.bipush 9, 2) := by decide +kernel
theorem dX7_mean_23 : decode cX7_mean 23 = .ok (.invokestatic 62, 3) := by decide +kernel
theorem dX7_mean_26 : decode cX7_mean 26 = .ok (.ifCond .eq 12, 3) := by decide +kernel
theorem dX7_mean_29 : decode cX7_mean 29 = .ok (.iload_n 3, 1) := by decide +kernel
theorem dX7_mean_30 : decode cX7_mean 30 = .ok (.iconst 0, 1) := by decide +kernel
theorem dX7_mean_31 : decode cX7_mean 31 = .ok (.iconst 1, 1) := by decide +kernel
theorem dX7_mean_32 : decode cX7_mean 32 = .ok (.invokestatic 62, 3) := by decide +kernel
theorem dX7_mean_35 : decode cX7_mean 35 = .ok (.ifCond .ne 7, 3) := by decide +kernel
theorem dX7_mean_38 : decode cX7_mean 38 = .ok (.ldc2_w 167, 3) := by decide +kernel
theorem dX7_mean_41 : decode cX7_mean 41 = .ok (.lreturn, 1) := by decide +kernel
theorem dX7_mean_42 : decode cX7_mean 42 = .ok (.aload_n 0, 1) := by decide +kernel
theorem dX7_mean_43 : decode cX7_mean 43 = .ok (.getfield 10, 3) := by decide +kernel
theorem dX7_mean_46 : decode cX7_mean 46 = .ok (.aload 4, 2) := by decide +kernel
theorem dX7_mean_48 : decode cX7_mean 48 = .ok (.iload_n 2, 1) := by decide +kernel
theorem dX7_mean_49 : decode cX7_mean 49 = .ok (.aload 4, 2) := by decide +kernel
theorem dX7_mean_51 : decode cX7_mean 51 = .ok (.invokevirtual 129, 3) := by decide +kernel
theorem dX7_mean_54 : decode cX7_mean 54 = .ok (.invokevirtual 169, 3) := by decide +kernel
theorem dX7_mean_57 : decode cX7_mean 57 = .ok (.i2l, 1) := by decide +kernel
theorem dX7_mean_58 : decode cX7_mean 58 = .ok (.ldc2_w 173, 3) := by decide +kernel
theorem dX7_mean_61 : decode cX7_mean 61 = .ok (.iload_n 3, 1) := by decide +kernel
theorem dX7_mean_62 : decode cX7_mean 62 = .ok (.invokestatic 175, 3) := by decide +kernel
theorem dX7_mean_65 : decode cX7_mean 65 = .ok (.lreturn, 1) := by decide +kernel
theorem dX7_deep_0 : decode cX7_deep 0 = .ok (.aload_n 0, 1) := by decide +kernel
theorem dX7_deep_1 : decode cX7_deep 1 = .ok (.getfield 10, 3) := by decide +kernel
theorem dX7_deep_4 : decode cX7_deep 4 = .ok (.iload_n 1, 1) := by decide +kernel
theorem dX7_deep_5 : decode cX7_deep 5 = .ok (.invokevirtual 76, 3) := by decide +kernel
theorem dX7_deep_8 : decode cX7_deep 8 = .ok (.astore_n 2, 1) := by decide +kernel
theorem dX7_deep_9 : decode cX7_deep 9 = .ok (.aload_n 2, 1) := by decide +kernel
theorem dX7_deep_10 : decode cX7_deep 10 = .ok (.ifnonnull 5, 3) := by decide +kernel
theorem dX7_deep_13 : decode cX7_deep 13 = .ok (.iconst (-1), 1) := by decide +kernel
theorem dX7_deep_14 : decode cX7_deep 14 = .ok (.ireturn, 1) := by decide +kernel
theorem dX7_deep_15 : decode cX7_deep 15 = .ok (.aload_n 0, 1) := by decide +kernel
theorem dX7_deep_16 : decode cX7_deep 16 = .ok (.getfield 10, 3) := by decide +kernel
theorem dX7_deep_19 : decode cX7_deep 19 = .ok (.aload_n 2, 1) := by decide +kernel
theorem dX7_deep_20 : decode cX7_deep 20 = .ok (.aload_n 2, 1) := by decide +kernel
theorem dX7_deep_21 : decode cX7_deep 21 = .ok (.invokevirtual 129, 3) := by decide +kernel
theorem dX7_deep_24 : decode cX7_deep 24 = .ok (.invokevirtual 179, 3) := by decide +kernel
theorem dX7_deep_27 : decode cX7_deep 27 = .ok (.ireturn, 1) := by decide +kernel
theorem dX7_share_0 : decode cX7_share 0 = .ok (.aload_n 0, 1) := by decide +kernel
theorem dX7_share_1 : decode cX7_share 1 = .ok (.getfield 10, 3) := by decide +kernel
theorem dX7_share_4 : decode cX7_share 4 = .ok (.iload_n 1, 1) := by decide +kernel
theorem dX7_share_5 : decode cX7_share 5 = .ok (.invokevirtual 76, 3) := by decide +kernel
theorem dX7_share_8 : decode cX7_share 8 = .ok (.astore_n 3, 1) := by decide +kernel
theorem dX7_share_9 : decode cX7_share 9 = .ok (.aload_n 3, 1) := by decide +kernel
theorem dX7_share_10 : decode cX7_share 10 = .ok (.ifnonnull 5, 3) := by decide +kernel
theorem dX7_share_13 : decode cX7_share 13 = .ok (.iconst (-1), 1) := by decide +kernel
theorem dX7_share_14 : decode cX7_share 14 = .ok (.ireturn, 1) := by decide +kernel
theorem dX7_share_15 : decode cX7_share 15 = .ok (.iload_n 2, 1) := by decide +kernel
theorem dX7_share_16 : decode cX7_share 16 = .ok (.iconst 1, 1) := by decide +kernel
theorem dX7_share_17 : decode cX7_share 17 = .ok (.bipush 9, 2) := by decide +kernel
theorem dX7_share_19 : decode cX7_share 19 = .ok (.invokestatic 62, 3) := by decide +kernel
theorem dX7_share_22 : decode cX7_share 22 = .ok (.ifCond .ne 6, 3) := by decide +kernel
theorem dX7_share_25 : decode cX7_share 25 = .ok (.bipush (-2), 2) := by decide +kernel
theorem dX7_share_27 : decode cX7_share 27 = .ok (.ireturn, 1) := by decide +kernel
theorem dX7_share_28 : decode cX7_share 28 = .ok (.aload_n 3, 1) := by decide +kernel
theorem dX7_share_29 : decode cX7_share 29 = .ok (.invokevirtual 129, 3) := by decide +kernel
theorem dX7_share_32 : decode cX7_share 32 = .ok (.istore 4, 2) := by decide +kernel
theorem dX7_share_34 : decode cX7_share 34 = .ok (.iconst 0, 1) := by decide +kernel
theorem dX7_share_35 : decode cX7_share 35 = .ok (.istore 5, 2) := by decide +kernel
theorem dX7_share_37 : decode cX7_share 37 = .ok (.iload 5, 2) := by decide +kernel
theorem dX7_share_39 : decode cX7_share 39 = .ok (.bipush 10, 2) := by decide +kernel
theorem dX7_share_41 : decode cX7_share 41 = .ok (.if_icmp .gt 35, 3) := by decide +kernel
theorem dX7_share_44 : decode cX7_share 44 = .ok (.aload_n 0, 1) := by decide +kernel
theorem dX7_share_45 : decode cX7_share 45 = .ok (.getfield 10, 3) := by decide +kernel
theorem dX7_share_48 : decode cX7_share 48 = .ok (.aload_n 3, 1) := by decide +kernel
theorem dX7_share_49 : decode cX7_share 49 = .ok (.iload 4, 2) := by decide +kernel
theorem dX7_share_51 : decode cX7_share 51 = .ok (.bipush 10, 2) := by decide +kernel
theorem dX7_share_53 : decode cX7_share 53 = .ok (.iload 5, 2) := by decide +kernel
theorem dX7_share_55 : decode cX7_share 55 = .ok (.isub, 1) := by decide +kernel
theorem dX7_share_56 : decode cX7_share 56 = .ok (.imul, 1) := by decide +kernel
theorem dX7_share_57 : decode cX7_share 57 = .ok (.bipush 10, 2) := by decide +kernel
theorem dX7_share_59 : decode cX7_share 59 = .ok (.idiv, 1) := by decide +kernel
theorem dX7_share_60 : decode cX7_share 60 = .ok (.invokevirtual 179, 3) := by decide +kernel
theorem dX7_share_63 : decode cX7_share 63 = .ok (.iload_n 2, 1) := by decide +kernel
theorem dX7_share_64 : decode cX7_share 64 = .ok (.if_icmp .gt 6, 3) := by decide +kernel
theorem dX7_share_67 : decode cX7_share 67 = .ok (.iload 5, 2) := by decide +kernel
theorem dX7_share_69 : decode cX7_share 69 = .ok (.ireturn, 1) := by decide +kernel
theorem dX7_share_70 : decode cX7_share 70 = .ok (.iinc 5 1, 3) := by decide +kernel
theorem dX7_share_73 : decode cX7_share 73 = .ok (.goto (-36), 3) := by decide +kernel
theorem dX7_share_76 : decode cX7_share 76 = .ok (.bipush (-6), 2) := by decide +kernel
theorem dX7_share_78 : decode cX7_share 78 = .ok (.ireturn, 1) := by decide +kernel
theorem dX7_losses_0 : decode cX7_losses 0 = .ok (.iload_n 1, 1) := by decide +kernel
theorem dX7_losses_1 : decode cX7_losses 1 = .ok (.iconst (-1), 1) := by decide +kernel
theorem dX7_losses_2 : decode cX7_losses 2 = .ok (.bipush 6, 2) := by decide +kernel
theorem dX7_losses_4 : decode cX7_losses 4 = .ok (.invokestatic 62, 3) := by decide +kernel
theorem dX7_losses_7 : decode cX7_losses 7 = .ok (.ifCond .eq 12, 3) := by decide +kernel
theorem dX7_losses_10 : decode cX7_losses 10 = .ok (.iload_n 2, 1) := by decide +kernel
theorem dX7_losses_11 : decode cX7_losses 11 = .ok (.iconst 0, 1) := by decide +kernel
theorem dX7_losses_12 : decode cX7_losses 12 = .ok (.iconst 1, 1) := by decide +kernel
theorem dX7_losses_13 : decode cX7_losses 13 = .ok (.invokestatic 62, 3) := by decide +kernel
theorem dX7_losses_16 : decode cX7_losses 16 = .ok (.ifCond .ne 7, 3) := by decide +kernel
theorem dX7_losses_19 : decode cX7_losses 19 = .ok (.ldc2_w 167, 3) := by decide +kernel
theorem dX7_losses_22 : decode cX7_losses 22 = .ok (.lreturn, 1) := by decide +kernel
theorem dX7_losses_23 : decode cX7_losses 23 = .ok (.iload_n 1, 1) := by decide +kernel
theorem dX7_losses_24 : decode cX7_losses 24 = .ok (.ifCond .ge 19, 3) := by decide +kernel
theorem dX7_losses_27 : decode cX7_losses 27 = .ok (.aload_n 0, 1) := by decide +kernel
theorem dX7_losses_28 : decode cX7_losses 28 = .ok (.getfield 10, 3) := by decide +kernel
theorem dX7_losses_31 : decode cX7_losses 31 = .ok (.invokevirtual 182, 3) := by decide +kernel
theorem dX7_losses_34 : decode cX7_losses 34 = .ok (.i2l, 1) := by decide +kernel
theorem dX7_losses_35 : decode cX7_losses 35 = .ok (.ldc2_w 173, 3) := by decide +kernel
theorem dX7_losses_38 : decode cX7_losses 38 = .ok (.iload_n 2, 1) := by decide +kernel
theorem dX7_losses_39 : decode cX7_losses 39 = .ok (.invokestatic 175, 3) := by decide +kernel
theorem dX7_losses_42 : decode cX7_losses 42 = .ok (.lreturn, 1) := by decide +kernel
theorem dX7_losses_43 : decode cX7_losses 43 = .ok (.aload_n 0, 1) := by decide +kernel
theorem dX7_losses_44 : decode cX7_losses 44 = .ok (.getfield 10, 3) := by decide +kernel
theorem dX7_losses_47 : decode cX7_losses 47 = .ok (.aload_n 0, 1) := by decide +kernel
theorem dX7_losses_48 : decode cX7_losses 48 = .ok (.getfield 54, 3) := by decide +kernel
theorem dX7_losses_51 : decode cX7_losses 51 = .ok (.invokevirtual 185, 3) := by decide +kernel
theorem dX7_losses_54 : decode cX7_losses 54 = .ok (.lstore_n 3, 1) := by decide +kernel
theorem dX7_losses_55 : decode cX7_losses 55 = .ok (.lconst 0, 1) := by decide +kernel
theorem dX7_losses_56 : decode cX7_losses 56 = .ok (.lstore 5, 2) := by decide +kernel
theorem dX7_losses_58 : decode cX7_losses 58 = .ok (.iload_n 1, 1) := by decide +kernel
theorem dX7_losses_59 : decode cX7_losses 59 = .ok (.istore 7, 2) := by decide +kernel
theorem dX7_losses_61 : decode cX7_losses 61 = .ok (.iload 7, 2) := by decide +kernel
theorem dX7_losses_63 : decode cX7_losses 63 = .ok (.aload_n 0, 1) := by decide +kernel
theorem dX7_losses_64 : decode cX7_losses 64 = .ok (.getfield 54, 3) := by decide +kernel
theorem dX7_losses_67 : decode cX7_losses 67 = .ok (.arraylength, 1) := by decide +kernel
theorem dX7_losses_68 : decode cX7_losses 68 = .ok (.if_icmp .ge 21, 3) := by decide +kernel
theorem dX7_losses_71 : decode cX7_losses 71 = .ok (.lload 5, 2) := by decide +kernel
theorem dX7_losses_73 : decode cX7_losses 73 = .ok (.aload_n 0, 1) := by decide +kernel
theorem dX7_losses_74 : decode cX7_losses 74 = .ok (.getfield 54, 3) := by decide +kernel
theorem dX7_losses_77 : decode cX7_losses 77 = .ok (.iload 7, 2) := by decide +kernel
theorem dX7_losses_79 : decode cX7_losses 79 = .ok (.laload, 1) := by decide +kernel
theorem dX7_losses_80 : decode cX7_losses 80 = .ok (.ladd, 1) := by decide +kernel
theorem dX7_losses_81 : decode cX7_losses 81 = .ok (.lstore 5, 2) := by decide +kernel
theorem dX7_losses_83 : decode cX7_losses 83 = .ok (.iinc 7 1, 3) := by decide +kernel
theorem dX7_losses_86 : decode cX7_losses 86 = .ok (.goto (-25), 3) := by decide +kernel
theorem dX7_losses_89 : decode cX7_losses 89 = .ok (.lload 5, 2) := by decide +kernel
theorem dX7_losses_91 : decode cX7_losses 91 = .ok (.lload_n 3, 1) := by decide +kernel
theorem dX7_losses_92 : decode cX7_losses 92 = .ok (.iload_n 2, 1) := by decide +kernel
theorem dX7_losses_93 : decode cX7_losses 93 = .ok (.invokestatic 175, 3) := by decide +kernel
theorem dX7_losses_96 : decode cX7_losses 96 = .ok (.lreturn, 1) := by decide +kernel
theorem dX7_fleet_0 : decode cX7_fleet 0 = .ok (.iload_n 1, 1) := by decide +kernel
theorem dX7_fleet_1 : decode cX7_fleet 1 = .ok (.iconst 0, 1) := by decide +kernel
theorem dX7_fleet_2 : decode cX7_fleet 2 = .ok (.ldc 189, 2) := by decide +kernel
theorem dX7_fleet_4 : decode cX7_fleet 4 = .ok (.invokestatic 62, 3) := by decide +kernel
theorem dX7_fleet_7 : decode cX7_fleet 7 = .ok (.ifCond .eq 33, 3) := by decide +kernel
theorem dX7_fleet_10 : decode cX7_fleet 10 = .ok (.iload_n 2, 1) := by decide +kernel
theorem dX7_fleet_11 : decode cX7_fleet 11 = .ok (.iconst 0, 1) := by decide +kernel
theorem dX7_fleet_12 : decode cX7_fleet 12 = .ok (.ldc 189, 2) := by decide +kernel
theorem dX7_fleet_14 : decode cX7_fleet 14 = .ok (.invokestatic 62, 3) := by decide +kernel
theorem dX7_fleet_17 : decode cX7_fleet 17 = .ok (.ifCond .eq 23, 3) := by decide +kernel
theorem dX7_fleet_20 : decode cX7_fleet 20 = .ok (.iload_n 3, 1) := by decide +kernel
theorem dX7_fleet_21 : decode cX7_fleet 21 = .ok (.iconst 0, 1) := by decide +kernel
theorem dX7_fleet_22 : decode cX7_fleet 22 = .ok (.bipush 54, 2) := by decide +kernel
theorem dX7_fleet_24 : decode cX7_fleet 24 = .ok (.invokestatic 62, 3) := by decide +kernel
theorem dX7_fleet_27 : decode cX7_fleet 27 = .ok (.ifCond .eq 13, 3) := by decide +kernel
theorem dX7_fleet_30 : decode cX7_fleet 30 = .ok (.iload 4, 2) := by decide +kernel
theorem dX7_fleet_32 : decode cX7_fleet 32 = .ok (.iconst 0, 1) := by decide +kernel
theorem dX7_fleet_33 : decode cX7_fleet 33 = .ok (.iconst 1, 1) := by decide +kernel
theorem dX7_fleet_34 : decode cX7_fleet 34 = .ok (.invokestatic 62, 3) := by decide +kernel
theorem dX7_fleet_37 : decode cX7_fleet 37 = .ok (.ifCond .ne 6, 3) := by decide +kernel
theorem dX7_fleet_40 : decode cX7_fleet 40 = .ok (.bipush (-2), 2) := by decide +kernel
theorem dX7_fleet_42 : decode cX7_fleet 42 = .ok (.ireturn, 1) := by decide +kernel
theorem dX7_fleet_43 : decode cX7_fleet 43 = .ok (.iload_n 1, 1) := by decide +kernel
theorem dX7_fleet_44 : decode cX7_fleet 44 = .ok (.invokestatic 190, 3) := by decide +kernel
theorem dX7_fleet_47 : decode cX7_fleet 47 = .ok (.istore 5, 2) := by decide +kernel
theorem dX7_fleet_49 : decode cX7_fleet 49 = .ok (.iload_n 2, 1) := by decide +kernel
theorem dX7_fleet_50 : decode cX7_fleet 50 = .ok (.invokestatic 190, 3) := by decide +kernel
theorem dX7_fleet_53 : decode cX7_fleet 53 = .ok (.istore 6, 2) := by decide +kernel
theorem dX7_fleet_55 : decode cX7_fleet 55 = .ok (.iconst 0, 1) := by decide +kernel
theorem dX7_fleet_56 : decode cX7_fleet 56 = .ok (.istore 7, 2) := by decide +kernel
theorem dX7_fleet_58 : decode cX7_fleet 58 = .ok (.iconst 0, 1) := by decide +kernel
theorem dX7_fleet_59 : decode cX7_fleet 59 = .ok (.istore 8, 2) := by decide +kernel
theorem dX7_fleet_61 : decode cX7_fleet 61 = .ok (.iconst 0, 1) := by decide +kernel
theorem dX7_fleet_62 : decode cX7_fleet 62 = .ok (.istore 9, 2) := by decide +kernel
theorem dX7_fleet_64 : decode cX7_fleet 64 = .ok (.iload 9, 2) := by decide +kernel
theorem dX7_fleet_66 : decode cX7_fleet 66 = .ok (.bipush 64, 2) := by decide +kernel
theorem dX7_fleet_68 : decode cX7_fleet 68 = .ok (.if_icmp .ge 44, 3) := by decide +kernel
theorem dX7_fleet_71 : decode cX7_fleet 71 = .ok (.iload 6, 2) := by decide +kernel
theorem dX7_fleet_73 : decode cX7_fleet 73 = .ok (.iload 9, 2) := by decide +kernel
theorem dX7_fleet_75 : decode cX7_fleet 75 = .ok (.invokestatic 193, 3) := by decide +kernel
theorem dX7_fleet_78 : decode cX7_fleet 78 = .ok (.istore 10, 2) := by decide +kernel
theorem dX7_fleet_80 : decode cX7_fleet 80 = .ok (.iload 10, 2) := by decide +kernel
theorem dX7_fleet_82 : decode cX7_fleet 82 = .ok (.iload 7, 2) := by decide +kernel
theorem dX7_fleet_84 : decode cX7_fleet 84 = .ok (.if_icmp .le 22, 3) := by decide +kernel
theorem dX7_fleet_87 : decode cX7_fleet 87 = .ok (.iload 5, 2) := by decide +kernel
theorem dX7_fleet_89 : decode cX7_fleet 89 = .ok (.iload 9, 2) := by decide +kernel
theorem dX7_fleet_91 : decode cX7_fleet 91 = .ok (.invokestatic 193, 3) := by decide +kernel
theorem dX7_fleet_94 : decode cX7_fleet 94 = .ok (.iload_n 3, 1) := by decide +kernel
theorem dX7_fleet_95 : decode cX7_fleet 95 = .ok (.if_icmp .gt 11, 3) := by decide +kernel
theorem dX7_fleet_98 : decode cX7_fleet 98 = .ok (.iload 10, 2) := by decide +kernel
theorem dX7_fleet_100 : decode cX7_fleet 100 = .ok (.istore 7, 2) := by decide +kernel
theorem dX7_fleet_102 : decode cX7_fleet 102 = .ok (.iload 9, 2) := by decide +kernel
theorem dX7_fleet_104 : decode cX7_fleet 104 = .ok (.istore 8, 2) := by decide +kernel
theorem dX7_fleet_106 : decode cX7_fleet 106 = .ok (.iinc 9 1, 3) := by decide +kernel
theorem dX7_fleet_109 : decode cX7_fleet 109 = .ok (.goto (-45), 3) := by decide +kernel
theorem dX7_fleet_112 : decode cX7_fleet 112 = .ok (.iload 4, 2) := by decide +kernel
theorem dX7_fleet_114 : decode cX7_fleet 114 = .ok (.ifCond .ne 8, 3) := by decide +kernel
theorem dX7_fleet_117 : decode cX7_fleet 117 = .ok (.iload 7, 2) := by decide +kernel
theorem dX7_fleet_119 : decode cX7_fleet 119 = .ok (.goto 5, 3) := by decide +kernel
theorem dX7_fleet_122 : decode cX7_fleet 122 = .ok (.iload 8, 2) := by decide +kernel
theorem dX7_fleet_124 : decode cX7_fleet 124 = .ok (.ireturn, 1) := by decide +kernel
theorem dX7_holds_0 : decode cX7_holds 0 = .ok (.iload_n 1, 1) := by decide +kernel
theorem dX7_holds_1 : decode cX7_holds 1 = .ok (.iconst 0, 1) := by decide +kernel
theorem dX7_holds_2 : decode cX7_holds 2 = .ok (.ldc 189, 2) := by decide +kernel
theorem dX7_holds_4 : decode cX7_holds 4 = .ok (.invokestatic 62, 3) := by decide +kernel
theorem dX7_holds_7 : decode cX7_holds 7 = .ok (.ifCond .eq 12, 3) := by decide +kernel
theorem dX7_holds_10 : decode cX7_holds 10 = .ok (.iload_n 2, 1) := by decide +kernel
theorem dX7_holds_11 : decode cX7_holds 11 = .ok (.iconst 0, 1) := by decide +kernel
theorem dX7_holds_12 : decode cX7_holds 12 = .ok (.iconst 1, 1) := by decide +kernel
theorem dX7_holds_13 : decode cX7_holds 13 = .ok (.invokestatic 62, 3) := by decide +kernel
theorem dX7_holds_16 : decode cX7_holds 16 = .ok (.ifCond .ne 6, 3) := by decide +kernel
theorem dX7_holds_19 : decode cX7_holds 19 = .ok (.bipush (-2), 2) := by decide +kernel
theorem dX7_holds_21 : decode cX7_holds 21 = .ok (.ireturn, 1) := by decide +kernel
theorem dX7_holds_22 : decode cX7_holds 22 = .ok (.iload_n 1, 1) := by decide +kernel
theorem dX7_holds_23 : decode cX7_holds 23 = .ok (.bipush 63, 2) := by decide +kernel
theorem dX7_holds_25 : decode cX7_holds 25 = .ok (.invokestatic 193, 3) := by decide +kernel
theorem dX7_holds_28 : decode cX7_holds 28 = .ok (.istore_n 3, 1) := by decide +kernel
theorem dX7_holds_29 : decode cX7_holds 29 = .ok (.iload_n 3, 1) := by decide +kernel
theorem dX7_holds_30 : decode cX7_holds 30 = .ok (.istore 4, 2) := by decide +kernel
theorem dX7_holds_32 : decode cX7_holds 32 = .ok (.iconst 0, 1) := by decide +kernel
theorem dX7_holds_33 : decode cX7_holds 33 = .ok (.istore 5, 2) := by decide +kernel
theorem dX7_holds_35 : decode cX7_holds 35 = .ok (.iconst 0, 1) := by decide +kernel
theorem dX7_holds_36 : decode cX7_holds 36 = .ok (.istore 6, 2) := by decide +kernel
theorem dX7_holds_38 : decode cX7_holds 38 = .ok (.iload 6, 2) := by decide +kernel
theorem dX7_holds_40 : decode cX7_holds 40 = .ok (.bipush 64, 2) := by decide +kernel
theorem dX7_holds_42 : decode cX7_holds 42 = .ok (.if_icmp .ge 39, 3) := by decide +kernel
theorem dX7_holds_45 : decode cX7_holds 45 = .ok (.iload_n 3, 1) := by decide +kernel
theorem dX7_holds_46 : decode cX7_holds 46 = .ok (.iconst 2, 1) := by decide +kernel
theorem dX7_holds_47 : decode cX7_holds 47 = .ok (.iload_n 1, 1) := by decide +kernel
theorem dX7_holds_48 : decode cX7_holds 48 = .ok (.iload 6, 2) := by decide +kernel
theorem dX7_holds_50 : decode cX7_holds 50 = .ok (.invokestatic 193, 3) := by decide +kernel
theorem dX7_holds_53 : decode cX7_holds 53 = .ok (.imul, 1) := by decide +kernel
theorem dX7_holds_54 : decode cX7_holds 54 = .ok (.isub, 1) := by decide +kernel
theorem dX7_holds_55 : decode cX7_holds 55 = .ok (.invokestatic 197, 3) := by decide +kernel
theorem dX7_holds_58 : decode cX7_holds 58 = .ok (.istore 7, 2) := by decide +kernel
theorem dX7_holds_60 : decode cX7_holds 60 = .ok (.iload 7, 2) := by decide +kernel
theorem dX7_holds_62 : decode cX7_holds 62 = .ok (.iload 4, 2) := by decide +kernel
theorem dX7_holds_64 : decode cX7_holds 64 = .ok (.if_icmp .ge 11, 3) := by decide +kernel
theorem dX7_holds_67 : decode cX7_holds 67 = .ok (.iload 7, 2) := by decide +kernel
theorem dX7_holds_69 : decode cX7_holds 69 = .ok (.istore 4, 2) := by decide +kernel
theorem dX7_holds_71 : decode cX7_holds 71 = .ok (.iload 6, 2) := by decide +kernel
theorem dX7_holds_73 : decode cX7_holds 73 = .ok (.istore 5, 2) := by decide +kernel
theorem dX7_holds_75 : decode cX7_holds 75 = .ok (.iinc 6 1, 3) := by decide +kernel
theorem dX7_holds_78 : decode cX7_holds 78 = .ok (.goto (-40), 3) := by decide +kernel
theorem dX7_holds_81 : decode cX7_holds 81 = .ok (.iload_n 2, 1) := by decide +kernel
theorem dX7_holds_82 : decode cX7_holds 82 = .ok (.ifCond .ne 8, 3) := by decide +kernel
theorem dX7_holds_85 : decode cX7_holds 85 = .ok (.iload 4, 2) := by decide +kernel
theorem dX7_holds_87 : decode cX7_holds 87 = .ok (.goto 5, 3) := by decide +kernel
theorem dX7_holds_90 : decode cX7_holds 90 = .ok (.iload 5, 2) := by decide +kernel
theorem dX7_holds_92 : decode cX7_holds 92 = .ok (.ireturn, 1) := by decide +kernel
theorem dX7_meant_0 : decode cX7_meant 0 = .ok (.iload_n 1, 1) := by decide +kernel
theorem dX7_meant_1 : decode cX7_meant 1 = .ok (.iconst 0, 1) := by decide +kernel
theorem dX7_meant_2 : decode cX7_meant 2 = .ok (.bipush 100, 2) := by decide +kernel
theorem dX7_meant_4 : decode cX7_meant 4 = .ok (.invokestatic 62, 3) := by decide +kernel
theorem dX7_meant_7 : decode cX7_meant 7 = .ok (.ifCond .eq 43, 3) := by decide +kernel
theorem dX7_meant_10 : decode cX7_meant 10 = .ok (.iload_n 2, 1) := by decide +kernel
theorem dX7_meant_11 : decode cX7_meant 11 = .ok (.iconst 0, 1) := by decide +kernel
theorem dX7_meant_12 : decode cX7_meant 12 = .ok (.bipush 100, 2) := by decide +kernel
theorem dX7_meant_14 : decode cX7_meant 14 = .ok (.invokestatic 62, 3) := by decide +kernel
theorem dX7_meant_17 : decode cX7_meant 17 = .ok (.ifCond .eq 33, 3) := by decide +kernel
theorem dX7_meant_20 : decode cX7_meant 20 = .ok (.iload_n 3, 1) := by decide +kernel
theorem dX7_meant_21 : decode cX7_meant 21 = .ok (.iconst 0, 1) := by decide +kernel
theorem dX7_meant_22 : decode cX7_meant 22 = .ok (.bipush 6, 2) := by decide +kernel
theorem dX7_meant_24 : decode cX7_meant 24 = .ok (.invokestatic 62, 3) := by decide +kernel
theorem dX7_meant_27 : decode cX7_meant 27 = .ok (.ifCond .eq 23, 3) := by decide +kernel
theorem dX7_meant_30 : decode cX7_meant 30 = .ok (.iload 4, 2) := by decide +kernel
theorem dX7_meant_32 : decode cX7_meant 32 = .ok (.iconst 0, 1) := by decide +kernel
theorem dX7_meant_33 : decode cX7_meant 33 = .ok (.iload_n 3, 1) := by decide +kernel
theorem dX7_meant_34 : decode cX7_meant 34 = .ok (.invokestatic 62, 3) := by decide +kernel
theorem dX7_meant_37 : decode cX7_meant 37 = .ok (.ifCond .eq 13, 3) := by decide +kernel
theorem dX7_meant_40 : decode cX7_meant 40 = .ok (.iload 5, 2) := by decide +kernel
theorem dX7_meant_42 : decode cX7_meant 42 = .ok (.iconst 0, 1) := by decide +kernel
theorem dX7_meant_43 : decode cX7_meant 43 = .ok (.iconst 1, 1) := by decide +kernel
theorem dX7_meant_44 : decode cX7_meant 44 = .ok (.invokestatic 62, 3) := by decide +kernel
theorem dX7_meant_47 : decode cX7_meant 47 = .ok (.ifCond .ne 7, 3) := by decide +kernel
theorem dX7_meant_50 : decode cX7_meant 50 = .ok (.ldc2_w 167, 3) := by decide +kernel
theorem dX7_meant_53 : decode cX7_meant 53 = .ok (.lreturn, 1) := by decide +kernel
theorem dX7_meant_54 : decode cX7_meant 54 = .ok (.iload_n 1, 1) := by decide +kernel
theorem dX7_meant_55 : decode cX7_meant 55 = .ok (.iload_n 3, 1) := by decide +kernel
theorem dX7_meant_56 : decode cX7_meant 56 = .ok (.iload 4, 2) := by decide +kernel
theorem dX7_meant_58 : decode cX7_meant 58 = .ok (.invokestatic 202, 3) := by decide +kernel
theorem dX7_meant_61 : decode cX7_meant 61 = .ok (.lstore 6, 2) := by decide +kernel
theorem dX7_meant_63 : decode cX7_meant 63 = .ok (.iload_n 2, 1) := by decide +kernel
theorem dX7_meant_64 : decode cX7_meant 64 = .ok (.iload_n 3, 1) := by decide +kernel
theorem dX7_meant_65 : decode cX7_meant 65 = .ok (.iload 4, 2) := by decide +kernel
theorem dX7_meant_67 : decode cX7_meant 67 = .ok (.invokestatic 202, 3) := by decide +kernel
theorem dX7_meant_70 : decode cX7_meant 70 = .ok (.lstore 8, 2) := by decide +kernel
theorem dX7_meant_72 : decode cX7_meant 72 = .ok (.lload 6, 2) := by decide +kernel
theorem dX7_meant_74 : decode cX7_meant 74 = .ok (.lload 8, 2) := by decide +kernel
theorem dX7_meant_76 : decode cX7_meant 76 = .ok (.ladd, 1) := by decide +kernel
theorem dX7_meant_77 : decode cX7_meant 77 = .ok (.lstore 10, 2) := by decide +kernel
theorem dX7_meant_79 : decode cX7_meant 79 = .ok (.lload 10, 2) := by decide +kernel
theorem dX7_meant_81 : decode cX7_meant 81 = .ok (.lconst 0, 1) := by decide +kernel
theorem dX7_meant_82 : decode cX7_meant 82 = .ok (.lcmp, 1) := by decide +kernel
theorem dX7_meant_83 : decode cX7_meant 83 = .ok (.ifCond .ne 13, 3) := by decide +kernel
theorem dX7_meant_86 : decode cX7_meant 86 = .ok (.lconst 0, 1) := by decide +kernel
theorem dX7_meant_87 : decode cX7_meant 87 = .ok (.lconst 1, 1) := by decide +kernel
theorem dX7_meant_88 : decode cX7_meant 88 = .ok (.iload 5, 2) := by decide +kernel
theorem dX7_meant_90 : decode cX7_meant 90 = .ok (.invokestatic 175, 3) := by decide +kernel
theorem dX7_meant_93 : decode cX7_meant 93 = .ok (.goto 12, 3) := by decide +kernel
theorem dX7_meant_96 : decode cX7_meant 96 = .ok (.lload 8, 2) := by decide +kernel
theorem dX7_meant_98 : decode cX7_meant 98 = .ok (.lload 10, 2) := by decide +kernel
theorem dX7_meant_100 : decode cX7_meant 100 = .ok (.iload 5, 2) := by decide +kernel
theorem dX7_meant_102 : decode cX7_meant 102 = .ok (.invokestatic 175, 3) := by decide +kernel
theorem dX7_meant_105 : decode cX7_meant 105 = .ok (.lreturn, 1) := by decide +kernel
theorem dX7_tale_0 : decode cX7_tale 0 = .ok (.iload_n 1, 1) := by decide +kernel
theorem dX7_tale_1 : decode cX7_tale 1 = .ok (.iconst 0, 1) := by decide +kernel
theorem dX7_tale_2 : decode cX7_tale 2 = .ok (.bipush 7, 2) := by decide +kernel
theorem dX7_tale_4 : decode cX7_tale 4 = .ok (.invokestatic 62, 3) := by decide +kernel
theorem dX7_tale_7 : decode cX7_tale 7 = .ok (.ifCond .eq 18, 3) := by decide +kernel
theorem dX7_tale_10 : decode cX7_tale 10 = .ok (.iload_n 2, 1) := by decide +kernel
theorem dX7_tale_11 : decode cX7_tale 11 = .ok (.iconst 0, 1) := by decide +kernel
theorem dX7_tale_12 : decode cX7_tale 12 = .ok (.bipush 7, 2) := by decide +kernel
theorem dX7_tale_14 : decode cX7_tale 14 = .ok (.invokestatic 62, 3) := by decide +kernel
theorem dX7_tale_17 : decode cX7_tale 17 = .ok (.ifCond .eq 8, 3) := by decide +kernel
theorem dX7_tale_20 : decode cX7_tale 20 = .ok (.iload_n 1, 1) := by decide +kernel
theorem dX7_tale_21 : decode cX7_tale 21 = .ok (.iload_n 2, 1) := by decide +kernel
theorem dX7_tale_22 : decode cX7_tale 22 = .ok (.if_icmp .ne 5, 3) := by decide +kernel
theorem dX7_tale_25 : decode cX7_tale 25 = .ok (.iconst (-1), 1) := by decide +kernel
theorem dX7_tale_26 : decode cX7_tale 26 = .ok (.ireturn, 1) := by decide +kernel
theorem dX7_tale_27 : decode cX7_tale 27 = .ok (.aload_n 0, 1) := by decide +kernel
theorem dX7_tale_28 : decode cX7_tale 28 = .ok (.getfield 36, 3) := by decide +kernel
theorem dX7_tale_31 : decode cX7_tale 31 = .ok (.iload_n 1, 1) := by decide +kernel
theorem dX7_tale_32 : decode cX7_tale 32 = .ok (.iload_n 2, 1) := by decide +kernel
theorem dX7_tale_33 : decode cX7_tale 33 = .ok (.iload_n 3, 1) := by decide +kernel
theorem dX7_tale_34 : decode cX7_tale 34 = .ok (.invokevirtual 206, 3) := by decide +kernel
theorem dX7_tale_37 : decode cX7_tale 37 = .ok (.ifCond .eq 13, 3) := by decide +kernel
theorem dX7_tale_40 : decode cX7_tale 40 = .ok (.aload_n 0, 1) := by decide +kernel
theorem dX7_tale_41 : decode cX7_tale 41 = .ok (.getfield 36, 3) := by decide +kernel
theorem dX7_tale_44 : decode cX7_tale 44 = .ok (.getfield 209, 3) := by decide +kernel
theorem dX7_tale_47 : decode cX7_tale 47 = .ok (.goto 5, 3) := by decide +kernel
theorem dX7_tale_50 : decode cX7_tale 50 = .ok (.bipush (-4), 2) := by decide +kernel
theorem dX7_tale_52 : decode cX7_tale 52 = .ok (.ireturn, 1) := by decide +kernel
theorem dX7_forget_0 : decode cX7_forget 0 = .ok (.aload_n 0, 1) := by decide +kernel
theorem dX7_forget_1 : decode cX7_forget 1 = .ok (.getfield 36, 3) := by decide +kernel
theorem dX7_forget_4 : decode cX7_forget 4 = .ok (.getfield 209, 3) := by decide +kernel
theorem dX7_forget_7 : decode cX7_forget 7 = .ok (.istore_n 1, 1) := by decide +kernel
theorem dX7_forget_8 : decode cX7_forget 8 = .ok (.aload_n 0, 1) := by decide +kernel
theorem dX7_forget_9 : decode cX7_forget 9 = .ok (.getfield 36, 3) := by decide +kernel
theorem dX7_forget_12 : decode cX7_forget 12 = .ok (.iconst 0, 1) := by decide +kernel
theorem dX7_forget_13 : decode cX7_forget 13 = .ok (.putfield 209, 3) := by decide +kernel
theorem dX7_forget_16 : decode cX7_forget 16 = .ok (.iload_n 1, 1) := by decide +kernel
theorem dX7_forget_17 : decode cX7_forget 17 = .ok (.ireturn, 1) := by decide +kernel
theorem dX7_broken_0 : decode cX7_broken 0 = .ok (.iload_n 1, 1) := by decide +kernel
theorem dX7_broken_1 : decode cX7_broken 1 = .ok (.iconst 0, 1) := by decide +kernel
theorem dX7_broken_2 : decode cX7_broken 2 = .ok (.iconst 1, 1) := by decide +kernel
theorem dX7_broken_3 : decode cX7_broken 3 = .ok (.invokestatic 62, 3) := by decide +kernel
theorem dX7_broken_6 : decode cX7_broken 6 = .ok (.ifCond .ne 6, 3) := by decide +kernel
theorem dX7_broken_9 : decode cX7_broken 9 = .ok (.bipush (-2), 2) := by decide +kernel
theorem dX7_broken_11 : decode cX7_broken 11 = .ok (.ireturn, 1) := by decide +kernel
theorem dX7_broken_12 : decode cX7_broken 12 = .ok (.aload_n 0, 1) := by decide +kernel
theorem dX7_broken_13 : decode cX7_broken 13 = .ok (.getfield 43, 3) := by decide +kernel
theorem dX7_broken_16 : decode cX7_broken 16 = .ok (.aload_n 0, 1) := by decide +kernel
theorem dX7_broken_17 : decode cX7_broken 17 = .ok (.getfield 36, 3) := by decide +kernel
theorem dX7_broken_20 : decode cX7_broken 20 = .ok (.invokevirtual 210, 3) := by decide +kernel
theorem dX7_broken_23 : decode cX7_broken 23 = .ok (.iload_n 1, 1) := by decide +kernel
theorem dX7_broken_24 : decode cX7_broken 24 = .ok (.ifCond .ne 13, 3) := by decide +kernel
theorem dX7_broken_27 : decode cX7_broken 27 = .ok (.aload_n 0, 1) := by decide +kernel
theorem dX7_broken_28 : decode cX7_broken 28 = .ok (.getfield 43, 3) := by decide +kernel
theorem dX7_broken_31 : decode cX7_broken 31 = .ok (.getfield 214, 3) := by decide +kernel
theorem dX7_broken_34 : decode cX7_broken 34 = .ok (.goto 10, 3) := by decide +kernel
theorem dX7_broken_37 : decode cX7_broken 37 = .ok (.aload_n 0, 1) := by decide +kernel
theorem dX7_broken_38 : decode cX7_broken 38 = .ok (.getfield 43, 3) := by decide +kernel
theorem dX7_broken_41 : decode cX7_broken 41 = .ok (.getfield 217, 3) := by decide +kernel
theorem dX7_broken_44 : decode cX7_broken 44 = .ok (.ireturn, 1) := by decide +kernel
theorem dX7_ones_0 : decode cX7_ones 0 = .ok (.aload_n 0, 1) := by decide +kernel
theorem dX7_ones_1 : decode cX7_ones 1 = .ok (.getfield 43, 3) := by decide +kernel
theorem dX7_ones_4 : decode cX7_ones 4 = .ok (.aload_n 0, 1) := by decide +kernel
theorem dX7_ones_5 : decode cX7_ones 5 = .ok (.getfield 36, 3) := by decide +kernel
theorem dX7_ones_8 : decode cX7_ones 8 = .ok (.invokevirtual 210, 3) := by decide +kernel
theorem dX7_ones_11 : decode cX7_ones 11 = .ok (.aload_n 0, 1) := by decide +kernel
theorem dX7_ones_12 : decode cX7_ones 12 = .ok (.getfield 43, 3) := by decide +kernel
theorem dX7_ones_15 : decode cX7_ones 15 = .ok (.iconst 0, 1) := by decide +kernel
theorem dX7_ones_16 : decode cX7_ones 16 = .ok (.iconst 0, 1) := by decide +kernel
theorem dX7_ones_17 : decode cX7_ones 17 = .ok (.bipush 8, 2) := by decide +kernel
theorem dX7_ones_19 : decode cX7_ones 19 = .ok (.invokestatic 220, 3) := by decide +kernel
theorem dX7_ones_22 : decode cX7_ones 22 = .ok (.ireturn, 1) := by decide +kernel
theorem dX7_berth_0 : decode cX7_berth 0 = .ok (.iload_n 1, 1) := by decide +kernel
theorem dX7_berth_1 : decode cX7_berth 1 = .ok (.iconst 1, 1) := by decide +kernel
theorem dX7_berth_2 : decode cX7_berth 2 = .ok (.bipush 99, 2) := by decide +kernel
theorem dX7_berth_4 : decode cX7_berth 4 = .ok (.invokestatic 62, 3) := by decide +kernel
theorem dX7_berth_7 : decode cX7_berth 7 = .ok (.ifCond .eq 22, 3) := by decide +kernel
theorem dX7_berth_10 : decode cX7_berth 10 = .ok (.iload_n 2, 1) := by decide +kernel
theorem dX7_berth_11 : decode cX7_berth 11 = .ok (.iconst 1, 1) := by decide +kernel
theorem dX7_berth_12 : decode cX7_berth 12 = .ok (.bipush 9, 2) := by decide +kernel
theorem dX7_berth_14 : decode cX7_berth 14 = .ok (.invokestatic 62, 3) := by decide +kernel
theorem dX7_berth_17 : decode cX7_berth 17 = .ok (.ifCond .eq 12, 3) := by decide +kernel
theorem dX7_berth_20 : decode cX7_berth 20 = .ok (.iload_n 3, 1) := by decide +kernel
theorem dX7_berth_21 : decode cX7_berth 21 = .ok (.iconst 0, 1) := by decide +kernel
theorem dX7_berth_22 : decode cX7_berth 22 = .ok (.iconst 1, 1) := by decide +kernel
theorem dX7_berth_23 : decode cX7_berth 23 = .ok (.invokestatic 62, 3) := by decide +kernel
theorem dX7_berth_26 : decode cX7_berth 26 = .ok (.ifCond .ne 6, 3) := by decide +kernel
theorem dX7_berth_29 : decode cX7_berth 29 = .ok (.bipush (-2), 2) := by decide +kernel
theorem dX7_berth_31 : decode cX7_berth 31 = .ok (.ireturn, 1) := by decide +kernel
theorem dX7_berth_32 : decode cX7_berth 32 = .ok (.iload_n 1, 1) := by decide +kernel
theorem dX7_berth_33 : decode cX7_berth 33 = .ok (.iconst 1, 1) := by decide +kernel
theorem dX7_berth_34 : decode cX7_berth 34 = .ok (.isub, 1) := by decide +kernel
theorem dX7_berth_35 : decode cX7_berth 35 = .ok (.iload_n 2, 1) := by decide +kernel
theorem dX7_berth_36 : decode cX7_berth 36 = .ok (.iconst 1, 1) := by decide +kernel
theorem dX7_berth_37 : decode cX7_berth 37 = .ok (.iadd, 1) := by decide +kernel
theorem dX7_berth_38 : decode cX7_berth 38 = .ok (.irem, 1) := by decide +kernel
theorem dX7_berth_39 : decode cX7_berth 39 = .ok (.istore 4, 2) := by decide +kernel
theorem dX7_berth_41 : decode cX7_berth 41 = .ok (.iload_n 3, 1) := by decide +kernel
theorem dX7_berth_42 : decode cX7_berth 42 = .ok (.ifCond .ne 14, 3) := by decide +kernel
theorem dX7_berth_45 : decode cX7_berth 45 = .ok (.iload 4, 2) := by decide +kernel
theorem dX7_berth_47 : decode cX7_berth 47 = .ok (.ifCond .ne 7, 3) := by decide +kernel
theorem dX7_berth_50 : decode cX7_berth 50 = .ok (.iconst 0, 1) := by decide +kernel
theorem dX7_berth_51 : decode cX7_berth 51 = .ok (.goto 4, 3) := by decide +kernel
theorem dX7_berth_54 : decode cX7_berth 54 = .ok (.iconst 1, 1) := by decide +kernel
theorem dX7_berth_55 : decode cX7_berth 55 = .ok (.ireturn, 1) := by decide +kernel
theorem dX7_berth_56 : decode cX7_berth 56 = .ok (.iload 4, 2) := by decide +kernel
theorem dX7_berth_58 : decode cX7_berth 58 = .ok (.ifCond .ne 8, 3) := by decide +kernel
theorem dX7_berth_61 : decode cX7_berth 61 = .ok (.bipush (-6), 2) := by decide +kernel
theorem dX7_berth_63 : decode cX7_berth 63 = .ok (.goto 5, 3) := by decide +kernel
theorem dX7_berth_66 : decode cX7_berth 66 = .ok (.iload 4, 2) := by decide +kernel
theorem dX7_berth_68 : decode cX7_berth 68 = .ok (.ireturn, 1) := by decide +kernel
theorem dX7_year_0 : decode cX7_year 0 = .ok (.iload_n 1, 1) := by decide +kernel
theorem dX7_year_1 : decode cX7_year 1 = .ok (.iconst 0, 1) := by decide +kernel
theorem dX7_year_2 : decode cX7_year 2 = .ok (.sipush 9999, 3) := by decide +kernel
theorem dX7_year_5 : decode cX7_year 5 = .ok (.invokestatic 62, 3) := by decide +kernel
theorem dX7_year_8 : decode cX7_year 8 = .ok (.ifCond .eq 22, 3) := by decide +kernel
theorem dX7_year_11 : decode cX7_year 11 = .ok (.iload_n 2, 1) := by decide +kernel
theorem dX7_year_12 : decode cX7_year 12 = .ok (.iconst 1, 1) := by decide +kernel
theorem dX7_year_13 : decode cX7_year 13 = .ok (.bipush 99, 2) := by decide +kernel
theorem dX7_year_15 : decode cX7_year 15 = .ok (.invokestatic 62, 3) := by decide +kernel
theorem dX7_year_18 : decode cX7_year 18 = .ok (.ifCond .eq 12, 3) := by decide +kernel
theorem dX7_year_21 : decode cX7_year 21 = .ok (.iload_n 3, 1) := by decide +kernel
theorem dX7_year_22 : decode cX7_year 22 = .ok (.iconst 0, 1) := by decide +kernel
theorem dX7_year_23 : decode cX7_year 23 = .ok (.iconst 2, 1) := by decide +kernel
theorem dX7_year_24 : decode cX7_year 24 = .ok (.invokestatic 62, 3) := by decide +kernel
theorem dX7_year_27 : decode cX7_year 27 = .ok (.ifCond .ne 6, 3) := by decide +kernel
theorem dX7_year_30 : decode cX7_year 30 = .ok (.bipush (-2), 2) := by decide +kernel
theorem dX7_year_32 : decode cX7_year 32 = .ok (.ireturn, 1) := by decide +kernel
theorem dX7_year_33 : decode cX7_year 33 = .ok (.aload_n 0, 1) := by decide +kernel
theorem dX7_year_34 : decode cX7_year 34 = .ok (.getfield 16, 3) := by decide +kernel
theorem dX7_year_37 : decode cX7_year 37 = .ok (.aload_n 0, 1) := by decide +kernel
theorem dX7_year_38 : decode cX7_year 38 = .ok (.getfield 10, 3) := by decide +kernel
theorem dX7_year_41 : decode cX7_year 41 = .ok (.invokevirtual 158, 3) := by decide +kernel
theorem dX7_year_44 : decode cX7_year 44 = .ok (.iload_n 1, 1) := by decide +kernel
theorem dX7_year_45 : decode cX7_year 45 = .ok (.istore 4, 2) := by decide +kernel
theorem dX7_year_47 : decode cX7_year 47 = .ok (.iconst 0, 1) := by decide +kernel
theorem dX7_year_48 : decode cX7_year 48 = .ok (.istore 5, 2) := by decide +kernel
theorem dX7_year_50 : decode cX7_year 50 = .ok (.iload 5, 2) := by decide +kernel
theorem dX7_year_52 : decode cX7_year 52 = .ok (.iload_n 2, 1) := by decide +kernel
theorem dX7_year_53 : decode cX7_year 53 = .ok (.if_icmp .ge 31, 3) := by decide +kernel
theorem dX7_year_56 : decode cX7_year 56 = .ok (.bipush 75, 2) := by decide +kernel
theorem dX7_year_58 : decode cX7_year 58 = .ok (.iload 4, 2) := by decide +kernel
theorem dX7_year_60 : decode cX7_year 60 = .ok (.imul, 1) := by decide +kernel
theorem dX7_year_61 : decode cX7_year 61 = .ok (.bipush 74, 2) := by decide +kernel
theorem dX7_year_63 : decode cX7_year 63 = .ok (.iadd, 1) := by decide +kernel
theorem dX7_year_64 : decode cX7_year 64 = .ok (.ldc 224, 2) := by decide +kernel
theorem dX7_year_66 : decode cX7_year 66 = .ok (.irem, 1) := by decide +kernel
theorem dX7_year_67 : decode cX7_year 67 = .ok (.istore 4, 2) := by decide +kernel
theorem dX7_year_69 : decode cX7_year 69 = .ok (.aload_n 0, 1) := by decide +kernel
theorem dX7_year_70 : decode cX7_year 70 = .ok (.getfield 16, 3) := by decide +kernel
theorem dX7_year_73 : decode cX7_year 73 = .ok (.iload 4, 2) := by decide +kernel
theorem dX7_year_75 : decode cX7_year 75 = .ok (.invokevirtual 225, 3) := by decide +kernel
theorem dX7_year_78 : decode cX7_year 78 = .ok (.iinc 5 1, 3) := by decide +kernel
theorem dX7_year_81 : decode cX7_year 81 = .ok (.goto (-31), 3) := by decide +kernel
theorem dX7_year_84 : decode cX7_year 84 = .ok (.iload_n 3, 1) := by decide +kernel
theorem dX7_year_85 : decode cX7_year 85 = .ok (.lookupswitch 46 #[(0, 27), (1, 38)], 27) := by decide +kernel
theorem dX7_year_112 : decode cX7_year 112 = .ok (.aload_n 0, 1) := by decide +kernel
theorem dX7_year_113 : decode cX7_year 113 = .ok (.getfield 16, 3) := by decide +kernel
theorem dX7_year_116 : decode cX7_year 116 = .ok (.getfield 139, 3) := by decide +kernel
theorem dX7_year_119 : decode cX7_year 119 = .ok (.ldc 142, 2) := by decide +kernel
theorem dX7_year_121 : decode cX7_year 121 = .ok (.iadd, 1) := by decide +kernel
theorem dX7_year_122 : decode cX7_year 122 = .ok (.ireturn, 1) := by decide +kernel
theorem dX7_year_123 : decode cX7_year 123 = .ok (.aload_n 0, 1) := by decide +kernel
theorem dX7_year_124 : decode cX7_year 124 = .ok (.getfield 16, 3) := by decide +kernel
theorem dX7_year_127 : decode cX7_year 127 = .ok (.getfield 143, 3) := by decide +kernel
theorem dX7_year_130 : decode cX7_year 130 = .ok (.ireturn, 1) := by decide +kernel
theorem dX7_year_131 : decode cX7_year 131 = .ok (.aload_n 0, 1) := by decide +kernel
theorem dX7_year_132 : decode cX7_year 132 = .ok (.getfield 16, 3) := by decide +kernel
theorem dX7_year_135 : decode cX7_year 135 = .ok (.invokevirtual 229, 3) := by decide +kernel
theorem dX7_year_138 : decode cX7_year 138 = .ok (.ireturn, 1) := by decide +kernel
theorem dX7_image_0 : decode cX7_image 0 = .ok (.aload_n 0, 1) := by decide +kernel
theorem dX7_image_1 : decode cX7_image 1 = .ok (.iload_n 1, 1) := by decide +kernel
theorem dX7_image_2 : decode cX7_image 2 = .ok (.invokevirtual 232, 3) := by decide +kernel
theorem dX7_image_5 : decode cX7_image 5 = .ok (.astore_n 2, 1) := by decide +kernel
theorem dX7_image_6 : decode cX7_image 6 = .ok (.aload_n 2, 1) := by decide +kernel
theorem dX7_image_7 : decode cX7_image 7 = .ok (.ifnonnull 6, 3) := by decide +kernel
theorem dX7_image_10 : decode cX7_image 10 = .ok (.bipush (-2), 2) := by decide +kernel
theorem dX7_image_12 : decode cX7_image 12 = .ok (.ireturn, 1) := by decide +kernel
theorem dX7_image_13 : decode cX7_image 13 = .ok (.aload_n 2, 1) := by decide +kernel
theorem dX7_image_14 : decode cX7_image 14 = .ok (.getfield 236, 3) := by decide +kernel
theorem dX7_image_17 : decode cX7_image 17 = .ok (.aload_n 0, 1) := by decide +kernel
theorem dX7_image_18 : decode cX7_image 18 = .ok (.getfield 10, 3) := by decide +kernel
theorem dX7_image_21 : decode cX7_image 21 = .ok (.invokevirtual 158, 3) := by decide +kernel
theorem dX7_image_24 : decode cX7_image 24 = .ok (.aload_n 2, 1) := by decide +kernel
theorem dX7_image_25 : decode cX7_image 25 = .ok (.getfield 239, 3) := by decide +kernel
theorem dX7_image_28 : decode cX7_image 28 = .ok (.aload_n 0, 1) := by decide +kernel
theorem dX7_image_29 : decode cX7_image 29 = .ok (.getfield 36, 3) := by decide +kernel
theorem dX7_image_32 : decode cX7_image 32 = .ok (.invokevirtual 240, 3) := by decide +kernel
theorem dX7_image_35 : decode cX7_image 35 = .ok (.aload_n 2, 1) := by decide +kernel
theorem dX7_image_36 : decode cX7_image 36 = .ok (.iconst 1, 1) := by decide +kernel
theorem dX7_image_37 : decode cX7_image 37 = .ok (.putfield 242, 3) := by decide +kernel
theorem dX7_image_40 : decode cX7_image 40 = .ok (.iconst 1, 1) := by decide +kernel
theorem dX7_image_41 : decode cX7_image 41 = .ok (.ireturn, 1) := by decide +kernel
theorem dX7_restore_0 : decode cX7_restore 0 = .ok (.aload_n 0, 1) := by decide +kernel
theorem dX7_restore_1 : decode cX7_restore 1 = .ok (.iload_n 1, 1) := by decide +kernel
theorem dX7_restore_2 : decode cX7_restore 2 = .ok (.invokevirtual 232, 3) := by decide +kernel
theorem dX7_restore_5 : decode cX7_restore 5 = .ok (.astore_n 2, 1) := by decide +kernel
theorem dX7_restore_6 : decode cX7_restore 6 = .ok (.aload_n 2, 1) := by decide +kernel
theorem dX7_restore_7 : decode cX7_restore 7 = .ok (.ifnonnull 6, 3) := by decide +kernel
theorem dX7_restore_10 : decode cX7_restore 10 = .ok (.bipush (-2), 2) := by decide +kernel
theorem dX7_restore_12 : decode cX7_restore 12 = .ok (.ireturn, 1) := by decide +kernel
theorem dX7_restore_13 : decode cX7_restore 13 = .ok (.aload_n 2, 1) := by decide +kernel
theorem dX7_restore_14 : decode cX7_restore 14 = .ok (.getfield 242, 3) := by decide +kernel
theorem dX7_restore_17 : decode cX7_restore 17 = .ok (.ifCond .ne 6, 3) := by decide +kernel
theorem dX7_restore_20 : decode cX7_restore 20 = .ok (.bipush (-3), 2) := by decide +kernel
theorem dX7_restore_22 : decode cX7_restore 22 = .ok (.ireturn, 1) := by decide +kernel
theorem dX7_restore_23 : decode cX7_restore 23 = .ok (.aload_n 0, 1) := by decide +kernel
theorem dX7_restore_24 : decode cX7_restore 24 = .ok (.getfield 10, 3) := by decide +kernel
theorem dX7_restore_27 : decode cX7_restore 27 = .ok (.aload_n 2, 1) := by decide +kernel
theorem dX7_restore_28 : decode cX7_restore 28 = .ok (.getfield 236, 3) := by decide +kernel
theorem dX7_restore_31 : decode cX7_restore 31 = .ok (.invokevirtual 158, 3) := by decide +kernel
theorem dX7_restore_34 : decode cX7_restore 34 = .ok (.aload_n 0, 1) := by decide +kernel
theorem dX7_restore_35 : decode cX7_restore 35 = .ok (.getfield 36, 3) := by decide +kernel
theorem dX7_restore_38 : decode cX7_restore 38 = .ok (.aload_n 2, 1) := by decide +kernel
theorem dX7_restore_39 : decode cX7_restore 39 = .ok (.getfield 239, 3) := by decide +kernel
theorem dX7_restore_42 : decode cX7_restore 42 = .ok (.invokevirtual 240, 3) := by decide +kernel
theorem dX7_restore_45 : decode cX7_restore 45 = .ok (.iconst 1, 1) := by decide +kernel
theorem dX7_restore_46 : decode cX7_restore 46 = .ok (.ireturn, 1) := by decide +kernel
theorem dX7_told_0 : decode cX7_told 0 = .ok (.iload_n 1, 1) := by decide +kernel
theorem dX7_told_1 : decode cX7_told 1 = .ok (.bipush 10, 2) := by decide +kernel
theorem dX7_told_3 : decode cX7_told 3 = .ok (.if_icmp .lt 35, 3) := by decide +kernel
theorem dX7_told_6 : decode cX7_told 6 = .ok (.aload_n 0, 1) := by decide +kernel
theorem dX7_told_7 : decode cX7_told 7 = .ok (.getfield 10, 3) := by decide +kernel
theorem dX7_told_10 : decode cX7_told 10 = .ok (.iload_n 1, 1) := by decide +kernel
theorem dX7_told_11 : decode cX7_told 11 = .ok (.bipush 10, 2) := by decide +kernel
theorem dX7_told_13 : decode cX7_told 13 = .ok (.idiv, 1) := by decide +kernel
theorem dX7_told_14 : decode cX7_told 14 = .ok (.iconst 1, 1) := by decide +kernel
theorem dX7_told_15 : decode cX7_told 15 = .ok (.isub, 1) := by decide +kernel
theorem dX7_told_16 : decode cX7_told 16 = .ok (.invokevirtual 76, 3) := by decide +kernel
theorem dX7_told_19 : decode cX7_told 19 = .ok (.astore_n 2, 1) := by decide +kernel
theorem dX7_told_20 : decode cX7_told 20 = .ok (.aload_n 2, 1) := by decide +kernel
theorem dX7_told_21 : decode cX7_told 21 = .ok (.ifnonnull 8, 3) := by decide +kernel
theorem dX7_told_24 : decode cX7_told 24 = .ok (.bipush (-2), 2) := by decide +kernel
theorem dX7_told_26 : decode cX7_told 26 = .ok (.goto 11, 3) := by decide +kernel
theorem dX7_told_29 : decode cX7_told 29 = .ok (.aload_n 2, 1) := by decide +kernel
theorem dX7_told_30 : decode cX7_told 30 = .ok (.iload_n 1, 1) := by decide +kernel
theorem dX7_told_31 : decode cX7_told 31 = .ok (.bipush 10, 2) := by decide +kernel
theorem dX7_told_33 : decode cX7_told 33 = .ok (.irem, 1) := by decide +kernel
theorem dX7_told_34 : decode cX7_told 34 = .ok (.invokestatic 245, 3) := by decide +kernel
theorem dX7_told_37 : decode cX7_told 37 = .ok (.ireturn, 1) := by decide +kernel
theorem dX7_told_38 : decode cX7_told 38 = .ok (.iload_n 1, 1) := by decide +kernel
theorem dX7_told_39 : decode cX7_told 39 = .ok (.tableswitch 124 0 8 #[49, 57, 65, 73, 81, 89, 97, 105, 113], 49) := by decide +kernel
theorem dX7_told_88 : decode cX7_told 88 = .ok (.aload_n 0, 1) := by decide +kernel
theorem dX7_told_89 : decode cX7_told 89 = .ok (.getfield 22, 3) := by decide +kernel
theorem dX7_told_92 : decode cX7_told 92 = .ok (.getfield 108, 3) := by decide +kernel
theorem dX7_told_95 : decode cX7_told 95 = .ok (.ireturn, 1) := by decide +kernel
theorem dX7_told_96 : decode cX7_told 96 = .ok (.aload_n 0, 1) := by decide +kernel
theorem dX7_told_97 : decode cX7_told 97 = .ok (.getfield 10, 3) := by decide +kernel
theorem dX7_told_100 : decode cX7_told 100 = .ok (.invokevirtual 248, 3) := by decide +kernel
theorem dX7_told_103 : decode cX7_told 103 = .ok (.ireturn, 1) := by decide +kernel
theorem dX7_told_104 : decode cX7_told 104 = .ok (.aload_n 0, 1) := by decide +kernel
theorem dX7_told_105 : decode cX7_told 105 = .ok (.getfield 10, 3) := by decide +kernel
theorem dX7_told_108 : decode cX7_told 108 = .ok (.getfield 95, 3) := by decide +kernel
theorem dX7_told_111 : decode cX7_told 111 = .ok (.ireturn, 1) := by decide +kernel
theorem dX7_told_112 : decode cX7_told 112 = .ok (.aload_n 0, 1) := by decide +kernel
theorem dX7_told_113 : decode cX7_told 113 = .ok (.getfield 10, 3) := by decide +kernel
theorem dX7_told_116 : decode cX7_told 116 = .ok (.getfield 98, 3) := by decide +kernel
theorem dX7_told_119 : decode cX7_told 119 = .ok (.ireturn, 1) := by decide +kernel
theorem dX7_told_120 : decode cX7_told 120 = .ok (.aload_n 0, 1) := by decide +kernel
theorem dX7_told_121 : decode cX7_told 121 = .ok (.getfield 10, 3) := by decide +kernel
theorem dX7_told_124 : decode cX7_told 124 = .ok (.getfield 101, 3) := by decide +kernel
theorem dX7_told_127 : decode cX7_told 127 = .ok (.ireturn, 1) := by decide +kernel
theorem dX7_told_128 : decode cX7_told 128 = .ok (.aload_n 0, 1) := by decide +kernel
theorem dX7_told_129 : decode cX7_told 129 = .ok (.getfield 10, 3) := by decide +kernel
theorem dX7_told_132 : decode cX7_told 132 = .ok (.getfield 146, 3) := by decide +kernel
theorem dX7_told_135 : decode cX7_told 135 = .ok (.ireturn, 1) := by decide +kernel
theorem dX7_told_136 : decode cX7_told 136 = .ok (.aload_n 0, 1) := by decide +kernel
theorem dX7_told_137 : decode cX7_told 137 = .ok (.getfield 36, 3) := by decide +kernel
theorem dX7_told_140 : decode cX7_told 140 = .ok (.getfield 209, 3) := by decide +kernel
theorem dX7_told_143 : decode cX7_told 143 = .ok (.ireturn, 1) := by decide +kernel
theorem dX7_told_144 : decode cX7_told 144 = .ok (.aload_n 0, 1) := by decide +kernel
theorem dX7_told_145 : decode cX7_told 145 = .ok (.getfield 10, 3) := by decide +kernel
theorem dX7_told_148 : decode cX7_told 148 = .ok (.getfield 143, 3) := by decide +kernel
theorem dX7_told_151 : decode cX7_told 151 = .ok (.ireturn, 1) := by decide +kernel
theorem dX7_told_152 : decode cX7_told 152 = .ok (.aload_n 0, 1) := by decide +kernel
theorem dX7_told_153 : decode cX7_told 153 = .ok (.getfield 10, 3) := by decide +kernel
theorem dX7_told_156 : decode cX7_told 156 = .ok (.getfield 139, 3) := by decide +kernel
theorem dX7_told_159 : decode cX7_told 159 = .ok (.ldc 142, 2) := by decide +kernel
theorem dX7_told_161 : decode cX7_told 161 = .ok (.iadd, 1) := by decide +kernel
theorem dX7_told_162 : decode cX7_told 162 = .ok (.ireturn, 1) := by decide +kernel
theorem dX7_told_163 : decode cX7_told 163 = .ok (.bipush (-2), 2) := by decide +kernel
theorem dX7_told_165 : decode cX7_told 165 = .ok (.ireturn, 1) := by decide +kernel
theorem dX7_within_0 : decode cX7_within 0 = .ok (.iload_n 0, 1) := by decide +kernel
theorem dX7_within_1 : decode cX7_within 1 = .ok (.iload_n 1, 1) := by decide +kernel
theorem dX7_within_2 : decode cX7_within 2 = .ok (.if_icmp .lt 12, 3) := by decide +kernel
theorem dX7_within_5 : decode cX7_within 5 = .ok (.iload_n 0, 1) := by decide +kernel
theorem dX7_within_6 : decode cX7_within 6 = .ok (.iload_n 2, 1) := by decide +kernel
theorem dX7_within_7 : decode cX7_within 7 = .ok (.if_icmp .gt 7, 3) := by decide +kernel
theorem dX7_within_10 : decode cX7_within 10 = .ok (.iconst 1, 1) := by decide +kernel
theorem dX7_within_11 : decode cX7_within 11 = .ok (.goto 4, 3) := by decide +kernel
theorem dX7_within_14 : decode cX7_within 14 = .ok (.iconst 0, 1) := by decide +kernel
theorem dX7_within_15 : decode cX7_within 15 = .ok (.ireturn, 1) := by decide +kernel
theorem dX7_tryVoyages_0 : decode cX7_tryVoyages 0 = .ok (.aload_n 0, 1) := by decide +kernel
theorem dX7_tryVoyages_1 : decode cX7_tryVoyages 1 = .ok (.getfield 22, 3) := by decide +kernel
theorem dX7_tryVoyages_4 : decode cX7_tryVoyages 4 = .ok (.invokevirtual 111, 3) := by decide +kernel
theorem dX7_tryVoyages_7 : decode cX7_tryVoyages 7 = .ok (.bipush (-6), 2) := by decide +kernel
theorem dX7_tryVoyages_9 : decode cX7_tryVoyages 9 = .ok (.if_icmp .eq 6, 3) := by decide +kernel
theorem dX7_tryVoyages_12 : decode cX7_tryVoyages 12 = .ok (.bipush (-5), 2) := by decide +kernel
theorem dX7_tryVoyages_14 : decode cX7_tryVoyages 14 = .ok (.ireturn, 1) := by decide +kernel
theorem dX7_tryVoyages_15 : decode cX7_tryVoyages 15 = .ok (.aload_n 0, 1) := by decide +kernel
theorem dX7_tryVoyages_16 : decode cX7_tryVoyages 16 = .ok (.getfield 16, 3) := by decide +kernel
theorem dX7_tryVoyages_19 : decode cX7_tryVoyages 19 = .ok (.aload_n 0, 1) := by decide +kernel
theorem dX7_tryVoyages_20 : decode cX7_tryVoyages 20 = .ok (.getfield 10, 3) := by decide +kernel
theorem dX7_tryVoyages_23 : decode cX7_tryVoyages 23 = .ok (.invokevirtual 158, 3) := by decide +kernel
theorem dX7_tryVoyages_26 : decode cX7_tryVoyages 26 = .ok (.aload_n 0, 1) := by decide +kernel
theorem dX7_tryVoyages_27 : decode cX7_tryVoyages 27 = .ok (.getfield 29, 3) := by decide +kernel
theorem dX7_tryVoyages_30 : decode cX7_tryVoyages 30 = .ok (.aload_n 0, 1) := by decide +kernel
theorem dX7_tryVoyages_31 : decode cX7_tryVoyages 31 = .ok (.getfield 22, 3) := by decide +kernel
theorem dX7_tryVoyages_34 : decode cX7_tryVoyages 34 = .ok (.aload_n 0, 1) := by decide +kernel
theorem dX7_tryVoyages_35 : decode cX7_tryVoyages 35 = .ok (.getfield 16, 3) := by decide +kernel
theorem dX7_tryVoyages_38 : decode cX7_tryVoyages 38 = .ok (.invokevirtual 251, 3) := by decide +kernel
theorem dX7_tryVoyages_41 : decode cX7_tryVoyages 41 = .ok (.aload_n 0, 1) := by decide +kernel
theorem dX7_tryVoyages_42 : decode cX7_tryVoyages 42 = .ok (.getfield 29, 3) := by decide +kernel
theorem dX7_tryVoyages_45 : decode cX7_tryVoyages 45 = .ok (.getfield 117, 3) := by decide +kernel
theorem dX7_tryVoyages_48 : decode cX7_tryVoyages 48 = .ok (.bipush (-6), 2) := by decide +kernel
theorem dX7_tryVoyages_50 : decode cX7_tryVoyages 50 = .ok (.if_icmp .ne 7, 3) := by decide +kernel
theorem dX7_tryVoyages_53 : decode cX7_tryVoyages 53 = .ok (.iconst 0, 1) := by decide +kernel
theorem dX7_tryVoyages_54 : decode cX7_tryVoyages 54 = .ok (.goto 5, 3) := by decide +kernel
theorem dX7_tryVoyages_57 : decode cX7_tryVoyages 57 = .ok (.bipush (-3), 2) := by decide +kernel
theorem dX7_tryVoyages_59 : decode cX7_tryVoyages 59 = .ok (.ireturn, 1) := by decide +kernel
theorem dX7_imageAt_0 : decode cX7_imageAt 0 = .ok (.iload_n 1, 1) := by decide +kernel
theorem dX7_imageAt_1 : decode cX7_imageAt 1 = .ok (.ifCond .lt 21, 3) := by decide +kernel
theorem dX7_imageAt_4 : decode cX7_imageAt 4 = .ok (.iload_n 1, 1) := by decide +kernel
theorem dX7_imageAt_5 : decode cX7_imageAt 5 = .ok (.aload_n 0, 1) := by decide +kernel
theorem dX7_imageAt_6 : decode cX7_imageAt 6 = .ok (.getfield 49, 3) := by decide +kernel
theorem dX7_imageAt_9 : decode cX7_imageAt 9 = .ok (.arraylength, 1) := by decide +kernel
theorem dX7_imageAt_10 : decode cX7_imageAt 10 = .ok (.if_icmp .ge 12, 3) := by decide +kernel
theorem dX7_imageAt_13 : decode cX7_imageAt 13 = .ok (.aload_n 0, 1) := by decide +kernel
theorem dX7_imageAt_14 : decode cX7_imageAt 14 = .ok (.getfield 49, 3) := by decide +kernel
theorem dX7_imageAt_17 : decode cX7_imageAt 17 = .ok (.iload_n 1, 1) := by decide +kernel
theorem dX7_imageAt_18 : decode cX7_imageAt 18 = .ok (.aaload, 1) := by decide +kernel
theorem dX7_imageAt_19 : decode cX7_imageAt 19 = .ok (.goto 4, 3) := by decide +kernel
theorem dX7_imageAt_22 : decode cX7_imageAt 22 = .ok (.aconst_null, 1) := by decide +kernel
theorem dX7_imageAt_23 : decode cX7_imageAt 23 = .ok (.areturn, 1) := by decide +kernel
theorem dX7_toldOf_0 : decode cX7_toldOf 0 = .ok (.iload_n 1, 1) := by decide +kernel
theorem dX7_toldOf_1 : decode cX7_toldOf 1 = .ok (.tableswitch 88 0 7 #[47, 52, 57, 57, 57, 65, 70, 75], 47) := by decide +kernel
theorem dX7_toldOf_48 : decode cX7_toldOf 48 = .ok (.aload_n 0, 1) := by decide +kernel
theorem dX7_toldOf_49 : decode cX7_toldOf 49 = .ok (.getfield 126, 3) := by decide +kernel
theorem dX7_toldOf_52 : decode cX7_toldOf 52 = .ok (.ireturn, 1) := by decide +kernel
theorem dX7_toldOf_53 : decode cX7_toldOf 53 = .ok (.aload_n 0, 1) := by decide +kernel
theorem dX7_toldOf_54 : decode cX7_toldOf 54 = .ok (.getfield 255, 3) := by decide +kernel
theorem dX7_toldOf_57 : decode cX7_toldOf 57 = .ok (.ireturn, 1) := by decide +kernel
theorem dX7_toldOf_58 : decode cX7_toldOf 58 = .ok (.aload_n 0, 1) := by decide +kernel
theorem dX7_toldOf_59 : decode cX7_toldOf 59 = .ok (.iload_n 1, 1) := by decide +kernel
theorem dX7_toldOf_60 : decode cX7_toldOf 60 = .ok (.iconst 2, 1) := by decide +kernel
theorem dX7_toldOf_61 : decode cX7_toldOf 61 = .ok (.isub, 1) := by decide +kernel
theorem dX7_toldOf_62 : decode cX7_toldOf 62 = .ok (.invokevirtual 83, 3) := by decide +kernel
theorem dX7_toldOf_65 : decode cX7_toldOf 65 = .ok (.ireturn, 1) := by decide +kernel
theorem dX7_toldOf_66 : decode cX7_toldOf 66 = .ok (.aload_n 0, 1) := by decide +kernel
theorem dX7_toldOf_67 : decode cX7_toldOf 67 = .ok (.getfield 91, 3) := by decide +kernel
theorem dX7_toldOf_70 : decode cX7_toldOf 70 = .ok (.ireturn, 1) := by decide +kernel
theorem dX7_toldOf_71 : decode cX7_toldOf 71 = .ok (.aload_n 0, 1) := by decide +kernel
theorem dX7_toldOf_72 : decode cX7_toldOf 72 = .ok (.getfield 258, 3) := by decide +kernel
theorem dX7_toldOf_75 : decode cX7_toldOf 75 = .ok (.ireturn, 1) := by decide +kernel
theorem dX7_toldOf_76 : decode cX7_toldOf 76 = .ok (.aload_n 0, 1) := by decide +kernel
theorem dX7_toldOf_77 : decode cX7_toldOf 77 = .ok (.getfield 136, 3) := by decide +kernel
theorem dX7_toldOf_80 : decode cX7_toldOf 80 = .ok (.ifCond .eq 7, 3) := by decide +kernel
theorem dX7_toldOf_83 : decode cX7_toldOf 83 = .ok (.iconst 1, 1) := by decide +kernel
theorem dX7_toldOf_84 : decode cX7_toldOf 84 = .ok (.goto 4, 3) := by decide +kernel
theorem dX7_toldOf_87 : decode cX7_toldOf 87 = .ok (.iconst 0, 1) := by decide +kernel
theorem dX7_toldOf_88 : decode cX7_toldOf 88 = .ok (.ireturn, 1) := by decide +kernel
theorem dX7_toldOf_89 : decode cX7_toldOf 89 = .ok (.bipush (-2), 2) := by decide +kernel
theorem dX7_toldOf_91 : decode cX7_toldOf 91 = .ok (.ireturn, 1) := by decide +kernel
theorem dX7_partOf_0 : decode cX7_partOf 0 = .ok (.lload_n 0, 1) := by decide +kernel
theorem dX7_partOf_1 : decode cX7_partOf 1 = .ok (.invokestatic 261, 3) := by decide +kernel
theorem dX7_partOf_4 : decode cX7_partOf 4 = .ok (.lload_n 2, 1) := by decide +kernel
theorem dX7_partOf_5 : decode cX7_partOf 5 = .ok (.invokestatic 264, 3) := by decide +kernel
theorem dX7_partOf_8 : decode cX7_partOf 8 = .ok (.lstore 5, 2) := by decide +kernel
theorem dX7_partOf_10 : decode cX7_partOf 10 = .ok (.iload 4, 2) := by decide +kernel
theorem dX7_partOf_12 : decode cX7_partOf 12 = .ok (.ifCond .ne 7, 3) := by decide +kernel
theorem dX7_partOf_15 : decode cX7_partOf 15 = .ok (.lload_n 0, 1) := by decide +kernel
theorem dX7_partOf_16 : decode cX7_partOf 16 = .ok (.goto 4, 3) := by decide +kernel
theorem dX7_partOf_19 : decode cX7_partOf 19 = .ok (.lload_n 2, 1) := by decide +kernel
theorem dX7_partOf_20 : decode cX7_partOf 20 = .ok (.lstore 7, 2) := by decide +kernel
theorem dX7_partOf_22 : decode cX7_partOf 22 = .ok (.lload 5, 2) := by decide +kernel
theorem dX7_partOf_24 : decode cX7_partOf 24 = .ok (.lconst 0, 1) := by decide +kernel
theorem dX7_partOf_25 : decode cX7_partOf 25 = .ok (.lcmp, 1) := by decide +kernel
theorem dX7_partOf_26 : decode cX7_partOf 26 = .ok (.ifCond .ne 8, 3) := by decide +kernel
theorem dX7_partOf_29 : decode cX7_partOf 29 = .ok (.lload 7, 2) := by decide +kernel
theorem dX7_partOf_31 : decode cX7_partOf 31 = .ok (.goto 8, 3) := by decide +kernel
theorem dX7_partOf_34 : decode cX7_partOf 34 = .ok (.lload 7, 2) := by decide +kernel
theorem dX7_partOf_36 : decode cX7_partOf 36 = .ok (.lload 5, 2) := by decide +kernel
theorem dX7_partOf_38 : decode cX7_partOf 38 = .ok (.ldiv, 1) := by decide +kernel
theorem dX7_partOf_39 : decode cX7_partOf 39 = .ok (.lreturn, 1) := by decide +kernel
theorem dX7_commonDivisor_0 : decode cX7_commonDivisor 0 = .ok (.iconst 0, 1) := by decide +kernel
theorem dX7_commonDivisor_1 : decode cX7_commonDivisor 1 = .ok (.istore 4, 2) := by decide +kernel
theorem dX7_commonDivisor_3 : decode cX7_commonDivisor 3 = .ok (.iload 4, 2) := by decide +kernel
theorem dX7_commonDivisor_5 : decode cX7_commonDivisor 5 = .ok (.bipush 100, 2) := by decide +kernel
theorem dX7_commonDivisor_7 : decode cX7_commonDivisor 7 = .ok (.if_icmp .ge 25, 3) := by decide +kernel
theorem dX7_commonDivisor_10 : decode cX7_commonDivisor 10 = .ok (.lload_n 2, 1) := by decide +kernel
theorem dX7_commonDivisor_11 : decode cX7_commonDivisor 11 = .ok (.lconst 0, 1) := by decide +kernel
theorem dX7_commonDivisor_12 : decode cX7_commonDivisor 12 = .ok (.lcmp, 1) := by decide +kernel
theorem dX7_commonDivisor_13 : decode cX7_commonDivisor 13 = .ok (.ifCond .eq 19, 3) := by decide +kernel
theorem dX7_commonDivisor_16 : decode cX7_commonDivisor 16 = .ok (.lload_n 0, 1) := by decide +kernel
theorem dX7_commonDivisor_17 : decode cX7_commonDivisor 17 = .ok (.lload_n 2, 1) := by decide +kernel
theorem dX7_commonDivisor_18 : decode cX7_commonDivisor 18 = .ok (.lrem, 1) := by decide +kernel
theorem dX7_commonDivisor_19 : decode cX7_commonDivisor 19 = .ok (.lstore 5, 2) := by decide +kernel
theorem dX7_commonDivisor_21 : decode cX7_commonDivisor 21 = .ok (.lload_n 2, 1) := by decide +kernel
theorem dX7_commonDivisor_22 : decode cX7_commonDivisor 22 = .ok (.lstore_n 0, 1) := by decide +kernel
theorem dX7_commonDivisor_23 : decode cX7_commonDivisor 23 = .ok (.lload 5, 2) := by decide +kernel
theorem dX7_commonDivisor_25 : decode cX7_commonDivisor 25 = .ok (.lstore_n 2, 1) := by decide +kernel
theorem dX7_commonDivisor_26 : decode cX7_commonDivisor 26 = .ok (.iinc 4 1, 3) := by decide +kernel
theorem dX7_commonDivisor_29 : decode cX7_commonDivisor 29 = .ok (.goto (-26), 3) := by decide +kernel
theorem dX7_commonDivisor_32 : decode cX7_commonDivisor 32 = .ok (.lload_n 0, 1) := by decide +kernel
theorem dX7_commonDivisor_33 : decode cX7_commonDivisor 33 = .ok (.lreturn, 1) := by decide +kernel
theorem dX7_likelihood_0 : decode cX7_likelihood 0 = .ok (.lconst 1, 1) := by decide +kernel
theorem dX7_likelihood_1 : decode cX7_likelihood 1 = .ok (.lstore_n 3, 1) := by decide +kernel
theorem dX7_likelihood_2 : decode cX7_likelihood 2 = .ok (.iconst 0, 1) := by decide +kernel
theorem dX7_likelihood_3 : decode cX7_likelihood 3 = .ok (.istore 5, 2) := by decide +kernel
theorem dX7_likelihood_5 : decode cX7_likelihood 5 = .ok (.iload 5, 2) := by decide +kernel
theorem dX7_likelihood_7 : decode cX7_likelihood 7 = .ok (.iload_n 1, 1) := by decide +kernel
theorem dX7_likelihood_8 : decode cX7_likelihood 8 = .ok (.if_icmp .ge 28, 3) := by decide +kernel
theorem dX7_likelihood_11 : decode cX7_likelihood 11 = .ok (.lload_n 3, 1) := by decide +kernel
theorem dX7_likelihood_12 : decode cX7_likelihood 12 = .ok (.iload 5, 2) := by decide +kernel
theorem dX7_likelihood_14 : decode cX7_likelihood 14 = .ok (.iload_n 2, 1) := by decide +kernel
theorem dX7_likelihood_15 : decode cX7_likelihood 15 = .ok (.if_icmp .ge 8, 3) := by decide +kernel
theorem dX7_likelihood_18 : decode cX7_likelihood 18 = .ok (.iload_n 0, 1) := by decide +kernel
theorem dX7_likelihood_19 : decode cX7_likelihood 19 = .ok (.i2l, 1) := by decide +kernel
theorem dX7_likelihood_20 : decode cX7_likelihood 20 = .ok (.goto 8, 3) := by decide +kernel
theorem dX7_likelihood_23 : decode cX7_likelihood 23 = .ok (.bipush 100, 2) := by decide +kernel
theorem dX7_likelihood_25 : decode cX7_likelihood 25 = .ok (.iload_n 0, 1) := by decide +kernel
theorem dX7_likelihood_26 : decode cX7_likelihood 26 = .ok (.isub, 1) := by decide +kernel
theorem dX7_likelihood_27 : decode cX7_likelihood 27 = .ok (.i2l, 1) := by decide +kernel
theorem dX7_likelihood_28 : decode cX7_likelihood 28 = .ok (.lmul, 1) := by decide +kernel
theorem dX7_likelihood_29 : decode cX7_likelihood 29 = .ok (.lstore_n 3, 1) := by decide +kernel
theorem dX7_likelihood_30 : decode cX7_likelihood 30 = .ok (.iinc 5 1, 3) := by decide +kernel
theorem dX7_likelihood_33 : decode cX7_likelihood 33 = .ok (.goto (-28), 3) := by decide +kernel
theorem dX7_likelihood_36 : decode cX7_likelihood 36 = .ok (.lload_n 3, 1) := by decide +kernel
theorem dX7_likelihood_37 : decode cX7_likelihood 37 = .ok (.lreturn, 1) := by decide +kernel
theorem dX7_turned_0 : decode cX7_turned 0 = .ok (.iconst 0, 1) := by decide +kernel
theorem dX7_turned_1 : decode cX7_turned 1 = .ok (.istore_n 1, 1) := by decide +kernel
theorem dX7_turned_2 : decode cX7_turned 2 = .ok (.iload_n 0, 1) := by decide +kernel
theorem dX7_turned_3 : decode cX7_turned 3 = .ok (.istore_n 2, 1) := by decide +kernel
theorem dX7_turned_4 : decode cX7_turned 4 = .ok (.iconst 0, 1) := by decide +kernel
theorem dX7_turned_5 : decode cX7_turned 5 = .ok (.istore_n 3, 1) := by decide +kernel
theorem dX7_turned_6 : decode cX7_turned 6 = .ok (.iload_n 3, 1) := by decide +kernel
theorem dX7_turned_7 : decode cX7_turned 7 = .ok (.bipush 6, 2) := by decide +kernel
theorem dX7_turned_9 : decode cX7_turned 9 = .ok (.if_icmp .ge 24, 3) := by decide +kernel
theorem dX7_turned_12 : decode cX7_turned 12 = .ok (.iload_n 1, 1) := by decide +kernel
theorem dX7_turned_13 : decode cX7_turned 13 = .ok (.bipush 10, 2) := by decide +kernel
theorem dX7_turned_15 : decode cX7_turned 15 = .ok (.imul, 1) := by decide +kernel
theorem dX7_turned_16 : decode cX7_turned 16 = .ok (.iload_n 2, 1) := by decide +kernel
theorem dX7_turned_17 : decode cX7_turned 17 = .ok (.bipush 10, 2) := by decide +kernel
theorem dX7_turned_19 : decode cX7_turned 19 = .ok (.irem, 1) := by decide +kernel
theorem dX7_turned_20 : decode cX7_turned 20 = .ok (.iadd, 1) := by decide +kernel
theorem dX7_turned_21 : decode cX7_turned 21 = .ok (.istore_n 1, 1) := by decide +kernel
theorem dX7_turned_22 : decode cX7_turned 22 = .ok (.iload_n 2, 1) := by decide +kernel
theorem dX7_turned_23 : decode cX7_turned 23 = .ok (.bipush 10, 2) := by decide +kernel
theorem dX7_turned_25 : decode cX7_turned 25 = .ok (.idiv, 1) := by decide +kernel
theorem dX7_turned_26 : decode cX7_turned 26 = .ok (.istore_n 2, 1) := by decide +kernel
theorem dX7_turned_27 : decode cX7_turned 27 = .ok (.iinc 3 1, 3) := by decide +kernel
theorem dX7_turned_30 : decode cX7_turned 30 = .ok (.goto (-24), 3) := by decide +kernel
theorem dX7_turned_33 : decode cX7_turned 33 = .ok (.iload_n 1, 1) := by decide +kernel
theorem dX7_turned_34 : decode cX7_turned 34 = .ok (.ireturn, 1) := by decide +kernel
theorem dX7_digitsAdded_0 : decode cX7_digitsAdded 0 = .ok (.iconst 0, 1) := by decide +kernel
theorem dX7_digitsAdded_1 : decode cX7_digitsAdded 1 = .ok (.istore_n 2, 1) := by decide +kernel
theorem dX7_digitsAdded_2 : decode cX7_digitsAdded 2 = .ok (.iload_n 0, 1) := by decide +kernel
theorem dX7_digitsAdded_3 : decode cX7_digitsAdded 3 = .ok (.istore_n 3, 1) := by decide +kernel
theorem dX7_digitsAdded_4 : decode cX7_digitsAdded 4 = .ok (.iconst 0, 1) := by decide +kernel
theorem dX7_digitsAdded_5 : decode cX7_digitsAdded 5 = .ok (.istore 4, 2) := by decide +kernel
theorem dX7_digitsAdded_7 : decode cX7_digitsAdded 7 = .ok (.iload 4, 2) := by decide +kernel
theorem dX7_digitsAdded_9 : decode cX7_digitsAdded 9 = .ok (.bipush 6, 2) := by decide +kernel
theorem dX7_digitsAdded_11 : decode cX7_digitsAdded 11 = .ok (.if_icmp .ge 31, 3) := by decide +kernel
theorem dX7_digitsAdded_14 : decode cX7_digitsAdded 14 = .ok (.iload_n 1, 1) := by decide +kernel
theorem dX7_digitsAdded_15 : decode cX7_digitsAdded 15 = .ok (.iload 4, 2) := by decide +kernel
theorem dX7_digitsAdded_17 : decode cX7_digitsAdded 17 = .ok (.ishr, 1) := by decide +kernel
theorem dX7_digitsAdded_18 : decode cX7_digitsAdded 18 = .ok (.iconst 1, 1) := by decide +kernel
theorem dX7_digitsAdded_19 : decode cX7_digitsAdded 19 = .ok (.iand, 1) := by decide +kernel
theorem dX7_digitsAdded_20 : decode cX7_digitsAdded 20 = .ok (.iconst 1, 1) := by decide +kernel
theorem dX7_digitsAdded_21 : decode cX7_digitsAdded 21 = .ok (.if_icmp .ne 10, 3) := by decide +kernel
theorem dX7_digitsAdded_24 : decode cX7_digitsAdded 24 = .ok (.iload_n 2, 1) := by decide +kernel
theorem dX7_digitsAdded_25 : decode cX7_digitsAdded 25 = .ok (.iload_n 3, 1) := by decide +kernel
theorem dX7_digitsAdded_26 : decode cX7_digitsAdded 26 = .ok (.bipush 10, 2) := by decide +kernel
theorem dX7_digitsAdded_28 : decode cX7_digitsAdded 28 = .ok (.irem, 1) := by decide +kernel
theorem dX7_digitsAdded_29 : decode cX7_digitsAdded 29 = .ok (.iadd, 1) := by decide +kernel
theorem dX7_digitsAdded_30 : decode cX7_digitsAdded 30 = .ok (.istore_n 2, 1) := by decide +kernel
theorem dX7_digitsAdded_31 : decode cX7_digitsAdded 31 = .ok (.iload_n 3, 1) := by decide +kernel
theorem dX7_digitsAdded_32 : decode cX7_digitsAdded 32 = .ok (.bipush 10, 2) := by decide +kernel
theorem dX7_digitsAdded_34 : decode cX7_digitsAdded 34 = .ok (.idiv, 1) := by decide +kernel
theorem dX7_digitsAdded_35 : decode cX7_digitsAdded 35 = .ok (.istore_n 3, 1) := by decide +kernel
theorem dX7_digitsAdded_36 : decode cX7_digitsAdded 36 = .ok (.iinc 4 1, 3) := by decide +kernel
theorem dX7_digitsAdded_39 : decode cX7_digitsAdded 39 = .ok (.goto (-32), 3) := by decide +kernel
theorem dX7_digitsAdded_42 : decode cX7_digitsAdded 42 = .ok (.iload_n 2, 1) := by decide +kernel
theorem dX7_digitsAdded_43 : decode cX7_digitsAdded 43 = .ok (.ireturn, 1) := by decide +kernel
theorem dX7_fewestShips_0 : decode cX7_fewestShips 0 = .ok (.iload_n 2, 1) := by decide +kernel
theorem dX7_fewestShips_1 : decode cX7_fewestShips 1 = .ok (.iload_n 3, 1) := by decide +kernel
theorem dX7_fewestShips_2 : decode cX7_fewestShips 2 = .ok (.if_icmp .lt 5, 3) := by decide +kernel
theorem dX7_fewestShips_5 : decode cX7_fewestShips 5 = .ok (.iload_n 3, 1) := by decide +kernel
theorem dX7_fewestShips_6 : decode cX7_fewestShips 6 = .ok (.ireturn, 1) := by decide +kernel
theorem dX7_fewestShips_7 : decode cX7_fewestShips 7 = .ok (.iload_n 1, 1) := by decide +kernel
theorem dX7_fewestShips_8 : decode cX7_fewestShips 8 = .ok (.bipush 8, 2) := by decide +kernel
theorem dX7_fewestShips_10 : decode cX7_fewestShips 10 = .ok (.if_icmp .lt 5, 3) := by decide +kernel
theorem dX7_fewestShips_13 : decode cX7_fewestShips 13 = .ok (.iload_n 2, 1) := by decide +kernel
theorem dX7_fewestShips_14 : decode cX7_fewestShips 14 = .ok (.ireturn, 1) := by decide +kernel
theorem dX7_fewestShips_15 : decode cX7_fewestShips 15 = .ok (.aload_n 0, 1) := by decide +kernel
theorem dX7_fewestShips_16 : decode cX7_fewestShips 16 = .ok (.iload_n 1, 1) := by decide +kernel
theorem dX7_fewestShips_17 : decode cX7_fewestShips 17 = .ok (.invokevirtual 268, 3) := by decide +kernel
theorem dX7_fewestShips_20 : decode cX7_fewestShips 20 = .ok (.iload_n 1, 1) := by decide +kernel
theorem dX7_fewestShips_21 : decode cX7_fewestShips 21 = .ok (.if_icmp .eq 13, 3) := by decide +kernel
theorem dX7_fewestShips_24 : decode cX7_fewestShips 24 = .ok (.aload_n 0, 1) := by decide +kernel
theorem dX7_fewestShips_25 : decode cX7_fewestShips 25 = .ok (.iload_n 1, 1) := by decide +kernel
theorem dX7_fewestShips_26 : decode cX7_fewestShips 26 = .ok (.iconst 1, 1) := by decide +kernel
theorem dX7_fewestShips_27 : decode cX7_fewestShips 27 = .ok (.iadd, 1) := by decide +kernel
theorem dX7_fewestShips_28 : decode cX7_fewestShips 28 = .ok (.iload_n 2, 1) := by decide +kernel
theorem dX7_fewestShips_29 : decode cX7_fewestShips 29 = .ok (.iload_n 3, 1) := by decide +kernel
theorem dX7_fewestShips_30 : decode cX7_fewestShips 30 = .ok (.invokestatic 220, 3) := by decide +kernel
theorem dX7_fewestShips_33 : decode cX7_fewestShips 33 = .ok (.ireturn, 1) := by decide +kernel
theorem dX7_fewestShips_34 : decode cX7_fewestShips 34 = .ok (.iload_n 3, 1) := by decide +kernel
theorem dX7_fewestShips_35 : decode cX7_fewestShips 35 = .ok (.istore 4, 2) := by decide +kernel
theorem dX7_fewestShips_37 : decode cX7_fewestShips 37 = .ok (.iconst 0, 1) := by decide +kernel
theorem dX7_fewestShips_38 : decode cX7_fewestShips 38 = .ok (.istore 5, 2) := by decide +kernel
theorem dX7_fewestShips_40 : decode cX7_fewestShips 40 = .ok (.iload 5, 2) := by decide +kernel
theorem dX7_fewestShips_42 : decode cX7_fewestShips 42 = .ok (.iload_n 2, 1) := by decide +kernel
theorem dX7_fewestShips_43 : decode cX7_fewestShips 43 = .ok (.if_icmp .gt 52, 3) := by decide +kernel
theorem dX7_fewestShips_46 : decode cX7_fewestShips 46 = .ok (.iload 5, 2) := by decide +kernel
theorem dX7_fewestShips_48 : decode cX7_fewestShips 48 = .ok (.bipush 8, 2) := by decide +kernel
theorem dX7_fewestShips_50 : decode cX7_fewestShips 50 = .ok (.if_icmp .ge 45, 3) := by decide +kernel
theorem dX7_fewestShips_53 : decode cX7_fewestShips 53 = .ok (.aload_n 0, 1) := by decide +kernel
theorem dX7_fewestShips_54 : decode cX7_fewestShips 54 = .ok (.iload_n 1, 1) := by decide +kernel
theorem dX7_fewestShips_55 : decode cX7_fewestShips 55 = .ok (.iload 5, 2) := by decide +kernel
theorem dX7_fewestShips_57 : decode cX7_fewestShips 57 = .ok (.invokevirtual 271, 3) := by decide +kernel
theorem dX7_fewestShips_60 : decode cX7_fewestShips 60 = .ok (.ifCond .eq 29, 3) := by decide +kernel
theorem dX7_fewestShips_63 : decode cX7_fewestShips 63 = .ok (.aload_n 0, 1) := by decide +kernel
theorem dX7_fewestShips_64 : decode cX7_fewestShips 64 = .ok (.iload_n 1, 1) := by decide +kernel
theorem dX7_fewestShips_65 : decode cX7_fewestShips 65 = .ok (.iload 5, 2) := by decide +kernel
theorem dX7_fewestShips_67 : decode cX7_fewestShips 67 = .ok (.invokevirtual 275, 3) := by decide +kernel
theorem dX7_fewestShips_70 : decode cX7_fewestShips 70 = .ok (.aload_n 0, 1) := by decide +kernel
theorem dX7_fewestShips_71 : decode cX7_fewestShips 71 = .ok (.iload_n 1, 1) := by decide +kernel
theorem dX7_fewestShips_72 : decode cX7_fewestShips 72 = .ok (.iconst 1, 1) := by decide +kernel
theorem dX7_fewestShips_73 : decode cX7_fewestShips 73 = .ok (.iadd, 1) := by decide +kernel
theorem dX7_fewestShips_74 : decode cX7_fewestShips 74 = .ok (.iload_n 2, 1) := by decide +kernel
theorem dX7_fewestShips_75 : decode cX7_fewestShips 75 = .ok (.iload 5, 2) := by decide +kernel
theorem dX7_fewestShips_77 : decode cX7_fewestShips 77 = .ok (.iconst 1, 1) := by decide +kernel
theorem dX7_fewestShips_78 : decode cX7_fewestShips 78 = .ok (.iadd, 1) := by decide +kernel
theorem dX7_fewestShips_79 : decode cX7_fewestShips 79 = .ok (.invokestatic 278, 3) := by decide +kernel
theorem dX7_fewestShips_82 : decode cX7_fewestShips 82 = .ok (.iload 4, 2) := by decide +kernel
theorem dX7_fewestShips_84 : decode cX7_fewestShips 84 = .ok (.invokestatic 220, 3) := by decide +kernel
theorem dX7_fewestShips_87 : decode cX7_fewestShips 87 = .ok (.istore 4, 2) := by decide +kernel
theorem dX7_fewestShips_89 : decode cX7_fewestShips 89 = .ok (.iinc 5 1, 3) := by decide +kernel
theorem dX7_fewestShips_92 : decode cX7_fewestShips 92 = .ok (.goto (-52), 3) := by decide +kernel
theorem dX7_fewestShips_95 : decode cX7_fewestShips 95 = .ok (.iload 4, 2) := by decide +kernel
theorem dX7_fewestShips_97 : decode cX7_fewestShips 97 = .ok (.ireturn, 1) := by decide +kernel
theorem dX8_init_0 : decode cX8_init 0 = .ok (.aload_n 0, 1) := by decide +kernel
theorem dX8_init_1 : decode cX8_init 1 = .ok (.invokespecial 1, 3) := by decide +kernel
theorem dX8_init_4 : decode cX8_init 4 = .ok (.aload_n 0, 1) := by decide +kernel
theorem dX8_init_5 : decode cX8_init 5 = .ok (.bipush 6, 2) := by decide +kernel
theorem dX8_init_7 : decode cX8_init 7 = .ok (.newarray .int, 2) := by decide +kernel
theorem dX8_init_9 : decode cX8_init 9 = .ok (.putfield 7, 3) := by decide +kernel
theorem dX8_init_12 : decode cX8_init 12 = .ok (.aload_n 0, 1) := by decide +kernel
theorem dX8_init_13 : decode cX8_init 13 = .ok (.bipush 6, 2) := by decide +kernel
theorem dX8_init_15 : decode cX8_init 15 = .ok (.newarray .int, 2) := by decide +kernel
theorem dX8_init_17 : decode cX8_init 17 = .ok (.putfield 13, 3) := by decide +kernel
theorem dX8_init_20 : decode cX8_init 20 = .ok (.aload_n 0, 1) := by decide +kernel
theorem dX8_init_21 : decode cX8_init 21 = .ok (.bipush 6, 2) := by decide +kernel
theorem dX8_init_23 : decode cX8_init 23 = .ok (.newarray .int, 2) := by decide +kernel
theorem dX8_init_25 : decode cX8_init 25 = .ok (.putfield 16, 3) := by decide +kernel
theorem dX8_init_28 : decode cX8_init 28 = .ok (.aload_n 0, 1) := by decide +kernel
theorem dX8_init_29 : decode cX8_init 29 = .ok (.bipush 6, 2) := by decide +kernel
theorem dX8_init_31 : decode cX8_init 31 = .ok (.newarray .int, 2) := by decide +kernel
theorem dX8_init_33 : decode cX8_init 33 = .ok (.putfield 19, 3) := by decide +kernel
theorem dX8_init_36 : decode cX8_init 36 = .ok (.aload_n 0, 1) := by decide +kernel
theorem dX8_init_37 : decode cX8_init 37 = .ok (.bipush 18, 2) := by decide +kernel
theorem dX8_init_39 : decode cX8_init 39 = .ok (.newarray .int, 2) := by decide +kernel
theorem dX8_init_41 : decode cX8_init 41 = .ok (.putfield 22, 3) := by decide +kernel
theorem dX8_init_44 : decode cX8_init 44 = .ok (.aload_n 0, 1) := by decide +kernel
theorem dX8_init_45 : decode cX8_init 45 = .ok (.bipush 8, 2) := by decide +kernel
theorem dX8_init_47 : decode cX8_init 47 = .ok (.newarray .int, 2) := by decide +kernel
theorem dX8_init_49 : decode cX8_init 49 = .ok (.putfield 25, 3) := by decide +kernel
theorem dX8_init_52 : decode cX8_init 52 = .ok (.aload_n 0, 1) := by decide +kernel
theorem dX8_init_53 : decode cX8_init 53 = .ok (.bipush 8, 2) := by decide +kernel
theorem dX8_init_55 : decode cX8_init 55 = .ok (.newarray .int, 2) := by decide +kernel
theorem dX8_init_57 : decode cX8_init 57 = .ok (.putfield 28, 3) := by decide +kernel
theorem dX8_init_60 : decode cX8_init 60 = .ok (.aload_n 0, 1) := by decide +kernel
theorem dX8_init_61 : decode cX8_init 61 = .ok (.bipush 8, 2) := by decide +kernel
theorem dX8_init_63 : decode cX8_init 63 = .ok (.newarray .int, 2) := by decide +kernel
theorem dX8_init_65 : decode cX8_init 65 = .ok (.putfield 31, 3) := by decide +kernel
theorem dX8_init_68 : decode cX8_init 68 = .ok (.aload_n 0, 1) := by decide +kernel
theorem dX8_init_69 : decode cX8_init 69 = .ok (.bipush 60, 2) := by decide +kernel
theorem dX8_init_71 : decode cX8_init 71 = .ok (.newarray .int, 2) := by decide +kernel
theorem dX8_init_73 : decode cX8_init 73 = .ok (.putfield 34, 3) := by decide +kernel
theorem dX8_init_76 : decode cX8_init 76 = .ok (.aload_n 0, 1) := by decide +kernel
theorem dX8_init_77 : decode cX8_init 77 = .ok (.bipush 60, 2) := by decide +kernel
theorem dX8_init_79 : decode cX8_init 79 = .ok (.newarray .int, 2) := by decide +kernel
theorem dX8_init_81 : decode cX8_init 81 = .ok (.putfield 37, 3) := by decide +kernel
theorem dX8_init_84 : decode cX8_init 84 = .ok (.aload_n 0, 1) := by decide +kernel
theorem dX8_init_85 : decode cX8_init 85 = .ok (.bipush 60, 2) := by decide +kernel
theorem dX8_init_87 : decode cX8_init 87 = .ok (.newarray .int, 2) := by decide +kernel
theorem dX8_init_89 : decode cX8_init 89 = .ok (.putfield 40, 3) := by decide +kernel
theorem dX8_init_92 : decode cX8_init 92 = .ok (.aload_n 0, 1) := by decide +kernel
theorem dX8_init_93 : decode cX8_init 93 = .ok (.bipush 60, 2) := by decide +kernel
theorem dX8_init_95 : decode cX8_init 95 = .ok (.newarray .int, 2) := by decide +kernel
theorem dX8_init_97 : decode cX8_init 97 = .ok (.putfield 43, 3) := by decide +kernel
theorem dX8_init_100 : decode cX8_init 100 = .ok (.aload_n 0, 1) := by decide +kernel
theorem dX8_init_101 : decode cX8_init 101 = .ok (.bipush 35, 2) := by decide +kernel
theorem dX8_init_103 : decode cX8_init 103 = .ok (.newarray .int, 2) := by decide +kernel
theorem dX8_init_105 : decode cX8_init 105 = .ok (.putfield 46, 3) := by decide +kernel
theorem dX8_init_108 : decode cX8_init 108 = .ok (.aload_n 0, 1) := by decide +kernel
theorem dX8_init_109 : decode cX8_init 109 = .ok (.bipush 7, 2) := by decide +kernel
theorem dX8_init_111 : decode cX8_init 111 = .ok (.newarray .long, 2) := by decide +kernel
theorem dX8_init_113 : decode cX8_init 113 = .ok (.putfield 49, 3) := by decide +kernel
theorem dX8_init_116 : decode cX8_init 116 = .ok (.aload_n 0, 1) := by decide +kernel
theorem dX8_init_117 : decode cX8_init 117 = .ok (.bipush 8, 2) := by decide +kernel
theorem dX8_init_119 : decode cX8_init 119 = .ok (.newarray .int, 2) := by decide +kernel
theorem dX8_init_121 : decode cX8_init 121 = .ok (.putfield 53, 3) := by decide +kernel
theorem dX8_init_124 : decode cX8_init 124 = .ok (.aload_n 0, 1) := by decide +kernel
theorem dX8_init_125 : decode cX8_init 125 = .ok (.sipush 256, 3) := by decide +kernel
theorem dX8_init_128 : decode cX8_init 128 = .ok (.newarray .int, 2) := by decide +kernel
theorem dX8_init_130 : decode cX8_init 130 = .ok (.putfield 56, 3) := by decide +kernel
theorem dX8_init_133 : decode cX8_init 133 = .ok (.aload_n 0, 1) := by decide +kernel
theorem dX8_init_134 : decode cX8_init 134 = .ok (.sipush 180, 3) := by decide +kernel
theorem dX8_init_137 : decode cX8_init 137 = .ok (.newarray .int, 2) := by decide +kernel
theorem dX8_init_139 : decode cX8_init 139 = .ok (.putfield 59, 3) := by decide +kernel
theorem dX8_init_142 : decode cX8_init 142 = .ok (.aload_n 0, 1) := by decide +kernel
theorem dX8_init_143 : decode cX8_init 143 = .ok (.iconst 2, 1) := by decide +kernel
theorem dX8_init_144 : decode cX8_init 144 = .ok (.newarray .boolean, 2) := by decide +kernel
theorem dX8_init_146 : decode cX8_init 146 = .ok (.putfield 62, 3) := by decide +kernel
theorem dX8_init_149 : decode cX8_init 149 = .ok (.aload_n 0, 1) := by decide +kernel
theorem dX8_init_150 : decode cX8_init 150 = .ok (.bipush 60, 2) := by decide +kernel
theorem dX8_init_152 : decode cX8_init 152 = .ok (.putfield 66, 3) := by decide +kernel
theorem dX8_init_155 : decode cX8_init 155 = .ok (.aload_n 0, 1) := by decide +kernel
theorem dX8_init_156 : decode cX8_init 156 = .ok (.iconst 5, 1) := by decide +kernel
theorem dX8_init_157 : decode cX8_init 157 = .ok (.putfield 70, 3) := by decide +kernel
theorem dX8_init_160 : decode cX8_init 160 = .ok (.return_, 1) := by decide +kernel
theorem dX8_in_0 : decode cX8_in 0 = .ok (.lload_n 0, 1) := by decide +kernel
theorem dX8_in_1 : decode cX8_in 1 = .ok (.lload_n 2, 1) := by decide +kernel
theorem dX8_in_2 : decode cX8_in 2 = .ok (.lcmp, 1) := by decide +kernel
theorem dX8_in_3 : decode cX8_in 3 = .ok (.ifCond .lt 14, 3) := by decide +kernel
theorem dX8_in_6 : decode cX8_in 6 = .ok (.lload_n 0, 1) := by decide +kernel
theorem dX8_in_7 : decode cX8_in 7 = .ok (.lload 4, 2) := by decide +kernel
theorem dX8_in_9 : decode cX8_in 9 = .ok (.lcmp, 1) := by decide +kernel
theorem dX8_in_10 : decode cX8_in 10 = .ok (.ifCond .gt 7, 3) := by decide +kernel
theorem dX8_in_13 : decode cX8_in 13 = .ok (.iconst 1, 1) := by decide +kernel
theorem dX8_in_14 : decode cX8_in 14 = .ok (.goto 4, 3) := by decide +kernel
theorem dX8_in_17 : decode cX8_in 17 = .ok (.iconst 0, 1) := by decide +kernel
theorem dX8_in_18 : decode cX8_in 18 = .ok (.ireturn, 1) := by decide +kernel
theorem dX8_bitsOf_0 : decode cX8_bitsOf 0 = .ok (.iconst 0, 1) := by decide +kernel
theorem dX8_bitsOf_1 : decode cX8_bitsOf 1 = .ok (.istore_n 1, 1) := by decide +kernel
theorem dX8_bitsOf_2 : decode cX8_bitsOf 2 = .ok (.iload_n 0, 1) := by decide +kernel
theorem dX8_bitsOf_3 : decode cX8_bitsOf 3 = .ok (.istore_n 2, 1) := by decide +kernel
theorem dX8_bitsOf_4 : decode cX8_bitsOf 4 = .ok (.iload_n 2, 1) := by decide +kernel
theorem dX8_bitsOf_5 : decode cX8_bitsOf 5 = .ok (.ifCond .eq 15, 3) := by decide +kernel
theorem dX8_bitsOf_8 : decode cX8_bitsOf 8 = .ok (.iinc 1 1, 3) := by decide +kernel
theorem dX8_bitsOf_11 : decode cX8_bitsOf 11 = .ok (.iload_n 2, 1) := by decide +kernel
theorem dX8_bitsOf_12 : decode cX8_bitsOf 12 = .ok (.iload_n 2, 1) := by decide +kernel
theorem dX8_bitsOf_13 : decode cX8_bitsOf 13 = .ok (.iconst 1, 1) := by decide +kernel
theorem dX8_bitsOf_14 : decode cX8_bitsOf 14 = .ok (.isub, 1) := by decide +kernel
theorem dX8_bitsOf_15 : decode cX8_bitsOf 15 = .ok (.iand, 1) := by decide +kernel
theorem dX8_bitsOf_16 : decode cX8_bitsOf 16 = .ok (.istore_n 2, 1) := by decide +kernel
theorem dX8_bitsOf_17 : decode cX8_bitsOf 17 = .ok (.goto (-13), 3) := by decide +kernel
theorem dX8_bitsOf_20 : decode cX8_bitsOf 20 = .ok (.iload_n 1, 1) := by decide +kernel
theorem dX8_bitsOf_21 : decode cX8_bitsOf 21 = .ok (.ireturn, 1) := by decide +kernel
theorem dX8_isShip_0 : decode cX8_isShip 0 = .ok (.iload_n 1, 1) := by decide +kernel
theorem dX8_isShip_1 : decode cX8_isShip 1 = .ok (.i2l, 1) := by decide +kernel
theorem dX8_isShip_2 : decode cX8_isShip 2 = .ok (.lconst 0, 1) := by decide +kernel
theorem dX8_isShip_3 : decode cX8_isShip 3 = .ok (.ldc2_w 73, 3) := by decide +kernel
theorem dX8_isShip_6 : decode cX8_isShip 6 = .ok (.invokestatic 75, 3) := by decide +kernel
theorem dX8_isShip_9 : decode cX8_isShip 9 = .ok (.ifCond .eq 19, 3) := by decide +kernel
theorem dX8_isShip_12 : decode cX8_isShip 12 = .ok (.aload_n 0, 1) := by decide +kernel
theorem dX8_isShip_13 : decode cX8_isShip 13 = .ok (.getfield 79, 3) := by decide +kernel
theorem dX8_isShip_16 : decode cX8_isShip 16 = .ok (.iload_n 1, 1) := by decide +kernel
theorem dX8_isShip_17 : decode cX8_isShip 17 = .ok (.ishr, 1) := by decide +kernel
theorem dX8_isShip_18 : decode cX8_isShip 18 = .ok (.iconst 1, 1) := by decide +kernel
theorem dX8_isShip_19 : decode cX8_isShip 19 = .ok (.iand, 1) := by decide +kernel
theorem dX8_isShip_20 : decode cX8_isShip 20 = .ok (.iconst 1, 1) := by decide +kernel
theorem dX8_isShip_21 : decode cX8_isShip 21 = .ok (.if_icmp .ne 7, 3) := by decide +kernel
theorem dX8_isShip_24 : decode cX8_isShip 24 = .ok (.iconst 1, 1) := by decide +kernel
theorem dX8_isShip_25 : decode cX8_isShip 25 = .ok (.goto 4, 3) := by decide +kernel
theorem dX8_isShip_28 : decode cX8_isShip 28 = .ok (.iconst 0, 1) := by decide +kernel
theorem dX8_isShip_29 : decode cX8_isShip 29 = .ok (.ireturn, 1) := by decide +kernel
theorem dX8_ship_0 : decode cX8_ship 0 = .ok (.iload_n 1, 1) := by decide +kernel
theorem dX8_ship_1 : decode cX8_ship 1 = .ok (.i2l, 1) := by decide +kernel
theorem dX8_ship_2 : decode cX8_ship 2 = .ok (.lconst 0, 1) := by decide +kernel
theorem dX8_ship_3 : decode cX8_ship 3 = .ok (.ldc2_w 73, 3) := by decide +kernel
theorem dX8_ship_6 : decode cX8_ship 6 = .ok (.invokestatic 75, 3) := by decide +kernel
theorem dX8_ship_9 : decode cX8_ship 9 = .ok (.ifCond .ne 5, 3) := by decide +kernel
theorem dX8_ship_12 : decode cX8_ship 12 = .ok (.iconst (-1), 1) := by decide +kernel
theorem dX8_ship_13 : decode cX8_ship 13 = .ok (.ireturn, 1) := by decide +kernel
theorem dX8_ship_14 : decode cX8_ship 14 = .ok (.iload_n 2, 1) := by decide +kernel
theorem dX8_ship_15 : decode cX8_ship 15 = .ok (.i2l, 1) := by decide +kernel
theorem dX8_ship_16 : decode cX8_ship 16 = .ok (.lconst 0, 1) := by decide +kernel
theorem dX8_ship_17 : decode cX8_ship 17 = .ok (.ldc2_w 82, 3) := by decide +kernel
theorem dX8_ship_20 : decode cX8_ship 20 = .ok (.invokestatic 75, 3) := by decide +kernel
theorem dX8_ship_23 : decode cX8_ship 23 = .ok (.ifCond .eq 28, 3) := by decide +kernel
theorem dX8_ship_26 : decode cX8_ship 26 = .ok (.iload_n 3, 1) := by decide +kernel
theorem dX8_ship_27 : decode cX8_ship 27 = .ok (.i2l, 1) := by decide +kernel
theorem dX8_ship_28 : decode cX8_ship 28 = .ok (.lconst 0, 1) := by decide +kernel
theorem dX8_ship_29 : decode cX8_ship 29 = .ok (.ldc2_w 84, 3) := by decide +kernel
theorem dX8_ship_32 : decode cX8_ship 32 = .ok (.invokestatic 75, 3) := by decide +kernel
theorem dX8_ship_35 : decode cX8_ship 35 = .ok (.ifCond .eq 16, 3) := by decide +kernel
theorem dX8_ship_38 : decode cX8_ship 38 = .ok (.iload 4, 2) := by decide +kernel
theorem dX8_ship_40 : decode cX8_ship 40 = .ok (.i2l, 1) := by decide +kernel
theorem dX8_ship_41 : decode cX8_ship 41 = .ok (.lconst 1, 1) := by decide +kernel
theorem dX8_ship_42 : decode cX8_ship 42 = .ok (.ldc2_w 86, 3) := by decide +kernel
theorem dX8_ship_45 : decode cX8_ship 45 = .ok (.invokestatic 75, 3) := by decide +kernel
theorem dX8_ship_48 : decode cX8_ship 48 = .ok (.ifCond .ne 6, 3) := by decide +kernel
theorem dX8_ship_51 : decode cX8_ship 51 = .ok (.bipush (-2), 2) := by decide +kernel
theorem dX8_ship_53 : decode cX8_ship 53 = .ok (.ireturn, 1) := by decide +kernel
theorem dX8_ship_54 : decode cX8_ship 54 = .ok (.aload_n 0, 1) := by decide +kernel
theorem dX8_ship_55 : decode cX8_ship 55 = .ok (.dup, 1) := by decide +kernel
theorem dX8_ship_56 : decode cX8_ship 56 = .ok (.getfield 79, 3) := by decide +kernel
theorem dX8_ship_59 : decode cX8_ship 59 = .ok (.iconst 1, 1) := by decide +kernel
theorem dX8_ship_60 : decode cX8_ship 60 = .ok (.iload_n 1, 1) := by decide +kernel
theorem dX8_ship_61 : decode cX8_ship 61 = .ok (.ishl, 1) := by decide +kernel
theorem dX8_ship_62 : decode cX8_ship 62 = .ok (.ior, 1) := by decide +kernel
theorem dX8_ship_63 : decode cX8_ship 63 = .ok (.putfield 79, 3) := by decide +kernel
theorem dX8_ship_66 : decode cX8_ship 66 = .ok (.aload_n 0, 1) := by decide +kernel
theorem dX8_ship_67 : decode cX8_ship 67 = .ok (.dup, 1) := by decide +kernel
theorem dX8_ship_68 : decode cX8_ship 68 = .ok (.getfield 88, 3) := by decide +kernel
theorem dX8_ship_71 : decode cX8_ship 71 = .ok (.iconst 1, 1) := by decide +kernel
theorem dX8_ship_72 : decode cX8_ship 72 = .ok (.iload_n 1, 1) := by decide +kernel
theorem dX8_ship_73 : decode cX8_ship 73 = .ok (.ishl, 1) := by decide +kernel
theorem dX8_ship_74 : decode cX8_ship 74 = .ok (.ior, 1) := by decide +kernel
theorem dX8_ship_75 : decode cX8_ship 75 = .ok (.putfield 88, 3) := by decide +kernel
theorem dX8_ship_78 : decode cX8_ship 78 = .ok (.aload_n 0, 1) := by decide +kernel
theorem dX8_ship_79 : decode cX8_ship 79 = .ok (.getfield 7, 3) := by decide +kernel
theorem dX8_ship_82 : decode cX8_ship 82 = .ok (.iload_n 1, 1) := by decide +kernel
theorem dX8_ship_83 : decode cX8_ship 83 = .ok (.iload_n 2, 1) := by decide +kernel
theorem dX8_ship_84 : decode cX8_ship 84 = .ok (.iastore, 1) := by decide +kernel
theorem dX8_ship_85 : decode cX8_ship 85 = .ok (.aload_n 0, 1) := by decide +kernel
theorem dX8_ship_86 : decode cX8_ship 86 = .ok (.getfield 13, 3) := by decide +kernel
theorem dX8_ship_89 : decode cX8_ship 89 = .ok (.iload_n 1, 1) := by decide +kernel
theorem dX8_ship_90 : decode cX8_ship 90 = .ok (.iload_n 3, 1) := by decide +kernel
theorem dX8_ship_91 : decode cX8_ship 91 = .ok (.iastore, 1) := by decide +kernel
theorem dX8_ship_92 : decode cX8_ship 92 = .ok (.aload_n 0, 1) := by decide +kernel
theorem dX8_ship_93 : decode cX8_ship 93 = .ok (.getfield 16, 3) := by decide +kernel
theorem dX8_ship_96 : decode cX8_ship 96 = .ok (.iload_n 1, 1) := by decide +kernel
theorem dX8_ship_97 : decode cX8_ship 97 = .ok (.iload 4, 2) := by decide +kernel
theorem dX8_ship_99 : decode cX8_ship 99 = .ok (.iastore, 1) := by decide +kernel
theorem dX8_ship_100 : decode cX8_ship 100 = .ok (.aload_n 0, 1) := by decide +kernel
theorem dX8_ship_101 : decode cX8_ship 101 = .ok (.getfield 19, 3) := by decide +kernel
theorem dX8_ship_104 : decode cX8_ship 104 = .ok (.iload_n 1, 1) := by decide +kernel
theorem dX8_ship_105 : decode cX8_ship 105 = .ok (.iconst 0, 1) := by decide +kernel
theorem dX8_ship_106 : decode cX8_ship 106 = .ok (.iastore, 1) := by decide +kernel
theorem dX8_ship_107 : decode cX8_ship 107 = .ok (.iconst 0, 1) := by decide +kernel
theorem dX8_ship_108 : decode cX8_ship 108 = .ok (.istore 5, 2) := by decide +kernel
theorem dX8_ship_110 : decode cX8_ship 110 = .ok (.iload 5, 2) := by decide +kernel
theorem dX8_ship_112 : decode cX8_ship 112 = .ok (.iconst 3, 1) := by decide +kernel
theorem dX8_ship_113 : decode cX8_ship 113 = .ok (.if_icmp .ge 21, 3) := by decide +kernel
theorem dX8_ship_116 : decode cX8_ship 116 = .ok (.aload_n 0, 1) := by decide +kernel
theorem dX8_ship_117 : decode cX8_ship 117 = .ok (.getfield 22, 3) := by decide +kernel
theorem dX8_ship_120 : decode cX8_ship 120 = .ok (.iconst 3, 1) := by decide +kernel
theorem dX8_ship_121 : decode cX8_ship 121 = .ok (.iload_n 1, 1) := by decide +kernel
theorem dX8_ship_122 : decode cX8_ship 122 = .ok (.imul, 1) := by decide +kernel
theorem dX8_ship_123 : decode cX8_ship 123 = .ok (.iload 5, 2) := by decide +kernel
theorem dX8_ship_125 : decode cX8_ship 125 = .ok (.iadd, 1) := by decide +kernel
theorem dX8_ship_126 : decode cX8_ship 126 = .ok (.iconst 0, 1) := by decide +kernel
theorem dX8_ship_127 : decode cX8_ship 127 = .ok (.iastore, 1) := by decide +kernel
theorem dX8_ship_128 : decode cX8_ship 128 = .ok (.iinc 5 1, 3) := by decide +kernel
theorem dX8_ship_131 : decode cX8_ship 131 = .ok (.goto (-21), 3) := by decide +kernel
theorem dX8_ship_134 : decode cX8_ship 134 = .ok (.aload_n 0, 1) := by decide +kernel
theorem dX8_ship_135 : decode cX8_ship 135 = .ok (.getfield 79, 3) := by decide +kernel
theorem dX8_ship_138 : decode cX8_ship 138 = .ok (.invokestatic 91, 3) := by decide +kernel
theorem dX8_ship_141 : decode cX8_ship 141 = .ok (.ireturn, 1) := by decide +kernel
theorem dX8_sell_0 : decode cX8_sell 0 = .ok (.aload_n 0, 1) := by decide +kernel
theorem dX8_sell_1 : decode cX8_sell 1 = .ok (.iload_n 1, 1) := by decide +kernel
theorem dX8_sell_2 : decode cX8_sell 2 = .ok (.invokevirtual 95, 3) := by decide +kernel
theorem dX8_sell_5 : decode cX8_sell 5 = .ok (.ifCond .ne 5, 3) := by decide +kernel
theorem dX8_sell_8 : decode cX8_sell 8 = .ok (.iconst (-1), 1) := by decide +kernel
theorem dX8_sell_9 : decode cX8_sell 9 = .ok (.ireturn, 1) := by decide +kernel
theorem dX8_sell_10 : decode cX8_sell 10 = .ok (.aload_n 0, 1) := by decide +kernel
theorem dX8_sell_11 : decode cX8_sell 11 = .ok (.dup, 1) := by decide +kernel
theorem dX8_sell_12 : decode cX8_sell 12 = .ok (.getfield 79, 3) := by decide +kernel
theorem dX8_sell_15 : decode cX8_sell 15 = .ok (.iconst 1, 1) := by decide +kernel
theorem dX8_sell_16 : decode cX8_sell 16 = .ok (.iload_n 1, 1) := by decide +kernel
theorem dX8_sell_17 : decode cX8_sell 17 = .ok (.ishl, 1) := by decide +kernel
theorem dX8_sell_18 : decode cX8_sell 18 = .ok (.iconst (-1), 1) := by decide +kernel
theorem dX8_sell_19 : decode cX8_sell 19 = .ok (.ixor, 1) := by decide +kernel
theorem dX8_sell_20 : decode cX8_sell 20 = .ok (.iand, 1) := by decide +kernel
theorem dX8_sell_21 : decode cX8_sell 21 = .ok (.putfield 79, 3) := by decide +kernel
theorem dX8_sell_24 : decode cX8_sell 24 = .ok (.aload_n 0, 1) := by decide +kernel
theorem dX8_sell_25 : decode cX8_sell 25 = .ok (.dup, 1) := by decide +kernel
theorem dX8_sell_26 : decode cX8_sell 26 = .ok (.getfield 88, 3) := by decide +kernel
theorem dX8_sell_29 : decode cX8_sell 29 = .ok (.iconst 1, 1) := by decide +kernel
theorem dX8_sell_30 : decode cX8_sell 30 = .ok (.iload_n 1, 1) := by decide +kernel
theorem dX8_sell_31 : decode cX8_sell 31 = .ok (.ishl, 1) := by decide +kernel
theorem dX8_sell_32 : decode cX8_sell 32 = .ok (.iconst (-1), 1) := by decide +kernel
theorem dX8_sell_33 : decode cX8_sell 33 = .ok (.ixor, 1) := by decide +kernel
theorem dX8_sell_34 : decode cX8_sell 34 = .ok (.iand, 1) := by decide +kernel
theorem dX8_sell_35 : decode cX8_sell 35 = .ok (.putfield 88, 3) := by decide +kernel
theorem dX8_sell_38 : decode cX8_sell 38 = .ok (.aload_n 0, 1) := by decide +kernel
theorem dX8_sell_39 : decode cX8_sell 39 = .ok (.getfield 79, 3) := by decide +kernel
theorem dX8_sell_42 : decode cX8_sell 42 = .ok (.invokestatic 91, 3) := by decide +kernel
theorem dX8_sell_45 : decode cX8_sell 45 = .ok (.ireturn, 1) := by decide +kernel
theorem dX8_insure_0 : decode cX8_insure 0 = .ok (.aload_n 0, 1) := by decide +kernel
theorem dX8_insure_1 : decode cX8_insure 1 = .ok (.iload_n 1, 1) := by decide +kernel
theorem dX8_insure_2 : decode cX8_insure 2 = .ok (.invokevirtual 95, 3) := by decide +kernel
theorem dX8_insure_5 : decode cX8_insure 5 = .ok (.ifCond .ne 5, 3) := by decide +kernel
theorem dX8_insure_8 : decode cX8_insure 8 = .ok (.iconst (-1), 1) := by decide +kernel
theorem dX8_insure_9 : decode cX8_insure 9 = .ok (.ireturn, 1) := by decide +kernel
theorem dX8_insure_10 : decode cX8_insure 10 = .ok (.iload_n 2, 1) := by decide +kernel
theorem dX8_insure_11 : decode cX8_insure 11 = .ok (.i2l, 1) := by decide +kernel
theorem dX8_insure_12 : decode cX8_insure 12 = .ok (.lconst 0, 1) := by decide +kernel
theorem dX8_insure_13 : decode cX8_insure 13 = .ok (.ldc2_w 99, 3) := by decide +kernel
theorem dX8_insure_16 : decode cX8_insure 16 = .ok (.invokestatic 75, 3) := by decide +kernel
theorem dX8_insure_19 : decode cX8_insure 19 = .ok (.ifCond .eq 15, 3) := by decide +kernel
theorem dX8_insure_22 : decode cX8_insure 22 = .ok (.iload_n 3, 1) := by decide +kernel
theorem dX8_insure_23 : decode cX8_insure 23 = .ok (.i2l, 1) := by decide +kernel
theorem dX8_insure_24 : decode cX8_insure 24 = .ok (.lconst 0, 1) := by decide +kernel
theorem dX8_insure_25 : decode cX8_insure 25 = .ok (.ldc2_w 84, 3) := by decide +kernel
theorem dX8_insure_28 : decode cX8_insure 28 = .ok (.invokestatic 75, 3) := by decide +kernel
theorem dX8_insure_31 : decode cX8_insure 31 = .ok (.ifCond .ne 6, 3) := by decide +kernel
theorem dX8_insure_34 : decode cX8_insure 34 = .ok (.bipush (-2), 2) := by decide +kernel
theorem dX8_insure_36 : decode cX8_insure 36 = .ok (.ireturn, 1) := by decide +kernel
theorem dX8_insure_37 : decode cX8_insure 37 = .ok (.aload_n 0, 1) := by decide +kernel
theorem dX8_insure_38 : decode cX8_insure 38 = .ok (.getfield 22, 3) := by decide +kernel
theorem dX8_insure_41 : decode cX8_insure 41 = .ok (.iconst 3, 1) := by decide +kernel
theorem dX8_insure_42 : decode cX8_insure 42 = .ok (.iload_n 1, 1) := by decide +kernel
theorem dX8_insure_43 : decode cX8_insure 43 = .ok (.imul, 1) := by decide +kernel
theorem dX8_insure_44 : decode cX8_insure 44 = .ok (.iload_n 2, 1) := by decide +kernel
theorem dX8_insure_45 : decode cX8_insure 45 = .ok (.iadd, 1) := by decide +kernel
theorem dX8_insure_46 : decode cX8_insure 46 = .ok (.iaload, 1) := by decide +kernel
theorem dX8_insure_47 : decode cX8_insure 47 = .ok (.istore 4, 2) := by decide +kernel
theorem dX8_insure_49 : decode cX8_insure 49 = .ok (.aload_n 0, 1) := by decide +kernel
theorem dX8_insure_50 : decode cX8_insure 50 = .ok (.getfield 22, 3) := by decide +kernel
theorem dX8_insure_53 : decode cX8_insure 53 = .ok (.iconst 3, 1) := by decide +kernel
theorem dX8_insure_54 : decode cX8_insure 54 = .ok (.iload_n 1, 1) := by decide +kernel
theorem dX8_insure_55 : decode cX8_insure 55 = .ok (.imul, 1) := by decide +kernel
theorem dX8_insure_56 : decode cX8_insure 56 = .ok (.iload_n 2, 1) := by decide +kernel
theorem dX8_insure_57 : decode cX8_insure 57 = .ok (.iadd, 1) := by decide +kernel
theorem dX8_insure_58 : decode cX8_insure 58 = .ok (.iload_n 3, 1) := by decide +kernel
theorem dX8_insure_59 : decode cX8_insure 59 = .ok (.iastore, 1) := by decide +kernel
theorem dX8_insure_60 : decode cX8_insure 60 = .ok (.iload 4, 2) := by decide +kernel
theorem dX8_insure_62 : decode cX8_insure 62 = .ok (.ireturn, 1) := by decide +kernel
theorem dX8_load_0 : decode cX8_load 0 = .ok (.aload_n 0, 1) := by decide +kernel
theorem dX8_load_1 : decode cX8_load 1 = .ok (.iload_n 1, 1) := by decide +kernel
theorem dX8_load_2 : decode cX8_load 2 = .ok (.invokevirtual 95, 3) := by decide +kernel
theorem dX8_load_5 : decode cX8_load 5 = .ok (.ifCond .ne 5, 3) := by decide +kernel
theorem dX8_load_8 : decode cX8_load 8 = .ok (.iconst (-1), 1) := by decide +kernel
theorem dX8_load_9 : decode cX8_load 9 = .ok (.ireturn, 1) := by decide +kernel
theorem dX8_load_10 : decode cX8_load 10 = .ok (.iload_n 2, 1) := by decide +kernel
theorem dX8_load_11 : decode cX8_load 11 = .ok (.i2l, 1) := by decide +kernel
theorem dX8_load_12 : decode cX8_load 12 = .ok (.lconst 0, 1) := by decide +kernel
theorem dX8_load_13 : decode cX8_load 13 = .ok (.ldc2_w 101, 3) := by decide +kernel
theorem dX8_load_16 : decode cX8_load 16 = .ok (.invokestatic 75, 3) := by decide +kernel
theorem dX8_load_19 : decode cX8_load 19 = .ok (.ifCond .ne 6, 3) := by decide +kernel
theorem dX8_load_22 : decode cX8_load 22 = .ok (.bipush (-2), 2) := by decide +kernel
theorem dX8_load_24 : decode cX8_load 24 = .ok (.ireturn, 1) := by decide +kernel
theorem dX8_load_25 : decode cX8_load 25 = .ok (.aload_n 0, 1) := by decide +kernel
theorem dX8_load_26 : decode cX8_load 26 = .ok (.getfield 19, 3) := by decide +kernel
theorem dX8_load_29 : decode cX8_load 29 = .ok (.iload_n 1, 1) := by decide +kernel
theorem dX8_load_30 : decode cX8_load 30 = .ok (.iaload, 1) := by decide +kernel
theorem dX8_load_31 : decode cX8_load 31 = .ok (.istore_n 3, 1) := by decide +kernel
theorem dX8_load_32 : decode cX8_load 32 = .ok (.aload_n 0, 1) := by decide +kernel
theorem dX8_load_33 : decode cX8_load 33 = .ok (.getfield 19, 3) := by decide +kernel
theorem dX8_load_36 : decode cX8_load 36 = .ok (.iload_n 1, 1) := by decide +kernel
theorem dX8_load_37 : decode cX8_load 37 = .ok (.iload_n 2, 1) := by decide +kernel
theorem dX8_load_38 : decode cX8_load 38 = .ok (.iastore, 1) := by decide +kernel
theorem dX8_load_39 : decode cX8_load 39 = .ok (.iload_n 3, 1) := by decide +kernel
theorem dX8_load_40 : decode cX8_load 40 = .ok (.ireturn, 1) := by decide +kernel
theorem dX8_set_0 : decode cX8_set 0 = .ok (.iload_n 1, 1) := by decide +kernel
theorem dX8_set_1 : decode cX8_set 1 = .ok (.i2l, 1) := by decide +kernel
theorem dX8_set_2 : decode cX8_set 2 = .ok (.lconst 0, 1) := by decide +kernel
theorem dX8_set_3 : decode cX8_set 3 = .ok (.ldc2_w 99, 3) := by decide +kernel
theorem dX8_set_6 : decode cX8_set 6 = .ok (.invokestatic 75, 3) := by decide +kernel
theorem dX8_set_9 : decode cX8_set 9 = .ok (.ifCond .eq 34, 3) := by decide +kernel
theorem dX8_set_12 : decode cX8_set 12 = .ok (.iload_n 2, 1) := by decide +kernel
theorem dX8_set_13 : decode cX8_set 13 = .ok (.i2l, 1) := by decide +kernel
theorem dX8_set_14 : decode cX8_set 14 = .ok (.lconst 0, 1) := by decide +kernel
theorem dX8_set_15 : decode cX8_set 15 = .ok (.iload_n 1, 1) := by decide +kernel
theorem dX8_set_16 : decode cX8_set 16 = .ok (.ifCond .ne 9, 3) := by decide +kernel
theorem dX8_set_19 : decode cX8_set 19 = .ok (.ldc2_w 84, 3) := by decide +kernel
theorem dX8_set_22 : decode cX8_set 22 = .ok (.goto 15, 3) := by decide +kernel
theorem dX8_set_25 : decode cX8_set 25 = .ok (.iload_n 1, 1) := by decide +kernel
theorem dX8_set_26 : decode cX8_set 26 = .ok (.iconst 1, 1) := by decide +kernel
theorem dX8_set_27 : decode cX8_set 27 = .ok (.if_icmp .ne 9, 3) := by decide +kernel
theorem dX8_set_30 : decode cX8_set 30 = .ok (.ldc2_w 86, 3) := by decide +kernel
theorem dX8_set_33 : decode cX8_set 33 = .ok (.goto 4, 3) := by decide +kernel
theorem dX8_set_36 : decode cX8_set 36 = .ok (.lconst 1, 1) := by decide +kernel
theorem dX8_set_37 : decode cX8_set 37 = .ok (.invokestatic 75, 3) := by decide +kernel
theorem dX8_set_40 : decode cX8_set 40 = .ok (.ifCond .ne 6, 3) := by decide +kernel
theorem dX8_set_43 : decode cX8_set 43 = .ok (.bipush (-2), 2) := by decide +kernel
theorem dX8_set_45 : decode cX8_set 45 = .ok (.ireturn, 1) := by decide +kernel
theorem dX8_set_46 : decode cX8_set 46 = .ok (.iload_n 1, 1) := by decide +kernel
theorem dX8_set_47 : decode cX8_set 47 = .ok (.ifCond .ne 10, 3) := by decide +kernel
theorem dX8_set_50 : decode cX8_set 50 = .ok (.aload_n 0, 1) := by decide +kernel
theorem dX8_set_51 : decode cX8_set 51 = .ok (.getfield 66, 3) := by decide +kernel
theorem dX8_set_54 : decode cX8_set 54 = .ok (.goto 19, 3) := by decide +kernel
theorem dX8_set_57 : decode cX8_set 57 = .ok (.iload_n 1, 1) := by decide +kernel
theorem dX8_set_58 : decode cX8_set 58 = .ok (.iconst 1, 1) := by decide +kernel
theorem dX8_set_59 : decode cX8_set 59 = .ok (.if_icmp .ne 10, 3) := by decide +kernel
theorem dX8_set_62 : decode cX8_set 62 = .ok (.aload_n 0, 1) := by decide +kernel
theorem dX8_set_63 : decode cX8_set 63 = .ok (.getfield 70, 3) := by decide +kernel
theorem dX8_set_66 : decode cX8_set 66 = .ok (.goto 7, 3) := by decide +kernel
theorem dX8_set_69 : decode cX8_set 69 = .ok (.aload_n 0, 1) := by decide +kernel
theorem dX8_set_70 : decode cX8_set 70 = .ok (.getfield 103, 3) := by decide +kernel
theorem dX8_set_73 : decode cX8_set 73 = .ok (.istore_n 3, 1) := by decide +kernel
theorem dX8_set_74 : decode cX8_set 74 = .ok (.aload_n 0, 1) := by decide +kernel
theorem dX8_set_75 : decode cX8_set 75 = .ok (.iload_n 1, 1) := by decide +kernel
theorem dX8_set_76 : decode cX8_set 76 = .ok (.ifCond .ne 7, 3) := by decide +kernel
theorem dX8_set_79 : decode cX8_set 79 = .ok (.iload_n 2, 1) := by decide +kernel
theorem dX8_set_80 : decode cX8_set 80 = .ok (.goto 7, 3) := by decide +kernel
theorem dX8_set_83 : decode cX8_set 83 = .ok (.aload_n 0, 1) := by decide +kernel
theorem dX8_set_84 : decode cX8_set 84 = .ok (.getfield 66, 3) := by decide +kernel
theorem dX8_set_87 : decode cX8_set 87 = .ok (.putfield 66, 3) := by decide +kernel
theorem dX8_set_90 : decode cX8_set 90 = .ok (.aload_n 0, 1) := by decide +kernel
theorem dX8_set_91 : decode cX8_set 91 = .ok (.iload_n 1, 1) := by decide +kernel
theorem dX8_set_92 : decode cX8_set 92 = .ok (.iconst 1, 1) := by decide +kernel
theorem dX8_set_93 : decode cX8_set 93 = .ok (.if_icmp .ne 7, 3) := by decide +kernel
theorem dX8_set_96 : decode cX8_set 96 = .ok (.iload_n 2, 1) := by decide +kernel
theorem dX8_set_97 : decode cX8_set 97 = .ok (.goto 7, 3) := by decide +kernel
theorem dX8_set_100 : decode cX8_set 100 = .ok (.aload_n 0, 1) := by decide +kernel
theorem dX8_set_101 : decode cX8_set 101 = .ok (.getfield 70, 3) := by decide +kernel
theorem dX8_set_104 : decode cX8_set 104 = .ok (.putfield 70, 3) := by decide +kernel
theorem dX8_set_107 : decode cX8_set 107 = .ok (.aload_n 0, 1) := by decide +kernel
theorem dX8_set_108 : decode cX8_set 108 = .ok (.iload_n 1, 1) := by decide +kernel
theorem dX8_set_109 : decode cX8_set 109 = .ok (.iconst 2, 1) := by decide +kernel
theorem dX8_set_110 : decode cX8_set 110 = .ok (.if_icmp .ne 7, 3) := by decide +kernel
theorem dX8_set_113 : decode cX8_set 113 = .ok (.iload_n 2, 1) := by decide +kernel
theorem dX8_set_114 : decode cX8_set 114 = .ok (.goto 7, 3) := by decide +kernel
theorem dX8_set_117 : decode cX8_set 117 = .ok (.aload_n 0, 1) := by decide +kernel
theorem dX8_set_118 : decode cX8_set 118 = .ok (.getfield 103, 3) := by decide +kernel
theorem dX8_set_121 : decode cX8_set 121 = .ok (.putfield 103, 3) := by decide +kernel
theorem dX8_set_124 : decode cX8_set 124 = .ok (.iload_n 3, 1) := by decide +kernel
theorem dX8_set_125 : decode cX8_set 125 = .ok (.ireturn, 1) := by decide +kernel
theorem dX8_say_0 : decode cX8_say 0 = .ok (.iload_n 1, 1) := by decide +kernel
theorem dX8_say_1 : decode cX8_say 1 = .ok (.i2l, 1) := by decide +kernel
theorem dX8_say_2 : decode cX8_say 2 = .ok (.ldc2_w 106, 3) := by decide +kernel
theorem dX8_say_5 : decode cX8_say 5 = .ok (.ldc2_w 108, 3) := by decide +kernel
theorem dX8_say_8 : decode cX8_say 8 = .ok (.invokestatic 75, 3) := by decide +kernel
theorem dX8_say_11 : decode cX8_say 11 = .ok (.ifCond .ne 6, 3) := by decide +kernel
theorem dX8_say_14 : decode cX8_say 14 = .ok (.bipush (-2), 2) := by decide +kernel
theorem dX8_say_16 : decode cX8_say 16 = .ok (.ireturn, 1) := by decide +kernel
theorem dX8_say_17 : decode cX8_say 17 = .ok (.aload_n 0, 1) := by decide +kernel
theorem dX8_say_18 : decode cX8_say 18 = .ok (.getfield 110, 3) := by decide +kernel
theorem dX8_say_21 : decode cX8_say 21 = .ok (.bipush 60, 2) := by decide +kernel
theorem dX8_say_23 : decode cX8_say 23 = .ok (.if_icmp .ne 6, 3) := by decide +kernel
theorem dX8_say_26 : decode cX8_say 26 = .ok (.bipush (-4), 2) := by decide +kernel
theorem dX8_say_28 : decode cX8_say 28 = .ok (.ireturn, 1) := by decide +kernel
theorem dX8_say_29 : decode cX8_say 29 = .ok (.aload_n 0, 1) := by decide +kernel
theorem dX8_say_30 : decode cX8_say 30 = .ok (.getfield 34, 3) := by decide +kernel
theorem dX8_say_33 : decode cX8_say 33 = .ok (.aload_n 0, 1) := by decide +kernel
theorem dX8_say_34 : decode cX8_say 34 = .ok (.getfield 110, 3) := by decide +kernel
theorem dX8_say_37 : decode cX8_say 37 = .ok (.iload_n 1, 1) := by decide +kernel
theorem dX8_say_38 : decode cX8_say 38 = .ok (.iastore, 1) := by decide +kernel
theorem dX8_say_39 : decode cX8_say 39 = .ok (.aload_n 0, 1) := by decide +kernel
theorem dX8_say_40 : decode cX8_say 40 = .ok (.dup, 1) := by decide +kernel
theorem dX8_say_41 : decode cX8_say 41 = .ok (.getfield 110, 3) := by decide +kernel
theorem dX8_say_44 : decode cX8_say 44 = .ok (.iconst 1, 1) := by decide +kernel
theorem dX8_say_45 : decode cX8_say 45 = .ok (.iadd, 1) := by decide +kernel
theorem dX8_say_46 : decode cX8_say 46 = .ok (.putfield 110, 3) := by decide +kernel
theorem dX8_say_49 : decode cX8_say 49 = .ok (.aload_n 0, 1) := by decide +kernel
theorem dX8_say_50 : decode cX8_say 50 = .ok (.getfield 110, 3) := by decide +kernel
theorem dX8_say_53 : decode cX8_say 53 = .ok (.ireturn, 1) := by decide +kernel
theorem dX8_wipe_0 : decode cX8_wipe 0 = .ok (.aload_n 0, 1) := by decide +kernel
theorem dX8_wipe_1 : decode cX8_wipe 1 = .ok (.getfield 110, 3) := by decide +kernel
theorem dX8_wipe_4 : decode cX8_wipe 4 = .ok (.istore_n 1, 1) := by decide +kernel
theorem dX8_wipe_5 : decode cX8_wipe 5 = .ok (.aload_n 0, 1) := by decide +kernel
theorem dX8_wipe_6 : decode cX8_wipe 6 = .ok (.iconst 0, 1) := by decide +kernel
theorem dX8_wipe_7 : decode cX8_wipe 7 = .ok (.putfield 110, 3) := by decide +kernel
theorem dX8_wipe_10 : decode cX8_wipe 10 = .ok (.iload_n 1, 1) := by decide +kernel
theorem dX8_wipe_11 : decode cX8_wipe 11 = .ok (.ireturn, 1) := by decide +kernel
theorem dX8_close_0 : decode cX8_close 0 = .ok (.aload_n 0, 1) := by decide +kernel
theorem dX8_close_1 : decode cX8_close 1 = .ok (.getfield 37, 3) := by decide +kernel
theorem dX8_close_4 : decode cX8_close 4 = .ok (.aload_n 0, 1) := by decide +kernel
theorem dX8_close_5 : decode cX8_close 5 = .ok (.getfield 113, 3) := by decide +kernel
theorem dX8_close_8 : decode cX8_close 8 = .ok (.iload_n 1, 1) := by decide +kernel
theorem dX8_close_9 : decode cX8_close 9 = .ok (.iastore, 1) := by decide +kernel
theorem dX8_close_10 : decode cX8_close 10 = .ok (.aload_n 0, 1) := by decide +kernel
theorem dX8_close_11 : decode cX8_close 11 = .ok (.getfield 43, 3) := by decide +kernel
theorem dX8_close_14 : decode cX8_close 14 = .ok (.aload_n 0, 1) := by decide +kernel
theorem dX8_close_15 : decode cX8_close 15 = .ok (.getfield 113, 3) := by decide +kernel
theorem dX8_close_18 : decode cX8_close 18 = .ok (.iload_n 2, 1) := by decide +kernel
theorem dX8_close_19 : decode cX8_close 19 = .ok (.iastore, 1) := by decide +kernel
theorem dX8_close_20 : decode cX8_close 20 = .ok (.aload_n 0, 1) := by decide +kernel
theorem dX8_close_21 : decode cX8_close 21 = .ok (.dup, 1) := by decide +kernel
theorem dX8_close_22 : decode cX8_close 22 = .ok (.getfield 113, 3) := by decide +kernel
theorem dX8_close_25 : decode cX8_close 25 = .ok (.iconst 1, 1) := by decide +kernel
theorem dX8_close_26 : decode cX8_close 26 = .ok (.iadd, 1) := by decide +kernel
theorem dX8_close_27 : decode cX8_close 27 = .ok (.putfield 113, 3) := by decide +kernel
theorem dX8_close_30 : decode cX8_close 30 = .ok (.iconst 0, 1) := by decide +kernel
theorem dX8_close_31 : decode cX8_close 31 = .ok (.ireturn, 1) := by decide +kernel
theorem dX8_readOn_0 : decode cX8_readOn 0 = .ok (.iload_n 1, 1) := by decide +kernel
theorem dX8_readOn_1 : decode cX8_readOn 1 = .ok (.ifCond .ne 62, 3) := by decide +kernel
theorem dX8_readOn_4 : decode cX8_readOn 4 = .ok (.iload_n 2, 1) := by decide +kernel
theorem dX8_readOn_5 : decode cX8_readOn 5 = .ok (.i2l, 1) := by decide +kernel
theorem dX8_readOn_6 : decode cX8_readOn 6 = .ok (.ldc2_w 116, 3) := by decide +kernel
theorem dX8_readOn_9 : decode cX8_readOn 9 = .ok (.ldc2_w 118, 3) := by decide +kernel
theorem dX8_readOn_12 : decode cX8_readOn 12 = .ok (.invokestatic 75, 3) := by decide +kernel
theorem dX8_readOn_15 : decode cX8_readOn 15 = .ok (.istore_n 3, 1) := by decide +kernel
theorem dX8_readOn_16 : decode cX8_readOn 16 = .ok (.aload_n 0, 1) := by decide +kernel
theorem dX8_readOn_17 : decode cX8_readOn 17 = .ok (.getfield 40, 3) := by decide +kernel
theorem dX8_readOn_20 : decode cX8_readOn 20 = .ok (.aload_n 0, 1) := by decide +kernel
theorem dX8_readOn_21 : decode cX8_readOn 21 = .ok (.getfield 113, 3) := by decide +kernel
theorem dX8_readOn_24 : decode cX8_readOn 24 = .ok (.iload_n 3, 1) := by decide +kernel
theorem dX8_readOn_25 : decode cX8_readOn 25 = .ok (.ifCond .eq 10, 3) := by decide +kernel
theorem dX8_readOn_28 : decode cX8_readOn 28 = .ok (.iload_n 2, 1) := by decide +kernel
theorem dX8_readOn_29 : decode cX8_readOn 29 = .ok (.bipush 65, 2) := by decide +kernel
theorem dX8_readOn_31 : decode cX8_readOn 31 = .ok (.isub, 1) := by decide +kernel
theorem dX8_readOn_32 : decode cX8_readOn 32 = .ok (.goto 4, 3) := by decide +kernel
theorem dX8_readOn_35 : decode cX8_readOn 35 = .ok (.iconst 0, 1) := by decide +kernel
theorem dX8_readOn_36 : decode cX8_readOn 36 = .ok (.iastore, 1) := by decide +kernel
theorem dX8_readOn_37 : decode cX8_readOn 37 = .ok (.iload_n 3, 1) := by decide +kernel
theorem dX8_readOn_38 : decode cX8_readOn 38 = .ok (.ifCond .eq 7, 3) := by decide +kernel
theorem dX8_readOn_41 : decode cX8_readOn 41 = .ok (.iconst 1, 1) := by decide +kernel
theorem dX8_readOn_42 : decode cX8_readOn 42 = .ok (.goto 20, 3) := by decide +kernel
theorem dX8_readOn_45 : decode cX8_readOn 45 = .ok (.iload_n 2, 1) := by decide +kernel
theorem dX8_readOn_46 : decode cX8_readOn 46 = .ok (.bipush 46, 2) := by decide +kernel
theorem dX8_readOn_48 : decode cX8_readOn 48 = .ok (.if_icmp .ne 12, 3) := by decide +kernel
theorem dX8_readOn_51 : decode cX8_readOn 51 = .ok (.aload_n 0, 1) := by decide +kernel
theorem dX8_readOn_52 : decode cX8_readOn 52 = .ok (.iconst 5, 1) := by decide +kernel
theorem dX8_readOn_53 : decode cX8_readOn 53 = .ok (.iconst 0, 1) := by decide +kernel
theorem dX8_readOn_54 : decode cX8_readOn 54 = .ok (.invokevirtual 120, 3) := by decide +kernel
theorem dX8_readOn_57 : decode cX8_readOn 57 = .ok (.goto 5, 3) := by decide +kernel
theorem dX8_readOn_60 : decode cX8_readOn 60 = .ok (.bipush (-6), 2) := by decide +kernel
theorem dX8_readOn_62 : decode cX8_readOn 62 = .ok (.ireturn, 1) := by decide +kernel
theorem dX8_readOn_63 : decode cX8_readOn 63 = .ok (.iload_n 1, 1) := by decide +kernel
theorem dX8_readOn_64 : decode cX8_readOn 64 = .ok (.iconst 2, 1) := by decide +kernel
theorem dX8_readOn_65 : decode cX8_readOn 65 = .ok (.if_icmp .ne 32, 3) := by decide +kernel
theorem dX8_readOn_68 : decode cX8_readOn 68 = .ok (.iload_n 2, 1) := by decide +kernel
theorem dX8_readOn_69 : decode cX8_readOn 69 = .ok (.i2l, 1) := by decide +kernel
theorem dX8_readOn_70 : decode cX8_readOn 70 = .ok (.ldc2_w 124, 3) := by decide +kernel
theorem dX8_readOn_73 : decode cX8_readOn 73 = .ok (.ldc2_w 126, 3) := by decide +kernel
theorem dX8_readOn_76 : decode cX8_readOn 76 = .ok (.invokestatic 75, 3) := by decide +kernel
theorem dX8_readOn_79 : decode cX8_readOn 79 = .ok (.ifCond .eq 15, 3) := by decide +kernel
theorem dX8_readOn_82 : decode cX8_readOn 82 = .ok (.aload_n 0, 1) := by decide +kernel
theorem dX8_readOn_83 : decode cX8_readOn 83 = .ok (.iconst 0, 1) := by decide +kernel
theorem dX8_readOn_84 : decode cX8_readOn 84 = .ok (.iload_n 2, 1) := by decide +kernel
theorem dX8_readOn_85 : decode cX8_readOn 85 = .ok (.bipush 48, 2) := by decide +kernel
theorem dX8_readOn_87 : decode cX8_readOn 87 = .ok (.isub, 1) := by decide +kernel
theorem dX8_readOn_88 : decode cX8_readOn 88 = .ok (.invokevirtual 120, 3) := by decide +kernel
theorem dX8_readOn_91 : decode cX8_readOn 91 = .ok (.goto 5, 3) := by decide +kernel
theorem dX8_readOn_94 : decode cX8_readOn 94 = .ok (.bipush (-6), 2) := by decide +kernel
theorem dX8_readOn_96 : decode cX8_readOn 96 = .ok (.ireturn, 1) := by decide +kernel
theorem dX8_readOn_97 : decode cX8_readOn 97 = .ok (.iload_n 1, 1) := by decide +kernel
theorem dX8_readOn_98 : decode cX8_readOn 98 = .ok (.iconst 3, 1) := by decide +kernel
theorem dX8_readOn_99 : decode cX8_readOn 99 = .ok (.if_icmp .ne 32, 3) := by decide +kernel
theorem dX8_readOn_102 : decode cX8_readOn 102 = .ok (.iload_n 2, 1) := by decide +kernel
theorem dX8_readOn_103 : decode cX8_readOn 103 = .ok (.i2l, 1) := by decide +kernel
theorem dX8_readOn_104 : decode cX8_readOn 104 = .ok (.ldc2_w 124, 3) := by decide +kernel
theorem dX8_readOn_107 : decode cX8_readOn 107 = .ok (.ldc2_w 128, 3) := by decide +kernel
theorem dX8_readOn_110 : decode cX8_readOn 110 = .ok (.invokestatic 75, 3) := by decide +kernel
theorem dX8_readOn_113 : decode cX8_readOn 113 = .ok (.ifCond .eq 15, 3) := by decide +kernel
theorem dX8_readOn_116 : decode cX8_readOn 116 = .ok (.aload_n 0, 1) := by decide +kernel
theorem dX8_readOn_117 : decode cX8_readOn 117 = .ok (.iconst 1, 1) := by decide +kernel
theorem dX8_readOn_118 : decode cX8_readOn 118 = .ok (.iload_n 2, 1) := by decide +kernel
theorem dX8_readOn_119 : decode cX8_readOn 119 = .ok (.bipush 48, 2) := by decide +kernel
theorem dX8_readOn_121 : decode cX8_readOn 121 = .ok (.isub, 1) := by decide +kernel
theorem dX8_readOn_122 : decode cX8_readOn 122 = .ok (.invokevirtual 120, 3) := by decide +kernel
theorem dX8_readOn_125 : decode cX8_readOn 125 = .ok (.goto 5, 3) := by decide +kernel
theorem dX8_readOn_128 : decode cX8_readOn 128 = .ok (.bipush (-6), 2) := by decide +kernel
theorem dX8_readOn_130 : decode cX8_readOn 130 = .ok (.ireturn, 1) := by decide +kernel
theorem dX8_readOn_131 : decode cX8_readOn 131 = .ok (.iload_n 2, 1) := by decide +kernel
theorem dX8_readOn_132 : decode cX8_readOn 132 = .ok (.lookupswitch 77 #[(105, 52), (108, 54), (112, 56), (115, 63), (120, 70)], 52) := by decide +kernel
theorem dX8_readOn_184 : decode cX8_readOn 184 = .ok (.iconst 2, 1) := by decide +kernel
theorem dX8_readOn_185 : decode cX8_readOn 185 = .ok (.ireturn, 1) := by decide +kernel
theorem dX8_readOn_186 : decode cX8_readOn 186 = .ok (.iconst 3, 1) := by decide +kernel
theorem dX8_readOn_187 : decode cX8_readOn 187 = .ok (.ireturn, 1) := by decide +kernel
theorem dX8_readOn_188 : decode cX8_readOn 188 = .ok (.aload_n 0, 1) := by decide +kernel
theorem dX8_readOn_189 : decode cX8_readOn 189 = .ok (.iconst 2, 1) := by decide +kernel
theorem dX8_readOn_190 : decode cX8_readOn 190 = .ok (.iconst 0, 1) := by decide +kernel
theorem dX8_readOn_191 : decode cX8_readOn 191 = .ok (.invokevirtual 120, 3) := by decide +kernel
theorem dX8_readOn_194 : decode cX8_readOn 194 = .ok (.ireturn, 1) := by decide +kernel
theorem dX8_readOn_195 : decode cX8_readOn 195 = .ok (.aload_n 0, 1) := by decide +kernel
theorem dX8_readOn_196 : decode cX8_readOn 196 = .ok (.iconst 3, 1) := by decide +kernel
theorem dX8_readOn_197 : decode cX8_readOn 197 = .ok (.iconst 0, 1) := by decide +kernel
theorem dX8_readOn_198 : decode cX8_readOn 198 = .ok (.invokevirtual 120, 3) := by decide +kernel
theorem dX8_readOn_201 : decode cX8_readOn 201 = .ok (.ireturn, 1) := by decide +kernel
theorem dX8_readOn_202 : decode cX8_readOn 202 = .ok (.aload_n 0, 1) := by decide +kernel
theorem dX8_readOn_203 : decode cX8_readOn 203 = .ok (.iconst 4, 1) := by decide +kernel
theorem dX8_readOn_204 : decode cX8_readOn 204 = .ok (.iconst 0, 1) := by decide +kernel
theorem dX8_readOn_205 : decode cX8_readOn 205 = .ok (.invokevirtual 120, 3) := by decide +kernel
theorem dX8_readOn_208 : decode cX8_readOn 208 = .ok (.ireturn, 1) := by decide +kernel
theorem dX8_readOn_209 : decode cX8_readOn 209 = .ok (.bipush (-6), 2) := by decide +kernel
theorem dX8_readOn_211 : decode cX8_readOn 211 = .ok (.ireturn, 1) := by decide +kernel
theorem dX8_fault_0 : decode cX8_fault 0 = .ok (.aload_n 0, 1) := by decide +kernel
theorem dX8_fault_1 : decode cX8_fault 1 = .ok (.iconst 0, 1) := by decide +kernel
theorem dX8_fault_2 : decode cX8_fault 2 = .ok (.putfield 113, 3) := by decide +kernel
theorem dX8_fault_5 : decode cX8_fault 5 = .ok (.iconst 0, 1) := by decide +kernel
theorem dX8_fault_6 : decode cX8_fault 6 = .ok (.istore_n 1, 1) := by decide +kernel
theorem dX8_fault_7 : decode cX8_fault 7 = .ok (.iconst 0, 1) := by decide +kernel
theorem dX8_fault_8 : decode cX8_fault 8 = .ok (.istore_n 2, 1) := by decide +kernel
theorem dX8_fault_9 : decode cX8_fault 9 = .ok (.iload_n 2, 1) := by decide +kernel
theorem dX8_fault_10 : decode cX8_fault 10 = .ok (.aload_n 0, 1) := by decide +kernel
theorem dX8_fault_11 : decode cX8_fault 11 = .ok (.getfield 110, 3) := by decide +kernel
theorem dX8_fault_14 : decode cX8_fault 14 = .ok (.if_icmp .ge 27, 3) := by decide +kernel
theorem dX8_fault_17 : decode cX8_fault 17 = .ok (.aload_n 0, 1) := by decide +kernel
theorem dX8_fault_18 : decode cX8_fault 18 = .ok (.iload_n 1, 1) := by decide +kernel
theorem dX8_fault_19 : decode cX8_fault 19 = .ok (.aload_n 0, 1) := by decide +kernel
theorem dX8_fault_20 : decode cX8_fault 20 = .ok (.getfield 34, 3) := by decide +kernel
theorem dX8_fault_23 : decode cX8_fault 23 = .ok (.iload_n 2, 1) := by decide +kernel
theorem dX8_fault_24 : decode cX8_fault 24 = .ok (.iaload, 1) := by decide +kernel
theorem dX8_fault_25 : decode cX8_fault 25 = .ok (.invokevirtual 130, 3) := by decide +kernel
theorem dX8_fault_28 : decode cX8_fault 28 = .ok (.istore_n 1, 1) := by decide +kernel
theorem dX8_fault_29 : decode cX8_fault 29 = .ok (.iload_n 1, 1) := by decide +kernel
theorem dX8_fault_30 : decode cX8_fault 30 = .ok (.ifCond .ge 5, 3) := by decide +kernel
theorem dX8_fault_33 : decode cX8_fault 33 = .ok (.iload_n 2, 1) := by decide +kernel
theorem dX8_fault_34 : decode cX8_fault 34 = .ok (.ireturn, 1) := by decide +kernel
theorem dX8_fault_35 : decode cX8_fault 35 = .ok (.iinc 2 1, 3) := by decide +kernel
theorem dX8_fault_38 : decode cX8_fault 38 = .ok (.goto (-29), 3) := by decide +kernel
theorem dX8_fault_41 : decode cX8_fault 41 = .ok (.iload_n 1, 1) := by decide +kernel
theorem dX8_fault_42 : decode cX8_fault 42 = .ok (.ifCond .ne 8, 3) := by decide +kernel
theorem dX8_fault_45 : decode cX8_fault 45 = .ok (.bipush (-6), 2) := by decide +kernel
theorem dX8_fault_47 : decode cX8_fault 47 = .ok (.goto 7, 3) := by decide +kernel
theorem dX8_fault_50 : decode cX8_fault 50 = .ok (.aload_n 0, 1) := by decide +kernel
theorem dX8_fault_51 : decode cX8_fault 51 = .ok (.getfield 110, 3) := by decide +kernel
theorem dX8_fault_54 : decode cX8_fault 54 = .ok (.ireturn, 1) := by decide +kernel
theorem dX8_riskWith_0 : decode cX8_riskWith 0 = .ok (.aload_n 0, 1) := by decide +kernel
theorem dX8_riskWith_1 : decode cX8_riskWith 1 = .ok (.getfield 7, 3) := by decide +kernel
theorem dX8_riskWith_4 : decode cX8_riskWith 4 = .ok (.iload_n 1, 1) := by decide +kernel
theorem dX8_riskWith_5 : decode cX8_riskWith 5 = .ok (.iaload, 1) := by decide +kernel
theorem dX8_riskWith_6 : decode cX8_riskWith 6 = .ok (.iconst 3, 1) := by decide +kernel
theorem dX8_riskWith_7 : decode cX8_riskWith 7 = .ok (.iload_n 2, 1) := by decide +kernel
theorem dX8_riskWith_8 : decode cX8_riskWith 8 = .ok (.imul, 1) := by decide +kernel
theorem dX8_riskWith_9 : decode cX8_riskWith 9 = .ok (.iadd, 1) := by decide +kernel
theorem dX8_riskWith_10 : decode cX8_riskWith 10 = .ok (.bipush 15, 2) := by decide +kernel
theorem dX8_riskWith_12 : decode cX8_riskWith 12 = .ok (.aload_n 0, 1) := by decide +kernel
theorem dX8_riskWith_13 : decode cX8_riskWith 13 = .ok (.getfield 103, 3) := by decide +kernel
theorem dX8_riskWith_16 : decode cX8_riskWith 16 = .ok (.imul, 1) := by decide +kernel
theorem dX8_riskWith_17 : decode cX8_riskWith 17 = .ok (.iadd, 1) := by decide +kernel
theorem dX8_riskWith_18 : decode cX8_riskWith 18 = .ok (.ireturn, 1) := by decide +kernel
theorem dX8_risk_0 : decode cX8_risk 0 = .ok (.aload_n 0, 1) := by decide +kernel
theorem dX8_risk_1 : decode cX8_risk 1 = .ok (.iload_n 1, 1) := by decide +kernel
theorem dX8_risk_2 : decode cX8_risk 2 = .ok (.aload_n 0, 1) := by decide +kernel
theorem dX8_risk_3 : decode cX8_risk 3 = .ok (.getfield 19, 3) := by decide +kernel
theorem dX8_risk_6 : decode cX8_risk 6 = .ok (.iload_n 1, 1) := by decide +kernel
theorem dX8_risk_7 : decode cX8_risk 7 = .ok (.iaload, 1) := by decide +kernel
theorem dX8_risk_8 : decode cX8_risk 8 = .ok (.invokevirtual 133, 3) := by decide +kernel
theorem dX8_risk_11 : decode cX8_risk 11 = .ok (.ireturn, 1) := by decide +kernel
theorem dX8_insured_0 : decode cX8_insured 0 = .ok (.aload_n 0, 1) := by decide +kernel
theorem dX8_insured_1 : decode cX8_insured 1 = .ok (.getfield 22, 3) := by decide +kernel
theorem dX8_insured_4 : decode cX8_insured 4 = .ok (.iconst 3, 1) := by decide +kernel
theorem dX8_insured_5 : decode cX8_insured 5 = .ok (.iload_n 1, 1) := by decide +kernel
theorem dX8_insured_6 : decode cX8_insured 6 = .ok (.imul, 1) := by decide +kernel
theorem dX8_insured_7 : decode cX8_insured 7 = .ok (.iaload, 1) := by decide +kernel
theorem dX8_insured_8 : decode cX8_insured 8 = .ok (.aload_n 0, 1) := by decide +kernel
theorem dX8_insured_9 : decode cX8_insured 9 = .ok (.getfield 22, 3) := by decide +kernel
theorem dX8_insured_12 : decode cX8_insured 12 = .ok (.iconst 3, 1) := by decide +kernel
theorem dX8_insured_13 : decode cX8_insured 13 = .ok (.iload_n 1, 1) := by decide +kernel
theorem dX8_insured_14 : decode cX8_insured 14 = .ok (.imul, 1) := by decide +kernel
theorem dX8_insured_15 : decode cX8_insured 15 = .ok (.iconst 1, 1) := by decide +kernel
theorem dX8_insured_16 : decode cX8_insured 16 = .ok (.iadd, 1) := by decide +kernel
theorem dX8_insured_17 : decode cX8_insured 17 = .ok (.iaload, 1) := by decide +kernel
theorem dX8_insured_18 : decode cX8_insured 18 = .ok (.iadd, 1) := by decide +kernel
theorem dX8_insured_19 : decode cX8_insured 19 = .ok (.aload_n 0, 1) := by decide +kernel
theorem dX8_insured_20 : decode cX8_insured 20 = .ok (.getfield 22, 3) := by decide +kernel
theorem dX8_insured_23 : decode cX8_insured 23 = .ok (.iconst 3, 1) := by decide +kernel
theorem dX8_insured_24 : decode cX8_insured 24 = .ok (.iload_n 1, 1) := by decide +kernel
theorem dX8_insured_25 : decode cX8_insured 25 = .ok (.imul, 1) := by decide +kernel
theorem dX8_insured_26 : decode cX8_insured 26 = .ok (.iconst 2, 1) := by decide +kernel
theorem dX8_insured_27 : decode cX8_insured 27 = .ok (.iadd, 1) := by decide +kernel
theorem dX8_insured_28 : decode cX8_insured 28 = .ok (.iaload, 1) := by decide +kernel
theorem dX8_insured_29 : decode cX8_insured 29 = .ok (.iadd, 1) := by decide +kernel
theorem dX8_insured_30 : decode cX8_insured 30 = .ok (.ireturn, 1) := by decide +kernel
theorem dX8_whyNot_0 : decode cX8_whyNot 0 = .ok (.iload_n 1, 1) := by decide +kernel
theorem dX8_whyNot_1 : decode cX8_whyNot 1 = .ok (.iconst 5, 1) := by decide +kernel
theorem dX8_whyNot_2 : decode cX8_whyNot 2 = .ok (.if_icmp .ne 19, 3) := by decide +kernel
theorem dX8_whyNot_5 : decode cX8_whyNot 5 = .ok (.aload_n 0, 1) := by decide +kernel
theorem dX8_whyNot_6 : decode cX8_whyNot 6 = .ok (.getfield 136, 3) := by decide +kernel
theorem dX8_whyNot_9 : decode cX8_whyNot 9 = .ok (.bipush 99, 2) := by decide +kernel
theorem dX8_whyNot_11 : decode cX8_whyNot 11 = .ok (.if_icmp .ne 8, 3) := by decide +kernel
theorem dX8_whyNot_14 : decode cX8_whyNot 14 = .ok (.bipush 6, 2) := by decide +kernel
theorem dX8_whyNot_16 : decode cX8_whyNot 16 = .ok (.goto 4, 3) := by decide +kernel
theorem dX8_whyNot_19 : decode cX8_whyNot 19 = .ok (.iconst 0, 1) := by decide +kernel
theorem dX8_whyNot_20 : decode cX8_whyNot 20 = .ok (.ireturn, 1) := by decide +kernel
theorem dX8_whyNot_21 : decode cX8_whyNot 21 = .ok (.aload_n 0, 1) := by decide +kernel
theorem dX8_whyNot_22 : decode cX8_whyNot 22 = .ok (.iload_n 2, 1) := by decide +kernel
theorem dX8_whyNot_23 : decode cX8_whyNot 23 = .ok (.invokevirtual 95, 3) := by decide +kernel
theorem dX8_whyNot_26 : decode cX8_whyNot 26 = .ok (.ifCond .ne 5, 3) := by decide +kernel
theorem dX8_whyNot_29 : decode cX8_whyNot 29 = .ok (.iconst 1, 1) := by decide +kernel
theorem dX8_whyNot_30 : decode cX8_whyNot 30 = .ok (.ireturn, 1) := by decide +kernel
theorem dX8_whyNot_31 : decode cX8_whyNot 31 = .ok (.aload_n 0, 1) := by decide +kernel
theorem dX8_whyNot_32 : decode cX8_whyNot 32 = .ok (.getfield 88, 3) := by decide +kernel
theorem dX8_whyNot_35 : decode cX8_whyNot 35 = .ok (.iload_n 2, 1) := by decide +kernel
theorem dX8_whyNot_36 : decode cX8_whyNot 36 = .ok (.ishr, 1) := by decide +kernel
theorem dX8_whyNot_37 : decode cX8_whyNot 37 = .ok (.iconst 1, 1) := by decide +kernel
theorem dX8_whyNot_38 : decode cX8_whyNot 38 = .ok (.iand, 1) := by decide +kernel
theorem dX8_whyNot_39 : decode cX8_whyNot 39 = .ok (.ifCond .ne 5, 3) := by decide +kernel
theorem dX8_whyNot_42 : decode cX8_whyNot 42 = .ok (.iconst 2, 1) := by decide +kernel
theorem dX8_whyNot_43 : decode cX8_whyNot 43 = .ok (.ireturn, 1) := by decide +kernel
theorem dX8_whyNot_44 : decode cX8_whyNot 44 = .ok (.iload_n 1, 1) := by decide +kernel
theorem dX8_whyNot_45 : decode cX8_whyNot 45 = .ok (.tableswitch 69 0 2 #[27, 51, 67], 27) := by decide +kernel
theorem dX8_whyNot_72 : decode cX8_whyNot 72 = .ok (.aload_n 0, 1) := by decide +kernel
theorem dX8_whyNot_73 : decode cX8_whyNot 73 = .ok (.getfield 22, 3) := by decide +kernel
theorem dX8_whyNot_76 : decode cX8_whyNot 76 = .ok (.iconst 3, 1) := by decide +kernel
theorem dX8_whyNot_77 : decode cX8_whyNot 77 = .ok (.iload_n 2, 1) := by decide +kernel
theorem dX8_whyNot_78 : decode cX8_whyNot 78 = .ok (.imul, 1) := by decide +kernel
theorem dX8_whyNot_79 : decode cX8_whyNot 79 = .ok (.iload_n 3, 1) := by decide +kernel
theorem dX8_whyNot_80 : decode cX8_whyNot 80 = .ok (.iadd, 1) := by decide +kernel
theorem dX8_whyNot_81 : decode cX8_whyNot 81 = .ok (.iaload, 1) := by decide +kernel
theorem dX8_whyNot_82 : decode cX8_whyNot 82 = .ok (.bipush 10, 2) := by decide +kernel
theorem dX8_whyNot_84 : decode cX8_whyNot 84 = .ok (.iadd, 1) := by decide +kernel
theorem dX8_whyNot_85 : decode cX8_whyNot 85 = .ok (.bipush 99, 2) := by decide +kernel
theorem dX8_whyNot_87 : decode cX8_whyNot 87 = .ok (.if_icmp .le 7, 3) := by decide +kernel
theorem dX8_whyNot_90 : decode cX8_whyNot 90 = .ok (.iconst 3, 1) := by decide +kernel
theorem dX8_whyNot_91 : decode cX8_whyNot 91 = .ok (.goto 4, 3) := by decide +kernel
theorem dX8_whyNot_94 : decode cX8_whyNot 94 = .ok (.iconst 0, 1) := by decide +kernel
theorem dX8_whyNot_95 : decode cX8_whyNot 95 = .ok (.ireturn, 1) := by decide +kernel
theorem dX8_whyNot_96 : decode cX8_whyNot 96 = .ok (.aload_n 0, 1) := by decide +kernel
theorem dX8_whyNot_97 : decode cX8_whyNot 97 = .ok (.getfield 19, 3) := by decide +kernel
theorem dX8_whyNot_100 : decode cX8_whyNot 100 = .ok (.iload_n 2, 1) := by decide +kernel
theorem dX8_whyNot_101 : decode cX8_whyNot 101 = .ok (.iaload, 1) := by decide +kernel
theorem dX8_whyNot_102 : decode cX8_whyNot 102 = .ok (.iload_n 3, 1) := by decide +kernel
theorem dX8_whyNot_103 : decode cX8_whyNot 103 = .ok (.if_icmp .ne 7, 3) := by decide +kernel
theorem dX8_whyNot_106 : decode cX8_whyNot 106 = .ok (.iconst 4, 1) := by decide +kernel
theorem dX8_whyNot_107 : decode cX8_whyNot 107 = .ok (.goto 4, 3) := by decide +kernel
theorem dX8_whyNot_110 : decode cX8_whyNot 110 = .ok (.iconst 0, 1) := by decide +kernel
theorem dX8_whyNot_111 : decode cX8_whyNot 111 = .ok (.ireturn, 1) := by decide +kernel
theorem dX8_whyNot_112 : decode cX8_whyNot 112 = .ok (.iconst 0, 1) := by decide +kernel
theorem dX8_whyNot_113 : decode cX8_whyNot 113 = .ok (.ireturn, 1) := by decide +kernel
theorem dX8_whyNot_114 : decode cX8_whyNot 114 = .ok (.aload_n 0, 1) := by decide +kernel
theorem dX8_whyNot_115 : decode cX8_whyNot 115 = .ok (.getfield 19, 3) := by decide +kernel
theorem dX8_whyNot_118 : decode cX8_whyNot 118 = .ok (.iload_n 2, 1) := by decide +kernel
theorem dX8_whyNot_119 : decode cX8_whyNot 119 = .ok (.iaload, 1) := by decide +kernel
theorem dX8_whyNot_120 : decode cX8_whyNot 120 = .ok (.ifCond .ne 7, 3) := by decide +kernel
theorem dX8_whyNot_123 : decode cX8_whyNot 123 = .ok (.iconst 4, 1) := by decide +kernel
theorem dX8_whyNot_124 : decode cX8_whyNot 124 = .ok (.goto 20, 3) := by decide +kernel
theorem dX8_whyNot_127 : decode cX8_whyNot 127 = .ok (.aload_n 0, 1) := by decide +kernel
theorem dX8_whyNot_128 : decode cX8_whyNot 128 = .ok (.iload_n 2, 1) := by decide +kernel
theorem dX8_whyNot_129 : decode cX8_whyNot 129 = .ok (.invokevirtual 139, 3) := by decide +kernel
theorem dX8_whyNot_132 : decode cX8_whyNot 132 = .ok (.aload_n 0, 1) := by decide +kernel
theorem dX8_whyNot_133 : decode cX8_whyNot 133 = .ok (.getfield 66, 3) := by decide +kernel
theorem dX8_whyNot_136 : decode cX8_whyNot 136 = .ok (.if_icmp .le 7, 3) := by decide +kernel
theorem dX8_whyNot_139 : decode cX8_whyNot 139 = .ok (.iconst 5, 1) := by decide +kernel
theorem dX8_whyNot_140 : decode cX8_whyNot 140 = .ok (.goto 4, 3) := by decide +kernel
theorem dX8_whyNot_143 : decode cX8_whyNot 143 = .ok (.iconst 0, 1) := by decide +kernel
theorem dX8_whyNot_144 : decode cX8_whyNot 144 = .ok (.ireturn, 1) := by decide +kernel
theorem dX8_sail_0 : decode cX8_sail 0 = .ok (.aload_n 0, 1) := by decide +kernel
theorem dX8_sail_1 : decode cX8_sail 1 = .ok (.dup, 1) := by decide +kernel
theorem dX8_sail_2 : decode cX8_sail 2 = .ok (.getfield 142, 3) := by decide +kernel
theorem dX8_sail_5 : decode cX8_sail 5 = .ok (.iconst 1, 1) := by decide +kernel
theorem dX8_sail_6 : decode cX8_sail 6 = .ok (.iadd, 1) := by decide +kernel
theorem dX8_sail_7 : decode cX8_sail 7 = .ok (.putfield 142, 3) := by decide +kernel
theorem dX8_sail_10 : decode cX8_sail 10 = .ok (.aload_n 0, 1) := by decide +kernel
theorem dX8_sail_11 : decode cX8_sail 11 = .ok (.dup, 1) := by decide +kernel
theorem dX8_sail_12 : decode cX8_sail 12 = .ok (.getfield 145, 3) := by decide +kernel
theorem dX8_sail_15 : decode cX8_sail 15 = .ok (.aload_n 0, 1) := by decide +kernel
theorem dX8_sail_16 : decode cX8_sail 16 = .ok (.getfield 19, 3) := by decide +kernel
theorem dX8_sail_19 : decode cX8_sail 19 = .ok (.iload_n 1, 1) := by decide +kernel
theorem dX8_sail_20 : decode cX8_sail 20 = .ok (.iaload, 1) := by decide +kernel
theorem dX8_sail_21 : decode cX8_sail 21 = .ok (.aload_n 0, 1) := by decide +kernel
theorem dX8_sail_22 : decode cX8_sail 22 = .ok (.getfield 70, 3) := by decide +kernel
theorem dX8_sail_25 : decode cX8_sail 25 = .ok (.imul, 1) := by decide +kernel
theorem dX8_sail_26 : decode cX8_sail 26 = .ok (.iadd, 1) := by decide +kernel
theorem dX8_sail_27 : decode cX8_sail 27 = .ok (.putfield 145, 3) := by decide +kernel
theorem dX8_sail_30 : decode cX8_sail 30 = .ok (.aload_n 0, 1) := by decide +kernel
theorem dX8_sail_31 : decode cX8_sail 31 = .ok (.getfield 7, 3) := by decide +kernel
theorem dX8_sail_34 : decode cX8_sail 34 = .ok (.iload_n 1, 1) := by decide +kernel
theorem dX8_sail_35 : decode cX8_sail 35 = .ok (.aload_n 0, 1) := by decide +kernel
theorem dX8_sail_36 : decode cX8_sail 36 = .ok (.getfield 7, 3) := by decide +kernel
theorem dX8_sail_39 : decode cX8_sail 39 = .ok (.iload_n 1, 1) := by decide +kernel
theorem dX8_sail_40 : decode cX8_sail 40 = .ok (.iaload, 1) := by decide +kernel
theorem dX8_sail_41 : decode cX8_sail 41 = .ok (.bipush 40, 2) := by decide +kernel
theorem dX8_sail_43 : decode cX8_sail 43 = .ok (.if_icmp .ge 14, 3) := by decide +kernel
theorem dX8_sail_46 : decode cX8_sail 46 = .ok (.aload_n 0, 1) := by decide +kernel
theorem dX8_sail_47 : decode cX8_sail 47 = .ok (.getfield 7, 3) := by decide +kernel
theorem dX8_sail_50 : decode cX8_sail 50 = .ok (.iload_n 1, 1) := by decide +kernel
theorem dX8_sail_51 : decode cX8_sail 51 = .ok (.iaload, 1) := by decide +kernel
theorem dX8_sail_52 : decode cX8_sail 52 = .ok (.iconst 1, 1) := by decide +kernel
theorem dX8_sail_53 : decode cX8_sail 53 = .ok (.iadd, 1) := by decide +kernel
theorem dX8_sail_54 : decode cX8_sail 54 = .ok (.goto 5, 3) := by decide +kernel
theorem dX8_sail_57 : decode cX8_sail 57 = .ok (.bipush 40, 2) := by decide +kernel
theorem dX8_sail_59 : decode cX8_sail 59 = .ok (.iastore, 1) := by decide +kernel
theorem dX8_sail_60 : decode cX8_sail 60 = .ok (.aload_n 0, 1) := by decide +kernel
theorem dX8_sail_61 : decode cX8_sail 61 = .ok (.getfield 19, 3) := by decide +kernel
theorem dX8_sail_64 : decode cX8_sail 64 = .ok (.iload_n 1, 1) := by decide +kernel
theorem dX8_sail_65 : decode cX8_sail 65 = .ok (.iconst 0, 1) := by decide +kernel
theorem dX8_sail_66 : decode cX8_sail 66 = .ok (.iastore, 1) := by decide +kernel
theorem dX8_sail_67 : decode cX8_sail 67 = .ok (.return_, 1) := by decide +kernel
theorem dX8_sink_0 : decode cX8_sink 0 = .ok (.aload_n 0, 1) := by decide +kernel
theorem dX8_sink_1 : decode cX8_sink 1 = .ok (.dup, 1) := by decide +kernel
theorem dX8_sink_2 : decode cX8_sink 2 = .ok (.getfield 142, 3) := by decide +kernel
theorem dX8_sink_5 : decode cX8_sink 5 = .ok (.iconst 1, 1) := by decide +kernel
theorem dX8_sink_6 : decode cX8_sink 6 = .ok (.iadd, 1) := by decide +kernel
theorem dX8_sink_7 : decode cX8_sink 7 = .ok (.putfield 142, 3) := by decide +kernel
theorem dX8_sink_10 : decode cX8_sink 10 = .ok (.aload_n 0, 1) := by decide +kernel
theorem dX8_sink_11 : decode cX8_sink 11 = .ok (.dup, 1) := by decide +kernel
theorem dX8_sink_12 : decode cX8_sink 12 = .ok (.getfield 145, 3) := by decide +kernel
theorem dX8_sink_15 : decode cX8_sink 15 = .ok (.aload_n 0, 1) := by decide +kernel
theorem dX8_sink_16 : decode cX8_sink 16 = .ok (.iload_n 1, 1) := by decide +kernel
theorem dX8_sink_17 : decode cX8_sink 17 = .ok (.invokevirtual 148, 3) := by decide +kernel
theorem dX8_sink_20 : decode cX8_sink 20 = .ok (.aload_n 0, 1) := by decide +kernel
theorem dX8_sink_21 : decode cX8_sink 21 = .ok (.getfield 13, 3) := by decide +kernel
theorem dX8_sink_24 : decode cX8_sink 24 = .ok (.iload_n 1, 1) := by decide +kernel
theorem dX8_sink_25 : decode cX8_sink 25 = .ok (.iaload, 1) := by decide +kernel
theorem dX8_sink_26 : decode cX8_sink 26 = .ok (.isub, 1) := by decide +kernel
theorem dX8_sink_27 : decode cX8_sink 27 = .ok (.iadd, 1) := by decide +kernel
theorem dX8_sink_28 : decode cX8_sink 28 = .ok (.putfield 145, 3) := by decide +kernel
theorem dX8_sink_31 : decode cX8_sink 31 = .ok (.aload_n 0, 1) := by decide +kernel
theorem dX8_sink_32 : decode cX8_sink 32 = .ok (.dup, 1) := by decide +kernel
theorem dX8_sink_33 : decode cX8_sink 33 = .ok (.getfield 151, 3) := by decide +kernel
theorem dX8_sink_36 : decode cX8_sink 36 = .ok (.aload_n 0, 1) := by decide +kernel
theorem dX8_sink_37 : decode cX8_sink 37 = .ok (.getfield 16, 3) := by decide +kernel
theorem dX8_sink_40 : decode cX8_sink 40 = .ok (.iload_n 1, 1) := by decide +kernel
theorem dX8_sink_41 : decode cX8_sink 41 = .ok (.iaload, 1) := by decide +kernel
theorem dX8_sink_42 : decode cX8_sink 42 = .ok (.iadd, 1) := by decide +kernel
theorem dX8_sink_43 : decode cX8_sink 43 = .ok (.putfield 151, 3) := by decide +kernel
theorem dX8_sink_46 : decode cX8_sink 46 = .ok (.aload_n 0, 1) := by decide +kernel
theorem dX8_sink_47 : decode cX8_sink 47 = .ok (.dup, 1) := by decide +kernel
theorem dX8_sink_48 : decode cX8_sink 48 = .ok (.getfield 88, 3) := by decide +kernel
theorem dX8_sink_51 : decode cX8_sink 51 = .ok (.iconst 1, 1) := by decide +kernel
theorem dX8_sink_52 : decode cX8_sink 52 = .ok (.iload_n 1, 1) := by decide +kernel
theorem dX8_sink_53 : decode cX8_sink 53 = .ok (.ishl, 1) := by decide +kernel
theorem dX8_sink_54 : decode cX8_sink 54 = .ok (.iconst (-1), 1) := by decide +kernel
theorem dX8_sink_55 : decode cX8_sink 55 = .ok (.ixor, 1) := by decide +kernel
theorem dX8_sink_56 : decode cX8_sink 56 = .ok (.iand, 1) := by decide +kernel
theorem dX8_sink_57 : decode cX8_sink 57 = .ok (.putfield 88, 3) := by decide +kernel
theorem dX8_sink_60 : decode cX8_sink 60 = .ok (.aload_n 0, 1) := by decide +kernel
theorem dX8_sink_61 : decode cX8_sink 61 = .ok (.aload_n 0, 1) := by decide +kernel
theorem dX8_sink_62 : decode cX8_sink 62 = .ok (.getfield 154, 3) := by decide +kernel
theorem dX8_sink_65 : decode cX8_sink 65 = .ok (.ifCond .ne 10, 3) := by decide +kernel
theorem dX8_sink_68 : decode cX8_sink 68 = .ok (.aload_n 0, 1) := by decide +kernel
theorem dX8_sink_69 : decode cX8_sink 69 = .ok (.getfield 157, 3) := by decide +kernel
theorem dX8_sink_72 : decode cX8_sink 72 = .ok (.goto 7, 3) := by decide +kernel
theorem dX8_sink_75 : decode cX8_sink 75 = .ok (.aload_n 0, 1) := by decide +kernel
theorem dX8_sink_76 : decode cX8_sink 76 = .ok (.getfield 160, 3) := by decide +kernel
theorem dX8_sink_79 : decode cX8_sink 79 = .ok (.putfield 160, 3) := by decide +kernel
theorem dX8_sink_82 : decode cX8_sink 82 = .ok (.aload_n 0, 1) := by decide +kernel
theorem dX8_sink_83 : decode cX8_sink 83 = .ok (.aload_n 0, 1) := by decide +kernel
theorem dX8_sink_84 : decode cX8_sink 84 = .ok (.getfield 154, 3) := by decide +kernel
theorem dX8_sink_87 : decode cX8_sink 87 = .ok (.ifCond .ne 7, 3) := by decide +kernel
theorem dX8_sink_90 : decode cX8_sink 90 = .ok (.iload_n 1, 1) := by decide +kernel
theorem dX8_sink_91 : decode cX8_sink 91 = .ok (.goto 7, 3) := by decide +kernel
theorem dX8_sink_94 : decode cX8_sink 94 = .ok (.aload_n 0, 1) := by decide +kernel
theorem dX8_sink_95 : decode cX8_sink 95 = .ok (.getfield 163, 3) := by decide +kernel
theorem dX8_sink_98 : decode cX8_sink 98 = .ok (.putfield 163, 3) := by decide +kernel
theorem dX8_sink_101 : decode cX8_sink 101 = .ok (.aload_n 0, 1) := by decide +kernel
theorem dX8_sink_102 : decode cX8_sink 102 = .ok (.dup, 1) := by decide +kernel
theorem dX8_sink_103 : decode cX8_sink 103 = .ok (.getfield 154, 3) := by decide +kernel
theorem dX8_sink_106 : decode cX8_sink 106 = .ok (.iconst 1, 1) := by decide +kernel
theorem dX8_sink_107 : decode cX8_sink 107 = .ok (.iadd, 1) := by decide +kernel
theorem dX8_sink_108 : decode cX8_sink 108 = .ok (.putfield 154, 3) := by decide +kernel
theorem dX8_sink_111 : decode cX8_sink 111 = .ok (.return_, 1) := by decide +kernel
theorem dX8_happen_0 : decode cX8_happen 0 = .ok (.iload_n 1, 1) := by decide +kernel
theorem dX8_happen_1 : decode cX8_happen 1 = .ok (.tableswitch 92 0 4 #[35, 53, 63, 76, 84], 35) := by decide +kernel
theorem dX8_happen_36 : decode cX8_happen 36 = .ok (.aload_n 0, 1) := by decide +kernel
theorem dX8_happen_37 : decode cX8_happen 37 = .ok (.getfield 22, 3) := by decide +kernel
theorem dX8_happen_40 : decode cX8_happen 40 = .ok (.iconst 3, 1) := by decide +kernel
theorem dX8_happen_41 : decode cX8_happen 41 = .ok (.iload_n 2, 1) := by decide +kernel
theorem dX8_happen_42 : decode cX8_happen 42 = .ok (.imul, 1) := by decide +kernel
theorem dX8_happen_43 : decode cX8_happen 43 = .ok (.iload_n 3, 1) := by decide +kernel
theorem dX8_happen_44 : decode cX8_happen 44 = .ok (.iadd, 1) := by decide +kernel
theorem dX8_happen_45 : decode cX8_happen 45 = .ok (.dup2, 1) := by decide +kernel
theorem dX8_happen_46 : decode cX8_happen 46 = .ok (.iaload, 1) := by decide +kernel
theorem dX8_happen_47 : decode cX8_happen 47 = .ok (.bipush 10, 2) := by decide +kernel
theorem dX8_happen_49 : decode cX8_happen 49 = .ok (.iadd, 1) := by decide +kernel
theorem dX8_happen_50 : decode cX8_happen 50 = .ok (.iastore, 1) := by decide +kernel
theorem dX8_happen_51 : decode cX8_happen 51 = .ok (.goto 62, 3) := by decide +kernel
theorem dX8_happen_54 : decode cX8_happen 54 = .ok (.aload_n 0, 1) := by decide +kernel
theorem dX8_happen_55 : decode cX8_happen 55 = .ok (.getfield 19, 3) := by decide +kernel
theorem dX8_happen_58 : decode cX8_happen 58 = .ok (.iload_n 2, 1) := by decide +kernel
theorem dX8_happen_59 : decode cX8_happen 59 = .ok (.iload_n 3, 1) := by decide +kernel
theorem dX8_happen_60 : decode cX8_happen 60 = .ok (.iastore, 1) := by decide +kernel
theorem dX8_happen_61 : decode cX8_happen 61 = .ok (.goto 52, 3) := by decide +kernel
theorem dX8_happen_64 : decode cX8_happen 64 = .ok (.aload_n 0, 1) := by decide +kernel
theorem dX8_happen_65 : decode cX8_happen 65 = .ok (.getfield 7, 3) := by decide +kernel
theorem dX8_happen_68 : decode cX8_happen 68 = .ok (.iload_n 2, 1) := by decide +kernel
theorem dX8_happen_69 : decode cX8_happen 69 = .ok (.dup2, 1) := by decide +kernel
theorem dX8_happen_70 : decode cX8_happen 70 = .ok (.iaload, 1) := by decide +kernel
theorem dX8_happen_71 : decode cX8_happen 71 = .ok (.iconst 2, 1) := by decide +kernel
theorem dX8_happen_72 : decode cX8_happen 72 = .ok (.idiv, 1) := by decide +kernel
theorem dX8_happen_73 : decode cX8_happen 73 = .ok (.iastore, 1) := by decide +kernel
theorem dX8_happen_74 : decode cX8_happen 74 = .ok (.goto 39, 3) := by decide +kernel
theorem dX8_happen_77 : decode cX8_happen 77 = .ok (.aload_n 0, 1) := by decide +kernel
theorem dX8_happen_78 : decode cX8_happen 78 = .ok (.iload_n 2, 1) := by decide +kernel
theorem dX8_happen_79 : decode cX8_happen 79 = .ok (.invokevirtual 166, 3) := by decide +kernel
theorem dX8_happen_82 : decode cX8_happen 82 = .ok (.goto 31, 3) := by decide +kernel
theorem dX8_happen_85 : decode cX8_happen 85 = .ok (.aload_n 0, 1) := by decide +kernel
theorem dX8_happen_86 : decode cX8_happen 86 = .ok (.iload_n 2, 1) := by decide +kernel
theorem dX8_happen_87 : decode cX8_happen 87 = .ok (.invokevirtual 170, 3) := by decide +kernel
theorem dX8_happen_90 : decode cX8_happen 90 = .ok (.goto 23, 3) := by decide +kernel
theorem dX8_happen_93 : decode cX8_happen 93 = .ok (.aload_n 0, 1) := by decide +kernel
theorem dX8_happen_94 : decode cX8_happen 94 = .ok (.iconst 1, 1) := by decide +kernel
theorem dX8_happen_95 : decode cX8_happen 95 = .ok (.aload_n 0, 1) := by decide +kernel
theorem dX8_happen_96 : decode cX8_happen 96 = .ok (.getfield 103, 3) := by decide +kernel
theorem dX8_happen_99 : decode cX8_happen 99 = .ok (.isub, 1) := by decide +kernel
theorem dX8_happen_100 : decode cX8_happen 100 = .ok (.putfield 103, 3) := by decide +kernel
theorem dX8_happen_103 : decode cX8_happen 103 = .ok (.aload_n 0, 1) := by decide +kernel
theorem dX8_happen_104 : decode cX8_happen 104 = .ok (.dup, 1) := by decide +kernel
theorem dX8_happen_105 : decode cX8_happen 105 = .ok (.getfield 136, 3) := by decide +kernel
theorem dX8_happen_108 : decode cX8_happen 108 = .ok (.iconst 1, 1) := by decide +kernel
theorem dX8_happen_109 : decode cX8_happen 109 = .ok (.iadd, 1) := by decide +kernel
theorem dX8_happen_110 : decode cX8_happen 110 = .ok (.putfield 136, 3) := by decide +kernel
theorem dX8_happen_113 : decode cX8_happen 113 = .ok (.return_, 1) := by decide +kernel
theorem dX8_keepNow_0 : decode cX8_keepNow 0 = .ok (.iconst 0, 1) := by decide +kernel
theorem dX8_keepNow_1 : decode cX8_keepNow 1 = .ok (.istore_n 1, 1) := by decide +kernel
theorem dX8_keepNow_2 : decode cX8_keepNow 2 = .ok (.iload_n 1, 1) := by decide +kernel
theorem dX8_keepNow_3 : decode cX8_keepNow 3 = .ok (.bipush 6, 2) := by decide +kernel
theorem dX8_keepNow_5 : decode cX8_keepNow 5 = .ok (.if_icmp .ge 36, 3) := by decide +kernel
theorem dX8_keepNow_8 : decode cX8_keepNow 8 = .ok (.aload_n 0, 1) := by decide +kernel
theorem dX8_keepNow_9 : decode cX8_keepNow 9 = .ok (.getfield 46, 3) := by decide +kernel
theorem dX8_keepNow_12 : decode cX8_keepNow 12 = .ok (.iload_n 1, 1) := by decide +kernel
theorem dX8_keepNow_13 : decode cX8_keepNow 13 = .ok (.aload_n 0, 1) := by decide +kernel
theorem dX8_keepNow_14 : decode cX8_keepNow 14 = .ok (.getfield 7, 3) := by decide +kernel
theorem dX8_keepNow_17 : decode cX8_keepNow 17 = .ok (.iload_n 1, 1) := by decide +kernel
theorem dX8_keepNow_18 : decode cX8_keepNow 18 = .ok (.iaload, 1) := by decide +kernel
theorem dX8_keepNow_19 : decode cX8_keepNow 19 = .ok (.iastore, 1) := by decide +kernel
theorem dX8_keepNow_20 : decode cX8_keepNow 20 = .ok (.aload_n 0, 1) := by decide +kernel
theorem dX8_keepNow_21 : decode cX8_keepNow 21 = .ok (.getfield 46, 3) := by decide +kernel
theorem dX8_keepNow_24 : decode cX8_keepNow 24 = .ok (.bipush 6, 2) := by decide +kernel
theorem dX8_keepNow_26 : decode cX8_keepNow 26 = .ok (.iload_n 1, 1) := by decide +kernel
theorem dX8_keepNow_27 : decode cX8_keepNow 27 = .ok (.iadd, 1) := by decide +kernel
theorem dX8_keepNow_28 : decode cX8_keepNow 28 = .ok (.aload_n 0, 1) := by decide +kernel
theorem dX8_keepNow_29 : decode cX8_keepNow 29 = .ok (.getfield 19, 3) := by decide +kernel
theorem dX8_keepNow_32 : decode cX8_keepNow 32 = .ok (.iload_n 1, 1) := by decide +kernel
theorem dX8_keepNow_33 : decode cX8_keepNow 33 = .ok (.iaload, 1) := by decide +kernel
theorem dX8_keepNow_34 : decode cX8_keepNow 34 = .ok (.iastore, 1) := by decide +kernel
theorem dX8_keepNow_35 : decode cX8_keepNow 35 = .ok (.iinc 1 1, 3) := by decide +kernel
theorem dX8_keepNow_38 : decode cX8_keepNow 38 = .ok (.goto (-36), 3) := by decide +kernel
theorem dX8_keepNow_41 : decode cX8_keepNow 41 = .ok (.iconst 0, 1) := by decide +kernel
theorem dX8_keepNow_42 : decode cX8_keepNow 42 = .ok (.istore_n 1, 1) := by decide +kernel
theorem dX8_keepNow_43 : decode cX8_keepNow 43 = .ok (.iload_n 1, 1) := by decide +kernel
theorem dX8_keepNow_44 : decode cX8_keepNow 44 = .ok (.bipush 18, 2) := by decide +kernel
theorem dX8_keepNow_46 : decode cX8_keepNow 46 = .ok (.if_icmp .ge 24, 3) := by decide +kernel
theorem dX8_keepNow_49 : decode cX8_keepNow 49 = .ok (.aload_n 0, 1) := by decide +kernel
theorem dX8_keepNow_50 : decode cX8_keepNow 50 = .ok (.getfield 46, 3) := by decide +kernel
theorem dX8_keepNow_53 : decode cX8_keepNow 53 = .ok (.bipush 12, 2) := by decide +kernel
theorem dX8_keepNow_55 : decode cX8_keepNow 55 = .ok (.iload_n 1, 1) := by decide +kernel
theorem dX8_keepNow_56 : decode cX8_keepNow 56 = .ok (.iadd, 1) := by decide +kernel
theorem dX8_keepNow_57 : decode cX8_keepNow 57 = .ok (.aload_n 0, 1) := by decide +kernel
theorem dX8_keepNow_58 : decode cX8_keepNow 58 = .ok (.getfield 22, 3) := by decide +kernel
theorem dX8_keepNow_61 : decode cX8_keepNow 61 = .ok (.iload_n 1, 1) := by decide +kernel
theorem dX8_keepNow_62 : decode cX8_keepNow 62 = .ok (.iaload, 1) := by decide +kernel
theorem dX8_keepNow_63 : decode cX8_keepNow 63 = .ok (.iastore, 1) := by decide +kernel
theorem dX8_keepNow_64 : decode cX8_keepNow 64 = .ok (.iinc 1 1, 3) := by decide +kernel
theorem dX8_keepNow_67 : decode cX8_keepNow 67 = .ok (.goto (-24), 3) := by decide +kernel
theorem dX8_keepNow_70 : decode cX8_keepNow 70 = .ok (.aload_n 0, 1) := by decide +kernel
theorem dX8_keepNow_71 : decode cX8_keepNow 71 = .ok (.getfield 46, 3) := by decide +kernel
theorem dX8_keepNow_74 : decode cX8_keepNow 74 = .ok (.bipush 30, 2) := by decide +kernel
theorem dX8_keepNow_76 : decode cX8_keepNow 76 = .ok (.aload_n 0, 1) := by decide +kernel
theorem dX8_keepNow_77 : decode cX8_keepNow 77 = .ok (.getfield 88, 3) := by decide +kernel
theorem dX8_keepNow_80 : decode cX8_keepNow 80 = .ok (.iastore, 1) := by decide +kernel
theorem dX8_keepNow_81 : decode cX8_keepNow 81 = .ok (.aload_n 0, 1) := by decide +kernel
theorem dX8_keepNow_82 : decode cX8_keepNow 82 = .ok (.getfield 46, 3) := by decide +kernel
theorem dX8_keepNow_85 : decode cX8_keepNow 85 = .ok (.bipush 31, 2) := by decide +kernel
theorem dX8_keepNow_87 : decode cX8_keepNow 87 = .ok (.aload_n 0, 1) := by decide +kernel
theorem dX8_keepNow_88 : decode cX8_keepNow 88 = .ok (.getfield 103, 3) := by decide +kernel
theorem dX8_keepNow_91 : decode cX8_keepNow 91 = .ok (.iastore, 1) := by decide +kernel
theorem dX8_keepNow_92 : decode cX8_keepNow 92 = .ok (.aload_n 0, 1) := by decide +kernel
theorem dX8_keepNow_93 : decode cX8_keepNow 93 = .ok (.getfield 46, 3) := by decide +kernel
theorem dX8_keepNow_96 : decode cX8_keepNow 96 = .ok (.bipush 32, 2) := by decide +kernel
theorem dX8_keepNow_98 : decode cX8_keepNow 98 = .ok (.aload_n 0, 1) := by decide +kernel
theorem dX8_keepNow_99 : decode cX8_keepNow 99 = .ok (.getfield 136, 3) := by decide +kernel
theorem dX8_keepNow_102 : decode cX8_keepNow 102 = .ok (.iastore, 1) := by decide +kernel
theorem dX8_keepNow_103 : decode cX8_keepNow 103 = .ok (.aload_n 0, 1) := by decide +kernel
theorem dX8_keepNow_104 : decode cX8_keepNow 104 = .ok (.getfield 46, 3) := by decide +kernel
theorem dX8_keepNow_107 : decode cX8_keepNow 107 = .ok (.bipush 33, 2) := by decide +kernel
theorem dX8_keepNow_109 : decode cX8_keepNow 109 = .ok (.aload_n 0, 1) := by decide +kernel
theorem dX8_keepNow_110 : decode cX8_keepNow 110 = .ok (.getfield 145, 3) := by decide +kernel
theorem dX8_keepNow_113 : decode cX8_keepNow 113 = .ok (.iastore, 1) := by decide +kernel
theorem dX8_keepNow_114 : decode cX8_keepNow 114 = .ok (.aload_n 0, 1) := by decide +kernel
theorem dX8_keepNow_115 : decode cX8_keepNow 115 = .ok (.getfield 46, 3) := by decide +kernel
theorem dX8_keepNow_118 : decode cX8_keepNow 118 = .ok (.bipush 34, 2) := by decide +kernel
theorem dX8_keepNow_120 : decode cX8_keepNow 120 = .ok (.aload_n 0, 1) := by decide +kernel
theorem dX8_keepNow_121 : decode cX8_keepNow 121 = .ok (.getfield 151, 3) := by decide +kernel
theorem dX8_keepNow_124 : decode cX8_keepNow 124 = .ok (.iastore, 1) := by decide +kernel
theorem dX8_keepNow_125 : decode cX8_keepNow 125 = .ok (.return_, 1) := by decide +kernel
theorem dX8_back_0 : decode cX8_back 0 = .ok (.iconst 0, 1) := by decide +kernel
theorem dX8_back_1 : decode cX8_back 1 = .ok (.istore_n 2, 1) := by decide +kernel
theorem dX8_back_2 : decode cX8_back 2 = .ok (.iload_n 2, 1) := by decide +kernel
theorem dX8_back_3 : decode cX8_back 3 = .ok (.bipush 6, 2) := by decide +kernel
theorem dX8_back_5 : decode cX8_back 5 = .ok (.if_icmp .ge 36, 3) := by decide +kernel
theorem dX8_back_8 : decode cX8_back 8 = .ok (.aload_n 0, 1) := by decide +kernel
theorem dX8_back_9 : decode cX8_back 9 = .ok (.getfield 7, 3) := by decide +kernel
theorem dX8_back_12 : decode cX8_back 12 = .ok (.iload_n 2, 1) := by decide +kernel
theorem dX8_back_13 : decode cX8_back 13 = .ok (.aload_n 0, 1) := by decide +kernel
theorem dX8_back_14 : decode cX8_back 14 = .ok (.getfield 46, 3) := by decide +kernel
theorem dX8_back_17 : decode cX8_back 17 = .ok (.iload_n 2, 1) := by decide +kernel
theorem dX8_back_18 : decode cX8_back 18 = .ok (.iaload, 1) := by decide +kernel
theorem dX8_back_19 : decode cX8_back 19 = .ok (.iastore, 1) := by decide +kernel
theorem dX8_back_20 : decode cX8_back 20 = .ok (.aload_n 0, 1) := by decide +kernel
theorem dX8_back_21 : decode cX8_back 21 = .ok (.getfield 19, 3) := by decide +kernel
theorem dX8_back_24 : decode cX8_back 24 = .ok (.iload_n 2, 1) := by decide +kernel
theorem dX8_back_25 : decode cX8_back 25 = .ok (.aload_n 0, 1) := by decide +kernel
theorem dX8_back_26 : decode cX8_back 26 = .ok (.getfield 46, 3) := by decide +kernel
theorem dX8_back_29 : decode cX8_back 29 = .ok (.bipush 6, 2) := by decide +kernel
theorem dX8_back_31 : decode cX8_back 31 = .ok (.iload_n 2, 1) := by decide +kernel
theorem dX8_back_32 : decode cX8_back 32 = .ok (.iadd, 1) := by decide +kernel
theorem dX8_back_33 : decode cX8_back 33 = .ok (.iaload, 1) := by decide +kernel
theorem dX8_back_34 : decode cX8_back 34 = .ok (.iastore, 1) := by decide +kernel
theorem dX8_back_35 : decode cX8_back 35 = .ok (.iinc 2 1, 3) := by decide +kernel
theorem dX8_back_38 : decode cX8_back 38 = .ok (.goto (-36), 3) := by decide +kernel
theorem dX8_back_41 : decode cX8_back 41 = .ok (.iconst 0, 1) := by decide +kernel
theorem dX8_back_42 : decode cX8_back 42 = .ok (.istore_n 2, 1) := by decide +kernel
theorem dX8_back_43 : decode cX8_back 43 = .ok (.iload_n 2, 1) := by decide +kernel
theorem dX8_back_44 : decode cX8_back 44 = .ok (.bipush 18, 2) := by decide +kernel
theorem dX8_back_46 : decode cX8_back 46 = .ok (.if_icmp .ge 24, 3) := by decide +kernel
theorem dX8_back_49 : decode cX8_back 49 = .ok (.aload_n 0, 1) := by decide +kernel
theorem dX8_back_50 : decode cX8_back 50 = .ok (.getfield 22, 3) := by decide +kernel
theorem dX8_back_53 : decode cX8_back 53 = .ok (.iload_n 2, 1) := by decide +kernel
theorem dX8_back_54 : decode cX8_back 54 = .ok (.aload_n 0, 1) := by decide +kernel
theorem dX8_back_55 : decode cX8_back 55 = .ok (.getfield 46, 3) := by decide +kernel
theorem dX8_back_58 : decode cX8_back 58 = .ok (.bipush 12, 2) := by decide +kernel
theorem dX8_back_60 : decode cX8_back 60 = .ok (.iload_n 2, 1) := by decide +kernel
theorem dX8_back_61 : decode cX8_back 61 = .ok (.iadd, 1) := by decide +kernel
theorem dX8_back_62 : decode cX8_back 62 = .ok (.iaload, 1) := by decide +kernel
theorem dX8_back_63 : decode cX8_back 63 = .ok (.iastore, 1) := by decide +kernel
theorem dX8_back_64 : decode cX8_back 64 = .ok (.iinc 2 1, 3) := by decide +kernel
theorem dX8_back_67 : decode cX8_back 67 = .ok (.goto (-24), 3) := by decide +kernel
theorem dX8_back_70 : decode cX8_back 70 = .ok (.aload_n 0, 1) := by decide +kernel
theorem dX8_back_71 : decode cX8_back 71 = .ok (.aload_n 0, 1) := by decide +kernel
theorem dX8_back_72 : decode cX8_back 72 = .ok (.getfield 46, 3) := by decide +kernel
theorem dX8_back_75 : decode cX8_back 75 = .ok (.bipush 30, 2) := by decide +kernel
theorem dX8_back_77 : decode cX8_back 77 = .ok (.iaload, 1) := by decide +kernel
theorem dX8_back_78 : decode cX8_back 78 = .ok (.putfield 88, 3) := by decide +kernel
theorem dX8_back_81 : decode cX8_back 81 = .ok (.aload_n 0, 1) := by decide +kernel
theorem dX8_back_82 : decode cX8_back 82 = .ok (.aload_n 0, 1) := by decide +kernel
theorem dX8_back_83 : decode cX8_back 83 = .ok (.getfield 46, 3) := by decide +kernel
theorem dX8_back_86 : decode cX8_back 86 = .ok (.bipush 31, 2) := by decide +kernel
theorem dX8_back_88 : decode cX8_back 88 = .ok (.iaload, 1) := by decide +kernel
theorem dX8_back_89 : decode cX8_back 89 = .ok (.putfield 103, 3) := by decide +kernel
theorem dX8_back_92 : decode cX8_back 92 = .ok (.aload_n 0, 1) := by decide +kernel
theorem dX8_back_93 : decode cX8_back 93 = .ok (.aload_n 0, 1) := by decide +kernel
theorem dX8_back_94 : decode cX8_back 94 = .ok (.getfield 46, 3) := by decide +kernel
theorem dX8_back_97 : decode cX8_back 97 = .ok (.bipush 32, 2) := by decide +kernel
theorem dX8_back_99 : decode cX8_back 99 = .ok (.iaload, 1) := by decide +kernel
theorem dX8_back_100 : decode cX8_back 100 = .ok (.putfield 136, 3) := by decide +kernel
theorem dX8_back_103 : decode cX8_back 103 = .ok (.aload_n 0, 1) := by decide +kernel
theorem dX8_back_104 : decode cX8_back 104 = .ok (.aload_n 0, 1) := by decide +kernel
theorem dX8_back_105 : decode cX8_back 105 = .ok (.getfield 46, 3) := by decide +kernel
theorem dX8_back_108 : decode cX8_back 108 = .ok (.bipush 33, 2) := by decide +kernel
theorem dX8_back_110 : decode cX8_back 110 = .ok (.iaload, 1) := by decide +kernel
theorem dX8_back_111 : decode cX8_back 111 = .ok (.putfield 145, 3) := by decide +kernel
theorem dX8_back_114 : decode cX8_back 114 = .ok (.aload_n 0, 1) := by decide +kernel
theorem dX8_back_115 : decode cX8_back 115 = .ok (.aload_n 0, 1) := by decide +kernel
theorem dX8_back_116 : decode cX8_back 116 = .ok (.getfield 46, 3) := by decide +kernel
theorem dX8_back_119 : decode cX8_back 119 = .ok (.bipush 34, 2) := by decide +kernel
theorem dX8_back_121 : decode cX8_back 121 = .ok (.iaload, 1) := by decide +kernel
theorem dX8_back_122 : decode cX8_back 122 = .ok (.putfield 151, 3) := by decide +kernel
theorem dX8_back_125 : decode cX8_back 125 = .ok (.iload_n 1, 1) := by decide +kernel
theorem dX8_back_126 : decode cX8_back 126 = .ok (.ireturn, 1) := by decide +kernel
theorem dX8_beginCount_0 : decode cX8_beginCount 0 = .ok (.aload_n 0, 1) := by decide +kernel
theorem dX8_beginCount_1 : decode cX8_beginCount 1 = .ok (.iconst 0, 1) := by decide +kernel
theorem dX8_beginCount_2 : decode cX8_beginCount 2 = .ok (.putfield 142, 3) := by decide +kernel
theorem dX8_beginCount_5 : decode cX8_beginCount 5 = .ok (.aload_n 0, 1) := by decide +kernel
theorem dX8_beginCount_6 : decode cX8_beginCount 6 = .ok (.bipush (-6), 2) := by decide +kernel
theorem dX8_beginCount_8 : decode cX8_beginCount 8 = .ok (.putfield 160, 3) := by decide +kernel
theorem dX8_beginCount_11 : decode cX8_beginCount 11 = .ok (.aload_n 0, 1) := by decide +kernel
theorem dX8_beginCount_12 : decode cX8_beginCount 12 = .ok (.bipush (-6), 2) := by decide +kernel
theorem dX8_beginCount_14 : decode cX8_beginCount 14 = .ok (.putfield 163, 3) := by decide +kernel
theorem dX8_beginCount_17 : decode cX8_beginCount 17 = .ok (.aload_n 0, 1) := by decide +kernel
theorem dX8_beginCount_18 : decode cX8_beginCount 18 = .ok (.iconst 0, 1) := by decide +kernel
theorem dX8_beginCount_19 : decode cX8_beginCount 19 = .ok (.putfield 154, 3) := by decide +kernel
theorem dX8_beginCount_22 : decode cX8_beginCount 22 = .ok (.return_, 1) := by decide +kernel
theorem dX8_goVoyages_0 : decode cX8_goVoyages 0 = .ok (.aload_n 0, 1) := by decide +kernel
theorem dX8_goVoyages_1 : decode cX8_goVoyages 1 = .ok (.invokevirtual 173, 3) := by decide +kernel
theorem dX8_goVoyages_4 : decode cX8_goVoyages 4 = .ok (.aload_n 0, 1) := by decide +kernel
theorem dX8_goVoyages_5 : decode cX8_goVoyages 5 = .ok (.bipush (-6), 2) := by decide +kernel
theorem dX8_goVoyages_7 : decode cX8_goVoyages 7 = .ok (.putfield 176, 3) := by decide +kernel
theorem dX8_goVoyages_10 : decode cX8_goVoyages 10 = .ok (.aload_n 0, 1) := by decide +kernel
theorem dX8_goVoyages_11 : decode cX8_goVoyages 11 = .ok (.bipush (-6), 2) := by decide +kernel
theorem dX8_goVoyages_13 : decode cX8_goVoyages 13 = .ok (.putfield 179, 3) := by decide +kernel
theorem dX8_goVoyages_16 : decode cX8_goVoyages 16 = .ok (.iconst 0, 1) := by decide +kernel
theorem dX8_goVoyages_17 : decode cX8_goVoyages 17 = .ok (.istore_n 1, 1) := by decide +kernel
theorem dX8_goVoyages_18 : decode cX8_goVoyages 18 = .ok (.iload_n 1, 1) := by decide +kernel
theorem dX8_goVoyages_19 : decode cX8_goVoyages 19 = .ok (.aload_n 0, 1) := by decide +kernel
theorem dX8_goVoyages_20 : decode cX8_goVoyages 20 = .ok (.getfield 113, 3) := by decide +kernel
theorem dX8_goVoyages_23 : decode cX8_goVoyages 23 = .ok (.if_icmp .ge 98, 3) := by decide +kernel
theorem dX8_goVoyages_26 : decode cX8_goVoyages 26 = .ok (.aload_n 0, 1) := by decide +kernel
theorem dX8_goVoyages_27 : decode cX8_goVoyages 27 = .ok (.getfield 176, 3) := by decide +kernel
theorem dX8_goVoyages_30 : decode cX8_goVoyages 30 = .ok (.ifCond .ge 91, 3) := by decide +kernel
theorem dX8_goVoyages_33 : decode cX8_goVoyages 33 = .ok (.aload_n 0, 1) := by decide +kernel
theorem dX8_goVoyages_34 : decode cX8_goVoyages 34 = .ok (.iload_n 1, 1) := by decide +kernel
theorem dX8_goVoyages_35 : decode cX8_goVoyages 35 = .ok (.putfield 157, 3) := by decide +kernel
theorem dX8_goVoyages_38 : decode cX8_goVoyages 38 = .ok (.aload_n 0, 1) := by decide +kernel
theorem dX8_goVoyages_39 : decode cX8_goVoyages 39 = .ok (.aload_n 0, 1) := by decide +kernel
theorem dX8_goVoyages_40 : decode cX8_goVoyages 40 = .ok (.getfield 37, 3) := by decide +kernel
theorem dX8_goVoyages_43 : decode cX8_goVoyages 43 = .ok (.iload_n 1, 1) := by decide +kernel
theorem dX8_goVoyages_44 : decode cX8_goVoyages 44 = .ok (.iaload, 1) := by decide +kernel
theorem dX8_goVoyages_45 : decode cX8_goVoyages 45 = .ok (.aload_n 0, 1) := by decide +kernel
theorem dX8_goVoyages_46 : decode cX8_goVoyages 46 = .ok (.getfield 40, 3) := by decide +kernel
theorem dX8_goVoyages_49 : decode cX8_goVoyages 49 = .ok (.iload_n 1, 1) := by decide +kernel
theorem dX8_goVoyages_50 : decode cX8_goVoyages 50 = .ok (.iaload, 1) := by decide +kernel
theorem dX8_goVoyages_51 : decode cX8_goVoyages 51 = .ok (.aload_n 0, 1) := by decide +kernel
theorem dX8_goVoyages_52 : decode cX8_goVoyages 52 = .ok (.getfield 43, 3) := by decide +kernel
theorem dX8_goVoyages_55 : decode cX8_goVoyages 55 = .ok (.iload_n 1, 1) := by decide +kernel
theorem dX8_goVoyages_56 : decode cX8_goVoyages 56 = .ok (.iaload, 1) := by decide +kernel
theorem dX8_goVoyages_57 : decode cX8_goVoyages 57 = .ok (.invokevirtual 182, 3) := by decide +kernel
theorem dX8_goVoyages_60 : decode cX8_goVoyages 60 = .ok (.istore_n 2, 1) := by decide +kernel
theorem dX8_goVoyages_61 : decode cX8_goVoyages 61 = .ok (.aload_n 0, 1) := by decide +kernel
theorem dX8_goVoyages_62 : decode cX8_goVoyages 62 = .ok (.iload_n 2, 1) := by decide +kernel
theorem dX8_goVoyages_63 : decode cX8_goVoyages 63 = .ok (.ifCond .le 7, 3) := by decide +kernel
theorem dX8_goVoyages_66 : decode cX8_goVoyages 66 = .ok (.iload_n 1, 1) := by decide +kernel
theorem dX8_goVoyages_67 : decode cX8_goVoyages 67 = .ok (.goto 5, 3) := by decide +kernel
theorem dX8_goVoyages_70 : decode cX8_goVoyages 70 = .ok (.bipush (-6), 2) := by decide +kernel
theorem dX8_goVoyages_72 : decode cX8_goVoyages 72 = .ok (.putfield 176, 3) := by decide +kernel
theorem dX8_goVoyages_75 : decode cX8_goVoyages 75 = .ok (.aload_n 0, 1) := by decide +kernel
theorem dX8_goVoyages_76 : decode cX8_goVoyages 76 = .ok (.iload_n 2, 1) := by decide +kernel
theorem dX8_goVoyages_77 : decode cX8_goVoyages 77 = .ok (.ifCond .le 7, 3) := by decide +kernel
theorem dX8_goVoyages_80 : decode cX8_goVoyages 80 = .ok (.iload_n 2, 1) := by decide +kernel
theorem dX8_goVoyages_81 : decode cX8_goVoyages 81 = .ok (.goto 5, 3) := by decide +kernel
theorem dX8_goVoyages_84 : decode cX8_goVoyages 84 = .ok (.bipush (-6), 2) := by decide +kernel
theorem dX8_goVoyages_86 : decode cX8_goVoyages 86 = .ok (.putfield 179, 3) := by decide +kernel
theorem dX8_goVoyages_89 : decode cX8_goVoyages 89 = .ok (.iload_n 2, 1) := by decide +kernel
theorem dX8_goVoyages_90 : decode cX8_goVoyages 90 = .ok (.ifCond .ne 25, 3) := by decide +kernel
theorem dX8_goVoyages_93 : decode cX8_goVoyages 93 = .ok (.aload_n 0, 1) := by decide +kernel
theorem dX8_goVoyages_94 : decode cX8_goVoyages 94 = .ok (.aload_n 0, 1) := by decide +kernel
theorem dX8_goVoyages_95 : decode cX8_goVoyages 95 = .ok (.getfield 37, 3) := by decide +kernel
theorem dX8_goVoyages_98 : decode cX8_goVoyages 98 = .ok (.iload_n 1, 1) := by decide +kernel
theorem dX8_goVoyages_99 : decode cX8_goVoyages 99 = .ok (.iaload, 1) := by decide +kernel
theorem dX8_goVoyages_100 : decode cX8_goVoyages 100 = .ok (.aload_n 0, 1) := by decide +kernel
theorem dX8_goVoyages_101 : decode cX8_goVoyages 101 = .ok (.getfield 40, 3) := by decide +kernel
theorem dX8_goVoyages_104 : decode cX8_goVoyages 104 = .ok (.iload_n 1, 1) := by decide +kernel
theorem dX8_goVoyages_105 : decode cX8_goVoyages 105 = .ok (.iaload, 1) := by decide +kernel
theorem dX8_goVoyages_106 : decode cX8_goVoyages 106 = .ok (.aload_n 0, 1) := by decide +kernel
theorem dX8_goVoyages_107 : decode cX8_goVoyages 107 = .ok (.getfield 43, 3) := by decide +kernel
theorem dX8_goVoyages_110 : decode cX8_goVoyages 110 = .ok (.iload_n 1, 1) := by decide +kernel
theorem dX8_goVoyages_111 : decode cX8_goVoyages 111 = .ok (.iaload, 1) := by decide +kernel
theorem dX8_goVoyages_112 : decode cX8_goVoyages 112 = .ok (.invokevirtual 186, 3) := by decide +kernel
theorem dX8_goVoyages_115 : decode cX8_goVoyages 115 = .ok (.iinc 1 1, 3) := by decide +kernel
theorem dX8_goVoyages_118 : decode cX8_goVoyages 118 = .ok (.goto (-100), 3) := by decide +kernel
theorem dX8_goVoyages_121 : decode cX8_goVoyages 121 = .ok (.return_, 1) := by decide +kernel
theorem dX8_refusal_0 : decode cX8_refusal 0 = .ok (.aload_n 0, 1) := by decide +kernel
theorem dX8_refusal_1 : decode cX8_refusal 1 = .ok (.invokevirtual 190, 3) := by decide +kernel
theorem dX8_refusal_4 : decode cX8_refusal 4 = .ok (.aload_n 0, 1) := by decide +kernel
theorem dX8_refusal_5 : decode cX8_refusal 5 = .ok (.invokevirtual 193, 3) := by decide +kernel
theorem dX8_refusal_8 : decode cX8_refusal 8 = .ok (.ifCond .lt 6, 3) := by decide +kernel
theorem dX8_refusal_11 : decode cX8_refusal 11 = .ok (.bipush (-5), 2) := by decide +kernel
theorem dX8_refusal_13 : decode cX8_refusal 13 = .ok (.ireturn, 1) := by decide +kernel
theorem dX8_refusal_14 : decode cX8_refusal 14 = .ok (.aload_n 0, 1) := by decide +kernel
theorem dX8_refusal_15 : decode cX8_refusal 15 = .ok (.invokevirtual 197, 3) := by decide +kernel
theorem dX8_refusal_18 : decode cX8_refusal 18 = .ok (.aload_n 0, 1) := by decide +kernel
theorem dX8_refusal_19 : decode cX8_refusal 19 = .ok (.getfield 176, 3) := by decide +kernel
theorem dX8_refusal_22 : decode cX8_refusal 22 = .ok (.ifCond .lt 8, 3) := by decide +kernel
theorem dX8_refusal_25 : decode cX8_refusal 25 = .ok (.bipush (-3), 2) := by decide +kernel
theorem dX8_refusal_27 : decode cX8_refusal 27 = .ok (.goto 5, 3) := by decide +kernel
theorem dX8_refusal_30 : decode cX8_refusal 30 = .ok (.bipush (-6), 2) := by decide +kernel
theorem dX8_refusal_32 : decode cX8_refusal 32 = .ok (.ireturn, 1) := by decide +kernel
theorem dX8_judge_0 : decode cX8_judge 0 = .ok (.iload_n 1, 1) := by decide +kernel
theorem dX8_judge_1 : decode cX8_judge 1 = .ok (.i2l, 1) := by decide +kernel
theorem dX8_judge_2 : decode cX8_judge 2 = .ok (.lconst 0, 1) := by decide +kernel
theorem dX8_judge_3 : decode cX8_judge 3 = .ok (.ldc2_w 99, 3) := by decide +kernel
theorem dX8_judge_6 : decode cX8_judge 6 = .ok (.invokestatic 75, 3) := by decide +kernel
theorem dX8_judge_9 : decode cX8_judge 9 = .ok (.ifCond .ne 6, 3) := by decide +kernel
theorem dX8_judge_12 : decode cX8_judge 12 = .ok (.bipush (-2), 2) := by decide +kernel
theorem dX8_judge_14 : decode cX8_judge 14 = .ok (.ireturn, 1) := by decide +kernel
theorem dX8_judge_15 : decode cX8_judge 15 = .ok (.aload_n 0, 1) := by decide +kernel
theorem dX8_judge_16 : decode cX8_judge 16 = .ok (.aload_n 0, 1) := by decide +kernel
theorem dX8_judge_17 : decode cX8_judge 17 = .ok (.invokevirtual 200, 3) := by decide +kernel
theorem dX8_judge_20 : decode cX8_judge 20 = .ok (.invokevirtual 203, 3) := by decide +kernel
theorem dX8_judge_23 : decode cX8_judge 23 = .ok (.istore_n 2, 1) := by decide +kernel
theorem dX8_judge_24 : decode cX8_judge 24 = .ok (.iload_n 2, 1) := by decide +kernel
theorem dX8_judge_25 : decode cX8_judge 25 = .ok (.bipush (-5), 2) := by decide +kernel
theorem dX8_judge_27 : decode cX8_judge 27 = .ok (.if_icmp .eq 14, 3) := by decide +kernel
theorem dX8_judge_30 : decode cX8_judge 30 = .ok (.iload_n 1, 1) := by decide +kernel
theorem dX8_judge_31 : decode cX8_judge 31 = .ok (.iconst 1, 1) := by decide +kernel
theorem dX8_judge_32 : decode cX8_judge 32 = .ok (.if_icmp .le 11, 3) := by decide +kernel
theorem dX8_judge_35 : decode cX8_judge 35 = .ok (.iload_n 2, 1) := by decide +kernel
theorem dX8_judge_36 : decode cX8_judge 36 = .ok (.bipush (-3), 2) := by decide +kernel
theorem dX8_judge_38 : decode cX8_judge 38 = .ok (.if_icmp .ne 5, 3) := by decide +kernel
theorem dX8_judge_41 : decode cX8_judge 41 = .ok (.iload_n 2, 1) := by decide +kernel
theorem dX8_judge_42 : decode cX8_judge 42 = .ok (.ireturn, 1) := by decide +kernel
theorem dX8_judge_43 : decode cX8_judge 43 = .ok (.iload_n 1, 1) := by decide +kernel
theorem dX8_judge_44 : decode cX8_judge 44 = .ok (.ifCond .ne 10, 3) := by decide +kernel
theorem dX8_judge_47 : decode cX8_judge 47 = .ok (.aload_n 0, 1) := by decide +kernel
theorem dX8_judge_48 : decode cX8_judge 48 = .ok (.getfield 176, 3) := by decide +kernel
theorem dX8_judge_51 : decode cX8_judge 51 = .ok (.goto 19, 3) := by decide +kernel
theorem dX8_judge_54 : decode cX8_judge 54 = .ok (.iload_n 1, 1) := by decide +kernel
theorem dX8_judge_55 : decode cX8_judge 55 = .ok (.iconst 1, 1) := by decide +kernel
theorem dX8_judge_56 : decode cX8_judge 56 = .ok (.if_icmp .ne 10, 3) := by decide +kernel
theorem dX8_judge_59 : decode cX8_judge 59 = .ok (.aload_n 0, 1) := by decide +kernel
theorem dX8_judge_60 : decode cX8_judge 60 = .ok (.getfield 179, 3) := by decide +kernel
theorem dX8_judge_63 : decode cX8_judge 63 = .ok (.goto 7, 3) := by decide +kernel
theorem dX8_judge_66 : decode cX8_judge 66 = .ok (.aload_n 0, 1) := by decide +kernel
theorem dX8_judge_67 : decode cX8_judge 67 = .ok (.getfield 142, 3) := by decide +kernel
theorem dX8_judge_70 : decode cX8_judge 70 = .ok (.ireturn, 1) := by decide +kernel
theorem dX8_ofShip_0 : decode cX8_ofShip 0 = .ok (.iload_n 2, 1) := by decide +kernel
theorem dX8_ofShip_1 : decode cX8_ofShip 1 = .ok (.tableswitch 57 0 3 #[31, 38, 45, 51], 31) := by decide +kernel
theorem dX8_ofShip_32 : decode cX8_ofShip 32 = .ok (.aload_n 0, 1) := by decide +kernel
theorem dX8_ofShip_33 : decode cX8_ofShip 33 = .ok (.getfield 7, 3) := by decide +kernel
theorem dX8_ofShip_36 : decode cX8_ofShip 36 = .ok (.iload_n 1, 1) := by decide +kernel
theorem dX8_ofShip_37 : decode cX8_ofShip 37 = .ok (.iaload, 1) := by decide +kernel
theorem dX8_ofShip_38 : decode cX8_ofShip 38 = .ok (.ireturn, 1) := by decide +kernel
theorem dX8_ofShip_39 : decode cX8_ofShip 39 = .ok (.aload_n 0, 1) := by decide +kernel
theorem dX8_ofShip_40 : decode cX8_ofShip 40 = .ok (.getfield 19, 3) := by decide +kernel
theorem dX8_ofShip_43 : decode cX8_ofShip 43 = .ok (.iload_n 1, 1) := by decide +kernel
theorem dX8_ofShip_44 : decode cX8_ofShip 44 = .ok (.iaload, 1) := by decide +kernel
theorem dX8_ofShip_45 : decode cX8_ofShip 45 = .ok (.ireturn, 1) := by decide +kernel
theorem dX8_ofShip_46 : decode cX8_ofShip 46 = .ok (.aload_n 0, 1) := by decide +kernel
theorem dX8_ofShip_47 : decode cX8_ofShip 47 = .ok (.iload_n 1, 1) := by decide +kernel
theorem dX8_ofShip_48 : decode cX8_ofShip 48 = .ok (.invokevirtual 148, 3) := by decide +kernel
theorem dX8_ofShip_51 : decode cX8_ofShip 51 = .ok (.ireturn, 1) := by decide +kernel
theorem dX8_ofShip_52 : decode cX8_ofShip 52 = .ok (.aload_n 0, 1) := by decide +kernel
theorem dX8_ofShip_53 : decode cX8_ofShip 53 = .ok (.iload_n 1, 1) := by decide +kernel
theorem dX8_ofShip_54 : decode cX8_ofShip 54 = .ok (.invokevirtual 139, 3) := by decide +kernel
theorem dX8_ofShip_57 : decode cX8_ofShip 57 = .ok (.ireturn, 1) := by decide +kernel
theorem dX8_ofShip_58 : decode cX8_ofShip 58 = .ok (.aload_n 0, 1) := by decide +kernel
theorem dX8_ofShip_59 : decode cX8_ofShip 59 = .ok (.getfield 88, 3) := by decide +kernel
theorem dX8_ofShip_62 : decode cX8_ofShip 62 = .ok (.iload_n 1, 1) := by decide +kernel
theorem dX8_ofShip_63 : decode cX8_ofShip 63 = .ok (.ishr, 1) := by decide +kernel
theorem dX8_ofShip_64 : decode cX8_ofShip 64 = .ok (.iconst 1, 1) := by decide +kernel
theorem dX8_ofShip_65 : decode cX8_ofShip 65 = .ok (.iand, 1) := by decide +kernel
theorem dX8_ofShip_66 : decode cX8_ofShip 66 = .ok (.ireturn, 1) := by decide +kernel
theorem dX8_behind_0 : decode cX8_behind 0 = .ok (.aload_n 0, 1) := by decide +kernel
theorem dX8_behind_1 : decode cX8_behind 1 = .ok (.iload_n 1, 1) := by decide +kernel
theorem dX8_behind_2 : decode cX8_behind 2 = .ok (.invokevirtual 95, 3) := by decide +kernel
theorem dX8_behind_5 : decode cX8_behind 5 = .ok (.ifCond .ne 5, 3) := by decide +kernel
theorem dX8_behind_8 : decode cX8_behind 8 = .ok (.iconst (-1), 1) := by decide +kernel
theorem dX8_behind_9 : decode cX8_behind 9 = .ok (.ireturn, 1) := by decide +kernel
theorem dX8_behind_10 : decode cX8_behind 10 = .ok (.iload_n 2, 1) := by decide +kernel
theorem dX8_behind_11 : decode cX8_behind 11 = .ok (.i2l, 1) := by decide +kernel
theorem dX8_behind_12 : decode cX8_behind 12 = .ok (.lconst 0, 1) := by decide +kernel
theorem dX8_behind_13 : decode cX8_behind 13 = .ok (.ldc2_w 206, 3) := by decide +kernel
theorem dX8_behind_16 : decode cX8_behind 16 = .ok (.invokestatic 75, 3) := by decide +kernel
theorem dX8_behind_19 : decode cX8_behind 19 = .ok (.ifCond .ne 6, 3) := by decide +kernel
theorem dX8_behind_22 : decode cX8_behind 22 = .ok (.bipush (-2), 2) := by decide +kernel
theorem dX8_behind_24 : decode cX8_behind 24 = .ok (.ireturn, 1) := by decide +kernel
theorem dX8_behind_25 : decode cX8_behind 25 = .ok (.aload_n 0, 1) := by decide +kernel
theorem dX8_behind_26 : decode cX8_behind 26 = .ok (.invokevirtual 200, 3) := by decide +kernel
theorem dX8_behind_29 : decode cX8_behind 29 = .ok (.istore_n 3, 1) := by decide +kernel
theorem dX8_behind_30 : decode cX8_behind 30 = .ok (.aload_n 0, 1) := by decide +kernel
theorem dX8_behind_31 : decode cX8_behind 31 = .ok (.iload_n 3, 1) := by decide +kernel
theorem dX8_behind_32 : decode cX8_behind 32 = .ok (.bipush (-6), 2) := by decide +kernel
theorem dX8_behind_34 : decode cX8_behind 34 = .ok (.if_icmp .eq 7, 3) := by decide +kernel
theorem dX8_behind_37 : decode cX8_behind 37 = .ok (.iload_n 3, 1) := by decide +kernel
theorem dX8_behind_38 : decode cX8_behind 38 = .ok (.goto 9, 3) := by decide +kernel
theorem dX8_behind_41 : decode cX8_behind 41 = .ok (.aload_n 0, 1) := by decide +kernel
theorem dX8_behind_42 : decode cX8_behind 42 = .ok (.iload_n 1, 1) := by decide +kernel
theorem dX8_behind_43 : decode cX8_behind 43 = .ok (.iload_n 2, 1) := by decide +kernel
theorem dX8_behind_44 : decode cX8_behind 44 = .ok (.invokevirtual 208, 3) := by decide +kernel
theorem dX8_behind_47 : decode cX8_behind 47 = .ok (.invokevirtual 203, 3) := by decide +kernel
theorem dX8_behind_50 : decode cX8_behind 50 = .ok (.ireturn, 1) := by decide +kernel
theorem dX8_ofAll_0 : decode cX8_ofAll 0 = .ok (.iload_n 1, 1) := by decide +kernel
theorem dX8_ofAll_1 : decode cX8_ofAll 1 = .ok (.tableswitch 45 0 2 #[27, 35, 40], 27) := by decide +kernel
theorem dX8_ofAll_28 : decode cX8_ofAll 28 = .ok (.aload_n 0, 1) := by decide +kernel
theorem dX8_ofAll_29 : decode cX8_ofAll 29 = .ok (.getfield 145, 3) := by decide +kernel
theorem dX8_ofAll_32 : decode cX8_ofAll 32 = .ok (.ldc 211, 2) := by decide +kernel
theorem dX8_ofAll_34 : decode cX8_ofAll 34 = .ok (.iadd, 1) := by decide +kernel
theorem dX8_ofAll_35 : decode cX8_ofAll 35 = .ok (.ireturn, 1) := by decide +kernel
theorem dX8_ofAll_36 : decode cX8_ofAll 36 = .ok (.aload_n 0, 1) := by decide +kernel
theorem dX8_ofAll_37 : decode cX8_ofAll 37 = .ok (.getfield 151, 3) := by decide +kernel
theorem dX8_ofAll_40 : decode cX8_ofAll 40 = .ok (.ireturn, 1) := by decide +kernel
theorem dX8_ofAll_41 : decode cX8_ofAll 41 = .ok (.aload_n 0, 1) := by decide +kernel
theorem dX8_ofAll_42 : decode cX8_ofAll 42 = .ok (.getfield 103, 3) := by decide +kernel
theorem dX8_ofAll_45 : decode cX8_ofAll 45 = .ok (.ireturn, 1) := by decide +kernel
theorem dX8_ofAll_46 : decode cX8_ofAll 46 = .ok (.aload_n 0, 1) := by decide +kernel
theorem dX8_ofAll_47 : decode cX8_ofAll 47 = .ok (.getfield 136, 3) := by decide +kernel
theorem dX8_ofAll_50 : decode cX8_ofAll 50 = .ok (.ireturn, 1) := by decide +kernel
theorem dX8_total_0 : decode cX8_total 0 = .ok (.iload_n 1, 1) := by decide +kernel
theorem dX8_total_1 : decode cX8_total 1 = .ok (.i2l, 1) := by decide +kernel
theorem dX8_total_2 : decode cX8_total 2 = .ok (.lconst 0, 1) := by decide +kernel
theorem dX8_total_3 : decode cX8_total 3 = .ok (.ldc2_w 212, 3) := by decide +kernel
theorem dX8_total_6 : decode cX8_total 6 = .ok (.invokestatic 75, 3) := by decide +kernel
theorem dX8_total_9 : decode cX8_total 9 = .ok (.ifCond .ne 6, 3) := by decide +kernel
theorem dX8_total_12 : decode cX8_total 12 = .ok (.bipush (-2), 2) := by decide +kernel
theorem dX8_total_14 : decode cX8_total 14 = .ok (.ireturn, 1) := by decide +kernel
theorem dX8_total_15 : decode cX8_total 15 = .ok (.aload_n 0, 1) := by decide +kernel
theorem dX8_total_16 : decode cX8_total 16 = .ok (.invokevirtual 200, 3) := by decide +kernel
theorem dX8_total_19 : decode cX8_total 19 = .ok (.istore_n 2, 1) := by decide +kernel
theorem dX8_total_20 : decode cX8_total 20 = .ok (.aload_n 0, 1) := by decide +kernel
theorem dX8_total_21 : decode cX8_total 21 = .ok (.iload_n 2, 1) := by decide +kernel
theorem dX8_total_22 : decode cX8_total 22 = .ok (.bipush (-6), 2) := by decide +kernel
theorem dX8_total_24 : decode cX8_total 24 = .ok (.if_icmp .eq 7, 3) := by decide +kernel
theorem dX8_total_27 : decode cX8_total 27 = .ok (.iload_n 2, 1) := by decide +kernel
theorem dX8_total_28 : decode cX8_total 28 = .ok (.goto 8, 3) := by decide +kernel
theorem dX8_total_31 : decode cX8_total 31 = .ok (.aload_n 0, 1) := by decide +kernel
theorem dX8_total_32 : decode cX8_total 32 = .ok (.iload_n 1, 1) := by decide +kernel
theorem dX8_total_33 : decode cX8_total 33 = .ok (.invokevirtual 214, 3) := by decide +kernel
theorem dX8_total_36 : decode cX8_total 36 = .ok (.invokevirtual 203, 3) := by decide +kernel
theorem dX8_total_39 : decode cX8_total 39 = .ok (.ireturn, 1) := by decide +kernel
theorem dX8_sunk_0 : decode cX8_sunk 0 = .ok (.iload_n 1, 1) := by decide +kernel
theorem dX8_sunk_1 : decode cX8_sunk 1 = .ok (.i2l, 1) := by decide +kernel
theorem dX8_sunk_2 : decode cX8_sunk 2 = .ok (.lconst 0, 1) := by decide +kernel
theorem dX8_sunk_3 : decode cX8_sunk 3 = .ok (.ldc2_w 99, 3) := by decide +kernel
theorem dX8_sunk_6 : decode cX8_sunk 6 = .ok (.invokestatic 75, 3) := by decide +kernel
theorem dX8_sunk_9 : decode cX8_sunk 9 = .ok (.ifCond .ne 6, 3) := by decide +kernel
theorem dX8_sunk_12 : decode cX8_sunk 12 = .ok (.bipush (-2), 2) := by decide +kernel
theorem dX8_sunk_14 : decode cX8_sunk 14 = .ok (.ireturn, 1) := by decide +kernel
theorem dX8_sunk_15 : decode cX8_sunk 15 = .ok (.aload_n 0, 1) := by decide +kernel
theorem dX8_sunk_16 : decode cX8_sunk 16 = .ok (.aload_n 0, 1) := by decide +kernel
theorem dX8_sunk_17 : decode cX8_sunk 17 = .ok (.invokevirtual 200, 3) := by decide +kernel
theorem dX8_sunk_20 : decode cX8_sunk 20 = .ok (.invokevirtual 203, 3) := by decide +kernel
theorem dX8_sunk_23 : decode cX8_sunk 23 = .ok (.istore_n 2, 1) := by decide +kernel
theorem dX8_sunk_24 : decode cX8_sunk 24 = .ok (.iload_n 2, 1) := by decide +kernel
theorem dX8_sunk_25 : decode cX8_sunk 25 = .ok (.bipush (-6), 2) := by decide +kernel
theorem dX8_sunk_27 : decode cX8_sunk 27 = .ok (.if_icmp .eq 7, 3) := by decide +kernel
theorem dX8_sunk_30 : decode cX8_sunk 30 = .ok (.iload_n 2, 1) := by decide +kernel
theorem dX8_sunk_31 : decode cX8_sunk 31 = .ok (.goto 30, 3) := by decide +kernel
theorem dX8_sunk_34 : decode cX8_sunk 34 = .ok (.iload_n 1, 1) := by decide +kernel
theorem dX8_sunk_35 : decode cX8_sunk 35 = .ok (.ifCond .ne 10, 3) := by decide +kernel
theorem dX8_sunk_38 : decode cX8_sunk 38 = .ok (.aload_n 0, 1) := by decide +kernel
theorem dX8_sunk_39 : decode cX8_sunk 39 = .ok (.getfield 160, 3) := by decide +kernel
theorem dX8_sunk_42 : decode cX8_sunk 42 = .ok (.goto 19, 3) := by decide +kernel
theorem dX8_sunk_45 : decode cX8_sunk 45 = .ok (.iload_n 1, 1) := by decide +kernel
theorem dX8_sunk_46 : decode cX8_sunk 46 = .ok (.iconst 1, 1) := by decide +kernel
theorem dX8_sunk_47 : decode cX8_sunk 47 = .ok (.if_icmp .ne 10, 3) := by decide +kernel
theorem dX8_sunk_50 : decode cX8_sunk 50 = .ok (.aload_n 0, 1) := by decide +kernel
theorem dX8_sunk_51 : decode cX8_sunk 51 = .ok (.getfield 163, 3) := by decide +kernel
theorem dX8_sunk_54 : decode cX8_sunk 54 = .ok (.goto 7, 3) := by decide +kernel
theorem dX8_sunk_57 : decode cX8_sunk 57 = .ok (.aload_n 0, 1) := by decide +kernel
theorem dX8_sunk_58 : decode cX8_sunk 58 = .ok (.getfield 154, 3) := by decide +kernel
theorem dX8_sunk_61 : decode cX8_sunk 61 = .ok (.ireturn, 1) := by decide +kernel
theorem dX8_done_0 : decode cX8_done 0 = .ok (.aload_n 0, 1) := by decide +kernel
theorem dX8_done_1 : decode cX8_done 1 = .ok (.invokevirtual 200, 3) := by decide +kernel
theorem dX8_done_4 : decode cX8_done 4 = .ok (.istore_n 1, 1) := by decide +kernel
theorem dX8_done_5 : decode cX8_done 5 = .ok (.iload_n 1, 1) := by decide +kernel
theorem dX8_done_6 : decode cX8_done 6 = .ok (.bipush (-6), 2) := by decide +kernel
theorem dX8_done_8 : decode cX8_done 8 = .ok (.if_icmp .eq 9, 3) := by decide +kernel
theorem dX8_done_11 : decode cX8_done 11 = .ok (.aload_n 0, 1) := by decide +kernel
theorem dX8_done_12 : decode cX8_done 12 = .ok (.iload_n 1, 1) := by decide +kernel
theorem dX8_done_13 : decode cX8_done 13 = .ok (.invokevirtual 203, 3) := by decide +kernel
theorem dX8_done_16 : decode cX8_done 16 = .ok (.ireturn, 1) := by decide +kernel
theorem dX8_done_17 : decode cX8_done 17 = .ok (.aload_n 0, 1) := by decide +kernel
theorem dX8_done_18 : decode cX8_done 18 = .ok (.iconst 0, 1) := by decide +kernel
theorem dX8_done_19 : decode cX8_done 19 = .ok (.putfield 110, 3) := by decide +kernel
theorem dX8_done_22 : decode cX8_done 22 = .ok (.aload_n 0, 1) := by decide +kernel
theorem dX8_done_23 : decode cX8_done 23 = .ok (.getfield 113, 3) := by decide +kernel
theorem dX8_done_26 : decode cX8_done 26 = .ok (.ireturn, 1) := by decide +kernel
theorem dX8_size_0 : decode cX8_size 0 = .ok (.lload_n 0, 1) := by decide +kernel
theorem dX8_size_1 : decode cX8_size 1 = .ok (.lconst 0, 1) := by decide +kernel
theorem dX8_size_2 : decode cX8_size 2 = .ok (.lcmp, 1) := by decide +kernel
theorem dX8_size_3 : decode cX8_size 3 = .ok (.ifCond .ge 8, 3) := by decide +kernel
theorem dX8_size_6 : decode cX8_size 6 = .ok (.lload_n 0, 1) := by decide +kernel
theorem dX8_size_7 : decode cX8_size 7 = .ok (.lneg, 1) := by decide +kernel
theorem dX8_size_8 : decode cX8_size 8 = .ok (.goto 4, 3) := by decide +kernel
theorem dX8_size_11 : decode cX8_size 11 = .ok (.lload_n 0, 1) := by decide +kernel
theorem dX8_size_12 : decode cX8_size 12 = .ok (.lreturn, 1) := by decide +kernel
theorem dX8_lowest_0 : decode cX8_lowest 0 = .ok (.lload_n 2, 1) := by decide +kernel
theorem dX8_lowest_1 : decode cX8_lowest 1 = .ok (.lstore 5, 2) := by decide +kernel
theorem dX8_lowest_3 : decode cX8_lowest 3 = .ok (.lload_n 0, 1) := by decide +kernel
theorem dX8_lowest_4 : decode cX8_lowest 4 = .ok (.invokestatic 217, 3) := by decide +kernel
theorem dX8_lowest_7 : decode cX8_lowest 7 = .ok (.lstore 7, 2) := by decide +kernel
theorem dX8_lowest_9 : decode cX8_lowest 9 = .ok (.lload 7, 2) := by decide +kernel
theorem dX8_lowest_11 : decode cX8_lowest 11 = .ok (.lconst 0, 1) := by decide +kernel
theorem dX8_lowest_12 : decode cX8_lowest 12 = .ok (.lcmp, 1) := by decide +kernel
theorem dX8_lowest_13 : decode cX8_lowest 13 = .ok (.ifCond .eq 21, 3) := by decide +kernel
theorem dX8_lowest_16 : decode cX8_lowest 16 = .ok (.lload 5, 2) := by decide +kernel
theorem dX8_lowest_18 : decode cX8_lowest 18 = .ok (.lload 7, 2) := by decide +kernel
theorem dX8_lowest_20 : decode cX8_lowest 20 = .ok (.lrem, 1) := by decide +kernel
theorem dX8_lowest_21 : decode cX8_lowest 21 = .ok (.lstore 9, 2) := by decide +kernel
theorem dX8_lowest_23 : decode cX8_lowest 23 = .ok (.lload 7, 2) := by decide +kernel
theorem dX8_lowest_25 : decode cX8_lowest 25 = .ok (.lstore 5, 2) := by decide +kernel
theorem dX8_lowest_27 : decode cX8_lowest 27 = .ok (.lload 9, 2) := by decide +kernel
theorem dX8_lowest_29 : decode cX8_lowest 29 = .ok (.lstore 7, 2) := by decide +kernel
theorem dX8_lowest_31 : decode cX8_lowest 31 = .ok (.goto (-22), 3) := by decide +kernel
theorem dX8_lowest_34 : decode cX8_lowest 34 = .ok (.iload 4, 2) := by decide +kernel
theorem dX8_lowest_36 : decode cX8_lowest 36 = .ok (.ifCond .ne 10, 3) := by decide +kernel
theorem dX8_lowest_39 : decode cX8_lowest 39 = .ok (.lload_n 0, 1) := by decide +kernel
theorem dX8_lowest_40 : decode cX8_lowest 40 = .ok (.lload 5, 2) := by decide +kernel
theorem dX8_lowest_42 : decode cX8_lowest 42 = .ok (.ldiv, 1) := by decide +kernel
theorem dX8_lowest_43 : decode cX8_lowest 43 = .ok (.goto 7, 3) := by decide +kernel
theorem dX8_lowest_46 : decode cX8_lowest 46 = .ok (.lload_n 2, 1) := by decide +kernel
theorem dX8_lowest_47 : decode cX8_lowest 47 = .ok (.lload 5, 2) := by decide +kernel
theorem dX8_lowest_49 : decode cX8_lowest 49 = .ok (.ldiv, 1) := by decide +kernel
theorem dX8_lowest_50 : decode cX8_lowest 50 = .ok (.lreturn, 1) := by decide +kernel
theorem dX8_meanWith_0 : decode cX8_meanWith 0 = .ok (.aload_n 0, 1) := by decide +kernel
theorem dX8_meanWith_1 : decode cX8_meanWith 1 = .ok (.iload_n 1, 1) := by decide +kernel
theorem dX8_meanWith_2 : decode cX8_meanWith 2 = .ok (.iload_n 2, 1) := by decide +kernel
theorem dX8_meanWith_3 : decode cX8_meanWith 3 = .ok (.invokevirtual 133, 3) := by decide +kernel
theorem dX8_meanWith_6 : decode cX8_meanWith 6 = .ok (.istore 4, 2) := by decide +kernel
theorem dX8_meanWith_8 : decode cX8_meanWith 8 = .ok (.iload 4, 2) := by decide +kernel
theorem dX8_meanWith_10 : decode cX8_meanWith 10 = .ok (.iload_n 3, 1) := by decide +kernel
theorem dX8_meanWith_11 : decode cX8_meanWith 11 = .ok (.aload_n 0, 1) := by decide +kernel
theorem dX8_meanWith_12 : decode cX8_meanWith 12 = .ok (.getfield 13, 3) := by decide +kernel
theorem dX8_meanWith_15 : decode cX8_meanWith 15 = .ok (.iload_n 1, 1) := by decide +kernel
theorem dX8_meanWith_16 : decode cX8_meanWith 16 = .ok (.iaload, 1) := by decide +kernel
theorem dX8_meanWith_17 : decode cX8_meanWith 17 = .ok (.isub, 1) := by decide +kernel
theorem dX8_meanWith_18 : decode cX8_meanWith 18 = .ok (.imul, 1) := by decide +kernel
theorem dX8_meanWith_19 : decode cX8_meanWith 19 = .ok (.bipush 100, 2) := by decide +kernel
theorem dX8_meanWith_21 : decode cX8_meanWith 21 = .ok (.iload 4, 2) := by decide +kernel
theorem dX8_meanWith_23 : decode cX8_meanWith 23 = .ok (.isub, 1) := by decide +kernel
theorem dX8_meanWith_24 : decode cX8_meanWith 24 = .ok (.iload_n 2, 1) := by decide +kernel
theorem dX8_meanWith_25 : decode cX8_meanWith 25 = .ok (.imul, 1) := by decide +kernel
theorem dX8_meanWith_26 : decode cX8_meanWith 26 = .ok (.aload_n 0, 1) := by decide +kernel
theorem dX8_meanWith_27 : decode cX8_meanWith 27 = .ok (.getfield 70, 3) := by decide +kernel
theorem dX8_meanWith_30 : decode cX8_meanWith 30 = .ok (.imul, 1) := by decide +kernel
theorem dX8_meanWith_31 : decode cX8_meanWith 31 = .ok (.iadd, 1) := by decide +kernel
theorem dX8_meanWith_32 : decode cX8_meanWith 32 = .ok (.ireturn, 1) := by decide +kernel
theorem dX8_mean_0 : decode cX8_mean 0 = .ok (.aload_n 0, 1) := by decide +kernel
theorem dX8_mean_1 : decode cX8_mean 1 = .ok (.iload_n 1, 1) := by decide +kernel
theorem dX8_mean_2 : decode cX8_mean 2 = .ok (.invokevirtual 95, 3) := by decide +kernel
theorem dX8_mean_5 : decode cX8_mean 5 = .ok (.ifCond .ne 7, 3) := by decide +kernel
theorem dX8_mean_8 : decode cX8_mean 8 = .ok (.ldc2_w 221, 3) := by decide +kernel
theorem dX8_mean_11 : decode cX8_mean 11 = .ok (.lreturn, 1) := by decide +kernel
theorem dX8_mean_12 : decode cX8_mean 12 = .ok (.iload_n 2, 1) := by decide +kernel
theorem dX8_mean_13 : decode cX8_mean 13 = .ok (.i2l, 1) := by decide +kernel
theorem dX8_mean_14 : decode cX8_mean 14 = .ok (.lconst 0, 1) := by decide +kernel
theorem dX8_mean_15 : decode cX8_mean 15 = .ok (.ldc2_w 101, 3) := by decide +kernel
theorem dX8_mean_18 : decode cX8_mean 18 = .ok (.invokestatic 75, 3) := by decide +kernel
theorem dX8_mean_21 : decode cX8_mean 21 = .ok (.ifCond .eq 13, 3) := by decide +kernel
theorem dX8_mean_24 : decode cX8_mean 24 = .ok (.iload_n 3, 1) := by decide +kernel
theorem dX8_mean_25 : decode cX8_mean 25 = .ok (.i2l, 1) := by decide +kernel
theorem dX8_mean_26 : decode cX8_mean 26 = .ok (.lconst 0, 1) := by decide +kernel
theorem dX8_mean_27 : decode cX8_mean 27 = .ok (.lconst 1, 1) := by decide +kernel
theorem dX8_mean_28 : decode cX8_mean 28 = .ok (.invokestatic 75, 3) := by decide +kernel
theorem dX8_mean_31 : decode cX8_mean 31 = .ok (.ifCond .ne 7, 3) := by decide +kernel
theorem dX8_mean_34 : decode cX8_mean 34 = .ok (.ldc2_w 223, 3) := by decide +kernel
theorem dX8_mean_37 : decode cX8_mean 37 = .ok (.lreturn, 1) := by decide +kernel
theorem dX8_mean_38 : decode cX8_mean 38 = .ok (.aload_n 0, 1) := by decide +kernel
theorem dX8_mean_39 : decode cX8_mean 39 = .ok (.iload_n 1, 1) := by decide +kernel
theorem dX8_mean_40 : decode cX8_mean 40 = .ok (.iload_n 2, 1) := by decide +kernel
theorem dX8_mean_41 : decode cX8_mean 41 = .ok (.aload_n 0, 1) := by decide +kernel
theorem dX8_mean_42 : decode cX8_mean 42 = .ok (.iload_n 1, 1) := by decide +kernel
theorem dX8_mean_43 : decode cX8_mean 43 = .ok (.invokevirtual 148, 3) := by decide +kernel
theorem dX8_mean_46 : decode cX8_mean 46 = .ok (.invokevirtual 225, 3) := by decide +kernel
theorem dX8_mean_49 : decode cX8_mean 49 = .ok (.i2l, 1) := by decide +kernel
theorem dX8_mean_50 : decode cX8_mean 50 = .ok (.ldc2_w 228, 3) := by decide +kernel
theorem dX8_mean_53 : decode cX8_mean 53 = .ok (.iload_n 3, 1) := by decide +kernel
theorem dX8_mean_54 : decode cX8_mean 54 = .ok (.invokestatic 230, 3) := by decide +kernel
theorem dX8_mean_57 : decode cX8_mean 57 = .ok (.lreturn, 1) := by decide +kernel
theorem dX8_deepWith_0 : decode cX8_deepWith 0 = .ok (.iconst 1, 1) := by decide +kernel
theorem dX8_deepWith_1 : decode cX8_deepWith 1 = .ok (.istore_n 3, 1) := by decide +kernel
theorem dX8_deepWith_2 : decode cX8_deepWith 2 = .ok (.iconst 2, 1) := by decide +kernel
theorem dX8_deepWith_3 : decode cX8_deepWith 3 = .ok (.istore 4, 2) := by decide +kernel
theorem dX8_deepWith_5 : decode cX8_deepWith 5 = .ok (.iload 4, 2) := by decide +kernel
theorem dX8_deepWith_7 : decode cX8_deepWith 7 = .ok (.bipush 9, 2) := by decide +kernel
theorem dX8_deepWith_9 : decode cX8_deepWith 9 = .ok (.if_icmp .gt 34, 3) := by decide +kernel
theorem dX8_deepWith_12 : decode cX8_deepWith 12 = .ok (.aload_n 0, 1) := by decide +kernel
theorem dX8_deepWith_13 : decode cX8_deepWith 13 = .ok (.iload_n 1, 1) := by decide +kernel
theorem dX8_deepWith_14 : decode cX8_deepWith 14 = .ok (.iload 4, 2) := by decide +kernel
theorem dX8_deepWith_16 : decode cX8_deepWith 16 = .ok (.iload_n 2, 1) := by decide +kernel
theorem dX8_deepWith_17 : decode cX8_deepWith 17 = .ok (.invokevirtual 225, 3) := by decide +kernel
theorem dX8_deepWith_20 : decode cX8_deepWith 20 = .ok (.aload_n 0, 1) := by decide +kernel
theorem dX8_deepWith_21 : decode cX8_deepWith 21 = .ok (.iload_n 1, 1) := by decide +kernel
theorem dX8_deepWith_22 : decode cX8_deepWith 22 = .ok (.iload_n 3, 1) := by decide +kernel
theorem dX8_deepWith_23 : decode cX8_deepWith 23 = .ok (.iload_n 2, 1) := by decide +kernel
theorem dX8_deepWith_24 : decode cX8_deepWith 24 = .ok (.invokevirtual 225, 3) := by decide +kernel
theorem dX8_deepWith_27 : decode cX8_deepWith 27 = .ok (.if_icmp .le 8, 3) := by decide +kernel
theorem dX8_deepWith_30 : decode cX8_deepWith 30 = .ok (.iload 4, 2) := by decide +kernel
theorem dX8_deepWith_32 : decode cX8_deepWith 32 = .ok (.goto 4, 3) := by decide +kernel
theorem dX8_deepWith_35 : decode cX8_deepWith 35 = .ok (.iload_n 3, 1) := by decide +kernel
theorem dX8_deepWith_36 : decode cX8_deepWith 36 = .ok (.istore_n 3, 1) := by decide +kernel
theorem dX8_deepWith_37 : decode cX8_deepWith 37 = .ok (.iinc 4 1, 3) := by decide +kernel
theorem dX8_deepWith_40 : decode cX8_deepWith 40 = .ok (.goto (-35), 3) := by decide +kernel
theorem dX8_deepWith_43 : decode cX8_deepWith 43 = .ok (.iload_n 3, 1) := by decide +kernel
theorem dX8_deepWith_44 : decode cX8_deepWith 44 = .ok (.ireturn, 1) := by decide +kernel
theorem dX8_deep_0 : decode cX8_deep 0 = .ok (.aload_n 0, 1) := by decide +kernel
theorem dX8_deep_1 : decode cX8_deep 1 = .ok (.iload_n 1, 1) := by decide +kernel
theorem dX8_deep_2 : decode cX8_deep 2 = .ok (.invokevirtual 95, 3) := by decide +kernel
theorem dX8_deep_5 : decode cX8_deep 5 = .ok (.ifCond .eq 16, 3) := by decide +kernel
theorem dX8_deep_8 : decode cX8_deep 8 = .ok (.aload_n 0, 1) := by decide +kernel
theorem dX8_deep_9 : decode cX8_deep 9 = .ok (.iload_n 1, 1) := by decide +kernel
theorem dX8_deep_10 : decode cX8_deep 10 = .ok (.aload_n 0, 1) := by decide +kernel
theorem dX8_deep_11 : decode cX8_deep 11 = .ok (.iload_n 1, 1) := by decide +kernel
theorem dX8_deep_12 : decode cX8_deep 12 = .ok (.invokevirtual 148, 3) := by decide +kernel
theorem dX8_deep_15 : decode cX8_deep 15 = .ok (.invokevirtual 234, 3) := by decide +kernel
theorem dX8_deep_18 : decode cX8_deep 18 = .ok (.goto 4, 3) := by decide +kernel
theorem dX8_deep_21 : decode cX8_deep 21 = .ok (.iconst (-1), 1) := by decide +kernel
theorem dX8_deep_22 : decode cX8_deep 22 = .ok (.ireturn, 1) := by decide +kernel
theorem dX8_share_0 : decode cX8_share 0 = .ok (.aload_n 0, 1) := by decide +kernel
theorem dX8_share_1 : decode cX8_share 1 = .ok (.iload_n 1, 1) := by decide +kernel
theorem dX8_share_2 : decode cX8_share 2 = .ok (.invokevirtual 95, 3) := by decide +kernel
theorem dX8_share_5 : decode cX8_share 5 = .ok (.ifCond .ne 5, 3) := by decide +kernel
theorem dX8_share_8 : decode cX8_share 8 = .ok (.iconst (-1), 1) := by decide +kernel
theorem dX8_share_9 : decode cX8_share 9 = .ok (.ireturn, 1) := by decide +kernel
theorem dX8_share_10 : decode cX8_share 10 = .ok (.iload_n 2, 1) := by decide +kernel
theorem dX8_share_11 : decode cX8_share 11 = .ok (.i2l, 1) := by decide +kernel
theorem dX8_share_12 : decode cX8_share 12 = .ok (.lconst 1, 1) := by decide +kernel
theorem dX8_share_13 : decode cX8_share 13 = .ok (.ldc2_w 101, 3) := by decide +kernel
theorem dX8_share_16 : decode cX8_share 16 = .ok (.invokestatic 75, 3) := by decide +kernel
theorem dX8_share_19 : decode cX8_share 19 = .ok (.ifCond .ne 6, 3) := by decide +kernel
theorem dX8_share_22 : decode cX8_share 22 = .ok (.bipush (-2), 2) := by decide +kernel
theorem dX8_share_24 : decode cX8_share 24 = .ok (.ireturn, 1) := by decide +kernel
theorem dX8_share_25 : decode cX8_share 25 = .ok (.bipush (-6), 2) := by decide +kernel
theorem dX8_share_27 : decode cX8_share 27 = .ok (.istore_n 3, 1) := by decide +kernel
theorem dX8_share_28 : decode cX8_share 28 = .ok (.bipush 10, 2) := by decide +kernel
theorem dX8_share_30 : decode cX8_share 30 = .ok (.istore 4, 2) := by decide +kernel
theorem dX8_share_32 : decode cX8_share 32 = .ok (.iload 4, 2) := by decide +kernel
theorem dX8_share_34 : decode cX8_share 34 = .ok (.ifCond .lt 39, 3) := by decide +kernel
theorem dX8_share_37 : decode cX8_share 37 = .ok (.aload_n 0, 1) := by decide +kernel
theorem dX8_share_38 : decode cX8_share 38 = .ok (.iload_n 1, 1) := by decide +kernel
theorem dX8_share_39 : decode cX8_share 39 = .ok (.aload_n 0, 1) := by decide +kernel
theorem dX8_share_40 : decode cX8_share 40 = .ok (.iload_n 1, 1) := by decide +kernel
theorem dX8_share_41 : decode cX8_share 41 = .ok (.invokevirtual 148, 3) := by decide +kernel
theorem dX8_share_44 : decode cX8_share 44 = .ok (.bipush 10, 2) := by decide +kernel
theorem dX8_share_46 : decode cX8_share 46 = .ok (.iload 4, 2) := by decide +kernel
theorem dX8_share_48 : decode cX8_share 48 = .ok (.isub, 1) := by decide +kernel
theorem dX8_share_49 : decode cX8_share 49 = .ok (.imul, 1) := by decide +kernel
theorem dX8_share_50 : decode cX8_share 50 = .ok (.bipush 10, 2) := by decide +kernel
theorem dX8_share_52 : decode cX8_share 52 = .ok (.idiv, 1) := by decide +kernel
theorem dX8_share_53 : decode cX8_share 53 = .ok (.invokevirtual 234, 3) := by decide +kernel
theorem dX8_share_56 : decode cX8_share 56 = .ok (.iload_n 2, 1) := by decide +kernel
theorem dX8_share_57 : decode cX8_share 57 = .ok (.if_icmp .gt 8, 3) := by decide +kernel
theorem dX8_share_60 : decode cX8_share 60 = .ok (.iload 4, 2) := by decide +kernel
theorem dX8_share_62 : decode cX8_share 62 = .ok (.goto 4, 3) := by decide +kernel
theorem dX8_share_65 : decode cX8_share 65 = .ok (.iload_n 3, 1) := by decide +kernel
theorem dX8_share_66 : decode cX8_share 66 = .ok (.istore_n 3, 1) := by decide +kernel
theorem dX8_share_67 : decode cX8_share 67 = .ok (.iinc 4 (-1), 3) := by decide +kernel
theorem dX8_share_70 : decode cX8_share 70 = .ok (.goto (-38), 3) := by decide +kernel
theorem dX8_share_73 : decode cX8_share 73 = .ok (.iload_n 3, 1) := by decide +kernel
theorem dX8_share_74 : decode cX8_share 74 = .ok (.ireturn, 1) := by decide +kernel
theorem dX8_oneMore_0 : decode cX8_oneMore 0 = .ok (.bipush 6, 2) := by decide +kernel
theorem dX8_oneMore_2 : decode cX8_oneMore 2 = .ok (.istore_n 2, 1) := by decide +kernel
theorem dX8_oneMore_3 : decode cX8_oneMore 3 = .ok (.iload_n 2, 1) := by decide +kernel
theorem dX8_oneMore_4 : decode cX8_oneMore 4 = .ok (.ifCond .lt 49, 3) := by decide +kernel
theorem dX8_oneMore_7 : decode cX8_oneMore 7 = .ok (.iload_n 2, 1) := by decide +kernel
theorem dX8_oneMore_8 : decode cX8_oneMore 8 = .ok (.ifCond .ne 7, 3) := by decide +kernel
theorem dX8_oneMore_11 : decode cX8_oneMore 11 = .ok (.lconst 0, 1) := by decide +kernel
theorem dX8_oneMore_12 : decode cX8_oneMore 12 = .ok (.goto 11, 3) := by decide +kernel
theorem dX8_oneMore_15 : decode cX8_oneMore 15 = .ok (.aload_n 0, 1) := by decide +kernel
theorem dX8_oneMore_16 : decode cX8_oneMore 16 = .ok (.getfield 49, 3) := by decide +kernel
theorem dX8_oneMore_19 : decode cX8_oneMore 19 = .ok (.iload_n 2, 1) := by decide +kernel
theorem dX8_oneMore_20 : decode cX8_oneMore 20 = .ok (.iconst 1, 1) := by decide +kernel
theorem dX8_oneMore_21 : decode cX8_oneMore 21 = .ok (.isub, 1) := by decide +kernel
theorem dX8_oneMore_22 : decode cX8_oneMore 22 = .ok (.laload, 1) := by decide +kernel
theorem dX8_oneMore_23 : decode cX8_oneMore 23 = .ok (.lstore_n 3, 1) := by decide +kernel
theorem dX8_oneMore_24 : decode cX8_oneMore 24 = .ok (.aload_n 0, 1) := by decide +kernel
theorem dX8_oneMore_25 : decode cX8_oneMore 25 = .ok (.getfield 49, 3) := by decide +kernel
theorem dX8_oneMore_28 : decode cX8_oneMore 28 = .ok (.iload_n 2, 1) := by decide +kernel
theorem dX8_oneMore_29 : decode cX8_oneMore 29 = .ok (.aload_n 0, 1) := by decide +kernel
theorem dX8_oneMore_30 : decode cX8_oneMore 30 = .ok (.getfield 49, 3) := by decide +kernel
theorem dX8_oneMore_33 : decode cX8_oneMore 33 = .ok (.iload_n 2, 1) := by decide +kernel
theorem dX8_oneMore_34 : decode cX8_oneMore 34 = .ok (.laload, 1) := by decide +kernel
theorem dX8_oneMore_35 : decode cX8_oneMore 35 = .ok (.bipush 100, 2) := by decide +kernel
theorem dX8_oneMore_37 : decode cX8_oneMore 37 = .ok (.iload_n 1, 1) := by decide +kernel
theorem dX8_oneMore_38 : decode cX8_oneMore 38 = .ok (.isub, 1) := by decide +kernel
theorem dX8_oneMore_39 : decode cX8_oneMore 39 = .ok (.i2l, 1) := by decide +kernel
theorem dX8_oneMore_40 : decode cX8_oneMore 40 = .ok (.lmul, 1) := by decide +kernel
theorem dX8_oneMore_41 : decode cX8_oneMore 41 = .ok (.lload_n 3, 1) := by decide +kernel
theorem dX8_oneMore_42 : decode cX8_oneMore 42 = .ok (.iload_n 1, 1) := by decide +kernel
theorem dX8_oneMore_43 : decode cX8_oneMore 43 = .ok (.i2l, 1) := by decide +kernel
theorem dX8_oneMore_44 : decode cX8_oneMore 44 = .ok (.lmul, 1) := by decide +kernel
theorem dX8_oneMore_45 : decode cX8_oneMore 45 = .ok (.ladd, 1) := by decide +kernel
theorem dX8_oneMore_46 : decode cX8_oneMore 46 = .ok (.lastore, 1) := by decide +kernel
theorem dX8_oneMore_47 : decode cX8_oneMore 47 = .ok (.iinc 2 (-1), 3) := by decide +kernel
theorem dX8_oneMore_50 : decode cX8_oneMore 50 = .ok (.goto (-47), 3) := by decide +kernel
theorem dX8_oneMore_53 : decode cX8_oneMore 53 = .ok (.return_, 1) := by decide +kernel
theorem dX8_isAfloat_0 : decode cX8_isAfloat 0 = .ok (.aload_n 0, 1) := by decide +kernel
theorem dX8_isAfloat_1 : decode cX8_isAfloat 1 = .ok (.iload_n 1, 1) := by decide +kernel
theorem dX8_isAfloat_2 : decode cX8_isAfloat 2 = .ok (.invokevirtual 95, 3) := by decide +kernel
theorem dX8_isAfloat_5 : decode cX8_isAfloat 5 = .ok (.ifCond .eq 19, 3) := by decide +kernel
theorem dX8_isAfloat_8 : decode cX8_isAfloat 8 = .ok (.aload_n 0, 1) := by decide +kernel
theorem dX8_isAfloat_9 : decode cX8_isAfloat 9 = .ok (.getfield 88, 3) := by decide +kernel
theorem dX8_isAfloat_12 : decode cX8_isAfloat 12 = .ok (.iload_n 1, 1) := by decide +kernel
theorem dX8_isAfloat_13 : decode cX8_isAfloat 13 = .ok (.ishr, 1) := by decide +kernel
theorem dX8_isAfloat_14 : decode cX8_isAfloat 14 = .ok (.iconst 1, 1) := by decide +kernel
theorem dX8_isAfloat_15 : decode cX8_isAfloat 15 = .ok (.iand, 1) := by decide +kernel
theorem dX8_isAfloat_16 : decode cX8_isAfloat 16 = .ok (.iconst 1, 1) := by decide +kernel
theorem dX8_isAfloat_17 : decode cX8_isAfloat 17 = .ok (.if_icmp .ne 7, 3) := by decide +kernel
theorem dX8_isAfloat_20 : decode cX8_isAfloat 20 = .ok (.iconst 1, 1) := by decide +kernel
theorem dX8_isAfloat_21 : decode cX8_isAfloat 21 = .ok (.goto 4, 3) := by decide +kernel
theorem dX8_isAfloat_24 : decode cX8_isAfloat 24 = .ok (.iconst 0, 1) := by decide +kernel
theorem dX8_isAfloat_25 : decode cX8_isAfloat 25 = .ok (.ireturn, 1) := by decide +kernel
theorem dX8_meanOfAll_0 : decode cX8_meanOfAll 0 = .ok (.lconst 0, 1) := by decide +kernel
theorem dX8_meanOfAll_1 : decode cX8_meanOfAll 1 = .ok (.lstore_n 1, 1) := by decide +kernel
theorem dX8_meanOfAll_2 : decode cX8_meanOfAll 2 = .ok (.iconst 0, 1) := by decide +kernel
theorem dX8_meanOfAll_3 : decode cX8_meanOfAll 3 = .ok (.istore_n 3, 1) := by decide +kernel
theorem dX8_meanOfAll_4 : decode cX8_meanOfAll 4 = .ok (.iload_n 3, 1) := by decide +kernel
theorem dX8_meanOfAll_5 : decode cX8_meanOfAll 5 = .ok (.bipush 6, 2) := by decide +kernel
theorem dX8_meanOfAll_7 : decode cX8_meanOfAll 7 = .ok (.if_icmp .ge 41, 3) := by decide +kernel
theorem dX8_meanOfAll_10 : decode cX8_meanOfAll 10 = .ok (.lload_n 1, 1) := by decide +kernel
theorem dX8_meanOfAll_11 : decode cX8_meanOfAll 11 = .ok (.aload_n 0, 1) := by decide +kernel
theorem dX8_meanOfAll_12 : decode cX8_meanOfAll 12 = .ok (.iload_n 3, 1) := by decide +kernel
theorem dX8_meanOfAll_13 : decode cX8_meanOfAll 13 = .ok (.invokevirtual 237, 3) := by decide +kernel
theorem dX8_meanOfAll_16 : decode cX8_meanOfAll 16 = .ok (.ifCond .eq 23, 3) := by decide +kernel
theorem dX8_meanOfAll_19 : decode cX8_meanOfAll 19 = .ok (.aload_n 0, 1) := by decide +kernel
theorem dX8_meanOfAll_20 : decode cX8_meanOfAll 20 = .ok (.iload_n 3, 1) := by decide +kernel
theorem dX8_meanOfAll_21 : decode cX8_meanOfAll 21 = .ok (.aload_n 0, 1) := by decide +kernel
theorem dX8_meanOfAll_22 : decode cX8_meanOfAll 22 = .ok (.getfield 19, 3) := by decide +kernel
theorem dX8_meanOfAll_25 : decode cX8_meanOfAll 25 = .ok (.iload_n 3, 1) := by decide +kernel
theorem dX8_meanOfAll_26 : decode cX8_meanOfAll 26 = .ok (.iaload, 1) := by decide +kernel
theorem dX8_meanOfAll_27 : decode cX8_meanOfAll 27 = .ok (.aload_n 0, 1) := by decide +kernel
theorem dX8_meanOfAll_28 : decode cX8_meanOfAll 28 = .ok (.iload_n 3, 1) := by decide +kernel
theorem dX8_meanOfAll_29 : decode cX8_meanOfAll 29 = .ok (.invokevirtual 148, 3) := by decide +kernel
theorem dX8_meanOfAll_32 : decode cX8_meanOfAll 32 = .ok (.invokevirtual 225, 3) := by decide +kernel
theorem dX8_meanOfAll_35 : decode cX8_meanOfAll 35 = .ok (.i2l, 1) := by decide +kernel
theorem dX8_meanOfAll_36 : decode cX8_meanOfAll 36 = .ok (.goto 4, 3) := by decide +kernel
theorem dX8_meanOfAll_39 : decode cX8_meanOfAll 39 = .ok (.lconst 0, 1) := by decide +kernel
theorem dX8_meanOfAll_40 : decode cX8_meanOfAll 40 = .ok (.ladd, 1) := by decide +kernel
theorem dX8_meanOfAll_41 : decode cX8_meanOfAll 41 = .ok (.lstore_n 1, 1) := by decide +kernel
theorem dX8_meanOfAll_42 : decode cX8_meanOfAll 42 = .ok (.iinc 3 1, 3) := by decide +kernel
theorem dX8_meanOfAll_45 : decode cX8_meanOfAll 45 = .ok (.goto (-41), 3) := by decide +kernel
theorem dX8_meanOfAll_48 : decode cX8_meanOfAll 48 = .ok (.lload_n 1, 1) := by decide +kernel
theorem dX8_meanOfAll_49 : decode cX8_meanOfAll 49 = .ok (.lreturn, 1) := by decide +kernel
theorem dX8_losses_0 : decode cX8_losses 0 = .ok (.iload_n 1, 1) := by decide +kernel
theorem dX8_losses_1 : decode cX8_losses 1 = .ok (.i2l, 1) := by decide +kernel
theorem dX8_losses_2 : decode cX8_losses 2 = .ok (.ldc2_w 240, 3) := by decide +kernel
theorem dX8_losses_5 : decode cX8_losses 5 = .ok (.ldc2_w 242, 3) := by decide +kernel
theorem dX8_losses_8 : decode cX8_losses 8 = .ok (.invokestatic 75, 3) := by decide +kernel
theorem dX8_losses_11 : decode cX8_losses 11 = .ok (.ifCond .eq 13, 3) := by decide +kernel
theorem dX8_losses_14 : decode cX8_losses 14 = .ok (.iload_n 2, 1) := by decide +kernel
theorem dX8_losses_15 : decode cX8_losses 15 = .ok (.i2l, 1) := by decide +kernel
theorem dX8_losses_16 : decode cX8_losses 16 = .ok (.lconst 0, 1) := by decide +kernel
theorem dX8_losses_17 : decode cX8_losses 17 = .ok (.lconst 1, 1) := by decide +kernel
theorem dX8_losses_18 : decode cX8_losses 18 = .ok (.invokestatic 75, 3) := by decide +kernel
theorem dX8_losses_21 : decode cX8_losses 21 = .ok (.ifCond .ne 7, 3) := by decide +kernel
theorem dX8_losses_24 : decode cX8_losses 24 = .ok (.ldc2_w 223, 3) := by decide +kernel
theorem dX8_losses_27 : decode cX8_losses 27 = .ok (.lreturn, 1) := by decide +kernel
theorem dX8_losses_28 : decode cX8_losses 28 = .ok (.iload_n 1, 1) := by decide +kernel
theorem dX8_losses_29 : decode cX8_losses 29 = .ok (.ifCond .ge 15, 3) := by decide +kernel
theorem dX8_losses_32 : decode cX8_losses 32 = .ok (.aload_n 0, 1) := by decide +kernel
theorem dX8_losses_33 : decode cX8_losses 33 = .ok (.invokevirtual 244, 3) := by decide +kernel
theorem dX8_losses_36 : decode cX8_losses 36 = .ok (.ldc2_w 228, 3) := by decide +kernel
theorem dX8_losses_39 : decode cX8_losses 39 = .ok (.iload_n 2, 1) := by decide +kernel
theorem dX8_losses_40 : decode cX8_losses 40 = .ok (.invokestatic 230, 3) := by decide +kernel
theorem dX8_losses_43 : decode cX8_losses 43 = .ok (.lreturn, 1) := by decide +kernel
theorem dX8_losses_44 : decode cX8_losses 44 = .ok (.iconst 0, 1) := by decide +kernel
theorem dX8_losses_45 : decode cX8_losses 45 = .ok (.istore_n 3, 1) := by decide +kernel
theorem dX8_losses_46 : decode cX8_losses 46 = .ok (.iload_n 3, 1) := by decide +kernel
theorem dX8_losses_47 : decode cX8_losses 47 = .ok (.bipush 7, 2) := by decide +kernel
theorem dX8_losses_49 : decode cX8_losses 49 = .ok (.if_icmp .ge 24, 3) := by decide +kernel
theorem dX8_losses_52 : decode cX8_losses 52 = .ok (.aload_n 0, 1) := by decide +kernel
theorem dX8_losses_53 : decode cX8_losses 53 = .ok (.getfield 49, 3) := by decide +kernel
theorem dX8_losses_56 : decode cX8_losses 56 = .ok (.iload_n 3, 1) := by decide +kernel
theorem dX8_losses_57 : decode cX8_losses 57 = .ok (.iload_n 3, 1) := by decide +kernel
theorem dX8_losses_58 : decode cX8_losses 58 = .ok (.ifCond .ne 7, 3) := by decide +kernel
theorem dX8_losses_61 : decode cX8_losses 61 = .ok (.lconst 1, 1) := by decide +kernel
theorem dX8_losses_62 : decode cX8_losses 62 = .ok (.goto 4, 3) := by decide +kernel
theorem dX8_losses_65 : decode cX8_losses 65 = .ok (.lconst 0, 1) := by decide +kernel
theorem dX8_losses_66 : decode cX8_losses 66 = .ok (.lastore, 1) := by decide +kernel
theorem dX8_losses_67 : decode cX8_losses 67 = .ok (.iinc 3 1, 3) := by decide +kernel
theorem dX8_losses_70 : decode cX8_losses 70 = .ok (.goto (-24), 3) := by decide +kernel
theorem dX8_losses_73 : decode cX8_losses 73 = .ok (.lconst 1, 1) := by decide +kernel
theorem dX8_losses_74 : decode cX8_losses 74 = .ok (.lstore_n 3, 1) := by decide +kernel
theorem dX8_losses_75 : decode cX8_losses 75 = .ok (.iconst 0, 1) := by decide +kernel
theorem dX8_losses_76 : decode cX8_losses 76 = .ok (.istore 5, 2) := by decide +kernel
theorem dX8_losses_78 : decode cX8_losses 78 = .ok (.iload 5, 2) := by decide +kernel
theorem dX8_losses_80 : decode cX8_losses 80 = .ok (.bipush 6, 2) := by decide +kernel
theorem dX8_losses_82 : decode cX8_losses 82 = .ok (.if_icmp .ge 34, 3) := by decide +kernel
theorem dX8_losses_85 : decode cX8_losses 85 = .ok (.aload_n 0, 1) := by decide +kernel
theorem dX8_losses_86 : decode cX8_losses 86 = .ok (.iload 5, 2) := by decide +kernel
theorem dX8_losses_88 : decode cX8_losses 88 = .ok (.invokevirtual 237, 3) := by decide +kernel
theorem dX8_losses_91 : decode cX8_losses 91 = .ok (.ifCond .eq 19, 3) := by decide +kernel
theorem dX8_losses_94 : decode cX8_losses 94 = .ok (.aload_n 0, 1) := by decide +kernel
theorem dX8_losses_95 : decode cX8_losses 95 = .ok (.aload_n 0, 1) := by decide +kernel
theorem dX8_losses_96 : decode cX8_losses 96 = .ok (.iload 5, 2) := by decide +kernel
theorem dX8_losses_98 : decode cX8_losses 98 = .ok (.invokevirtual 139, 3) := by decide +kernel
theorem dX8_losses_101 : decode cX8_losses 101 = .ok (.invokevirtual 248, 3) := by decide +kernel
theorem dX8_losses_104 : decode cX8_losses 104 = .ok (.lload_n 3, 1) := by decide +kernel
theorem dX8_losses_105 : decode cX8_losses 105 = .ok (.ldc2_w 228, 3) := by decide +kernel
theorem dX8_losses_108 : decode cX8_losses 108 = .ok (.lmul, 1) := by decide +kernel
theorem dX8_losses_109 : decode cX8_losses 109 = .ok (.lstore_n 3, 1) := by decide +kernel
theorem dX8_losses_110 : decode cX8_losses 110 = .ok (.iinc 5 1, 3) := by decide +kernel
theorem dX8_losses_113 : decode cX8_losses 113 = .ok (.goto (-35), 3) := by decide +kernel
theorem dX8_losses_116 : decode cX8_losses 116 = .ok (.lconst 0, 1) := by decide +kernel
theorem dX8_losses_117 : decode cX8_losses 117 = .ok (.lstore 5, 2) := by decide +kernel
theorem dX8_losses_119 : decode cX8_losses 119 = .ok (.iload_n 1, 1) := by decide +kernel
theorem dX8_losses_120 : decode cX8_losses 120 = .ok (.istore 7, 2) := by decide +kernel
theorem dX8_losses_122 : decode cX8_losses 122 = .ok (.iload 7, 2) := by decide +kernel
theorem dX8_losses_124 : decode cX8_losses 124 = .ok (.bipush 7, 2) := by decide +kernel
theorem dX8_losses_126 : decode cX8_losses 126 = .ok (.if_icmp .ge 21, 3) := by decide +kernel
theorem dX8_losses_129 : decode cX8_losses 129 = .ok (.lload 5, 2) := by decide +kernel
theorem dX8_losses_131 : decode cX8_losses 131 = .ok (.aload_n 0, 1) := by decide +kernel
theorem dX8_losses_132 : decode cX8_losses 132 = .ok (.getfield 49, 3) := by decide +kernel
theorem dX8_losses_135 : decode cX8_losses 135 = .ok (.iload 7, 2) := by decide +kernel
theorem dX8_losses_137 : decode cX8_losses 137 = .ok (.laload, 1) := by decide +kernel
theorem dX8_losses_138 : decode cX8_losses 138 = .ok (.ladd, 1) := by decide +kernel
theorem dX8_losses_139 : decode cX8_losses 139 = .ok (.lstore 5, 2) := by decide +kernel
theorem dX8_losses_141 : decode cX8_losses 141 = .ok (.iinc 7 1, 3) := by decide +kernel
theorem dX8_losses_144 : decode cX8_losses 144 = .ok (.goto (-22), 3) := by decide +kernel
theorem dX8_losses_147 : decode cX8_losses 147 = .ok (.lload 5, 2) := by decide +kernel
theorem dX8_losses_149 : decode cX8_losses 149 = .ok (.lload_n 3, 1) := by decide +kernel
theorem dX8_losses_150 : decode cX8_losses 150 = .ok (.iload_n 2, 1) := by decide +kernel
theorem dX8_losses_151 : decode cX8_losses 151 = .ok (.invokestatic 230, 3) := by decide +kernel
theorem dX8_losses_154 : decode cX8_losses 154 = .ok (.lreturn, 1) := by decide +kernel
theorem dX8_digitsOf_0 : decode cX8_digitsOf 0 = .ok (.iload_n 0, 1) := by decide +kernel
theorem dX8_digitsOf_1 : decode cX8_digitsOf 1 = .ok (.istore_n 3, 1) := by decide +kernel
theorem dX8_digitsOf_2 : decode cX8_digitsOf 2 = .ok (.iconst 0, 1) := by decide +kernel
theorem dX8_digitsOf_3 : decode cX8_digitsOf 3 = .ok (.istore 4, 2) := by decide +kernel
theorem dX8_digitsOf_5 : decode cX8_digitsOf 5 = .ok (.iconst 0, 1) := by decide +kernel
theorem dX8_digitsOf_6 : decode cX8_digitsOf 6 = .ok (.istore 5, 2) := by decide +kernel
theorem dX8_digitsOf_8 : decode cX8_digitsOf 8 = .ok (.iload 5, 2) := by decide +kernel
theorem dX8_digitsOf_10 : decode cX8_digitsOf 10 = .ok (.bipush 6, 2) := by decide +kernel
theorem dX8_digitsOf_12 : decode cX8_digitsOf 12 = .ok (.if_icmp .ge 52, 3) := by decide +kernel
theorem dX8_digitsOf_15 : decode cX8_digitsOf 15 = .ok (.iload_n 2, 1) := by decide +kernel
theorem dX8_digitsOf_16 : decode cX8_digitsOf 16 = .ok (.ifCond .eq 10, 3) := by decide +kernel
theorem dX8_digitsOf_19 : decode cX8_digitsOf 19 = .ok (.iconst 5, 1) := by decide +kernel
theorem dX8_digitsOf_20 : decode cX8_digitsOf 20 = .ok (.iload 5, 2) := by decide +kernel
theorem dX8_digitsOf_22 : decode cX8_digitsOf 22 = .ok (.isub, 1) := by decide +kernel
theorem dX8_digitsOf_23 : decode cX8_digitsOf 23 = .ok (.goto 5, 3) := by decide +kernel
theorem dX8_digitsOf_26 : decode cX8_digitsOf 26 = .ok (.iload 5, 2) := by decide +kernel
theorem dX8_digitsOf_28 : decode cX8_digitsOf 28 = .ok (.istore 6, 2) := by decide +kernel
theorem dX8_digitsOf_30 : decode cX8_digitsOf 30 = .ok (.iload 4, 2) := by decide +kernel
theorem dX8_digitsOf_32 : decode cX8_digitsOf 32 = .ok (.iload_n 1, 1) := by decide +kernel
theorem dX8_digitsOf_33 : decode cX8_digitsOf 33 = .ok (.iload 6, 2) := by decide +kernel
theorem dX8_digitsOf_35 : decode cX8_digitsOf 35 = .ok (.ishr, 1) := by decide +kernel
theorem dX8_digitsOf_36 : decode cX8_digitsOf 36 = .ok (.iconst 1, 1) := by decide +kernel
theorem dX8_digitsOf_37 : decode cX8_digitsOf 37 = .ok (.iand, 1) := by decide +kernel
theorem dX8_digitsOf_38 : decode cX8_digitsOf 38 = .ok (.iconst 1, 1) := by decide +kernel
theorem dX8_digitsOf_39 : decode cX8_digitsOf 39 = .ok (.if_icmp .ne 10, 3) := by decide +kernel
theorem dX8_digitsOf_42 : decode cX8_digitsOf 42 = .ok (.iload_n 3, 1) := by decide +kernel
theorem dX8_digitsOf_43 : decode cX8_digitsOf 43 = .ok (.bipush 10, 2) := by decide +kernel
theorem dX8_digitsOf_45 : decode cX8_digitsOf 45 = .ok (.irem, 1) := by decide +kernel
theorem dX8_digitsOf_46 : decode cX8_digitsOf 46 = .ok (.goto 4, 3) := by decide +kernel
theorem dX8_digitsOf_49 : decode cX8_digitsOf 49 = .ok (.iconst 0, 1) := by decide +kernel
theorem dX8_digitsOf_50 : decode cX8_digitsOf 50 = .ok (.iadd, 1) := by decide +kernel
theorem dX8_digitsOf_51 : decode cX8_digitsOf 51 = .ok (.istore 4, 2) := by decide +kernel
theorem dX8_digitsOf_53 : decode cX8_digitsOf 53 = .ok (.iload_n 3, 1) := by decide +kernel
theorem dX8_digitsOf_54 : decode cX8_digitsOf 54 = .ok (.bipush 10, 2) := by decide +kernel
theorem dX8_digitsOf_56 : decode cX8_digitsOf 56 = .ok (.idiv, 1) := by decide +kernel
theorem dX8_digitsOf_57 : decode cX8_digitsOf 57 = .ok (.istore_n 3, 1) := by decide +kernel
theorem dX8_digitsOf_58 : decode cX8_digitsOf 58 = .ok (.iinc 5 1, 3) := by decide +kernel
theorem dX8_digitsOf_61 : decode cX8_digitsOf 61 = .ok (.goto (-53), 3) := by decide +kernel
theorem dX8_digitsOf_64 : decode cX8_digitsOf 64 = .ok (.iload 4, 2) := by decide +kernel
theorem dX8_digitsOf_66 : decode cX8_digitsOf 66 = .ok (.ireturn, 1) := by decide +kernel
theorem dX8_fleet_0 : decode cX8_fleet 0 = .ok (.iload_n 1, 1) := by decide +kernel
theorem dX8_fleet_1 : decode cX8_fleet 1 = .ok (.i2l, 1) := by decide +kernel
theorem dX8_fleet_2 : decode cX8_fleet 2 = .ok (.lconst 0, 1) := by decide +kernel
theorem dX8_fleet_3 : decode cX8_fleet 3 = .ok (.ldc2_w 251, 3) := by decide +kernel
theorem dX8_fleet_6 : decode cX8_fleet 6 = .ok (.invokestatic 75, 3) := by decide +kernel
theorem dX8_fleet_9 : decode cX8_fleet 9 = .ok (.ifCond .eq 38, 3) := by decide +kernel
theorem dX8_fleet_12 : decode cX8_fleet 12 = .ok (.iload_n 2, 1) := by decide +kernel
theorem dX8_fleet_13 : decode cX8_fleet 13 = .ok (.i2l, 1) := by decide +kernel
theorem dX8_fleet_14 : decode cX8_fleet 14 = .ok (.lconst 0, 1) := by decide +kernel
theorem dX8_fleet_15 : decode cX8_fleet 15 = .ok (.ldc2_w 251, 3) := by decide +kernel
theorem dX8_fleet_18 : decode cX8_fleet 18 = .ok (.invokestatic 75, 3) := by decide +kernel
theorem dX8_fleet_21 : decode cX8_fleet 21 = .ok (.ifCond .eq 26, 3) := by decide +kernel
theorem dX8_fleet_24 : decode cX8_fleet 24 = .ok (.iload_n 3, 1) := by decide +kernel
theorem dX8_fleet_25 : decode cX8_fleet 25 = .ok (.i2l, 1) := by decide +kernel
theorem dX8_fleet_26 : decode cX8_fleet 26 = .ok (.lconst 0, 1) := by decide +kernel
theorem dX8_fleet_27 : decode cX8_fleet 27 = .ok (.ldc2_w 253, 3) := by decide +kernel
theorem dX8_fleet_30 : decode cX8_fleet 30 = .ok (.invokestatic 75, 3) := by decide +kernel
theorem dX8_fleet_33 : decode cX8_fleet 33 = .ok (.ifCond .eq 14, 3) := by decide +kernel
theorem dX8_fleet_36 : decode cX8_fleet 36 = .ok (.iload 4, 2) := by decide +kernel
theorem dX8_fleet_38 : decode cX8_fleet 38 = .ok (.i2l, 1) := by decide +kernel
theorem dX8_fleet_39 : decode cX8_fleet 39 = .ok (.lconst 0, 1) := by decide +kernel
theorem dX8_fleet_40 : decode cX8_fleet 40 = .ok (.lconst 1, 1) := by decide +kernel
theorem dX8_fleet_41 : decode cX8_fleet 41 = .ok (.invokestatic 75, 3) := by decide +kernel
theorem dX8_fleet_44 : decode cX8_fleet 44 = .ok (.ifCond .ne 6, 3) := by decide +kernel
theorem dX8_fleet_47 : decode cX8_fleet 47 = .ok (.bipush (-2), 2) := by decide +kernel
theorem dX8_fleet_49 : decode cX8_fleet 49 = .ok (.ireturn, 1) := by decide +kernel
theorem dX8_fleet_50 : decode cX8_fleet 50 = .ok (.iconst 0, 1) := by decide +kernel
theorem dX8_fleet_51 : decode cX8_fleet 51 = .ok (.istore 5, 2) := by decide +kernel
theorem dX8_fleet_53 : decode cX8_fleet 53 = .ok (.iconst 1, 1) := by decide +kernel
theorem dX8_fleet_54 : decode cX8_fleet 54 = .ok (.istore 6, 2) := by decide +kernel
theorem dX8_fleet_56 : decode cX8_fleet 56 = .ok (.iload 6, 2) := by decide +kernel
theorem dX8_fleet_58 : decode cX8_fleet 58 = .ok (.bipush 64, 2) := by decide +kernel
theorem dX8_fleet_60 : decode cX8_fleet 60 = .ok (.if_icmp .ge 58, 3) := by decide +kernel
theorem dX8_fleet_63 : decode cX8_fleet 63 = .ok (.iload_n 1, 1) := by decide +kernel
theorem dX8_fleet_64 : decode cX8_fleet 64 = .ok (.iload 6, 2) := by decide +kernel
theorem dX8_fleet_66 : decode cX8_fleet 66 = .ok (.iconst 1, 1) := by decide +kernel
theorem dX8_fleet_67 : decode cX8_fleet 67 = .ok (.invokestatic 255, 3) := by decide +kernel
theorem dX8_fleet_70 : decode cX8_fleet 70 = .ok (.iload_n 3, 1) := by decide +kernel
theorem dX8_fleet_71 : decode cX8_fleet 71 = .ok (.if_icmp .gt 7, 3) := by decide +kernel
theorem dX8_fleet_74 : decode cX8_fleet 74 = .ok (.iconst 1, 1) := by decide +kernel
theorem dX8_fleet_75 : decode cX8_fleet 75 = .ok (.goto 4, 3) := by decide +kernel
theorem dX8_fleet_78 : decode cX8_fleet 78 = .ok (.iconst 0, 1) := by decide +kernel
theorem dX8_fleet_79 : decode cX8_fleet 79 = .ok (.istore 7, 2) := by decide +kernel
theorem dX8_fleet_81 : decode cX8_fleet 81 = .ok (.iload 7, 2) := by decide +kernel
theorem dX8_fleet_83 : decode cX8_fleet 83 = .ok (.ifCond .eq 25, 3) := by decide +kernel
theorem dX8_fleet_86 : decode cX8_fleet 86 = .ok (.iload_n 2, 1) := by decide +kernel
theorem dX8_fleet_87 : decode cX8_fleet 87 = .ok (.iload 6, 2) := by decide +kernel
theorem dX8_fleet_89 : decode cX8_fleet 89 = .ok (.iconst 1, 1) := by decide +kernel
theorem dX8_fleet_90 : decode cX8_fleet 90 = .ok (.invokestatic 255, 3) := by decide +kernel
theorem dX8_fleet_93 : decode cX8_fleet 93 = .ok (.iload_n 2, 1) := by decide +kernel
theorem dX8_fleet_94 : decode cX8_fleet 94 = .ok (.iload 5, 2) := by decide +kernel
theorem dX8_fleet_96 : decode cX8_fleet 96 = .ok (.iconst 1, 1) := by decide +kernel
theorem dX8_fleet_97 : decode cX8_fleet 97 = .ok (.invokestatic 255, 3) := by decide +kernel
theorem dX8_fleet_100 : decode cX8_fleet 100 = .ok (.if_icmp .le 8, 3) := by decide +kernel
theorem dX8_fleet_103 : decode cX8_fleet 103 = .ok (.iload 6, 2) := by decide +kernel
theorem dX8_fleet_105 : decode cX8_fleet 105 = .ok (.goto 5, 3) := by decide +kernel
theorem dX8_fleet_108 : decode cX8_fleet 108 = .ok (.iload 5, 2) := by decide +kernel
theorem dX8_fleet_110 : decode cX8_fleet 110 = .ok (.istore 5, 2) := by decide +kernel
theorem dX8_fleet_112 : decode cX8_fleet 112 = .ok (.iinc 6 1, 3) := by decide +kernel
theorem dX8_fleet_115 : decode cX8_fleet 115 = .ok (.goto (-59), 3) := by decide +kernel
theorem dX8_fleet_118 : decode cX8_fleet 118 = .ok (.iload 4, 2) := by decide +kernel
theorem dX8_fleet_120 : decode cX8_fleet 120 = .ok (.ifCond .ne 13, 3) := by decide +kernel
theorem dX8_fleet_123 : decode cX8_fleet 123 = .ok (.iload_n 2, 1) := by decide +kernel
theorem dX8_fleet_124 : decode cX8_fleet 124 = .ok (.iload 5, 2) := by decide +kernel
theorem dX8_fleet_126 : decode cX8_fleet 126 = .ok (.iconst 1, 1) := by decide +kernel
theorem dX8_fleet_127 : decode cX8_fleet 127 = .ok (.invokestatic 255, 3) := by decide +kernel
theorem dX8_fleet_130 : decode cX8_fleet 130 = .ok (.goto 5, 3) := by decide +kernel
theorem dX8_fleet_133 : decode cX8_fleet 133 = .ok (.iload 5, 2) := by decide +kernel
theorem dX8_fleet_135 : decode cX8_fleet 135 = .ok (.ireturn, 1) := by decide +kernel
theorem dX8_holds_0 : decode cX8_holds 0 = .ok (.iload_n 1, 1) := by decide +kernel
theorem dX8_holds_1 : decode cX8_holds 1 = .ok (.i2l, 1) := by decide +kernel
theorem dX8_holds_2 : decode cX8_holds 2 = .ok (.lconst 0, 1) := by decide +kernel
theorem dX8_holds_3 : decode cX8_holds 3 = .ok (.ldc2_w 251, 3) := by decide +kernel
theorem dX8_holds_6 : decode cX8_holds 6 = .ok (.invokestatic 75, 3) := by decide +kernel
theorem dX8_holds_9 : decode cX8_holds 9 = .ok (.ifCond .eq 13, 3) := by decide +kernel
theorem dX8_holds_12 : decode cX8_holds 12 = .ok (.iload_n 2, 1) := by decide +kernel
theorem dX8_holds_13 : decode cX8_holds 13 = .ok (.i2l, 1) := by decide +kernel
theorem dX8_holds_14 : decode cX8_holds 14 = .ok (.lconst 0, 1) := by decide +kernel
theorem dX8_holds_15 : decode cX8_holds 15 = .ok (.lconst 1, 1) := by decide +kernel
theorem dX8_holds_16 : decode cX8_holds 16 = .ok (.invokestatic 75, 3) := by decide +kernel
theorem dX8_holds_19 : decode cX8_holds 19 = .ok (.ifCond .ne 6, 3) := by decide +kernel
theorem dX8_holds_22 : decode cX8_holds 22 = .ok (.bipush (-2), 2) := by decide +kernel
theorem dX8_holds_24 : decode cX8_holds 24 = .ok (.ireturn, 1) := by decide +kernel
theorem dX8_holds_25 : decode cX8_holds 25 = .ok (.iload_n 1, 1) := by decide +kernel
theorem dX8_holds_26 : decode cX8_holds 26 = .ok (.bipush 63, 2) := by decide +kernel
theorem dX8_holds_28 : decode cX8_holds 28 = .ok (.iconst 0, 1) := by decide +kernel
theorem dX8_holds_29 : decode cX8_holds 29 = .ok (.invokestatic 255, 3) := by decide +kernel
theorem dX8_holds_32 : decode cX8_holds 32 = .ok (.istore_n 3, 1) := by decide +kernel
theorem dX8_holds_33 : decode cX8_holds 33 = .ok (.iconst 0, 1) := by decide +kernel
theorem dX8_holds_34 : decode cX8_holds 34 = .ok (.istore 4, 2) := by decide +kernel
theorem dX8_holds_36 : decode cX8_holds 36 = .ok (.iload_n 3, 1) := by decide +kernel
theorem dX8_holds_37 : decode cX8_holds 37 = .ok (.istore 5, 2) := by decide +kernel
theorem dX8_holds_39 : decode cX8_holds 39 = .ok (.iconst 1, 1) := by decide +kernel
theorem dX8_holds_40 : decode cX8_holds 40 = .ok (.istore 6, 2) := by decide +kernel
theorem dX8_holds_42 : decode cX8_holds 42 = .ok (.iload 6, 2) := by decide +kernel
theorem dX8_holds_44 : decode cX8_holds 44 = .ok (.bipush 64, 2) := by decide +kernel
theorem dX8_holds_46 : decode cX8_holds 46 = .ok (.if_icmp .ge 59, 3) := by decide +kernel
theorem dX8_holds_49 : decode cX8_holds 49 = .ok (.iconst 2, 1) := by decide +kernel
theorem dX8_holds_50 : decode cX8_holds 50 = .ok (.iload_n 1, 1) := by decide +kernel
theorem dX8_holds_51 : decode cX8_holds 51 = .ok (.iload 6, 2) := by decide +kernel
theorem dX8_holds_53 : decode cX8_holds 53 = .ok (.iconst 0, 1) := by decide +kernel
theorem dX8_holds_54 : decode cX8_holds 54 = .ok (.invokestatic 255, 3) := by decide +kernel
theorem dX8_holds_57 : decode cX8_holds 57 = .ok (.imul, 1) := by decide +kernel
theorem dX8_holds_58 : decode cX8_holds 58 = .ok (.iload_n 3, 1) := by decide +kernel
theorem dX8_holds_59 : decode cX8_holds 59 = .ok (.isub, 1) := by decide +kernel
theorem dX8_holds_60 : decode cX8_holds 60 = .ok (.i2l, 1) := by decide +kernel
theorem dX8_holds_61 : decode cX8_holds 61 = .ok (.invokestatic 217, 3) := by decide +kernel
theorem dX8_holds_64 : decode cX8_holds 64 = .ok (.l2i, 1) := by decide +kernel
theorem dX8_holds_65 : decode cX8_holds 65 = .ok (.istore 7, 2) := by decide +kernel
theorem dX8_holds_67 : decode cX8_holds 67 = .ok (.iload 7, 2) := by decide +kernel
theorem dX8_holds_69 : decode cX8_holds 69 = .ok (.iload 5, 2) := by decide +kernel
theorem dX8_holds_71 : decode cX8_holds 71 = .ok (.if_icmp .ge 8, 3) := by decide +kernel
theorem dX8_holds_74 : decode cX8_holds 74 = .ok (.iload 6, 2) := by decide +kernel
theorem dX8_holds_76 : decode cX8_holds 76 = .ok (.goto 5, 3) := by decide +kernel
theorem dX8_holds_79 : decode cX8_holds 79 = .ok (.iload 4, 2) := by decide +kernel
theorem dX8_holds_81 : decode cX8_holds 81 = .ok (.istore 4, 2) := by decide +kernel
theorem dX8_holds_83 : decode cX8_holds 83 = .ok (.iload 7, 2) := by decide +kernel
theorem dX8_holds_85 : decode cX8_holds 85 = .ok (.iload 5, 2) := by decide +kernel
theorem dX8_holds_87 : decode cX8_holds 87 = .ok (.if_icmp .ge 8, 3) := by decide +kernel
theorem dX8_holds_90 : decode cX8_holds 90 = .ok (.iload 7, 2) := by decide +kernel
theorem dX8_holds_92 : decode cX8_holds 92 = .ok (.goto 5, 3) := by decide +kernel
theorem dX8_holds_95 : decode cX8_holds 95 = .ok (.iload 5, 2) := by decide +kernel
theorem dX8_holds_97 : decode cX8_holds 97 = .ok (.istore 5, 2) := by decide +kernel
theorem dX8_holds_99 : decode cX8_holds 99 = .ok (.iinc 6 1, 3) := by decide +kernel
theorem dX8_holds_102 : decode cX8_holds 102 = .ok (.goto (-60), 3) := by decide +kernel
theorem dX8_holds_105 : decode cX8_holds 105 = .ok (.iload_n 2, 1) := by decide +kernel
theorem dX8_holds_106 : decode cX8_holds 106 = .ok (.ifCond .ne 8, 3) := by decide +kernel
theorem dX8_holds_109 : decode cX8_holds 109 = .ok (.iload 5, 2) := by decide +kernel
theorem dX8_holds_111 : decode cX8_holds 111 = .ok (.goto 5, 3) := by decide +kernel
theorem dX8_holds_114 : decode cX8_holds 114 = .ok (.iload 4, 2) := by decide +kernel
theorem dX8_holds_116 : decode cX8_holds 116 = .ok (.ireturn, 1) := by decide +kernel
theorem dX8_times_0 : decode cX8_times 0 = .ok (.lconst 1, 1) := by decide +kernel
theorem dX8_times_1 : decode cX8_times 1 = .ok (.lstore_n 3, 1) := by decide +kernel
theorem dX8_times_2 : decode cX8_times 2 = .ok (.iconst 0, 1) := by decide +kernel
theorem dX8_times_3 : decode cX8_times 3 = .ok (.istore 5, 2) := by decide +kernel
theorem dX8_times_5 : decode cX8_times 5 = .ok (.iload 5, 2) := by decide +kernel
theorem dX8_times_7 : decode cX8_times 7 = .ok (.iload_n 2, 1) := by decide +kernel
theorem dX8_times_8 : decode cX8_times 8 = .ok (.if_icmp .ge 13, 3) := by decide +kernel
theorem dX8_times_11 : decode cX8_times 11 = .ok (.lload_n 3, 1) := by decide +kernel
theorem dX8_times_12 : decode cX8_times 12 = .ok (.lload_n 0, 1) := by decide +kernel
theorem dX8_times_13 : decode cX8_times 13 = .ok (.lmul, 1) := by decide +kernel
theorem dX8_times_14 : decode cX8_times 14 = .ok (.lstore_n 3, 1) := by decide +kernel
theorem dX8_times_15 : decode cX8_times 15 = .ok (.iinc 5 1, 3) := by decide +kernel
theorem dX8_times_18 : decode cX8_times 18 = .ok (.goto (-13), 3) := by decide +kernel
theorem dX8_times_21 : decode cX8_times 21 = .ok (.lload_n 3, 1) := by decide +kernel
theorem dX8_times_22 : decode cX8_times 22 = .ok (.lreturn, 1) := by decide +kernel
theorem dX8_meant_0 : decode cX8_meant 0 = .ok (.iload_n 1, 1) := by decide +kernel
theorem dX8_meant_1 : decode cX8_meant 1 = .ok (.i2l, 1) := by decide +kernel
theorem dX8_meant_2 : decode cX8_meant 2 = .ok (.lconst 0, 1) := by decide +kernel
theorem dX8_meant_3 : decode cX8_meant 3 = .ok (.ldc2_w 228, 3) := by decide +kernel
theorem dX8_meant_6 : decode cX8_meant 6 = .ok (.invokestatic 75, 3) := by decide +kernel
theorem dX8_meant_9 : decode cX8_meant 9 = .ok (.ifCond .eq 50, 3) := by decide +kernel
theorem dX8_meant_12 : decode cX8_meant 12 = .ok (.iload_n 2, 1) := by decide +kernel
theorem dX8_meant_13 : decode cX8_meant 13 = .ok (.i2l, 1) := by decide +kernel
theorem dX8_meant_14 : decode cX8_meant 14 = .ok (.lconst 0, 1) := by decide +kernel
theorem dX8_meant_15 : decode cX8_meant 15 = .ok (.ldc2_w 228, 3) := by decide +kernel
theorem dX8_meant_18 : decode cX8_meant 18 = .ok (.invokestatic 75, 3) := by decide +kernel
theorem dX8_meant_21 : decode cX8_meant 21 = .ok (.ifCond .eq 38, 3) := by decide +kernel
theorem dX8_meant_24 : decode cX8_meant 24 = .ok (.iload_n 3, 1) := by decide +kernel
theorem dX8_meant_25 : decode cX8_meant 25 = .ok (.i2l, 1) := by decide +kernel
theorem dX8_meant_26 : decode cX8_meant 26 = .ok (.lconst 0, 1) := by decide +kernel
theorem dX8_meant_27 : decode cX8_meant 27 = .ok (.ldc2_w 242, 3) := by decide +kernel
theorem dX8_meant_30 : decode cX8_meant 30 = .ok (.invokestatic 75, 3) := by decide +kernel
theorem dX8_meant_33 : decode cX8_meant 33 = .ok (.ifCond .eq 26, 3) := by decide +kernel
theorem dX8_meant_36 : decode cX8_meant 36 = .ok (.iload 4, 2) := by decide +kernel
theorem dX8_meant_38 : decode cX8_meant 38 = .ok (.i2l, 1) := by decide +kernel
theorem dX8_meant_39 : decode cX8_meant 39 = .ok (.lconst 0, 1) := by decide +kernel
theorem dX8_meant_40 : decode cX8_meant 40 = .ok (.iload_n 3, 1) := by decide +kernel
theorem dX8_meant_41 : decode cX8_meant 41 = .ok (.i2l, 1) := by decide +kernel
theorem dX8_meant_42 : decode cX8_meant 42 = .ok (.invokestatic 75, 3) := by decide +kernel
theorem dX8_meant_45 : decode cX8_meant 45 = .ok (.ifCond .eq 14, 3) := by decide +kernel
theorem dX8_meant_48 : decode cX8_meant 48 = .ok (.iload 5, 2) := by decide +kernel
theorem dX8_meant_50 : decode cX8_meant 50 = .ok (.i2l, 1) := by decide +kernel
theorem dX8_meant_51 : decode cX8_meant 51 = .ok (.lconst 0, 1) := by decide +kernel
theorem dX8_meant_52 : decode cX8_meant 52 = .ok (.lconst 1, 1) := by decide +kernel
theorem dX8_meant_53 : decode cX8_meant 53 = .ok (.invokestatic 75, 3) := by decide +kernel
theorem dX8_meant_56 : decode cX8_meant 56 = .ok (.ifCond .ne 7, 3) := by decide +kernel
theorem dX8_meant_59 : decode cX8_meant 59 = .ok (.ldc2_w 223, 3) := by decide +kernel
theorem dX8_meant_62 : decode cX8_meant 62 = .ok (.lreturn, 1) := by decide +kernel
theorem dX8_meant_63 : decode cX8_meant 63 = .ok (.iload_n 1, 1) := by decide +kernel
theorem dX8_meant_64 : decode cX8_meant 64 = .ok (.i2l, 1) := by decide +kernel
theorem dX8_meant_65 : decode cX8_meant 65 = .ok (.iload 4, 2) := by decide +kernel
theorem dX8_meant_67 : decode cX8_meant 67 = .ok (.invokestatic 259, 3) := by decide +kernel
theorem dX8_meant_70 : decode cX8_meant 70 = .ok (.bipush 100, 2) := by decide +kernel
theorem dX8_meant_72 : decode cX8_meant 72 = .ok (.iload_n 1, 1) := by decide +kernel
theorem dX8_meant_73 : decode cX8_meant 73 = .ok (.isub, 1) := by decide +kernel
theorem dX8_meant_74 : decode cX8_meant 74 = .ok (.i2l, 1) := by decide +kernel
theorem dX8_meant_75 : decode cX8_meant 75 = .ok (.iload_n 3, 1) := by decide +kernel
theorem dX8_meant_76 : decode cX8_meant 76 = .ok (.iload 4, 2) := by decide +kernel
theorem dX8_meant_78 : decode cX8_meant 78 = .ok (.isub, 1) := by decide +kernel
theorem dX8_meant_79 : decode cX8_meant 79 = .ok (.invokestatic 259, 3) := by decide +kernel
theorem dX8_meant_82 : decode cX8_meant 82 = .ok (.lmul, 1) := by decide +kernel
theorem dX8_meant_83 : decode cX8_meant 83 = .ok (.lstore 6, 2) := by decide +kernel
theorem dX8_meant_85 : decode cX8_meant 85 = .ok (.iload_n 2, 1) := by decide +kernel
theorem dX8_meant_86 : decode cX8_meant 86 = .ok (.i2l, 1) := by decide +kernel
theorem dX8_meant_87 : decode cX8_meant 87 = .ok (.iload 4, 2) := by decide +kernel
theorem dX8_meant_89 : decode cX8_meant 89 = .ok (.invokestatic 259, 3) := by decide +kernel
theorem dX8_meant_92 : decode cX8_meant 92 = .ok (.bipush 100, 2) := by decide +kernel
theorem dX8_meant_94 : decode cX8_meant 94 = .ok (.iload_n 2, 1) := by decide +kernel
theorem dX8_meant_95 : decode cX8_meant 95 = .ok (.isub, 1) := by decide +kernel
theorem dX8_meant_96 : decode cX8_meant 96 = .ok (.i2l, 1) := by decide +kernel
theorem dX8_meant_97 : decode cX8_meant 97 = .ok (.iload_n 3, 1) := by decide +kernel
theorem dX8_meant_98 : decode cX8_meant 98 = .ok (.iload 4, 2) := by decide +kernel
theorem dX8_meant_100 : decode cX8_meant 100 = .ok (.isub, 1) := by decide +kernel
theorem dX8_meant_101 : decode cX8_meant 101 = .ok (.invokestatic 259, 3) := by decide +kernel
theorem dX8_meant_104 : decode cX8_meant 104 = .ok (.lmul, 1) := by decide +kernel
theorem dX8_meant_105 : decode cX8_meant 105 = .ok (.lstore 8, 2) := by decide +kernel
theorem dX8_meant_107 : decode cX8_meant 107 = .ok (.lload 6, 2) := by decide +kernel
theorem dX8_meant_109 : decode cX8_meant 109 = .ok (.lload 8, 2) := by decide +kernel
theorem dX8_meant_111 : decode cX8_meant 111 = .ok (.ladd, 1) := by decide +kernel
theorem dX8_meant_112 : decode cX8_meant 112 = .ok (.lconst 0, 1) := by decide +kernel
theorem dX8_meant_113 : decode cX8_meant 113 = .ok (.lcmp, 1) := by decide +kernel
theorem dX8_meant_114 : decode cX8_meant 114 = .ok (.ifCond .ne 9, 3) := by decide +kernel
theorem dX8_meant_117 : decode cX8_meant 117 = .ok (.iload 5, 2) := by decide +kernel
theorem dX8_meant_119 : decode cX8_meant 119 = .ok (.i2l, 1) := by decide +kernel
theorem dX8_meant_120 : decode cX8_meant 120 = .ok (.goto 15, 3) := by decide +kernel
theorem dX8_meant_123 : decode cX8_meant 123 = .ok (.lload 8, 2) := by decide +kernel
theorem dX8_meant_125 : decode cX8_meant 125 = .ok (.lload 6, 2) := by decide +kernel
theorem dX8_meant_127 : decode cX8_meant 127 = .ok (.lload 8, 2) := by decide +kernel
theorem dX8_meant_129 : decode cX8_meant 129 = .ok (.ladd, 1) := by decide +kernel
theorem dX8_meant_130 : decode cX8_meant 130 = .ok (.iload 5, 2) := by decide +kernel
theorem dX8_meant_132 : decode cX8_meant 132 = .ok (.invokestatic 230, 3) := by decide +kernel
theorem dX8_meant_135 : decode cX8_meant 135 = .ok (.lreturn, 1) := by decide +kernel
theorem dX8_tale_0 : decode cX8_tale 0 = .ok (.iload_n 1, 1) := by decide +kernel
theorem dX8_tale_1 : decode cX8_tale 1 = .ok (.i2l, 1) := by decide +kernel
theorem dX8_tale_2 : decode cX8_tale 2 = .ok (.lconst 0, 1) := by decide +kernel
theorem dX8_tale_3 : decode cX8_tale 3 = .ok (.ldc2_w 263, 3) := by decide +kernel
theorem dX8_tale_6 : decode cX8_tale 6 = .ok (.invokestatic 75, 3) := by decide +kernel
theorem dX8_tale_9 : decode cX8_tale 9 = .ok (.ifCond .eq 20, 3) := by decide +kernel
theorem dX8_tale_12 : decode cX8_tale 12 = .ok (.iload_n 2, 1) := by decide +kernel
theorem dX8_tale_13 : decode cX8_tale 13 = .ok (.i2l, 1) := by decide +kernel
theorem dX8_tale_14 : decode cX8_tale 14 = .ok (.lconst 0, 1) := by decide +kernel
theorem dX8_tale_15 : decode cX8_tale 15 = .ok (.ldc2_w 263, 3) := by decide +kernel
theorem dX8_tale_18 : decode cX8_tale 18 = .ok (.invokestatic 75, 3) := by decide +kernel
theorem dX8_tale_21 : decode cX8_tale 21 = .ok (.ifCond .eq 8, 3) := by decide +kernel
theorem dX8_tale_24 : decode cX8_tale 24 = .ok (.iload_n 1, 1) := by decide +kernel
theorem dX8_tale_25 : decode cX8_tale 25 = .ok (.iload_n 2, 1) := by decide +kernel
theorem dX8_tale_26 : decode cX8_tale 26 = .ok (.if_icmp .ne 5, 3) := by decide +kernel
theorem dX8_tale_29 : decode cX8_tale 29 = .ok (.iconst (-1), 1) := by decide +kernel
theorem dX8_tale_30 : decode cX8_tale 30 = .ok (.ireturn, 1) := by decide +kernel
theorem dX8_tale_31 : decode cX8_tale 31 = .ok (.aload_n 0, 1) := by decide +kernel
theorem dX8_tale_32 : decode cX8_tale 32 = .ok (.getfield 265, 3) := by decide +kernel
theorem dX8_tale_35 : decode cX8_tale 35 = .ok (.bipush 8, 2) := by decide +kernel
theorem dX8_tale_37 : decode cX8_tale 37 = .ok (.if_icmp .ne 6, 3) := by decide +kernel
theorem dX8_tale_40 : decode cX8_tale 40 = .ok (.bipush (-4), 2) := by decide +kernel
theorem dX8_tale_42 : decode cX8_tale 42 = .ok (.ireturn, 1) := by decide +kernel
theorem dX8_tale_43 : decode cX8_tale 43 = .ok (.aload_n 0, 1) := by decide +kernel
theorem dX8_tale_44 : decode cX8_tale 44 = .ok (.getfield 25, 3) := by decide +kernel
theorem dX8_tale_47 : decode cX8_tale 47 = .ok (.aload_n 0, 1) := by decide +kernel
theorem dX8_tale_48 : decode cX8_tale 48 = .ok (.getfield 265, 3) := by decide +kernel
theorem dX8_tale_51 : decode cX8_tale 51 = .ok (.iload_n 1, 1) := by decide +kernel
theorem dX8_tale_52 : decode cX8_tale 52 = .ok (.iastore, 1) := by decide +kernel
theorem dX8_tale_53 : decode cX8_tale 53 = .ok (.aload_n 0, 1) := by decide +kernel
theorem dX8_tale_54 : decode cX8_tale 54 = .ok (.getfield 28, 3) := by decide +kernel
theorem dX8_tale_57 : decode cX8_tale 57 = .ok (.aload_n 0, 1) := by decide +kernel
theorem dX8_tale_58 : decode cX8_tale 58 = .ok (.getfield 265, 3) := by decide +kernel
theorem dX8_tale_61 : decode cX8_tale 61 = .ok (.iload_n 2, 1) := by decide +kernel
theorem dX8_tale_62 : decode cX8_tale 62 = .ok (.iastore, 1) := by decide +kernel
theorem dX8_tale_63 : decode cX8_tale 63 = .ok (.aload_n 0, 1) := by decide +kernel
theorem dX8_tale_64 : decode cX8_tale 64 = .ok (.getfield 31, 3) := by decide +kernel
theorem dX8_tale_67 : decode cX8_tale 67 = .ok (.aload_n 0, 1) := by decide +kernel
theorem dX8_tale_68 : decode cX8_tale 68 = .ok (.getfield 265, 3) := by decide +kernel
theorem dX8_tale_71 : decode cX8_tale 71 = .ok (.iload_n 3, 1) := by decide +kernel
theorem dX8_tale_72 : decode cX8_tale 72 = .ok (.ifCond .eq 7, 3) := by decide +kernel
theorem dX8_tale_75 : decode cX8_tale 75 = .ok (.iconst 1, 1) := by decide +kernel
theorem dX8_tale_76 : decode cX8_tale 76 = .ok (.goto 4, 3) := by decide +kernel
theorem dX8_tale_79 : decode cX8_tale 79 = .ok (.iconst 0, 1) := by decide +kernel
theorem dX8_tale_80 : decode cX8_tale 80 = .ok (.iastore, 1) := by decide +kernel
theorem dX8_tale_81 : decode cX8_tale 81 = .ok (.aload_n 0, 1) := by decide +kernel
theorem dX8_tale_82 : decode cX8_tale 82 = .ok (.dup, 1) := by decide +kernel
theorem dX8_tale_83 : decode cX8_tale 83 = .ok (.getfield 265, 3) := by decide +kernel
theorem dX8_tale_86 : decode cX8_tale 86 = .ok (.iconst 1, 1) := by decide +kernel
theorem dX8_tale_87 : decode cX8_tale 87 = .ok (.iadd, 1) := by decide +kernel
theorem dX8_tale_88 : decode cX8_tale 88 = .ok (.putfield 265, 3) := by decide +kernel
theorem dX8_tale_91 : decode cX8_tale 91 = .ok (.aload_n 0, 1) := by decide +kernel
theorem dX8_tale_92 : decode cX8_tale 92 = .ok (.getfield 265, 3) := by decide +kernel
theorem dX8_tale_95 : decode cX8_tale 95 = .ok (.ireturn, 1) := by decide +kernel
theorem dX8_forget_0 : decode cX8_forget 0 = .ok (.aload_n 0, 1) := by decide +kernel
theorem dX8_forget_1 : decode cX8_forget 1 = .ok (.getfield 265, 3) := by decide +kernel
theorem dX8_forget_4 : decode cX8_forget 4 = .ok (.istore_n 1, 1) := by decide +kernel
theorem dX8_forget_5 : decode cX8_forget 5 = .ok (.aload_n 0, 1) := by decide +kernel
theorem dX8_forget_6 : decode cX8_forget 6 = .ok (.iconst 0, 1) := by decide +kernel
theorem dX8_forget_7 : decode cX8_forget 7 = .ok (.putfield 265, 3) := by decide +kernel
theorem dX8_forget_10 : decode cX8_forget 10 = .ok (.iload_n 1, 1) := by decide +kernel
theorem dX8_forget_11 : decode cX8_forget 11 = .ok (.ireturn, 1) := by decide +kernel
theorem dX8_join_0 : decode cX8_join 0 = .ok (.aload_n 0, 1) := by decide +kernel
theorem dX8_join_1 : decode cX8_join 1 = .ok (.getfield 53, 3) := by decide +kernel
theorem dX8_join_4 : decode cX8_join 4 = .ok (.iload_n 1, 1) := by decide +kernel
theorem dX8_join_5 : decode cX8_join 5 = .ok (.iaload, 1) := by decide +kernel
theorem dX8_join_6 : decode cX8_join 6 = .ok (.istore_n 3, 1) := by decide +kernel
theorem dX8_join_7 : decode cX8_join 7 = .ok (.aload_n 0, 1) := by decide +kernel
theorem dX8_join_8 : decode cX8_join 8 = .ok (.getfield 53, 3) := by decide +kernel
theorem dX8_join_11 : decode cX8_join 11 = .ok (.iload_n 2, 1) := by decide +kernel
theorem dX8_join_12 : decode cX8_join 12 = .ok (.iaload, 1) := by decide +kernel
theorem dX8_join_13 : decode cX8_join 13 = .ok (.istore 4, 2) := by decide +kernel
theorem dX8_join_15 : decode cX8_join 15 = .ok (.iconst 0, 1) := by decide +kernel
theorem dX8_join_16 : decode cX8_join 16 = .ok (.istore 5, 2) := by decide +kernel
theorem dX8_join_18 : decode cX8_join 18 = .ok (.iload 5, 2) := by decide +kernel
theorem dX8_join_20 : decode cX8_join 20 = .ok (.bipush 8, 2) := by decide +kernel
theorem dX8_join_22 : decode cX8_join 22 = .ok (.if_icmp .ge 39, 3) := by decide +kernel
theorem dX8_join_25 : decode cX8_join 25 = .ok (.aload_n 0, 1) := by decide +kernel
theorem dX8_join_26 : decode cX8_join 26 = .ok (.getfield 53, 3) := by decide +kernel
theorem dX8_join_29 : decode cX8_join 29 = .ok (.iload 5, 2) := by decide +kernel
theorem dX8_join_31 : decode cX8_join 31 = .ok (.aload_n 0, 1) := by decide +kernel
theorem dX8_join_32 : decode cX8_join 32 = .ok (.getfield 53, 3) := by decide +kernel
theorem dX8_join_35 : decode cX8_join 35 = .ok (.iload 5, 2) := by decide +kernel
theorem dX8_join_37 : decode cX8_join 37 = .ok (.iaload, 1) := by decide +kernel
theorem dX8_join_38 : decode cX8_join 38 = .ok (.iload_n 3, 1) := by decide +kernel
theorem dX8_join_39 : decode cX8_join 39 = .ok (.if_icmp .ne 8, 3) := by decide +kernel
theorem dX8_join_42 : decode cX8_join 42 = .ok (.iload 4, 2) := by decide +kernel
theorem dX8_join_44 : decode cX8_join 44 = .ok (.goto 10, 3) := by decide +kernel
theorem dX8_join_47 : decode cX8_join 47 = .ok (.aload_n 0, 1) := by decide +kernel
theorem dX8_join_48 : decode cX8_join 48 = .ok (.getfield 53, 3) := by decide +kernel
theorem dX8_join_51 : decode cX8_join 51 = .ok (.iload 5, 2) := by decide +kernel
theorem dX8_join_53 : decode cX8_join 53 = .ok (.iaload, 1) := by decide +kernel
theorem dX8_join_54 : decode cX8_join 54 = .ok (.iastore, 1) := by decide +kernel
theorem dX8_join_55 : decode cX8_join 55 = .ok (.iinc 5 1, 3) := by decide +kernel
theorem dX8_join_58 : decode cX8_join 58 = .ok (.goto (-40), 3) := by decide +kernel
theorem dX8_join_61 : decode cX8_join 61 = .ok (.return_, 1) := by decide +kernel
theorem dX8_areTwo_0 : decode cX8_areTwo 0 = .ok (.iconst 0, 1) := by decide +kernel
theorem dX8_areTwo_1 : decode cX8_areTwo 1 = .ok (.istore 4, 2) := by decide +kernel
theorem dX8_areTwo_3 : decode cX8_areTwo 3 = .ok (.iconst 0, 1) := by decide +kernel
theorem dX8_areTwo_4 : decode cX8_areTwo 4 = .ok (.istore 5, 2) := by decide +kernel
theorem dX8_areTwo_6 : decode cX8_areTwo 6 = .ok (.iload 5, 2) := by decide +kernel
theorem dX8_areTwo_8 : decode cX8_areTwo 8 = .ok (.iload_n 3, 1) := by decide +kernel
theorem dX8_areTwo_9 : decode cX8_areTwo 9 = .ok (.if_icmp .ge 107, 3) := by decide +kernel
theorem dX8_areTwo_12 : decode cX8_areTwo 12 = .ok (.aload_n 0, 1) := by decide +kernel
theorem dX8_areTwo_13 : decode cX8_areTwo 13 = .ok (.getfield 53, 3) := by decide +kernel
theorem dX8_areTwo_16 : decode cX8_areTwo 16 = .ok (.aload_n 0, 1) := by decide +kernel
theorem dX8_areTwo_17 : decode cX8_areTwo 17 = .ok (.getfield 25, 3) := by decide +kernel
theorem dX8_areTwo_20 : decode cX8_areTwo 20 = .ok (.iload 5, 2) := by decide +kernel
theorem dX8_areTwo_22 : decode cX8_areTwo 22 = .ok (.iaload, 1) := by decide +kernel
theorem dX8_areTwo_23 : decode cX8_areTwo 23 = .ok (.iaload, 1) := by decide +kernel
theorem dX8_areTwo_24 : decode cX8_areTwo 24 = .ok (.istore 6, 2) := by decide +kernel
theorem dX8_areTwo_26 : decode cX8_areTwo 26 = .ok (.aload_n 0, 1) := by decide +kernel
theorem dX8_areTwo_27 : decode cX8_areTwo 27 = .ok (.getfield 53, 3) := by decide +kernel
theorem dX8_areTwo_30 : decode cX8_areTwo 30 = .ok (.aload_n 0, 1) := by decide +kernel
theorem dX8_areTwo_31 : decode cX8_areTwo 31 = .ok (.getfield 28, 3) := by decide +kernel
theorem dX8_areTwo_34 : decode cX8_areTwo 34 = .ok (.iload 5, 2) := by decide +kernel
theorem dX8_areTwo_36 : decode cX8_areTwo 36 = .ok (.iaload, 1) := by decide +kernel
theorem dX8_areTwo_37 : decode cX8_areTwo 37 = .ok (.iaload, 1) := by decide +kernel
theorem dX8_areTwo_38 : decode cX8_areTwo 38 = .ok (.istore 7, 2) := by decide +kernel
theorem dX8_areTwo_40 : decode cX8_areTwo 40 = .ok (.iload 6, 2) := by decide +kernel
theorem dX8_areTwo_42 : decode cX8_areTwo 42 = .ok (.iload_n 1, 1) := by decide +kernel
theorem dX8_areTwo_43 : decode cX8_areTwo 43 = .ok (.if_icmp .ne 9, 3) := by decide +kernel
theorem dX8_areTwo_46 : decode cX8_areTwo 46 = .ok (.iload 7, 2) := by decide +kernel
theorem dX8_areTwo_48 : decode cX8_areTwo 48 = .ok (.iload_n 2, 1) := by decide +kernel
theorem dX8_areTwo_49 : decode cX8_areTwo 49 = .ok (.if_icmp .eq 15, 3) := by decide +kernel
theorem dX8_areTwo_52 : decode cX8_areTwo 52 = .ok (.iload 6, 2) := by decide +kernel
theorem dX8_areTwo_54 : decode cX8_areTwo 54 = .ok (.iload_n 2, 1) := by decide +kernel
theorem dX8_areTwo_55 : decode cX8_areTwo 55 = .ok (.if_icmp .ne 13, 3) := by decide +kernel
theorem dX8_areTwo_58 : decode cX8_areTwo 58 = .ok (.iload 7, 2) := by decide +kernel
theorem dX8_areTwo_60 : decode cX8_areTwo 60 = .ok (.iload_n 1, 1) := by decide +kernel
theorem dX8_areTwo_61 : decode cX8_areTwo 61 = .ok (.if_icmp .ne 7, 3) := by decide +kernel
theorem dX8_areTwo_64 : decode cX8_areTwo 64 = .ok (.iconst 1, 1) := by decide +kernel
theorem dX8_areTwo_65 : decode cX8_areTwo 65 = .ok (.goto 4, 3) := by decide +kernel
theorem dX8_areTwo_68 : decode cX8_areTwo 68 = .ok (.iconst 0, 1) := by decide +kernel
theorem dX8_areTwo_69 : decode cX8_areTwo 69 = .ok (.istore 8, 2) := by decide +kernel
theorem dX8_areTwo_71 : decode cX8_areTwo 71 = .ok (.iload 4, 2) := by decide +kernel
theorem dX8_areTwo_73 : decode cX8_areTwo 73 = .ok (.ifCond .ne 30, 3) := by decide +kernel
theorem dX8_areTwo_76 : decode cX8_areTwo 76 = .ok (.iload 8, 2) := by decide +kernel
theorem dX8_areTwo_78 : decode cX8_areTwo 78 = .ok (.ifCond .eq 29, 3) := by decide +kernel
theorem dX8_areTwo_81 : decode cX8_areTwo 81 = .ok (.aload_n 0, 1) := by decide +kernel
theorem dX8_areTwo_82 : decode cX8_areTwo 82 = .ok (.getfield 31, 3) := by decide +kernel
theorem dX8_areTwo_85 : decode cX8_areTwo 85 = .ok (.iload 5, 2) := by decide +kernel
theorem dX8_areTwo_87 : decode cX8_areTwo 87 = .ok (.iaload, 1) := by decide +kernel
theorem dX8_areTwo_88 : decode cX8_areTwo 88 = .ok (.ifCond .ne 19, 3) := by decide +kernel
theorem dX8_areTwo_91 : decode cX8_areTwo 91 = .ok (.aload_n 0, 1) := by decide +kernel
theorem dX8_areTwo_92 : decode cX8_areTwo 92 = .ok (.getfield 268, 3) := by decide +kernel
theorem dX8_areTwo_95 : decode cX8_areTwo 95 = .ok (.iload 5, 2) := by decide +kernel
theorem dX8_areTwo_97 : decode cX8_areTwo 97 = .ok (.ishr, 1) := by decide +kernel
theorem dX8_areTwo_98 : decode cX8_areTwo 98 = .ok (.iconst 1, 1) := by decide +kernel
theorem dX8_areTwo_99 : decode cX8_areTwo 99 = .ok (.iand, 1) := by decide +kernel
theorem dX8_areTwo_100 : decode cX8_areTwo 100 = .ok (.ifCond .ne 7, 3) := by decide +kernel
theorem dX8_areTwo_103 : decode cX8_areTwo 103 = .ok (.iconst 1, 1) := by decide +kernel
theorem dX8_areTwo_104 : decode cX8_areTwo 104 = .ok (.goto 4, 3) := by decide +kernel
theorem dX8_areTwo_107 : decode cX8_areTwo 107 = .ok (.iconst 0, 1) := by decide +kernel
theorem dX8_areTwo_108 : decode cX8_areTwo 108 = .ok (.istore 4, 2) := by decide +kernel
theorem dX8_areTwo_110 : decode cX8_areTwo 110 = .ok (.iinc 5 1, 3) := by decide +kernel
theorem dX8_areTwo_113 : decode cX8_areTwo 113 = .ok (.goto (-107), 3) := by decide +kernel
theorem dX8_areTwo_116 : decode cX8_areTwo 116 = .ok (.iload 4, 2) := by decide +kernel
theorem dX8_areTwo_118 : decode cX8_areTwo 118 = .ok (.ireturn, 1) := by decide +kernel
theorem dX8_hearTales_0 : decode cX8_hearTales 0 = .ok (.aload_n 0, 1) := by decide +kernel
theorem dX8_hearTales_1 : decode cX8_hearTales 1 = .ok (.iconst 0, 1) := by decide +kernel
theorem dX8_hearTales_2 : decode cX8_hearTales 2 = .ok (.putfield 268, 3) := by decide +kernel
theorem dX8_hearTales_5 : decode cX8_hearTales 5 = .ok (.iconst 0, 1) := by decide +kernel
theorem dX8_hearTales_6 : decode cX8_hearTales 6 = .ok (.istore_n 1, 1) := by decide +kernel
theorem dX8_hearTales_7 : decode cX8_hearTales 7 = .ok (.iload_n 1, 1) := by decide +kernel
theorem dX8_hearTales_8 : decode cX8_hearTales 8 = .ok (.bipush 8, 2) := by decide +kernel
theorem dX8_hearTales_10 : decode cX8_hearTales 10 = .ok (.if_icmp .ge 16, 3) := by decide +kernel
theorem dX8_hearTales_13 : decode cX8_hearTales 13 = .ok (.aload_n 0, 1) := by decide +kernel
theorem dX8_hearTales_14 : decode cX8_hearTales 14 = .ok (.getfield 53, 3) := by decide +kernel
theorem dX8_hearTales_17 : decode cX8_hearTales 17 = .ok (.iload_n 1, 1) := by decide +kernel
theorem dX8_hearTales_18 : decode cX8_hearTales 18 = .ok (.iload_n 1, 1) := by decide +kernel
theorem dX8_hearTales_19 : decode cX8_hearTales 19 = .ok (.iastore, 1) := by decide +kernel
theorem dX8_hearTales_20 : decode cX8_hearTales 20 = .ok (.iinc 1 1, 3) := by decide +kernel
theorem dX8_hearTales_23 : decode cX8_hearTales 23 = .ok (.goto (-16), 3) := by decide +kernel
theorem dX8_hearTales_26 : decode cX8_hearTales 26 = .ok (.iconst 0, 1) := by decide +kernel
theorem dX8_hearTales_27 : decode cX8_hearTales 27 = .ok (.istore_n 1, 1) := by decide +kernel
theorem dX8_hearTales_28 : decode cX8_hearTales 28 = .ok (.iload_n 1, 1) := by decide +kernel
theorem dX8_hearTales_29 : decode cX8_hearTales 29 = .ok (.aload_n 0, 1) := by decide +kernel
theorem dX8_hearTales_30 : decode cX8_hearTales 30 = .ok (.getfield 265, 3) := by decide +kernel
theorem dX8_hearTales_33 : decode cX8_hearTales 33 = .ok (.if_icmp .ge 125, 3) := by decide +kernel
theorem dX8_hearTales_36 : decode cX8_hearTales 36 = .ok (.aload_n 0, 1) := by decide +kernel
theorem dX8_hearTales_37 : decode cX8_hearTales 37 = .ok (.getfield 53, 3) := by decide +kernel
theorem dX8_hearTales_40 : decode cX8_hearTales 40 = .ok (.aload_n 0, 1) := by decide +kernel
theorem dX8_hearTales_41 : decode cX8_hearTales 41 = .ok (.getfield 25, 3) := by decide +kernel
theorem dX8_hearTales_44 : decode cX8_hearTales 44 = .ok (.iload_n 1, 1) := by decide +kernel
theorem dX8_hearTales_45 : decode cX8_hearTales 45 = .ok (.iaload, 1) := by decide +kernel
theorem dX8_hearTales_46 : decode cX8_hearTales 46 = .ok (.iaload, 1) := by decide +kernel
theorem dX8_hearTales_47 : decode cX8_hearTales 47 = .ok (.istore_n 2, 1) := by decide +kernel
theorem dX8_hearTales_48 : decode cX8_hearTales 48 = .ok (.aload_n 0, 1) := by decide +kernel
theorem dX8_hearTales_49 : decode cX8_hearTales 49 = .ok (.getfield 53, 3) := by decide +kernel
theorem dX8_hearTales_52 : decode cX8_hearTales 52 = .ok (.aload_n 0, 1) := by decide +kernel
theorem dX8_hearTales_53 : decode cX8_hearTales 53 = .ok (.getfield 28, 3) := by decide +kernel
theorem dX8_hearTales_56 : decode cX8_hearTales 56 = .ok (.iload_n 1, 1) := by decide +kernel
theorem dX8_hearTales_57 : decode cX8_hearTales 57 = .ok (.iaload, 1) := by decide +kernel
theorem dX8_hearTales_58 : decode cX8_hearTales 58 = .ok (.iaload, 1) := by decide +kernel
theorem dX8_hearTales_59 : decode cX8_hearTales 59 = .ok (.istore_n 3, 1) := by decide +kernel
theorem dX8_hearTales_60 : decode cX8_hearTales 60 = .ok (.aload_n 0, 1) := by decide +kernel
theorem dX8_hearTales_61 : decode cX8_hearTales 61 = .ok (.getfield 31, 3) := by decide +kernel
theorem dX8_hearTales_64 : decode cX8_hearTales 64 = .ok (.iload_n 1, 1) := by decide +kernel
theorem dX8_hearTales_65 : decode cX8_hearTales 65 = .ok (.iaload, 1) := by decide +kernel
theorem dX8_hearTales_66 : decode cX8_hearTales 66 = .ok (.iconst 1, 1) := by decide +kernel
theorem dX8_hearTales_67 : decode cX8_hearTales 67 = .ok (.if_icmp .ne 21, 3) := by decide +kernel
theorem dX8_hearTales_70 : decode cX8_hearTales 70 = .ok (.aload_n 0, 1) := by decide +kernel
theorem dX8_hearTales_71 : decode cX8_hearTales 71 = .ok (.iload_n 2, 1) := by decide +kernel
theorem dX8_hearTales_72 : decode cX8_hearTales 72 = .ok (.iload_n 3, 1) := by decide +kernel
theorem dX8_hearTales_73 : decode cX8_hearTales 73 = .ok (.iload_n 1, 1) := by decide +kernel
theorem dX8_hearTales_74 : decode cX8_hearTales 74 = .ok (.invokevirtual 271, 3) := by decide +kernel
theorem dX8_hearTales_77 : decode cX8_hearTales 77 = .ok (.ifCond .ne 7, 3) := by decide +kernel
theorem dX8_hearTales_80 : decode cX8_hearTales 80 = .ok (.iconst 1, 1) := by decide +kernel
theorem dX8_hearTales_81 : decode cX8_hearTales 81 = .ok (.goto 17, 3) := by decide +kernel
theorem dX8_hearTales_84 : decode cX8_hearTales 84 = .ok (.iconst 0, 1) := by decide +kernel
theorem dX8_hearTales_85 : decode cX8_hearTales 85 = .ok (.goto 13, 3) := by decide +kernel
theorem dX8_hearTales_88 : decode cX8_hearTales 88 = .ok (.iload_n 2, 1) := by decide +kernel
theorem dX8_hearTales_89 : decode cX8_hearTales 89 = .ok (.iload_n 3, 1) := by decide +kernel
theorem dX8_hearTales_90 : decode cX8_hearTales 90 = .ok (.if_icmp .eq 7, 3) := by decide +kernel
theorem dX8_hearTales_93 : decode cX8_hearTales 93 = .ok (.iconst 1, 1) := by decide +kernel
theorem dX8_hearTales_94 : decode cX8_hearTales 94 = .ok (.goto 4, 3) := by decide +kernel
theorem dX8_hearTales_97 : decode cX8_hearTales 97 = .ok (.iconst 0, 1) := by decide +kernel
theorem dX8_hearTales_98 : decode cX8_hearTales 98 = .ok (.istore 4, 2) := by decide +kernel
theorem dX8_hearTales_100 : decode cX8_hearTales 100 = .ok (.aload_n 0, 1) := by decide +kernel
theorem dX8_hearTales_101 : decode cX8_hearTales 101 = .ok (.dup, 1) := by decide +kernel
theorem dX8_hearTales_102 : decode cX8_hearTales 102 = .ok (.getfield 268, 3) := by decide +kernel
theorem dX8_hearTales_105 : decode cX8_hearTales 105 = .ok (.iload 4, 2) := by decide +kernel
theorem dX8_hearTales_107 : decode cX8_hearTales 107 = .ok (.ifCond .eq 7, 3) := by decide +kernel
theorem dX8_hearTales_110 : decode cX8_hearTales 110 = .ok (.iconst 0, 1) := by decide +kernel
theorem dX8_hearTales_111 : decode cX8_hearTales 111 = .ok (.goto 6, 3) := by decide +kernel
theorem dX8_hearTales_114 : decode cX8_hearTales 114 = .ok (.iconst 1, 1) := by decide +kernel
theorem dX8_hearTales_115 : decode cX8_hearTales 115 = .ok (.iload_n 1, 1) := by decide +kernel
theorem dX8_hearTales_116 : decode cX8_hearTales 116 = .ok (.ishl, 1) := by decide +kernel
theorem dX8_hearTales_117 : decode cX8_hearTales 117 = .ok (.ior, 1) := by decide +kernel
theorem dX8_hearTales_118 : decode cX8_hearTales 118 = .ok (.putfield 268, 3) := by decide +kernel
theorem dX8_hearTales_121 : decode cX8_hearTales 121 = .ok (.iload 4, 2) := by decide +kernel
theorem dX8_hearTales_123 : decode cX8_hearTales 123 = .ok (.ifCond .eq 29, 3) := by decide +kernel
theorem dX8_hearTales_126 : decode cX8_hearTales 126 = .ok (.aload_n 0, 1) := by decide +kernel
theorem dX8_hearTales_127 : decode cX8_hearTales 127 = .ok (.getfield 31, 3) := by decide +kernel
theorem dX8_hearTales_130 : decode cX8_hearTales 130 = .ok (.iload_n 1, 1) := by decide +kernel
theorem dX8_hearTales_131 : decode cX8_hearTales 131 = .ok (.iaload, 1) := by decide +kernel
theorem dX8_hearTales_132 : decode cX8_hearTales 132 = .ok (.iconst 1, 1) := by decide +kernel
theorem dX8_hearTales_133 : decode cX8_hearTales 133 = .ok (.if_icmp .ne 19, 3) := by decide +kernel
theorem dX8_hearTales_136 : decode cX8_hearTales 136 = .ok (.aload_n 0, 1) := by decide +kernel
theorem dX8_hearTales_137 : decode cX8_hearTales 137 = .ok (.aload_n 0, 1) := by decide +kernel
theorem dX8_hearTales_138 : decode cX8_hearTales 138 = .ok (.getfield 25, 3) := by decide +kernel
theorem dX8_hearTales_141 : decode cX8_hearTales 141 = .ok (.iload_n 1, 1) := by decide +kernel
theorem dX8_hearTales_142 : decode cX8_hearTales 142 = .ok (.iaload, 1) := by decide +kernel
theorem dX8_hearTales_143 : decode cX8_hearTales 143 = .ok (.aload_n 0, 1) := by decide +kernel
theorem dX8_hearTales_144 : decode cX8_hearTales 144 = .ok (.getfield 28, 3) := by decide +kernel
theorem dX8_hearTales_147 : decode cX8_hearTales 147 = .ok (.iload_n 1, 1) := by decide +kernel
theorem dX8_hearTales_148 : decode cX8_hearTales 148 = .ok (.iaload, 1) := by decide +kernel
theorem dX8_hearTales_149 : decode cX8_hearTales 149 = .ok (.invokevirtual 275, 3) := by decide +kernel
theorem dX8_hearTales_152 : decode cX8_hearTales 152 = .ok (.iinc 1 1, 3) := by decide +kernel
theorem dX8_hearTales_155 : decode cX8_hearTales 155 = .ok (.goto (-127), 3) := by decide +kernel
theorem dX8_hearTales_158 : decode cX8_hearTales 158 = .ok (.return_, 1) := by decide +kernel
theorem dX8_broken_0 : decode cX8_broken 0 = .ok (.iload_n 1, 1) := by decide +kernel
theorem dX8_broken_1 : decode cX8_broken 1 = .ok (.i2l, 1) := by decide +kernel
theorem dX8_broken_2 : decode cX8_broken 2 = .ok (.lconst 0, 1) := by decide +kernel
theorem dX8_broken_3 : decode cX8_broken 3 = .ok (.lconst 1, 1) := by decide +kernel
theorem dX8_broken_4 : decode cX8_broken 4 = .ok (.invokestatic 75, 3) := by decide +kernel
theorem dX8_broken_7 : decode cX8_broken 7 = .ok (.ifCond .ne 6, 3) := by decide +kernel
theorem dX8_broken_10 : decode cX8_broken 10 = .ok (.bipush (-2), 2) := by decide +kernel
theorem dX8_broken_12 : decode cX8_broken 12 = .ok (.ireturn, 1) := by decide +kernel
theorem dX8_broken_13 : decode cX8_broken 13 = .ok (.aload_n 0, 1) := by decide +kernel
theorem dX8_broken_14 : decode cX8_broken 14 = .ok (.invokevirtual 279, 3) := by decide +kernel
theorem dX8_broken_17 : decode cX8_broken 17 = .ok (.bipush (-6), 2) := by decide +kernel
theorem dX8_broken_19 : decode cX8_broken 19 = .ok (.istore_n 2, 1) := by decide +kernel
theorem dX8_broken_20 : decode cX8_broken 20 = .ok (.aload_n 0, 1) := by decide +kernel
theorem dX8_broken_21 : decode cX8_broken 21 = .ok (.getfield 265, 3) := by decide +kernel
theorem dX8_broken_24 : decode cX8_broken 24 = .ok (.iconst 1, 1) := by decide +kernel
theorem dX8_broken_25 : decode cX8_broken 25 = .ok (.isub, 1) := by decide +kernel
theorem dX8_broken_26 : decode cX8_broken 26 = .ok (.istore_n 3, 1) := by decide +kernel
theorem dX8_broken_27 : decode cX8_broken 27 = .ok (.iload_n 3, 1) := by decide +kernel
theorem dX8_broken_28 : decode cX8_broken 28 = .ok (.ifCond .lt 27, 3) := by decide +kernel
theorem dX8_broken_31 : decode cX8_broken 31 = .ok (.aload_n 0, 1) := by decide +kernel
theorem dX8_broken_32 : decode cX8_broken 32 = .ok (.getfield 268, 3) := by decide +kernel
theorem dX8_broken_35 : decode cX8_broken 35 = .ok (.iload_n 3, 1) := by decide +kernel
theorem dX8_broken_36 : decode cX8_broken 36 = .ok (.ishr, 1) := by decide +kernel
theorem dX8_broken_37 : decode cX8_broken 37 = .ok (.iconst 1, 1) := by decide +kernel
theorem dX8_broken_38 : decode cX8_broken 38 = .ok (.iand, 1) := by decide +kernel
theorem dX8_broken_39 : decode cX8_broken 39 = .ok (.iconst 1, 1) := by decide +kernel
theorem dX8_broken_40 : decode cX8_broken 40 = .ok (.if_icmp .ne 7, 3) := by decide +kernel
theorem dX8_broken_43 : decode cX8_broken 43 = .ok (.iload_n 3, 1) := by decide +kernel
theorem dX8_broken_44 : decode cX8_broken 44 = .ok (.goto 4, 3) := by decide +kernel
theorem dX8_broken_47 : decode cX8_broken 47 = .ok (.iload_n 2, 1) := by decide +kernel
theorem dX8_broken_48 : decode cX8_broken 48 = .ok (.istore_n 2, 1) := by decide +kernel
theorem dX8_broken_49 : decode cX8_broken 49 = .ok (.iinc 3 (-1), 3) := by decide +kernel
theorem dX8_broken_52 : decode cX8_broken 52 = .ok (.goto (-25), 3) := by decide +kernel
theorem dX8_broken_55 : decode cX8_broken 55 = .ok (.iload_n 1, 1) := by decide +kernel
theorem dX8_broken_56 : decode cX8_broken 56 = .ok (.ifCond .ne 7, 3) := by decide +kernel
theorem dX8_broken_59 : decode cX8_broken 59 = .ok (.iload_n 2, 1) := by decide +kernel
theorem dX8_broken_60 : decode cX8_broken 60 = .ok (.goto 10, 3) := by decide +kernel
theorem dX8_broken_63 : decode cX8_broken 63 = .ok (.aload_n 0, 1) := by decide +kernel
theorem dX8_broken_64 : decode cX8_broken 64 = .ok (.getfield 268, 3) := by decide +kernel
theorem dX8_broken_67 : decode cX8_broken 67 = .ok (.invokestatic 91, 3) := by decide +kernel
theorem dX8_broken_70 : decode cX8_broken 70 = .ok (.ireturn, 1) := by decide +kernel
theorem dX8_isOneShip_0 : decode cX8_isOneShip 0 = .ok (.iconst 1, 1) := by decide +kernel
theorem dX8_isOneShip_1 : decode cX8_isOneShip 1 = .ok (.istore_n 2, 1) := by decide +kernel
theorem dX8_isOneShip_2 : decode cX8_isOneShip 2 = .ok (.iconst 0, 1) := by decide +kernel
theorem dX8_isOneShip_3 : decode cX8_isOneShip 3 = .ok (.istore_n 3, 1) := by decide +kernel
theorem dX8_isOneShip_4 : decode cX8_isOneShip 4 = .ok (.iload_n 3, 1) := by decide +kernel
theorem dX8_isOneShip_5 : decode cX8_isOneShip 5 = .ok (.bipush 8, 2) := by decide +kernel
theorem dX8_isOneShip_7 : decode cX8_isOneShip 7 = .ok (.if_icmp .ge 168, 3) := by decide +kernel
theorem dX8_isOneShip_10 : decode cX8_isOneShip 10 = .ok (.iconst 0, 1) := by decide +kernel
theorem dX8_isOneShip_11 : decode cX8_isOneShip 11 = .ok (.istore 4, 2) := by decide +kernel
theorem dX8_isOneShip_13 : decode cX8_isOneShip 13 = .ok (.iload 4, 2) := by decide +kernel
theorem dX8_isOneShip_15 : decode cX8_isOneShip 15 = .ok (.bipush 8, 2) := by decide +kernel
theorem dX8_isOneShip_17 : decode cX8_isOneShip 17 = .ok (.if_icmp .ge 152, 3) := by decide +kernel
theorem dX8_isOneShip_20 : decode cX8_isOneShip 20 = .ok (.iload_n 1, 1) := by decide +kernel
theorem dX8_isOneShip_21 : decode cX8_isOneShip 21 = .ok (.iload_n 3, 1) := by decide +kernel
theorem dX8_isOneShip_22 : decode cX8_isOneShip 22 = .ok (.ishr, 1) := by decide +kernel
theorem dX8_isOneShip_23 : decode cX8_isOneShip 23 = .ok (.iconst 1, 1) := by decide +kernel
theorem dX8_isOneShip_24 : decode cX8_isOneShip 24 = .ok (.iand, 1) := by decide +kernel
theorem dX8_isOneShip_25 : decode cX8_isOneShip 25 = .ok (.iconst 1, 1) := by decide +kernel
theorem dX8_isOneShip_26 : decode cX8_isOneShip 26 = .ok (.if_icmp .ne 7, 3) := by decide +kernel
theorem dX8_isOneShip_29 : decode cX8_isOneShip 29 = .ok (.iconst 1, 1) := by decide +kernel
theorem dX8_isOneShip_30 : decode cX8_isOneShip 30 = .ok (.goto 4, 3) := by decide +kernel
theorem dX8_isOneShip_33 : decode cX8_isOneShip 33 = .ok (.iconst 0, 1) := by decide +kernel
theorem dX8_isOneShip_34 : decode cX8_isOneShip 34 = .ok (.istore 5, 2) := by decide +kernel
theorem dX8_isOneShip_36 : decode cX8_isOneShip 36 = .ok (.iload_n 1, 1) := by decide +kernel
theorem dX8_isOneShip_37 : decode cX8_isOneShip 37 = .ok (.iload 4, 2) := by decide +kernel
theorem dX8_isOneShip_39 : decode cX8_isOneShip 39 = .ok (.ishr, 1) := by decide +kernel
theorem dX8_isOneShip_40 : decode cX8_isOneShip 40 = .ok (.iconst 1, 1) := by decide +kernel
theorem dX8_isOneShip_41 : decode cX8_isOneShip 41 = .ok (.iand, 1) := by decide +kernel
theorem dX8_isOneShip_42 : decode cX8_isOneShip 42 = .ok (.iconst 1, 1) := by decide +kernel
theorem dX8_isOneShip_43 : decode cX8_isOneShip 43 = .ok (.if_icmp .ne 7, 3) := by decide +kernel
theorem dX8_isOneShip_46 : decode cX8_isOneShip 46 = .ok (.iconst 1, 1) := by decide +kernel
theorem dX8_isOneShip_47 : decode cX8_isOneShip 47 = .ok (.goto 4, 3) := by decide +kernel
theorem dX8_isOneShip_50 : decode cX8_isOneShip 50 = .ok (.iconst 0, 1) := by decide +kernel
theorem dX8_isOneShip_51 : decode cX8_isOneShip 51 = .ok (.istore 6, 2) := by decide +kernel
theorem dX8_isOneShip_53 : decode cX8_isOneShip 53 = .ok (.iload 5, 2) := by decide +kernel
theorem dX8_isOneShip_55 : decode cX8_isOneShip 55 = .ok (.ifCond .eq 28, 3) := by decide +kernel
theorem dX8_isOneShip_58 : decode cX8_isOneShip 58 = .ok (.iload 6, 2) := by decide +kernel
theorem dX8_isOneShip_60 : decode cX8_isOneShip 60 = .ok (.ifCond .ne 23, 3) := by decide +kernel
theorem dX8_isOneShip_63 : decode cX8_isOneShip 63 = .ok (.aload_n 0, 1) := by decide +kernel
theorem dX8_isOneShip_64 : decode cX8_isOneShip 64 = .ok (.getfield 53, 3) := by decide +kernel
theorem dX8_isOneShip_67 : decode cX8_isOneShip 67 = .ok (.iload_n 3, 1) := by decide +kernel
theorem dX8_isOneShip_68 : decode cX8_isOneShip 68 = .ok (.iaload, 1) := by decide +kernel
theorem dX8_isOneShip_69 : decode cX8_isOneShip 69 = .ok (.aload_n 0, 1) := by decide +kernel
theorem dX8_isOneShip_70 : decode cX8_isOneShip 70 = .ok (.getfield 53, 3) := by decide +kernel
theorem dX8_isOneShip_73 : decode cX8_isOneShip 73 = .ok (.iload 4, 2) := by decide +kernel
theorem dX8_isOneShip_75 : decode cX8_isOneShip 75 = .ok (.iaload, 1) := by decide +kernel
theorem dX8_isOneShip_76 : decode cX8_isOneShip 76 = .ok (.if_icmp .ne 7, 3) := by decide +kernel
theorem dX8_isOneShip_79 : decode cX8_isOneShip 79 = .ok (.iconst 1, 1) := by decide +kernel
theorem dX8_isOneShip_80 : decode cX8_isOneShip 80 = .ok (.goto 4, 3) := by decide +kernel
theorem dX8_isOneShip_83 : decode cX8_isOneShip 83 = .ok (.iconst 0, 1) := by decide +kernel
theorem dX8_isOneShip_84 : decode cX8_isOneShip 84 = .ok (.istore 7, 2) := by decide +kernel
theorem dX8_isOneShip_86 : decode cX8_isOneShip 86 = .ok (.iload 5, 2) := by decide +kernel
theorem dX8_isOneShip_88 : decode cX8_isOneShip 88 = .ok (.ifCond .eq 52, 3) := by decide +kernel
theorem dX8_isOneShip_91 : decode cX8_isOneShip 91 = .ok (.iload 6, 2) := by decide +kernel
theorem dX8_isOneShip_93 : decode cX8_isOneShip 93 = .ok (.ifCond .eq 47, 3) := by decide +kernel
theorem dX8_isOneShip_96 : decode cX8_isOneShip 96 = .ok (.aload_n 0, 1) := by decide +kernel
theorem dX8_isOneShip_97 : decode cX8_isOneShip 97 = .ok (.getfield 53, 3) := by decide +kernel
theorem dX8_isOneShip_100 : decode cX8_isOneShip 100 = .ok (.iload_n 3, 1) := by decide +kernel
theorem dX8_isOneShip_101 : decode cX8_isOneShip 101 = .ok (.iaload, 1) := by decide +kernel
theorem dX8_isOneShip_102 : decode cX8_isOneShip 102 = .ok (.aload_n 0, 1) := by decide +kernel
theorem dX8_isOneShip_103 : decode cX8_isOneShip 103 = .ok (.getfield 53, 3) := by decide +kernel
theorem dX8_isOneShip_106 : decode cX8_isOneShip 106 = .ok (.iload 4, 2) := by decide +kernel
theorem dX8_isOneShip_108 : decode cX8_isOneShip 108 = .ok (.iaload, 1) := by decide +kernel
theorem dX8_isOneShip_109 : decode cX8_isOneShip 109 = .ok (.if_icmp .eq 31, 3) := by decide +kernel
theorem dX8_isOneShip_112 : decode cX8_isOneShip 112 = .ok (.aload_n 0, 1) := by decide +kernel
theorem dX8_isOneShip_113 : decode cX8_isOneShip 113 = .ok (.aload_n 0, 1) := by decide +kernel
theorem dX8_isOneShip_114 : decode cX8_isOneShip 114 = .ok (.getfield 53, 3) := by decide +kernel
theorem dX8_isOneShip_117 : decode cX8_isOneShip 117 = .ok (.iload_n 3, 1) := by decide +kernel
theorem dX8_isOneShip_118 : decode cX8_isOneShip 118 = .ok (.iaload, 1) := by decide +kernel
theorem dX8_isOneShip_119 : decode cX8_isOneShip 119 = .ok (.aload_n 0, 1) := by decide +kernel
theorem dX8_isOneShip_120 : decode cX8_isOneShip 120 = .ok (.getfield 53, 3) := by decide +kernel
theorem dX8_isOneShip_123 : decode cX8_isOneShip 123 = .ok (.iload 4, 2) := by decide +kernel
theorem dX8_isOneShip_125 : decode cX8_isOneShip 125 = .ok (.iaload, 1) := by decide +kernel
theorem dX8_isOneShip_126 : decode cX8_isOneShip 126 = .ok (.aload_n 0, 1) := by decide +kernel
theorem dX8_isOneShip_127 : decode cX8_isOneShip 127 = .ok (.getfield 265, 3) := by decide +kernel
theorem dX8_isOneShip_130 : decode cX8_isOneShip 130 = .ok (.invokevirtual 271, 3) := by decide +kernel
theorem dX8_isOneShip_133 : decode cX8_isOneShip 133 = .ok (.ifCond .eq 7, 3) := by decide +kernel
theorem dX8_isOneShip_136 : decode cX8_isOneShip 136 = .ok (.iconst 1, 1) := by decide +kernel
theorem dX8_isOneShip_137 : decode cX8_isOneShip 137 = .ok (.goto 4, 3) := by decide +kernel
theorem dX8_isOneShip_140 : decode cX8_isOneShip 140 = .ok (.iconst 0, 1) := by decide +kernel
theorem dX8_isOneShip_141 : decode cX8_isOneShip 141 = .ok (.istore 8, 2) := by decide +kernel
theorem dX8_isOneShip_143 : decode cX8_isOneShip 143 = .ok (.iload_n 2, 1) := by decide +kernel
theorem dX8_isOneShip_144 : decode cX8_isOneShip 144 = .ok (.ifCond .eq 17, 3) := by decide +kernel
theorem dX8_isOneShip_147 : decode cX8_isOneShip 147 = .ok (.iload 7, 2) := by decide +kernel
theorem dX8_isOneShip_149 : decode cX8_isOneShip 149 = .ok (.ifCond .ne 12, 3) := by decide +kernel
theorem dX8_isOneShip_152 : decode cX8_isOneShip 152 = .ok (.iload 8, 2) := by decide +kernel
theorem dX8_isOneShip_154 : decode cX8_isOneShip 154 = .ok (.ifCond .ne 7, 3) := by decide +kernel
theorem dX8_isOneShip_157 : decode cX8_isOneShip 157 = .ok (.iconst 1, 1) := by decide +kernel
theorem dX8_isOneShip_158 : decode cX8_isOneShip 158 = .ok (.goto 4, 3) := by decide +kernel
theorem dX8_isOneShip_161 : decode cX8_isOneShip 161 = .ok (.iconst 0, 1) := by decide +kernel
theorem dX8_isOneShip_162 : decode cX8_isOneShip 162 = .ok (.istore_n 2, 1) := by decide +kernel
theorem dX8_isOneShip_163 : decode cX8_isOneShip 163 = .ok (.iinc 4 1, 3) := by decide +kernel
theorem dX8_isOneShip_166 : decode cX8_isOneShip 166 = .ok (.goto (-153), 3) := by decide +kernel
theorem dX8_isOneShip_169 : decode cX8_isOneShip 169 = .ok (.iinc 3 1, 3) := by decide +kernel
theorem dX8_isOneShip_172 : decode cX8_isOneShip 172 = .ok (.goto (-168), 3) := by decide +kernel
theorem dX8_isOneShip_175 : decode cX8_isOneShip 175 = .ok (.iload_n 2, 1) := by decide +kernel
theorem dX8_isOneShip_176 : decode cX8_isOneShip 176 = .ok (.ireturn, 1) := by decide +kernel
theorem dX8_ones_0 : decode cX8_ones 0 = .ok (.aload_n 0, 1) := by decide +kernel
theorem dX8_ones_1 : decode cX8_ones 1 = .ok (.invokevirtual 279, 3) := by decide +kernel
theorem dX8_ones_4 : decode cX8_ones 4 = .ok (.aload_n 0, 1) := by decide +kernel
theorem dX8_ones_5 : decode cX8_ones 5 = .ok (.getfield 56, 3) := by decide +kernel
theorem dX8_ones_8 : decode cX8_ones 8 = .ok (.iconst 0, 1) := by decide +kernel
theorem dX8_ones_9 : decode cX8_ones 9 = .ok (.iconst 0, 1) := by decide +kernel
theorem dX8_ones_10 : decode cX8_ones 10 = .ok (.iastore, 1) := by decide +kernel
theorem dX8_ones_11 : decode cX8_ones 11 = .ok (.iconst 1, 1) := by decide +kernel
theorem dX8_ones_12 : decode cX8_ones 12 = .ok (.istore_n 1, 1) := by decide +kernel
theorem dX8_ones_13 : decode cX8_ones 13 = .ok (.iload_n 1, 1) := by decide +kernel
theorem dX8_ones_14 : decode cX8_ones 14 = .ok (.sipush 256, 3) := by decide +kernel
theorem dX8_ones_17 : decode cX8_ones 17 = .ok (.if_icmp .ge 17, 3) := by decide +kernel
theorem dX8_ones_20 : decode cX8_ones 20 = .ok (.aload_n 0, 1) := by decide +kernel
theorem dX8_ones_21 : decode cX8_ones 21 = .ok (.getfield 56, 3) := by decide +kernel
theorem dX8_ones_24 : decode cX8_ones 24 = .ok (.iload_n 1, 1) := by decide +kernel
theorem dX8_ones_25 : decode cX8_ones 25 = .ok (.bipush 99, 2) := by decide +kernel
theorem dX8_ones_27 : decode cX8_ones 27 = .ok (.iastore, 1) := by decide +kernel
theorem dX8_ones_28 : decode cX8_ones 28 = .ok (.iinc 1 1, 3) := by decide +kernel
theorem dX8_ones_31 : decode cX8_ones 31 = .ok (.goto (-18), 3) := by decide +kernel
theorem dX8_ones_34 : decode cX8_ones 34 = .ok (.iconst 1, 1) := by decide +kernel
theorem dX8_ones_35 : decode cX8_ones 35 = .ok (.istore_n 1, 1) := by decide +kernel
theorem dX8_ones_36 : decode cX8_ones 36 = .ok (.iload_n 1, 1) := by decide +kernel
theorem dX8_ones_37 : decode cX8_ones 37 = .ok (.sipush 256, 3) := by decide +kernel
theorem dX8_ones_40 : decode cX8_ones 40 = .ok (.if_icmp .ge 22, 3) := by decide +kernel
theorem dX8_ones_43 : decode cX8_ones 43 = .ok (.aload_n 0, 1) := by decide +kernel
theorem dX8_ones_44 : decode cX8_ones 44 = .ok (.iload_n 1, 1) := by decide +kernel
theorem dX8_ones_45 : decode cX8_ones 45 = .ok (.invokevirtual 282, 3) := by decide +kernel
theorem dX8_ones_48 : decode cX8_ones 48 = .ok (.ifCond .eq 8, 3) := by decide +kernel
theorem dX8_ones_51 : decode cX8_ones 51 = .ok (.aload_n 0, 1) := by decide +kernel
theorem dX8_ones_52 : decode cX8_ones 52 = .ok (.iload_n 1, 1) := by decide +kernel
theorem dX8_ones_53 : decode cX8_ones 53 = .ok (.invokevirtual 285, 3) := by decide +kernel
theorem dX8_ones_56 : decode cX8_ones 56 = .ok (.iinc 1 1, 3) := by decide +kernel
theorem dX8_ones_59 : decode cX8_ones 59 = .ok (.goto (-23), 3) := by decide +kernel
theorem dX8_ones_62 : decode cX8_ones 62 = .ok (.aload_n 0, 1) := by decide +kernel
theorem dX8_ones_63 : decode cX8_ones 63 = .ok (.getfield 56, 3) := by decide +kernel
theorem dX8_ones_66 : decode cX8_ones 66 = .ok (.sipush 255, 3) := by decide +kernel
theorem dX8_ones_69 : decode cX8_ones 69 = .ok (.iaload, 1) := by decide +kernel
theorem dX8_ones_70 : decode cX8_ones 70 = .ok (.ireturn, 1) := by decide +kernel
theorem dX8_addShip_0 : decode cX8_addShip 0 = .ok (.sipush 255, 3) := by decide +kernel
theorem dX8_addShip_3 : decode cX8_addShip 3 = .ok (.istore_n 2, 1) := by decide +kernel
theorem dX8_addShip_4 : decode cX8_addShip 4 = .ok (.iload_n 2, 1) := by decide +kernel
theorem dX8_addShip_5 : decode cX8_addShip 5 = .ok (.ifCond .le 55, 3) := by decide +kernel
theorem dX8_addShip_8 : decode cX8_addShip 8 = .ok (.iload_n 2, 1) := by decide +kernel
theorem dX8_addShip_9 : decode cX8_addShip 9 = .ok (.iload_n 1, 1) := by decide +kernel
theorem dX8_addShip_10 : decode cX8_addShip 10 = .ok (.iand, 1) := by decide +kernel
theorem dX8_addShip_11 : decode cX8_addShip 11 = .ok (.iload_n 1, 1) := by decide +kernel
theorem dX8_addShip_12 : decode cX8_addShip 12 = .ok (.if_icmp .ne 42, 3) := by decide +kernel
theorem dX8_addShip_15 : decode cX8_addShip 15 = .ok (.aload_n 0, 1) := by decide +kernel
theorem dX8_addShip_16 : decode cX8_addShip 16 = .ok (.getfield 56, 3) := by decide +kernel
theorem dX8_addShip_19 : decode cX8_addShip 19 = .ok (.iload_n 2, 1) := by decide +kernel
theorem dX8_addShip_20 : decode cX8_addShip 20 = .ok (.iload_n 1, 1) := by decide +kernel
theorem dX8_addShip_21 : decode cX8_addShip 21 = .ok (.iconst (-1), 1) := by decide +kernel
theorem dX8_addShip_22 : decode cX8_addShip 22 = .ok (.ixor, 1) := by decide +kernel
theorem dX8_addShip_23 : decode cX8_addShip 23 = .ok (.iand, 1) := by decide +kernel
theorem dX8_addShip_24 : decode cX8_addShip 24 = .ok (.iaload, 1) := by decide +kernel
theorem dX8_addShip_25 : decode cX8_addShip 25 = .ok (.iconst 1, 1) := by decide +kernel
theorem dX8_addShip_26 : decode cX8_addShip 26 = .ok (.iadd, 1) := by decide +kernel
theorem dX8_addShip_27 : decode cX8_addShip 27 = .ok (.istore_n 3, 1) := by decide +kernel
theorem dX8_addShip_28 : decode cX8_addShip 28 = .ok (.aload_n 0, 1) := by decide +kernel
theorem dX8_addShip_29 : decode cX8_addShip 29 = .ok (.getfield 56, 3) := by decide +kernel
theorem dX8_addShip_32 : decode cX8_addShip 32 = .ok (.iload_n 2, 1) := by decide +kernel
theorem dX8_addShip_33 : decode cX8_addShip 33 = .ok (.iload_n 3, 1) := by decide +kernel
theorem dX8_addShip_34 : decode cX8_addShip 34 = .ok (.aload_n 0, 1) := by decide +kernel
theorem dX8_addShip_35 : decode cX8_addShip 35 = .ok (.getfield 56, 3) := by decide +kernel
theorem dX8_addShip_38 : decode cX8_addShip 38 = .ok (.iload_n 2, 1) := by decide +kernel
theorem dX8_addShip_39 : decode cX8_addShip 39 = .ok (.iaload, 1) := by decide +kernel
theorem dX8_addShip_40 : decode cX8_addShip 40 = .ok (.if_icmp .ge 7, 3) := by decide +kernel
theorem dX8_addShip_43 : decode cX8_addShip 43 = .ok (.iload_n 3, 1) := by decide +kernel
theorem dX8_addShip_44 : decode cX8_addShip 44 = .ok (.goto 9, 3) := by decide +kernel
theorem dX8_addShip_47 : decode cX8_addShip 47 = .ok (.aload_n 0, 1) := by decide +kernel
theorem dX8_addShip_48 : decode cX8_addShip 48 = .ok (.getfield 56, 3) := by decide +kernel
theorem dX8_addShip_51 : decode cX8_addShip 51 = .ok (.iload_n 2, 1) := by decide +kernel
theorem dX8_addShip_52 : decode cX8_addShip 52 = .ok (.iaload, 1) := by decide +kernel
theorem dX8_addShip_53 : decode cX8_addShip 53 = .ok (.iastore, 1) := by decide +kernel
theorem dX8_addShip_54 : decode cX8_addShip 54 = .ok (.iinc 2 (-1), 3) := by decide +kernel
theorem dX8_addShip_57 : decode cX8_addShip 57 = .ok (.goto (-53), 3) := by decide +kernel
theorem dX8_addShip_60 : decode cX8_addShip 60 = .ok (.return_, 1) := by decide +kernel
theorem dX8_berth_0 : decode cX8_berth 0 = .ok (.iload_n 1, 1) := by decide +kernel
theorem dX8_berth_1 : decode cX8_berth 1 = .ok (.i2l, 1) := by decide +kernel
theorem dX8_berth_2 : decode cX8_berth 2 = .ok (.lconst 1, 1) := by decide +kernel
theorem dX8_berth_3 : decode cX8_berth 3 = .ok (.ldc2_w 84, 3) := by decide +kernel
theorem dX8_berth_6 : decode cX8_berth 6 = .ok (.invokestatic 75, 3) := by decide +kernel
theorem dX8_berth_9 : decode cX8_berth 9 = .ok (.ifCond .eq 25, 3) := by decide +kernel
theorem dX8_berth_12 : decode cX8_berth 12 = .ok (.iload_n 2, 1) := by decide +kernel
theorem dX8_berth_13 : decode cX8_berth 13 = .ok (.i2l, 1) := by decide +kernel
theorem dX8_berth_14 : decode cX8_berth 14 = .ok (.lconst 1, 1) := by decide +kernel
theorem dX8_berth_15 : decode cX8_berth 15 = .ok (.ldc2_w 101, 3) := by decide +kernel
theorem dX8_berth_18 : decode cX8_berth 18 = .ok (.invokestatic 75, 3) := by decide +kernel
theorem dX8_berth_21 : decode cX8_berth 21 = .ok (.ifCond .eq 13, 3) := by decide +kernel
theorem dX8_berth_24 : decode cX8_berth 24 = .ok (.iload_n 3, 1) := by decide +kernel
theorem dX8_berth_25 : decode cX8_berth 25 = .ok (.i2l, 1) := by decide +kernel
theorem dX8_berth_26 : decode cX8_berth 26 = .ok (.lconst 0, 1) := by decide +kernel
theorem dX8_berth_27 : decode cX8_berth 27 = .ok (.lconst 1, 1) := by decide +kernel
theorem dX8_berth_28 : decode cX8_berth 28 = .ok (.invokestatic 75, 3) := by decide +kernel
theorem dX8_berth_31 : decode cX8_berth 31 = .ok (.ifCond .ne 6, 3) := by decide +kernel
theorem dX8_berth_34 : decode cX8_berth 34 = .ok (.bipush (-2), 2) := by decide +kernel
theorem dX8_berth_36 : decode cX8_berth 36 = .ok (.ireturn, 1) := by decide +kernel
theorem dX8_berth_37 : decode cX8_berth 37 = .ok (.iload_n 1, 1) := by decide +kernel
theorem dX8_berth_38 : decode cX8_berth 38 = .ok (.iconst 1, 1) := by decide +kernel
theorem dX8_berth_39 : decode cX8_berth 39 = .ok (.isub, 1) := by decide +kernel
theorem dX8_berth_40 : decode cX8_berth 40 = .ok (.iload_n 2, 1) := by decide +kernel
theorem dX8_berth_41 : decode cX8_berth 41 = .ok (.iconst 1, 1) := by decide +kernel
theorem dX8_berth_42 : decode cX8_berth 42 = .ok (.iadd, 1) := by decide +kernel
theorem dX8_berth_43 : decode cX8_berth 43 = .ok (.irem, 1) := by decide +kernel
theorem dX8_berth_44 : decode cX8_berth 44 = .ok (.istore 4, 2) := by decide +kernel
theorem dX8_berth_46 : decode cX8_berth 46 = .ok (.iload_n 3, 1) := by decide +kernel
theorem dX8_berth_47 : decode cX8_berth 47 = .ok (.ifCond .ne 16, 3) := by decide +kernel
theorem dX8_berth_50 : decode cX8_berth 50 = .ok (.iload 4, 2) := by decide +kernel
theorem dX8_berth_52 : decode cX8_berth 52 = .ok (.ifCond .le 7, 3) := by decide +kernel
theorem dX8_berth_55 : decode cX8_berth 55 = .ok (.iconst 1, 1) := by decide +kernel
theorem dX8_berth_56 : decode cX8_berth 56 = .ok (.goto 19, 3) := by decide +kernel
theorem dX8_berth_59 : decode cX8_berth 59 = .ok (.iconst 0, 1) := by decide +kernel
theorem dX8_berth_60 : decode cX8_berth 60 = .ok (.goto 15, 3) := by decide +kernel
theorem dX8_berth_63 : decode cX8_berth 63 = .ok (.iload 4, 2) := by decide +kernel
theorem dX8_berth_65 : decode cX8_berth 65 = .ok (.ifCond .le 8, 3) := by decide +kernel
theorem dX8_berth_68 : decode cX8_berth 68 = .ok (.iload 4, 2) := by decide +kernel
theorem dX8_berth_70 : decode cX8_berth 70 = .ok (.goto 5, 3) := by decide +kernel
theorem dX8_berth_73 : decode cX8_berth 73 = .ok (.bipush (-6), 2) := by decide +kernel
theorem dX8_berth_75 : decode cX8_berth 75 = .ok (.ireturn, 1) := by decide +kernel
theorem dX8_actBy_0 : decode cX8_actBy 0 = .ok (.iload_n 1, 1) := by decide +kernel
theorem dX8_actBy_1 : decode cX8_actBy 1 = .ok (.ifCond .ne 7, 3) := by decide +kernel
theorem dX8_actBy_4 : decode cX8_actBy 4 = .ok (.iconst 0, 1) := by decide +kernel
theorem dX8_actBy_5 : decode cX8_actBy 5 = .ok (.goto 55, 3) := by decide +kernel
theorem dX8_actBy_8 : decode cX8_actBy 8 = .ok (.iload_n 1, 1) := by decide +kernel
theorem dX8_actBy_9 : decode cX8_actBy 9 = .ok (.iconst 3, 1) := by decide +kernel
theorem dX8_actBy_10 : decode cX8_actBy 10 = .ok (.if_icmp .ge 7, 3) := by decide +kernel
theorem dX8_actBy_13 : decode cX8_actBy 13 = .ok (.iconst 1, 1) := by decide +kernel
theorem dX8_actBy_14 : decode cX8_actBy 14 = .ok (.goto 46, 3) := by decide +kernel
theorem dX8_actBy_17 : decode cX8_actBy 17 = .ok (.iload_n 1, 1) := by decide +kernel
theorem dX8_actBy_18 : decode cX8_actBy 18 = .ok (.iconst 3, 1) := by decide +kernel
theorem dX8_actBy_19 : decode cX8_actBy 19 = .ok (.if_icmp .ne 7, 3) := by decide +kernel
theorem dX8_actBy_22 : decode cX8_actBy 22 = .ok (.iconst 2, 1) := by decide +kernel
theorem dX8_actBy_23 : decode cX8_actBy 23 = .ok (.goto 37, 3) := by decide +kernel
theorem dX8_actBy_26 : decode cX8_actBy 26 = .ok (.iload_n 1, 1) := by decide +kernel
theorem dX8_actBy_27 : decode cX8_actBy 27 = .ok (.iconst 4, 1) := by decide +kernel
theorem dX8_actBy_28 : decode cX8_actBy 28 = .ok (.if_icmp .ne 7, 3) := by decide +kernel
theorem dX8_actBy_31 : decode cX8_actBy 31 = .ok (.iconst 5, 1) := by decide +kernel
theorem dX8_actBy_32 : decode cX8_actBy 32 = .ok (.goto 28, 3) := by decide +kernel
theorem dX8_actBy_35 : decode cX8_actBy 35 = .ok (.aload_n 0, 1) := by decide +kernel
theorem dX8_actBy_36 : decode cX8_actBy 36 = .ok (.iload_n 2, 1) := by decide +kernel
theorem dX8_actBy_37 : decode cX8_actBy 37 = .ok (.invokevirtual 95, 3) := by decide +kernel
theorem dX8_actBy_40 : decode cX8_actBy 40 = .ok (.ifCond .eq 19, 3) := by decide +kernel
theorem dX8_actBy_43 : decode cX8_actBy 43 = .ok (.iload_n 3, 1) := by decide +kernel
theorem dX8_actBy_44 : decode cX8_actBy 44 = .ok (.bipush 100, 2) := by decide +kernel
theorem dX8_actBy_46 : decode cX8_actBy 46 = .ok (.irem, 1) := by decide +kernel
theorem dX8_actBy_47 : decode cX8_actBy 47 = .ok (.aload_n 0, 1) := by decide +kernel
theorem dX8_actBy_48 : decode cX8_actBy 48 = .ok (.iload_n 2, 1) := by decide +kernel
theorem dX8_actBy_49 : decode cX8_actBy 49 = .ok (.invokevirtual 139, 3) := by decide +kernel
theorem dX8_actBy_52 : decode cX8_actBy 52 = .ok (.if_icmp .ge 7, 3) := by decide +kernel
theorem dX8_actBy_55 : decode cX8_actBy 55 = .ok (.iconst 4, 1) := by decide +kernel
theorem dX8_actBy_56 : decode cX8_actBy 56 = .ok (.goto 4, 3) := by decide +kernel
theorem dX8_actBy_59 : decode cX8_actBy 59 = .ok (.iconst 3, 1) := by decide +kernel
theorem dX8_actBy_60 : decode cX8_actBy 60 = .ok (.ireturn, 1) := by decide +kernel
theorem dX8_year_0 : decode cX8_year 0 = .ok (.iload_n 1, 1) := by decide +kernel
theorem dX8_year_1 : decode cX8_year 1 = .ok (.i2l, 1) := by decide +kernel
theorem dX8_year_2 : decode cX8_year 2 = .ok (.lconst 0, 1) := by decide +kernel
theorem dX8_year_3 : decode cX8_year 3 = .ok (.ldc2_w 288, 3) := by decide +kernel
theorem dX8_year_6 : decode cX8_year 6 = .ok (.invokestatic 75, 3) := by decide +kernel
theorem dX8_year_9 : decode cX8_year 9 = .ok (.ifCond .eq 27, 3) := by decide +kernel
theorem dX8_year_12 : decode cX8_year 12 = .ok (.iload_n 2, 1) := by decide +kernel
theorem dX8_year_13 : decode cX8_year 13 = .ok (.i2l, 1) := by decide +kernel
theorem dX8_year_14 : decode cX8_year 14 = .ok (.lconst 1, 1) := by decide +kernel
theorem dX8_year_15 : decode cX8_year 15 = .ok (.ldc2_w 84, 3) := by decide +kernel
theorem dX8_year_18 : decode cX8_year 18 = .ok (.invokestatic 75, 3) := by decide +kernel
theorem dX8_year_21 : decode cX8_year 21 = .ok (.ifCond .eq 15, 3) := by decide +kernel
theorem dX8_year_24 : decode cX8_year 24 = .ok (.iload_n 3, 1) := by decide +kernel
theorem dX8_year_25 : decode cX8_year 25 = .ok (.i2l, 1) := by decide +kernel
theorem dX8_year_26 : decode cX8_year 26 = .ok (.lconst 0, 1) := by decide +kernel
theorem dX8_year_27 : decode cX8_year 27 = .ok (.ldc2_w 99, 3) := by decide +kernel
theorem dX8_year_30 : decode cX8_year 30 = .ok (.invokestatic 75, 3) := by decide +kernel
theorem dX8_year_33 : decode cX8_year 33 = .ok (.ifCond .ne 6, 3) := by decide +kernel
theorem dX8_year_36 : decode cX8_year 36 = .ok (.bipush (-2), 2) := by decide +kernel
theorem dX8_year_38 : decode cX8_year 38 = .ok (.ireturn, 1) := by decide +kernel
theorem dX8_year_39 : decode cX8_year 39 = .ok (.aload_n 0, 1) := by decide +kernel
theorem dX8_year_40 : decode cX8_year 40 = .ok (.invokevirtual 190, 3) := by decide +kernel
theorem dX8_year_43 : decode cX8_year 43 = .ok (.aload_n 0, 1) := by decide +kernel
theorem dX8_year_44 : decode cX8_year 44 = .ok (.invokevirtual 173, 3) := by decide +kernel
theorem dX8_year_47 : decode cX8_year 47 = .ok (.iload_n 1, 1) := by decide +kernel
theorem dX8_year_48 : decode cX8_year 48 = .ok (.istore 4, 2) := by decide +kernel
theorem dX8_year_50 : decode cX8_year 50 = .ok (.iconst 0, 1) := by decide +kernel
theorem dX8_year_51 : decode cX8_year 51 = .ok (.istore 5, 2) := by decide +kernel
theorem dX8_year_53 : decode cX8_year 53 = .ok (.iload 5, 2) := by decide +kernel
theorem dX8_year_55 : decode cX8_year 55 = .ok (.iload_n 2, 1) := by decide +kernel
theorem dX8_year_56 : decode cX8_year 56 = .ok (.if_icmp .ge 101, 3) := by decide +kernel
theorem dX8_year_59 : decode cX8_year 59 = .ok (.ldc2_w 290, 3) := by decide +kernel
theorem dX8_year_62 : decode cX8_year 62 = .ok (.iload 4, 2) := by decide +kernel
theorem dX8_year_64 : decode cX8_year 64 = .ok (.i2l, 1) := by decide +kernel
theorem dX8_year_65 : decode cX8_year 65 = .ok (.lmul, 1) := by decide +kernel
theorem dX8_year_66 : decode cX8_year 66 = .ok (.ldc2_w 292, 3) := by decide +kernel
theorem dX8_year_69 : decode cX8_year 69 = .ok (.ladd, 1) := by decide +kernel
theorem dX8_year_70 : decode cX8_year 70 = .ok (.ldc2_w 294, 3) := by decide +kernel
theorem dX8_year_73 : decode cX8_year 73 = .ok (.lrem, 1) := by decide +kernel
theorem dX8_year_74 : decode cX8_year 74 = .ok (.l2i, 1) := by decide +kernel
theorem dX8_year_75 : decode cX8_year 75 = .ok (.istore 4, 2) := by decide +kernel
theorem dX8_year_77 : decode cX8_year 77 = .ok (.iload 4, 2) := by decide +kernel
theorem dX8_year_79 : decode cX8_year 79 = .ok (.bipush 6, 2) := by decide +kernel
theorem dX8_year_81 : decode cX8_year 81 = .ok (.irem, 1) := by decide +kernel
theorem dX8_year_82 : decode cX8_year 82 = .ok (.istore 6, 2) := by decide +kernel
theorem dX8_year_84 : decode cX8_year 84 = .ok (.iload 4, 2) := by decide +kernel
theorem dX8_year_86 : decode cX8_year 86 = .ok (.bipush 48, 2) := by decide +kernel
theorem dX8_year_88 : decode cX8_year 88 = .ok (.idiv, 1) := by decide +kernel
theorem dX8_year_89 : decode cX8_year 89 = .ok (.istore 7, 2) := by decide +kernel
theorem dX8_year_91 : decode cX8_year 91 = .ok (.aload_n 0, 1) := by decide +kernel
theorem dX8_year_92 : decode cX8_year 92 = .ok (.iload 4, 2) := by decide +kernel
theorem dX8_year_94 : decode cX8_year 94 = .ok (.bipush 6, 2) := by decide +kernel
theorem dX8_year_96 : decode cX8_year 96 = .ok (.idiv, 1) := by decide +kernel
theorem dX8_year_97 : decode cX8_year 97 = .ok (.bipush 8, 2) := by decide +kernel
theorem dX8_year_99 : decode cX8_year 99 = .ok (.irem, 1) := by decide +kernel
theorem dX8_year_100 : decode cX8_year 100 = .ok (.iload 6, 2) := by decide +kernel
theorem dX8_year_102 : decode cX8_year 102 = .ok (.iload 7, 2) := by decide +kernel
theorem dX8_year_104 : decode cX8_year 104 = .ok (.invokevirtual 296, 3) := by decide +kernel
theorem dX8_year_107 : decode cX8_year 107 = .ok (.istore 8, 2) := by decide +kernel
theorem dX8_year_109 : decode cX8_year 109 = .ok (.iload 8, 2) := by decide +kernel
theorem dX8_year_111 : decode cX8_year 111 = .ok (.ifCond .ne 10, 3) := by decide +kernel
theorem dX8_year_114 : decode cX8_year 114 = .ok (.iload 7, 2) := by decide +kernel
theorem dX8_year_116 : decode cX8_year 116 = .ok (.iconst 3, 1) := by decide +kernel
theorem dX8_year_117 : decode cX8_year 117 = .ok (.irem, 1) := by decide +kernel
theorem dX8_year_118 : decode cX8_year 118 = .ok (.goto 8, 3) := by decide +kernel
theorem dX8_year_121 : decode cX8_year 121 = .ok (.iload 7, 2) := by decide +kernel
theorem dX8_year_123 : decode cX8_year 123 = .ok (.bipush 10, 2) := by decide +kernel
theorem dX8_year_125 : decode cX8_year 125 = .ok (.irem, 1) := by decide +kernel
theorem dX8_year_126 : decode cX8_year 126 = .ok (.istore 9, 2) := by decide +kernel
theorem dX8_year_128 : decode cX8_year 128 = .ok (.aload_n 0, 1) := by decide +kernel
theorem dX8_year_129 : decode cX8_year 129 = .ok (.iload 8, 2) := by decide +kernel
theorem dX8_year_131 : decode cX8_year 131 = .ok (.iload 6, 2) := by decide +kernel
theorem dX8_year_133 : decode cX8_year 133 = .ok (.iload 9, 2) := by decide +kernel
theorem dX8_year_135 : decode cX8_year 135 = .ok (.invokevirtual 182, 3) := by decide +kernel
theorem dX8_year_138 : decode cX8_year 138 = .ok (.ifCond .ne 13, 3) := by decide +kernel
theorem dX8_year_141 : decode cX8_year 141 = .ok (.aload_n 0, 1) := by decide +kernel
theorem dX8_year_142 : decode cX8_year 142 = .ok (.iload 8, 2) := by decide +kernel
theorem dX8_year_144 : decode cX8_year 144 = .ok (.iload 6, 2) := by decide +kernel
theorem dX8_year_146 : decode cX8_year 146 = .ok (.iload 9, 2) := by decide +kernel
theorem dX8_year_148 : decode cX8_year 148 = .ok (.invokevirtual 186, 3) := by decide +kernel
theorem dX8_year_151 : decode cX8_year 151 = .ok (.iinc 5 1, 3) := by decide +kernel
theorem dX8_year_154 : decode cX8_year 154 = .ok (.goto (-101), 3) := by decide +kernel
theorem dX8_year_157 : decode cX8_year 157 = .ok (.iload_n 3, 1) := by decide +kernel
theorem dX8_year_158 : decode cX8_year 158 = .ok (.ifCond .ne 13, 3) := by decide +kernel
theorem dX8_year_161 : decode cX8_year 161 = .ok (.aload_n 0, 1) := by decide +kernel
theorem dX8_year_162 : decode cX8_year 162 = .ok (.getfield 145, 3) := by decide +kernel
theorem dX8_year_165 : decode cX8_year 165 = .ok (.ldc 211, 2) := by decide +kernel
theorem dX8_year_167 : decode cX8_year 167 = .ok (.iadd, 1) := by decide +kernel
theorem dX8_year_168 : decode cX8_year 168 = .ok (.goto 27, 3) := by decide +kernel
theorem dX8_year_171 : decode cX8_year 171 = .ok (.iload_n 3, 1) := by decide +kernel
theorem dX8_year_172 : decode cX8_year 172 = .ok (.iconst 1, 1) := by decide +kernel
theorem dX8_year_173 : decode cX8_year 173 = .ok (.if_icmp .ne 10, 3) := by decide +kernel
theorem dX8_year_176 : decode cX8_year 176 = .ok (.aload_n 0, 1) := by decide +kernel
theorem dX8_year_177 : decode cX8_year 177 = .ok (.getfield 151, 3) := by decide +kernel
theorem dX8_year_180 : decode cX8_year 180 = .ok (.goto 15, 3) := by decide +kernel
theorem dX8_year_183 : decode cX8_year 183 = .ok (.aload_n 0, 1) := by decide +kernel
theorem dX8_year_184 : decode cX8_year 184 = .ok (.getfield 88, 3) := by decide +kernel
theorem dX8_year_187 : decode cX8_year 187 = .ok (.aload_n 0, 1) := by decide +kernel
theorem dX8_year_188 : decode cX8_year 188 = .ok (.getfield 79, 3) := by decide +kernel
theorem dX8_year_191 : decode cX8_year 191 = .ok (.iand, 1) := by decide +kernel
theorem dX8_year_192 : decode cX8_year 192 = .ok (.invokestatic 91, 3) := by decide +kernel
theorem dX8_year_195 : decode cX8_year 195 = .ok (.istore 5, 2) := by decide +kernel
theorem dX8_year_197 : decode cX8_year 197 = .ok (.aload_n 0, 1) := by decide +kernel
theorem dX8_year_198 : decode cX8_year 198 = .ok (.iload 5, 2) := by decide +kernel
theorem dX8_year_200 : decode cX8_year 200 = .ok (.invokevirtual 203, 3) := by decide +kernel
theorem dX8_year_203 : decode cX8_year 203 = .ok (.ireturn, 1) := by decide +kernel
theorem dX8_pass_0 : decode cX8_pass 0 = .ok (.aload_n 0, 1) := by decide +kernel
theorem dX8_pass_1 : decode cX8_pass 1 = .ok (.getfield 299, 3) := by decide +kernel
theorem dX8_pass_4 : decode cX8_pass 4 = .ok (.ifCond .eq 7, 3) := by decide +kernel
theorem dX8_pass_7 : decode cX8_pass 7 = .ok (.iload_n 1, 1) := by decide +kernel
theorem dX8_pass_8 : decode cX8_pass 8 = .ok (.goto 12, 3) := by decide +kernel
theorem dX8_pass_11 : decode cX8_pass 11 = .ok (.aload_n 0, 1) := by decide +kernel
theorem dX8_pass_12 : decode cX8_pass 12 = .ok (.getfield 59, 3) := by decide +kernel
theorem dX8_pass_15 : decode cX8_pass 15 = .ok (.aload_n 0, 1) := by decide +kernel
theorem dX8_pass_16 : decode cX8_pass 16 = .ok (.getfield 303, 3) := by decide +kernel
theorem dX8_pass_19 : decode cX8_pass 19 = .ok (.iaload, 1) := by decide +kernel
theorem dX8_pass_20 : decode cX8_pass 20 = .ok (.istore_n 2, 1) := by decide +kernel
theorem dX8_pass_21 : decode cX8_pass 21 = .ok (.aload_n 0, 1) := by decide +kernel
theorem dX8_pass_22 : decode cX8_pass 22 = .ok (.getfield 59, 3) := by decide +kernel
theorem dX8_pass_25 : decode cX8_pass 25 = .ok (.aload_n 0, 1) := by decide +kernel
theorem dX8_pass_26 : decode cX8_pass 26 = .ok (.getfield 303, 3) := by decide +kernel
theorem dX8_pass_29 : decode cX8_pass 29 = .ok (.iload_n 2, 1) := by decide +kernel
theorem dX8_pass_30 : decode cX8_pass 30 = .ok (.iastore, 1) := by decide +kernel
theorem dX8_pass_31 : decode cX8_pass 31 = .ok (.aload_n 0, 1) := by decide +kernel
theorem dX8_pass_32 : decode cX8_pass 32 = .ok (.dup, 1) := by decide +kernel
theorem dX8_pass_33 : decode cX8_pass 33 = .ok (.getfield 303, 3) := by decide +kernel
theorem dX8_pass_36 : decode cX8_pass 36 = .ok (.iconst 1, 1) := by decide +kernel
theorem dX8_pass_37 : decode cX8_pass 37 = .ok (.iadd, 1) := by decide +kernel
theorem dX8_pass_38 : decode cX8_pass 38 = .ok (.putfield 303, 3) := by decide +kernel
theorem dX8_pass_41 : decode cX8_pass 41 = .ok (.iload_n 2, 1) := by decide +kernel
theorem dX8_pass_42 : decode cX8_pass 42 = .ok (.ireturn, 1) := by decide +kernel
theorem dX8_passRow_0 : decode cX8_passRow 0 = .ok (.iconst 0, 1) := by decide +kernel
theorem dX8_passRow_1 : decode cX8_passRow 1 = .ok (.istore_n 3, 1) := by decide +kernel
theorem dX8_passRow_2 : decode cX8_passRow 2 = .ok (.iload_n 3, 1) := by decide +kernel
theorem dX8_passRow_3 : decode cX8_passRow 3 = .ok (.iload_n 2, 1) := by decide +kernel
theorem dX8_passRow_4 : decode cX8_passRow 4 = .ok (.if_icmp .ge 19, 3) := by decide +kernel
theorem dX8_passRow_7 : decode cX8_passRow 7 = .ok (.aload_n 1, 1) := by decide +kernel
theorem dX8_passRow_8 : decode cX8_passRow 8 = .ok (.iload_n 3, 1) := by decide +kernel
theorem dX8_passRow_9 : decode cX8_passRow 9 = .ok (.aload_n 0, 1) := by decide +kernel
theorem dX8_passRow_10 : decode cX8_passRow 10 = .ok (.aload_n 1, 1) := by decide +kernel
theorem dX8_passRow_11 : decode cX8_passRow 11 = .ok (.iload_n 3, 1) := by decide +kernel
theorem dX8_passRow_12 : decode cX8_passRow 12 = .ok (.iaload, 1) := by decide +kernel
theorem dX8_passRow_13 : decode cX8_passRow 13 = .ok (.invokevirtual 306, 3) := by decide +kernel
theorem dX8_passRow_16 : decode cX8_passRow 16 = .ok (.iastore, 1) := by decide +kernel
theorem dX8_passRow_17 : decode cX8_passRow 17 = .ok (.iinc 3 1, 3) := by decide +kernel
theorem dX8_passRow_20 : decode cX8_passRow 20 = .ok (.goto (-18), 3) := by decide +kernel
theorem dX8_passRow_23 : decode cX8_passRow 23 = .ok (.return_, 1) := by decide +kernel
theorem dX8_passAll_0 : decode cX8_passAll 0 = .ok (.aload_n 0, 1) := by decide +kernel
theorem dX8_passAll_1 : decode cX8_passAll 1 = .ok (.aload_n 0, 1) := by decide +kernel
theorem dX8_passAll_2 : decode cX8_passAll 2 = .ok (.aload_n 0, 1) := by decide +kernel
theorem dX8_passAll_3 : decode cX8_passAll 3 = .ok (.getfield 79, 3) := by decide +kernel
theorem dX8_passAll_6 : decode cX8_passAll 6 = .ok (.invokevirtual 306, 3) := by decide +kernel
theorem dX8_passAll_9 : decode cX8_passAll 9 = .ok (.putfield 79, 3) := by decide +kernel
theorem dX8_passAll_12 : decode cX8_passAll 12 = .ok (.aload_n 0, 1) := by decide +kernel
theorem dX8_passAll_13 : decode cX8_passAll 13 = .ok (.aload_n 0, 1) := by decide +kernel
theorem dX8_passAll_14 : decode cX8_passAll 14 = .ok (.aload_n 0, 1) := by decide +kernel
theorem dX8_passAll_15 : decode cX8_passAll 15 = .ok (.getfield 88, 3) := by decide +kernel
theorem dX8_passAll_18 : decode cX8_passAll 18 = .ok (.invokevirtual 306, 3) := by decide +kernel
theorem dX8_passAll_21 : decode cX8_passAll 21 = .ok (.putfield 88, 3) := by decide +kernel
theorem dX8_passAll_24 : decode cX8_passAll 24 = .ok (.aload_n 0, 1) := by decide +kernel
theorem dX8_passAll_25 : decode cX8_passAll 25 = .ok (.aload_n 0, 1) := by decide +kernel
theorem dX8_passAll_26 : decode cX8_passAll 26 = .ok (.aload_n 0, 1) := by decide +kernel
theorem dX8_passAll_27 : decode cX8_passAll 27 = .ok (.getfield 66, 3) := by decide +kernel
theorem dX8_passAll_30 : decode cX8_passAll 30 = .ok (.invokevirtual 306, 3) := by decide +kernel
theorem dX8_passAll_33 : decode cX8_passAll 33 = .ok (.putfield 66, 3) := by decide +kernel
theorem dX8_passAll_36 : decode cX8_passAll 36 = .ok (.aload_n 0, 1) := by decide +kernel
theorem dX8_passAll_37 : decode cX8_passAll 37 = .ok (.aload_n 0, 1) := by decide +kernel
theorem dX8_passAll_38 : decode cX8_passAll 38 = .ok (.aload_n 0, 1) := by decide +kernel
theorem dX8_passAll_39 : decode cX8_passAll 39 = .ok (.getfield 70, 3) := by decide +kernel
theorem dX8_passAll_42 : decode cX8_passAll 42 = .ok (.invokevirtual 306, 3) := by decide +kernel
theorem dX8_passAll_45 : decode cX8_passAll 45 = .ok (.putfield 70, 3) := by decide +kernel
theorem dX8_passAll_48 : decode cX8_passAll 48 = .ok (.aload_n 0, 1) := by decide +kernel
theorem dX8_passAll_49 : decode cX8_passAll 49 = .ok (.aload_n 0, 1) := by decide +kernel
theorem dX8_passAll_50 : decode cX8_passAll 50 = .ok (.aload_n 0, 1) := by decide +kernel
theorem dX8_passAll_51 : decode cX8_passAll 51 = .ok (.getfield 103, 3) := by decide +kernel
theorem dX8_passAll_54 : decode cX8_passAll 54 = .ok (.invokevirtual 306, 3) := by decide +kernel
theorem dX8_passAll_57 : decode cX8_passAll 57 = .ok (.putfield 103, 3) := by decide +kernel
theorem dX8_passAll_60 : decode cX8_passAll 60 = .ok (.aload_n 0, 1) := by decide +kernel
theorem dX8_passAll_61 : decode cX8_passAll 61 = .ok (.aload_n 0, 1) := by decide +kernel
theorem dX8_passAll_62 : decode cX8_passAll 62 = .ok (.aload_n 0, 1) := by decide +kernel
theorem dX8_passAll_63 : decode cX8_passAll 63 = .ok (.getfield 136, 3) := by decide +kernel
theorem dX8_passAll_66 : decode cX8_passAll 66 = .ok (.invokevirtual 306, 3) := by decide +kernel
theorem dX8_passAll_69 : decode cX8_passAll 69 = .ok (.putfield 136, 3) := by decide +kernel
theorem dX8_passAll_72 : decode cX8_passAll 72 = .ok (.aload_n 0, 1) := by decide +kernel
theorem dX8_passAll_73 : decode cX8_passAll 73 = .ok (.aload_n 0, 1) := by decide +kernel
theorem dX8_passAll_74 : decode cX8_passAll 74 = .ok (.aload_n 0, 1) := by decide +kernel
theorem dX8_passAll_75 : decode cX8_passAll 75 = .ok (.getfield 145, 3) := by decide +kernel
theorem dX8_passAll_78 : decode cX8_passAll 78 = .ok (.invokevirtual 306, 3) := by decide +kernel
theorem dX8_passAll_81 : decode cX8_passAll 81 = .ok (.putfield 145, 3) := by decide +kernel
theorem dX8_passAll_84 : decode cX8_passAll 84 = .ok (.aload_n 0, 1) := by decide +kernel
theorem dX8_passAll_85 : decode cX8_passAll 85 = .ok (.aload_n 0, 1) := by decide +kernel
theorem dX8_passAll_86 : decode cX8_passAll 86 = .ok (.aload_n 0, 1) := by decide +kernel
theorem dX8_passAll_87 : decode cX8_passAll 87 = .ok (.getfield 151, 3) := by decide +kernel
theorem dX8_passAll_90 : decode cX8_passAll 90 = .ok (.invokevirtual 306, 3) := by decide +kernel
theorem dX8_passAll_93 : decode cX8_passAll 93 = .ok (.putfield 151, 3) := by decide +kernel
theorem dX8_passAll_96 : decode cX8_passAll 96 = .ok (.aload_n 0, 1) := by decide +kernel
theorem dX8_passAll_97 : decode cX8_passAll 97 = .ok (.aload_n 0, 1) := by decide +kernel
theorem dX8_passAll_98 : decode cX8_passAll 98 = .ok (.aload_n 0, 1) := by decide +kernel
theorem dX8_passAll_99 : decode cX8_passAll 99 = .ok (.getfield 265, 3) := by decide +kernel
theorem dX8_passAll_102 : decode cX8_passAll 102 = .ok (.invokevirtual 306, 3) := by decide +kernel
theorem dX8_passAll_105 : decode cX8_passAll 105 = .ok (.putfield 265, 3) := by decide +kernel
theorem dX8_passAll_108 : decode cX8_passAll 108 = .ok (.aload_n 0, 1) := by decide +kernel
theorem dX8_passAll_109 : decode cX8_passAll 109 = .ok (.aload_n 0, 1) := by decide +kernel
theorem dX8_passAll_110 : decode cX8_passAll 110 = .ok (.getfield 7, 3) := by decide +kernel
theorem dX8_passAll_113 : decode cX8_passAll 113 = .ok (.bipush 6, 2) := by decide +kernel
theorem dX8_passAll_115 : decode cX8_passAll 115 = .ok (.invokevirtual 309, 3) := by decide +kernel
theorem dX8_passAll_118 : decode cX8_passAll 118 = .ok (.aload_n 0, 1) := by decide +kernel
theorem dX8_passAll_119 : decode cX8_passAll 119 = .ok (.aload_n 0, 1) := by decide +kernel
theorem dX8_passAll_120 : decode cX8_passAll 120 = .ok (.getfield 13, 3) := by decide +kernel
theorem dX8_passAll_123 : decode cX8_passAll 123 = .ok (.bipush 6, 2) := by decide +kernel
theorem dX8_passAll_125 : decode cX8_passAll 125 = .ok (.invokevirtual 309, 3) := by decide +kernel
theorem dX8_passAll_128 : decode cX8_passAll 128 = .ok (.aload_n 0, 1) := by decide +kernel
theorem dX8_passAll_129 : decode cX8_passAll 129 = .ok (.aload_n 0, 1) := by decide +kernel
theorem dX8_passAll_130 : decode cX8_passAll 130 = .ok (.getfield 16, 3) := by decide +kernel
theorem dX8_passAll_133 : decode cX8_passAll 133 = .ok (.bipush 6, 2) := by decide +kernel
theorem dX8_passAll_135 : decode cX8_passAll 135 = .ok (.invokevirtual 309, 3) := by decide +kernel
theorem dX8_passAll_138 : decode cX8_passAll 138 = .ok (.aload_n 0, 1) := by decide +kernel
theorem dX8_passAll_139 : decode cX8_passAll 139 = .ok (.aload_n 0, 1) := by decide +kernel
theorem dX8_passAll_140 : decode cX8_passAll 140 = .ok (.getfield 19, 3) := by decide +kernel
theorem dX8_passAll_143 : decode cX8_passAll 143 = .ok (.bipush 6, 2) := by decide +kernel
theorem dX8_passAll_145 : decode cX8_passAll 145 = .ok (.invokevirtual 309, 3) := by decide +kernel
theorem dX8_passAll_148 : decode cX8_passAll 148 = .ok (.aload_n 0, 1) := by decide +kernel
theorem dX8_passAll_149 : decode cX8_passAll 149 = .ok (.aload_n 0, 1) := by decide +kernel
theorem dX8_passAll_150 : decode cX8_passAll 150 = .ok (.getfield 22, 3) := by decide +kernel
theorem dX8_passAll_153 : decode cX8_passAll 153 = .ok (.bipush 18, 2) := by decide +kernel
theorem dX8_passAll_155 : decode cX8_passAll 155 = .ok (.invokevirtual 309, 3) := by decide +kernel
theorem dX8_passAll_158 : decode cX8_passAll 158 = .ok (.aload_n 0, 1) := by decide +kernel
theorem dX8_passAll_159 : decode cX8_passAll 159 = .ok (.aload_n 0, 1) := by decide +kernel
theorem dX8_passAll_160 : decode cX8_passAll 160 = .ok (.getfield 25, 3) := by decide +kernel
theorem dX8_passAll_163 : decode cX8_passAll 163 = .ok (.bipush 8, 2) := by decide +kernel
theorem dX8_passAll_165 : decode cX8_passAll 165 = .ok (.invokevirtual 309, 3) := by decide +kernel
theorem dX8_passAll_168 : decode cX8_passAll 168 = .ok (.aload_n 0, 1) := by decide +kernel
theorem dX8_passAll_169 : decode cX8_passAll 169 = .ok (.aload_n 0, 1) := by decide +kernel
theorem dX8_passAll_170 : decode cX8_passAll 170 = .ok (.getfield 28, 3) := by decide +kernel
theorem dX8_passAll_173 : decode cX8_passAll 173 = .ok (.bipush 8, 2) := by decide +kernel
theorem dX8_passAll_175 : decode cX8_passAll 175 = .ok (.invokevirtual 309, 3) := by decide +kernel
theorem dX8_passAll_178 : decode cX8_passAll 178 = .ok (.aload_n 0, 1) := by decide +kernel
theorem dX8_passAll_179 : decode cX8_passAll 179 = .ok (.aload_n 0, 1) := by decide +kernel
theorem dX8_passAll_180 : decode cX8_passAll 180 = .ok (.getfield 31, 3) := by decide +kernel
theorem dX8_passAll_183 : decode cX8_passAll 183 = .ok (.bipush 8, 2) := by decide +kernel
theorem dX8_passAll_185 : decode cX8_passAll 185 = .ok (.invokevirtual 309, 3) := by decide +kernel
theorem dX8_passAll_188 : decode cX8_passAll 188 = .ok (.return_, 1) := by decide +kernel
theorem dX8_image_0 : decode cX8_image 0 = .ok (.iload_n 1, 1) := by decide +kernel
theorem dX8_image_1 : decode cX8_image 1 = .ok (.i2l, 1) := by decide +kernel
theorem dX8_image_2 : decode cX8_image 2 = .ok (.lconst 0, 1) := by decide +kernel
theorem dX8_image_3 : decode cX8_image 3 = .ok (.lconst 1, 1) := by decide +kernel
theorem dX8_image_4 : decode cX8_image 4 = .ok (.invokestatic 75, 3) := by decide +kernel
theorem dX8_image_7 : decode cX8_image 7 = .ok (.ifCond .ne 6, 3) := by decide +kernel
theorem dX8_image_10 : decode cX8_image 10 = .ok (.bipush (-2), 2) := by decide +kernel
theorem dX8_image_12 : decode cX8_image 12 = .ok (.ireturn, 1) := by decide +kernel
theorem dX8_image_13 : decode cX8_image 13 = .ok (.aload_n 0, 1) := by decide +kernel
theorem dX8_image_14 : decode cX8_image 14 = .ok (.bipush 90, 2) := by decide +kernel
theorem dX8_image_16 : decode cX8_image 16 = .ok (.iload_n 1, 1) := by decide +kernel
theorem dX8_image_17 : decode cX8_image 17 = .ok (.imul, 1) := by decide +kernel
theorem dX8_image_18 : decode cX8_image 18 = .ok (.putfield 303, 3) := by decide +kernel
theorem dX8_image_21 : decode cX8_image 21 = .ok (.aload_n 0, 1) := by decide +kernel
theorem dX8_image_22 : decode cX8_image 22 = .ok (.iconst 1, 1) := by decide +kernel
theorem dX8_image_23 : decode cX8_image 23 = .ok (.putfield 299, 3) := by decide +kernel
theorem dX8_image_26 : decode cX8_image 26 = .ok (.aload_n 0, 1) := by decide +kernel
theorem dX8_image_27 : decode cX8_image 27 = .ok (.invokevirtual 313, 3) := by decide +kernel
theorem dX8_image_30 : decode cX8_image 30 = .ok (.aload_n 0, 1) := by decide +kernel
theorem dX8_image_31 : decode cX8_image 31 = .ok (.getfield 62, 3) := by decide +kernel
theorem dX8_image_34 : decode cX8_image 34 = .ok (.iload_n 1, 1) := by decide +kernel
theorem dX8_image_35 : decode cX8_image 35 = .ok (.iconst 1, 1) := by decide +kernel
theorem dX8_image_36 : decode cX8_image 36 = .ok (.bastore, 1) := by decide +kernel
theorem dX8_image_37 : decode cX8_image 37 = .ok (.iconst 1, 1) := by decide +kernel
theorem dX8_image_38 : decode cX8_image 38 = .ok (.ireturn, 1) := by decide +kernel
theorem dX8_restore_0 : decode cX8_restore 0 = .ok (.iload_n 1, 1) := by decide +kernel
theorem dX8_restore_1 : decode cX8_restore 1 = .ok (.i2l, 1) := by decide +kernel
theorem dX8_restore_2 : decode cX8_restore 2 = .ok (.lconst 0, 1) := by decide +kernel
theorem dX8_restore_3 : decode cX8_restore 3 = .ok (.lconst 1, 1) := by decide +kernel
theorem dX8_restore_4 : decode cX8_restore 4 = .ok (.invokestatic 75, 3) := by decide +kernel
theorem dX8_restore_7 : decode cX8_restore 7 = .ok (.ifCond .ne 6, 3) := by decide +kernel
theorem dX8_restore_10 : decode cX8_restore 10 = .ok (.bipush (-2), 2) := by decide +kernel
theorem dX8_restore_12 : decode cX8_restore 12 = .ok (.ireturn, 1) := by decide +kernel
theorem dX8_restore_13 : decode cX8_restore 13 = .ok (.aload_n 0, 1) := by decide +kernel
theorem dX8_restore_14 : decode cX8_restore 14 = .ok (.getfield 62, 3) := by decide +kernel
theorem dX8_restore_17 : decode cX8_restore 17 = .ok (.iload_n 1, 1) := by decide +kernel
theorem dX8_restore_18 : decode cX8_restore 18 = .ok (.baload, 1) := by decide +kernel
theorem dX8_restore_19 : decode cX8_restore 19 = .ok (.ifCond .ne 6, 3) := by decide +kernel
theorem dX8_restore_22 : decode cX8_restore 22 = .ok (.bipush (-3), 2) := by decide +kernel
theorem dX8_restore_24 : decode cX8_restore 24 = .ok (.ireturn, 1) := by decide +kernel
theorem dX8_restore_25 : decode cX8_restore 25 = .ok (.aload_n 0, 1) := by decide +kernel
theorem dX8_restore_26 : decode cX8_restore 26 = .ok (.bipush 90, 2) := by decide +kernel
theorem dX8_restore_28 : decode cX8_restore 28 = .ok (.iload_n 1, 1) := by decide +kernel
theorem dX8_restore_29 : decode cX8_restore 29 = .ok (.imul, 1) := by decide +kernel
theorem dX8_restore_30 : decode cX8_restore 30 = .ok (.putfield 303, 3) := by decide +kernel
theorem dX8_restore_33 : decode cX8_restore 33 = .ok (.aload_n 0, 1) := by decide +kernel
theorem dX8_restore_34 : decode cX8_restore 34 = .ok (.iconst 0, 1) := by decide +kernel
theorem dX8_restore_35 : decode cX8_restore 35 = .ok (.putfield 299, 3) := by decide +kernel
theorem dX8_restore_38 : decode cX8_restore 38 = .ok (.aload_n 0, 1) := by decide +kernel
theorem dX8_restore_39 : decode cX8_restore 39 = .ok (.invokevirtual 313, 3) := by decide +kernel
theorem dX8_restore_42 : decode cX8_restore 42 = .ok (.iconst 1, 1) := by decide +kernel
theorem dX8_restore_43 : decode cX8_restore 43 = .ok (.ireturn, 1) := by decide +kernel
theorem dX8_toldOf_0 : decode cX8_toldOf 0 = .ok (.aload_n 0, 1) := by decide +kernel
theorem dX8_toldOf_1 : decode cX8_toldOf 1 = .ok (.iload_n 1, 1) := by decide +kernel
theorem dX8_toldOf_2 : decode cX8_toldOf 2 = .ok (.invokevirtual 95, 3) := by decide +kernel
theorem dX8_toldOf_5 : decode cX8_toldOf 5 = .ok (.ifCond .ne 6, 3) := by decide +kernel
theorem dX8_toldOf_8 : decode cX8_toldOf 8 = .ok (.bipush (-2), 2) := by decide +kernel
theorem dX8_toldOf_10 : decode cX8_toldOf 10 = .ok (.ireturn, 1) := by decide +kernel
theorem dX8_toldOf_11 : decode cX8_toldOf 11 = .ok (.iload_n 2, 1) := by decide +kernel
theorem dX8_toldOf_12 : decode cX8_toldOf 12 = .ok (.tableswitch 98 0 7 #[48, 55, 62, 62, 62, 75, 82, 89], 48) := by decide +kernel
theorem dX8_toldOf_60 : decode cX8_toldOf 60 = .ok (.aload_n 0, 1) := by decide +kernel
theorem dX8_toldOf_61 : decode cX8_toldOf 61 = .ok (.getfield 7, 3) := by decide +kernel
theorem dX8_toldOf_64 : decode cX8_toldOf 64 = .ok (.iload_n 1, 1) := by decide +kernel
theorem dX8_toldOf_65 : decode cX8_toldOf 65 = .ok (.iaload, 1) := by decide +kernel
theorem dX8_toldOf_66 : decode cX8_toldOf 66 = .ok (.ireturn, 1) := by decide +kernel
theorem dX8_toldOf_67 : decode cX8_toldOf 67 = .ok (.aload_n 0, 1) := by decide +kernel
theorem dX8_toldOf_68 : decode cX8_toldOf 68 = .ok (.getfield 13, 3) := by decide +kernel
theorem dX8_toldOf_71 : decode cX8_toldOf 71 = .ok (.iload_n 1, 1) := by decide +kernel
theorem dX8_toldOf_72 : decode cX8_toldOf 72 = .ok (.iaload, 1) := by decide +kernel
theorem dX8_toldOf_73 : decode cX8_toldOf 73 = .ok (.ireturn, 1) := by decide +kernel
theorem dX8_toldOf_74 : decode cX8_toldOf 74 = .ok (.aload_n 0, 1) := by decide +kernel
theorem dX8_toldOf_75 : decode cX8_toldOf 75 = .ok (.getfield 22, 3) := by decide +kernel
theorem dX8_toldOf_78 : decode cX8_toldOf 78 = .ok (.iconst 3, 1) := by decide +kernel
theorem dX8_toldOf_79 : decode cX8_toldOf 79 = .ok (.iload_n 1, 1) := by decide +kernel
theorem dX8_toldOf_80 : decode cX8_toldOf 80 = .ok (.imul, 1) := by decide +kernel
theorem dX8_toldOf_81 : decode cX8_toldOf 81 = .ok (.iload_n 2, 1) := by decide +kernel
theorem dX8_toldOf_82 : decode cX8_toldOf 82 = .ok (.iadd, 1) := by decide +kernel
theorem dX8_toldOf_83 : decode cX8_toldOf 83 = .ok (.iconst 2, 1) := by decide +kernel
theorem dX8_toldOf_84 : decode cX8_toldOf 84 = .ok (.isub, 1) := by decide +kernel
theorem dX8_toldOf_85 : decode cX8_toldOf 85 = .ok (.iaload, 1) := by decide +kernel
theorem dX8_toldOf_86 : decode cX8_toldOf 86 = .ok (.ireturn, 1) := by decide +kernel
theorem dX8_toldOf_87 : decode cX8_toldOf 87 = .ok (.aload_n 0, 1) := by decide +kernel
theorem dX8_toldOf_88 : decode cX8_toldOf 88 = .ok (.getfield 19, 3) := by decide +kernel
theorem dX8_toldOf_91 : decode cX8_toldOf 91 = .ok (.iload_n 1, 1) := by decide +kernel
theorem dX8_toldOf_92 : decode cX8_toldOf 92 = .ok (.iaload, 1) := by decide +kernel
theorem dX8_toldOf_93 : decode cX8_toldOf 93 = .ok (.ireturn, 1) := by decide +kernel
theorem dX8_toldOf_94 : decode cX8_toldOf 94 = .ok (.aload_n 0, 1) := by decide +kernel
theorem dX8_toldOf_95 : decode cX8_toldOf 95 = .ok (.getfield 16, 3) := by decide +kernel
theorem dX8_toldOf_98 : decode cX8_toldOf 98 = .ok (.iload_n 1, 1) := by decide +kernel
theorem dX8_toldOf_99 : decode cX8_toldOf 99 = .ok (.iaload, 1) := by decide +kernel
theorem dX8_toldOf_100 : decode cX8_toldOf 100 = .ok (.ireturn, 1) := by decide +kernel
theorem dX8_toldOf_101 : decode cX8_toldOf 101 = .ok (.aload_n 0, 1) := by decide +kernel
theorem dX8_toldOf_102 : decode cX8_toldOf 102 = .ok (.getfield 88, 3) := by decide +kernel
theorem dX8_toldOf_105 : decode cX8_toldOf 105 = .ok (.iload_n 1, 1) := by decide +kernel
theorem dX8_toldOf_106 : decode cX8_toldOf 106 = .ok (.ishr, 1) := by decide +kernel
theorem dX8_toldOf_107 : decode cX8_toldOf 107 = .ok (.iconst 1, 1) := by decide +kernel
theorem dX8_toldOf_108 : decode cX8_toldOf 108 = .ok (.iand, 1) := by decide +kernel
theorem dX8_toldOf_109 : decode cX8_toldOf 109 = .ok (.ireturn, 1) := by decide +kernel
theorem dX8_toldOf_110 : decode cX8_toldOf 110 = .ok (.bipush (-2), 2) := by decide +kernel
theorem dX8_toldOf_112 : decode cX8_toldOf 112 = .ok (.ireturn, 1) := by decide +kernel
theorem dX8_told_0 : decode cX8_told 0 = .ok (.iload_n 1, 1) := by decide +kernel
theorem dX8_told_1 : decode cX8_told 1 = .ok (.i2l, 1) := by decide +kernel
theorem dX8_told_2 : decode cX8_told 2 = .ok (.ldc2_w 316, 3) := by decide +kernel
theorem dX8_told_5 : decode cX8_told 5 = .ok (.ldc2_w 318, 3) := by decide +kernel
theorem dX8_told_8 : decode cX8_told 8 = .ok (.invokestatic 75, 3) := by decide +kernel
theorem dX8_told_11 : decode cX8_told 11 = .ok (.ifCond .eq 18, 3) := by decide +kernel
theorem dX8_told_14 : decode cX8_told 14 = .ok (.aload_n 0, 1) := by decide +kernel
theorem dX8_told_15 : decode cX8_told 15 = .ok (.iload_n 1, 1) := by decide +kernel
theorem dX8_told_16 : decode cX8_told 16 = .ok (.bipush 10, 2) := by decide +kernel
theorem dX8_told_18 : decode cX8_told 18 = .ok (.idiv, 1) := by decide +kernel
theorem dX8_told_19 : decode cX8_told 19 = .ok (.iconst 1, 1) := by decide +kernel
theorem dX8_told_20 : decode cX8_told 20 = .ok (.isub, 1) := by decide +kernel
theorem dX8_told_21 : decode cX8_told 21 = .ok (.iload_n 1, 1) := by decide +kernel
theorem dX8_told_22 : decode cX8_told 22 = .ok (.bipush 10, 2) := by decide +kernel
theorem dX8_told_24 : decode cX8_told 24 = .ok (.irem, 1) := by decide +kernel
theorem dX8_told_25 : decode cX8_told 25 = .ok (.invokevirtual 320, 3) := by decide +kernel
theorem dX8_told_28 : decode cX8_told 28 = .ok (.ireturn, 1) := by decide +kernel
theorem dX8_told_29 : decode cX8_told 29 = .ok (.iload_n 1, 1) := by decide +kernel
theorem dX8_told_30 : decode cX8_told 30 = .ok (.tableswitch 98 0 8 #[50, 55, 60, 65, 70, 75, 80, 85, 90], 50) := by decide +kernel
theorem dX8_told_80 : decode cX8_told 80 = .ok (.aload_n 0, 1) := by decide +kernel
theorem dX8_told_81 : decode cX8_told 81 = .ok (.getfield 110, 3) := by decide +kernel
theorem dX8_told_84 : decode cX8_told 84 = .ok (.ireturn, 1) := by decide +kernel
theorem dX8_told_85 : decode cX8_told 85 = .ok (.aload_n 0, 1) := by decide +kernel
theorem dX8_told_86 : decode cX8_told 86 = .ok (.getfield 79, 3) := by decide +kernel
theorem dX8_told_89 : decode cX8_told 89 = .ok (.ireturn, 1) := by decide +kernel
theorem dX8_told_90 : decode cX8_told 90 = .ok (.aload_n 0, 1) := by decide +kernel
theorem dX8_told_91 : decode cX8_told 91 = .ok (.getfield 66, 3) := by decide +kernel
theorem dX8_told_94 : decode cX8_told 94 = .ok (.ireturn, 1) := by decide +kernel
theorem dX8_told_95 : decode cX8_told 95 = .ok (.aload_n 0, 1) := by decide +kernel
theorem dX8_told_96 : decode cX8_told 96 = .ok (.getfield 70, 3) := by decide +kernel
theorem dX8_told_99 : decode cX8_told 99 = .ok (.ireturn, 1) := by decide +kernel
theorem dX8_told_100 : decode cX8_told 100 = .ok (.aload_n 0, 1) := by decide +kernel
theorem dX8_told_101 : decode cX8_told 101 = .ok (.getfield 103, 3) := by decide +kernel
theorem dX8_told_104 : decode cX8_told 104 = .ok (.ireturn, 1) := by decide +kernel
theorem dX8_told_105 : decode cX8_told 105 = .ok (.aload_n 0, 1) := by decide +kernel
theorem dX8_told_106 : decode cX8_told 106 = .ok (.getfield 136, 3) := by decide +kernel
theorem dX8_told_109 : decode cX8_told 109 = .ok (.ireturn, 1) := by decide +kernel
theorem dX8_told_110 : decode cX8_told 110 = .ok (.aload_n 0, 1) := by decide +kernel
theorem dX8_told_111 : decode cX8_told 111 = .ok (.getfield 265, 3) := by decide +kernel
theorem dX8_told_114 : decode cX8_told 114 = .ok (.ireturn, 1) := by decide +kernel
theorem dX8_told_115 : decode cX8_told 115 = .ok (.aload_n 0, 1) := by decide +kernel
theorem dX8_told_116 : decode cX8_told 116 = .ok (.getfield 151, 3) := by decide +kernel
theorem dX8_told_119 : decode cX8_told 119 = .ok (.ireturn, 1) := by decide +kernel
theorem dX8_told_120 : decode cX8_told 120 = .ok (.aload_n 0, 1) := by decide +kernel
theorem dX8_told_121 : decode cX8_told 121 = .ok (.getfield 145, 3) := by decide +kernel
theorem dX8_told_124 : decode cX8_told 124 = .ok (.ldc 211, 2) := by decide +kernel
theorem dX8_told_126 : decode cX8_told 126 = .ok (.iadd, 1) := by decide +kernel
theorem dX8_told_127 : decode cX8_told 127 = .ok (.ireturn, 1) := by decide +kernel
theorem dX8_told_128 : decode cX8_told 128 = .ok (.bipush (-2), 2) := by decide +kernel
theorem dX8_told_130 : decode cX8_told 130 = .ok (.ireturn, 1) := by decide +kernel
theorem dJ6_bitCount_0f7a4_0 : decode cJ6_bitCount_0f7a4 0 = .ok (.iload_n 0, 1) := by decide +kernel
theorem dJ6_bitCount_0f7a4_1 : decode cJ6_bitCount_0f7a4 1 = .ok (.iload_n 0, 1) := by decide +kernel
theorem dJ6_bitCount_0f7a4_2 : decode cJ6_bitCount_0f7a4 2 = .ok (.iconst 1, 1) := by decide +kernel
theorem dJ6_bitCount_0f7a4_3 : decode cJ6_bitCount_0f7a4 3 = .ok (.iushr, 1) := by decide +kernel
theorem dJ6_bitCount_0f7a4_4 : decode cJ6_bitCount_0f7a4 4 = .ok (.ldc_w 265, 3) := by decide +kernel
theorem dJ6_bitCount_0f7a4_7 : decode cJ6_bitCount_0f7a4 7 = .ok (.iand, 1) := by decide +kernel
theorem dJ6_bitCount_0f7a4_8 : decode cJ6_bitCount_0f7a4 8 = .ok (.isub, 1) := by decide +kernel
theorem dJ6_bitCount_0f7a4_9 : decode cJ6_bitCount_0f7a4 9 = .ok (.istore_n 0, 1) := by decide +kernel
theorem dJ6_bitCount_0f7a4_10 : decode cJ6_bitCount_0f7a4 10 = .ok (.iload_n 0, 1) := by decide +kernel
theorem dJ6_bitCount_0f7a4_11 : decode cJ6_bitCount_0f7a4 11 = .ok (.ldc_w 266, 3) := by decide +kernel
theorem dJ6_bitCount_0f7a4_14 : decode cJ6_bitCount_0f7a4 14 = .ok (.iand, 1) := by decide +kernel
theorem dJ6_bitCount_0f7a4_15 : decode cJ6_bitCount_0f7a4 15 = .ok (.iload_n 0, 1) := by decide +kernel
theorem dJ6_bitCount_0f7a4_16 : decode cJ6_bitCount_0f7a4 16 = .ok (.iconst 2, 1) := by decide +kernel
theorem dJ6_bitCount_0f7a4_17 : decode cJ6_bitCount_0f7a4 17 = .ok (.iushr, 1) := by decide +kernel
theorem dJ6_bitCount_0f7a4_18 : decode cJ6_bitCount_0f7a4 18 = .ok (.ldc_w 266, 3) := by decide +kernel
theorem dJ6_bitCount_0f7a4_21 : decode cJ6_bitCount_0f7a4 21 = .ok (.iand, 1) := by decide +kernel
theorem dJ6_bitCount_0f7a4_22 : decode cJ6_bitCount_0f7a4 22 = .ok (.iadd, 1) := by decide +kernel
theorem dJ6_bitCount_0f7a4_23 : decode cJ6_bitCount_0f7a4 23 = .ok (.istore_n 0, 1) := by decide +kernel
theorem dJ6_bitCount_0f7a4_24 : decode cJ6_bitCount_0f7a4 24 = .ok (.iload_n 0, 1) := by decide +kernel
theorem dJ6_bitCount_0f7a4_25 : decode cJ6_bitCount_0f7a4 25 = .ok (.iload_n 0, 1) := by decide +kernel
theorem dJ6_bitCount_0f7a4_26 : decode cJ6_bitCount_0f7a4 26 = .ok (.iconst 4, 1) := by decide +kernel
theorem dJ6_bitCount_0f7a4_27 : decode cJ6_bitCount_0f7a4 27 = .ok (.iushr, 1) := by decide +kernel
theorem dJ6_bitCount_0f7a4_28 : decode cJ6_bitCount_0f7a4 28 = .ok (.iadd, 1) := by decide +kernel
theorem dJ6_bitCount_0f7a4_29 : decode cJ6_bitCount_0f7a4 29 = .ok (.ldc_w 267, 3) := by decide +kernel
theorem dJ6_bitCount_0f7a4_32 : decode cJ6_bitCount_0f7a4 32 = .ok (.iand, 1) := by decide +kernel
theorem dJ6_bitCount_0f7a4_33 : decode cJ6_bitCount_0f7a4 33 = .ok (.istore_n 0, 1) := by decide +kernel
theorem dJ6_bitCount_0f7a4_34 : decode cJ6_bitCount_0f7a4 34 = .ok (.iload_n 0, 1) := by decide +kernel
theorem dJ6_bitCount_0f7a4_35 : decode cJ6_bitCount_0f7a4 35 = .ok (.iload_n 0, 1) := by decide +kernel
theorem dJ6_bitCount_0f7a4_36 : decode cJ6_bitCount_0f7a4 36 = .ok (.bipush 8, 2) := by decide +kernel
theorem dJ6_bitCount_0f7a4_38 : decode cJ6_bitCount_0f7a4 38 = .ok (.iushr, 1) := by decide +kernel
theorem dJ6_bitCount_0f7a4_39 : decode cJ6_bitCount_0f7a4 39 = .ok (.iadd, 1) := by decide +kernel
theorem dJ6_bitCount_0f7a4_40 : decode cJ6_bitCount_0f7a4 40 = .ok (.istore_n 0, 1) := by decide +kernel
theorem dJ6_bitCount_0f7a4_41 : decode cJ6_bitCount_0f7a4 41 = .ok (.iload_n 0, 1) := by decide +kernel
theorem dJ6_bitCount_0f7a4_42 : decode cJ6_bitCount_0f7a4 42 = .ok (.iload_n 0, 1) := by decide +kernel
theorem dJ6_bitCount_0f7a4_43 : decode cJ6_bitCount_0f7a4 43 = .ok (.bipush 16, 2) := by decide +kernel
theorem dJ6_bitCount_0f7a4_45 : decode cJ6_bitCount_0f7a4 45 = .ok (.iushr, 1) := by decide +kernel
theorem dJ6_bitCount_0f7a4_46 : decode cJ6_bitCount_0f7a4 46 = .ok (.iadd, 1) := by decide +kernel
theorem dJ6_bitCount_0f7a4_47 : decode cJ6_bitCount_0f7a4 47 = .ok (.istore_n 0, 1) := by decide +kernel
theorem dJ6_bitCount_0f7a4_48 : decode cJ6_bitCount_0f7a4 48 = .ok (.iload_n 0, 1) := by decide +kernel
theorem dJ6_bitCount_0f7a4_49 : decode cJ6_bitCount_0f7a4 49 = .ok (.bipush 63, 2) := by decide +kernel
theorem dJ6_bitCount_0f7a4_51 : decode cJ6_bitCount_0f7a4 51 = .ok (.iand, 1) := by decide +kernel
theorem dJ6_bitCount_0f7a4_52 : decode cJ6_bitCount_0f7a4 52 = .ok (.ireturn, 1) := by decide +kernel
theorem dJ9_abs_0f7a4_0 : decode cJ9_abs_0f7a4 0 = .ok (.iload_n 0, 1) := by decide +kernel
theorem dJ9_abs_0f7a4_1 : decode cJ9_abs_0f7a4 1 = .ok (.ifCond .ge 8, 3) := by decide +kernel
theorem dJ9_abs_0f7a4_4 : decode cJ9_abs_0f7a4 4 = .ok (.iload_n 0, 1) := by decide +kernel
theorem dJ9_abs_0f7a4_5 : decode cJ9_abs_0f7a4 5 = .ok (.ineg, 1) := by decide +kernel
theorem dJ9_abs_0f7a4_6 : decode cJ9_abs_0f7a4 6 = .ok (.goto 4, 3) := by decide +kernel
theorem dJ9_abs_0f7a4_9 : decode cJ9_abs_0f7a4 9 = .ok (.iload_n 0, 1) := by decide +kernel
theorem dJ9_abs_0f7a4_10 : decode cJ9_abs_0f7a4 10 = .ok (.ireturn, 1) := by decide +kernel
theorem dJ9_abs_067f4_0 : decode cJ9_abs_067f4 0 = .ok (.lload_n 0, 1) := by decide +kernel
theorem dJ9_abs_067f4_1 : decode cJ9_abs_067f4 1 = .ok (.lconst 0, 1) := by decide +kernel
theorem dJ9_abs_067f4_2 : decode cJ9_abs_067f4 2 = .ok (.lcmp, 1) := by decide +kernel
theorem dJ9_abs_067f4_3 : decode cJ9_abs_067f4 3 = .ok (.ifCond .ge 8, 3) := by decide +kernel
theorem dJ9_abs_067f4_6 : decode cJ9_abs_067f4 6 = .ok (.lload_n 0, 1) := by decide +kernel
theorem dJ9_abs_067f4_7 : decode cJ9_abs_067f4 7 = .ok (.lneg, 1) := by decide +kernel
theorem dJ9_abs_067f4_8 : decode cJ9_abs_067f4 8 = .ok (.goto 4, 3) := by decide +kernel
theorem dJ9_abs_067f4_11 : decode cJ9_abs_067f4 11 = .ok (.lload_n 0, 1) := by decide +kernel
theorem dJ9_abs_067f4_12 : decode cJ9_abs_067f4 12 = .ok (.lreturn, 1) := by decide +kernel
theorem dJ9_max_7cf53_0 : decode cJ9_max_7cf53 0 = .ok (.iload_n 0, 1) := by decide +kernel
theorem dJ9_max_7cf53_1 : decode cJ9_max_7cf53 1 = .ok (.iload_n 1, 1) := by decide +kernel
theorem dJ9_max_7cf53_2 : decode cJ9_max_7cf53 2 = .ok (.if_icmp .lt 7, 3) := by decide +kernel
theorem dJ9_max_7cf53_5 : decode cJ9_max_7cf53 5 = .ok (.iload_n 0, 1) := by decide +kernel
theorem dJ9_max_7cf53_6 : decode cJ9_max_7cf53 6 = .ok (.goto 4, 3) := by decide +kernel
theorem dJ9_max_7cf53_9 : decode cJ9_max_7cf53 9 = .ok (.iload_n 1, 1) := by decide +kernel
theorem dJ9_max_7cf53_10 : decode cJ9_max_7cf53 10 = .ok (.ireturn, 1) := by decide +kernel
theorem dJ9_min_7cf53_0 : decode cJ9_min_7cf53 0 = .ok (.iload_n 0, 1) := by decide +kernel
theorem dJ9_min_7cf53_1 : decode cJ9_min_7cf53 1 = .ok (.iload_n 1, 1) := by decide +kernel
theorem dJ9_min_7cf53_2 : decode cJ9_min_7cf53 2 = .ok (.if_icmp .gt 7, 3) := by decide +kernel
theorem dJ9_min_7cf53_5 : decode cJ9_min_7cf53 5 = .ok (.iload_n 0, 1) := by decide +kernel
theorem dJ9_min_7cf53_6 : decode cJ9_min_7cf53 6 = .ok (.goto 4, 3) := by decide +kernel
theorem dJ9_min_7cf53_9 : decode cJ9_min_7cf53 9 = .ok (.iload_n 1, 1) := by decide +kernel
theorem dJ9_min_7cf53_10 : decode cJ9_min_7cf53 10 = .ok (.ireturn, 1) := by decide +kernel
theorem dL_law_0 : decode cL_law 0 = .ok (.new 7, 3) := by decide +kernel
theorem dL_law_3 : decode cL_law 3 = .ok (.dup, 1) := by decide +kernel
theorem dL_law_4 : decode cL_law 4 = .ok (.invokespecial 9, 3) := by decide +kernel
theorem dL_law_7 : decode cL_law 7 = .ok (.astore_n 1, 1) := by decide +kernel
theorem dL_law_8 : decode cL_law 8 = .ok (.new 10, 3) := by decide +kernel
theorem dL_law_11 : decode cL_law 11 = .ok (.dup, 1) := by decide +kernel
theorem dL_law_12 : decode cL_law 12 = .ok (.invokespecial 12, 3) := by decide +kernel
theorem dL_law_15 : decode cL_law 15 = .ok (.astore_n 2, 1) := by decide +kernel
theorem dL_law_16 : decode cL_law 16 = .ok (.iconst 0, 1) := by decide +kernel
theorem dL_law_17 : decode cL_law 17 = .ok (.istore_n 3, 1) := by decide +kernel
theorem dL_law_18 : decode cL_law 18 = .ok (.iload_n 3, 1) := by decide +kernel
theorem dL_law_19 : decode cL_law 19 = .ok (.aload_n 0, 1) := by decide +kernel
theorem dL_law_20 : decode cL_law 20 = .ok (.arraylength, 1) := by decide +kernel
theorem dL_law_21 : decode cL_law 21 = .ok (.bipush 6, 2) := by decide +kernel
theorem dL_law_23 : decode cL_law 23 = .ok (.isub, 1) := by decide +kernel
theorem dL_law_24 : decode cL_law 24 = .ok (.if_icmp .gt 1042, 3) := by decide +kernel
theorem dL_law_27 : decode cL_law 27 = .ok (.aload_n 0, 1) := by decide +kernel
theorem dL_law_28 : decode cL_law 28 = .ok (.iload_n 3, 1) := by decide +kernel
theorem dL_law_29 : decode cL_law 29 = .ok (.iaload, 1) := by decide +kernel
theorem dL_law_30 : decode cL_law 30 = .ok (.bipush 31, 2) := by decide +kernel
theorem dL_law_32 : decode cL_law 32 = .ok (.iand, 1) := by decide +kernel
theorem dL_law_33 : decode cL_law 33 = .ok (.tableswitch 1027 0 28 #[131, 184, 207, 250, 283, 316, 339, 352, 365, 388, 421, 444, 467, 480, 524, 547, 580, 614, 667, 700, 764, 823, 836, 859, 872, 915, 958, 981, 1004], 131) := by decide +kernel
theorem dL_law_164 : decode cL_law 164 = .ok (.aload_n 1, 1) := by decide +kernel
theorem dL_law_165 : decode cL_law 165 = .ok (.aload_n 0, 1) := by decide +kernel
theorem dL_law_166 : decode cL_law 166 = .ok (.iload_n 3, 1) := by decide +kernel
theorem dL_law_167 : decode cL_law 167 = .ok (.iconst 1, 1) := by decide +kernel
theorem dL_law_168 : decode cL_law 168 = .ok (.iadd, 1) := by decide +kernel
theorem dL_law_169 : decode cL_law 169 = .ok (.iaload, 1) := by decide +kernel
theorem dL_law_170 : decode cL_law 170 = .ok (.aload_n 0, 1) := by decide +kernel
theorem dL_law_171 : decode cL_law 171 = .ok (.iload_n 3, 1) := by decide +kernel
theorem dL_law_172 : decode cL_law 172 = .ok (.iconst 2, 1) := by decide +kernel
theorem dL_law_173 : decode cL_law 173 = .ok (.iadd, 1) := by decide +kernel
theorem dL_law_174 : decode cL_law 174 = .ok (.iaload, 1) := by decide +kernel
theorem dL_law_175 : decode cL_law 175 = .ok (.aload_n 0, 1) := by decide +kernel
theorem dL_law_176 : decode cL_law 176 = .ok (.iload_n 3, 1) := by decide +kernel
theorem dL_law_177 : decode cL_law 177 = .ok (.iconst 3, 1) := by decide +kernel
theorem dL_law_178 : decode cL_law 178 = .ok (.iadd, 1) := by decide +kernel
theorem dL_law_179 : decode cL_law 179 = .ok (.iaload, 1) := by decide +kernel
theorem dL_law_180 : decode cL_law 180 = .ok (.aload_n 0, 1) := by decide +kernel
theorem dL_law_181 : decode cL_law 181 = .ok (.iload_n 3, 1) := by decide +kernel
theorem dL_law_182 : decode cL_law 182 = .ok (.iconst 4, 1) := by decide +kernel
theorem dL_law_183 : decode cL_law 183 = .ok (.iadd, 1) := by decide +kernel
theorem dL_law_184 : decode cL_law 184 = .ok (.iaload, 1) := by decide +kernel
theorem dL_law_185 : decode cL_law 185 = .ok (.invokevirtual 13, 3) := by decide +kernel
theorem dL_law_188 : decode cL_law 188 = .ok (.aload_n 2, 1) := by decide +kernel
theorem dL_law_189 : decode cL_law 189 = .ok (.aload_n 0, 1) := by decide +kernel
theorem dL_law_190 : decode cL_law 190 = .ok (.iload_n 3, 1) := by decide +kernel
theorem dL_law_191 : decode cL_law 191 = .ok (.iconst 1, 1) := by decide +kernel
theorem dL_law_192 : decode cL_law 192 = .ok (.iadd, 1) := by decide +kernel
theorem dL_law_193 : decode cL_law 193 = .ok (.iaload, 1) := by decide +kernel
theorem dL_law_194 : decode cL_law 194 = .ok (.aload_n 0, 1) := by decide +kernel
theorem dL_law_195 : decode cL_law 195 = .ok (.iload_n 3, 1) := by decide +kernel
theorem dL_law_196 : decode cL_law 196 = .ok (.iconst 2, 1) := by decide +kernel
theorem dL_law_197 : decode cL_law 197 = .ok (.iadd, 1) := by decide +kernel
theorem dL_law_198 : decode cL_law 198 = .ok (.iaload, 1) := by decide +kernel
theorem dL_law_199 : decode cL_law 199 = .ok (.aload_n 0, 1) := by decide +kernel
theorem dL_law_200 : decode cL_law 200 = .ok (.iload_n 3, 1) := by decide +kernel
theorem dL_law_201 : decode cL_law 201 = .ok (.iconst 3, 1) := by decide +kernel
theorem dL_law_202 : decode cL_law 202 = .ok (.iadd, 1) := by decide +kernel
theorem dL_law_203 : decode cL_law 203 = .ok (.iaload, 1) := by decide +kernel
theorem dL_law_204 : decode cL_law 204 = .ok (.aload_n 0, 1) := by decide +kernel
theorem dL_law_205 : decode cL_law 205 = .ok (.iload_n 3, 1) := by decide +kernel
theorem dL_law_206 : decode cL_law 206 = .ok (.iconst 4, 1) := by decide +kernel
theorem dL_law_207 : decode cL_law 207 = .ok (.iadd, 1) := by decide +kernel
theorem dL_law_208 : decode cL_law 208 = .ok (.iaload, 1) := by decide +kernel
theorem dL_law_209 : decode cL_law 209 = .ok (.invokevirtual 17, 3) := by decide +kernel
theorem dL_law_212 : decode cL_law 212 = .ok (.if_icmp .eq 848, 3) := by decide +kernel
theorem dL_law_215 : decode cL_law 215 = .ok (.iconst 0, 1) := by decide +kernel
theorem dL_law_216 : decode cL_law 216 = .ok (.ireturn, 1) := by decide +kernel
theorem dL_law_217 : decode cL_law 217 = .ok (.aload_n 1, 1) := by decide +kernel
theorem dL_law_218 : decode cL_law 218 = .ok (.aload_n 0, 1) := by decide +kernel
theorem dL_law_219 : decode cL_law 219 = .ok (.iload_n 3, 1) := by decide +kernel
theorem dL_law_220 : decode cL_law 220 = .ok (.iconst 1, 1) := by decide +kernel
theorem dL_law_221 : decode cL_law 221 = .ok (.iadd, 1) := by decide +kernel
theorem dL_law_222 : decode cL_law 222 = .ok (.iaload, 1) := by decide +kernel
theorem dL_law_223 : decode cL_law 223 = .ok (.invokevirtual 18, 3) := by decide +kernel
theorem dL_law_226 : decode cL_law 226 = .ok (.aload_n 2, 1) := by decide +kernel
theorem dL_law_227 : decode cL_law 227 = .ok (.aload_n 0, 1) := by decide +kernel
theorem dL_law_228 : decode cL_law 228 = .ok (.iload_n 3, 1) := by decide +kernel
theorem dL_law_229 : decode cL_law 229 = .ok (.iconst 1, 1) := by decide +kernel
theorem dL_law_230 : decode cL_law 230 = .ok (.iadd, 1) := by decide +kernel
theorem dL_law_231 : decode cL_law 231 = .ok (.iaload, 1) := by decide +kernel
theorem dL_law_232 : decode cL_law 232 = .ok (.invokevirtual 22, 3) := by decide +kernel
theorem dL_law_235 : decode cL_law 235 = .ok (.if_icmp .eq 825, 3) := by decide +kernel
theorem dL_law_238 : decode cL_law 238 = .ok (.iconst 0, 1) := by decide +kernel
theorem dL_law_239 : decode cL_law 239 = .ok (.ireturn, 1) := by decide +kernel
theorem dL_law_240 : decode cL_law 240 = .ok (.aload_n 1, 1) := by decide +kernel
theorem dL_law_241 : decode cL_law 241 = .ok (.aload_n 0, 1) := by decide +kernel
theorem dL_law_242 : decode cL_law 242 = .ok (.iload_n 3, 1) := by decide +kernel
theorem dL_law_243 : decode cL_law 243 = .ok (.iconst 1, 1) := by decide +kernel
theorem dL_law_244 : decode cL_law 244 = .ok (.iadd, 1) := by decide +kernel
theorem dL_law_245 : decode cL_law 245 = .ok (.iaload, 1) := by decide +kernel
theorem dL_law_246 : decode cL_law 246 = .ok (.aload_n 0, 1) := by decide +kernel
theorem dL_law_247 : decode cL_law 247 = .ok (.iload_n 3, 1) := by decide +kernel
theorem dL_law_248 : decode cL_law 248 = .ok (.iconst 2, 1) := by decide +kernel
theorem dL_law_249 : decode cL_law 249 = .ok (.iadd, 1) := by decide +kernel
theorem dL_law_250 : decode cL_law 250 = .ok (.iaload, 1) := by decide +kernel
theorem dL_law_251 : decode cL_law 251 = .ok (.aload_n 0, 1) := by decide +kernel
theorem dL_law_252 : decode cL_law 252 = .ok (.iload_n 3, 1) := by decide +kernel
theorem dL_law_253 : decode cL_law 253 = .ok (.iconst 3, 1) := by decide +kernel
theorem dL_law_254 : decode cL_law 254 = .ok (.iadd, 1) := by decide +kernel
theorem dL_law_255 : decode cL_law 255 = .ok (.iaload, 1) := by decide +kernel
theorem dL_law_256 : decode cL_law 256 = .ok (.invokevirtual 23, 3) := by decide +kernel
theorem dL_law_259 : decode cL_law 259 = .ok (.aload_n 2, 1) := by decide +kernel
theorem dL_law_260 : decode cL_law 260 = .ok (.aload_n 0, 1) := by decide +kernel
theorem dL_law_261 : decode cL_law 261 = .ok (.iload_n 3, 1) := by decide +kernel
theorem dL_law_262 : decode cL_law 262 = .ok (.iconst 1, 1) := by decide +kernel
theorem dL_law_263 : decode cL_law 263 = .ok (.iadd, 1) := by decide +kernel
theorem dL_law_264 : decode cL_law 264 = .ok (.iaload, 1) := by decide +kernel
theorem dL_law_265 : decode cL_law 265 = .ok (.aload_n 0, 1) := by decide +kernel
theorem dL_law_266 : decode cL_law 266 = .ok (.iload_n 3, 1) := by decide +kernel
theorem dL_law_267 : decode cL_law 267 = .ok (.iconst 2, 1) := by decide +kernel
theorem dL_law_268 : decode cL_law 268 = .ok (.iadd, 1) := by decide +kernel
theorem dL_law_269 : decode cL_law 269 = .ok (.iaload, 1) := by decide +kernel
theorem dL_law_270 : decode cL_law 270 = .ok (.aload_n 0, 1) := by decide +kernel
theorem dL_law_271 : decode cL_law 271 = .ok (.iload_n 3, 1) := by decide +kernel
theorem dL_law_272 : decode cL_law 272 = .ok (.iconst 3, 1) := by decide +kernel
theorem dL_law_273 : decode cL_law 273 = .ok (.iadd, 1) := by decide +kernel
theorem dL_law_274 : decode cL_law 274 = .ok (.iaload, 1) := by decide +kernel
theorem dL_law_275 : decode cL_law 275 = .ok (.invokevirtual 27, 3) := by decide +kernel
theorem dL_law_278 : decode cL_law 278 = .ok (.if_icmp .eq 782, 3) := by decide +kernel
theorem dL_law_281 : decode cL_law 281 = .ok (.iconst 0, 1) := by decide +kernel
theorem dL_law_282 : decode cL_law 282 = .ok (.ireturn, 1) := by decide +kernel
theorem dL_law_283 : decode cL_law 283 = .ok (.aload_n 1, 1) := by decide +kernel
theorem dL_law_284 : decode cL_law 284 = .ok (.aload_n 0, 1) := by decide +kernel
theorem dL_law_285 : decode cL_law 285 = .ok (.iload_n 3, 1) := by decide +kernel
theorem dL_law_286 : decode cL_law 286 = .ok (.iconst 1, 1) := by decide +kernel
theorem dL_law_287 : decode cL_law 287 = .ok (.iadd, 1) := by decide +kernel
theorem dL_law_288 : decode cL_law 288 = .ok (.iaload, 1) := by decide +kernel
theorem dL_law_289 : decode cL_law 289 = .ok (.aload_n 0, 1) := by decide +kernel
theorem dL_law_290 : decode cL_law 290 = .ok (.iload_n 3, 1) := by decide +kernel
theorem dL_law_291 : decode cL_law 291 = .ok (.iconst 2, 1) := by decide +kernel
theorem dL_law_292 : decode cL_law 292 = .ok (.iadd, 1) := by decide +kernel
theorem dL_law_293 : decode cL_law 293 = .ok (.iaload, 1) := by decide +kernel
theorem dL_law_294 : decode cL_law 294 = .ok (.invokevirtual 28, 3) := by decide +kernel
theorem dL_law_297 : decode cL_law 297 = .ok (.aload_n 2, 1) := by decide +kernel
theorem dL_law_298 : decode cL_law 298 = .ok (.aload_n 0, 1) := by decide +kernel
theorem dL_law_299 : decode cL_law 299 = .ok (.iload_n 3, 1) := by decide +kernel
theorem dL_law_300 : decode cL_law 300 = .ok (.iconst 1, 1) := by decide +kernel
theorem dL_law_301 : decode cL_law 301 = .ok (.iadd, 1) := by decide +kernel
theorem dL_law_302 : decode cL_law 302 = .ok (.iaload, 1) := by decide +kernel
theorem dL_law_303 : decode cL_law 303 = .ok (.aload_n 0, 1) := by decide +kernel
theorem dL_law_304 : decode cL_law 304 = .ok (.iload_n 3, 1) := by decide +kernel
theorem dL_law_305 : decode cL_law 305 = .ok (.iconst 2, 1) := by decide +kernel
theorem dL_law_306 : decode cL_law 306 = .ok (.iadd, 1) := by decide +kernel
theorem dL_law_307 : decode cL_law 307 = .ok (.iaload, 1) := by decide +kernel
theorem dL_law_308 : decode cL_law 308 = .ok (.invokevirtual 32, 3) := by decide +kernel
theorem dL_law_311 : decode cL_law 311 = .ok (.if_icmp .eq 749, 3) := by decide +kernel
theorem dL_law_314 : decode cL_law 314 = .ok (.iconst 0, 1) := by decide +kernel
theorem dL_law_315 : decode cL_law 315 = .ok (.ireturn, 1) := by decide +kernel
theorem dL_law_316 : decode cL_law 316 = .ok (.aload_n 1, 1) := by decide +kernel
theorem dL_law_317 : decode cL_law 317 = .ok (.aload_n 0, 1) := by decide +kernel
theorem dL_law_318 : decode cL_law 318 = .ok (.iload_n 3, 1) := by decide +kernel
theorem dL_law_319 : decode cL_law 319 = .ok (.iconst 1, 1) := by decide +kernel
theorem dL_law_320 : decode cL_law 320 = .ok (.iadd, 1) := by decide +kernel
theorem dL_law_321 : decode cL_law 321 = .ok (.iaload, 1) := by decide +kernel
theorem dL_law_322 : decode cL_law 322 = .ok (.aload_n 0, 1) := by decide +kernel
theorem dL_law_323 : decode cL_law 323 = .ok (.iload_n 3, 1) := by decide +kernel
theorem dL_law_324 : decode cL_law 324 = .ok (.iconst 2, 1) := by decide +kernel
theorem dL_law_325 : decode cL_law 325 = .ok (.iadd, 1) := by decide +kernel
theorem dL_law_326 : decode cL_law 326 = .ok (.iaload, 1) := by decide +kernel
theorem dL_law_327 : decode cL_law 327 = .ok (.invokevirtual 33, 3) := by decide +kernel
theorem dL_law_330 : decode cL_law 330 = .ok (.aload_n 2, 1) := by decide +kernel
theorem dL_law_331 : decode cL_law 331 = .ok (.aload_n 0, 1) := by decide +kernel
theorem dL_law_332 : decode cL_law 332 = .ok (.iload_n 3, 1) := by decide +kernel
theorem dL_law_333 : decode cL_law 333 = .ok (.iconst 1, 1) := by decide +kernel
theorem dL_law_334 : decode cL_law 334 = .ok (.iadd, 1) := by decide +kernel
theorem dL_law_335 : decode cL_law 335 = .ok (.iaload, 1) := by decide +kernel
theorem dL_law_336 : decode cL_law 336 = .ok (.aload_n 0, 1) := by decide +kernel
theorem dL_law_337 : decode cL_law 337 = .ok (.iload_n 3, 1) := by decide +kernel
theorem dL_law_338 : decode cL_law 338 = .ok (.iconst 2, 1) := by decide +kernel
theorem dL_law_339 : decode cL_law 339 = .ok (.iadd, 1) := by decide +kernel
theorem dL_law_340 : decode cL_law 340 = .ok (.iaload, 1) := by decide +kernel
theorem dL_law_341 : decode cL_law 341 = .ok (.invokevirtual 36, 3) := by decide +kernel
theorem dL_law_344 : decode cL_law 344 = .ok (.if_icmp .eq 716, 3) := by decide +kernel
theorem dL_law_347 : decode cL_law 347 = .ok (.iconst 0, 1) := by decide +kernel
theorem dL_law_348 : decode cL_law 348 = .ok (.ireturn, 1) := by decide +kernel
theorem dL_law_349 : decode cL_law 349 = .ok (.aload_n 1, 1) := by decide +kernel
theorem dL_law_350 : decode cL_law 350 = .ok (.aload_n 0, 1) := by decide +kernel
theorem dL_law_351 : decode cL_law 351 = .ok (.iload_n 3, 1) := by decide +kernel
theorem dL_law_352 : decode cL_law 352 = .ok (.iconst 1, 1) := by decide +kernel
theorem dL_law_353 : decode cL_law 353 = .ok (.iadd, 1) := by decide +kernel
theorem dL_law_354 : decode cL_law 354 = .ok (.iaload, 1) := by decide +kernel
theorem dL_law_355 : decode cL_law 355 = .ok (.invokevirtual 37, 3) := by decide +kernel
theorem dL_law_358 : decode cL_law 358 = .ok (.aload_n 2, 1) := by decide +kernel
theorem dL_law_359 : decode cL_law 359 = .ok (.aload_n 0, 1) := by decide +kernel
theorem dL_law_360 : decode cL_law 360 = .ok (.iload_n 3, 1) := by decide +kernel
theorem dL_law_361 : decode cL_law 361 = .ok (.iconst 1, 1) := by decide +kernel
theorem dL_law_362 : decode cL_law 362 = .ok (.iadd, 1) := by decide +kernel
theorem dL_law_363 : decode cL_law 363 = .ok (.iaload, 1) := by decide +kernel
theorem dL_law_364 : decode cL_law 364 = .ok (.invokevirtual 40, 3) := by decide +kernel
theorem dL_law_367 : decode cL_law 367 = .ok (.if_icmp .eq 693, 3) := by decide +kernel
theorem dL_law_370 : decode cL_law 370 = .ok (.iconst 0, 1) := by decide +kernel
theorem dL_law_371 : decode cL_law 371 = .ok (.ireturn, 1) := by decide +kernel
theorem dL_law_372 : decode cL_law 372 = .ok (.aload_n 1, 1) := by decide +kernel
theorem dL_law_373 : decode cL_law 373 = .ok (.invokevirtual 41, 3) := by decide +kernel
theorem dL_law_376 : decode cL_law 376 = .ok (.aload_n 2, 1) := by decide +kernel
theorem dL_law_377 : decode cL_law 377 = .ok (.invokevirtual 45, 3) := by decide +kernel
theorem dL_law_380 : decode cL_law 380 = .ok (.if_icmp .eq 680, 3) := by decide +kernel
theorem dL_law_383 : decode cL_law 383 = .ok (.iconst 0, 1) := by decide +kernel
theorem dL_law_384 : decode cL_law 384 = .ok (.ireturn, 1) := by decide +kernel
theorem dL_law_385 : decode cL_law 385 = .ok (.aload_n 1, 1) := by decide +kernel
theorem dL_law_386 : decode cL_law 386 = .ok (.invokevirtual 46, 3) := by decide +kernel
theorem dL_law_389 : decode cL_law 389 = .ok (.aload_n 2, 1) := by decide +kernel
theorem dL_law_390 : decode cL_law 390 = .ok (.invokevirtual 49, 3) := by decide +kernel
theorem dL_law_393 : decode cL_law 393 = .ok (.if_icmp .eq 667, 3) := by decide +kernel
theorem dL_law_396 : decode cL_law 396 = .ok (.iconst 0, 1) := by decide +kernel
theorem dL_law_397 : decode cL_law 397 = .ok (.ireturn, 1) := by decide +kernel
theorem dL_law_398 : decode cL_law 398 = .ok (.aload_n 1, 1) := by decide +kernel
theorem dL_law_399 : decode cL_law 399 = .ok (.aload_n 0, 1) := by decide +kernel
theorem dL_law_400 : decode cL_law 400 = .ok (.iload_n 3, 1) := by decide +kernel
theorem dL_law_401 : decode cL_law 401 = .ok (.iconst 1, 1) := by decide +kernel
theorem dL_law_402 : decode cL_law 402 = .ok (.iadd, 1) := by decide +kernel
theorem dL_law_403 : decode cL_law 403 = .ok (.iaload, 1) := by decide +kernel
theorem dL_law_404 : decode cL_law 404 = .ok (.invokevirtual 50, 3) := by decide +kernel
theorem dL_law_407 : decode cL_law 407 = .ok (.aload_n 2, 1) := by decide +kernel
theorem dL_law_408 : decode cL_law 408 = .ok (.aload_n 0, 1) := by decide +kernel
theorem dL_law_409 : decode cL_law 409 = .ok (.iload_n 3, 1) := by decide +kernel
theorem dL_law_410 : decode cL_law 410 = .ok (.iconst 1, 1) := by decide +kernel
theorem dL_law_411 : decode cL_law 411 = .ok (.iadd, 1) := by decide +kernel
theorem dL_law_412 : decode cL_law 412 = .ok (.iaload, 1) := by decide +kernel
theorem dL_law_413 : decode cL_law 413 = .ok (.invokevirtual 53, 3) := by decide +kernel
theorem dL_law_416 : decode cL_law 416 = .ok (.if_icmp .eq 644, 3) := by decide +kernel
theorem dL_law_419 : decode cL_law 419 = .ok (.iconst 0, 1) := by decide +kernel
theorem dL_law_420 : decode cL_law 420 = .ok (.ireturn, 1) := by decide +kernel
theorem dL_law_421 : decode cL_law 421 = .ok (.aload_n 1, 1) := by decide +kernel
theorem dL_law_422 : decode cL_law 422 = .ok (.aload_n 0, 1) := by decide +kernel
theorem dL_law_423 : decode cL_law 423 = .ok (.iload_n 3, 1) := by decide +kernel
theorem dL_law_424 : decode cL_law 424 = .ok (.iconst 1, 1) := by decide +kernel
theorem dL_law_425 : decode cL_law 425 = .ok (.iadd, 1) := by decide +kernel
theorem dL_law_426 : decode cL_law 426 = .ok (.iaload, 1) := by decide +kernel
theorem dL_law_427 : decode cL_law 427 = .ok (.aload_n 0, 1) := by decide +kernel
theorem dL_law_428 : decode cL_law 428 = .ok (.iload_n 3, 1) := by decide +kernel
theorem dL_law_429 : decode cL_law 429 = .ok (.iconst 2, 1) := by decide +kernel
theorem dL_law_430 : decode cL_law 430 = .ok (.iadd, 1) := by decide +kernel
theorem dL_law_431 : decode cL_law 431 = .ok (.iaload, 1) := by decide +kernel
theorem dL_law_432 : decode cL_law 432 = .ok (.invokevirtual 54, 3) := by decide +kernel
theorem dL_law_435 : decode cL_law 435 = .ok (.aload_n 2, 1) := by decide +kernel
theorem dL_law_436 : decode cL_law 436 = .ok (.aload_n 0, 1) := by decide +kernel
theorem dL_law_437 : decode cL_law 437 = .ok (.iload_n 3, 1) := by decide +kernel
theorem dL_law_438 : decode cL_law 438 = .ok (.iconst 1, 1) := by decide +kernel
theorem dL_law_439 : decode cL_law 439 = .ok (.iadd, 1) := by decide +kernel
theorem dL_law_440 : decode cL_law 440 = .ok (.iaload, 1) := by decide +kernel
theorem dL_law_441 : decode cL_law 441 = .ok (.aload_n 0, 1) := by decide +kernel
theorem dL_law_442 : decode cL_law 442 = .ok (.iload_n 3, 1) := by decide +kernel
theorem dL_law_443 : decode cL_law 443 = .ok (.iconst 2, 1) := by decide +kernel
theorem dL_law_444 : decode cL_law 444 = .ok (.iadd, 1) := by decide +kernel
theorem dL_law_445 : decode cL_law 445 = .ok (.iaload, 1) := by decide +kernel
theorem dL_law_446 : decode cL_law 446 = .ok (.invokevirtual 57, 3) := by decide +kernel
theorem dL_law_449 : decode cL_law 449 = .ok (.if_icmp .eq 611, 3) := by decide +kernel
theorem dL_law_452 : decode cL_law 452 = .ok (.iconst 0, 1) := by decide +kernel
theorem dL_law_453 : decode cL_law 453 = .ok (.ireturn, 1) := by decide +kernel
theorem dL_law_454 : decode cL_law 454 = .ok (.aload_n 1, 1) := by decide +kernel
theorem dL_law_455 : decode cL_law 455 = .ok (.aload_n 0, 1) := by decide +kernel
theorem dL_law_456 : decode cL_law 456 = .ok (.iload_n 3, 1) := by decide +kernel
theorem dL_law_457 : decode cL_law 457 = .ok (.iconst 1, 1) := by decide +kernel
theorem dL_law_458 : decode cL_law 458 = .ok (.iadd, 1) := by decide +kernel
theorem dL_law_459 : decode cL_law 459 = .ok (.iaload, 1) := by decide +kernel
theorem dL_law_460 : decode cL_law 460 = .ok (.invokevirtual 58, 3) := by decide +kernel
theorem dL_law_463 : decode cL_law 463 = .ok (.aload_n 2, 1) := by decide +kernel
theorem dL_law_464 : decode cL_law 464 = .ok (.aload_n 0, 1) := by decide +kernel
theorem dL_law_465 : decode cL_law 465 = .ok (.iload_n 3, 1) := by decide +kernel
theorem dL_law_466 : decode cL_law 466 = .ok (.iconst 1, 1) := by decide +kernel
theorem dL_law_467 : decode cL_law 467 = .ok (.iadd, 1) := by decide +kernel
theorem dL_law_468 : decode cL_law 468 = .ok (.iaload, 1) := by decide +kernel
theorem dL_law_469 : decode cL_law 469 = .ok (.invokevirtual 61, 3) := by decide +kernel
theorem dL_law_472 : decode cL_law 472 = .ok (.if_icmp .eq 588, 3) := by decide +kernel
theorem dL_law_475 : decode cL_law 475 = .ok (.iconst 0, 1) := by decide +kernel
theorem dL_law_476 : decode cL_law 476 = .ok (.ireturn, 1) := by decide +kernel
theorem dL_law_477 : decode cL_law 477 = .ok (.aload_n 1, 1) := by decide +kernel
theorem dL_law_478 : decode cL_law 478 = .ok (.aload_n 0, 1) := by decide +kernel
theorem dL_law_479 : decode cL_law 479 = .ok (.iload_n 3, 1) := by decide +kernel
theorem dL_law_480 : decode cL_law 480 = .ok (.iconst 1, 1) := by decide +kernel
theorem dL_law_481 : decode cL_law 481 = .ok (.iadd, 1) := by decide +kernel
theorem dL_law_482 : decode cL_law 482 = .ok (.iaload, 1) := by decide +kernel
theorem dL_law_483 : decode cL_law 483 = .ok (.invokevirtual 62, 3) := by decide +kernel
theorem dL_law_486 : decode cL_law 486 = .ok (.aload_n 2, 1) := by decide +kernel
theorem dL_law_487 : decode cL_law 487 = .ok (.aload_n 0, 1) := by decide +kernel
theorem dL_law_488 : decode cL_law 488 = .ok (.iload_n 3, 1) := by decide +kernel
theorem dL_law_489 : decode cL_law 489 = .ok (.iconst 1, 1) := by decide +kernel
theorem dL_law_490 : decode cL_law 490 = .ok (.iadd, 1) := by decide +kernel
theorem dL_law_491 : decode cL_law 491 = .ok (.iaload, 1) := by decide +kernel
theorem dL_law_492 : decode cL_law 492 = .ok (.invokevirtual 65, 3) := by decide +kernel
theorem dL_law_495 : decode cL_law 495 = .ok (.if_icmp .eq 565, 3) := by decide +kernel
theorem dL_law_498 : decode cL_law 498 = .ok (.iconst 0, 1) := by decide +kernel
theorem dL_law_499 : decode cL_law 499 = .ok (.ireturn, 1) := by decide +kernel
theorem dL_law_500 : decode cL_law 500 = .ok (.aload_n 1, 1) := by decide +kernel
theorem dL_law_501 : decode cL_law 501 = .ok (.invokevirtual 66, 3) := by decide +kernel
theorem dL_law_504 : decode cL_law 504 = .ok (.aload_n 2, 1) := by decide +kernel
theorem dL_law_505 : decode cL_law 505 = .ok (.invokevirtual 69, 3) := by decide +kernel
theorem dL_law_508 : decode cL_law 508 = .ok (.if_icmp .eq 552, 3) := by decide +kernel
theorem dL_law_511 : decode cL_law 511 = .ok (.iconst 0, 1) := by decide +kernel
theorem dL_law_512 : decode cL_law 512 = .ok (.ireturn, 1) := by decide +kernel
theorem dL_law_513 : decode cL_law 513 = .ok (.aload_n 1, 1) := by decide +kernel
theorem dL_law_514 : decode cL_law 514 = .ok (.aload_n 0, 1) := by decide +kernel
theorem dL_law_515 : decode cL_law 515 = .ok (.iload_n 3, 1) := by decide +kernel
theorem dL_law_516 : decode cL_law 516 = .ok (.iconst 1, 1) := by decide +kernel
theorem dL_law_517 : decode cL_law 517 = .ok (.iadd, 1) := by decide +kernel
theorem dL_law_518 : decode cL_law 518 = .ok (.iaload, 1) := by decide +kernel
theorem dL_law_519 : decode cL_law 519 = .ok (.aload_n 0, 1) := by decide +kernel
theorem dL_law_520 : decode cL_law 520 = .ok (.iload_n 3, 1) := by decide +kernel
theorem dL_law_521 : decode cL_law 521 = .ok (.iconst 2, 1) := by decide +kernel
theorem dL_law_522 : decode cL_law 522 = .ok (.iadd, 1) := by decide +kernel
theorem dL_law_523 : decode cL_law 523 = .ok (.iaload, 1) := by decide +kernel
theorem dL_law_524 : decode cL_law 524 = .ok (.aload_n 0, 1) := by decide +kernel
theorem dL_law_525 : decode cL_law 525 = .ok (.iload_n 3, 1) := by decide +kernel
theorem dL_law_526 : decode cL_law 526 = .ok (.iconst 3, 1) := by decide +kernel
theorem dL_law_527 : decode cL_law 527 = .ok (.iadd, 1) := by decide +kernel
theorem dL_law_528 : decode cL_law 528 = .ok (.iaload, 1) := by decide +kernel
theorem dL_law_529 : decode cL_law 529 = .ok (.invokevirtual 70, 3) := by decide +kernel
theorem dL_law_532 : decode cL_law 532 = .ok (.aload_n 2, 1) := by decide +kernel
theorem dL_law_533 : decode cL_law 533 = .ok (.aload_n 0, 1) := by decide +kernel
theorem dL_law_534 : decode cL_law 534 = .ok (.iload_n 3, 1) := by decide +kernel
theorem dL_law_535 : decode cL_law 535 = .ok (.iconst 1, 1) := by decide +kernel
theorem dL_law_536 : decode cL_law 536 = .ok (.iadd, 1) := by decide +kernel
theorem dL_law_537 : decode cL_law 537 = .ok (.iaload, 1) := by decide +kernel
theorem dL_law_538 : decode cL_law 538 = .ok (.aload_n 0, 1) := by decide +kernel
theorem dL_law_539 : decode cL_law 539 = .ok (.iload_n 3, 1) := by decide +kernel
theorem dL_law_540 : decode cL_law 540 = .ok (.iconst 2, 1) := by decide +kernel
theorem dL_law_541 : decode cL_law 541 = .ok (.iadd, 1) := by decide +kernel
theorem dL_law_542 : decode cL_law 542 = .ok (.iaload, 1) := by decide +kernel
theorem dL_law_543 : decode cL_law 543 = .ok (.aload_n 0, 1) := by decide +kernel
theorem dL_law_544 : decode cL_law 544 = .ok (.iload_n 3, 1) := by decide +kernel
theorem dL_law_545 : decode cL_law 545 = .ok (.iconst 3, 1) := by decide +kernel
theorem dL_law_546 : decode cL_law 546 = .ok (.iadd, 1) := by decide +kernel
theorem dL_law_547 : decode cL_law 547 = .ok (.iaload, 1) := by decide +kernel
theorem dL_law_548 : decode cL_law 548 = .ok (.invokevirtual 74, 3) := by decide +kernel
theorem dL_law_551 : decode cL_law 551 = .ok (.lcmp, 1) := by decide +kernel
theorem dL_law_552 : decode cL_law 552 = .ok (.ifCond .eq 508, 3) := by decide +kernel
theorem dL_law_555 : decode cL_law 555 = .ok (.iconst 0, 1) := by decide +kernel
theorem dL_law_556 : decode cL_law 556 = .ok (.ireturn, 1) := by decide +kernel
theorem dL_law_557 : decode cL_law 557 = .ok (.aload_n 1, 1) := by decide +kernel
theorem dL_law_558 : decode cL_law 558 = .ok (.aload_n 0, 1) := by decide +kernel
theorem dL_law_559 : decode cL_law 559 = .ok (.iload_n 3, 1) := by decide +kernel
theorem dL_law_560 : decode cL_law 560 = .ok (.iconst 1, 1) := by decide +kernel
theorem dL_law_561 : decode cL_law 561 = .ok (.iadd, 1) := by decide +kernel
theorem dL_law_562 : decode cL_law 562 = .ok (.iaload, 1) := by decide +kernel
theorem dL_law_563 : decode cL_law 563 = .ok (.invokevirtual 75, 3) := by decide +kernel
theorem dL_law_566 : decode cL_law 566 = .ok (.aload_n 2, 1) := by decide +kernel
theorem dL_law_567 : decode cL_law 567 = .ok (.aload_n 0, 1) := by decide +kernel
theorem dL_law_568 : decode cL_law 568 = .ok (.iload_n 3, 1) := by decide +kernel
theorem dL_law_569 : decode cL_law 569 = .ok (.iconst 1, 1) := by decide +kernel
theorem dL_law_570 : decode cL_law 570 = .ok (.iadd, 1) := by decide +kernel
theorem dL_law_571 : decode cL_law 571 = .ok (.iaload, 1) := by decide +kernel
theorem dL_law_572 : decode cL_law 572 = .ok (.invokevirtual 78, 3) := by decide +kernel
theorem dL_law_575 : decode cL_law 575 = .ok (.if_icmp .eq 485, 3) := by decide +kernel
theorem dL_law_578 : decode cL_law 578 = .ok (.iconst 0, 1) := by decide +kernel
theorem dL_law_579 : decode cL_law 579 = .ok (.ireturn, 1) := by decide +kernel
theorem dL_law_580 : decode cL_law 580 = .ok (.aload_n 1, 1) := by decide +kernel
theorem dL_law_581 : decode cL_law 581 = .ok (.aload_n 0, 1) := by decide +kernel
theorem dL_law_582 : decode cL_law 582 = .ok (.iload_n 3, 1) := by decide +kernel
theorem dL_law_583 : decode cL_law 583 = .ok (.iconst 1, 1) := by decide +kernel
theorem dL_law_584 : decode cL_law 584 = .ok (.iadd, 1) := by decide +kernel
theorem dL_law_585 : decode cL_law 585 = .ok (.iaload, 1) := by decide +kernel
theorem dL_law_586 : decode cL_law 586 = .ok (.aload_n 0, 1) := by decide +kernel
theorem dL_law_587 : decode cL_law 587 = .ok (.iload_n 3, 1) := by decide +kernel
theorem dL_law_588 : decode cL_law 588 = .ok (.iconst 2, 1) := by decide +kernel
theorem dL_law_589 : decode cL_law 589 = .ok (.iadd, 1) := by decide +kernel
theorem dL_law_590 : decode cL_law 590 = .ok (.iaload, 1) := by decide +kernel
theorem dL_law_591 : decode cL_law 591 = .ok (.invokevirtual 79, 3) := by decide +kernel
theorem dL_law_594 : decode cL_law 594 = .ok (.aload_n 2, 1) := by decide +kernel
theorem dL_law_595 : decode cL_law 595 = .ok (.aload_n 0, 1) := by decide +kernel
theorem dL_law_596 : decode cL_law 596 = .ok (.iload_n 3, 1) := by decide +kernel
theorem dL_law_597 : decode cL_law 597 = .ok (.iconst 1, 1) := by decide +kernel
theorem dL_law_598 : decode cL_law 598 = .ok (.iadd, 1) := by decide +kernel
theorem dL_law_599 : decode cL_law 599 = .ok (.iaload, 1) := by decide +kernel
theorem dL_law_600 : decode cL_law 600 = .ok (.aload_n 0, 1) := by decide +kernel
theorem dL_law_601 : decode cL_law 601 = .ok (.iload_n 3, 1) := by decide +kernel
theorem dL_law_602 : decode cL_law 602 = .ok (.iconst 2, 1) := by decide +kernel
theorem dL_law_603 : decode cL_law 603 = .ok (.iadd, 1) := by decide +kernel
theorem dL_law_604 : decode cL_law 604 = .ok (.iaload, 1) := by decide +kernel
theorem dL_law_605 : decode cL_law 605 = .ok (.invokevirtual 82, 3) := by decide +kernel
theorem dL_law_608 : decode cL_law 608 = .ok (.if_icmp .eq 452, 3) := by decide +kernel
theorem dL_law_611 : decode cL_law 611 = .ok (.iconst 0, 1) := by decide +kernel
theorem dL_law_612 : decode cL_law 612 = .ok (.ireturn, 1) := by decide +kernel
theorem dL_law_613 : decode cL_law 613 = .ok (.aload_n 1, 1) := by decide +kernel
theorem dL_law_614 : decode cL_law 614 = .ok (.aload_n 0, 1) := by decide +kernel
theorem dL_law_615 : decode cL_law 615 = .ok (.iload_n 3, 1) := by decide +kernel
theorem dL_law_616 : decode cL_law 616 = .ok (.iconst 1, 1) := by decide +kernel
theorem dL_law_617 : decode cL_law 617 = .ok (.iadd, 1) := by decide +kernel
theorem dL_law_618 : decode cL_law 618 = .ok (.iaload, 1) := by decide +kernel
theorem dL_law_619 : decode cL_law 619 = .ok (.aload_n 0, 1) := by decide +kernel
theorem dL_law_620 : decode cL_law 620 = .ok (.iload_n 3, 1) := by decide +kernel
theorem dL_law_621 : decode cL_law 621 = .ok (.iconst 2, 1) := by decide +kernel
theorem dL_law_622 : decode cL_law 622 = .ok (.iadd, 1) := by decide +kernel
theorem dL_law_623 : decode cL_law 623 = .ok (.iaload, 1) := by decide +kernel
theorem dL_law_624 : decode cL_law 624 = .ok (.invokevirtual 83, 3) := by decide +kernel
theorem dL_law_627 : decode cL_law 627 = .ok (.aload_n 2, 1) := by decide +kernel
theorem dL_law_628 : decode cL_law 628 = .ok (.aload_n 0, 1) := by decide +kernel
theorem dL_law_629 : decode cL_law 629 = .ok (.iload_n 3, 1) := by decide +kernel
theorem dL_law_630 : decode cL_law 630 = .ok (.iconst 1, 1) := by decide +kernel
theorem dL_law_631 : decode cL_law 631 = .ok (.iadd, 1) := by decide +kernel
theorem dL_law_632 : decode cL_law 632 = .ok (.iaload, 1) := by decide +kernel
theorem dL_law_633 : decode cL_law 633 = .ok (.aload_n 0, 1) := by decide +kernel
theorem dL_law_634 : decode cL_law 634 = .ok (.iload_n 3, 1) := by decide +kernel
theorem dL_law_635 : decode cL_law 635 = .ok (.iconst 2, 1) := by decide +kernel
theorem dL_law_636 : decode cL_law 636 = .ok (.iadd, 1) := by decide +kernel
theorem dL_law_637 : decode cL_law 637 = .ok (.iaload, 1) := by decide +kernel
theorem dL_law_638 : decode cL_law 638 = .ok (.invokevirtual 87, 3) := by decide +kernel
theorem dL_law_641 : decode cL_law 641 = .ok (.lcmp, 1) := by decide +kernel
theorem dL_law_642 : decode cL_law 642 = .ok (.ifCond .eq 418, 3) := by decide +kernel
theorem dL_law_645 : decode cL_law 645 = .ok (.iconst 0, 1) := by decide +kernel
theorem dL_law_646 : decode cL_law 646 = .ok (.ireturn, 1) := by decide +kernel
theorem dL_law_647 : decode cL_law 647 = .ok (.aload_n 1, 1) := by decide +kernel
theorem dL_law_648 : decode cL_law 648 = .ok (.aload_n 0, 1) := by decide +kernel
theorem dL_law_649 : decode cL_law 649 = .ok (.iload_n 3, 1) := by decide +kernel
theorem dL_law_650 : decode cL_law 650 = .ok (.iconst 1, 1) := by decide +kernel
theorem dL_law_651 : decode cL_law 651 = .ok (.iadd, 1) := by decide +kernel
theorem dL_law_652 : decode cL_law 652 = .ok (.iaload, 1) := by decide +kernel
theorem dL_law_653 : decode cL_law 653 = .ok (.aload_n 0, 1) := by decide +kernel
theorem dL_law_654 : decode cL_law 654 = .ok (.iload_n 3, 1) := by decide +kernel
theorem dL_law_655 : decode cL_law 655 = .ok (.iconst 2, 1) := by decide +kernel
theorem dL_law_656 : decode cL_law 656 = .ok (.iadd, 1) := by decide +kernel
theorem dL_law_657 : decode cL_law 657 = .ok (.iaload, 1) := by decide +kernel
theorem dL_law_658 : decode cL_law 658 = .ok (.aload_n 0, 1) := by decide +kernel
theorem dL_law_659 : decode cL_law 659 = .ok (.iload_n 3, 1) := by decide +kernel
theorem dL_law_660 : decode cL_law 660 = .ok (.iconst 3, 1) := by decide +kernel
theorem dL_law_661 : decode cL_law 661 = .ok (.iadd, 1) := by decide +kernel
theorem dL_law_662 : decode cL_law 662 = .ok (.iaload, 1) := by decide +kernel
theorem dL_law_663 : decode cL_law 663 = .ok (.aload_n 0, 1) := by decide +kernel
theorem dL_law_664 : decode cL_law 664 = .ok (.iload_n 3, 1) := by decide +kernel
theorem dL_law_665 : decode cL_law 665 = .ok (.iconst 4, 1) := by decide +kernel
theorem dL_law_666 : decode cL_law 666 = .ok (.iadd, 1) := by decide +kernel
theorem dL_law_667 : decode cL_law 667 = .ok (.iaload, 1) := by decide +kernel
theorem dL_law_668 : decode cL_law 668 = .ok (.invokevirtual 88, 3) := by decide +kernel
theorem dL_law_671 : decode cL_law 671 = .ok (.aload_n 2, 1) := by decide +kernel
theorem dL_law_672 : decode cL_law 672 = .ok (.aload_n 0, 1) := by decide +kernel
theorem dL_law_673 : decode cL_law 673 = .ok (.iload_n 3, 1) := by decide +kernel
theorem dL_law_674 : decode cL_law 674 = .ok (.iconst 1, 1) := by decide +kernel
theorem dL_law_675 : decode cL_law 675 = .ok (.iadd, 1) := by decide +kernel
theorem dL_law_676 : decode cL_law 676 = .ok (.iaload, 1) := by decide +kernel
theorem dL_law_677 : decode cL_law 677 = .ok (.aload_n 0, 1) := by decide +kernel
theorem dL_law_678 : decode cL_law 678 = .ok (.iload_n 3, 1) := by decide +kernel
theorem dL_law_679 : decode cL_law 679 = .ok (.iconst 2, 1) := by decide +kernel
theorem dL_law_680 : decode cL_law 680 = .ok (.iadd, 1) := by decide +kernel
theorem dL_law_681 : decode cL_law 681 = .ok (.iaload, 1) := by decide +kernel
theorem dL_law_682 : decode cL_law 682 = .ok (.aload_n 0, 1) := by decide +kernel
theorem dL_law_683 : decode cL_law 683 = .ok (.iload_n 3, 1) := by decide +kernel
theorem dL_law_684 : decode cL_law 684 = .ok (.iconst 3, 1) := by decide +kernel
theorem dL_law_685 : decode cL_law 685 = .ok (.iadd, 1) := by decide +kernel
theorem dL_law_686 : decode cL_law 686 = .ok (.iaload, 1) := by decide +kernel
theorem dL_law_687 : decode cL_law 687 = .ok (.aload_n 0, 1) := by decide +kernel
theorem dL_law_688 : decode cL_law 688 = .ok (.iload_n 3, 1) := by decide +kernel
theorem dL_law_689 : decode cL_law 689 = .ok (.iconst 4, 1) := by decide +kernel
theorem dL_law_690 : decode cL_law 690 = .ok (.iadd, 1) := by decide +kernel
theorem dL_law_691 : decode cL_law 691 = .ok (.iaload, 1) := by decide +kernel
theorem dL_law_692 : decode cL_law 692 = .ok (.invokevirtual 91, 3) := by decide +kernel
theorem dL_law_695 : decode cL_law 695 = .ok (.if_icmp .eq 365, 3) := by decide +kernel
theorem dL_law_698 : decode cL_law 698 = .ok (.iconst 0, 1) := by decide +kernel
theorem dL_law_699 : decode cL_law 699 = .ok (.ireturn, 1) := by decide +kernel
theorem dL_law_700 : decode cL_law 700 = .ok (.aload_n 1, 1) := by decide +kernel
theorem dL_law_701 : decode cL_law 701 = .ok (.aload_n 0, 1) := by decide +kernel
theorem dL_law_702 : decode cL_law 702 = .ok (.iload_n 3, 1) := by decide +kernel
theorem dL_law_703 : decode cL_law 703 = .ok (.iconst 1, 1) := by decide +kernel
theorem dL_law_704 : decode cL_law 704 = .ok (.iadd, 1) := by decide +kernel
theorem dL_law_705 : decode cL_law 705 = .ok (.iaload, 1) := by decide +kernel
theorem dL_law_706 : decode cL_law 706 = .ok (.aload_n 0, 1) := by decide +kernel
theorem dL_law_707 : decode cL_law 707 = .ok (.iload_n 3, 1) := by decide +kernel
theorem dL_law_708 : decode cL_law 708 = .ok (.iconst 2, 1) := by decide +kernel
theorem dL_law_709 : decode cL_law 709 = .ok (.iadd, 1) := by decide +kernel
theorem dL_law_710 : decode cL_law 710 = .ok (.iaload, 1) := by decide +kernel
theorem dL_law_711 : decode cL_law 711 = .ok (.invokevirtual 92, 3) := by decide +kernel
theorem dL_law_714 : decode cL_law 714 = .ok (.aload_n 2, 1) := by decide +kernel
theorem dL_law_715 : decode cL_law 715 = .ok (.aload_n 0, 1) := by decide +kernel
theorem dL_law_716 : decode cL_law 716 = .ok (.iload_n 3, 1) := by decide +kernel
theorem dL_law_717 : decode cL_law 717 = .ok (.iconst 1, 1) := by decide +kernel
theorem dL_law_718 : decode cL_law 718 = .ok (.iadd, 1) := by decide +kernel
theorem dL_law_719 : decode cL_law 719 = .ok (.iaload, 1) := by decide +kernel
theorem dL_law_720 : decode cL_law 720 = .ok (.aload_n 0, 1) := by decide +kernel
theorem dL_law_721 : decode cL_law 721 = .ok (.iload_n 3, 1) := by decide +kernel
theorem dL_law_722 : decode cL_law 722 = .ok (.iconst 2, 1) := by decide +kernel
theorem dL_law_723 : decode cL_law 723 = .ok (.iadd, 1) := by decide +kernel
theorem dL_law_724 : decode cL_law 724 = .ok (.iaload, 1) := by decide +kernel
theorem dL_law_725 : decode cL_law 725 = .ok (.invokevirtual 95, 3) := by decide +kernel
theorem dL_law_728 : decode cL_law 728 = .ok (.if_icmp .eq 332, 3) := by decide +kernel
theorem dL_law_731 : decode cL_law 731 = .ok (.iconst 0, 1) := by decide +kernel
theorem dL_law_732 : decode cL_law 732 = .ok (.ireturn, 1) := by decide +kernel
theorem dL_law_733 : decode cL_law 733 = .ok (.aload_n 1, 1) := by decide +kernel
theorem dL_law_734 : decode cL_law 734 = .ok (.aload_n 0, 1) := by decide +kernel
theorem dL_law_735 : decode cL_law 735 = .ok (.iload_n 3, 1) := by decide +kernel
theorem dL_law_736 : decode cL_law 736 = .ok (.iconst 1, 1) := by decide +kernel
theorem dL_law_737 : decode cL_law 737 = .ok (.iadd, 1) := by decide +kernel
theorem dL_law_738 : decode cL_law 738 = .ok (.iaload, 1) := by decide +kernel
theorem dL_law_739 : decode cL_law 739 = .ok (.aload_n 0, 1) := by decide +kernel
theorem dL_law_740 : decode cL_law 740 = .ok (.iload_n 3, 1) := by decide +kernel
theorem dL_law_741 : decode cL_law 741 = .ok (.iconst 2, 1) := by decide +kernel
theorem dL_law_742 : decode cL_law 742 = .ok (.iadd, 1) := by decide +kernel
theorem dL_law_743 : decode cL_law 743 = .ok (.iaload, 1) := by decide +kernel
theorem dL_law_744 : decode cL_law 744 = .ok (.aload_n 0, 1) := by decide +kernel
theorem dL_law_745 : decode cL_law 745 = .ok (.iload_n 3, 1) := by decide +kernel
theorem dL_law_746 : decode cL_law 746 = .ok (.iconst 3, 1) := by decide +kernel
theorem dL_law_747 : decode cL_law 747 = .ok (.iadd, 1) := by decide +kernel
theorem dL_law_748 : decode cL_law 748 = .ok (.iaload, 1) := by decide +kernel
theorem dL_law_749 : decode cL_law 749 = .ok (.aload_n 0, 1) := by decide +kernel
theorem dL_law_750 : decode cL_law 750 = .ok (.iload_n 3, 1) := by decide +kernel
theorem dL_law_751 : decode cL_law 751 = .ok (.iconst 4, 1) := by decide +kernel
theorem dL_law_752 : decode cL_law 752 = .ok (.iadd, 1) := by decide +kernel
theorem dL_law_753 : decode cL_law 753 = .ok (.iaload, 1) := by decide +kernel
theorem dL_law_754 : decode cL_law 754 = .ok (.aload_n 0, 1) := by decide +kernel
theorem dL_law_755 : decode cL_law 755 = .ok (.iload_n 3, 1) := by decide +kernel
theorem dL_law_756 : decode cL_law 756 = .ok (.iconst 5, 1) := by decide +kernel
theorem dL_law_757 : decode cL_law 757 = .ok (.iadd, 1) := by decide +kernel
theorem dL_law_758 : decode cL_law 758 = .ok (.iaload, 1) := by decide +kernel
theorem dL_law_759 : decode cL_law 759 = .ok (.invokevirtual 96, 3) := by decide +kernel
theorem dL_law_762 : decode cL_law 762 = .ok (.aload_n 2, 1) := by decide +kernel
theorem dL_law_763 : decode cL_law 763 = .ok (.aload_n 0, 1) := by decide +kernel
theorem dL_law_764 : decode cL_law 764 = .ok (.iload_n 3, 1) := by decide +kernel
theorem dL_law_765 : decode cL_law 765 = .ok (.iconst 1, 1) := by decide +kernel
theorem dL_law_766 : decode cL_law 766 = .ok (.iadd, 1) := by decide +kernel
theorem dL_law_767 : decode cL_law 767 = .ok (.iaload, 1) := by decide +kernel
theorem dL_law_768 : decode cL_law 768 = .ok (.aload_n 0, 1) := by decide +kernel
theorem dL_law_769 : decode cL_law 769 = .ok (.iload_n 3, 1) := by decide +kernel
theorem dL_law_770 : decode cL_law 770 = .ok (.iconst 2, 1) := by decide +kernel
theorem dL_law_771 : decode cL_law 771 = .ok (.iadd, 1) := by decide +kernel
theorem dL_law_772 : decode cL_law 772 = .ok (.iaload, 1) := by decide +kernel
theorem dL_law_773 : decode cL_law 773 = .ok (.aload_n 0, 1) := by decide +kernel
theorem dL_law_774 : decode cL_law 774 = .ok (.iload_n 3, 1) := by decide +kernel
theorem dL_law_775 : decode cL_law 775 = .ok (.iconst 3, 1) := by decide +kernel
theorem dL_law_776 : decode cL_law 776 = .ok (.iadd, 1) := by decide +kernel
theorem dL_law_777 : decode cL_law 777 = .ok (.iaload, 1) := by decide +kernel
theorem dL_law_778 : decode cL_law 778 = .ok (.aload_n 0, 1) := by decide +kernel
theorem dL_law_779 : decode cL_law 779 = .ok (.iload_n 3, 1) := by decide +kernel
theorem dL_law_780 : decode cL_law 780 = .ok (.iconst 4, 1) := by decide +kernel
theorem dL_law_781 : decode cL_law 781 = .ok (.iadd, 1) := by decide +kernel
theorem dL_law_782 : decode cL_law 782 = .ok (.iaload, 1) := by decide +kernel
theorem dL_law_783 : decode cL_law 783 = .ok (.aload_n 0, 1) := by decide +kernel
theorem dL_law_784 : decode cL_law 784 = .ok (.iload_n 3, 1) := by decide +kernel
theorem dL_law_785 : decode cL_law 785 = .ok (.iconst 5, 1) := by decide +kernel
theorem dL_law_786 : decode cL_law 786 = .ok (.iadd, 1) := by decide +kernel
theorem dL_law_787 : decode cL_law 787 = .ok (.iaload, 1) := by decide +kernel
theorem dL_law_788 : decode cL_law 788 = .ok (.invokevirtual 100, 3) := by decide +kernel
theorem dL_law_791 : decode cL_law 791 = .ok (.lcmp, 1) := by decide +kernel
theorem dL_law_792 : decode cL_law 792 = .ok (.ifCond .eq 268, 3) := by decide +kernel
theorem dL_law_795 : decode cL_law 795 = .ok (.iconst 0, 1) := by decide +kernel
theorem dL_law_796 : decode cL_law 796 = .ok (.ireturn, 1) := by decide +kernel
theorem dL_law_797 : decode cL_law 797 = .ok (.aload_n 1, 1) := by decide +kernel
theorem dL_law_798 : decode cL_law 798 = .ok (.aload_n 0, 1) := by decide +kernel
theorem dL_law_799 : decode cL_law 799 = .ok (.iload_n 3, 1) := by decide +kernel
theorem dL_law_800 : decode cL_law 800 = .ok (.iconst 1, 1) := by decide +kernel
theorem dL_law_801 : decode cL_law 801 = .ok (.iadd, 1) := by decide +kernel
theorem dL_law_802 : decode cL_law 802 = .ok (.iaload, 1) := by decide +kernel
theorem dL_law_803 : decode cL_law 803 = .ok (.aload_n 0, 1) := by decide +kernel
theorem dL_law_804 : decode cL_law 804 = .ok (.iload_n 3, 1) := by decide +kernel
theorem dL_law_805 : decode cL_law 805 = .ok (.iconst 2, 1) := by decide +kernel
theorem dL_law_806 : decode cL_law 806 = .ok (.iadd, 1) := by decide +kernel
theorem dL_law_807 : decode cL_law 807 = .ok (.iaload, 1) := by decide +kernel
theorem dL_law_808 : decode cL_law 808 = .ok (.aload_n 0, 1) := by decide +kernel
theorem dL_law_809 : decode cL_law 809 = .ok (.iload_n 3, 1) := by decide +kernel
theorem dL_law_810 : decode cL_law 810 = .ok (.iconst 3, 1) := by decide +kernel
theorem dL_law_811 : decode cL_law 811 = .ok (.iadd, 1) := by decide +kernel
theorem dL_law_812 : decode cL_law 812 = .ok (.iaload, 1) := by decide +kernel
theorem dL_law_813 : decode cL_law 813 = .ok (.ifCond .eq 7, 3) := by decide +kernel
theorem dL_law_816 : decode cL_law 816 = .ok (.iconst 1, 1) := by decide +kernel
theorem dL_law_817 : decode cL_law 817 = .ok (.goto 4, 3) := by decide +kernel
theorem dL_law_820 : decode cL_law 820 = .ok (.iconst 0, 1) := by decide +kernel
theorem dL_law_821 : decode cL_law 821 = .ok (.invokevirtual 101, 3) := by decide +kernel
theorem dL_law_824 : decode cL_law 824 = .ok (.aload_n 2, 1) := by decide +kernel
theorem dL_law_825 : decode cL_law 825 = .ok (.aload_n 0, 1) := by decide +kernel
theorem dL_law_826 : decode cL_law 826 = .ok (.iload_n 3, 1) := by decide +kernel
theorem dL_law_827 : decode cL_law 827 = .ok (.iconst 1, 1) := by decide +kernel
theorem dL_law_828 : decode cL_law 828 = .ok (.iadd, 1) := by decide +kernel
theorem dL_law_829 : decode cL_law 829 = .ok (.iaload, 1) := by decide +kernel
theorem dL_law_830 : decode cL_law 830 = .ok (.aload_n 0, 1) := by decide +kernel
theorem dL_law_831 : decode cL_law 831 = .ok (.iload_n 3, 1) := by decide +kernel
theorem dL_law_832 : decode cL_law 832 = .ok (.iconst 2, 1) := by decide +kernel
theorem dL_law_833 : decode cL_law 833 = .ok (.iadd, 1) := by decide +kernel
theorem dL_law_834 : decode cL_law 834 = .ok (.iaload, 1) := by decide +kernel
theorem dL_law_835 : decode cL_law 835 = .ok (.aload_n 0, 1) := by decide +kernel
theorem dL_law_836 : decode cL_law 836 = .ok (.iload_n 3, 1) := by decide +kernel
theorem dL_law_837 : decode cL_law 837 = .ok (.iconst 3, 1) := by decide +kernel
theorem dL_law_838 : decode cL_law 838 = .ok (.iadd, 1) := by decide +kernel
theorem dL_law_839 : decode cL_law 839 = .ok (.iaload, 1) := by decide +kernel
theorem dL_law_840 : decode cL_law 840 = .ok (.ifCond .eq 7, 3) := by decide +kernel
theorem dL_law_843 : decode cL_law 843 = .ok (.iconst 1, 1) := by decide +kernel
theorem dL_law_844 : decode cL_law 844 = .ok (.goto 4, 3) := by decide +kernel
theorem dL_law_847 : decode cL_law 847 = .ok (.iconst 0, 1) := by decide +kernel
theorem dL_law_848 : decode cL_law 848 = .ok (.invokevirtual 105, 3) := by decide +kernel
theorem dL_law_851 : decode cL_law 851 = .ok (.if_icmp .eq 209, 3) := by decide +kernel
theorem dL_law_854 : decode cL_law 854 = .ok (.iconst 0, 1) := by decide +kernel
theorem dL_law_855 : decode cL_law 855 = .ok (.ireturn, 1) := by decide +kernel
theorem dL_law_856 : decode cL_law 856 = .ok (.aload_n 1, 1) := by decide +kernel
theorem dL_law_857 : decode cL_law 857 = .ok (.invokevirtual 106, 3) := by decide +kernel
theorem dL_law_860 : decode cL_law 860 = .ok (.aload_n 2, 1) := by decide +kernel
theorem dL_law_861 : decode cL_law 861 = .ok (.invokevirtual 109, 3) := by decide +kernel
theorem dL_law_864 : decode cL_law 864 = .ok (.if_icmp .eq 196, 3) := by decide +kernel
theorem dL_law_867 : decode cL_law 867 = .ok (.iconst 0, 1) := by decide +kernel
theorem dL_law_868 : decode cL_law 868 = .ok (.ireturn, 1) := by decide +kernel
theorem dL_law_869 : decode cL_law 869 = .ok (.aload_n 1, 1) := by decide +kernel
theorem dL_law_870 : decode cL_law 870 = .ok (.aload_n 0, 1) := by decide +kernel
theorem dL_law_871 : decode cL_law 871 = .ok (.iload_n 3, 1) := by decide +kernel
theorem dL_law_872 : decode cL_law 872 = .ok (.iconst 1, 1) := by decide +kernel
theorem dL_law_873 : decode cL_law 873 = .ok (.iadd, 1) := by decide +kernel
theorem dL_law_874 : decode cL_law 874 = .ok (.iaload, 1) := by decide +kernel
theorem dL_law_875 : decode cL_law 875 = .ok (.invokevirtual 110, 3) := by decide +kernel
theorem dL_law_878 : decode cL_law 878 = .ok (.aload_n 2, 1) := by decide +kernel
theorem dL_law_879 : decode cL_law 879 = .ok (.aload_n 0, 1) := by decide +kernel
theorem dL_law_880 : decode cL_law 880 = .ok (.iload_n 3, 1) := by decide +kernel
theorem dL_law_881 : decode cL_law 881 = .ok (.iconst 1, 1) := by decide +kernel
theorem dL_law_882 : decode cL_law 882 = .ok (.iadd, 1) := by decide +kernel
theorem dL_law_883 : decode cL_law 883 = .ok (.iaload, 1) := by decide +kernel
theorem dL_law_884 : decode cL_law 884 = .ok (.invokevirtual 113, 3) := by decide +kernel
theorem dL_law_887 : decode cL_law 887 = .ok (.if_icmp .eq 173, 3) := by decide +kernel
theorem dL_law_890 : decode cL_law 890 = .ok (.iconst 0, 1) := by decide +kernel
theorem dL_law_891 : decode cL_law 891 = .ok (.ireturn, 1) := by decide +kernel
theorem dL_law_892 : decode cL_law 892 = .ok (.aload_n 1, 1) := by decide +kernel
theorem dL_law_893 : decode cL_law 893 = .ok (.invokevirtual 114, 3) := by decide +kernel
theorem dL_law_896 : decode cL_law 896 = .ok (.aload_n 2, 1) := by decide +kernel
theorem dL_law_897 : decode cL_law 897 = .ok (.invokevirtual 117, 3) := by decide +kernel
theorem dL_law_900 : decode cL_law 900 = .ok (.if_icmp .eq 160, 3) := by decide +kernel
theorem dL_law_903 : decode cL_law 903 = .ok (.iconst 0, 1) := by decide +kernel
theorem dL_law_904 : decode cL_law 904 = .ok (.ireturn, 1) := by decide +kernel
theorem dL_law_905 : decode cL_law 905 = .ok (.aload_n 1, 1) := by decide +kernel
theorem dL_law_906 : decode cL_law 906 = .ok (.aload_n 0, 1) := by decide +kernel
theorem dL_law_907 : decode cL_law 907 = .ok (.iload_n 3, 1) := by decide +kernel
theorem dL_law_908 : decode cL_law 908 = .ok (.iconst 1, 1) := by decide +kernel
theorem dL_law_909 : decode cL_law 909 = .ok (.iadd, 1) := by decide +kernel
theorem dL_law_910 : decode cL_law 910 = .ok (.iaload, 1) := by decide +kernel
theorem dL_law_911 : decode cL_law 911 = .ok (.aload_n 0, 1) := by decide +kernel
theorem dL_law_912 : decode cL_law 912 = .ok (.iload_n 3, 1) := by decide +kernel
theorem dL_law_913 : decode cL_law 913 = .ok (.iconst 2, 1) := by decide +kernel
theorem dL_law_914 : decode cL_law 914 = .ok (.iadd, 1) := by decide +kernel
theorem dL_law_915 : decode cL_law 915 = .ok (.iaload, 1) := by decide +kernel
theorem dL_law_916 : decode cL_law 916 = .ok (.aload_n 0, 1) := by decide +kernel
theorem dL_law_917 : decode cL_law 917 = .ok (.iload_n 3, 1) := by decide +kernel
theorem dL_law_918 : decode cL_law 918 = .ok (.iconst 3, 1) := by decide +kernel
theorem dL_law_919 : decode cL_law 919 = .ok (.iadd, 1) := by decide +kernel
theorem dL_law_920 : decode cL_law 920 = .ok (.iaload, 1) := by decide +kernel
theorem dL_law_921 : decode cL_law 921 = .ok (.invokevirtual 118, 3) := by decide +kernel
theorem dL_law_924 : decode cL_law 924 = .ok (.aload_n 2, 1) := by decide +kernel
theorem dL_law_925 : decode cL_law 925 = .ok (.aload_n 0, 1) := by decide +kernel
theorem dL_law_926 : decode cL_law 926 = .ok (.iload_n 3, 1) := by decide +kernel
theorem dL_law_927 : decode cL_law 927 = .ok (.iconst 1, 1) := by decide +kernel
theorem dL_law_928 : decode cL_law 928 = .ok (.iadd, 1) := by decide +kernel
theorem dL_law_929 : decode cL_law 929 = .ok (.iaload, 1) := by decide +kernel
theorem dL_law_930 : decode cL_law 930 = .ok (.aload_n 0, 1) := by decide +kernel
theorem dL_law_931 : decode cL_law 931 = .ok (.iload_n 3, 1) := by decide +kernel
theorem dL_law_932 : decode cL_law 932 = .ok (.iconst 2, 1) := by decide +kernel
theorem dL_law_933 : decode cL_law 933 = .ok (.iadd, 1) := by decide +kernel
theorem dL_law_934 : decode cL_law 934 = .ok (.iaload, 1) := by decide +kernel
theorem dL_law_935 : decode cL_law 935 = .ok (.aload_n 0, 1) := by decide +kernel
theorem dL_law_936 : decode cL_law 936 = .ok (.iload_n 3, 1) := by decide +kernel
theorem dL_law_937 : decode cL_law 937 = .ok (.iconst 3, 1) := by decide +kernel
theorem dL_law_938 : decode cL_law 938 = .ok (.iadd, 1) := by decide +kernel
theorem dL_law_939 : decode cL_law 939 = .ok (.iaload, 1) := by decide +kernel
theorem dL_law_940 : decode cL_law 940 = .ok (.invokevirtual 121, 3) := by decide +kernel
theorem dL_law_943 : decode cL_law 943 = .ok (.if_icmp .eq 117, 3) := by decide +kernel
theorem dL_law_946 : decode cL_law 946 = .ok (.iconst 0, 1) := by decide +kernel
theorem dL_law_947 : decode cL_law 947 = .ok (.ireturn, 1) := by decide +kernel
theorem dL_law_948 : decode cL_law 948 = .ok (.aload_n 1, 1) := by decide +kernel
theorem dL_law_949 : decode cL_law 949 = .ok (.aload_n 0, 1) := by decide +kernel
theorem dL_law_950 : decode cL_law 950 = .ok (.iload_n 3, 1) := by decide +kernel
theorem dL_law_951 : decode cL_law 951 = .ok (.iconst 1, 1) := by decide +kernel
theorem dL_law_952 : decode cL_law 952 = .ok (.iadd, 1) := by decide +kernel
theorem dL_law_953 : decode cL_law 953 = .ok (.iaload, 1) := by decide +kernel
theorem dL_law_954 : decode cL_law 954 = .ok (.aload_n 0, 1) := by decide +kernel
theorem dL_law_955 : decode cL_law 955 = .ok (.iload_n 3, 1) := by decide +kernel
theorem dL_law_956 : decode cL_law 956 = .ok (.iconst 2, 1) := by decide +kernel
theorem dL_law_957 : decode cL_law 957 = .ok (.iadd, 1) := by decide +kernel
theorem dL_law_958 : decode cL_law 958 = .ok (.iaload, 1) := by decide +kernel
theorem dL_law_959 : decode cL_law 959 = .ok (.aload_n 0, 1) := by decide +kernel
theorem dL_law_960 : decode cL_law 960 = .ok (.iload_n 3, 1) := by decide +kernel
theorem dL_law_961 : decode cL_law 961 = .ok (.iconst 3, 1) := by decide +kernel
theorem dL_law_962 : decode cL_law 962 = .ok (.iadd, 1) := by decide +kernel
theorem dL_law_963 : decode cL_law 963 = .ok (.iaload, 1) := by decide +kernel
theorem dL_law_964 : decode cL_law 964 = .ok (.invokevirtual 122, 3) := by decide +kernel
theorem dL_law_967 : decode cL_law 967 = .ok (.aload_n 2, 1) := by decide +kernel
theorem dL_law_968 : decode cL_law 968 = .ok (.aload_n 0, 1) := by decide +kernel
theorem dL_law_969 : decode cL_law 969 = .ok (.iload_n 3, 1) := by decide +kernel
theorem dL_law_970 : decode cL_law 970 = .ok (.iconst 1, 1) := by decide +kernel
theorem dL_law_971 : decode cL_law 971 = .ok (.iadd, 1) := by decide +kernel
theorem dL_law_972 : decode cL_law 972 = .ok (.iaload, 1) := by decide +kernel
theorem dL_law_973 : decode cL_law 973 = .ok (.aload_n 0, 1) := by decide +kernel
theorem dL_law_974 : decode cL_law 974 = .ok (.iload_n 3, 1) := by decide +kernel
theorem dL_law_975 : decode cL_law 975 = .ok (.iconst 2, 1) := by decide +kernel
theorem dL_law_976 : decode cL_law 976 = .ok (.iadd, 1) := by decide +kernel
theorem dL_law_977 : decode cL_law 977 = .ok (.iaload, 1) := by decide +kernel
theorem dL_law_978 : decode cL_law 978 = .ok (.aload_n 0, 1) := by decide +kernel
theorem dL_law_979 : decode cL_law 979 = .ok (.iload_n 3, 1) := by decide +kernel
theorem dL_law_980 : decode cL_law 980 = .ok (.iconst 3, 1) := by decide +kernel
theorem dL_law_981 : decode cL_law 981 = .ok (.iadd, 1) := by decide +kernel
theorem dL_law_982 : decode cL_law 982 = .ok (.iaload, 1) := by decide +kernel
theorem dL_law_983 : decode cL_law 983 = .ok (.invokevirtual 125, 3) := by decide +kernel
theorem dL_law_986 : decode cL_law 986 = .ok (.if_icmp .eq 74, 3) := by decide +kernel
theorem dL_law_989 : decode cL_law 989 = .ok (.iconst 0, 1) := by decide +kernel
theorem dL_law_990 : decode cL_law 990 = .ok (.ireturn, 1) := by decide +kernel
theorem dL_law_991 : decode cL_law 991 = .ok (.aload_n 1, 1) := by decide +kernel
theorem dL_law_992 : decode cL_law 992 = .ok (.aload_n 0, 1) := by decide +kernel
theorem dL_law_993 : decode cL_law 993 = .ok (.iload_n 3, 1) := by decide +kernel
theorem dL_law_994 : decode cL_law 994 = .ok (.iconst 1, 1) := by decide +kernel
theorem dL_law_995 : decode cL_law 995 = .ok (.iadd, 1) := by decide +kernel
theorem dL_law_996 : decode cL_law 996 = .ok (.iaload, 1) := by decide +kernel
theorem dL_law_997 : decode cL_law 997 = .ok (.invokevirtual 126, 3) := by decide +kernel
theorem dL_law_1000 : decode cL_law 1000 = .ok (.aload_n 2, 1) := by decide +kernel
theorem dL_law_1001 : decode cL_law 1001 = .ok (.aload_n 0, 1) := by decide +kernel
theorem dL_law_1002 : decode cL_law 1002 = .ok (.iload_n 3, 1) := by decide +kernel
theorem dL_law_1003 : decode cL_law 1003 = .ok (.iconst 1, 1) := by decide +kernel
theorem dL_law_1004 : decode cL_law 1004 = .ok (.iadd, 1) := by decide +kernel
theorem dL_law_1005 : decode cL_law 1005 = .ok (.iaload, 1) := by decide +kernel
theorem dL_law_1006 : decode cL_law 1006 = .ok (.invokevirtual 129, 3) := by decide +kernel
theorem dL_law_1009 : decode cL_law 1009 = .ok (.if_icmp .eq 51, 3) := by decide +kernel
theorem dL_law_1012 : decode cL_law 1012 = .ok (.iconst 0, 1) := by decide +kernel
theorem dL_law_1013 : decode cL_law 1013 = .ok (.ireturn, 1) := by decide +kernel
theorem dL_law_1014 : decode cL_law 1014 = .ok (.aload_n 1, 1) := by decide +kernel
theorem dL_law_1015 : decode cL_law 1015 = .ok (.aload_n 0, 1) := by decide +kernel
theorem dL_law_1016 : decode cL_law 1016 = .ok (.iload_n 3, 1) := by decide +kernel
theorem dL_law_1017 : decode cL_law 1017 = .ok (.iconst 1, 1) := by decide +kernel
theorem dL_law_1018 : decode cL_law 1018 = .ok (.iadd, 1) := by decide +kernel
theorem dL_law_1019 : decode cL_law 1019 = .ok (.iaload, 1) := by decide +kernel
theorem dL_law_1020 : decode cL_law 1020 = .ok (.invokevirtual 130, 3) := by decide +kernel
theorem dL_law_1023 : decode cL_law 1023 = .ok (.aload_n 2, 1) := by decide +kernel
theorem dL_law_1024 : decode cL_law 1024 = .ok (.aload_n 0, 1) := by decide +kernel
theorem dL_law_1025 : decode cL_law 1025 = .ok (.iload_n 3, 1) := by decide +kernel
theorem dL_law_1026 : decode cL_law 1026 = .ok (.iconst 1, 1) := by decide +kernel
theorem dL_law_1027 : decode cL_law 1027 = .ok (.iadd, 1) := by decide +kernel
theorem dL_law_1028 : decode cL_law 1028 = .ok (.iaload, 1) := by decide +kernel
theorem dL_law_1029 : decode cL_law 1029 = .ok (.invokevirtual 133, 3) := by decide +kernel
theorem dL_law_1032 : decode cL_law 1032 = .ok (.if_icmp .eq 28, 3) := by decide +kernel
theorem dL_law_1035 : decode cL_law 1035 = .ok (.iconst 0, 1) := by decide +kernel
theorem dL_law_1036 : decode cL_law 1036 = .ok (.ireturn, 1) := by decide +kernel
theorem dL_law_1037 : decode cL_law 1037 = .ok (.aload_n 1, 1) := by decide +kernel
theorem dL_law_1038 : decode cL_law 1038 = .ok (.aload_n 0, 1) := by decide +kernel
theorem dL_law_1039 : decode cL_law 1039 = .ok (.iload_n 3, 1) := by decide +kernel
theorem dL_law_1040 : decode cL_law 1040 = .ok (.iconst 1, 1) := by decide +kernel
theorem dL_law_1041 : decode cL_law 1041 = .ok (.iadd, 1) := by decide +kernel
theorem dL_law_1042 : decode cL_law 1042 = .ok (.iaload, 1) := by decide +kernel
theorem dL_law_1043 : decode cL_law 1043 = .ok (.invokevirtual 134, 3) := by decide +kernel
theorem dL_law_1046 : decode cL_law 1046 = .ok (.aload_n 2, 1) := by decide +kernel
theorem dL_law_1047 : decode cL_law 1047 = .ok (.aload_n 0, 1) := by decide +kernel
theorem dL_law_1048 : decode cL_law 1048 = .ok (.iload_n 3, 1) := by decide +kernel
theorem dL_law_1049 : decode cL_law 1049 = .ok (.iconst 1, 1) := by decide +kernel
theorem dL_law_1050 : decode cL_law 1050 = .ok (.iadd, 1) := by decide +kernel
theorem dL_law_1051 : decode cL_law 1051 = .ok (.iaload, 1) := by decide +kernel
theorem dL_law_1052 : decode cL_law 1052 = .ok (.invokevirtual 137, 3) := by decide +kernel
theorem dL_law_1055 : decode cL_law 1055 = .ok (.if_icmp .eq 5, 3) := by decide +kernel
theorem dL_law_1058 : decode cL_law 1058 = .ok (.iconst 0, 1) := by decide +kernel
theorem dL_law_1059 : decode cL_law 1059 = .ok (.ireturn, 1) := by decide +kernel
theorem dL_law_1060 : decode cL_law 1060 = .ok (.iinc 3 6, 3) := by decide +kernel
theorem dL_law_1063 : decode cL_law 1063 = .ok (.goto (-1045), 3) := by decide +kernel
theorem dL_law_1066 : decode cL_law 1066 = .ok (.iconst 1, 1) := by decide +kernel
theorem dL_law_1067 : decode cL_law 1067 = .ok (.ireturn, 1) := by decide +kernel
abbrev vwCl : List vw_C := [(RX0, TX0, 3), (RX1, TX1, 5), (RX2, TX2, 7), (RX3, TX3, 2), (RX4, TX4, 7), (RX5, TX5, 4), (RX6, TX6, 7), (RX7, TX7, 8), (RX8, TX8, 39)]
def lw_all : List Cond := lw_tbl.filter goodWord
theorem mw {w : Cond} (i : Nat) (h : lw_tbl[i]? = some w) (hg : goodWord w = true) : w ∈ lw_all := List.mem_filter.mpr ⟨List.mem_of_getElem? h, hg⟩
theorem lw_all_tbl {w : Cond} (h : w ∈ lw_all) : w ∈ lw_tbl := (List.mem_filter.mp h).1
theorem lw_all_good {w : Cond} (h : w ∈ lw_all) : goodWord w = true := (List.mem_filter.mp h).2
theorem in_r {ws : List Cond} (ps : List Nat) (hp : ws = ps.filterMap (fun i => lw_tbl[i]?)) (h : ws.all goodWord = true) : ∀ w ∈ ws, w ∈ lw_all := by
  intro w hw
  have h1 := List.all_eq_true.mp h w hw
  rw [hp] at hw
  obtain ⟨i, -, hi⟩ := List.mem_filterMap.mp hw
  exact mw i hi h1
theorem inA0 : ∀ w ∈ wsX00, w ∈ lw_all := in_r [256, 258, 260] (by decide +kernel) (by decide +kernel)
theorem inA1 : ∀ w ∈ wsX10, w ∈ lw_all := in_r [229, 231, 233, 235, 237] (by decide +kernel) (by decide +kernel)
theorem inA2 : ∀ w ∈ wsX20, w ∈ lw_all := in_r [126, 128, 130, 132, 134, 136, 138] (by decide +kernel) (by decide +kernel)
theorem inA3 : ∀ w ∈ wsX30, w ∈ lw_all := in_r [151, 153] (by decide +kernel) (by decide +kernel)
theorem inA4 : ∀ w ∈ wsX40, w ∈ lw_all := in_r [97, 99, 101, 103, 105, 107, 109] (by decide +kernel) (by decide +kernel)
theorem inA5 : ∀ w ∈ wsX50, w ∈ lw_all := in_r [206, 208, 210, 212] (by decide +kernel) (by decide +kernel)
theorem inA6 : ∀ w ∈ wsX60, w ∈ lw_all := in_r [176, 178, 180, 182, 184, 186, 188] (by decide +kernel) (by decide +kernel)
theorem inA7 : ∀ w ∈ wsX70, w ∈ lw_all := in_r [271, 273, 275, 277, 279, 281, 283, 285] (by decide +kernel) (by decide +kernel)
theorem inA8 : ∀ w ∈ wsX80, w ∈ lw_all := in_r [715, 717, 719, 721, 723, 725, 727, 729, 731, 733, 735, 737, 739, 741, 743, 745, 747, 749, 751, 753, 755, 757, 759, 761, 763, 765, 767, 769, 771, 773, 775, 777, 779, 781, 783, 785, 787, 789, 791] (by decide +kernel) (by decide +kernel)
theorem q0 : (Cond.selects RX7 yX7_tryVoyages yX7_tryVoyages : Cond) ∈ lw_all := mw 0 (by decide +kernel) (by decide +kernel)
theorem q1 : (Cond.selects RX6 yX6_begin yX6_begin : Cond) ∈ lw_all := mw 1 (by decide +kernel) (by decide +kernel)
theorem q2 : (Cond.selects RX6 yX6_take yX6_take : Cond) ∈ lw_all := mw 2 (by decide +kernel) (by decide +kernel)
theorem q3 : (Cond.selects RX2 yX2_reasonAgainstSailing yX2_reasonAgainstSailing : Cond) ∈ lw_all := mw 3 (by decide +kernel) (by decide +kernel)
theorem q4 : (Cond.selects RX2 yX2_comeHome yX2_comeHome : Cond) ∈ lw_all := mw 4 (by decide +kernel) (by decide +kernel)
theorem q5 : (Cond.selects RX2 yX2_sink yX2_sink : Cond) ∈ lw_all := mw 5 (by decide +kernel) (by decide +kernel)
theorem q6 : (Cond.selects RX6 yX6_noteSinking yX6_noteSinking : Cond) ∈ lw_all := mw 6 (by decide +kernel) (by decide +kernel)
theorem q7 : (Cond.selects RX1 yX1_takes yX1_takes : Cond) ∈ lw_all := mw 7 (by decide +kernel) (by decide +kernel)
theorem q8 : (Cond.selects RX1 yX1_areTwo yX1_areTwo : Cond) ∈ lw_all := mw 8 (by decide +kernel) (by decide +kernel)
theorem q9 : (Cond.selects RX1 yX1_partNames yX1_partNames : Cond) ∈ lw_all := mw 9 (by decide +kernel) (by decide +kernel)
theorem q10 : (Cond.selects RX1 yX1_joinNames yX1_joinNames : Cond) ∈ lw_all := mw 10 (by decide +kernel) (by decide +kernel)
theorem q11 : (Cond.selects RX2 yX2_kindDrawn yX2_kindDrawn : Cond) ∈ lw_all := mw 11 (by decide +kernel) (by decide +kernel)
theorem q12 : (Cond.selects RX7 yX7_imageAt yX7_imageAt : Cond) ∈ lw_all := mw 12 (by decide +kernel) (by decide +kernel)
theorem q13 : (Cond.selects RX8 yX8_isShip yX8_isShip : Cond) ∈ lw_all := mw 13 (by decide +kernel) (by decide +kernel)
theorem q14 : (Cond.selects RX8 yX8_readOn yX8_readOn : Cond) ∈ lw_all := mw 14 (by decide +kernel) (by decide +kernel)
theorem q15 : (Cond.selects RX8 yX8_close yX8_close : Cond) ∈ lw_all := mw 15 (by decide +kernel) (by decide +kernel)
theorem q16 : (Cond.selects RX8 yX8_refusal yX8_refusal : Cond) ∈ lw_all := mw 16 (by decide +kernel) (by decide +kernel)
theorem q17 : (Cond.selects RX8 yX8_keepNow yX8_keepNow : Cond) ∈ lw_all := mw 17 (by decide +kernel) (by decide +kernel)
theorem q18 : (Cond.selects RX8 yX8_goVoyages yX8_goVoyages : Cond) ∈ lw_all := mw 18 (by decide +kernel) (by decide +kernel)
theorem q19 : (Cond.selects RX8 yX8_beginCount yX8_beginCount : Cond) ∈ lw_all := mw 19 (by decide +kernel) (by decide +kernel)
theorem q20 : (Cond.selects RX8 yX8_whyNot yX8_whyNot : Cond) ∈ lw_all := mw 20 (by decide +kernel) (by decide +kernel)
theorem q21 : (Cond.selects RX8 yX8_risk yX8_risk : Cond) ∈ lw_all := mw 21 (by decide +kernel) (by decide +kernel)
theorem q22 : (Cond.selects RX8 yX8_riskWith yX8_riskWith : Cond) ∈ lw_all := mw 22 (by decide +kernel) (by decide +kernel)
theorem q23 : (Cond.selects RX8 yX8_happen yX8_happen : Cond) ∈ lw_all := mw 23 (by decide +kernel) (by decide +kernel)
theorem q24 : (Cond.selects RX8 yX8_sail yX8_sail : Cond) ∈ lw_all := mw 24 (by decide +kernel) (by decide +kernel)
theorem q25 : (Cond.selects RX8 yX8_sink yX8_sink : Cond) ∈ lw_all := mw 25 (by decide +kernel) (by decide +kernel)
theorem q26 : (Cond.selects RX8 yX8_insured yX8_insured : Cond) ∈ lw_all := mw 26 (by decide +kernel) (by decide +kernel)
theorem q27 : (Cond.selects RX8 yX8_back yX8_back : Cond) ∈ lw_all := mw 27 (by decide +kernel) (by decide +kernel)
theorem q28 : (Cond.selects RX8 yX8_ofShip yX8_ofShip : Cond) ∈ lw_all := mw 28 (by decide +kernel) (by decide +kernel)
theorem q29 : (Cond.selects RX8 yX8_ofAll yX8_ofAll : Cond) ∈ lw_all := mw 29 (by decide +kernel) (by decide +kernel)
theorem q30 : (Cond.selects RX8 yX8_meanWith yX8_meanWith : Cond) ∈ lw_all := mw 30 (by decide +kernel) (by decide +kernel)
theorem q31 : (Cond.selects RX8 yX8_deepWith yX8_deepWith : Cond) ∈ lw_all := mw 31 (by decide +kernel) (by decide +kernel)
theorem q32 : (Cond.selects RX8 yX8_meanOfAll yX8_meanOfAll : Cond) ∈ lw_all := mw 32 (by decide +kernel) (by decide +kernel)
theorem q33 : (Cond.selects RX8 yX8_isAfloat yX8_isAfloat : Cond) ∈ lw_all := mw 33 (by decide +kernel) (by decide +kernel)
theorem q34 : (Cond.selects RX8 yX8_oneMore yX8_oneMore : Cond) ∈ lw_all := mw 34 (by decide +kernel) (by decide +kernel)
theorem q35 : (Cond.selects RX8 yX8_hearTales yX8_hearTales : Cond) ∈ lw_all := mw 35 (by decide +kernel) (by decide +kernel)
theorem q36 : (Cond.selects RX8 yX8_areTwo yX8_areTwo : Cond) ∈ lw_all := mw 36 (by decide +kernel) (by decide +kernel)
theorem q37 : (Cond.selects RX8 yX8_join yX8_join : Cond) ∈ lw_all := mw 37 (by decide +kernel) (by decide +kernel)
theorem q38 : (Cond.selects RX8 yX8_isOneShip yX8_isOneShip : Cond) ∈ lw_all := mw 38 (by decide +kernel) (by decide +kernel)
theorem q39 : (Cond.selects RX8 yX8_addShip yX8_addShip : Cond) ∈ lw_all := mw 39 (by decide +kernel) (by decide +kernel)
theorem q40 : (Cond.selects RX8 yX8_actBy yX8_actBy : Cond) ∈ lw_all := mw 40 (by decide +kernel) (by decide +kernel)
theorem q41 : (Cond.selects RX8 yX8_passAll yX8_passAll : Cond) ∈ lw_all := mw 41 (by decide +kernel) (by decide +kernel)
theorem q42 : (Cond.selects RX8 yX8_pass yX8_pass : Cond) ∈ lw_all := mw 42 (by decide +kernel) (by decide +kernel)
theorem q43 : (Cond.selects RX8 yX8_passRow yX8_passRow : Cond) ∈ lw_all := mw 43 (by decide +kernel) (by decide +kernel)
theorem q44 : (Cond.selects RX8 yX8_toldOf yX8_toldOf : Cond) ∈ lw_all := mw 44 (by decide +kernel) (by decide +kernel)
theorem q45 : (Cond.initialized RL : Cond) ∈ lw_all := mw 45 (by decide +kernel) (by decide +kernel)
theorem q46 : (Cond.initialized RX7 : Cond) ∈ lw_all := mw 46 (by decide +kernel) (by decide +kernel)
theorem q47 : (Cond.initialized RX2 : Cond) ∈ lw_all := mw 47 (by decide +kernel) (by decide +kernel)
theorem q48 : (Cond.initialized RX4 : Cond) ∈ lw_all := mw 48 (by decide +kernel) (by decide +kernel)
theorem q49 : (Cond.initialized RX3 : Cond) ∈ lw_all := mw 49 (by decide +kernel) (by decide +kernel)
theorem q50 : (Cond.initialized RX6 : Cond) ∈ lw_all := mw 50 (by decide +kernel) (by decide +kernel)
theorem q51 : (Cond.initialized RX5 : Cond) ∈ lw_all := mw 51 (by decide +kernel) (by decide +kernel)
theorem q52 : (Cond.initialized RX1 : Cond) ∈ lw_all := mw 52 (by decide +kernel) (by decide +kernel)
theorem q53 : (Cond.initialized RX0 : Cond) ∈ lw_all := mw 53 (by decide +kernel) (by decide +kernel)
theorem q54 : (Cond.initialized RX8 : Cond) ∈ lw_all := mw 54 (by decide +kernel) (by decide +kernel)
theorem q55 : (Cond.initialized RJ6 : Cond) ∈ lw_all := mw 55 (by decide +kernel) (by decide +kernel)
theorem q56 : (Cond.initialized RJ9 : Cond) ∈ lw_all := mw 56 (by decide +kernel) (by decide +kernel)
theorem q57 : (Cond.classLink RL 7 RX7 : Cond) ∈ lw_all := mw 57 (by decide +kernel) (by decide +kernel)
theorem q58 : (Cond.instantiable RX7 8 : Cond) ∈ lw_all := mw 58 (by decide +kernel) (by decide +kernel)
theorem q59 : (Cond.methodLink RL 9 yX7_init : Cond) ∈ lw_all := mw 59 (by decide +kernel) (by decide +kernel)
theorem q60 : (Cond.instanceMethod yX7_init : Cond) ∈ lw_all := mw 60 (by decide +kernel) (by decide +kernel)
theorem q61 : (Cond.code yX7_init cX7_init 2 none : Cond) ∈ lw_all := mw 61 (by decide +kernel) (by decide +kernel)
theorem q62 : (Cond.methodLink RX7 1 objectInit : Cond) ∈ lw_all := mw 62 (by decide +kernel) (by decide +kernel)
theorem q63 : (Cond.instanceMethod objectInit : Cond) ∈ lw_all := mw 63 (by decide +kernel) (by decide +kernel)
theorem q64 : (Cond.code objectInit ⟨#[0xb1]⟩ 1 none : Cond) ∈ lw_all := mw 64 (by decide +kernel) (by decide +kernel)
theorem q65 : (Cond.classLink RX7 7 RX2 : Cond) ∈ lw_all := mw 65 (by decide +kernel) (by decide +kernel)
theorem q66 : (Cond.instantiable RX2 7 : Cond) ∈ lw_all := mw 66 (by decide +kernel) (by decide +kernel)
theorem q67 : (Cond.methodLink RX7 9 yX2_init : Cond) ∈ lw_all := mw 67 (by decide +kernel) (by decide +kernel)
theorem q68 : (Cond.instanceMethod yX2_init : Cond) ∈ lw_all := mw 68 (by decide +kernel) (by decide +kernel)
theorem q69 : (Cond.code yX2_init cX2_init 2 none : Cond) ∈ lw_all := mw 69 (by decide +kernel) (by decide +kernel)
theorem q70 : (Cond.methodLink RX2 3 objectInit : Cond) ∈ lw_all := mw 70 (by decide +kernel) (by decide +kernel)
theorem q71 : (Cond.classLink RX2 9 RX4 : Cond) ∈ lw_all := mw 71 (by decide +kernel) (by decide +kernel)
theorem q73 : (Cond.instantiable RX4 7 : Cond) ∈ lw_all := mw 73 (by decide +kernel) (by decide +kernel)
theorem q74 : (Cond.methodLink RX2 17 yX4_init : Cond) ∈ lw_all := mw 74 (by decide +kernel) (by decide +kernel)
theorem q75 : (Cond.instanceMethod yX4_init : Cond) ∈ lw_all := mw 75 (by decide +kernel) (by decide +kernel)
theorem q76 : (Cond.code yX4_init cX4_init 1 none : Cond) ∈ lw_all := mw 76 (by decide +kernel) (by decide +kernel)
theorem q77 : (Cond.methodLink RX4 3 objectInit : Cond) ∈ lw_all := mw 77 (by decide +kernel) (by decide +kernel)
theorem q78 : (Cond.fieldLink RX4 15 "BelowWorth$Ship" "there" "Z" : Cond) ∈ lw_all := mw 78 (by decide +kernel) (by decide +kernel)
theorem q79 : (Cond.fieldLink RX7 79 "BelowWorth$Ship" "there" "Z" : Cond) ∈ lw_all := mw 79 (by decide +kernel) (by decide +kernel)
theorem q80 : (Cond.fieldLink RX2 45 "BelowWorth$Ship" "there" "Z" : Cond) ∈ lw_all := mw 80 (by decide +kernel) (by decide +kernel)
theorem q81 : (Cond.fieldLink RX4 19 "BelowWorth$Ship" "afloat" "Z" : Cond) ∈ lw_all := mw 81 (by decide +kernel) (by decide +kernel)
theorem q82 : (Cond.fieldLink RX2 52 "BelowWorth$Ship" "afloat" "Z" : Cond) ∈ lw_all := mw 82 (by decide +kernel) (by decide +kernel)
theorem q83 : (Cond.fieldLink RX7 136 "BelowWorth$Ship" "afloat" "Z" : Cond) ∈ lw_all := mw 83 (by decide +kernel) (by decide +kernel)
theorem q84 : (Cond.fieldLink RX4 22 "BelowWorth$Ship" "age" "I" : Cond) ∈ lw_all := mw 84 (by decide +kernel) (by decide +kernel)
theorem q85 : (Cond.fieldLink RX2 68 "BelowWorth$Ship" "age" "I" : Cond) ∈ lw_all := mw 85 (by decide +kernel) (by decide +kernel)
theorem q86 : (Cond.fieldLink RX7 126 "BelowWorth$Ship" "age" "I" : Cond) ∈ lw_all := mw 86 (by decide +kernel) (by decide +kernel)
theorem q87 : (Cond.fieldLink RX4 26 "BelowWorth$Ship" "worth" "I" : Cond) ∈ lw_all := mw 87 (by decide +kernel) (by decide +kernel)
theorem q88 : (Cond.fieldLink RX2 75 "BelowWorth$Ship" "worth" "I" : Cond) ∈ lw_all := mw 88 (by decide +kernel) (by decide +kernel)
theorem q89 : (Cond.fieldLink RX7 255 "BelowWorth$Ship" "worth" "I" : Cond) ∈ lw_all := mw 89 (by decide +kernel) (by decide +kernel)
theorem q90 : (Cond.fieldLink RX4 29 "BelowWorth$Ship" "crew" "I" : Cond) ∈ lw_all := mw 90 (by decide +kernel) (by decide +kernel)
theorem q91 : (Cond.fieldLink RX2 117 "BelowWorth$Ship" "crew" "I" : Cond) ∈ lw_all := mw 91 (by decide +kernel) (by decide +kernel)
theorem q92 : (Cond.fieldLink RX7 258 "BelowWorth$Ship" "crew" "I" : Cond) ∈ lw_all := mw 92 (by decide +kernel) (by decide +kernel)
theorem q93 : (Cond.fieldLink RX4 32 "BelowWorth$Ship" "load" "I" : Cond) ∈ lw_all := mw 93 (by decide +kernel) (by decide +kernel)
theorem q94 : (Cond.fieldLink RX7 91 "BelowWorth$Ship" "load" "I" : Cond) ∈ lw_all := mw 94 (by decide +kernel) (by decide +kernel)
theorem q95 : (Cond.fieldLink RX2 78 "BelowWorth$Ship" "load" "I" : Cond) ∈ lw_all := mw 95 (by decide +kernel) (by decide +kernel)
theorem q96 : (Cond.fieldLink RX4 9 "BelowWorth$Ship" "sums" "[I" : Cond) ∈ lw_all := mw 96 (by decide +kernel) (by decide +kernel)
theorem q112 : (Cond.arrayClass .int : Cond) ∈ lw_all := mw 112 (by decide +kernel) (by decide +kernel)
theorem q113 : (Cond.fieldLink RX2 11 "BelowWorth$Owner" "ships" "[LBelowWorth$Ship;" : Cond) ∈ lw_all := mw 113 (by decide +kernel) (by decide +kernel)
theorem q114 : (Cond.fieldLink RX2 18 "BelowWorth$Owner" "nerve" "I" : Cond) ∈ lw_all := mw 114 (by decide +kernel) (by decide +kernel)
theorem q115 : (Cond.fieldLink RX7 95 "BelowWorth$Owner" "nerve" "I" : Cond) ∈ lw_all := mw 115 (by decide +kernel) (by decide +kernel)
theorem q116 : (Cond.fieldLink RX2 22 "BelowWorth$Owner" "freight" "I" : Cond) ∈ lw_all := mw 116 (by decide +kernel) (by decide +kernel)
theorem q117 : (Cond.fieldLink RX7 98 "BelowWorth$Owner" "freight" "I" : Cond) ∈ lw_all := mw 117 (by decide +kernel) (by decide +kernel)
theorem q118 : (Cond.fieldLink RX2 33 "BelowWorth$Owner" "season" "I" : Cond) ∈ lw_all := mw 118 (by decide +kernel) (by decide +kernel)
theorem q119 : (Cond.fieldLink RX7 101 "BelowWorth$Owner" "season" "I" : Cond) ∈ lw_all := mw 119 (by decide +kernel) (by decide +kernel)
theorem q120 : (Cond.fieldLink RX2 36 "BelowWorth$Owner" "seasons" "I" : Cond) ∈ lw_all := mw 120 (by decide +kernel) (by decide +kernel)
theorem q121 : (Cond.fieldLink RX7 146 "BelowWorth$Owner" "seasons" "I" : Cond) ∈ lw_all := mw 121 (by decide +kernel) (by decide +kernel)
theorem q122 : (Cond.fieldLink RX2 39 "BelowWorth$Owner" "gain" "I" : Cond) ∈ lw_all := mw 122 (by decide +kernel) (by decide +kernel)
theorem q123 : (Cond.fieldLink RX7 139 "BelowWorth$Owner" "gain" "I" : Cond) ∈ lw_all := mw 123 (by decide +kernel) (by decide +kernel)
theorem q124 : (Cond.fieldLink RX2 42 "BelowWorth$Owner" "drowned" "I" : Cond) ∈ lw_all := mw 124 (by decide +kernel) (by decide +kernel)
theorem q125 : (Cond.fieldLink RX7 143 "BelowWorth$Owner" "drowned" "I" : Cond) ∈ lw_all := mw 125 (by decide +kernel) (by decide +kernel)
theorem q141 : (Cond.classLink RX7 19 RX3 : Cond) ∈ lw_all := mw 141 (by decide +kernel) (by decide +kernel)
theorem q142 : (Cond.instantiable RX3 2 : Cond) ∈ lw_all := mw 142 (by decide +kernel) (by decide +kernel)
theorem q143 : (Cond.methodLink RX7 21 yX3_init : Cond) ∈ lw_all := mw 143 (by decide +kernel) (by decide +kernel)
theorem q144 : (Cond.instanceMethod yX3_init : Cond) ∈ lw_all := mw 144 (by decide +kernel) (by decide +kernel)
theorem q145 : (Cond.code yX3_init cX3_init 1 none : Cond) ∈ lw_all := mw 145 (by decide +kernel) (by decide +kernel)
theorem q146 : (Cond.methodLink RX3 3 objectInit : Cond) ∈ lw_all := mw 146 (by decide +kernel) (by decide +kernel)
theorem q147 : (Cond.fieldLink RX3 9 "BelowWorth$Pad" "signs" "[I" : Cond) ∈ lw_all := mw 147 (by decide +kernel) (by decide +kernel)
theorem q148 : (Cond.fieldLink RX3 15 "BelowWorth$Pad" "count" "I" : Cond) ∈ lw_all := mw 148 (by decide +kernel) (by decide +kernel)
theorem q149 : (Cond.fieldLink RX6 14 "BelowWorth$Pad" "count" "I" : Cond) ∈ lw_all := mw 149 (by decide +kernel) (by decide +kernel)
theorem q150 : (Cond.fieldLink RX7 108 "BelowWorth$Pad" "count" "I" : Cond) ∈ lw_all := mw 150 (by decide +kernel) (by decide +kernel)
theorem q156 : (Cond.classLink RX7 26 RX6 : Cond) ∈ lw_all := mw 156 (by decide +kernel) (by decide +kernel)
theorem q157 : (Cond.instantiable RX6 7 : Cond) ∈ lw_all := mw 157 (by decide +kernel) (by decide +kernel)
theorem q159 : (Cond.instanceMethod yX6_init : Cond) ∈ lw_all := mw 159 (by decide +kernel) (by decide +kernel)
theorem q160 : (Cond.code yX6_init cX6_init 1 none : Cond) ∈ lw_all := mw 160 (by decide +kernel) (by decide +kernel)
theorem q161 : (Cond.methodLink RX6 3 objectInit : Cond) ∈ lw_all := mw 161 (by decide +kernel) (by decide +kernel)
theorem q162 : (Cond.fieldLink RX6 31 "BelowWorth$Voyages" "acts" "I" : Cond) ∈ lw_all := mw 162 (by decide +kernel) (by decide +kernel)
theorem q163 : (Cond.fieldLink RX7 162 "BelowWorth$Voyages" "acts" "I" : Cond) ∈ lw_all := mw 163 (by decide +kernel) (by decide +kernel)
theorem q164 : (Cond.fieldLink RX6 20 "BelowWorth$Voyages" "badAct" "I" : Cond) ∈ lw_all := mw 164 (by decide +kernel) (by decide +kernel)
theorem q165 : (Cond.fieldLink RX7 117 "BelowWorth$Voyages" "badAct" "I" : Cond) ∈ lw_all := mw 165 (by decide +kernel) (by decide +kernel)
theorem q166 : (Cond.fieldLink RX6 34 "BelowWorth$Voyages" "why" "I" : Cond) ∈ lw_all := mw 166 (by decide +kernel) (by decide +kernel)
theorem q167 : (Cond.fieldLink RX7 120 "BelowWorth$Voyages" "why" "I" : Cond) ∈ lw_all := mw 167 (by decide +kernel) (by decide +kernel)
theorem q168 : (Cond.fieldLink RX6 37 "BelowWorth$Voyages" "sailings" "I" : Cond) ∈ lw_all := mw 168 (by decide +kernel) (by decide +kernel)
theorem q169 : (Cond.fieldLink RX7 123 "BelowWorth$Voyages" "sailings" "I" : Cond) ∈ lw_all := mw 169 (by decide +kernel) (by decide +kernel)
theorem q170 : (Cond.fieldLink RX6 40 "BelowWorth$Voyages" "sunkAct" "I" : Cond) ∈ lw_all := mw 170 (by decide +kernel) (by decide +kernel)
theorem q171 : (Cond.fieldLink RX7 149 "BelowWorth$Voyages" "sunkAct" "I" : Cond) ∈ lw_all := mw 171 (by decide +kernel) (by decide +kernel)
theorem q172 : (Cond.fieldLink RX6 43 "BelowWorth$Voyages" "sunkShip" "I" : Cond) ∈ lw_all := mw 172 (by decide +kernel) (by decide +kernel)
theorem q173 : (Cond.fieldLink RX7 152 "BelowWorth$Voyages" "sunkShip" "I" : Cond) ∈ lw_all := mw 173 (by decide +kernel) (by decide +kernel)
theorem q174 : (Cond.fieldLink RX6 46 "BelowWorth$Voyages" "sinkings" "I" : Cond) ∈ lw_all := mw 174 (by decide +kernel) (by decide +kernel)
theorem q175 : (Cond.fieldLink RX7 155 "BelowWorth$Voyages" "sinkings" "I" : Cond) ∈ lw_all := mw 175 (by decide +kernel) (by decide +kernel)
theorem q191 : (Cond.classLink RX7 33 RX5 : Cond) ∈ lw_all := mw 191 (by decide +kernel) (by decide +kernel)
theorem q192 : (Cond.instantiable RX5 4 : Cond) ∈ lw_all := mw 192 (by decide +kernel) (by decide +kernel)
theorem q193 : (Cond.methodLink RX7 35 yX5_init : Cond) ∈ lw_all := mw 193 (by decide +kernel) (by decide +kernel)
theorem q194 : (Cond.instanceMethod yX5_init : Cond) ∈ lw_all := mw 194 (by decide +kernel) (by decide +kernel)
theorem q195 : (Cond.code yX5_init cX5_init 1 none : Cond) ∈ lw_all := mw 195 (by decide +kernel) (by decide +kernel)
theorem q196 : (Cond.methodLink RX5 3 objectInit : Cond) ∈ lw_all := mw 196 (by decide +kernel) (by decide +kernel)
theorem q197 : (Cond.fieldLink RX5 9 "BelowWorth$Tales" "ones" "[I" : Cond) ∈ lw_all := mw 197 (by decide +kernel) (by decide +kernel)
theorem q198 : (Cond.fieldLink RX1 33 "BelowWorth$Tales" "ones" "[I" : Cond) ∈ lw_all := mw 198 (by decide +kernel) (by decide +kernel)
theorem q199 : (Cond.fieldLink RX5 15 "BelowWorth$Tales" "twos" "[I" : Cond) ∈ lw_all := mw 199 (by decide +kernel) (by decide +kernel)
theorem q200 : (Cond.fieldLink RX1 36 "BelowWorth$Tales" "twos" "[I" : Cond) ∈ lw_all := mw 200 (by decide +kernel) (by decide +kernel)
theorem q201 : (Cond.fieldLink RX5 18 "BelowWorth$Tales" "sames" "[Z" : Cond) ∈ lw_all := mw 201 (by decide +kernel) (by decide +kernel)
theorem q202 : (Cond.fieldLink RX1 39 "BelowWorth$Tales" "sames" "[Z" : Cond) ∈ lw_all := mw 202 (by decide +kernel) (by decide +kernel)
theorem q203 : (Cond.fieldLink RX5 22 "BelowWorth$Tales" "count" "I" : Cond) ∈ lw_all := mw 203 (by decide +kernel) (by decide +kernel)
theorem q204 : (Cond.fieldLink RX1 28 "BelowWorth$Tales" "count" "I" : Cond) ∈ lw_all := mw 204 (by decide +kernel) (by decide +kernel)
theorem q205 : (Cond.fieldLink RX7 209 "BelowWorth$Tales" "count" "I" : Cond) ∈ lw_all := mw 205 (by decide +kernel) (by decide +kernel)
theorem q215 : (Cond.arrayClass .boolean : Cond) ∈ lw_all := mw 215 (by decide +kernel) (by decide +kernel)
theorem q216 : (Cond.classLink RX7 40 RX1 : Cond) ∈ lw_all := mw 216 (by decide +kernel) (by decide +kernel)
theorem q217 : (Cond.instantiable RX1 5 : Cond) ∈ lw_all := mw 217 (by decide +kernel) (by decide +kernel)
theorem q218 : (Cond.methodLink RX7 42 yX1_init : Cond) ∈ lw_all := mw 218 (by decide +kernel) (by decide +kernel)
theorem q219 : (Cond.instanceMethod yX1_init : Cond) ∈ lw_all := mw 219 (by decide +kernel) (by decide +kernel)
theorem q220 : (Cond.code yX1_init cX1_init 1 none : Cond) ∈ lw_all := mw 220 (by decide +kernel) (by decide +kernel)
theorem q221 : (Cond.methodLink RX1 3 objectInit : Cond) ∈ lw_all := mw 221 (by decide +kernel) (by decide +kernel)
theorem q222 : (Cond.fieldLink RX1 9 "BelowWorth$Namings" "firsts" "[I" : Cond) ∈ lw_all := mw 222 (by decide +kernel) (by decide +kernel)
theorem q223 : (Cond.fieldLink RX1 15 "BelowWorth$Namings" "others" "[I" : Cond) ∈ lw_all := mw 223 (by decide +kernel) (by decide +kernel)
theorem q224 : (Cond.fieldLink RX1 18 "BelowWorth$Namings" "shipsTried" "[I" : Cond) ∈ lw_all := mw 224 (by decide +kernel) (by decide +kernel)
theorem q225 : (Cond.fieldLink RX1 21 "BelowWorth$Namings" "firstLeftOut" "I" : Cond) ∈ lw_all := mw 225 (by decide +kernel) (by decide +kernel)
theorem q226 : (Cond.fieldLink RX7 214 "BelowWorth$Namings" "firstLeftOut" "I" : Cond) ∈ lw_all := mw 226 (by decide +kernel) (by decide +kernel)
theorem q227 : (Cond.fieldLink RX1 25 "BelowWorth$Namings" "leftOut" "I" : Cond) ∈ lw_all := mw 227 (by decide +kernel) (by decide +kernel)
theorem q228 : (Cond.fieldLink RX7 217 "BelowWorth$Namings" "leftOut" "I" : Cond) ∈ lw_all := mw 228 (by decide +kernel) (by decide +kernel)
theorem q240 : (Cond.classLink RX7 47 RX0 : Cond) ∈ lw_all := mw 240 (by decide +kernel) (by decide +kernel)
theorem q242 : (Cond.instantiable RX0 3 : Cond) ∈ lw_all := mw 242 (by decide +kernel) (by decide +kernel)
theorem q243 : (Cond.methodLink RX7 53 yX0_init : Cond) ∈ lw_all := mw 243 (by decide +kernel) (by decide +kernel)
theorem q244 : (Cond.instanceMethod yX0_init : Cond) ∈ lw_all := mw 244 (by decide +kernel) (by decide +kernel)
theorem q245 : (Cond.code yX0_init cX0_init 1 none : Cond) ∈ lw_all := mw 245 (by decide +kernel) (by decide +kernel)
theorem q246 : (Cond.methodLink RX0 1 objectInit : Cond) ∈ lw_all := mw 246 (by decide +kernel) (by decide +kernel)
theorem q247 : (Cond.classLink RX0 7 RX2 : Cond) ∈ lw_all := mw 247 (by decide +kernel) (by decide +kernel)
theorem q248 : (Cond.methodLink RX0 9 yX2_init : Cond) ∈ lw_all := mw 248 (by decide +kernel) (by decide +kernel)
theorem q249 : (Cond.classLink RX0 16 RX5 : Cond) ∈ lw_all := mw 249 (by decide +kernel) (by decide +kernel)
theorem q250 : (Cond.methodLink RX0 18 yX5_init : Cond) ∈ lw_all := mw 250 (by decide +kernel) (by decide +kernel)
theorem q251 : (Cond.fieldLink RX7 242 "BelowWorth$Image" "kept" "Z" : Cond) ∈ lw_all := mw 251 (by decide +kernel) (by decide +kernel)
theorem q252 : (Cond.fieldLink RX0 10 "BelowWorth$Image" "owner" "LBelowWorth$Owner;" : Cond) ∈ lw_all := mw 252 (by decide +kernel) (by decide +kernel)
theorem q253 : (Cond.fieldLink RX7 236 "BelowWorth$Image" "owner" "LBelowWorth$Owner;" : Cond) ∈ lw_all := mw 253 (by decide +kernel) (by decide +kernel)
theorem q254 : (Cond.fieldLink RX0 19 "BelowWorth$Image" "tales" "LBelowWorth$Tales;" : Cond) ∈ lw_all := mw 254 (by decide +kernel) (by decide +kernel)
theorem q255 : (Cond.fieldLink RX7 239 "BelowWorth$Image" "tales" "LBelowWorth$Tales;" : Cond) ∈ lw_all := mw 255 (by decide +kernel) (by decide +kernel)
theorem q263 : (Cond.fieldLink RX7 10 "BelowWorth" "now" "LBelowWorth$Owner;" : Cond) ∈ lw_all := mw 263 (by decide +kernel) (by decide +kernel)
theorem q264 : (Cond.fieldLink RX7 16 "BelowWorth" "trial" "LBelowWorth$Owner;" : Cond) ∈ lw_all := mw 264 (by decide +kernel) (by decide +kernel)
theorem q265 : (Cond.fieldLink RX7 22 "BelowWorth" "pad" "LBelowWorth$Pad;" : Cond) ∈ lw_all := mw 265 (by decide +kernel) (by decide +kernel)
theorem q266 : (Cond.fieldLink RX7 29 "BelowWorth" "voyages" "LBelowWorth$Voyages;" : Cond) ∈ lw_all := mw 266 (by decide +kernel) (by decide +kernel)
theorem q267 : (Cond.fieldLink RX7 36 "BelowWorth" "tales" "LBelowWorth$Tales;" : Cond) ∈ lw_all := mw 267 (by decide +kernel) (by decide +kernel)
theorem q268 : (Cond.fieldLink RX7 43 "BelowWorth" "namings" "LBelowWorth$Namings;" : Cond) ∈ lw_all := mw 268 (by decide +kernel) (by decide +kernel)
theorem q269 : (Cond.fieldLink RX7 49 "BelowWorth" "images" "[LBelowWorth$Image;" : Cond) ∈ lw_all := mw 269 (by decide +kernel) (by decide +kernel)
theorem q270 : (Cond.fieldLink RX7 54 "BelowWorth" "chances" "[J" : Cond) ∈ lw_all := mw 270 (by decide +kernel) (by decide +kernel)
theorem q288 : (Cond.arrayClass .long : Cond) ∈ lw_all := mw 288 (by decide +kernel) (by decide +kernel)
theorem q289 : (Cond.methodLink RL 13 yX7_ship : Cond) ∈ lw_all := mw 289 (by decide +kernel) (by decide +kernel)
theorem q290 : (Cond.instanceMethod yX7_ship : Cond) ∈ lw_all := mw 290 (by decide +kernel) (by decide +kernel)
theorem q291 : (Cond.selects RX7 yX7_ship yX7_ship : Cond) ∈ lw_all := mw 291 (by decide +kernel) (by decide +kernel)
theorem q292 : (Cond.code yX7_ship cX7_ship 6 (some .int) : Cond) ∈ lw_all := mw 292 (by decide +kernel) (by decide +kernel)
theorem q293 : (Cond.methodLink RX7 58 yX2_placeAt : Cond) ∈ lw_all := mw 293 (by decide +kernel) (by decide +kernel)
theorem q294 : (Cond.instanceMethod yX2_placeAt : Cond) ∈ lw_all := mw 294 (by decide +kernel) (by decide +kernel)
theorem q295 : (Cond.selects RX2 yX2_placeAt yX2_placeAt : Cond) ∈ lw_all := mw 295 (by decide +kernel) (by decide +kernel)
theorem q296 : (Cond.code yX2_placeAt cX2_placeAt 2 (some (.object "BelowWorth$Ship")) : Cond) ∈ lw_all := mw 296 (by decide +kernel) (by decide +kernel)
theorem q297 : (Cond.methodLink RX7 62 yX7_within : Cond) ∈ lw_all := mw 297 (by decide +kernel) (by decide +kernel)
theorem q298 : (Cond.static yX7_within : Cond) ∈ lw_all := mw 298 (by decide +kernel) (by decide +kernel)
theorem q299 : (Cond.code yX7_within cX7_within 3 (some .boolean) : Cond) ∈ lw_all := mw 299 (by decide +kernel) (by decide +kernel)
theorem q300 : (Cond.methodLink RX7 66 yX4_launch : Cond) ∈ lw_all := mw 300 (by decide +kernel) (by decide +kernel)
theorem q301 : (Cond.instanceMethod yX4_launch : Cond) ∈ lw_all := mw 301 (by decide +kernel) (by decide +kernel)
theorem q302 : (Cond.selects RX4 yX4_launch yX4_launch : Cond) ∈ lw_all := mw 302 (by decide +kernel) (by decide +kernel)
theorem q303 : (Cond.code yX4_launch cX4_launch 5 none : Cond) ∈ lw_all := mw 303 (by decide +kernel) (by decide +kernel)
theorem q304 : (Cond.methodLink RX7 72 yX2_countThere : Cond) ∈ lw_all := mw 304 (by decide +kernel) (by decide +kernel)
theorem q305 : (Cond.instanceMethod yX2_countThere : Cond) ∈ lw_all := mw 305 (by decide +kernel) (by decide +kernel)
theorem q306 : (Cond.selects RX2 yX2_countThere yX2_countThere : Cond) ∈ lw_all := mw 306 (by decide +kernel) (by decide +kernel)
theorem q307 : (Cond.code yX2_countThere cX2_countThere 1 (some .int) : Cond) ∈ lw_all := mw 307 (by decide +kernel) (by decide +kernel)
theorem q308 : (Cond.methodLink RX2 55 yX2_bitsThere : Cond) ∈ lw_all := mw 308 (by decide +kernel) (by decide +kernel)
theorem q309 : (Cond.instanceMethod yX2_bitsThere : Cond) ∈ lw_all := mw 309 (by decide +kernel) (by decide +kernel)
theorem q310 : (Cond.selects RX2 yX2_bitsThere yX2_bitsThere : Cond) ∈ lw_all := mw 310 (by decide +kernel) (by decide +kernel)
theorem q311 : (Cond.code yX2_bitsThere cX2_bitsThere 3 (some .int) : Cond) ∈ lw_all := mw 311 (by decide +kernel) (by decide +kernel)
theorem q312 : (Cond.methodLink RX2 49 yX2_shipAt : Cond) ∈ lw_all := mw 312 (by decide +kernel) (by decide +kernel)
theorem q313 : (Cond.instanceMethod yX2_shipAt : Cond) ∈ lw_all := mw 313 (by decide +kernel) (by decide +kernel)
theorem q314 : (Cond.selects RX2 yX2_shipAt yX2_shipAt : Cond) ∈ lw_all := mw 314 (by decide +kernel) (by decide +kernel)
theorem q315 : (Cond.code yX2_shipAt cX2_shipAt 3 (some (.object "BelowWorth$Ship")) : Cond) ∈ lw_all := mw 315 (by decide +kernel) (by decide +kernel)
theorem q316 : (Cond.methodLink RX2 25 yX2_placeAt : Cond) ∈ lw_all := mw 316 (by decide +kernel) (by decide +kernel)
theorem q317 : (Cond.methodLink RX2 59 yJ6_bitCount_0f7a4 : Cond) ∈ lw_all := mw 317 (by decide +kernel) (by decide +kernel)
theorem q318 : (Cond.static yJ6_bitCount_0f7a4 : Cond) ∈ lw_all := mw 318 (by decide +kernel) (by decide +kernel)
theorem q319 : (Cond.code yJ6_bitCount_0f7a4 cJ6_bitCount_0f7a4 1 (some .int) : Cond) ∈ lw_all := mw 319 (by decide +kernel) (by decide +kernel)
theorem q320 : (Cond.constant RJ6 265 (1431655765) : Cond) ∈ lw_all := mw 320 (by decide +kernel) (by decide +kernel)
theorem q321 : (Cond.constant RJ6 266 (858993459) : Cond) ∈ lw_all := mw 321 (by decide +kernel) (by decide +kernel)
theorem q322 : (Cond.constant RJ6 267 (252645135) : Cond) ∈ lw_all := mw 322 (by decide +kernel) (by decide +kernel)
theorem q323 : (Cond.methodLink RL 18 yX7_sell : Cond) ∈ lw_all := mw 323 (by decide +kernel) (by decide +kernel)
theorem q324 : (Cond.instanceMethod yX7_sell : Cond) ∈ lw_all := mw 324 (by decide +kernel) (by decide +kernel)
theorem q325 : (Cond.selects RX7 yX7_sell yX7_sell : Cond) ∈ lw_all := mw 325 (by decide +kernel) (by decide +kernel)
theorem q326 : (Cond.code yX7_sell cX7_sell 3 (some .int) : Cond) ∈ lw_all := mw 326 (by decide +kernel) (by decide +kernel)
theorem q327 : (Cond.methodLink RX7 76 yX2_shipAt : Cond) ∈ lw_all := mw 327 (by decide +kernel) (by decide +kernel)
theorem q328 : (Cond.methodLink RL 23 yX7_insure : Cond) ∈ lw_all := mw 328 (by decide +kernel) (by decide +kernel)
theorem q329 : (Cond.instanceMethod yX7_insure : Cond) ∈ lw_all := mw 329 (by decide +kernel) (by decide +kernel)
theorem q330 : (Cond.selects RX7 yX7_insure yX7_insure : Cond) ∈ lw_all := mw 330 (by decide +kernel) (by decide +kernel)
theorem q331 : (Cond.code yX7_insure cX7_insure 6 (some .int) : Cond) ∈ lw_all := mw 331 (by decide +kernel) (by decide +kernel)
theorem q332 : (Cond.methodLink RX7 83 yX4_sumAt : Cond) ∈ lw_all := mw 332 (by decide +kernel) (by decide +kernel)
theorem q333 : (Cond.instanceMethod yX4_sumAt : Cond) ∈ lw_all := mw 333 (by decide +kernel) (by decide +kernel)
theorem q334 : (Cond.selects RX4 yX4_sumAt yX4_sumAt : Cond) ∈ lw_all := mw 334 (by decide +kernel) (by decide +kernel)
theorem q335 : (Cond.code yX4_sumAt cX4_sumAt 2 (some .int) : Cond) ∈ lw_all := mw 335 (by decide +kernel) (by decide +kernel)
theorem q336 : (Cond.methodLink RX7 87 yX4_putSum : Cond) ∈ lw_all := mw 336 (by decide +kernel) (by decide +kernel)
theorem q337 : (Cond.instanceMethod yX4_putSum : Cond) ∈ lw_all := mw 337 (by decide +kernel) (by decide +kernel)
theorem q338 : (Cond.selects RX4 yX4_putSum yX4_putSum : Cond) ∈ lw_all := mw 338 (by decide +kernel) (by decide +kernel)
theorem q339 : (Cond.code yX4_putSum cX4_putSum 3 none : Cond) ∈ lw_all := mw 339 (by decide +kernel) (by decide +kernel)
theorem q340 : (Cond.methodLink RL 28 yX7_load : Cond) ∈ lw_all := mw 340 (by decide +kernel) (by decide +kernel)
theorem q341 : (Cond.instanceMethod yX7_load : Cond) ∈ lw_all := mw 341 (by decide +kernel) (by decide +kernel)
theorem q342 : (Cond.selects RX7 yX7_load yX7_load : Cond) ∈ lw_all := mw 342 (by decide +kernel) (by decide +kernel)
theorem q343 : (Cond.code yX7_load cX7_load 5 (some .int) : Cond) ∈ lw_all := mw 343 (by decide +kernel) (by decide +kernel)
theorem q344 : (Cond.methodLink RL 33 yX7_set : Cond) ∈ lw_all := mw 344 (by decide +kernel) (by decide +kernel)
theorem q345 : (Cond.instanceMethod yX7_set : Cond) ∈ lw_all := mw 345 (by decide +kernel) (by decide +kernel)
theorem q346 : (Cond.selects RX7 yX7_set yX7_set : Cond) ∈ lw_all := mw 346 (by decide +kernel) (by decide +kernel)
theorem q347 : (Cond.code yX7_set cX7_set 4 (some .int) : Cond) ∈ lw_all := mw 347 (by decide +kernel) (by decide +kernel)
theorem q348 : (Cond.methodLink RL 37 yX7_say : Cond) ∈ lw_all := mw 348 (by decide +kernel) (by decide +kernel)
theorem q349 : (Cond.instanceMethod yX7_say : Cond) ∈ lw_all := mw 349 (by decide +kernel) (by decide +kernel)
theorem q350 : (Cond.selects RX7 yX7_say yX7_say : Cond) ∈ lw_all := mw 350 (by decide +kernel) (by decide +kernel)
theorem q351 : (Cond.code yX7_say cX7_say 2 (some .int) : Cond) ∈ lw_all := mw 351 (by decide +kernel) (by decide +kernel)
theorem q352 : (Cond.methodLink RX7 104 yX3_put : Cond) ∈ lw_all := mw 352 (by decide +kernel) (by decide +kernel)
theorem q353 : (Cond.instanceMethod yX3_put : Cond) ∈ lw_all := mw 353 (by decide +kernel) (by decide +kernel)
theorem q354 : (Cond.selects RX3 yX3_put yX3_put : Cond) ∈ lw_all := mw 354 (by decide +kernel) (by decide +kernel)
theorem q355 : (Cond.code yX3_put cX3_put 2 (some .boolean) : Cond) ∈ lw_all := mw 355 (by decide +kernel) (by decide +kernel)
theorem q356 : (Cond.methodLink RL 41 yX7_wipe : Cond) ∈ lw_all := mw 356 (by decide +kernel) (by decide +kernel)
theorem q357 : (Cond.instanceMethod yX7_wipe : Cond) ∈ lw_all := mw 357 (by decide +kernel) (by decide +kernel)
theorem q358 : (Cond.selects RX7 yX7_wipe yX7_wipe : Cond) ∈ lw_all := mw 358 (by decide +kernel) (by decide +kernel)
theorem q359 : (Cond.code yX7_wipe cX7_wipe 2 (some .int) : Cond) ∈ lw_all := mw 359 (by decide +kernel) (by decide +kernel)
theorem q360 : (Cond.methodLink RL 46 yX7_fault : Cond) ∈ lw_all := mw 360 (by decide +kernel) (by decide +kernel)
theorem q361 : (Cond.instanceMethod yX7_fault : Cond) ∈ lw_all := mw 361 (by decide +kernel) (by decide +kernel)
theorem q362 : (Cond.selects RX7 yX7_fault yX7_fault : Cond) ∈ lw_all := mw 362 (by decide +kernel) (by decide +kernel)
theorem q363 : (Cond.code yX7_fault cX7_fault 1 (some .int) : Cond) ∈ lw_all := mw 363 (by decide +kernel) (by decide +kernel)
theorem q364 : (Cond.methodLink RX7 111 yX3_faultPlace : Cond) ∈ lw_all := mw 364 (by decide +kernel) (by decide +kernel)
theorem q365 : (Cond.instanceMethod yX3_faultPlace : Cond) ∈ lw_all := mw 365 (by decide +kernel) (by decide +kernel)
theorem q366 : (Cond.selects RX3 yX3_faultPlace yX3_faultPlace : Cond) ∈ lw_all := mw 366 (by decide +kernel) (by decide +kernel)
theorem q367 : (Cond.code yX3_faultPlace cX3_faultPlace 3 (some .int) : Cond) ∈ lw_all := mw 367 (by decide +kernel) (by decide +kernel)
theorem q368 : (Cond.methodLink RX3 19 yX3_signAt : Cond) ∈ lw_all := mw 368 (by decide +kernel) (by decide +kernel)
theorem q369 : (Cond.instanceMethod yX3_signAt : Cond) ∈ lw_all := mw 369 (by decide +kernel) (by decide +kernel)
theorem q370 : (Cond.selects RX3 yX3_signAt yX3_signAt : Cond) ∈ lw_all := mw 370 (by decide +kernel) (by decide +kernel)
theorem q371 : (Cond.code yX3_signAt cX3_signAt 2 (some .int) : Cond) ∈ lw_all := mw 371 (by decide +kernel) (by decide +kernel)
theorem q372 : (Cond.methodLink RX3 23 yX3_dueBehind : Cond) ∈ lw_all := mw 372 (by decide +kernel) (by decide +kernel)
theorem q373 : (Cond.static yX3_dueBehind : Cond) ∈ lw_all := mw 373 (by decide +kernel) (by decide +kernel)
theorem q374 : (Cond.code yX3_dueBehind cX3_dueBehind 2 (some .int) : Cond) ∈ lw_all := mw 374 (by decide +kernel) (by decide +kernel)
theorem q375 : (Cond.methodLink RX3 27 yX3_isLetter : Cond) ∈ lw_all := mw 375 (by decide +kernel) (by decide +kernel)
theorem q376 : (Cond.static yX3_isLetter : Cond) ∈ lw_all := mw 376 (by decide +kernel) (by decide +kernel)
theorem q377 : (Cond.code yX3_isLetter cX3_isLetter 1 (some .boolean) : Cond) ∈ lw_all := mw 377 (by decide +kernel) (by decide +kernel)
theorem q379 : (Cond.methodLink RX3 31 yX3_dueBehindDeed : Cond) ∈ lw_all := mw 379 (by decide +kernel) (by decide +kernel)
theorem q380 : (Cond.static yX3_dueBehindDeed : Cond) ∈ lw_all := mw 380 (by decide +kernel) (by decide +kernel)
theorem q381 : (Cond.code yX3_dueBehindDeed cX3_dueBehindDeed 1 (some .int) : Cond) ∈ lw_all := mw 381 (by decide +kernel) (by decide +kernel)
theorem q382 : (Cond.methodLink RL 50 yX7_judge : Cond) ∈ lw_all := mw 382 (by decide +kernel) (by decide +kernel)
theorem q383 : (Cond.instanceMethod yX7_judge : Cond) ∈ lw_all := mw 383 (by decide +kernel) (by decide +kernel)
theorem q384 : (Cond.selects RX7 yX7_judge yX7_judge : Cond) ∈ lw_all := mw 384 (by decide +kernel) (by decide +kernel)
theorem q385 : (Cond.code yX7_judge cX7_judge 3 (some .int) : Cond) ∈ lw_all := mw 385 (by decide +kernel) (by decide +kernel)
theorem q386 : (Cond.methodLink RX7 114 yX7_tryVoyages : Cond) ∈ lw_all := mw 386 (by decide +kernel) (by decide +kernel)
theorem q388 : (Cond.instanceMethod yX7_tryVoyages : Cond) ∈ lw_all := mw 388 (by decide +kernel) (by decide +kernel)
theorem q389 : (Cond.code yX7_tryVoyages cX7_tryVoyages 1 (some .int) : Cond) ∈ lw_all := mw 389 (by decide +kernel) (by decide +kernel)
theorem q390 : (Cond.methodLink RX7 158 yX2_copyFrom : Cond) ∈ lw_all := mw 390 (by decide +kernel) (by decide +kernel)
theorem q391 : (Cond.instanceMethod yX2_copyFrom : Cond) ∈ lw_all := mw 391 (by decide +kernel) (by decide +kernel)
theorem q392 : (Cond.selects RX2 yX2_copyFrom yX2_copyFrom : Cond) ∈ lw_all := mw 392 (by decide +kernel) (by decide +kernel)
theorem q393 : (Cond.code yX2_copyFrom cX2_copyFrom 5 none : Cond) ∈ lw_all := mw 393 (by decide +kernel) (by decide +kernel)
theorem q394 : (Cond.methodLink RX2 29 yX4_copyFrom : Cond) ∈ lw_all := mw 394 (by decide +kernel) (by decide +kernel)
theorem q395 : (Cond.instanceMethod yX4_copyFrom : Cond) ∈ lw_all := mw 395 (by decide +kernel) (by decide +kernel)
theorem q396 : (Cond.selects RX4 yX4_copyFrom yX4_copyFrom : Cond) ∈ lw_all := mw 396 (by decide +kernel) (by decide +kernel)
theorem q397 : (Cond.code yX4_copyFrom cX4_copyFrom 3 none : Cond) ∈ lw_all := mw 397 (by decide +kernel) (by decide +kernel)
theorem q398 : (Cond.methodLink RX4 35 yX4_sumAt : Cond) ∈ lw_all := mw 398 (by decide +kernel) (by decide +kernel)
theorem q399 : (Cond.methodLink RX7 251 yX6_run : Cond) ∈ lw_all := mw 399 (by decide +kernel) (by decide +kernel)
theorem q400 : (Cond.instanceMethod yX6_run : Cond) ∈ lw_all := mw 400 (by decide +kernel) (by decide +kernel)
theorem q401 : (Cond.selects RX6 yX6_run yX6_run : Cond) ∈ lw_all := mw 401 (by decide +kernel) (by decide +kernel)
theorem q402 : (Cond.code yX6_run cX6_run 4 none : Cond) ∈ lw_all := mw 402 (by decide +kernel) (by decide +kernel)
theorem q403 : (Cond.methodLink RX6 9 yX6_begin : Cond) ∈ lw_all := mw 403 (by decide +kernel) (by decide +kernel)
theorem q405 : (Cond.instanceMethod yX6_begin : Cond) ∈ lw_all := mw 405 (by decide +kernel) (by decide +kernel)
theorem q406 : (Cond.code yX6_begin cX6_begin 1 none : Cond) ∈ lw_all := mw 406 (by decide +kernel) (by decide +kernel)
theorem q407 : (Cond.methodLink RX6 23 yX3_actBeginsAt : Cond) ∈ lw_all := mw 407 (by decide +kernel) (by decide +kernel)
theorem q408 : (Cond.instanceMethod yX3_actBeginsAt : Cond) ∈ lw_all := mw 408 (by decide +kernel) (by decide +kernel)
theorem q409 : (Cond.selects RX3 yX3_actBeginsAt yX3_actBeginsAt : Cond) ∈ lw_all := mw 409 (by decide +kernel) (by decide +kernel)
theorem q410 : (Cond.code yX3_actBeginsAt cX3_actBeginsAt 3 (some .boolean) : Cond) ∈ lw_all := mw 410 (by decide +kernel) (by decide +kernel)
theorem q411 : (Cond.methodLink RX6 27 yX6_take : Cond) ∈ lw_all := mw 411 (by decide +kernel) (by decide +kernel)
theorem q413 : (Cond.instanceMethod yX6_take : Cond) ∈ lw_all := mw 413 (by decide +kernel) (by decide +kernel)
theorem q414 : (Cond.code yX6_take cX6_take 8 none : Cond) ∈ lw_all := mw 414 (by decide +kernel) (by decide +kernel)
theorem q415 : (Cond.methodLink RX6 49 yX3_kindAt : Cond) ∈ lw_all := mw 415 (by decide +kernel) (by decide +kernel)
theorem q416 : (Cond.instanceMethod yX3_kindAt : Cond) ∈ lw_all := mw 416 (by decide +kernel) (by decide +kernel)
theorem q417 : (Cond.selects RX3 yX3_kindAt yX3_kindAt : Cond) ∈ lw_all := mw 417 (by decide +kernel) (by decide +kernel)
theorem q418 : (Cond.code yX3_kindAt cX3_kindAt 2 (some .int) : Cond) ∈ lw_all := mw 418 (by decide +kernel) (by decide +kernel)
theorem q419 : (Cond.methodLink RX6 53 yX3_shipNumberAt : Cond) ∈ lw_all := mw 419 (by decide +kernel) (by decide +kernel)
theorem q420 : (Cond.instanceMethod yX3_shipNumberAt : Cond) ∈ lw_all := mw 420 (by decide +kernel) (by decide +kernel)
theorem q421 : (Cond.selects RX3 yX3_shipNumberAt yX3_shipNumberAt : Cond) ∈ lw_all := mw 421 (by decide +kernel) (by decide +kernel)
theorem q422 : (Cond.code yX3_shipNumberAt cX3_shipNumberAt 2 (some .int) : Cond) ∈ lw_all := mw 422 (by decide +kernel) (by decide +kernel)
theorem q423 : (Cond.methodLink RX6 56 yX3_numberAt : Cond) ∈ lw_all := mw 423 (by decide +kernel) (by decide +kernel)
theorem q424 : (Cond.instanceMethod yX3_numberAt : Cond) ∈ lw_all := mw 424 (by decide +kernel) (by decide +kernel)
theorem q425 : (Cond.selects RX3 yX3_numberAt yX3_numberAt : Cond) ∈ lw_all := mw 425 (by decide +kernel) (by decide +kernel)
theorem q426 : (Cond.code yX3_numberAt cX3_numberAt 2 (some .int) : Cond) ∈ lw_all := mw 426 (by decide +kernel) (by decide +kernel)
theorem q427 : (Cond.methodLink RX6 59 yX2_reasonAgainst : Cond) ∈ lw_all := mw 427 (by decide +kernel) (by decide +kernel)
theorem q428 : (Cond.instanceMethod yX2_reasonAgainst : Cond) ∈ lw_all := mw 428 (by decide +kernel) (by decide +kernel)
theorem q429 : (Cond.selects RX2 yX2_reasonAgainst yX2_reasonAgainst : Cond) ∈ lw_all := mw 429 (by decide +kernel) (by decide +kernel)
theorem q430 : (Cond.code yX2_reasonAgainst cX2_reasonAgainst 5 (some .int) : Cond) ∈ lw_all := mw 430 (by decide +kernel) (by decide +kernel)
theorem q431 : (Cond.methodLink RX2 94 yX4_sumAt : Cond) ∈ lw_all := mw 431 (by decide +kernel) (by decide +kernel)
theorem q432 : (Cond.methodLink RX2 97 yX2_reasonAgainstSailing : Cond) ∈ lw_all := mw 432 (by decide +kernel) (by decide +kernel)
theorem q434 : (Cond.instanceMethod yX2_reasonAgainstSailing : Cond) ∈ lw_all := mw 434 (by decide +kernel) (by decide +kernel)
theorem q435 : (Cond.code yX2_reasonAgainstSailing cX2_reasonAgainstSailing 2 (some .int) : Cond) ∈ lw_all := mw 435 (by decide +kernel) (by decide +kernel)
theorem q436 : (Cond.methodLink RX2 71 yX2_riskWith : Cond) ∈ lw_all := mw 436 (by decide +kernel) (by decide +kernel)
theorem q437 : (Cond.instanceMethod yX2_riskWith : Cond) ∈ lw_all := mw 437 (by decide +kernel) (by decide +kernel)
theorem q438 : (Cond.selects RX2 yX2_riskWith yX2_riskWith : Cond) ∈ lw_all := mw 438 (by decide +kernel) (by decide +kernel)
theorem q439 : (Cond.code yX2_riskWith cX2_riskWith 3 (some .int) : Cond) ∈ lw_all := mw 439 (by decide +kernel) (by decide +kernel)
theorem q440 : (Cond.methodLink RX6 65 yX2_act : Cond) ∈ lw_all := mw 440 (by decide +kernel) (by decide +kernel)
theorem q441 : (Cond.instanceMethod yX2_act : Cond) ∈ lw_all := mw 441 (by decide +kernel) (by decide +kernel)
theorem q442 : (Cond.selects RX2 yX2_act yX2_act : Cond) ∈ lw_all := mw 442 (by decide +kernel) (by decide +kernel)
theorem q443 : (Cond.code yX2_act cX2_act 5 none : Cond) ∈ lw_all := mw 443 (by decide +kernel) (by decide +kernel)
theorem q444 : (Cond.methodLink RX2 101 yX4_putSum : Cond) ∈ lw_all := mw 444 (by decide +kernel) (by decide +kernel)
theorem q445 : (Cond.methodLink RX2 105 yX2_comeHome : Cond) ∈ lw_all := mw 445 (by decide +kernel) (by decide +kernel)
theorem q447 : (Cond.instanceMethod yX2_comeHome : Cond) ∈ lw_all := mw 447 (by decide +kernel) (by decide +kernel)
theorem q448 : (Cond.code yX2_comeHome cX2_comeHome 2 none : Cond) ∈ lw_all := mw 448 (by decide +kernel) (by decide +kernel)
theorem q449 : (Cond.methodLink RX2 111 Lib.Math.min.name : Cond) ∈ lw_all := mw 449 (by decide +kernel) (by decide +kernel)
theorem q450 : (Cond.static Lib.Math.min.name : Cond) ∈ lw_all := mw 450 (by decide +kernel) (by decide +kernel)
theorem q451 : (Cond.code Lib.Math.min.name cJ9_min_7cf53 2 (some .int) : Cond) ∈ lw_all := mw 451 (by decide +kernel) (by decide +kernel)
theorem q452 : (Cond.methodLink RX2 108 yX2_sink : Cond) ∈ lw_all := mw 452 (by decide +kernel) (by decide +kernel)
theorem q454 : (Cond.instanceMethod yX2_sink : Cond) ∈ lw_all := mw 454 (by decide +kernel) (by decide +kernel)
theorem q455 : (Cond.code yX2_sink cX2_sink 2 none : Cond) ∈ lw_all := mw 455 (by decide +kernel) (by decide +kernel)
theorem q456 : (Cond.methodLink RX2 81 yX4_allSums : Cond) ∈ lw_all := mw 456 (by decide +kernel) (by decide +kernel)
theorem q457 : (Cond.instanceMethod yX4_allSums : Cond) ∈ lw_all := mw 457 (by decide +kernel) (by decide +kernel)
theorem q458 : (Cond.selects RX4 yX4_allSums yX4_allSums : Cond) ∈ lw_all := mw 458 (by decide +kernel) (by decide +kernel)
theorem q459 : (Cond.code yX4_allSums cX4_allSums 3 (some .int) : Cond) ∈ lw_all := mw 459 (by decide +kernel) (by decide +kernel)
theorem q460 : (Cond.methodLink RX6 69 yX6_noteSinking : Cond) ∈ lw_all := mw 460 (by decide +kernel) (by decide +kernel)
theorem q462 : (Cond.instanceMethod yX6_noteSinking : Cond) ∈ lw_all := mw 462 (by decide +kernel) (by decide +kernel)
theorem q463 : (Cond.code yX6_noteSinking cX6_noteSinking 2 none : Cond) ∈ lw_all := mw 463 (by decide +kernel) (by decide +kernel)
theorem q464 : (Cond.methodLink RL 54 yX7_behind : Cond) ∈ lw_all := mw 464 (by decide +kernel) (by decide +kernel)
theorem q465 : (Cond.instanceMethod yX7_behind : Cond) ∈ lw_all := mw 465 (by decide +kernel) (by decide +kernel)
theorem q466 : (Cond.selects RX7 yX7_behind yX7_behind : Cond) ∈ lw_all := mw 466 (by decide +kernel) (by decide +kernel)
theorem q467 : (Cond.code yX7_behind cX7_behind 5 (some .int) : Cond) ∈ lw_all := mw 467 (by decide +kernel) (by decide +kernel)
theorem q468 : (Cond.methodLink RX7 129 yX4_allSums : Cond) ∈ lw_all := mw 468 (by decide +kernel) (by decide +kernel)
theorem q469 : (Cond.methodLink RX7 132 yX2_riskWith : Cond) ∈ lw_all := mw 469 (by decide +kernel) (by decide +kernel)
theorem q470 : (Cond.methodLink RL 58 yX7_total : Cond) ∈ lw_all := mw 470 (by decide +kernel) (by decide +kernel)
theorem q471 : (Cond.instanceMethod yX7_total : Cond) ∈ lw_all := mw 471 (by decide +kernel) (by decide +kernel)
theorem q472 : (Cond.selects RX7 yX7_total yX7_total : Cond) ∈ lw_all := mw 472 (by decide +kernel) (by decide +kernel)
theorem q473 : (Cond.code yX7_total cX7_total 3 (some .int) : Cond) ∈ lw_all := mw 473 (by decide +kernel) (by decide +kernel)
theorem q474 : (Cond.constant RX7 142 (100000) : Cond) ∈ lw_all := mw 474 (by decide +kernel) (by decide +kernel)
theorem q475 : (Cond.methodLink RL 62 yX7_sunk : Cond) ∈ lw_all := mw 475 (by decide +kernel) (by decide +kernel)
theorem q476 : (Cond.instanceMethod yX7_sunk : Cond) ∈ lw_all := mw 476 (by decide +kernel) (by decide +kernel)
theorem q477 : (Cond.selects RX7 yX7_sunk yX7_sunk : Cond) ∈ lw_all := mw 477 (by decide +kernel) (by decide +kernel)
theorem q478 : (Cond.code yX7_sunk cX7_sunk 3 (some .int) : Cond) ∈ lw_all := mw 478 (by decide +kernel) (by decide +kernel)
theorem q479 : (Cond.methodLink RL 66 yX7_done : Cond) ∈ lw_all := mw 479 (by decide +kernel) (by decide +kernel)
theorem q480 : (Cond.instanceMethod yX7_done : Cond) ∈ lw_all := mw 480 (by decide +kernel) (by decide +kernel)
theorem q481 : (Cond.selects RX7 yX7_done yX7_done : Cond) ∈ lw_all := mw 481 (by decide +kernel) (by decide +kernel)
theorem q482 : (Cond.code yX7_done cX7_done 2 (some .int) : Cond) ∈ lw_all := mw 482 (by decide +kernel) (by decide +kernel)
theorem q483 : (Cond.methodLink RL 70 yX7_mean : Cond) ∈ lw_all := mw 483 (by decide +kernel) (by decide +kernel)
theorem q484 : (Cond.instanceMethod yX7_mean : Cond) ∈ lw_all := mw 484 (by decide +kernel) (by decide +kernel)
theorem q485 : (Cond.selects RX7 yX7_mean yX7_mean : Cond) ∈ lw_all := mw 485 (by decide +kernel) (by decide +kernel)
theorem q486 : (Cond.code yX7_mean cX7_mean 5 (some .long) : Cond) ∈ lw_all := mw 486 (by decide +kernel) (by decide +kernel)
theorem q487 : (Cond.constantLong RX7 165 (-1000000000000000001) : Cond) ∈ lw_all := mw 487 (by decide +kernel) (by decide +kernel)
theorem q488 : (Cond.constantLong RX7 167 (-1000000000000000002) : Cond) ∈ lw_all := mw 488 (by decide +kernel) (by decide +kernel)
theorem q489 : (Cond.methodLink RX7 169 yX2_hundredfoldMean : Cond) ∈ lw_all := mw 489 (by decide +kernel) (by decide +kernel)
theorem q490 : (Cond.instanceMethod yX2_hundredfoldMean : Cond) ∈ lw_all := mw 490 (by decide +kernel) (by decide +kernel)
theorem q491 : (Cond.selects RX2 yX2_hundredfoldMean yX2_hundredfoldMean : Cond) ∈ lw_all := mw 491 (by decide +kernel) (by decide +kernel)
theorem q492 : (Cond.code yX2_hundredfoldMean cX2_hundredfoldMean 5 (some .int) : Cond) ∈ lw_all := mw 492 (by decide +kernel) (by decide +kernel)
theorem q493 : (Cond.constantLong RX7 173 (100) : Cond) ∈ lw_all := mw 493 (by decide +kernel) (by decide +kernel)
theorem q494 : (Cond.methodLink RX7 175 yX7_partOf : Cond) ∈ lw_all := mw 494 (by decide +kernel) (by decide +kernel)
theorem q495 : (Cond.static yX7_partOf : Cond) ∈ lw_all := mw 495 (by decide +kernel) (by decide +kernel)
theorem q496 : (Cond.code yX7_partOf cX7_partOf 9 (some .long) : Cond) ∈ lw_all := mw 496 (by decide +kernel) (by decide +kernel)
theorem q497 : (Cond.methodLink RX7 261 Lib.MathLoose.abs_long.x : Cond) ∈ lw_all := mw 497 (by decide +kernel) (by decide +kernel)
theorem q498 : (Cond.static Lib.MathLoose.abs_long.x : Cond) ∈ lw_all := mw 498 (by decide +kernel) (by decide +kernel)
theorem q499 : (Cond.code Lib.MathLoose.abs_long.x cJ9_abs_067f4 2 (some .long) : Cond) ∈ lw_all := mw 499 (by decide +kernel) (by decide +kernel)
theorem q500 : (Cond.methodLink RX7 264 yX7_commonDivisor : Cond) ∈ lw_all := mw 500 (by decide +kernel) (by decide +kernel)
theorem q501 : (Cond.static yX7_commonDivisor : Cond) ∈ lw_all := mw 501 (by decide +kernel) (by decide +kernel)
theorem q502 : (Cond.code yX7_commonDivisor cX7_commonDivisor 7 (some .long) : Cond) ∈ lw_all := mw 502 (by decide +kernel) (by decide +kernel)
theorem q503 : (Cond.methodLink RL 75 yX7_deep : Cond) ∈ lw_all := mw 503 (by decide +kernel) (by decide +kernel)
theorem q504 : (Cond.instanceMethod yX7_deep : Cond) ∈ lw_all := mw 504 (by decide +kernel) (by decide +kernel)
theorem q505 : (Cond.selects RX7 yX7_deep yX7_deep : Cond) ∈ lw_all := mw 505 (by decide +kernel) (by decide +kernel)
theorem q506 : (Cond.code yX7_deep cX7_deep 3 (some .int) : Cond) ∈ lw_all := mw 506 (by decide +kernel) (by decide +kernel)
theorem q507 : (Cond.methodLink RX7 179 yX2_deepestFor : Cond) ∈ lw_all := mw 507 (by decide +kernel) (by decide +kernel)
theorem q508 : (Cond.instanceMethod yX2_deepestFor : Cond) ∈ lw_all := mw 508 (by decide +kernel) (by decide +kernel)
theorem q509 : (Cond.selects RX2 yX2_deepestFor yX2_deepestFor : Cond) ∈ lw_all := mw 509 (by decide +kernel) (by decide +kernel)
theorem q510 : (Cond.code yX2_deepestFor cX2_deepestFor 5 (some .int) : Cond) ∈ lw_all := mw 510 (by decide +kernel) (by decide +kernel)
theorem q511 : (Cond.methodLink RX2 84 yX2_hundredfoldMean : Cond) ∈ lw_all := mw 511 (by decide +kernel) (by decide +kernel)
theorem q512 : (Cond.methodLink RL 79 yX7_share : Cond) ∈ lw_all := mw 512 (by decide +kernel) (by decide +kernel)
theorem q513 : (Cond.instanceMethod yX7_share : Cond) ∈ lw_all := mw 513 (by decide +kernel) (by decide +kernel)
theorem q514 : (Cond.selects RX7 yX7_share yX7_share : Cond) ∈ lw_all := mw 514 (by decide +kernel) (by decide +kernel)
theorem q515 : (Cond.code yX7_share cX7_share 6 (some .int) : Cond) ∈ lw_all := mw 515 (by decide +kernel) (by decide +kernel)
theorem q516 : (Cond.methodLink RL 83 yX7_losses : Cond) ∈ lw_all := mw 516 (by decide +kernel) (by decide +kernel)
theorem q517 : (Cond.instanceMethod yX7_losses : Cond) ∈ lw_all := mw 517 (by decide +kernel) (by decide +kernel)
theorem q518 : (Cond.selects RX7 yX7_losses yX7_losses : Cond) ∈ lw_all := mw 518 (by decide +kernel) (by decide +kernel)
theorem q519 : (Cond.code yX7_losses cX7_losses 8 (some .long) : Cond) ∈ lw_all := mw 519 (by decide +kernel) (by decide +kernel)
theorem q520 : (Cond.methodLink RX7 182 yX2_hundredfoldMeanOfAll : Cond) ∈ lw_all := mw 520 (by decide +kernel) (by decide +kernel)
theorem q521 : (Cond.instanceMethod yX2_hundredfoldMeanOfAll : Cond) ∈ lw_all := mw 521 (by decide +kernel) (by decide +kernel)
theorem q522 : (Cond.selects RX2 yX2_hundredfoldMeanOfAll yX2_hundredfoldMeanOfAll : Cond) ∈ lw_all := mw 522 (by decide +kernel) (by decide +kernel)
theorem q523 : (Cond.code yX2_hundredfoldMeanOfAll cX2_hundredfoldMeanOfAll 4 (some .int) : Cond) ∈ lw_all := mw 523 (by decide +kernel) (by decide +kernel)
theorem q524 : (Cond.methodLink RX2 65 yX2_shipAfloatAt : Cond) ∈ lw_all := mw 524 (by decide +kernel) (by decide +kernel)
theorem q525 : (Cond.instanceMethod yX2_shipAfloatAt : Cond) ∈ lw_all := mw 525 (by decide +kernel) (by decide +kernel)
theorem q526 : (Cond.selects RX2 yX2_shipAfloatAt yX2_shipAfloatAt : Cond) ∈ lw_all := mw 526 (by decide +kernel) (by decide +kernel)
theorem q527 : (Cond.code yX2_shipAfloatAt cX2_shipAfloatAt 3 (some (.object "BelowWorth$Ship")) : Cond) ∈ lw_all := mw 527 (by decide +kernel) (by decide +kernel)
theorem q528 : (Cond.methodLink RX7 185 yX2_fillChances : Cond) ∈ lw_all := mw 528 (by decide +kernel) (by decide +kernel)
theorem q529 : (Cond.instanceMethod yX2_fillChances : Cond) ∈ lw_all := mw 529 (by decide +kernel) (by decide +kernel)
theorem q530 : (Cond.selects RX2 yX2_fillChances yX2_fillChances : Cond) ∈ lw_all := mw 530 (by decide +kernel) (by decide +kernel)
theorem q531 : (Cond.code yX2_fillChances cX2_fillChances 6 (some .long) : Cond) ∈ lw_all := mw 531 (by decide +kernel) (by decide +kernel)
theorem q532 : (Cond.methodLink RX2 88 yX2_addChance : Cond) ∈ lw_all := mw 532 (by decide +kernel) (by decide +kernel)
theorem q533 : (Cond.static yX2_addChance : Cond) ∈ lw_all := mw 533 (by decide +kernel) (by decide +kernel)
theorem q534 : (Cond.code yX2_addChance cX2_addChance 5 none : Cond) ∈ lw_all := mw 534 (by decide +kernel) (by decide +kernel)
theorem q535 : (Cond.constantLong RX2 92 (100) : Cond) ∈ lw_all := mw 535 (by decide +kernel) (by decide +kernel)
theorem q536 : (Cond.methodLink RL 88 yX7_fleet : Cond) ∈ lw_all := mw 536 (by decide +kernel) (by decide +kernel)
theorem q537 : (Cond.instanceMethod yX7_fleet : Cond) ∈ lw_all := mw 537 (by decide +kernel) (by decide +kernel)
theorem q538 : (Cond.selects RX7 yX7_fleet yX7_fleet : Cond) ∈ lw_all := mw 538 (by decide +kernel) (by decide +kernel)
theorem q539 : (Cond.code yX7_fleet cX7_fleet 11 (some .int) : Cond) ∈ lw_all := mw 539 (by decide +kernel) (by decide +kernel)
theorem q540 : (Cond.constant RX7 189 (999999) : Cond) ∈ lw_all := mw 540 (by decide +kernel) (by decide +kernel)
theorem q541 : (Cond.methodLink RX7 190 yX7_turned : Cond) ∈ lw_all := mw 541 (by decide +kernel) (by decide +kernel)
theorem q542 : (Cond.static yX7_turned : Cond) ∈ lw_all := mw 542 (by decide +kernel) (by decide +kernel)
theorem q543 : (Cond.code yX7_turned cX7_turned 4 (some .int) : Cond) ∈ lw_all := mw 543 (by decide +kernel) (by decide +kernel)
theorem q544 : (Cond.methodLink RX7 193 yX7_digitsAdded : Cond) ∈ lw_all := mw 544 (by decide +kernel) (by decide +kernel)
theorem q545 : (Cond.static yX7_digitsAdded : Cond) ∈ lw_all := mw 545 (by decide +kernel) (by decide +kernel)
theorem q546 : (Cond.code yX7_digitsAdded cX7_digitsAdded 5 (some .int) : Cond) ∈ lw_all := mw 546 (by decide +kernel) (by decide +kernel)
theorem q547 : (Cond.methodLink RL 92 yX7_holds : Cond) ∈ lw_all := mw 547 (by decide +kernel) (by decide +kernel)
theorem q548 : (Cond.instanceMethod yX7_holds : Cond) ∈ lw_all := mw 548 (by decide +kernel) (by decide +kernel)
theorem q549 : (Cond.selects RX7 yX7_holds yX7_holds : Cond) ∈ lw_all := mw 549 (by decide +kernel) (by decide +kernel)
theorem q550 : (Cond.code yX7_holds cX7_holds 8 (some .int) : Cond) ∈ lw_all := mw 550 (by decide +kernel) (by decide +kernel)
theorem q551 : (Cond.methodLink RX7 197 Lib.Math.abs.name : Cond) ∈ lw_all := mw 551 (by decide +kernel) (by decide +kernel)
theorem q552 : (Cond.static Lib.Math.abs.name : Cond) ∈ lw_all := mw 552 (by decide +kernel) (by decide +kernel)
theorem q553 : (Cond.code Lib.Math.abs.name cJ9_abs_0f7a4 1 (some .int) : Cond) ∈ lw_all := mw 553 (by decide +kernel) (by decide +kernel)
theorem q554 : (Cond.methodLink RL 96 yX7_meant : Cond) ∈ lw_all := mw 554 (by decide +kernel) (by decide +kernel)
theorem q555 : (Cond.instanceMethod yX7_meant : Cond) ∈ lw_all := mw 555 (by decide +kernel) (by decide +kernel)
theorem q556 : (Cond.selects RX7 yX7_meant yX7_meant : Cond) ∈ lw_all := mw 556 (by decide +kernel) (by decide +kernel)
theorem q557 : (Cond.code yX7_meant cX7_meant 12 (some .long) : Cond) ∈ lw_all := mw 557 (by decide +kernel) (by decide +kernel)
theorem q558 : (Cond.methodLink RX7 202 yX7_likelihood : Cond) ∈ lw_all := mw 558 (by decide +kernel) (by decide +kernel)
theorem q559 : (Cond.static yX7_likelihood : Cond) ∈ lw_all := mw 559 (by decide +kernel) (by decide +kernel)
theorem q560 : (Cond.code yX7_likelihood cX7_likelihood 6 (some .long) : Cond) ∈ lw_all := mw 560 (by decide +kernel) (by decide +kernel)
theorem q561 : (Cond.methodLink RL 101 yX7_tale : Cond) ∈ lw_all := mw 561 (by decide +kernel) (by decide +kernel)
theorem q562 : (Cond.instanceMethod yX7_tale : Cond) ∈ lw_all := mw 562 (by decide +kernel) (by decide +kernel)
theorem q563 : (Cond.selects RX7 yX7_tale yX7_tale : Cond) ∈ lw_all := mw 563 (by decide +kernel) (by decide +kernel)
theorem q564 : (Cond.code yX7_tale cX7_tale 4 (some .int) : Cond) ∈ lw_all := mw 564 (by decide +kernel) (by decide +kernel)
theorem q565 : (Cond.methodLink RX7 206 yX5_put : Cond) ∈ lw_all := mw 565 (by decide +kernel) (by decide +kernel)
theorem q566 : (Cond.instanceMethod yX5_put : Cond) ∈ lw_all := mw 566 (by decide +kernel) (by decide +kernel)
theorem q567 : (Cond.selects RX5 yX5_put yX5_put : Cond) ∈ lw_all := mw 567 (by decide +kernel) (by decide +kernel)
theorem q568 : (Cond.code yX5_put cX5_put 4 (some .boolean) : Cond) ∈ lw_all := mw 568 (by decide +kernel) (by decide +kernel)
theorem q569 : (Cond.methodLink RL 106 yX7_forget : Cond) ∈ lw_all := mw 569 (by decide +kernel) (by decide +kernel)
theorem q570 : (Cond.instanceMethod yX7_forget : Cond) ∈ lw_all := mw 570 (by decide +kernel) (by decide +kernel)
theorem q571 : (Cond.selects RX7 yX7_forget yX7_forget : Cond) ∈ lw_all := mw 571 (by decide +kernel) (by decide +kernel)
theorem q572 : (Cond.code yX7_forget cX7_forget 2 (some .int) : Cond) ∈ lw_all := mw 572 (by decide +kernel) (by decide +kernel)
theorem q573 : (Cond.methodLink RL 110 yX7_broken : Cond) ∈ lw_all := mw 573 (by decide +kernel) (by decide +kernel)
theorem q574 : (Cond.instanceMethod yX7_broken : Cond) ∈ lw_all := mw 574 (by decide +kernel) (by decide +kernel)
theorem q575 : (Cond.selects RX7 yX7_broken yX7_broken : Cond) ∈ lw_all := mw 575 (by decide +kernel) (by decide +kernel)
theorem q576 : (Cond.code yX7_broken cX7_broken 2 (some .int) : Cond) ∈ lw_all := mw 576 (by decide +kernel) (by decide +kernel)
theorem q577 : (Cond.methodLink RX7 210 yX1_hear : Cond) ∈ lw_all := mw 577 (by decide +kernel) (by decide +kernel)
theorem q578 : (Cond.instanceMethod yX1_hear : Cond) ∈ lw_all := mw 578 (by decide +kernel) (by decide +kernel)
theorem q579 : (Cond.selects RX1 yX1_hear yX1_hear : Cond) ∈ lw_all := mw 579 (by decide +kernel) (by decide +kernel)
theorem q580 : (Cond.code yX1_hear cX1_hear 3 none : Cond) ∈ lw_all := mw 580 (by decide +kernel) (by decide +kernel)
theorem q581 : (Cond.methodLink RX1 43 yX1_takes : Cond) ∈ lw_all := mw 581 (by decide +kernel) (by decide +kernel)
theorem q583 : (Cond.instanceMethod yX1_takes : Cond) ∈ lw_all := mw 583 (by decide +kernel) (by decide +kernel)
theorem q584 : (Cond.code yX1_takes cX1_takes 8 (some .boolean) : Cond) ∈ lw_all := mw 584 (by decide +kernel) (by decide +kernel)
theorem q585 : (Cond.methodLink RX1 47 yX1_firstNameOf : Cond) ∈ lw_all := mw 585 (by decide +kernel) (by decide +kernel)
theorem q586 : (Cond.instanceMethod yX1_firstNameOf : Cond) ∈ lw_all := mw 586 (by decide +kernel) (by decide +kernel)
theorem q587 : (Cond.selects RX1 yX1_firstNameOf yX1_firstNameOf : Cond) ∈ lw_all := mw 587 (by decide +kernel) (by decide +kernel)
theorem q588 : (Cond.code yX1_firstNameOf cX1_firstNameOf 2 (some .int) : Cond) ∈ lw_all := mw 588 (by decide +kernel) (by decide +kernel)
theorem q589 : (Cond.methodLink RX1 51 yX1_areTwo : Cond) ∈ lw_all := mw 589 (by decide +kernel) (by decide +kernel)
theorem q591 : (Cond.instanceMethod yX1_areTwo : Cond) ∈ lw_all := mw 591 (by decide +kernel) (by decide +kernel)
theorem q592 : (Cond.code yX1_areTwo cX1_areTwo 3 (some .boolean) : Cond) ∈ lw_all := mw 592 (by decide +kernel) (by decide +kernel)
theorem q593 : (Cond.methodLink RX1 55 yX1_partNames : Cond) ∈ lw_all := mw 593 (by decide +kernel) (by decide +kernel)
theorem q595 : (Cond.instanceMethod yX1_partNames : Cond) ∈ lw_all := mw 595 (by decide +kernel) (by decide +kernel)
theorem q596 : (Cond.code yX1_partNames cX1_partNames 3 none : Cond) ∈ lw_all := mw 596 (by decide +kernel) (by decide +kernel)
theorem q598 : (Cond.methodLink RX1 59 Lib.Math.min.name : Cond) ∈ lw_all := mw 598 (by decide +kernel) (by decide +kernel)
theorem q599 : (Cond.methodLink RX1 65 Lib.Math.max.name : Cond) ∈ lw_all := mw 599 (by decide +kernel) (by decide +kernel)
theorem q600 : (Cond.static Lib.Math.max.name : Cond) ∈ lw_all := mw 600 (by decide +kernel) (by decide +kernel)
theorem q601 : (Cond.code Lib.Math.max.name cJ9_max_7cf53 2 (some .int) : Cond) ∈ lw_all := mw 601 (by decide +kernel) (by decide +kernel)
theorem q602 : (Cond.methodLink RX1 68 yX1_joinNames : Cond) ∈ lw_all := mw 602 (by decide +kernel) (by decide +kernel)
theorem q604 : (Cond.instanceMethod yX1_joinNames : Cond) ∈ lw_all := mw 604 (by decide +kernel) (by decide +kernel)
theorem q605 : (Cond.code yX1_joinNames cX1_joinNames 4 none : Cond) ∈ lw_all := mw 605 (by decide +kernel) (by decide +kernel)
theorem q606 : (Cond.methodLink RL 114 yX7_ones : Cond) ∈ lw_all := mw 606 (by decide +kernel) (by decide +kernel)
theorem q607 : (Cond.instanceMethod yX7_ones : Cond) ∈ lw_all := mw 607 (by decide +kernel) (by decide +kernel)
theorem q608 : (Cond.selects RX7 yX7_ones yX7_ones : Cond) ∈ lw_all := mw 608 (by decide +kernel) (by decide +kernel)
theorem q609 : (Cond.code yX7_ones cX7_ones 1 (some .int) : Cond) ∈ lw_all := mw 609 (by decide +kernel) (by decide +kernel)
theorem q610 : (Cond.methodLink RX7 220 yX7_fewestShips : Cond) ∈ lw_all := mw 610 (by decide +kernel) (by decide +kernel)
theorem q611 : (Cond.static yX7_fewestShips : Cond) ∈ lw_all := mw 611 (by decide +kernel) (by decide +kernel)
theorem q612 : (Cond.code yX7_fewestShips cX7_fewestShips 6 (some .int) : Cond) ∈ lw_all := mw 612 (by decide +kernel) (by decide +kernel)
theorem q613 : (Cond.methodLink RX7 268 yX1_firstNameOf : Cond) ∈ lw_all := mw 613 (by decide +kernel) (by decide +kernel)
theorem q614 : (Cond.methodLink RX7 271 yX1_mayBeOn : Cond) ∈ lw_all := mw 614 (by decide +kernel) (by decide +kernel)
theorem q615 : (Cond.instanceMethod yX1_mayBeOn : Cond) ∈ lw_all := mw 615 (by decide +kernel) (by decide +kernel)
theorem q616 : (Cond.selects RX1 yX1_mayBeOn yX1_mayBeOn : Cond) ∈ lw_all := mw 616 (by decide +kernel) (by decide +kernel)
theorem q617 : (Cond.code yX1_mayBeOn cX1_mayBeOn 4 (some .boolean) : Cond) ∈ lw_all := mw 617 (by decide +kernel) (by decide +kernel)
theorem q618 : (Cond.methodLink RX7 275 yX1_putOn : Cond) ∈ lw_all := mw 618 (by decide +kernel) (by decide +kernel)
theorem q619 : (Cond.instanceMethod yX1_putOn : Cond) ∈ lw_all := mw 619 (by decide +kernel) (by decide +kernel)
theorem q620 : (Cond.selects RX1 yX1_putOn yX1_putOn : Cond) ∈ lw_all := mw 620 (by decide +kernel) (by decide +kernel)
theorem q621 : (Cond.code yX1_putOn cX1_putOn 3 none : Cond) ∈ lw_all := mw 621 (by decide +kernel) (by decide +kernel)
theorem q622 : (Cond.methodLink RX7 278 Lib.Math.max.name : Cond) ∈ lw_all := mw 622 (by decide +kernel) (by decide +kernel)
theorem q623 : (Cond.methodLink RL 118 yX7_berth : Cond) ∈ lw_all := mw 623 (by decide +kernel) (by decide +kernel)
theorem q624 : (Cond.instanceMethod yX7_berth : Cond) ∈ lw_all := mw 624 (by decide +kernel) (by decide +kernel)
theorem q625 : (Cond.selects RX7 yX7_berth yX7_berth : Cond) ∈ lw_all := mw 625 (by decide +kernel) (by decide +kernel)
theorem q626 : (Cond.code yX7_berth cX7_berth 5 (some .int) : Cond) ∈ lw_all := mw 626 (by decide +kernel) (by decide +kernel)
theorem q627 : (Cond.methodLink RL 122 yX7_year : Cond) ∈ lw_all := mw 627 (by decide +kernel) (by decide +kernel)
theorem q628 : (Cond.instanceMethod yX7_year : Cond) ∈ lw_all := mw 628 (by decide +kernel) (by decide +kernel)
theorem q629 : (Cond.selects RX7 yX7_year yX7_year : Cond) ∈ lw_all := mw 629 (by decide +kernel) (by decide +kernel)
theorem q630 : (Cond.code yX7_year cX7_year 6 (some .int) : Cond) ∈ lw_all := mw 630 (by decide +kernel) (by decide +kernel)
theorem q631 : (Cond.constant RX7 224 (65537) : Cond) ∈ lw_all := mw 631 (by decide +kernel) (by decide +kernel)
theorem q632 : (Cond.methodLink RX7 225 yX2_actAsDrawn : Cond) ∈ lw_all := mw 632 (by decide +kernel) (by decide +kernel)
theorem q633 : (Cond.instanceMethod yX2_actAsDrawn : Cond) ∈ lw_all := mw 633 (by decide +kernel) (by decide +kernel)
theorem q634 : (Cond.selects RX2 yX2_actAsDrawn yX2_actAsDrawn : Cond) ∈ lw_all := mw 634 (by decide +kernel) (by decide +kernel)
theorem q635 : (Cond.code yX2_actAsDrawn cX2_actAsDrawn 7 none : Cond) ∈ lw_all := mw 635 (by decide +kernel) (by decide +kernel)
theorem q636 : (Cond.methodLink RX2 120 yX2_kindDrawn : Cond) ∈ lw_all := mw 636 (by decide +kernel) (by decide +kernel)
theorem q638 : (Cond.instanceMethod yX2_kindDrawn : Cond) ∈ lw_all := mw 638 (by decide +kernel) (by decide +kernel)
theorem q639 : (Cond.code yX2_kindDrawn cX2_kindDrawn 5 (some .int) : Cond) ∈ lw_all := mw 639 (by decide +kernel) (by decide +kernel)
theorem q640 : (Cond.methodLink RX2 124 yX2_reasonAgainst : Cond) ∈ lw_all := mw 640 (by decide +kernel) (by decide +kernel)
theorem q641 : (Cond.methodLink RX2 127 yX2_act : Cond) ∈ lw_all := mw 641 (by decide +kernel) (by decide +kernel)
theorem q642 : (Cond.methodLink RX7 229 yX2_countAfloat : Cond) ∈ lw_all := mw 642 (by decide +kernel) (by decide +kernel)
theorem q643 : (Cond.instanceMethod yX2_countAfloat : Cond) ∈ lw_all := mw 643 (by decide +kernel) (by decide +kernel)
theorem q644 : (Cond.selects RX2 yX2_countAfloat yX2_countAfloat : Cond) ∈ lw_all := mw 644 (by decide +kernel) (by decide +kernel)
theorem q645 : (Cond.code yX2_countAfloat cX2_countAfloat 3 (some .int) : Cond) ∈ lw_all := mw 645 (by decide +kernel) (by decide +kernel)
theorem q646 : (Cond.methodLink RL 126 yX7_image : Cond) ∈ lw_all := mw 646 (by decide +kernel) (by decide +kernel)
theorem q647 : (Cond.instanceMethod yX7_image : Cond) ∈ lw_all := mw 647 (by decide +kernel) (by decide +kernel)
theorem q648 : (Cond.selects RX7 yX7_image yX7_image : Cond) ∈ lw_all := mw 648 (by decide +kernel) (by decide +kernel)
theorem q649 : (Cond.code yX7_image cX7_image 3 (some .int) : Cond) ∈ lw_all := mw 649 (by decide +kernel) (by decide +kernel)
theorem q650 : (Cond.methodLink RX7 232 yX7_imageAt : Cond) ∈ lw_all := mw 650 (by decide +kernel) (by decide +kernel)
theorem q652 : (Cond.instanceMethod yX7_imageAt : Cond) ∈ lw_all := mw 652 (by decide +kernel) (by decide +kernel)
theorem q653 : (Cond.code yX7_imageAt cX7_imageAt 2 (some (.object "BelowWorth$Image")) : Cond) ∈ lw_all := mw 653 (by decide +kernel) (by decide +kernel)
theorem q654 : (Cond.methodLink RX7 240 yX5_copyFrom : Cond) ∈ lw_all := mw 654 (by decide +kernel) (by decide +kernel)
theorem q655 : (Cond.instanceMethod yX5_copyFrom : Cond) ∈ lw_all := mw 655 (by decide +kernel) (by decide +kernel)
theorem q656 : (Cond.selects RX5 yX5_copyFrom yX5_copyFrom : Cond) ∈ lw_all := mw 656 (by decide +kernel) (by decide +kernel)
theorem q657 : (Cond.code yX5_copyFrom cX5_copyFrom 3 none : Cond) ∈ lw_all := mw 657 (by decide +kernel) (by decide +kernel)
theorem q658 : (Cond.methodLink RL 130 yX7_restore : Cond) ∈ lw_all := mw 658 (by decide +kernel) (by decide +kernel)
theorem q659 : (Cond.instanceMethod yX7_restore : Cond) ∈ lw_all := mw 659 (by decide +kernel) (by decide +kernel)
theorem q660 : (Cond.selects RX7 yX7_restore yX7_restore : Cond) ∈ lw_all := mw 660 (by decide +kernel) (by decide +kernel)
theorem q661 : (Cond.code yX7_restore cX7_restore 3 (some .int) : Cond) ∈ lw_all := mw 661 (by decide +kernel) (by decide +kernel)
theorem q662 : (Cond.methodLink RL 134 yX7_told : Cond) ∈ lw_all := mw 662 (by decide +kernel) (by decide +kernel)
theorem q663 : (Cond.instanceMethod yX7_told : Cond) ∈ lw_all := mw 663 (by decide +kernel) (by decide +kernel)
theorem q664 : (Cond.selects RX7 yX7_told yX7_told : Cond) ∈ lw_all := mw 664 (by decide +kernel) (by decide +kernel)
theorem q665 : (Cond.code yX7_told cX7_told 3 (some .int) : Cond) ∈ lw_all := mw 665 (by decide +kernel) (by decide +kernel)
theorem q666 : (Cond.methodLink RX7 245 yX7_toldOf : Cond) ∈ lw_all := mw 666 (by decide +kernel) (by decide +kernel)
theorem q667 : (Cond.static yX7_toldOf : Cond) ∈ lw_all := mw 667 (by decide +kernel) (by decide +kernel)
theorem q668 : (Cond.code yX7_toldOf cX7_toldOf 2 (some .int) : Cond) ∈ lw_all := mw 668 (by decide +kernel) (by decide +kernel)
theorem q669 : (Cond.methodLink RX7 248 yX2_bitsThere : Cond) ∈ lw_all := mw 669 (by decide +kernel) (by decide +kernel)
theorem q670 : (Cond.classLink RL 10 RX8 : Cond) ∈ lw_all := mw 670 (by decide +kernel) (by decide +kernel)
theorem q671 : (Cond.instantiable RX8 39 : Cond) ∈ lw_all := mw 671 (by decide +kernel) (by decide +kernel)
theorem q672 : (Cond.methodLink RL 12 yX8_init : Cond) ∈ lw_all := mw 672 (by decide +kernel) (by decide +kernel)
theorem q673 : (Cond.instanceMethod yX8_init : Cond) ∈ lw_all := mw 673 (by decide +kernel) (by decide +kernel)
theorem q674 : (Cond.code yX8_init cX8_init 1 none : Cond) ∈ lw_all := mw 674 (by decide +kernel) (by decide +kernel)
theorem q675 : (Cond.methodLink RX8 1 objectInit : Cond) ∈ lw_all := mw 675 (by decide +kernel) (by decide +kernel)
theorem q676 : (Cond.fieldLink RX8 79 "BelowWorthModel" "ships" "I" : Cond) ∈ lw_all := mw 676 (by decide +kernel) (by decide +kernel)
theorem q677 : (Cond.fieldLink RX8 88 "BelowWorthModel" "afloat" "I" : Cond) ∈ lw_all := mw 677 (by decide +kernel) (by decide +kernel)
theorem q678 : (Cond.fieldLink RX8 7 "BelowWorthModel" "age" "[I" : Cond) ∈ lw_all := mw 678 (by decide +kernel) (by decide +kernel)
theorem q679 : (Cond.fieldLink RX8 13 "BelowWorthModel" "worth" "[I" : Cond) ∈ lw_all := mw 679 (by decide +kernel) (by decide +kernel)
theorem q680 : (Cond.fieldLink RX8 16 "BelowWorthModel" "crew" "[I" : Cond) ∈ lw_all := mw 680 (by decide +kernel) (by decide +kernel)
theorem q681 : (Cond.fieldLink RX8 19 "BelowWorthModel" "loads" "[I" : Cond) ∈ lw_all := mw 681 (by decide +kernel) (by decide +kernel)
theorem q682 : (Cond.fieldLink RX8 22 "BelowWorthModel" "sums" "[I" : Cond) ∈ lw_all := mw 682 (by decide +kernel) (by decide +kernel)
theorem q683 : (Cond.fieldLink RX8 66 "BelowWorthModel" "nerve" "I" : Cond) ∈ lw_all := mw 683 (by decide +kernel) (by decide +kernel)
theorem q684 : (Cond.fieldLink RX8 70 "BelowWorthModel" "freight" "I" : Cond) ∈ lw_all := mw 684 (by decide +kernel) (by decide +kernel)
theorem q685 : (Cond.fieldLink RX8 103 "BelowWorthModel" "season" "I" : Cond) ∈ lw_all := mw 685 (by decide +kernel) (by decide +kernel)
theorem q686 : (Cond.fieldLink RX8 136 "BelowWorthModel" "seasons" "I" : Cond) ∈ lw_all := mw 686 (by decide +kernel) (by decide +kernel)
theorem q687 : (Cond.fieldLink RX8 145 "BelowWorthModel" "gain" "I" : Cond) ∈ lw_all := mw 687 (by decide +kernel) (by decide +kernel)
theorem q688 : (Cond.fieldLink RX8 151 "BelowWorthModel" "drowned" "I" : Cond) ∈ lw_all := mw 688 (by decide +kernel) (by decide +kernel)
theorem q689 : (Cond.fieldLink RX8 25 "BelowWorthModel" "taleOne" "[I" : Cond) ∈ lw_all := mw 689 (by decide +kernel) (by decide +kernel)
theorem q690 : (Cond.fieldLink RX8 28 "BelowWorthModel" "taleTwo" "[I" : Cond) ∈ lw_all := mw 690 (by decide +kernel) (by decide +kernel)
theorem q691 : (Cond.fieldLink RX8 31 "BelowWorthModel" "taleSame" "[I" : Cond) ∈ lw_all := mw 691 (by decide +kernel) (by decide +kernel)
theorem q692 : (Cond.fieldLink RX8 265 "BelowWorthModel" "tales" "I" : Cond) ∈ lw_all := mw 692 (by decide +kernel) (by decide +kernel)
theorem q693 : (Cond.fieldLink RX8 34 "BelowWorthModel" "pad" "[I" : Cond) ∈ lw_all := mw 693 (by decide +kernel) (by decide +kernel)
theorem q694 : (Cond.fieldLink RX8 110 "BelowWorthModel" "padMany" "I" : Cond) ∈ lw_all := mw 694 (by decide +kernel) (by decide +kernel)
theorem q695 : (Cond.fieldLink RX8 37 "BelowWorthModel" "act" "[I" : Cond) ∈ lw_all := mw 695 (by decide +kernel) (by decide +kernel)
theorem q696 : (Cond.fieldLink RX8 40 "BelowWorthModel" "who" "[I" : Cond) ∈ lw_all := mw 696 (by decide +kernel) (by decide +kernel)
theorem q697 : (Cond.fieldLink RX8 43 "BelowWorthModel" "much" "[I" : Cond) ∈ lw_all := mw 697 (by decide +kernel) (by decide +kernel)
theorem q698 : (Cond.fieldLink RX8 113 "BelowWorthModel" "acts" "I" : Cond) ∈ lw_all := mw 698 (by decide +kernel) (by decide +kernel)
theorem q699 : (Cond.fieldLink RX8 142 "BelowWorthModel" "sailings" "I" : Cond) ∈ lw_all := mw 699 (by decide +kernel) (by decide +kernel)
theorem q700 : (Cond.fieldLink RX8 160 "BelowWorthModel" "firstSunk" "I" : Cond) ∈ lw_all := mw 700 (by decide +kernel) (by decide +kernel)
theorem q701 : (Cond.fieldLink RX8 163 "BelowWorthModel" "firstShip" "I" : Cond) ∈ lw_all := mw 701 (by decide +kernel) (by decide +kernel)
theorem q702 : (Cond.fieldLink RX8 154 "BelowWorthModel" "sunkMany" "I" : Cond) ∈ lw_all := mw 702 (by decide +kernel) (by decide +kernel)
theorem q703 : (Cond.fieldLink RX8 157 "BelowWorthModel" "actNow" "I" : Cond) ∈ lw_all := mw 703 (by decide +kernel) (by decide +kernel)
theorem q704 : (Cond.fieldLink RX8 46 "BelowWorthModel" "had" "[I" : Cond) ∈ lw_all := mw 704 (by decide +kernel) (by decide +kernel)
theorem q705 : (Cond.fieldLink RX8 176 "BelowWorthModel" "badAct" "I" : Cond) ∈ lw_all := mw 705 (by decide +kernel) (by decide +kernel)
theorem q706 : (Cond.fieldLink RX8 179 "BelowWorthModel" "badWhy" "I" : Cond) ∈ lw_all := mw 706 (by decide +kernel) (by decide +kernel)
theorem q707 : (Cond.fieldLink RX8 49 "BelowWorthModel" "parts" "[J" : Cond) ∈ lw_all := mw 707 (by decide +kernel) (by decide +kernel)
theorem q708 : (Cond.fieldLink RX8 53 "BelowWorthModel" "group" "[I" : Cond) ∈ lw_all := mw 708 (by decide +kernel) (by decide +kernel)
theorem q709 : (Cond.fieldLink RX8 268 "BelowWorthModel" "leftOut" "I" : Cond) ∈ lw_all := mw 709 (by decide +kernel) (by decide +kernel)
theorem q710 : (Cond.fieldLink RX8 56 "BelowWorthModel" "fewest" "[I" : Cond) ∈ lw_all := mw 710 (by decide +kernel) (by decide +kernel)
theorem q711 : (Cond.fieldLink RX8 59 "BelowWorthModel" "kept" "[I" : Cond) ∈ lw_all := mw 711 (by decide +kernel) (by decide +kernel)
theorem q712 : (Cond.fieldLink RX8 62 "BelowWorthModel" "isKept" "[Z" : Cond) ∈ lw_all := mw 712 (by decide +kernel) (by decide +kernel)
theorem q713 : (Cond.fieldLink RX8 303 "BelowWorthModel" "keptAt" "I" : Cond) ∈ lw_all := mw 713 (by decide +kernel) (by decide +kernel)
theorem q714 : (Cond.fieldLink RX8 299 "BelowWorthModel" "isWriting" "Z" : Cond) ∈ lw_all := mw 714 (by decide +kernel) (by decide +kernel)
theorem q794 : (Cond.methodLink RL 17 yX8_ship : Cond) ∈ lw_all := mw 794 (by decide +kernel) (by decide +kernel)
theorem q795 : (Cond.instanceMethod yX8_ship : Cond) ∈ lw_all := mw 795 (by decide +kernel) (by decide +kernel)
theorem q796 : (Cond.selects RX8 yX8_ship yX8_ship : Cond) ∈ lw_all := mw 796 (by decide +kernel) (by decide +kernel)
theorem q797 : (Cond.code yX8_ship cX8_ship 6 (some .int) : Cond) ∈ lw_all := mw 797 (by decide +kernel) (by decide +kernel)
theorem q798 : (Cond.constantLong RX8 73 (5) : Cond) ∈ lw_all := mw 798 (by decide +kernel) (by decide +kernel)
theorem q799 : (Cond.methodLink RX8 75 yX8_in : Cond) ∈ lw_all := mw 799 (by decide +kernel) (by decide +kernel)
theorem q800 : (Cond.static yX8_in : Cond) ∈ lw_all := mw 800 (by decide +kernel) (by decide +kernel)
theorem q801 : (Cond.code yX8_in cX8_in 6 (some .boolean) : Cond) ∈ lw_all := mw 801 (by decide +kernel) (by decide +kernel)
theorem q802 : (Cond.constantLong RX8 82 (40) : Cond) ∈ lw_all := mw 802 (by decide +kernel) (by decide +kernel)
theorem q803 : (Cond.constantLong RX8 84 (99) : Cond) ∈ lw_all := mw 803 (by decide +kernel) (by decide +kernel)
theorem q804 : (Cond.constantLong RX8 86 (20) : Cond) ∈ lw_all := mw 804 (by decide +kernel) (by decide +kernel)
theorem q805 : (Cond.methodLink RX8 91 yX8_bitsOf : Cond) ∈ lw_all := mw 805 (by decide +kernel) (by decide +kernel)
theorem q806 : (Cond.static yX8_bitsOf : Cond) ∈ lw_all := mw 806 (by decide +kernel) (by decide +kernel)
theorem q807 : (Cond.code yX8_bitsOf cX8_bitsOf 3 (some .int) : Cond) ∈ lw_all := mw 807 (by decide +kernel) (by decide +kernel)
theorem q808 : (Cond.methodLink RL 22 yX8_sell : Cond) ∈ lw_all := mw 808 (by decide +kernel) (by decide +kernel)
theorem q809 : (Cond.instanceMethod yX8_sell : Cond) ∈ lw_all := mw 809 (by decide +kernel) (by decide +kernel)
theorem q810 : (Cond.selects RX8 yX8_sell yX8_sell : Cond) ∈ lw_all := mw 810 (by decide +kernel) (by decide +kernel)
theorem q811 : (Cond.code yX8_sell cX8_sell 2 (some .int) : Cond) ∈ lw_all := mw 811 (by decide +kernel) (by decide +kernel)
theorem q812 : (Cond.methodLink RX8 95 yX8_isShip : Cond) ∈ lw_all := mw 812 (by decide +kernel) (by decide +kernel)
theorem q814 : (Cond.instanceMethod yX8_isShip : Cond) ∈ lw_all := mw 814 (by decide +kernel) (by decide +kernel)
theorem q815 : (Cond.code yX8_isShip cX8_isShip 2 (some .boolean) : Cond) ∈ lw_all := mw 815 (by decide +kernel) (by decide +kernel)
theorem q816 : (Cond.methodLink RL 27 yX8_insure : Cond) ∈ lw_all := mw 816 (by decide +kernel) (by decide +kernel)
theorem q817 : (Cond.instanceMethod yX8_insure : Cond) ∈ lw_all := mw 817 (by decide +kernel) (by decide +kernel)
theorem q818 : (Cond.selects RX8 yX8_insure yX8_insure : Cond) ∈ lw_all := mw 818 (by decide +kernel) (by decide +kernel)
theorem q819 : (Cond.code yX8_insure cX8_insure 5 (some .int) : Cond) ∈ lw_all := mw 819 (by decide +kernel) (by decide +kernel)
theorem q820 : (Cond.constantLong RX8 99 (2) : Cond) ∈ lw_all := mw 820 (by decide +kernel) (by decide +kernel)
theorem q821 : (Cond.methodLink RL 32 yX8_load : Cond) ∈ lw_all := mw 821 (by decide +kernel) (by decide +kernel)
theorem q822 : (Cond.instanceMethod yX8_load : Cond) ∈ lw_all := mw 822 (by decide +kernel) (by decide +kernel)
theorem q823 : (Cond.selects RX8 yX8_load yX8_load : Cond) ∈ lw_all := mw 823 (by decide +kernel) (by decide +kernel)
theorem q824 : (Cond.code yX8_load cX8_load 4 (some .int) : Cond) ∈ lw_all := mw 824 (by decide +kernel) (by decide +kernel)
theorem q825 : (Cond.constantLong RX8 101 (9) : Cond) ∈ lw_all := mw 825 (by decide +kernel) (by decide +kernel)
theorem q826 : (Cond.methodLink RL 36 yX8_set : Cond) ∈ lw_all := mw 826 (by decide +kernel) (by decide +kernel)
theorem q827 : (Cond.instanceMethod yX8_set : Cond) ∈ lw_all := mw 827 (by decide +kernel) (by decide +kernel)
theorem q828 : (Cond.selects RX8 yX8_set yX8_set : Cond) ∈ lw_all := mw 828 (by decide +kernel) (by decide +kernel)
theorem q829 : (Cond.code yX8_set cX8_set 4 (some .int) : Cond) ∈ lw_all := mw 829 (by decide +kernel) (by decide +kernel)
theorem q830 : (Cond.methodLink RL 40 yX8_say : Cond) ∈ lw_all := mw 830 (by decide +kernel) (by decide +kernel)
theorem q831 : (Cond.instanceMethod yX8_say : Cond) ∈ lw_all := mw 831 (by decide +kernel) (by decide +kernel)
theorem q832 : (Cond.selects RX8 yX8_say yX8_say : Cond) ∈ lw_all := mw 832 (by decide +kernel) (by decide +kernel)
theorem q833 : (Cond.code yX8_say cX8_say 2 (some .int) : Cond) ∈ lw_all := mw 833 (by decide +kernel) (by decide +kernel)
theorem q834 : (Cond.constantLong RX8 106 (33) : Cond) ∈ lw_all := mw 834 (by decide +kernel) (by decide +kernel)
theorem q835 : (Cond.constantLong RX8 108 (126) : Cond) ∈ lw_all := mw 835 (by decide +kernel) (by decide +kernel)
theorem q836 : (Cond.methodLink RL 45 yX8_wipe : Cond) ∈ lw_all := mw 836 (by decide +kernel) (by decide +kernel)
theorem q837 : (Cond.instanceMethod yX8_wipe : Cond) ∈ lw_all := mw 837 (by decide +kernel) (by decide +kernel)
theorem q838 : (Cond.selects RX8 yX8_wipe yX8_wipe : Cond) ∈ lw_all := mw 838 (by decide +kernel) (by decide +kernel)
theorem q839 : (Cond.code yX8_wipe cX8_wipe 2 (some .int) : Cond) ∈ lw_all := mw 839 (by decide +kernel) (by decide +kernel)
theorem q840 : (Cond.methodLink RL 49 yX8_fault : Cond) ∈ lw_all := mw 840 (by decide +kernel) (by decide +kernel)
theorem q841 : (Cond.instanceMethod yX8_fault : Cond) ∈ lw_all := mw 841 (by decide +kernel) (by decide +kernel)
theorem q842 : (Cond.selects RX8 yX8_fault yX8_fault : Cond) ∈ lw_all := mw 842 (by decide +kernel) (by decide +kernel)
theorem q843 : (Cond.code yX8_fault cX8_fault 3 (some .int) : Cond) ∈ lw_all := mw 843 (by decide +kernel) (by decide +kernel)
theorem q844 : (Cond.methodLink RX8 130 yX8_readOn : Cond) ∈ lw_all := mw 844 (by decide +kernel) (by decide +kernel)
theorem q846 : (Cond.instanceMethod yX8_readOn : Cond) ∈ lw_all := mw 846 (by decide +kernel) (by decide +kernel)
theorem q847 : (Cond.code yX8_readOn cX8_readOn 4 (some .int) : Cond) ∈ lw_all := mw 847 (by decide +kernel) (by decide +kernel)
theorem q848 : (Cond.constantLong RX8 116 (65) : Cond) ∈ lw_all := mw 848 (by decide +kernel) (by decide +kernel)
theorem q849 : (Cond.constantLong RX8 118 (70) : Cond) ∈ lw_all := mw 849 (by decide +kernel) (by decide +kernel)
theorem q850 : (Cond.methodLink RX8 120 yX8_close : Cond) ∈ lw_all := mw 850 (by decide +kernel) (by decide +kernel)
theorem q852 : (Cond.instanceMethod yX8_close : Cond) ∈ lw_all := mw 852 (by decide +kernel) (by decide +kernel)
theorem q853 : (Cond.code yX8_close cX8_close 3 (some .int) : Cond) ∈ lw_all := mw 853 (by decide +kernel) (by decide +kernel)
theorem q854 : (Cond.constantLong RX8 124 (48) : Cond) ∈ lw_all := mw 854 (by decide +kernel) (by decide +kernel)
theorem q855 : (Cond.constantLong RX8 126 (50) : Cond) ∈ lw_all := mw 855 (by decide +kernel) (by decide +kernel)
theorem q856 : (Cond.constantLong RX8 128 (57) : Cond) ∈ lw_all := mw 856 (by decide +kernel) (by decide +kernel)
theorem q857 : (Cond.methodLink RL 53 yX8_judge : Cond) ∈ lw_all := mw 857 (by decide +kernel) (by decide +kernel)
theorem q858 : (Cond.instanceMethod yX8_judge : Cond) ∈ lw_all := mw 858 (by decide +kernel) (by decide +kernel)
theorem q859 : (Cond.selects RX8 yX8_judge yX8_judge : Cond) ∈ lw_all := mw 859 (by decide +kernel) (by decide +kernel)
theorem q860 : (Cond.code yX8_judge cX8_judge 3 (some .int) : Cond) ∈ lw_all := mw 860 (by decide +kernel) (by decide +kernel)
theorem q861 : (Cond.methodLink RX8 200 yX8_refusal : Cond) ∈ lw_all := mw 861 (by decide +kernel) (by decide +kernel)
theorem q863 : (Cond.instanceMethod yX8_refusal : Cond) ∈ lw_all := mw 863 (by decide +kernel) (by decide +kernel)
theorem q864 : (Cond.code yX8_refusal cX8_refusal 1 (some .int) : Cond) ∈ lw_all := mw 864 (by decide +kernel) (by decide +kernel)
theorem q865 : (Cond.methodLink RX8 190 yX8_keepNow : Cond) ∈ lw_all := mw 865 (by decide +kernel) (by decide +kernel)
theorem q867 : (Cond.instanceMethod yX8_keepNow : Cond) ∈ lw_all := mw 867 (by decide +kernel) (by decide +kernel)
theorem q868 : (Cond.code yX8_keepNow cX8_keepNow 2 none : Cond) ∈ lw_all := mw 868 (by decide +kernel) (by decide +kernel)
theorem q869 : (Cond.methodLink RX8 193 yX8_fault : Cond) ∈ lw_all := mw 869 (by decide +kernel) (by decide +kernel)
theorem q870 : (Cond.methodLink RX8 197 yX8_goVoyages : Cond) ∈ lw_all := mw 870 (by decide +kernel) (by decide +kernel)
theorem q872 : (Cond.instanceMethod yX8_goVoyages : Cond) ∈ lw_all := mw 872 (by decide +kernel) (by decide +kernel)
theorem q873 : (Cond.code yX8_goVoyages cX8_goVoyages 3 none : Cond) ∈ lw_all := mw 873 (by decide +kernel) (by decide +kernel)
theorem q874 : (Cond.methodLink RX8 173 yX8_beginCount : Cond) ∈ lw_all := mw 874 (by decide +kernel) (by decide +kernel)
theorem q876 : (Cond.instanceMethod yX8_beginCount : Cond) ∈ lw_all := mw 876 (by decide +kernel) (by decide +kernel)
theorem q877 : (Cond.code yX8_beginCount cX8_beginCount 1 none : Cond) ∈ lw_all := mw 877 (by decide +kernel) (by decide +kernel)
theorem q878 : (Cond.methodLink RX8 182 yX8_whyNot : Cond) ∈ lw_all := mw 878 (by decide +kernel) (by decide +kernel)
theorem q880 : (Cond.instanceMethod yX8_whyNot : Cond) ∈ lw_all := mw 880 (by decide +kernel) (by decide +kernel)
theorem q881 : (Cond.code yX8_whyNot cX8_whyNot 4 (some .int) : Cond) ∈ lw_all := mw 881 (by decide +kernel) (by decide +kernel)
theorem q882 : (Cond.methodLink RX8 139 yX8_risk : Cond) ∈ lw_all := mw 882 (by decide +kernel) (by decide +kernel)
theorem q884 : (Cond.instanceMethod yX8_risk : Cond) ∈ lw_all := mw 884 (by decide +kernel) (by decide +kernel)
theorem q885 : (Cond.code yX8_risk cX8_risk 2 (some .int) : Cond) ∈ lw_all := mw 885 (by decide +kernel) (by decide +kernel)
theorem q886 : (Cond.methodLink RX8 133 yX8_riskWith : Cond) ∈ lw_all := mw 886 (by decide +kernel) (by decide +kernel)
theorem q888 : (Cond.instanceMethod yX8_riskWith : Cond) ∈ lw_all := mw 888 (by decide +kernel) (by decide +kernel)
theorem q889 : (Cond.code yX8_riskWith cX8_riskWith 3 (some .int) : Cond) ∈ lw_all := mw 889 (by decide +kernel) (by decide +kernel)
theorem q890 : (Cond.methodLink RX8 186 yX8_happen : Cond) ∈ lw_all := mw 890 (by decide +kernel) (by decide +kernel)
theorem q892 : (Cond.instanceMethod yX8_happen : Cond) ∈ lw_all := mw 892 (by decide +kernel) (by decide +kernel)
theorem q893 : (Cond.code yX8_happen cX8_happen 4 none : Cond) ∈ lw_all := mw 893 (by decide +kernel) (by decide +kernel)
theorem q894 : (Cond.methodLink RX8 166 yX8_sail : Cond) ∈ lw_all := mw 894 (by decide +kernel) (by decide +kernel)
theorem q896 : (Cond.instanceMethod yX8_sail : Cond) ∈ lw_all := mw 896 (by decide +kernel) (by decide +kernel)
theorem q897 : (Cond.code yX8_sail cX8_sail 2 none : Cond) ∈ lw_all := mw 897 (by decide +kernel) (by decide +kernel)
theorem q898 : (Cond.methodLink RX8 170 yX8_sink : Cond) ∈ lw_all := mw 898 (by decide +kernel) (by decide +kernel)
theorem q900 : (Cond.instanceMethod yX8_sink : Cond) ∈ lw_all := mw 900 (by decide +kernel) (by decide +kernel)
theorem q901 : (Cond.code yX8_sink cX8_sink 2 none : Cond) ∈ lw_all := mw 901 (by decide +kernel) (by decide +kernel)
theorem q902 : (Cond.methodLink RX8 148 yX8_insured : Cond) ∈ lw_all := mw 902 (by decide +kernel) (by decide +kernel)
theorem q904 : (Cond.instanceMethod yX8_insured : Cond) ∈ lw_all := mw 904 (by decide +kernel) (by decide +kernel)
theorem q905 : (Cond.code yX8_insured cX8_insured 2 (some .int) : Cond) ∈ lw_all := mw 905 (by decide +kernel) (by decide +kernel)
theorem q906 : (Cond.methodLink RX8 203 yX8_back : Cond) ∈ lw_all := mw 906 (by decide +kernel) (by decide +kernel)
theorem q908 : (Cond.instanceMethod yX8_back : Cond) ∈ lw_all := mw 908 (by decide +kernel) (by decide +kernel)
theorem q909 : (Cond.code yX8_back cX8_back 3 (some .int) : Cond) ∈ lw_all := mw 909 (by decide +kernel) (by decide +kernel)
theorem q910 : (Cond.methodLink RL 57 yX8_behind : Cond) ∈ lw_all := mw 910 (by decide +kernel) (by decide +kernel)
theorem q911 : (Cond.instanceMethod yX8_behind : Cond) ∈ lw_all := mw 911 (by decide +kernel) (by decide +kernel)
theorem q912 : (Cond.selects RX8 yX8_behind yX8_behind : Cond) ∈ lw_all := mw 912 (by decide +kernel) (by decide +kernel)
theorem q913 : (Cond.code yX8_behind cX8_behind 4 (some .int) : Cond) ∈ lw_all := mw 913 (by decide +kernel) (by decide +kernel)
theorem q914 : (Cond.constantLong RX8 206 (4) : Cond) ∈ lw_all := mw 914 (by decide +kernel) (by decide +kernel)
theorem q915 : (Cond.methodLink RX8 208 yX8_ofShip : Cond) ∈ lw_all := mw 915 (by decide +kernel) (by decide +kernel)
theorem q917 : (Cond.instanceMethod yX8_ofShip : Cond) ∈ lw_all := mw 917 (by decide +kernel) (by decide +kernel)
theorem q918 : (Cond.code yX8_ofShip cX8_ofShip 3 (some .int) : Cond) ∈ lw_all := mw 918 (by decide +kernel) (by decide +kernel)
theorem q919 : (Cond.methodLink RL 61 yX8_total : Cond) ∈ lw_all := mw 919 (by decide +kernel) (by decide +kernel)
theorem q920 : (Cond.instanceMethod yX8_total : Cond) ∈ lw_all := mw 920 (by decide +kernel) (by decide +kernel)
theorem q921 : (Cond.selects RX8 yX8_total yX8_total : Cond) ∈ lw_all := mw 921 (by decide +kernel) (by decide +kernel)
theorem q922 : (Cond.code yX8_total cX8_total 3 (some .int) : Cond) ∈ lw_all := mw 922 (by decide +kernel) (by decide +kernel)
theorem q923 : (Cond.constantLong RX8 212 (3) : Cond) ∈ lw_all := mw 923 (by decide +kernel) (by decide +kernel)
theorem q924 : (Cond.methodLink RX8 214 yX8_ofAll : Cond) ∈ lw_all := mw 924 (by decide +kernel) (by decide +kernel)
theorem q926 : (Cond.instanceMethod yX8_ofAll : Cond) ∈ lw_all := mw 926 (by decide +kernel) (by decide +kernel)
theorem q927 : (Cond.code yX8_ofAll cX8_ofAll 2 (some .int) : Cond) ∈ lw_all := mw 927 (by decide +kernel) (by decide +kernel)
theorem q928 : (Cond.constant RX8 211 (100000) : Cond) ∈ lw_all := mw 928 (by decide +kernel) (by decide +kernel)
theorem q929 : (Cond.methodLink RL 65 yX8_sunk : Cond) ∈ lw_all := mw 929 (by decide +kernel) (by decide +kernel)
theorem q930 : (Cond.instanceMethod yX8_sunk : Cond) ∈ lw_all := mw 930 (by decide +kernel) (by decide +kernel)
theorem q931 : (Cond.selects RX8 yX8_sunk yX8_sunk : Cond) ∈ lw_all := mw 931 (by decide +kernel) (by decide +kernel)
theorem q932 : (Cond.code yX8_sunk cX8_sunk 3 (some .int) : Cond) ∈ lw_all := mw 932 (by decide +kernel) (by decide +kernel)
theorem q933 : (Cond.methodLink RL 69 yX8_done : Cond) ∈ lw_all := mw 933 (by decide +kernel) (by decide +kernel)
theorem q934 : (Cond.instanceMethod yX8_done : Cond) ∈ lw_all := mw 934 (by decide +kernel) (by decide +kernel)
theorem q935 : (Cond.selects RX8 yX8_done yX8_done : Cond) ∈ lw_all := mw 935 (by decide +kernel) (by decide +kernel)
theorem q936 : (Cond.code yX8_done cX8_done 2 (some .int) : Cond) ∈ lw_all := mw 936 (by decide +kernel) (by decide +kernel)
theorem q937 : (Cond.methodLink RL 74 yX8_mean : Cond) ∈ lw_all := mw 937 (by decide +kernel) (by decide +kernel)
theorem q938 : (Cond.instanceMethod yX8_mean : Cond) ∈ lw_all := mw 938 (by decide +kernel) (by decide +kernel)
theorem q939 : (Cond.selects RX8 yX8_mean yX8_mean : Cond) ∈ lw_all := mw 939 (by decide +kernel) (by decide +kernel)
theorem q940 : (Cond.code yX8_mean cX8_mean 4 (some .long) : Cond) ∈ lw_all := mw 940 (by decide +kernel) (by decide +kernel)
theorem q941 : (Cond.constantLong RX8 221 (-1000000000000000001) : Cond) ∈ lw_all := mw 941 (by decide +kernel) (by decide +kernel)
theorem q942 : (Cond.constantLong RX8 223 (-1000000000000000002) : Cond) ∈ lw_all := mw 942 (by decide +kernel) (by decide +kernel)
theorem q943 : (Cond.methodLink RX8 225 yX8_meanWith : Cond) ∈ lw_all := mw 943 (by decide +kernel) (by decide +kernel)
theorem q945 : (Cond.instanceMethod yX8_meanWith : Cond) ∈ lw_all := mw 945 (by decide +kernel) (by decide +kernel)
theorem q946 : (Cond.code yX8_meanWith cX8_meanWith 5 (some .int) : Cond) ∈ lw_all := mw 946 (by decide +kernel) (by decide +kernel)
theorem q947 : (Cond.constantLong RX8 228 (100) : Cond) ∈ lw_all := mw 947 (by decide +kernel) (by decide +kernel)
theorem q948 : (Cond.methodLink RX8 230 yX8_lowest : Cond) ∈ lw_all := mw 948 (by decide +kernel) (by decide +kernel)
theorem q949 : (Cond.static yX8_lowest : Cond) ∈ lw_all := mw 949 (by decide +kernel) (by decide +kernel)
theorem q950 : (Cond.code yX8_lowest cX8_lowest 11 (some .long) : Cond) ∈ lw_all := mw 950 (by decide +kernel) (by decide +kernel)
theorem q951 : (Cond.methodLink RX8 217 yX8_size : Cond) ∈ lw_all := mw 951 (by decide +kernel) (by decide +kernel)
theorem q952 : (Cond.static yX8_size : Cond) ∈ lw_all := mw 952 (by decide +kernel) (by decide +kernel)
theorem q953 : (Cond.code yX8_size cX8_size 2 (some .long) : Cond) ∈ lw_all := mw 953 (by decide +kernel) (by decide +kernel)
theorem q954 : (Cond.methodLink RL 78 yX8_deep : Cond) ∈ lw_all := mw 954 (by decide +kernel) (by decide +kernel)
theorem q955 : (Cond.instanceMethod yX8_deep : Cond) ∈ lw_all := mw 955 (by decide +kernel) (by decide +kernel)
theorem q956 : (Cond.selects RX8 yX8_deep yX8_deep : Cond) ∈ lw_all := mw 956 (by decide +kernel) (by decide +kernel)
theorem q957 : (Cond.code yX8_deep cX8_deep 2 (some .int) : Cond) ∈ lw_all := mw 957 (by decide +kernel) (by decide +kernel)
theorem q958 : (Cond.methodLink RX8 234 yX8_deepWith : Cond) ∈ lw_all := mw 958 (by decide +kernel) (by decide +kernel)
theorem q960 : (Cond.instanceMethod yX8_deepWith : Cond) ∈ lw_all := mw 960 (by decide +kernel) (by decide +kernel)
theorem q961 : (Cond.code yX8_deepWith cX8_deepWith 5 (some .int) : Cond) ∈ lw_all := mw 961 (by decide +kernel) (by decide +kernel)
theorem q962 : (Cond.methodLink RL 82 yX8_share : Cond) ∈ lw_all := mw 962 (by decide +kernel) (by decide +kernel)
theorem q963 : (Cond.instanceMethod yX8_share : Cond) ∈ lw_all := mw 963 (by decide +kernel) (by decide +kernel)
theorem q964 : (Cond.selects RX8 yX8_share yX8_share : Cond) ∈ lw_all := mw 964 (by decide +kernel) (by decide +kernel)
theorem q965 : (Cond.code yX8_share cX8_share 5 (some .int) : Cond) ∈ lw_all := mw 965 (by decide +kernel) (by decide +kernel)
theorem q966 : (Cond.methodLink RL 87 yX8_losses : Cond) ∈ lw_all := mw 966 (by decide +kernel) (by decide +kernel)
theorem q967 : (Cond.instanceMethod yX8_losses : Cond) ∈ lw_all := mw 967 (by decide +kernel) (by decide +kernel)
theorem q968 : (Cond.selects RX8 yX8_losses yX8_losses : Cond) ∈ lw_all := mw 968 (by decide +kernel) (by decide +kernel)
theorem q969 : (Cond.code yX8_losses cX8_losses 8 (some .long) : Cond) ∈ lw_all := mw 969 (by decide +kernel) (by decide +kernel)
theorem q970 : (Cond.constantLong RX8 240 (-1) : Cond) ∈ lw_all := mw 970 (by decide +kernel) (by decide +kernel)
theorem q971 : (Cond.constantLong RX8 242 (6) : Cond) ∈ lw_all := mw 971 (by decide +kernel) (by decide +kernel)
theorem q972 : (Cond.methodLink RX8 244 yX8_meanOfAll : Cond) ∈ lw_all := mw 972 (by decide +kernel) (by decide +kernel)
theorem q974 : (Cond.instanceMethod yX8_meanOfAll : Cond) ∈ lw_all := mw 974 (by decide +kernel) (by decide +kernel)
theorem q975 : (Cond.code yX8_meanOfAll cX8_meanOfAll 4 (some .long) : Cond) ∈ lw_all := mw 975 (by decide +kernel) (by decide +kernel)
theorem q976 : (Cond.methodLink RX8 237 yX8_isAfloat : Cond) ∈ lw_all := mw 976 (by decide +kernel) (by decide +kernel)
theorem q978 : (Cond.instanceMethod yX8_isAfloat : Cond) ∈ lw_all := mw 978 (by decide +kernel) (by decide +kernel)
theorem q979 : (Cond.code yX8_isAfloat cX8_isAfloat 2 (some .boolean) : Cond) ∈ lw_all := mw 979 (by decide +kernel) (by decide +kernel)
theorem q980 : (Cond.methodLink RX8 248 yX8_oneMore : Cond) ∈ lw_all := mw 980 (by decide +kernel) (by decide +kernel)
theorem q982 : (Cond.instanceMethod yX8_oneMore : Cond) ∈ lw_all := mw 982 (by decide +kernel) (by decide +kernel)
theorem q983 : (Cond.code yX8_oneMore cX8_oneMore 5 none : Cond) ∈ lw_all := mw 983 (by decide +kernel) (by decide +kernel)
theorem q984 : (Cond.methodLink RL 91 yX8_fleet : Cond) ∈ lw_all := mw 984 (by decide +kernel) (by decide +kernel)
theorem q985 : (Cond.instanceMethod yX8_fleet : Cond) ∈ lw_all := mw 985 (by decide +kernel) (by decide +kernel)
theorem q986 : (Cond.selects RX8 yX8_fleet yX8_fleet : Cond) ∈ lw_all := mw 986 (by decide +kernel) (by decide +kernel)
theorem q987 : (Cond.code yX8_fleet cX8_fleet 8 (some .int) : Cond) ∈ lw_all := mw 987 (by decide +kernel) (by decide +kernel)
theorem q988 : (Cond.constantLong RX8 251 (999999) : Cond) ∈ lw_all := mw 988 (by decide +kernel) (by decide +kernel)
theorem q989 : (Cond.constantLong RX8 253 (54) : Cond) ∈ lw_all := mw 989 (by decide +kernel) (by decide +kernel)
theorem q990 : (Cond.methodLink RX8 255 yX8_digitsOf : Cond) ∈ lw_all := mw 990 (by decide +kernel) (by decide +kernel)
theorem q991 : (Cond.static yX8_digitsOf : Cond) ∈ lw_all := mw 991 (by decide +kernel) (by decide +kernel)
theorem q992 : (Cond.code yX8_digitsOf cX8_digitsOf 7 (some .int) : Cond) ∈ lw_all := mw 992 (by decide +kernel) (by decide +kernel)
theorem q993 : (Cond.methodLink RL 95 yX8_holds : Cond) ∈ lw_all := mw 993 (by decide +kernel) (by decide +kernel)
theorem q994 : (Cond.instanceMethod yX8_holds : Cond) ∈ lw_all := mw 994 (by decide +kernel) (by decide +kernel)
theorem q995 : (Cond.selects RX8 yX8_holds yX8_holds : Cond) ∈ lw_all := mw 995 (by decide +kernel) (by decide +kernel)
theorem q996 : (Cond.code yX8_holds cX8_holds 8 (some .int) : Cond) ∈ lw_all := mw 996 (by decide +kernel) (by decide +kernel)
theorem q997 : (Cond.methodLink RL 100 yX8_meant : Cond) ∈ lw_all := mw 997 (by decide +kernel) (by decide +kernel)
theorem q998 : (Cond.instanceMethod yX8_meant : Cond) ∈ lw_all := mw 998 (by decide +kernel) (by decide +kernel)
theorem q999 : (Cond.selects RX8 yX8_meant yX8_meant : Cond) ∈ lw_all := mw 999 (by decide +kernel) (by decide +kernel)
theorem q1000 : (Cond.code yX8_meant cX8_meant 10 (some .long) : Cond) ∈ lw_all := mw 1000 (by decide +kernel) (by decide +kernel)
theorem q1001 : (Cond.methodLink RX8 259 yX8_times : Cond) ∈ lw_all := mw 1001 (by decide +kernel) (by decide +kernel)
theorem q1002 : (Cond.static yX8_times : Cond) ∈ lw_all := mw 1002 (by decide +kernel) (by decide +kernel)
theorem q1003 : (Cond.code yX8_times cX8_times 6 (some .long) : Cond) ∈ lw_all := mw 1003 (by decide +kernel) (by decide +kernel)
theorem q1004 : (Cond.methodLink RL 105 yX8_tale : Cond) ∈ lw_all := mw 1004 (by decide +kernel) (by decide +kernel)
theorem q1005 : (Cond.instanceMethod yX8_tale : Cond) ∈ lw_all := mw 1005 (by decide +kernel) (by decide +kernel)
theorem q1006 : (Cond.selects RX8 yX8_tale yX8_tale : Cond) ∈ lw_all := mw 1006 (by decide +kernel) (by decide +kernel)
theorem q1007 : (Cond.code yX8_tale cX8_tale 4 (some .int) : Cond) ∈ lw_all := mw 1007 (by decide +kernel) (by decide +kernel)
theorem q1008 : (Cond.constantLong RX8 263 (7) : Cond) ∈ lw_all := mw 1008 (by decide +kernel) (by decide +kernel)
theorem q1009 : (Cond.methodLink RL 109 yX8_forget : Cond) ∈ lw_all := mw 1009 (by decide +kernel) (by decide +kernel)
theorem q1010 : (Cond.instanceMethod yX8_forget : Cond) ∈ lw_all := mw 1010 (by decide +kernel) (by decide +kernel)
theorem q1011 : (Cond.selects RX8 yX8_forget yX8_forget : Cond) ∈ lw_all := mw 1011 (by decide +kernel) (by decide +kernel)
theorem q1012 : (Cond.code yX8_forget cX8_forget 2 (some .int) : Cond) ∈ lw_all := mw 1012 (by decide +kernel) (by decide +kernel)
theorem q1013 : (Cond.methodLink RL 113 yX8_broken : Cond) ∈ lw_all := mw 1013 (by decide +kernel) (by decide +kernel)
theorem q1014 : (Cond.instanceMethod yX8_broken : Cond) ∈ lw_all := mw 1014 (by decide +kernel) (by decide +kernel)
theorem q1015 : (Cond.selects RX8 yX8_broken yX8_broken : Cond) ∈ lw_all := mw 1015 (by decide +kernel) (by decide +kernel)
theorem q1016 : (Cond.code yX8_broken cX8_broken 4 (some .int) : Cond) ∈ lw_all := mw 1016 (by decide +kernel) (by decide +kernel)
theorem q1017 : (Cond.methodLink RX8 279 yX8_hearTales : Cond) ∈ lw_all := mw 1017 (by decide +kernel) (by decide +kernel)
theorem q1019 : (Cond.instanceMethod yX8_hearTales : Cond) ∈ lw_all := mw 1019 (by decide +kernel) (by decide +kernel)
theorem q1020 : (Cond.code yX8_hearTales cX8_hearTales 5 none : Cond) ∈ lw_all := mw 1020 (by decide +kernel) (by decide +kernel)
theorem q1021 : (Cond.methodLink RX8 271 yX8_areTwo : Cond) ∈ lw_all := mw 1021 (by decide +kernel) (by decide +kernel)
theorem q1023 : (Cond.instanceMethod yX8_areTwo : Cond) ∈ lw_all := mw 1023 (by decide +kernel) (by decide +kernel)
theorem q1024 : (Cond.code yX8_areTwo cX8_areTwo 9 (some .boolean) : Cond) ∈ lw_all := mw 1024 (by decide +kernel) (by decide +kernel)
theorem q1025 : (Cond.methodLink RX8 275 yX8_join : Cond) ∈ lw_all := mw 1025 (by decide +kernel) (by decide +kernel)
theorem q1027 : (Cond.instanceMethod yX8_join : Cond) ∈ lw_all := mw 1027 (by decide +kernel) (by decide +kernel)
theorem q1028 : (Cond.code yX8_join cX8_join 6 none : Cond) ∈ lw_all := mw 1028 (by decide +kernel) (by decide +kernel)
theorem q1029 : (Cond.methodLink RL 117 yX8_ones : Cond) ∈ lw_all := mw 1029 (by decide +kernel) (by decide +kernel)
theorem q1030 : (Cond.instanceMethod yX8_ones : Cond) ∈ lw_all := mw 1030 (by decide +kernel) (by decide +kernel)
theorem q1031 : (Cond.selects RX8 yX8_ones yX8_ones : Cond) ∈ lw_all := mw 1031 (by decide +kernel) (by decide +kernel)
theorem q1032 : (Cond.code yX8_ones cX8_ones 2 (some .int) : Cond) ∈ lw_all := mw 1032 (by decide +kernel) (by decide +kernel)
theorem q1033 : (Cond.methodLink RX8 282 yX8_isOneShip : Cond) ∈ lw_all := mw 1033 (by decide +kernel) (by decide +kernel)
theorem q1035 : (Cond.instanceMethod yX8_isOneShip : Cond) ∈ lw_all := mw 1035 (by decide +kernel) (by decide +kernel)
theorem q1036 : (Cond.code yX8_isOneShip cX8_isOneShip 9 (some .boolean) : Cond) ∈ lw_all := mw 1036 (by decide +kernel) (by decide +kernel)
theorem q1037 : (Cond.methodLink RX8 285 yX8_addShip : Cond) ∈ lw_all := mw 1037 (by decide +kernel) (by decide +kernel)
theorem q1039 : (Cond.instanceMethod yX8_addShip : Cond) ∈ lw_all := mw 1039 (by decide +kernel) (by decide +kernel)
theorem q1040 : (Cond.code yX8_addShip cX8_addShip 4 none : Cond) ∈ lw_all := mw 1040 (by decide +kernel) (by decide +kernel)
theorem q1041 : (Cond.methodLink RL 121 yX8_berth : Cond) ∈ lw_all := mw 1041 (by decide +kernel) (by decide +kernel)
theorem q1042 : (Cond.instanceMethod yX8_berth : Cond) ∈ lw_all := mw 1042 (by decide +kernel) (by decide +kernel)
theorem q1043 : (Cond.selects RX8 yX8_berth yX8_berth : Cond) ∈ lw_all := mw 1043 (by decide +kernel) (by decide +kernel)
theorem q1044 : (Cond.code yX8_berth cX8_berth 5 (some .int) : Cond) ∈ lw_all := mw 1044 (by decide +kernel) (by decide +kernel)
theorem q1045 : (Cond.methodLink RL 125 yX8_year : Cond) ∈ lw_all := mw 1045 (by decide +kernel) (by decide +kernel)
theorem q1046 : (Cond.instanceMethod yX8_year : Cond) ∈ lw_all := mw 1046 (by decide +kernel) (by decide +kernel)
theorem q1047 : (Cond.selects RX8 yX8_year yX8_year : Cond) ∈ lw_all := mw 1047 (by decide +kernel) (by decide +kernel)
theorem q1048 : (Cond.code yX8_year cX8_year 10 (some .int) : Cond) ∈ lw_all := mw 1048 (by decide +kernel) (by decide +kernel)
theorem q1049 : (Cond.constantLong RX8 288 (9999) : Cond) ∈ lw_all := mw 1049 (by decide +kernel) (by decide +kernel)
theorem q1050 : (Cond.constantLong RX8 290 (75) : Cond) ∈ lw_all := mw 1050 (by decide +kernel) (by decide +kernel)
theorem q1051 : (Cond.constantLong RX8 292 (74) : Cond) ∈ lw_all := mw 1051 (by decide +kernel) (by decide +kernel)
theorem q1052 : (Cond.constantLong RX8 294 (65537) : Cond) ∈ lw_all := mw 1052 (by decide +kernel) (by decide +kernel)
theorem q1053 : (Cond.methodLink RX8 296 yX8_actBy : Cond) ∈ lw_all := mw 1053 (by decide +kernel) (by decide +kernel)
theorem q1055 : (Cond.instanceMethod yX8_actBy : Cond) ∈ lw_all := mw 1055 (by decide +kernel) (by decide +kernel)
theorem q1056 : (Cond.code yX8_actBy cX8_actBy 4 (some .int) : Cond) ∈ lw_all := mw 1056 (by decide +kernel) (by decide +kernel)
theorem q1057 : (Cond.methodLink RL 129 yX8_image : Cond) ∈ lw_all := mw 1057 (by decide +kernel) (by decide +kernel)
theorem q1058 : (Cond.instanceMethod yX8_image : Cond) ∈ lw_all := mw 1058 (by decide +kernel) (by decide +kernel)
theorem q1059 : (Cond.selects RX8 yX8_image yX8_image : Cond) ∈ lw_all := mw 1059 (by decide +kernel) (by decide +kernel)
theorem q1060 : (Cond.code yX8_image cX8_image 2 (some .int) : Cond) ∈ lw_all := mw 1060 (by decide +kernel) (by decide +kernel)
theorem q1061 : (Cond.methodLink RX8 313 yX8_passAll : Cond) ∈ lw_all := mw 1061 (by decide +kernel) (by decide +kernel)
theorem q1063 : (Cond.instanceMethod yX8_passAll : Cond) ∈ lw_all := mw 1063 (by decide +kernel) (by decide +kernel)
theorem q1064 : (Cond.code yX8_passAll cX8_passAll 1 none : Cond) ∈ lw_all := mw 1064 (by decide +kernel) (by decide +kernel)
theorem q1065 : (Cond.methodLink RX8 306 yX8_pass : Cond) ∈ lw_all := mw 1065 (by decide +kernel) (by decide +kernel)
theorem q1067 : (Cond.instanceMethod yX8_pass : Cond) ∈ lw_all := mw 1067 (by decide +kernel) (by decide +kernel)
theorem q1068 : (Cond.code yX8_pass cX8_pass 3 (some .int) : Cond) ∈ lw_all := mw 1068 (by decide +kernel) (by decide +kernel)
theorem q1069 : (Cond.methodLink RX8 309 yX8_passRow : Cond) ∈ lw_all := mw 1069 (by decide +kernel) (by decide +kernel)
theorem q1071 : (Cond.instanceMethod yX8_passRow : Cond) ∈ lw_all := mw 1071 (by decide +kernel) (by decide +kernel)
theorem q1072 : (Cond.code yX8_passRow cX8_passRow 4 none : Cond) ∈ lw_all := mw 1072 (by decide +kernel) (by decide +kernel)
theorem q1073 : (Cond.methodLink RL 133 yX8_restore : Cond) ∈ lw_all := mw 1073 (by decide +kernel) (by decide +kernel)
theorem q1074 : (Cond.instanceMethod yX8_restore : Cond) ∈ lw_all := mw 1074 (by decide +kernel) (by decide +kernel)
theorem q1075 : (Cond.selects RX8 yX8_restore yX8_restore : Cond) ∈ lw_all := mw 1075 (by decide +kernel) (by decide +kernel)
theorem q1076 : (Cond.code yX8_restore cX8_restore 2 (some .int) : Cond) ∈ lw_all := mw 1076 (by decide +kernel) (by decide +kernel)
theorem q1077 : (Cond.methodLink RL 137 yX8_told : Cond) ∈ lw_all := mw 1077 (by decide +kernel) (by decide +kernel)
theorem q1078 : (Cond.instanceMethod yX8_told : Cond) ∈ lw_all := mw 1078 (by decide +kernel) (by decide +kernel)
theorem q1079 : (Cond.selects RX8 yX8_told yX8_told : Cond) ∈ lw_all := mw 1079 (by decide +kernel) (by decide +kernel)
theorem q1080 : (Cond.code yX8_told cX8_told 2 (some .int) : Cond) ∈ lw_all := mw 1080 (by decide +kernel) (by decide +kernel)
theorem q1081 : (Cond.constantLong RX8 316 (10) : Cond) ∈ lw_all := mw 1081 (by decide +kernel) (by decide +kernel)
theorem q1082 : (Cond.constantLong RX8 318 (69) : Cond) ∈ lw_all := mw 1082 (by decide +kernel) (by decide +kernel)
theorem q1083 : (Cond.methodLink RX8 320 yX8_toldOf : Cond) ∈ lw_all := mw 1083 (by decide +kernel) (by decide +kernel)
theorem q1085 : (Cond.instanceMethod yX8_toldOf : Cond) ∈ lw_all := mw 1085 (by decide +kernel) (by decide +kernel)
theorem q1086 : (Cond.code yX8_toldOf cX8_toldOf 3 (some .int) : Cond) ∈ lw_all := mw 1086 (by decide +kernel) (by decide +kernel)
end
section
/-! THE CLAIM OUT OF ONE WALK OF THE LAW'S BODY. Your part is whole_start (and what it stands on); all else here is the same for every law, but numbers. -/
def R_law : String := "BelowWorthLaw"
def lw_P (b : Addr) (xs : List Int32) (args : Array Value) (s : State) : Prop := args = #[.ref b] ∧ s.IntsAt b xs ∧ xs.length ≤ 3072 ∧ (Jvm.Cond.and given_1 narrow_1).before args s = true
def lw_Q (_ : Array Value) (s : State) (o : Outcome) (t : State) : Prop := o = .returned (some (.int 1)) ∧ Framed s o t [] 600000 7302250
def lw_Z (below : List Frame) (a : Array Value) (s : State) : State → Prop := fun t => ∃ o, t.status = .running ∧ Ended t below o ∧ lw_Q a s o t
/-- the law's own end, with 1 on the stack, nothing written that was there before, its room as the claim has it -/
theorem lw_ret {p : Program} {l : Launch} {e : Env} {s : State} {m : MethodId} {below : List Frame} {meth : Method} {c : Code} {b : Nat} (hx : p.tables.exec = Jvm.exec) (hb : c.code = code) (hr : meth.sig.returnType = ret) (hlocks : meth.locks = false) {pc : Nat} {H : Heap} {ls : Array Slot} (hdg : decode code pc = .ok (.ireturn, 1)) : W p l e room_1 s m #[Value.ref b] below meth c H [] 600000 7302250 (lw_Z below #[Value.ref b] s) (F0 m pc ls [.int 1]) := by
  intro T hT X
  obtain ⟨fs, hret, hrun, hended, hW, hframe⟩ := X.leave (v := some (.int 1)) (hlocks := hlocks) (fun h => by rw [hr] at h; cases h)
  have hmeth' : T.vm.method? m = some meth := X.method'
  refine ⟨T.setFrames fs, ?_, .returned (some (.int 1)), hrun, hended, rfl, ⟨_, rfl⟩, hW, hframe⟩
  jvm_step X.here [X.here.top, hx, hb, hdg, hmeth', hr, ret, narrow_b1]
  (try refine ⟨rfl, ?_⟩); (try refine ⟨rfl, ?_⟩)
  first | (intro acts; rw [hret _ acts rfl rfl rfl]) | rw [hret _ _ rfl rfl rfl]
  exact Steps.refl _
/-- what holds at the law's entry: the machine, the code, the tables' words (any of lw_tbl by 'hts w (by decide +kernel)'), the script of L ints xs at the cell b, what the Statement gives of the start (any of its parts by flat_of_before) -/
def lw_At (p : Program) (s : State) (m : MethodId) (meth : Method) (c : Code) (b L : Nat) (xs : Nat → Int32) : Prop :=
  p.tables.exec = Jvm.exec ∧ c.code = code ∧ meth.sig.returnType = ret ∧ c.maxLocals = 4 ∧ s.vm.findClass R_law = some m.cls ∧ (∀ w ∈ lw_tbl, w.before #[Value.ref b] s = true) ∧ va_X b L xs s s.heap ∧ b < s.heap.size ∧ meth.locks = false ∧ (Jvm.Cond.and given_1 narrow_1).before #[Value.ref b] s = true
end
section
/-! ===== BASE: a state is a memory (region, object, slot); a world is a list of cells over keys (region, object) ===== -/
abbrev St : Type := (Nat → Nat → Nat → Int32) × (Nat → Int64)
def up (S : St) (r i j : Nat) (v : Int32) : St := (fun a b => if a = r ∧ b = i then upd (S.1 a b) j v else S.1 a b, S.2)
def uL (S : St) (j : Nat) (v : Int64) : St := (S.1, vp_updL S.2 j v)
theorem up_row (S : St) (r i j : Nat) (v : Int32) : (up S r i j v).1 r i = upd (S.1 r i) j v := by simp [up]
theorem up_ne (S : St) {r i j a b : Nat} (v : Int32) (h : ¬ (a = r ∧ b = i)) : (up S r i j v).1 a b = S.1 a b := by simp [up, h]
theorem up_L (S : St) (r i j : Nat) (v : Int32) : (up S r i j v).2 = S.2 := rfl
theorem uL_I (S : St) (j : Nat) (v : Int64) : (uL S j v).1 = S.1 := rfl
def b01 (x : Int32) : Int32 := if x = 0 then 0 else 1
theorem b01_b01 (x : Int32) : b01 (b01 x) = b01 x := by unfold b01; by_cases h : x = 0 <;> simp [h]
theorem b01_nar (x : Int32) : narrow .boolean (.int (b01 x)) = .int (b01 x) := by unfold b01; by_cases h : x = 0 <;> simp [h] <;> rfl
theorem b01_fit (x : Int32) : fits .boolean (.int (b01 x)) = true := by unfold b01; by_cases h : x = 0 <;> simp [h] <;> rfl
theorem b01_vn (x : Int32) : vp_nar .boolean (b01 x) = b01 x := by unfold b01; by_cases h : x = 0 <;> simp [h] <;> rfl
theorem upd_b01 (f : Nat → Int32) (k : Nat) (x : Int32) : upd (fun j => b01 (f j)) k (b01 x) = fun j => b01 (upd f k x j) := by
  funext j; unfold upd; by_cases h : j = k <;> simp [h]
abbrev Gd : Type := (Nat → Nat → Nat) × va_G × (Nat → ClassId)
abbrev CtF : Type := Gd → St → Nat → Nat → va_E
def wl (ad : Nat → Nat → Nat) (V : List (Nat × Nat)) (ct : Nat → Nat → va_E) : va_W := V.map (fun q => (ad q.1 q.2, ct q.1 q.2))
theorem wl_at {ad : Nat → Nat → Nat} {V : List (Nat × Nat)} {ct : Nat → Nat → va_E} {j r i : Nat} (hj : V[j]? = some (r, i)) : (wl ad V ct)[j]? = some (ad r i, ct r i) := by
  simp [wl, hj]
theorem wl_set {ad : Nat → Nat → Nat} {V : List (Nat × Nat)} {ct ct' : Nat → Nat → va_E} {j r i : Nat} {e : va_E} (hn : V.Nodup) (hj : V[j]? = some (r, i)) (he : ct' r i = e) (ho : ∀ a b, ¬ (a = r ∧ b = i) → ct' a b = ct a b) :
    (wl ad V ct).set j (ad r i, e) = wl ad V ct' := by
  apply List.ext_getElem?
  intro k
  rw [List.getElem?_set]
  by_cases hk : j = k
  · subst hk
    obtain ⟨hlt, -⟩ := List.getElem?_eq_some_iff.mp hj
    have h2 : j < (wl ad V ct).length := by simp [wl, hlt]
    rw [if_pos rfl, if_pos h2, wl_at hj, he]
  · rw [if_neg hk]
    cases hq : V[k]? with
    | none => simp [wl, hq]
    | some q =>
      obtain ⟨a, b⟩ := q
      rw [wl_at hq, wl_at hq, ho a b ?_]
      rintro ⟨rfl, rfl⟩
      obtain ⟨h1, e1⟩ := List.getElem?_eq_some_iff.mp hj
      obtain ⟨h2, e2⟩ := List.getElem?_eq_some_iff.mp hq
      exact hk ((List.getElem_inj hn).mp (e1.trans e2.symm))
/-- the addresses of a world's keys are apart, and of a kind -/
def Ads (ad : Nat → Nat → Nat) (V : List (Nat × Nat)) (A : Nat → Prop) : Prop := V.Nodup ∧ (∀ q ∈ V, ∀ q' ∈ V, ad q.1 q.2 = ad q'.1 q'.2 → q = q') ∧ ∀ q ∈ V, A (ad q.1 q.2)
theorem Ads.D {ad : Nat → Nat → Nat} {V : List (Nat × Nat)} {A : Nat → Prop} (h : Ads ad V A) (ct : Nat → Nat → va_E) : va_D A (wl ad V ct) := by
  refine ⟨fun i j p q hp hq e => ?_, fun k q hq => ?_⟩
  · obtain ⟨a, ha, rfl⟩ : ∃ a, V[i]? = some a ∧ (ad a.1 a.2, ct a.1 a.2) = p := by simpa [wl] using hp
    obtain ⟨b, hb, rfl⟩ : ∃ b, V[j]? = some b ∧ (ad b.1 b.2, ct b.1 b.2) = q := by simpa [wl] using hq
    have hab := h.2.1 a (List.mem_of_getElem? ha) b (List.mem_of_getElem? hb) e
    subst hab
    obtain ⟨h1, e1⟩ := List.getElem?_eq_some_iff.mp ha
    obtain ⟨h2, e2⟩ := List.getElem?_eq_some_iff.mp hb
    exact (List.getElem_inj h.1).mp (e1.trans e2.symm)
  · obtain ⟨a, ha, rfl⟩ : ∃ a, V[k]? = some a ∧ (ad a.1 a.2, ct a.1 a.2) = q := by simpa [wl] using hq
    exact h.2.2 a (List.mem_of_getElem? ha)
def tyR (g : Gd) : List (ClassId × FieldType) := [(g.2.2 0, .int), (g.2.2 1, .long), (g.2.2 2, .boolean), (g.2.2 3, .object "BelowWorth$Ship"), (g.2.2 4, .object "BelowWorth$Image")]
/-- the two calls of a nest mate's private method -/
def NX (U : State) : Prop := va_Nw (.methodLinkNest "BelowWorth$Pad" 34 yX7_within "BelowWorth") U ∧ va_Nw (.methodLinkNest "BelowWorth$Namings" 71 yX7_within "BelowWorth") U
def KN (g : Gd) (U : State) : Prop := va_K g.2.1 vwCl (tyR g) U ∧ NX U
def HW (V : List (Nat × Nat)) (ct : CtF) (g : Gd) (S : St) (H : Heap) : Prop := va_P g.2.1 vwCl (wl g.1 V (ct g S)) H
def PW (V : List (Nat × Nat)) (ct : CtF) (g : Gd) (S : St) (U : State) : Prop := HW V ct g S U.heap ∧ KN g U
theorem KN.warm {g : Gd} {s U : State} (hW : s.WarmedH U.vm) (h : KN g s) : KN g U := ⟨va_K.moved hW.alike h.1, va_Nw.warmM hW h.2.1, va_Nw.warmM hW h.2.2⟩
theorem KN.calling {g : Gd} {U : State} {f : JFrame} {mk : MethodId} {a : Array Value} (h : KN g U) : KN g (U.calling f mk a) :=
  ⟨va_K.moved (u := U) (U := U.calling f mk a) (Vm.Alike.refl U.vm) h.1, va_Nw.same rfl (u := U) (U := U.calling f mk a) rfl h.2.1, va_Nw.same rfl (u := U) (U := U.calling f mk a) rfl h.2.2⟩
theorem PW.blind {V : List (Nat × Nat)} {ct : CtF} {g : Gd} {S : St} {av : List Value} : FrameBlind (va_Pc av (PW V ct g S)) :=
  fun _ _ _ _ q => ⟨q.1, q.2.1, q.2.2.calling⟩
theorem preV {V : List (Nat × Nat)} {ct : CtF} {g : Gd} {S : St} {s : State} {H : Heap} {C : String} {b : Addr} {As : List Value} (hrec : ∃ cellB : Cell, H[b]? = some cellB ∧ cellB.vm.isStatics = false ∧ s.vm.findClass C = some cellB.cls) (hP : HW V ct g S H) (hK : KN g s) : PreV s H C b (va_Pc (.ref b :: As) (PW V ct g S)) As :=
  ⟨PW.blind, hrec, fun U hU hW => ⟨rfl, by rw [hU]; exact hP, hK.warm hW⟩⟩
theorem preS {V : List (Nat × Nat)} {ct : CtF} {g : Gd} {S : St} {s : State} {H : Heap} {As : List Value} (hP : HW V ct g S H) (hK : KN g s) : PreS s H (va_Pc As (PW V ct g S)) As :=
  ⟨PW.blind, fun U hU hW => ⟨rfl, by rw [hU]; exact hP, hK.warm hW⟩⟩
/-- a key holds an object of class number ci, its fields read off its row -/
def IsO (V : List (Nat × Nat)) (ct : CtF) (g : Gd) (r i ci : Nat) (fsK : (Nat → Int32) → List Value) : Prop := (∃ j : Nat, V[j]? = some (r, i)) ∧ ∀ S : St, ct g S r i = .inr (ci, fsK (S.1 r i))
/-- a key holds an array of ints -/
def IsI (V : List (Nat × Nat)) (ct : CtF) (g : Gd) (r i n : Nat) : Prop := (∃ j : Nat, V[j]? = some (r, i)) ∧ ∀ S : St, ct g S r i = .inl (g.2.2 0, n, .inl (S.1 r i))
def IsZ (V : List (Nat × Nat)) (ct : CtF) (g : Gd) (r i n : Nat) : Prop := (∃ j : Nat, V[j]? = some (r, i)) ∧ ∀ S : St, ct g S r i = .inl (g.2.2 2, n, .inl (fun j => b01 (S.1 r i j)))
def IsJ (V : List (Nat × Nat)) (ct : CtF) (g : Gd) (r i n : Nat) : Prop := (∃ j : Nat, V[j]? = some (r, i)) ∧ (∀ S : St, ct g S r i = .inl (g.2.2 1, n, .inr (.inl S.2))) ∧ ∀ (S : St) (j : Nat) (v : Int64) (a b : Nat), ¬ (a = r ∧ b = i) → ct g (uL S j v) a b = ct g S a b
def IsQ (V : List (Nat × Nat)) (ct : CtF) (g : Gd) (r i n t : Nat) (f : Nat → Option Nat) : Prop := (∃ j : Nat, V[j]? = some (r, i)) ∧ ∀ S : St, ct g S r i = .inl (g.2.2 t, n, .inr (.inr (.inr (.inr f))))
/-- a write into one row changes that key's cell alone -/
def LocF (ct : CtF) : Prop := ∀ (g : Gd) (S : St) (r i j : Nat) (v : Int32) (a b : Nat), ¬ (a = r ∧ b = i) → ct g (up S r i j v) a b = ct g S a b
theorem recO {V : List (Nat × Nat)} {ct : CtF} {g : Gd} {S : St} {s : State} {H : Heap} {r i ci : Nat} {fsK : (Nat → Int32) → List Value} {q : vw_C} (hI : IsO V ct g r i ci fsK) (hP : HW V ct g S H) (hK : KN g s) (hc : vwCl[ci]? = some q) : ∃ cell : Cell, H[g.1 r i]? = some cell ∧ cell.vm.isStatics = false ∧ s.vm.findClass q.1 = some cell.cls := by
  obtain ⟨⟨j, hj⟩, he⟩ := hI
  exact va_recv hK.1 hP (q0 := j) hc ((wl_at hj).trans (by rw [he]))
abbrev wU (y : MethodName) (b : ByteArray) (n : Nat) (r : Option FieldType) : List Cond := Cond.code y b n r :: lw_all
theorem gA {ws : List Cond} (hw : ∀ w ∈ ws, w ∈ lw_all) : GoodIn lw_all ws := fun w h => ⟨hw w h, good_of_word (lw_all_good (hw w h))⟩
theorem gU {y : MethodName} {b : ByteArray} {n : Nat} {r : Option FieldType} (h : Cond.code y b n r ∈ lw_all) : GoodIn lw_all (wU y b n r) := gA fun w hw => by
  rcases List.mem_cons.mp hw with rfl | h3
  · exact h
  · exact h3
theorem gV {own C : String} {idx : Nat} {y : MethodName} {b : ByteArray} {n : Nat} {r : Option FieldType} (h1 : Cond.methodLink own idx y ∈ lw_all) (h2 : Cond.instanceMethod y ∈ lw_all) (h3 : Cond.selects C y y ∈ lw_all) (h4 : Cond.initialized C ∈ lw_all) (h5 : Cond.code y b n r ∈ lw_all) : GoodIn lw_all (wsV own idx C y (wU y b n r)) := gA fun w hw => by
  rcases List.mem_append.mp hw with h | h
  · simp only [List.mem_cons, List.not_mem_nil, or_false] at h
    rcases h with rfl | rfl | rfl | rfl <;> assumption
  · exact (gU h5 w h).1
theorem gS {own : String} {idx : Nat} {y : MethodName} {b : ByteArray} {n : Nat} {r : Option FieldType} (h1 : Cond.methodLink own idx y ∈ lw_all) (h2 : Cond.static y ∈ lw_all) (h3 : Cond.initialized y.cls ∈ lw_all) (h5 : Cond.code y b n r ∈ lw_all) : GoodIn lw_all (va_wsS own idx y (wU y b n r)) := gA fun w hw => by
  rcases List.mem_append.mp hw with h | h
  · simp only [List.mem_cons, List.not_mem_nil, or_false] at h
    rcases h with rfl | rfl | rfl <;> assumption
  · exact (gU h5 w h).1
section BaseW
variable {p : Program} {l : Launch} {e : Env} {R : Room} {s : State} {m : MethodId} {args : Array Value} {below : List Frame} {meth : Method} {c : Code} {H : Heap} {locs : List Loc} {cells slots : Nat} {Q : State → Prop} {cc : ByteArray} {nL pc : Nat} {ls : Array Slot} {rest : List Value} {Ts : List Cond} {own : String} {V : List (Nat × Nat)} {ct : CtF} {g : Gd} {S : St} {A : Nat → Prop} {H0 : Heap}
theorem gO {C : String} {T : u_T} {N ci index r i : Nat} {fsK : (Nat → Int32) → List Value} (C0 : CallFix p m c cc nL s args Ts own) (hin : ∀ w ∈ u_ws C T N, w ∈ Ts) (hK : KN g s) (hP : HW V ct g S H) (hI : IsO V ct g r i ci fsK) (hc : vwCl[ci]? = some (C, T, N)) (k : Nat) (hk : k < N) (hlink : (Cond.fieldLink own index (T k).1 (T k).2.1 (T k).2.2.1).before args s = true) {v : Value} (hv : (fsK (S.1 r i))[k]? = some v) (hdg : decode cc pc = .ok (.getfield index, 3))
    (kk : W p l e R s m args below meth c H locs cells slots Q (F0 m (pc + 3) ls (v :: rest))) : W p l e R s m args below meth c H locs cells slots Q (F0 m pc ls (.ref (g.1 r i) :: rest)) := by
  obtain ⟨⟨j, hj⟩, he⟩ := hI
  exact va_get C0.1 C0.2.1 C0.2.2.2.2 hin C0.2.2.2.1 hK.1 hP j (fs := fsK (S.1 r i)) ((wl_at hj).trans (by rw [he])) hc k hk hlink (fun _ h9 => h9) hv hdg kk
theorem pO {C : String} {T : u_T} {N ci index r i : Nat} {fsK : (Nat → Int32) → List Value} {ty0 : Nat → FieldType} (hL : LocF ct) (C0 : CallFix p m c cc nL s args Ts own) (hin : ∀ w ∈ u_ws C T N, w ∈ Ts) (hty : ∀ k, k < N → parseFieldDescriptor (T k).2.2.1 = some (ty0 k)) (hnm : ∀ a, a < N → ∀ b, b < N → a ≠ b → (T a).2.1 ≠ (T b).2.1) (hK : KN g s) (hP : HW V ct g S H) (hA : Ads g.1 V A) (hS : va_S A H0 H locs) (hI : IsO V ct g r i ci fsK) (hc : vwCl[ci]? = some (C, T, N)) (k : Nat) (hk : k < N) (hlink : (Cond.fieldLink own index (T k).1 (T k).2.1 (T k).2.2.1).before args s = true) (hfin : (T k).2.2.2 = false)
    (j : Nat) (v : Int32) {x : Value} (hset : fsK (upd (S.1 r i) j v) = (fsK (S.1 r i)).set k x) (hn : narrow (ty0 k) x = x) (hfit : fits (ty0 k) x = true) (hlen : k < (fsK (S.1 r i)).length) (hdg : decode cc pc = .ok (.putfield index, 3))
    (kk : ∀ (H1 : Heap) (locs1 : List Loc), HW V ct g (up S r i j v) H1 → va_S A H0 H1 locs1 → W p l e R s m args below meth c H1 locs1 cells slots Q (F0 m (pc + 3) ls rest)) : W p l e R s m args below meth c H locs cells slots Q (F0 m pc ls (x :: .ref (g.1 r i) :: rest)) := by
  obtain ⟨⟨q, hj⟩, he⟩ := hI
  refine va_put C0.1 C0.2.1 C0.2.2.2.2 hin ty0 hty hnm C0.2.2.2.1 hK.1 hP (hA.D _) hS q (fs := fsK (S.1 r i)) ((wl_at hj).trans (by rw [he])) hc k hk hlink (fun _ h9 => h9) hfin (hty k hk) hn hfit hlen hdg (fun H1 locs1 hP1 _ hS1 => kk H1 locs1 ?_ hS1)
  rw [wl_set (ct' := ct g (up S r i j v)) hA.1 hj (by rw [he, up_row, hset]) (fun a b h => hL g S r i j v a b h)] at hP1
  exact hP1
theorem gI {r i n : Nat} (C0 : CallFix p m c cc nL s args Ts own) (hK : KN g s) (hP : HW V ct g S H) (hI : IsI V ct g r i n) {x : Int32} (hin : vp_in x n) (hdg : decode cc pc = .ok (.iaload, 1))
    (kk : W p l e R s m args below meth c H locs cells slots Q (F0 m (pc + 1) ls (.int (S.1 r i x.toNatClampNeg) :: rest))) : W p l e R s m args below meth c H locs cells slots Q (F0 m pc ls (.int x :: .ref (g.1 r i) :: rest)) := by
  obtain ⟨⟨j, hj⟩, he⟩ := hI
  exact va_iald C0.1 C0.2.1 hK.1 hP j 0 ((wl_at hj).trans (by rw [he])) rfl hin hdg kk
theorem gZ {r i n : Nat} (C0 : CallFix p m c cc nL s args Ts own) (hK : KN g s) (hP : HW V ct g S H) (hI : IsZ V ct g r i n) {x : Int32} (hin : vp_in x n) (hdg : decode cc pc = .ok (.baload, 1))
    (kk : W p l e R s m args below meth c H locs cells slots Q (F0 m (pc + 1) ls (.int (b01 (S.1 r i x.toNatClampNeg)) :: rest))) : W p l e R s m args below meth c H locs cells slots Q (F0 m pc ls (.int x :: .ref (g.1 r i) :: rest)) := by
  obtain ⟨⟨j, hj⟩, he⟩ := hI
  exact va_zald C0.1 C0.2.1 hK.1 hP j 2 ((wl_at hj).trans (by rw [he])) rfl hin hdg kk
theorem gJ {r i n : Nat} (C0 : CallFix p m c cc nL s args Ts own) (hK : KN g s) (hP : HW V ct g S H) (hI : IsJ V ct g r i n) {x : Int32} (hin : vp_in x n) (hdg : decode cc pc = .ok (.laload, 1))
    (kk : W p l e R s m args below meth c H locs cells slots Q (F0 m (pc + 1) ls (.long (S.2 x.toNatClampNeg) :: rest))) : W p l e R s m args below meth c H locs cells slots Q (F0 m pc ls (.int x :: .ref (g.1 r i) :: rest)) := by
  obtain ⟨⟨j, hj⟩, he⟩ := hI
  exact va_lald C0.1 C0.2.1 hK.1 hP j 1 ((wl_at hj).trans (by rw [he.1])) rfl hin hdg kk
theorem gQ {r i n t : Nat} {f : Nat → Option Nat} {nm : String} (C0 : CallFix p m c cc nL s args Ts own) (hK : KN g s) (hP : HW V ct g S H) (hI : IsQ V ct g r i n t f) (ht : (tyR g)[t]? = some (g.2.2 t, .object nm)) {x : Int32} (hin : vp_in x n) (hdg : decode cc pc = .ok (.aaload, 1))
    (kk : W p l e R s m args below meth c H locs cells slots Q (F0 m (pc + 1) ls (va_rf (f x.toNatClampNeg) :: rest))) : W p l e R s m args below meth c H locs cells slots Q (F0 m pc ls (.int x :: .ref (g.1 r i) :: rest)) := by
  obtain ⟨⟨j, hj⟩, he⟩ := hI
  exact va_aldq C0.1 C0.2.1 hK.1 hP j t ((wl_at hj).trans (by rw [he])) ht hin hdg kk
theorem lenI {r i n : Nat} {v : Int32} (C0 : CallFix p m c cc nL s args Ts own) (hK : KN g s) (hP : HW V ct g S H) (hI : IsI V ct g r i n) (hv : Int32.ofNat n = v) (hdg : decode cc pc = .ok (.arraylength, 1))
    (kk : W p l e R s m args below meth c H locs cells slots Q (F0 m (pc + 1) ls (.int v :: rest))) : W p l e R s m args below meth c H locs cells slots Q (F0 m pc ls (.ref (g.1 r i) :: rest)) := by
  obtain ⟨⟨j, hj⟩, he⟩ := hI
  exact va_alen C0.1 C0.2.1 hK.1 hP j 0 (x := (n, .inl (S.1 r i))) ((wl_at hj).trans (by rw [he])) (ty := .int) rfl hv hdg kk
theorem lenJ {r i n : Nat} {v : Int32} (C0 : CallFix p m c cc nL s args Ts own) (hK : KN g s) (hP : HW V ct g S H) (hI : IsJ V ct g r i n) (hv : Int32.ofNat n = v) (hdg : decode cc pc = .ok (.arraylength, 1))
    (kk : W p l e R s m args below meth c H locs cells slots Q (F0 m (pc + 1) ls (.int v :: rest))) : W p l e R s m args below meth c H locs cells slots Q (F0 m pc ls (.ref (g.1 r i) :: rest)) := by
  obtain ⟨⟨j, hj⟩, he⟩ := hI
  exact va_alen C0.1 C0.2.1 hK.1 hP j 1 (x := (n, .inr (.inl S.2))) ((wl_at hj).trans (by rw [he.1])) (ty := .long) rfl hv hdg kk
theorem lenQ {r i n t : Nat} {f : Nat → Option Nat} {nm : String} {v : Int32} (C0 : CallFix p m c cc nL s args Ts own) (hK : KN g s) (hP : HW V ct g S H) (hI : IsQ V ct g r i n t f) (ht : (tyR g)[t]? = some (g.2.2 t, .object nm)) (hv : Int32.ofNat n = v) (hdg : decode cc pc = .ok (.arraylength, 1))
    (kk : W p l e R s m args below meth c H locs cells slots Q (F0 m (pc + 1) ls (.int v :: rest))) : W p l e R s m args below meth c H locs cells slots Q (F0 m pc ls (.ref (g.1 r i) :: rest)) := by
  obtain ⟨⟨j, hj⟩, he⟩ := hI
  exact va_alen C0.1 C0.2.1 hK.1 hP j t (x := (n, .inr (.inr (.inr (.inr f))))) ((wl_at hj).trans (by rw [he])) ht hv hdg kk
theorem pI {r i n : Nat} (hL : LocF ct) (C0 : CallFix p m c cc nL s args Ts own) (hK : KN g s) (hP : HW V ct g S H) (hA : Ads g.1 V A) (hS : va_S A H0 H locs) (hI : IsI V ct g r i n) {x v : Int32} (hin : vp_in x n) (hdg : decode cc pc = .ok (.iastore, 1))
    (kk : ∀ (H1 : Heap) (locs1 : List Loc), HW V ct g (up S r i x.toNatClampNeg v) H1 → va_S A H0 H1 locs1 → W p l e R s m args below meth c H1 locs1 cells slots Q (F0 m (pc + 1) ls rest)) : W p l e R s m args below meth c H locs cells slots Q (F0 m pc ls (.int v :: .int x :: .ref (g.1 r i) :: rest)) := by
  obtain ⟨⟨q, hj⟩, he⟩ := hI
  refine va_iast C0.1 C0.2.1 hK.1 hP (hA.D _) hS q 0 ((wl_at hj).trans (by rw [he])) rfl hin hdg (fun H1 locs1 hP1 _ hS1 => kk H1 locs1 ?_ hS1)
  rw [wl_set (ct' := ct g (up S r i x.toNatClampNeg v)) hA.1 hj (by rw [he, up_row]) (fun a b h => hL g S r i _ v a b h)] at hP1
  exact hP1
theorem pZ {r i n : Nat} (hL : LocF ct) (C0 : CallFix p m c cc nL s args Ts own) (hK : KN g s) (hP : HW V ct g S H) (hA : Ads g.1 V A) (hS : va_S A H0 H locs) (hI : IsZ V ct g r i n) {x v : Int32} (hin : vp_in x n) (hdg : decode cc pc = .ok (.bastore, 1))
    (kk : ∀ (H1 : Heap) (locs1 : List Loc), HW V ct g (up S r i x.toNatClampNeg v) H1 → va_S A H0 H1 locs1 → W p l e R s m args below meth c H1 locs1 cells slots Q (F0 m (pc + 1) ls rest)) : W p l e R s m args below meth c H locs cells slots Q (F0 m pc ls (.int (b01 v) :: .int x :: .ref (g.1 r i) :: rest)) := by
  obtain ⟨⟨q, hj⟩, he⟩ := hI
  refine va_zast C0.1 C0.2.1 hK.1 hP (hA.D _) hS q 2 ((wl_at hj).trans (by rw [he])) rfl hin hdg (fun H1 locs1 hP1 _ hS1 => kk H1 locs1 ?_ hS1)
  rw [b01_vn, upd_b01, wl_set (ct' := ct g (up S r i x.toNatClampNeg v)) hA.1 hj (by rw [he, up_row]) (fun a b h => hL g S r i _ v a b h)] at hP1
  exact hP1
theorem pJ {r i n : Nat} (C0 : CallFix p m c cc nL s args Ts own) (hK : KN g s) (hP : HW V ct g S H) (hA : Ads g.1 V A) (hS : va_S A H0 H locs) (hI : IsJ V ct g r i n) {x : Int32} {v : Int64} (hin : vp_in x n) (hdg : decode cc pc = .ok (.lastore, 1))
    (kk : ∀ (H1 : Heap) (locs1 : List Loc), HW V ct g (uL S x.toNatClampNeg v) H1 → va_S A H0 H1 locs1 → W p l e R s m args below meth c H1 locs1 cells slots Q (F0 m (pc + 1) ls rest)) : W p l e R s m args below meth c H locs cells slots Q (F0 m pc ls (.long v :: .int x :: .ref (g.1 r i) :: rest)) := by
  obtain ⟨⟨q, hj⟩, he, hl⟩ := hI
  refine va_last C0.1 C0.2.1 hK.1 hP (hA.D _) hS q 1 ((wl_at hj).trans (by rw [he])) rfl hin hdg (fun H1 locs1 hP1 _ hS1 => kk H1 locs1 ?_ hS1)
  rw [wl_set (ct' := ct g (uL S x.toNatClampNeg v)) hA.1 hj (by rw [he]; rfl) (fun a b h => hl S _ v a b h)] at hP1
  exact hP1
theorem ki {post : Int32 → St → Prop} {free : Addr → Prop} {a : Array Value} {st0 : List Value} (hr : va_Run p l e R s m args below meth c H locs cells slots 0 0 (F0 m pc ls st0) rest (va_Qi post (fun u U => PW V ct g u U) A a) free) (hS : va_S A H0 H locs) (hf : ∀ q, free q → A q)
    (kk : ∀ (r : Int32) (u : St) (H1 : Heap) (locs1 : List Loc), post r u → HW V ct g u H1 → va_S A H0 H1 locs1 → W p l e R s m args below meth c H1 locs1 cells slots Q (F0 m (pc + 3) ls (.int r :: rest))) : W p l e R s m args below meth c H locs cells slots Q (F0 m pc ls st0) :=
  va_calli hr hS (fun _ _ h => h) hf (fun r u _ H1 locs1 ht _ hw hB _ _ hS1 => kk r u H1 locs1 hw (by rw [← ht]; exact hB.1) hS1)
theorem kl {post : Int64 → St → Prop} {free : Addr → Prop} {a : Array Value} {st0 : List Value} (hr : va_Run p l e R s m args below meth c H locs cells slots 0 0 (F0 m pc ls st0) rest (va_Ql post (fun u U => PW V ct g u U) A a) free) (hS : va_S A H0 H locs) (hf : ∀ q, free q → A q)
    (kk : ∀ (r : Int64) (u : St) (H1 : Heap) (locs1 : List Loc), post r u → HW V ct g u H1 → va_S A H0 H1 locs1 → W p l e R s m args below meth c H1 locs1 cells slots Q (F0 m (pc + 3) ls (.long r :: rest))) : W p l e R s m args below meth c H locs cells slots Q (F0 m pc ls st0) :=
  va_calll hr hS (fun _ _ h => h) hf (fun r u _ H1 locs1 ht _ hw hB _ _ hS1 => kk r u H1 locs1 hw (by rw [← ht]; exact hB.1) hS1)
theorem kv {post : St → Prop} {free : Addr → Prop} {a : Array Value} {st0 : List Value} (hr : va_Run p l e R s m args below meth c H locs cells slots 0 0 (F0 m pc ls st0) rest (va_Qv post (fun u U => PW V ct g u U) A a) free) (hS : va_S A H0 H locs) (hf : ∀ q, free q → A q)
    (kk : ∀ (u : St) (H1 : Heap) (locs1 : List Loc), post u → HW V ct g u H1 → va_S A H0 H1 locs1 → W p l e R s m args below meth c H1 locs1 cells slots Q (F0 m (pc + 3) ls rest)) : W p l e R s m args below meth c H locs cells slots Q (F0 m pc ls st0) :=
  va_callv hr hS (fun _ _ h => h) hf (fun u _ H1 locs1 ht _ hw hB _ _ hS1 => kk u H1 locs1 hw (by rw [← ht]; exact hB.1) hS1)
theorem kq {post : Option Nat → St → Prop} {free : Addr → Prop} {a : Array Value} {st0 : List Value} (hr : va_Run p l e R s m args below meth c H locs cells slots 0 0 (F0 m pc ls st0) rest (va_Qq post (fun u U => PW V ct g u U) A a) free) (hS : va_S A H0 H locs) (hf : ∀ q, free q → A q)
    (kk : ∀ (r : Option Nat) (u : St) (H1 : Heap) (locs1 : List Loc), post r u → HW V ct g u H1 → va_S A H0 H1 locs1 → W p l e R s m args below meth c H1 locs1 cells slots Q (F0 m (pc + 3) ls (va_rf r :: rest))) : W p l e R s m args below meth c H locs cells slots Q (F0 m pc ls st0) :=
  va_callq hr hS (fun _ _ h => h) hf (fun r u _ H1 locs1 ht _ hw hB _ _ hS1 => kk r u H1 locs1 hw (by rw [← ht]; exact hB.1) hS1)
theorem ri {post : Int32 → St → Prop} {v : Int32} (hQ : Q = MQ below (va_Qi post (fun u U => PW V ct g u U) A) args s cells slots A) (C0 : CallFix p m c cc nL s args Ts own) (hr : meth.sig.returnType = some .int) (hlocks : meth.locks = false) (hK : KN g s) (hP : HW V ct g S H) (hS : va_S A s.heap H locs) (hq : post v S) (hdg : decode cc pc = .ok (.ireturn, 1)) :
    W p l e R s m args below meth c H locs cells slots Q (F0 m pc ls [.int v]) := by
  subst hQ
  exact W.iret C0.1 C0.2.1 hr (fun t ht hW => ⟨⟨v, S, rfl, hq, by rw [ht]; exact hP, hK.warm hW⟩, hS.F ht⟩) hS.2.2 hdg hlocks
theorem rz {post : Int32 → St → Prop} {v : Int32} (hQ : Q = MQ below (va_Qi post (fun u U => PW V ct g u U) A) args s cells slots A) (C0 : CallFix p m c cc nL s args Ts own) (hr : meth.sig.returnType = some .boolean) (hlocks : meth.locks = false) (hK : KN g s) (hP : HW V ct g S H) (hS : va_S A s.heap H locs) (hn : narrow .boolean (.int v) = .int v) (hq : post v S) (hdg : decode cc pc = .ok (.ireturn, 1)) :
    W p l e R s m args below meth c H locs cells slots Q (F0 m pc ls [.int v]) := by
  subst hQ
  exact W.zret C0.1 C0.2.1 hr hn (fun t ht hW => ⟨⟨v, S, rfl, hq, by rw [ht]; exact hP, hK.warm hW⟩, hS.F ht⟩) hS.2.2 hdg hlocks
theorem rl {post : Int64 → St → Prop} {v : Int64} (hQ : Q = MQ below (va_Ql post (fun u U => PW V ct g u U) A) args s cells slots A) (C0 : CallFix p m c cc nL s args Ts own) (hr : meth.sig.returnType = some .long) (hlocks : meth.locks = false) (hK : KN g s) (hP : HW V ct g S H) (hS : va_S A s.heap H locs) (hq : post v S) (hdg : decode cc pc = .ok (.lreturn, 1)) :
    W p l e R s m args below meth c H locs cells slots Q (F0 m pc ls [.long v]) := by
  subst hQ
  exact W.lret C0.1 C0.2.1 hr (fun t ht hW => ⟨⟨v, S, rfl, hq, by rw [ht]; exact hP, hK.warm hW⟩, hS.F ht⟩) hS.2.2 hdg hlocks
theorem rv {post : St → Prop} (hQ : Q = MQ below (va_Qv post (fun u U => PW V ct g u U) A) args s cells slots A) (C0 : CallFix p m c cc nL s args Ts own) (hr : meth.sig.returnType = none) (hlocks : meth.locks = false) (hK : KN g s) (hP : HW V ct g S H) (hS : va_S A s.heap H locs) (hq : post S) (hdg : decode cc pc = .ok (.return_, 1)) :
    W p l e R s m args below meth c H locs cells slots Q (F0 m pc ls []) := by
  subst hQ
  exact W.vret C0.1 C0.2.1 hr (fun t ht hW => ⟨⟨S, rfl, hq, by rw [ht]; exact hP, hK.warm hW⟩, hS.F ht⟩) hS.2.2 hdg hlocks
theorem rq {post : Option Nat → St → Prop} {nm : String} (v : Option Nat) (hQ : Q = MQ below (va_Qq post (fun u U => PW V ct g u U) A) args s cells slots A) (C0 : CallFix p m c cc nL s args Ts own) (hr : meth.sig.returnType = some (.object nm)) (hlocks : meth.locks = false) (hK : KN g s) (hP : HW V ct g S H) (hS : va_S A s.heap H locs) (hq : post v S) (hdg : decode cc pc = .ok (.areturn, 1)) :
    W p l e R s m args below meth c H locs cells slots Q (F0 m pc ls [va_rf v]) := by
  subst hQ
  exact W.aret C0.1 C0.2.1 hr (Or.inl ⟨nm, rfl⟩) (by cases v with | none => exact Or.inl rfl | some a => exact Or.inr ⟨a, rfl⟩) (fun t ht hW => ⟨⟨v, S, rfl, hq, by rw [ht]; exact hP, hK.warm hW⟩, hS.F ht⟩) hS.2.2 hdg hlocks
theorem ent {y : MethodName} {rm : Room} {av : List Value} {Qc : Array Value → State → Outcome → State → Prop} {maxL : Nat} {ret : Option FieldType} (hy : plainName y.cls = true) (hn : (lg_sl av).length ≤ maxL)
    (body : ∀ (p : Program) (e : Env) (s : State) (m : MethodId) (below : List Frame) (meth : Method) (c : Code) (args : Array Value) (Q : State → Prop), CallFix p m c cc maxL s args lw_all y.cls → meth.sig.returnType = ret → meth.locks = false → HW V ct g S s.heap → KN g s → Q = MQ below Qc args s 0 0 A → ∀ ls : Array Slot, lv_has ls maxL (lv_args 0 av) →
      W p l e rm s m args below meth c s.heap [] 0 0 Q (F0 m 0 ls [])) : Met l y (wU y cc maxL ret) rm (va_Pc av (PW V ct g S)) Qc 0 0 A := by
  refine Met.ofW (cc := cc) (maxL := maxL) (ret := ret) hy rfl ?_
  intro p e s m args below meth c s₁ B hml hv
  obtain ⟨rfl, hP, hK⟩ := hv
  have hl := lv_entry av hn
  rw [lg_entry_eq]
  exact body p e s m below meth c _ _ ⟨B.exec, B.bytes, hml, findClass_of_methodNamed B.named, fun w hw => atoms_spec (ws := wU y cc maxL ret) B.pre w (List.mem_cons_of_mem _ hw)⟩ B.returns B.notSynchronized hP hK rfl _ hl
theorem kzc {cnd : Prop} [Decidable cnd] {S' : St} {free : Addr → Prop} {a : Array Value} {st0 : List Value} (hr : va_Run p l e R s m args below meth c H locs cells slots 0 0 (F0 m pc ls st0) rest (va_Qi (fun r u => r = (if cnd then 1 else 0) ∧ u = S') (fun u U => PW V ct g u U) A a) free) (hS : va_S A H0 H locs) (hf : ∀ q, free q → A q)
    (k1 : cnd → ∀ (H1 : Heap) (locs1 : List Loc), HW V ct g S' H1 → va_S A H0 H1 locs1 → W p l e R s m args below meth c H1 locs1 cells slots Q (F0 m (pc + 3) ls (.int 1 :: rest)))
    (k0 : ¬ cnd → ∀ (H1 : Heap) (locs1 : List Loc), HW V ct g S' H1 → va_S A H0 H1 locs1 → W p l e R s m args below meth c H1 locs1 cells slots Q (F0 m (pc + 3) ls (.int 0 :: rest))) : W p l e R s m args below meth c H locs cells slots Q (F0 m pc ls st0) := by
  refine ki hr hS hf (fun r u H1 locs1 hw hP1 hS1 => ?_)
  obtain ⟨rfl, rfl⟩ := hw
  by_cases h : cnd
  · rw [if_pos h]; exact k1 h H1 locs1 hP1 hS1
  · rw [if_neg h]; exact k0 h H1 locs1 hP1 hS1
theorem kqc {cnd : Prop} [Decidable cnd] {b : Nat} {S' : St} {free : Addr → Prop} {a : Array Value} {st0 : List Value} (hr : va_Run p l e R s m args below meth c H locs cells slots 0 0 (F0 m pc ls st0) rest (va_Qq (fun r u => r = (if cnd then some b else none) ∧ u = S') (fun u U => PW V ct g u U) A a) free) (hS : va_S A H0 H locs) (hf : ∀ q, free q → A q)
    (k1 : cnd → ∀ (H1 : Heap) (locs1 : List Loc), HW V ct g S' H1 → va_S A H0 H1 locs1 → W p l e R s m args below meth c H1 locs1 cells slots Q (F0 m (pc + 3) ls (.ref b :: rest)))
    (k0 : ¬ cnd → ∀ (H1 : Heap) (locs1 : List Loc), HW V ct g S' H1 → va_S A H0 H1 locs1 → W p l e R s m args below meth c H1 locs1 cells slots Q (F0 m (pc + 3) ls (.null :: rest))) : W p l e R s m args below meth c H locs cells slots Q (F0 m pc ls st0) := by
  refine kq hr hS hf (fun r u H1 locs1 hw hP1 hS1 => ?_)
  obtain ⟨rfl, rfl⟩ := hw
  by_cases h : cnd
  · rw [if_pos h]; exact k1 h H1 locs1 hP1 hS1
  · rw [if_neg h]; exact k0 h H1 locs1 hP1 hS1
theorem kiP {v : Int32} {S' : St} {free : Addr → Prop} {a : Array Value} {st0 : List Value} (hr : va_Run p l e R s m args below meth c H locs cells slots 0 0 (F0 m pc ls st0) rest (va_Qi (fun r u => r = v ∧ u = S') (fun u U => PW V ct g u U) A a) free) (hS : va_S A H0 H locs) (hf : ∀ q, free q → A q)
    (k1 : ∀ (H1 : Heap) (locs1 : List Loc), HW V ct g S' H1 → va_S A H0 H1 locs1 → W p l e R s m args below meth c H1 locs1 cells slots Q (F0 m (pc + 3) ls (.int v :: rest))) : W p l e R s m args below meth c H locs cells slots Q (F0 m pc ls st0) := by
  refine ki hr hS hf (fun r u H1 locs1 hw hP1 hS1 => ?_)
  obtain ⟨rfl, rfl⟩ := hw
  exact k1 H1 locs1 hP1 hS1
theorem klP {v : Int64} {S' : St} {free : Addr → Prop} {a : Array Value} {st0 : List Value} (hr : va_Run p l e R s m args below meth c H locs cells slots 0 0 (F0 m pc ls st0) rest (va_Ql (fun r u => r = v ∧ u = S') (fun u U => PW V ct g u U) A a) free) (hS : va_S A H0 H locs) (hf : ∀ q, free q → A q)
    (k1 : ∀ (H1 : Heap) (locs1 : List Loc), HW V ct g S' H1 → va_S A H0 H1 locs1 → W p l e R s m args below meth c H1 locs1 cells slots Q (F0 m (pc + 3) ls (.long v :: rest))) : W p l e R s m args below meth c H locs cells slots Q (F0 m pc ls st0) := by
  refine kl hr hS hf (fun r u H1 locs1 hw hP1 hS1 => ?_)
  obtain ⟨rfl, rfl⟩ := hw
  exact k1 H1 locs1 hP1 hS1
end BaseW
def irm (x y : Int32) : Int32 := x - x / y * y
def lrm (x y : Int64) : Int64 := x - x / y * y
def ishlF (x y : Int32) : Int32 := x <<< (y &&& 31)
def ishrF (x y : Int32) : Int32 := x >>> (y &&& 31)
def iushrF (x y : Int32) : Int32 := (x.toUInt32 >>> (y.toUInt32 &&& Int32.toUInt32 31)).toInt32
section BaseN
variable {p : Program} {l : Launch} {e : Env} {R : Room} {s : State} {m : MethodId} {args : Array Value} {below : List Frame} {meth : Method} {c : Code} {H : Heap} {locs : List Loc} {cells slots : Nat} {Q : State → Prop} {cc : ByteArray} {pc : Nat} {ls : Array Slot} {rest : List Value}
theorem kirem (hexec : p.tables.exec = Jvm.exec) (hb : c.code = cc) {x y : Int32} (hdg : decode cc pc = .ok (.irem, 1)) (hne : ¬ y = 0) (k : W p l e R s m args below meth c H locs cells slots Q (F0 m (pc + 1) ls (.int (irm x y) :: rest))) : W p l e R s m args below meth c H locs cells slots Q (F0 m pc ls (.int y :: .int x :: rest)) := lv_irem hexec hb hdg hne k
theorem klrem (hexec : p.tables.exec = Jvm.exec) (hb : c.code = cc) {x y : Int64} (hdg : decode cc pc = .ok (.lrem, 1)) (hne : ¬ y = 0) (k : W p l e R s m args below meth c H locs cells slots Q (F0 m (pc + 1) ls (.long (lrm x y) :: rest))) : W p l e R s m args below meth c H locs cells slots Q (F0 m pc ls (.long y :: .long x :: rest)) := lv_lrem hexec hb hdg hne k
theorem kishl (hexec : p.tables.exec = Jvm.exec) (hb : c.code = cc) {x y : Int32} (hdg : decode cc pc = .ok (.ishl, 1)) (k : W p l e R s m args below meth c H locs cells slots Q (F0 m (pc + 1) ls (.int (ishlF x y) :: rest))) : W p l e R s m args below meth c H locs cells slots Q (F0 m pc ls (.int y :: .int x :: rest)) := lv_ishl hexec hb hdg k
theorem kishr (hexec : p.tables.exec = Jvm.exec) (hb : c.code = cc) {x y : Int32} (hdg : decode cc pc = .ok (.ishr, 1)) (k : W p l e R s m args below meth c H locs cells slots Q (F0 m (pc + 1) ls (.int (ishrF x y) :: rest))) : W p l e R s m args below meth c H locs cells slots Q (F0 m pc ls (.int y :: .int x :: rest)) := lv_ishr hexec hb hdg k
theorem kiushr (hexec : p.tables.exec = Jvm.exec) (hb : c.code = cc) {x y : Int32} (hdg : decode cc pc = .ok (.iushr, 1)) (k : W p l e R s m args below meth c H locs cells slots Q (F0 m (pc + 1) ls (.int (iushrF x y) :: rest))) : W p l e R s m args below meth c H locs cells slots Q (F0 m pc ls (.int y :: .int x :: rest)) := lv_iushr hexec hb hdg rfl k
theorem lcm_lt (x y : Int64) : lg_cmp x y < 0 ↔ x < y := by
  unfold lg_cmp
  by_cases h1 : x > y
  · have h2 : ¬ x < y := fun h => Int64.lt_irrefl (Int64.lt_trans h h1)
    simp only [if_pos h1, h2, iff_false]; decide
  · by_cases h2 : x = y
    · subst h2
      simp only [if_neg h1, if_pos rfl]
      exact ⟨fun h => absurd h (by decide), fun h => absurd h Int64.lt_irrefl⟩
    · simp only [if_neg h1, if_neg h2]
      exact ⟨fun _ => Int64.lt_of_le_of_ne (Int64.not_lt.mp h1) h2, fun _ => by decide⟩
theorem lcm_eq (x y : Int64) : lg_cmp x y = 0 ↔ x = y := by
  unfold lg_cmp
  by_cases h1 : x > y
  · have h2 : ¬ x = y := fun h => by subst h; exact Int64.lt_irrefl h1
    rw [if_pos h1]; exact ⟨fun h => absurd h (by decide), fun h => absurd h h2⟩
  · by_cases h2 : x = y
    · rw [if_neg h1, if_pos h2]; exact ⟨fun _ => h2, fun _ => rfl⟩
    · rw [if_neg h1, if_neg h2]; exact ⟨fun h => absurd h (by decide), fun h => absurd h h2⟩
theorem lcm_gt (x y : Int64) : 0 < lg_cmp x y ↔ y < x := by
  unfold lg_cmp
  by_cases h1 : x > y
  · have h2 : y < x := h1
    rw [if_pos h1]; exact ⟨fun _ => h2, fun _ => by decide⟩
  · have h2 : ¬ y < x := h1
    by_cases h3 : x = y
    · rw [if_neg h1, if_pos h3]; exact ⟨fun h => absurd h (by decide), fun h => absurd h h2⟩
    · rw [if_neg h1, if_neg h3]; exact ⟨fun h => absurd h (by decide), fun h => absurd h h2⟩
theorem klcmp_eq (hexec : p.tables.exec = Jvm.exec) (hb : c.code = cc) {x y : Int64} {off : Int} {tgt : Nat} (h1 : decode cc pc = .ok (.lcmp, 1)) (h2 : decode cc (pc + 1) = .ok (.ifCond .eq off, 3)) (ht : ((pc + 1 : Nat) : Int) + off = (tgt : Int)) (kt : x = y → W p l e R s m args below meth c H locs cells slots Q (F0 m tgt ls rest)) (kf : ¬ x = y → W p l e R s m args below meth c H locs cells slots Q (F0 m (pc + 1 + 3) ls rest)) : W p l e R s m args below meth c H locs cells slots Q (F0 m pc ls (.long y :: .long x :: rest)) :=
  W.lcmp hexec hb h1 (lv_if_eq hexec hb h2 ht (fun h => kt ((lcm_eq x y).mp h)) (fun h => kf (fun q => h ((lcm_eq x y).mpr q))))
theorem klcmp_ne (hexec : p.tables.exec = Jvm.exec) (hb : c.code = cc) {x y : Int64} {off : Int} {tgt : Nat} (h1 : decode cc pc = .ok (.lcmp, 1)) (h2 : decode cc (pc + 1) = .ok (.ifCond .ne off, 3)) (ht : ((pc + 1 : Nat) : Int) + off = (tgt : Int)) (kt : ¬ x = y → W p l e R s m args below meth c H locs cells slots Q (F0 m tgt ls rest)) (kf : x = y → W p l e R s m args below meth c H locs cells slots Q (F0 m (pc + 1 + 3) ls rest)) : W p l e R s m args below meth c H locs cells slots Q (F0 m pc ls (.long y :: .long x :: rest)) :=
  W.lcmp hexec hb h1 (lv_if_ne hexec hb h2 ht (fun h => kt (fun q => h ((lcm_eq x y).mpr q))) (fun h => kf ((lcm_eq x y).mp h)))
theorem klcmp_lt (hexec : p.tables.exec = Jvm.exec) (hb : c.code = cc) {x y : Int64} {off : Int} {tgt : Nat} (h1 : decode cc pc = .ok (.lcmp, 1)) (h2 : decode cc (pc + 1) = .ok (.ifCond .lt off, 3)) (ht : ((pc + 1 : Nat) : Int) + off = (tgt : Int)) (kt : x < y → W p l e R s m args below meth c H locs cells slots Q (F0 m tgt ls rest)) (kf : ¬ x < y → W p l e R s m args below meth c H locs cells slots Q (F0 m (pc + 1 + 3) ls rest)) : W p l e R s m args below meth c H locs cells slots Q (F0 m pc ls (.long y :: .long x :: rest)) :=
  W.lcmp hexec hb h1 (lv_if_lt hexec hb h2 ht (fun h => kt ((lcm_lt x y).mp h)) (fun h => kf (fun q => h ((lcm_lt x y).mpr q))))
theorem lcm_ge (x y : Int64) : 0 ≤ lg_cmp x y ↔ ¬ x < y := by rw [← lcm_lt]; exact Int32.not_lt.symm
theorem lcm_le (x y : Int64) : lg_cmp x y ≤ 0 ↔ ¬ y < x := by rw [← lcm_gt]; exact Int32.not_lt.symm
theorem klcmp_ge (hexec : p.tables.exec = Jvm.exec) (hb : c.code = cc) {x y : Int64} {off : Int} {tgt : Nat} (h1 : decode cc pc = .ok (.lcmp, 1)) (h2 : decode cc (pc + 1) = .ok (.ifCond .ge off, 3)) (ht : ((pc + 1 : Nat) : Int) + off = (tgt : Int)) (kt : ¬ x < y → W p l e R s m args below meth c H locs cells slots Q (F0 m tgt ls rest)) (kf : x < y → W p l e R s m args below meth c H locs cells slots Q (F0 m (pc + 1 + 3) ls rest)) : W p l e R s m args below meth c H locs cells slots Q (F0 m pc ls (.long y :: .long x :: rest)) :=
  W.lcmp hexec hb h1 (lv_if_ge hexec hb h2 ht (fun h => kt ((lcm_ge x y).mp h)) (fun h => kf (Classical.not_not.mp (fun q => h ((lcm_ge x y).mpr q)))))
theorem klcmp_gt (hexec : p.tables.exec = Jvm.exec) (hb : c.code = cc) {x y : Int64} {off : Int} {tgt : Nat} (h1 : decode cc pc = .ok (.lcmp, 1)) (h2 : decode cc (pc + 1) = .ok (.ifCond .gt off, 3)) (ht : ((pc + 1 : Nat) : Int) + off = (tgt : Int)) (kt : y < x → W p l e R s m args below meth c H locs cells slots Q (F0 m tgt ls rest)) (kf : ¬ y < x → W p l e R s m args below meth c H locs cells slots Q (F0 m (pc + 1 + 3) ls rest)) : W p l e R s m args below meth c H locs cells slots Q (F0 m pc ls (.long y :: .long x :: rest)) :=
  W.lcmp hexec hb h1 (lv_if_gt hexec hb h2 ht (fun h => kt ((lcm_gt x y).mp h)) (fun h => kf (fun q => h ((lcm_gt x y).mpr q))))
theorem klcmp_le (hexec : p.tables.exec = Jvm.exec) (hb : c.code = cc) {x y : Int64} {off : Int} {tgt : Nat} (h1 : decode cc pc = .ok (.lcmp, 1)) (h2 : decode cc (pc + 1) = .ok (.ifCond .le off, 3)) (ht : ((pc + 1 : Nat) : Int) + off = (tgt : Int)) (kt : ¬ y < x → W p l e R s m args below meth c H locs cells slots Q (F0 m tgt ls rest)) (kf : y < x → W p l e R s m args below meth c H locs cells slots Q (F0 m (pc + 1 + 3) ls rest)) : W p l e R s m args below meth c H locs cells slots Q (F0 m pc ls (.long y :: .long x :: rest)) :=
  W.lcmp hexec hb h1 (lv_if_le hexec hb h2 ht (fun h => kt ((lcm_le x y).mp h)) (fun h => kf (Classical.not_not.mp (fun q => h ((lcm_le x y).mpr q)))))
end BaseN
theorem vpx {x y : Int32} {N : Nat} (h0 : ¬ x < 0) (h1 : ¬ y ≤ x) (hy : y = nI N) (hN : N < 2 ^ 31) : vp_in x N := by
  obtain ⟨j, hj, rfl⟩ := nI_of h0
  subst hy
  exact vp_in_nI (Nat.lt_of_not_le (fun h => h1 ((nI_leI hN hj).mpr h))) hN
theorem vpx_lt {x : Int32} {N : Nat} (h : vp_in x N) : x.toNatClampNeg < N := Nat.not_le.mp fun q => h (Or.inr q)
theorem up_ge0 {B : Int32} {N i : Nat} (hB : B = nI N) (hik : i + 0 = N) (hN : N < 2 ^ 31) : B ≤ nI i := by subst hB; exact nI_le (by omega) (by omega)
theorem up_ge1 {B : Int32} {N i k : Nat} (hB : B = nI N) (hik : i + (k + 1) = N) (hN : N < 2 ^ 31) : ¬ B ≤ nI i := by subst hB; exact nI_ge (by omega) hN
theorem up_gt0 {B : Int32} {N i : Nat} (hB : B = nI N) (hik : i + 0 = N + 1) (hN : N + 1 < 2 ^ 31) : B < nI i := by subst hB; exact nI_lt (by omega) (by omega)
theorem up_gt1 {B : Int32} {N i k : Nat} (hB : B = nI N) (hik : i + (k + 1) = N + 1) (hN : N + 1 < 2 ^ 31) : ¬ B < nI i := by subst hB; exact nI_nlt (by omega) (by omega)
/-! the tree of a method, as the machine walks it -/
def bnd {α β : Type} (a : α) (f : α → β) : β := f a
theorem bnd_eq {α β : Type} {u a : α} {f : α → β} (h : u = a) : bnd a f = f u := by subst h; rfl
theorem fin2 {α β : Type} {F : α × β} {v : α} {u : β} (h : F = (v, u)) : v = F.1 ∧ u = F.2 := by rw [h]; exact ⟨rfl, rfl⟩
end
section
/-! ===== THE TWO WORLDS ===== -/
def VX : List (Nat × Nat) := [(0, 0), (0, 1), (0, 2), (0, 3), (0, 4), (0, 5), (0, 6), (0, 7), (0, 10), (0, 11), (0, 12), (0, 13), (0, 14), (0, 15),
  (1, 0), (1, 1), (1, 2), (1, 3), (1, 4), (1, 5), (1, 6), (1, 7), (1, 10), (1, 11), (1, 12), (1, 13), (1, 14), (1, 15),
  (2, 0), (2, 1), (2, 2), (2, 3), (2, 4), (2, 5), (2, 6), (2, 7), (2, 10), (2, 11), (2, 12), (2, 13), (2, 14), (2, 15),
  (3, 0), (3, 1), (3, 2), (3, 3), (3, 4), (3, 5), (3, 6), (3, 7), (3, 10), (3, 11), (3, 12), (3, 13), (3, 14), (3, 15),
  (4, 0), (4, 1), (5, 0), (6, 0), (6, 1), (6, 2), (6, 3), (7, 0), (7, 1), (7, 2), (7, 3), (8, 0), (8, 1), (8, 2), (8, 3),
  (9, 0), (9, 1), (9, 2), (9, 3), (10, 0), (11, 0), (12, 0), (12, 1), (12, 2)]
def fShip (g : Gd) (o k : Nat) (row : Nat → Int32) : List Value := [.int (b01 (row 0)), .int (b01 (row 1)), .int (row 2), .int (row 3), .int (row 4), .int (row 5), .ref (g.1 o (10 + k))]
def fOwner (g : Gd) (o : Nat) (row : Nat → Int32) : List Value := [.ref (g.1 o 7), .int (row 0), .int (row 1), .int (row 2), .int (row 3), .int (row 4), .int (row 5)]
def fPad (g : Gd) (row : Nat → Int32) : List Value := [.ref (g.1 4 1), .int (row 0)]
def fVoy (row : Nat → Int32) : List Value := [.int (row 0), .int (row 1), .int (row 2), .int (row 3), .int (row 4), .int (row 5), .int (row 6)]
def fTales (g : Gd) (t : Nat) (row : Nat → Int32) : List Value := [.ref (g.1 t 1), .ref (g.1 t 2), .ref (g.1 t 3), .int (row 0)]
def fNam (g : Gd) (row : Nat → Int32) : List Value := [.ref (g.1 9 1), .ref (g.1 9 2), .ref (g.1 9 3), .int (row 0), .int (row 1)]
def fImg (g : Gd) (q : Nat) (row : Nat → Int32) : List Value := [.int (b01 (row 0)), .ref (g.1 (q + 2) 6), .ref (g.1 (6 + (q + 1)) 0)]
def fMain (g : Gd) (_ : Nat → Int32) : List Value := [.ref (g.1 0 6), .ref (g.1 1 6), .ref (g.1 4 0), .ref (g.1 5 0), .ref (g.1 6 0), .ref (g.1 9 0), .ref (g.1 12 1), .ref (g.1 12 2)]
def ctXr (g : Gd) (row : Nat → Int32) (L : Nat → Int64) (r i : Nat) : va_E :=
  if r < 4 then
    if i < 6 then .inr (4, fShip g r i row)
    else if i = 6 then .inr (2, fOwner g r row)
    else if i = 7 then .inl (g.2.2 3, 6, .inr (.inr (.inr (.inr (fun k => some (g.1 r k))))))
    else .inl (g.2.2 0, 3, .inl row)
  else if r = 4 then
    if i = 0 then .inr (3, fPad g row) else .inl (g.2.2 0, 60, .inl row)
  else if r = 5 then .inr (6, fVoy row)
  else if r < 9 then
    if i = 0 then .inr (5, fTales g r row) else if i = 3 then .inl (g.2.2 2, 8, .inl (fun j => b01 (row j))) else .inl (g.2.2 0, 8, .inl row)
  else if r = 9 then
    if i = 0 then .inr (1, fNam g row) else .inl (g.2.2 0, 8, .inl row)
  else if r < 12 then .inr (0, fImg g (r - 10) row)
  else if i = 0 then .inr (7, fMain g row)
  else if i = 1 then .inl (g.2.2 4, 2, .inr (.inr (.inr (.inr (fun k => some (g.1 (10 + k) 0))))))
  else if r = 12 ∧ i = 2 then .inl (g.2.2 1, 7, .inr (.inl L))
  else .inr (9, [])
def ctX : CtF := fun g S r i => ctXr g (S.1 r i) S.2 r i
theorem locX : LocF ctX := fun g S r i j v a b h => by unfold ctX; rw [up_ne S v h, up_L]
theorem VX_nd : VX.Nodup := by decide
theorem VX_at {r i : Nat} (h : (r, i) ∈ VX) : ∃ j : Nat, VX[j]? = some (r, i) := List.getElem?_of_mem h
theorem VX_ship : ∀ o, o < 4 → ∀ k, k < 6 → (o, k) ∈ VX := by decide
theorem VX_sums : ∀ o, o < 4 → ∀ k, k < 6 → (o, 10 + k) ∈ VX := by decide
theorem VX_own : ∀ o, o < 4 → (o, 6) ∈ VX ∧ (o, 7) ∈ VX := by decide
theorem VX_tal : ∀ t, t < 3 → (6 + t, 0) ∈ VX ∧ (6 + t, 1) ∈ VX ∧ (6 + t, 2) ∈ VX ∧ (6 + t, 3) ∈ VX := by decide
theorem VX_img : ∀ q, q < 2 → (10 + q, 0) ∈ VX := by decide
theorem xShip (g : Gd) {o k : Nat} (ho : o < 4) (hk : k < 6) : IsO VX ctX g o k 4 (fShip g o k) := ⟨VX_at (VX_ship o ho k hk), fun S => by simp [ctX, ctXr, ho, hk]⟩
theorem xSums (g : Gd) {o k : Nat} (ho : o < 4) (hk : k < 6) : IsI VX ctX g o (10 + k) 3 := ⟨VX_at (VX_sums o ho k hk), fun S => by
  have h1 : ¬ 10 + k < 6 := by omega
  have h2 : ¬ 10 + k = 6 := by omega
  have h3 : ¬ 10 + k = 7 := by omega
  simp [ctX, ctXr, ho, h1, h2, h3]⟩
theorem xOwner (g : Gd) {o : Nat} (ho : o < 4) : IsO VX ctX g o 6 2 (fOwner g o) := ⟨VX_at (VX_own o ho).1, fun S => by simp [ctX, ctXr, ho]⟩
theorem xShips (g : Gd) {o : Nat} (ho : o < 4) : IsQ VX ctX g o 7 6 3 (fun k => some (g.1 o k)) := ⟨VX_at (VX_own o ho).2, fun S => by simp [ctX, ctXr, ho]⟩
theorem xPad (g : Gd) : IsO VX ctX g 4 0 3 (fPad g) := ⟨VX_at (by decide), fun S => rfl⟩
theorem xSigns (g : Gd) : IsI VX ctX g 4 1 60 := ⟨VX_at (by decide), fun S => rfl⟩
theorem xVoy (g : Gd) : IsO VX ctX g 5 0 6 fVoy := ⟨VX_at (by decide), fun S => rfl⟩
theorem tal_no {t : Nat} (ht : t < 3) : ¬ 6 + t < 4 ∧ ¬ 6 + t = 4 ∧ ¬ 6 + t = 5 ∧ 6 + t < 9 := by omega
theorem xTales (g : Gd) {t : Nat} (ht : t < 3) : IsO VX ctX g (6 + t) 0 5 (fTales g (6 + t)) := ⟨VX_at (VX_tal t ht).1, fun S => by
  obtain ⟨h1, h2, h3, h4⟩ := tal_no ht
  simp [ctX, ctXr, h1, h2, h3, h4]⟩
theorem xOnes (g : Gd) {t : Nat} (ht : t < 3) : IsI VX ctX g (6 + t) 1 8 := ⟨VX_at (VX_tal t ht).2.1, fun S => by
  obtain ⟨h1, h2, h3, h4⟩ := tal_no ht
  simp [ctX, ctXr, h1, h2, h3, h4]⟩
theorem xTwos (g : Gd) {t : Nat} (ht : t < 3) : IsI VX ctX g (6 + t) 2 8 := ⟨VX_at (VX_tal t ht).2.2.1, fun S => by
  obtain ⟨h1, h2, h3, h4⟩ := tal_no ht
  simp [ctX, ctXr, h1, h2, h3, h4]⟩
theorem xSames (g : Gd) {t : Nat} (ht : t < 3) : IsZ VX ctX g (6 + t) 3 8 := ⟨VX_at (VX_tal t ht).2.2.2, fun S => by
  obtain ⟨h1, h2, h3, h4⟩ := tal_no ht
  simp [ctX, ctXr, h1, h2, h3, h4]⟩
theorem xNam (g : Gd) : IsO VX ctX g 9 0 1 (fNam g) := ⟨VX_at (by decide), fun S => rfl⟩
theorem xFirsts (g : Gd) : IsI VX ctX g 9 1 8 := ⟨VX_at (by decide), fun S => rfl⟩
theorem xOthers (g : Gd) : IsI VX ctX g 9 2 8 := ⟨VX_at (by decide), fun S => rfl⟩
theorem xTried (g : Gd) : IsI VX ctX g 9 3 8 := ⟨VX_at (by decide), fun S => rfl⟩
theorem xImg (g : Gd) {q : Nat} (hq : q < 2) : IsO VX ctX g (10 + q) 0 0 (fImg g q) := ⟨VX_at (VX_img q hq), fun S => by
  have h1 : ¬ 10 + q < 4 ∧ ¬ 10 + q = 4 ∧ ¬ 10 + q = 5 ∧ ¬ 10 + q < 9 ∧ ¬ 10 + q = 9 ∧ 10 + q < 12 ∧ 10 + q - 10 = q := by omega
  obtain ⟨h1, h2, h3, h4, h5, h6, h7⟩ := h1
  simp [ctX, ctXr, h1, h2, h3, h4, h5, h6, h7]⟩
theorem xMain (g : Gd) : IsO VX ctX g 12 0 7 (fMain g) := ⟨VX_at (by decide), fun S => rfl⟩
theorem xImgs (g : Gd) : IsQ VX ctX g 12 1 2 4 (fun k => some (g.1 (10 + k) 0)) := ⟨VX_at (by decide), fun S => rfl⟩
theorem ctXr_L (g : Gd) (row : Nat → Int32) (L L' : Nat → Int64) {r i : Nat} (h : ¬ (r = 12 ∧ i = 2)) : ctXr g row L r i = ctXr g row L' r i := by unfold ctXr; simp only [if_neg h]
theorem xChances (g : Gd) : IsJ VX ctX g 12 2 7 := ⟨VX_at (by decide), fun S => rfl, fun S j v a b h => ctXr_L g (S.1 a b) _ _ h⟩
/-! the reference's world: one object (its numbers by the field's slot), its arrays (by the field's slot) -/
def VM : List (Nat × Nat) := [(0, 0), (0, 2), (0, 3), (0, 4), (0, 5), (0, 6), (0, 13), (0, 14), (0, 15), (0, 17), (0, 19), (0, 20), (0, 21), (0, 28), (0, 31), (0, 32), (0, 34), (0, 35), (0, 36)]
def fMod (g : Gd) (row : Nat → Int32) : List Value := [.int (row 0), .int (row 1), .ref (g.1 0 2), .ref (g.1 0 3), .ref (g.1 0 4), .ref (g.1 0 5), .ref (g.1 0 6), .int (row 7), .int (row 8), .int (row 9), .int (row 10), .int (row 11), .int (row 12), .ref (g.1 0 13), .ref (g.1 0 14), .ref (g.1 0 15), .int (row 16), .ref (g.1 0 17), .int (row 18), .ref (g.1 0 19), .ref (g.1 0 20), .ref (g.1 0 21), .int (row 22), .int (row 23), .int (row 24), .int (row 25), .int (row 26), .int (row 27), .ref (g.1 0 28), .int (row 29), .int (row 30), .ref (g.1 0 31), .ref (g.1 0 32), .int (row 33), .ref (g.1 0 34), .ref (g.1 0 35), .ref (g.1 0 36), .int (row 37), .int (b01 (row 38))]
def lenM (i : Nat) : Nat := if i < 6 then 6 else if i = 6 then 18 else if i < 17 then 8 else if i < 28 then 60 else if i = 28 then 35 else if i = 32 then 8 else if i = 34 then 256 else 180
def ctMr (g : Gd) (row : Nat → Int32) (L : Nat → Int64) (i : Nat) : va_E :=
  if i = 0 then .inr (8, fMod g row)
  else if i = 31 then .inl (g.2.2 1, 7, .inr (.inl L))
  else if i = 36 then .inl (g.2.2 2, 2, .inl (fun j => b01 (row j)))
  else .inl (g.2.2 0, lenM i, .inl row)
def ctM : CtF := fun g S r i => ctMr g (S.1 r i) (if r = 0 then S.2 else fun _ => 0) i
theorem ctMr_L (g : Gd) (row : Nat → Int32) (L L' : Nat → Int64) {i : Nat} (h : ¬ i = 31) : ctMr g row L i = ctMr g row L' i := by unfold ctMr; simp only [if_neg h]
theorem locM : LocF ctM := fun g S r i j v a b h => by unfold ctM; rw [up_ne S v h, up_L]
theorem VM_nd : VM.Nodup := by decide
theorem VM_at {r i : Nat} (h : (r, i) ∈ VM) : ∃ j : Nat, VM[j]? = some (r, i) := List.getElem?_of_mem h
theorem mMain (g : Gd) : IsO VM ctM g 0 0 8 (fMod g) := ⟨VM_at (by decide), fun S => rfl⟩
theorem mI (g : Gd) {i n : Nat} (hm : (0, i) ∈ VM) (h0 : ¬ i = 0) (h1 : ¬ i = 31) (h2 : ¬ i = 36) (hn : lenM i = n) : IsI VM ctM g 0 i n := ⟨VM_at hm, fun S => by simp [ctM, ctMr, h0, h1, h2, hn]⟩
theorem mAge (g : Gd) : IsI VM ctM g 0 2 6 := mI g (by decide) (by decide) (by decide) (by decide) rfl
theorem mWorth (g : Gd) : IsI VM ctM g 0 3 6 := mI g (by decide) (by decide) (by decide) (by decide) rfl
theorem mCrew (g : Gd) : IsI VM ctM g 0 4 6 := mI g (by decide) (by decide) (by decide) (by decide) rfl
theorem mLoads (g : Gd) : IsI VM ctM g 0 5 6 := mI g (by decide) (by decide) (by decide) (by decide) rfl
theorem mSums (g : Gd) : IsI VM ctM g 0 6 18 := mI g (by decide) (by decide) (by decide) (by decide) rfl
theorem mTOne (g : Gd) : IsI VM ctM g 0 13 8 := mI g (by decide) (by decide) (by decide) (by decide) rfl
theorem mTTwo (g : Gd) : IsI VM ctM g 0 14 8 := mI g (by decide) (by decide) (by decide) (by decide) rfl
theorem mTSame (g : Gd) : IsI VM ctM g 0 15 8 := mI g (by decide) (by decide) (by decide) (by decide) rfl
theorem mPad (g : Gd) : IsI VM ctM g 0 17 60 := mI g (by decide) (by decide) (by decide) (by decide) rfl
theorem mAct (g : Gd) : IsI VM ctM g 0 19 60 := mI g (by decide) (by decide) (by decide) (by decide) rfl
theorem mWho (g : Gd) : IsI VM ctM g 0 20 60 := mI g (by decide) (by decide) (by decide) (by decide) rfl
theorem mMuch (g : Gd) : IsI VM ctM g 0 21 60 := mI g (by decide) (by decide) (by decide) (by decide) rfl
theorem mHad (g : Gd) : IsI VM ctM g 0 28 35 := mI g (by decide) (by decide) (by decide) (by decide) rfl
theorem mGroup (g : Gd) : IsI VM ctM g 0 32 8 := mI g (by decide) (by decide) (by decide) (by decide) rfl
theorem mFewest (g : Gd) : IsI VM ctM g 0 34 256 := mI g (by decide) (by decide) (by decide) (by decide) rfl
theorem mKept (g : Gd) : IsI VM ctM g 0 35 180 := mI g (by decide) (by decide) (by decide) (by decide) rfl
theorem mIsKept (g : Gd) : IsZ VM ctM g 0 36 2 := ⟨VM_at (by decide), fun S => rfl⟩
theorem mParts (g : Gd) : IsJ VM ctM g 0 31 7 := ⟨VM_at (by decide), fun S => rfl, fun S j v a b h => by
  by_cases ha : a = 0
  · exact ctMr_L g _ _ _ (fun hb => h ⟨ha, hb⟩)
  · show ctMr g (S.1 a b) (if a = 0 then vp_updL S.2 j v else fun _ => 0) b = ctMr g (S.1 a b) (if a = 0 then S.2 else fun _ => 0) b
    rw [if_neg ha, if_neg ha]⟩
/-! words of the methods' answers -/
abbrev wi (v a b : Int32) : Prop := a ≤ v ∧ v ≤ b
abbrev plc (n : Int32) : Prop := 0 ≤ n ∧ n < 6
abbrev isAt (S : St) (o : Nat) (n : Int32) : Prop := plc n ∧ ¬ S.1 o n.toNatClampNeg 0 = 0
abbrev isAf (S : St) (o : Nat) (n : Int32) : Prop := isAt S o n ∧ ¬ S.1 o n.toNatClampNeg 1 = 0
theorem b01_0 (x : Int32) : b01 x = 0 ↔ x = 0 := by unfold b01; by_cases h : x = 0 <;> simp [h]
theorem tiN {n : Nat} (h : n < 2147483648) : (OfNat.ofNat n : Int32).toInt = (n : Int) := nI_toInt h
theorem plc_lt {n : Int32} (h : plc n) : n.toNatClampNeg < 6 := by
  have h1 := h.1
  have h2 := h.2
  rw [Int32.le_iff_toInt_le] at h1
  rw [Int32.lt_iff_toInt_lt] at h2
  have e0 : (0 : Int32).toInt = 0 := by decide
  have e6 : (6 : Int32).toInt = 6 := by decide
  rw [Int32.toNatClampNeg]
  omega
theorem vpm1 {k N : Nat} (h : ¬ nI k ≤ 0) (hk : k < N) (hN : N < 2 ^ 31) : vp_in (nI k - 1) N := by
  cases k with
  | zero => exact absurd (by decide) h
  | succ j => rw [nI_pred]; exact vp_in_nI (by omega) hN
theorem up_sge0 {B : Int32} {i : Nat} (hik : i + 0 = B.toNatClampNeg) : B ≤ nI i := by
  have hb : B.toInt.toNat = B.toNatClampNeg := rfl
  have hl := Int32.toInt_lt B
  rw [Int32.le_iff_toInt_le, nI_toInt (by omega)]
  omega
theorem up_sge1 {B : Int32} {i k : Nat} (hik : i + (k + 1) = B.toNatClampNeg) : ¬ B ≤ nI i := by
  have hb : B.toInt.toNat = B.toNatClampNeg := rfl
  have hl := Int32.toInt_lt B
  rw [Int32.le_iff_toInt_le, nI_toInt (by omega)]
  omega
theorem tcl (B : Int32) : B.toNatClampNeg < 2147483648 := by
  have hb : B.toInt.toNat = B.toNatClampNeg := rfl
  have hl := Int32.toInt_lt B
  omega
theorem vpx2 {y : Int32} {i N : Nat} (hc : ¬ y ≤ nI i) (hi : i < 2147483648) (hy : y = nI N) (hN : N < 2 ^ 31) : vp_in (nI i) N := by
  subst hy
  exact vp_in_nI (Nat.lt_of_not_le (fun h => hc ((nI_leI hN hi).mpr h))) hN
theorem lv_eqI {ls : Array Slot} {n i : Nat} {x y : Int32} {l : List (Nat × Value)} (h : lv_has ls n ((i, .int x) :: l)) (e : x = y) : lv_has ls n ((i, .int y) :: l) := e ▸ h
theorem nI_cl {x : Int32} (h : ¬ x < 0) : x = nI x.toNatClampNeg := by
  obtain ⟨j, hj, rfl⟩ := nI_of h
  rw [nI_clamp hj]
theorem up_r (S : St) {r i j a : Nat} (v : Int32) (h : a ≠ r) : (up S r i j v).1 a = S.1 a := by funext b; exact up_ne S v (fun q => h q.1)
abbrev ikc (n : Int32) : Prop := 0 ≤ n ∧ n < 2
theorem ikc_lt {n : Int32} (h : ikc n) : n.toNatClampNeg < 2 := by
  have h1 := h.1
  have h2 := h.2
  rw [Int32.le_iff_toInt_le] at h1
  rw [Int32.lt_iff_toInt_lt] at h2
  have e0 : (0 : Int32).toInt = 0 := by decide
  have e6 : (2 : Int32).toInt = 2 := by decide
  rw [Int32.toNatClampNeg]
  omega
abbrev art (S : St) (f s : Int32) : Prop := (0 ≤ f ∧ f < 8) ∧ (ishrF (S.1 9 2 f.toNatClampNeg) s) &&& 1 = 1
theorem vpw {x B : Int32} {N : Nat} (h : wi x 0 B) (hB : B < nI N) (_ : True = True) (hN : N < 2 ^ 31) : vp_in x N :=
  vpx (Int32.not_lt.mpr h.1) (Int32.not_le.mpr (Int32.lt_of_le_of_lt h.2 hB)) rfl hN
theorem ti0 : (0 : Int32).toInt = 0 := by decide
theorem ti1 : (1 : Int32).toInt = 1 := by decide
theorem ti2 : (2 : Int32).toInt = 2 := by decide
theorem ti3 : (3 : Int32).toInt = 3 := by decide
theorem ti5 : (5 : Int32).toInt = 5 := by decide
theorem ti6 : (6 : Int32).toInt = 6 := by decide
theorem ti7 : (7 : Int32).toInt = 7 := by decide
theorem ti8 : (8 : Int32).toInt = 8 := by decide
theorem ti9 : (9 : Int32).toInt = 9 := by decide
theorem tim1 : (-1 : Int32).toInt = -1 := by decide
theorem m1_eq (x : Int32) : x + (-1) = x - 1 := by rw [Int32.sub_eq_add_neg]
theorem m1_nI (k : Nat) : nI (k + 1) + (-1) = nI k := pk_m1 k
theorem dn1 {k : Nat} (h : k + 1 < 2 ^ 31) : ¬ nI (k + 1) ≤ 0 := nI_nle (Nat.succ_pos k) h
theorem wi_le {p : Int32} (h : wi p (-1) 6) : p.toNatClampNeg ≤ 6 := by
  have h2 := h.2
  rw [Int32.le_iff_toInt_le, ti6] at h2
  rw [Int32.toNatClampNeg]
  omega
theorem wi_ne {p : Int32} (h : wi p 1 9) : ¬ p + 1 = 0 := by
  intro e
  have h1 := h.1
  have h2 := h.2
  rw [Int32.le_iff_toInt_le, ti1] at h1
  rw [Int32.le_iff_toInt_le, ti9] at h2
  obtain ⟨j, hj, rfl⟩ := nI_of (x := p) (by rw [Int32.lt_iff_toInt_lt, ti0]; omega)
  rw [nI_toInt hj] at h1 h2
  rw [nI_1] at e
  exact nI_ne0 (Nat.succ_pos j) (by omega) e
end
section
/-! ===== CONSTRUCTORS: worlds as lists of cells that grow ===== -/
def KC (g : Gd) (U : State) : Prop := KN g U ∧ va_AO "BelowWorth$Ship" U ∧ va_AO "BelowWorth$Image" U ∧ va_Nw (.methodLinkNest "BelowWorth" 28 yX6_init "BelowWorth") U
theorem KC.warm {g : Gd} {s U : State} (hW : s.WarmedH U.vm) (h : KC g s) : KC g U := ⟨h.1.warm hW, va_AO.moved hW.alike h.2.1, va_AO.moved hW.alike h.2.2.1, va_Nw.warmM hW h.2.2.2⟩
theorem KC.calling {g : Gd} {U : State} {f : JFrame} {mk : MethodId} {a : Array Value} (h : KC g U) : KC g (U.calling f mk a) :=
  ⟨h.1.calling, va_AO.moved (u := U) (U := U.calling f mk a) (Vm.Alike.refl U.vm) h.2.1, va_AO.moved (u := U) (U := U.calling f mk a) (Vm.Alike.refl U.vm) h.2.2.1, va_Nw.same rfl (u := U) (U := U.calling f mk a) rfl h.2.2.2⟩
/-- what a constructor asks: its own cell, as 'new' left it -/
def PC (g : Gd) (sz : Nat) (ws : va_W) (U : State) : Prop := U.heap.size = sz ∧ va_P g.2.1 vwCl ws U.heap ∧ KC g U
/-- what it leaves -/
def QC (g : Gd) (A : Nat → Prop) (ws : va_W) (U : State) : Prop := va_P g.2.1 vwCl ws U.heap ∧ va_D A ws ∧ KC g U
theorem PC.blind {g : Gd} {sz : Nat} {ws : va_W} {av : List Value} : FrameBlind (va_Pc av (PC g sz ws)) := fun _ _ _ _ q => ⟨q.1, q.2.1, q.2.2.1, q.2.2.2.calling⟩
theorem va_D1 {A : Nat → Prop} {a : Nat} {e : va_E} (h : A a) : va_D A [(a, e)] := by
  refine ⟨fun i j p q hi hj _ => ?_, fun k q hk => ?_⟩
  · have h1 : i < 1 := (List.getElem?_eq_some_iff.mp hi).1
    have h2 : j < 1 := (List.getElem?_eq_some_iff.mp hj).1
    omega
  · have h1 : k < 1 := (List.getElem?_eq_some_iff.mp hk).1
    rw [show k = 0 by omega] at hk
    cases hk
    exact h
theorem cty {g : Gd} {U : State} {cA : ClassId} {ty : FieldType} (t : Nat) (h : va_K g.2.1 vwCl (tyR g ++ [(cA, ty)]) U) (ht : (tyR g)[t]? = some (g.2.2 t, ty)) (hp : ty = .int ∨ ty = .long ∨ ty = .boolean ∨ ∃ C, ty = .object C) : cA = g.2.2 t := by
  have h1 := (h.2 5 (cA, ty) rfl).2
  have h2 : va_RA U (g.2.2 t) ty := by
    have hlt : t < 5 := (List.getElem?_eq_some_iff.mp ht).1
    have h3 : (tyR g ++ [(cA, ty)])[t]? = some (g.2.2 t, ty) := by rw [List.getElem?_append_left hlt]; exact ht
    exact (h.2 t _ h3).2
  rcases hp with rfl | rfl | rfl | ⟨C, rfl⟩
  · exact Option.some.inj (h1.symm.trans h2)
  · exact Option.some.inj (h1.symm.trans h2)
  · exact Option.some.inj (h1.symm.trans h2)
  · obtain ⟨_, _, _, _, _, e1⟩ := h1
    obtain ⟨_, _, _, _, _, e2⟩ := h2
    exact Option.some.inj (e1.symm.trans e2)
theorem arrV_ext {c : ClassId} {n : Nat} {f f' : Nat → Value} (h : ∀ j, j < n → f j = f' j) : arrV c n f = arrV c n f' := by
  unfold arrV
  congr 1
  apply Array.ext
  · simp
  · intro i h1 h2
    simp at h1 h2 ⊢
    exact h i h1
/-- an array of references may be told by another function that agrees -/
theorem va_refs {D : va_G} {cl : List vw_C} {H : Heap} {a n : Nat} {cA : ClassId} {f f' : Nat → Option Nat} (h : ∀ j, j < n → f j = f' j) (hq : va_at D cl (a, .inl (cA, n, .inr (.inr (.inr (.inr f))))) H) : va_at D cl (a, .inl (cA, n, .inr (.inr (.inr (.inr f'))))) H := by
  have h1 : H[a]? = some (vp_cell cA (n, .inr (.inr (.inr (.inr f))))) := hq
  show H[a]? = some (vp_cell cA (n, .inr (.inr (.inr (.inr f')))))
  rw [h1, vp_cell_q, vp_cell_q, arrV_ext (fun j hj => by rw [h j hj])]
theorem va_Pset {D : va_G} {cl : List vw_C} {ws : va_W} {H : Heap} (h : va_P D cl ws H) (k : Nat) {a : Nat} {e e' : va_E} (hk : ws[k]? = some (a, e)) (he : va_at D cl (a, e) H → va_at D cl (a, e') H) : va_P D cl (ws.set k (a, e')) H := by
  intro j q hj
  rw [List.getElem?_set] at hj
  split at hj
  · rename_i hkj
    split at hj
    · cases hj
      exact he (h k _ hk)
    · cases hj
  · exact h j q hj
theorem va_Dset {A : Nat → Prop} {ws : va_W} (h : va_D A ws) (k : Nat) {a : Nat} {e e' : va_E} (hk : ws[k]? = some (a, e)) : va_D A (ws.set k (a, e')) := h.set hk
section BaseC
variable {p : Program} {l : Launch} {e : Env} {R : Room} {s : State} {m : MethodId} {args : Array Value} {below : List Frame} {meth : Method} {c : Code} {H : Heap} {locs : List Loc} {cells slots : Nat} {Q : State → Prop} {cc : ByteArray} {nL pc : Nat} {ls : Array Slot} {rest : List Value} {own : String} {g : Gd} {A : Nat → Prop} {H0 : Heap} {ws : va_W}
theorem entC {y : MethodName} {rm : Room} {h0 sz mc ms : Nat} {e0 : va_E} {Qc : Array Value → State → Outcome → State → Prop} {maxL : Nat} (hy : plainName y.cls = true) (hyn : y.name = "<init>") (hn : 1 ≤ maxL)
    (body : ∀ (p : Program) (e : Env) (s : State) (m : MethodId) (below : List Frame) (meth : Method) (c : Code) (args : Array Value) (Q : State → Prop), CallFix p m c cc maxL s args lw_all y.cls → meth.sig.returnType = none → meth.locks = false → meth.name = "<init>" → va_P g.2.1 vwCl [(h0, e0)] s.heap → va_D (va_A [(h0, e0)] sz) [(h0, e0)] → KC g s → (∀ q, s.heap.size ≤ q → va_A [(h0, e0)] sz q) → Q = MQ below Qc args s mc ms (va_A [(h0, e0)] sz) → ∀ ls : Array Slot, lv_has ls maxL [(0, .ref h0)] →
      W p l e rm s m args below meth c s.heap [] 0 0 Q (F0 m 0 ls [])) : Met l y (wU y cc maxL none) rm (va_Pc [.ref h0] (PC g sz [(h0, e0)])) Qc mc ms (va_A [(h0, e0)] sz) := by
  refine Met.ofW (cc := cc) (maxL := maxL) (ret := none) hy rfl ?_
  intro p e s m args below meth c s₁ B hml hv
  obtain ⟨rfl, hsz, hP, hK⟩ := hv
  have hl := lv_entry [.ref h0] (n := maxL) hn
  rw [lg_entry_eq]
  exact body p e s m below meth c _ _ ⟨B.exec, B.bytes, hml, findClass_of_methodNamed B.named, fun w hw => atoms_spec (ws := wU y cc maxL none) B.pre w (List.mem_cons_of_mem _ hw)⟩ B.returns B.notSynchronized ((name_of_methodNamed B.named B.method).1.trans hyn) hP (va_D1 (Or.inl ⟨0, e0, rfl⟩)) hK (fun q h => Or.inr (by rw [← hsz]; exact h)) rfl _ hl
theorem rvC {T : Type} {post : T → Prop} {B : T → State → Prop} {mc ms : Nat} (u : T) (hQ : Q = MQ below (va_Qv post B A) args s mc ms A) (C0 : CallFix p m c cc nL s args lw_all own) (hr : meth.sig.returnType = none) (hlocks : meth.locks = false) (hS : va_S A s.heap H locs) (hq : post u) (hB : ∀ t : State, t.heap = H → s.WarmedH t.vm → B u t) (hc : cells ≤ mc) (hs : slots ≤ ms) (hdg : decode cc pc = .ok (.return_, 1)) :
    W p l e R s m args below meth c H locs cells slots Q (F0 m pc ls []) := by
  subst hQ
  refine W.widen hc hs ?_
  exact W.vret C0.1 C0.2.1 hr (fun t ht hW => ⟨⟨u, rfl, hq, hB t ht hW⟩, hS.F ht⟩) hS.2.2 hdg hlocks
theorem preC {sz : Nat} {b : Nat} {e0 : va_E} (hP : va_P g.2.1 vwCl [(b, e0)] H) (hz : H.size = sz) (hK : KC g s) : PreS s H (va_Pc [.ref b] (PC g sz [(b, e0)])) [.ref b] :=
  ⟨PC.blind, fun U hU hW => ⟨rfl, by rw [hU]; exact hz, by rw [hU]; exact hP, hK.warm hW⟩⟩
theorem QC.of {ws : va_W} (hP : va_P g.2.1 vwCl ws H) (hD : va_D A ws) (hK : KC g s) (t : State) (ht : t.heap = H) (hW : s.WarmedH t.vm) : QC g A ws t := ⟨by rw [ht]; exact hP, hD, hK.warm hW⟩
end BaseC
/-! the two systems as they are made -/
def S0X : St := (fun r i j => if r < 4 ∧ i = 6 then (if j = 0 then 60 else if j = 1 then 5 else 0) else 0, fun _ => 0)
def S0M : St := (fun _ i j => if i = 0 then (if j = 7 then 60 else if j = 8 then 5 else 0) else 0, fun _ => 0)
theorem wl_Ads {ad : Nat → Nat → Nat} {V : List (Nat × Nat)} {ct : Nat → Nat → va_E} {A : Nat → Prop} (hn : V.Nodup) (h : va_D A (wl ad V ct)) : Ads ad V A := by
  refine ⟨hn, fun q hq q' hq' e => ?_, fun q hq => ?_⟩
  · obtain ⟨i, hi⟩ := List.getElem?_of_mem hq
    obtain ⟨j, hj⟩ := List.getElem?_of_mem hq'
    have hij := h.1 i j _ _ (wl_at (ad := ad) (ct := ct) (show V[i]? = some (q.1, q.2) from hi)) (wl_at (ad := ad) (ct := ct) (show V[j]? = some (q'.1, q'.2) from hj)) e
    subst hij
    exact Option.some.inj (hi.symm.trans hj)
  · obtain ⟨i, hi⟩ := List.getElem?_of_mem hq
    exact h.2 i _ (wl_at (ad := ad) (ct := ct) (show V[i]? = some (q.1, q.2) from hi))
/-- what BelowWorth() leaves, what BelowWorthModel() leaves: addresses u -/
def BX (g : Gd) (V : List (Nat × Nat)) (ct : CtF) (S : St) (A : Nat → Prop) (u : Nat → Nat → Nat) (U : State) : Prop := HW V ct (u, g.2) S U.heap ∧ Ads u V A ∧ KC g U
theorem KC.ad {g : Gd} {u : Nat → Nat → Nat} {U : State} (h : KC g U) : KC (u, g.2) U := h
end
section
abbrev lX4_init (g : Gd) (h0 : Nat) (u : Nat → Nat) : va_W := [(h0, .inr (4, [.int 0, .int 0, .int 0, .int 0, .int 0, .int 0, .ref (u 0)])), ((u 0), .inl (g.2.2 0, 3, .inl (fun _ => 0)))]
set_option maxHeartbeats 4000000 in
set_option maxRecDepth 100000 in
theorem kX4_init (l : Launch) (g : Gd) (h0 sz : Nat) : Met l yX4_init (wU yX4_init cX4_init 1 none) { frames := 1, cells := 1, slots := 3, locals := 12 } (va_Pc [.ref h0] (PC g sz [(h0, .inr (4, [.int 0, .int 0, .int 0, .int 0, .int 0, .int 0, .null]))])) (va_Qv (fun _ : Nat → Nat => True) (fun u U => QC g (va_A [(h0, .inr (4, [.int 0, .int 0, .int 0, .int 0, .int 0, .int 0, .null]))] sz) (lX4_init g h0 u) U) (va_A [(h0, .inr (4, [.int 0, .int 0, .int 0, .int 0, .int 0, .int 0, .null]))] sz)) 1 3 (va_A [(h0, .inr (4, [.int 0, .int 0, .int 0, .int 0, .int 0, .int 0, .null]))] sz) := by
  refine entC (cc := cX4_init) (maxL := 1) (by decide) rfl (Nat.le_of_ble_eq_true rfl) ?_
  intro p e s m below meth c args Q C0 hr hlocks hin hP hD hK hA hQ ls hl
  have hx := C0.1
  have hb := C0.2.1
  have hml := C0.2.2.1
  have hown := C0.2.2.2.1
  have hts := C0.2.2.2.2
  generalize hAe : va_A [(h0, .inr (4, [.int 0, .int 0, .int 0, .int 0, .int 0, .int 0, .null]))] sz = A at hD hA hQ
  have hS : va_S A s.heap s.heap [] := va_S.rf
  refine lv_aload_n hx hb dX4_init_0 rfl (lv_at hl 0 rfl) ?_
  refine W.objInit hx hb hown (hts _ q77) (hts _ q63) (hts _ q64) rfl (by rw [hml]; exact hl.1) rfl dX4_init_1 (Nat.le_of_ble_eq_true rfl) (Nat.le_of_ble_eq_true rfl) ?_
  refine W.eq (g2 := F0 m 4 ls []) rfl ?_
  refine lv_aload_n hx hb dX4_init_4 rfl (lv_at hl 0 rfl) ?_
  refine lv_iconst (v := 3) hx hb dX4_init_5 (by decide) ?_
  refine va_newa (atype := .int) (ty := .int) (N' := 3) (a0 := (3, .inl (fun _ => 0))) hx hb (hts _ q112) rfl hK.1.1 hP hD hS hA (fun cA => rfl) (by decide) (by decide) (by decide) (Nat.le_of_ble_eq_true rfl) (Nat.le_of_ble_eq_true rfl) dX4_init_6 (fun zq1 cA H hKn hP hD hS => ?_)
  obtain rfl : cA = g.2.2 0 := cty 0 hKn rfl (by simp)
  have hP : va_P g.2.1 vwCl [(h0, .inr (4, [.int 0, .int 0, .int 0, .int 0, .int 0, .int 0, .null])), (zq1, .inl (g.2.2 0, 3, .inl (fun _ => 0)))] H := hP
  have hD : va_D A [(h0, .inr (4, [.int 0, .int 0, .int 0, .int 0, .int 0, .int 0, .null])), (zq1, .inl (g.2.2 0, 3, .inl (fun _ => 0)))] := hD
  refine va_putF (D := g.2.1) (ci := 4) (v := .ref zq1) (C := RX4) (T := TX4) (N := 7) hx hb hts inA4 tyX4 tyX4_ok nmX4 hown hK.1.1 hP hD hS 0 rfl rfl 6 (by decide) (hts _ q96) (fun _ h9 => h9) rfl hin rfl (tyX4_ok 6 (by decide)) rfl rfl (Nat.le_of_ble_eq_true rfl) dX4_init_8 (fun H locs hP hD hS => ?_)
  have hP : va_P g.2.1 vwCl [(h0, .inr (4, [.int 0, .int 0, .int 0, .int 0, .int 0, .int 0, .ref zq1])), (zq1, .inl (g.2.2 0, 3, .inl (fun _ => 0)))] H := hP
  have hD : va_D A [(h0, .inr (4, [.int 0, .int 0, .int 0, .int 0, .int 0, .int 0, .ref zq1])), (zq1, .inl (g.2.2 0, 3, .inl (fun _ => 0)))] := hD
  have hP9 : va_P g.2.1 vwCl (lX4_init g h0 (fun j : Nat => if j = 0 then zq1 else 0)) H := hP.sub [0, 1] rfl
  have hD9 : va_D A (lX4_init g h0 (fun j : Nat => if j = 0 then zq1 else 0)) := hD.sub [0, 1] (by decide) rfl
  exact rvC (fun j : Nat => if j = 0 then zq1 else 0) (B := fun u U => QC g A (lX4_init g h0 u) U) (post := fun _ => True) (by rw [hQ, ← hAe]) C0 hr hlocks hS trivial (fun t ht hW => QC.of hP9 hD9 hK t ht hW) (Nat.le_of_ble_eq_true rfl) (Nat.le_of_ble_eq_true rfl) dX4_init_11
abbrev lX3_init (g : Gd) (h0 : Nat) (u : Nat → Nat) : va_W := [(h0, .inr (3, [.ref (u 0), .int 0])), ((u 0), .inl (g.2.2 0, 60, .inl (fun _ => 0)))]
set_option maxHeartbeats 4000000 in
set_option maxRecDepth 100000 in
theorem kX3_init (l : Launch) (g : Gd) (h0 sz : Nat) : Met l yX3_init (wU yX3_init cX3_init 1 none) { frames := 1, cells := 1, slots := 60, locals := 12 } (va_Pc [.ref h0] (PC g sz [(h0, .inr (3, [.null, .int 0]))])) (va_Qv (fun _ : Nat → Nat => True) (fun u U => QC g (va_A [(h0, .inr (3, [.null, .int 0]))] sz) (lX3_init g h0 u) U) (va_A [(h0, .inr (3, [.null, .int 0]))] sz)) 1 60 (va_A [(h0, .inr (3, [.null, .int 0]))] sz) := by
  refine entC (cc := cX3_init) (maxL := 1) (by decide) rfl (Nat.le_of_ble_eq_true rfl) ?_
  intro p e s m below meth c args Q C0 hr hlocks hin hP hD hK hA hQ ls hl
  have hx := C0.1
  have hb := C0.2.1
  have hml := C0.2.2.1
  have hown := C0.2.2.2.1
  have hts := C0.2.2.2.2
  generalize hAe : va_A [(h0, .inr (3, [.null, .int 0]))] sz = A at hD hA hQ
  have hS : va_S A s.heap s.heap [] := va_S.rf
  refine lv_aload_n hx hb dX3_init_0 rfl (lv_at hl 0 rfl) ?_
  refine W.objInit hx hb hown (hts _ q146) (hts _ q63) (hts _ q64) rfl (by rw [hml]; exact hl.1) rfl dX3_init_1 (Nat.le_of_ble_eq_true rfl) (Nat.le_of_ble_eq_true rfl) ?_
  refine W.eq (g2 := F0 m 4 ls []) rfl ?_
  refine lv_aload_n hx hb dX3_init_4 rfl (lv_at hl 0 rfl) ?_
  refine lv_bipush (v := 60) hx hb dX3_init_5 (by decide) ?_
  refine va_newa (atype := .int) (ty := .int) (N' := 60) (a0 := (60, .inl (fun _ => 0))) hx hb (hts _ q112) rfl hK.1.1 hP hD hS hA (fun cA => rfl) (by decide) (by decide) (by decide) (Nat.le_of_ble_eq_true rfl) (Nat.le_of_ble_eq_true rfl) dX3_init_7 (fun zq1 cA H hKn hP hD hS => ?_)
  obtain rfl : cA = g.2.2 0 := cty 0 hKn rfl (by simp)
  have hP : va_P g.2.1 vwCl [(h0, .inr (3, [.null, .int 0])), (zq1, .inl (g.2.2 0, 60, .inl (fun _ => 0)))] H := hP
  have hD : va_D A [(h0, .inr (3, [.null, .int 0])), (zq1, .inl (g.2.2 0, 60, .inl (fun _ => 0)))] := hD
  refine va_putF (D := g.2.1) (ci := 3) (v := .ref zq1) (C := RX3) (T := TX3) (N := 2) hx hb hts inA3 tyX3 tyX3_ok nmX3 hown hK.1.1 hP hD hS 0 rfl rfl 0 (by decide) (hts _ q147) (fun _ h9 => h9) rfl hin rfl (tyX3_ok 0 (by decide)) rfl rfl (Nat.le_of_ble_eq_true rfl) dX3_init_9 (fun H locs hP hD hS => ?_)
  have hP : va_P g.2.1 vwCl [(h0, .inr (3, [.ref zq1, .int 0])), (zq1, .inl (g.2.2 0, 60, .inl (fun _ => 0)))] H := hP
  have hD : va_D A [(h0, .inr (3, [.ref zq1, .int 0])), (zq1, .inl (g.2.2 0, 60, .inl (fun _ => 0)))] := hD
  have hP9 : va_P g.2.1 vwCl (lX3_init g h0 (fun j : Nat => if j = 0 then zq1 else 0)) H := hP.sub [0, 1] rfl
  have hD9 : va_D A (lX3_init g h0 (fun j : Nat => if j = 0 then zq1 else 0)) := hD.sub [0, 1] (by decide) rfl
  exact rvC (fun j : Nat => if j = 0 then zq1 else 0) (B := fun u U => QC g A (lX3_init g h0 u) U) (post := fun _ => True) (by rw [hQ, ← hAe]) C0 hr hlocks hS trivial (fun t ht hW => QC.of hP9 hD9 hK t ht hW) (Nat.le_of_ble_eq_true rfl) (Nat.le_of_ble_eq_true rfl) dX3_init_12
abbrev lX6_init (g : Gd) (h0 : Nat) (u : Nat → Nat) : va_W := [(h0, .inr (6, [.int 0, .int 0, .int 0, .int 0, .int 0, .int 0, .int 0]))]
set_option maxHeartbeats 4000000 in
set_option maxRecDepth 100000 in
theorem kX6_init (l : Launch) (g : Gd) (h0 sz : Nat) : Met l yX6_init (wU yX6_init cX6_init 1 none) { frames := 1, cells := 0, slots := 0, locals := 12 } (va_Pc [.ref h0] (PC g sz [(h0, .inr (6, [.int 0, .int 0, .int 0, .int 0, .int 0, .int 0, .int 0]))])) (va_Qv (fun _ : Nat → Nat => True) (fun u U => QC g (va_A [(h0, .inr (6, [.int 0, .int 0, .int 0, .int 0, .int 0, .int 0, .int 0]))] sz) (lX6_init g h0 u) U) (va_A [(h0, .inr (6, [.int 0, .int 0, .int 0, .int 0, .int 0, .int 0, .int 0]))] sz)) 0 0 (va_A [(h0, .inr (6, [.int 0, .int 0, .int 0, .int 0, .int 0, .int 0, .int 0]))] sz) := by
  refine entC (cc := cX6_init) (maxL := 1) (by decide) rfl (Nat.le_of_ble_eq_true rfl) ?_
  intro p e s m below meth c args Q C0 hr hlocks hin hP hD hK hA hQ ls hl
  have hx := C0.1
  have hb := C0.2.1
  have hml := C0.2.2.1
  have hown := C0.2.2.2.1
  have hts := C0.2.2.2.2
  generalize hAe : va_A [(h0, .inr (6, [.int 0, .int 0, .int 0, .int 0, .int 0, .int 0, .int 0]))] sz = A at hD hA hQ
  have hS : va_S A s.heap s.heap [] := va_S.rf
  refine lv_aload_n hx hb dX6_init_0 rfl (lv_at hl 0 rfl) ?_
  refine W.objInit hx hb hown (hts _ q161) (hts _ q63) (hts _ q64) rfl (by rw [hml]; exact hl.1) rfl dX6_init_1 (Nat.le_of_ble_eq_true rfl) (Nat.le_of_ble_eq_true rfl) ?_
  refine W.eq (g2 := F0 m 4 ls []) rfl ?_
  have hP9 : va_P g.2.1 vwCl (lX6_init g h0 (fun j : Nat => 0)) s.heap := hP.sub [0] rfl
  have hD9 : va_D A (lX6_init g h0 (fun j : Nat => 0)) := hD.sub [0] (by decide) rfl
  exact rvC (fun j : Nat => 0) (B := fun u U => QC g A (lX6_init g h0 u) U) (post := fun _ => True) (by rw [hQ, ← hAe]) C0 hr hlocks hS trivial (fun t ht hW => QC.of hP9 hD9 hK t ht hW) (Nat.le_of_ble_eq_true rfl) (Nat.le_of_ble_eq_true rfl) dX6_init_4
abbrev lX5_init (g : Gd) (h0 : Nat) (u : Nat → Nat) : va_W := [(h0, .inr (5, [.ref (u 0), .ref (u 1), .ref (u 2), .int 0])), ((u 0), .inl (g.2.2 0, 8, .inl (fun _ => 0))), ((u 1), .inl (g.2.2 0, 8, .inl (fun _ => 0))), ((u 2), .inl (g.2.2 2, 8, .inl (fun _ => 0)))]
set_option maxHeartbeats 4000000 in
set_option maxRecDepth 100000 in
theorem kX5_init (l : Launch) (g : Gd) (h0 sz : Nat) : Met l yX5_init (wU yX5_init cX5_init 1 none) { frames := 1, cells := 3, slots := 24, locals := 12 } (va_Pc [.ref h0] (PC g sz [(h0, .inr (5, [.null, .null, .null, .int 0]))])) (va_Qv (fun _ : Nat → Nat => True) (fun u U => QC g (va_A [(h0, .inr (5, [.null, .null, .null, .int 0]))] sz) (lX5_init g h0 u) U) (va_A [(h0, .inr (5, [.null, .null, .null, .int 0]))] sz)) 3 24 (va_A [(h0, .inr (5, [.null, .null, .null, .int 0]))] sz) := by
  refine entC (cc := cX5_init) (maxL := 1) (by decide) rfl (Nat.le_of_ble_eq_true rfl) ?_
  intro p e s m below meth c args Q C0 hr hlocks hin hP hD hK hA hQ ls hl
  have hx := C0.1
  have hb := C0.2.1
  have hml := C0.2.2.1
  have hown := C0.2.2.2.1
  have hts := C0.2.2.2.2
  generalize hAe : va_A [(h0, .inr (5, [.null, .null, .null, .int 0]))] sz = A at hD hA hQ
  have hS : va_S A s.heap s.heap [] := va_S.rf
  refine lv_aload_n hx hb dX5_init_0 rfl (lv_at hl 0 rfl) ?_
  refine W.objInit hx hb hown (hts _ q196) (hts _ q63) (hts _ q64) rfl (by rw [hml]; exact hl.1) rfl dX5_init_1 (Nat.le_of_ble_eq_true rfl) (Nat.le_of_ble_eq_true rfl) ?_
  refine W.eq (g2 := F0 m 4 ls []) rfl ?_
  refine lv_aload_n hx hb dX5_init_4 rfl (lv_at hl 0 rfl) ?_
  refine lv_bipush (v := 8) hx hb dX5_init_5 (by decide) ?_
  refine va_newa (atype := .int) (ty := .int) (N' := 8) (a0 := (8, .inl (fun _ => 0))) hx hb (hts _ q112) rfl hK.1.1 hP hD hS hA (fun cA => rfl) (by decide) (by decide) (by decide) (Nat.le_of_ble_eq_true rfl) (Nat.le_of_ble_eq_true rfl) dX5_init_7 (fun zq1 cA H hKn hP hD hS => ?_)
  obtain rfl : cA = g.2.2 0 := cty 0 hKn rfl (by simp)
  have hP : va_P g.2.1 vwCl [(h0, .inr (5, [.null, .null, .null, .int 0])), (zq1, .inl (g.2.2 0, 8, .inl (fun _ => 0)))] H := hP
  have hD : va_D A [(h0, .inr (5, [.null, .null, .null, .int 0])), (zq1, .inl (g.2.2 0, 8, .inl (fun _ => 0)))] := hD
  refine va_putF (D := g.2.1) (ci := 5) (v := .ref zq1) (C := RX5) (T := TX5) (N := 4) hx hb hts inA5 tyX5 tyX5_ok nmX5 hown hK.1.1 hP hD hS 0 rfl rfl 0 (by decide) (hts _ q197) (fun _ h9 => h9) rfl hin rfl (tyX5_ok 0 (by decide)) rfl rfl (Nat.le_of_ble_eq_true rfl) dX5_init_9 (fun H locs hP hD hS => ?_)
  have hP : va_P g.2.1 vwCl [(h0, .inr (5, [.ref zq1, .null, .null, .int 0])), (zq1, .inl (g.2.2 0, 8, .inl (fun _ => 0)))] H := hP
  have hD : va_D A [(h0, .inr (5, [.ref zq1, .null, .null, .int 0])), (zq1, .inl (g.2.2 0, 8, .inl (fun _ => 0)))] := hD
  refine lv_aload_n hx hb dX5_init_12 rfl (lv_at hl 0 rfl) ?_
  refine lv_bipush (v := 8) hx hb dX5_init_13 (by decide) ?_
  refine va_newa (atype := .int) (ty := .int) (N' := 8) (a0 := (8, .inl (fun _ => 0))) hx hb (hts _ q112) rfl hK.1.1 hP hD hS hA (fun cA => rfl) (by decide) (by decide) (by decide) (Nat.le_of_ble_eq_true rfl) (Nat.le_of_ble_eq_true rfl) dX5_init_15 (fun zq2 cA H hKn hP hD hS => ?_)
  obtain rfl : cA = g.2.2 0 := cty 0 hKn rfl (by simp)
  have hP : va_P g.2.1 vwCl [(h0, .inr (5, [.ref zq1, .null, .null, .int 0])), (zq1, .inl (g.2.2 0, 8, .inl (fun _ => 0))), (zq2, .inl (g.2.2 0, 8, .inl (fun _ => 0)))] H := hP
  have hD : va_D A [(h0, .inr (5, [.ref zq1, .null, .null, .int 0])), (zq1, .inl (g.2.2 0, 8, .inl (fun _ => 0))), (zq2, .inl (g.2.2 0, 8, .inl (fun _ => 0)))] := hD
  refine va_putF (D := g.2.1) (ci := 5) (v := .ref zq2) (C := RX5) (T := TX5) (N := 4) hx hb hts inA5 tyX5 tyX5_ok nmX5 hown hK.1.1 hP hD hS 0 rfl rfl 1 (by decide) (hts _ q199) (fun _ h9 => h9) rfl hin rfl (tyX5_ok 1 (by decide)) rfl rfl (Nat.le_of_ble_eq_true rfl) dX5_init_17 (fun H locs hP hD hS => ?_)
  have hP : va_P g.2.1 vwCl [(h0, .inr (5, [.ref zq1, .ref zq2, .null, .int 0])), (zq1, .inl (g.2.2 0, 8, .inl (fun _ => 0))), (zq2, .inl (g.2.2 0, 8, .inl (fun _ => 0)))] H := hP
  have hD : va_D A [(h0, .inr (5, [.ref zq1, .ref zq2, .null, .int 0])), (zq1, .inl (g.2.2 0, 8, .inl (fun _ => 0))), (zq2, .inl (g.2.2 0, 8, .inl (fun _ => 0)))] := hD
  refine lv_aload_n hx hb dX5_init_20 rfl (lv_at hl 0 rfl) ?_
  refine lv_bipush (v := 8) hx hb dX5_init_21 (by decide) ?_
  refine va_newa (atype := .boolean) (ty := .boolean) (N' := 8) (a0 := (8, .inl (fun _ => 0))) hx hb (hts _ q215) rfl hK.1.1 hP hD hS hA (fun cA => rfl) (by decide) (by decide) (by decide) (Nat.le_of_ble_eq_true rfl) (Nat.le_of_ble_eq_true rfl) dX5_init_23 (fun zq3 cA H hKn hP hD hS => ?_)
  obtain rfl : cA = g.2.2 2 := cty 2 hKn rfl (by simp)
  have hP : va_P g.2.1 vwCl [(h0, .inr (5, [.ref zq1, .ref zq2, .null, .int 0])), (zq1, .inl (g.2.2 0, 8, .inl (fun _ => 0))), (zq2, .inl (g.2.2 0, 8, .inl (fun _ => 0))), (zq3, .inl (g.2.2 2, 8, .inl (fun _ => 0)))] H := hP
  have hD : va_D A [(h0, .inr (5, [.ref zq1, .ref zq2, .null, .int 0])), (zq1, .inl (g.2.2 0, 8, .inl (fun _ => 0))), (zq2, .inl (g.2.2 0, 8, .inl (fun _ => 0))), (zq3, .inl (g.2.2 2, 8, .inl (fun _ => 0)))] := hD
  refine va_putF (D := g.2.1) (ci := 5) (v := .ref zq3) (C := RX5) (T := TX5) (N := 4) hx hb hts inA5 tyX5 tyX5_ok nmX5 hown hK.1.1 hP hD hS 0 rfl rfl 2 (by decide) (hts _ q201) (fun _ h9 => h9) rfl hin rfl (tyX5_ok 2 (by decide)) rfl rfl (Nat.le_of_ble_eq_true rfl) dX5_init_25 (fun H locs hP hD hS => ?_)
  have hP : va_P g.2.1 vwCl [(h0, .inr (5, [.ref zq1, .ref zq2, .ref zq3, .int 0])), (zq1, .inl (g.2.2 0, 8, .inl (fun _ => 0))), (zq2, .inl (g.2.2 0, 8, .inl (fun _ => 0))), (zq3, .inl (g.2.2 2, 8, .inl (fun _ => 0)))] H := hP
  have hD : va_D A [(h0, .inr (5, [.ref zq1, .ref zq2, .ref zq3, .int 0])), (zq1, .inl (g.2.2 0, 8, .inl (fun _ => 0))), (zq2, .inl (g.2.2 0, 8, .inl (fun _ => 0))), (zq3, .inl (g.2.2 2, 8, .inl (fun _ => 0)))] := hD
  have hP9 : va_P g.2.1 vwCl (lX5_init g h0 (fun j : Nat => if j = 0 then zq1 else if j = 1 then zq2 else if j = 2 then zq3 else 0)) H := hP.sub [0, 1, 2, 3] rfl
  have hD9 : va_D A (lX5_init g h0 (fun j : Nat => if j = 0 then zq1 else if j = 1 then zq2 else if j = 2 then zq3 else 0)) := hD.sub [0, 1, 2, 3] (by decide) rfl
  exact rvC (fun j : Nat => if j = 0 then zq1 else if j = 1 then zq2 else if j = 2 then zq3 else 0) (B := fun u U => QC g A (lX5_init g h0 u) U) (post := fun _ => True) (by rw [hQ, ← hAe]) C0 hr hlocks hS trivial (fun t ht hW => QC.of hP9 hD9 hK t ht hW) (Nat.le_of_ble_eq_true rfl) (Nat.le_of_ble_eq_true rfl) dX5_init_28
abbrev lX1_init (g : Gd) (h0 : Nat) (u : Nat → Nat) : va_W := [(h0, .inr (1, [.ref (u 0), .ref (u 1), .ref (u 2), .int 0, .int 0])), ((u 0), .inl (g.2.2 0, 8, .inl (fun _ => 0))), ((u 1), .inl (g.2.2 0, 8, .inl (fun _ => 0))), ((u 2), .inl (g.2.2 0, 8, .inl (fun _ => 0)))]
set_option maxHeartbeats 4000000 in
set_option maxRecDepth 100000 in
theorem kX1_init (l : Launch) (g : Gd) (h0 sz : Nat) : Met l yX1_init (wU yX1_init cX1_init 1 none) { frames := 1, cells := 3, slots := 24, locals := 12 } (va_Pc [.ref h0] (PC g sz [(h0, .inr (1, [.null, .null, .null, .int 0, .int 0]))])) (va_Qv (fun _ : Nat → Nat => True) (fun u U => QC g (va_A [(h0, .inr (1, [.null, .null, .null, .int 0, .int 0]))] sz) (lX1_init g h0 u) U) (va_A [(h0, .inr (1, [.null, .null, .null, .int 0, .int 0]))] sz)) 3 24 (va_A [(h0, .inr (1, [.null, .null, .null, .int 0, .int 0]))] sz) := by
  refine entC (cc := cX1_init) (maxL := 1) (by decide) rfl (Nat.le_of_ble_eq_true rfl) ?_
  intro p e s m below meth c args Q C0 hr hlocks hin hP hD hK hA hQ ls hl
  have hx := C0.1
  have hb := C0.2.1
  have hml := C0.2.2.1
  have hown := C0.2.2.2.1
  have hts := C0.2.2.2.2
  generalize hAe : va_A [(h0, .inr (1, [.null, .null, .null, .int 0, .int 0]))] sz = A at hD hA hQ
  have hS : va_S A s.heap s.heap [] := va_S.rf
  refine lv_aload_n hx hb dX1_init_0 rfl (lv_at hl 0 rfl) ?_
  refine W.objInit hx hb hown (hts _ q221) (hts _ q63) (hts _ q64) rfl (by rw [hml]; exact hl.1) rfl dX1_init_1 (Nat.le_of_ble_eq_true rfl) (Nat.le_of_ble_eq_true rfl) ?_
  refine W.eq (g2 := F0 m 4 ls []) rfl ?_
  refine lv_aload_n hx hb dX1_init_4 rfl (lv_at hl 0 rfl) ?_
  refine lv_bipush (v := 8) hx hb dX1_init_5 (by decide) ?_
  refine va_newa (atype := .int) (ty := .int) (N' := 8) (a0 := (8, .inl (fun _ => 0))) hx hb (hts _ q112) rfl hK.1.1 hP hD hS hA (fun cA => rfl) (by decide) (by decide) (by decide) (Nat.le_of_ble_eq_true rfl) (Nat.le_of_ble_eq_true rfl) dX1_init_7 (fun zq1 cA H hKn hP hD hS => ?_)
  obtain rfl : cA = g.2.2 0 := cty 0 hKn rfl (by simp)
  have hP : va_P g.2.1 vwCl [(h0, .inr (1, [.null, .null, .null, .int 0, .int 0])), (zq1, .inl (g.2.2 0, 8, .inl (fun _ => 0)))] H := hP
  have hD : va_D A [(h0, .inr (1, [.null, .null, .null, .int 0, .int 0])), (zq1, .inl (g.2.2 0, 8, .inl (fun _ => 0)))] := hD
  refine va_putF (D := g.2.1) (ci := 1) (v := .ref zq1) (C := RX1) (T := TX1) (N := 5) hx hb hts inA1 tyX1 tyX1_ok nmX1 hown hK.1.1 hP hD hS 0 rfl rfl 0 (by decide) (hts _ q222) (fun _ h9 => h9) rfl hin rfl (tyX1_ok 0 (by decide)) rfl rfl (Nat.le_of_ble_eq_true rfl) dX1_init_9 (fun H locs hP hD hS => ?_)
  have hP : va_P g.2.1 vwCl [(h0, .inr (1, [.ref zq1, .null, .null, .int 0, .int 0])), (zq1, .inl (g.2.2 0, 8, .inl (fun _ => 0)))] H := hP
  have hD : va_D A [(h0, .inr (1, [.ref zq1, .null, .null, .int 0, .int 0])), (zq1, .inl (g.2.2 0, 8, .inl (fun _ => 0)))] := hD
  refine lv_aload_n hx hb dX1_init_12 rfl (lv_at hl 0 rfl) ?_
  refine lv_bipush (v := 8) hx hb dX1_init_13 (by decide) ?_
  refine va_newa (atype := .int) (ty := .int) (N' := 8) (a0 := (8, .inl (fun _ => 0))) hx hb (hts _ q112) rfl hK.1.1 hP hD hS hA (fun cA => rfl) (by decide) (by decide) (by decide) (Nat.le_of_ble_eq_true rfl) (Nat.le_of_ble_eq_true rfl) dX1_init_15 (fun zq2 cA H hKn hP hD hS => ?_)
  obtain rfl : cA = g.2.2 0 := cty 0 hKn rfl (by simp)
  have hP : va_P g.2.1 vwCl [(h0, .inr (1, [.ref zq1, .null, .null, .int 0, .int 0])), (zq1, .inl (g.2.2 0, 8, .inl (fun _ => 0))), (zq2, .inl (g.2.2 0, 8, .inl (fun _ => 0)))] H := hP
  have hD : va_D A [(h0, .inr (1, [.ref zq1, .null, .null, .int 0, .int 0])), (zq1, .inl (g.2.2 0, 8, .inl (fun _ => 0))), (zq2, .inl (g.2.2 0, 8, .inl (fun _ => 0)))] := hD
  refine va_putF (D := g.2.1) (ci := 1) (v := .ref zq2) (C := RX1) (T := TX1) (N := 5) hx hb hts inA1 tyX1 tyX1_ok nmX1 hown hK.1.1 hP hD hS 0 rfl rfl 1 (by decide) (hts _ q223) (fun _ h9 => h9) rfl hin rfl (tyX1_ok 1 (by decide)) rfl rfl (Nat.le_of_ble_eq_true rfl) dX1_init_17 (fun H locs hP hD hS => ?_)
  have hP : va_P g.2.1 vwCl [(h0, .inr (1, [.ref zq1, .ref zq2, .null, .int 0, .int 0])), (zq1, .inl (g.2.2 0, 8, .inl (fun _ => 0))), (zq2, .inl (g.2.2 0, 8, .inl (fun _ => 0)))] H := hP
  have hD : va_D A [(h0, .inr (1, [.ref zq1, .ref zq2, .null, .int 0, .int 0])), (zq1, .inl (g.2.2 0, 8, .inl (fun _ => 0))), (zq2, .inl (g.2.2 0, 8, .inl (fun _ => 0)))] := hD
  refine lv_aload_n hx hb dX1_init_20 rfl (lv_at hl 0 rfl) ?_
  refine lv_bipush (v := 8) hx hb dX1_init_21 (by decide) ?_
  refine va_newa (atype := .int) (ty := .int) (N' := 8) (a0 := (8, .inl (fun _ => 0))) hx hb (hts _ q112) rfl hK.1.1 hP hD hS hA (fun cA => rfl) (by decide) (by decide) (by decide) (Nat.le_of_ble_eq_true rfl) (Nat.le_of_ble_eq_true rfl) dX1_init_23 (fun zq3 cA H hKn hP hD hS => ?_)
  obtain rfl : cA = g.2.2 0 := cty 0 hKn rfl (by simp)
  have hP : va_P g.2.1 vwCl [(h0, .inr (1, [.ref zq1, .ref zq2, .null, .int 0, .int 0])), (zq1, .inl (g.2.2 0, 8, .inl (fun _ => 0))), (zq2, .inl (g.2.2 0, 8, .inl (fun _ => 0))), (zq3, .inl (g.2.2 0, 8, .inl (fun _ => 0)))] H := hP
  have hD : va_D A [(h0, .inr (1, [.ref zq1, .ref zq2, .null, .int 0, .int 0])), (zq1, .inl (g.2.2 0, 8, .inl (fun _ => 0))), (zq2, .inl (g.2.2 0, 8, .inl (fun _ => 0))), (zq3, .inl (g.2.2 0, 8, .inl (fun _ => 0)))] := hD
  refine va_putF (D := g.2.1) (ci := 1) (v := .ref zq3) (C := RX1) (T := TX1) (N := 5) hx hb hts inA1 tyX1 tyX1_ok nmX1 hown hK.1.1 hP hD hS 0 rfl rfl 2 (by decide) (hts _ q224) (fun _ h9 => h9) rfl hin rfl (tyX1_ok 2 (by decide)) rfl rfl (Nat.le_of_ble_eq_true rfl) dX1_init_25 (fun H locs hP hD hS => ?_)
  have hP : va_P g.2.1 vwCl [(h0, .inr (1, [.ref zq1, .ref zq2, .ref zq3, .int 0, .int 0])), (zq1, .inl (g.2.2 0, 8, .inl (fun _ => 0))), (zq2, .inl (g.2.2 0, 8, .inl (fun _ => 0))), (zq3, .inl (g.2.2 0, 8, .inl (fun _ => 0)))] H := hP
  have hD : va_D A [(h0, .inr (1, [.ref zq1, .ref zq2, .ref zq3, .int 0, .int 0])), (zq1, .inl (g.2.2 0, 8, .inl (fun _ => 0))), (zq2, .inl (g.2.2 0, 8, .inl (fun _ => 0))), (zq3, .inl (g.2.2 0, 8, .inl (fun _ => 0)))] := hD
  have hP9 : va_P g.2.1 vwCl (lX1_init g h0 (fun j : Nat => if j = 0 then zq1 else if j = 1 then zq2 else if j = 2 then zq3 else 0)) H := hP.sub [0, 1, 2, 3] rfl
  have hD9 : va_D A (lX1_init g h0 (fun j : Nat => if j = 0 then zq1 else if j = 1 then zq2 else if j = 2 then zq3 else 0)) := hD.sub [0, 1, 2, 3] (by decide) rfl
  exact rvC (fun j : Nat => if j = 0 then zq1 else if j = 1 then zq2 else if j = 2 then zq3 else 0) (B := fun u U => QC g A (lX1_init g h0 u) U) (post := fun _ => True) (by rw [hQ, ← hAe]) C0 hr hlocks hS trivial (fun t ht hW => QC.of hP9 hD9 hK t ht hW) (Nat.le_of_ble_eq_true rfl) (Nat.le_of_ble_eq_true rfl) dX1_init_28
end
