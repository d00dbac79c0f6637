section
-- ===== PART A: goes FIRST, ahead of the names: the tables' words, and 'selects' of the private methods out of them =====
/-- a private method of a class that the tables say can be made, by its rows of tables_1 -/
def lw_okq (q : MethodName × Nat) : Prop := (q.1.cls ≠ "java/lang/invoke/MethodHandle" ∧ q.1.cls ≠ "java/lang/invoke/VarHandle") ∧ Cond.instantiable q.1.cls q.2 ∈ tables_1 ∧ Cond.privateMethod q.1 ∈ tables_1 ∧ Cond.instanceMethod q.1 ∈ tables_1
theorem lw_p0 : lw_okq (⟨"GloveRegret", "guestComes", "(LGloveRegret$Shelf;J)Z"⟩, 12) := ⟨⟨by decide +kernel, by decide +kernel⟩, List.mem_of_getElem? (i := 15) (by decide +kernel), List.mem_of_getElem? (i := 371) (by decide +kernel), List.mem_of_getElem? (i := 372) (by decide +kernel)⟩
theorem lw_p1 : lw_okq (⟨"GloveRegret$Tray", "numbersOf", "(I)[I"⟩, 12) := ⟨⟨by decide +kernel, by decide +kernel⟩, List.mem_of_getElem? (i := 23) (by decide +kernel), List.mem_of_getElem? (i := 388) (by decide +kernel), List.mem_of_getElem? (i := 389) (by decide +kernel)⟩
theorem lw_p2 : lw_okq (⟨"GloveRegret$Changes", "forgetOldest", "()V"⟩, 6) := ⟨⟨by decide +kernel, by decide +kernel⟩, List.mem_of_getElem? (i := 227) (by decide +kernel), List.mem_of_getElem? (i := 414) (by decide +kernel), List.mem_of_getElem? (i := 415) (by decide +kernel)⟩
theorem lw_p3 : lw_okq (⟨"GloveRegret$LawText", "begin", "()V"⟩, 9) := ⟨⟨by decide +kernel, by decide +kernel⟩, List.mem_of_getElem? (i := 89) (by decide +kernel), List.mem_of_getElem? (i := 437) (by decide +kernel), List.mem_of_getElem? (i := 438) (by decide +kernel)⟩
theorem lw_p4 : lw_okq (⟨"GloveRegret$LawText", "takesOperand", "(I)Z"⟩, 9) := ⟨⟨by decide +kernel, by decide +kernel⟩, List.mem_of_getElem? (i := 89) (by decide +kernel), List.mem_of_getElem? (i := 441) (by decide +kernel), List.mem_of_getElem? (i := 442) (by decide +kernel)⟩
theorem lw_p5 : lw_okq (⟨"GloveRegret$LawText", "emit", "(I)V"⟩, 9) := ⟨⟨by decide +kernel, by decide +kernel⟩, List.mem_of_getElem? (i := 89) (by decide +kernel), List.mem_of_getElem? (i := 448) (by decide +kernel), List.mem_of_getElem? (i := 449) (by decide +kernel)⟩
theorem lw_p6 : lw_okq (⟨"GloveRegret$LawText", "endOperand", "(I)V"⟩, 9) := ⟨⟨by decide +kernel, by decide +kernel⟩, List.mem_of_getElem? (i := 89) (by decide +kernel), List.mem_of_getElem? (i := 452) (by decide +kernel), List.mem_of_getElem? (i := 453) (by decide +kernel)⟩
theorem lw_p7 : lw_okq (⟨"GloveRegret$LawText", "release", "(I)I"⟩, 9) := ⟨⟨by decide +kernel, by decide +kernel⟩, List.mem_of_getElem? (i := 89) (by decide +kernel), List.mem_of_getElem? (i := 456) (by decide +kernel), List.mem_of_getElem? (i := 457) (by decide +kernel)⟩
theorem lw_p8 : lw_okq (⟨"GloveRegret$LawText", "await", "(I)V"⟩, 9) := ⟨⟨by decide +kernel, by decide +kernel⟩, List.mem_of_getElem? (i := 89) (by decide +kernel), List.mem_of_getElem? (i := 466) (by decide +kernel), List.mem_of_getElem? (i := 467) (by decide +kernel)⟩
theorem lw_p9 : lw_okq (⟨"GloveRegret$LawText", "takesSign", "(I)Z"⟩, 9) := ⟨⟨by decide +kernel, by decide +kernel⟩, List.mem_of_getElem? (i := 89) (by decide +kernel), List.mem_of_getElem? (i := 470) (by decide +kernel), List.mem_of_getElem? (i := 471) (by decide +kernel)⟩
theorem lw_p10 : lw_okq (⟨"GloveRegret$LawText", "takesDigit", "(I)Z"⟩, 9) := ⟨⟨by decide +kernel, by decide +kernel⟩, List.mem_of_getElem? (i := 89) (by decide +kernel), List.mem_of_getElem? (i := 474) (by decide +kernel), List.mem_of_getElem? (i := 475) (by decide +kernel)⟩
theorem lw_p11 : lw_okq (⟨"GloveRegret$LawText", "closes", "()Z"⟩, 9) := ⟨⟨by decide +kernel, by decide +kernel⟩, List.mem_of_getElem? (i := 89) (by decide +kernel), List.mem_of_getElem? (i := 478) (by decide +kernel), List.mem_of_getElem? (i := 479) (by decide +kernel)⟩
theorem lw_p12 : lw_okq (⟨"GloveRegret$LawText", "endsPart", "(I)Z"⟩, 9) := ⟨⟨by decide +kernel, by decide +kernel⟩, List.mem_of_getElem? (i := 89) (by decide +kernel), List.mem_of_getElem? (i := 482) (by decide +kernel), List.mem_of_getElem? (i := 483) (by decide +kernel)⟩
theorem lw_p13 : lw_okq (⟨"GloveRegret$LawText", "endsE", "()Z"⟩, 9) := ⟨⟨by decide +kernel, by decide +kernel⟩, List.mem_of_getElem? (i := 89) (by decide +kernel), List.mem_of_getElem? (i := 486) (by decide +kernel), List.mem_of_getElem? (i := 487) (by decide +kernel)⟩
theorem lw_p14 : lw_okq (⟨"GloveRegret$Law", "push", "(I)V"⟩, 4) := ⟨⟨by decide +kernel, by decide +kernel⟩, List.mem_of_getElem? (i := 125) (by decide +kernel), List.mem_of_getElem? (i := 533) (by decide +kernel), List.mem_of_getElem? (i := 534) (by decide +kernel)⟩
theorem lw_p15 : lw_okq (⟨"GloveRegret$Law", "workOut", "(I)V"⟩, 4) := ⟨⟨by decide +kernel, by decide +kernel⟩, List.mem_of_getElem? (i := 125) (by decide +kernel), List.mem_of_getElem? (i := 545) (by decide +kernel), List.mem_of_getElem? (i := 546) (by decide +kernel)⟩
def lw_privs_1 : List (MethodName × Nat) := [(⟨"GloveRegret", "guestComes", "(LGloveRegret$Shelf;J)Z"⟩, 12), (⟨"GloveRegret$Tray", "numbersOf", "(I)[I"⟩, 12), (⟨"GloveRegret$Changes", "forgetOldest", "()V"⟩, 6), (⟨"GloveRegret$LawText", "begin", "()V"⟩, 9), (⟨"GloveRegret$LawText", "takesOperand", "(I)Z"⟩, 9), (⟨"GloveRegret$LawText", "emit", "(I)V"⟩, 9), (⟨"GloveRegret$LawText", "endOperand", "(I)V"⟩, 9), (⟨"GloveRegret$LawText", "release", "(I)I"⟩, 9), (⟨"GloveRegret$LawText", "await", "(I)V"⟩, 9), (⟨"GloveRegret$LawText", "takesSign", "(I)Z"⟩, 9), (⟨"GloveRegret$LawText", "takesDigit", "(I)Z"⟩, 9), (⟨"GloveRegret$LawText", "closes", "()Z"⟩, 9), (⟨"GloveRegret$LawText", "endsPart", "(I)Z"⟩, 9), (⟨"GloveRegret$LawText", "endsE", "()Z"⟩, 9), (⟨"GloveRegret$Law", "push", "(I)V"⟩, 4), (⟨"GloveRegret$Law", "workOut", "(I)V"⟩, 4)]
theorem lw_r1 : ∀ q ∈ lw_privs_1, lw_okq q := List.forall_mem_cons.mpr ⟨lw_p0, List.forall_mem_cons.mpr ⟨lw_p1, List.forall_mem_cons.mpr ⟨lw_p2, List.forall_mem_cons.mpr ⟨lw_p3, List.forall_mem_cons.mpr ⟨lw_p4, List.forall_mem_cons.mpr ⟨lw_p5, List.forall_mem_cons.mpr ⟨lw_p6, List.forall_mem_cons.mpr ⟨lw_p7, List.forall_mem_cons.mpr ⟨lw_p8, List.forall_mem_cons.mpr ⟨lw_p9, List.forall_mem_cons.mpr ⟨lw_p10, List.forall_mem_cons.mpr ⟨lw_p11, List.forall_mem_cons.mpr ⟨lw_p12, List.forall_mem_cons.mpr ⟨lw_p13, List.forall_mem_cons.mpr ⟨lw_p14, List.forall_mem_cons.mpr ⟨lw_p15, fun _ h => absurd h List.not_mem_nil⟩⟩⟩⟩⟩⟩⟩⟩⟩⟩⟩⟩⟩⟩⟩⟩
theorem lw_p16 : lw_okq (⟨"GloveRegret$Law", "pop", "()I"⟩, 4) := ⟨⟨by decide +kernel, by decide +kernel⟩, List.mem_of_getElem? (i := 125) (by decide +kernel), List.mem_of_getElem? (i := 549) (by decide +kernel), List.mem_of_getElem? (i := 550) (by decide +kernel)⟩
theorem lw_p17 : lw_okq (⟨"GloveRegret$Turns", "best", "(IIIZ)I"⟩, 4) := ⟨⟨by decide +kernel, by decide +kernel⟩, List.mem_of_getElem? (i := 179) (by decide +kernel), List.mem_of_getElem? (i := 667) (by decide +kernel), List.mem_of_getElem? (i := 668) (by decide +kernel)⟩
theorem lw_p18 : lw_okq (⟨"GloveRegret$Turns", "endOf", "(II)I"⟩, 4) := ⟨⟨by decide +kernel, by decide +kernel⟩, List.mem_of_getElem? (i := 179) (by decide +kernel), List.mem_of_getElem? (i := 671) (by decide +kernel), List.mem_of_getElem? (i := 672) (by decide +kernel)⟩
theorem lw_p19 : lw_okq (⟨"GloveRegret$Hooks", "own", "(IIII)I"⟩, 4) := ⟨⟨by decide +kernel, by decide +kernel⟩, List.mem_of_getElem? (i := 253) (by decide +kernel), List.mem_of_getElem? (i := 776) (by decide +kernel), List.mem_of_getElem? (i := 777) (by decide +kernel)⟩
theorem lw_p20 : lw_okq (⟨"GloveRegret$Hooks", "run", "(IIIII)I"⟩, 4) := ⟨⟨by decide +kernel, by decide +kernel⟩, List.mem_of_getElem? (i := 253) (by decide +kernel), List.mem_of_getElem? (i := 780) (by decide +kernel), List.mem_of_getElem? (i := 781) (by decide +kernel)⟩
theorem lw_p21 : lw_okq (⟨"GloveRegret$Hooks", "note", "(I)V"⟩, 4) := ⟨⟨by decide +kernel, by decide +kernel⟩, List.mem_of_getElem? (i := 253) (by decide +kernel), List.mem_of_getElem? (i := 788) (by decide +kernel), List.mem_of_getElem? (i := 789) (by decide +kernel)⟩
theorem lw_p22 : lw_okq (⟨"GloveRegret$Hooks", "above", "(IIIII)I"⟩, 4) := ⟨⟨by decide +kernel, by decide +kernel⟩, List.mem_of_getElem? (i := 253) (by decide +kernel), List.mem_of_getElem? (i := 792) (by decide +kernel), List.mem_of_getElem? (i := 793) (by decide +kernel)⟩
theorem lw_p23 : lw_okq (⟨"GloveRegretModel", "add", "(IIIII)I"⟩, 46) := ⟨⟨by decide +kernel, by decide +kernel⟩, List.mem_of_getElem? (i := 852) (by decide +kernel), List.mem_of_getElem? (i := 1005) (by decide +kernel), List.mem_of_getElem? (i := 1006) (by decide +kernel)⟩
theorem lw_p24 : lw_okq (⟨"GloveRegretModel", "change", "(III)V"⟩, 46) := ⟨⟨by decide +kernel, by decide +kernel⟩, List.mem_of_getElem? (i := 852) (by decide +kernel), List.mem_of_getElem? (i := 1009) (by decide +kernel), List.mem_of_getElem? (i := 1010) (by decide +kernel)⟩
theorem lw_p25 : lw_okq (⟨"GloveRegretModel", "isGuest", "(I)Z"⟩, 46) := ⟨⟨by decide +kernel, by decide +kernel⟩, List.mem_of_getElem? (i := 852) (by decide +kernel), List.mem_of_getElem? (i := 1017) (by decide +kernel), List.mem_of_getElem? (i := 1018) (by decide +kernel)⟩
theorem lw_p26 : lw_okq (⟨"GloveRegretModel", "addSlip", "(III)I"⟩, 46) := ⟨⟨by decide +kernel, by decide +kernel⟩, List.mem_of_getElem? (i := 852) (by decide +kernel), List.mem_of_getElem? (i := 1021) (by decide +kernel), List.mem_of_getElem? (i := 1022) (by decide +kernel)⟩
theorem lw_p27 : lw_okq (⟨"GloveRegretModel", "place", "(II)I"⟩, 46) := ⟨⟨by decide +kernel, by decide +kernel⟩, List.mem_of_getElem? (i := 852) (by decide +kernel), List.mem_of_getElem? (i := 1029) (by decide +kernel), List.mem_of_getElem? (i := 1030) (by decide +kernel)⟩
theorem lw_p28 : lw_okq (⟨"GloveRegretModel", "gives", "()I"⟩, 46) := ⟨⟨by decide +kernel, by decide +kernel⟩, List.mem_of_getElem? (i := 852) (by decide +kernel), List.mem_of_getElem? (i := 1053) (by decide +kernel), List.mem_of_getElem? (i := 1054) (by decide +kernel)⟩
theorem lw_p29 : lw_okq (⟨"GloveRegretModel", "any", "()I"⟩, 46) := ⟨⟨by decide +kernel, by decide +kernel⟩, List.mem_of_getElem? (i := 852) (by decide +kernel), List.mem_of_getElem? (i := 1057) (by decide +kernel), List.mem_of_getElem? (i := 1058) (by decide +kernel)⟩
theorem lw_p30 : lw_okq (⟨"GloveRegretModel", "both", "()I"⟩, 46) := ⟨⟨by decide +kernel, by decide +kernel⟩, List.mem_of_getElem? (i := 852) (by decide +kernel), List.mem_of_getElem? (i := 1061) (by decide +kernel), List.mem_of_getElem? (i := 1062) (by decide +kernel)⟩
theorem lw_p31 : lw_okq (⟨"GloveRegretModel", "compared", "()I"⟩, 46) := ⟨⟨by decide +kernel, by decide +kernel⟩, List.mem_of_getElem? (i := 852) (by decide +kernel), List.mem_of_getElem? (i := 1065) (by decide +kernel), List.mem_of_getElem? (i := 1066) (by decide +kernel)⟩
def lw_privs_2 : List (MethodName × Nat) := [(⟨"GloveRegret$Law", "pop", "()I"⟩, 4), (⟨"GloveRegret$Turns", "best", "(IIIZ)I"⟩, 4), (⟨"GloveRegret$Turns", "endOf", "(II)I"⟩, 4), (⟨"GloveRegret$Hooks", "own", "(IIII)I"⟩, 4), (⟨"GloveRegret$Hooks", "run", "(IIIII)I"⟩, 4), (⟨"GloveRegret$Hooks", "note", "(I)V"⟩, 4), (⟨"GloveRegret$Hooks", "above", "(IIIII)I"⟩, 4), (⟨"GloveRegretModel", "add", "(IIIII)I"⟩, 46), (⟨"GloveRegretModel", "change", "(III)V"⟩, 46), (⟨"GloveRegretModel", "isGuest", "(I)Z"⟩, 46), (⟨"GloveRegretModel", "addSlip", "(III)I"⟩, 46), (⟨"GloveRegretModel", "place", "(II)I"⟩, 46), (⟨"GloveRegretModel", "gives", "()I"⟩, 46), (⟨"GloveRegretModel", "any", "()I"⟩, 46), (⟨"GloveRegretModel", "both", "()I"⟩, 46), (⟨"GloveRegretModel", "compared", "()I"⟩, 46)]
theorem lw_r2 : ∀ q ∈ lw_privs_2, lw_okq q := List.forall_mem_cons.mpr ⟨lw_p16, List.forall_mem_cons.mpr ⟨lw_p17, List.forall_mem_cons.mpr ⟨lw_p18, List.forall_mem_cons.mpr ⟨lw_p19, List.forall_mem_cons.mpr ⟨lw_p20, List.forall_mem_cons.mpr ⟨lw_p21, List.forall_mem_cons.mpr ⟨lw_p22, List.forall_mem_cons.mpr ⟨lw_p23, List.forall_mem_cons.mpr ⟨lw_p24, List.forall_mem_cons.mpr ⟨lw_p25, List.forall_mem_cons.mpr ⟨lw_p26, List.forall_mem_cons.mpr ⟨lw_p27, List.forall_mem_cons.mpr ⟨lw_p28, List.forall_mem_cons.mpr ⟨lw_p29, List.forall_mem_cons.mpr ⟨lw_p30, List.forall_mem_cons.mpr ⟨lw_p31, fun _ h => absurd h List.not_mem_nil⟩⟩⟩⟩⟩⟩⟩⟩⟩⟩⟩⟩⟩⟩⟩⟩
theorem lw_p32 : lw_okq (⟨"GloveRegretModel", "total", "()I"⟩, 46) := ⟨⟨by decide +kernel, by decide +kernel⟩, List.mem_of_getElem? (i := 852) (by decide +kernel), List.mem_of_getElem? (i := 1069) (by decide +kernel), List.mem_of_getElem? (i := 1070) (by decide +kernel)⟩
theorem lw_p33 : lw_okq (⟨"GloveRegretModel", "product", "()I"⟩, 46) := ⟨⟨by decide +kernel, by decide +kernel⟩, List.mem_of_getElem? (i := 852) (by decide +kernel), List.mem_of_getElem? (i := 1073) (by decide +kernel), List.mem_of_getElem? (i := 1074) (by decide +kernel)⟩
theorem lw_p34 : lw_okq (⟨"GloveRegretModel", "one", "()I"⟩, 46) := ⟨⟨by decide +kernel, by decide +kernel⟩, List.mem_of_getElem? (i := 852) (by decide +kernel), List.mem_of_getElem? (i := 1077) (by decide +kernel), List.mem_of_getElem? (i := 1078) (by decide +kernel)⟩
theorem lw_p35 : lw_okq (⟨"GloveRegretModel", "isDigit", "()Z"⟩, 46) := ⟨⟨by decide +kernel, by decide +kernel⟩, List.mem_of_getElem? (i := 852) (by decide +kernel), List.mem_of_getElem? (i := 1081) (by decide +kernel), List.mem_of_getElem? (i := 1082) (by decide +kernel)⟩
theorem lw_p36 : lw_okq (⟨"GloveRegretModel", "number", "()I"⟩, 46) := ⟨⟨by decide +kernel, by decide +kernel⟩, List.mem_of_getElem? (i := 852) (by decide +kernel), List.mem_of_getElem? (i := 1085) (by decide +kernel), List.mem_of_getElem? (i := 1086) (by decide +kernel)⟩
theorem lw_p37 : lw_okq (⟨"GloveRegretModel", "isAt", "(I)Z"⟩, 46) := ⟨⟨by decide +kernel, by decide +kernel⟩, List.mem_of_getElem? (i := 852) (by decide +kernel), List.mem_of_getElem? (i := 1089) (by decide +kernel), List.mem_of_getElem? (i := 1090) (by decide +kernel)⟩
theorem lw_p38 : lw_okq (⟨"GloveRegretModel", "opens", "()Z"⟩, 46) := ⟨⟨by decide +kernel, by decide +kernel⟩, List.mem_of_getElem? (i := 852) (by decide +kernel), List.mem_of_getElem? (i := 1093) (by decide +kernel), List.mem_of_getElem? (i := 1094) (by decide +kernel)⟩
theorem lw_p39 : lw_okq (⟨"GloveRegretModel", "keepAll", "(I)V"⟩, 46) := ⟨⟨by decide +kernel, by decide +kernel⟩, List.mem_of_getElem? (i := 852) (by decide +kernel), List.mem_of_getElem? (i := 1101) (by decide +kernel), List.mem_of_getElem? (i := 1102) (by decide +kernel)⟩
theorem lw_p40 : lw_okq (⟨"GloveRegretModel", "goMinutes", "(I)V"⟩, 46) := ⟨⟨by decide +kernel, by decide +kernel⟩, List.mem_of_getElem? (i := 852) (by decide +kernel), List.mem_of_getElem? (i := 1105) (by decide +kernel), List.mem_of_getElem? (i := 1106) (by decide +kernel)⟩
theorem lw_p41 : lw_okq (⟨"GloveRegretModel", "goMinute", "()V"⟩, 46) := ⟨⟨by decide +kernel, by decide +kernel⟩, List.mem_of_getElem? (i := 852) (by decide +kernel), List.mem_of_getElem? (i := 1109) (by decide +kernel), List.mem_of_getElem? (i := 1110) (by decide +kernel)⟩
theorem lw_p42 : lw_okq (⟨"GloveRegretModel", "isHere", "(I)Z"⟩, 46) := ⟨⟨by decide +kernel, by decide +kernel⟩, List.mem_of_getElem? (i := 852) (by decide +kernel), List.mem_of_getElem? (i := 1113) (by decide +kernel), List.mem_of_getElem? (i := 1114) (by decide +kernel)⟩
theorem lw_p43 : lw_okq (⟨"GloveRegretModel", "number", "(II)I"⟩, 46) := ⟨⟨by decide +kernel, by decide +kernel⟩, List.mem_of_getElem? (i := 852) (by decide +kernel), List.mem_of_getElem? (i := 1117) (by decide +kernel), List.mem_of_getElem? (i := 1118) (by decide +kernel)⟩
theorem lw_p44 : lw_okq (⟨"GloveRegretModel", "sorryBy", "(I)I"⟩, 46) := ⟨⟨by decide +kernel, by decide +kernel⟩, List.mem_of_getElem? (i := 852) (by decide +kernel), List.mem_of_getElem? (i := 1126) (by decide +kernel), List.mem_of_getElem? (i := 1127) (by decide +kernel)⟩
theorem lw_p45 : lw_okq (⟨"GloveRegretModel", "left", "()I"⟩, 46) := ⟨⟨by decide +kernel, by decide +kernel⟩, List.mem_of_getElem? (i := 852) (by decide +kernel), List.mem_of_getElem? (i := 1130) (by decide +kernel), List.mem_of_getElem? (i := 1131) (by decide +kernel)⟩
theorem lw_p46 : lw_okq (⟨"GloveRegretModel", "placeOf", "(I)I"⟩, 46) := ⟨⟨by decide +kernel, by decide +kernel⟩, List.mem_of_getElem? (i := 852) (by decide +kernel), List.mem_of_getElem? (i := 1134) (by decide +kernel), List.mem_of_getElem? (i := 1135) (by decide +kernel)⟩
theorem lw_p47 : lw_okq (⟨"GloveRegretModel", "lay", "()I"⟩, 46) := ⟨⟨by decide +kernel, by decide +kernel⟩, List.mem_of_getElem? (i := 852) (by decide +kernel), List.mem_of_getElem? (i := 1138) (by decide +kernel), List.mem_of_getElem? (i := 1139) (by decide +kernel)⟩
def lw_privs_3 : List (MethodName × Nat) := [(⟨"GloveRegretModel", "total", "()I"⟩, 46), (⟨"GloveRegretModel", "product", "()I"⟩, 46), (⟨"GloveRegretModel", "one", "()I"⟩, 46), (⟨"GloveRegretModel", "isDigit", "()Z"⟩, 46), (⟨"GloveRegretModel", "number", "()I"⟩, 46), (⟨"GloveRegretModel", "isAt", "(I)Z"⟩, 46), (⟨"GloveRegretModel", "opens", "()Z"⟩, 46), (⟨"GloveRegretModel", "keepAll", "(I)V"⟩, 46), (⟨"GloveRegretModel", "goMinutes", "(I)V"⟩, 46), (⟨"GloveRegretModel", "goMinute", "()V"⟩, 46), (⟨"GloveRegretModel", "isHere", "(I)Z"⟩, 46), (⟨"GloveRegretModel", "number", "(II)I"⟩, 46), (⟨"GloveRegretModel", "sorryBy", "(I)I"⟩, 46), (⟨"GloveRegretModel", "left", "()I"⟩, 46), (⟨"GloveRegretModel", "placeOf", "(I)I"⟩, 46), (⟨"GloveRegretModel", "lay", "()I"⟩, 46)]
theorem lw_r3 : ∀ q ∈ lw_privs_3, lw_okq q := List.forall_mem_cons.mpr ⟨lw_p32, List.forall_mem_cons.mpr ⟨lw_p33, List.forall_mem_cons.mpr ⟨lw_p34, List.forall_mem_cons.mpr ⟨lw_p35, List.forall_mem_cons.mpr ⟨lw_p36, List.forall_mem_cons.mpr ⟨lw_p37, List.forall_mem_cons.mpr ⟨lw_p38, List.forall_mem_cons.mpr ⟨lw_p39, List.forall_mem_cons.mpr ⟨lw_p40, List.forall_mem_cons.mpr ⟨lw_p41, List.forall_mem_cons.mpr ⟨lw_p42, List.forall_mem_cons.mpr ⟨lw_p43, List.forall_mem_cons.mpr ⟨lw_p44, List.forall_mem_cons.mpr ⟨lw_p45, List.forall_mem_cons.mpr ⟨lw_p46, List.forall_mem_cons.mpr ⟨lw_p47, fun _ h => absurd h List.not_mem_nil⟩⟩⟩⟩⟩⟩⟩⟩⟩⟩⟩⟩⟩⟩⟩⟩
theorem lw_p48 : lw_okq (⟨"GloveRegretModel", "layAll", "(I)V"⟩, 46) := ⟨⟨by decide +kernel, by decide +kernel⟩, List.mem_of_getElem? (i := 852) (by decide +kernel), List.mem_of_getElem? (i := 1142) (by decide +kernel), List.mem_of_getElem? (i := 1143) (by decide +kernel)⟩
theorem lw_p49 : lw_okq (⟨"GloveRegretModel", "firstNow", "()I"⟩, 46) := ⟨⟨by decide +kernel, by decide +kernel⟩, List.mem_of_getElem? (i := 852) (by decide +kernel), List.mem_of_getElem? (i := 1150) (by decide +kernel), List.mem_of_getElem? (i := 1151) (by decide +kernel)⟩
theorem lw_p50 : lw_okq (⟨"GloveRegretModel", "goAll", "(II)I"⟩, 46) := ⟨⟨by decide +kernel, by decide +kernel⟩, List.mem_of_getElem? (i := 852) (by decide +kernel), List.mem_of_getElem? (i := 1162) (by decide +kernel), List.mem_of_getElem? (i := 1163) (by decide +kernel)⟩
theorem lw_p51 : lw_okq (⟨"GloveRegretModel", "wentAs", "(II)I"⟩, 46) := ⟨⟨by decide +kernel, by decide +kernel⟩, List.mem_of_getElem? (i := 852) (by decide +kernel), List.mem_of_getElem? (i := 1170) (by decide +kernel), List.mem_of_getElem? (i := 1171) (by decide +kernel)⟩
theorem lw_p52 : lw_okq (⟨"GloveRegretModel", "gloves", "(II)I"⟩, 46) := ⟨⟨by decide +kernel, by decide +kernel⟩, List.mem_of_getElem? (i := 852) (by decide +kernel), List.mem_of_getElem? (i := 1194) (by decide +kernel), List.mem_of_getElem? (i := 1195) (by decide +kernel)⟩
theorem lw_p53 : lw_okq (⟨"GloveRegretModel", "byteAt", "(II)I"⟩, 46) := ⟨⟨by decide +kernel, by decide +kernel⟩, List.mem_of_getElem? (i := 852) (by decide +kernel), List.mem_of_getElem? (i := 1207) (by decide +kernel), List.mem_of_getElem? (i := 1208) (by decide +kernel)⟩
theorem lw_p54 : lw_okq (⟨"GloveRegretModel", "bytesIn", "(I)I"⟩, 46) := ⟨⟨by decide +kernel, by decide +kernel⟩, List.mem_of_getElem? (i := 852) (by decide +kernel), List.mem_of_getElem? (i := 1215) (by decide +kernel), List.mem_of_getElem? (i := 1216) (by decide +kernel)⟩
theorem lw_p55 : lw_okq (⟨"GloveRegretModel", "wrong", "(I)I"⟩, 46) := ⟨⟨by decide +kernel, by decide +kernel⟩, List.mem_of_getElem? (i := 852) (by decide +kernel), List.mem_of_getElem? (i := 1219) (by decide +kernel), List.mem_of_getElem? (i := 1220) (by decide +kernel)⟩
theorem lw_p56 : lw_okq (⟨"GloveRegretModel", "turns", "(IIII)I"⟩, 46) := ⟨⟨by decide +kernel, by decide +kernel⟩, List.mem_of_getElem? (i := 852) (by decide +kernel), List.mem_of_getElem? (i := 1236) (by decide +kernel), List.mem_of_getElem? (i := 1237) (by decide +kernel)⟩
theorem lw_p57 : lw_okq (⟨"GloveRegretModel", "does", "(III)I"⟩, 46) := ⟨⟨by decide +kernel, by decide +kernel⟩, List.mem_of_getElem? (i := 852) (by decide +kernel), List.mem_of_getElem? (i := 1284) (by decide +kernel), List.mem_of_getElem? (i := 1285) (by decide +kernel)⟩
theorem lw_p58 : lw_okq (⟨"GloveRegretModel", "byKind", "(IIII)I"⟩, 46) := ⟨⟨by decide +kernel, by decide +kernel⟩, List.mem_of_getElem? (i := 852) (by decide +kernel), List.mem_of_getElem? (i := 1288) (by decide +kernel), List.mem_of_getElem? (i := 1289) (by decide +kernel)⟩
theorem lw_p59 : lw_okq (⟨"GloveRegretModel", "rowAt", "(II)I"⟩, 46) := ⟨⟨by decide +kernel, by decide +kernel⟩, List.mem_of_getElem? (i := 852) (by decide +kernel), List.mem_of_getElem? (i := 1308) (by decide +kernel), List.mem_of_getElem? (i := 1309) (by decide +kernel)⟩
def lw_privs_4 : List (MethodName × Nat) := [(⟨"GloveRegretModel", "layAll", "(I)V"⟩, 46), (⟨"GloveRegretModel", "firstNow", "()I"⟩, 46), (⟨"GloveRegretModel", "goAll", "(II)I"⟩, 46), (⟨"GloveRegretModel", "wentAs", "(II)I"⟩, 46), (⟨"GloveRegretModel", "gloves", "(II)I"⟩, 46), (⟨"GloveRegretModel", "byteAt", "(II)I"⟩, 46), (⟨"GloveRegretModel", "bytesIn", "(I)I"⟩, 46), (⟨"GloveRegretModel", "wrong", "(I)I"⟩, 46), (⟨"GloveRegretModel", "turns", "(IIII)I"⟩, 46), (⟨"GloveRegretModel", "does", "(III)I"⟩, 46), (⟨"GloveRegretModel", "byKind", "(IIII)I"⟩, 46), (⟨"GloveRegretModel", "rowAt", "(II)I"⟩, 46)]
theorem lw_r4 : ∀ q ∈ lw_privs_4, lw_okq q := List.forall_mem_cons.mpr ⟨lw_p48, List.forall_mem_cons.mpr ⟨lw_p49, List.forall_mem_cons.mpr ⟨lw_p50, List.forall_mem_cons.mpr ⟨lw_p51, List.forall_mem_cons.mpr ⟨lw_p52, List.forall_mem_cons.mpr ⟨lw_p53, List.forall_mem_cons.mpr ⟨lw_p54, List.forall_mem_cons.mpr ⟨lw_p55, List.forall_mem_cons.mpr ⟨lw_p56, List.forall_mem_cons.mpr ⟨lw_p57, List.forall_mem_cons.mpr ⟨lw_p58, List.forall_mem_cons.mpr ⟨lw_p59, fun _ h => absurd h List.not_mem_nil⟩⟩⟩⟩⟩⟩⟩⟩⟩⟩⟩⟩
def lw_privs : List (MethodName × Nat) := lw_privs_1 ++ (lw_privs_2 ++ (lw_privs_3 ++ (lw_privs_4)))
def lw_tbl : List Cond := k2_sels lw_privs ++ tables_1
theorem lw_privs_ok : ∀ q ∈ lw_privs, lw_okq q := by
  show ∀ q ∈ lw_privs_1 ++ (lw_privs_2 ++ (lw_privs_3 ++ (lw_privs_4))), lw_okq q
  exact List.forall_mem_append.mpr ⟨lw_r1, List.forall_mem_append.mpr ⟨lw_r2, List.forall_mem_append.mpr ⟨lw_r3, lw_r4⟩⟩⟩
end
section
def RX0 : String := "GloveRegret$Changes"
def TX0 : u_T := fun k => match k with
  | 0 => ("GloveRegret$Changes", "numbers", "[I", true)
  | 1 => ("GloveRegret$Changes", "whats", "[I", true)
  | 2 => ("GloveRegret$Changes", "before", "[I", true)
  | 3 => ("GloveRegret$Changes", "behind", "[I", true)
  | 4 => ("GloveRegret$Changes", "known", "I", false)
  | _ => ("GloveRegret$Changes", "done", "I", false)
def tyX0 : Nat → FieldType := fun k => match k with
  | 0 => .array .int
  | 1 => .array .int
  | 2 => .array .int
  | 3 => .array .int
  | 4 => .int
  | _ => .int
abbrev wsX00 : List Cond := u_ws RX0 TX0 6
theorem nmX0 : ∀ a, a < 6 → ∀ b, b < 6 → a ≠ b → (TX0 a).2.1 ≠ (TX0 b).2.1 := by decide +kernel
theorem tyX0_ok : ∀ k, k < 6 → parseFieldDescriptor (TX0 k).2.2.1 = some (tyX0 k) := by decide +kernel
abbrev cX0_init : ByteArray := prog_2_method_1_code
def yX0_init : MethodName := ⟨RX0, "<init>", "()V"⟩
abbrev cX0_add : ByteArray := prog_2_method_2_code
def yX0_add : MethodName := ⟨RX0, "add", "(IIII)V"⟩
abbrev cX0_forgetOldest : ByteArray := prog_2_method_3_code
def yX0_forgetOldest : MethodName := ⟨RX0, "forgetOldest", "()V"⟩
abbrev cX0_stepBack : ByteArray := prog_2_method_4_code
def yX0_stepBack : MethodName := ⟨RX0, "stepBack", "(LGloveRegret$Tray;)I"⟩
abbrev cX0_stepOn : ByteArray := prog_2_method_5_code
def yX0_stepOn : MethodName := ⟨RX0, "stepOn", "(LGloveRegret$Tray;)I"⟩
def RX1 : String := "GloveRegret$Hooks"
def TX1 : u_T := fun k => match k with
  | 0 => ("GloveRegret$Hooks", "kinds", "[I", true)
  | 1 => ("GloveRegret$Hooks", "bodies", "I", false)
  | 2 => ("GloveRegret$Hooks", "traced", "[I", true)
  | _ => ("GloveRegret$Hooks", "ran", "I", false)
def tyX1 : Nat → FieldType := fun k => match k with
  | 0 => .array .int
  | 1 => .int
  | 2 => .array .int
  | _ => .int
abbrev wsX10 : List Cond := u_ws RX1 TX1 4
theorem nmX1 : ∀ a, a < 4 → ∀ b, b < 4 → a ≠ b → (TX1 a).2.1 ≠ (TX1 b).2.1 := by decide +kernel
theorem tyX1_ok : ∀ k, k < 4 → parseFieldDescriptor (TX1 k).2.2.1 = some (tyX1 k) := by decide +kernel
abbrev cX1_init : ByteArray := prog_3_method_1_code
def yX1_init : MethodName := ⟨RX1, "<init>", "()V"⟩
abbrev cX1_isKind : ByteArray := prog_3_method_2_code
def yX1_isKind : MethodName := ⟨RX1, "isKind", "(I)Z"⟩
abbrev cX1_hasBody : ByteArray := prog_3_method_3_code
def yX1_hasBody : MethodName := ⟨RX1, "hasBody", "(I)Z"⟩
abbrev cX1_add : ByteArray := prog_3_method_4_code
def yX1_add : MethodName := ⟨RX1, "add", "(I)I"⟩
abbrev cX1_isOfKind : ByteArray := prog_3_method_5_code
def yX1_isOfKind : MethodName := ⟨RX1, "isOfKind", "(II)Z"⟩
abbrev cX1_perform : ByteArray := prog_3_method_6_code
def yX1_perform : MethodName := ⟨RX1, "perform", "(III)I"⟩
abbrev cX1_own : ByteArray := prog_3_method_7_code
def yX1_own : MethodName := ⟨RX1, "own", "(IIII)I"⟩
abbrev cX1_above : ByteArray := prog_3_method_8_code
def yX1_above : MethodName := ⟨RX1, "above", "(IIIII)I"⟩
abbrev cX1_run : ByteArray := prog_3_method_9_code
def yX1_run : MethodName := ⟨RX1, "run", "(IIIII)I"⟩
abbrev cX1_note : ByteArray := prog_3_method_10_code
def yX1_note : MethodName := ⟨RX1, "note", "(I)V"⟩
def RX2 : String := "GloveRegret$Image"
def TX2 : u_T := fun k => match k with
  | 0 => ("GloveRegret$Image", "regret", "[I", true)
  | 1 => ("GloveRegret$Image", "looks", "[I", true)
  | 2 => ("GloveRegret$Image", "gone", "[I", true)
  | 3 => ("GloveRegret$Image", "ledger", "[I", true)
  | 4 => ("GloveRegret$Image", "guests", "I", false)
  | 5 => ("GloveRegret$Image", "minute", "I", false)
  | _ => ("GloveRegret$Image", "isTaken", "Z", false)
def tyX2 : Nat → FieldType := fun k => match k with
  | 0 => .array .int
  | 1 => .array .int
  | 2 => .array .int
  | 3 => .array .int
  | 4 => .int
  | 5 => .int
  | _ => .boolean
abbrev wsX20 : List Cond := u_ws RX2 TX2 7
theorem nmX2 : ∀ a, a < 7 → ∀ b, b < 7 → a ≠ b → (TX2 a).2.1 ≠ (TX2 b).2.1 := by decide +kernel
theorem tyX2_ok : ∀ k, k < 7 → parseFieldDescriptor (TX2 k).2.2.1 = some (tyX2 k) := by decide +kernel
abbrev cX2_init : ByteArray := prog_4_method_1_code
def yX2_init : MethodName := ⟨RX2, "<init>", "()V"⟩
abbrev cX2_take : ByteArray := prog_4_method_2_code
def yX2_take : MethodName := ⟨RX2, "take", "(LGloveRegret$Tray;[I)V"⟩
abbrev cX2_layBack : ByteArray := prog_4_method_3_code
def yX2_layBack : MethodName := ⟨RX2, "layBack", "(LGloveRegret$Tray;[I)V"⟩
def RX3 : String := "GloveRegret$Law"
def TX3 : u_T := fun k => match k with
  | 0 => ("GloveRegret$Law", "code", "[I", true)
  | 1 => ("GloveRegret$Law", "size", "I", false)
  | 2 => ("GloveRegret$Law", "stack", "[I", true)
  | _ => ("GloveRegret$Law", "stacked", "I", false)
def tyX3 : Nat → FieldType := fun k => match k with
  | 0 => .array .int
  | 1 => .int
  | 2 => .array .int
  | _ => .int
abbrev wsX30 : List Cond := u_ws RX3 TX3 4
theorem nmX3 : ∀ a, a < 4 → ∀ b, b < 4 → a ≠ b → (TX3 a).2.1 ≠ (TX3 b).2.1 := by decide +kernel
theorem tyX3_ok : ∀ k, k < 4 → parseFieldDescriptor (TX3 k).2.2.1 = some (tyX3 k) := by decide +kernel
abbrev cX3_init : ByteArray := prog_5_method_1_code
def yX3_init : MethodName := ⟨RX3, "<init>", "()V"⟩
abbrev cX3_become : ByteArray := prog_5_method_2_code
def yX3_become : MethodName := ⟨RX3, "become", "(LGloveRegret$LawText;)V"⟩
abbrev cX3_readOf : ByteArray := prog_5_method_3_code
def yX3_readOf : MethodName := ⟨RX3, "readOf", "(LGloveRegret$Tray;I)I"⟩
abbrev cX3_sorriest : ByteArray := prog_5_method_4_code
def yX3_sorriest : MethodName := ⟨RX3, "sorriest", "(LGloveRegret$Tray;I)I"⟩
abbrev cX3_placeInOrder : ByteArray := prog_5_method_5_code
def yX3_placeInOrder : MethodName := ⟨RX3, "placeInOrder", "(LGloveRegret$Tray;I)I"⟩
abbrev cX3_worthWithoutText : ByteArray := prog_5_method_6_code
def yX3_worthWithoutText : MethodName := ⟨RX3, "worthWithoutText", "(LGloveRegret$Tray;I)I"⟩
abbrev cX3_worthOfName : ByteArray := prog_5_method_7_code
def yX3_worthOfName : MethodName := ⟨RX3, "worthOfName", "(ILGloveRegret$Tray;I)I"⟩
abbrev cX3_workOut : ByteArray := prog_5_method_8_code
def yX3_workOut : MethodName := ⟨RX3, "workOut", "(I)V"⟩
abbrev cX3_worthOfTwo : ByteArray := prog_5_method_9_code
def yX3_worthOfTwo : MethodName := ⟨RX3, "worthOfTwo", "(III)I"⟩
abbrev cX3_push : ByteArray := prog_5_method_10_code
def yX3_push : MethodName := ⟨RX3, "push", "(I)V"⟩
abbrev cX3_pop : ByteArray := prog_5_method_11_code
def yX3_pop : MethodName := ⟨RX3, "pop", "()I"⟩
def RX4 : String := "GloveRegret$LawText"
def TX4 : u_T := fun k => match k with
  | 0 => ("GloveRegret$LawText", "code", "[I", true)
  | 1 => ("GloveRegret$LawText", "size", "I", false)
  | 2 => ("GloveRegret$LawText", "waiting", "[I", true)
  | 3 => ("GloveRegret$LawText", "waitingNow", "I", false)
  | 4 => ("GloveRegret$LawText", "open", "I", false)
  | 5 => ("GloveRegret$LawText", "digitsMore", "I", false)
  | 6 => ("GloveRegret$LawText", "numberAt", "I", false)
  | 7 => ("GloveRegret$LawText", "wantsOperand", "Z", false)
  | _ => ("GloveRegret$LawText", "isAsked", "Z", false)
def tyX4 : Nat → FieldType := fun k => match k with
  | 0 => .array .int
  | 1 => .int
  | 2 => .array .int
  | 3 => .int
  | 4 => .int
  | 5 => .int
  | 6 => .int
  | 7 => .boolean
  | _ => .boolean
abbrev wsX40 : List Cond := u_ws RX4 TX4 9
theorem nmX4 : ∀ a, a < 9 → ∀ b, b < 9 → a ≠ b → (TX4 a).2.1 ≠ (TX4 b).2.1 := by decide +kernel
theorem tyX4_ok : ∀ k, k < 9 → parseFieldDescriptor (TX4 k).2.2.1 = some (tyX4 k) := by decide +kernel
abbrev cX4_init : ByteArray := prog_6_method_1_code
def yX4_init : MethodName := ⟨RX4, "<init>", "()V"⟩
abbrev cX4_faultOf : ByteArray := prog_6_method_2_code
def yX4_faultOf : MethodName := ⟨RX4, "faultOf", "([II)I"⟩
abbrev cX4_begin : ByteArray := prog_6_method_3_code
def yX4_begin : MethodName := ⟨RX4, "begin", "()V"⟩
abbrev cX4_takesOperand : ByteArray := prog_6_method_4_code
def yX4_takesOperand : MethodName := ⟨RX4, "takesOperand", "(I)Z"⟩
abbrev cX4_takesSign : ByteArray := prog_6_method_5_code
def yX4_takesSign : MethodName := ⟨RX4, "takesSign", "(I)Z"⟩
abbrev cX4_takesDigit : ByteArray := prog_6_method_6_code
def yX4_takesDigit : MethodName := ⟨RX4, "takesDigit", "(I)Z"⟩
abbrev cX4_closes : ByteArray := prog_6_method_7_code
def yX4_closes : MethodName := ⟨RX4, "closes", "()Z"⟩
abbrev cX4_endsPart : ByteArray := prog_6_method_8_code
def yX4_endsPart : MethodName := ⟨RX4, "endsPart", "(I)Z"⟩
abbrev cX4_endsE : ByteArray := prog_6_method_9_code
def yX4_endsE : MethodName := ⟨RX4, "endsE", "()Z"⟩
abbrev cX4_endOperand : ByteArray := prog_6_method_10_code
def yX4_endOperand : MethodName := ⟨RX4, "endOperand", "(I)V"⟩
abbrev cX4_release : ByteArray := prog_6_method_11_code
def yX4_release : MethodName := ⟨RX4, "release", "(I)I"⟩
abbrev cX4_await : ByteArray := prog_6_method_12_code
def yX4_await : MethodName := ⟨RX4, "await", "(I)V"⟩
abbrev cX4_emit : ByteArray := prog_6_method_13_code
def yX4_emit : MethodName := ⟨RX4, "emit", "(I)V"⟩
abbrev cX4_isDigit : ByteArray := prog_6_method_14_code
def yX4_isDigit : MethodName := ⟨RX4, "isDigit", "(I)Z"⟩
abbrev cX4_isName : ByteArray := prog_6_method_15_code
def yX4_isName : MethodName := ⟨RX4, "isName", "(I)Z"⟩
abbrev cX4_rankOf : ByteArray := prog_6_method_16_code
def yX4_rankOf : MethodName := ⟨RX4, "rankOf", "(I)I"⟩
def RX5 : String := "GloveRegret$Shelf"
def TX5 : u_T := fun k => match k with
  | 0 => ("GloveRegret$Shelf", "holds", "I", false)
  | 1 => ("GloveRegret$Shelf", "hook", "I", false)
  | 2 => ("GloveRegret$Shelf", "sort", "I", false)
  | 3 => ("GloveRegret$Shelf", "size", "I", false)
  | _ => ("GloveRegret$Shelf", "elements", "[J", true)
def tyX5 : Nat → FieldType := fun k => match k with
  | 0 => .int
  | 1 => .int
  | 2 => .int
  | 3 => .int
  | _ => .array .long
abbrev wsX50 : List Cond := u_ws RX5 TX5 5
theorem nmX5 : ∀ a, a < 5 → ∀ b, b < 5 → a ≠ b → (TX5 a).2.1 ≠ (TX5 b).2.1 := by decide +kernel
theorem tyX5_ok : ∀ k, k < 5 → parseFieldDescriptor (TX5 k).2.2.1 = some (tyX5 k) := by decide +kernel
abbrev cX5_init : ByteArray := prog_7_method_1_code
def yX5_init : MethodName := ⟨RX5, "<init>", "()V"⟩
abbrev cX5_isRowOf : ByteArray := prog_7_method_2_code
def yX5_isRowOf : MethodName := ⟨RX5, "isRowOf", "(I)Z"⟩
abbrev cX5_holdRow : ByteArray := prog_7_method_3_code
def yX5_holdRow : MethodName := ⟨RX5, "holdRow", "(II)V"⟩
abbrev cX5_hasPlaces : ByteArray := prog_7_method_4_code
def yX5_hasPlaces : MethodName := ⟨RX5, "hasPlaces", "(II)Z"⟩
abbrev cX5_cut : ByteArray := prog_7_method_5_code
def yX5_cut : MethodName := ⟨RX5, "cut", "(J)J"⟩
def RX6 : String := "GloveRegret$Thought"
def TX6 : u_T := fun k => match k with
  | 0 => ("GloveRegret$Thought", "real", "LGloveRegret$Tray;", true)
  | 1 => ("GloveRegret$Thought", "law", "LGloveRegret$Law;", true)
  | 2 => ("GloveRegret$Thought", "tray", "LGloveRegret$Tray;", true)
  | 3 => ("GloveRegret$Thought", "goers", "[I", true)
  | 4 => ("GloveRegret$Thought", "went", "I", false)
  | 5 => ("GloveRegret$Thought", "regretAsTheyWent", "I", false)
  | _ => ("GloveRegret$Thought", "seed", "I", false)
def tyX6 : Nat → FieldType := fun k => match k with
  | 0 => .object "GloveRegret$Tray"
  | 1 => .object "GloveRegret$Law"
  | 2 => .object "GloveRegret$Tray"
  | 3 => .array .int
  | 4 => .int
  | 5 => .int
  | _ => .int
abbrev wsX60 : List Cond := u_ws RX6 TX6 7
theorem nmX6 : ∀ a, a < 7 → ∀ b, b < 7 → a ≠ b → (TX6 a).2.1 ≠ (TX6 b).2.1 := by decide +kernel
theorem tyX6_ok : ∀ k, k < 7 → parseFieldDescriptor (TX6 k).2.2.1 = some (tyX6 k) := by decide +kernel
abbrev cX6_init : ByteArray := prog_8_method_1_code
def yX6_init : MethodName := ⟨RX6, "<init>", "(LGloveRegret$Tray;LGloveRegret$Law;)V"⟩
abbrev cX6_startBehind : ByteArray := prog_8_method_2_code
def yX6_startBehind : MethodName := ⟨RX6, "startBehind", "(I)V"⟩
abbrev cX6_allGo : ByteArray := prog_8_method_3_code
def yX6_allGo : MethodName := ⟨RX6, "allGo", "(I)V"⟩
abbrev cX6_placeOfGoer : ByteArray := prog_8_method_4_code
def yX6_placeOfGoer : MethodName := ⟨RX6, "placeOfGoer", "(I)I"⟩
abbrev cX6_placeBySlip : ByteArray := prog_8_method_5_code
def yX6_placeBySlip : MethodName := ⟨RX6, "placeBySlip", "(IIII)I"⟩
abbrev cX6_regretOfGoers : ByteArray := prog_8_method_6_code
def yX6_regretOfGoers : MethodName := ⟨RX6, "regretOfGoers", "(I)I"⟩
abbrev cX6_firstOtherwise : ByteArray := prog_8_method_7_code
def yX6_firstOtherwise : MethodName := ⟨RX6, "firstOtherwise", "(LGloveRegret$Shelf;)I"⟩
abbrev cX6_sup : ByteArray := prog_8_method_8_code
def yX6_sup : MethodName := ⟨RX6, "sup", "(II)V"⟩
def RX7 : String := "GloveRegret$Tray"
def TX7 : u_T := fun k => match k with
  | 0 => ("GloveRegret$Tray", "regret", "[I", true)
  | 1 => ("GloveRegret$Tray", "fades", "[I", true)
  | 2 => ("GloveRegret$Tray", "looks", "[I", true)
  | 3 => ("GloveRegret$Tray", "hand", "[I", true)
  | 4 => ("GloveRegret$Tray", "size", "[I", true)
  | 5 => ("GloveRegret$Tray", "gone", "[I", true)
  | 6 => ("GloveRegret$Tray", "by", "[I", true)
  | 7 => ("GloveRegret$Tray", "at", "[I", true)
  | 8 => ("GloveRegret$Tray", "weight", "[I", true)
  | 9 => ("GloveRegret$Tray", "guests", "I", false)
  | 10 => ("GloveRegret$Tray", "slips", "I", false)
  | _ => ("GloveRegret$Tray", "minute", "I", false)
def tyX7 : Nat → FieldType := fun k => match k with
  | 0 => .array .int
  | 1 => .array .int
  | 2 => .array .int
  | 3 => .array .int
  | 4 => .array .int
  | 5 => .array .int
  | 6 => .array .int
  | 7 => .array .int
  | 8 => .array .int
  | 9 => .int
  | 10 => .int
  | _ => .int
abbrev wsX70 : List Cond := u_ws RX7 TX7 12
theorem nmX7 : ∀ a, a < 12 → ∀ b, b < 12 → a ≠ b → (TX7 a).2.1 ≠ (TX7 b).2.1 := by decide +kernel
theorem tyX7_ok : ∀ k, k < 12 → parseFieldDescriptor (TX7 k).2.2.1 = some (tyX7 k) := by decide +kernel
abbrev cX7_init : ByteArray := prog_9_method_1_code
def yX7_init : MethodName := ⟨RX7, "<init>", "()V"⟩
abbrev cX7_hasGuest : ByteArray := prog_9_method_2_code
def yX7_hasGuest : MethodName := ⟨RX7, "hasGuest", "(I)Z"⟩
abbrev cX7_isLeft : ByteArray := prog_9_method_3_code
def yX7_isLeft : MethodName := ⟨RX7, "isLeft", "(I)Z"⟩
abbrev cX7_howManyLeft : ByteArray := prog_9_method_4_code
def yX7_howManyLeft : MethodName := ⟨RX7, "howManyLeft", "()I"⟩
abbrev cX7_howManyGloves : ByteArray := prog_9_method_5_code
def yX7_howManyGloves : MethodName := ⟨RX7, "howManyGloves", "(II)I"⟩
abbrev cX7_regretOfAll : ByteArray := prog_9_method_6_code
def yX7_regretOfAll : MethodName := ⟨RX7, "regretOfAll", "()I"⟩
abbrev cX7_addGuest : ByteArray := prog_9_method_7_code
def yX7_addGuest : MethodName := ⟨RX7, "addGuest", "(II)I"⟩
abbrev cX7_addSlip : ByteArray := prog_9_method_8_code
def yX7_addSlip : MethodName := ⟨RX7, "addSlip", "(III)I"⟩
abbrev cX7_hasNumber : ByteArray := prog_9_method_9_code
def yX7_hasNumber : MethodName := ⟨RX7, "hasNumber", "(II)Z"⟩
abbrev cX7_numberOf : ByteArray := prog_9_method_10_code
def yX7_numberOf : MethodName := ⟨RX7, "numberOf", "(II)I"⟩
abbrev cX7_setNumber : ByteArray := prog_9_method_11_code
def yX7_setNumber : MethodName := ⟨RX7, "setNumber", "(III)V"⟩
abbrev cX7_numbersOf : ByteArray := prog_9_method_12_code
def yX7_numbersOf : MethodName := ⟨RX7, "numbersOf", "(I)[I"⟩
abbrev cX7_passMinute : ByteArray := prog_9_method_13_code
def yX7_passMinute : MethodName := ⟨RX7, "passMinute", "()V"⟩
abbrev cX7_becomeLike : ByteArray := prog_9_method_14_code
def yX7_becomeLike : MethodName := ⟨RX7, "becomeLike", "(LGloveRegret$Tray;)V"⟩
def RX8 : String := "GloveRegret$Turns"
def TX8 : u_T := fun k => match k with
  | 0 => ("GloveRegret$Turns", "thought", "LGloveRegret$Thought;", true)
  | 1 => ("GloveRegret$Turns", "one", "I", false)
  | 2 => ("GloveRegret$Turns", "other", "I", false)
  | _ => ("GloveRegret$Turns", "ends", "[I", true)
def tyX8 : Nat → FieldType := fun k => match k with
  | 0 => .object "GloveRegret$Thought"
  | 1 => .int
  | 2 => .int
  | _ => .array .int
abbrev wsX80 : List Cond := u_ws RX8 TX8 4
theorem nmX8 : ∀ a, a < 4 → ∀ b, b < 4 → a ≠ b → (TX8 a).2.1 ≠ (TX8 b).2.1 := by decide +kernel
theorem tyX8_ok : ∀ k, k < 4 → parseFieldDescriptor (TX8 k).2.2.1 = some (tyX8 k) := by decide +kernel
abbrev cX8_init : ByteArray := prog_10_method_1_code
def yX8_init : MethodName := ⟨RX8, "<init>", "(LGloveRegret$Thought;)V"⟩
abbrev cX8_begin : ByteArray := prog_10_method_2_code
def yX8_begin : MethodName := ⟨RX8, "begin", "(II)V"⟩
abbrev cX8_best : ByteArray := prog_10_method_3_code
def yX8_best : MethodName := ⟨RX8, "best", "(IIIZ)I"⟩
abbrev cX8_afterTurn : ByteArray := prog_10_method_4_code
def yX8_afterTurn : MethodName := ⟨RX8, "afterTurn", "(II)I"⟩
abbrev cX8_endOf : ByteArray := prog_10_method_5_code
def yX8_endOf : MethodName := ⟨RX8, "endOf", "(II)I"⟩
def RX9 : String := "GloveRegret"
def TX9 : u_T := fun k => match k with
  | 0 => ("GloveRegret", "tray", "LGloveRegret$Tray;", true)
  | 1 => ("GloveRegret", "tape", "[I", true)
  | 2 => ("GloveRegret", "tapeLength", "I", false)
  | 3 => ("GloveRegret", "text", "LGloveRegret$LawText;", true)
  | 4 => ("GloveRegret", "reading", "LGloveRegret$Law;", true)
  | 5 => ("GloveRegret", "thought", "LGloveRegret$Thought;", true)
  | 6 => ("GloveRegret", "turns", "LGloveRegret$Turns;", true)
  | 7 => ("GloveRegret", "ledger", "[I", true)
  | 8 => ("GloveRegret", "kept", "LGloveRegret$Image;", true)
  | 9 => ("GloveRegret", "changes", "LGloveRegret$Changes;", true)
  | 10 => ("GloveRegret", "hooks", "LGloveRegret$Hooks;", true)
  | _ => ("GloveRegret", "shelves", "[LGloveRegret$Shelf;", true)
def tyX9 : Nat → FieldType := fun k => match k with
  | 0 => .object "GloveRegret$Tray"
  | 1 => .array .int
  | 2 => .int
  | 3 => .object "GloveRegret$LawText"
  | 4 => .object "GloveRegret$Law"
  | 5 => .object "GloveRegret$Thought"
  | 6 => .object "GloveRegret$Turns"
  | 7 => .array .int
  | 8 => .object "GloveRegret$Image"
  | 9 => .object "GloveRegret$Changes"
  | 10 => .object "GloveRegret$Hooks"
  | _ => .array (.object "GloveRegret$Shelf")
abbrev wsX90 : List Cond := u_ws RX9 TX9 12
theorem nmX9 : ∀ a, a < 12 → ∀ b, b < 12 → a ≠ b → (TX9 a).2.1 ≠ (TX9 b).2.1 := by decide +kernel
theorem tyX9_ok : ∀ k, k < 12 → parseFieldDescriptor (TX9 k).2.2.1 = some (tyX9 k) := by decide +kernel
abbrev cX9_init : ByteArray := prog_1_method_1_code
def yX9_init : MethodName := ⟨RX9, "<init>", "()V"⟩
abbrev cX9_guest : ByteArray := prog_1_method_2_code
def yX9_guest : MethodName := ⟨RX9, "guest", "(II)I"⟩
abbrev cX9_guests : ByteArray := prog_1_method_3_code
def yX9_guests : MethodName := ⟨RX9, "guests", "(III)I"⟩
abbrev cX9_slip : ByteArray := prog_1_method_4_code
def yX9_slip : MethodName := ⟨RX9, "slip", "(III)I"⟩
abbrev cX9_mend : ByteArray := prog_1_method_5_code
def yX9_mend : MethodName := ⟨RX9, "mend", "(III)I"⟩
abbrev cX9_of : ByteArray := prog_1_method_6_code
def yX9_of : MethodName := ⟨RX9, "of", "(II)I"⟩
abbrev cX9_feed : ByteArray := prog_1_method_7_code
def yX9_feed : MethodName := ⟨RX9, "feed", "(I)I"⟩
abbrev cX9_law : ByteArray := prog_1_method_8_code
def yX9_law : MethodName := ⟨RX9, "law", "()I"⟩
abbrev cX9_later : ByteArray := prog_1_method_9_code
def yX9_later : MethodName := ⟨RX9, "later", "(III)I"⟩
abbrev cX9_first : ByteArray := prog_1_method_10_code
def yX9_first : MethodName := ⟨RX9, "first", "(I)I"⟩
abbrev cX9_peak : ByteArray := prog_1_method_11_code
def yX9_peak : MethodName := ⟨RX9, "peak", "(II)I"⟩
abbrev cX9_goesAs : ByteArray := prog_1_method_12_code
def yX9_goesAs : MethodName := ⟨RX9, "goesAs", "(II)I"⟩
abbrev cX9_goesWhen : ByteArray := prog_1_method_13_code
def yX9_goesWhen : MethodName := ⟨RX9, "goesWhen", "(II)I"⟩
abbrev cX9_waits : ByteArray := prog_1_method_14_code
def yX9_waits : MethodName := ⟨RX9, "waits", "(I)I"⟩
abbrev cX9_sorry : ByteArray := prog_1_method_15_code
def yX9_sorry : MethodName := ⟨RX9, "sorry", "(II)I"⟩
abbrev cX9_slipWhen : ByteArray := prog_1_method_16_code
def yX9_slipWhen : MethodName := ⟨RX9, "slipWhen", "(III)I"⟩
abbrev cX9_held : ByteArray := prog_1_method_17_code
def yX9_held : MethodName := ⟨RX9, "held", "(I)I"⟩
abbrev cX9_pairs : ByteArray := prog_1_method_18_code
def yX9_pairs : MethodName := ⟨RX9, "pairs", "(I)I"⟩
abbrev cX9_judge : ByteArray := prog_1_method_19_code
def yX9_judge : MethodName := ⟨RX9, "judge", "(I)I"⟩
abbrev cX9_fits : ByteArray := prog_1_method_20_code
def yX9_fits : MethodName := ⟨RX9, "fits", "(III)I"⟩
abbrev cX9_upside : ByteArray := prog_1_method_21_code
def yX9_upside : MethodName := ⟨RX9, "upside", "(I)I"⟩
abbrev cX9_byTurns : ByteArray := prog_1_method_22_code
def yX9_byTurns : MethodName := ⟨RX9, "byTurns", "(III)I"⟩
abbrev cX9_drawn : ByteArray := prog_1_method_23_code
def yX9_drawn : MethodName := ⟨RX9, "drawn", "(III)I"⟩
abbrev cX9_slips : ByteArray := prog_1_method_24_code
def yX9_slips : MethodName := ⟨RX9, "slips", "(II)I"⟩
abbrev cX9_minute : ByteArray := prog_1_method_25_code
def yX9_minute : MethodName := ⟨RX9, "minute", "()I"⟩
abbrev cX9_goes : ByteArray := prog_1_method_26_code
def yX9_goes : MethodName := ⟨RX9, "goes", "()I"⟩
abbrev cX9_looks : ByteArray := prog_1_method_27_code
def yX9_looks : MethodName := ⟨RX9, "looks", "(II)I"⟩
abbrev cX9_led : ByteArray := prog_1_method_28_code
def yX9_led : MethodName := ⟨RX9, "led", "(I)I"⟩
abbrev cX9_image : ByteArray := prog_1_method_29_code
def yX9_image : MethodName := ⟨RX9, "image", "()I"⟩
abbrev cX9_back : ByteArray := prog_1_method_30_code
def yX9_back : MethodName := ⟨RX9, "back", "()I"⟩
abbrev cX9_undo : ByteArray := prog_1_method_31_code
def yX9_undo : MethodName := ⟨RX9, "undo", "()I"⟩
abbrev cX9_redo : ByteArray := prog_1_method_32_code
def yX9_redo : MethodName := ⟨RX9, "redo", "()I"⟩
abbrev cX9_body : ByteArray := prog_1_method_33_code
def yX9_body : MethodName := ⟨RX9, "body", "(I)I"⟩
abbrev cX9_act : ByteArray := prog_1_method_34_code
def yX9_act : MethodName := ⟨RX9, "act", "(III)I"⟩
abbrev cX9_trace : ByteArray := prog_1_method_35_code
def yX9_trace : MethodName := ⟨RX9, "trace", "(I)I"⟩
abbrev cX9_keep : ByteArray := prog_1_method_36_code
def yX9_keep : MethodName := ⟨RX9, "keep", "(II)I"⟩
abbrev cX9_row : ByteArray := prog_1_method_37_code
def yX9_row : MethodName := ⟨RX9, "row", "(III)I"⟩
abbrev cX9_put : ByteArray := prog_1_method_38_code
def yX9_put : MethodName := ⟨RX9, "put", "(IIJ)I"⟩
abbrev cX9_element : ByteArray := prog_1_method_39_code
def yX9_element : MethodName := ⟨RX9, "element", "(II)J"⟩
abbrev cX9_shift : ByteArray := prog_1_method_40_code
def yX9_shift : MethodName := ⟨RX9, "shift", "(IIIII)I"⟩
abbrev cX9_taken : ByteArray := prog_1_method_41_code
def yX9_taken : MethodName := ⟨RX9, "taken", "(II)I"⟩
abbrev cX9_count : ByteArray := prog_1_method_42_code
def yX9_count : MethodName := ⟨RX9, "count", "(I)I"⟩
abbrev cX9_isWithin : ByteArray := prog_1_method_43_code
def yX9_isWithin : MethodName := ⟨RX9, "isWithin", "(II)Z"⟩
abbrev cX9_isThought : ByteArray := prog_1_method_44_code
def yX9_isThought : MethodName := ⟨RX9, "isThought", "(I)Z"⟩
abbrev cX9_isChoiceOfTwo : ByteArray := prog_1_method_45_code
def yX9_isChoiceOfTwo : MethodName := ⟨RX9, "isChoiceOfTwo", "(I)Z"⟩
abbrev cX9_isShelf : ByteArray := prog_1_method_46_code
def yX9_isShelf : MethodName := ⟨RX9, "isShelf", "(I)Z"⟩
abbrev cX9_refusalOfBytes : ByteArray := prog_1_method_47_code
def yX9_refusalOfBytes : MethodName := ⟨RX9, "refusalOfBytes", "(LGloveRegret$Shelf;)I"⟩
abbrev cX9_refusalOfPlace : ByteArray := prog_1_method_48_code
def yX9_refusalOfPlace : MethodName := ⟨RX9, "refusalOfPlace", "(LGloveRegret$Shelf;I)I"⟩
abbrev cX9_guestComes : ByteArray := prog_1_method_49_code
def yX9_guestComes : MethodName := ⟨RX9, "guestComes", "(LGloveRegret$Shelf;J)Z"⟩
def RX10 : String := "GloveRegretModel"
def TX10 : u_T := fun k => match k with
  | 0 => ("GloveRegretModel", "now", "[I", true)
  | 1 => ("GloveRegretModel", "minds", "[I", true)
  | 2 => ("GloveRegretModel", "many", "I", false)
  | 3 => ("GloveRegretModel", "slipped", "I", false)
  | 4 => ("GloveRegretModel", "changed", "[I", true)
  | 5 => ("GloveRegretModel", "old", "[I", true)
  | 6 => ("GloveRegretModel", "young", "[I", true)
  | 7 => ("GloveRegretModel", "done", "I", false)
  | 8 => ("GloveRegretModel", "known", "I", false)
  | 9 => ("GloveRegretModel", "lows", "[I", true)
  | 10 => ("GloveRegretModel", "highs", "[I", true)
  | 11 => ("GloveRegretModel", "tape", "[I", true)
  | 12 => ("GloveRegretModel", "taped", "I", false)
  | 13 => ("GloveRegretModel", "text", "[I", true)
  | 14 => ("GloveRegretModel", "texted", "I", false)
  | 15 => ("GloveRegretModel", "isLaw", "Z", false)
  | 16 => ("GloveRegretModel", "read", "[I", true)
  | 17 => ("GloveRegretModel", "size", "I", false)
  | 18 => ("GloveRegretModel", "at", "I", false)
  | 19 => ("GloveRegretModel", "well", "Z", false)
  | 20 => ("GloveRegretModel", "open", "I", false)
  | 21 => ("GloveRegretModel", "names", "[I", true)
  | 22 => ("GloveRegretModel", "letters", "[C", true)
  | 23 => ("GloveRegretModel", "tried", "I", false)
  | 24 => ("GloveRegretModel", "triedAt", "I", false)
  | 25 => ("GloveRegretModel", "triedWeight", "I", false)
  | 26 => ("GloveRegretModel", "order", "[I", true)
  | 27 => ("GloveRegretModel", "sorry", "[I", true)
  | 28 => ("GloveRegretModel", "went", "[I", true)
  | 29 => ("GloveRegretModel", "regretted", "I", false)
  | 30 => ("GloveRegretModel", "holds", "[I", true)
  | 31 => ("GloveRegretModel", "sizes", "[I", true)
  | 32 => ("GloveRegretModel", "elements", "[J", true)
  | 33 => ("GloveRegretModel", "moved", "[J", true)
  | 34 => ("GloveRegretModel", "begun", "I", false)
  | 35 => ("GloveRegretModel", "led", "[I", true)
  | 36 => ("GloveRegretModel", "kept", "[I", true)
  | 37 => ("GloveRegretModel", "keptLed", "[I", true)
  | 38 => ("GloveRegretModel", "keptMany", "I", false)
  | 39 => ("GloveRegretModel", "isKept", "Z", false)
  | 40 => ("GloveRegretModel", "above", "[I", true)
  | 41 => ("GloveRegretModel", "acts", "[I", true)
  | 42 => ("GloveRegretModel", "kinds", "[I", true)
  | 43 => ("GloveRegretModel", "bodies", "I", false)
  | 44 => ("GloveRegretModel", "trace", "[I", true)
  | _ => ("GloveRegretModel", "ran", "I", false)
def tyX10 : Nat → FieldType := fun k => match k with
  | 0 => .array .int
  | 1 => .array .int
  | 2 => .int
  | 3 => .int
  | 4 => .array .int
  | 5 => .array .int
  | 6 => .array .int
  | 7 => .int
  | 8 => .int
  | 9 => .array .int
  | 10 => .array .int
  | 11 => .array .int
  | 12 => .int
  | 13 => .array .int
  | 14 => .int
  | 15 => .boolean
  | 16 => .array .int
  | 17 => .int
  | 18 => .int
  | 19 => .boolean
  | 20 => .int
  | 21 => .array .int
  | 22 => .array .char
  | 23 => .int
  | 24 => .int
  | 25 => .int
  | 26 => .array .int
  | 27 => .array .int
  | 28 => .array .int
  | 29 => .int
  | 30 => .array .int
  | 31 => .array .int
  | 32 => .array .long
  | 33 => .array .long
  | 34 => .int
  | 35 => .array .int
  | 36 => .array .int
  | 37 => .array .int
  | 38 => .int
  | 39 => .boolean
  | 40 => .array .int
  | 41 => .array .int
  | 42 => .array .int
  | 43 => .int
  | 44 => .array .int
  | _ => .int
abbrev wsX100 : List Cond := u_ws RX10 TX10 46
theorem nmX10 : ∀ a, a < 46 → ∀ b, b < 46 → a ≠ b → (TX10 a).2.1 ≠ (TX10 b).2.1 := by decide +kernel
theorem tyX10_ok : ∀ k, k < 46 → parseFieldDescriptor (TX10 k).2.2.1 = some (tyX10 k) := by decide +kernel
abbrev cX10_init : ByteArray := prog_12_method_1_code
def yX10_init : MethodName := ⟨RX10, "<init>", "()V"⟩
abbrev cX10_isIn : ByteArray := prog_12_method_2_code
def yX10_isIn : MethodName := ⟨RX10, "isIn", "(III)Z"⟩
abbrev cX10_bound : ByteArray := prog_12_method_3_code
def yX10_bound : MethodName := ⟨RX10, "bound", "(III)I"⟩
abbrev cX10_keepAll : ByteArray := prog_12_method_4_code
def yX10_keepAll : MethodName := ⟨RX10, "keepAll", "(I)V"⟩
abbrev cX10_layAll : ByteArray := prog_12_method_5_code
def yX10_layAll : MethodName := ⟨RX10, "layAll", "(I)V"⟩
abbrev cX10_isGuest : ByteArray := prog_12_method_6_code
def yX10_isGuest : MethodName := ⟨RX10, "isGuest", "(I)Z"⟩
abbrev cX10_number : ByteArray := prog_12_method_7_code
def yX10_number : MethodName := ⟨RX10, "number", "(II)I"⟩
abbrev cX10_change : ByteArray := prog_12_method_8_code
def yX10_change : MethodName := ⟨RX10, "change", "(III)V"⟩
abbrev cX10_isHere : ByteArray := prog_12_method_9_code
def yX10_isHere : MethodName := ⟨RX10, "isHere", "(I)Z"⟩
abbrev cX10_add : ByteArray := prog_12_method_10_code
def yX10_add : MethodName := ⟨RX10, "add", "(IIIII)I"⟩
abbrev cX10_guest : ByteArray := prog_12_method_11_code
def yX10_guest : MethodName := ⟨RX10, "guest", "(II)I"⟩
abbrev cX10_addSlip : ByteArray := prog_12_method_12_code
def yX10_addSlip : MethodName := ⟨RX10, "addSlip", "(III)I"⟩
abbrev cX10_slip : ByteArray := prog_12_method_13_code
def yX10_slip : MethodName := ⟨RX10, "slip", "(III)I"⟩
abbrev cX10_place : ByteArray := prog_12_method_14_code
def yX10_place : MethodName := ⟨RX10, "place", "(II)I"⟩
abbrev cX10_mend : ByteArray := prog_12_method_15_code
def yX10_mend : MethodName := ⟨RX10, "mend", "(III)I"⟩
abbrev cX10_of : ByteArray := prog_12_method_16_code
def yX10_of : MethodName := ⟨RX10, "of", "(II)I"⟩
abbrev cX10_undo : ByteArray := prog_12_method_17_code
def yX10_undo : MethodName := ⟨RX10, "undo", "()I"⟩
abbrev cX10_redo : ByteArray := prog_12_method_18_code
def yX10_redo : MethodName := ⟨RX10, "redo", "()I"⟩
abbrev cX10_feed : ByteArray := prog_12_method_19_code
def yX10_feed : MethodName := ⟨RX10, "feed", "(I)I"⟩
abbrev cX10_isAt : ByteArray := prog_12_method_20_code
def yX10_isAt : MethodName := ⟨RX10, "isAt", "(I)Z"⟩
abbrev cX10_isDigit : ByteArray := prog_12_method_21_code
def yX10_isDigit : MethodName := ⟨RX10, "isDigit", "()Z"⟩
abbrev cX10_number_ : ByteArray := prog_12_method_22_code
def yX10_number_ : MethodName := ⟨RX10, "number", "()I"⟩
abbrev cX10_opens : ByteArray := prog_12_method_23_code
def yX10_opens : MethodName := ⟨RX10, "opens", "()Z"⟩
abbrev cX10_one : ByteArray := prog_12_method_24_code
def yX10_one : MethodName := ⟨RX10, "one", "()I"⟩
abbrev cX10_product : ByteArray := prog_12_method_25_code
def yX10_product : MethodName := ⟨RX10, "product", "()I"⟩
abbrev cX10_total : ByteArray := prog_12_method_26_code
def yX10_total : MethodName := ⟨RX10, "total", "()I"⟩
abbrev cX10_compared : ByteArray := prog_12_method_27_code
def yX10_compared : MethodName := ⟨RX10, "compared", "()I"⟩
abbrev cX10_both : ByteArray := prog_12_method_28_code
def yX10_both : MethodName := ⟨RX10, "both", "()I"⟩
abbrev cX10_any : ByteArray := prog_12_method_29_code
def yX10_any : MethodName := ⟨RX10, "any", "()I"⟩
abbrev cX10_gives : ByteArray := prog_12_method_30_code
def yX10_gives : MethodName := ⟨RX10, "gives", "()I"⟩
abbrev cX10_law : ByteArray := prog_12_method_31_code
def yX10_law : MethodName := ⟨RX10, "law", "()I"⟩
abbrev cX10_left : ByteArray := prog_12_method_32_code
def yX10_left : MethodName := ⟨RX10, "left", "()I"⟩
abbrev cX10_sorryBy : ByteArray := prog_12_method_33_code
def yX10_sorryBy : MethodName := ⟨RX10, "sorryBy", "(I)I"⟩
abbrev cX10_goMinute : ByteArray := prog_12_method_34_code
def yX10_goMinute : MethodName := ⟨RX10, "goMinute", "()V"⟩
abbrev cX10_goMinutes : ByteArray := prog_12_method_35_code
def yX10_goMinutes : MethodName := ⟨RX10, "goMinutes", "(I)V"⟩
abbrev cX10_lay : ByteArray := prog_12_method_36_code
def yX10_lay : MethodName := ⟨RX10, "lay", "()I"⟩
abbrev cX10_placeOf : ByteArray := prog_12_method_37_code
def yX10_placeOf : MethodName := ⟨RX10, "placeOf", "(I)I"⟩
abbrev cX10_firstNow : ByteArray := prog_12_method_38_code
def yX10_firstNow : MethodName := ⟨RX10, "firstNow", "()I"⟩
abbrev cX10_later : ByteArray := prog_12_method_39_code
def yX10_later : MethodName := ⟨RX10, "later", "(III)I"⟩
abbrev cX10_first : ByteArray := prog_12_method_40_code
def yX10_first : MethodName := ⟨RX10, "first", "(I)I"⟩
abbrev cX10_peak : ByteArray := prog_12_method_41_code
def yX10_peak : MethodName := ⟨RX10, "peak", "(II)I"⟩
abbrev cX10_goAll : ByteArray := prog_12_method_42_code
def yX10_goAll : MethodName := ⟨RX10, "goAll", "(II)I"⟩
abbrev cX10_wentAs : ByteArray := prog_12_method_43_code
def yX10_wentAs : MethodName := ⟨RX10, "wentAs", "(II)I"⟩
abbrev cX10_goesAs : ByteArray := prog_12_method_44_code
def yX10_goesAs : MethodName := ⟨RX10, "goesAs", "(II)I"⟩
abbrev cX10_goesWhen : ByteArray := prog_12_method_45_code
def yX10_goesWhen : MethodName := ⟨RX10, "goesWhen", "(II)I"⟩
abbrev cX10_waits : ByteArray := prog_12_method_46_code
def yX10_waits : MethodName := ⟨RX10, "waits", "(I)I"⟩
abbrev cX10_sorry : ByteArray := prog_12_method_47_code
def yX10_sorry : MethodName := ⟨RX10, "sorry", "(II)I"⟩
abbrev cX10_slipWhen : ByteArray := prog_12_method_48_code
def yX10_slipWhen : MethodName := ⟨RX10, "slipWhen", "(III)I"⟩
abbrev cX10_held : ByteArray := prog_12_method_49_code
def yX10_held : MethodName := ⟨RX10, "held", "(I)I"⟩
abbrev cX10_gloves : ByteArray := prog_12_method_50_code
def yX10_gloves : MethodName := ⟨RX10, "gloves", "(II)I"⟩
abbrev cX10_pairs : ByteArray := prog_12_method_51_code
def yX10_pairs : MethodName := ⟨RX10, "pairs", "(I)I"⟩
abbrev cX10_isShelf : ByteArray := prog_12_method_52_code
def yX10_isShelf : MethodName := ⟨RX10, "isShelf", "(I)Z"⟩
abbrev cX10_bytesIn : ByteArray := prog_12_method_53_code
def yX10_bytesIn : MethodName := ⟨RX10, "bytesIn", "(I)I"⟩
abbrev cX10_byteAt : ByteArray := prog_12_method_54_code
def yX10_byteAt : MethodName := ⟨RX10, "byteAt", "(II)I"⟩
abbrev cX10_guests : ByteArray := prog_12_method_55_code
def yX10_guests : MethodName := ⟨RX10, "guests", "(III)I"⟩
abbrev cX10_wrong : ByteArray := prog_12_method_56_code
def yX10_wrong : MethodName := ⟨RX10, "wrong", "(I)I"⟩
abbrev cX10_judge : ByteArray := prog_12_method_57_code
def yX10_judge : MethodName := ⟨RX10, "judge", "(I)I"⟩
abbrev cX10_fits : ByteArray := prog_12_method_58_code
def yX10_fits : MethodName := ⟨RX10, "fits", "(III)I"⟩
abbrev cX10_upside : ByteArray := prog_12_method_59_code
def yX10_upside : MethodName := ⟨RX10, "upside", "(I)I"⟩
abbrev cX10_turns : ByteArray := prog_12_method_60_code
def yX10_turns : MethodName := ⟨RX10, "turns", "(IIII)I"⟩
abbrev cX10_byTurns : ByteArray := prog_12_method_61_code
def yX10_byTurns : MethodName := ⟨RX10, "byTurns", "(III)I"⟩
abbrev cX10_drawn : ByteArray := prog_12_method_62_code
def yX10_drawn : MethodName := ⟨RX10, "drawn", "(III)I"⟩
abbrev cX10_slips : ByteArray := prog_12_method_63_code
def yX10_slips : MethodName := ⟨RX10, "slips", "(II)I"⟩
abbrev cX10_minute : ByteArray := prog_12_method_64_code
def yX10_minute : MethodName := ⟨RX10, "minute", "()I"⟩
abbrev cX10_goes : ByteArray := prog_12_method_65_code
def yX10_goes : MethodName := ⟨RX10, "goes", "()I"⟩
abbrev cX10_looks : ByteArray := prog_12_method_66_code
def yX10_looks : MethodName := ⟨RX10, "looks", "(II)I"⟩
abbrev cX10_led : ByteArray := prog_12_method_67_code
def yX10_led : MethodName := ⟨RX10, "led", "(I)I"⟩
abbrev cX10_image : ByteArray := prog_12_method_68_code
def yX10_image : MethodName := ⟨RX10, "image", "()I"⟩
abbrev cX10_back : ByteArray := prog_12_method_69_code
def yX10_back : MethodName := ⟨RX10, "back", "()I"⟩
abbrev cX10_body : ByteArray := prog_12_method_70_code
def yX10_body : MethodName := ⟨RX10, "body", "(I)I"⟩
abbrev cX10_does : ByteArray := prog_12_method_71_code
def yX10_does : MethodName := ⟨RX10, "does", "(III)I"⟩
abbrev cX10_byKind : ByteArray := prog_12_method_72_code
def yX10_byKind : MethodName := ⟨RX10, "byKind", "(IIII)I"⟩
abbrev cX10_act : ByteArray := prog_12_method_73_code
def yX10_act : MethodName := ⟨RX10, "act", "(III)I"⟩
abbrev cX10_trace : ByteArray := prog_12_method_74_code
def yX10_trace : MethodName := ⟨RX10, "trace", "(I)I"⟩
abbrev cX10_keep : ByteArray := prog_12_method_75_code
def yX10_keep : MethodName := ⟨RX10, "keep", "(II)I"⟩
abbrev cX10_row : ByteArray := prog_12_method_76_code
def yX10_row : MethodName := ⟨RX10, "row", "(III)I"⟩
abbrev cX10_rowAt : ByteArray := prog_12_method_77_code
def yX10_rowAt : MethodName := ⟨RX10, "rowAt", "(II)I"⟩
abbrev cX10_put : ByteArray := prog_12_method_78_code
def yX10_put : MethodName := ⟨RX10, "put", "(IIJ)I"⟩
abbrev cX10_element : ByteArray := prog_12_method_79_code
def yX10_element : MethodName := ⟨RX10, "element", "(II)J"⟩
abbrev cX10_shift : ByteArray := prog_12_method_80_code
def yX10_shift : MethodName := ⟨RX10, "shift", "(IIIII)I"⟩
abbrev cX10_taken : ByteArray := prog_12_method_81_code
def yX10_taken : MethodName := ⟨RX10, "taken", "(II)I"⟩
abbrev cX10_count : ByteArray := prog_12_method_82_code
def yX10_count : MethodName := ⟨RX10, "count", "(I)I"⟩
def RL : String := "GloveRegretLaw"
abbrev cL_law : ByteArray := code
def yL_law : MethodName := ⟨RL, "law", "([I)Z"⟩
abbrev vwCl : List vw_C := [(RX0, TX0, 6), (RX1, TX1, 4), (RX2, TX2, 7), (RX3, TX3, 4), (RX4, TX4, 9), (RX5, TX5, 5), (RX6, TX6, 7), (RX7, TX7, 12), (RX8, TX8, 4), (RX9, TX9, 12), (RX10, TX10, 46)]
end
section
theorem dX0_init_0 : decode cX0_init 0 = .ok (.aload_n 0, 1) := by decide +kernel
theorem dX0_init_1 : decode cX0_init 1 = .ok (.invokespecial 3, 3) := by decide +kernel
theorem dX0_init_4 : decode cX0_init 4 = .ok (.aload_n 0, 1) := by decide +kernel
theorem dX0_init_5 : decode cX0_init 5 = .ok (.bipush 40, 2) := by decide +kernel
theorem dX0_init_7 : decode cX0_init 7 = .ok (.newarray .int, 2) := by decide +kernel
theorem dX0_init_9 : decode cX0_init 9 = .ok (.putfield 9, 3) := by decide +kernel
theorem dX0_init_12 : decode cX0_init 12 = .ok (.aload_n 0, 1) := by decide +kernel
theorem dX0_init_13 : decode cX0_init 13 = .ok (.bipush 40, 2) := by decide +kernel
theorem dX0_init_15 : decode cX0_init 15 = .ok (.newarray .int, 2) := by decide +kernel
theorem dX0_init_17 : decode cX0_init 17 = .ok (.putfield 15, 3) := by decide +kernel
theorem dX0_init_20 : decode cX0_init 20 = .ok (.aload_n 0, 1) := by decide +kernel
theorem dX0_init_21 : decode cX0_init 21 = .ok (.bipush 40, 2) := by decide +kernel
theorem dX0_init_23 : decode cX0_init 23 = .ok (.newarray .int, 2) := by decide +kernel
theorem dX0_init_25 : decode cX0_init 25 = .ok (.putfield 18, 3) := by decide +kernel
theorem dX0_init_28 : decode cX0_init 28 = .ok (.aload_n 0, 1) := by decide +kernel
theorem dX0_init_29 : decode cX0_init 29 = .ok (.bipush 40, 2) := by decide +kernel
theorem dX0_init_31 : decode cX0_init 31 = .ok (.newarray .int, 2) := by decide +kernel
theorem dX0_init_33 : decode cX0_init 33 = .ok (.putfield 21, 3) := by decide +kernel
theorem dX0_init_36 : decode cX0_init 36 = .ok (.aload_n 0, 1) := by decide +kernel
theorem dX0_init_37 : decode cX0_init 37 = .ok (.iconst 0, 1) := by decide +kernel
theorem dX0_init_38 : decode cX0_init 38 = .ok (.putfield 24, 3) := by decide +kernel
theorem dX0_init_41 : decode cX0_init 41 = .ok (.aload_n 0, 1) := by decide +kernel
theorem dX0_init_42 : decode cX0_init 42 = .ok (.iconst 0, 1) := by decide +kernel
theorem dX0_init_43 : decode cX0_init 43 = .ok (.putfield 28, 3) := by decide +kernel
theorem dX0_init_46 : decode cX0_init 46 = .ok (.return_, 1) := by decide +kernel
theorem dX0_add_0 : decode cX0_add 0 = .ok (.aload_n 0, 1) := by decide +kernel
theorem dX0_add_1 : decode cX0_add 1 = .ok (.getfield 28, 3) := by decide +kernel
theorem dX0_add_4 : decode cX0_add 4 = .ok (.bipush 40, 2) := by decide +kernel
theorem dX0_add_6 : decode cX0_add 6 = .ok (.if_icmp .lt 7, 3) := by decide +kernel
theorem dX0_add_9 : decode cX0_add 9 = .ok (.aload_n 0, 1) := by decide +kernel
theorem dX0_add_10 : decode cX0_add 10 = .ok (.invokevirtual 31, 3) := by decide +kernel
theorem dX0_add_13 : decode cX0_add 13 = .ok (.aload_n 0, 1) := by decide +kernel
theorem dX0_add_14 : decode cX0_add 14 = .ok (.getfield 9, 3) := by decide +kernel
theorem dX0_add_17 : decode cX0_add 17 = .ok (.aload_n 0, 1) := by decide +kernel
theorem dX0_add_18 : decode cX0_add 18 = .ok (.getfield 28, 3) := by decide +kernel
theorem dX0_add_21 : decode cX0_add 21 = .ok (.iload_n 1, 1) := by decide +kernel
theorem dX0_add_22 : decode cX0_add 22 = .ok (.iastore, 1) := by decide +kernel
theorem dX0_add_23 : decode cX0_add 23 = .ok (.aload_n 0, 1) := by decide +kernel
theorem dX0_add_24 : decode cX0_add 24 = .ok (.getfield 15, 3) := by decide +kernel
theorem dX0_add_27 : decode cX0_add 27 = .ok (.aload_n 0, 1) := by decide +kernel
theorem dX0_add_28 : decode cX0_add 28 = .ok (.getfield 28, 3) := by decide +kernel
theorem dX0_add_31 : decode cX0_add 31 = .ok (.iload_n 2, 1) := by decide +kernel
theorem dX0_add_32 : decode cX0_add 32 = .ok (.iastore, 1) := by decide +kernel
theorem dX0_add_33 : decode cX0_add 33 = .ok (.aload_n 0, 1) := by decide +kernel
theorem dX0_add_34 : decode cX0_add 34 = .ok (.getfield 18, 3) := by decide +kernel
theorem dX0_add_37 : decode cX0_add 37 = .ok (.aload_n 0, 1) := by decide +kernel
theorem dX0_add_38 : decode cX0_add 38 = .ok (.getfield 28, 3) := by decide +kernel
theorem dX0_add_41 : decode cX0_add 41 = .ok (.iload_n 3, 1) := by decide +kernel
theorem dX0_add_42 : decode cX0_add 42 = .ok (.iastore, 1) := by decide +kernel
theorem dX0_add_43 : decode cX0_add 43 = .ok (.aload_n 0, 1) := by decide +kernel
theorem dX0_add_44 : decode cX0_add 44 = .ok (.getfield 21, 3) := by decide +kernel
theorem dX0_add_47 : decode cX0_add 47 = .ok (.aload_n 0, 1) := by decide +kernel
theorem dX0_add_48 : decode cX0_add 48 = .ok (.getfield 28, 3) := by decide +kernel
theorem dX0_add_51 : decode cX0_add 51 = .ok (.iload 4, 2) := by decide +kernel
theorem dX0_add_53 : decode cX0_add 53 = .ok (.iastore, 1) := by decide +kernel
theorem dX0_add_54 : decode cX0_add 54 = .ok (.aload_n 0, 1) := by decide +kernel
theorem dX0_add_55 : decode cX0_add 55 = .ok (.dup, 1) := by decide +kernel
theorem dX0_add_56 : decode cX0_add 56 = .ok (.getfield 28, 3) := by decide +kernel
theorem dX0_add_59 : decode cX0_add 59 = .ok (.iconst 1, 1) := by decide +kernel
theorem dX0_add_60 : decode cX0_add 60 = .ok (.iadd, 1) := by decide +kernel
theorem dX0_add_61 : decode cX0_add 61 = .ok (.putfield 28, 3) := by decide +kernel
theorem dX0_add_64 : decode cX0_add 64 = .ok (.aload_n 0, 1) := by decide +kernel
theorem dX0_add_65 : decode cX0_add 65 = .ok (.aload_n 0, 1) := by decide +kernel
theorem dX0_add_66 : decode cX0_add 66 = .ok (.getfield 28, 3) := by decide +kernel
theorem dX0_add_69 : decode cX0_add 69 = .ok (.putfield 24, 3) := by decide +kernel
theorem dX0_add_72 : decode cX0_add 72 = .ok (.return_, 1) := by decide +kernel
theorem dX0_forgetOldest_0 : decode cX0_forgetOldest 0 = .ok (.aload_n 0, 1) := by decide +kernel
theorem dX0_forgetOldest_1 : decode cX0_forgetOldest 1 = .ok (.bipush 39, 2) := by decide +kernel
theorem dX0_forgetOldest_3 : decode cX0_forgetOldest 3 = .ok (.putfield 28, 3) := by decide +kernel
theorem dX0_forgetOldest_6 : decode cX0_forgetOldest 6 = .ok (.aload_n 0, 1) := by decide +kernel
theorem dX0_forgetOldest_7 : decode cX0_forgetOldest 7 = .ok (.getfield 9, 3) := by decide +kernel
theorem dX0_forgetOldest_10 : decode cX0_forgetOldest 10 = .ok (.iconst 1, 1) := by decide +kernel
theorem dX0_forgetOldest_11 : decode cX0_forgetOldest 11 = .ok (.aload_n 0, 1) := by decide +kernel
theorem dX0_forgetOldest_12 : decode cX0_forgetOldest 12 = .ok (.getfield 9, 3) := by decide +kernel
theorem dX0_forgetOldest_15 : decode cX0_forgetOldest 15 = .ok (.iconst 0, 1) := by decide +kernel
theorem dX0_forgetOldest_16 : decode cX0_forgetOldest 16 = .ok (.aload_n 0, 1) := by decide +kernel
theorem dX0_forgetOldest_17 : decode cX0_forgetOldest 17 = .ok (.getfield 28, 3) := by decide +kernel
theorem dX0_forgetOldest_20 : decode cX0_forgetOldest 20 = .ok (.invokestatic 34, 3) := by decide +kernel
theorem dX0_forgetOldest_23 : decode cX0_forgetOldest 23 = .ok (.aload_n 0, 1) := by decide +kernel
theorem dX0_forgetOldest_24 : decode cX0_forgetOldest 24 = .ok (.getfield 15, 3) := by decide +kernel
theorem dX0_forgetOldest_27 : decode cX0_forgetOldest 27 = .ok (.iconst 1, 1) := by decide +kernel
theorem dX0_forgetOldest_28 : decode cX0_forgetOldest 28 = .ok (.aload_n 0, 1) := by decide +kernel
theorem dX0_forgetOldest_29 : decode cX0_forgetOldest 29 = .ok (.getfield 15, 3) := by decide +kernel
theorem dX0_forgetOldest_32 : decode cX0_forgetOldest 32 = .ok (.iconst 0, 1) := by decide +kernel
theorem dX0_forgetOldest_33 : decode cX0_forgetOldest 33 = .ok (.aload_n 0, 1) := by decide +kernel
theorem dX0_forgetOldest_34 : decode cX0_forgetOldest 34 = .ok (.getfield 28, 3) := by decide +kernel
theorem dX0_forgetOldest_37 : decode cX0_forgetOldest 37 = .ok (.invokestatic 34, 3) := by decide +kernel
theorem dX0_forgetOldest_40 : decode cX0_forgetOldest 40 = .ok (.aload_n 0, 1) := by decide +kernel
theorem dX0_forgetOldest_41 : decode cX0_forgetOldest 41 = .ok (.getfield 18, 3) := by decide +kernel
theorem dX0_forgetOldest_44 : decode cX0_forgetOldest 44 = .ok (.iconst 1, 1) := by decide +kernel
theorem dX0_forgetOldest_45 : decode cX0_forgetOldest 45 = .ok (.aload_n 0, 1) := by decide +kernel
theorem dX0_forgetOldest_46 : decode cX0_forgetOldest 46 = .ok (.getfield 18, 3) := by decide +kernel
theorem dX0_forgetOldest_49 : decode cX0_forgetOldest 49 = .ok (.iconst 0, 1) := by decide +kernel
theorem dX0_forgetOldest_50 : decode cX0_forgetOldest 50 = .ok (.aload_n 0, 1) := by decide +kernel
theorem dX0_forgetOldest_51 : decode cX0_forgetOldest 51 = .ok (.getfield 28, 3) := by decide +kernel
theorem dX0_forgetOldest_54 : decode cX0_forgetOldest 54 = .ok (.invokestatic 34, 3) := by decide +kernel
theorem dX0_forgetOldest_57 : decode cX0_forgetOldest 57 = .ok (.aload_n 0, 1) := by decide +kernel
theorem dX0_forgetOldest_58 : decode cX0_forgetOldest 58 = .ok (.getfield 21, 3) := by decide +kernel
theorem dX0_forgetOldest_61 : decode cX0_forgetOldest 61 = .ok (.iconst 1, 1) := by decide +kernel
theorem dX0_forgetOldest_62 : decode cX0_forgetOldest 62 = .ok (.aload_n 0, 1) := by decide +kernel
theorem dX0_forgetOldest_63 : decode cX0_forgetOldest 63 = .ok (.getfield 21, 3) := by decide +kernel
theorem dX0_forgetOldest_66 : decode cX0_forgetOldest 66 = .ok (.iconst 0, 1) := by decide +kernel
theorem dX0_forgetOldest_67 : decode cX0_forgetOldest 67 = .ok (.aload_n 0, 1) := by decide +kernel
theorem dX0_forgetOldest_68 : decode cX0_forgetOldest 68 = .ok (.getfield 28, 3) := by decide +kernel
theorem dX0_forgetOldest_71 : decode cX0_forgetOldest 71 = .ok (.invokestatic 34, 3) := by decide +kernel
theorem dX0_forgetOldest_74 : decode cX0_forgetOldest 74 = .ok (.return_, 1) := by decide +kernel
theorem dX0_stepBack_0 : decode cX0_stepBack 0 = .ok (.aload_n 0, 1) := by decide +kernel
theorem dX0_stepBack_1 : decode cX0_stepBack 1 = .ok (.getfield 28, 3) := by decide +kernel
theorem dX0_stepBack_4 : decode cX0_stepBack 4 = .ok (.ifCond .gt 6, 3) := by decide +kernel
theorem dX0_stepBack_7 : decode cX0_stepBack 7 = .ok (.bipush (-5), 2) := by decide +kernel
theorem dX0_stepBack_9 : decode cX0_stepBack 9 = .ok (.ireturn, 1) := by decide +kernel
theorem dX0_stepBack_10 : decode cX0_stepBack 10 = .ok (.aload_n 0, 1) := by decide +kernel
theorem dX0_stepBack_11 : decode cX0_stepBack 11 = .ok (.dup, 1) := by decide +kernel
theorem dX0_stepBack_12 : decode cX0_stepBack 12 = .ok (.getfield 28, 3) := by decide +kernel
theorem dX0_stepBack_15 : decode cX0_stepBack 15 = .ok (.iconst 1, 1) := by decide +kernel
theorem dX0_stepBack_16 : decode cX0_stepBack 16 = .ok (.isub, 1) := by decide +kernel
theorem dX0_stepBack_17 : decode cX0_stepBack 17 = .ok (.putfield 28, 3) := by decide +kernel
theorem dX0_stepBack_20 : decode cX0_stepBack 20 = .ok (.aload_n 1, 1) := by decide +kernel
theorem dX0_stepBack_21 : decode cX0_stepBack 21 = .ok (.aload_n 0, 1) := by decide +kernel
theorem dX0_stepBack_22 : decode cX0_stepBack 22 = .ok (.getfield 9, 3) := by decide +kernel
theorem dX0_stepBack_25 : decode cX0_stepBack 25 = .ok (.aload_n 0, 1) := by decide +kernel
theorem dX0_stepBack_26 : decode cX0_stepBack 26 = .ok (.getfield 28, 3) := by decide +kernel
theorem dX0_stepBack_29 : decode cX0_stepBack 29 = .ok (.iaload, 1) := by decide +kernel
theorem dX0_stepBack_30 : decode cX0_stepBack 30 = .ok (.aload_n 0, 1) := by decide +kernel
theorem dX0_stepBack_31 : decode cX0_stepBack 31 = .ok (.getfield 15, 3) := by decide +kernel
theorem dX0_stepBack_34 : decode cX0_stepBack 34 = .ok (.aload_n 0, 1) := by decide +kernel
theorem dX0_stepBack_35 : decode cX0_stepBack 35 = .ok (.getfield 28, 3) := by decide +kernel
theorem dX0_stepBack_38 : decode cX0_stepBack 38 = .ok (.iaload, 1) := by decide +kernel
theorem dX0_stepBack_39 : decode cX0_stepBack 39 = .ok (.aload_n 0, 1) := by decide +kernel
theorem dX0_stepBack_40 : decode cX0_stepBack 40 = .ok (.getfield 18, 3) := by decide +kernel
theorem dX0_stepBack_43 : decode cX0_stepBack 43 = .ok (.aload_n 0, 1) := by decide +kernel
theorem dX0_stepBack_44 : decode cX0_stepBack 44 = .ok (.getfield 28, 3) := by decide +kernel
theorem dX0_stepBack_47 : decode cX0_stepBack 47 = .ok (.iaload, 1) := by decide +kernel
theorem dX0_stepBack_48 : decode cX0_stepBack 48 = .ok (.invokevirtual 40, 3) := by decide +kernel
theorem dX0_stepBack_51 : decode cX0_stepBack 51 = .ok (.aload_n 0, 1) := by decide +kernel
theorem dX0_stepBack_52 : decode cX0_stepBack 52 = .ok (.getfield 28, 3) := by decide +kernel
theorem dX0_stepBack_55 : decode cX0_stepBack 55 = .ok (.ireturn, 1) := by decide +kernel
theorem dX0_stepOn_0 : decode cX0_stepOn 0 = .ok (.aload_n 0, 1) := by decide +kernel
theorem dX0_stepOn_1 : decode cX0_stepOn 1 = .ok (.getfield 28, 3) := by decide +kernel
theorem dX0_stepOn_4 : decode cX0_stepOn 4 = .ok (.aload_n 0, 1) := by decide +kernel
theorem dX0_stepOn_5 : decode cX0_stepOn 5 = .ok (.getfield 24, 3) := by decide +kernel
theorem dX0_stepOn_8 : decode cX0_stepOn 8 = .ok (.if_icmp .lt 6, 3) := by decide +kernel
theorem dX0_stepOn_11 : decode cX0_stepOn 11 = .ok (.bipush (-5), 2) := by decide +kernel
theorem dX0_stepOn_13 : decode cX0_stepOn 13 = .ok (.ireturn, 1) := by decide +kernel
theorem dX0_stepOn_14 : decode cX0_stepOn 14 = .ok (.aload_n 1, 1) := by decide +kernel
theorem dX0_stepOn_15 : decode cX0_stepOn 15 = .ok (.aload_n 0, 1) := by decide +kernel
theorem dX0_stepOn_16 : decode cX0_stepOn 16 = .ok (.getfield 9, 3) := by decide +kernel
theorem dX0_stepOn_19 : decode cX0_stepOn 19 = .ok (.aload_n 0, 1) := by decide +kernel
theorem dX0_stepOn_20 : decode cX0_stepOn 20 = .ok (.getfield 28, 3) := by decide +kernel
theorem dX0_stepOn_23 : decode cX0_stepOn 23 = .ok (.iaload, 1) := by decide +kernel
theorem dX0_stepOn_24 : decode cX0_stepOn 24 = .ok (.aload_n 0, 1) := by decide +kernel
theorem dX0_stepOn_25 : decode cX0_stepOn 25 = .ok (.getfield 15, 3) := by decide +kernel
theorem dX0_stepOn_28 : decode cX0_stepOn 28 = .ok (.aload_n 0, 1) := by decide +kernel
theorem dX0_stepOn_29 : decode cX0_stepOn 29 = .ok (.getfield 28, 3) := by decide +kernel
theorem dX0_stepOn_32 : decode cX0_stepOn 32 = .ok (.iaload, 1) := by decide +kernel
theorem dX0_stepOn_33 : decode cX0_stepOn 33 = .ok (.aload_n 0, 1) := by decide +kernel
theorem dX0_stepOn_34 : decode cX0_stepOn 34 = .ok (.getfield 21, 3) := by decide +kernel
theorem dX0_stepOn_37 : decode cX0_stepOn 37 = .ok (.aload_n 0, 1) := by decide +kernel
theorem dX0_stepOn_38 : decode cX0_stepOn 38 = .ok (.getfield 28, 3) := by decide +kernel
theorem dX0_stepOn_41 : decode cX0_stepOn 41 = .ok (.iaload, 1) := by decide +kernel
theorem dX0_stepOn_42 : decode cX0_stepOn 42 = .ok (.invokevirtual 40, 3) := by decide +kernel
theorem dX0_stepOn_45 : decode cX0_stepOn 45 = .ok (.aload_n 0, 1) := by decide +kernel
theorem dX0_stepOn_46 : decode cX0_stepOn 46 = .ok (.dup, 1) := by decide +kernel
theorem dX0_stepOn_47 : decode cX0_stepOn 47 = .ok (.getfield 28, 3) := by decide +kernel
theorem dX0_stepOn_50 : decode cX0_stepOn 50 = .ok (.iconst 1, 1) := by decide +kernel
theorem dX0_stepOn_51 : decode cX0_stepOn 51 = .ok (.iadd, 1) := by decide +kernel
theorem dX0_stepOn_52 : decode cX0_stepOn 52 = .ok (.putfield 28, 3) := by decide +kernel
theorem dX0_stepOn_55 : decode cX0_stepOn 55 = .ok (.aload_n 0, 1) := by decide +kernel
theorem dX0_stepOn_56 : decode cX0_stepOn 56 = .ok (.getfield 24, 3) := by decide +kernel
theorem dX0_stepOn_59 : decode cX0_stepOn 59 = .ok (.aload_n 0, 1) := by decide +kernel
theorem dX0_stepOn_60 : decode cX0_stepOn 60 = .ok (.getfield 28, 3) := by decide +kernel
theorem dX0_stepOn_63 : decode cX0_stepOn 63 = .ok (.isub, 1) := by decide +kernel
theorem dX0_stepOn_64 : decode cX0_stepOn 64 = .ok (.ireturn, 1) := by decide +kernel
theorem dX1_init_0 : decode cX1_init 0 = .ok (.aload_n 0, 1) := by decide +kernel
theorem dX1_init_1 : decode cX1_init 1 = .ok (.invokespecial 3, 3) := by decide +kernel
theorem dX1_init_4 : decode cX1_init 4 = .ok (.aload_n 0, 1) := by decide +kernel
theorem dX1_init_5 : decode cX1_init 5 = .ok (.bipush 50, 2) := by decide +kernel
theorem dX1_init_7 : decode cX1_init 7 = .ok (.newarray .int, 2) := by decide +kernel
theorem dX1_init_9 : decode cX1_init 9 = .ok (.putfield 9, 3) := by decide +kernel
theorem dX1_init_12 : decode cX1_init 12 = .ok (.aload_n 0, 1) := by decide +kernel
theorem dX1_init_13 : decode cX1_init 13 = .ok (.iconst 0, 1) := by decide +kernel
theorem dX1_init_14 : decode cX1_init 14 = .ok (.putfield 15, 3) := by decide +kernel
theorem dX1_init_17 : decode cX1_init 17 = .ok (.aload_n 0, 1) := by decide +kernel
theorem dX1_init_18 : decode cX1_init 18 = .ok (.bipush 24, 2) := by decide +kernel
theorem dX1_init_20 : decode cX1_init 20 = .ok (.newarray .int, 2) := by decide +kernel
theorem dX1_init_22 : decode cX1_init 22 = .ok (.putfield 19, 3) := by decide +kernel
theorem dX1_init_25 : decode cX1_init 25 = .ok (.aload_n 0, 1) := by decide +kernel
theorem dX1_init_26 : decode cX1_init 26 = .ok (.iconst 0, 1) := by decide +kernel
theorem dX1_init_27 : decode cX1_init 27 = .ok (.putfield 22, 3) := by decide +kernel
theorem dX1_init_30 : decode cX1_init 30 = .ok (.return_, 1) := by decide +kernel
theorem dX1_isKind_0 : decode cX1_isKind 0 = .ok (.iload_n 0, 1) := by decide +kernel
theorem dX1_isKind_1 : decode cX1_isKind 1 = .ok (.ifCond .lt 13, 3) := by decide +kernel
theorem dX1_isKind_4 : decode cX1_isKind 4 = .ok (.iload_n 0, 1) := by decide +kernel
theorem dX1_isKind_5 : decode cX1_isKind 5 = .ok (.bipush 8, 2) := by decide +kernel
theorem dX1_isKind_7 : decode cX1_isKind 7 = .ok (.if_icmp .ge 7, 3) := by decide +kernel
theorem dX1_isKind_10 : decode cX1_isKind 10 = .ok (.iconst 1, 1) := by decide +kernel
theorem dX1_isKind_11 : decode cX1_isKind 11 = .ok (.goto 4, 3) := by decide +kernel
theorem dX1_isKind_14 : decode cX1_isKind 14 = .ok (.iconst 0, 1) := by decide +kernel
theorem dX1_isKind_15 : decode cX1_isKind 15 = .ok (.ireturn, 1) := by decide +kernel
theorem dX1_hasBody_0 : decode cX1_hasBody 0 = .ok (.iload_n 1, 1) := by decide +kernel
theorem dX1_hasBody_1 : decode cX1_hasBody 1 = .ok (.ifCond .lt 15, 3) := by decide +kernel
theorem dX1_hasBody_4 : decode cX1_hasBody 4 = .ok (.iload_n 1, 1) := by decide +kernel
theorem dX1_hasBody_5 : decode cX1_hasBody 5 = .ok (.aload_n 0, 1) := by decide +kernel
theorem dX1_hasBody_6 : decode cX1_hasBody 6 = .ok (.getfield 15, 3) := by decide +kernel
theorem dX1_hasBody_9 : decode cX1_hasBody 9 = .ok (.if_icmp .ge 7, 3) := by decide +kernel
theorem dX1_hasBody_12 : decode cX1_hasBody 12 = .ok (.iconst 1, 1) := by decide +kernel
theorem dX1_hasBody_13 : decode cX1_hasBody 13 = .ok (.goto 4, 3) := by decide +kernel
theorem dX1_hasBody_16 : decode cX1_hasBody 16 = .ok (.iconst 0, 1) := by decide +kernel
theorem dX1_hasBody_17 : decode cX1_hasBody 17 = .ok (.ireturn, 1) := by decide +kernel
theorem dX1_add_0 : decode cX1_add 0 = .ok (.aload_n 0, 1) := by decide +kernel
theorem dX1_add_1 : decode cX1_add 1 = .ok (.getfield 15, 3) := by decide +kernel
theorem dX1_add_4 : decode cX1_add 4 = .ok (.bipush 50, 2) := by decide +kernel
theorem dX1_add_6 : decode cX1_add 6 = .ok (.if_icmp .lt 6, 3) := by decide +kernel
theorem dX1_add_9 : decode cX1_add 9 = .ok (.bipush (-3), 2) := by decide +kernel
theorem dX1_add_11 : decode cX1_add 11 = .ok (.ireturn, 1) := by decide +kernel
theorem dX1_add_12 : decode cX1_add 12 = .ok (.aload_n 0, 1) := by decide +kernel
theorem dX1_add_13 : decode cX1_add 13 = .ok (.getfield 9, 3) := by decide +kernel
theorem dX1_add_16 : decode cX1_add 16 = .ok (.aload_n 0, 1) := by decide +kernel
theorem dX1_add_17 : decode cX1_add 17 = .ok (.getfield 15, 3) := by decide +kernel
theorem dX1_add_20 : decode cX1_add 20 = .ok (.iload_n 1, 1) := by decide +kernel
theorem dX1_add_21 : decode cX1_add 21 = .ok (.iastore, 1) := by decide +kernel
theorem dX1_add_22 : decode cX1_add 22 = .ok (.aload_n 0, 1) := by decide +kernel
theorem dX1_add_23 : decode cX1_add 23 = .ok (.dup, 1) := by decide +kernel
theorem dX1_add_24 : decode cX1_add 24 = .ok (.getfield 15, 3) := by decide +kernel
theorem dX1_add_27 : decode cX1_add 27 = .ok (.iconst 1, 1) := by decide +kernel
theorem dX1_add_28 : decode cX1_add 28 = .ok (.iadd, 1) := by decide +kernel
theorem dX1_add_29 : decode cX1_add 29 = .ok (.putfield 15, 3) := by decide +kernel
theorem dX1_add_32 : decode cX1_add 32 = .ok (.aload_n 0, 1) := by decide +kernel
theorem dX1_add_33 : decode cX1_add 33 = .ok (.getfield 15, 3) := by decide +kernel
theorem dX1_add_36 : decode cX1_add 36 = .ok (.iconst 1, 1) := by decide +kernel
theorem dX1_add_37 : decode cX1_add 37 = .ok (.isub, 1) := by decide +kernel
theorem dX1_add_38 : decode cX1_add 38 = .ok (.ireturn, 1) := by decide +kernel
theorem dX1_isOfKind_0 : decode cX1_isOfKind 0 = .ok (.aload_n 0, 1) := by decide +kernel
theorem dX1_isOfKind_1 : decode cX1_isOfKind 1 = .ok (.iload_n 1, 1) := by decide +kernel
theorem dX1_isOfKind_2 : decode cX1_isOfKind 2 = .ok (.invokevirtual 25, 3) := by decide +kernel
theorem dX1_isOfKind_5 : decode cX1_isOfKind 5 = .ok (.ifCond .ne 5, 3) := by decide +kernel
theorem dX1_isOfKind_8 : decode cX1_isOfKind 8 = .ok (.iconst 0, 1) := by decide +kernel
theorem dX1_isOfKind_9 : decode cX1_isOfKind 9 = .ok (.ireturn, 1) := by decide +kernel
theorem dX1_isOfKind_10 : decode cX1_isOfKind 10 = .ok (.aload_n 0, 1) := by decide +kernel
theorem dX1_isOfKind_11 : decode cX1_isOfKind 11 = .ok (.getfield 9, 3) := by decide +kernel
theorem dX1_isOfKind_14 : decode cX1_isOfKind 14 = .ok (.iload_n 1, 1) := by decide +kernel
theorem dX1_isOfKind_15 : decode cX1_isOfKind 15 = .ok (.iaload, 1) := by decide +kernel
theorem dX1_isOfKind_16 : decode cX1_isOfKind 16 = .ok (.istore_n 3, 1) := by decide +kernel
theorem dX1_isOfKind_17 : decode cX1_isOfKind 17 = .ok (.iconst 0, 1) := by decide +kernel
theorem dX1_isOfKind_18 : decode cX1_isOfKind 18 = .ok (.istore 4, 2) := by decide +kernel
theorem dX1_isOfKind_20 : decode cX1_isOfKind 20 = .ok (.iload 4, 2) := by decide +kernel
theorem dX1_isOfKind_22 : decode cX1_isOfKind 22 = .ok (.bipush 8, 2) := by decide +kernel
theorem dX1_isOfKind_24 : decode cX1_isOfKind 24 = .ok (.if_icmp .ge 20, 3) := by decide +kernel
theorem dX1_isOfKind_27 : decode cX1_isOfKind 27 = .ok (.iload_n 3, 1) := by decide +kernel
theorem dX1_isOfKind_28 : decode cX1_isOfKind 28 = .ok (.iload_n 2, 1) := by decide +kernel
theorem dX1_isOfKind_29 : decode cX1_isOfKind 29 = .ok (.if_icmp .eq 15, 3) := by decide +kernel
theorem dX1_isOfKind_32 : decode cX1_isOfKind 32 = .ok (.getstatic 29, 3) := by decide +kernel
theorem dX1_isOfKind_35 : decode cX1_isOfKind 35 = .ok (.iload_n 3, 1) := by decide +kernel
theorem dX1_isOfKind_36 : decode cX1_isOfKind 36 = .ok (.iaload, 1) := by decide +kernel
theorem dX1_isOfKind_37 : decode cX1_isOfKind 37 = .ok (.istore_n 3, 1) := by decide +kernel
theorem dX1_isOfKind_38 : decode cX1_isOfKind 38 = .ok (.iinc 4 1, 3) := by decide +kernel
theorem dX1_isOfKind_41 : decode cX1_isOfKind 41 = .ok (.goto (-21), 3) := by decide +kernel
theorem dX1_isOfKind_44 : decode cX1_isOfKind 44 = .ok (.iload_n 3, 1) := by decide +kernel
theorem dX1_isOfKind_45 : decode cX1_isOfKind 45 = .ok (.iload_n 2, 1) := by decide +kernel
theorem dX1_isOfKind_46 : decode cX1_isOfKind 46 = .ok (.if_icmp .ne 7, 3) := by decide +kernel
theorem dX1_isOfKind_49 : decode cX1_isOfKind 49 = .ok (.iconst 1, 1) := by decide +kernel
theorem dX1_isOfKind_50 : decode cX1_isOfKind 50 = .ok (.goto 4, 3) := by decide +kernel
theorem dX1_isOfKind_53 : decode cX1_isOfKind 53 = .ok (.iconst 0, 1) := by decide +kernel
theorem dX1_isOfKind_54 : decode cX1_isOfKind 54 = .ok (.ireturn, 1) := by decide +kernel
theorem dX1_perform_0 : decode cX1_perform 0 = .ok (.aload_n 0, 1) := by decide +kernel
theorem dX1_perform_1 : decode cX1_perform 1 = .ok (.iconst 0, 1) := by decide +kernel
theorem dX1_perform_2 : decode cX1_perform 2 = .ok (.putfield 22, 3) := by decide +kernel
theorem dX1_perform_5 : decode cX1_perform 5 = .ok (.aload_n 0, 1) := by decide +kernel
theorem dX1_perform_6 : decode cX1_perform 6 = .ok (.iload_n 1, 1) := by decide +kernel
theorem dX1_perform_7 : decode cX1_perform 7 = .ok (.invokevirtual 25, 3) := by decide +kernel
theorem dX1_perform_10 : decode cX1_perform 10 = .ok (.ifCond .eq 12, 3) := by decide +kernel
theorem dX1_perform_13 : decode cX1_perform 13 = .ok (.iload_n 2, 1) := by decide +kernel
theorem dX1_perform_14 : decode cX1_perform 14 = .ok (.ifCond .lt 8, 3) := by decide +kernel
theorem dX1_perform_17 : decode cX1_perform 17 = .ok (.iload_n 2, 1) := by decide +kernel
theorem dX1_perform_18 : decode cX1_perform 18 = .ok (.iconst 4, 1) := by decide +kernel
theorem dX1_perform_19 : decode cX1_perform 19 = .ok (.if_icmp .lt 5, 3) := by decide +kernel
theorem dX1_perform_22 : decode cX1_perform 22 = .ok (.iconst 0, 1) := by decide +kernel
theorem dX1_perform_23 : decode cX1_perform 23 = .ok (.ireturn, 1) := by decide +kernel
theorem dX1_perform_24 : decode cX1_perform 24 = .ok (.aload_n 0, 1) := by decide +kernel
theorem dX1_perform_25 : decode cX1_perform 25 = .ok (.iload_n 1, 1) := by decide +kernel
theorem dX1_perform_26 : decode cX1_perform 26 = .ok (.iload_n 2, 1) := by decide +kernel
theorem dX1_perform_27 : decode cX1_perform 27 = .ok (.iload_n 3, 1) := by decide +kernel
theorem dX1_perform_28 : decode cX1_perform 28 = .ok (.iconst 0, 1) := by decide +kernel
theorem dX1_perform_29 : decode cX1_perform 29 = .ok (.invokevirtual 32, 3) := by decide +kernel
theorem dX1_perform_32 : decode cX1_perform 32 = .ok (.ireturn, 1) := by decide +kernel
theorem dX1_own_0 : decode cX1_own 0 = .ok (.aload_n 0, 1) := by decide +kernel
theorem dX1_own_1 : decode cX1_own 1 = .ok (.iload_n 1, 1) := by decide +kernel
theorem dX1_own_2 : decode cX1_own 2 = .ok (.aload_n 0, 1) := by decide +kernel
theorem dX1_own_3 : decode cX1_own 3 = .ok (.getfield 9, 3) := by decide +kernel
theorem dX1_own_6 : decode cX1_own 6 = .ok (.iload_n 1, 1) := by decide +kernel
theorem dX1_own_7 : decode cX1_own 7 = .ok (.iaload, 1) := by decide +kernel
theorem dX1_own_8 : decode cX1_own 8 = .ok (.iload_n 2, 1) := by decide +kernel
theorem dX1_own_9 : decode cX1_own 9 = .ok (.iload_n 3, 1) := by decide +kernel
theorem dX1_own_10 : decode cX1_own 10 = .ok (.iload 4, 2) := by decide +kernel
theorem dX1_own_12 : decode cX1_own 12 = .ok (.iconst 1, 1) := by decide +kernel
theorem dX1_own_13 : decode cX1_own 13 = .ok (.iadd, 1) := by decide +kernel
theorem dX1_own_14 : decode cX1_own 14 = .ok (.invokevirtual 36, 3) := by decide +kernel
theorem dX1_own_17 : decode cX1_own 17 = .ok (.ireturn, 1) := by decide +kernel
theorem dX1_above_0 : decode cX1_above 0 = .ok (.aload_n 0, 1) := by decide +kernel
theorem dX1_above_1 : decode cX1_above 1 = .ok (.iload_n 1, 1) := by decide +kernel
theorem dX1_above_2 : decode cX1_above 2 = .ok (.getstatic 29, 3) := by decide +kernel
theorem dX1_above_5 : decode cX1_above 5 = .ok (.iload_n 2, 1) := by decide +kernel
theorem dX1_above_6 : decode cX1_above 6 = .ok (.iaload, 1) := by decide +kernel
theorem dX1_above_7 : decode cX1_above 7 = .ok (.iload_n 3, 1) := by decide +kernel
theorem dX1_above_8 : decode cX1_above 8 = .ok (.iload 4, 2) := by decide +kernel
theorem dX1_above_10 : decode cX1_above 10 = .ok (.iload 5, 2) := by decide +kernel
theorem dX1_above_12 : decode cX1_above 12 = .ok (.iconst 1, 1) := by decide +kernel
theorem dX1_above_13 : decode cX1_above 13 = .ok (.iadd, 1) := by decide +kernel
theorem dX1_above_14 : decode cX1_above 14 = .ok (.invokevirtual 36, 3) := by decide +kernel
theorem dX1_above_17 : decode cX1_above 17 = .ok (.ireturn, 1) := by decide +kernel
theorem dX1_run_0 : decode cX1_run 0 = .ok (.iload 5, 2) := by decide +kernel
theorem dX1_run_2 : decode cX1_run 2 = .ok (.bipush 20, 2) := by decide +kernel
theorem dX1_run_4 : decode cX1_run 4 = .ok (.if_icmp .le 5, 3) := by decide +kernel
theorem dX1_run_7 : decode cX1_run 7 = .ok (.iconst 0, 1) := by decide +kernel
theorem dX1_run_8 : decode cX1_run 8 = .ok (.ireturn, 1) := by decide +kernel
theorem dX1_run_9 : decode cX1_run 9 = .ok (.iload_n 2, 1) := by decide +kernel
theorem dX1_run_10 : decode cX1_run 10 = .ok (.istore 6, 2) := by decide +kernel
theorem dX1_run_12 : decode cX1_run 12 = .ok (.iconst 0, 1) := by decide +kernel
theorem dX1_run_13 : decode cX1_run 13 = .ok (.istore 7, 2) := by decide +kernel
theorem dX1_run_15 : decode cX1_run 15 = .ok (.iload 7, 2) := by decide +kernel
theorem dX1_run_17 : decode cX1_run 17 = .ok (.bipush 8, 2) := by decide +kernel
theorem dX1_run_19 : decode cX1_run 19 = .ok (.if_icmp .ge 30, 3) := by decide +kernel
theorem dX1_run_22 : decode cX1_run 22 = .ok (.getstatic 40, 3) := by decide +kernel
theorem dX1_run_25 : decode cX1_run 25 = .ok (.iload 6, 2) := by decide +kernel
theorem dX1_run_27 : decode cX1_run 27 = .ok (.iconst 4, 1) := by decide +kernel
theorem dX1_run_28 : decode cX1_run 28 = .ok (.imul, 1) := by decide +kernel
theorem dX1_run_29 : decode cX1_run 29 = .ok (.iload_n 3, 1) := by decide +kernel
theorem dX1_run_30 : decode cX1_run 30 = .ok (.iadd, 1) := by decide +kernel
theorem dX1_run_31 : decode cX1_run 31 = .ok (.iaload, 1) := by decide +kernel
theorem dX1_run_32 : decode cX1_run 32 = .ok (.ifCond .ne 17, 3) := by decide +kernel
theorem dX1_run_35 : decode cX1_run 35 = .ok (.getstatic 29, 3) := by decide +kernel
theorem dX1_run_38 : decode cX1_run 38 = .ok (.iload 6, 2) := by decide +kernel
theorem dX1_run_40 : decode cX1_run 40 = .ok (.iaload, 1) := by decide +kernel
theorem dX1_run_41 : decode cX1_run 41 = .ok (.istore 6, 2) := by decide +kernel
theorem dX1_run_43 : decode cX1_run 43 = .ok (.iinc 7 1, 3) := by decide +kernel
theorem dX1_run_46 : decode cX1_run 46 = .ok (.goto (-31), 3) := by decide +kernel
theorem dX1_run_49 : decode cX1_run 49 = .ok (.getstatic 40, 3) := by decide +kernel
theorem dX1_run_52 : decode cX1_run 52 = .ok (.iload 6, 2) := by decide +kernel
theorem dX1_run_54 : decode cX1_run 54 = .ok (.iconst 4, 1) := by decide +kernel
theorem dX1_run_55 : decode cX1_run 55 = .ok (.imul, 1) := by decide +kernel
theorem dX1_run_56 : decode cX1_run 56 = .ok (.iload_n 3, 1) := by decide +kernel
theorem dX1_run_57 : decode cX1_run 57 = .ok (.iadd, 1) := by decide +kernel
theorem dX1_run_58 : decode cX1_run 58 = .ok (.iaload, 1) := by decide +kernel
theorem dX1_run_59 : decode cX1_run 59 = .ok (.istore 7, 2) := by decide +kernel
theorem dX1_run_61 : decode cX1_run 61 = .ok (.aload_n 0, 1) := by decide +kernel
theorem dX1_run_62 : decode cX1_run 62 = .ok (.iload 7, 2) := by decide +kernel
theorem dX1_run_64 : decode cX1_run 64 = .ok (.invokevirtual 43, 3) := by decide +kernel
theorem dX1_run_67 : decode cX1_run 67 = .ok (.iload 7, 2) := by decide +kernel
theorem dX1_run_69 : decode cX1_run 69 = .ok (.lookupswitch 309 #[(1, 115), (2, 120), (10, 141), (11, 154), (20, 159), (30, 174), (40, 188), (41, 203), (50, 218), (60, 241), (70, 256), (80, 271), (81, 294)], 115) := by decide +kernel
theorem dX1_run_184 : decode cX1_run 184 = .ok (.iload 4, 2) := by decide +kernel
theorem dX1_run_186 : decode cX1_run 186 = .ok (.iload_n 1, 1) := by decide +kernel
theorem dX1_run_187 : decode cX1_run 187 = .ok (.iadd, 1) := by decide +kernel
theorem dX1_run_188 : decode cX1_run 188 = .ok (.ireturn, 1) := by decide +kernel
theorem dX1_run_189 : decode cX1_run 189 = .ok (.aload_n 0, 1) := by decide +kernel
theorem dX1_run_190 : decode cX1_run 190 = .ok (.iload_n 1, 1) := by decide +kernel
theorem dX1_run_191 : decode cX1_run 191 = .ok (.iconst 1, 1) := by decide +kernel
theorem dX1_run_192 : decode cX1_run 192 = .ok (.iload 4, 2) := by decide +kernel
theorem dX1_run_194 : decode cX1_run 194 = .ok (.iload 5, 2) := by decide +kernel
theorem dX1_run_196 : decode cX1_run 196 = .ok (.invokevirtual 32, 3) := by decide +kernel
theorem dX1_run_199 : decode cX1_run 199 = .ok (.aload_n 0, 1) := by decide +kernel
theorem dX1_run_200 : decode cX1_run 200 = .ok (.iload_n 1, 1) := by decide +kernel
theorem dX1_run_201 : decode cX1_run 201 = .ok (.iconst 2, 1) := by decide +kernel
theorem dX1_run_202 : decode cX1_run 202 = .ok (.iconst 1, 1) := by decide +kernel
theorem dX1_run_203 : decode cX1_run 203 = .ok (.iload 5, 2) := by decide +kernel
theorem dX1_run_205 : decode cX1_run 205 = .ok (.invokevirtual 32, 3) := by decide +kernel
theorem dX1_run_208 : decode cX1_run 208 = .ok (.isub, 1) := by decide +kernel
theorem dX1_run_209 : decode cX1_run 209 = .ok (.ireturn, 1) := by decide +kernel
theorem dX1_run_210 : decode cX1_run 210 = .ok (.aload_n 0, 1) := by decide +kernel
theorem dX1_run_211 : decode cX1_run 211 = .ok (.iload_n 1, 1) := by decide +kernel
theorem dX1_run_212 : decode cX1_run 212 = .ok (.iconst 0, 1) := by decide +kernel
theorem dX1_run_213 : decode cX1_run 213 = .ok (.iload 4, 2) := by decide +kernel
theorem dX1_run_215 : decode cX1_run 215 = .ok (.iload 5, 2) := by decide +kernel
theorem dX1_run_217 : decode cX1_run 217 = .ok (.invokevirtual 32, 3) := by decide +kernel
theorem dX1_run_220 : decode cX1_run 220 = .ok (.iconst 2, 1) := by decide +kernel
theorem dX1_run_221 : decode cX1_run 221 = .ok (.imul, 1) := by decide +kernel
theorem dX1_run_222 : decode cX1_run 222 = .ok (.ireturn, 1) := by decide +kernel
theorem dX1_run_223 : decode cX1_run 223 = .ok (.iload 4, 2) := by decide +kernel
theorem dX1_run_225 : decode cX1_run 225 = .ok (.iload_n 1, 1) := by decide +kernel
theorem dX1_run_226 : decode cX1_run 226 = .ok (.ixor, 1) := by decide +kernel
theorem dX1_run_227 : decode cX1_run 227 = .ok (.ireturn, 1) := by decide +kernel
theorem dX1_run_228 : decode cX1_run 228 = .ok (.aload_n 0, 1) := by decide +kernel
theorem dX1_run_229 : decode cX1_run 229 = .ok (.iload_n 1, 1) := by decide +kernel
theorem dX1_run_230 : decode cX1_run 230 = .ok (.iload 6, 2) := by decide +kernel
theorem dX1_run_232 : decode cX1_run 232 = .ok (.iconst 0, 1) := by decide +kernel
theorem dX1_run_233 : decode cX1_run 233 = .ok (.iload 4, 2) := by decide +kernel
theorem dX1_run_235 : decode cX1_run 235 = .ok (.iload 5, 2) := by decide +kernel
theorem dX1_run_237 : decode cX1_run 237 = .ok (.invokevirtual 47, 3) := by decide +kernel
theorem dX1_run_240 : decode cX1_run 240 = .ok (.iconst 3, 1) := by decide +kernel
theorem dX1_run_241 : decode cX1_run 241 = .ok (.iadd, 1) := by decide +kernel
theorem dX1_run_242 : decode cX1_run 242 = .ok (.ireturn, 1) := by decide +kernel
theorem dX1_run_243 : decode cX1_run 243 = .ok (.aload_n 0, 1) := by decide +kernel
theorem dX1_run_244 : decode cX1_run 244 = .ok (.iload_n 1, 1) := by decide +kernel
theorem dX1_run_245 : decode cX1_run 245 = .ok (.iload 6, 2) := by decide +kernel
theorem dX1_run_247 : decode cX1_run 247 = .ok (.iconst 1, 1) := by decide +kernel
theorem dX1_run_248 : decode cX1_run 248 = .ok (.iload 4, 2) := by decide +kernel
theorem dX1_run_250 : decode cX1_run 250 = .ok (.iload 5, 2) := by decide +kernel
theorem dX1_run_252 : decode cX1_run 252 = .ok (.invokevirtual 47, 3) := by decide +kernel
theorem dX1_run_255 : decode cX1_run 255 = .ok (.ineg, 1) := by decide +kernel
theorem dX1_run_256 : decode cX1_run 256 = .ok (.ireturn, 1) := by decide +kernel
theorem dX1_run_257 : decode cX1_run 257 = .ok (.aload_n 0, 1) := by decide +kernel
theorem dX1_run_258 : decode cX1_run 258 = .ok (.iload_n 1, 1) := by decide +kernel
theorem dX1_run_259 : decode cX1_run 259 = .ok (.iload 6, 2) := by decide +kernel
theorem dX1_run_261 : decode cX1_run 261 = .ok (.iconst 2, 1) := by decide +kernel
theorem dX1_run_262 : decode cX1_run 262 = .ok (.iload 4, 2) := by decide +kernel
theorem dX1_run_264 : decode cX1_run 264 = .ok (.iload 5, 2) := by decide +kernel
theorem dX1_run_266 : decode cX1_run 266 = .ok (.invokevirtual 47, 3) := by decide +kernel
theorem dX1_run_269 : decode cX1_run 269 = .ok (.iconst 3, 1) := by decide +kernel
theorem dX1_run_270 : decode cX1_run 270 = .ok (.imul, 1) := by decide +kernel
theorem dX1_run_271 : decode cX1_run 271 = .ok (.ireturn, 1) := by decide +kernel
theorem dX1_run_272 : decode cX1_run 272 = .ok (.aload_n 0, 1) := by decide +kernel
theorem dX1_run_273 : decode cX1_run 273 = .ok (.iload_n 1, 1) := by decide +kernel
theorem dX1_run_274 : decode cX1_run 274 = .ok (.iload 6, 2) := by decide +kernel
theorem dX1_run_276 : decode cX1_run 276 = .ok (.iconst 1, 1) := by decide +kernel
theorem dX1_run_277 : decode cX1_run 277 = .ok (.iload 4, 2) := by decide +kernel
theorem dX1_run_279 : decode cX1_run 279 = .ok (.iconst 1, 1) := by decide +kernel
theorem dX1_run_280 : decode cX1_run 280 = .ok (.iadd, 1) := by decide +kernel
theorem dX1_run_281 : decode cX1_run 281 = .ok (.iload 5, 2) := by decide +kernel
theorem dX1_run_283 : decode cX1_run 283 = .ok (.invokevirtual 47, 3) := by decide +kernel
theorem dX1_run_286 : decode cX1_run 286 = .ok (.ireturn, 1) := by decide +kernel
theorem dX1_run_287 : decode cX1_run 287 = .ok (.aload_n 0, 1) := by decide +kernel
theorem dX1_run_288 : decode cX1_run 288 = .ok (.iload_n 1, 1) := by decide +kernel
theorem dX1_run_289 : decode cX1_run 289 = .ok (.iload 6, 2) := by decide +kernel
theorem dX1_run_291 : decode cX1_run 291 = .ok (.iconst 2, 1) := by decide +kernel
theorem dX1_run_292 : decode cX1_run 292 = .ok (.iload 4, 2) := by decide +kernel
theorem dX1_run_294 : decode cX1_run 294 = .ok (.iload 5, 2) := by decide +kernel
theorem dX1_run_296 : decode cX1_run 296 = .ok (.invokevirtual 47, 3) := by decide +kernel
theorem dX1_run_299 : decode cX1_run 299 = .ok (.aload_n 0, 1) := by decide +kernel
theorem dX1_run_300 : decode cX1_run 300 = .ok (.iload_n 1, 1) := by decide +kernel
theorem dX1_run_301 : decode cX1_run 301 = .ok (.iconst 0, 1) := by decide +kernel
theorem dX1_run_302 : decode cX1_run 302 = .ok (.iconst 2, 1) := by decide +kernel
theorem dX1_run_303 : decode cX1_run 303 = .ok (.iload 5, 2) := by decide +kernel
theorem dX1_run_305 : decode cX1_run 305 = .ok (.invokevirtual 32, 3) := by decide +kernel
theorem dX1_run_308 : decode cX1_run 308 = .ok (.isub, 1) := by decide +kernel
theorem dX1_run_309 : decode cX1_run 309 = .ok (.ireturn, 1) := by decide +kernel
theorem dX1_run_310 : decode cX1_run 310 = .ok (.aload_n 0, 1) := by decide +kernel
theorem dX1_run_311 : decode cX1_run 311 = .ok (.iload_n 1, 1) := by decide +kernel
theorem dX1_run_312 : decode cX1_run 312 = .ok (.iload 6, 2) := by decide +kernel
theorem dX1_run_314 : decode cX1_run 314 = .ok (.iconst 3, 1) := by decide +kernel
theorem dX1_run_315 : decode cX1_run 315 = .ok (.iload 4, 2) := by decide +kernel
theorem dX1_run_317 : decode cX1_run 317 = .ok (.iload 5, 2) := by decide +kernel
theorem dX1_run_319 : decode cX1_run 319 = .ok (.invokevirtual 47, 3) := by decide +kernel
theorem dX1_run_322 : decode cX1_run 322 = .ok (.iconst 5, 1) := by decide +kernel
theorem dX1_run_323 : decode cX1_run 323 = .ok (.ixor, 1) := by decide +kernel
theorem dX1_run_324 : decode cX1_run 324 = .ok (.ireturn, 1) := by decide +kernel
theorem dX1_run_325 : decode cX1_run 325 = .ok (.aload_n 0, 1) := by decide +kernel
theorem dX1_run_326 : decode cX1_run 326 = .ok (.iload_n 1, 1) := by decide +kernel
theorem dX1_run_327 : decode cX1_run 327 = .ok (.iload 6, 2) := by decide +kernel
theorem dX1_run_329 : decode cX1_run 329 = .ok (.iconst 0, 1) := by decide +kernel
theorem dX1_run_330 : decode cX1_run 330 = .ok (.iload 4, 2) := by decide +kernel
theorem dX1_run_332 : decode cX1_run 332 = .ok (.iload 5, 2) := by decide +kernel
theorem dX1_run_334 : decode cX1_run 334 = .ok (.invokevirtual 47, 3) := by decide +kernel
theorem dX1_run_337 : decode cX1_run 337 = .ok (.iconst 2, 1) := by decide +kernel
theorem dX1_run_338 : decode cX1_run 338 = .ok (.imul, 1) := by decide +kernel
theorem dX1_run_339 : decode cX1_run 339 = .ok (.ireturn, 1) := by decide +kernel
theorem dX1_run_340 : decode cX1_run 340 = .ok (.aload_n 0, 1) := by decide +kernel
theorem dX1_run_341 : decode cX1_run 341 = .ok (.iload_n 1, 1) := by decide +kernel
theorem dX1_run_342 : decode cX1_run 342 = .ok (.iload 6, 2) := by decide +kernel
theorem dX1_run_344 : decode cX1_run 344 = .ok (.iconst 1, 1) := by decide +kernel
theorem dX1_run_345 : decode cX1_run 345 = .ok (.iload 4, 2) := by decide +kernel
theorem dX1_run_347 : decode cX1_run 347 = .ok (.iload 5, 2) := by decide +kernel
theorem dX1_run_349 : decode cX1_run 349 = .ok (.invokevirtual 47, 3) := by decide +kernel
theorem dX1_run_352 : decode cX1_run 352 = .ok (.aload_n 0, 1) := by decide +kernel
theorem dX1_run_353 : decode cX1_run 353 = .ok (.iload_n 1, 1) := by decide +kernel
theorem dX1_run_354 : decode cX1_run 354 = .ok (.iconst 2, 1) := by decide +kernel
theorem dX1_run_355 : decode cX1_run 355 = .ok (.iconst 2, 1) := by decide +kernel
theorem dX1_run_356 : decode cX1_run 356 = .ok (.iload 5, 2) := by decide +kernel
theorem dX1_run_358 : decode cX1_run 358 = .ok (.invokevirtual 32, 3) := by decide +kernel
theorem dX1_run_361 : decode cX1_run 361 = .ok (.iadd, 1) := by decide +kernel
theorem dX1_run_362 : decode cX1_run 362 = .ok (.ireturn, 1) := by decide +kernel
theorem dX1_run_363 : decode cX1_run 363 = .ok (.aload_n 0, 1) := by decide +kernel
theorem dX1_run_364 : decode cX1_run 364 = .ok (.iload_n 1, 1) := by decide +kernel
theorem dX1_run_365 : decode cX1_run 365 = .ok (.iload 6, 2) := by decide +kernel
theorem dX1_run_367 : decode cX1_run 367 = .ok (.iconst 3, 1) := by decide +kernel
theorem dX1_run_368 : decode cX1_run 368 = .ok (.iload 4, 2) := by decide +kernel
theorem dX1_run_370 : decode cX1_run 370 = .ok (.iload 5, 2) := by decide +kernel
theorem dX1_run_372 : decode cX1_run 372 = .ok (.invokevirtual 47, 3) := by decide +kernel
theorem dX1_run_375 : decode cX1_run 375 = .ok (.iconst 1, 1) := by decide +kernel
theorem dX1_run_376 : decode cX1_run 376 = .ok (.isub, 1) := by decide +kernel
theorem dX1_run_377 : decode cX1_run 377 = .ok (.ireturn, 1) := by decide +kernel
theorem dX1_run_378 : decode cX1_run 378 = .ok (.iconst 0, 1) := by decide +kernel
theorem dX1_run_379 : decode cX1_run 379 = .ok (.ireturn, 1) := by decide +kernel
theorem dX1_note_0 : decode cX1_note 0 = .ok (.aload_n 0, 1) := by decide +kernel
theorem dX1_note_1 : decode cX1_note 1 = .ok (.getfield 22, 3) := by decide +kernel
theorem dX1_note_4 : decode cX1_note 4 = .ok (.bipush 24, 2) := by decide +kernel
theorem dX1_note_6 : decode cX1_note 6 = .ok (.if_icmp .ge 13, 3) := by decide +kernel
theorem dX1_note_9 : decode cX1_note 9 = .ok (.aload_n 0, 1) := by decide +kernel
theorem dX1_note_10 : decode cX1_note 10 = .ok (.getfield 19, 3) := by decide +kernel
theorem dX1_note_13 : decode cX1_note 13 = .ok (.aload_n 0, 1) := by decide +kernel
theorem dX1_note_14 : decode cX1_note 14 = .ok (.getfield 22, 3) := by decide +kernel
theorem dX1_note_17 : decode cX1_note 17 = .ok (.iload_n 1, 1) := by decide +kernel
theorem dX1_note_18 : decode cX1_note 18 = .ok (.iastore, 1) := by decide +kernel
theorem dX1_note_19 : decode cX1_note 19 = .ok (.aload_n 0, 1) := by decide +kernel
theorem dX1_note_20 : decode cX1_note 20 = .ok (.dup, 1) := by decide +kernel
theorem dX1_note_21 : decode cX1_note 21 = .ok (.getfield 22, 3) := by decide +kernel
theorem dX1_note_24 : decode cX1_note 24 = .ok (.iconst 1, 1) := by decide +kernel
theorem dX1_note_25 : decode cX1_note 25 = .ok (.iadd, 1) := by decide +kernel
theorem dX1_note_26 : decode cX1_note 26 = .ok (.putfield 22, 3) := by decide +kernel
theorem dX1_note_29 : decode cX1_note 29 = .ok (.return_, 1) := by decide +kernel
theorem dX2_init_0 : decode cX2_init 0 = .ok (.aload_n 0, 1) := by decide +kernel
theorem dX2_init_1 : decode cX2_init 1 = .ok (.invokespecial 3, 3) := by decide +kernel
theorem dX2_init_4 : decode cX2_init 4 = .ok (.aload_n 0, 1) := by decide +kernel
theorem dX2_init_5 : decode cX2_init 5 = .ok (.bipush 9, 2) := by decide +kernel
theorem dX2_init_7 : decode cX2_init 7 = .ok (.newarray .int, 2) := by decide +kernel
theorem dX2_init_9 : decode cX2_init 9 = .ok (.putfield 9, 3) := by decide +kernel
theorem dX2_init_12 : decode cX2_init 12 = .ok (.aload_n 0, 1) := by decide +kernel
theorem dX2_init_13 : decode cX2_init 13 = .ok (.bipush 9, 2) := by decide +kernel
theorem dX2_init_15 : decode cX2_init 15 = .ok (.newarray .int, 2) := by decide +kernel
theorem dX2_init_17 : decode cX2_init 17 = .ok (.putfield 15, 3) := by decide +kernel
theorem dX2_init_20 : decode cX2_init 20 = .ok (.aload_n 0, 1) := by decide +kernel
theorem dX2_init_21 : decode cX2_init 21 = .ok (.bipush 9, 2) := by decide +kernel
theorem dX2_init_23 : decode cX2_init 23 = .ok (.newarray .int, 2) := by decide +kernel
theorem dX2_init_25 : decode cX2_init 25 = .ok (.putfield 18, 3) := by decide +kernel
theorem dX2_init_28 : decode cX2_init 28 = .ok (.aload_n 0, 1) := by decide +kernel
theorem dX2_init_29 : decode cX2_init 29 = .ok (.iconst 5, 1) := by decide +kernel
theorem dX2_init_30 : decode cX2_init 30 = .ok (.newarray .int, 2) := by decide +kernel
theorem dX2_init_32 : decode cX2_init 32 = .ok (.putfield 21, 3) := by decide +kernel
theorem dX2_init_35 : decode cX2_init 35 = .ok (.aload_n 0, 1) := by decide +kernel
theorem dX2_init_36 : decode cX2_init 36 = .ok (.iconst 0, 1) := by decide +kernel
theorem dX2_init_37 : decode cX2_init 37 = .ok (.putfield 24, 3) := by decide +kernel
theorem dX2_init_40 : decode cX2_init 40 = .ok (.aload_n 0, 1) := by decide +kernel
theorem dX2_init_41 : decode cX2_init 41 = .ok (.iconst 0, 1) := by decide +kernel
theorem dX2_init_42 : decode cX2_init 42 = .ok (.putfield 28, 3) := by decide +kernel
theorem dX2_init_45 : decode cX2_init 45 = .ok (.aload_n 0, 1) := by decide +kernel
theorem dX2_init_46 : decode cX2_init 46 = .ok (.iconst 0, 1) := by decide +kernel
theorem dX2_init_47 : decode cX2_init 47 = .ok (.putfield 31, 3) := by decide +kernel
theorem dX2_init_50 : decode cX2_init 50 = .ok (.return_, 1) := by decide +kernel
theorem dX2_take_0 : decode cX2_take 0 = .ok (.aload_n 0, 1) := by decide +kernel
theorem dX2_take_1 : decode cX2_take 1 = .ok (.aload_n 1, 1) := by decide +kernel
theorem dX2_take_2 : decode cX2_take 2 = .ok (.getfield 35, 3) := by decide +kernel
theorem dX2_take_5 : decode cX2_take 5 = .ok (.putfield 24, 3) := by decide +kernel
theorem dX2_take_8 : decode cX2_take 8 = .ok (.aload_n 0, 1) := by decide +kernel
theorem dX2_take_9 : decode cX2_take 9 = .ok (.aload_n 1, 1) := by decide +kernel
theorem dX2_take_10 : decode cX2_take 10 = .ok (.getfield 38, 3) := by decide +kernel
theorem dX2_take_13 : decode cX2_take 13 = .ok (.putfield 28, 3) := by decide +kernel
theorem dX2_take_16 : decode cX2_take 16 = .ok (.aload_n 1, 1) := by decide +kernel
theorem dX2_take_17 : decode cX2_take 17 = .ok (.getfield 39, 3) := by decide +kernel
theorem dX2_take_20 : decode cX2_take 20 = .ok (.iconst 0, 1) := by decide +kernel
theorem dX2_take_21 : decode cX2_take 21 = .ok (.aload_n 0, 1) := by decide +kernel
theorem dX2_take_22 : decode cX2_take 22 = .ok (.getfield 9, 3) := by decide +kernel
theorem dX2_take_25 : decode cX2_take 25 = .ok (.iconst 0, 1) := by decide +kernel
theorem dX2_take_26 : decode cX2_take 26 = .ok (.aload_n 0, 1) := by decide +kernel
theorem dX2_take_27 : decode cX2_take 27 = .ok (.getfield 24, 3) := by decide +kernel
theorem dX2_take_30 : decode cX2_take 30 = .ok (.invokestatic 40, 3) := by decide +kernel
theorem dX2_take_33 : decode cX2_take 33 = .ok (.aload_n 1, 1) := by decide +kernel
theorem dX2_take_34 : decode cX2_take 34 = .ok (.getfield 46, 3) := by decide +kernel
theorem dX2_take_37 : decode cX2_take 37 = .ok (.iconst 0, 1) := by decide +kernel
theorem dX2_take_38 : decode cX2_take 38 = .ok (.aload_n 0, 1) := by decide +kernel
theorem dX2_take_39 : decode cX2_take 39 = .ok (.getfield 15, 3) := by decide +kernel
theorem dX2_take_42 : decode cX2_take 42 = .ok (.iconst 0, 1) := by decide +kernel
theorem dX2_take_43 : decode cX2_take 43 = .ok (.aload_n 0, 1) := by decide +kernel
theorem dX2_take_44 : decode cX2_take 44 = .ok (.getfield 24, 3) := by decide +kernel
theorem dX2_take_47 : decode cX2_take 47 = .ok (.invokestatic 40, 3) := by decide +kernel
theorem dX2_take_50 : decode cX2_take 50 = .ok (.aload_n 1, 1) := by decide +kernel
theorem dX2_take_51 : decode cX2_take 51 = .ok (.getfield 47, 3) := by decide +kernel
theorem dX2_take_54 : decode cX2_take 54 = .ok (.iconst 0, 1) := by decide +kernel
theorem dX2_take_55 : decode cX2_take 55 = .ok (.aload_n 0, 1) := by decide +kernel
theorem dX2_take_56 : decode cX2_take 56 = .ok (.getfield 18, 3) := by decide +kernel
theorem dX2_take_59 : decode cX2_take 59 = .ok (.iconst 0, 1) := by decide +kernel
theorem dX2_take_60 : decode cX2_take 60 = .ok (.aload_n 0, 1) := by decide +kernel
theorem dX2_take_61 : decode cX2_take 61 = .ok (.getfield 24, 3) := by decide +kernel
theorem dX2_take_64 : decode cX2_take 64 = .ok (.invokestatic 40, 3) := by decide +kernel
theorem dX2_take_67 : decode cX2_take 67 = .ok (.aload_n 2, 1) := by decide +kernel
theorem dX2_take_68 : decode cX2_take 68 = .ok (.iconst 0, 1) := by decide +kernel
theorem dX2_take_69 : decode cX2_take 69 = .ok (.aload_n 0, 1) := by decide +kernel
theorem dX2_take_70 : decode cX2_take 70 = .ok (.getfield 21, 3) := by decide +kernel
theorem dX2_take_73 : decode cX2_take 73 = .ok (.iconst 0, 1) := by decide +kernel
theorem dX2_take_74 : decode cX2_take 74 = .ok (.iconst 5, 1) := by decide +kernel
theorem dX2_take_75 : decode cX2_take 75 = .ok (.invokestatic 40, 3) := by decide +kernel
theorem dX2_take_78 : decode cX2_take 78 = .ok (.aload_n 0, 1) := by decide +kernel
theorem dX2_take_79 : decode cX2_take 79 = .ok (.iconst 1, 1) := by decide +kernel
theorem dX2_take_80 : decode cX2_take 80 = .ok (.putfield 31, 3) := by decide +kernel
theorem dX2_take_83 : decode cX2_take 83 = .ok (.return_, 1) := by decide +kernel
theorem dX2_layBack_0 : decode cX2_layBack 0 = .ok (.aload_n 1, 1) := by decide +kernel
theorem dX2_layBack_1 : decode cX2_layBack 1 = .ok (.aload_n 0, 1) := by decide +kernel
theorem dX2_layBack_2 : decode cX2_layBack 2 = .ok (.getfield 28, 3) := by decide +kernel
theorem dX2_layBack_5 : decode cX2_layBack 5 = .ok (.putfield 38, 3) := by decide +kernel
theorem dX2_layBack_8 : decode cX2_layBack 8 = .ok (.aload_n 0, 1) := by decide +kernel
theorem dX2_layBack_9 : decode cX2_layBack 9 = .ok (.getfield 9, 3) := by decide +kernel
theorem dX2_layBack_12 : decode cX2_layBack 12 = .ok (.iconst 0, 1) := by decide +kernel
theorem dX2_layBack_13 : decode cX2_layBack 13 = .ok (.aload_n 1, 1) := by decide +kernel
theorem dX2_layBack_14 : decode cX2_layBack 14 = .ok (.getfield 39, 3) := by decide +kernel
theorem dX2_layBack_17 : decode cX2_layBack 17 = .ok (.iconst 0, 1) := by decide +kernel
theorem dX2_layBack_18 : decode cX2_layBack 18 = .ok (.aload_n 0, 1) := by decide +kernel
theorem dX2_layBack_19 : decode cX2_layBack 19 = .ok (.getfield 24, 3) := by decide +kernel
theorem dX2_layBack_22 : decode cX2_layBack 22 = .ok (.invokestatic 40, 3) := by decide +kernel
theorem dX2_layBack_25 : decode cX2_layBack 25 = .ok (.aload_n 0, 1) := by decide +kernel
theorem dX2_layBack_26 : decode cX2_layBack 26 = .ok (.getfield 15, 3) := by decide +kernel
theorem dX2_layBack_29 : decode cX2_layBack 29 = .ok (.iconst 0, 1) := by decide +kernel
theorem dX2_layBack_30 : decode cX2_layBack 30 = .ok (.aload_n 1, 1) := by decide +kernel
theorem dX2_layBack_31 : decode cX2_layBack 31 = .ok (.getfield 46, 3) := by decide +kernel
theorem dX2_layBack_34 : decode cX2_layBack 34 = .ok (.iconst 0, 1) := by decide +kernel
theorem dX2_layBack_35 : decode cX2_layBack 35 = .ok (.aload_n 0, 1) := by decide +kernel
theorem dX2_layBack_36 : decode cX2_layBack 36 = .ok (.getfield 24, 3) := by decide +kernel
theorem dX2_layBack_39 : decode cX2_layBack 39 = .ok (.invokestatic 40, 3) := by decide +kernel
theorem dX2_layBack_42 : decode cX2_layBack 42 = .ok (.aload_n 0, 1) := by decide +kernel
theorem dX2_layBack_43 : decode cX2_layBack 43 = .ok (.getfield 18, 3) := by decide +kernel
theorem dX2_layBack_46 : decode cX2_layBack 46 = .ok (.iconst 0, 1) := by decide +kernel
theorem dX2_layBack_47 : decode cX2_layBack 47 = .ok (.aload_n 1, 1) := by decide +kernel
theorem dX2_layBack_48 : decode cX2_layBack 48 = .ok (.getfield 47, 3) := by decide +kernel
theorem dX2_layBack_51 : decode cX2_layBack 51 = .ok (.iconst 0, 1) := by decide +kernel
theorem dX2_layBack_52 : decode cX2_layBack 52 = .ok (.aload_n 0, 1) := by decide +kernel
theorem dX2_layBack_53 : decode cX2_layBack 53 = .ok (.getfield 24, 3) := by decide +kernel
theorem dX2_layBack_56 : decode cX2_layBack 56 = .ok (.invokestatic 40, 3) := by decide +kernel
theorem dX2_layBack_59 : decode cX2_layBack 59 = .ok (.aload_n 0, 1) := by decide +kernel
theorem dX2_layBack_60 : decode cX2_layBack 60 = .ok (.getfield 21, 3) := by decide +kernel
theorem dX2_layBack_63 : decode cX2_layBack 63 = .ok (.iconst 0, 1) := by decide +kernel
theorem dX2_layBack_64 : decode cX2_layBack 64 = .ok (.aload_n 2, 1) := by decide +kernel
theorem dX2_layBack_65 : decode cX2_layBack 65 = .ok (.iconst 0, 1) := by decide +kernel
theorem dX2_layBack_66 : decode cX2_layBack 66 = .ok (.iconst 5, 1) := by decide +kernel
theorem dX2_layBack_67 : decode cX2_layBack 67 = .ok (.invokestatic 40, 3) := by decide +kernel
theorem dX2_layBack_70 : decode cX2_layBack 70 = .ok (.return_, 1) := by decide +kernel
theorem dX3_init_0 : decode cX3_init 0 = .ok (.aload_n 0, 1) := by decide +kernel
theorem dX3_init_1 : decode cX3_init 1 = .ok (.invokespecial 3, 3) := by decide +kernel
theorem dX3_init_4 : decode cX3_init 4 = .ok (.aload_n 0, 1) := by decide +kernel
theorem dX3_init_5 : decode cX3_init 5 = .ok (.bipush 121, 2) := by decide +kernel
theorem dX3_init_7 : decode cX3_init 7 = .ok (.newarray .int, 2) := by decide +kernel
theorem dX3_init_9 : decode cX3_init 9 = .ok (.putfield 11, 3) := by decide +kernel
theorem dX3_init_12 : decode cX3_init 12 = .ok (.aload_n 0, 1) := by decide +kernel
theorem dX3_init_13 : decode cX3_init 13 = .ok (.iconst 0, 1) := by decide +kernel
theorem dX3_init_14 : decode cX3_init 14 = .ok (.putfield 17, 3) := by decide +kernel
theorem dX3_init_17 : decode cX3_init 17 = .ok (.aload_n 0, 1) := by decide +kernel
theorem dX3_init_18 : decode cX3_init 18 = .ok (.bipush 121, 2) := by decide +kernel
theorem dX3_init_20 : decode cX3_init 20 = .ok (.newarray .int, 2) := by decide +kernel
theorem dX3_init_22 : decode cX3_init 22 = .ok (.putfield 21, 3) := by decide +kernel
theorem dX3_init_25 : decode cX3_init 25 = .ok (.aload_n 0, 1) := by decide +kernel
theorem dX3_init_26 : decode cX3_init 26 = .ok (.iconst 0, 1) := by decide +kernel
theorem dX3_init_27 : decode cX3_init 27 = .ok (.putfield 24, 3) := by decide +kernel
theorem dX3_init_30 : decode cX3_init 30 = .ok (.return_, 1) := by decide +kernel
theorem dX3_become_0 : decode cX3_become 0 = .ok (.aload_n 1, 1) := by decide +kernel
theorem dX3_become_1 : decode cX3_become 1 = .ok (.getfield 27, 3) := by decide +kernel
theorem dX3_become_4 : decode cX3_become 4 = .ok (.iconst 0, 1) := by decide +kernel
theorem dX3_become_5 : decode cX3_become 5 = .ok (.aload_n 0, 1) := by decide +kernel
theorem dX3_become_6 : decode cX3_become 6 = .ok (.getfield 11, 3) := by decide +kernel
theorem dX3_become_9 : decode cX3_become 9 = .ok (.iconst 0, 1) := by decide +kernel
theorem dX3_become_10 : decode cX3_become 10 = .ok (.bipush 121, 2) := by decide +kernel
theorem dX3_become_12 : decode cX3_become 12 = .ok (.invokestatic 28, 3) := by decide +kernel
theorem dX3_become_15 : decode cX3_become 15 = .ok (.aload_n 0, 1) := by decide +kernel
theorem dX3_become_16 : decode cX3_become 16 = .ok (.aload_n 1, 1) := by decide +kernel
theorem dX3_become_17 : decode cX3_become 17 = .ok (.getfield 34, 3) := by decide +kernel
theorem dX3_become_20 : decode cX3_become 20 = .ok (.putfield 17, 3) := by decide +kernel
theorem dX3_become_23 : decode cX3_become 23 = .ok (.return_, 1) := by decide +kernel
theorem dX3_readOf_0 : decode cX3_readOf 0 = .ok (.aload_n 1, 1) := by decide +kernel
theorem dX3_readOf_1 : decode cX3_readOf 1 = .ok (.iload_n 2, 1) := by decide +kernel
theorem dX3_readOf_2 : decode cX3_readOf 2 = .ok (.invokevirtual 35, 3) := by decide +kernel
theorem dX3_readOf_5 : decode cX3_readOf 5 = .ok (.ifCond .ne 5, 3) := by decide +kernel
theorem dX3_readOf_8 : decode cX3_readOf 8 = .ok (.iconst 0, 1) := by decide +kernel
theorem dX3_readOf_9 : decode cX3_readOf 9 = .ok (.ireturn, 1) := by decide +kernel
theorem dX3_readOf_10 : decode cX3_readOf 10 = .ok (.aload_n 0, 1) := by decide +kernel
theorem dX3_readOf_11 : decode cX3_readOf 11 = .ok (.getfield 17, 3) := by decide +kernel
theorem dX3_readOf_14 : decode cX3_readOf 14 = .ok (.ifCond .ne 11, 3) := by decide +kernel
theorem dX3_readOf_17 : decode cX3_readOf 17 = .ok (.aload_n 1, 1) := by decide +kernel
theorem dX3_readOf_18 : decode cX3_readOf 18 = .ok (.iload_n 2, 1) := by decide +kernel
theorem dX3_readOf_19 : decode cX3_readOf 19 = .ok (.invokestatic 41, 3) := by decide +kernel
theorem dX3_readOf_22 : decode cX3_readOf 22 = .ok (.goto 4, 3) := by decide +kernel
theorem dX3_readOf_25 : decode cX3_readOf 25 = .ok (.iconst 0, 1) := by decide +kernel
theorem dX3_readOf_26 : decode cX3_readOf 26 = .ok (.istore_n 3, 1) := by decide +kernel
theorem dX3_readOf_27 : decode cX3_readOf 27 = .ok (.iconst 0, 1) := by decide +kernel
theorem dX3_readOf_28 : decode cX3_readOf 28 = .ok (.istore 4, 2) := by decide +kernel
theorem dX3_readOf_30 : decode cX3_readOf 30 = .ok (.aload_n 0, 1) := by decide +kernel
theorem dX3_readOf_31 : decode cX3_readOf 31 = .ok (.iconst 0, 1) := by decide +kernel
theorem dX3_readOf_32 : decode cX3_readOf 32 = .ok (.putfield 24, 3) := by decide +kernel
theorem dX3_readOf_35 : decode cX3_readOf 35 = .ok (.iconst 0, 1) := by decide +kernel
theorem dX3_readOf_36 : decode cX3_readOf 36 = .ok (.istore 5, 2) := by decide +kernel
theorem dX3_readOf_38 : decode cX3_readOf 38 = .ok (.iload 5, 2) := by decide +kernel
theorem dX3_readOf_40 : decode cX3_readOf 40 = .ok (.aload_n 0, 1) := by decide +kernel
theorem dX3_readOf_41 : decode cX3_readOf 41 = .ok (.getfield 17, 3) := by decide +kernel
theorem dX3_readOf_44 : decode cX3_readOf 44 = .ok (.if_icmp .ge 117, 3) := by decide +kernel
theorem dX3_readOf_47 : decode cX3_readOf 47 = .ok (.iload 4, 2) := by decide +kernel
theorem dX3_readOf_49 : decode cX3_readOf 49 = .ok (.ifCond .ne 112, 3) := by decide +kernel
theorem dX3_readOf_52 : decode cX3_readOf 52 = .ok (.aload_n 0, 1) := by decide +kernel
theorem dX3_readOf_53 : decode cX3_readOf 53 = .ok (.getfield 11, 3) := by decide +kernel
theorem dX3_readOf_56 : decode cX3_readOf 56 = .ok (.iload 5, 2) := by decide +kernel
theorem dX3_readOf_58 : decode cX3_readOf 58 = .ok (.iaload, 1) := by decide +kernel
theorem dX3_readOf_59 : decode cX3_readOf 59 = .ok (.istore 6, 2) := by decide +kernel
theorem dX3_readOf_61 : decode cX3_readOf 61 = .ok (.iload 6, 2) := by decide +kernel
theorem dX3_readOf_63 : decode cX3_readOf 63 = .ok (.ifCond .lt 12, 3) := by decide +kernel
theorem dX3_readOf_66 : decode cX3_readOf 66 = .ok (.aload_n 0, 1) := by decide +kernel
theorem dX3_readOf_67 : decode cX3_readOf 67 = .ok (.iload 6, 2) := by decide +kernel
theorem dX3_readOf_69 : decode cX3_readOf 69 = .ok (.invokevirtual 45, 3) := by decide +kernel
theorem dX3_readOf_72 : decode cX3_readOf 72 = .ok (.goto 83, 3) := by decide +kernel
theorem dX3_readOf_75 : decode cX3_readOf 75 = .ok (.iload 6, 2) := by decide +kernel
theorem dX3_readOf_77 : decode cX3_readOf 77 = .ok (.ineg, 1) := by decide +kernel
theorem dX3_readOf_78 : decode cX3_readOf 78 = .ok (.invokestatic 49, 3) := by decide +kernel
theorem dX3_readOf_81 : decode cX3_readOf 81 = .ok (.ifCond .eq 18, 3) := by decide +kernel
theorem dX3_readOf_84 : decode cX3_readOf 84 = .ok (.aload_n 0, 1) := by decide +kernel
theorem dX3_readOf_85 : decode cX3_readOf 85 = .ok (.iload 6, 2) := by decide +kernel
theorem dX3_readOf_87 : decode cX3_readOf 87 = .ok (.ineg, 1) := by decide +kernel
theorem dX3_readOf_88 : decode cX3_readOf 88 = .ok (.aload_n 1, 1) := by decide +kernel
theorem dX3_readOf_89 : decode cX3_readOf 89 = .ok (.iload_n 2, 1) := by decide +kernel
theorem dX3_readOf_90 : decode cX3_readOf 90 = .ok (.invokestatic 52, 3) := by decide +kernel
theorem dX3_readOf_93 : decode cX3_readOf 93 = .ok (.invokevirtual 45, 3) := by decide +kernel
theorem dX3_readOf_96 : decode cX3_readOf 96 = .ok (.goto 59, 3) := by decide +kernel
theorem dX3_readOf_99 : decode cX3_readOf 99 = .ok (.iload 6, 2) := by decide +kernel
theorem dX3_readOf_101 : decode cX3_readOf 101 = .ok (.bipush (-59), 2) := by decide +kernel
theorem dX3_readOf_103 : decode cX3_readOf 103 = .ok (.if_icmp .eq 13, 3) := by decide +kernel
theorem dX3_readOf_106 : decode cX3_readOf 106 = .ok (.aload_n 0, 1) := by decide +kernel
theorem dX3_readOf_107 : decode cX3_readOf 107 = .ok (.iload 6, 2) := by decide +kernel
theorem dX3_readOf_109 : decode cX3_readOf 109 = .ok (.ineg, 1) := by decide +kernel
theorem dX3_readOf_110 : decode cX3_readOf 110 = .ok (.invokevirtual 56, 3) := by decide +kernel
theorem dX3_readOf_113 : decode cX3_readOf 113 = .ok (.goto 42, 3) := by decide +kernel
theorem dX3_readOf_116 : decode cX3_readOf 116 = .ok (.aload_n 0, 1) := by decide +kernel
theorem dX3_readOf_117 : decode cX3_readOf 117 = .ok (.invokevirtual 59, 3) := by decide +kernel
theorem dX3_readOf_120 : decode cX3_readOf 120 = .ok (.istore 7, 2) := by decide +kernel
theorem dX3_readOf_122 : decode cX3_readOf 122 = .ok (.aload_n 0, 1) := by decide +kernel
theorem dX3_readOf_123 : decode cX3_readOf 123 = .ok (.getfield 24, 3) := by decide +kernel
theorem dX3_readOf_126 : decode cX3_readOf 126 = .ok (.ifCond .eq 10, 3) := by decide +kernel
theorem dX3_readOf_129 : decode cX3_readOf 129 = .ok (.aload_n 0, 1) := by decide +kernel
theorem dX3_readOf_130 : decode cX3_readOf 130 = .ok (.invokevirtual 59, 3) := by decide +kernel
theorem dX3_readOf_133 : decode cX3_readOf 133 = .ok (.ifCond .eq 7, 3) := by decide +kernel
theorem dX3_readOf_136 : decode cX3_readOf 136 = .ok (.iconst 1, 1) := by decide +kernel
theorem dX3_readOf_137 : decode cX3_readOf 137 = .ok (.goto 4, 3) := by decide +kernel
theorem dX3_readOf_140 : decode cX3_readOf 140 = .ok (.iconst 0, 1) := by decide +kernel
theorem dX3_readOf_141 : decode cX3_readOf 141 = .ok (.istore 4, 2) := by decide +kernel
theorem dX3_readOf_143 : decode cX3_readOf 143 = .ok (.iload 4, 2) := by decide +kernel
theorem dX3_readOf_145 : decode cX3_readOf 145 = .ok (.ifCond .eq 8, 3) := by decide +kernel
theorem dX3_readOf_148 : decode cX3_readOf 148 = .ok (.iload 7, 2) := by decide +kernel
theorem dX3_readOf_150 : decode cX3_readOf 150 = .ok (.goto 4, 3) := by decide +kernel
theorem dX3_readOf_153 : decode cX3_readOf 153 = .ok (.iconst 0, 1) := by decide +kernel
theorem dX3_readOf_154 : decode cX3_readOf 154 = .ok (.istore_n 3, 1) := by decide +kernel
theorem dX3_readOf_155 : decode cX3_readOf 155 = .ok (.iinc 5 1, 3) := by decide +kernel
theorem dX3_readOf_158 : decode cX3_readOf 158 = .ok (.goto (-120), 3) := by decide +kernel
theorem dX3_readOf_161 : decode cX3_readOf 161 = .ok (.iconst 0, 1) := by decide +kernel
theorem dX3_readOf_162 : decode cX3_readOf 162 = .ok (.bipush 99, 2) := by decide +kernel
theorem dX3_readOf_164 : decode cX3_readOf 164 = .ok (.iload_n 3, 1) := by decide +kernel
theorem dX3_readOf_165 : decode cX3_readOf 165 = .ok (.invokestatic 63, 3) := by decide +kernel
theorem dX3_readOf_168 : decode cX3_readOf 168 = .ok (.invokestatic 69, 3) := by decide +kernel
theorem dX3_readOf_171 : decode cX3_readOf 171 = .ok (.ireturn, 1) := by decide +kernel
theorem dX3_sorriest_0 : decode cX3_sorriest 0 = .ok (.bipush (-2), 2) := by decide +kernel
theorem dX3_sorriest_2 : decode cX3_sorriest 2 = .ok (.istore_n 3, 1) := by decide +kernel
theorem dX3_sorriest_3 : decode cX3_sorriest 3 = .ok (.iconst (-1), 1) := by decide +kernel
theorem dX3_sorriest_4 : decode cX3_sorriest 4 = .ok (.istore 4, 2) := by decide +kernel
theorem dX3_sorriest_6 : decode cX3_sorriest 6 = .ok (.iconst 0, 1) := by decide +kernel
theorem dX3_sorriest_7 : decode cX3_sorriest 7 = .ok (.istore 5, 2) := by decide +kernel
theorem dX3_sorriest_9 : decode cX3_sorriest 9 = .ok (.iload 5, 2) := by decide +kernel
theorem dX3_sorriest_11 : decode cX3_sorriest 11 = .ok (.aload_n 1, 1) := by decide +kernel
theorem dX3_sorriest_12 : decode cX3_sorriest 12 = .ok (.getfield 72, 3) := by decide +kernel
theorem dX3_sorriest_15 : decode cX3_sorriest 15 = .ok (.if_icmp .ge 48, 3) := by decide +kernel
theorem dX3_sorriest_18 : decode cX3_sorriest 18 = .ok (.aload_n 1, 1) := by decide +kernel
theorem dX3_sorriest_19 : decode cX3_sorriest 19 = .ok (.getfield 75, 3) := by decide +kernel
theorem dX3_sorriest_22 : decode cX3_sorriest 22 = .ok (.iload 5, 2) := by decide +kernel
theorem dX3_sorriest_24 : decode cX3_sorriest 24 = .ok (.iaload, 1) := by decide +kernel
theorem dX3_sorriest_25 : decode cX3_sorriest 25 = .ok (.ifCond .ne 32, 3) := by decide +kernel
theorem dX3_sorriest_28 : decode cX3_sorriest 28 = .ok (.iload 5, 2) := by decide +kernel
theorem dX3_sorriest_30 : decode cX3_sorriest 30 = .ok (.iload_n 2, 1) := by decide +kernel
theorem dX3_sorriest_31 : decode cX3_sorriest 31 = .ok (.if_icmp .eq 26, 3) := by decide +kernel
theorem dX3_sorriest_34 : decode cX3_sorriest 34 = .ok (.aload_n 0, 1) := by decide +kernel
theorem dX3_sorriest_35 : decode cX3_sorriest 35 = .ok (.aload_n 1, 1) := by decide +kernel
theorem dX3_sorriest_36 : decode cX3_sorriest 36 = .ok (.iload 5, 2) := by decide +kernel
theorem dX3_sorriest_38 : decode cX3_sorriest 38 = .ok (.invokevirtual 78, 3) := by decide +kernel
theorem dX3_sorriest_41 : decode cX3_sorriest 41 = .ok (.istore 6, 2) := by decide +kernel
theorem dX3_sorriest_43 : decode cX3_sorriest 43 = .ok (.iload 6, 2) := by decide +kernel
theorem dX3_sorriest_45 : decode cX3_sorriest 45 = .ok (.iload 4, 2) := by decide +kernel
theorem dX3_sorriest_47 : decode cX3_sorriest 47 = .ok (.if_icmp .le 10, 3) := by decide +kernel
theorem dX3_sorriest_50 : decode cX3_sorriest 50 = .ok (.iload 6, 2) := by decide +kernel
theorem dX3_sorriest_52 : decode cX3_sorriest 52 = .ok (.istore 4, 2) := by decide +kernel
theorem dX3_sorriest_54 : decode cX3_sorriest 54 = .ok (.iload 5, 2) := by decide +kernel
theorem dX3_sorriest_56 : decode cX3_sorriest 56 = .ok (.istore_n 3, 1) := by decide +kernel
theorem dX3_sorriest_57 : decode cX3_sorriest 57 = .ok (.iinc 5 1, 3) := by decide +kernel
theorem dX3_sorriest_60 : decode cX3_sorriest 60 = .ok (.goto (-51), 3) := by decide +kernel
theorem dX3_sorriest_63 : decode cX3_sorriest 63 = .ok (.iload_n 3, 1) := by decide +kernel
theorem dX3_sorriest_64 : decode cX3_sorriest 64 = .ok (.ireturn, 1) := by decide +kernel
theorem dX3_placeInOrder_0 : decode cX3_placeInOrder 0 = .ok (.aload_n 1, 1) := by decide +kernel
theorem dX3_placeInOrder_1 : decode cX3_placeInOrder 1 = .ok (.iload_n 2, 1) := by decide +kernel
theorem dX3_placeInOrder_2 : decode cX3_placeInOrder 2 = .ok (.invokevirtual 81, 3) := by decide +kernel
theorem dX3_placeInOrder_5 : decode cX3_placeInOrder 5 = .ok (.ifCond .ne 6, 3) := by decide +kernel
theorem dX3_placeInOrder_8 : decode cX3_placeInOrder 8 = .ok (.bipush (-2), 2) := by decide +kernel
theorem dX3_placeInOrder_10 : decode cX3_placeInOrder 10 = .ok (.ireturn, 1) := by decide +kernel
theorem dX3_placeInOrder_11 : decode cX3_placeInOrder 11 = .ok (.aload_n 0, 1) := by decide +kernel
theorem dX3_placeInOrder_12 : decode cX3_placeInOrder 12 = .ok (.aload_n 1, 1) := by decide +kernel
theorem dX3_placeInOrder_13 : decode cX3_placeInOrder 13 = .ok (.iload_n 2, 1) := by decide +kernel
theorem dX3_placeInOrder_14 : decode cX3_placeInOrder 14 = .ok (.invokevirtual 78, 3) := by decide +kernel
theorem dX3_placeInOrder_17 : decode cX3_placeInOrder 17 = .ok (.istore_n 3, 1) := by decide +kernel
theorem dX3_placeInOrder_18 : decode cX3_placeInOrder 18 = .ok (.iconst 0, 1) := by decide +kernel
theorem dX3_placeInOrder_19 : decode cX3_placeInOrder 19 = .ok (.istore 4, 2) := by decide +kernel
theorem dX3_placeInOrder_21 : decode cX3_placeInOrder 21 = .ok (.iconst 0, 1) := by decide +kernel
theorem dX3_placeInOrder_22 : decode cX3_placeInOrder 22 = .ok (.istore 5, 2) := by decide +kernel
theorem dX3_placeInOrder_24 : decode cX3_placeInOrder 24 = .ok (.iload 5, 2) := by decide +kernel
theorem dX3_placeInOrder_26 : decode cX3_placeInOrder 26 = .ok (.aload_n 1, 1) := by decide +kernel
theorem dX3_placeInOrder_27 : decode cX3_placeInOrder 27 = .ok (.getfield 72, 3) := by decide +kernel
theorem dX3_placeInOrder_30 : decode cX3_placeInOrder 30 = .ok (.if_icmp .ge 55, 3) := by decide +kernel
theorem dX3_placeInOrder_33 : decode cX3_placeInOrder 33 = .ok (.aload_n 1, 1) := by decide +kernel
theorem dX3_placeInOrder_34 : decode cX3_placeInOrder 34 = .ok (.getfield 75, 3) := by decide +kernel
theorem dX3_placeInOrder_37 : decode cX3_placeInOrder 37 = .ok (.iload 5, 2) := by decide +kernel
theorem dX3_placeInOrder_39 : decode cX3_placeInOrder 39 = .ok (.iaload, 1) := by decide +kernel
theorem dX3_placeInOrder_40 : decode cX3_placeInOrder 40 = .ok (.ifCond .ne 39, 3) := by decide +kernel
theorem dX3_placeInOrder_43 : decode cX3_placeInOrder 43 = .ok (.iload 5, 2) := by decide +kernel
theorem dX3_placeInOrder_45 : decode cX3_placeInOrder 45 = .ok (.iload_n 2, 1) := by decide +kernel
theorem dX3_placeInOrder_46 : decode cX3_placeInOrder 46 = .ok (.if_icmp .eq 33, 3) := by decide +kernel
theorem dX3_placeInOrder_49 : decode cX3_placeInOrder 49 = .ok (.aload_n 0, 1) := by decide +kernel
theorem dX3_placeInOrder_50 : decode cX3_placeInOrder 50 = .ok (.aload_n 1, 1) := by decide +kernel
theorem dX3_placeInOrder_51 : decode cX3_placeInOrder 51 = .ok (.iload 5, 2) := by decide +kernel
theorem dX3_placeInOrder_53 : decode cX3_placeInOrder 53 = .ok (.invokevirtual 78, 3) := by decide +kernel
theorem dX3_placeInOrder_56 : decode cX3_placeInOrder 56 = .ok (.istore 6, 2) := by decide +kernel
theorem dX3_placeInOrder_58 : decode cX3_placeInOrder 58 = .ok (.iload 6, 2) := by decide +kernel
theorem dX3_placeInOrder_60 : decode cX3_placeInOrder 60 = .ok (.iload_n 3, 1) := by decide +kernel
theorem dX3_placeInOrder_61 : decode cX3_placeInOrder 61 = .ok (.if_icmp .gt 15, 3) := by decide +kernel
theorem dX3_placeInOrder_64 : decode cX3_placeInOrder 64 = .ok (.iload 6, 2) := by decide +kernel
theorem dX3_placeInOrder_66 : decode cX3_placeInOrder 66 = .ok (.iload_n 3, 1) := by decide +kernel
theorem dX3_placeInOrder_67 : decode cX3_placeInOrder 67 = .ok (.if_icmp .ne 12, 3) := by decide +kernel
theorem dX3_placeInOrder_70 : decode cX3_placeInOrder 70 = .ok (.iload 5, 2) := by decide +kernel
theorem dX3_placeInOrder_72 : decode cX3_placeInOrder 72 = .ok (.iload_n 2, 1) := by decide +kernel
theorem dX3_placeInOrder_73 : decode cX3_placeInOrder 73 = .ok (.if_icmp .ge 6, 3) := by decide +kernel
theorem dX3_placeInOrder_76 : decode cX3_placeInOrder 76 = .ok (.iinc 4 1, 3) := by decide +kernel
theorem dX3_placeInOrder_79 : decode cX3_placeInOrder 79 = .ok (.iinc 5 1, 3) := by decide +kernel
theorem dX3_placeInOrder_82 : decode cX3_placeInOrder 82 = .ok (.goto (-58), 3) := by decide +kernel
theorem dX3_placeInOrder_85 : decode cX3_placeInOrder 85 = .ok (.iload 4, 2) := by decide +kernel
theorem dX3_placeInOrder_87 : decode cX3_placeInOrder 87 = .ok (.ireturn, 1) := by decide +kernel
theorem dX3_worthWithoutText_0 : decode cX3_worthWithoutText 0 = .ok (.aload_n 0, 1) := by decide +kernel
theorem dX3_worthWithoutText_1 : decode cX3_worthWithoutText 1 = .ok (.getfield 84, 3) := by decide +kernel
theorem dX3_worthWithoutText_4 : decode cX3_worthWithoutText 4 = .ok (.iload_n 1, 1) := by decide +kernel
theorem dX3_worthWithoutText_5 : decode cX3_worthWithoutText 5 = .ok (.iaload, 1) := by decide +kernel
theorem dX3_worthWithoutText_6 : decode cX3_worthWithoutText 6 = .ok (.iconst 2, 1) := by decide +kernel
theorem dX3_worthWithoutText_7 : decode cX3_worthWithoutText 7 = .ok (.aload_n 0, 1) := by decide +kernel
theorem dX3_worthWithoutText_8 : decode cX3_worthWithoutText 8 = .ok (.getfield 87, 3) := by decide +kernel
theorem dX3_worthWithoutText_11 : decode cX3_worthWithoutText 11 = .ok (.iload_n 1, 1) := by decide +kernel
theorem dX3_worthWithoutText_12 : decode cX3_worthWithoutText 12 = .ok (.iaload, 1) := by decide +kernel
theorem dX3_worthWithoutText_13 : decode cX3_worthWithoutText 13 = .ok (.imul, 1) := by decide +kernel
theorem dX3_worthWithoutText_14 : decode cX3_worthWithoutText 14 = .ok (.iadd, 1) := by decide +kernel
theorem dX3_worthWithoutText_15 : decode cX3_worthWithoutText 15 = .ok (.aload_n 0, 1) := by decide +kernel
theorem dX3_worthWithoutText_16 : decode cX3_worthWithoutText 16 = .ok (.getfield 90, 3) := by decide +kernel
theorem dX3_worthWithoutText_19 : decode cX3_worthWithoutText 19 = .ok (.iload_n 1, 1) := by decide +kernel
theorem dX3_worthWithoutText_20 : decode cX3_worthWithoutText 20 = .ok (.iaload, 1) := by decide +kernel
theorem dX3_worthWithoutText_21 : decode cX3_worthWithoutText 21 = .ok (.ifCond .ne 7, 3) := by decide +kernel
theorem dX3_worthWithoutText_24 : decode cX3_worthWithoutText 24 = .ok (.iconst 5, 1) := by decide +kernel
theorem dX3_worthWithoutText_25 : decode cX3_worthWithoutText 25 = .ok (.goto 4, 3) := by decide +kernel
theorem dX3_worthWithoutText_28 : decode cX3_worthWithoutText 28 = .ok (.iconst 0, 1) := by decide +kernel
theorem dX3_worthWithoutText_29 : decode cX3_worthWithoutText 29 = .ok (.isub, 1) := by decide +kernel
theorem dX3_worthWithoutText_30 : decode cX3_worthWithoutText 30 = .ok (.ireturn, 1) := by decide +kernel
theorem dX3_worthOfName_0 : decode cX3_worthOfName 0 = .ok (.iload_n 0, 1) := by decide +kernel
theorem dX3_worthOfName_1 : decode cX3_worthOfName 1 = .ok (.tableswitch 90 104 114 #[73, 90, 90, 90, 66, 80, 85, 90, 90, 90, 59], 59) := by decide +kernel
theorem dX3_worthOfName_60 : decode cX3_worthOfName 60 = .ok (.aload_n 1, 1) := by decide +kernel
theorem dX3_worthOfName_61 : decode cX3_worthOfName 61 = .ok (.getfield 84, 3) := by decide +kernel
theorem dX3_worthOfName_64 : decode cX3_worthOfName 64 = .ok (.iload_n 2, 1) := by decide +kernel
theorem dX3_worthOfName_65 : decode cX3_worthOfName 65 = .ok (.iaload, 1) := by decide +kernel
theorem dX3_worthOfName_66 : decode cX3_worthOfName 66 = .ok (.ireturn, 1) := by decide +kernel
theorem dX3_worthOfName_67 : decode cX3_worthOfName 67 = .ok (.aload_n 1, 1) := by decide +kernel
theorem dX3_worthOfName_68 : decode cX3_worthOfName 68 = .ok (.getfield 87, 3) := by decide +kernel
theorem dX3_worthOfName_71 : decode cX3_worthOfName 71 = .ok (.iload_n 2, 1) := by decide +kernel
theorem dX3_worthOfName_72 : decode cX3_worthOfName 72 = .ok (.iaload, 1) := by decide +kernel
theorem dX3_worthOfName_73 : decode cX3_worthOfName 73 = .ok (.ireturn, 1) := by decide +kernel
theorem dX3_worthOfName_74 : decode cX3_worthOfName 74 = .ok (.aload_n 1, 1) := by decide +kernel
theorem dX3_worthOfName_75 : decode cX3_worthOfName 75 = .ok (.getfield 90, 3) := by decide +kernel
theorem dX3_worthOfName_78 : decode cX3_worthOfName 78 = .ok (.iload_n 2, 1) := by decide +kernel
theorem dX3_worthOfName_79 : decode cX3_worthOfName 79 = .ok (.iaload, 1) := by decide +kernel
theorem dX3_worthOfName_80 : decode cX3_worthOfName 80 = .ok (.ireturn, 1) := by decide +kernel
theorem dX3_worthOfName_81 : decode cX3_worthOfName 81 = .ok (.aload_n 1, 1) := by decide +kernel
theorem dX3_worthOfName_82 : decode cX3_worthOfName 82 = .ok (.getfield 93, 3) := by decide +kernel
theorem dX3_worthOfName_85 : decode cX3_worthOfName 85 = .ok (.ireturn, 1) := by decide +kernel
theorem dX3_worthOfName_86 : decode cX3_worthOfName 86 = .ok (.aload_n 1, 1) := by decide +kernel
theorem dX3_worthOfName_87 : decode cX3_worthOfName 87 = .ok (.invokevirtual 96, 3) := by decide +kernel
theorem dX3_worthOfName_90 : decode cX3_worthOfName 90 = .ok (.ireturn, 1) := by decide +kernel
theorem dX3_worthOfName_91 : decode cX3_worthOfName 91 = .ok (.iload_n 2, 1) := by decide +kernel
theorem dX3_worthOfName_92 : decode cX3_worthOfName 92 = .ok (.ireturn, 1) := by decide +kernel
theorem dX3_workOut_0 : decode cX3_workOut 0 = .ok (.aload_n 0, 1) := by decide +kernel
theorem dX3_workOut_1 : decode cX3_workOut 1 = .ok (.invokevirtual 59, 3) := by decide +kernel
theorem dX3_workOut_4 : decode cX3_workOut 4 = .ok (.istore_n 2, 1) := by decide +kernel
theorem dX3_workOut_5 : decode cX3_workOut 5 = .ok (.iload_n 1, 1) := by decide +kernel
theorem dX3_workOut_6 : decode cX3_workOut 6 = .ok (.bipush 33, 2) := by decide +kernel
theorem dX3_workOut_8 : decode cX3_workOut 8 = .ok (.if_icmp .ne 19, 3) := by decide +kernel
theorem dX3_workOut_11 : decode cX3_workOut 11 = .ok (.aload_n 0, 1) := by decide +kernel
theorem dX3_workOut_12 : decode cX3_workOut 12 = .ok (.iload_n 2, 1) := by decide +kernel
theorem dX3_workOut_13 : decode cX3_workOut 13 = .ok (.ifCond .ne 7, 3) := by decide +kernel
theorem dX3_workOut_16 : decode cX3_workOut 16 = .ok (.iconst 1, 1) := by decide +kernel
theorem dX3_workOut_17 : decode cX3_workOut 17 = .ok (.goto 4, 3) := by decide +kernel
theorem dX3_workOut_20 : decode cX3_workOut 20 = .ok (.iconst 0, 1) := by decide +kernel
theorem dX3_workOut_21 : decode cX3_workOut 21 = .ok (.invokevirtual 45, 3) := by decide +kernel
theorem dX3_workOut_24 : decode cX3_workOut 24 = .ok (.goto 31, 3) := by decide +kernel
theorem dX3_workOut_27 : decode cX3_workOut 27 = .ok (.iload_n 1, 1) := by decide +kernel
theorem dX3_workOut_28 : decode cX3_workOut 28 = .ok (.bipush 126, 2) := by decide +kernel
theorem dX3_workOut_30 : decode cX3_workOut 30 = .ok (.if_icmp .ne 12, 3) := by decide +kernel
theorem dX3_workOut_33 : decode cX3_workOut 33 = .ok (.aload_n 0, 1) := by decide +kernel
theorem dX3_workOut_34 : decode cX3_workOut 34 = .ok (.iload_n 2, 1) := by decide +kernel
theorem dX3_workOut_35 : decode cX3_workOut 35 = .ok (.ineg, 1) := by decide +kernel
theorem dX3_workOut_36 : decode cX3_workOut 36 = .ok (.invokevirtual 45, 3) := by decide +kernel
theorem dX3_workOut_39 : decode cX3_workOut 39 = .ok (.goto 16, 3) := by decide +kernel
theorem dX3_workOut_42 : decode cX3_workOut 42 = .ok (.aload_n 0, 1) := by decide +kernel
theorem dX3_workOut_43 : decode cX3_workOut 43 = .ok (.iload_n 1, 1) := by decide +kernel
theorem dX3_workOut_44 : decode cX3_workOut 44 = .ok (.aload_n 0, 1) := by decide +kernel
theorem dX3_workOut_45 : decode cX3_workOut 45 = .ok (.invokevirtual 59, 3) := by decide +kernel
theorem dX3_workOut_48 : decode cX3_workOut 48 = .ok (.iload_n 2, 1) := by decide +kernel
theorem dX3_workOut_49 : decode cX3_workOut 49 = .ok (.invokestatic 99, 3) := by decide +kernel
theorem dX3_workOut_52 : decode cX3_workOut 52 = .ok (.invokevirtual 45, 3) := by decide +kernel
theorem dX3_workOut_55 : decode cX3_workOut 55 = .ok (.return_, 1) := by decide +kernel
theorem dX3_worthOfTwo_0 : decode cX3_worthOfTwo 0 = .ok (.iload_n 0, 1) := by decide +kernel
theorem dX3_worthOfTwo_1 : decode cX3_worthOfTwo 1 = .ok (.lookupswitch 168 #[(38, 97), (42, 152), (43, 144), (45, 148), (47, 156), (60, 111), (61, 122), (62, 133), (124, 83)], 83) := by decide +kernel
theorem dX3_worthOfTwo_84 : decode cX3_worthOfTwo 84 = .ok (.iload_n 1, 1) := by decide +kernel
theorem dX3_worthOfTwo_85 : decode cX3_worthOfTwo 85 = .ok (.ifCond .ne 7, 3) := by decide +kernel
theorem dX3_worthOfTwo_88 : decode cX3_worthOfTwo 88 = .ok (.iload_n 2, 1) := by decide +kernel
theorem dX3_worthOfTwo_89 : decode cX3_worthOfTwo 89 = .ok (.ifCond .eq 7, 3) := by decide +kernel
theorem dX3_worthOfTwo_92 : decode cX3_worthOfTwo 92 = .ok (.iconst 1, 1) := by decide +kernel
theorem dX3_worthOfTwo_93 : decode cX3_worthOfTwo 93 = .ok (.goto 4, 3) := by decide +kernel
theorem dX3_worthOfTwo_96 : decode cX3_worthOfTwo 96 = .ok (.iconst 0, 1) := by decide +kernel
theorem dX3_worthOfTwo_97 : decode cX3_worthOfTwo 97 = .ok (.ireturn, 1) := by decide +kernel
theorem dX3_worthOfTwo_98 : decode cX3_worthOfTwo 98 = .ok (.iload_n 1, 1) := by decide +kernel
theorem dX3_worthOfTwo_99 : decode cX3_worthOfTwo 99 = .ok (.ifCond .eq 11, 3) := by decide +kernel
theorem dX3_worthOfTwo_102 : decode cX3_worthOfTwo 102 = .ok (.iload_n 2, 1) := by decide +kernel
theorem dX3_worthOfTwo_103 : decode cX3_worthOfTwo 103 = .ok (.ifCond .eq 7, 3) := by decide +kernel
theorem dX3_worthOfTwo_106 : decode cX3_worthOfTwo 106 = .ok (.iconst 1, 1) := by decide +kernel
theorem dX3_worthOfTwo_107 : decode cX3_worthOfTwo 107 = .ok (.goto 4, 3) := by decide +kernel
theorem dX3_worthOfTwo_110 : decode cX3_worthOfTwo 110 = .ok (.iconst 0, 1) := by decide +kernel
theorem dX3_worthOfTwo_111 : decode cX3_worthOfTwo 111 = .ok (.ireturn, 1) := by decide +kernel
theorem dX3_worthOfTwo_112 : decode cX3_worthOfTwo 112 = .ok (.iload_n 1, 1) := by decide +kernel
theorem dX3_worthOfTwo_113 : decode cX3_worthOfTwo 113 = .ok (.iload_n 2, 1) := by decide +kernel
theorem dX3_worthOfTwo_114 : decode cX3_worthOfTwo 114 = .ok (.if_icmp .ge 7, 3) := by decide +kernel
theorem dX3_worthOfTwo_117 : decode cX3_worthOfTwo 117 = .ok (.iconst 1, 1) := by decide +kernel
theorem dX3_worthOfTwo_118 : decode cX3_worthOfTwo 118 = .ok (.goto 4, 3) := by decide +kernel
theorem dX3_worthOfTwo_121 : decode cX3_worthOfTwo 121 = .ok (.iconst 0, 1) := by decide +kernel
theorem dX3_worthOfTwo_122 : decode cX3_worthOfTwo 122 = .ok (.ireturn, 1) := by decide +kernel
theorem dX3_worthOfTwo_123 : decode cX3_worthOfTwo 123 = .ok (.iload_n 1, 1) := by decide +kernel
theorem dX3_worthOfTwo_124 : decode cX3_worthOfTwo 124 = .ok (.iload_n 2, 1) := by decide +kernel
theorem dX3_worthOfTwo_125 : decode cX3_worthOfTwo 125 = .ok (.if_icmp .ne 7, 3) := by decide +kernel
theorem dX3_worthOfTwo_128 : decode cX3_worthOfTwo 128 = .ok (.iconst 1, 1) := by decide +kernel
theorem dX3_worthOfTwo_129 : decode cX3_worthOfTwo 129 = .ok (.goto 4, 3) := by decide +kernel
theorem dX3_worthOfTwo_132 : decode cX3_worthOfTwo 132 = .ok (.iconst 0, 1) := by decide +kernel
theorem dX3_worthOfTwo_133 : decode cX3_worthOfTwo 133 = .ok (.ireturn, 1) := by decide +kernel
theorem dX3_worthOfTwo_134 : decode cX3_worthOfTwo 134 = .ok (.iload_n 1, 1) := by decide +kernel
theorem dX3_worthOfTwo_135 : decode cX3_worthOfTwo 135 = .ok (.iload_n 2, 1) := by decide +kernel
theorem dX3_worthOfTwo_136 : decode cX3_worthOfTwo 136 = .ok (.if_icmp .le 7, 3) := by decide +kernel
theorem dX3_worthOfTwo_139 : decode cX3_worthOfTwo 139 = .ok (.iconst 1, 1) := by decide +kernel
theorem dX3_worthOfTwo_140 : decode cX3_worthOfTwo 140 = .ok (.goto 4, 3) := by decide +kernel
theorem dX3_worthOfTwo_143 : decode cX3_worthOfTwo 143 = .ok (.iconst 0, 1) := by decide +kernel
theorem dX3_worthOfTwo_144 : decode cX3_worthOfTwo 144 = .ok (.ireturn, 1) := by decide +kernel
theorem dX3_worthOfTwo_145 : decode cX3_worthOfTwo 145 = .ok (.iload_n 1, 1) := by decide +kernel
theorem dX3_worthOfTwo_146 : decode cX3_worthOfTwo 146 = .ok (.iload_n 2, 1) := by decide +kernel
theorem dX3_worthOfTwo_147 : decode cX3_worthOfTwo 147 = .ok (.iadd, 1) := by decide +kernel
theorem dX3_worthOfTwo_148 : decode cX3_worthOfTwo 148 = .ok (.ireturn, 1) := by decide +kernel
theorem dX3_worthOfTwo_149 : decode cX3_worthOfTwo 149 = .ok (.iload_n 1, 1) := by decide +kernel
theorem dX3_worthOfTwo_150 : decode cX3_worthOfTwo 150 = .ok (.iload_n 2, 1) := by decide +kernel
theorem dX3_worthOfTwo_151 : decode cX3_worthOfTwo 151 = .ok (.isub, 1) := by decide +kernel
theorem dX3_worthOfTwo_152 : decode cX3_worthOfTwo 152 = .ok (.ireturn, 1) := by decide +kernel
theorem dX3_worthOfTwo_153 : decode cX3_worthOfTwo 153 = .ok (.iload_n 1, 1) := by decide +kernel
theorem dX3_worthOfTwo_154 : decode cX3_worthOfTwo 154 = .ok (.iload_n 2, 1) := by decide +kernel
theorem dX3_worthOfTwo_155 : decode cX3_worthOfTwo 155 = .ok (.imul, 1) := by decide +kernel
theorem dX3_worthOfTwo_156 : decode cX3_worthOfTwo 156 = .ok (.ireturn, 1) := by decide +kernel
theorem dX3_worthOfTwo_157 : decode cX3_worthOfTwo 157 = .ok (.iload_n 2, 1) := by decide +kernel
theorem dX3_worthOfTwo_158 : decode cX3_worthOfTwo 158 = .ok (.ifCond .ne 7, 3) := by decide +kernel
theorem dX3_worthOfTwo_161 : decode cX3_worthOfTwo 161 = .ok (.iconst 0, 1) := by decide +kernel
theorem dX3_worthOfTwo_162 : decode cX3_worthOfTwo 162 = .ok (.goto 6, 3) := by decide +kernel
theorem dX3_worthOfTwo_165 : decode cX3_worthOfTwo 165 = .ok (.iload_n 1, 1) := by decide +kernel
theorem dX3_worthOfTwo_166 : decode cX3_worthOfTwo 166 = .ok (.iload_n 2, 1) := by decide +kernel
theorem dX3_worthOfTwo_167 : decode cX3_worthOfTwo 167 = .ok (.idiv, 1) := by decide +kernel
theorem dX3_worthOfTwo_168 : decode cX3_worthOfTwo 168 = .ok (.ireturn, 1) := by decide +kernel
theorem dX3_worthOfTwo_169 : decode cX3_worthOfTwo 169 = .ok (.iload_n 2, 1) := by decide +kernel
theorem dX3_worthOfTwo_170 : decode cX3_worthOfTwo 170 = .ok (.ifCond .ne 7, 3) := by decide +kernel
theorem dX3_worthOfTwo_173 : decode cX3_worthOfTwo 173 = .ok (.iconst 0, 1) := by decide +kernel
theorem dX3_worthOfTwo_174 : decode cX3_worthOfTwo 174 = .ok (.goto 6, 3) := by decide +kernel
theorem dX3_worthOfTwo_177 : decode cX3_worthOfTwo 177 = .ok (.iload_n 1, 1) := by decide +kernel
theorem dX3_worthOfTwo_178 : decode cX3_worthOfTwo 178 = .ok (.iload_n 2, 1) := by decide +kernel
theorem dX3_worthOfTwo_179 : decode cX3_worthOfTwo 179 = .ok (.irem, 1) := by decide +kernel
theorem dX3_worthOfTwo_180 : decode cX3_worthOfTwo 180 = .ok (.ireturn, 1) := by decide +kernel
theorem dX3_push_0 : decode cX3_push 0 = .ok (.aload_n 0, 1) := by decide +kernel
theorem dX3_push_1 : decode cX3_push 1 = .ok (.getfield 24, 3) := by decide +kernel
theorem dX3_push_4 : decode cX3_push 4 = .ok (.aload_n 0, 1) := by decide +kernel
theorem dX3_push_5 : decode cX3_push 5 = .ok (.getfield 21, 3) := by decide +kernel
theorem dX3_push_8 : decode cX3_push 8 = .ok (.arraylength, 1) := by decide +kernel
theorem dX3_push_9 : decode cX3_push 9 = .ok (.if_icmp .ge 23, 3) := by decide +kernel
theorem dX3_push_12 : decode cX3_push 12 = .ok (.aload_n 0, 1) := by decide +kernel
theorem dX3_push_13 : decode cX3_push 13 = .ok (.getfield 21, 3) := by decide +kernel
theorem dX3_push_16 : decode cX3_push 16 = .ok (.aload_n 0, 1) := by decide +kernel
theorem dX3_push_17 : decode cX3_push 17 = .ok (.getfield 24, 3) := by decide +kernel
theorem dX3_push_20 : decode cX3_push 20 = .ok (.iload_n 1, 1) := by decide +kernel
theorem dX3_push_21 : decode cX3_push 21 = .ok (.iastore, 1) := by decide +kernel
theorem dX3_push_22 : decode cX3_push 22 = .ok (.aload_n 0, 1) := by decide +kernel
theorem dX3_push_23 : decode cX3_push 23 = .ok (.dup, 1) := by decide +kernel
theorem dX3_push_24 : decode cX3_push 24 = .ok (.getfield 24, 3) := by decide +kernel
theorem dX3_push_27 : decode cX3_push 27 = .ok (.iconst 1, 1) := by decide +kernel
theorem dX3_push_28 : decode cX3_push 28 = .ok (.iadd, 1) := by decide +kernel
theorem dX3_push_29 : decode cX3_push 29 = .ok (.putfield 24, 3) := by decide +kernel
theorem dX3_push_32 : decode cX3_push 32 = .ok (.return_, 1) := by decide +kernel
theorem dX3_pop_0 : decode cX3_pop 0 = .ok (.aload_n 0, 1) := by decide +kernel
theorem dX3_pop_1 : decode cX3_pop 1 = .ok (.getfield 24, 3) := by decide +kernel
theorem dX3_pop_4 : decode cX3_pop 4 = .ok (.ifCond .gt 5, 3) := by decide +kernel
theorem dX3_pop_7 : decode cX3_pop 7 = .ok (.iconst 0, 1) := by decide +kernel
theorem dX3_pop_8 : decode cX3_pop 8 = .ok (.ireturn, 1) := by decide +kernel
theorem dX3_pop_9 : decode cX3_pop 9 = .ok (.aload_n 0, 1) := by decide +kernel
theorem dX3_pop_10 : decode cX3_pop 10 = .ok (.dup, 1) := by decide +kernel
theorem dX3_pop_11 : decode cX3_pop 11 = .ok (.getfield 24, 3) := by decide +kernel
theorem dX3_pop_14 : decode cX3_pop 14 = .ok (.iconst 1, 1) := by decide +kernel
theorem dX3_pop_15 : decode cX3_pop 15 = .ok (.isub, 1) := by decide +kernel
theorem dX3_pop_16 : decode cX3_pop 16 = .ok (.putfield 24, 3) := by decide +kernel
theorem dX3_pop_19 : decode cX3_pop 19 = .ok (.aload_n 0, 1) := by decide +kernel
theorem dX3_pop_20 : decode cX3_pop 20 = .ok (.getfield 21, 3) := by decide +kernel
theorem dX3_pop_23 : decode cX3_pop 23 = .ok (.aload_n 0, 1) := by decide +kernel
theorem dX3_pop_24 : decode cX3_pop 24 = .ok (.getfield 24, 3) := by decide +kernel
theorem dX3_pop_27 : decode cX3_pop 27 = .ok (.iaload, 1) := by decide +kernel
theorem dX3_pop_28 : decode cX3_pop 28 = .ok (.ireturn, 1) := by decide +kernel
theorem dX4_init_0 : decode cX4_init 0 = .ok (.aload_n 0, 1) := by decide +kernel
theorem dX4_init_1 : decode cX4_init 1 = .ok (.invokespecial 3, 3) := by decide +kernel
theorem dX4_init_4 : decode cX4_init 4 = .ok (.aload_n 0, 1) := by decide +kernel
theorem dX4_init_5 : decode cX4_init 5 = .ok (.bipush 121, 2) := by decide +kernel
theorem dX4_init_7 : decode cX4_init 7 = .ok (.newarray .int, 2) := by decide +kernel
theorem dX4_init_9 : decode cX4_init 9 = .ok (.putfield 11, 3) := by decide +kernel
theorem dX4_init_12 : decode cX4_init 12 = .ok (.aload_n 0, 1) := by decide +kernel
theorem dX4_init_13 : decode cX4_init 13 = .ok (.iconst 0, 1) := by decide +kernel
theorem dX4_init_14 : decode cX4_init 14 = .ok (.putfield 15, 3) := by decide +kernel
theorem dX4_init_17 : decode cX4_init 17 = .ok (.aload_n 0, 1) := by decide +kernel
theorem dX4_init_18 : decode cX4_init 18 = .ok (.bipush 120, 2) := by decide +kernel
theorem dX4_init_20 : decode cX4_init 20 = .ok (.newarray .int, 2) := by decide +kernel
theorem dX4_init_22 : decode cX4_init 22 = .ok (.putfield 19, 3) := by decide +kernel
theorem dX4_init_25 : decode cX4_init 25 = .ok (.aload_n 0, 1) := by decide +kernel
theorem dX4_init_26 : decode cX4_init 26 = .ok (.iconst 0, 1) := by decide +kernel
theorem dX4_init_27 : decode cX4_init 27 = .ok (.putfield 22, 3) := by decide +kernel
theorem dX4_init_30 : decode cX4_init 30 = .ok (.aload_n 0, 1) := by decide +kernel
theorem dX4_init_31 : decode cX4_init 31 = .ok (.iconst 0, 1) := by decide +kernel
theorem dX4_init_32 : decode cX4_init 32 = .ok (.putfield 25, 3) := by decide +kernel
theorem dX4_init_35 : decode cX4_init 35 = .ok (.aload_n 0, 1) := by decide +kernel
theorem dX4_init_36 : decode cX4_init 36 = .ok (.iconst 0, 1) := by decide +kernel
theorem dX4_init_37 : decode cX4_init 37 = .ok (.putfield 28, 3) := by decide +kernel
theorem dX4_init_40 : decode cX4_init 40 = .ok (.aload_n 0, 1) := by decide +kernel
theorem dX4_init_41 : decode cX4_init 41 = .ok (.iconst 0, 1) := by decide +kernel
theorem dX4_init_42 : decode cX4_init 42 = .ok (.putfield 31, 3) := by decide +kernel
theorem dX4_init_45 : decode cX4_init 45 = .ok (.aload_n 0, 1) := by decide +kernel
theorem dX4_init_46 : decode cX4_init 46 = .ok (.iconst 1, 1) := by decide +kernel
theorem dX4_init_47 : decode cX4_init 47 = .ok (.putfield 34, 3) := by decide +kernel
theorem dX4_init_50 : decode cX4_init 50 = .ok (.aload_n 0, 1) := by decide +kernel
theorem dX4_init_51 : decode cX4_init 51 = .ok (.iconst 0, 1) := by decide +kernel
theorem dX4_init_52 : decode cX4_init 52 = .ok (.putfield 38, 3) := by decide +kernel
theorem dX4_init_55 : decode cX4_init 55 = .ok (.return_, 1) := by decide +kernel
theorem dX4_faultOf_0 : decode cX4_faultOf 0 = .ok (.aload_n 0, 1) := by decide +kernel
theorem dX4_faultOf_1 : decode cX4_faultOf 1 = .ok (.invokevirtual 41, 3) := by decide +kernel
theorem dX4_faultOf_4 : decode cX4_faultOf 4 = .ok (.iconst 0, 1) := by decide +kernel
theorem dX4_faultOf_5 : decode cX4_faultOf 5 = .ok (.istore_n 3, 1) := by decide +kernel
theorem dX4_faultOf_6 : decode cX4_faultOf 6 = .ok (.iload_n 3, 1) := by decide +kernel
theorem dX4_faultOf_7 : decode cX4_faultOf 7 = .ok (.iload_n 2, 1) := by decide +kernel
theorem dX4_faultOf_8 : decode cX4_faultOf 8 = .ok (.if_icmp .ge 47, 3) := by decide +kernel
theorem dX4_faultOf_11 : decode cX4_faultOf 11 = .ok (.iload_n 3, 1) := by decide +kernel
theorem dX4_faultOf_12 : decode cX4_faultOf 12 = .ok (.aload_n 1, 1) := by decide +kernel
theorem dX4_faultOf_13 : decode cX4_faultOf 13 = .ok (.arraylength, 1) := by decide +kernel
theorem dX4_faultOf_14 : decode cX4_faultOf 14 = .ok (.if_icmp .ge 41, 3) := by decide +kernel
theorem dX4_faultOf_17 : decode cX4_faultOf 17 = .ok (.aload_n 0, 1) := by decide +kernel
theorem dX4_faultOf_18 : decode cX4_faultOf 18 = .ok (.getfield 34, 3) := by decide +kernel
theorem dX4_faultOf_21 : decode cX4_faultOf 21 = .ok (.ifCond .eq 16, 3) := by decide +kernel
theorem dX4_faultOf_24 : decode cX4_faultOf 24 = .ok (.aload_n 0, 1) := by decide +kernel
theorem dX4_faultOf_25 : decode cX4_faultOf 25 = .ok (.aload_n 1, 1) := by decide +kernel
theorem dX4_faultOf_26 : decode cX4_faultOf 26 = .ok (.iload_n 3, 1) := by decide +kernel
theorem dX4_faultOf_27 : decode cX4_faultOf 27 = .ok (.iaload, 1) := by decide +kernel
theorem dX4_faultOf_28 : decode cX4_faultOf 28 = .ok (.invokevirtual 44, 3) := by decide +kernel
theorem dX4_faultOf_31 : decode cX4_faultOf 31 = .ok (.ifCond .eq 16, 3) := by decide +kernel
theorem dX4_faultOf_34 : decode cX4_faultOf 34 = .ok (.goto 15, 3) := by decide +kernel
theorem dX4_faultOf_37 : decode cX4_faultOf 37 = .ok (.aload_n 0, 1) := by decide +kernel
theorem dX4_faultOf_38 : decode cX4_faultOf 38 = .ok (.aload_n 1, 1) := by decide +kernel
theorem dX4_faultOf_39 : decode cX4_faultOf 39 = .ok (.iload_n 3, 1) := by decide +kernel
theorem dX4_faultOf_40 : decode cX4_faultOf 40 = .ok (.iaload, 1) := by decide +kernel
theorem dX4_faultOf_41 : decode cX4_faultOf 41 = .ok (.invokevirtual 48, 3) := by decide +kernel
theorem dX4_faultOf_44 : decode cX4_faultOf 44 = .ok (.ifCond .ne 5, 3) := by decide +kernel
theorem dX4_faultOf_47 : decode cX4_faultOf 47 = .ok (.iload_n 3, 1) := by decide +kernel
theorem dX4_faultOf_48 : decode cX4_faultOf 48 = .ok (.ireturn, 1) := by decide +kernel
theorem dX4_faultOf_49 : decode cX4_faultOf 49 = .ok (.iinc 3 1, 3) := by decide +kernel
theorem dX4_faultOf_52 : decode cX4_faultOf 52 = .ok (.goto (-46), 3) := by decide +kernel
theorem dX4_faultOf_55 : decode cX4_faultOf 55 = .ok (.aload_n 0, 1) := by decide +kernel
theorem dX4_faultOf_56 : decode cX4_faultOf 56 = .ok (.getfield 34, 3) := by decide +kernel
theorem dX4_faultOf_59 : decode cX4_faultOf 59 = .ok (.ifCond .ne 10, 3) := by decide +kernel
theorem dX4_faultOf_62 : decode cX4_faultOf 62 = .ok (.aload_n 0, 1) := by decide +kernel
theorem dX4_faultOf_63 : decode cX4_faultOf 63 = .ok (.invokevirtual 51, 3) := by decide +kernel
theorem dX4_faultOf_66 : decode cX4_faultOf 66 = .ok (.ifCond .ne 5, 3) := by decide +kernel
theorem dX4_faultOf_69 : decode cX4_faultOf 69 = .ok (.iload_n 2, 1) := by decide +kernel
theorem dX4_faultOf_70 : decode cX4_faultOf 70 = .ok (.ireturn, 1) := by decide +kernel
theorem dX4_faultOf_71 : decode cX4_faultOf 71 = .ok (.aload_n 0, 1) := by decide +kernel
theorem dX4_faultOf_72 : decode cX4_faultOf 72 = .ok (.bipush (-59), 2) := by decide +kernel
theorem dX4_faultOf_74 : decode cX4_faultOf 74 = .ok (.invokevirtual 55, 3) := by decide +kernel
theorem dX4_faultOf_77 : decode cX4_faultOf 77 = .ok (.iconst (-1), 1) := by decide +kernel
theorem dX4_faultOf_78 : decode cX4_faultOf 78 = .ok (.ireturn, 1) := by decide +kernel
theorem dX4_begin_0 : decode cX4_begin 0 = .ok (.aload_n 0, 1) := by decide +kernel
theorem dX4_begin_1 : decode cX4_begin 1 = .ok (.iconst 0, 1) := by decide +kernel
theorem dX4_begin_2 : decode cX4_begin 2 = .ok (.putfield 15, 3) := by decide +kernel
theorem dX4_begin_5 : decode cX4_begin 5 = .ok (.aload_n 0, 1) := by decide +kernel
theorem dX4_begin_6 : decode cX4_begin 6 = .ok (.iconst 0, 1) := by decide +kernel
theorem dX4_begin_7 : decode cX4_begin 7 = .ok (.putfield 22, 3) := by decide +kernel
theorem dX4_begin_10 : decode cX4_begin 10 = .ok (.aload_n 0, 1) := by decide +kernel
theorem dX4_begin_11 : decode cX4_begin 11 = .ok (.iconst 0, 1) := by decide +kernel
theorem dX4_begin_12 : decode cX4_begin 12 = .ok (.putfield 25, 3) := by decide +kernel
theorem dX4_begin_15 : decode cX4_begin 15 = .ok (.aload_n 0, 1) := by decide +kernel
theorem dX4_begin_16 : decode cX4_begin 16 = .ok (.iconst 0, 1) := by decide +kernel
theorem dX4_begin_17 : decode cX4_begin 17 = .ok (.putfield 28, 3) := by decide +kernel
theorem dX4_begin_20 : decode cX4_begin 20 = .ok (.aload_n 0, 1) := by decide +kernel
theorem dX4_begin_21 : decode cX4_begin 21 = .ok (.iconst 1, 1) := by decide +kernel
theorem dX4_begin_22 : decode cX4_begin 22 = .ok (.putfield 34, 3) := by decide +kernel
theorem dX4_begin_25 : decode cX4_begin 25 = .ok (.aload_n 0, 1) := by decide +kernel
theorem dX4_begin_26 : decode cX4_begin 26 = .ok (.iconst 0, 1) := by decide +kernel
theorem dX4_begin_27 : decode cX4_begin 27 = .ok (.putfield 38, 3) := by decide +kernel
theorem dX4_begin_30 : decode cX4_begin 30 = .ok (.return_, 1) := by decide +kernel
theorem dX4_takesOperand_0 : decode cX4_takesOperand 0 = .ok (.iload_n 1, 1) := by decide +kernel
theorem dX4_takesOperand_1 : decode cX4_takesOperand 1 = .ok (.invokestatic 59, 3) := by decide +kernel
theorem dX4_takesOperand_4 : decode cX4_takesOperand 4 = .ok (.ifCond .eq 26, 3) := by decide +kernel
theorem dX4_takesOperand_7 : decode cX4_takesOperand 7 = .ok (.aload_n 0, 1) := by decide +kernel
theorem dX4_takesOperand_8 : decode cX4_takesOperand 8 = .ok (.aload_n 0, 1) := by decide +kernel
theorem dX4_takesOperand_9 : decode cX4_takesOperand 9 = .ok (.getfield 15, 3) := by decide +kernel
theorem dX4_takesOperand_12 : decode cX4_takesOperand 12 = .ok (.putfield 31, 3) := by decide +kernel
theorem dX4_takesOperand_15 : decode cX4_takesOperand 15 = .ok (.aload_n 0, 1) := by decide +kernel
theorem dX4_takesOperand_16 : decode cX4_takesOperand 16 = .ok (.iload_n 1, 1) := by decide +kernel
theorem dX4_takesOperand_17 : decode cX4_takesOperand 17 = .ok (.bipush 48, 2) := by decide +kernel
theorem dX4_takesOperand_19 : decode cX4_takesOperand 19 = .ok (.isub, 1) := by decide +kernel
theorem dX4_takesOperand_20 : decode cX4_takesOperand 20 = .ok (.invokevirtual 55, 3) := by decide +kernel
theorem dX4_takesOperand_23 : decode cX4_takesOperand 23 = .ok (.aload_n 0, 1) := by decide +kernel
theorem dX4_takesOperand_24 : decode cX4_takesOperand 24 = .ok (.iconst 3, 1) := by decide +kernel
theorem dX4_takesOperand_25 : decode cX4_takesOperand 25 = .ok (.invokevirtual 62, 3) := by decide +kernel
theorem dX4_takesOperand_28 : decode cX4_takesOperand 28 = .ok (.iconst 1, 1) := by decide +kernel
theorem dX4_takesOperand_29 : decode cX4_takesOperand 29 = .ok (.ireturn, 1) := by decide +kernel
theorem dX4_takesOperand_30 : decode cX4_takesOperand 30 = .ok (.iload_n 1, 1) := by decide +kernel
theorem dX4_takesOperand_31 : decode cX4_takesOperand 31 = .ok (.invokestatic 65, 3) := by decide +kernel
theorem dX4_takesOperand_34 : decode cX4_takesOperand 34 = .ok (.ifCond .eq 16, 3) := by decide +kernel
theorem dX4_takesOperand_37 : decode cX4_takesOperand 37 = .ok (.aload_n 0, 1) := by decide +kernel
theorem dX4_takesOperand_38 : decode cX4_takesOperand 38 = .ok (.iload_n 1, 1) := by decide +kernel
theorem dX4_takesOperand_39 : decode cX4_takesOperand 39 = .ok (.ineg, 1) := by decide +kernel
theorem dX4_takesOperand_40 : decode cX4_takesOperand 40 = .ok (.invokevirtual 55, 3) := by decide +kernel
theorem dX4_takesOperand_43 : decode cX4_takesOperand 43 = .ok (.aload_n 0, 1) := by decide +kernel
theorem dX4_takesOperand_44 : decode cX4_takesOperand 44 = .ok (.iconst 0, 1) := by decide +kernel
theorem dX4_takesOperand_45 : decode cX4_takesOperand 45 = .ok (.invokevirtual 62, 3) := by decide +kernel
theorem dX4_takesOperand_48 : decode cX4_takesOperand 48 = .ok (.iconst 1, 1) := by decide +kernel
theorem dX4_takesOperand_49 : decode cX4_takesOperand 49 = .ok (.ireturn, 1) := by decide +kernel
theorem dX4_takesOperand_50 : decode cX4_takesOperand 50 = .ok (.iload_n 1, 1) := by decide +kernel
theorem dX4_takesOperand_51 : decode cX4_takesOperand 51 = .ok (.bipush 40, 2) := by decide +kernel
theorem dX4_takesOperand_53 : decode cX4_takesOperand 53 = .ok (.if_icmp .eq 15, 3) := by decide +kernel
theorem dX4_takesOperand_56 : decode cX4_takesOperand 56 = .ok (.iload_n 1, 1) := by decide +kernel
theorem dX4_takesOperand_57 : decode cX4_takesOperand 57 = .ok (.bipush 33, 2) := by decide +kernel
theorem dX4_takesOperand_59 : decode cX4_takesOperand 59 = .ok (.if_icmp .eq 9, 3) := by decide +kernel
theorem dX4_takesOperand_62 : decode cX4_takesOperand 62 = .ok (.iload_n 1, 1) := by decide +kernel
theorem dX4_takesOperand_63 : decode cX4_takesOperand 63 = .ok (.bipush 45, 2) := by decide +kernel
theorem dX4_takesOperand_65 : decode cX4_takesOperand 65 = .ok (.if_icmp .ne 12, 3) := by decide +kernel
theorem dX4_takesOperand_68 : decode cX4_takesOperand 68 = .ok (.aload_n 0, 1) := by decide +kernel
theorem dX4_takesOperand_69 : decode cX4_takesOperand 69 = .ok (.getfield 25, 3) := by decide +kernel
theorem dX4_takesOperand_72 : decode cX4_takesOperand 72 = .ok (.bipush 6, 2) := by decide +kernel
theorem dX4_takesOperand_74 : decode cX4_takesOperand 74 = .ok (.if_icmp .lt 5, 3) := by decide +kernel
theorem dX4_takesOperand_77 : decode cX4_takesOperand 77 = .ok (.iconst 0, 1) := by decide +kernel
theorem dX4_takesOperand_78 : decode cX4_takesOperand 78 = .ok (.ireturn, 1) := by decide +kernel
theorem dX4_takesOperand_79 : decode cX4_takesOperand 79 = .ok (.aload_n 0, 1) := by decide +kernel
theorem dX4_takesOperand_80 : decode cX4_takesOperand 80 = .ok (.dup, 1) := by decide +kernel
theorem dX4_takesOperand_81 : decode cX4_takesOperand 81 = .ok (.getfield 25, 3) := by decide +kernel
theorem dX4_takesOperand_84 : decode cX4_takesOperand 84 = .ok (.iconst 1, 1) := by decide +kernel
theorem dX4_takesOperand_85 : decode cX4_takesOperand 85 = .ok (.iadd, 1) := by decide +kernel
theorem dX4_takesOperand_86 : decode cX4_takesOperand 86 = .ok (.putfield 25, 3) := by decide +kernel
theorem dX4_takesOperand_89 : decode cX4_takesOperand 89 = .ok (.aload_n 0, 1) := by decide +kernel
theorem dX4_takesOperand_90 : decode cX4_takesOperand 90 = .ok (.iload_n 1, 1) := by decide +kernel
theorem dX4_takesOperand_91 : decode cX4_takesOperand 91 = .ok (.bipush 45, 2) := by decide +kernel
theorem dX4_takesOperand_93 : decode cX4_takesOperand 93 = .ok (.if_icmp .ne 8, 3) := by decide +kernel
theorem dX4_takesOperand_96 : decode cX4_takesOperand 96 = .ok (.bipush 126, 2) := by decide +kernel
theorem dX4_takesOperand_98 : decode cX4_takesOperand 98 = .ok (.goto 4, 3) := by decide +kernel
theorem dX4_takesOperand_101 : decode cX4_takesOperand 101 = .ok (.iload_n 1, 1) := by decide +kernel
theorem dX4_takesOperand_102 : decode cX4_takesOperand 102 = .ok (.invokevirtual 68, 3) := by decide +kernel
theorem dX4_takesOperand_105 : decode cX4_takesOperand 105 = .ok (.iconst 1, 1) := by decide +kernel
theorem dX4_takesOperand_106 : decode cX4_takesOperand 106 = .ok (.ireturn, 1) := by decide +kernel
theorem dX4_takesSign_0 : decode cX4_takesSign 0 = .ok (.iload_n 1, 1) := by decide +kernel
theorem dX4_takesSign_1 : decode cX4_takesSign 1 = .ok (.invokestatic 59, 3) := by decide +kernel
theorem dX4_takesSign_4 : decode cX4_takesSign 4 = .ok (.ifCond .eq 9, 3) := by decide +kernel
theorem dX4_takesSign_7 : decode cX4_takesSign 7 = .ok (.aload_n 0, 1) := by decide +kernel
theorem dX4_takesSign_8 : decode cX4_takesSign 8 = .ok (.iload_n 1, 1) := by decide +kernel
theorem dX4_takesSign_9 : decode cX4_takesSign 9 = .ok (.invokevirtual 71, 3) := by decide +kernel
theorem dX4_takesSign_12 : decode cX4_takesSign 12 = .ok (.ireturn, 1) := by decide +kernel
theorem dX4_takesSign_13 : decode cX4_takesSign 13 = .ok (.iload_n 1, 1) := by decide +kernel
theorem dX4_takesSign_14 : decode cX4_takesSign 14 = .ok (.bipush 41, 2) := by decide +kernel
theorem dX4_takesSign_16 : decode cX4_takesSign 16 = .ok (.if_icmp .ne 8, 3) := by decide +kernel
theorem dX4_takesSign_19 : decode cX4_takesSign 19 = .ok (.aload_n 0, 1) := by decide +kernel
theorem dX4_takesSign_20 : decode cX4_takesSign 20 = .ok (.invokevirtual 74, 3) := by decide +kernel
theorem dX4_takesSign_23 : decode cX4_takesSign 23 = .ok (.ireturn, 1) := by decide +kernel
theorem dX4_takesSign_24 : decode cX4_takesSign 24 = .ok (.iload_n 1, 1) := by decide +kernel
theorem dX4_takesSign_25 : decode cX4_takesSign 25 = .ok (.bipush 63, 2) := by decide +kernel
theorem dX4_takesSign_27 : decode cX4_takesSign 27 = .ok (.if_icmp .eq 9, 3) := by decide +kernel
theorem dX4_takesSign_30 : decode cX4_takesSign 30 = .ok (.iload_n 1, 1) := by decide +kernel
theorem dX4_takesSign_31 : decode cX4_takesSign 31 = .ok (.bipush 59, 2) := by decide +kernel
theorem dX4_takesSign_33 : decode cX4_takesSign 33 = .ok (.if_icmp .ne 9, 3) := by decide +kernel
theorem dX4_takesSign_36 : decode cX4_takesSign 36 = .ok (.aload_n 0, 1) := by decide +kernel
theorem dX4_takesSign_37 : decode cX4_takesSign 37 = .ok (.iload_n 1, 1) := by decide +kernel
theorem dX4_takesSign_38 : decode cX4_takesSign 38 = .ok (.invokevirtual 77, 3) := by decide +kernel
theorem dX4_takesSign_41 : decode cX4_takesSign 41 = .ok (.ireturn, 1) := by decide +kernel
theorem dX4_takesSign_42 : decode cX4_takesSign 42 = .ok (.iload_n 1, 1) := by decide +kernel
theorem dX4_takesSign_43 : decode cX4_takesSign 43 = .ok (.invokestatic 80, 3) := by decide +kernel
theorem dX4_takesSign_46 : decode cX4_takesSign 46 = .ok (.istore_n 2, 1) := by decide +kernel
theorem dX4_takesSign_47 : decode cX4_takesSign 47 = .ok (.iload_n 2, 1) := by decide +kernel
theorem dX4_takesSign_48 : decode cX4_takesSign 48 = .ok (.iconst 1, 1) := by decide +kernel
theorem dX4_takesSign_49 : decode cX4_takesSign 49 = .ok (.if_icmp .lt 8, 3) := by decide +kernel
theorem dX4_takesSign_52 : decode cX4_takesSign 52 = .ok (.iload_n 2, 1) := by decide +kernel
theorem dX4_takesSign_53 : decode cX4_takesSign 53 = .ok (.iconst 5, 1) := by decide +kernel
theorem dX4_takesSign_54 : decode cX4_takesSign 54 = .ok (.if_icmp .le 5, 3) := by decide +kernel
theorem dX4_takesSign_57 : decode cX4_takesSign 57 = .ok (.iconst 0, 1) := by decide +kernel
theorem dX4_takesSign_58 : decode cX4_takesSign 58 = .ok (.ireturn, 1) := by decide +kernel
theorem dX4_takesSign_59 : decode cX4_takesSign 59 = .ok (.aload_n 0, 1) := by decide +kernel
theorem dX4_takesSign_60 : decode cX4_takesSign 60 = .ok (.iload_n 2, 1) := by decide +kernel
theorem dX4_takesSign_61 : decode cX4_takesSign 61 = .ok (.iconst 3, 1) := by decide +kernel
theorem dX4_takesSign_62 : decode cX4_takesSign 62 = .ok (.if_icmp .ne 9, 3) := by decide +kernel
theorem dX4_takesSign_65 : decode cX4_takesSign 65 = .ok (.iload_n 2, 1) := by decide +kernel
theorem dX4_takesSign_66 : decode cX4_takesSign 66 = .ok (.iconst 1, 1) := by decide +kernel
theorem dX4_takesSign_67 : decode cX4_takesSign 67 = .ok (.iadd, 1) := by decide +kernel
theorem dX4_takesSign_68 : decode cX4_takesSign 68 = .ok (.goto 4, 3) := by decide +kernel
theorem dX4_takesSign_71 : decode cX4_takesSign 71 = .ok (.iload_n 2, 1) := by decide +kernel
theorem dX4_takesSign_72 : decode cX4_takesSign 72 = .ok (.invokevirtual 84, 3) := by decide +kernel
theorem dX4_takesSign_75 : decode cX4_takesSign 75 = .ok (.pop, 1) := by decide +kernel
theorem dX4_takesSign_76 : decode cX4_takesSign 76 = .ok (.iload_n 2, 1) := by decide +kernel
theorem dX4_takesSign_77 : decode cX4_takesSign 77 = .ok (.iconst 3, 1) := by decide +kernel
theorem dX4_takesSign_78 : decode cX4_takesSign 78 = .ok (.if_icmp .ne 30, 3) := by decide +kernel
theorem dX4_takesSign_81 : decode cX4_takesSign 81 = .ok (.aload_n 0, 1) := by decide +kernel
theorem dX4_takesSign_82 : decode cX4_takesSign 82 = .ok (.getfield 22, 3) := by decide +kernel
theorem dX4_takesSign_85 : decode cX4_takesSign 85 = .ok (.ifCond .le 23, 3) := by decide +kernel
theorem dX4_takesSign_88 : decode cX4_takesSign 88 = .ok (.aload_n 0, 1) := by decide +kernel
theorem dX4_takesSign_89 : decode cX4_takesSign 89 = .ok (.getfield 19, 3) := by decide +kernel
theorem dX4_takesSign_92 : decode cX4_takesSign 92 = .ok (.aload_n 0, 1) := by decide +kernel
theorem dX4_takesSign_93 : decode cX4_takesSign 93 = .ok (.getfield 22, 3) := by decide +kernel
theorem dX4_takesSign_96 : decode cX4_takesSign 96 = .ok (.iconst 1, 1) := by decide +kernel
theorem dX4_takesSign_97 : decode cX4_takesSign 97 = .ok (.isub, 1) := by decide +kernel
theorem dX4_takesSign_98 : decode cX4_takesSign 98 = .ok (.iaload, 1) := by decide +kernel
theorem dX4_takesSign_99 : decode cX4_takesSign 99 = .ok (.invokestatic 80, 3) := by decide +kernel
theorem dX4_takesSign_102 : decode cX4_takesSign 102 = .ok (.iconst 3, 1) := by decide +kernel
theorem dX4_takesSign_103 : decode cX4_takesSign 103 = .ok (.if_icmp .ne 5, 3) := by decide +kernel
theorem dX4_takesSign_106 : decode cX4_takesSign 106 = .ok (.iconst 0, 1) := by decide +kernel
theorem dX4_takesSign_107 : decode cX4_takesSign 107 = .ok (.ireturn, 1) := by decide +kernel
theorem dX4_takesSign_108 : decode cX4_takesSign 108 = .ok (.aload_n 0, 1) := by decide +kernel
theorem dX4_takesSign_109 : decode cX4_takesSign 109 = .ok (.iload_n 1, 1) := by decide +kernel
theorem dX4_takesSign_110 : decode cX4_takesSign 110 = .ok (.invokevirtual 68, 3) := by decide +kernel
theorem dX4_takesSign_113 : decode cX4_takesSign 113 = .ok (.aload_n 0, 1) := by decide +kernel
theorem dX4_takesSign_114 : decode cX4_takesSign 114 = .ok (.iconst 1, 1) := by decide +kernel
theorem dX4_takesSign_115 : decode cX4_takesSign 115 = .ok (.putfield 34, 3) := by decide +kernel
theorem dX4_takesSign_118 : decode cX4_takesSign 118 = .ok (.iconst 1, 1) := by decide +kernel
theorem dX4_takesSign_119 : decode cX4_takesSign 119 = .ok (.ireturn, 1) := by decide +kernel
theorem dX4_takesDigit_0 : decode cX4_takesDigit 0 = .ok (.aload_n 0, 1) := by decide +kernel
theorem dX4_takesDigit_1 : decode cX4_takesDigit 1 = .ok (.getfield 28, 3) := by decide +kernel
theorem dX4_takesDigit_4 : decode cX4_takesDigit 4 = .ok (.ifCond .le 15, 3) := by decide +kernel
theorem dX4_takesDigit_7 : decode cX4_takesDigit 7 = .ok (.aload_n 0, 1) := by decide +kernel
theorem dX4_takesDigit_8 : decode cX4_takesDigit 8 = .ok (.getfield 31, 3) := by decide +kernel
theorem dX4_takesDigit_11 : decode cX4_takesDigit 11 = .ok (.aload_n 0, 1) := by decide +kernel
theorem dX4_takesDigit_12 : decode cX4_takesDigit 12 = .ok (.getfield 11, 3) := by decide +kernel
theorem dX4_takesDigit_15 : decode cX4_takesDigit 15 = .ok (.arraylength, 1) := by decide +kernel
theorem dX4_takesDigit_16 : decode cX4_takesDigit 16 = .ok (.if_icmp .lt 5, 3) := by decide +kernel
theorem dX4_takesDigit_19 : decode cX4_takesDigit 19 = .ok (.iconst 0, 1) := by decide +kernel
theorem dX4_takesDigit_20 : decode cX4_takesDigit 20 = .ok (.ireturn, 1) := by decide +kernel
theorem dX4_takesDigit_21 : decode cX4_takesDigit 21 = .ok (.aload_n 0, 1) := by decide +kernel
theorem dX4_takesDigit_22 : decode cX4_takesDigit 22 = .ok (.dup, 1) := by decide +kernel
theorem dX4_takesDigit_23 : decode cX4_takesDigit 23 = .ok (.getfield 28, 3) := by decide +kernel
theorem dX4_takesDigit_26 : decode cX4_takesDigit 26 = .ok (.iconst 1, 1) := by decide +kernel
theorem dX4_takesDigit_27 : decode cX4_takesDigit 27 = .ok (.isub, 1) := by decide +kernel
theorem dX4_takesDigit_28 : decode cX4_takesDigit 28 = .ok (.putfield 28, 3) := by decide +kernel
theorem dX4_takesDigit_31 : decode cX4_takesDigit 31 = .ok (.aload_n 0, 1) := by decide +kernel
theorem dX4_takesDigit_32 : decode cX4_takesDigit 32 = .ok (.getfield 11, 3) := by decide +kernel
theorem dX4_takesDigit_35 : decode cX4_takesDigit 35 = .ok (.aload_n 0, 1) := by decide +kernel
theorem dX4_takesDigit_36 : decode cX4_takesDigit 36 = .ok (.getfield 31, 3) := by decide +kernel
theorem dX4_takesDigit_39 : decode cX4_takesDigit 39 = .ok (.aload_n 0, 1) := by decide +kernel
theorem dX4_takesDigit_40 : decode cX4_takesDigit 40 = .ok (.getfield 11, 3) := by decide +kernel
theorem dX4_takesDigit_43 : decode cX4_takesDigit 43 = .ok (.aload_n 0, 1) := by decide +kernel
theorem dX4_takesDigit_44 : decode cX4_takesDigit 44 = .ok (.getfield 31, 3) := by decide +kernel
theorem dX4_takesDigit_47 : decode cX4_takesDigit 47 = .ok (.iaload, 1) := by decide +kernel
theorem dX4_takesDigit_48 : decode cX4_takesDigit 48 = .ok (.bipush 10, 2) := by decide +kernel
theorem dX4_takesDigit_50 : decode cX4_takesDigit 50 = .ok (.imul, 1) := by decide +kernel
theorem dX4_takesDigit_51 : decode cX4_takesDigit 51 = .ok (.iload_n 1, 1) := by decide +kernel
theorem dX4_takesDigit_52 : decode cX4_takesDigit 52 = .ok (.bipush 48, 2) := by decide +kernel
theorem dX4_takesDigit_54 : decode cX4_takesDigit 54 = .ok (.isub, 1) := by decide +kernel
theorem dX4_takesDigit_55 : decode cX4_takesDigit 55 = .ok (.iadd, 1) := by decide +kernel
theorem dX4_takesDigit_56 : decode cX4_takesDigit 56 = .ok (.iastore, 1) := by decide +kernel
theorem dX4_takesDigit_57 : decode cX4_takesDigit 57 = .ok (.iconst 1, 1) := by decide +kernel
theorem dX4_takesDigit_58 : decode cX4_takesDigit 58 = .ok (.ireturn, 1) := by decide +kernel
theorem dX4_closes_0 : decode cX4_closes 0 = .ok (.aload_n 0, 1) := by decide +kernel
theorem dX4_closes_1 : decode cX4_closes 1 = .ok (.iconst 1, 1) := by decide +kernel
theorem dX4_closes_2 : decode cX4_closes 2 = .ok (.invokevirtual 84, 3) := by decide +kernel
theorem dX4_closes_5 : decode cX4_closes 5 = .ok (.pop, 1) := by decide +kernel
theorem dX4_closes_6 : decode cX4_closes 6 = .ok (.aload_n 0, 1) := by decide +kernel
theorem dX4_closes_7 : decode cX4_closes 7 = .ok (.getfield 22, 3) := by decide +kernel
theorem dX4_closes_10 : decode cX4_closes 10 = .ok (.ifCond .ne 5, 3) := by decide +kernel
theorem dX4_closes_13 : decode cX4_closes 13 = .ok (.iconst 0, 1) := by decide +kernel
theorem dX4_closes_14 : decode cX4_closes 14 = .ok (.ireturn, 1) := by decide +kernel
theorem dX4_closes_15 : decode cX4_closes 15 = .ok (.aload_n 0, 1) := by decide +kernel
theorem dX4_closes_16 : decode cX4_closes 16 = .ok (.dup, 1) := by decide +kernel
theorem dX4_closes_17 : decode cX4_closes 17 = .ok (.getfield 22, 3) := by decide +kernel
theorem dX4_closes_20 : decode cX4_closes 20 = .ok (.iconst 1, 1) := by decide +kernel
theorem dX4_closes_21 : decode cX4_closes 21 = .ok (.isub, 1) := by decide +kernel
theorem dX4_closes_22 : decode cX4_closes 22 = .ok (.putfield 22, 3) := by decide +kernel
theorem dX4_closes_25 : decode cX4_closes 25 = .ok (.aload_n 0, 1) := by decide +kernel
theorem dX4_closes_26 : decode cX4_closes 26 = .ok (.dup, 1) := by decide +kernel
theorem dX4_closes_27 : decode cX4_closes 27 = .ok (.getfield 25, 3) := by decide +kernel
theorem dX4_closes_30 : decode cX4_closes 30 = .ok (.iconst 1, 1) := by decide +kernel
theorem dX4_closes_31 : decode cX4_closes 31 = .ok (.isub, 1) := by decide +kernel
theorem dX4_closes_32 : decode cX4_closes 32 = .ok (.putfield 25, 3) := by decide +kernel
theorem dX4_closes_35 : decode cX4_closes 35 = .ok (.aload_n 0, 1) := by decide +kernel
theorem dX4_closes_36 : decode cX4_closes 36 = .ok (.iconst 0, 1) := by decide +kernel
theorem dX4_closes_37 : decode cX4_closes 37 = .ok (.invokevirtual 62, 3) := by decide +kernel
theorem dX4_closes_40 : decode cX4_closes 40 = .ok (.iconst 1, 1) := by decide +kernel
theorem dX4_closes_41 : decode cX4_closes 41 = .ok (.ireturn, 1) := by decide +kernel
theorem dX4_endsPart_0 : decode cX4_endsPart 0 = .ok (.aload_n 0, 1) := by decide +kernel
theorem dX4_endsPart_1 : decode cX4_endsPart 1 = .ok (.invokevirtual 51, 3) := by decide +kernel
theorem dX4_endsPart_4 : decode cX4_endsPart 4 = .ok (.ifCond .eq 16, 3) := by decide +kernel
theorem dX4_endsPart_7 : decode cX4_endsPart 7 = .ok (.iload_n 1, 1) := by decide +kernel
theorem dX4_endsPart_8 : decode cX4_endsPart 8 = .ok (.bipush 63, 2) := by decide +kernel
theorem dX4_endsPart_10 : decode cX4_endsPart 10 = .ok (.if_icmp .ne 12, 3) := by decide +kernel
theorem dX4_endsPart_13 : decode cX4_endsPart 13 = .ok (.aload_n 0, 1) := by decide +kernel
theorem dX4_endsPart_14 : decode cX4_endsPart 14 = .ok (.getfield 38, 3) := by decide +kernel
theorem dX4_endsPart_17 : decode cX4_endsPart 17 = .ok (.ifCond .eq 5, 3) := by decide +kernel
theorem dX4_endsPart_20 : decode cX4_endsPart 20 = .ok (.iconst 0, 1) := by decide +kernel
theorem dX4_endsPart_21 : decode cX4_endsPart 21 = .ok (.ireturn, 1) := by decide +kernel
theorem dX4_endsPart_22 : decode cX4_endsPart 22 = .ok (.aload_n 0, 1) := by decide +kernel
theorem dX4_endsPart_23 : decode cX4_endsPart 23 = .ok (.iload_n 1, 1) := by decide +kernel
theorem dX4_endsPart_24 : decode cX4_endsPart 24 = .ok (.bipush 63, 2) := by decide +kernel
theorem dX4_endsPart_26 : decode cX4_endsPart 26 = .ok (.if_icmp .ne 7, 3) := by decide +kernel
theorem dX4_endsPart_29 : decode cX4_endsPart 29 = .ok (.iconst 1, 1) := by decide +kernel
theorem dX4_endsPart_30 : decode cX4_endsPart 30 = .ok (.goto 4, 3) := by decide +kernel
theorem dX4_endsPart_33 : decode cX4_endsPart 33 = .ok (.iconst 0, 1) := by decide +kernel
theorem dX4_endsPart_34 : decode cX4_endsPart 34 = .ok (.putfield 38, 3) := by decide +kernel
theorem dX4_endsPart_37 : decode cX4_endsPart 37 = .ok (.iload_n 1, 1) := by decide +kernel
theorem dX4_endsPart_38 : decode cX4_endsPart 38 = .ok (.bipush 59, 2) := by decide +kernel
theorem dX4_endsPart_40 : decode cX4_endsPart 40 = .ok (.if_icmp .ne 9, 3) := by decide +kernel
theorem dX4_endsPart_43 : decode cX4_endsPart 43 = .ok (.aload_n 0, 1) := by decide +kernel
theorem dX4_endsPart_44 : decode cX4_endsPart 44 = .ok (.bipush (-59), 2) := by decide +kernel
theorem dX4_endsPart_46 : decode cX4_endsPart 46 = .ok (.invokevirtual 55, 3) := by decide +kernel
theorem dX4_endsPart_49 : decode cX4_endsPart 49 = .ok (.aload_n 0, 1) := by decide +kernel
theorem dX4_endsPart_50 : decode cX4_endsPart 50 = .ok (.iconst 1, 1) := by decide +kernel
theorem dX4_endsPart_51 : decode cX4_endsPart 51 = .ok (.putfield 34, 3) := by decide +kernel
theorem dX4_endsPart_54 : decode cX4_endsPart 54 = .ok (.iconst 1, 1) := by decide +kernel
theorem dX4_endsPart_55 : decode cX4_endsPart 55 = .ok (.ireturn, 1) := by decide +kernel
theorem dX4_endsE_0 : decode cX4_endsE 0 = .ok (.aload_n 0, 1) := by decide +kernel
theorem dX4_endsE_1 : decode cX4_endsE 1 = .ok (.iconst 1, 1) := by decide +kernel
theorem dX4_endsE_2 : decode cX4_endsE 2 = .ok (.invokevirtual 84, 3) := by decide +kernel
theorem dX4_endsE_5 : decode cX4_endsE 5 = .ok (.pop, 1) := by decide +kernel
theorem dX4_endsE_6 : decode cX4_endsE 6 = .ok (.aload_n 0, 1) := by decide +kernel
theorem dX4_endsE_7 : decode cX4_endsE 7 = .ok (.getfield 22, 3) := by decide +kernel
theorem dX4_endsE_10 : decode cX4_endsE 10 = .ok (.ifCond .ne 7, 3) := by decide +kernel
theorem dX4_endsE_13 : decode cX4_endsE 13 = .ok (.iconst 1, 1) := by decide +kernel
theorem dX4_endsE_14 : decode cX4_endsE 14 = .ok (.goto 4, 3) := by decide +kernel
theorem dX4_endsE_17 : decode cX4_endsE 17 = .ok (.iconst 0, 1) := by decide +kernel
theorem dX4_endsE_18 : decode cX4_endsE 18 = .ok (.ireturn, 1) := by decide +kernel
theorem dX4_endOperand_0 : decode cX4_endOperand 0 = .ok (.aload_n 0, 1) := by decide +kernel
theorem dX4_endOperand_1 : decode cX4_endOperand 1 = .ok (.iload_n 1, 1) := by decide +kernel
theorem dX4_endOperand_2 : decode cX4_endOperand 2 = .ok (.putfield 28, 3) := by decide +kernel
theorem dX4_endOperand_5 : decode cX4_endOperand 5 = .ok (.aload_n 0, 1) := by decide +kernel
theorem dX4_endOperand_6 : decode cX4_endOperand 6 = .ok (.iconst 0, 1) := by decide +kernel
theorem dX4_endOperand_7 : decode cX4_endOperand 7 = .ok (.putfield 34, 3) := by decide +kernel
theorem dX4_endOperand_10 : decode cX4_endOperand 10 = .ok (.aload_n 0, 1) := by decide +kernel
theorem dX4_endOperand_11 : decode cX4_endOperand 11 = .ok (.dup, 1) := by decide +kernel
theorem dX4_endOperand_12 : decode cX4_endOperand 12 = .ok (.getfield 25, 3) := by decide +kernel
theorem dX4_endOperand_15 : decode cX4_endOperand 15 = .ok (.aload_n 0, 1) := by decide +kernel
theorem dX4_endOperand_16 : decode cX4_endOperand 16 = .ok (.bipush 6, 2) := by decide +kernel
theorem dX4_endOperand_18 : decode cX4_endOperand 18 = .ok (.invokevirtual 84, 3) := by decide +kernel
theorem dX4_endOperand_21 : decode cX4_endOperand 21 = .ok (.isub, 1) := by decide +kernel
theorem dX4_endOperand_22 : decode cX4_endOperand 22 = .ok (.putfield 25, 3) := by decide +kernel
theorem dX4_endOperand_25 : decode cX4_endOperand 25 = .ok (.return_, 1) := by decide +kernel
theorem dX4_release_0 : decode cX4_release 0 = .ok (.iconst 0, 1) := by decide +kernel
theorem dX4_release_1 : decode cX4_release 1 = .ok (.istore_n 2, 1) := by decide +kernel
theorem dX4_release_2 : decode cX4_release 2 = .ok (.aload_n 0, 1) := by decide +kernel
theorem dX4_release_3 : decode cX4_release 3 = .ok (.getfield 22, 3) := by decide +kernel
theorem dX4_release_6 : decode cX4_release 6 = .ok (.iconst 1, 1) := by decide +kernel
theorem dX4_release_7 : decode cX4_release 7 = .ok (.isub, 1) := by decide +kernel
theorem dX4_release_8 : decode cX4_release 8 = .ok (.istore_n 3, 1) := by decide +kernel
theorem dX4_release_9 : decode cX4_release 9 = .ok (.iload_n 3, 1) := by decide +kernel
theorem dX4_release_10 : decode cX4_release 10 = .ok (.ifCond .lt 36, 3) := by decide +kernel
theorem dX4_release_13 : decode cX4_release 13 = .ok (.aload_n 0, 1) := by decide +kernel
theorem dX4_release_14 : decode cX4_release 14 = .ok (.getfield 19, 3) := by decide +kernel
theorem dX4_release_17 : decode cX4_release 17 = .ok (.iload_n 3, 1) := by decide +kernel
theorem dX4_release_18 : decode cX4_release 18 = .ok (.iaload, 1) := by decide +kernel
theorem dX4_release_19 : decode cX4_release 19 = .ok (.invokestatic 80, 3) := by decide +kernel
theorem dX4_release_22 : decode cX4_release 22 = .ok (.iload_n 1, 1) := by decide +kernel
theorem dX4_release_23 : decode cX4_release 23 = .ok (.if_icmp .lt 23, 3) := by decide +kernel
theorem dX4_release_26 : decode cX4_release 26 = .ok (.aload_n 0, 1) := by decide +kernel
theorem dX4_release_27 : decode cX4_release 27 = .ok (.aload_n 0, 1) := by decide +kernel
theorem dX4_release_28 : decode cX4_release 28 = .ok (.getfield 19, 3) := by decide +kernel
theorem dX4_release_31 : decode cX4_release 31 = .ok (.iload_n 3, 1) := by decide +kernel
theorem dX4_release_32 : decode cX4_release 32 = .ok (.iaload, 1) := by decide +kernel
theorem dX4_release_33 : decode cX4_release 33 = .ok (.ineg, 1) := by decide +kernel
theorem dX4_release_34 : decode cX4_release 34 = .ok (.invokevirtual 55, 3) := by decide +kernel
theorem dX4_release_37 : decode cX4_release 37 = .ok (.iinc 2 1, 3) := by decide +kernel
theorem dX4_release_40 : decode cX4_release 40 = .ok (.iinc 3 (-1), 3) := by decide +kernel
theorem dX4_release_43 : decode cX4_release 43 = .ok (.goto (-34), 3) := by decide +kernel
theorem dX4_release_46 : decode cX4_release 46 = .ok (.aload_n 0, 1) := by decide +kernel
theorem dX4_release_47 : decode cX4_release 47 = .ok (.dup, 1) := by decide +kernel
theorem dX4_release_48 : decode cX4_release 48 = .ok (.getfield 22, 3) := by decide +kernel
theorem dX4_release_51 : decode cX4_release 51 = .ok (.iload_n 2, 1) := by decide +kernel
theorem dX4_release_52 : decode cX4_release 52 = .ok (.isub, 1) := by decide +kernel
theorem dX4_release_53 : decode cX4_release 53 = .ok (.putfield 22, 3) := by decide +kernel
theorem dX4_release_56 : decode cX4_release 56 = .ok (.iload_n 2, 1) := by decide +kernel
theorem dX4_release_57 : decode cX4_release 57 = .ok (.ireturn, 1) := by decide +kernel
theorem dX4_await_0 : decode cX4_await 0 = .ok (.aload_n 0, 1) := by decide +kernel
theorem dX4_await_1 : decode cX4_await 1 = .ok (.getfield 22, 3) := by decide +kernel
theorem dX4_await_4 : decode cX4_await 4 = .ok (.aload_n 0, 1) := by decide +kernel
theorem dX4_await_5 : decode cX4_await 5 = .ok (.getfield 19, 3) := by decide +kernel
theorem dX4_await_8 : decode cX4_await 8 = .ok (.arraylength, 1) := by decide +kernel
theorem dX4_await_9 : decode cX4_await 9 = .ok (.if_icmp .ge 23, 3) := by decide +kernel
theorem dX4_await_12 : decode cX4_await 12 = .ok (.aload_n 0, 1) := by decide +kernel
theorem dX4_await_13 : decode cX4_await 13 = .ok (.getfield 19, 3) := by decide +kernel
theorem dX4_await_16 : decode cX4_await 16 = .ok (.aload_n 0, 1) := by decide +kernel
theorem dX4_await_17 : decode cX4_await 17 = .ok (.getfield 22, 3) := by decide +kernel
theorem dX4_await_20 : decode cX4_await 20 = .ok (.iload_n 1, 1) := by decide +kernel
theorem dX4_await_21 : decode cX4_await 21 = .ok (.iastore, 1) := by decide +kernel
theorem dX4_await_22 : decode cX4_await 22 = .ok (.aload_n 0, 1) := by decide +kernel
theorem dX4_await_23 : decode cX4_await 23 = .ok (.dup, 1) := by decide +kernel
theorem dX4_await_24 : decode cX4_await 24 = .ok (.getfield 22, 3) := by decide +kernel
theorem dX4_await_27 : decode cX4_await 27 = .ok (.iconst 1, 1) := by decide +kernel
theorem dX4_await_28 : decode cX4_await 28 = .ok (.iadd, 1) := by decide +kernel
theorem dX4_await_29 : decode cX4_await 29 = .ok (.putfield 22, 3) := by decide +kernel
theorem dX4_await_32 : decode cX4_await 32 = .ok (.return_, 1) := by decide +kernel
theorem dX4_emit_0 : decode cX4_emit 0 = .ok (.aload_n 0, 1) := by decide +kernel
theorem dX4_emit_1 : decode cX4_emit 1 = .ok (.getfield 15, 3) := by decide +kernel
theorem dX4_emit_4 : decode cX4_emit 4 = .ok (.aload_n 0, 1) := by decide +kernel
theorem dX4_emit_5 : decode cX4_emit 5 = .ok (.getfield 11, 3) := by decide +kernel
theorem dX4_emit_8 : decode cX4_emit 8 = .ok (.arraylength, 1) := by decide +kernel
theorem dX4_emit_9 : decode cX4_emit 9 = .ok (.if_icmp .ge 23, 3) := by decide +kernel
theorem dX4_emit_12 : decode cX4_emit 12 = .ok (.aload_n 0, 1) := by decide +kernel
theorem dX4_emit_13 : decode cX4_emit 13 = .ok (.getfield 11, 3) := by decide +kernel
theorem dX4_emit_16 : decode cX4_emit 16 = .ok (.aload_n 0, 1) := by decide +kernel
theorem dX4_emit_17 : decode cX4_emit 17 = .ok (.getfield 15, 3) := by decide +kernel
theorem dX4_emit_20 : decode cX4_emit 20 = .ok (.iload_n 1, 1) := by decide +kernel
theorem dX4_emit_21 : decode cX4_emit 21 = .ok (.iastore, 1) := by decide +kernel
theorem dX4_emit_22 : decode cX4_emit 22 = .ok (.aload_n 0, 1) := by decide +kernel
theorem dX4_emit_23 : decode cX4_emit 23 = .ok (.dup, 1) := by decide +kernel
theorem dX4_emit_24 : decode cX4_emit 24 = .ok (.getfield 15, 3) := by decide +kernel
theorem dX4_emit_27 : decode cX4_emit 27 = .ok (.iconst 1, 1) := by decide +kernel
theorem dX4_emit_28 : decode cX4_emit 28 = .ok (.iadd, 1) := by decide +kernel
theorem dX4_emit_29 : decode cX4_emit 29 = .ok (.putfield 15, 3) := by decide +kernel
theorem dX4_emit_32 : decode cX4_emit 32 = .ok (.return_, 1) := by decide +kernel
theorem dX4_isDigit_0 : decode cX4_isDigit 0 = .ok (.iload_n 0, 1) := by decide +kernel
theorem dX4_isDigit_1 : decode cX4_isDigit 1 = .ok (.bipush 48, 2) := by decide +kernel
theorem dX4_isDigit_3 : decode cX4_isDigit 3 = .ok (.if_icmp .lt 13, 3) := by decide +kernel
theorem dX4_isDigit_6 : decode cX4_isDigit 6 = .ok (.iload_n 0, 1) := by decide +kernel
theorem dX4_isDigit_7 : decode cX4_isDigit 7 = .ok (.bipush 57, 2) := by decide +kernel
theorem dX4_isDigit_9 : decode cX4_isDigit 9 = .ok (.if_icmp .gt 7, 3) := by decide +kernel
theorem dX4_isDigit_12 : decode cX4_isDigit 12 = .ok (.iconst 1, 1) := by decide +kernel
theorem dX4_isDigit_13 : decode cX4_isDigit 13 = .ok (.goto 4, 3) := by decide +kernel
theorem dX4_isDigit_16 : decode cX4_isDigit 16 = .ok (.iconst 0, 1) := by decide +kernel
theorem dX4_isDigit_17 : decode cX4_isDigit 17 = .ok (.ireturn, 1) := by decide +kernel
theorem dX4_isName_0 : decode cX4_isName 0 = .ok (.iload_n 0, 1) := by decide +kernel
theorem dX4_isName_1 : decode cX4_isName 1 = .ok (.bipush 114, 2) := by decide +kernel
theorem dX4_isName_3 : decode cX4_isName 3 = .ok (.if_icmp .eq 33, 3) := by decide +kernel
theorem dX4_isName_6 : decode cX4_isName 6 = .ok (.iload_n 0, 1) := by decide +kernel
theorem dX4_isName_7 : decode cX4_isName 7 = .ok (.bipush 108, 2) := by decide +kernel
theorem dX4_isName_9 : decode cX4_isName 9 = .ok (.if_icmp .eq 27, 3) := by decide +kernel
theorem dX4_isName_12 : decode cX4_isName 12 = .ok (.iload_n 0, 1) := by decide +kernel
theorem dX4_isName_13 : decode cX4_isName 13 = .ok (.bipush 104, 2) := by decide +kernel
theorem dX4_isName_15 : decode cX4_isName 15 = .ok (.if_icmp .eq 21, 3) := by decide +kernel
theorem dX4_isName_18 : decode cX4_isName 18 = .ok (.iload_n 0, 1) := by decide +kernel
theorem dX4_isName_19 : decode cX4_isName 19 = .ok (.bipush 109, 2) := by decide +kernel
theorem dX4_isName_21 : decode cX4_isName 21 = .ok (.if_icmp .eq 15, 3) := by decide +kernel
theorem dX4_isName_24 : decode cX4_isName 24 = .ok (.iload_n 0, 1) := by decide +kernel
theorem dX4_isName_25 : decode cX4_isName 25 = .ok (.bipush 110, 2) := by decide +kernel
theorem dX4_isName_27 : decode cX4_isName 27 = .ok (.if_icmp .eq 9, 3) := by decide +kernel
theorem dX4_isName_30 : decode cX4_isName 30 = .ok (.iload_n 0, 1) := by decide +kernel
theorem dX4_isName_31 : decode cX4_isName 31 = .ok (.bipush 103, 2) := by decide +kernel
theorem dX4_isName_33 : decode cX4_isName 33 = .ok (.if_icmp .ne 7, 3) := by decide +kernel
theorem dX4_isName_36 : decode cX4_isName 36 = .ok (.iconst 1, 1) := by decide +kernel
theorem dX4_isName_37 : decode cX4_isName 37 = .ok (.goto 4, 3) := by decide +kernel
theorem dX4_isName_40 : decode cX4_isName 40 = .ok (.iconst 0, 1) := by decide +kernel
theorem dX4_isName_41 : decode cX4_isName 41 = .ok (.ireturn, 1) := by decide +kernel
theorem dX4_rankOf_0 : decode cX4_rankOf 0 = .ok (.iload_n 0, 1) := by decide +kernel
theorem dX4_rankOf_1 : decode cX4_rankOf 1 = .ok (.lookupswitch 120 #[(33, 117), (37, 115), (38, 109), (42, 115), (43, 113), (45, 113), (47, 115), (60, 111), (61, 111), (62, 111), (124, 107), (126, 117)], 107) := by decide +kernel
theorem dX4_rankOf_108 : decode cX4_rankOf 108 = .ok (.iconst 1, 1) := by decide +kernel
theorem dX4_rankOf_109 : decode cX4_rankOf 109 = .ok (.ireturn, 1) := by decide +kernel
theorem dX4_rankOf_110 : decode cX4_rankOf 110 = .ok (.iconst 2, 1) := by decide +kernel
theorem dX4_rankOf_111 : decode cX4_rankOf 111 = .ok (.ireturn, 1) := by decide +kernel
theorem dX4_rankOf_112 : decode cX4_rankOf 112 = .ok (.iconst 3, 1) := by decide +kernel
theorem dX4_rankOf_113 : decode cX4_rankOf 113 = .ok (.ireturn, 1) := by decide +kernel
theorem dX4_rankOf_114 : decode cX4_rankOf 114 = .ok (.iconst 4, 1) := by decide +kernel
theorem dX4_rankOf_115 : decode cX4_rankOf 115 = .ok (.ireturn, 1) := by decide +kernel
theorem dX4_rankOf_116 : decode cX4_rankOf 116 = .ok (.iconst 5, 1) := by decide +kernel
theorem dX4_rankOf_117 : decode cX4_rankOf 117 = .ok (.ireturn, 1) := by decide +kernel
theorem dX4_rankOf_118 : decode cX4_rankOf 118 = .ok (.bipush 6, 2) := by decide +kernel
theorem dX4_rankOf_120 : decode cX4_rankOf 120 = .ok (.ireturn, 1) := by decide +kernel
theorem dX4_rankOf_121 : decode cX4_rankOf 121 = .ok (.iconst 0, 1) := by decide +kernel
theorem dX4_rankOf_122 : decode cX4_rankOf 122 = .ok (.ireturn, 1) := by decide +kernel
theorem dX5_init_0 : decode cX5_init 0 = .ok (.aload_n 0, 1) := by decide +kernel
theorem dX5_init_1 : decode cX5_init 1 = .ok (.invokespecial 3, 3) := by decide +kernel
theorem dX5_init_4 : decode cX5_init 4 = .ok (.aload_n 0, 1) := by decide +kernel
theorem dX5_init_5 : decode cX5_init 5 = .ok (.iconst 0, 1) := by decide +kernel
theorem dX5_init_6 : decode cX5_init 6 = .ok (.putfield 11, 3) := by decide +kernel
theorem dX5_init_9 : decode cX5_init 9 = .ok (.aload_n 0, 1) := by decide +kernel
theorem dX5_init_10 : decode cX5_init 10 = .ok (.iconst (-1), 1) := by decide +kernel
theorem dX5_init_11 : decode cX5_init 11 = .ok (.putfield 15, 3) := by decide +kernel
theorem dX5_init_14 : decode cX5_init 14 = .ok (.aload_n 0, 1) := by decide +kernel
theorem dX5_init_15 : decode cX5_init 15 = .ok (.iconst 0, 1) := by decide +kernel
theorem dX5_init_16 : decode cX5_init 16 = .ok (.putfield 18, 3) := by decide +kernel
theorem dX5_init_19 : decode cX5_init 19 = .ok (.aload_n 0, 1) := by decide +kernel
theorem dX5_init_20 : decode cX5_init 20 = .ok (.iconst 0, 1) := by decide +kernel
theorem dX5_init_21 : decode cX5_init 21 = .ok (.putfield 21, 3) := by decide +kernel
theorem dX5_init_24 : decode cX5_init 24 = .ok (.aload_n 0, 1) := by decide +kernel
theorem dX5_init_25 : decode cX5_init 25 = .ok (.bipush 60, 2) := by decide +kernel
theorem dX5_init_27 : decode cX5_init 27 = .ok (.newarray .long, 2) := by decide +kernel
theorem dX5_init_29 : decode cX5_init 29 = .ok (.putfield 24, 3) := by decide +kernel
theorem dX5_init_32 : decode cX5_init 32 = .ok (.return_, 1) := by decide +kernel
theorem dX5_isRowOf_0 : decode cX5_isRowOf 0 = .ok (.aload_n 0, 1) := by decide +kernel
theorem dX5_isRowOf_1 : decode cX5_isRowOf 1 = .ok (.getfield 11, 3) := by decide +kernel
theorem dX5_isRowOf_4 : decode cX5_isRowOf 4 = .ok (.iconst 2, 1) := by decide +kernel
theorem dX5_isRowOf_5 : decode cX5_isRowOf 5 = .ok (.if_icmp .ne 15, 3) := by decide +kernel
theorem dX5_isRowOf_8 : decode cX5_isRowOf 8 = .ok (.aload_n 0, 1) := by decide +kernel
theorem dX5_isRowOf_9 : decode cX5_isRowOf 9 = .ok (.getfield 18, 3) := by decide +kernel
theorem dX5_isRowOf_12 : decode cX5_isRowOf 12 = .ok (.iload_n 1, 1) := by decide +kernel
theorem dX5_isRowOf_13 : decode cX5_isRowOf 13 = .ok (.if_icmp .ne 7, 3) := by decide +kernel
theorem dX5_isRowOf_16 : decode cX5_isRowOf 16 = .ok (.iconst 1, 1) := by decide +kernel
theorem dX5_isRowOf_17 : decode cX5_isRowOf 17 = .ok (.goto 4, 3) := by decide +kernel
theorem dX5_isRowOf_20 : decode cX5_isRowOf 20 = .ok (.iconst 0, 1) := by decide +kernel
theorem dX5_isRowOf_21 : decode cX5_isRowOf 21 = .ok (.ireturn, 1) := by decide +kernel
theorem dX5_holdRow_0 : decode cX5_holdRow 0 = .ok (.aload_n 0, 1) := by decide +kernel
theorem dX5_holdRow_1 : decode cX5_holdRow 1 = .ok (.iconst 2, 1) := by decide +kernel
theorem dX5_holdRow_2 : decode cX5_holdRow 2 = .ok (.putfield 11, 3) := by decide +kernel
theorem dX5_holdRow_5 : decode cX5_holdRow 5 = .ok (.aload_n 0, 1) := by decide +kernel
theorem dX5_holdRow_6 : decode cX5_holdRow 6 = .ok (.iload_n 1, 1) := by decide +kernel
theorem dX5_holdRow_7 : decode cX5_holdRow 7 = .ok (.putfield 18, 3) := by decide +kernel
theorem dX5_holdRow_10 : decode cX5_holdRow 10 = .ok (.aload_n 0, 1) := by decide +kernel
theorem dX5_holdRow_11 : decode cX5_holdRow 11 = .ok (.iconst 0, 1) := by decide +kernel
theorem dX5_holdRow_12 : decode cX5_holdRow 12 = .ok (.bipush 60, 2) := by decide +kernel
theorem dX5_holdRow_14 : decode cX5_holdRow 14 = .ok (.iload_n 2, 1) := by decide +kernel
theorem dX5_holdRow_15 : decode cX5_holdRow 15 = .ok (.invokestatic 28, 3) := by decide +kernel
theorem dX5_holdRow_18 : decode cX5_holdRow 18 = .ok (.invokestatic 34, 3) := by decide +kernel
theorem dX5_holdRow_21 : decode cX5_holdRow 21 = .ok (.putfield 21, 3) := by decide +kernel
theorem dX5_holdRow_24 : decode cX5_holdRow 24 = .ok (.iconst 0, 1) := by decide +kernel
theorem dX5_holdRow_25 : decode cX5_holdRow 25 = .ok (.istore_n 3, 1) := by decide +kernel
theorem dX5_holdRow_26 : decode cX5_holdRow 26 = .ok (.iload_n 3, 1) := by decide +kernel
theorem dX5_holdRow_27 : decode cX5_holdRow 27 = .ok (.bipush 60, 2) := by decide +kernel
theorem dX5_holdRow_29 : decode cX5_holdRow 29 = .ok (.if_icmp .ge 16, 3) := by decide +kernel
theorem dX5_holdRow_32 : decode cX5_holdRow 32 = .ok (.aload_n 0, 1) := by decide +kernel
theorem dX5_holdRow_33 : decode cX5_holdRow 33 = .ok (.getfield 24, 3) := by decide +kernel
theorem dX5_holdRow_36 : decode cX5_holdRow 36 = .ok (.iload_n 3, 1) := by decide +kernel
theorem dX5_holdRow_37 : decode cX5_holdRow 37 = .ok (.lconst 0, 1) := by decide +kernel
theorem dX5_holdRow_38 : decode cX5_holdRow 38 = .ok (.lastore, 1) := by decide +kernel
theorem dX5_holdRow_39 : decode cX5_holdRow 39 = .ok (.iinc 3 1, 3) := by decide +kernel
theorem dX5_holdRow_42 : decode cX5_holdRow 42 = .ok (.goto (-16), 3) := by decide +kernel
theorem dX5_holdRow_45 : decode cX5_holdRow 45 = .ok (.return_, 1) := by decide +kernel
theorem dX5_hasPlaces_0 : decode cX5_hasPlaces 0 = .ok (.iload_n 1, 1) := by decide +kernel
theorem dX5_hasPlaces_1 : decode cX5_hasPlaces 1 = .ok (.ifCond .lt 25, 3) := by decide +kernel
theorem dX5_hasPlaces_4 : decode cX5_hasPlaces 4 = .ok (.iload_n 2, 1) := by decide +kernel
theorem dX5_hasPlaces_5 : decode cX5_hasPlaces 5 = .ok (.ifCond .lt 21, 3) := by decide +kernel
theorem dX5_hasPlaces_8 : decode cX5_hasPlaces 8 = .ok (.iload_n 1, 1) := by decide +kernel
theorem dX5_hasPlaces_9 : decode cX5_hasPlaces 9 = .ok (.i2l, 1) := by decide +kernel
theorem dX5_hasPlaces_10 : decode cX5_hasPlaces 10 = .ok (.iload_n 2, 1) := by decide +kernel
theorem dX5_hasPlaces_11 : decode cX5_hasPlaces 11 = .ok (.i2l, 1) := by decide +kernel
theorem dX5_hasPlaces_12 : decode cX5_hasPlaces 12 = .ok (.ladd, 1) := by decide +kernel
theorem dX5_hasPlaces_13 : decode cX5_hasPlaces 13 = .ok (.aload_n 0, 1) := by decide +kernel
theorem dX5_hasPlaces_14 : decode cX5_hasPlaces 14 = .ok (.getfield 21, 3) := by decide +kernel
theorem dX5_hasPlaces_17 : decode cX5_hasPlaces 17 = .ok (.i2l, 1) := by decide +kernel
theorem dX5_hasPlaces_18 : decode cX5_hasPlaces 18 = .ok (.lcmp, 1) := by decide +kernel
theorem dX5_hasPlaces_19 : decode cX5_hasPlaces 19 = .ok (.ifCond .gt 7, 3) := by decide +kernel
theorem dX5_hasPlaces_22 : decode cX5_hasPlaces 22 = .ok (.iconst 1, 1) := by decide +kernel
theorem dX5_hasPlaces_23 : decode cX5_hasPlaces 23 = .ok (.goto 4, 3) := by decide +kernel
theorem dX5_hasPlaces_26 : decode cX5_hasPlaces 26 = .ok (.iconst 0, 1) := by decide +kernel
theorem dX5_hasPlaces_27 : decode cX5_hasPlaces 27 = .ok (.ireturn, 1) := by decide +kernel
theorem dX5_cut_0 : decode cX5_cut 0 = .ok (.aload_n 0, 1) := by decide +kernel
theorem dX5_cut_1 : decode cX5_cut 1 = .ok (.getfield 18, 3) := by decide +kernel
theorem dX5_cut_4 : decode cX5_cut 4 = .ok (.tableswitch 48 0 3 #[32, 37, 42, 46], 32) := by decide +kernel
theorem dX5_cut_36 : decode cX5_cut 36 = .ok (.lload_n 1, 1) := by decide +kernel
theorem dX5_cut_37 : decode cX5_cut 37 = .ok (.l2i, 1) := by decide +kernel
theorem dX5_cut_38 : decode cX5_cut 38 = .ok (.i2b, 1) := by decide +kernel
theorem dX5_cut_39 : decode cX5_cut 39 = .ok (.i2l, 1) := by decide +kernel
theorem dX5_cut_40 : decode cX5_cut 40 = .ok (.lreturn, 1) := by decide +kernel
theorem dX5_cut_41 : decode cX5_cut 41 = .ok (.lload_n 1, 1) := by decide +kernel
theorem dX5_cut_42 : decode cX5_cut 42 = .ok (.l2i, 1) := by decide +kernel
theorem dX5_cut_43 : decode cX5_cut 43 = .ok (.i2s, 1) := by decide +kernel
theorem dX5_cut_44 : decode cX5_cut 44 = .ok (.i2l, 1) := by decide +kernel
theorem dX5_cut_45 : decode cX5_cut 45 = .ok (.lreturn, 1) := by decide +kernel
theorem dX5_cut_46 : decode cX5_cut 46 = .ok (.lload_n 1, 1) := by decide +kernel
theorem dX5_cut_47 : decode cX5_cut 47 = .ok (.l2i, 1) := by decide +kernel
theorem dX5_cut_48 : decode cX5_cut 48 = .ok (.i2l, 1) := by decide +kernel
theorem dX5_cut_49 : decode cX5_cut 49 = .ok (.lreturn, 1) := by decide +kernel
theorem dX5_cut_50 : decode cX5_cut 50 = .ok (.lload_n 1, 1) := by decide +kernel
theorem dX5_cut_51 : decode cX5_cut 51 = .ok (.lreturn, 1) := by decide +kernel
theorem dX5_cut_52 : decode cX5_cut 52 = .ok (.lload_n 1, 1) := by decide +kernel
theorem dX5_cut_53 : decode cX5_cut 53 = .ok (.lconst 0, 1) := by decide +kernel
theorem dX5_cut_54 : decode cX5_cut 54 = .ok (.lcmp, 1) := by decide +kernel
theorem dX5_cut_55 : decode cX5_cut 55 = .ok (.ifCond .eq 7, 3) := by decide +kernel
theorem dX5_cut_58 : decode cX5_cut 58 = .ok (.lconst 1, 1) := by decide +kernel
theorem dX5_cut_59 : decode cX5_cut 59 = .ok (.goto 4, 3) := by decide +kernel
theorem dX5_cut_62 : decode cX5_cut 62 = .ok (.lconst 0, 1) := by decide +kernel
theorem dX5_cut_63 : decode cX5_cut 63 = .ok (.lreturn, 1) := by decide +kernel
theorem dX6_init_0 : decode cX6_init 0 = .ok (.aload_n 0, 1) := by decide +kernel
theorem dX6_init_1 : decode cX6_init 1 = .ok (.invokespecial 3, 3) := by decide +kernel
theorem dX6_init_4 : decode cX6_init 4 = .ok (.aload_n 0, 1) := by decide +kernel
theorem dX6_init_5 : decode cX6_init 5 = .ok (.new 9, 3) := by decide +kernel
theorem dX6_init_8 : decode cX6_init 8 = .ok (.dup, 1) := by decide +kernel
theorem dX6_init_9 : decode cX6_init 9 = .ok (.invokespecial 11, 3) := by decide +kernel
theorem dX6_init_12 : decode cX6_init 12 = .ok (.putfield 12, 3) := by decide +kernel
theorem dX6_init_15 : decode cX6_init 15 = .ok (.aload_n 0, 1) := by decide +kernel
theorem dX6_init_16 : decode cX6_init 16 = .ok (.bipush 9, 2) := by decide +kernel
theorem dX6_init_18 : decode cX6_init 18 = .ok (.newarray .int, 2) := by decide +kernel
theorem dX6_init_20 : decode cX6_init 20 = .ok (.putfield 18, 3) := by decide +kernel
theorem dX6_init_23 : decode cX6_init 23 = .ok (.aload_n 0, 1) := by decide +kernel
theorem dX6_init_24 : decode cX6_init 24 = .ok (.iconst 0, 1) := by decide +kernel
theorem dX6_init_25 : decode cX6_init 25 = .ok (.putfield 22, 3) := by decide +kernel
theorem dX6_init_28 : decode cX6_init 28 = .ok (.aload_n 0, 1) := by decide +kernel
theorem dX6_init_29 : decode cX6_init 29 = .ok (.iconst 0, 1) := by decide +kernel
theorem dX6_init_30 : decode cX6_init 30 = .ok (.putfield 26, 3) := by decide +kernel
theorem dX6_init_33 : decode cX6_init 33 = .ok (.aload_n 0, 1) := by decide +kernel
theorem dX6_init_34 : decode cX6_init 34 = .ok (.iconst 0, 1) := by decide +kernel
theorem dX6_init_35 : decode cX6_init 35 = .ok (.putfield 29, 3) := by decide +kernel
theorem dX6_init_38 : decode cX6_init 38 = .ok (.aload_n 0, 1) := by decide +kernel
theorem dX6_init_39 : decode cX6_init 39 = .ok (.aload_n 1, 1) := by decide +kernel
theorem dX6_init_40 : decode cX6_init 40 = .ok (.putfield 32, 3) := by decide +kernel
theorem dX6_init_43 : decode cX6_init 43 = .ok (.aload_n 0, 1) := by decide +kernel
theorem dX6_init_44 : decode cX6_init 44 = .ok (.aload_n 2, 1) := by decide +kernel
theorem dX6_init_45 : decode cX6_init 45 = .ok (.putfield 35, 3) := by decide +kernel
theorem dX6_init_48 : decode cX6_init 48 = .ok (.return_, 1) := by decide +kernel
theorem dX6_startBehind_0 : decode cX6_startBehind 0 = .ok (.aload_n 0, 1) := by decide +kernel
theorem dX6_startBehind_1 : decode cX6_startBehind 1 = .ok (.getfield 12, 3) := by decide +kernel
theorem dX6_startBehind_4 : decode cX6_startBehind 4 = .ok (.aload_n 0, 1) := by decide +kernel
theorem dX6_startBehind_5 : decode cX6_startBehind 5 = .ok (.getfield 32, 3) := by decide +kernel
theorem dX6_startBehind_8 : decode cX6_startBehind 8 = .ok (.invokevirtual 39, 3) := by decide +kernel
theorem dX6_startBehind_11 : decode cX6_startBehind 11 = .ok (.iconst 0, 1) := by decide +kernel
theorem dX6_startBehind_12 : decode cX6_startBehind 12 = .ok (.istore_n 2, 1) := by decide +kernel
theorem dX6_startBehind_13 : decode cX6_startBehind 13 = .ok (.iload_n 2, 1) := by decide +kernel
theorem dX6_startBehind_14 : decode cX6_startBehind 14 = .ok (.iload_n 1, 1) := by decide +kernel
theorem dX6_startBehind_15 : decode cX6_startBehind 15 = .ok (.if_icmp .ge 16, 3) := by decide +kernel
theorem dX6_startBehind_18 : decode cX6_startBehind 18 = .ok (.aload_n 0, 1) := by decide +kernel
theorem dX6_startBehind_19 : decode cX6_startBehind 19 = .ok (.getfield 12, 3) := by decide +kernel
theorem dX6_startBehind_22 : decode cX6_startBehind 22 = .ok (.invokevirtual 43, 3) := by decide +kernel
theorem dX6_startBehind_25 : decode cX6_startBehind 25 = .ok (.iinc 2 1, 3) := by decide +kernel
theorem dX6_startBehind_28 : decode cX6_startBehind 28 = .ok (.goto (-15), 3) := by decide +kernel
theorem dX6_startBehind_31 : decode cX6_startBehind 31 = .ok (.return_, 1) := by decide +kernel
theorem dX6_allGo_0 : decode cX6_allGo 0 = .ok (.aload_n 0, 1) := by decide +kernel
theorem dX6_allGo_1 : decode cX6_allGo 1 = .ok (.iconst 0, 1) := by decide +kernel
theorem dX6_allGo_2 : decode cX6_allGo 2 = .ok (.putfield 22, 3) := by decide +kernel
theorem dX6_allGo_5 : decode cX6_allGo 5 = .ok (.aload_n 0, 1) := by decide +kernel
theorem dX6_allGo_6 : decode cX6_allGo 6 = .ok (.iconst 0, 1) := by decide +kernel
theorem dX6_allGo_7 : decode cX6_allGo 7 = .ok (.putfield 26, 3) := by decide +kernel
theorem dX6_allGo_10 : decode cX6_allGo 10 = .ok (.iconst 0, 1) := by decide +kernel
theorem dX6_allGo_11 : decode cX6_allGo 11 = .ok (.istore_n 2, 1) := by decide +kernel
theorem dX6_allGo_12 : decode cX6_allGo 12 = .ok (.iload_n 2, 1) := by decide +kernel
theorem dX6_allGo_13 : decode cX6_allGo 13 = .ok (.bipush 9, 2) := by decide +kernel
theorem dX6_allGo_15 : decode cX6_allGo 15 = .ok (.if_icmp .ge 106, 3) := by decide +kernel
theorem dX6_allGo_18 : decode cX6_allGo 18 = .ok (.aload_n 0, 1) := by decide +kernel
theorem dX6_allGo_19 : decode cX6_allGo 19 = .ok (.getfield 35, 3) := by decide +kernel
theorem dX6_allGo_22 : decode cX6_allGo 22 = .ok (.aload_n 0, 1) := by decide +kernel
theorem dX6_allGo_23 : decode cX6_allGo 23 = .ok (.getfield 12, 3) := by decide +kernel
theorem dX6_allGo_26 : decode cX6_allGo 26 = .ok (.iload_n 1, 1) := by decide +kernel
theorem dX6_allGo_27 : decode cX6_allGo 27 = .ok (.invokevirtual 46, 3) := by decide +kernel
theorem dX6_allGo_30 : decode cX6_allGo 30 = .ok (.istore_n 3, 1) := by decide +kernel
theorem dX6_allGo_31 : decode cX6_allGo 31 = .ok (.iload_n 3, 1) := by decide +kernel
theorem dX6_allGo_32 : decode cX6_allGo 32 = .ok (.ifCond .ge 16, 3) := by decide +kernel
theorem dX6_allGo_35 : decode cX6_allGo 35 = .ok (.aload_n 0, 1) := by decide +kernel
theorem dX6_allGo_36 : decode cX6_allGo 36 = .ok (.getfield 12, 3) := by decide +kernel
theorem dX6_allGo_39 : decode cX6_allGo 39 = .ok (.iload_n 1, 1) := by decide +kernel
theorem dX6_allGo_40 : decode cX6_allGo 40 = .ok (.invokevirtual 52, 3) := by decide +kernel
theorem dX6_allGo_43 : decode cX6_allGo 43 = .ok (.ifCond .eq 5, 3) := by decide +kernel
theorem dX6_allGo_46 : decode cX6_allGo 46 = .ok (.iload_n 1, 1) := by decide +kernel
theorem dX6_allGo_47 : decode cX6_allGo 47 = .ok (.istore_n 3, 1) := by decide +kernel
theorem dX6_allGo_48 : decode cX6_allGo 48 = .ok (.aload_n 0, 1) := by decide +kernel
theorem dX6_allGo_49 : decode cX6_allGo 49 = .ok (.getfield 12, 3) := by decide +kernel
theorem dX6_allGo_52 : decode cX6_allGo 52 = .ok (.iload_n 3, 1) := by decide +kernel
theorem dX6_allGo_53 : decode cX6_allGo 53 = .ok (.invokevirtual 52, 3) := by decide +kernel
theorem dX6_allGo_56 : decode cX6_allGo 56 = .ok (.ifCond .ne 4, 3) := by decide +kernel
theorem dX6_allGo_59 : decode cX6_allGo 59 = .ok (.return_, 1) := by decide +kernel
theorem dX6_allGo_60 : decode cX6_allGo 60 = .ok (.aload_n 0, 1) := by decide +kernel
theorem dX6_allGo_61 : decode cX6_allGo 61 = .ok (.getfield 18, 3) := by decide +kernel
theorem dX6_allGo_64 : decode cX6_allGo 64 = .ok (.aload_n 0, 1) := by decide +kernel
theorem dX6_allGo_65 : decode cX6_allGo 65 = .ok (.getfield 22, 3) := by decide +kernel
theorem dX6_allGo_68 : decode cX6_allGo 68 = .ok (.iload_n 3, 1) := by decide +kernel
theorem dX6_allGo_69 : decode cX6_allGo 69 = .ok (.iastore, 1) := by decide +kernel
theorem dX6_allGo_70 : decode cX6_allGo 70 = .ok (.aload_n 0, 1) := by decide +kernel
theorem dX6_allGo_71 : decode cX6_allGo 71 = .ok (.dup, 1) := by decide +kernel
theorem dX6_allGo_72 : decode cX6_allGo 72 = .ok (.getfield 22, 3) := by decide +kernel
theorem dX6_allGo_75 : decode cX6_allGo 75 = .ok (.iconst 1, 1) := by decide +kernel
theorem dX6_allGo_76 : decode cX6_allGo 76 = .ok (.iadd, 1) := by decide +kernel
theorem dX6_allGo_77 : decode cX6_allGo 77 = .ok (.putfield 22, 3) := by decide +kernel
theorem dX6_allGo_80 : decode cX6_allGo 80 = .ok (.aload_n 0, 1) := by decide +kernel
theorem dX6_allGo_81 : decode cX6_allGo 81 = .ok (.dup, 1) := by decide +kernel
theorem dX6_allGo_82 : decode cX6_allGo 82 = .ok (.getfield 26, 3) := by decide +kernel
theorem dX6_allGo_85 : decode cX6_allGo 85 = .ok (.aload_n 0, 1) := by decide +kernel
theorem dX6_allGo_86 : decode cX6_allGo 86 = .ok (.getfield 12, 3) := by decide +kernel
theorem dX6_allGo_89 : decode cX6_allGo 89 = .ok (.getfield 56, 3) := by decide +kernel
theorem dX6_allGo_92 : decode cX6_allGo 92 = .ok (.iload_n 3, 1) := by decide +kernel
theorem dX6_allGo_93 : decode cX6_allGo 93 = .ok (.iaload, 1) := by decide +kernel
theorem dX6_allGo_94 : decode cX6_allGo 94 = .ok (.iadd, 1) := by decide +kernel
theorem dX6_allGo_95 : decode cX6_allGo 95 = .ok (.putfield 26, 3) := by decide +kernel
theorem dX6_allGo_98 : decode cX6_allGo 98 = .ok (.aload_n 0, 1) := by decide +kernel
theorem dX6_allGo_99 : decode cX6_allGo 99 = .ok (.getfield 12, 3) := by decide +kernel
theorem dX6_allGo_102 : decode cX6_allGo 102 = .ok (.getfield 59, 3) := by decide +kernel
theorem dX6_allGo_105 : decode cX6_allGo 105 = .ok (.iload_n 3, 1) := by decide +kernel
theorem dX6_allGo_106 : decode cX6_allGo 106 = .ok (.iconst 1, 1) := by decide +kernel
theorem dX6_allGo_107 : decode cX6_allGo 107 = .ok (.iastore, 1) := by decide +kernel
theorem dX6_allGo_108 : decode cX6_allGo 108 = .ok (.aload_n 0, 1) := by decide +kernel
theorem dX6_allGo_109 : decode cX6_allGo 109 = .ok (.getfield 12, 3) := by decide +kernel
theorem dX6_allGo_112 : decode cX6_allGo 112 = .ok (.invokevirtual 43, 3) := by decide +kernel
theorem dX6_allGo_115 : decode cX6_allGo 115 = .ok (.iinc 2 1, 3) := by decide +kernel
theorem dX6_allGo_118 : decode cX6_allGo 118 = .ok (.goto (-106), 3) := by decide +kernel
theorem dX6_allGo_121 : decode cX6_allGo 121 = .ok (.return_, 1) := by decide +kernel
theorem dX6_placeOfGoer_0 : decode cX6_placeOfGoer 0 = .ok (.iconst 0, 1) := by decide +kernel
theorem dX6_placeOfGoer_1 : decode cX6_placeOfGoer 1 = .ok (.istore_n 2, 1) := by decide +kernel
theorem dX6_placeOfGoer_2 : decode cX6_placeOfGoer 2 = .ok (.iload_n 2, 1) := by decide +kernel
theorem dX6_placeOfGoer_3 : decode cX6_placeOfGoer 3 = .ok (.aload_n 0, 1) := by decide +kernel
theorem dX6_placeOfGoer_4 : decode cX6_placeOfGoer 4 = .ok (.getfield 22, 3) := by decide +kernel
theorem dX6_placeOfGoer_7 : decode cX6_placeOfGoer 7 = .ok (.if_icmp .ge 21, 3) := by decide +kernel
theorem dX6_placeOfGoer_10 : decode cX6_placeOfGoer 10 = .ok (.aload_n 0, 1) := by decide +kernel
theorem dX6_placeOfGoer_11 : decode cX6_placeOfGoer 11 = .ok (.getfield 18, 3) := by decide +kernel
theorem dX6_placeOfGoer_14 : decode cX6_placeOfGoer 14 = .ok (.iload_n 2, 1) := by decide +kernel
theorem dX6_placeOfGoer_15 : decode cX6_placeOfGoer 15 = .ok (.iaload, 1) := by decide +kernel
theorem dX6_placeOfGoer_16 : decode cX6_placeOfGoer 16 = .ok (.iload_n 1, 1) := by decide +kernel
theorem dX6_placeOfGoer_17 : decode cX6_placeOfGoer 17 = .ok (.if_icmp .ne 5, 3) := by decide +kernel
theorem dX6_placeOfGoer_20 : decode cX6_placeOfGoer 20 = .ok (.iload_n 2, 1) := by decide +kernel
theorem dX6_placeOfGoer_21 : decode cX6_placeOfGoer 21 = .ok (.ireturn, 1) := by decide +kernel
theorem dX6_placeOfGoer_22 : decode cX6_placeOfGoer 22 = .ok (.iinc 2 1, 3) := by decide +kernel
theorem dX6_placeOfGoer_25 : decode cX6_placeOfGoer 25 = .ok (.goto (-23), 3) := by decide +kernel
theorem dX6_placeOfGoer_28 : decode cX6_placeOfGoer 28 = .ok (.bipush 9, 2) := by decide +kernel
theorem dX6_placeOfGoer_30 : decode cX6_placeOfGoer 30 = .ok (.ireturn, 1) := by decide +kernel
theorem dX6_placeBySlip_0 : decode cX6_placeBySlip 0 = .ok (.aload_n 0, 1) := by decide +kernel
theorem dX6_placeBySlip_1 : decode cX6_placeBySlip 1 = .ok (.getfield 12, 3) := by decide +kernel
theorem dX6_placeBySlip_4 : decode cX6_placeBySlip 4 = .ok (.aload_n 0, 1) := by decide +kernel
theorem dX6_placeBySlip_5 : decode cX6_placeBySlip 5 = .ok (.getfield 32, 3) := by decide +kernel
theorem dX6_placeBySlip_8 : decode cX6_placeBySlip 8 = .ok (.invokevirtual 39, 3) := by decide +kernel
theorem dX6_placeBySlip_11 : decode cX6_placeBySlip 11 = .ok (.aload_n 0, 1) := by decide +kernel
theorem dX6_placeBySlip_12 : decode cX6_placeBySlip 12 = .ok (.getfield 12, 3) := by decide +kernel
theorem dX6_placeBySlip_15 : decode cX6_placeBySlip 15 = .ok (.iload_n 1, 1) := by decide +kernel
theorem dX6_placeBySlip_16 : decode cX6_placeBySlip 16 = .ok (.aload_n 0, 1) := by decide +kernel
theorem dX6_placeBySlip_17 : decode cX6_placeBySlip 17 = .ok (.getfield 32, 3) := by decide +kernel
theorem dX6_placeBySlip_20 : decode cX6_placeBySlip 20 = .ok (.getfield 62, 3) := by decide +kernel
theorem dX6_placeBySlip_23 : decode cX6_placeBySlip 23 = .ok (.iload_n 2, 1) := by decide +kernel
theorem dX6_placeBySlip_24 : decode cX6_placeBySlip 24 = .ok (.iadd, 1) := by decide +kernel
theorem dX6_placeBySlip_25 : decode cX6_placeBySlip 25 = .ok (.iload_n 3, 1) := by decide +kernel
theorem dX6_placeBySlip_26 : decode cX6_placeBySlip 26 = .ok (.invokevirtual 65, 3) := by decide +kernel
theorem dX6_placeBySlip_29 : decode cX6_placeBySlip 29 = .ok (.pop, 1) := by decide +kernel
theorem dX6_placeBySlip_30 : decode cX6_placeBySlip 30 = .ok (.iconst 0, 1) := by decide +kernel
theorem dX6_placeBySlip_31 : decode cX6_placeBySlip 31 = .ok (.istore 5, 2) := by decide +kernel
theorem dX6_placeBySlip_33 : decode cX6_placeBySlip 33 = .ok (.iload 5, 2) := by decide +kernel
theorem dX6_placeBySlip_35 : decode cX6_placeBySlip 35 = .ok (.iload 4, 2) := by decide +kernel
theorem dX6_placeBySlip_37 : decode cX6_placeBySlip 37 = .ok (.if_icmp .ge 16, 3) := by decide +kernel
theorem dX6_placeBySlip_40 : decode cX6_placeBySlip 40 = .ok (.aload_n 0, 1) := by decide +kernel
theorem dX6_placeBySlip_41 : decode cX6_placeBySlip 41 = .ok (.getfield 12, 3) := by decide +kernel
theorem dX6_placeBySlip_44 : decode cX6_placeBySlip 44 = .ok (.invokevirtual 43, 3) := by decide +kernel
theorem dX6_placeBySlip_47 : decode cX6_placeBySlip 47 = .ok (.iinc 5 1, 3) := by decide +kernel
theorem dX6_placeBySlip_50 : decode cX6_placeBySlip 50 = .ok (.goto (-17), 3) := by decide +kernel
theorem dX6_placeBySlip_53 : decode cX6_placeBySlip 53 = .ok (.aload_n 0, 1) := by decide +kernel
theorem dX6_placeBySlip_54 : decode cX6_placeBySlip 54 = .ok (.bipush 9, 2) := by decide +kernel
theorem dX6_placeBySlip_56 : decode cX6_placeBySlip 56 = .ok (.invokevirtual 69, 3) := by decide +kernel
theorem dX6_placeBySlip_59 : decode cX6_placeBySlip 59 = .ok (.aload_n 0, 1) := by decide +kernel
theorem dX6_placeBySlip_60 : decode cX6_placeBySlip 60 = .ok (.iload_n 1, 1) := by decide +kernel
theorem dX6_placeBySlip_61 : decode cX6_placeBySlip 61 = .ok (.invokevirtual 73, 3) := by decide +kernel
theorem dX6_placeBySlip_64 : decode cX6_placeBySlip 64 = .ok (.ireturn, 1) := by decide +kernel
theorem dX6_regretOfGoers_0 : decode cX6_regretOfGoers 0 = .ok (.aload_n 0, 1) := by decide +kernel
theorem dX6_regretOfGoers_1 : decode cX6_regretOfGoers 1 = .ok (.iconst 0, 1) := by decide +kernel
theorem dX6_regretOfGoers_2 : decode cX6_regretOfGoers 2 = .ok (.invokevirtual 77, 3) := by decide +kernel
theorem dX6_regretOfGoers_5 : decode cX6_regretOfGoers 5 = .ok (.aload_n 0, 1) := by decide +kernel
theorem dX6_regretOfGoers_6 : decode cX6_regretOfGoers 6 = .ok (.iload_n 1, 1) := by decide +kernel
theorem dX6_regretOfGoers_7 : decode cX6_regretOfGoers 7 = .ok (.invokevirtual 69, 3) := by decide +kernel
theorem dX6_regretOfGoers_10 : decode cX6_regretOfGoers 10 = .ok (.aload_n 0, 1) := by decide +kernel
theorem dX6_regretOfGoers_11 : decode cX6_regretOfGoers 11 = .ok (.getfield 26, 3) := by decide +kernel
theorem dX6_regretOfGoers_14 : decode cX6_regretOfGoers 14 = .ok (.ireturn, 1) := by decide +kernel
theorem dX6_firstOtherwise_0 : decode cX6_firstOtherwise 0 = .ok (.iconst 0, 1) := by decide +kernel
theorem dX6_firstOtherwise_1 : decode cX6_firstOtherwise 1 = .ok (.istore_n 2, 1) := by decide +kernel
theorem dX6_firstOtherwise_2 : decode cX6_firstOtherwise 2 = .ok (.iload_n 2, 1) := by decide +kernel
theorem dX6_firstOtherwise_3 : decode cX6_firstOtherwise 3 = .ok (.aload_n 1, 1) := by decide +kernel
theorem dX6_firstOtherwise_4 : decode cX6_firstOtherwise 4 = .ok (.getfield 80, 3) := by decide +kernel
theorem dX6_firstOtherwise_7 : decode cX6_firstOtherwise 7 = .ok (.if_icmp .ge 55, 3) := by decide +kernel
theorem dX6_firstOtherwise_10 : decode cX6_firstOtherwise 10 = .ok (.iload_n 2, 1) := by decide +kernel
theorem dX6_firstOtherwise_11 : decode cX6_firstOtherwise 11 = .ok (.bipush 9, 2) := by decide +kernel
theorem dX6_firstOtherwise_13 : decode cX6_firstOtherwise 13 = .ok (.if_icmp .ge 49, 3) := by decide +kernel
theorem dX6_firstOtherwise_16 : decode cX6_firstOtherwise 16 = .ok (.iload_n 2, 1) := by decide +kernel
theorem dX6_firstOtherwise_17 : decode cX6_firstOtherwise 17 = .ok (.aload_n 0, 1) := by decide +kernel
theorem dX6_firstOtherwise_18 : decode cX6_firstOtherwise 18 = .ok (.getfield 22, 3) := by decide +kernel
theorem dX6_firstOtherwise_21 : decode cX6_firstOtherwise 21 = .ok (.if_icmp .ge 33, 3) := by decide +kernel
theorem dX6_firstOtherwise_24 : decode cX6_firstOtherwise 24 = .ok (.aload_n 1, 1) := by decide +kernel
theorem dX6_firstOtherwise_25 : decode cX6_firstOtherwise 25 = .ok (.getfield 85, 3) := by decide +kernel
theorem dX6_firstOtherwise_28 : decode cX6_firstOtherwise 28 = .ok (.iload_n 2, 1) := by decide +kernel
theorem dX6_firstOtherwise_29 : decode cX6_firstOtherwise 29 = .ok (.laload, 1) := by decide +kernel
theorem dX6_firstOtherwise_30 : decode cX6_firstOtherwise 30 = .ok (.ldc2_w 89, 3) := by decide +kernel
theorem dX6_firstOtherwise_33 : decode cX6_firstOtherwise 33 = .ok (.lcmp, 1) := by decide +kernel
theorem dX6_firstOtherwise_34 : decode cX6_firstOtherwise 34 = .ok (.ifCond .eq 22, 3) := by decide +kernel
theorem dX6_firstOtherwise_37 : decode cX6_firstOtherwise 37 = .ok (.aload_n 1, 1) := by decide +kernel
theorem dX6_firstOtherwise_38 : decode cX6_firstOtherwise 38 = .ok (.getfield 85, 3) := by decide +kernel
theorem dX6_firstOtherwise_41 : decode cX6_firstOtherwise 41 = .ok (.iload_n 2, 1) := by decide +kernel
theorem dX6_firstOtherwise_42 : decode cX6_firstOtherwise 42 = .ok (.laload, 1) := by decide +kernel
theorem dX6_firstOtherwise_43 : decode cX6_firstOtherwise 43 = .ok (.aload_n 0, 1) := by decide +kernel
theorem dX6_firstOtherwise_44 : decode cX6_firstOtherwise 44 = .ok (.getfield 18, 3) := by decide +kernel
theorem dX6_firstOtherwise_47 : decode cX6_firstOtherwise 47 = .ok (.iload_n 2, 1) := by decide +kernel
theorem dX6_firstOtherwise_48 : decode cX6_firstOtherwise 48 = .ok (.iaload, 1) := by decide +kernel
theorem dX6_firstOtherwise_49 : decode cX6_firstOtherwise 49 = .ok (.i2l, 1) := by decide +kernel
theorem dX6_firstOtherwise_50 : decode cX6_firstOtherwise 50 = .ok (.lcmp, 1) := by decide +kernel
theorem dX6_firstOtherwise_51 : decode cX6_firstOtherwise 51 = .ok (.ifCond .eq 5, 3) := by decide +kernel
theorem dX6_firstOtherwise_54 : decode cX6_firstOtherwise 54 = .ok (.iload_n 2, 1) := by decide +kernel
theorem dX6_firstOtherwise_55 : decode cX6_firstOtherwise 55 = .ok (.ireturn, 1) := by decide +kernel
theorem dX6_firstOtherwise_56 : decode cX6_firstOtherwise 56 = .ok (.iinc 2 1, 3) := by decide +kernel
theorem dX6_firstOtherwise_59 : decode cX6_firstOtherwise 59 = .ok (.goto (-57), 3) := by decide +kernel
theorem dX6_firstOtherwise_62 : decode cX6_firstOtherwise 62 = .ok (.bipush (-2), 2) := by decide +kernel
theorem dX6_firstOtherwise_64 : decode cX6_firstOtherwise 64 = .ok (.ireturn, 1) := by decide +kernel
theorem dX6_sup_0 : decode cX6_sup 0 = .ok (.aload_n 0, 1) := by decide +kernel
theorem dX6_sup_1 : decode cX6_sup 1 = .ok (.getfield 12, 3) := by decide +kernel
theorem dX6_sup_4 : decode cX6_sup 4 = .ok (.aload_n 0, 1) := by decide +kernel
theorem dX6_sup_5 : decode cX6_sup 5 = .ok (.getfield 32, 3) := by decide +kernel
theorem dX6_sup_8 : decode cX6_sup 8 = .ok (.invokevirtual 39, 3) := by decide +kernel
theorem dX6_sup_11 : decode cX6_sup 11 = .ok (.iconst 0, 1) := by decide +kernel
theorem dX6_sup_12 : decode cX6_sup 12 = .ok (.istore_n 3, 1) := by decide +kernel
theorem dX6_sup_13 : decode cX6_sup 13 = .ok (.iload_n 3, 1) := by decide +kernel
theorem dX6_sup_14 : decode cX6_sup 14 = .ok (.iload_n 1, 1) := by decide +kernel
theorem dX6_sup_15 : decode cX6_sup 15 = .ok (.if_icmp .ge 126, 3) := by decide +kernel
theorem dX6_sup_18 : decode cX6_sup 18 = .ok (.aload_n 0, 1) := by decide +kernel
theorem dX6_sup_19 : decode cX6_sup 19 = .ok (.aload_n 0, 1) := by decide +kernel
theorem dX6_sup_20 : decode cX6_sup 20 = .ok (.getfield 29, 3) := by decide +kernel
theorem dX6_sup_23 : decode cX6_sup 23 = .ok (.ldc 91, 2) := by decide +kernel
theorem dX6_sup_25 : decode cX6_sup 25 = .ok (.imul, 1) := by decide +kernel
theorem dX6_sup_26 : decode cX6_sup 26 = .ok (.sipush 12345, 3) := by decide +kernel
theorem dX6_sup_29 : decode cX6_sup 29 = .ok (.iadd, 1) := by decide +kernel
theorem dX6_sup_30 : decode cX6_sup 30 = .ok (.putfield 29, 3) := by decide +kernel
theorem dX6_sup_33 : decode cX6_sup 33 = .ok (.aload_n 0, 1) := by decide +kernel
theorem dX6_sup_34 : decode cX6_sup 34 = .ok (.getfield 29, 3) := by decide +kernel
theorem dX6_sup_37 : decode cX6_sup 37 = .ok (.bipush 24, 2) := by decide +kernel
theorem dX6_sup_39 : decode cX6_sup 39 = .ok (.iushr, 1) := by decide +kernel
theorem dX6_sup_40 : decode cX6_sup 40 = .ok (.bipush 12, 2) := by decide +kernel
theorem dX6_sup_42 : decode cX6_sup 42 = .ok (.irem, 1) := by decide +kernel
theorem dX6_sup_43 : decode cX6_sup 43 = .ok (.iload_n 2, 1) := by decide +kernel
theorem dX6_sup_44 : decode cX6_sup 44 = .ok (.if_icmp .ge 84, 3) := by decide +kernel
theorem dX6_sup_47 : decode cX6_sup 47 = .ok (.aload_n 0, 1) := by decide +kernel
theorem dX6_sup_48 : decode cX6_sup 48 = .ok (.getfield 12, 3) := by decide +kernel
theorem dX6_sup_51 : decode cX6_sup 51 = .ok (.getfield 92, 3) := by decide +kernel
theorem dX6_sup_54 : decode cX6_sup 54 = .ok (.ifCond .le 74, 3) := by decide +kernel
theorem dX6_sup_57 : decode cX6_sup 57 = .ok (.aload_n 0, 1) := by decide +kernel
theorem dX6_sup_58 : decode cX6_sup 58 = .ok (.getfield 29, 3) := by decide +kernel
theorem dX6_sup_61 : decode cX6_sup 61 = .ok (.bipush 8, 2) := by decide +kernel
theorem dX6_sup_63 : decode cX6_sup 63 = .ok (.iushr, 1) := by decide +kernel
theorem dX6_sup_64 : decode cX6_sup 64 = .ok (.aload_n 0, 1) := by decide +kernel
theorem dX6_sup_65 : decode cX6_sup 65 = .ok (.getfield 12, 3) := by decide +kernel
theorem dX6_sup_68 : decode cX6_sup 68 = .ok (.getfield 92, 3) := by decide +kernel
theorem dX6_sup_71 : decode cX6_sup 71 = .ok (.irem, 1) := by decide +kernel
theorem dX6_sup_72 : decode cX6_sup 72 = .ok (.istore 4, 2) := by decide +kernel
theorem dX6_sup_74 : decode cX6_sup 74 = .ok (.aload_n 0, 1) := by decide +kernel
theorem dX6_sup_75 : decode cX6_sup 75 = .ok (.getfield 12, 3) := by decide +kernel
theorem dX6_sup_78 : decode cX6_sup 78 = .ok (.iload 4, 2) := by decide +kernel
theorem dX6_sup_80 : decode cX6_sup 80 = .ok (.invokevirtual 52, 3) := by decide +kernel
theorem dX6_sup_83 : decode cX6_sup 83 = .ok (.ifCond .eq 45, 3) := by decide +kernel
theorem dX6_sup_86 : decode cX6_sup 86 = .ok (.iconst 1, 1) := by decide +kernel
theorem dX6_sup_87 : decode cX6_sup 87 = .ok (.aload_n 0, 1) := by decide +kernel
theorem dX6_sup_88 : decode cX6_sup 88 = .ok (.getfield 29, 3) := by decide +kernel
theorem dX6_sup_91 : decode cX6_sup 91 = .ok (.bipush 16, 2) := by decide +kernel
theorem dX6_sup_93 : decode cX6_sup 93 = .ok (.iushr, 1) := by decide +kernel
theorem dX6_sup_94 : decode cX6_sup 94 = .ok (.bipush 20, 2) := by decide +kernel
theorem dX6_sup_96 : decode cX6_sup 96 = .ok (.irem, 1) := by decide +kernel
theorem dX6_sup_97 : decode cX6_sup 97 = .ok (.iadd, 1) := by decide +kernel
theorem dX6_sup_98 : decode cX6_sup 98 = .ok (.istore 5, 2) := by decide +kernel
theorem dX6_sup_100 : decode cX6_sup 100 = .ok (.aload_n 0, 1) := by decide +kernel
theorem dX6_sup_101 : decode cX6_sup 101 = .ok (.getfield 12, 3) := by decide +kernel
theorem dX6_sup_104 : decode cX6_sup 104 = .ok (.getfield 56, 3) := by decide +kernel
theorem dX6_sup_107 : decode cX6_sup 107 = .ok (.iload 4, 2) := by decide +kernel
theorem dX6_sup_109 : decode cX6_sup 109 = .ok (.bipush 99, 2) := by decide +kernel
theorem dX6_sup_111 : decode cX6_sup 111 = .ok (.aload_n 0, 1) := by decide +kernel
theorem dX6_sup_112 : decode cX6_sup 112 = .ok (.getfield 12, 3) := by decide +kernel
theorem dX6_sup_115 : decode cX6_sup 115 = .ok (.getfield 56, 3) := by decide +kernel
theorem dX6_sup_118 : decode cX6_sup 118 = .ok (.iload 4, 2) := by decide +kernel
theorem dX6_sup_120 : decode cX6_sup 120 = .ok (.iaload, 1) := by decide +kernel
theorem dX6_sup_121 : decode cX6_sup 121 = .ok (.iload 5, 2) := by decide +kernel
theorem dX6_sup_123 : decode cX6_sup 123 = .ok (.iadd, 1) := by decide +kernel
theorem dX6_sup_124 : decode cX6_sup 124 = .ok (.invokestatic 95, 3) := by decide +kernel
theorem dX6_sup_127 : decode cX6_sup 127 = .ok (.iastore, 1) := by decide +kernel
theorem dX6_sup_128 : decode cX6_sup 128 = .ok (.aload_n 0, 1) := by decide +kernel
theorem dX6_sup_129 : decode cX6_sup 129 = .ok (.getfield 12, 3) := by decide +kernel
theorem dX6_sup_132 : decode cX6_sup 132 = .ok (.invokevirtual 43, 3) := by decide +kernel
theorem dX6_sup_135 : decode cX6_sup 135 = .ok (.iinc 3 1, 3) := by decide +kernel
theorem dX6_sup_138 : decode cX6_sup 138 = .ok (.goto (-125), 3) := by decide +kernel
theorem dX6_sup_141 : decode cX6_sup 141 = .ok (.return_, 1) := by decide +kernel
theorem dX7_init_0 : decode cX7_init 0 = .ok (.aload_n 0, 1) := by decide +kernel
theorem dX7_init_1 : decode cX7_init 1 = .ok (.invokespecial 3, 3) := by decide +kernel
theorem dX7_init_4 : decode cX7_init 4 = .ok (.aload_n 0, 1) := by decide +kernel
theorem dX7_init_5 : decode cX7_init 5 = .ok (.bipush 9, 2) := by decide +kernel
theorem dX7_init_7 : decode cX7_init 7 = .ok (.newarray .int, 2) := by decide +kernel
theorem dX7_init_9 : decode cX7_init 9 = .ok (.putfield 9, 3) := by decide +kernel
theorem dX7_init_12 : decode cX7_init 12 = .ok (.aload_n 0, 1) := by decide +kernel
theorem dX7_init_13 : decode cX7_init 13 = .ok (.bipush 9, 2) := by decide +kernel
theorem dX7_init_15 : decode cX7_init 15 = .ok (.newarray .int, 2) := by decide +kernel
theorem dX7_init_17 : decode cX7_init 17 = .ok (.putfield 15, 3) := by decide +kernel
theorem dX7_init_20 : decode cX7_init 20 = .ok (.aload_n 0, 1) := by decide +kernel
theorem dX7_init_21 : decode cX7_init 21 = .ok (.bipush 9, 2) := by decide +kernel
theorem dX7_init_23 : decode cX7_init 23 = .ok (.newarray .int, 2) := by decide +kernel
theorem dX7_init_25 : decode cX7_init 25 = .ok (.putfield 18, 3) := by decide +kernel
theorem dX7_init_28 : decode cX7_init 28 = .ok (.aload_n 0, 1) := by decide +kernel
theorem dX7_init_29 : decode cX7_init 29 = .ok (.bipush 9, 2) := by decide +kernel
theorem dX7_init_31 : decode cX7_init 31 = .ok (.newarray .int, 2) := by decide +kernel
theorem dX7_init_33 : decode cX7_init 33 = .ok (.putfield 21, 3) := by decide +kernel
theorem dX7_init_36 : decode cX7_init 36 = .ok (.aload_n 0, 1) := by decide +kernel
theorem dX7_init_37 : decode cX7_init 37 = .ok (.bipush 9, 2) := by decide +kernel
theorem dX7_init_39 : decode cX7_init 39 = .ok (.newarray .int, 2) := by decide +kernel
theorem dX7_init_41 : decode cX7_init 41 = .ok (.putfield 24, 3) := by decide +kernel
theorem dX7_init_44 : decode cX7_init 44 = .ok (.aload_n 0, 1) := by decide +kernel
theorem dX7_init_45 : decode cX7_init 45 = .ok (.bipush 9, 2) := by decide +kernel
theorem dX7_init_47 : decode cX7_init 47 = .ok (.newarray .int, 2) := by decide +kernel
theorem dX7_init_49 : decode cX7_init 49 = .ok (.putfield 27, 3) := by decide +kernel
theorem dX7_init_52 : decode cX7_init 52 = .ok (.aload_n 0, 1) := by decide +kernel
theorem dX7_init_53 : decode cX7_init 53 = .ok (.bipush 13, 2) := by decide +kernel
theorem dX7_init_55 : decode cX7_init 55 = .ok (.newarray .int, 2) := by decide +kernel
theorem dX7_init_57 : decode cX7_init 57 = .ok (.putfield 30, 3) := by decide +kernel
theorem dX7_init_60 : decode cX7_init 60 = .ok (.aload_n 0, 1) := by decide +kernel
theorem dX7_init_61 : decode cX7_init 61 = .ok (.bipush 13, 2) := by decide +kernel
theorem dX7_init_63 : decode cX7_init 63 = .ok (.newarray .int, 2) := by decide +kernel
theorem dX7_init_65 : decode cX7_init 65 = .ok (.putfield 33, 3) := by decide +kernel
theorem dX7_init_68 : decode cX7_init 68 = .ok (.aload_n 0, 1) := by decide +kernel
theorem dX7_init_69 : decode cX7_init 69 = .ok (.bipush 13, 2) := by decide +kernel
theorem dX7_init_71 : decode cX7_init 71 = .ok (.newarray .int, 2) := by decide +kernel
theorem dX7_init_73 : decode cX7_init 73 = .ok (.putfield 36, 3) := by decide +kernel
theorem dX7_init_76 : decode cX7_init 76 = .ok (.aload_n 0, 1) := by decide +kernel
theorem dX7_init_77 : decode cX7_init 77 = .ok (.iconst 0, 1) := by decide +kernel
theorem dX7_init_78 : decode cX7_init 78 = .ok (.putfield 39, 3) := by decide +kernel
theorem dX7_init_81 : decode cX7_init 81 = .ok (.aload_n 0, 1) := by decide +kernel
theorem dX7_init_82 : decode cX7_init 82 = .ok (.iconst 0, 1) := by decide +kernel
theorem dX7_init_83 : decode cX7_init 83 = .ok (.putfield 43, 3) := by decide +kernel
theorem dX7_init_86 : decode cX7_init 86 = .ok (.aload_n 0, 1) := by decide +kernel
theorem dX7_init_87 : decode cX7_init 87 = .ok (.iconst 0, 1) := by decide +kernel
theorem dX7_init_88 : decode cX7_init 88 = .ok (.putfield 46, 3) := by decide +kernel
theorem dX7_init_91 : decode cX7_init 91 = .ok (.return_, 1) := by decide +kernel
theorem dX7_hasGuest_0 : decode cX7_hasGuest 0 = .ok (.iload_n 1, 1) := by decide +kernel
theorem dX7_hasGuest_1 : decode cX7_hasGuest 1 = .ok (.ifCond .lt 15, 3) := by decide +kernel
theorem dX7_hasGuest_4 : decode cX7_hasGuest 4 = .ok (.iload_n 1, 1) := by decide +kernel
theorem dX7_hasGuest_5 : decode cX7_hasGuest 5 = .ok (.aload_n 0, 1) := by decide +kernel
theorem dX7_hasGuest_6 : decode cX7_hasGuest 6 = .ok (.getfield 39, 3) := by decide +kernel
theorem dX7_hasGuest_9 : decode cX7_hasGuest 9 = .ok (.if_icmp .ge 7, 3) := by decide +kernel
theorem dX7_hasGuest_12 : decode cX7_hasGuest 12 = .ok (.iconst 1, 1) := by decide +kernel
theorem dX7_hasGuest_13 : decode cX7_hasGuest 13 = .ok (.goto 4, 3) := by decide +kernel
theorem dX7_hasGuest_16 : decode cX7_hasGuest 16 = .ok (.iconst 0, 1) := by decide +kernel
theorem dX7_hasGuest_17 : decode cX7_hasGuest 17 = .ok (.ireturn, 1) := by decide +kernel
theorem dX7_isLeft_0 : decode cX7_isLeft 0 = .ok (.aload_n 0, 1) := by decide +kernel
theorem dX7_isLeft_1 : decode cX7_isLeft 1 = .ok (.iload_n 1, 1) := by decide +kernel
theorem dX7_isLeft_2 : decode cX7_isLeft 2 = .ok (.invokevirtual 49, 3) := by decide +kernel
theorem dX7_isLeft_5 : decode cX7_isLeft 5 = .ok (.ifCond .eq 16, 3) := by decide +kernel
theorem dX7_isLeft_8 : decode cX7_isLeft 8 = .ok (.aload_n 0, 1) := by decide +kernel
theorem dX7_isLeft_9 : decode cX7_isLeft 9 = .ok (.getfield 27, 3) := by decide +kernel
theorem dX7_isLeft_12 : decode cX7_isLeft 12 = .ok (.iload_n 1, 1) := by decide +kernel
theorem dX7_isLeft_13 : decode cX7_isLeft 13 = .ok (.iaload, 1) := by decide +kernel
theorem dX7_isLeft_14 : decode cX7_isLeft 14 = .ok (.ifCond .ne 7, 3) := by decide +kernel
theorem dX7_isLeft_17 : decode cX7_isLeft 17 = .ok (.iconst 1, 1) := by decide +kernel
theorem dX7_isLeft_18 : decode cX7_isLeft 18 = .ok (.goto 4, 3) := by decide +kernel
theorem dX7_isLeft_21 : decode cX7_isLeft 21 = .ok (.iconst 0, 1) := by decide +kernel
theorem dX7_isLeft_22 : decode cX7_isLeft 22 = .ok (.ireturn, 1) := by decide +kernel
theorem dX7_howManyLeft_0 : decode cX7_howManyLeft 0 = .ok (.iconst 0, 1) := by decide +kernel
theorem dX7_howManyLeft_1 : decode cX7_howManyLeft 1 = .ok (.istore_n 1, 1) := by decide +kernel
theorem dX7_howManyLeft_2 : decode cX7_howManyLeft 2 = .ok (.iconst 0, 1) := by decide +kernel
theorem dX7_howManyLeft_3 : decode cX7_howManyLeft 3 = .ok (.istore_n 2, 1) := by decide +kernel
theorem dX7_howManyLeft_4 : decode cX7_howManyLeft 4 = .ok (.iload_n 2, 1) := by decide +kernel
theorem dX7_howManyLeft_5 : decode cX7_howManyLeft 5 = .ok (.aload_n 0, 1) := by decide +kernel
theorem dX7_howManyLeft_6 : decode cX7_howManyLeft 6 = .ok (.getfield 39, 3) := by decide +kernel
theorem dX7_howManyLeft_9 : decode cX7_howManyLeft 9 = .ok (.if_icmp .ge 20, 3) := by decide +kernel
theorem dX7_howManyLeft_12 : decode cX7_howManyLeft 12 = .ok (.iload_n 1, 1) := by decide +kernel
theorem dX7_howManyLeft_13 : decode cX7_howManyLeft 13 = .ok (.iconst 1, 1) := by decide +kernel
theorem dX7_howManyLeft_14 : decode cX7_howManyLeft 14 = .ok (.aload_n 0, 1) := by decide +kernel
theorem dX7_howManyLeft_15 : decode cX7_howManyLeft 15 = .ok (.getfield 27, 3) := by decide +kernel
theorem dX7_howManyLeft_18 : decode cX7_howManyLeft 18 = .ok (.iload_n 2, 1) := by decide +kernel
theorem dX7_howManyLeft_19 : decode cX7_howManyLeft 19 = .ok (.iaload, 1) := by decide +kernel
theorem dX7_howManyLeft_20 : decode cX7_howManyLeft 20 = .ok (.isub, 1) := by decide +kernel
theorem dX7_howManyLeft_21 : decode cX7_howManyLeft 21 = .ok (.iadd, 1) := by decide +kernel
theorem dX7_howManyLeft_22 : decode cX7_howManyLeft 22 = .ok (.istore_n 1, 1) := by decide +kernel
theorem dX7_howManyLeft_23 : decode cX7_howManyLeft 23 = .ok (.iinc 2 1, 3) := by decide +kernel
theorem dX7_howManyLeft_26 : decode cX7_howManyLeft 26 = .ok (.goto (-22), 3) := by decide +kernel
theorem dX7_howManyLeft_29 : decode cX7_howManyLeft 29 = .ok (.iload_n 1, 1) := by decide +kernel
theorem dX7_howManyLeft_30 : decode cX7_howManyLeft 30 = .ok (.ireturn, 1) := by decide +kernel
theorem dX7_howManyGloves_0 : decode cX7_howManyGloves 0 = .ok (.iconst 0, 1) := by decide +kernel
theorem dX7_howManyGloves_1 : decode cX7_howManyGloves 1 = .ok (.istore_n 3, 1) := by decide +kernel
theorem dX7_howManyGloves_2 : decode cX7_howManyGloves 2 = .ok (.iconst 0, 1) := by decide +kernel
theorem dX7_howManyGloves_3 : decode cX7_howManyGloves 3 = .ok (.istore 4, 2) := by decide +kernel
theorem dX7_howManyGloves_5 : decode cX7_howManyGloves 5 = .ok (.iload 4, 2) := by decide +kernel
theorem dX7_howManyGloves_7 : decode cX7_howManyGloves 7 = .ok (.aload_n 0, 1) := by decide +kernel
theorem dX7_howManyGloves_8 : decode cX7_howManyGloves 8 = .ok (.getfield 39, 3) := by decide +kernel
theorem dX7_howManyGloves_11 : decode cX7_howManyGloves 11 = .ok (.if_icmp .ge 44, 3) := by decide +kernel
theorem dX7_howManyGloves_14 : decode cX7_howManyGloves 14 = .ok (.aload_n 0, 1) := by decide +kernel
theorem dX7_howManyGloves_15 : decode cX7_howManyGloves 15 = .ok (.getfield 27, 3) := by decide +kernel
theorem dX7_howManyGloves_18 : decode cX7_howManyGloves 18 = .ok (.iload 4, 2) := by decide +kernel
theorem dX7_howManyGloves_20 : decode cX7_howManyGloves 20 = .ok (.iaload, 1) := by decide +kernel
theorem dX7_howManyGloves_21 : decode cX7_howManyGloves 21 = .ok (.ifCond .ne 28, 3) := by decide +kernel
theorem dX7_howManyGloves_24 : decode cX7_howManyGloves 24 = .ok (.aload_n 0, 1) := by decide +kernel
theorem dX7_howManyGloves_25 : decode cX7_howManyGloves 25 = .ok (.getfield 21, 3) := by decide +kernel
theorem dX7_howManyGloves_28 : decode cX7_howManyGloves 28 = .ok (.iload 4, 2) := by decide +kernel
theorem dX7_howManyGloves_30 : decode cX7_howManyGloves 30 = .ok (.iaload, 1) := by decide +kernel
theorem dX7_howManyGloves_31 : decode cX7_howManyGloves 31 = .ok (.iload_n 1, 1) := by decide +kernel
theorem dX7_howManyGloves_32 : decode cX7_howManyGloves 32 = .ok (.if_icmp .ne 17, 3) := by decide +kernel
theorem dX7_howManyGloves_35 : decode cX7_howManyGloves 35 = .ok (.aload_n 0, 1) := by decide +kernel
theorem dX7_howManyGloves_36 : decode cX7_howManyGloves 36 = .ok (.getfield 24, 3) := by decide +kernel
theorem dX7_howManyGloves_39 : decode cX7_howManyGloves 39 = .ok (.iload 4, 2) := by decide +kernel
theorem dX7_howManyGloves_41 : decode cX7_howManyGloves 41 = .ok (.iaload, 1) := by decide +kernel
theorem dX7_howManyGloves_42 : decode cX7_howManyGloves 42 = .ok (.iload_n 2, 1) := by decide +kernel
theorem dX7_howManyGloves_43 : decode cX7_howManyGloves 43 = .ok (.if_icmp .ne 6, 3) := by decide +kernel
theorem dX7_howManyGloves_46 : decode cX7_howManyGloves 46 = .ok (.iinc 3 1, 3) := by decide +kernel
theorem dX7_howManyGloves_49 : decode cX7_howManyGloves 49 = .ok (.iinc 4 1, 3) := by decide +kernel
theorem dX7_howManyGloves_52 : decode cX7_howManyGloves 52 = .ok (.goto (-47), 3) := by decide +kernel
theorem dX7_howManyGloves_55 : decode cX7_howManyGloves 55 = .ok (.iload_n 3, 1) := by decide +kernel
theorem dX7_howManyGloves_56 : decode cX7_howManyGloves 56 = .ok (.ireturn, 1) := by decide +kernel
theorem dX7_regretOfAll_0 : decode cX7_regretOfAll 0 = .ok (.iconst 0, 1) := by decide +kernel
theorem dX7_regretOfAll_1 : decode cX7_regretOfAll 1 = .ok (.istore_n 1, 1) := by decide +kernel
theorem dX7_regretOfAll_2 : decode cX7_regretOfAll 2 = .ok (.iconst 0, 1) := by decide +kernel
theorem dX7_regretOfAll_3 : decode cX7_regretOfAll 3 = .ok (.istore_n 2, 1) := by decide +kernel
theorem dX7_regretOfAll_4 : decode cX7_regretOfAll 4 = .ok (.iload_n 2, 1) := by decide +kernel
theorem dX7_regretOfAll_5 : decode cX7_regretOfAll 5 = .ok (.aload_n 0, 1) := by decide +kernel
theorem dX7_regretOfAll_6 : decode cX7_regretOfAll 6 = .ok (.getfield 39, 3) := by decide +kernel
theorem dX7_regretOfAll_9 : decode cX7_regretOfAll 9 = .ok (.if_icmp .ge 18, 3) := by decide +kernel
theorem dX7_regretOfAll_12 : decode cX7_regretOfAll 12 = .ok (.iload_n 1, 1) := by decide +kernel
theorem dX7_regretOfAll_13 : decode cX7_regretOfAll 13 = .ok (.aload_n 0, 1) := by decide +kernel
theorem dX7_regretOfAll_14 : decode cX7_regretOfAll 14 = .ok (.getfield 9, 3) := by decide +kernel
theorem dX7_regretOfAll_17 : decode cX7_regretOfAll 17 = .ok (.iload_n 2, 1) := by decide +kernel
theorem dX7_regretOfAll_18 : decode cX7_regretOfAll 18 = .ok (.iaload, 1) := by decide +kernel
theorem dX7_regretOfAll_19 : decode cX7_regretOfAll 19 = .ok (.iadd, 1) := by decide +kernel
theorem dX7_regretOfAll_20 : decode cX7_regretOfAll 20 = .ok (.istore_n 1, 1) := by decide +kernel
theorem dX7_regretOfAll_21 : decode cX7_regretOfAll 21 = .ok (.iinc 2 1, 3) := by decide +kernel
theorem dX7_regretOfAll_24 : decode cX7_regretOfAll 24 = .ok (.goto (-20), 3) := by decide +kernel
theorem dX7_regretOfAll_27 : decode cX7_regretOfAll 27 = .ok (.iload_n 1, 1) := by decide +kernel
theorem dX7_regretOfAll_28 : decode cX7_regretOfAll 28 = .ok (.ireturn, 1) := by decide +kernel
theorem dX7_addGuest_0 : decode cX7_addGuest 0 = .ok (.aload_n 0, 1) := by decide +kernel
theorem dX7_addGuest_1 : decode cX7_addGuest 1 = .ok (.getfield 39, 3) := by decide +kernel
theorem dX7_addGuest_4 : decode cX7_addGuest 4 = .ok (.bipush 9, 2) := by decide +kernel
theorem dX7_addGuest_6 : decode cX7_addGuest 6 = .ok (.if_icmp .lt 6, 3) := by decide +kernel
theorem dX7_addGuest_9 : decode cX7_addGuest 9 = .ok (.bipush (-3), 2) := by decide +kernel
theorem dX7_addGuest_11 : decode cX7_addGuest 11 = .ok (.ireturn, 1) := by decide +kernel
theorem dX7_addGuest_12 : decode cX7_addGuest 12 = .ok (.aload_n 0, 1) := by decide +kernel
theorem dX7_addGuest_13 : decode cX7_addGuest 13 = .ok (.getfield 39, 3) := by decide +kernel
theorem dX7_addGuest_16 : decode cX7_addGuest 16 = .ok (.istore_n 3, 1) := by decide +kernel
theorem dX7_addGuest_17 : decode cX7_addGuest 17 = .ok (.aload_n 0, 1) := by decide +kernel
theorem dX7_addGuest_18 : decode cX7_addGuest 18 = .ok (.getfield 9, 3) := by decide +kernel
theorem dX7_addGuest_21 : decode cX7_addGuest 21 = .ok (.iload_n 3, 1) := by decide +kernel
theorem dX7_addGuest_22 : decode cX7_addGuest 22 = .ok (.iconst 0, 1) := by decide +kernel
theorem dX7_addGuest_23 : decode cX7_addGuest 23 = .ok (.iastore, 1) := by decide +kernel
theorem dX7_addGuest_24 : decode cX7_addGuest 24 = .ok (.aload_n 0, 1) := by decide +kernel
theorem dX7_addGuest_25 : decode cX7_addGuest 25 = .ok (.getfield 15, 3) := by decide +kernel
theorem dX7_addGuest_28 : decode cX7_addGuest 28 = .ok (.iload_n 3, 1) := by decide +kernel
theorem dX7_addGuest_29 : decode cX7_addGuest 29 = .ok (.iconst 1, 1) := by decide +kernel
theorem dX7_addGuest_30 : decode cX7_addGuest 30 = .ok (.iastore, 1) := by decide +kernel
theorem dX7_addGuest_31 : decode cX7_addGuest 31 = .ok (.aload_n 0, 1) := by decide +kernel
theorem dX7_addGuest_32 : decode cX7_addGuest 32 = .ok (.getfield 18, 3) := by decide +kernel
theorem dX7_addGuest_35 : decode cX7_addGuest 35 = .ok (.iload_n 3, 1) := by decide +kernel
theorem dX7_addGuest_36 : decode cX7_addGuest 36 = .ok (.iconst 0, 1) := by decide +kernel
theorem dX7_addGuest_37 : decode cX7_addGuest 37 = .ok (.iastore, 1) := by decide +kernel
theorem dX7_addGuest_38 : decode cX7_addGuest 38 = .ok (.aload_n 0, 1) := by decide +kernel
theorem dX7_addGuest_39 : decode cX7_addGuest 39 = .ok (.getfield 21, 3) := by decide +kernel
theorem dX7_addGuest_42 : decode cX7_addGuest 42 = .ok (.iload_n 3, 1) := by decide +kernel
theorem dX7_addGuest_43 : decode cX7_addGuest 43 = .ok (.iload_n 1, 1) := by decide +kernel
theorem dX7_addGuest_44 : decode cX7_addGuest 44 = .ok (.iastore, 1) := by decide +kernel
theorem dX7_addGuest_45 : decode cX7_addGuest 45 = .ok (.aload_n 0, 1) := by decide +kernel
theorem dX7_addGuest_46 : decode cX7_addGuest 46 = .ok (.getfield 24, 3) := by decide +kernel
theorem dX7_addGuest_49 : decode cX7_addGuest 49 = .ok (.iload_n 3, 1) := by decide +kernel
theorem dX7_addGuest_50 : decode cX7_addGuest 50 = .ok (.iload_n 2, 1) := by decide +kernel
theorem dX7_addGuest_51 : decode cX7_addGuest 51 = .ok (.iastore, 1) := by decide +kernel
theorem dX7_addGuest_52 : decode cX7_addGuest 52 = .ok (.aload_n 0, 1) := by decide +kernel
theorem dX7_addGuest_53 : decode cX7_addGuest 53 = .ok (.getfield 27, 3) := by decide +kernel
theorem dX7_addGuest_56 : decode cX7_addGuest 56 = .ok (.iload_n 3, 1) := by decide +kernel
theorem dX7_addGuest_57 : decode cX7_addGuest 57 = .ok (.iconst 0, 1) := by decide +kernel
theorem dX7_addGuest_58 : decode cX7_addGuest 58 = .ok (.iastore, 1) := by decide +kernel
theorem dX7_addGuest_59 : decode cX7_addGuest 59 = .ok (.aload_n 0, 1) := by decide +kernel
theorem dX7_addGuest_60 : decode cX7_addGuest 60 = .ok (.dup, 1) := by decide +kernel
theorem dX7_addGuest_61 : decode cX7_addGuest 61 = .ok (.getfield 39, 3) := by decide +kernel
theorem dX7_addGuest_64 : decode cX7_addGuest 64 = .ok (.iconst 1, 1) := by decide +kernel
theorem dX7_addGuest_65 : decode cX7_addGuest 65 = .ok (.iadd, 1) := by decide +kernel
theorem dX7_addGuest_66 : decode cX7_addGuest 66 = .ok (.putfield 39, 3) := by decide +kernel
theorem dX7_addGuest_69 : decode cX7_addGuest 69 = .ok (.iload_n 3, 1) := by decide +kernel
theorem dX7_addGuest_70 : decode cX7_addGuest 70 = .ok (.ireturn, 1) := by decide +kernel
theorem dX7_addSlip_0 : decode cX7_addSlip 0 = .ok (.aload_n 0, 1) := by decide +kernel
theorem dX7_addSlip_1 : decode cX7_addSlip 1 = .ok (.getfield 43, 3) := by decide +kernel
theorem dX7_addSlip_4 : decode cX7_addSlip 4 = .ok (.aload_n 0, 1) := by decide +kernel
theorem dX7_addSlip_5 : decode cX7_addSlip 5 = .ok (.getfield 30, 3) := by decide +kernel
theorem dX7_addSlip_8 : decode cX7_addSlip 8 = .ok (.arraylength, 1) := by decide +kernel
theorem dX7_addSlip_9 : decode cX7_addSlip 9 = .ok (.if_icmp .lt 6, 3) := by decide +kernel
theorem dX7_addSlip_12 : decode cX7_addSlip 12 = .ok (.bipush (-3), 2) := by decide +kernel
theorem dX7_addSlip_14 : decode cX7_addSlip 14 = .ok (.ireturn, 1) := by decide +kernel
theorem dX7_addSlip_15 : decode cX7_addSlip 15 = .ok (.aload_n 0, 1) := by decide +kernel
theorem dX7_addSlip_16 : decode cX7_addSlip 16 = .ok (.getfield 43, 3) := by decide +kernel
theorem dX7_addSlip_19 : decode cX7_addSlip 19 = .ok (.istore 4, 2) := by decide +kernel
theorem dX7_addSlip_21 : decode cX7_addSlip 21 = .ok (.aload_n 0, 1) := by decide +kernel
theorem dX7_addSlip_22 : decode cX7_addSlip 22 = .ok (.getfield 30, 3) := by decide +kernel
theorem dX7_addSlip_25 : decode cX7_addSlip 25 = .ok (.iload 4, 2) := by decide +kernel
theorem dX7_addSlip_27 : decode cX7_addSlip 27 = .ok (.iload_n 1, 1) := by decide +kernel
theorem dX7_addSlip_28 : decode cX7_addSlip 28 = .ok (.iastore, 1) := by decide +kernel
theorem dX7_addSlip_29 : decode cX7_addSlip 29 = .ok (.aload_n 0, 1) := by decide +kernel
theorem dX7_addSlip_30 : decode cX7_addSlip 30 = .ok (.getfield 33, 3) := by decide +kernel
theorem dX7_addSlip_33 : decode cX7_addSlip 33 = .ok (.iload 4, 2) := by decide +kernel
theorem dX7_addSlip_35 : decode cX7_addSlip 35 = .ok (.iload_n 2, 1) := by decide +kernel
theorem dX7_addSlip_36 : decode cX7_addSlip 36 = .ok (.iastore, 1) := by decide +kernel
theorem dX7_addSlip_37 : decode cX7_addSlip 37 = .ok (.aload_n 0, 1) := by decide +kernel
theorem dX7_addSlip_38 : decode cX7_addSlip 38 = .ok (.getfield 36, 3) := by decide +kernel
theorem dX7_addSlip_41 : decode cX7_addSlip 41 = .ok (.iload 4, 2) := by decide +kernel
theorem dX7_addSlip_43 : decode cX7_addSlip 43 = .ok (.iload_n 3, 1) := by decide +kernel
theorem dX7_addSlip_44 : decode cX7_addSlip 44 = .ok (.iastore, 1) := by decide +kernel
theorem dX7_addSlip_45 : decode cX7_addSlip 45 = .ok (.aload_n 0, 1) := by decide +kernel
theorem dX7_addSlip_46 : decode cX7_addSlip 46 = .ok (.dup, 1) := by decide +kernel
theorem dX7_addSlip_47 : decode cX7_addSlip 47 = .ok (.getfield 43, 3) := by decide +kernel
theorem dX7_addSlip_50 : decode cX7_addSlip 50 = .ok (.iconst 1, 1) := by decide +kernel
theorem dX7_addSlip_51 : decode cX7_addSlip 51 = .ok (.iadd, 1) := by decide +kernel
theorem dX7_addSlip_52 : decode cX7_addSlip 52 = .ok (.putfield 43, 3) := by decide +kernel
theorem dX7_addSlip_55 : decode cX7_addSlip 55 = .ok (.iload 4, 2) := by decide +kernel
theorem dX7_addSlip_57 : decode cX7_addSlip 57 = .ok (.ireturn, 1) := by decide +kernel
theorem dX7_hasNumber_0 : decode cX7_hasNumber 0 = .ok (.iload_n 2, 1) := by decide +kernel
theorem dX7_hasNumber_1 : decode cX7_hasNumber 1 = .ok (.ifCond .lt 14, 3) := by decide +kernel
theorem dX7_hasNumber_4 : decode cX7_hasNumber 4 = .ok (.iload_n 2, 1) := by decide +kernel
theorem dX7_hasNumber_5 : decode cX7_hasNumber 5 = .ok (.iconst 5, 1) := by decide +kernel
theorem dX7_hasNumber_6 : decode cX7_hasNumber 6 = .ok (.if_icmp .gt 9, 3) := by decide +kernel
theorem dX7_hasNumber_9 : decode cX7_hasNumber 9 = .ok (.aload_n 0, 1) := by decide +kernel
theorem dX7_hasNumber_10 : decode cX7_hasNumber 10 = .ok (.iload_n 1, 1) := by decide +kernel
theorem dX7_hasNumber_11 : decode cX7_hasNumber 11 = .ok (.invokevirtual 49, 3) := by decide +kernel
theorem dX7_hasNumber_14 : decode cX7_hasNumber 14 = .ok (.ireturn, 1) := by decide +kernel
theorem dX7_hasNumber_15 : decode cX7_hasNumber 15 = .ok (.iload_n 2, 1) := by decide +kernel
theorem dX7_hasNumber_16 : decode cX7_hasNumber 16 = .ok (.bipush 8, 2) := by decide +kernel
theorem dX7_hasNumber_18 : decode cX7_hasNumber 18 = .ok (.if_icmp .ne 13, 3) := by decide +kernel
theorem dX7_hasNumber_21 : decode cX7_hasNumber 21 = .ok (.iload_n 1, 1) := by decide +kernel
theorem dX7_hasNumber_22 : decode cX7_hasNumber 22 = .ok (.ifCond .ne 7, 3) := by decide +kernel
theorem dX7_hasNumber_25 : decode cX7_hasNumber 25 = .ok (.iconst 1, 1) := by decide +kernel
theorem dX7_hasNumber_26 : decode cX7_hasNumber 26 = .ok (.goto 4, 3) := by decide +kernel
theorem dX7_hasNumber_29 : decode cX7_hasNumber 29 = .ok (.iconst 0, 1) := by decide +kernel
theorem dX7_hasNumber_30 : decode cX7_hasNumber 30 = .ok (.ireturn, 1) := by decide +kernel
theorem dX7_hasNumber_31 : decode cX7_hasNumber 31 = .ok (.iload_n 2, 1) := by decide +kernel
theorem dX7_hasNumber_32 : decode cX7_hasNumber 32 = .ok (.bipush 6, 2) := by decide +kernel
theorem dX7_hasNumber_34 : decode cX7_hasNumber 34 = .ok (.if_icmp .eq 15, 3) := by decide +kernel
theorem dX7_hasNumber_37 : decode cX7_hasNumber 37 = .ok (.iload_n 2, 1) := by decide +kernel
theorem dX7_hasNumber_38 : decode cX7_hasNumber 38 = .ok (.bipush 7, 2) := by decide +kernel
theorem dX7_hasNumber_40 : decode cX7_hasNumber 40 = .ok (.if_icmp .eq 9, 3) := by decide +kernel
theorem dX7_hasNumber_43 : decode cX7_hasNumber 43 = .ok (.iload_n 2, 1) := by decide +kernel
theorem dX7_hasNumber_44 : decode cX7_hasNumber 44 = .ok (.bipush 9, 2) := by decide +kernel
theorem dX7_hasNumber_46 : decode cX7_hasNumber 46 = .ok (.if_icmp .ne 19, 3) := by decide +kernel
theorem dX7_hasNumber_49 : decode cX7_hasNumber 49 = .ok (.iload_n 1, 1) := by decide +kernel
theorem dX7_hasNumber_50 : decode cX7_hasNumber 50 = .ok (.ifCond .lt 15, 3) := by decide +kernel
theorem dX7_hasNumber_53 : decode cX7_hasNumber 53 = .ok (.iload_n 1, 1) := by decide +kernel
theorem dX7_hasNumber_54 : decode cX7_hasNumber 54 = .ok (.aload_n 0, 1) := by decide +kernel
theorem dX7_hasNumber_55 : decode cX7_hasNumber 55 = .ok (.getfield 43, 3) := by decide +kernel
theorem dX7_hasNumber_58 : decode cX7_hasNumber 58 = .ok (.if_icmp .ge 7, 3) := by decide +kernel
theorem dX7_hasNumber_61 : decode cX7_hasNumber 61 = .ok (.iconst 1, 1) := by decide +kernel
theorem dX7_hasNumber_62 : decode cX7_hasNumber 62 = .ok (.goto 4, 3) := by decide +kernel
theorem dX7_hasNumber_65 : decode cX7_hasNumber 65 = .ok (.iconst 0, 1) := by decide +kernel
theorem dX7_hasNumber_66 : decode cX7_hasNumber 66 = .ok (.ireturn, 1) := by decide +kernel
theorem dX7_numberOf_0 : decode cX7_numberOf 0 = .ok (.aload_n 0, 1) := by decide +kernel
theorem dX7_numberOf_1 : decode cX7_numberOf 1 = .ok (.iload_n 1, 1) := by decide +kernel
theorem dX7_numberOf_2 : decode cX7_numberOf 2 = .ok (.iload_n 2, 1) := by decide +kernel
theorem dX7_numberOf_3 : decode cX7_numberOf 3 = .ok (.invokevirtual 53, 3) := by decide +kernel
theorem dX7_numberOf_6 : decode cX7_numberOf 6 = .ok (.ifCond .ne 5, 3) := by decide +kernel
theorem dX7_numberOf_9 : decode cX7_numberOf 9 = .ok (.iconst (-1), 1) := by decide +kernel
theorem dX7_numberOf_10 : decode cX7_numberOf 10 = .ok (.ireturn, 1) := by decide +kernel
theorem dX7_numberOf_11 : decode cX7_numberOf 11 = .ok (.iload_n 2, 1) := by decide +kernel
theorem dX7_numberOf_12 : decode cX7_numberOf 12 = .ok (.bipush 8, 2) := by decide +kernel
theorem dX7_numberOf_14 : decode cX7_numberOf 14 = .ok (.if_icmp .ne 10, 3) := by decide +kernel
theorem dX7_numberOf_17 : decode cX7_numberOf 17 = .ok (.aload_n 0, 1) := by decide +kernel
theorem dX7_numberOf_18 : decode cX7_numberOf 18 = .ok (.getfield 46, 3) := by decide +kernel
theorem dX7_numberOf_21 : decode cX7_numberOf 21 = .ok (.goto 10, 3) := by decide +kernel
theorem dX7_numberOf_24 : decode cX7_numberOf 24 = .ok (.aload_n 0, 1) := by decide +kernel
theorem dX7_numberOf_25 : decode cX7_numberOf 25 = .ok (.iload_n 2, 1) := by decide +kernel
theorem dX7_numberOf_26 : decode cX7_numberOf 26 = .ok (.invokevirtual 57, 3) := by decide +kernel
theorem dX7_numberOf_29 : decode cX7_numberOf 29 = .ok (.iload_n 1, 1) := by decide +kernel
theorem dX7_numberOf_30 : decode cX7_numberOf 30 = .ok (.iaload, 1) := by decide +kernel
theorem dX7_numberOf_31 : decode cX7_numberOf 31 = .ok (.ireturn, 1) := by decide +kernel
theorem dX7_setNumber_0 : decode cX7_setNumber 0 = .ok (.aload_n 0, 1) := by decide +kernel
theorem dX7_setNumber_1 : decode cX7_setNumber 1 = .ok (.iload_n 1, 1) := by decide +kernel
theorem dX7_setNumber_2 : decode cX7_setNumber 2 = .ok (.iload_n 2, 1) := by decide +kernel
theorem dX7_setNumber_3 : decode cX7_setNumber 3 = .ok (.invokevirtual 53, 3) := by decide +kernel
theorem dX7_setNumber_6 : decode cX7_setNumber 6 = .ok (.ifCond .ne 4, 3) := by decide +kernel
theorem dX7_setNumber_9 : decode cX7_setNumber 9 = .ok (.return_, 1) := by decide +kernel
theorem dX7_setNumber_10 : decode cX7_setNumber 10 = .ok (.iload_n 2, 1) := by decide +kernel
theorem dX7_setNumber_11 : decode cX7_setNumber 11 = .ok (.bipush 8, 2) := by decide +kernel
theorem dX7_setNumber_13 : decode cX7_setNumber 13 = .ok (.if_icmp .ne 11, 3) := by decide +kernel
theorem dX7_setNumber_16 : decode cX7_setNumber 16 = .ok (.aload_n 0, 1) := by decide +kernel
theorem dX7_setNumber_17 : decode cX7_setNumber 17 = .ok (.iload_n 3, 1) := by decide +kernel
theorem dX7_setNumber_18 : decode cX7_setNumber 18 = .ok (.putfield 46, 3) := by decide +kernel
theorem dX7_setNumber_21 : decode cX7_setNumber 21 = .ok (.goto 11, 3) := by decide +kernel
theorem dX7_setNumber_24 : decode cX7_setNumber 24 = .ok (.aload_n 0, 1) := by decide +kernel
theorem dX7_setNumber_25 : decode cX7_setNumber 25 = .ok (.iload_n 2, 1) := by decide +kernel
theorem dX7_setNumber_26 : decode cX7_setNumber 26 = .ok (.invokevirtual 57, 3) := by decide +kernel
theorem dX7_setNumber_29 : decode cX7_setNumber 29 = .ok (.iload_n 1, 1) := by decide +kernel
theorem dX7_setNumber_30 : decode cX7_setNumber 30 = .ok (.iload_n 3, 1) := by decide +kernel
theorem dX7_setNumber_31 : decode cX7_setNumber 31 = .ok (.iastore, 1) := by decide +kernel
theorem dX7_setNumber_32 : decode cX7_setNumber 32 = .ok (.return_, 1) := by decide +kernel
theorem dX7_numbersOf_0 : decode cX7_numbersOf 0 = .ok (.iload_n 1, 1) := by decide +kernel
theorem dX7_numbersOf_1 : decode cX7_numbersOf 1 = .ok (.tableswitch 87 0 7 #[47, 52, 57, 62, 67, 72, 77, 82], 47) := by decide +kernel
theorem dX7_numbersOf_48 : decode cX7_numbersOf 48 = .ok (.aload_n 0, 1) := by decide +kernel
theorem dX7_numbersOf_49 : decode cX7_numbersOf 49 = .ok (.getfield 9, 3) := by decide +kernel
theorem dX7_numbersOf_52 : decode cX7_numbersOf 52 = .ok (.areturn, 1) := by decide +kernel
theorem dX7_numbersOf_53 : decode cX7_numbersOf 53 = .ok (.aload_n 0, 1) := by decide +kernel
theorem dX7_numbersOf_54 : decode cX7_numbersOf 54 = .ok (.getfield 15, 3) := by decide +kernel
theorem dX7_numbersOf_57 : decode cX7_numbersOf 57 = .ok (.areturn, 1) := by decide +kernel
theorem dX7_numbersOf_58 : decode cX7_numbersOf 58 = .ok (.aload_n 0, 1) := by decide +kernel
theorem dX7_numbersOf_59 : decode cX7_numbersOf 59 = .ok (.getfield 18, 3) := by decide +kernel
theorem dX7_numbersOf_62 : decode cX7_numbersOf 62 = .ok (.areturn, 1) := by decide +kernel
theorem dX7_numbersOf_63 : decode cX7_numbersOf 63 = .ok (.aload_n 0, 1) := by decide +kernel
theorem dX7_numbersOf_64 : decode cX7_numbersOf 64 = .ok (.getfield 21, 3) := by decide +kernel
theorem dX7_numbersOf_67 : decode cX7_numbersOf 67 = .ok (.areturn, 1) := by decide +kernel
theorem dX7_numbersOf_68 : decode cX7_numbersOf 68 = .ok (.aload_n 0, 1) := by decide +kernel
theorem dX7_numbersOf_69 : decode cX7_numbersOf 69 = .ok (.getfield 24, 3) := by decide +kernel
theorem dX7_numbersOf_72 : decode cX7_numbersOf 72 = .ok (.areturn, 1) := by decide +kernel
theorem dX7_numbersOf_73 : decode cX7_numbersOf 73 = .ok (.aload_n 0, 1) := by decide +kernel
theorem dX7_numbersOf_74 : decode cX7_numbersOf 74 = .ok (.getfield 27, 3) := by decide +kernel
theorem dX7_numbersOf_77 : decode cX7_numbersOf 77 = .ok (.areturn, 1) := by decide +kernel
theorem dX7_numbersOf_78 : decode cX7_numbersOf 78 = .ok (.aload_n 0, 1) := by decide +kernel
theorem dX7_numbersOf_79 : decode cX7_numbersOf 79 = .ok (.getfield 33, 3) := by decide +kernel
theorem dX7_numbersOf_82 : decode cX7_numbersOf 82 = .ok (.areturn, 1) := by decide +kernel
theorem dX7_numbersOf_83 : decode cX7_numbersOf 83 = .ok (.aload_n 0, 1) := by decide +kernel
theorem dX7_numbersOf_84 : decode cX7_numbersOf 84 = .ok (.getfield 36, 3) := by decide +kernel
theorem dX7_numbersOf_87 : decode cX7_numbersOf 87 = .ok (.areturn, 1) := by decide +kernel
theorem dX7_numbersOf_88 : decode cX7_numbersOf 88 = .ok (.aload_n 0, 1) := by decide +kernel
theorem dX7_numbersOf_89 : decode cX7_numbersOf 89 = .ok (.getfield 30, 3) := by decide +kernel
theorem dX7_numbersOf_92 : decode cX7_numbersOf 92 = .ok (.areturn, 1) := by decide +kernel
theorem dX7_passMinute_0 : decode cX7_passMinute 0 = .ok (.iconst 0, 1) := by decide +kernel
theorem dX7_passMinute_1 : decode cX7_passMinute 1 = .ok (.istore_n 1, 1) := by decide +kernel
theorem dX7_passMinute_2 : decode cX7_passMinute 2 = .ok (.iload_n 1, 1) := by decide +kernel
theorem dX7_passMinute_3 : decode cX7_passMinute 3 = .ok (.aload_n 0, 1) := by decide +kernel
theorem dX7_passMinute_4 : decode cX7_passMinute 4 = .ok (.getfield 43, 3) := by decide +kernel
theorem dX7_passMinute_7 : decode cX7_passMinute 7 = .ok (.if_icmp .ge 55, 3) := by decide +kernel
theorem dX7_passMinute_10 : decode cX7_passMinute 10 = .ok (.aload_n 0, 1) := by decide +kernel
theorem dX7_passMinute_11 : decode cX7_passMinute 11 = .ok (.getfield 33, 3) := by decide +kernel
theorem dX7_passMinute_14 : decode cX7_passMinute 14 = .ok (.iload_n 1, 1) := by decide +kernel
theorem dX7_passMinute_15 : decode cX7_passMinute 15 = .ok (.iaload, 1) := by decide +kernel
theorem dX7_passMinute_16 : decode cX7_passMinute 16 = .ok (.aload_n 0, 1) := by decide +kernel
theorem dX7_passMinute_17 : decode cX7_passMinute 17 = .ok (.getfield 46, 3) := by decide +kernel
theorem dX7_passMinute_20 : decode cX7_passMinute 20 = .ok (.if_icmp .ne 36, 3) := by decide +kernel
theorem dX7_passMinute_23 : decode cX7_passMinute 23 = .ok (.aload_n 0, 1) := by decide +kernel
theorem dX7_passMinute_24 : decode cX7_passMinute 24 = .ok (.aload_n 0, 1) := by decide +kernel
theorem dX7_passMinute_25 : decode cX7_passMinute 25 = .ok (.getfield 30, 3) := by decide +kernel
theorem dX7_passMinute_28 : decode cX7_passMinute 28 = .ok (.iload_n 1, 1) := by decide +kernel
theorem dX7_passMinute_29 : decode cX7_passMinute 29 = .ok (.iaload, 1) := by decide +kernel
theorem dX7_passMinute_30 : decode cX7_passMinute 30 = .ok (.invokevirtual 61, 3) := by decide +kernel
theorem dX7_passMinute_33 : decode cX7_passMinute 33 = .ok (.ifCond .eq 23, 3) := by decide +kernel
theorem dX7_passMinute_36 : decode cX7_passMinute 36 = .ok (.aload_n 0, 1) := by decide +kernel
theorem dX7_passMinute_37 : decode cX7_passMinute 37 = .ok (.getfield 9, 3) := by decide +kernel
theorem dX7_passMinute_40 : decode cX7_passMinute 40 = .ok (.aload_n 0, 1) := by decide +kernel
theorem dX7_passMinute_41 : decode cX7_passMinute 41 = .ok (.getfield 30, 3) := by decide +kernel
theorem dX7_passMinute_44 : decode cX7_passMinute 44 = .ok (.iload_n 1, 1) := by decide +kernel
theorem dX7_passMinute_45 : decode cX7_passMinute 45 = .ok (.iaload, 1) := by decide +kernel
theorem dX7_passMinute_46 : decode cX7_passMinute 46 = .ok (.dup2, 1) := by decide +kernel
theorem dX7_passMinute_47 : decode cX7_passMinute 47 = .ok (.iaload, 1) := by decide +kernel
theorem dX7_passMinute_48 : decode cX7_passMinute 48 = .ok (.aload_n 0, 1) := by decide +kernel
theorem dX7_passMinute_49 : decode cX7_passMinute 49 = .ok (.getfield 36, 3) := by decide +kernel
theorem dX7_passMinute_52 : decode cX7_passMinute 52 = .ok (.iload_n 1, 1) := by decide +kernel
theorem dX7_passMinute_53 : decode cX7_passMinute 53 = .ok (.iaload, 1) := by decide +kernel
theorem dX7_passMinute_54 : decode cX7_passMinute 54 = .ok (.iadd, 1) := by decide +kernel
theorem dX7_passMinute_55 : decode cX7_passMinute 55 = .ok (.iastore, 1) := by decide +kernel
theorem dX7_passMinute_56 : decode cX7_passMinute 56 = .ok (.iinc 1 1, 3) := by decide +kernel
theorem dX7_passMinute_59 : decode cX7_passMinute 59 = .ok (.goto (-57), 3) := by decide +kernel
theorem dX7_passMinute_62 : decode cX7_passMinute 62 = .ok (.iconst 0, 1) := by decide +kernel
theorem dX7_passMinute_63 : decode cX7_passMinute 63 = .ok (.istore_n 1, 1) := by decide +kernel
theorem dX7_passMinute_64 : decode cX7_passMinute 64 = .ok (.iload_n 1, 1) := by decide +kernel
theorem dX7_passMinute_65 : decode cX7_passMinute 65 = .ok (.aload_n 0, 1) := by decide +kernel
theorem dX7_passMinute_66 : decode cX7_passMinute 66 = .ok (.getfield 39, 3) := by decide +kernel
theorem dX7_passMinute_69 : decode cX7_passMinute 69 = .ok (.if_icmp .ge 46, 3) := by decide +kernel
theorem dX7_passMinute_72 : decode cX7_passMinute 72 = .ok (.aload_n 0, 1) := by decide +kernel
theorem dX7_passMinute_73 : decode cX7_passMinute 73 = .ok (.getfield 27, 3) := by decide +kernel
theorem dX7_passMinute_76 : decode cX7_passMinute 76 = .ok (.iload_n 1, 1) := by decide +kernel
theorem dX7_passMinute_77 : decode cX7_passMinute 77 = .ok (.iaload, 1) := by decide +kernel
theorem dX7_passMinute_78 : decode cX7_passMinute 78 = .ok (.ifCond .ne 31, 3) := by decide +kernel
theorem dX7_passMinute_81 : decode cX7_passMinute 81 = .ok (.aload_n 0, 1) := by decide +kernel
theorem dX7_passMinute_82 : decode cX7_passMinute 82 = .ok (.getfield 9, 3) := by decide +kernel
theorem dX7_passMinute_85 : decode cX7_passMinute 85 = .ok (.iload_n 1, 1) := by decide +kernel
theorem dX7_passMinute_86 : decode cX7_passMinute 86 = .ok (.iconst 0, 1) := by decide +kernel
theorem dX7_passMinute_87 : decode cX7_passMinute 87 = .ok (.bipush 99, 2) := by decide +kernel
theorem dX7_passMinute_89 : decode cX7_passMinute 89 = .ok (.aload_n 0, 1) := by decide +kernel
theorem dX7_passMinute_90 : decode cX7_passMinute 90 = .ok (.getfield 9, 3) := by decide +kernel
theorem dX7_passMinute_93 : decode cX7_passMinute 93 = .ok (.iload_n 1, 1) := by decide +kernel
theorem dX7_passMinute_94 : decode cX7_passMinute 94 = .ok (.iaload, 1) := by decide +kernel
theorem dX7_passMinute_95 : decode cX7_passMinute 95 = .ok (.aload_n 0, 1) := by decide +kernel
theorem dX7_passMinute_96 : decode cX7_passMinute 96 = .ok (.getfield 15, 3) := by decide +kernel
theorem dX7_passMinute_99 : decode cX7_passMinute 99 = .ok (.iload_n 1, 1) := by decide +kernel
theorem dX7_passMinute_100 : decode cX7_passMinute 100 = .ok (.iaload, 1) := by decide +kernel
theorem dX7_passMinute_101 : decode cX7_passMinute 101 = .ok (.isub, 1) := by decide +kernel
theorem dX7_passMinute_102 : decode cX7_passMinute 102 = .ok (.invokestatic 64, 3) := by decide +kernel
theorem dX7_passMinute_105 : decode cX7_passMinute 105 = .ok (.invokestatic 70, 3) := by decide +kernel
theorem dX7_passMinute_108 : decode cX7_passMinute 108 = .ok (.iastore, 1) := by decide +kernel
theorem dX7_passMinute_109 : decode cX7_passMinute 109 = .ok (.iinc 1 1, 3) := by decide +kernel
theorem dX7_passMinute_112 : decode cX7_passMinute 112 = .ok (.goto (-48), 3) := by decide +kernel
theorem dX7_passMinute_115 : decode cX7_passMinute 115 = .ok (.aload_n 0, 1) := by decide +kernel
theorem dX7_passMinute_116 : decode cX7_passMinute 116 = .ok (.sipush 199, 3) := by decide +kernel
theorem dX7_passMinute_119 : decode cX7_passMinute 119 = .ok (.aload_n 0, 1) := by decide +kernel
theorem dX7_passMinute_120 : decode cX7_passMinute 120 = .ok (.getfield 46, 3) := by decide +kernel
theorem dX7_passMinute_123 : decode cX7_passMinute 123 = .ok (.iconst 1, 1) := by decide +kernel
theorem dX7_passMinute_124 : decode cX7_passMinute 124 = .ok (.iadd, 1) := by decide +kernel
theorem dX7_passMinute_125 : decode cX7_passMinute 125 = .ok (.invokestatic 64, 3) := by decide +kernel
theorem dX7_passMinute_128 : decode cX7_passMinute 128 = .ok (.putfield 46, 3) := by decide +kernel
theorem dX7_passMinute_131 : decode cX7_passMinute 131 = .ok (.return_, 1) := by decide +kernel
theorem dX7_becomeLike_0 : decode cX7_becomeLike 0 = .ok (.aload_n 0, 1) := by decide +kernel
theorem dX7_becomeLike_1 : decode cX7_becomeLike 1 = .ok (.aload_n 1, 1) := by decide +kernel
theorem dX7_becomeLike_2 : decode cX7_becomeLike 2 = .ok (.getfield 39, 3) := by decide +kernel
theorem dX7_becomeLike_5 : decode cX7_becomeLike 5 = .ok (.putfield 39, 3) := by decide +kernel
theorem dX7_becomeLike_8 : decode cX7_becomeLike 8 = .ok (.aload_n 0, 1) := by decide +kernel
theorem dX7_becomeLike_9 : decode cX7_becomeLike 9 = .ok (.aload_n 1, 1) := by decide +kernel
theorem dX7_becomeLike_10 : decode cX7_becomeLike 10 = .ok (.getfield 43, 3) := by decide +kernel
theorem dX7_becomeLike_13 : decode cX7_becomeLike 13 = .ok (.putfield 43, 3) := by decide +kernel
theorem dX7_becomeLike_16 : decode cX7_becomeLike 16 = .ok (.aload_n 0, 1) := by decide +kernel
theorem dX7_becomeLike_17 : decode cX7_becomeLike 17 = .ok (.aload_n 1, 1) := by decide +kernel
theorem dX7_becomeLike_18 : decode cX7_becomeLike 18 = .ok (.getfield 46, 3) := by decide +kernel
theorem dX7_becomeLike_21 : decode cX7_becomeLike 21 = .ok (.putfield 46, 3) := by decide +kernel
theorem dX7_becomeLike_24 : decode cX7_becomeLike 24 = .ok (.aload_n 1, 1) := by decide +kernel
theorem dX7_becomeLike_25 : decode cX7_becomeLike 25 = .ok (.getfield 9, 3) := by decide +kernel
theorem dX7_becomeLike_28 : decode cX7_becomeLike 28 = .ok (.iconst 0, 1) := by decide +kernel
theorem dX7_becomeLike_29 : decode cX7_becomeLike 29 = .ok (.aload_n 0, 1) := by decide +kernel
theorem dX7_becomeLike_30 : decode cX7_becomeLike 30 = .ok (.getfield 9, 3) := by decide +kernel
theorem dX7_becomeLike_33 : decode cX7_becomeLike 33 = .ok (.iconst 0, 1) := by decide +kernel
theorem dX7_becomeLike_34 : decode cX7_becomeLike 34 = .ok (.bipush 9, 2) := by decide +kernel
theorem dX7_becomeLike_36 : decode cX7_becomeLike 36 = .ok (.invokestatic 73, 3) := by decide +kernel
theorem dX7_becomeLike_39 : decode cX7_becomeLike 39 = .ok (.aload_n 1, 1) := by decide +kernel
theorem dX7_becomeLike_40 : decode cX7_becomeLike 40 = .ok (.getfield 15, 3) := by decide +kernel
theorem dX7_becomeLike_43 : decode cX7_becomeLike 43 = .ok (.iconst 0, 1) := by decide +kernel
theorem dX7_becomeLike_44 : decode cX7_becomeLike 44 = .ok (.aload_n 0, 1) := by decide +kernel
theorem dX7_becomeLike_45 : decode cX7_becomeLike 45 = .ok (.getfield 15, 3) := by decide +kernel
theorem dX7_becomeLike_48 : decode cX7_becomeLike 48 = .ok (.iconst 0, 1) := by decide +kernel
theorem dX7_becomeLike_49 : decode cX7_becomeLike 49 = .ok (.bipush 9, 2) := by decide +kernel
theorem dX7_becomeLike_51 : decode cX7_becomeLike 51 = .ok (.invokestatic 73, 3) := by decide +kernel
theorem dX7_becomeLike_54 : decode cX7_becomeLike 54 = .ok (.aload_n 1, 1) := by decide +kernel
theorem dX7_becomeLike_55 : decode cX7_becomeLike 55 = .ok (.getfield 18, 3) := by decide +kernel
theorem dX7_becomeLike_58 : decode cX7_becomeLike 58 = .ok (.iconst 0, 1) := by decide +kernel
theorem dX7_becomeLike_59 : decode cX7_becomeLike 59 = .ok (.aload_n 0, 1) := by decide +kernel
theorem dX7_becomeLike_60 : decode cX7_becomeLike 60 = .ok (.getfield 18, 3) := by decide +kernel
theorem dX7_becomeLike_63 : decode cX7_becomeLike 63 = .ok (.iconst 0, 1) := by decide +kernel
theorem dX7_becomeLike_64 : decode cX7_becomeLike 64 = .ok (.bipush 9, 2) := by decide +kernel
theorem dX7_becomeLike_66 : decode cX7_becomeLike 66 = .ok (.invokestatic 73, 3) := by decide +kernel
theorem dX7_becomeLike_69 : decode cX7_becomeLike 69 = .ok (.aload_n 1, 1) := by decide +kernel
theorem dX7_becomeLike_70 : decode cX7_becomeLike 70 = .ok (.getfield 21, 3) := by decide +kernel
theorem dX7_becomeLike_73 : decode cX7_becomeLike 73 = .ok (.iconst 0, 1) := by decide +kernel
theorem dX7_becomeLike_74 : decode cX7_becomeLike 74 = .ok (.aload_n 0, 1) := by decide +kernel
theorem dX7_becomeLike_75 : decode cX7_becomeLike 75 = .ok (.getfield 21, 3) := by decide +kernel
theorem dX7_becomeLike_78 : decode cX7_becomeLike 78 = .ok (.iconst 0, 1) := by decide +kernel
theorem dX7_becomeLike_79 : decode cX7_becomeLike 79 = .ok (.bipush 9, 2) := by decide +kernel
theorem dX7_becomeLike_81 : decode cX7_becomeLike 81 = .ok (.invokestatic 73, 3) := by decide +kernel
theorem dX7_becomeLike_84 : decode cX7_becomeLike 84 = .ok (.aload_n 1, 1) := by decide +kernel
theorem dX7_becomeLike_85 : decode cX7_becomeLike 85 = .ok (.getfield 27, 3) := by decide +kernel
theorem dX7_becomeLike_88 : decode cX7_becomeLike 88 = .ok (.iconst 0, 1) := by decide +kernel
theorem dX7_becomeLike_89 : decode cX7_becomeLike 89 = .ok (.aload_n 0, 1) := by decide +kernel
theorem dX7_becomeLike_90 : decode cX7_becomeLike 90 = .ok (.getfield 27, 3) := by decide +kernel
theorem dX7_becomeLike_93 : decode cX7_becomeLike 93 = .ok (.iconst 0, 1) := by decide +kernel
theorem dX7_becomeLike_94 : decode cX7_becomeLike 94 = .ok (.bipush 9, 2) := by decide +kernel
theorem dX7_becomeLike_96 : decode cX7_becomeLike 96 = .ok (.invokestatic 73, 3) := by decide +kernel
theorem dX7_becomeLike_99 : decode cX7_becomeLike 99 = .ok (.aload_n 1, 1) := by decide +kernel
theorem dX7_becomeLike_100 : decode cX7_becomeLike 100 = .ok (.getfield 30, 3) := by decide +kernel
theorem dX7_becomeLike_103 : decode cX7_becomeLike 103 = .ok (.iconst 0, 1) := by decide +kernel
theorem dX7_becomeLike_104 : decode cX7_becomeLike 104 = .ok (.aload_n 0, 1) := by decide +kernel
theorem dX7_becomeLike_105 : decode cX7_becomeLike 105 = .ok (.getfield 30, 3) := by decide +kernel
theorem dX7_becomeLike_108 : decode cX7_becomeLike 108 = .ok (.iconst 0, 1) := by decide +kernel
theorem dX7_becomeLike_109 : decode cX7_becomeLike 109 = .ok (.bipush 12, 2) := by decide +kernel
theorem dX7_becomeLike_111 : decode cX7_becomeLike 111 = .ok (.invokestatic 73, 3) := by decide +kernel
theorem dX7_becomeLike_114 : decode cX7_becomeLike 114 = .ok (.aload_n 1, 1) := by decide +kernel
theorem dX7_becomeLike_115 : decode cX7_becomeLike 115 = .ok (.getfield 33, 3) := by decide +kernel
theorem dX7_becomeLike_118 : decode cX7_becomeLike 118 = .ok (.iconst 0, 1) := by decide +kernel
theorem dX7_becomeLike_119 : decode cX7_becomeLike 119 = .ok (.aload_n 0, 1) := by decide +kernel
theorem dX7_becomeLike_120 : decode cX7_becomeLike 120 = .ok (.getfield 33, 3) := by decide +kernel
theorem dX7_becomeLike_123 : decode cX7_becomeLike 123 = .ok (.iconst 0, 1) := by decide +kernel
theorem dX7_becomeLike_124 : decode cX7_becomeLike 124 = .ok (.bipush 12, 2) := by decide +kernel
theorem dX7_becomeLike_126 : decode cX7_becomeLike 126 = .ok (.invokestatic 73, 3) := by decide +kernel
theorem dX7_becomeLike_129 : decode cX7_becomeLike 129 = .ok (.aload_n 1, 1) := by decide +kernel
theorem dX7_becomeLike_130 : decode cX7_becomeLike 130 = .ok (.getfield 36, 3) := by decide +kernel
theorem dX7_becomeLike_133 : decode cX7_becomeLike 133 = .ok (.iconst 0, 1) := by decide +kernel
theorem dX7_becomeLike_134 : decode cX7_becomeLike 134 = .ok (.aload_n 0, 1) := by decide +kernel
theorem dX7_becomeLike_135 : decode cX7_becomeLike 135 = .ok (.getfield 36, 3) := by decide +kernel
theorem dX7_becomeLike_138 : decode cX7_becomeLike 138 = .ok (.iconst 0, 1) := by decide +kernel
theorem dX7_becomeLike_139 : decode cX7_becomeLike 139 = .ok (.bipush 12, 2) := by decide +kernel
theorem dX7_becomeLike_141 : decode cX7_becomeLike 141 = .ok (.invokestatic 73, 3) := by decide +kernel
theorem dX7_becomeLike_144 : decode cX7_becomeLike 144 = .ok (.return_, 1) := by decide +kernel
theorem dX8_init_0 : decode cX8_init 0 = .ok (.aload_n 0, 1) := by decide +kernel
theorem dX8_init_1 : decode cX8_init 1 = .ok (.invokespecial 3, 3) := by decide +kernel
theorem dX8_init_4 : decode cX8_init 4 = .ok (.aload_n 0, 1) := by decide +kernel
theorem dX8_init_5 : decode cX8_init 5 = .ok (.iconst 0, 1) := by decide +kernel
theorem dX8_init_6 : decode cX8_init 6 = .ok (.putfield 9, 3) := by decide +kernel
theorem dX8_init_9 : decode cX8_init 9 = .ok (.aload_n 0, 1) := by decide +kernel
theorem dX8_init_10 : decode cX8_init 10 = .ok (.iconst 0, 1) := by decide +kernel
theorem dX8_init_11 : decode cX8_init 11 = .ok (.putfield 15, 3) := by decide +kernel
theorem dX8_init_14 : decode cX8_init 14 = .ok (.aload_n 0, 1) := by decide +kernel
theorem dX8_init_15 : decode cX8_init 15 = .ok (.bipush 100, 2) := by decide +kernel
theorem dX8_init_17 : decode cX8_init 17 = .ok (.newarray .int, 2) := by decide +kernel
theorem dX8_init_19 : decode cX8_init 19 = .ok (.putfield 18, 3) := by decide +kernel
theorem dX8_init_22 : decode cX8_init 22 = .ok (.aload_n 0, 1) := by decide +kernel
theorem dX8_init_23 : decode cX8_init 23 = .ok (.aload_n 1, 1) := by decide +kernel
theorem dX8_init_24 : decode cX8_init 24 = .ok (.putfield 22, 3) := by decide +kernel
theorem dX8_init_27 : decode cX8_init 27 = .ok (.return_, 1) := by decide +kernel
theorem dX8_begin_0 : decode cX8_begin 0 = .ok (.aload_n 0, 1) := by decide +kernel
theorem dX8_begin_1 : decode cX8_begin 1 = .ok (.iload_n 1, 1) := by decide +kernel
theorem dX8_begin_2 : decode cX8_begin 2 = .ok (.putfield 9, 3) := by decide +kernel
theorem dX8_begin_5 : decode cX8_begin 5 = .ok (.aload_n 0, 1) := by decide +kernel
theorem dX8_begin_6 : decode cX8_begin 6 = .ok (.iload_n 2, 1) := by decide +kernel
theorem dX8_begin_7 : decode cX8_begin 7 = .ok (.putfield 15, 3) := by decide +kernel
theorem dX8_begin_10 : decode cX8_begin 10 = .ok (.iconst 0, 1) := by decide +kernel
theorem dX8_begin_11 : decode cX8_begin 11 = .ok (.istore_n 3, 1) := by decide +kernel
theorem dX8_begin_12 : decode cX8_begin 12 = .ok (.iload_n 3, 1) := by decide +kernel
theorem dX8_begin_13 : decode cX8_begin 13 = .ok (.aload_n 0, 1) := by decide +kernel
theorem dX8_begin_14 : decode cX8_begin 14 = .ok (.getfield 18, 3) := by decide +kernel
theorem dX8_begin_17 : decode cX8_begin 17 = .ok (.arraylength, 1) := by decide +kernel
theorem dX8_begin_18 : decode cX8_begin 18 = .ok (.if_icmp .ge 17, 3) := by decide +kernel
theorem dX8_begin_21 : decode cX8_begin 21 = .ok (.aload_n 0, 1) := by decide +kernel
theorem dX8_begin_22 : decode cX8_begin 22 = .ok (.getfield 18, 3) := by decide +kernel
theorem dX8_begin_25 : decode cX8_begin 25 = .ok (.iload_n 3, 1) := by decide +kernel
theorem dX8_begin_26 : decode cX8_begin 26 = .ok (.ldc 26, 2) := by decide +kernel
theorem dX8_begin_28 : decode cX8_begin 28 = .ok (.iastore, 1) := by decide +kernel
theorem dX8_begin_29 : decode cX8_begin 29 = .ok (.iinc 3 1, 3) := by decide +kernel
theorem dX8_begin_32 : decode cX8_begin 32 = .ok (.goto (-20), 3) := by decide +kernel
theorem dX8_begin_35 : decode cX8_begin 35 = .ok (.return_, 1) := by decide +kernel
theorem dX8_best_0 : decode cX8_best 0 = .ok (.iload_n 3, 1) := by decide +kernel
theorem dX8_best_1 : decode cX8_best 1 = .ok (.ifCond .gt 10, 3) := by decide +kernel
theorem dX8_best_4 : decode cX8_best 4 = .ok (.aload_n 0, 1) := by decide +kernel
theorem dX8_best_5 : decode cX8_best 5 = .ok (.iload_n 1, 1) := by decide +kernel
theorem dX8_best_6 : decode cX8_best 6 = .ok (.iload_n 2, 1) := by decide +kernel
theorem dX8_best_7 : decode cX8_best 7 = .ok (.invokevirtual 27, 3) := by decide +kernel
theorem dX8_best_10 : decode cX8_best 10 = .ok (.ireturn, 1) := by decide +kernel
theorem dX8_best_11 : decode cX8_best 11 = .ok (.iload 4, 2) := by decide +kernel
theorem dX8_best_13 : decode cX8_best 13 = .ok (.ifCond .eq 8, 3) := by decide +kernel
theorem dX8_best_16 : decode cX8_best 16 = .ok (.bipush (-9), 2) := by decide +kernel
theorem dX8_best_18 : decode cX8_best 18 = .ok (.goto 5, 3) := by decide +kernel
theorem dX8_best_21 : decode cX8_best 21 = .ok (.bipush 9, 2) := by decide +kernel
theorem dX8_best_23 : decode cX8_best 23 = .ok (.istore 5, 2) := by decide +kernel
theorem dX8_best_25 : decode cX8_best 25 = .ok (.iconst 0, 1) := by decide +kernel
theorem dX8_best_26 : decode cX8_best 26 = .ok (.istore 6, 2) := by decide +kernel
theorem dX8_best_28 : decode cX8_best 28 = .ok (.iload 6, 2) := by decide +kernel
theorem dX8_best_30 : decode cX8_best 30 = .ok (.iconst 2, 1) := by decide +kernel
theorem dX8_best_31 : decode cX8_best 31 = .ok (.if_icmp .gt 61, 3) := by decide +kernel
theorem dX8_best_34 : decode cX8_best 34 = .ok (.iload 4, 2) := by decide +kernel
theorem dX8_best_36 : decode cX8_best 36 = .ok (.ifCond .eq 28, 3) := by decide +kernel
theorem dX8_best_39 : decode cX8_best 39 = .ok (.iload 5, 2) := by decide +kernel
theorem dX8_best_41 : decode cX8_best 41 = .ok (.aload_n 0, 1) := by decide +kernel
theorem dX8_best_42 : decode cX8_best 42 = .ok (.iload_n 1, 1) := by decide +kernel
theorem dX8_best_43 : decode cX8_best 43 = .ok (.iload 6, 2) := by decide +kernel
theorem dX8_best_45 : decode cX8_best 45 = .ok (.invokestatic 31, 3) := by decide +kernel
theorem dX8_best_48 : decode cX8_best 48 = .ok (.iload_n 2, 1) := by decide +kernel
theorem dX8_best_49 : decode cX8_best 49 = .ok (.iload_n 3, 1) := by decide +kernel
theorem dX8_best_50 : decode cX8_best 50 = .ok (.iconst 1, 1) := by decide +kernel
theorem dX8_best_51 : decode cX8_best 51 = .ok (.isub, 1) := by decide +kernel
theorem dX8_best_52 : decode cX8_best 52 = .ok (.iconst 0, 1) := by decide +kernel
theorem dX8_best_53 : decode cX8_best 53 = .ok (.invokevirtual 34, 3) := by decide +kernel
theorem dX8_best_56 : decode cX8_best 56 = .ok (.invokestatic 38, 3) := by decide +kernel
theorem dX8_best_59 : decode cX8_best 59 = .ok (.istore 5, 2) := by decide +kernel
theorem dX8_best_61 : decode cX8_best 61 = .ok (.goto 25, 3) := by decide +kernel
theorem dX8_best_64 : decode cX8_best 64 = .ok (.iload 5, 2) := by decide +kernel
theorem dX8_best_66 : decode cX8_best 66 = .ok (.aload_n 0, 1) := by decide +kernel
theorem dX8_best_67 : decode cX8_best 67 = .ok (.iload_n 1, 1) := by decide +kernel
theorem dX8_best_68 : decode cX8_best 68 = .ok (.iload_n 2, 1) := by decide +kernel
theorem dX8_best_69 : decode cX8_best 69 = .ok (.iload 6, 2) := by decide +kernel
theorem dX8_best_71 : decode cX8_best 71 = .ok (.invokestatic 31, 3) := by decide +kernel
theorem dX8_best_74 : decode cX8_best 74 = .ok (.iload_n 3, 1) := by decide +kernel
theorem dX8_best_75 : decode cX8_best 75 = .ok (.iconst 1, 1) := by decide +kernel
theorem dX8_best_76 : decode cX8_best 76 = .ok (.isub, 1) := by decide +kernel
theorem dX8_best_77 : decode cX8_best 77 = .ok (.iconst 1, 1) := by decide +kernel
theorem dX8_best_78 : decode cX8_best 78 = .ok (.invokevirtual 34, 3) := by decide +kernel
theorem dX8_best_81 : decode cX8_best 81 = .ok (.invokestatic 43, 3) := by decide +kernel
theorem dX8_best_84 : decode cX8_best 84 = .ok (.istore 5, 2) := by decide +kernel
theorem dX8_best_86 : decode cX8_best 86 = .ok (.iinc 6 1, 3) := by decide +kernel
theorem dX8_best_89 : decode cX8_best 89 = .ok (.goto (-61), 3) := by decide +kernel
theorem dX8_best_92 : decode cX8_best 92 = .ok (.iload 5, 2) := by decide +kernel
theorem dX8_best_94 : decode cX8_best 94 = .ok (.ireturn, 1) := by decide +kernel
theorem dX8_afterTurn_0 : decode cX8_afterTurn 0 = .ok (.iload_n 1, 1) := by decide +kernel
theorem dX8_afterTurn_1 : decode cX8_afterTurn 1 = .ok (.iconst 2, 1) := by decide +kernel
end
section
theorem dX8_afterTurn_2 : decode cX8_afterTurn 2 = .ok (.if_icmp .ne 5, 3) := by decide +kernel
theorem dX8_afterTurn_5 : decode cX8_afterTurn 5 = .ok (.iload_n 0, 1) := by decide +kernel
theorem dX8_afterTurn_6 : decode cX8_afterTurn 6 = .ok (.ireturn, 1) := by decide +kernel
theorem dX8_afterTurn_7 : decode cX8_afterTurn 7 = .ok (.iload_n 1, 1) := by decide +kernel
theorem dX8_afterTurn_8 : decode cX8_afterTurn 8 = .ok (.ifCond .ne 14, 3) := by decide +kernel
theorem dX8_afterTurn_11 : decode cX8_afterTurn 11 = .ok (.bipush 9, 2) := by decide +kernel
theorem dX8_afterTurn_13 : decode cX8_afterTurn 13 = .ok (.iload_n 0, 1) := by decide +kernel
theorem dX8_afterTurn_14 : decode cX8_afterTurn 14 = .ok (.iconst 2, 1) := by decide +kernel
theorem dX8_afterTurn_15 : decode cX8_afterTurn 15 = .ok (.iadd, 1) := by decide +kernel
theorem dX8_afterTurn_16 : decode cX8_afterTurn 16 = .ok (.invokestatic 43, 3) := by decide +kernel
theorem dX8_afterTurn_19 : decode cX8_afterTurn 19 = .ok (.goto 10, 3) := by decide +kernel
theorem dX8_afterTurn_22 : decode cX8_afterTurn 22 = .ok (.iconst 0, 1) := by decide +kernel
theorem dX8_afterTurn_23 : decode cX8_afterTurn 23 = .ok (.iload_n 0, 1) := by decide +kernel
theorem dX8_afterTurn_24 : decode cX8_afterTurn 24 = .ok (.iconst 2, 1) := by decide +kernel
theorem dX8_afterTurn_25 : decode cX8_afterTurn 25 = .ok (.isub, 1) := by decide +kernel
theorem dX8_afterTurn_26 : decode cX8_afterTurn 26 = .ok (.invokestatic 38, 3) := by decide +kernel
theorem dX8_afterTurn_29 : decode cX8_afterTurn 29 = .ok (.ireturn, 1) := by decide +kernel
theorem dX8_endOf_0 : decode cX8_endOf 0 = .ok (.iload_n 1, 1) := by decide +kernel
theorem dX8_endOf_1 : decode cX8_endOf 1 = .ok (.bipush 10, 2) := by decide +kernel
theorem dX8_endOf_3 : decode cX8_endOf 3 = .ok (.imul, 1) := by decide +kernel
theorem dX8_endOf_4 : decode cX8_endOf 4 = .ok (.iload_n 2, 1) := by decide +kernel
theorem dX8_endOf_5 : decode cX8_endOf 5 = .ok (.iadd, 1) := by decide +kernel
theorem dX8_endOf_6 : decode cX8_endOf 6 = .ok (.istore_n 3, 1) := by decide +kernel
theorem dX8_endOf_7 : decode cX8_endOf 7 = .ok (.iload_n 3, 1) := by decide +kernel
theorem dX8_endOf_8 : decode cX8_endOf 8 = .ok (.ifCond .lt 12, 3) := by decide +kernel
theorem dX8_endOf_11 : decode cX8_endOf 11 = .ok (.iload_n 3, 1) := by decide +kernel
theorem dX8_endOf_12 : decode cX8_endOf 12 = .ok (.aload_n 0, 1) := by decide +kernel
theorem dX8_endOf_13 : decode cX8_endOf 13 = .ok (.getfield 18, 3) := by decide +kernel
theorem dX8_endOf_16 : decode cX8_endOf 16 = .ok (.arraylength, 1) := by decide +kernel
theorem dX8_endOf_17 : decode cX8_endOf 17 = .ok (.if_icmp .lt 5, 3) := by decide +kernel
theorem dX8_endOf_20 : decode cX8_endOf 20 = .ok (.iconst 0, 1) := by decide +kernel
theorem dX8_endOf_21 : decode cX8_endOf 21 = .ok (.ireturn, 1) := by decide +kernel
theorem dX8_endOf_22 : decode cX8_endOf 22 = .ok (.aload_n 0, 1) := by decide +kernel
theorem dX8_endOf_23 : decode cX8_endOf 23 = .ok (.getfield 18, 3) := by decide +kernel
theorem dX8_endOf_26 : decode cX8_endOf 26 = .ok (.iload_n 3, 1) := by decide +kernel
theorem dX8_endOf_27 : decode cX8_endOf 27 = .ok (.iaload, 1) := by decide +kernel
theorem dX8_endOf_28 : decode cX8_endOf 28 = .ok (.ldc 26, 2) := by decide +kernel
theorem dX8_endOf_30 : decode cX8_endOf 30 = .ok (.if_icmp .ne 81, 3) := by decide +kernel
theorem dX8_endOf_33 : decode cX8_endOf 33 = .ok (.aload_n 0, 1) := by decide +kernel
theorem dX8_endOf_34 : decode cX8_endOf 34 = .ok (.getfield 22, 3) := by decide +kernel
theorem dX8_endOf_37 : decode cX8_endOf 37 = .ok (.iconst 0, 1) := by decide +kernel
theorem dX8_endOf_38 : decode cX8_endOf 38 = .ok (.invokevirtual 46, 3) := by decide +kernel
theorem dX8_endOf_41 : decode cX8_endOf 41 = .ok (.aload_n 0, 1) := by decide +kernel
theorem dX8_endOf_42 : decode cX8_endOf 42 = .ok (.getfield 22, 3) := by decide +kernel
theorem dX8_endOf_45 : decode cX8_endOf 45 = .ok (.getfield 52, 3) := by decide +kernel
theorem dX8_endOf_48 : decode cX8_endOf 48 = .ok (.getfield 56, 3) := by decide +kernel
theorem dX8_endOf_51 : decode cX8_endOf 51 = .ok (.aload_n 0, 1) := by decide +kernel
theorem dX8_endOf_52 : decode cX8_endOf 52 = .ok (.getfield 9, 3) := by decide +kernel
theorem dX8_endOf_55 : decode cX8_endOf 55 = .ok (.iload_n 1, 1) := by decide +kernel
theorem dX8_endOf_56 : decode cX8_endOf 56 = .ok (.iastore, 1) := by decide +kernel
theorem dX8_endOf_57 : decode cX8_endOf 57 = .ok (.aload_n 0, 1) := by decide +kernel
theorem dX8_endOf_58 : decode cX8_endOf 58 = .ok (.getfield 22, 3) := by decide +kernel
theorem dX8_endOf_61 : decode cX8_endOf 61 = .ok (.getfield 52, 3) := by decide +kernel
theorem dX8_endOf_64 : decode cX8_endOf 64 = .ok (.getfield 56, 3) := by decide +kernel
theorem dX8_endOf_67 : decode cX8_endOf 67 = .ok (.aload_n 0, 1) := by decide +kernel
theorem dX8_endOf_68 : decode cX8_endOf 68 = .ok (.getfield 15, 3) := by decide +kernel
theorem dX8_endOf_71 : decode cX8_endOf 71 = .ok (.iload_n 2, 1) := by decide +kernel
theorem dX8_endOf_72 : decode cX8_endOf 72 = .ok (.iastore, 1) := by decide +kernel
theorem dX8_endOf_73 : decode cX8_endOf 73 = .ok (.aload_n 0, 1) := by decide +kernel
theorem dX8_endOf_74 : decode cX8_endOf 74 = .ok (.getfield 22, 3) := by decide +kernel
theorem dX8_endOf_77 : decode cX8_endOf 77 = .ok (.bipush 9, 2) := by decide +kernel
theorem dX8_endOf_79 : decode cX8_endOf 79 = .ok (.invokevirtual 61, 3) := by decide +kernel
theorem dX8_endOf_82 : decode cX8_endOf 82 = .ok (.aload_n 0, 1) := by decide +kernel
theorem dX8_endOf_83 : decode cX8_endOf 83 = .ok (.getfield 18, 3) := by decide +kernel
theorem dX8_endOf_86 : decode cX8_endOf 86 = .ok (.iload_n 3, 1) := by decide +kernel
theorem dX8_endOf_87 : decode cX8_endOf 87 = .ok (.aload_n 0, 1) := by decide +kernel
theorem dX8_endOf_88 : decode cX8_endOf 88 = .ok (.getfield 22, 3) := by decide +kernel
theorem dX8_endOf_91 : decode cX8_endOf 91 = .ok (.aload_n 0, 1) := by decide +kernel
theorem dX8_endOf_92 : decode cX8_endOf 92 = .ok (.getfield 15, 3) := by decide +kernel
theorem dX8_endOf_95 : decode cX8_endOf 95 = .ok (.invokevirtual 64, 3) := by decide +kernel
theorem dX8_endOf_98 : decode cX8_endOf 98 = .ok (.aload_n 0, 1) := by decide +kernel
theorem dX8_endOf_99 : decode cX8_endOf 99 = .ok (.getfield 22, 3) := by decide +kernel
theorem dX8_endOf_102 : decode cX8_endOf 102 = .ok (.aload_n 0, 1) := by decide +kernel
theorem dX8_endOf_103 : decode cX8_endOf 103 = .ok (.getfield 9, 3) := by decide +kernel
theorem dX8_endOf_106 : decode cX8_endOf 106 = .ok (.invokevirtual 64, 3) := by decide +kernel
theorem dX8_endOf_109 : decode cX8_endOf 109 = .ok (.isub, 1) := by decide +kernel
theorem dX8_endOf_110 : decode cX8_endOf 110 = .ok (.iastore, 1) := by decide +kernel
theorem dX8_endOf_111 : decode cX8_endOf 111 = .ok (.aload_n 0, 1) := by decide +kernel
theorem dX8_endOf_112 : decode cX8_endOf 112 = .ok (.getfield 18, 3) := by decide +kernel
theorem dX8_endOf_115 : decode cX8_endOf 115 = .ok (.iload_n 3, 1) := by decide +kernel
theorem dX8_endOf_116 : decode cX8_endOf 116 = .ok (.iaload, 1) := by decide +kernel
theorem dX8_endOf_117 : decode cX8_endOf 117 = .ok (.ireturn, 1) := by decide +kernel
theorem dX9_init_0 : decode cX9_init 0 = .ok (.aload_n 0, 1) := by decide +kernel
theorem dX9_init_1 : decode cX9_init 1 = .ok (.invokespecial 1, 3) := by decide +kernel
theorem dX9_init_4 : decode cX9_init 4 = .ok (.aload_n 0, 1) := by decide +kernel
theorem dX9_init_5 : decode cX9_init 5 = .ok (.new 7, 3) := by decide +kernel
theorem dX9_init_8 : decode cX9_init 8 = .ok (.dup, 1) := by decide +kernel
theorem dX9_init_9 : decode cX9_init 9 = .ok (.invokespecial 9, 3) := by decide +kernel
theorem dX9_init_12 : decode cX9_init 12 = .ok (.putfield 10, 3) := by decide +kernel
theorem dX9_init_15 : decode cX9_init 15 = .ok (.aload_n 0, 1) := by decide +kernel
theorem dX9_init_16 : decode cX9_init 16 = .ok (.bipush 120, 2) := by decide +kernel
theorem dX9_init_18 : decode cX9_init 18 = .ok (.newarray .int, 2) := by decide +kernel
theorem dX9_init_20 : decode cX9_init 20 = .ok (.putfield 16, 3) := by decide +kernel
theorem dX9_init_23 : decode cX9_init 23 = .ok (.aload_n 0, 1) := by decide +kernel
theorem dX9_init_24 : decode cX9_init 24 = .ok (.iconst 0, 1) := by decide +kernel
theorem dX9_init_25 : decode cX9_init 25 = .ok (.putfield 20, 3) := by decide +kernel
theorem dX9_init_28 : decode cX9_init 28 = .ok (.aload_n 0, 1) := by decide +kernel
theorem dX9_init_29 : decode cX9_init 29 = .ok (.new 24, 3) := by decide +kernel
theorem dX9_init_32 : decode cX9_init 32 = .ok (.dup, 1) := by decide +kernel
theorem dX9_init_33 : decode cX9_init 33 = .ok (.invokespecial 26, 3) := by decide +kernel
theorem dX9_init_36 : decode cX9_init 36 = .ok (.putfield 27, 3) := by decide +kernel
theorem dX9_init_39 : decode cX9_init 39 = .ok (.aload_n 0, 1) := by decide +kernel
theorem dX9_init_40 : decode cX9_init 40 = .ok (.new 31, 3) := by decide +kernel
theorem dX9_init_43 : decode cX9_init 43 = .ok (.dup, 1) := by decide +kernel
theorem dX9_init_44 : decode cX9_init 44 = .ok (.invokespecial 33, 3) := by decide +kernel
theorem dX9_init_47 : decode cX9_init 47 = .ok (.putfield 34, 3) := by decide +kernel
theorem dX9_init_50 : decode cX9_init 50 = .ok (.aload_n 0, 1) := by decide +kernel
theorem dX9_init_51 : decode cX9_init 51 = .ok (.new 38, 3) := by decide +kernel
theorem dX9_init_54 : decode cX9_init 54 = .ok (.dup, 1) := by decide +kernel
theorem dX9_init_55 : decode cX9_init 55 = .ok (.aload_n 0, 1) := by decide +kernel
theorem dX9_init_56 : decode cX9_init 56 = .ok (.getfield 10, 3) := by decide +kernel
theorem dX9_init_59 : decode cX9_init 59 = .ok (.aload_n 0, 1) := by decide +kernel
theorem dX9_init_60 : decode cX9_init 60 = .ok (.getfield 34, 3) := by decide +kernel
theorem dX9_init_63 : decode cX9_init 63 = .ok (.invokespecial 40, 3) := by decide +kernel
theorem dX9_init_66 : decode cX9_init 66 = .ok (.putfield 43, 3) := by decide +kernel
theorem dX9_init_69 : decode cX9_init 69 = .ok (.aload_n 0, 1) := by decide +kernel
theorem dX9_init_70 : decode cX9_init 70 = .ok (.new 47, 3) := by decide +kernel
theorem dX9_init_73 : decode cX9_init 73 = .ok (.dup, 1) := by decide +kernel
theorem dX9_init_74 : decode cX9_init 74 = .ok (.aload_n 0, 1) := by decide +kernel
theorem dX9_init_75 : decode cX9_init 75 = .ok (.getfield 43, 3) := by decide +kernel
theorem dX9_init_78 : decode cX9_init 78 = .ok (.invokespecial 49, 3) := by decide +kernel
theorem dX9_init_81 : decode cX9_init 81 = .ok (.putfield 52, 3) := by decide +kernel
theorem dX9_init_84 : decode cX9_init 84 = .ok (.aload_n 0, 1) := by decide +kernel
theorem dX9_init_85 : decode cX9_init 85 = .ok (.iconst 5, 1) := by decide +kernel
theorem dX9_init_86 : decode cX9_init 86 = .ok (.newarray .int, 2) := by decide +kernel
theorem dX9_init_88 : decode cX9_init 88 = .ok (.putfield 56, 3) := by decide +kernel
theorem dX9_init_91 : decode cX9_init 91 = .ok (.aload_n 0, 1) := by decide +kernel
theorem dX9_init_92 : decode cX9_init 92 = .ok (.new 59, 3) := by decide +kernel
theorem dX9_init_95 : decode cX9_init 95 = .ok (.dup, 1) := by decide +kernel
theorem dX9_init_96 : decode cX9_init 96 = .ok (.invokespecial 61, 3) := by decide +kernel
theorem dX9_init_99 : decode cX9_init 99 = .ok (.putfield 62, 3) := by decide +kernel
theorem dX9_init_102 : decode cX9_init 102 = .ok (.aload_n 0, 1) := by decide +kernel
theorem dX9_init_103 : decode cX9_init 103 = .ok (.new 66, 3) := by decide +kernel
theorem dX9_init_106 : decode cX9_init 106 = .ok (.dup, 1) := by decide +kernel
theorem dX9_init_107 : decode cX9_init 107 = .ok (.invokespecial 68, 3) := by decide +kernel
theorem dX9_init_110 : decode cX9_init 110 = .ok (.putfield 69, 3) := by decide +kernel
theorem dX9_init_113 : decode cX9_init 113 = .ok (.aload_n 0, 1) := by decide +kernel
theorem dX9_init_114 : decode cX9_init 114 = .ok (.new 73, 3) := by decide +kernel
theorem dX9_init_117 : decode cX9_init 117 = .ok (.dup, 1) := by decide +kernel
theorem dX9_init_118 : decode cX9_init 118 = .ok (.invokespecial 75, 3) := by decide +kernel
theorem dX9_init_121 : decode cX9_init 121 = .ok (.putfield 76, 3) := by decide +kernel
theorem dX9_init_124 : decode cX9_init 124 = .ok (.aload_n 0, 1) := by decide +kernel
theorem dX9_init_125 : decode cX9_init 125 = .ok (.bipush 6, 2) := by decide +kernel
theorem dX9_init_127 : decode cX9_init 127 = .ok (.anewarray 80, 3) := by decide +kernel
theorem dX9_init_130 : decode cX9_init 130 = .ok (.putfield 82, 3) := by decide +kernel
theorem dX9_init_133 : decode cX9_init 133 = .ok (.iconst 0, 1) := by decide +kernel
theorem dX9_init_134 : decode cX9_init 134 = .ok (.istore_n 1, 1) := by decide +kernel
theorem dX9_init_135 : decode cX9_init 135 = .ok (.iload_n 1, 1) := by decide +kernel
theorem dX9_init_136 : decode cX9_init 136 = .ok (.bipush 6, 2) := by decide +kernel
theorem dX9_init_138 : decode cX9_init 138 = .ok (.if_icmp .ge 22, 3) := by decide +kernel
theorem dX9_init_141 : decode cX9_init 141 = .ok (.aload_n 0, 1) := by decide +kernel
theorem dX9_init_142 : decode cX9_init 142 = .ok (.getfield 82, 3) := by decide +kernel
theorem dX9_init_145 : decode cX9_init 145 = .ok (.iload_n 1, 1) := by decide +kernel
theorem dX9_init_146 : decode cX9_init 146 = .ok (.new 80, 3) := by decide +kernel
theorem dX9_init_149 : decode cX9_init 149 = .ok (.dup, 1) := by decide +kernel
theorem dX9_init_150 : decode cX9_init 150 = .ok (.invokespecial 86, 3) := by decide +kernel
theorem dX9_init_153 : decode cX9_init 153 = .ok (.aastore, 1) := by decide +kernel
theorem dX9_init_154 : decode cX9_init 154 = .ok (.iinc 1 1, 3) := by decide +kernel
theorem dX9_init_157 : decode cX9_init 157 = .ok (.goto (-22), 3) := by decide +kernel
theorem dX9_init_160 : decode cX9_init 160 = .ok (.return_, 1) := by decide +kernel
theorem dX9_guest_0 : decode cX9_guest 0 = .ok (.iload_n 1, 1) := by decide +kernel
theorem dX9_guest_1 : decode cX9_guest 1 = .ok (.iconst 3, 1) := by decide +kernel
theorem dX9_guest_2 : decode cX9_guest 2 = .ok (.invokestatic 87, 3) := by decide +kernel
theorem dX9_guest_5 : decode cX9_guest 5 = .ok (.ifCond .eq 11, 3) := by decide +kernel
theorem dX9_guest_8 : decode cX9_guest 8 = .ok (.iload_n 2, 1) := by decide +kernel
theorem dX9_guest_9 : decode cX9_guest 9 = .ok (.iconst 4, 1) := by decide +kernel
theorem dX9_guest_10 : decode cX9_guest 10 = .ok (.invokestatic 87, 3) := by decide +kernel
theorem dX9_guest_13 : decode cX9_guest 13 = .ok (.ifCond .ne 5, 3) := by decide +kernel
theorem dX9_guest_16 : decode cX9_guest 16 = .ok (.iconst (-1), 1) := by decide +kernel
theorem dX9_guest_17 : decode cX9_guest 17 = .ok (.ireturn, 1) := by decide +kernel
theorem dX9_guest_18 : decode cX9_guest 18 = .ok (.aload_n 0, 1) := by decide +kernel
theorem dX9_guest_19 : decode cX9_guest 19 = .ok (.getfield 10, 3) := by decide +kernel
theorem dX9_guest_22 : decode cX9_guest 22 = .ok (.getfield 91, 3) := by decide +kernel
theorem dX9_guest_25 : decode cX9_guest 25 = .ok (.bipush 9, 2) := by decide +kernel
theorem dX9_guest_27 : decode cX9_guest 27 = .ok (.if_icmp .lt 6, 3) := by decide +kernel
theorem dX9_guest_30 : decode cX9_guest 30 = .ok (.bipush (-3), 2) := by decide +kernel
theorem dX9_guest_32 : decode cX9_guest 32 = .ok (.ireturn, 1) := by decide +kernel
theorem dX9_guest_33 : decode cX9_guest 33 = .ok (.aload_n 0, 1) := by decide +kernel
theorem dX9_guest_34 : decode cX9_guest 34 = .ok (.getfield 10, 3) := by decide +kernel
theorem dX9_guest_37 : decode cX9_guest 37 = .ok (.iload_n 1, 1) := by decide +kernel
theorem dX9_guest_38 : decode cX9_guest 38 = .ok (.iload_n 2, 1) := by decide +kernel
theorem dX9_guest_39 : decode cX9_guest 39 = .ok (.invokevirtual 94, 3) := by decide +kernel
theorem dX9_guest_42 : decode cX9_guest 42 = .ok (.ireturn, 1) := by decide +kernel
theorem dX9_guests_0 : decode cX9_guests 0 = .ok (.iload_n 1, 1) := by decide +kernel
theorem dX9_guests_1 : decode cX9_guests 1 = .ok (.invokestatic 98, 3) := by decide +kernel
theorem dX9_guests_4 : decode cX9_guests 4 = .ok (.ifCond .eq 14, 3) := by decide +kernel
theorem dX9_guests_7 : decode cX9_guests 7 = .ok (.iload_n 3, 1) := by decide +kernel
theorem dX9_guests_8 : decode cX9_guests 8 = .ok (.iconst 1, 1) := by decide +kernel
theorem dX9_guests_9 : decode cX9_guests 9 = .ok (.if_icmp .lt 9, 3) := by decide +kernel
theorem dX9_guests_12 : decode cX9_guests 12 = .ok (.iload_n 3, 1) := by decide +kernel
theorem dX9_guests_13 : decode cX9_guests 13 = .ok (.bipush 9, 2) := by decide +kernel
theorem dX9_guests_15 : decode cX9_guests 15 = .ok (.if_icmp .le 5, 3) := by decide +kernel
theorem dX9_guests_18 : decode cX9_guests 18 = .ok (.iconst (-1), 1) := by decide +kernel
theorem dX9_guests_19 : decode cX9_guests 19 = .ok (.ireturn, 1) := by decide +kernel
theorem dX9_guests_20 : decode cX9_guests 20 = .ok (.aload_n 0, 1) := by decide +kernel
theorem dX9_guests_21 : decode cX9_guests 21 = .ok (.getfield 82, 3) := by decide +kernel
theorem dX9_guests_24 : decode cX9_guests 24 = .ok (.iload_n 1, 1) := by decide +kernel
theorem dX9_guests_25 : decode cX9_guests 25 = .ok (.aaload, 1) := by decide +kernel
theorem dX9_guests_26 : decode cX9_guests 26 = .ok (.astore 4, 2) := by decide +kernel
theorem dX9_guests_28 : decode cX9_guests 28 = .ok (.aload 4, 2) := by decide +kernel
theorem dX9_guests_30 : decode cX9_guests 30 = .ok (.getfield 102, 3) := by decide +kernel
theorem dX9_guests_33 : decode cX9_guests 33 = .ok (.ifCond .ne 5, 3) := by decide +kernel
theorem dX9_guests_36 : decode cX9_guests 36 = .ok (.iconst 0, 1) := by decide +kernel
theorem dX9_guests_37 : decode cX9_guests 37 = .ok (.ireturn, 1) := by decide +kernel
theorem dX9_guests_38 : decode cX9_guests 38 = .ok (.aload 4, 2) := by decide +kernel
theorem dX9_guests_40 : decode cX9_guests 40 = .ok (.iconst 0, 1) := by decide +kernel
theorem dX9_guests_41 : decode cX9_guests 41 = .ok (.invokevirtual 105, 3) := by decide +kernel
theorem dX9_guests_44 : decode cX9_guests 44 = .ok (.ifCond .ne 6, 3) := by decide +kernel
theorem dX9_guests_47 : decode cX9_guests 47 = .ok (.bipush (-12), 2) := by decide +kernel
theorem dX9_guests_49 : decode cX9_guests 49 = .ok (.ireturn, 1) := by decide +kernel
theorem dX9_guests_50 : decode cX9_guests 50 = .ok (.iconst 0, 1) := by decide +kernel
theorem dX9_guests_51 : decode cX9_guests 51 = .ok (.istore 5, 2) := by decide +kernel
theorem dX9_guests_53 : decode cX9_guests 53 = .ok (.iconst 0, 1) := by decide +kernel
theorem dX9_guests_54 : decode cX9_guests 54 = .ok (.istore 6, 2) := by decide +kernel
theorem dX9_guests_56 : decode cX9_guests 56 = .ok (.iload 6, 2) := by decide +kernel
theorem dX9_guests_58 : decode cX9_guests 58 = .ok (.iload_n 3, 1) := by decide +kernel
theorem dX9_guests_59 : decode cX9_guests 59 = .ok (.if_icmp .ge 31, 3) := by decide +kernel
theorem dX9_guests_62 : decode cX9_guests 62 = .ok (.aload_n 0, 1) := by decide +kernel
theorem dX9_guests_63 : decode cX9_guests 63 = .ok (.aload 4, 2) := by decide +kernel
theorem dX9_guests_65 : decode cX9_guests 65 = .ok (.iload_n 2, 1) := by decide +kernel
theorem dX9_guests_66 : decode cX9_guests 66 = .ok (.i2l, 1) := by decide +kernel
theorem dX9_guests_67 : decode cX9_guests 67 = .ok (.ldc2_w 108, 3) := by decide +kernel
theorem dX9_guests_70 : decode cX9_guests 70 = .ok (.iload 6, 2) := by decide +kernel
theorem dX9_guests_72 : decode cX9_guests 72 = .ok (.i2l, 1) := by decide +kernel
theorem dX9_guests_73 : decode cX9_guests 73 = .ok (.lmul, 1) := by decide +kernel
theorem dX9_guests_74 : decode cX9_guests 74 = .ok (.ladd, 1) := by decide +kernel
theorem dX9_guests_75 : decode cX9_guests 75 = .ok (.invokevirtual 110, 3) := by decide +kernel
theorem dX9_guests_78 : decode cX9_guests 78 = .ok (.ifCond .eq 12, 3) := by decide +kernel
theorem dX9_guests_81 : decode cX9_guests 81 = .ok (.iinc 5 1, 3) := by decide +kernel
theorem dX9_guests_84 : decode cX9_guests 84 = .ok (.iinc 6 1, 3) := by decide +kernel
theorem dX9_guests_87 : decode cX9_guests 87 = .ok (.goto (-31), 3) := by decide +kernel
theorem dX9_guests_90 : decode cX9_guests 90 = .ok (.iload 5, 2) := by decide +kernel
theorem dX9_guests_92 : decode cX9_guests 92 = .ok (.ireturn, 1) := by decide +kernel
theorem dX9_slip_0 : decode cX9_slip 0 = .ok (.aload_n 0, 1) := by decide +kernel
theorem dX9_slip_1 : decode cX9_slip 1 = .ok (.getfield 10, 3) := by decide +kernel
theorem dX9_slip_4 : decode cX9_slip 4 = .ok (.iload_n 1, 1) := by decide +kernel
theorem dX9_slip_5 : decode cX9_slip 5 = .ok (.invokevirtual 114, 3) := by decide +kernel
theorem dX9_slip_8 : decode cX9_slip 8 = .ok (.ifCond .eq 21, 3) := by decide +kernel
theorem dX9_slip_11 : decode cX9_slip 11 = .ok (.iload_n 2, 1) := by decide +kernel
theorem dX9_slip_12 : decode cX9_slip 12 = .ok (.bipush 6, 2) := by decide +kernel
theorem dX9_slip_14 : decode cX9_slip 14 = .ok (.invokestatic 87, 3) := by decide +kernel
theorem dX9_slip_17 : decode cX9_slip 17 = .ok (.ifCond .eq 12, 3) := by decide +kernel
theorem dX9_slip_20 : decode cX9_slip 20 = .ok (.iload_n 3, 1) := by decide +kernel
theorem dX9_slip_21 : decode cX9_slip 21 = .ok (.bipush 7, 2) := by decide +kernel
theorem dX9_slip_23 : decode cX9_slip 23 = .ok (.invokestatic 87, 3) := by decide +kernel
theorem dX9_slip_26 : decode cX9_slip 26 = .ok (.ifCond .ne 5, 3) := by decide +kernel
theorem dX9_slip_29 : decode cX9_slip 29 = .ok (.iconst (-1), 1) := by decide +kernel
theorem dX9_slip_30 : decode cX9_slip 30 = .ok (.ireturn, 1) := by decide +kernel
theorem dX9_slip_31 : decode cX9_slip 31 = .ok (.aload_n 0, 1) := by decide +kernel
theorem dX9_slip_32 : decode cX9_slip 32 = .ok (.getfield 10, 3) := by decide +kernel
theorem dX9_slip_35 : decode cX9_slip 35 = .ok (.getfield 117, 3) := by decide +kernel
theorem dX9_slip_38 : decode cX9_slip 38 = .ok (.bipush 12, 2) := by decide +kernel
theorem dX9_slip_40 : decode cX9_slip 40 = .ok (.if_icmp .lt 6, 3) := by decide +kernel
theorem dX9_slip_43 : decode cX9_slip 43 = .ok (.bipush (-3), 2) := by decide +kernel
theorem dX9_slip_45 : decode cX9_slip 45 = .ok (.ireturn, 1) := by decide +kernel
theorem dX9_slip_46 : decode cX9_slip 46 = .ok (.aload_n 0, 1) := by decide +kernel
theorem dX9_slip_47 : decode cX9_slip 47 = .ok (.getfield 10, 3) := by decide +kernel
theorem dX9_slip_50 : decode cX9_slip 50 = .ok (.iload_n 1, 1) := by decide +kernel
theorem dX9_slip_51 : decode cX9_slip 51 = .ok (.iload_n 2, 1) := by decide +kernel
theorem dX9_slip_52 : decode cX9_slip 52 = .ok (.iload_n 3, 1) := by decide +kernel
theorem dX9_slip_53 : decode cX9_slip 53 = .ok (.invokevirtual 120, 3) := by decide +kernel
theorem dX9_slip_56 : decode cX9_slip 56 = .ok (.ireturn, 1) := by decide +kernel
theorem dX9_mend_0 : decode cX9_mend 0 = .ok (.iload_n 2, 1) := by decide +kernel
theorem dX9_mend_1 : decode cX9_mend 1 = .ok (.bipush 8, 2) := by decide +kernel
theorem dX9_mend_3 : decode cX9_mend 3 = .ok (.if_icmp .gt 23, 3) := by decide +kernel
theorem dX9_mend_6 : decode cX9_mend 6 = .ok (.aload_n 0, 1) := by decide +kernel
theorem dX9_mend_7 : decode cX9_mend 7 = .ok (.getfield 10, 3) := by decide +kernel
theorem dX9_mend_10 : decode cX9_mend 10 = .ok (.iload_n 1, 1) := by decide +kernel
theorem dX9_mend_11 : decode cX9_mend 11 = .ok (.iload_n 2, 1) := by decide +kernel
theorem dX9_mend_12 : decode cX9_mend 12 = .ok (.invokevirtual 124, 3) := by decide +kernel
theorem dX9_mend_15 : decode cX9_mend 15 = .ok (.ifCond .eq 11, 3) := by decide +kernel
theorem dX9_mend_18 : decode cX9_mend 18 = .ok (.iload_n 3, 1) := by decide +kernel
theorem dX9_mend_19 : decode cX9_mend 19 = .ok (.iload_n 2, 1) := by decide +kernel
theorem dX9_mend_20 : decode cX9_mend 20 = .ok (.invokestatic 87, 3) := by decide +kernel
theorem dX9_mend_23 : decode cX9_mend 23 = .ok (.ifCond .ne 5, 3) := by decide +kernel
theorem dX9_mend_26 : decode cX9_mend 26 = .ok (.iconst (-1), 1) := by decide +kernel
theorem dX9_mend_27 : decode cX9_mend 27 = .ok (.ireturn, 1) := by decide +kernel
theorem dX9_mend_28 : decode cX9_mend 28 = .ok (.aload_n 0, 1) := by decide +kernel
theorem dX9_mend_29 : decode cX9_mend 29 = .ok (.getfield 10, 3) := by decide +kernel
theorem dX9_mend_32 : decode cX9_mend 32 = .ok (.iload_n 1, 1) := by decide +kernel
theorem dX9_mend_33 : decode cX9_mend 33 = .ok (.iload_n 2, 1) := by decide +kernel
theorem dX9_mend_34 : decode cX9_mend 34 = .ok (.invokevirtual 127, 3) := by decide +kernel
theorem dX9_mend_37 : decode cX9_mend 37 = .ok (.istore 4, 2) := by decide +kernel
theorem dX9_mend_39 : decode cX9_mend 39 = .ok (.iload 4, 2) := by decide +kernel
theorem dX9_mend_41 : decode cX9_mend 41 = .ok (.iload_n 3, 1) := by decide +kernel
theorem dX9_mend_42 : decode cX9_mend 42 = .ok (.if_icmp .eq 25, 3) := by decide +kernel
theorem dX9_mend_45 : decode cX9_mend 45 = .ok (.aload_n 0, 1) := by decide +kernel
theorem dX9_mend_46 : decode cX9_mend 46 = .ok (.getfield 10, 3) := by decide +kernel
theorem dX9_mend_49 : decode cX9_mend 49 = .ok (.iload_n 1, 1) := by decide +kernel
theorem dX9_mend_50 : decode cX9_mend 50 = .ok (.iload_n 2, 1) := by decide +kernel
theorem dX9_mend_51 : decode cX9_mend 51 = .ok (.iload_n 3, 1) := by decide +kernel
theorem dX9_mend_52 : decode cX9_mend 52 = .ok (.invokevirtual 130, 3) := by decide +kernel
theorem dX9_mend_55 : decode cX9_mend 55 = .ok (.aload_n 0, 1) := by decide +kernel
theorem dX9_mend_56 : decode cX9_mend 56 = .ok (.getfield 69, 3) := by decide +kernel
theorem dX9_mend_59 : decode cX9_mend 59 = .ok (.iload_n 1, 1) := by decide +kernel
theorem dX9_mend_60 : decode cX9_mend 60 = .ok (.iload_n 2, 1) := by decide +kernel
theorem dX9_mend_61 : decode cX9_mend 61 = .ok (.iload 4, 2) := by decide +kernel
theorem dX9_mend_63 : decode cX9_mend 63 = .ok (.iload_n 3, 1) := by decide +kernel
theorem dX9_mend_64 : decode cX9_mend 64 = .ok (.invokevirtual 134, 3) := by decide +kernel
theorem dX9_mend_67 : decode cX9_mend 67 = .ok (.iload 4, 2) := by decide +kernel
theorem dX9_mend_69 : decode cX9_mend 69 = .ok (.ireturn, 1) := by decide +kernel
theorem dX9_of_0 : decode cX9_of 0 = .ok (.aload_n 0, 1) := by decide +kernel
theorem dX9_of_1 : decode cX9_of 1 = .ok (.getfield 10, 3) := by decide +kernel
theorem dX9_of_4 : decode cX9_of 4 = .ok (.iload_n 1, 1) := by decide +kernel
theorem dX9_of_5 : decode cX9_of 5 = .ok (.iload_n 2, 1) := by decide +kernel
theorem dX9_of_6 : decode cX9_of 6 = .ok (.invokevirtual 124, 3) := by decide +kernel
theorem dX9_of_9 : decode cX9_of 9 = .ok (.ifCond .eq 15, 3) := by decide +kernel
theorem dX9_of_12 : decode cX9_of 12 = .ok (.aload_n 0, 1) := by decide +kernel
theorem dX9_of_13 : decode cX9_of 13 = .ok (.getfield 10, 3) := by decide +kernel
theorem dX9_of_16 : decode cX9_of 16 = .ok (.iload_n 1, 1) := by decide +kernel
theorem dX9_of_17 : decode cX9_of 17 = .ok (.iload_n 2, 1) := by decide +kernel
theorem dX9_of_18 : decode cX9_of 18 = .ok (.invokevirtual 127, 3) := by decide +kernel
theorem dX9_of_21 : decode cX9_of 21 = .ok (.goto 4, 3) := by decide +kernel
theorem dX9_of_24 : decode cX9_of 24 = .ok (.iconst (-1), 1) := by decide +kernel
theorem dX9_of_25 : decode cX9_of 25 = .ok (.ireturn, 1) := by decide +kernel
theorem dX9_feed_0 : decode cX9_feed 0 = .ok (.iload_n 1, 1) := by decide +kernel
theorem dX9_feed_1 : decode cX9_feed 1 = .ok (.ifCond .lt 10, 3) := by decide +kernel
theorem dX9_feed_4 : decode cX9_feed 4 = .ok (.iload_n 1, 1) := by decide +kernel
theorem dX9_feed_5 : decode cX9_feed 5 = .ok (.sipush 255, 3) := by decide +kernel
theorem dX9_feed_8 : decode cX9_feed 8 = .ok (.if_icmp .le 5, 3) := by decide +kernel
theorem dX9_feed_11 : decode cX9_feed 11 = .ok (.iconst (-1), 1) := by decide +kernel
theorem dX9_feed_12 : decode cX9_feed 12 = .ok (.ireturn, 1) := by decide +kernel
theorem dX9_feed_13 : decode cX9_feed 13 = .ok (.aload_n 0, 1) := by decide +kernel
theorem dX9_feed_14 : decode cX9_feed 14 = .ok (.getfield 20, 3) := by decide +kernel
theorem dX9_feed_17 : decode cX9_feed 17 = .ok (.bipush 120, 2) := by decide +kernel
theorem dX9_feed_19 : decode cX9_feed 19 = .ok (.if_icmp .lt 6, 3) := by decide +kernel
theorem dX9_feed_22 : decode cX9_feed 22 = .ok (.bipush (-3), 2) := by decide +kernel
theorem dX9_feed_24 : decode cX9_feed 24 = .ok (.ireturn, 1) := by decide +kernel
theorem dX9_feed_25 : decode cX9_feed 25 = .ok (.aload_n 0, 1) := by decide +kernel
theorem dX9_feed_26 : decode cX9_feed 26 = .ok (.getfield 16, 3) := by decide +kernel
theorem dX9_feed_29 : decode cX9_feed 29 = .ok (.aload_n 0, 1) := by decide +kernel
theorem dX9_feed_30 : decode cX9_feed 30 = .ok (.getfield 20, 3) := by decide +kernel
theorem dX9_feed_33 : decode cX9_feed 33 = .ok (.iload_n 1, 1) := by decide +kernel
theorem dX9_feed_34 : decode cX9_feed 34 = .ok (.iastore, 1) := by decide +kernel
theorem dX9_feed_35 : decode cX9_feed 35 = .ok (.aload_n 0, 1) := by decide +kernel
theorem dX9_feed_36 : decode cX9_feed 36 = .ok (.dup, 1) := by decide +kernel
theorem dX9_feed_37 : decode cX9_feed 37 = .ok (.getfield 20, 3) := by decide +kernel
theorem dX9_feed_40 : decode cX9_feed 40 = .ok (.iconst 1, 1) := by decide +kernel
theorem dX9_feed_41 : decode cX9_feed 41 = .ok (.iadd, 1) := by decide +kernel
theorem dX9_feed_42 : decode cX9_feed 42 = .ok (.putfield 20, 3) := by decide +kernel
theorem dX9_feed_45 : decode cX9_feed 45 = .ok (.aload_n 0, 1) := by decide +kernel
theorem dX9_feed_46 : decode cX9_feed 46 = .ok (.getfield 20, 3) := by decide +kernel
theorem dX9_feed_49 : decode cX9_feed 49 = .ok (.ireturn, 1) := by decide +kernel
theorem dX9_law_0 : decode cX9_law 0 = .ok (.aload_n 0, 1) := by decide +kernel
theorem dX9_law_1 : decode cX9_law 1 = .ok (.getfield 27, 3) := by decide +kernel
theorem dX9_law_4 : decode cX9_law 4 = .ok (.aload_n 0, 1) := by decide +kernel
theorem dX9_law_5 : decode cX9_law 5 = .ok (.getfield 16, 3) := by decide +kernel
theorem dX9_law_8 : decode cX9_law 8 = .ok (.aload_n 0, 1) := by decide +kernel
theorem dX9_law_9 : decode cX9_law 9 = .ok (.getfield 20, 3) := by decide +kernel
theorem dX9_law_12 : decode cX9_law 12 = .ok (.invokevirtual 138, 3) := by decide +kernel
theorem dX9_law_15 : decode cX9_law 15 = .ok (.istore_n 1, 1) := by decide +kernel
theorem dX9_law_16 : decode cX9_law 16 = .ok (.aload_n 0, 1) := by decide +kernel
theorem dX9_law_17 : decode cX9_law 17 = .ok (.iconst 0, 1) := by decide +kernel
theorem dX9_law_18 : decode cX9_law 18 = .ok (.putfield 20, 3) := by decide +kernel
theorem dX9_law_21 : decode cX9_law 21 = .ok (.iload_n 1, 1) := by decide +kernel
theorem dX9_law_22 : decode cX9_law 22 = .ok (.ifCond .lt 8, 3) := by decide +kernel
theorem dX9_law_25 : decode cX9_law 25 = .ok (.bipush (-100), 2) := by decide +kernel
theorem dX9_law_27 : decode cX9_law 27 = .ok (.iload_n 1, 1) := by decide +kernel
theorem dX9_law_28 : decode cX9_law 28 = .ok (.isub, 1) := by decide +kernel
theorem dX9_law_29 : decode cX9_law 29 = .ok (.ireturn, 1) := by decide +kernel
theorem dX9_law_30 : decode cX9_law 30 = .ok (.aload_n 0, 1) := by decide +kernel
theorem dX9_law_31 : decode cX9_law 31 = .ok (.getfield 34, 3) := by decide +kernel
theorem dX9_law_34 : decode cX9_law 34 = .ok (.aload_n 0, 1) := by decide +kernel
theorem dX9_law_35 : decode cX9_law 35 = .ok (.getfield 27, 3) := by decide +kernel
theorem dX9_law_38 : decode cX9_law 38 = .ok (.invokevirtual 142, 3) := by decide +kernel
theorem dX9_law_41 : decode cX9_law 41 = .ok (.iconst 1, 1) := by decide +kernel
theorem dX9_law_42 : decode cX9_law 42 = .ok (.ireturn, 1) := by decide +kernel
theorem dX9_later_0 : decode cX9_later 0 = .ok (.iload_n 1, 1) := by decide +kernel
theorem dX9_later_1 : decode cX9_later 1 = .ok (.invokestatic 146, 3) := by decide +kernel
theorem dX9_later_4 : decode cX9_later 4 = .ok (.ifCond .eq 23, 3) := by decide +kernel
theorem dX9_later_7 : decode cX9_later 7 = .ok (.aload_n 0, 1) := by decide +kernel
theorem dX9_later_8 : decode cX9_later 8 = .ok (.getfield 10, 3) := by decide +kernel
theorem dX9_later_11 : decode cX9_later 11 = .ok (.iload_n 2, 1) := by decide +kernel
theorem dX9_later_12 : decode cX9_later 12 = .ok (.invokevirtual 114, 3) := by decide +kernel
theorem dX9_later_15 : decode cX9_later 15 = .ok (.ifCond .eq 12, 3) := by decide +kernel
theorem dX9_later_18 : decode cX9_later 18 = .ok (.iload_n 3, 1) := by decide +kernel
theorem dX9_later_19 : decode cX9_later 19 = .ok (.ifCond .lt 8, 3) := by decide +kernel
theorem dX9_later_22 : decode cX9_later 22 = .ok (.iload_n 3, 1) := by decide +kernel
theorem dX9_later_23 : decode cX9_later 23 = .ok (.iconst 2, 1) := by decide +kernel
theorem dX9_later_24 : decode cX9_later 24 = .ok (.if_icmp .le 5, 3) := by decide +kernel
theorem dX9_later_27 : decode cX9_later 27 = .ok (.iconst (-1), 1) := by decide +kernel
theorem dX9_later_28 : decode cX9_later 28 = .ok (.ireturn, 1) := by decide +kernel
theorem dX9_later_29 : decode cX9_later 29 = .ok (.aload_n 0, 1) := by decide +kernel
theorem dX9_later_30 : decode cX9_later 30 = .ok (.getfield 43, 3) := by decide +kernel
theorem dX9_later_33 : decode cX9_later 33 = .ok (.iload_n 1, 1) := by decide +kernel
theorem dX9_later_34 : decode cX9_later 34 = .ok (.invokevirtual 149, 3) := by decide +kernel
theorem dX9_later_37 : decode cX9_later 37 = .ok (.iload_n 3, 1) := by decide +kernel
theorem dX9_later_38 : decode cX9_later 38 = .ok (.ifCond .ne 19, 3) := by decide +kernel
theorem dX9_later_41 : decode cX9_later 41 = .ok (.aload_n 0, 1) := by decide +kernel
theorem dX9_later_42 : decode cX9_later 42 = .ok (.getfield 34, 3) := by decide +kernel
theorem dX9_later_45 : decode cX9_later 45 = .ok (.aload_n 0, 1) := by decide +kernel
theorem dX9_later_46 : decode cX9_later 46 = .ok (.getfield 43, 3) := by decide +kernel
theorem dX9_later_49 : decode cX9_later 49 = .ok (.getfield 153, 3) := by decide +kernel
theorem dX9_later_52 : decode cX9_later 52 = .ok (.iload_n 2, 1) := by decide +kernel
theorem dX9_later_53 : decode cX9_later 53 = .ok (.invokevirtual 154, 3) := by decide +kernel
theorem dX9_later_56 : decode cX9_later 56 = .ok (.ireturn, 1) := by decide +kernel
theorem dX9_later_57 : decode cX9_later 57 = .ok (.iload_n 3, 1) := by decide +kernel
theorem dX9_later_58 : decode cX9_later 58 = .ok (.iconst 1, 1) := by decide +kernel
theorem dX9_later_59 : decode cX9_later 59 = .ok (.if_icmp .ne 18, 3) := by decide +kernel
theorem dX9_later_62 : decode cX9_later 62 = .ok (.aload_n 0, 1) := by decide +kernel
theorem dX9_later_63 : decode cX9_later 63 = .ok (.getfield 43, 3) := by decide +kernel
theorem dX9_later_66 : decode cX9_later 66 = .ok (.getfield 153, 3) := by decide +kernel
theorem dX9_later_69 : decode cX9_later 69 = .ok (.getfield 158, 3) := by decide +kernel
theorem dX9_later_72 : decode cX9_later 72 = .ok (.iload_n 2, 1) := by decide +kernel
theorem dX9_later_73 : decode cX9_later 73 = .ok (.iaload, 1) := by decide +kernel
theorem dX9_later_74 : decode cX9_later 74 = .ok (.goto 18, 3) := by decide +kernel
theorem dX9_later_77 : decode cX9_later 77 = .ok (.aload_n 0, 1) := by decide +kernel
theorem dX9_later_78 : decode cX9_later 78 = .ok (.getfield 34, 3) := by decide +kernel
theorem dX9_later_81 : decode cX9_later 81 = .ok (.aload_n 0, 1) := by decide +kernel
theorem dX9_later_82 : decode cX9_later 82 = .ok (.getfield 43, 3) := by decide +kernel
theorem dX9_later_85 : decode cX9_later 85 = .ok (.getfield 153, 3) := by decide +kernel
theorem dX9_later_88 : decode cX9_later 88 = .ok (.iload_n 2, 1) := by decide +kernel
theorem dX9_later_89 : decode cX9_later 89 = .ok (.invokevirtual 161, 3) := by decide +kernel
theorem dX9_later_92 : decode cX9_later 92 = .ok (.ireturn, 1) := by decide +kernel
theorem dX9_first_0 : decode cX9_first 0 = .ok (.iload_n 1, 1) := by decide +kernel
theorem dX9_first_1 : decode cX9_first 1 = .ok (.invokestatic 146, 3) := by decide +kernel
theorem dX9_first_4 : decode cX9_first 4 = .ok (.ifCond .ne 5, 3) := by decide +kernel
theorem dX9_first_7 : decode cX9_first 7 = .ok (.iconst (-1), 1) := by decide +kernel
theorem dX9_first_8 : decode cX9_first 8 = .ok (.ireturn, 1) := by decide +kernel
theorem dX9_first_9 : decode cX9_first 9 = .ok (.aload_n 0, 1) := by decide +kernel
theorem dX9_first_10 : decode cX9_first 10 = .ok (.getfield 43, 3) := by decide +kernel
theorem dX9_first_13 : decode cX9_first 13 = .ok (.iload_n 1, 1) := by decide +kernel
theorem dX9_first_14 : decode cX9_first 14 = .ok (.invokevirtual 149, 3) := by decide +kernel
theorem dX9_first_17 : decode cX9_first 17 = .ok (.aload_n 0, 1) := by decide +kernel
theorem dX9_first_18 : decode cX9_first 18 = .ok (.getfield 34, 3) := by decide +kernel
theorem dX9_first_21 : decode cX9_first 21 = .ok (.aload_n 0, 1) := by decide +kernel
theorem dX9_first_22 : decode cX9_first 22 = .ok (.getfield 43, 3) := by decide +kernel
theorem dX9_first_25 : decode cX9_first 25 = .ok (.getfield 153, 3) := by decide +kernel
theorem dX9_first_28 : decode cX9_first 28 = .ok (.bipush 9, 2) := by decide +kernel
theorem dX9_first_30 : decode cX9_first 30 = .ok (.invokevirtual 164, 3) := by decide +kernel
theorem dX9_first_33 : decode cX9_first 33 = .ok (.ireturn, 1) := by decide +kernel
theorem dX9_peak_0 : decode cX9_peak 0 = .ok (.aload_n 0, 1) := by decide +kernel
theorem dX9_peak_1 : decode cX9_peak 1 = .ok (.getfield 10, 3) := by decide +kernel
theorem dX9_peak_4 : decode cX9_peak 4 = .ok (.iload_n 1, 1) := by decide +kernel
theorem dX9_peak_5 : decode cX9_peak 5 = .ok (.invokevirtual 114, 3) := by decide +kernel
theorem dX9_peak_8 : decode cX9_peak 8 = .ok (.ifCond .eq 10, 3) := by decide +kernel
theorem dX9_peak_11 : decode cX9_peak 11 = .ok (.iload_n 2, 1) := by decide +kernel
theorem dX9_peak_12 : decode cX9_peak 12 = .ok (.invokestatic 167, 3) := by decide +kernel
theorem dX9_peak_15 : decode cX9_peak 15 = .ok (.ifCond .ne 5, 3) := by decide +kernel
theorem dX9_peak_18 : decode cX9_peak 18 = .ok (.iconst (-1), 1) := by decide +kernel
theorem dX9_peak_19 : decode cX9_peak 19 = .ok (.ireturn, 1) := by decide +kernel
theorem dX9_peak_20 : decode cX9_peak 20 = .ok (.aload_n 0, 1) := by decide +kernel
theorem dX9_peak_21 : decode cX9_peak 21 = .ok (.getfield 43, 3) := by decide +kernel
theorem dX9_peak_24 : decode cX9_peak 24 = .ok (.iconst 0, 1) := by decide +kernel
theorem dX9_peak_25 : decode cX9_peak 25 = .ok (.invokevirtual 149, 3) := by decide +kernel
theorem dX9_peak_28 : decode cX9_peak 28 = .ok (.iconst 0, 1) := by decide +kernel
theorem dX9_peak_29 : decode cX9_peak 29 = .ok (.istore_n 3, 1) := by decide +kernel
theorem dX9_peak_30 : decode cX9_peak 30 = .ok (.aload_n 0, 1) := by decide +kernel
theorem dX9_peak_31 : decode cX9_peak 31 = .ok (.getfield 43, 3) := by decide +kernel
theorem dX9_peak_34 : decode cX9_peak 34 = .ok (.getfield 153, 3) := by decide +kernel
theorem dX9_peak_37 : decode cX9_peak 37 = .ok (.getfield 158, 3) := by decide +kernel
theorem dX9_peak_40 : decode cX9_peak 40 = .ok (.iload_n 1, 1) := by decide +kernel
theorem dX9_peak_41 : decode cX9_peak 41 = .ok (.iaload, 1) := by decide +kernel
theorem dX9_peak_42 : decode cX9_peak 42 = .ok (.istore 4, 2) := by decide +kernel
theorem dX9_peak_44 : decode cX9_peak 44 = .ok (.iconst 1, 1) := by decide +kernel
theorem dX9_peak_45 : decode cX9_peak 45 = .ok (.istore 5, 2) := by decide +kernel
theorem dX9_peak_47 : decode cX9_peak 47 = .ok (.iload 5, 2) := by decide +kernel
theorem dX9_peak_49 : decode cX9_peak 49 = .ok (.bipush 60, 2) := by decide +kernel
theorem dX9_peak_51 : decode cX9_peak 51 = .ok (.if_icmp .gt 53, 3) := by decide +kernel
theorem dX9_peak_54 : decode cX9_peak 54 = .ok (.aload_n 0, 1) := by decide +kernel
theorem dX9_peak_55 : decode cX9_peak 55 = .ok (.getfield 43, 3) := by decide +kernel
theorem dX9_peak_58 : decode cX9_peak 58 = .ok (.getfield 153, 3) := by decide +kernel
theorem dX9_peak_61 : decode cX9_peak 61 = .ok (.invokevirtual 170, 3) := by decide +kernel
theorem dX9_peak_64 : decode cX9_peak 64 = .ok (.aload_n 0, 1) := by decide +kernel
theorem dX9_peak_65 : decode cX9_peak 65 = .ok (.getfield 43, 3) := by decide +kernel
theorem dX9_peak_68 : decode cX9_peak 68 = .ok (.getfield 153, 3) := by decide +kernel
theorem dX9_peak_71 : decode cX9_peak 71 = .ok (.getfield 158, 3) := by decide +kernel
theorem dX9_peak_74 : decode cX9_peak 74 = .ok (.iload_n 1, 1) := by decide +kernel
theorem dX9_peak_75 : decode cX9_peak 75 = .ok (.iaload, 1) := by decide +kernel
theorem dX9_peak_76 : decode cX9_peak 76 = .ok (.iload 4, 2) := by decide +kernel
theorem dX9_peak_78 : decode cX9_peak 78 = .ok (.if_icmp .le 20, 3) := by decide +kernel
theorem dX9_peak_81 : decode cX9_peak 81 = .ok (.aload_n 0, 1) := by decide +kernel
theorem dX9_peak_82 : decode cX9_peak 82 = .ok (.getfield 43, 3) := by decide +kernel
theorem dX9_peak_85 : decode cX9_peak 85 = .ok (.getfield 153, 3) := by decide +kernel
theorem dX9_peak_88 : decode cX9_peak 88 = .ok (.getfield 158, 3) := by decide +kernel
theorem dX9_peak_91 : decode cX9_peak 91 = .ok (.iload_n 1, 1) := by decide +kernel
theorem dX9_peak_92 : decode cX9_peak 92 = .ok (.iaload, 1) := by decide +kernel
theorem dX9_peak_93 : decode cX9_peak 93 = .ok (.istore 4, 2) := by decide +kernel
theorem dX9_peak_95 : decode cX9_peak 95 = .ok (.iload 5, 2) := by decide +kernel
theorem dX9_peak_97 : decode cX9_peak 97 = .ok (.istore_n 3, 1) := by decide +kernel
theorem dX9_peak_98 : decode cX9_peak 98 = .ok (.iinc 5 1, 3) := by decide +kernel
theorem dX9_peak_101 : decode cX9_peak 101 = .ok (.goto (-54), 3) := by decide +kernel
theorem dX9_peak_104 : decode cX9_peak 104 = .ok (.iload_n 2, 1) := by decide +kernel
theorem dX9_peak_105 : decode cX9_peak 105 = .ok (.ifCond .ne 7, 3) := by decide +kernel
theorem dX9_peak_108 : decode cX9_peak 108 = .ok (.iload_n 3, 1) := by decide +kernel
theorem dX9_peak_109 : decode cX9_peak 109 = .ok (.goto 5, 3) := by decide +kernel
theorem dX9_peak_112 : decode cX9_peak 112 = .ok (.iload 4, 2) := by decide +kernel
theorem dX9_peak_114 : decode cX9_peak 114 = .ok (.ireturn, 1) := by decide +kernel
theorem dX9_goesAs_0 : decode cX9_goesAs 0 = .ok (.iload_n 1, 1) := by decide +kernel
theorem dX9_goesAs_1 : decode cX9_goesAs 1 = .ok (.invokestatic 146, 3) := by decide +kernel
theorem dX9_goesAs_4 : decode cX9_goesAs 4 = .ok (.ifCond .eq 7, 3) := by decide +kernel
theorem dX9_goesAs_7 : decode cX9_goesAs 7 = .ok (.iload_n 2, 1) := by decide +kernel
theorem dX9_goesAs_8 : decode cX9_goesAs 8 = .ok (.ifCond .ge 5, 3) := by decide +kernel
theorem dX9_goesAs_11 : decode cX9_goesAs 11 = .ok (.iconst (-1), 1) := by decide +kernel
theorem dX9_goesAs_12 : decode cX9_goesAs 12 = .ok (.ireturn, 1) := by decide +kernel
theorem dX9_goesAs_13 : decode cX9_goesAs 13 = .ok (.aload_n 0, 1) := by decide +kernel
theorem dX9_goesAs_14 : decode cX9_goesAs 14 = .ok (.getfield 43, 3) := by decide +kernel
theorem dX9_goesAs_17 : decode cX9_goesAs 17 = .ok (.iload_n 1, 1) := by decide +kernel
theorem dX9_goesAs_18 : decode cX9_goesAs 18 = .ok (.invokevirtual 149, 3) := by decide +kernel
theorem dX9_goesAs_21 : decode cX9_goesAs 21 = .ok (.aload_n 0, 1) := by decide +kernel
theorem dX9_goesAs_22 : decode cX9_goesAs 22 = .ok (.getfield 43, 3) := by decide +kernel
theorem dX9_goesAs_25 : decode cX9_goesAs 25 = .ok (.bipush 9, 2) := by decide +kernel
theorem dX9_goesAs_27 : decode cX9_goesAs 27 = .ok (.invokevirtual 173, 3) := by decide +kernel
theorem dX9_goesAs_30 : decode cX9_goesAs 30 = .ok (.iload_n 2, 1) := by decide +kernel
theorem dX9_goesAs_31 : decode cX9_goesAs 31 = .ok (.aload_n 0, 1) := by decide +kernel
theorem dX9_goesAs_32 : decode cX9_goesAs 32 = .ok (.getfield 43, 3) := by decide +kernel
theorem dX9_goesAs_35 : decode cX9_goesAs 35 = .ok (.getfield 176, 3) := by decide +kernel
theorem dX9_goesAs_38 : decode cX9_goesAs 38 = .ok (.if_icmp .ge 15, 3) := by decide +kernel
theorem dX9_goesAs_41 : decode cX9_goesAs 41 = .ok (.aload_n 0, 1) := by decide +kernel
theorem dX9_goesAs_42 : decode cX9_goesAs 42 = .ok (.getfield 43, 3) := by decide +kernel
theorem dX9_goesAs_45 : decode cX9_goesAs 45 = .ok (.getfield 179, 3) := by decide +kernel
theorem dX9_goesAs_48 : decode cX9_goesAs 48 = .ok (.iload_n 2, 1) := by decide +kernel
theorem dX9_goesAs_49 : decode cX9_goesAs 49 = .ok (.iaload, 1) := by decide +kernel
theorem dX9_goesAs_50 : decode cX9_goesAs 50 = .ok (.goto 5, 3) := by decide +kernel
theorem dX9_goesAs_53 : decode cX9_goesAs 53 = .ok (.bipush (-2), 2) := by decide +kernel
theorem dX9_goesAs_55 : decode cX9_goesAs 55 = .ok (.ireturn, 1) := by decide +kernel
theorem dX9_goesWhen_0 : decode cX9_goesWhen 0 = .ok (.iload_n 1, 1) := by decide +kernel
theorem dX9_goesWhen_1 : decode cX9_goesWhen 1 = .ok (.invokestatic 146, 3) := by decide +kernel
theorem dX9_goesWhen_4 : decode cX9_goesWhen 4 = .ok (.ifCond .eq 14, 3) := by decide +kernel
theorem dX9_goesWhen_7 : decode cX9_goesWhen 7 = .ok (.aload_n 0, 1) := by decide +kernel
theorem dX9_goesWhen_8 : decode cX9_goesWhen 8 = .ok (.getfield 10, 3) := by decide +kernel
theorem dX9_goesWhen_11 : decode cX9_goesWhen 11 = .ok (.iload_n 2, 1) := by decide +kernel
theorem dX9_goesWhen_12 : decode cX9_goesWhen 12 = .ok (.invokevirtual 114, 3) := by decide +kernel
theorem dX9_goesWhen_15 : decode cX9_goesWhen 15 = .ok (.ifCond .ne 5, 3) := by decide +kernel
theorem dX9_goesWhen_18 : decode cX9_goesWhen 18 = .ok (.iconst (-1), 1) := by decide +kernel
theorem dX9_goesWhen_19 : decode cX9_goesWhen 19 = .ok (.ireturn, 1) := by decide +kernel
theorem dX9_goesWhen_20 : decode cX9_goesWhen 20 = .ok (.aload_n 0, 1) := by decide +kernel
theorem dX9_goesWhen_21 : decode cX9_goesWhen 21 = .ok (.getfield 10, 3) := by decide +kernel
theorem dX9_goesWhen_24 : decode cX9_goesWhen 24 = .ok (.iload_n 2, 1) := by decide +kernel
theorem dX9_goesWhen_25 : decode cX9_goesWhen 25 = .ok (.invokevirtual 182, 3) := by decide +kernel
theorem dX9_goesWhen_28 : decode cX9_goesWhen 28 = .ok (.ifCond .ne 6, 3) := by decide +kernel
theorem dX9_goesWhen_31 : decode cX9_goesWhen 31 = .ok (.bipush (-2), 2) := by decide +kernel
theorem dX9_goesWhen_33 : decode cX9_goesWhen 33 = .ok (.ireturn, 1) := by decide +kernel
theorem dX9_goesWhen_34 : decode cX9_goesWhen 34 = .ok (.aload_n 0, 1) := by decide +kernel
theorem dX9_goesWhen_35 : decode cX9_goesWhen 35 = .ok (.getfield 43, 3) := by decide +kernel
theorem dX9_goesWhen_38 : decode cX9_goesWhen 38 = .ok (.iload_n 1, 1) := by decide +kernel
theorem dX9_goesWhen_39 : decode cX9_goesWhen 39 = .ok (.invokevirtual 149, 3) := by decide +kernel
theorem dX9_goesWhen_42 : decode cX9_goesWhen 42 = .ok (.aload_n 0, 1) := by decide +kernel
theorem dX9_goesWhen_43 : decode cX9_goesWhen 43 = .ok (.getfield 43, 3) := by decide +kernel
theorem dX9_goesWhen_46 : decode cX9_goesWhen 46 = .ok (.bipush 9, 2) := by decide +kernel
theorem dX9_goesWhen_48 : decode cX9_goesWhen 48 = .ok (.invokevirtual 173, 3) := by decide +kernel
theorem dX9_goesWhen_51 : decode cX9_goesWhen 51 = .ok (.iload_n 1, 1) := by decide +kernel
theorem dX9_goesWhen_52 : decode cX9_goesWhen 52 = .ok (.aload_n 0, 1) := by decide +kernel
theorem dX9_goesWhen_53 : decode cX9_goesWhen 53 = .ok (.getfield 43, 3) := by decide +kernel
theorem dX9_goesWhen_56 : decode cX9_goesWhen 56 = .ok (.iload_n 2, 1) := by decide +kernel
theorem dX9_goesWhen_57 : decode cX9_goesWhen 57 = .ok (.invokevirtual 185, 3) := by decide +kernel
theorem dX9_goesWhen_60 : decode cX9_goesWhen 60 = .ok (.iadd, 1) := by decide +kernel
theorem dX9_goesWhen_61 : decode cX9_goesWhen 61 = .ok (.ireturn, 1) := by decide +kernel
theorem dX9_waits_0 : decode cX9_waits 0 = .ok (.iload_n 1, 1) := by decide +kernel
theorem dX9_waits_1 : decode cX9_waits 1 = .ok (.invokestatic 146, 3) := by decide +kernel
theorem dX9_waits_4 : decode cX9_waits 4 = .ok (.ifCond .ne 5, 3) := by decide +kernel
theorem dX9_waits_7 : decode cX9_waits 7 = .ok (.iconst (-1), 1) := by decide +kernel
theorem dX9_waits_8 : decode cX9_waits 8 = .ok (.ireturn, 1) := by decide +kernel
theorem dX9_waits_9 : decode cX9_waits 9 = .ok (.iconst 0, 1) := by decide +kernel
theorem dX9_waits_10 : decode cX9_waits 10 = .ok (.istore_n 2, 1) := by decide +kernel
theorem dX9_waits_11 : decode cX9_waits 11 = .ok (.aload_n 0, 1) := by decide +kernel
theorem dX9_waits_12 : decode cX9_waits 12 = .ok (.getfield 10, 3) := by decide +kernel
theorem dX9_waits_15 : decode cX9_waits 15 = .ok (.invokevirtual 189, 3) := by decide +kernel
theorem dX9_waits_18 : decode cX9_waits 18 = .ok (.istore_n 3, 1) := by decide +kernel
theorem dX9_waits_19 : decode cX9_waits 19 = .ok (.iconst 0, 1) := by decide +kernel
theorem dX9_waits_20 : decode cX9_waits 20 = .ok (.istore 4, 2) := by decide +kernel
theorem dX9_waits_22 : decode cX9_waits 22 = .ok (.iload 4, 2) := by decide +kernel
theorem dX9_waits_24 : decode cX9_waits 24 = .ok (.iload_n 3, 1) := by decide +kernel
theorem dX9_waits_25 : decode cX9_waits 25 = .ok (.if_icmp .ge 16, 3) := by decide +kernel
theorem dX9_waits_28 : decode cX9_waits 28 = .ok (.iload_n 2, 1) := by decide +kernel
theorem dX9_waits_29 : decode cX9_waits 29 = .ok (.iload_n 1, 1) := by decide +kernel
theorem dX9_waits_30 : decode cX9_waits 30 = .ok (.iload 4, 2) := by decide +kernel
theorem dX9_waits_32 : decode cX9_waits 32 = .ok (.iadd, 1) := by decide +kernel
theorem dX9_waits_33 : decode cX9_waits 33 = .ok (.iadd, 1) := by decide +kernel
theorem dX9_waits_34 : decode cX9_waits 34 = .ok (.istore_n 2, 1) := by decide +kernel
theorem dX9_waits_35 : decode cX9_waits 35 = .ok (.iinc 4 1, 3) := by decide +kernel
theorem dX9_waits_38 : decode cX9_waits 38 = .ok (.goto (-16), 3) := by decide +kernel
theorem dX9_waits_41 : decode cX9_waits 41 = .ok (.iload_n 2, 1) := by decide +kernel
theorem dX9_waits_42 : decode cX9_waits 42 = .ok (.ireturn, 1) := by decide +kernel
theorem dX9_sorry_0 : decode cX9_sorry 0 = .ok (.aload_n 0, 1) := by decide +kernel
theorem dX9_sorry_1 : decode cX9_sorry 1 = .ok (.getfield 10, 3) := by decide +kernel
theorem dX9_sorry_4 : decode cX9_sorry 4 = .ok (.iload_n 1, 1) := by decide +kernel
theorem dX9_sorry_5 : decode cX9_sorry 5 = .ok (.invokevirtual 114, 3) := by decide +kernel
theorem dX9_sorry_8 : decode cX9_sorry 8 = .ok (.ifCond .eq 13, 3) := by decide +kernel
theorem dX9_sorry_11 : decode cX9_sorry 11 = .ok (.iload_n 2, 1) := by decide +kernel
theorem dX9_sorry_12 : decode cX9_sorry 12 = .ok (.ifCond .lt 9, 3) := by decide +kernel
theorem dX9_sorry_15 : decode cX9_sorry 15 = .ok (.iload_n 2, 1) := by decide +kernel
theorem dX9_sorry_16 : decode cX9_sorry 16 = .ok (.bipush 9, 2) := by decide +kernel
theorem dX9_sorry_18 : decode cX9_sorry 18 = .ok (.if_icmp .lt 5, 3) := by decide +kernel
theorem dX9_sorry_21 : decode cX9_sorry 21 = .ok (.iconst (-1), 1) := by decide +kernel
theorem dX9_sorry_22 : decode cX9_sorry 22 = .ok (.ireturn, 1) := by decide +kernel
theorem dX9_sorry_23 : decode cX9_sorry 23 = .ok (.aload_n 0, 1) := by decide +kernel
theorem dX9_sorry_24 : decode cX9_sorry 24 = .ok (.getfield 10, 3) := by decide +kernel
theorem dX9_sorry_27 : decode cX9_sorry 27 = .ok (.iload_n 1, 1) := by decide +kernel
theorem dX9_sorry_28 : decode cX9_sorry 28 = .ok (.invokevirtual 182, 3) := by decide +kernel
theorem dX9_sorry_31 : decode cX9_sorry 31 = .ok (.ifCond .ne 6, 3) := by decide +kernel
theorem dX9_sorry_34 : decode cX9_sorry 34 = .ok (.bipush (-2), 2) := by decide +kernel
theorem dX9_sorry_36 : decode cX9_sorry 36 = .ok (.ireturn, 1) := by decide +kernel
theorem dX9_sorry_37 : decode cX9_sorry 37 = .ok (.iconst 0, 1) := by decide +kernel
theorem dX9_sorry_38 : decode cX9_sorry 38 = .ok (.istore_n 3, 1) := by decide +kernel
theorem dX9_sorry_39 : decode cX9_sorry 39 = .ok (.iload_n 3, 1) := by decide +kernel
theorem dX9_sorry_40 : decode cX9_sorry 40 = .ok (.bipush 9, 2) := by decide +kernel
theorem dX9_sorry_42 : decode cX9_sorry 42 = .ok (.if_icmp .gt 53, 3) := by decide +kernel
theorem dX9_sorry_45 : decode cX9_sorry 45 = .ok (.aload_n 0, 1) := by decide +kernel
theorem dX9_sorry_46 : decode cX9_sorry 46 = .ok (.getfield 43, 3) := by decide +kernel
theorem dX9_sorry_49 : decode cX9_sorry 49 = .ok (.iconst 0, 1) := by decide +kernel
theorem dX9_sorry_50 : decode cX9_sorry 50 = .ok (.invokevirtual 149, 3) := by decide +kernel
theorem dX9_sorry_53 : decode cX9_sorry 53 = .ok (.aload_n 0, 1) := by decide +kernel
theorem dX9_sorry_54 : decode cX9_sorry 54 = .ok (.getfield 43, 3) := by decide +kernel
theorem dX9_sorry_57 : decode cX9_sorry 57 = .ok (.getfield 153, 3) := by decide +kernel
theorem dX9_sorry_60 : decode cX9_sorry 60 = .ok (.getfield 193, 3) := by decide +kernel
theorem dX9_sorry_63 : decode cX9_sorry 63 = .ok (.iload_n 1, 1) := by decide +kernel
theorem dX9_sorry_64 : decode cX9_sorry 64 = .ok (.iload_n 3, 1) := by decide +kernel
theorem dX9_sorry_65 : decode cX9_sorry 65 = .ok (.iastore, 1) := by decide +kernel
theorem dX9_sorry_66 : decode cX9_sorry 66 = .ok (.aload_n 0, 1) := by decide +kernel
theorem dX9_sorry_67 : decode cX9_sorry 67 = .ok (.getfield 43, 3) := by decide +kernel
theorem dX9_sorry_70 : decode cX9_sorry 70 = .ok (.bipush 9, 2) := by decide +kernel
theorem dX9_sorry_72 : decode cX9_sorry 72 = .ok (.invokevirtual 173, 3) := by decide +kernel
theorem dX9_sorry_75 : decode cX9_sorry 75 = .ok (.aload_n 0, 1) := by decide +kernel
theorem dX9_sorry_76 : decode cX9_sorry 76 = .ok (.getfield 43, 3) := by decide +kernel
theorem dX9_sorry_79 : decode cX9_sorry 79 = .ok (.iload_n 1, 1) := by decide +kernel
theorem dX9_sorry_80 : decode cX9_sorry 80 = .ok (.invokevirtual 185, 3) := by decide +kernel
theorem dX9_sorry_83 : decode cX9_sorry 83 = .ok (.iload_n 2, 1) := by decide +kernel
theorem dX9_sorry_84 : decode cX9_sorry 84 = .ok (.if_icmp .gt 5, 3) := by decide +kernel
theorem dX9_sorry_87 : decode cX9_sorry 87 = .ok (.iload_n 3, 1) := by decide +kernel
theorem dX9_sorry_88 : decode cX9_sorry 88 = .ok (.ireturn, 1) := by decide +kernel
theorem dX9_sorry_89 : decode cX9_sorry 89 = .ok (.iinc 3 1, 3) := by decide +kernel
theorem dX9_sorry_92 : decode cX9_sorry 92 = .ok (.goto (-53), 3) := by decide +kernel
theorem dX9_sorry_95 : decode cX9_sorry 95 = .ok (.bipush (-2), 2) := by decide +kernel
theorem dX9_sorry_97 : decode cX9_sorry 97 = .ok (.ireturn, 1) := by decide +kernel
theorem dX9_slipWhen_0 : decode cX9_slipWhen 0 = .ok (.iload_n 2, 1) := by decide +kernel
theorem dX9_slipWhen_1 : decode cX9_slipWhen 1 = .ok (.bipush 100, 2) := by decide +kernel
theorem dX9_slipWhen_3 : decode cX9_slipWhen 3 = .ok (.idiv, 1) := by decide +kernel
theorem dX9_slipWhen_4 : decode cX9_slipWhen 4 = .ok (.istore 4, 2) := by decide +kernel
theorem dX9_slipWhen_6 : decode cX9_slipWhen 6 = .ok (.iload_n 2, 1) := by decide +kernel
theorem dX9_slipWhen_7 : decode cX9_slipWhen 7 = .ok (.bipush 100, 2) := by decide +kernel
theorem dX9_slipWhen_9 : decode cX9_slipWhen 9 = .ok (.irem, 1) := by decide +kernel
theorem dX9_slipWhen_10 : decode cX9_slipWhen 10 = .ok (.istore 5, 2) := by decide +kernel
theorem dX9_slipWhen_12 : decode cX9_slipWhen 12 = .ok (.aload_n 0, 1) := by decide +kernel
theorem dX9_slipWhen_13 : decode cX9_slipWhen 13 = .ok (.getfield 10, 3) := by decide +kernel
theorem dX9_slipWhen_16 : decode cX9_slipWhen 16 = .ok (.iload_n 1, 1) := by decide +kernel
theorem dX9_slipWhen_17 : decode cX9_slipWhen 17 = .ok (.invokevirtual 114, 3) := by decide +kernel
theorem dX9_slipWhen_20 : decode cX9_slipWhen 20 = .ok (.ifCond .eq 27, 3) := by decide +kernel
theorem dX9_slipWhen_23 : decode cX9_slipWhen 23 = .ok (.iload 4, 2) := by decide +kernel
theorem dX9_slipWhen_25 : decode cX9_slipWhen 25 = .ok (.bipush 7, 2) := by decide +kernel
theorem dX9_slipWhen_27 : decode cX9_slipWhen 27 = .ok (.invokestatic 87, 3) := by decide +kernel
theorem dX9_slipWhen_30 : decode cX9_slipWhen 30 = .ok (.ifCond .eq 17, 3) := by decide +kernel
theorem dX9_slipWhen_33 : decode cX9_slipWhen 33 = .ok (.iload 5, 2) := by decide +kernel
theorem dX9_slipWhen_35 : decode cX9_slipWhen 35 = .ok (.bipush 30, 2) := by decide +kernel
theorem dX9_slipWhen_37 : decode cX9_slipWhen 37 = .ok (.if_icmp .gt 10, 3) := by decide +kernel
theorem dX9_slipWhen_40 : decode cX9_slipWhen 40 = .ok (.iload_n 3, 1) := by decide +kernel
theorem dX9_slipWhen_41 : decode cX9_slipWhen 41 = .ok (.invokestatic 167, 3) := by decide +kernel
theorem dX9_slipWhen_44 : decode cX9_slipWhen 44 = .ok (.ifCond .ne 5, 3) := by decide +kernel
theorem dX9_slipWhen_47 : decode cX9_slipWhen 47 = .ok (.iconst (-1), 1) := by decide +kernel
theorem dX9_slipWhen_48 : decode cX9_slipWhen 48 = .ok (.ireturn, 1) := by decide +kernel
theorem dX9_slipWhen_49 : decode cX9_slipWhen 49 = .ok (.aload_n 0, 1) := by decide +kernel
theorem dX9_slipWhen_50 : decode cX9_slipWhen 50 = .ok (.getfield 10, 3) := by decide +kernel
theorem dX9_slipWhen_53 : decode cX9_slipWhen 53 = .ok (.iload_n 1, 1) := by decide +kernel
theorem dX9_slipWhen_54 : decode cX9_slipWhen 54 = .ok (.invokevirtual 182, 3) := by decide +kernel
theorem dX9_slipWhen_57 : decode cX9_slipWhen 57 = .ok (.ifCond .ne 6, 3) := by decide +kernel
theorem dX9_slipWhen_60 : decode cX9_slipWhen 60 = .ok (.bipush (-5), 2) := by decide +kernel
theorem dX9_slipWhen_62 : decode cX9_slipWhen 62 = .ok (.ireturn, 1) := by decide +kernel
theorem dX9_slipWhen_63 : decode cX9_slipWhen 63 = .ok (.iconst 0, 1) := by decide +kernel
theorem dX9_slipWhen_64 : decode cX9_slipWhen 64 = .ok (.istore 6, 2) := by decide +kernel
theorem dX9_slipWhen_66 : decode cX9_slipWhen 66 = .ok (.bipush 9, 2) := by decide +kernel
theorem dX9_slipWhen_68 : decode cX9_slipWhen 68 = .ok (.istore 7, 2) := by decide +kernel
theorem dX9_slipWhen_70 : decode cX9_slipWhen 70 = .ok (.iconst 0, 1) := by decide +kernel
theorem dX9_slipWhen_71 : decode cX9_slipWhen 71 = .ok (.istore 8, 2) := by decide +kernel
theorem dX9_slipWhen_73 : decode cX9_slipWhen 73 = .ok (.iload 8, 2) := by decide +kernel
theorem dX9_slipWhen_75 : decode cX9_slipWhen 75 = .ok (.bipush 30, 2) := by decide +kernel
theorem dX9_slipWhen_77 : decode cX9_slipWhen 77 = .ok (.if_icmp .gt 40, 3) := by decide +kernel
theorem dX9_slipWhen_80 : decode cX9_slipWhen 80 = .ok (.aload_n 0, 1) := by decide +kernel
theorem dX9_slipWhen_81 : decode cX9_slipWhen 81 = .ok (.getfield 43, 3) := by decide +kernel
theorem dX9_slipWhen_84 : decode cX9_slipWhen 84 = .ok (.iload_n 1, 1) := by decide +kernel
theorem dX9_slipWhen_85 : decode cX9_slipWhen 85 = .ok (.iload 8, 2) := by decide +kernel
theorem dX9_slipWhen_87 : decode cX9_slipWhen 87 = .ok (.iload 4, 2) := by decide +kernel
theorem dX9_slipWhen_89 : decode cX9_slipWhen 89 = .ok (.iload 5, 2) := by decide +kernel
theorem dX9_slipWhen_91 : decode cX9_slipWhen 91 = .ok (.invokevirtual 196, 3) := by decide +kernel
theorem dX9_slipWhen_94 : decode cX9_slipWhen 94 = .ok (.istore 9, 2) := by decide +kernel
theorem dX9_slipWhen_96 : decode cX9_slipWhen 96 = .ok (.iload 9, 2) := by decide +kernel
theorem dX9_slipWhen_98 : decode cX9_slipWhen 98 = .ok (.iload 7, 2) := by decide +kernel
theorem dX9_slipWhen_100 : decode cX9_slipWhen 100 = .ok (.if_icmp .ge 11, 3) := by decide +kernel
theorem dX9_slipWhen_103 : decode cX9_slipWhen 103 = .ok (.iload 9, 2) := by decide +kernel
theorem dX9_slipWhen_105 : decode cX9_slipWhen 105 = .ok (.istore 7, 2) := by decide +kernel
theorem dX9_slipWhen_107 : decode cX9_slipWhen 107 = .ok (.iload 8, 2) := by decide +kernel
theorem dX9_slipWhen_109 : decode cX9_slipWhen 109 = .ok (.istore 6, 2) := by decide +kernel
theorem dX9_slipWhen_111 : decode cX9_slipWhen 111 = .ok (.iinc 8 1, 3) := by decide +kernel
theorem dX9_slipWhen_114 : decode cX9_slipWhen 114 = .ok (.goto (-41), 3) := by decide +kernel
theorem dX9_slipWhen_117 : decode cX9_slipWhen 117 = .ok (.iload_n 3, 1) := by decide +kernel
theorem dX9_slipWhen_118 : decode cX9_slipWhen 118 = .ok (.ifCond .ne 8, 3) := by decide +kernel
theorem dX9_slipWhen_121 : decode cX9_slipWhen 121 = .ok (.iload 6, 2) := by decide +kernel
theorem dX9_slipWhen_123 : decode cX9_slipWhen 123 = .ok (.goto 5, 3) := by decide +kernel
theorem dX9_slipWhen_126 : decode cX9_slipWhen 126 = .ok (.iload 7, 2) := by decide +kernel
theorem dX9_slipWhen_128 : decode cX9_slipWhen 128 = .ok (.ireturn, 1) := by decide +kernel
theorem dX9_held_0 : decode cX9_held 0 = .ok (.iload_n 1, 1) := by decide +kernel
theorem dX9_held_1 : decode cX9_held 1 = .ok (.invokestatic 167, 3) := by decide +kernel
theorem dX9_held_4 : decode cX9_held 4 = .ok (.ifCond .ne 5, 3) := by decide +kernel
theorem dX9_held_7 : decode cX9_held 7 = .ok (.iconst (-1), 1) := by decide +kernel
theorem dX9_held_8 : decode cX9_held 8 = .ok (.ireturn, 1) := by decide +kernel
theorem dX9_held_9 : decode cX9_held 9 = .ok (.bipush 9, 2) := by decide +kernel
theorem dX9_held_11 : decode cX9_held 11 = .ok (.istore_n 2, 1) := by decide +kernel
theorem dX9_held_12 : decode cX9_held 12 = .ok (.aload_n 0, 1) := by decide +kernel
theorem dX9_held_13 : decode cX9_held 13 = .ok (.getfield 43, 3) := by decide +kernel
theorem dX9_held_16 : decode cX9_held 16 = .ok (.bipush 9, 2) := by decide +kernel
theorem dX9_held_18 : decode cX9_held 18 = .ok (.invokevirtual 200, 3) := by decide +kernel
theorem dX9_held_21 : decode cX9_held 21 = .ok (.istore_n 3, 1) := by decide +kernel
theorem dX9_held_22 : decode cX9_held 22 = .ok (.iconst 0, 1) := by decide +kernel
theorem dX9_held_23 : decode cX9_held 23 = .ok (.istore 4, 2) := by decide +kernel
theorem dX9_held_25 : decode cX9_held 25 = .ok (.iload 4, 2) := by decide +kernel
theorem dX9_held_27 : decode cX9_held 27 = .ok (.aload_n 0, 1) := by decide +kernel
theorem dX9_held_28 : decode cX9_held 28 = .ok (.getfield 10, 3) := by decide +kernel
theorem dX9_held_31 : decode cX9_held 31 = .ok (.getfield 91, 3) := by decide +kernel
theorem dX9_held_34 : decode cX9_held 34 = .ok (.if_icmp .ge 32, 3) := by decide +kernel
theorem dX9_held_37 : decode cX9_held 37 = .ok (.aload_n 0, 1) := by decide +kernel
theorem dX9_held_38 : decode cX9_held 38 = .ok (.getfield 43, 3) := by decide +kernel
theorem dX9_held_41 : decode cX9_held 41 = .ok (.iload 4, 2) := by decide +kernel
theorem dX9_held_43 : decode cX9_held 43 = .ok (.invokevirtual 200, 3) := by decide +kernel
theorem dX9_held_46 : decode cX9_held 46 = .ok (.istore 5, 2) := by decide +kernel
theorem dX9_held_48 : decode cX9_held 48 = .ok (.iload 5, 2) := by decide +kernel
theorem dX9_held_50 : decode cX9_held 50 = .ok (.iload_n 3, 1) := by decide +kernel
theorem dX9_held_51 : decode cX9_held 51 = .ok (.if_icmp .ge 9, 3) := by decide +kernel
theorem dX9_held_54 : decode cX9_held 54 = .ok (.iload 5, 2) := by decide +kernel
theorem dX9_held_56 : decode cX9_held 56 = .ok (.istore_n 3, 1) := by decide +kernel
theorem dX9_held_57 : decode cX9_held 57 = .ok (.iload 4, 2) := by decide +kernel
theorem dX9_held_59 : decode cX9_held 59 = .ok (.istore_n 2, 1) := by decide +kernel
theorem dX9_held_60 : decode cX9_held 60 = .ok (.iinc 4 1, 3) := by decide +kernel
theorem dX9_held_63 : decode cX9_held 63 = .ok (.goto (-38), 3) := by decide +kernel
theorem dX9_held_66 : decode cX9_held 66 = .ok (.iload_n 1, 1) := by decide +kernel
theorem dX9_held_67 : decode cX9_held 67 = .ok (.ifCond .ne 7, 3) := by decide +kernel
theorem dX9_held_70 : decode cX9_held 70 = .ok (.iload_n 2, 1) := by decide +kernel
theorem dX9_held_71 : decode cX9_held 71 = .ok (.goto 4, 3) := by decide +kernel
theorem dX9_held_74 : decode cX9_held 74 = .ok (.iload_n 3, 1) := by decide +kernel
theorem dX9_held_75 : decode cX9_held 75 = .ok (.ireturn, 1) := by decide +kernel
theorem dX9_pairs_0 : decode cX9_pairs 0 = .ok (.iload_n 1, 1) := by decide +kernel
theorem dX9_pairs_1 : decode cX9_pairs 1 = .ok (.ifCond .lt 8, 3) := by decide +kernel
theorem dX9_pairs_4 : decode cX9_pairs 4 = .ok (.iload_n 1, 1) := by decide +kernel
theorem dX9_pairs_5 : decode cX9_pairs 5 = .ok (.iconst 2, 1) := by decide +kernel
theorem dX9_pairs_6 : decode cX9_pairs 6 = .ok (.if_icmp .le 5, 3) := by decide +kernel
theorem dX9_pairs_9 : decode cX9_pairs 9 = .ok (.iconst (-1), 1) := by decide +kernel
theorem dX9_pairs_10 : decode cX9_pairs 10 = .ok (.ireturn, 1) := by decide +kernel
theorem dX9_pairs_11 : decode cX9_pairs 11 = .ok (.iconst 0, 1) := by decide +kernel
theorem dX9_pairs_12 : decode cX9_pairs 12 = .ok (.istore_n 2, 1) := by decide +kernel
theorem dX9_pairs_13 : decode cX9_pairs 13 = .ok (.bipush (-2), 2) := by decide +kernel
theorem dX9_pairs_15 : decode cX9_pairs 15 = .ok (.istore_n 3, 1) := by decide +kernel
theorem dX9_pairs_16 : decode cX9_pairs 16 = .ok (.getstatic 203, 3) := by decide +kernel
theorem dX9_pairs_19 : decode cX9_pairs 19 = .ok (.iconst 4, 1) := by decide +kernel
theorem dX9_pairs_20 : decode cX9_pairs 20 = .ok (.iaload, 1) := by decide +kernel
theorem dX9_pairs_21 : decode cX9_pairs 21 = .ok (.istore 4, 2) := by decide +kernel
theorem dX9_pairs_23 : decode cX9_pairs 23 = .ok (.iload 4, 2) := by decide +kernel
theorem dX9_pairs_25 : decode cX9_pairs 25 = .ok (.getstatic 206, 3) := by decide +kernel
theorem dX9_pairs_28 : decode cX9_pairs 28 = .ok (.iconst 4, 1) := by decide +kernel
theorem dX9_pairs_29 : decode cX9_pairs 29 = .ok (.iaload, 1) := by decide +kernel
theorem dX9_pairs_30 : decode cX9_pairs 30 = .ok (.if_icmp .lt 53, 3) := by decide +kernel
theorem dX9_pairs_33 : decode cX9_pairs 33 = .ok (.aload_n 0, 1) := by decide +kernel
theorem dX9_pairs_34 : decode cX9_pairs 34 = .ok (.getfield 10, 3) := by decide +kernel
theorem dX9_pairs_37 : decode cX9_pairs 37 = .ok (.iconst 0, 1) := by decide +kernel
theorem dX9_pairs_38 : decode cX9_pairs 38 = .ok (.iload 4, 2) := by decide +kernel
theorem dX9_pairs_40 : decode cX9_pairs 40 = .ok (.invokevirtual 209, 3) := by decide +kernel
theorem dX9_pairs_43 : decode cX9_pairs 43 = .ok (.istore 5, 2) := by decide +kernel
theorem dX9_pairs_45 : decode cX9_pairs 45 = .ok (.aload_n 0, 1) := by decide +kernel
theorem dX9_pairs_46 : decode cX9_pairs 46 = .ok (.getfield 10, 3) := by decide +kernel
theorem dX9_pairs_49 : decode cX9_pairs 49 = .ok (.iconst 1, 1) := by decide +kernel
theorem dX9_pairs_50 : decode cX9_pairs 50 = .ok (.iload 4, 2) := by decide +kernel
theorem dX9_pairs_52 : decode cX9_pairs 52 = .ok (.invokevirtual 209, 3) := by decide +kernel
theorem dX9_pairs_55 : decode cX9_pairs 55 = .ok (.istore 6, 2) := by decide +kernel
theorem dX9_pairs_57 : decode cX9_pairs 57 = .ok (.iload_n 2, 1) := by decide +kernel
theorem dX9_pairs_58 : decode cX9_pairs 58 = .ok (.iload 5, 2) := by decide +kernel
theorem dX9_pairs_60 : decode cX9_pairs 60 = .ok (.iload 6, 2) := by decide +kernel
theorem dX9_pairs_62 : decode cX9_pairs 62 = .ok (.invokestatic 212, 3) := by decide +kernel
theorem dX9_pairs_65 : decode cX9_pairs 65 = .ok (.iadd, 1) := by decide +kernel
theorem dX9_pairs_66 : decode cX9_pairs 66 = .ok (.istore_n 2, 1) := by decide +kernel
theorem dX9_pairs_67 : decode cX9_pairs 67 = .ok (.iload 5, 2) := by decide +kernel
theorem dX9_pairs_69 : decode cX9_pairs 69 = .ok (.iload 6, 2) := by decide +kernel
theorem dX9_pairs_71 : decode cX9_pairs 71 = .ok (.if_icmp .eq 6, 3) := by decide +kernel
theorem dX9_pairs_74 : decode cX9_pairs 74 = .ok (.iload 4, 2) := by decide +kernel
theorem dX9_pairs_76 : decode cX9_pairs 76 = .ok (.istore_n 3, 1) := by decide +kernel
theorem dX9_pairs_77 : decode cX9_pairs 77 = .ok (.iinc 4 (-1), 3) := by decide +kernel
theorem dX9_pairs_80 : decode cX9_pairs 80 = .ok (.goto (-57), 3) := by decide +kernel
theorem dX9_pairs_83 : decode cX9_pairs 83 = .ok (.iload_n 1, 1) := by decide +kernel
theorem dX9_pairs_84 : decode cX9_pairs 84 = .ok (.ifCond .ne 5, 3) := by decide +kernel
theorem dX9_pairs_87 : decode cX9_pairs 87 = .ok (.iload_n 2, 1) := by decide +kernel
theorem dX9_pairs_88 : decode cX9_pairs 88 = .ok (.ireturn, 1) := by decide +kernel
theorem dX9_pairs_89 : decode cX9_pairs 89 = .ok (.iload_n 1, 1) := by decide +kernel
theorem dX9_pairs_90 : decode cX9_pairs 90 = .ok (.iconst 1, 1) := by decide +kernel
theorem dX9_pairs_91 : decode cX9_pairs 91 = .ok (.if_icmp .ne 17, 3) := by decide +kernel
theorem dX9_pairs_94 : decode cX9_pairs 94 = .ok (.aload_n 0, 1) := by decide +kernel
theorem dX9_pairs_95 : decode cX9_pairs 95 = .ok (.getfield 10, 3) := by decide +kernel
theorem dX9_pairs_98 : decode cX9_pairs 98 = .ok (.invokevirtual 189, 3) := by decide +kernel
theorem dX9_pairs_101 : decode cX9_pairs 101 = .ok (.iconst 2, 1) := by decide +kernel
theorem dX9_pairs_102 : decode cX9_pairs 102 = .ok (.iload_n 2, 1) := by decide +kernel
theorem dX9_pairs_103 : decode cX9_pairs 103 = .ok (.imul, 1) := by decide +kernel
theorem dX9_pairs_104 : decode cX9_pairs 104 = .ok (.isub, 1) := by decide +kernel
theorem dX9_pairs_105 : decode cX9_pairs 105 = .ok (.goto 4, 3) := by decide +kernel
theorem dX9_pairs_108 : decode cX9_pairs 108 = .ok (.iload_n 3, 1) := by decide +kernel
theorem dX9_pairs_109 : decode cX9_pairs 109 = .ok (.ireturn, 1) := by decide +kernel
theorem dX9_judge_0 : decode cX9_judge 0 = .ok (.iload_n 1, 1) := by decide +kernel
theorem dX9_judge_1 : decode cX9_judge 1 = .ok (.invokestatic 98, 3) := by decide +kernel
theorem dX9_judge_4 : decode cX9_judge 4 = .ok (.ifCond .ne 5, 3) := by decide +kernel
theorem dX9_judge_7 : decode cX9_judge 7 = .ok (.iconst (-1), 1) := by decide +kernel
theorem dX9_judge_8 : decode cX9_judge 8 = .ok (.ireturn, 1) := by decide +kernel
theorem dX9_judge_9 : decode cX9_judge 9 = .ok (.aload_n 0, 1) := by decide +kernel
theorem dX9_judge_10 : decode cX9_judge 10 = .ok (.getfield 82, 3) := by decide +kernel
theorem dX9_judge_13 : decode cX9_judge 13 = .ok (.iload_n 1, 1) := by decide +kernel
theorem dX9_judge_14 : decode cX9_judge 14 = .ok (.aaload, 1) := by decide +kernel
theorem dX9_judge_15 : decode cX9_judge 15 = .ok (.invokestatic 217, 3) := by decide +kernel
theorem dX9_judge_18 : decode cX9_judge 18 = .ok (.istore_n 2, 1) := by decide +kernel
theorem dX9_judge_19 : decode cX9_judge 19 = .ok (.iload_n 2, 1) := by decide +kernel
theorem dX9_judge_20 : decode cX9_judge 20 = .ok (.ifCond .eq 5, 3) := by decide +kernel
theorem dX9_judge_23 : decode cX9_judge 23 = .ok (.iload_n 2, 1) := by decide +kernel
theorem dX9_judge_24 : decode cX9_judge 24 = .ok (.ireturn, 1) := by decide +kernel
theorem dX9_judge_25 : decode cX9_judge 25 = .ok (.aload_n 0, 1) := by decide +kernel
theorem dX9_judge_26 : decode cX9_judge 26 = .ok (.getfield 43, 3) := by decide +kernel
theorem dX9_judge_29 : decode cX9_judge 29 = .ok (.iconst 0, 1) := by decide +kernel
theorem dX9_judge_30 : decode cX9_judge 30 = .ok (.invokevirtual 149, 3) := by decide +kernel
theorem dX9_judge_33 : decode cX9_judge 33 = .ok (.aload_n 0, 1) := by decide +kernel
theorem dX9_judge_34 : decode cX9_judge 34 = .ok (.getfield 43, 3) := by decide +kernel
theorem dX9_judge_37 : decode cX9_judge 37 = .ok (.bipush 9, 2) := by decide +kernel
theorem dX9_judge_39 : decode cX9_judge 39 = .ok (.invokevirtual 173, 3) := by decide +kernel
theorem dX9_judge_42 : decode cX9_judge 42 = .ok (.aload_n 0, 1) := by decide +kernel
theorem dX9_judge_43 : decode cX9_judge 43 = .ok (.getfield 43, 3) := by decide +kernel
theorem dX9_judge_46 : decode cX9_judge 46 = .ok (.aload_n 0, 1) := by decide +kernel
theorem dX9_judge_47 : decode cX9_judge 47 = .ok (.getfield 82, 3) := by decide +kernel
theorem dX9_judge_50 : decode cX9_judge 50 = .ok (.iload_n 1, 1) := by decide +kernel
theorem dX9_judge_51 : decode cX9_judge 51 = .ok (.aaload, 1) := by decide +kernel
theorem dX9_judge_52 : decode cX9_judge 52 = .ok (.invokevirtual 221, 3) := by decide +kernel
theorem dX9_judge_55 : decode cX9_judge 55 = .ok (.ireturn, 1) := by decide +kernel
theorem dX9_fits_0 : decode cX9_fits 0 = .ok (.iload_n 1, 1) := by decide +kernel
theorem dX9_fits_1 : decode cX9_fits 1 = .ok (.invokestatic 98, 3) := by decide +kernel
theorem dX9_fits_4 : decode cX9_fits 4 = .ok (.ifCond .eq 23, 3) := by decide +kernel
theorem dX9_fits_7 : decode cX9_fits 7 = .ok (.aload_n 0, 1) := by decide +kernel
theorem dX9_fits_8 : decode cX9_fits 8 = .ok (.getfield 10, 3) := by decide +kernel
theorem dX9_fits_11 : decode cX9_fits 11 = .ok (.iload_n 2, 1) := by decide +kernel
theorem dX9_fits_12 : decode cX9_fits 12 = .ok (.invokevirtual 114, 3) := by decide +kernel
theorem dX9_fits_15 : decode cX9_fits 15 = .ok (.ifCond .eq 12, 3) := by decide +kernel
theorem dX9_fits_18 : decode cX9_fits 18 = .ok (.iload_n 3, 1) := by decide +kernel
theorem dX9_fits_19 : decode cX9_fits 19 = .ok (.ifCond .lt 8, 3) := by decide +kernel
theorem dX9_fits_22 : decode cX9_fits 22 = .ok (.iload_n 3, 1) := by decide +kernel
theorem dX9_fits_23 : decode cX9_fits 23 = .ok (.iconst 5, 1) := by decide +kernel
theorem dX9_fits_24 : decode cX9_fits 24 = .ok (.if_icmp .le 5, 3) := by decide +kernel
theorem dX9_fits_27 : decode cX9_fits 27 = .ok (.iconst (-1), 1) := by decide +kernel
theorem dX9_fits_28 : decode cX9_fits 28 = .ok (.ireturn, 1) := by decide +kernel
theorem dX9_fits_29 : decode cX9_fits 29 = .ok (.aload_n 0, 1) := by decide +kernel
theorem dX9_fits_30 : decode cX9_fits 30 = .ok (.getfield 82, 3) := by decide +kernel
theorem dX9_fits_33 : decode cX9_fits 33 = .ok (.iload_n 1, 1) := by decide +kernel
theorem dX9_fits_34 : decode cX9_fits 34 = .ok (.aaload, 1) := by decide +kernel
theorem dX9_fits_35 : decode cX9_fits 35 = .ok (.invokestatic 217, 3) := by decide +kernel
theorem dX9_fits_38 : decode cX9_fits 38 = .ok (.istore 4, 2) := by decide +kernel
theorem dX9_fits_40 : decode cX9_fits 40 = .ok (.iload 4, 2) := by decide +kernel
theorem dX9_fits_42 : decode cX9_fits 42 = .ok (.ifCond .eq 6, 3) := by decide +kernel
theorem dX9_fits_45 : decode cX9_fits 45 = .ok (.iload 4, 2) := by decide +kernel
theorem dX9_fits_47 : decode cX9_fits 47 = .ok (.ireturn, 1) := by decide +kernel
theorem dX9_fits_48 : decode cX9_fits 48 = .ok (.iload_n 3, 1) := by decide +kernel
theorem dX9_fits_49 : decode cX9_fits 49 = .ok (.iconst 2, 1) := by decide +kernel
theorem dX9_fits_50 : decode cX9_fits 50 = .ok (.if_icmp .ge 7, 3) := by decide +kernel
theorem dX9_fits_53 : decode cX9_fits 53 = .ok (.iconst 2, 1) := by decide +kernel
theorem dX9_fits_54 : decode cX9_fits 54 = .ok (.goto 13, 3) := by decide +kernel
theorem dX9_fits_57 : decode cX9_fits 57 = .ok (.iload_n 3, 1) := by decide +kernel
theorem dX9_fits_58 : decode cX9_fits 58 = .ok (.iconst 4, 1) := by decide +kernel
theorem dX9_fits_59 : decode cX9_fits 59 = .ok (.if_icmp .ge 7, 3) := by decide +kernel
theorem dX9_fits_62 : decode cX9_fits 62 = .ok (.iconst 1, 1) := by decide +kernel
theorem dX9_fits_63 : decode cX9_fits 63 = .ok (.goto 4, 3) := by decide +kernel
theorem dX9_fits_66 : decode cX9_fits 66 = .ok (.iconst 0, 1) := by decide +kernel
theorem dX9_fits_67 : decode cX9_fits 67 = .ok (.istore 5, 2) := by decide +kernel
theorem dX9_fits_69 : decode cX9_fits 69 = .ok (.iconst 0, 1) := by decide +kernel
theorem dX9_fits_70 : decode cX9_fits 70 = .ok (.istore 6, 2) := by decide +kernel
theorem dX9_fits_72 : decode cX9_fits 72 = .ok (.bipush (-2), 2) := by decide +kernel
theorem dX9_fits_74 : decode cX9_fits 74 = .ok (.istore 7, 2) := by decide +kernel
theorem dX9_fits_76 : decode cX9_fits 76 = .ok (.getstatic 203, 3) := by decide +kernel
theorem dX9_fits_79 : decode cX9_fits 79 = .ok (.iload 5, 2) := by decide +kernel
theorem dX9_fits_81 : decode cX9_fits 81 = .ok (.iaload, 1) := by decide +kernel
theorem dX9_fits_82 : decode cX9_fits 82 = .ok (.istore 8, 2) := by decide +kernel
theorem dX9_fits_84 : decode cX9_fits 84 = .ok (.iload 8, 2) := by decide +kernel
theorem dX9_fits_86 : decode cX9_fits 86 = .ok (.ifCond .lt 66, 3) := by decide +kernel
theorem dX9_fits_89 : decode cX9_fits 89 = .ok (.aload_n 0, 1) := by decide +kernel
theorem dX9_fits_90 : decode cX9_fits 90 = .ok (.getfield 43, 3) := by decide +kernel
theorem dX9_fits_93 : decode cX9_fits 93 = .ok (.iconst 0, 1) := by decide +kernel
theorem dX9_fits_94 : decode cX9_fits 94 = .ok (.invokevirtual 149, 3) := by decide +kernel
theorem dX9_fits_97 : decode cX9_fits 97 = .ok (.aload_n 0, 1) := by decide +kernel
theorem dX9_fits_98 : decode cX9_fits 98 = .ok (.getfield 43, 3) := by decide +kernel
theorem dX9_fits_101 : decode cX9_fits 101 = .ok (.getfield 153, 3) := by decide +kernel
theorem dX9_fits_104 : decode cX9_fits 104 = .ok (.iload_n 2, 1) := by decide +kernel
theorem dX9_fits_105 : decode cX9_fits 105 = .ok (.iload 5, 2) := by decide +kernel
theorem dX9_fits_107 : decode cX9_fits 107 = .ok (.iload 8, 2) := by decide +kernel
theorem dX9_fits_109 : decode cX9_fits 109 = .ok (.invokevirtual 130, 3) := by decide +kernel
theorem dX9_fits_112 : decode cX9_fits 112 = .ok (.aload_n 0, 1) := by decide +kernel
theorem dX9_fits_113 : decode cX9_fits 113 = .ok (.getfield 43, 3) := by decide +kernel
theorem dX9_fits_116 : decode cX9_fits 116 = .ok (.bipush 9, 2) := by decide +kernel
theorem dX9_fits_118 : decode cX9_fits 118 = .ok (.invokevirtual 173, 3) := by decide +kernel
theorem dX9_fits_121 : decode cX9_fits 121 = .ok (.aload_n 0, 1) := by decide +kernel
theorem dX9_fits_122 : decode cX9_fits 122 = .ok (.getfield 43, 3) := by decide +kernel
theorem dX9_fits_125 : decode cX9_fits 125 = .ok (.aload_n 0, 1) := by decide +kernel
theorem dX9_fits_126 : decode cX9_fits 126 = .ok (.getfield 82, 3) := by decide +kernel
theorem dX9_fits_129 : decode cX9_fits 129 = .ok (.iload_n 1, 1) := by decide +kernel
theorem dX9_fits_130 : decode cX9_fits 130 = .ok (.aaload, 1) := by decide +kernel
theorem dX9_fits_131 : decode cX9_fits 131 = .ok (.invokevirtual 221, 3) := by decide +kernel
theorem dX9_fits_134 : decode cX9_fits 134 = .ok (.bipush (-2), 2) := by decide +kernel
theorem dX9_fits_136 : decode cX9_fits 136 = .ok (.if_icmp .ne 10, 3) := by decide +kernel
theorem dX9_fits_139 : decode cX9_fits 139 = .ok (.iinc 6 1, 3) := by decide +kernel
theorem dX9_fits_142 : decode cX9_fits 142 = .ok (.iload 8, 2) := by decide +kernel
theorem dX9_fits_144 : decode cX9_fits 144 = .ok (.istore 7, 2) := by decide +kernel
theorem dX9_fits_146 : decode cX9_fits 146 = .ok (.iinc 8 (-1), 3) := by decide +kernel
theorem dX9_fits_149 : decode cX9_fits 149 = .ok (.goto (-65), 3) := by decide +kernel
theorem dX9_fits_152 : decode cX9_fits 152 = .ok (.iload_n 3, 1) := by decide +kernel
theorem dX9_fits_153 : decode cX9_fits 153 = .ok (.iconst 2, 1) := by decide +kernel
theorem dX9_fits_154 : decode cX9_fits 154 = .ok (.irem, 1) := by decide +kernel
theorem dX9_fits_155 : decode cX9_fits 155 = .ok (.ifCond .ne 8, 3) := by decide +kernel
theorem dX9_fits_158 : decode cX9_fits 158 = .ok (.iload 6, 2) := by decide +kernel
theorem dX9_fits_160 : decode cX9_fits 160 = .ok (.goto 5, 3) := by decide +kernel
theorem dX9_fits_163 : decode cX9_fits 163 = .ok (.iload 7, 2) := by decide +kernel
theorem dX9_fits_165 : decode cX9_fits 165 = .ok (.ireturn, 1) := by decide +kernel
theorem dX9_upside_0 : decode cX9_upside 0 = .ok (.iload_n 1, 1) := by decide +kernel
theorem dX9_upside_1 : decode cX9_upside 1 = .ok (.invokestatic 167, 3) := by decide +kernel
theorem dX9_upside_4 : decode cX9_upside 4 = .ok (.ifCond .ne 5, 3) := by decide +kernel
theorem dX9_upside_7 : decode cX9_upside 7 = .ok (.iconst (-1), 1) := by decide +kernel
theorem dX9_upside_8 : decode cX9_upside 8 = .ok (.ireturn, 1) := by decide +kernel
theorem dX9_upside_9 : decode cX9_upside 9 = .ok (.iconst 0, 1) := by decide +kernel
theorem dX9_upside_10 : decode cX9_upside 10 = .ok (.istore_n 2, 1) := by decide +kernel
theorem dX9_upside_11 : decode cX9_upside 11 = .ok (.iconst 0, 1) := by decide +kernel
theorem dX9_upside_12 : decode cX9_upside 12 = .ok (.istore_n 3, 1) := by decide +kernel
theorem dX9_upside_13 : decode cX9_upside 13 = .ok (.iconst 0, 1) := by decide +kernel
theorem dX9_upside_14 : decode cX9_upside 14 = .ok (.istore 4, 2) := by decide +kernel
theorem dX9_upside_16 : decode cX9_upside 16 = .ok (.iload 4, 2) := by decide +kernel
theorem dX9_upside_18 : decode cX9_upside 18 = .ok (.aload_n 0, 1) := by decide +kernel
theorem dX9_upside_19 : decode cX9_upside 19 = .ok (.getfield 10, 3) := by decide +kernel
theorem dX9_upside_22 : decode cX9_upside 22 = .ok (.getfield 91, 3) := by decide +kernel
theorem dX9_upside_25 : decode cX9_upside 25 = .ok (.if_icmp .ge 160, 3) := by decide +kernel
theorem dX9_upside_28 : decode cX9_upside 28 = .ok (.iload 4, 2) := by decide +kernel
theorem dX9_upside_30 : decode cX9_upside 30 = .ok (.iconst 1, 1) := by decide +kernel
theorem dX9_upside_31 : decode cX9_upside 31 = .ok (.iadd, 1) := by decide +kernel
theorem dX9_upside_32 : decode cX9_upside 32 = .ok (.istore 5, 2) := by decide +kernel
theorem dX9_upside_34 : decode cX9_upside 34 = .ok (.iload 5, 2) := by decide +kernel
theorem dX9_upside_36 : decode cX9_upside 36 = .ok (.aload_n 0, 1) := by decide +kernel
theorem dX9_upside_37 : decode cX9_upside 37 = .ok (.getfield 10, 3) := by decide +kernel
theorem dX9_upside_40 : decode cX9_upside 40 = .ok (.getfield 91, 3) := by decide +kernel
theorem dX9_upside_43 : decode cX9_upside 43 = .ok (.if_icmp .ge 136, 3) := by decide +kernel
theorem dX9_upside_46 : decode cX9_upside 46 = .ok (.aload_n 0, 1) := by decide +kernel
theorem dX9_upside_47 : decode cX9_upside 47 = .ok (.getfield 10, 3) := by decide +kernel
theorem dX9_upside_50 : decode cX9_upside 50 = .ok (.iload 4, 2) := by decide +kernel
theorem dX9_upside_52 : decode cX9_upside 52 = .ok (.invokevirtual 182, 3) := by decide +kernel
theorem dX9_upside_55 : decode cX9_upside 55 = .ok (.ifCond .eq 118, 3) := by decide +kernel
theorem dX9_upside_58 : decode cX9_upside 58 = .ok (.aload_n 0, 1) := by decide +kernel
theorem dX9_upside_59 : decode cX9_upside 59 = .ok (.getfield 10, 3) := by decide +kernel
theorem dX9_upside_62 : decode cX9_upside 62 = .ok (.iload 5, 2) := by decide +kernel
theorem dX9_upside_64 : decode cX9_upside 64 = .ok (.invokevirtual 182, 3) := by decide +kernel
theorem dX9_upside_67 : decode cX9_upside 67 = .ok (.ifCond .eq 106, 3) := by decide +kernel
theorem dX9_upside_70 : decode cX9_upside 70 = .ok (.aload_n 0, 1) := by decide +kernel
theorem dX9_upside_71 : decode cX9_upside 71 = .ok (.getfield 34, 3) := by decide +kernel
theorem dX9_upside_74 : decode cX9_upside 74 = .ok (.aload_n 0, 1) := by decide +kernel
theorem dX9_upside_75 : decode cX9_upside 75 = .ok (.getfield 10, 3) := by decide +kernel
theorem dX9_upside_78 : decode cX9_upside 78 = .ok (.iload 4, 2) := by decide +kernel
theorem dX9_upside_80 : decode cX9_upside 80 = .ok (.invokevirtual 154, 3) := by decide +kernel
theorem dX9_upside_83 : decode cX9_upside 83 = .ok (.aload_n 0, 1) := by decide +kernel
theorem dX9_upside_84 : decode cX9_upside 84 = .ok (.getfield 34, 3) := by decide +kernel
theorem dX9_upside_87 : decode cX9_upside 87 = .ok (.aload_n 0, 1) := by decide +kernel
theorem dX9_upside_88 : decode cX9_upside 88 = .ok (.getfield 10, 3) := by decide +kernel
theorem dX9_upside_91 : decode cX9_upside 91 = .ok (.iload 5, 2) := by decide +kernel
theorem dX9_upside_93 : decode cX9_upside 93 = .ok (.invokevirtual 154, 3) := by decide +kernel
theorem dX9_upside_96 : decode cX9_upside 96 = .ok (.isub, 1) := by decide +kernel
theorem dX9_upside_97 : decode cX9_upside 97 = .ok (.istore 6, 2) := by decide +kernel
theorem dX9_upside_99 : decode cX9_upside 99 = .ok (.iload 6, 2) := by decide +kernel
theorem dX9_upside_101 : decode cX9_upside 101 = .ok (.ifCond .lt 7, 3) := by decide +kernel
theorem dX9_upside_104 : decode cX9_upside 104 = .ok (.iconst 1, 1) := by decide +kernel
theorem dX9_upside_105 : decode cX9_upside 105 = .ok (.goto 4, 3) := by decide +kernel
theorem dX9_upside_108 : decode cX9_upside 108 = .ok (.iconst 0, 1) := by decide +kernel
theorem dX9_upside_109 : decode cX9_upside 109 = .ok (.istore 7, 2) := by decide +kernel
theorem dX9_upside_111 : decode cX9_upside 111 = .ok (.iload_n 3, 1) := by decide +kernel
theorem dX9_upside_112 : decode cX9_upside 112 = .ok (.iload 6, 2) := by decide +kernel
theorem dX9_upside_114 : decode cX9_upside 114 = .ok (.ifCond .ne 7, 3) := by decide +kernel
theorem dX9_upside_117 : decode cX9_upside 117 = .ok (.iconst 1, 1) := by decide +kernel
theorem dX9_upside_118 : decode cX9_upside 118 = .ok (.goto 4, 3) := by decide +kernel
theorem dX9_upside_121 : decode cX9_upside 121 = .ok (.iconst 0, 1) := by decide +kernel
theorem dX9_upside_122 : decode cX9_upside 122 = .ok (.iadd, 1) := by decide +kernel
theorem dX9_upside_123 : decode cX9_upside 123 = .ok (.istore_n 3, 1) := by decide +kernel
theorem dX9_upside_124 : decode cX9_upside 124 = .ok (.aload_n 0, 1) := by decide +kernel
theorem dX9_upside_125 : decode cX9_upside 125 = .ok (.getfield 10, 3) := by decide +kernel
theorem dX9_upside_128 : decode cX9_upside 128 = .ok (.getfield 158, 3) := by decide +kernel
theorem dX9_upside_131 : decode cX9_upside 131 = .ok (.iload 4, 2) := by decide +kernel
theorem dX9_upside_133 : decode cX9_upside 133 = .ok (.iaload, 1) := by decide +kernel
theorem dX9_upside_134 : decode cX9_upside 134 = .ok (.aload_n 0, 1) := by decide +kernel
theorem dX9_upside_135 : decode cX9_upside 135 = .ok (.getfield 10, 3) := by decide +kernel
theorem dX9_upside_138 : decode cX9_upside 138 = .ok (.getfield 158, 3) := by decide +kernel
theorem dX9_upside_141 : decode cX9_upside 141 = .ok (.iload 5, 2) := by decide +kernel
theorem dX9_upside_143 : decode cX9_upside 143 = .ok (.iaload, 1) := by decide +kernel
theorem dX9_upside_144 : decode cX9_upside 144 = .ok (.isub, 1) := by decide +kernel
theorem dX9_upside_145 : decode cX9_upside 145 = .ok (.istore 8, 2) := by decide +kernel
theorem dX9_upside_147 : decode cX9_upside 147 = .ok (.iload_n 2, 1) := by decide +kernel
theorem dX9_upside_148 : decode cX9_upside 148 = .ok (.iload 7, 2) := by decide +kernel
theorem dX9_upside_150 : decode cX9_upside 150 = .ok (.ifCond .eq 11, 3) := by decide +kernel
theorem dX9_upside_153 : decode cX9_upside 153 = .ok (.iload 8, 2) := by decide +kernel
theorem dX9_upside_155 : decode cX9_upside 155 = .ok (.ifCond .ge 15, 3) := by decide +kernel
theorem dX9_upside_158 : decode cX9_upside 158 = .ok (.goto 8, 3) := by decide +kernel
theorem dX9_upside_161 : decode cX9_upside 161 = .ok (.iload 8, 2) := by decide +kernel
theorem dX9_upside_163 : decode cX9_upside 163 = .ok (.ifCond .le 7, 3) := by decide +kernel
theorem dX9_upside_166 : decode cX9_upside 166 = .ok (.iconst 1, 1) := by decide +kernel
theorem dX9_upside_167 : decode cX9_upside 167 = .ok (.goto 4, 3) := by decide +kernel
theorem dX9_upside_170 : decode cX9_upside 170 = .ok (.iconst 0, 1) := by decide +kernel
theorem dX9_upside_171 : decode cX9_upside 171 = .ok (.iadd, 1) := by decide +kernel
theorem dX9_upside_172 : decode cX9_upside 172 = .ok (.istore_n 2, 1) := by decide +kernel
theorem dX9_upside_173 : decode cX9_upside 173 = .ok (.iinc 5 1, 3) := by decide +kernel
theorem dX9_upside_176 : decode cX9_upside 176 = .ok (.goto (-142), 3) := by decide +kernel
theorem dX9_upside_179 : decode cX9_upside 179 = .ok (.iinc 4 1, 3) := by decide +kernel
theorem dX9_upside_182 : decode cX9_upside 182 = .ok (.goto (-166), 3) := by decide +kernel
theorem dX9_upside_185 : decode cX9_upside 185 = .ok (.iload_n 1, 1) := by decide +kernel
theorem dX9_upside_186 : decode cX9_upside 186 = .ok (.ifCond .ne 7, 3) := by decide +kernel
theorem dX9_upside_189 : decode cX9_upside 189 = .ok (.iload_n 2, 1) := by decide +kernel
theorem dX9_upside_190 : decode cX9_upside 190 = .ok (.goto 4, 3) := by decide +kernel
theorem dX9_upside_193 : decode cX9_upside 193 = .ok (.iload_n 3, 1) := by decide +kernel
theorem dX9_upside_194 : decode cX9_upside 194 = .ok (.ireturn, 1) := by decide +kernel
theorem dX9_byTurns_0 : decode cX9_byTurns 0 = .ok (.iload_n 1, 1) := by decide +kernel
theorem dX9_byTurns_1 : decode cX9_byTurns 1 = .ok (.bipush 10, 2) := by decide +kernel
theorem dX9_byTurns_3 : decode cX9_byTurns 3 = .ok (.idiv, 1) := by decide +kernel
theorem dX9_byTurns_4 : decode cX9_byTurns 4 = .ok (.istore 4, 2) := by decide +kernel
theorem dX9_byTurns_6 : decode cX9_byTurns 6 = .ok (.iload_n 1, 1) := by decide +kernel
theorem dX9_byTurns_7 : decode cX9_byTurns 7 = .ok (.bipush 10, 2) := by decide +kernel
theorem dX9_byTurns_9 : decode cX9_byTurns 9 = .ok (.irem, 1) := by decide +kernel
theorem dX9_byTurns_10 : decode cX9_byTurns 10 = .ok (.istore 5, 2) := by decide +kernel
theorem dX9_byTurns_12 : decode cX9_byTurns 12 = .ok (.aload_n 0, 1) := by decide +kernel
theorem dX9_byTurns_13 : decode cX9_byTurns 13 = .ok (.getfield 10, 3) := by decide +kernel
theorem dX9_byTurns_16 : decode cX9_byTurns 16 = .ok (.iload 4, 2) := by decide +kernel
theorem dX9_byTurns_18 : decode cX9_byTurns 18 = .ok (.invokevirtual 182, 3) := by decide +kernel
theorem dX9_byTurns_21 : decode cX9_byTurns 21 = .ok (.ifCond .eq 39, 3) := by decide +kernel
theorem dX9_byTurns_24 : decode cX9_byTurns 24 = .ok (.aload_n 0, 1) := by decide +kernel
theorem dX9_byTurns_25 : decode cX9_byTurns 25 = .ok (.getfield 10, 3) := by decide +kernel
theorem dX9_byTurns_28 : decode cX9_byTurns 28 = .ok (.iload 5, 2) := by decide +kernel
theorem dX9_byTurns_30 : decode cX9_byTurns 30 = .ok (.invokevirtual 182, 3) := by decide +kernel
theorem dX9_byTurns_33 : decode cX9_byTurns 33 = .ok (.ifCond .eq 27, 3) := by decide +kernel
theorem dX9_byTurns_36 : decode cX9_byTurns 36 = .ok (.iload 4, 2) := by decide +kernel
theorem dX9_byTurns_38 : decode cX9_byTurns 38 = .ok (.iload 5, 2) := by decide +kernel
theorem dX9_byTurns_40 : decode cX9_byTurns 40 = .ok (.if_icmp .eq 20, 3) := by decide +kernel
theorem dX9_byTurns_43 : decode cX9_byTurns 43 = .ok (.iload_n 2, 1) := by decide +kernel
theorem dX9_byTurns_44 : decode cX9_byTurns 44 = .ok (.iconst 1, 1) := by decide +kernel
theorem dX9_byTurns_45 : decode cX9_byTurns 45 = .ok (.if_icmp .lt 15, 3) := by decide +kernel
theorem dX9_byTurns_48 : decode cX9_byTurns 48 = .ok (.iload_n 2, 1) := by decide +kernel
theorem dX9_byTurns_49 : decode cX9_byTurns 49 = .ok (.iconst 5, 1) := by decide +kernel
theorem dX9_byTurns_50 : decode cX9_byTurns 50 = .ok (.if_icmp .gt 10, 3) := by decide +kernel
theorem dX9_byTurns_53 : decode cX9_byTurns 53 = .ok (.iload_n 3, 1) := by decide +kernel
theorem dX9_byTurns_54 : decode cX9_byTurns 54 = .ok (.invokestatic 167, 3) := by decide +kernel
theorem dX9_byTurns_57 : decode cX9_byTurns 57 = .ok (.ifCond .ne 6, 3) := by decide +kernel
theorem dX9_byTurns_60 : decode cX9_byTurns 60 = .ok (.ldc 224, 2) := by decide +kernel
theorem dX9_byTurns_62 : decode cX9_byTurns 62 = .ok (.ireturn, 1) := by decide +kernel
theorem dX9_byTurns_63 : decode cX9_byTurns 63 = .ok (.aload_n 0, 1) := by decide +kernel
theorem dX9_byTurns_64 : decode cX9_byTurns 64 = .ok (.getfield 52, 3) := by decide +kernel
theorem dX9_byTurns_67 : decode cX9_byTurns 67 = .ok (.iload 4, 2) := by decide +kernel
theorem dX9_byTurns_69 : decode cX9_byTurns 69 = .ok (.iload 5, 2) := by decide +kernel
theorem dX9_byTurns_71 : decode cX9_byTurns 71 = .ok (.invokevirtual 225, 3) := by decide +kernel
theorem dX9_byTurns_74 : decode cX9_byTurns 74 = .ok (.iconst 2, 1) := by decide +kernel
theorem dX9_byTurns_75 : decode cX9_byTurns 75 = .ok (.istore 6, 2) := by decide +kernel
theorem dX9_byTurns_77 : decode cX9_byTurns 77 = .ok (.aload_n 0, 1) := by decide +kernel
theorem dX9_byTurns_78 : decode cX9_byTurns 78 = .ok (.getfield 52, 3) := by decide +kernel
theorem dX9_byTurns_81 : decode cX9_byTurns 81 = .ok (.aload_n 0, 1) := by decide +kernel
theorem dX9_byTurns_82 : decode cX9_byTurns 82 = .ok (.getfield 10, 3) := by decide +kernel
theorem dX9_byTurns_85 : decode cX9_byTurns 85 = .ok (.getfield 193, 3) := by decide +kernel
theorem dX9_byTurns_88 : decode cX9_byTurns 88 = .ok (.iload 4, 2) := by decide +kernel
theorem dX9_byTurns_90 : decode cX9_byTurns 90 = .ok (.iaload, 1) := by decide +kernel
theorem dX9_byTurns_91 : decode cX9_byTurns 91 = .ok (.aload_n 0, 1) := by decide +kernel
theorem dX9_byTurns_92 : decode cX9_byTurns 92 = .ok (.getfield 10, 3) := by decide +kernel
theorem dX9_byTurns_95 : decode cX9_byTurns 95 = .ok (.getfield 193, 3) := by decide +kernel
theorem dX9_byTurns_98 : decode cX9_byTurns 98 = .ok (.iload 5, 2) := by decide +kernel
theorem dX9_byTurns_100 : decode cX9_byTurns 100 = .ok (.iaload, 1) := by decide +kernel
theorem dX9_byTurns_101 : decode cX9_byTurns 101 = .ok (.iload_n 2, 1) := by decide +kernel
theorem dX9_byTurns_102 : decode cX9_byTurns 102 = .ok (.iconst 1, 1) := by decide +kernel
theorem dX9_byTurns_103 : decode cX9_byTurns 103 = .ok (.isub, 1) := by decide +kernel
theorem dX9_byTurns_104 : decode cX9_byTurns 104 = .ok (.iconst 0, 1) := by decide +kernel
theorem dX9_byTurns_105 : decode cX9_byTurns 105 = .ok (.invokevirtual 229, 3) := by decide +kernel
theorem dX9_byTurns_108 : decode cX9_byTurns 108 = .ok (.istore 7, 2) := by decide +kernel
theorem dX9_byTurns_110 : decode cX9_byTurns 110 = .ok (.iconst 0, 1) := by decide +kernel
theorem dX9_byTurns_111 : decode cX9_byTurns 111 = .ok (.istore 8, 2) := by decide +kernel
theorem dX9_byTurns_113 : decode cX9_byTurns 113 = .ok (.iload 8, 2) := by decide +kernel
theorem dX9_byTurns_115 : decode cX9_byTurns 115 = .ok (.iconst 2, 1) := by decide +kernel
theorem dX9_byTurns_116 : decode cX9_byTurns 116 = .ok (.if_icmp .ge 62, 3) := by decide +kernel
theorem dX9_byTurns_119 : decode cX9_byTurns 119 = .ok (.aload_n 0, 1) := by decide +kernel
theorem dX9_byTurns_120 : decode cX9_byTurns 120 = .ok (.getfield 52, 3) := by decide +kernel
theorem dX9_byTurns_123 : decode cX9_byTurns 123 = .ok (.aload_n 0, 1) := by decide +kernel
theorem dX9_byTurns_124 : decode cX9_byTurns 124 = .ok (.getfield 10, 3) := by decide +kernel
theorem dX9_byTurns_127 : decode cX9_byTurns 127 = .ok (.getfield 193, 3) := by decide +kernel
theorem dX9_byTurns_130 : decode cX9_byTurns 130 = .ok (.iload 4, 2) := by decide +kernel
theorem dX9_byTurns_132 : decode cX9_byTurns 132 = .ok (.iaload, 1) := by decide +kernel
theorem dX9_byTurns_133 : decode cX9_byTurns 133 = .ok (.iload 8, 2) := by decide +kernel
theorem dX9_byTurns_135 : decode cX9_byTurns 135 = .ok (.invokestatic 233, 3) := by decide +kernel
theorem dX9_byTurns_138 : decode cX9_byTurns 138 = .ok (.aload_n 0, 1) := by decide +kernel
theorem dX9_byTurns_139 : decode cX9_byTurns 139 = .ok (.getfield 10, 3) := by decide +kernel
theorem dX9_byTurns_142 : decode cX9_byTurns 142 = .ok (.getfield 193, 3) := by decide +kernel
theorem dX9_byTurns_145 : decode cX9_byTurns 145 = .ok (.iload 5, 2) := by decide +kernel
theorem dX9_byTurns_147 : decode cX9_byTurns 147 = .ok (.iaload, 1) := by decide +kernel
theorem dX9_byTurns_148 : decode cX9_byTurns 148 = .ok (.iload_n 2, 1) := by decide +kernel
theorem dX9_byTurns_149 : decode cX9_byTurns 149 = .ok (.iconst 1, 1) := by decide +kernel
theorem dX9_byTurns_150 : decode cX9_byTurns 150 = .ok (.isub, 1) := by decide +kernel
theorem dX9_byTurns_151 : decode cX9_byTurns 151 = .ok (.iconst 0, 1) := by decide +kernel
theorem dX9_byTurns_152 : decode cX9_byTurns 152 = .ok (.invokevirtual 229, 3) := by decide +kernel
theorem dX9_byTurns_155 : decode cX9_byTurns 155 = .ok (.istore 9, 2) := by decide +kernel
theorem dX9_byTurns_157 : decode cX9_byTurns 157 = .ok (.iload 9, 2) := by decide +kernel
theorem dX9_byTurns_159 : decode cX9_byTurns 159 = .ok (.iload 7, 2) := by decide +kernel
theorem dX9_byTurns_161 : decode cX9_byTurns 161 = .ok (.if_icmp .le 11, 3) := by decide +kernel
theorem dX9_byTurns_164 : decode cX9_byTurns 164 = .ok (.iload 9, 2) := by decide +kernel
theorem dX9_byTurns_166 : decode cX9_byTurns 166 = .ok (.istore 7, 2) := by decide +kernel
theorem dX9_byTurns_168 : decode cX9_byTurns 168 = .ok (.iload 8, 2) := by decide +kernel
theorem dX9_byTurns_170 : decode cX9_byTurns 170 = .ok (.istore 6, 2) := by decide +kernel
theorem dX9_byTurns_172 : decode cX9_byTurns 172 = .ok (.iinc 8 1, 3) := by decide +kernel
theorem dX9_byTurns_175 : decode cX9_byTurns 175 = .ok (.goto (-62), 3) := by decide +kernel
theorem dX9_byTurns_178 : decode cX9_byTurns 178 = .ok (.iload_n 3, 1) := by decide +kernel
theorem dX9_byTurns_179 : decode cX9_byTurns 179 = .ok (.ifCond .ne 8, 3) := by decide +kernel
theorem dX9_byTurns_182 : decode cX9_byTurns 182 = .ok (.iload 7, 2) := by decide +kernel
theorem dX9_byTurns_184 : decode cX9_byTurns 184 = .ok (.goto 5, 3) := by decide +kernel
theorem dX9_byTurns_187 : decode cX9_byTurns 187 = .ok (.iload 6, 2) := by decide +kernel
theorem dX9_byTurns_189 : decode cX9_byTurns 189 = .ok (.ireturn, 1) := by decide +kernel
theorem dX9_drawn_0 : decode cX9_drawn 0 = .ok (.iload_n 2, 1) := by decide +kernel
theorem dX9_drawn_1 : decode cX9_drawn 1 = .ok (.sipush 10000, 3) := by decide +kernel
theorem dX9_drawn_4 : decode cX9_drawn 4 = .ok (.idiv, 1) := by decide +kernel
theorem dX9_drawn_5 : decode cX9_drawn 5 = .ok (.istore 4, 2) := by decide +kernel
theorem dX9_drawn_7 : decode cX9_drawn 7 = .ok (.iload_n 2, 1) := by decide +kernel
theorem dX9_drawn_8 : decode cX9_drawn 8 = .ok (.bipush 100, 2) := by decide +kernel
theorem dX9_drawn_10 : decode cX9_drawn 10 = .ok (.idiv, 1) := by decide +kernel
theorem dX9_drawn_11 : decode cX9_drawn 11 = .ok (.bipush 100, 2) := by decide +kernel
theorem dX9_drawn_13 : decode cX9_drawn 13 = .ok (.irem, 1) := by decide +kernel
theorem dX9_drawn_14 : decode cX9_drawn 14 = .ok (.istore 5, 2) := by decide +kernel
theorem dX9_drawn_16 : decode cX9_drawn 16 = .ok (.iload_n 2, 1) := by decide +kernel
theorem dX9_drawn_17 : decode cX9_drawn 17 = .ok (.bipush 100, 2) := by decide +kernel
theorem dX9_drawn_19 : decode cX9_drawn 19 = .ok (.irem, 1) := by decide +kernel
theorem dX9_drawn_20 : decode cX9_drawn 20 = .ok (.istore 6, 2) := by decide +kernel
theorem dX9_drawn_22 : decode cX9_drawn 22 = .ok (.iload 4, 2) := by decide +kernel
theorem dX9_drawn_24 : decode cX9_drawn 24 = .ok (.iconst 1, 1) := by decide +kernel
theorem dX9_drawn_25 : decode cX9_drawn 25 = .ok (.if_icmp .lt 34, 3) := by decide +kernel
theorem dX9_drawn_28 : decode cX9_drawn 28 = .ok (.iload 4, 2) := by decide +kernel
theorem dX9_drawn_30 : decode cX9_drawn 30 = .ok (.bipush 30, 2) := by decide +kernel
theorem dX9_drawn_32 : decode cX9_drawn 32 = .ok (.if_icmp .gt 27, 3) := by decide +kernel
theorem dX9_drawn_35 : decode cX9_drawn 35 = .ok (.iload 5, 2) := by decide +kernel
theorem dX9_drawn_37 : decode cX9_drawn 37 = .ok (.iconst 1, 1) := by decide +kernel
theorem dX9_drawn_38 : decode cX9_drawn 38 = .ok (.if_icmp .lt 21, 3) := by decide +kernel
theorem dX9_drawn_41 : decode cX9_drawn 41 = .ok (.iload 5, 2) := by decide +kernel
theorem dX9_drawn_43 : decode cX9_drawn 43 = .ok (.bipush 60, 2) := by decide +kernel
theorem dX9_drawn_45 : decode cX9_drawn 45 = .ok (.if_icmp .gt 14, 3) := by decide +kernel
theorem dX9_drawn_48 : decode cX9_drawn 48 = .ok (.iload 6, 2) := by decide +kernel
theorem dX9_drawn_50 : decode cX9_drawn 50 = .ok (.bipush 12, 2) := by decide +kernel
theorem dX9_drawn_52 : decode cX9_drawn 52 = .ok (.if_icmp .gt 7, 3) := by decide +kernel
theorem dX9_drawn_55 : decode cX9_drawn 55 = .ok (.iconst 1, 1) := by decide +kernel
theorem dX9_drawn_56 : decode cX9_drawn 56 = .ok (.goto 4, 3) := by decide +kernel
theorem dX9_drawn_59 : decode cX9_drawn 59 = .ok (.iconst 0, 1) := by decide +kernel
theorem dX9_drawn_60 : decode cX9_drawn 60 = .ok (.istore 7, 2) := by decide +kernel
theorem dX9_drawn_62 : decode cX9_drawn 62 = .ok (.iload 7, 2) := by decide +kernel
theorem dX9_drawn_64 : decode cX9_drawn 64 = .ok (.ifCond .eq 19, 3) := by decide +kernel
theorem dX9_drawn_67 : decode cX9_drawn 67 = .ok (.iload_n 3, 1) := by decide +kernel
theorem dX9_drawn_68 : decode cX9_drawn 68 = .ok (.iconst (-1), 1) := by decide +kernel
theorem dX9_drawn_69 : decode cX9_drawn 69 = .ok (.if_icmp .eq 16, 3) := by decide +kernel
theorem dX9_drawn_72 : decode cX9_drawn 72 = .ok (.aload_n 0, 1) := by decide +kernel
theorem dX9_drawn_73 : decode cX9_drawn 73 = .ok (.getfield 10, 3) := by decide +kernel
theorem dX9_drawn_76 : decode cX9_drawn 76 = .ok (.iload_n 3, 1) := by decide +kernel
theorem dX9_drawn_77 : decode cX9_drawn 77 = .ok (.invokevirtual 114, 3) := by decide +kernel
theorem dX9_drawn_80 : decode cX9_drawn 80 = .ok (.ifCond .ne 5, 3) := by decide +kernel
theorem dX9_drawn_83 : decode cX9_drawn 83 = .ok (.iconst (-1), 1) := by decide +kernel
theorem dX9_drawn_84 : decode cX9_drawn 84 = .ok (.ireturn, 1) := by decide +kernel
theorem dX9_drawn_85 : decode cX9_drawn 85 = .ok (.aload_n 0, 1) := by decide +kernel
theorem dX9_drawn_86 : decode cX9_drawn 86 = .ok (.getfield 43, 3) := by decide +kernel
theorem dX9_drawn_89 : decode cX9_drawn 89 = .ok (.iload_n 1, 1) := by decide +kernel
theorem dX9_drawn_90 : decode cX9_drawn 90 = .ok (.putfield 236, 3) := by decide +kernel
theorem dX9_drawn_93 : decode cX9_drawn 93 = .ok (.iconst 0, 1) := by decide +kernel
theorem dX9_drawn_94 : decode cX9_drawn 94 = .ok (.istore 8, 2) := by decide +kernel
theorem dX9_drawn_96 : decode cX9_drawn 96 = .ok (.iconst 0, 1) := by decide +kernel
theorem dX9_drawn_97 : decode cX9_drawn 97 = .ok (.istore 9, 2) := by decide +kernel
theorem dX9_drawn_99 : decode cX9_drawn 99 = .ok (.iload 9, 2) := by decide +kernel
theorem dX9_drawn_101 : decode cX9_drawn 101 = .ok (.iload 4, 2) := by decide +kernel
theorem dX9_drawn_103 : decode cX9_drawn 103 = .ok (.if_icmp .ge 66, 3) := by decide +kernel
theorem dX9_drawn_106 : decode cX9_drawn 106 = .ok (.aload_n 0, 1) := by decide +kernel
theorem dX9_drawn_107 : decode cX9_drawn 107 = .ok (.getfield 43, 3) := by decide +kernel
theorem dX9_drawn_110 : decode cX9_drawn 110 = .ok (.iload 5, 2) := by decide +kernel
theorem dX9_drawn_112 : decode cX9_drawn 112 = .ok (.iload 6, 2) := by decide +kernel
theorem dX9_drawn_114 : decode cX9_drawn 114 = .ok (.invokevirtual 239, 3) := by decide +kernel
theorem dX9_drawn_117 : decode cX9_drawn 117 = .ok (.iload_n 3, 1) := by decide +kernel
theorem dX9_drawn_118 : decode cX9_drawn 118 = .ok (.iconst (-1), 1) := by decide +kernel
theorem dX9_drawn_119 : decode cX9_drawn 119 = .ok (.if_icmp .ne 21, 3) := by decide +kernel
theorem dX9_drawn_122 : decode cX9_drawn 122 = .ok (.iload 8, 2) := by decide +kernel
theorem dX9_drawn_124 : decode cX9_drawn 124 = .ok (.aload_n 0, 1) := by decide +kernel
theorem dX9_drawn_125 : decode cX9_drawn 125 = .ok (.getfield 43, 3) := by decide +kernel
theorem dX9_drawn_128 : decode cX9_drawn 128 = .ok (.getfield 153, 3) := by decide +kernel
theorem dX9_drawn_131 : decode cX9_drawn 131 = .ok (.invokevirtual 242, 3) := by decide +kernel
theorem dX9_drawn_134 : decode cX9_drawn 134 = .ok (.iadd, 1) := by decide +kernel
theorem dX9_drawn_135 : decode cX9_drawn 135 = .ok (.istore 8, 2) := by decide +kernel
theorem dX9_drawn_137 : decode cX9_drawn 137 = .ok (.goto 26, 3) := by decide +kernel
theorem dX9_drawn_140 : decode cX9_drawn 140 = .ok (.aload_n 0, 1) := by decide +kernel
theorem dX9_drawn_141 : decode cX9_drawn 141 = .ok (.getfield 34, 3) := by decide +kernel
theorem dX9_drawn_144 : decode cX9_drawn 144 = .ok (.aload_n 0, 1) := by decide +kernel
theorem dX9_drawn_145 : decode cX9_drawn 145 = .ok (.getfield 43, 3) := by decide +kernel
theorem dX9_drawn_148 : decode cX9_drawn 148 = .ok (.getfield 153, 3) := by decide +kernel
theorem dX9_drawn_151 : decode cX9_drawn 151 = .ok (.bipush 9, 2) := by decide +kernel
theorem dX9_drawn_153 : decode cX9_drawn 153 = .ok (.invokevirtual 164, 3) := by decide +kernel
theorem dX9_drawn_156 : decode cX9_drawn 156 = .ok (.iload_n 3, 1) := by decide +kernel
theorem dX9_drawn_157 : decode cX9_drawn 157 = .ok (.if_icmp .ne 6, 3) := by decide +kernel
theorem dX9_drawn_160 : decode cX9_drawn 160 = .ok (.iinc 8 1, 3) := by decide +kernel
theorem dX9_drawn_163 : decode cX9_drawn 163 = .ok (.iinc 9 1, 3) := by decide +kernel
theorem dX9_drawn_166 : decode cX9_drawn 166 = .ok (.goto (-67), 3) := by decide +kernel
theorem dX9_drawn_169 : decode cX9_drawn 169 = .ok (.iload 8, 2) := by decide +kernel
theorem dX9_drawn_171 : decode cX9_drawn 171 = .ok (.ireturn, 1) := by decide +kernel
theorem dX9_slips_0 : decode cX9_slips 0 = .ok (.aload_n 0, 1) := by decide +kernel
theorem dX9_slips_1 : decode cX9_slips 1 = .ok (.getfield 10, 3) := by decide +kernel
theorem dX9_slips_4 : decode cX9_slips 4 = .ok (.iload_n 1, 1) := by decide +kernel
theorem dX9_slips_5 : decode cX9_slips 5 = .ok (.invokevirtual 114, 3) := by decide +kernel
theorem dX9_slips_8 : decode cX9_slips 8 = .ok (.ifCond .eq 12, 3) := by decide +kernel
theorem dX9_slips_11 : decode cX9_slips 11 = .ok (.iload_n 2, 1) := by decide +kernel
theorem dX9_slips_12 : decode cX9_slips 12 = .ok (.bipush 7, 2) := by decide +kernel
theorem dX9_slips_14 : decode cX9_slips 14 = .ok (.invokestatic 87, 3) := by decide +kernel
theorem dX9_slips_17 : decode cX9_slips 17 = .ok (.ifCond .ne 5, 3) := by decide +kernel
theorem dX9_slips_20 : decode cX9_slips 20 = .ok (.iconst (-1), 1) := by decide +kernel
theorem dX9_slips_21 : decode cX9_slips 21 = .ok (.ireturn, 1) := by decide +kernel
theorem dX9_slips_22 : decode cX9_slips 22 = .ok (.aload_n 0, 1) := by decide +kernel
theorem dX9_slips_23 : decode cX9_slips 23 = .ok (.getfield 10, 3) := by decide +kernel
theorem dX9_slips_26 : decode cX9_slips 26 = .ok (.getfield 117, 3) := by decide +kernel
theorem dX9_slips_29 : decode cX9_slips 29 = .ok (.bipush 12, 2) := by decide +kernel
theorem dX9_slips_31 : decode cX9_slips 31 = .ok (.if_icmp .lt 6, 3) := by decide +kernel
theorem dX9_slips_34 : decode cX9_slips 34 = .ok (.bipush (-3), 2) := by decide +kernel
theorem dX9_slips_36 : decode cX9_slips 36 = .ok (.ireturn, 1) := by decide +kernel
theorem dX9_slips_37 : decode cX9_slips 37 = .ok (.aload_n 0, 1) := by decide +kernel
theorem dX9_slips_38 : decode cX9_slips 38 = .ok (.getfield 10, 3) := by decide +kernel
theorem dX9_slips_41 : decode cX9_slips 41 = .ok (.iload_n 1, 1) := by decide +kernel
theorem dX9_slips_42 : decode cX9_slips 42 = .ok (.invokevirtual 182, 3) := by decide +kernel
theorem dX9_slips_45 : decode cX9_slips 45 = .ok (.ifCond .ne 6, 3) := by decide +kernel
theorem dX9_slips_48 : decode cX9_slips 48 = .ok (.bipush (-5), 2) := by decide +kernel
theorem dX9_slips_50 : decode cX9_slips 50 = .ok (.ireturn, 1) := by decide +kernel
theorem dX9_slips_51 : decode cX9_slips 51 = .ok (.aload_n 0, 1) := by decide +kernel
theorem dX9_slips_52 : decode cX9_slips 52 = .ok (.getfield 56, 3) := by decide +kernel
theorem dX9_slips_55 : decode cX9_slips 55 = .ok (.iconst 0, 1) := by decide +kernel
theorem dX9_slips_56 : decode cX9_slips 56 = .ok (.dup2, 1) := by decide +kernel
theorem dX9_slips_57 : decode cX9_slips 57 = .ok (.iaload, 1) := by decide +kernel
theorem dX9_slips_58 : decode cX9_slips 58 = .ok (.iconst 1, 1) := by decide +kernel
theorem dX9_slips_59 : decode cX9_slips 59 = .ok (.iadd, 1) := by decide +kernel
theorem dX9_slips_60 : decode cX9_slips 60 = .ok (.iastore, 1) := by decide +kernel
theorem dX9_slips_61 : decode cX9_slips 61 = .ok (.aload_n 0, 1) := by decide +kernel
theorem dX9_slips_62 : decode cX9_slips 62 = .ok (.getfield 10, 3) := by decide +kernel
theorem dX9_slips_65 : decode cX9_slips 65 = .ok (.iload_n 1, 1) := by decide +kernel
theorem dX9_slips_66 : decode cX9_slips 66 = .ok (.aload_n 0, 1) := by decide +kernel
theorem dX9_slips_67 : decode cX9_slips 67 = .ok (.getfield 10, 3) := by decide +kernel
theorem dX9_slips_70 : decode cX9_slips 70 = .ok (.getfield 245, 3) := by decide +kernel
theorem dX9_slips_73 : decode cX9_slips 73 = .ok (.iload_n 2, 1) := by decide +kernel
theorem dX9_slips_74 : decode cX9_slips 74 = .ok (.invokevirtual 120, 3) := by decide +kernel
theorem dX9_slips_77 : decode cX9_slips 77 = .ok (.ireturn, 1) := by decide +kernel
theorem dX9_minute_0 : decode cX9_minute 0 = .ok (.aload_n 0, 1) := by decide +kernel
theorem dX9_minute_1 : decode cX9_minute 1 = .ok (.getfield 56, 3) := by decide +kernel
theorem dX9_minute_4 : decode cX9_minute 4 = .ok (.iconst 1, 1) := by decide +kernel
theorem dX9_minute_5 : decode cX9_minute 5 = .ok (.dup2, 1) := by decide +kernel
theorem dX9_minute_6 : decode cX9_minute 6 = .ok (.iaload, 1) := by decide +kernel
theorem dX9_minute_7 : decode cX9_minute 7 = .ok (.iconst 1, 1) := by decide +kernel
theorem dX9_minute_8 : decode cX9_minute 8 = .ok (.iadd, 1) := by decide +kernel
theorem dX9_minute_9 : decode cX9_minute 9 = .ok (.iastore, 1) := by decide +kernel
theorem dX9_minute_10 : decode cX9_minute 10 = .ok (.aload_n 0, 1) := by decide +kernel
theorem dX9_minute_11 : decode cX9_minute 11 = .ok (.getfield 10, 3) := by decide +kernel
theorem dX9_minute_14 : decode cX9_minute 14 = .ok (.invokevirtual 170, 3) := by decide +kernel
theorem dX9_minute_17 : decode cX9_minute 17 = .ok (.aload_n 0, 1) := by decide +kernel
theorem dX9_minute_18 : decode cX9_minute 18 = .ok (.getfield 10, 3) := by decide +kernel
theorem dX9_minute_21 : decode cX9_minute 21 = .ok (.getfield 245, 3) := by decide +kernel
theorem dX9_minute_24 : decode cX9_minute 24 = .ok (.ireturn, 1) := by decide +kernel
theorem dX9_goes_0 : decode cX9_goes 0 = .ok (.aload_n 0, 1) := by decide +kernel
theorem dX9_goes_1 : decode cX9_goes 1 = .ok (.getfield 34, 3) := by decide +kernel
theorem dX9_goes_4 : decode cX9_goes 4 = .ok (.aload_n 0, 1) := by decide +kernel
theorem dX9_goes_5 : decode cX9_goes 5 = .ok (.getfield 10, 3) := by decide +kernel
theorem dX9_goes_8 : decode cX9_goes 8 = .ok (.bipush 9, 2) := by decide +kernel
theorem dX9_goes_10 : decode cX9_goes 10 = .ok (.invokevirtual 164, 3) := by decide +kernel
theorem dX9_goes_13 : decode cX9_goes 13 = .ok (.istore_n 1, 1) := by decide +kernel
theorem dX9_goes_14 : decode cX9_goes 14 = .ok (.aload_n 0, 1) := by decide +kernel
theorem dX9_goes_15 : decode cX9_goes 15 = .ok (.getfield 10, 3) := by decide +kernel
theorem dX9_goes_18 : decode cX9_goes 18 = .ok (.iload_n 1, 1) := by decide +kernel
theorem dX9_goes_19 : decode cX9_goes 19 = .ok (.invokevirtual 114, 3) := by decide +kernel
theorem dX9_goes_22 : decode cX9_goes 22 = .ok (.ifCond .ne 6, 3) := by decide +kernel
theorem dX9_goes_25 : decode cX9_goes 25 = .ok (.bipush (-2), 2) := by decide +kernel
theorem dX9_goes_27 : decode cX9_goes 27 = .ok (.ireturn, 1) := by decide +kernel
theorem dX9_goes_28 : decode cX9_goes 28 = .ok (.aload_n 0, 1) := by decide +kernel
theorem dX9_goes_29 : decode cX9_goes 29 = .ok (.getfield 56, 3) := by decide +kernel
theorem dX9_goes_32 : decode cX9_goes 32 = .ok (.iconst 2, 1) := by decide +kernel
theorem dX9_goes_33 : decode cX9_goes 33 = .ok (.dup2, 1) := by decide +kernel
theorem dX9_goes_34 : decode cX9_goes 34 = .ok (.iaload, 1) := by decide +kernel
theorem dX9_goes_35 : decode cX9_goes 35 = .ok (.iconst 1, 1) := by decide +kernel
theorem dX9_goes_36 : decode cX9_goes 36 = .ok (.iadd, 1) := by decide +kernel
theorem dX9_goes_37 : decode cX9_goes 37 = .ok (.iastore, 1) := by decide +kernel
theorem dX9_goes_38 : decode cX9_goes 38 = .ok (.aload_n 0, 1) := by decide +kernel
theorem dX9_goes_39 : decode cX9_goes 39 = .ok (.getfield 56, 3) := by decide +kernel
theorem dX9_goes_42 : decode cX9_goes 42 = .ok (.iconst 4, 1) := by decide +kernel
theorem dX9_goes_43 : decode cX9_goes 43 = .ok (.dup2, 1) := by decide +kernel
theorem dX9_goes_44 : decode cX9_goes 44 = .ok (.iaload, 1) := by decide +kernel
theorem dX9_goes_45 : decode cX9_goes 45 = .ok (.aload_n 0, 1) := by decide +kernel
theorem dX9_goes_46 : decode cX9_goes 46 = .ok (.getfield 10, 3) := by decide +kernel
theorem dX9_goes_49 : decode cX9_goes 49 = .ok (.getfield 158, 3) := by decide +kernel
theorem dX9_goes_52 : decode cX9_goes 52 = .ok (.iload_n 1, 1) := by decide +kernel
theorem dX9_goes_53 : decode cX9_goes 53 = .ok (.iaload, 1) := by decide +kernel
theorem dX9_goes_54 : decode cX9_goes 54 = .ok (.iadd, 1) := by decide +kernel
theorem dX9_goes_55 : decode cX9_goes 55 = .ok (.iastore, 1) := by decide +kernel
theorem dX9_goes_56 : decode cX9_goes 56 = .ok (.aload_n 0, 1) := by decide +kernel
theorem dX9_goes_57 : decode cX9_goes 57 = .ok (.getfield 56, 3) := by decide +kernel
theorem dX9_goes_60 : decode cX9_goes 60 = .ok (.iconst 1, 1) := by decide +kernel
theorem dX9_goes_61 : decode cX9_goes 61 = .ok (.dup2, 1) := by decide +kernel
theorem dX9_goes_62 : decode cX9_goes 62 = .ok (.iaload, 1) := by decide +kernel
theorem dX9_goes_63 : decode cX9_goes 63 = .ok (.iconst 1, 1) := by decide +kernel
theorem dX9_goes_64 : decode cX9_goes 64 = .ok (.iadd, 1) := by decide +kernel
theorem dX9_goes_65 : decode cX9_goes 65 = .ok (.iastore, 1) := by decide +kernel
theorem dX9_goes_66 : decode cX9_goes 66 = .ok (.aload_n 0, 1) := by decide +kernel
theorem dX9_goes_67 : decode cX9_goes 67 = .ok (.getfield 10, 3) := by decide +kernel
theorem dX9_goes_70 : decode cX9_goes 70 = .ok (.getfield 248, 3) := by decide +kernel
theorem dX9_goes_73 : decode cX9_goes 73 = .ok (.iload_n 1, 1) := by decide +kernel
theorem dX9_goes_74 : decode cX9_goes 74 = .ok (.iconst 1, 1) := by decide +kernel
theorem dX9_goes_75 : decode cX9_goes 75 = .ok (.iastore, 1) := by decide +kernel
theorem dX9_goes_76 : decode cX9_goes 76 = .ok (.aload_n 0, 1) := by decide +kernel
theorem dX9_goes_77 : decode cX9_goes 77 = .ok (.getfield 10, 3) := by decide +kernel
theorem dX9_goes_80 : decode cX9_goes 80 = .ok (.invokevirtual 170, 3) := by decide +kernel
theorem dX9_goes_83 : decode cX9_goes 83 = .ok (.iload_n 1, 1) := by decide +kernel
theorem dX9_goes_84 : decode cX9_goes 84 = .ok (.ireturn, 1) := by decide +kernel
theorem dX9_looks_0 : decode cX9_looks 0 = .ok (.aload_n 0, 1) := by decide +kernel
theorem dX9_looks_1 : decode cX9_looks 1 = .ok (.getfield 10, 3) := by decide +kernel
theorem dX9_looks_4 : decode cX9_looks 4 = .ok (.iload_n 1, 1) := by decide +kernel
theorem dX9_looks_5 : decode cX9_looks 5 = .ok (.invokevirtual 114, 3) := by decide +kernel
theorem dX9_looks_8 : decode cX9_looks 8 = .ok (.ifCond .eq 11, 3) := by decide +kernel
theorem dX9_looks_11 : decode cX9_looks 11 = .ok (.iload_n 2, 1) := by decide +kernel
theorem dX9_looks_12 : decode cX9_looks 12 = .ok (.iconst 2, 1) := by decide +kernel
theorem dX9_looks_13 : decode cX9_looks 13 = .ok (.invokestatic 87, 3) := by decide +kernel
theorem dX9_looks_16 : decode cX9_looks 16 = .ok (.ifCond .ne 5, 3) := by decide +kernel
theorem dX9_looks_19 : decode cX9_looks 19 = .ok (.iconst (-1), 1) := by decide +kernel
theorem dX9_looks_20 : decode cX9_looks 20 = .ok (.ireturn, 1) := by decide +kernel
theorem dX9_looks_21 : decode cX9_looks 21 = .ok (.aload_n 0, 1) := by decide +kernel
theorem dX9_looks_22 : decode cX9_looks 22 = .ok (.getfield 10, 3) := by decide +kernel
theorem dX9_looks_25 : decode cX9_looks 25 = .ok (.iload_n 1, 1) := by decide +kernel
theorem dX9_looks_26 : decode cX9_looks 26 = .ok (.invokevirtual 182, 3) := by decide +kernel
theorem dX9_looks_29 : decode cX9_looks 29 = .ok (.ifCond .ne 6, 3) := by decide +kernel
theorem dX9_looks_32 : decode cX9_looks 32 = .ok (.bipush (-5), 2) := by decide +kernel
theorem dX9_looks_34 : decode cX9_looks 34 = .ok (.ireturn, 1) := by decide +kernel
theorem dX9_looks_35 : decode cX9_looks 35 = .ok (.aload_n 0, 1) := by decide +kernel
theorem dX9_looks_36 : decode cX9_looks 36 = .ok (.getfield 56, 3) := by decide +kernel
theorem dX9_looks_39 : decode cX9_looks 39 = .ok (.iconst 3, 1) := by decide +kernel
theorem dX9_looks_40 : decode cX9_looks 40 = .ok (.dup2, 1) := by decide +kernel
theorem dX9_looks_41 : decode cX9_looks 41 = .ok (.iaload, 1) := by decide +kernel
theorem dX9_looks_42 : decode cX9_looks 42 = .ok (.iconst 1, 1) := by decide +kernel
theorem dX9_looks_43 : decode cX9_looks 43 = .ok (.iadd, 1) := by decide +kernel
theorem dX9_looks_44 : decode cX9_looks 44 = .ok (.iastore, 1) := by decide +kernel
theorem dX9_looks_45 : decode cX9_looks 45 = .ok (.aload_n 0, 1) := by decide +kernel
theorem dX9_looks_46 : decode cX9_looks 46 = .ok (.getfield 10, 3) := by decide +kernel
theorem dX9_looks_49 : decode cX9_looks 49 = .ok (.getfield 193, 3) := by decide +kernel
theorem dX9_looks_52 : decode cX9_looks 52 = .ok (.iload_n 1, 1) := by decide +kernel
theorem dX9_looks_53 : decode cX9_looks 53 = .ok (.iaload, 1) := by decide +kernel
theorem dX9_looks_54 : decode cX9_looks 54 = .ok (.istore_n 3, 1) := by decide +kernel
theorem dX9_looks_55 : decode cX9_looks 55 = .ok (.aload_n 0, 1) := by decide +kernel
theorem dX9_looks_56 : decode cX9_looks 56 = .ok (.getfield 10, 3) := by decide +kernel
theorem dX9_looks_59 : decode cX9_looks 59 = .ok (.getfield 193, 3) := by decide +kernel
theorem dX9_looks_62 : decode cX9_looks 62 = .ok (.iload_n 1, 1) := by decide +kernel
theorem dX9_looks_63 : decode cX9_looks 63 = .ok (.iload_n 2, 1) := by decide +kernel
theorem dX9_looks_64 : decode cX9_looks 64 = .ok (.iastore, 1) := by decide +kernel
theorem dX9_looks_65 : decode cX9_looks 65 = .ok (.iload_n 3, 1) := by decide +kernel
theorem dX9_looks_66 : decode cX9_looks 66 = .ok (.ireturn, 1) := by decide +kernel
theorem dX9_led_0 : decode cX9_led 0 = .ok (.iload_n 1, 1) := by decide +kernel
theorem dX9_led_1 : decode cX9_led 1 = .ok (.ifCond .lt 17, 3) := by decide +kernel
theorem dX9_led_4 : decode cX9_led 4 = .ok (.iload_n 1, 1) := by decide +kernel
theorem dX9_led_5 : decode cX9_led 5 = .ok (.iconst 5, 1) := by decide +kernel
theorem dX9_led_6 : decode cX9_led 6 = .ok (.if_icmp .ge 12, 3) := by decide +kernel
theorem dX9_led_9 : decode cX9_led 9 = .ok (.aload_n 0, 1) := by decide +kernel
theorem dX9_led_10 : decode cX9_led 10 = .ok (.getfield 56, 3) := by decide +kernel
theorem dX9_led_13 : decode cX9_led 13 = .ok (.iload_n 1, 1) := by decide +kernel
theorem dX9_led_14 : decode cX9_led 14 = .ok (.iaload, 1) := by decide +kernel
theorem dX9_led_15 : decode cX9_led 15 = .ok (.goto 4, 3) := by decide +kernel
theorem dX9_led_18 : decode cX9_led 18 = .ok (.iconst (-1), 1) := by decide +kernel
theorem dX9_led_19 : decode cX9_led 19 = .ok (.ireturn, 1) := by decide +kernel
theorem dX9_image_0 : decode cX9_image 0 = .ok (.aload_n 0, 1) := by decide +kernel
theorem dX9_image_1 : decode cX9_image 1 = .ok (.getfield 62, 3) := by decide +kernel
theorem dX9_image_4 : decode cX9_image 4 = .ok (.aload_n 0, 1) := by decide +kernel
theorem dX9_image_5 : decode cX9_image 5 = .ok (.getfield 10, 3) := by decide +kernel
theorem dX9_image_8 : decode cX9_image 8 = .ok (.aload_n 0, 1) := by decide +kernel
theorem dX9_image_9 : decode cX9_image 9 = .ok (.getfield 56, 3) := by decide +kernel
theorem dX9_image_12 : decode cX9_image 12 = .ok (.invokevirtual 251, 3) := by decide +kernel
theorem dX9_image_15 : decode cX9_image 15 = .ok (.aload_n 0, 1) := by decide +kernel
theorem dX9_image_16 : decode cX9_image 16 = .ok (.getfield 56, 3) := by decide +kernel
theorem dX9_image_19 : decode cX9_image 19 = .ok (.iconst 2, 1) := by decide +kernel
theorem dX9_image_20 : decode cX9_image 20 = .ok (.iaload, 1) := by decide +kernel
theorem dX9_image_21 : decode cX9_image 21 = .ok (.ireturn, 1) := by decide +kernel
theorem dX9_back_0 : decode cX9_back 0 = .ok (.aload_n 0, 1) := by decide +kernel
theorem dX9_back_1 : decode cX9_back 1 = .ok (.getfield 62, 3) := by decide +kernel
theorem dX9_back_4 : decode cX9_back 4 = .ok (.getfield 255, 3) := by decide +kernel
theorem dX9_back_7 : decode cX9_back 7 = .ok (.ifCond .ne 6, 3) := by decide +kernel
theorem dX9_back_10 : decode cX9_back 10 = .ok (.bipush (-5), 2) := by decide +kernel
theorem dX9_back_12 : decode cX9_back 12 = .ok (.ireturn, 1) := by decide +kernel
theorem dX9_back_13 : decode cX9_back 13 = .ok (.aload_n 0, 1) := by decide +kernel
theorem dX9_back_14 : decode cX9_back 14 = .ok (.getfield 62, 3) := by decide +kernel
theorem dX9_back_17 : decode cX9_back 17 = .ok (.aload_n 0, 1) := by decide +kernel
theorem dX9_back_18 : decode cX9_back 18 = .ok (.getfield 10, 3) := by decide +kernel
theorem dX9_back_21 : decode cX9_back 21 = .ok (.aload_n 0, 1) := by decide +kernel
theorem dX9_back_22 : decode cX9_back 22 = .ok (.getfield 56, 3) := by decide +kernel
theorem dX9_back_25 : decode cX9_back 25 = .ok (.invokevirtual 259, 3) := by decide +kernel
theorem dX9_back_28 : decode cX9_back 28 = .ok (.aload_n 0, 1) := by decide +kernel
theorem dX9_back_29 : decode cX9_back 29 = .ok (.getfield 56, 3) := by decide +kernel
theorem dX9_back_32 : decode cX9_back 32 = .ok (.iconst 2, 1) := by decide +kernel
theorem dX9_back_33 : decode cX9_back 33 = .ok (.iaload, 1) := by decide +kernel
theorem dX9_back_34 : decode cX9_back 34 = .ok (.ireturn, 1) := by decide +kernel
theorem dX9_undo_0 : decode cX9_undo 0 = .ok (.aload_n 0, 1) := by decide +kernel
theorem dX9_undo_1 : decode cX9_undo 1 = .ok (.getfield 69, 3) := by decide +kernel
theorem dX9_undo_4 : decode cX9_undo 4 = .ok (.aload_n 0, 1) := by decide +kernel
theorem dX9_undo_5 : decode cX9_undo 5 = .ok (.getfield 10, 3) := by decide +kernel
theorem dX9_undo_8 : decode cX9_undo 8 = .ok (.invokevirtual 262, 3) := by decide +kernel
theorem dX9_undo_11 : decode cX9_undo 11 = .ok (.ireturn, 1) := by decide +kernel
theorem dX9_redo_0 : decode cX9_redo 0 = .ok (.aload_n 0, 1) := by decide +kernel
theorem dX9_redo_1 : decode cX9_redo 1 = .ok (.getfield 69, 3) := by decide +kernel
theorem dX9_redo_4 : decode cX9_redo 4 = .ok (.aload_n 0, 1) := by decide +kernel
theorem dX9_redo_5 : decode cX9_redo 5 = .ok (.getfield 10, 3) := by decide +kernel
theorem dX9_redo_8 : decode cX9_redo 8 = .ok (.invokevirtual 266, 3) := by decide +kernel
theorem dX9_redo_11 : decode cX9_redo 11 = .ok (.ireturn, 1) := by decide +kernel
theorem dX9_body_0 : decode cX9_body 0 = .ok (.iload_n 1, 1) := by decide +kernel
theorem dX9_body_1 : decode cX9_body 1 = .ok (.invokestatic 269, 3) := by decide +kernel
theorem dX9_body_4 : decode cX9_body 4 = .ok (.ifCond .ne 5, 3) := by decide +kernel
theorem dX9_body_7 : decode cX9_body 7 = .ok (.iconst (-1), 1) := by decide +kernel
theorem dX9_body_8 : decode cX9_body 8 = .ok (.ireturn, 1) := by decide +kernel
theorem dX9_body_9 : decode cX9_body 9 = .ok (.aload_n 0, 1) := by decide +kernel
theorem dX9_body_10 : decode cX9_body 10 = .ok (.getfield 76, 3) := by decide +kernel
theorem dX9_body_13 : decode cX9_body 13 = .ok (.getfield 272, 3) := by decide +kernel
theorem dX9_body_16 : decode cX9_body 16 = .ok (.bipush 50, 2) := by decide +kernel
theorem dX9_body_18 : decode cX9_body 18 = .ok (.if_icmp .lt 8, 3) := by decide +kernel
theorem dX9_body_21 : decode cX9_body 21 = .ok (.bipush (-3), 2) := by decide +kernel
theorem dX9_body_23 : decode cX9_body 23 = .ok (.goto 11, 3) := by decide +kernel
theorem dX9_body_26 : decode cX9_body 26 = .ok (.aload_n 0, 1) := by decide +kernel
theorem dX9_body_27 : decode cX9_body 27 = .ok (.getfield 76, 3) := by decide +kernel
theorem dX9_body_30 : decode cX9_body 30 = .ok (.iload_n 1, 1) := by decide +kernel
theorem dX9_body_31 : decode cX9_body 31 = .ok (.invokevirtual 275, 3) := by decide +kernel
theorem dX9_body_34 : decode cX9_body 34 = .ok (.ireturn, 1) := by decide +kernel
theorem dX9_act_0 : decode cX9_act 0 = .ok (.aload_n 0, 1) := by decide +kernel
theorem dX9_act_1 : decode cX9_act 1 = .ok (.getfield 76, 3) := by decide +kernel
theorem dX9_act_4 : decode cX9_act 4 = .ok (.iload_n 1, 1) := by decide +kernel
theorem dX9_act_5 : decode cX9_act 5 = .ok (.iload_n 2, 1) := by decide +kernel
theorem dX9_act_6 : decode cX9_act 6 = .ok (.iload_n 3, 1) := by decide +kernel
theorem dX9_act_7 : decode cX9_act 7 = .ok (.invokevirtual 277, 3) := by decide +kernel
theorem dX9_act_10 : decode cX9_act 10 = .ok (.ireturn, 1) := by decide +kernel
theorem dX9_trace_0 : decode cX9_trace 0 = .ok (.iload_n 1, 1) := by decide +kernel
theorem dX9_trace_1 : decode cX9_trace 1 = .ok (.ifCond .lt 32, 3) := by decide +kernel
theorem dX9_trace_4 : decode cX9_trace 4 = .ok (.iload_n 1, 1) := by decide +kernel
theorem dX9_trace_5 : decode cX9_trace 5 = .ok (.aload_n 0, 1) := by decide +kernel
theorem dX9_trace_6 : decode cX9_trace 6 = .ok (.getfield 76, 3) := by decide +kernel
theorem dX9_trace_9 : decode cX9_trace 9 = .ok (.getfield 280, 3) := by decide +kernel
theorem dX9_trace_12 : decode cX9_trace 12 = .ok (.if_icmp .ge 21, 3) := by decide +kernel
theorem dX9_trace_15 : decode cX9_trace 15 = .ok (.iload_n 1, 1) := by decide +kernel
theorem dX9_trace_16 : decode cX9_trace 16 = .ok (.bipush 24, 2) := by decide +kernel
theorem dX9_trace_18 : decode cX9_trace 18 = .ok (.if_icmp .ge 15, 3) := by decide +kernel
theorem dX9_trace_21 : decode cX9_trace 21 = .ok (.aload_n 0, 1) := by decide +kernel
theorem dX9_trace_22 : decode cX9_trace 22 = .ok (.getfield 76, 3) := by decide +kernel
theorem dX9_trace_25 : decode cX9_trace 25 = .ok (.getfield 283, 3) := by decide +kernel
theorem dX9_trace_28 : decode cX9_trace 28 = .ok (.iload_n 1, 1) := by decide +kernel
theorem dX9_trace_29 : decode cX9_trace 29 = .ok (.iaload, 1) := by decide +kernel
theorem dX9_trace_30 : decode cX9_trace 30 = .ok (.goto 4, 3) := by decide +kernel
theorem dX9_trace_33 : decode cX9_trace 33 = .ok (.iconst (-1), 1) := by decide +kernel
theorem dX9_trace_34 : decode cX9_trace 34 = .ok (.ireturn, 1) := by decide +kernel
theorem dX9_keep_0 : decode cX9_keep 0 = .ok (.iload_n 1, 1) := by decide +kernel
theorem dX9_keep_1 : decode cX9_keep 1 = .ok (.invokestatic 98, 3) := by decide +kernel
theorem dX9_keep_4 : decode cX9_keep 4 = .ok (.ifCond .eq 19, 3) := by decide +kernel
theorem dX9_keep_7 : decode cX9_keep 7 = .ok (.iload_n 2, 1) := by decide +kernel
theorem dX9_keep_8 : decode cX9_keep 8 = .ok (.iconst (-1), 1) := by decide +kernel
theorem dX9_keep_9 : decode cX9_keep 9 = .ok (.if_icmp .eq 16, 3) := by decide +kernel
theorem dX9_keep_12 : decode cX9_keep 12 = .ok (.aload_n 0, 1) := by decide +kernel
theorem dX9_keep_13 : decode cX9_keep 13 = .ok (.getfield 76, 3) := by decide +kernel
theorem dX9_keep_16 : decode cX9_keep 16 = .ok (.iload_n 2, 1) := by decide +kernel
theorem dX9_keep_17 : decode cX9_keep 17 = .ok (.invokevirtual 286, 3) := by decide +kernel
theorem dX9_keep_20 : decode cX9_keep 20 = .ok (.ifCond .ne 5, 3) := by decide +kernel
theorem dX9_keep_23 : decode cX9_keep 23 = .ok (.iconst (-1), 1) := by decide +kernel
theorem dX9_keep_24 : decode cX9_keep 24 = .ok (.ireturn, 1) := by decide +kernel
theorem dX9_keep_25 : decode cX9_keep 25 = .ok (.aload_n 0, 1) := by decide +kernel
theorem dX9_keep_26 : decode cX9_keep 26 = .ok (.getfield 82, 3) := by decide +kernel
theorem dX9_keep_29 : decode cX9_keep 29 = .ok (.iload_n 1, 1) := by decide +kernel
theorem dX9_keep_30 : decode cX9_keep 30 = .ok (.aaload, 1) := by decide +kernel
theorem dX9_keep_31 : decode cX9_keep 31 = .ok (.iload_n 2, 1) := by decide +kernel
theorem dX9_keep_32 : decode cX9_keep 32 = .ok (.iconst (-1), 1) := by decide +kernel
theorem dX9_keep_33 : decode cX9_keep 33 = .ok (.if_icmp .ne 7, 3) := by decide +kernel
theorem dX9_keep_36 : decode cX9_keep 36 = .ok (.iconst 0, 1) := by decide +kernel
theorem dX9_keep_37 : decode cX9_keep 37 = .ok (.goto 4, 3) := by decide +kernel
theorem dX9_keep_40 : decode cX9_keep 40 = .ok (.iconst 1, 1) := by decide +kernel
theorem dX9_keep_41 : decode cX9_keep 41 = .ok (.putfield 102, 3) := by decide +kernel
theorem dX9_keep_44 : decode cX9_keep 44 = .ok (.aload_n 0, 1) := by decide +kernel
theorem dX9_keep_45 : decode cX9_keep 45 = .ok (.getfield 82, 3) := by decide +kernel
theorem dX9_keep_48 : decode cX9_keep 48 = .ok (.iload_n 1, 1) := by decide +kernel
theorem dX9_keep_49 : decode cX9_keep 49 = .ok (.aaload, 1) := by decide +kernel
theorem dX9_keep_50 : decode cX9_keep 50 = .ok (.iload_n 2, 1) := by decide +kernel
theorem dX9_keep_51 : decode cX9_keep 51 = .ok (.putfield 289, 3) := by decide +kernel
theorem dX9_keep_54 : decode cX9_keep 54 = .ok (.iconst 1, 1) := by decide +kernel
theorem dX9_keep_55 : decode cX9_keep 55 = .ok (.ireturn, 1) := by decide +kernel
theorem dX9_row_0 : decode cX9_row 0 = .ok (.iload_n 1, 1) := by decide +kernel
theorem dX9_row_1 : decode cX9_row 1 = .ok (.invokestatic 98, 3) := by decide +kernel
theorem dX9_row_4 : decode cX9_row 4 = .ok (.ifCond .eq 18, 3) := by decide +kernel
theorem dX9_row_7 : decode cX9_row 7 = .ok (.iload_n 2, 1) := by decide +kernel
theorem dX9_row_8 : decode cX9_row 8 = .ok (.ifCond .lt 14, 3) := by decide +kernel
theorem dX9_row_11 : decode cX9_row 11 = .ok (.iload_n 2, 1) := by decide +kernel
theorem dX9_row_12 : decode cX9_row 12 = .ok (.iconst 4, 1) := by decide +kernel
theorem dX9_row_13 : decode cX9_row 13 = .ok (.if_icmp .gt 9, 3) := by decide +kernel
theorem dX9_row_16 : decode cX9_row 16 = .ok (.iload_n 3, 1) := by decide +kernel
theorem dX9_row_17 : decode cX9_row 17 = .ok (.bipush 60, 2) := by decide +kernel
theorem dX9_row_19 : decode cX9_row 19 = .ok (.if_icmp .le 5, 3) := by decide +kernel
theorem dX9_row_22 : decode cX9_row 22 = .ok (.iconst (-1), 1) := by decide +kernel
theorem dX9_row_23 : decode cX9_row 23 = .ok (.ireturn, 1) := by decide +kernel
theorem dX9_row_24 : decode cX9_row 24 = .ok (.iload_n 3, 1) := by decide +kernel
theorem dX9_row_25 : decode cX9_row 25 = .ok (.ifCond .ge 6, 3) := by decide +kernel
theorem dX9_row_28 : decode cX9_row 28 = .ok (.bipush (-14), 2) := by decide +kernel
theorem dX9_row_30 : decode cX9_row 30 = .ok (.ireturn, 1) := by decide +kernel
theorem dX9_row_31 : decode cX9_row 31 = .ok (.aload_n 0, 1) := by decide +kernel
theorem dX9_row_32 : decode cX9_row 32 = .ok (.getfield 82, 3) := by decide +kernel
theorem dX9_row_35 : decode cX9_row 35 = .ok (.iload_n 1, 1) := by decide +kernel
theorem dX9_row_36 : decode cX9_row 36 = .ok (.aaload, 1) := by decide +kernel
theorem dX9_row_37 : decode cX9_row 37 = .ok (.iload_n 2, 1) := by decide +kernel
theorem dX9_row_38 : decode cX9_row 38 = .ok (.iload_n 3, 1) := by decide +kernel
theorem dX9_row_39 : decode cX9_row 39 = .ok (.invokevirtual 292, 3) := by decide +kernel
theorem dX9_row_42 : decode cX9_row 42 = .ok (.iconst 1, 1) := by decide +kernel
theorem dX9_row_43 : decode cX9_row 43 = .ok (.ireturn, 1) := by decide +kernel
theorem dX9_put_0 : decode cX9_put 0 = .ok (.iload_n 1, 1) := by decide +kernel
theorem dX9_put_1 : decode cX9_put 1 = .ok (.invokestatic 98, 3) := by decide +kernel
theorem dX9_put_4 : decode cX9_put 4 = .ok (.ifCond .ne 5, 3) := by decide +kernel
theorem dX9_put_7 : decode cX9_put 7 = .ok (.iconst (-1), 1) := by decide +kernel
theorem dX9_put_8 : decode cX9_put 8 = .ok (.ireturn, 1) := by decide +kernel
theorem dX9_put_9 : decode cX9_put 9 = .ok (.aload_n 0, 1) := by decide +kernel
theorem dX9_put_10 : decode cX9_put 10 = .ok (.getfield 82, 3) := by decide +kernel
theorem dX9_put_13 : decode cX9_put 13 = .ok (.iload_n 1, 1) := by decide +kernel
theorem dX9_put_14 : decode cX9_put 14 = .ok (.aaload, 1) := by decide +kernel
theorem dX9_put_15 : decode cX9_put 15 = .ok (.iload_n 2, 1) := by decide +kernel
theorem dX9_put_16 : decode cX9_put 16 = .ok (.invokestatic 295, 3) := by decide +kernel
theorem dX9_put_19 : decode cX9_put 19 = .ok (.istore 5, 2) := by decide +kernel
theorem dX9_put_21 : decode cX9_put 21 = .ok (.iload 5, 2) := by decide +kernel
theorem dX9_put_23 : decode cX9_put 23 = .ok (.ifCond .eq 6, 3) := by decide +kernel
theorem dX9_put_26 : decode cX9_put 26 = .ok (.iload 5, 2) := by decide +kernel
theorem dX9_put_28 : decode cX9_put 28 = .ok (.ireturn, 1) := by decide +kernel
theorem dX9_put_29 : decode cX9_put 29 = .ok (.aload_n 0, 1) := by decide +kernel
theorem dX9_put_30 : decode cX9_put 30 = .ok (.getfield 82, 3) := by decide +kernel
theorem dX9_put_33 : decode cX9_put 33 = .ok (.iload_n 1, 1) := by decide +kernel
theorem dX9_put_34 : decode cX9_put 34 = .ok (.aaload, 1) := by decide +kernel
theorem dX9_put_35 : decode cX9_put 35 = .ok (.getfield 299, 3) := by decide +kernel
theorem dX9_put_38 : decode cX9_put 38 = .ok (.iload_n 2, 1) := by decide +kernel
theorem dX9_put_39 : decode cX9_put 39 = .ok (.aload_n 0, 1) := by decide +kernel
theorem dX9_put_40 : decode cX9_put 40 = .ok (.getfield 82, 3) := by decide +kernel
theorem dX9_put_43 : decode cX9_put 43 = .ok (.iload_n 1, 1) := by decide +kernel
theorem dX9_put_44 : decode cX9_put 44 = .ok (.aaload, 1) := by decide +kernel
theorem dX9_put_45 : decode cX9_put 45 = .ok (.lload_n 3, 1) := by decide +kernel
theorem dX9_put_46 : decode cX9_put 46 = .ok (.invokevirtual 303, 3) := by decide +kernel
theorem dX9_put_49 : decode cX9_put 49 = .ok (.lastore, 1) := by decide +kernel
theorem dX9_put_50 : decode cX9_put 50 = .ok (.iconst 1, 1) := by decide +kernel
theorem dX9_put_51 : decode cX9_put 51 = .ok (.ireturn, 1) := by decide +kernel
theorem dX9_element_0 : decode cX9_element 0 = .ok (.iload_n 1, 1) := by decide +kernel
theorem dX9_element_1 : decode cX9_element 1 = .ok (.invokestatic 98, 3) := by decide +kernel
theorem dX9_element_4 : decode cX9_element 4 = .ok (.ifCond .eq 16, 3) := by decide +kernel
theorem dX9_element_7 : decode cX9_element 7 = .ok (.aload_n 0, 1) := by decide +kernel
theorem dX9_element_8 : decode cX9_element 8 = .ok (.getfield 82, 3) := by decide +kernel
theorem dX9_element_11 : decode cX9_element 11 = .ok (.iload_n 1, 1) := by decide +kernel
theorem dX9_element_12 : decode cX9_element 12 = .ok (.aaload, 1) := by decide +kernel
theorem dX9_element_13 : decode cX9_element 13 = .ok (.iload_n 2, 1) := by decide +kernel
theorem dX9_element_14 : decode cX9_element 14 = .ok (.invokestatic 295, 3) := by decide +kernel
theorem dX9_element_17 : decode cX9_element 17 = .ok (.ifCond .eq 7, 3) := by decide +kernel
theorem dX9_element_20 : decode cX9_element 20 = .ok (.ldc2_w 309, 3) := by decide +kernel
theorem dX9_element_23 : decode cX9_element 23 = .ok (.lreturn, 1) := by decide +kernel
theorem dX9_element_24 : decode cX9_element 24 = .ok (.aload_n 0, 1) := by decide +kernel
theorem dX9_element_25 : decode cX9_element 25 = .ok (.getfield 82, 3) := by decide +kernel
theorem dX9_element_28 : decode cX9_element 28 = .ok (.iload_n 1, 1) := by decide +kernel
theorem dX9_element_29 : decode cX9_element 29 = .ok (.aaload, 1) := by decide +kernel
theorem dX9_element_30 : decode cX9_element 30 = .ok (.getfield 299, 3) := by decide +kernel
theorem dX9_element_33 : decode cX9_element 33 = .ok (.iload_n 2, 1) := by decide +kernel
theorem dX9_element_34 : decode cX9_element 34 = .ok (.laload, 1) := by decide +kernel
theorem dX9_element_35 : decode cX9_element 35 = .ok (.lreturn, 1) := by decide +kernel
theorem dX9_shift_0 : decode cX9_shift 0 = .ok (.iload_n 1, 1) := by decide +kernel
theorem dX9_shift_1 : decode cX9_shift 1 = .ok (.invokestatic 98, 3) := by decide +kernel
theorem dX9_shift_4 : decode cX9_shift 4 = .ok (.ifCond .eq 10, 3) := by decide +kernel
theorem dX9_shift_7 : decode cX9_shift 7 = .ok (.iload_n 3, 1) := by decide +kernel
theorem dX9_shift_8 : decode cX9_shift 8 = .ok (.invokestatic 98, 3) := by decide +kernel
theorem dX9_shift_11 : decode cX9_shift 11 = .ok (.ifCond .ne 5, 3) := by decide +kernel
theorem dX9_shift_14 : decode cX9_shift 14 = .ok (.iconst (-1), 1) := by decide +kernel
theorem dX9_shift_15 : decode cX9_shift 15 = .ok (.ireturn, 1) := by decide +kernel
theorem dX9_shift_16 : decode cX9_shift 16 = .ok (.aload_n 0, 1) := by decide +kernel
theorem dX9_shift_17 : decode cX9_shift 17 = .ok (.getfield 82, 3) := by decide +kernel
theorem dX9_shift_20 : decode cX9_shift 20 = .ok (.iload_n 1, 1) := by decide +kernel
theorem dX9_shift_21 : decode cX9_shift 21 = .ok (.aaload, 1) := by decide +kernel
theorem dX9_shift_22 : decode cX9_shift 22 = .ok (.astore 6, 2) := by decide +kernel
theorem dX9_shift_24 : decode cX9_shift 24 = .ok (.aload_n 0, 1) := by decide +kernel
theorem dX9_shift_25 : decode cX9_shift 25 = .ok (.getfield 82, 3) := by decide +kernel
theorem dX9_shift_28 : decode cX9_shift 28 = .ok (.iload_n 3, 1) := by decide +kernel
theorem dX9_shift_29 : decode cX9_shift 29 = .ok (.aaload, 1) := by decide +kernel
theorem dX9_shift_30 : decode cX9_shift 30 = .ok (.astore 7, 2) := by decide +kernel
theorem dX9_shift_32 : decode cX9_shift 32 = .ok (.aload 6, 2) := by decide +kernel
theorem dX9_shift_34 : decode cX9_shift 34 = .ok (.getfield 102, 3) := by decide +kernel
theorem dX9_shift_37 : decode cX9_shift 37 = .ok (.ifCond .eq 11, 3) := by decide +kernel
theorem dX9_shift_40 : decode cX9_shift 40 = .ok (.aload 7, 2) := by decide +kernel
theorem dX9_shift_42 : decode cX9_shift 42 = .ok (.getfield 102, 3) := by decide +kernel
theorem dX9_shift_45 : decode cX9_shift 45 = .ok (.ifCond .ne 6, 3) := by decide +kernel
theorem dX9_shift_48 : decode cX9_shift 48 = .ok (.bipush (-11), 2) := by decide +kernel
theorem dX9_shift_50 : decode cX9_shift 50 = .ok (.ireturn, 1) := by decide +kernel
theorem dX9_shift_51 : decode cX9_shift 51 = .ok (.aload 6, 2) := by decide +kernel
theorem dX9_shift_53 : decode cX9_shift 53 = .ok (.getfield 102, 3) := by decide +kernel
theorem dX9_shift_56 : decode cX9_shift 56 = .ok (.iconst 2, 1) := by decide +kernel
theorem dX9_shift_57 : decode cX9_shift 57 = .ok (.if_icmp .ne 16, 3) := by decide +kernel
theorem dX9_shift_60 : decode cX9_shift 60 = .ok (.aload 7, 2) := by decide +kernel
theorem dX9_shift_62 : decode cX9_shift 62 = .ok (.aload 6, 2) := by decide +kernel
theorem dX9_shift_64 : decode cX9_shift 64 = .ok (.getfield 311, 3) := by decide +kernel
theorem dX9_shift_67 : decode cX9_shift 67 = .ok (.invokevirtual 105, 3) := by decide +kernel
theorem dX9_shift_70 : decode cX9_shift 70 = .ok (.ifCond .ne 6, 3) := by decide +kernel
theorem dX9_shift_73 : decode cX9_shift 73 = .ok (.bipush (-12), 2) := by decide +kernel
theorem dX9_shift_75 : decode cX9_shift 75 = .ok (.ireturn, 1) := by decide +kernel
theorem dX9_shift_76 : decode cX9_shift 76 = .ok (.aload 6, 2) := by decide +kernel
theorem dX9_shift_78 : decode cX9_shift 78 = .ok (.iload_n 2, 1) := by decide +kernel
theorem dX9_shift_79 : decode cX9_shift 79 = .ok (.iload 5, 2) := by decide +kernel
theorem dX9_shift_81 : decode cX9_shift 81 = .ok (.invokevirtual 314, 3) := by decide +kernel
theorem dX9_shift_84 : decode cX9_shift 84 = .ok (.ifCond .eq 15, 3) := by decide +kernel
theorem dX9_shift_87 : decode cX9_shift 87 = .ok (.aload 7, 2) := by decide +kernel
theorem dX9_shift_89 : decode cX9_shift 89 = .ok (.iload 4, 2) := by decide +kernel
theorem dX9_shift_91 : decode cX9_shift 91 = .ok (.iload 5, 2) := by decide +kernel
theorem dX9_shift_93 : decode cX9_shift 93 = .ok (.invokevirtual 314, 3) := by decide +kernel
theorem dX9_shift_96 : decode cX9_shift 96 = .ok (.ifCond .ne 6, 3) := by decide +kernel
theorem dX9_shift_99 : decode cX9_shift 99 = .ok (.bipush (-13), 2) := by decide +kernel
theorem dX9_shift_101 : decode cX9_shift 101 = .ok (.ireturn, 1) := by decide +kernel
theorem dX9_shift_102 : decode cX9_shift 102 = .ok (.aload 6, 2) := by decide +kernel
theorem dX9_shift_104 : decode cX9_shift 104 = .ok (.getfield 299, 3) := by decide +kernel
theorem dX9_shift_107 : decode cX9_shift 107 = .ok (.iload_n 2, 1) := by decide +kernel
theorem dX9_shift_108 : decode cX9_shift 108 = .ok (.aload 7, 2) := by decide +kernel
theorem dX9_shift_110 : decode cX9_shift 110 = .ok (.getfield 299, 3) := by decide +kernel
theorem dX9_shift_113 : decode cX9_shift 113 = .ok (.iload 4, 2) := by decide +kernel
theorem dX9_shift_115 : decode cX9_shift 115 = .ok (.iload 5, 2) := by decide +kernel
theorem dX9_shift_117 : decode cX9_shift 117 = .ok (.invokestatic 317, 3) := by decide +kernel
theorem dX9_shift_120 : decode cX9_shift 120 = .ok (.iload 5, 2) := by decide +kernel
theorem dX9_shift_122 : decode cX9_shift 122 = .ok (.ireturn, 1) := by decide +kernel
theorem dX9_taken_0 : decode cX9_taken 0 = .ok (.iload_n 1, 1) := by decide +kernel
theorem dX9_taken_1 : decode cX9_taken 1 = .ok (.invokestatic 98, 3) := by decide +kernel
theorem dX9_taken_4 : decode cX9_taken 4 = .ok (.ifCond .eq 10, 3) := by decide +kernel
theorem dX9_taken_7 : decode cX9_taken 7 = .ok (.iload_n 2, 1) := by decide +kernel
theorem dX9_taken_8 : decode cX9_taken 8 = .ok (.invokestatic 269, 3) := by decide +kernel
theorem dX9_taken_11 : decode cX9_taken 11 = .ok (.ifCond .ne 5, 3) := by decide +kernel
theorem dX9_taken_14 : decode cX9_taken 14 = .ok (.iconst (-1), 1) := by decide +kernel
theorem dX9_taken_15 : decode cX9_taken 15 = .ok (.ireturn, 1) := by decide +kernel
theorem dX9_taken_16 : decode cX9_taken 16 = .ok (.aload_n 0, 1) := by decide +kernel
theorem dX9_taken_17 : decode cX9_taken 17 = .ok (.getfield 82, 3) := by decide +kernel
theorem dX9_taken_20 : decode cX9_taken 20 = .ok (.iload_n 1, 1) := by decide +kernel
theorem dX9_taken_21 : decode cX9_taken 21 = .ok (.aaload, 1) := by decide +kernel
theorem dX9_taken_22 : decode cX9_taken 22 = .ok (.astore_n 3, 1) := by decide +kernel
theorem dX9_taken_23 : decode cX9_taken 23 = .ok (.aload_n 3, 1) := by decide +kernel
theorem dX9_taken_24 : decode cX9_taken 24 = .ok (.getfield 102, 3) := by decide +kernel
theorem dX9_taken_27 : decode cX9_taken 27 = .ok (.ifCond .ne 6, 3) := by decide +kernel
theorem dX9_taken_30 : decode cX9_taken 30 = .ok (.bipush (-11), 2) := by decide +kernel
theorem dX9_taken_32 : decode cX9_taken 32 = .ok (.ireturn, 1) := by decide +kernel
theorem dX9_taken_33 : decode cX9_taken 33 = .ok (.aload_n 3, 1) := by decide +kernel
theorem dX9_taken_34 : decode cX9_taken 34 = .ok (.getfield 102, 3) := by decide +kernel
theorem dX9_taken_37 : decode cX9_taken 37 = .ok (.iconst 1, 1) := by decide +kernel
theorem dX9_taken_38 : decode cX9_taken 38 = .ok (.if_icmp .ne 18, 3) := by decide +kernel
theorem dX9_taken_41 : decode cX9_taken 41 = .ok (.aload_n 0, 1) := by decide +kernel
theorem dX9_taken_42 : decode cX9_taken 42 = .ok (.getfield 76, 3) := by decide +kernel
theorem dX9_taken_45 : decode cX9_taken 45 = .ok (.aload_n 3, 1) := by decide +kernel
theorem dX9_taken_46 : decode cX9_taken 46 = .ok (.getfield 289, 3) := by decide +kernel
theorem dX9_taken_49 : decode cX9_taken 49 = .ok (.iload_n 2, 1) := by decide +kernel
theorem dX9_taken_50 : decode cX9_taken 50 = .ok (.invokevirtual 323, 3) := by decide +kernel
theorem dX9_taken_53 : decode cX9_taken 53 = .ok (.ifCond .ne 6, 3) := by decide +kernel
theorem dX9_taken_56 : decode cX9_taken 56 = .ok (.bipush (-12), 2) := by decide +kernel
theorem dX9_taken_58 : decode cX9_taken 58 = .ok (.ireturn, 1) := by decide +kernel
theorem dX9_taken_59 : decode cX9_taken 59 = .ok (.aload_n 0, 1) := by decide +kernel
theorem dX9_taken_60 : decode cX9_taken 60 = .ok (.getfield 76, 3) := by decide +kernel
theorem dX9_taken_63 : decode cX9_taken 63 = .ok (.getfield 326, 3) := by decide +kernel
theorem dX9_taken_66 : decode cX9_taken 66 = .ok (.aload_n 3, 1) := by decide +kernel
theorem dX9_taken_67 : decode cX9_taken 67 = .ok (.getfield 289, 3) := by decide +kernel
theorem dX9_taken_70 : decode cX9_taken 70 = .ok (.iaload, 1) := by decide +kernel
theorem dX9_taken_71 : decode cX9_taken 71 = .ok (.ireturn, 1) := by decide +kernel
theorem dX9_count_0 : decode cX9_count 0 = .ok (.iload_n 1, 1) := by decide +kernel
theorem dX9_count_1 : decode cX9_count 1 = .ok (.tableswitch 84 0 5 #[39, 47, 55, 60, 68, 76], 39) := by decide +kernel
theorem dX9_count_40 : decode cX9_count 40 = .ok (.aload_n 0, 1) := by decide +kernel
theorem dX9_count_41 : decode cX9_count 41 = .ok (.getfield 10, 3) := by decide +kernel
theorem dX9_count_44 : decode cX9_count 44 = .ok (.getfield 91, 3) := by decide +kernel
theorem dX9_count_47 : decode cX9_count 47 = .ok (.ireturn, 1) := by decide +kernel
theorem dX9_count_48 : decode cX9_count 48 = .ok (.aload_n 0, 1) := by decide +kernel
theorem dX9_count_49 : decode cX9_count 49 = .ok (.getfield 10, 3) := by decide +kernel
theorem dX9_count_52 : decode cX9_count 52 = .ok (.getfield 117, 3) := by decide +kernel
theorem dX9_count_55 : decode cX9_count 55 = .ok (.ireturn, 1) := by decide +kernel
theorem dX9_count_56 : decode cX9_count 56 = .ok (.aload_n 0, 1) := by decide +kernel
theorem dX9_count_57 : decode cX9_count 57 = .ok (.getfield 20, 3) := by decide +kernel
theorem dX9_count_60 : decode cX9_count 60 = .ok (.ireturn, 1) := by decide +kernel
theorem dX9_count_61 : decode cX9_count 61 = .ok (.aload_n 0, 1) := by decide +kernel
theorem dX9_count_62 : decode cX9_count 62 = .ok (.getfield 69, 3) := by decide +kernel
theorem dX9_count_65 : decode cX9_count 65 = .ok (.getfield 329, 3) := by decide +kernel
theorem dX9_count_68 : decode cX9_count 68 = .ok (.ireturn, 1) := by decide +kernel
theorem dX9_count_69 : decode cX9_count 69 = .ok (.aload_n 0, 1) := by decide +kernel
theorem dX9_count_70 : decode cX9_count 70 = .ok (.getfield 76, 3) := by decide +kernel
theorem dX9_count_73 : decode cX9_count 73 = .ok (.getfield 272, 3) := by decide +kernel
theorem dX9_count_76 : decode cX9_count 76 = .ok (.ireturn, 1) := by decide +kernel
theorem dX9_count_77 : decode cX9_count 77 = .ok (.aload_n 0, 1) := by decide +kernel
theorem dX9_count_78 : decode cX9_count 78 = .ok (.getfield 76, 3) := by decide +kernel
theorem dX9_count_81 : decode cX9_count 81 = .ok (.getfield 280, 3) := by decide +kernel
theorem dX9_count_84 : decode cX9_count 84 = .ok (.ireturn, 1) := by decide +kernel
theorem dX9_count_85 : decode cX9_count 85 = .ok (.iconst (-1), 1) := by decide +kernel
theorem dX9_count_86 : decode cX9_count 86 = .ok (.ireturn, 1) := by decide +kernel
theorem dX9_isWithin_0 : decode cX9_isWithin 0 = .ok (.iload_n 1, 1) := by decide +kernel
theorem dX9_isWithin_1 : decode cX9_isWithin 1 = .ok (.ifCond .lt 33, 3) := by decide +kernel
theorem dX9_isWithin_4 : decode cX9_isWithin 4 = .ok (.iload_n 1, 1) := by decide +kernel
theorem dX9_isWithin_5 : decode cX9_isWithin 5 = .ok (.getstatic 206, 3) := by decide +kernel
theorem dX9_isWithin_8 : decode cX9_isWithin 8 = .ok (.arraylength, 1) := by decide +kernel
theorem dX9_isWithin_9 : decode cX9_isWithin 9 = .ok (.if_icmp .ge 25, 3) := by decide +kernel
theorem dX9_isWithin_12 : decode cX9_isWithin 12 = .ok (.iload_n 0, 1) := by decide +kernel
theorem dX9_isWithin_13 : decode cX9_isWithin 13 = .ok (.getstatic 206, 3) := by decide +kernel
theorem dX9_isWithin_16 : decode cX9_isWithin 16 = .ok (.iload_n 1, 1) := by decide +kernel
theorem dX9_isWithin_17 : decode cX9_isWithin 17 = .ok (.iaload, 1) := by decide +kernel
theorem dX9_isWithin_18 : decode cX9_isWithin 18 = .ok (.if_icmp .lt 16, 3) := by decide +kernel
theorem dX9_isWithin_21 : decode cX9_isWithin 21 = .ok (.iload_n 0, 1) := by decide +kernel
theorem dX9_isWithin_22 : decode cX9_isWithin 22 = .ok (.getstatic 203, 3) := by decide +kernel
theorem dX9_isWithin_25 : decode cX9_isWithin 25 = .ok (.iload_n 1, 1) := by decide +kernel
theorem dX9_isWithin_26 : decode cX9_isWithin 26 = .ok (.iaload, 1) := by decide +kernel
theorem dX9_isWithin_27 : decode cX9_isWithin 27 = .ok (.if_icmp .gt 7, 3) := by decide +kernel
theorem dX9_isWithin_30 : decode cX9_isWithin 30 = .ok (.iconst 1, 1) := by decide +kernel
theorem dX9_isWithin_31 : decode cX9_isWithin 31 = .ok (.goto 4, 3) := by decide +kernel
theorem dX9_isWithin_34 : decode cX9_isWithin 34 = .ok (.iconst 0, 1) := by decide +kernel
theorem dX9_isWithin_35 : decode cX9_isWithin 35 = .ok (.ireturn, 1) := by decide +kernel
theorem dX9_isThought_0 : decode cX9_isThought 0 = .ok (.iload_n 0, 1) := by decide +kernel
theorem dX9_isThought_1 : decode cX9_isThought 1 = .ok (.ifCond .lt 13, 3) := by decide +kernel
theorem dX9_isThought_4 : decode cX9_isThought 4 = .ok (.iload_n 0, 1) := by decide +kernel
theorem dX9_isThought_5 : decode cX9_isThought 5 = .ok (.bipush 60, 2) := by decide +kernel
theorem dX9_isThought_7 : decode cX9_isThought 7 = .ok (.if_icmp .gt 7, 3) := by decide +kernel
theorem dX9_isThought_10 : decode cX9_isThought 10 = .ok (.iconst 1, 1) := by decide +kernel
theorem dX9_isThought_11 : decode cX9_isThought 11 = .ok (.goto 4, 3) := by decide +kernel
theorem dX9_isThought_14 : decode cX9_isThought 14 = .ok (.iconst 0, 1) := by decide +kernel
theorem dX9_isThought_15 : decode cX9_isThought 15 = .ok (.ireturn, 1) := by decide +kernel
theorem dX9_isChoiceOfTwo_0 : decode cX9_isChoiceOfTwo 0 = .ok (.iload_n 0, 1) := by decide +kernel
theorem dX9_isChoiceOfTwo_1 : decode cX9_isChoiceOfTwo 1 = .ok (.ifCond .eq 8, 3) := by decide +kernel
theorem dX9_isChoiceOfTwo_4 : decode cX9_isChoiceOfTwo 4 = .ok (.iload_n 0, 1) := by decide +kernel
theorem dX9_isChoiceOfTwo_5 : decode cX9_isChoiceOfTwo 5 = .ok (.iconst 1, 1) := by decide +kernel
theorem dX9_isChoiceOfTwo_6 : decode cX9_isChoiceOfTwo 6 = .ok (.if_icmp .ne 7, 3) := by decide +kernel
theorem dX9_isChoiceOfTwo_9 : decode cX9_isChoiceOfTwo 9 = .ok (.iconst 1, 1) := by decide +kernel
theorem dX9_isChoiceOfTwo_10 : decode cX9_isChoiceOfTwo 10 = .ok (.goto 4, 3) := by decide +kernel
theorem dX9_isChoiceOfTwo_13 : decode cX9_isChoiceOfTwo 13 = .ok (.iconst 0, 1) := by decide +kernel
theorem dX9_isChoiceOfTwo_14 : decode cX9_isChoiceOfTwo 14 = .ok (.ireturn, 1) := by decide +kernel
theorem dX9_isShelf_0 : decode cX9_isShelf 0 = .ok (.iload_n 0, 1) := by decide +kernel
theorem dX9_isShelf_1 : decode cX9_isShelf 1 = .ok (.ifCond .lt 13, 3) := by decide +kernel
theorem dX9_isShelf_4 : decode cX9_isShelf 4 = .ok (.iload_n 0, 1) := by decide +kernel
theorem dX9_isShelf_5 : decode cX9_isShelf 5 = .ok (.bipush 6, 2) := by decide +kernel
theorem dX9_isShelf_7 : decode cX9_isShelf 7 = .ok (.if_icmp .ge 7, 3) := by decide +kernel
theorem dX9_isShelf_10 : decode cX9_isShelf 10 = .ok (.iconst 1, 1) := by decide +kernel
theorem dX9_isShelf_11 : decode cX9_isShelf 11 = .ok (.goto 4, 3) := by decide +kernel
theorem dX9_isShelf_14 : decode cX9_isShelf 14 = .ok (.iconst 0, 1) := by decide +kernel
theorem dX9_isShelf_15 : decode cX9_isShelf 15 = .ok (.ireturn, 1) := by decide +kernel
theorem dX9_refusalOfBytes_0 : decode cX9_refusalOfBytes 0 = .ok (.aload_n 0, 1) := by decide +kernel
theorem dX9_refusalOfBytes_1 : decode cX9_refusalOfBytes 1 = .ok (.getfield 102, 3) := by decide +kernel
theorem dX9_refusalOfBytes_4 : decode cX9_refusalOfBytes 4 = .ok (.ifCond .ne 6, 3) := by decide +kernel
theorem dX9_refusalOfBytes_7 : decode cX9_refusalOfBytes 7 = .ok (.bipush (-11), 2) := by decide +kernel
theorem dX9_refusalOfBytes_9 : decode cX9_refusalOfBytes 9 = .ok (.ireturn, 1) := by decide +kernel
theorem dX9_refusalOfBytes_10 : decode cX9_refusalOfBytes 10 = .ok (.aload_n 0, 1) := by decide +kernel
theorem dX9_refusalOfBytes_11 : decode cX9_refusalOfBytes 11 = .ok (.iconst 0, 1) := by decide +kernel
theorem dX9_refusalOfBytes_12 : decode cX9_refusalOfBytes 12 = .ok (.invokevirtual 105, 3) := by decide +kernel
theorem dX9_refusalOfBytes_15 : decode cX9_refusalOfBytes 15 = .ok (.ifCond .eq 7, 3) := by decide +kernel
theorem dX9_refusalOfBytes_18 : decode cX9_refusalOfBytes 18 = .ok (.iconst 0, 1) := by decide +kernel
theorem dX9_refusalOfBytes_19 : decode cX9_refusalOfBytes 19 = .ok (.goto 5, 3) := by decide +kernel
theorem dX9_refusalOfBytes_22 : decode cX9_refusalOfBytes 22 = .ok (.bipush (-12), 2) := by decide +kernel
theorem dX9_refusalOfBytes_24 : decode cX9_refusalOfBytes 24 = .ok (.ireturn, 1) := by decide +kernel
theorem dX9_refusalOfPlace_0 : decode cX9_refusalOfPlace 0 = .ok (.aload_n 0, 1) := by decide +kernel
theorem dX9_refusalOfPlace_1 : decode cX9_refusalOfPlace 1 = .ok (.getfield 102, 3) := by decide +kernel
theorem dX9_refusalOfPlace_4 : decode cX9_refusalOfPlace 4 = .ok (.ifCond .ne 6, 3) := by decide +kernel
theorem dX9_refusalOfPlace_7 : decode cX9_refusalOfPlace 7 = .ok (.bipush (-11), 2) := by decide +kernel
theorem dX9_refusalOfPlace_9 : decode cX9_refusalOfPlace 9 = .ok (.ireturn, 1) := by decide +kernel
theorem dX9_refusalOfPlace_10 : decode cX9_refusalOfPlace 10 = .ok (.aload_n 0, 1) := by decide +kernel
theorem dX9_refusalOfPlace_11 : decode cX9_refusalOfPlace 11 = .ok (.getfield 102, 3) := by decide +kernel
theorem dX9_refusalOfPlace_14 : decode cX9_refusalOfPlace 14 = .ok (.iconst 2, 1) := by decide +kernel
theorem dX9_refusalOfPlace_15 : decode cX9_refusalOfPlace 15 = .ok (.if_icmp .eq 6, 3) := by decide +kernel
theorem dX9_refusalOfPlace_18 : decode cX9_refusalOfPlace 18 = .ok (.bipush (-12), 2) := by decide +kernel
theorem dX9_refusalOfPlace_20 : decode cX9_refusalOfPlace 20 = .ok (.ireturn, 1) := by decide +kernel
theorem dX9_refusalOfPlace_21 : decode cX9_refusalOfPlace 21 = .ok (.iload_n 1, 1) := by decide +kernel
theorem dX9_refusalOfPlace_22 : decode cX9_refusalOfPlace 22 = .ok (.ifCond .lt 15, 3) := by decide +kernel
theorem dX9_refusalOfPlace_25 : decode cX9_refusalOfPlace 25 = .ok (.iload_n 1, 1) := by decide +kernel
theorem dX9_refusalOfPlace_26 : decode cX9_refusalOfPlace 26 = .ok (.aload_n 0, 1) := by decide +kernel
theorem dX9_refusalOfPlace_27 : decode cX9_refusalOfPlace 27 = .ok (.getfield 332, 3) := by decide +kernel
theorem dX9_refusalOfPlace_30 : decode cX9_refusalOfPlace 30 = .ok (.if_icmp .ge 7, 3) := by decide +kernel
theorem dX9_refusalOfPlace_33 : decode cX9_refusalOfPlace 33 = .ok (.iconst 0, 1) := by decide +kernel
theorem dX9_refusalOfPlace_34 : decode cX9_refusalOfPlace 34 = .ok (.goto 5, 3) := by decide +kernel
theorem dX9_refusalOfPlace_37 : decode cX9_refusalOfPlace 37 = .ok (.bipush (-13), 2) := by decide +kernel
theorem dX9_refusalOfPlace_39 : decode cX9_refusalOfPlace 39 = .ok (.ireturn, 1) := by decide +kernel
theorem dX9_guestComes_0 : decode cX9_guestComes 0 = .ok (.lload_n 2, 1) := by decide +kernel
theorem dX9_guestComes_1 : decode cX9_guestComes 1 = .ok (.lconst 0, 1) := by decide +kernel
theorem dX9_guestComes_2 : decode cX9_guestComes 2 = .ok (.lcmp, 1) := by decide +kernel
theorem dX9_guestComes_3 : decode cX9_guestComes 3 = .ok (.ifCond .lt 29, 3) := by decide +kernel
theorem dX9_guestComes_6 : decode cX9_guestComes 6 = .ok (.lload_n 2, 1) := by decide +kernel
theorem dX9_guestComes_7 : decode cX9_guestComes 7 = .ok (.ldc2_w 335, 3) := by decide +kernel
theorem dX9_guestComes_10 : decode cX9_guestComes 10 = .ok (.ladd, 1) := by decide +kernel
theorem dX9_guestComes_11 : decode cX9_guestComes 11 = .ok (.aload_n 1, 1) := by decide +kernel
theorem dX9_guestComes_12 : decode cX9_guestComes 12 = .ok (.getfield 332, 3) := by decide +kernel
theorem dX9_guestComes_15 : decode cX9_guestComes 15 = .ok (.i2l, 1) := by decide +kernel
theorem dX9_guestComes_16 : decode cX9_guestComes 16 = .ok (.lcmp, 1) := by decide +kernel
theorem dX9_guestComes_17 : decode cX9_guestComes 17 = .ok (.ifCond .ge 15, 3) := by decide +kernel
theorem dX9_guestComes_20 : decode cX9_guestComes 20 = .ok (.aload_n 0, 1) := by decide +kernel
theorem dX9_guestComes_21 : decode cX9_guestComes 21 = .ok (.getfield 10, 3) := by decide +kernel
theorem dX9_guestComes_24 : decode cX9_guestComes 24 = .ok (.getfield 91, 3) := by decide +kernel
theorem dX9_guestComes_27 : decode cX9_guestComes 27 = .ok (.bipush 9, 2) := by decide +kernel
theorem dX9_guestComes_29 : decode cX9_guestComes 29 = .ok (.if_icmp .lt 5, 3) := by decide +kernel
theorem dX9_guestComes_32 : decode cX9_guestComes 32 = .ok (.iconst 0, 1) := by decide +kernel
theorem dX9_guestComes_33 : decode cX9_guestComes 33 = .ok (.ireturn, 1) := by decide +kernel
theorem dX9_guestComes_34 : decode cX9_guestComes 34 = .ok (.lload_n 2, 1) := by decide +kernel
theorem dX9_guestComes_35 : decode cX9_guestComes 35 = .ok (.l2i, 1) := by decide +kernel
theorem dX9_guestComes_36 : decode cX9_guestComes 36 = .ok (.istore 4, 2) := by decide +kernel
theorem dX9_guestComes_38 : decode cX9_guestComes 38 = .ok (.iconst 0, 1) := by decide +kernel
theorem dX9_guestComes_39 : decode cX9_guestComes 39 = .ok (.istore 5, 2) := by decide +kernel
theorem dX9_guestComes_41 : decode cX9_guestComes 41 = .ok (.iload 5, 2) := by decide +kernel
theorem dX9_guestComes_43 : decode cX9_guestComes 43 = .ok (.iconst 3, 1) := by decide +kernel
theorem dX9_guestComes_44 : decode cX9_guestComes 44 = .ok (.if_icmp .gt 30, 3) := by decide +kernel
theorem dX9_guestComes_47 : decode cX9_guestComes 47 = .ok (.aload_n 1, 1) := by decide +kernel
theorem dX9_guestComes_48 : decode cX9_guestComes 48 = .ok (.getfield 299, 3) := by decide +kernel
theorem dX9_guestComes_51 : decode cX9_guestComes 51 = .ok (.iload 4, 2) := by decide +kernel
theorem dX9_guestComes_53 : decode cX9_guestComes 53 = .ok (.iload 5, 2) := by decide +kernel
theorem dX9_guestComes_55 : decode cX9_guestComes 55 = .ok (.iadd, 1) := by decide +kernel
theorem dX9_guestComes_56 : decode cX9_guestComes 56 = .ok (.laload, 1) := by decide +kernel
theorem dX9_guestComes_57 : decode cX9_guestComes 57 = .ok (.l2i, 1) := by decide +kernel
theorem dX9_guestComes_58 : decode cX9_guestComes 58 = .ok (.iload 5, 2) := by decide +kernel
theorem dX9_guestComes_60 : decode cX9_guestComes 60 = .ok (.invokestatic 87, 3) := by decide +kernel
theorem dX9_guestComes_63 : decode cX9_guestComes 63 = .ok (.ifCond .ne 5, 3) := by decide +kernel
theorem dX9_guestComes_66 : decode cX9_guestComes 66 = .ok (.iconst 0, 1) := by decide +kernel
theorem dX9_guestComes_67 : decode cX9_guestComes 67 = .ok (.ireturn, 1) := by decide +kernel
theorem dX9_guestComes_68 : decode cX9_guestComes 68 = .ok (.iinc 5 1, 3) := by decide +kernel
theorem dX9_guestComes_71 : decode cX9_guestComes 71 = .ok (.goto (-30), 3) := by decide +kernel
theorem dX9_guestComes_74 : decode cX9_guestComes 74 = .ok (.aload_n 0, 1) := by decide +kernel
theorem dX9_guestComes_75 : decode cX9_guestComes 75 = .ok (.getfield 10, 3) := by decide +kernel
theorem dX9_guestComes_78 : decode cX9_guestComes 78 = .ok (.aload_n 1, 1) := by decide +kernel
theorem dX9_guestComes_79 : decode cX9_guestComes 79 = .ok (.getfield 299, 3) := by decide +kernel
theorem dX9_guestComes_82 : decode cX9_guestComes 82 = .ok (.iload 4, 2) := by decide +kernel
theorem dX9_guestComes_84 : decode cX9_guestComes 84 = .ok (.iconst 3, 1) := by decide +kernel
theorem dX9_guestComes_85 : decode cX9_guestComes 85 = .ok (.iadd, 1) := by decide +kernel
theorem dX9_guestComes_86 : decode cX9_guestComes 86 = .ok (.laload, 1) := by decide +kernel
theorem dX9_guestComes_87 : decode cX9_guestComes 87 = .ok (.l2i, 1) := by decide +kernel
theorem dX9_guestComes_88 : decode cX9_guestComes 88 = .ok (.bipush 7, 2) := by decide +kernel
theorem dX9_guestComes_90 : decode cX9_guestComes 90 = .ok (.invokevirtual 94, 3) := by decide +kernel
theorem dX9_guestComes_93 : decode cX9_guestComes 93 = .ok (.istore 5, 2) := by decide +kernel
theorem dX9_guestComes_95 : decode cX9_guestComes 95 = .ok (.iconst 0, 1) := by decide +kernel
theorem dX9_guestComes_96 : decode cX9_guestComes 96 = .ok (.istore 6, 2) := by decide +kernel
theorem dX9_guestComes_98 : decode cX9_guestComes 98 = .ok (.iload 6, 2) := by decide +kernel
theorem dX9_guestComes_100 : decode cX9_guestComes 100 = .ok (.iconst 3, 1) := by decide +kernel
theorem dX9_guestComes_101 : decode cX9_guestComes 101 = .ok (.if_icmp .ge 31, 3) := by decide +kernel
theorem dX9_guestComes_104 : decode cX9_guestComes 104 = .ok (.aload_n 0, 1) := by decide +kernel
theorem dX9_guestComes_105 : decode cX9_guestComes 105 = .ok (.getfield 10, 3) := by decide +kernel
theorem dX9_guestComes_108 : decode cX9_guestComes 108 = .ok (.iload 5, 2) := by decide +kernel
theorem dX9_guestComes_110 : decode cX9_guestComes 110 = .ok (.iload 6, 2) := by decide +kernel
theorem dX9_guestComes_112 : decode cX9_guestComes 112 = .ok (.aload_n 1, 1) := by decide +kernel
theorem dX9_guestComes_113 : decode cX9_guestComes 113 = .ok (.getfield 299, 3) := by decide +kernel
theorem dX9_guestComes_116 : decode cX9_guestComes 116 = .ok (.iload 4, 2) := by decide +kernel
theorem dX9_guestComes_118 : decode cX9_guestComes 118 = .ok (.iload 6, 2) := by decide +kernel
theorem dX9_guestComes_120 : decode cX9_guestComes 120 = .ok (.iadd, 1) := by decide +kernel
theorem dX9_guestComes_121 : decode cX9_guestComes 121 = .ok (.laload, 1) := by decide +kernel
theorem dX9_guestComes_122 : decode cX9_guestComes 122 = .ok (.l2i, 1) := by decide +kernel
theorem dX9_guestComes_123 : decode cX9_guestComes 123 = .ok (.invokevirtual 130, 3) := by decide +kernel
theorem dX9_guestComes_126 : decode cX9_guestComes 126 = .ok (.iinc 6 1, 3) := by decide +kernel
theorem dX9_guestComes_129 : decode cX9_guestComes 129 = .ok (.goto (-31), 3) := by decide +kernel
theorem dX9_guestComes_132 : decode cX9_guestComes 132 = .ok (.iconst 1, 1) := by decide +kernel
theorem dX9_guestComes_133 : decode cX9_guestComes 133 = .ok (.ireturn, 1) := by decide +kernel
theorem dX10_init_0 : decode cX10_init 0 = .ok (.aload_n 0, 1) := by decide +kernel
theorem dX10_init_1 : decode cX10_init 1 = .ok (.invokespecial 1, 3) := by decide +kernel
theorem dX10_init_4 : decode cX10_init 4 = .ok (.aload_n 0, 1) := by decide +kernel
theorem dX10_init_5 : decode cX10_init 5 = .ok (.bipush 94, 2) := by decide +kernel
theorem dX10_init_7 : decode cX10_init 7 = .ok (.newarray .int, 2) := by decide +kernel
theorem dX10_init_9 : decode cX10_init 9 = .ok (.putfield 7, 3) := by decide +kernel
theorem dX10_init_12 : decode cX10_init 12 = .ok (.aload_n 0, 1) := by decide +kernel
theorem dX10_init_13 : decode cX10_init 13 = .ok (.sipush 188, 3) := by decide +kernel
theorem dX10_init_16 : decode cX10_init 16 = .ok (.newarray .int, 2) := by decide +kernel
theorem dX10_init_18 : decode cX10_init 18 = .ok (.putfield 13, 3) := by decide +kernel
theorem dX10_init_21 : decode cX10_init 21 = .ok (.aload_n 0, 1) := by decide +kernel
theorem dX10_init_22 : decode cX10_init 22 = .ok (.bipush 40, 2) := by decide +kernel
theorem dX10_init_24 : decode cX10_init 24 = .ok (.newarray .int, 2) := by decide +kernel
theorem dX10_init_26 : decode cX10_init 26 = .ok (.putfield 16, 3) := by decide +kernel
theorem dX10_init_29 : decode cX10_init 29 = .ok (.aload_n 0, 1) := by decide +kernel
theorem dX10_init_30 : decode cX10_init 30 = .ok (.bipush 40, 2) := by decide +kernel
theorem dX10_init_32 : decode cX10_init 32 = .ok (.newarray .int, 2) := by decide +kernel
theorem dX10_init_34 : decode cX10_init 34 = .ok (.putfield 19, 3) := by decide +kernel
theorem dX10_init_37 : decode cX10_init 37 = .ok (.aload_n 0, 1) := by decide +kernel
theorem dX10_init_38 : decode cX10_init 38 = .ok (.bipush 40, 2) := by decide +kernel
theorem dX10_init_40 : decode cX10_init 40 = .ok (.newarray .int, 2) := by decide +kernel
theorem dX10_init_42 : decode cX10_init 42 = .ok (.putfield 22, 3) := by decide +kernel
theorem dX10_init_45 : decode cX10_init 45 = .ok (.aload_n 0, 1) := by decide +kernel
theorem dX10_init_46 : decode cX10_init 46 = .ok (.bipush 9, 2) := by decide +kernel
theorem dX10_init_48 : decode cX10_init 48 = .ok (.newarray .int, 2) := by decide +kernel
theorem dX10_init_50 : decode cX10_init 50 = .ok (.dup, 1) := by decide +kernel
theorem dX10_init_51 : decode cX10_init 51 = .ok (.iconst 0, 1) := by decide +kernel
theorem dX10_init_52 : decode cX10_init 52 = .ok (.iconst 0, 1) := by decide +kernel
theorem dX10_init_53 : decode cX10_init 53 = .ok (.iastore, 1) := by decide +kernel
theorem dX10_init_54 : decode cX10_init 54 = .ok (.dup, 1) := by decide +kernel
theorem dX10_init_55 : decode cX10_init 55 = .ok (.iconst 1, 1) := by decide +kernel
theorem dX10_init_56 : decode cX10_init 56 = .ok (.iconst 0, 1) := by decide +kernel
theorem dX10_init_57 : decode cX10_init 57 = .ok (.iastore, 1) := by decide +kernel
theorem dX10_init_58 : decode cX10_init 58 = .ok (.dup, 1) := by decide +kernel
theorem dX10_init_59 : decode cX10_init 59 = .ok (.iconst 2, 1) := by decide +kernel
theorem dX10_init_60 : decode cX10_init 60 = .ok (.iconst 0, 1) := by decide +kernel
theorem dX10_init_61 : decode cX10_init 61 = .ok (.iastore, 1) := by decide +kernel
theorem dX10_init_62 : decode cX10_init 62 = .ok (.dup, 1) := by decide +kernel
theorem dX10_init_63 : decode cX10_init 63 = .ok (.iconst 3, 1) := by decide +kernel
theorem dX10_init_64 : decode cX10_init 64 = .ok (.iconst 0, 1) := by decide +kernel
theorem dX10_init_65 : decode cX10_init 65 = .ok (.iastore, 1) := by decide +kernel
theorem dX10_init_66 : decode cX10_init 66 = .ok (.dup, 1) := by decide +kernel
theorem dX10_init_67 : decode cX10_init 67 = .ok (.iconst 4, 1) := by decide +kernel
theorem dX10_init_68 : decode cX10_init 68 = .ok (.iconst 5, 1) := by decide +kernel
theorem dX10_init_69 : decode cX10_init 69 = .ok (.iastore, 1) := by decide +kernel
theorem dX10_init_70 : decode cX10_init 70 = .ok (.dup, 1) := by decide +kernel
theorem dX10_init_71 : decode cX10_init 71 = .ok (.iconst 5, 1) := by decide +kernel
theorem dX10_init_72 : decode cX10_init 72 = .ok (.iconst 0, 1) := by decide +kernel
theorem dX10_init_73 : decode cX10_init 73 = .ok (.iastore, 1) := by decide +kernel
theorem dX10_init_74 : decode cX10_init 74 = .ok (.dup, 1) := by decide +kernel
theorem dX10_init_75 : decode cX10_init 75 = .ok (.bipush 6, 2) := by decide +kernel
theorem dX10_init_77 : decode cX10_init 77 = .ok (.iconst 0, 1) := by decide +kernel
theorem dX10_init_78 : decode cX10_init 78 = .ok (.iastore, 1) := by decide +kernel
theorem dX10_init_79 : decode cX10_init 79 = .ok (.dup, 1) := by decide +kernel
theorem dX10_init_80 : decode cX10_init 80 = .ok (.bipush 7, 2) := by decide +kernel
theorem dX10_init_82 : decode cX10_init 82 = .ok (.iconst 1, 1) := by decide +kernel
theorem dX10_init_83 : decode cX10_init 83 = .ok (.iastore, 1) := by decide +kernel
theorem dX10_init_84 : decode cX10_init 84 = .ok (.dup, 1) := by decide +kernel
theorem dX10_init_85 : decode cX10_init 85 = .ok (.bipush 8, 2) := by decide +kernel
theorem dX10_init_87 : decode cX10_init 87 = .ok (.iconst 0, 1) := by decide +kernel
theorem dX10_init_88 : decode cX10_init 88 = .ok (.iastore, 1) := by decide +kernel
theorem dX10_init_89 : decode cX10_init 89 = .ok (.putfield 25, 3) := by decide +kernel
theorem dX10_init_92 : decode cX10_init 92 = .ok (.aload_n 0, 1) := by decide +kernel
theorem dX10_init_93 : decode cX10_init 93 = .ok (.bipush 9, 2) := by decide +kernel
theorem dX10_init_95 : decode cX10_init 95 = .ok (.newarray .int, 2) := by decide +kernel
theorem dX10_init_97 : decode cX10_init 97 = .ok (.dup, 1) := by decide +kernel
theorem dX10_init_98 : decode cX10_init 98 = .ok (.iconst 0, 1) := by decide +kernel
theorem dX10_init_99 : decode cX10_init 99 = .ok (.bipush 99, 2) := by decide +kernel
theorem dX10_init_101 : decode cX10_init 101 = .ok (.iastore, 1) := by decide +kernel
theorem dX10_init_102 : decode cX10_init 102 = .ok (.dup, 1) := by decide +kernel
theorem dX10_init_103 : decode cX10_init 103 = .ok (.iconst 1, 1) := by decide +kernel
theorem dX10_init_104 : decode cX10_init 104 = .ok (.bipush 9, 2) := by decide +kernel
theorem dX10_init_106 : decode cX10_init 106 = .ok (.iastore, 1) := by decide +kernel
theorem dX10_init_107 : decode cX10_init 107 = .ok (.dup, 1) := by decide +kernel
theorem dX10_init_108 : decode cX10_init 108 = .ok (.iconst 2, 1) := by decide +kernel
theorem dX10_init_109 : decode cX10_init 109 = .ok (.bipush 9, 2) := by decide +kernel
theorem dX10_init_111 : decode cX10_init 111 = .ok (.iastore, 1) := by decide +kernel
theorem dX10_init_112 : decode cX10_init 112 = .ok (.dup, 1) := by decide +kernel
theorem dX10_init_113 : decode cX10_init 113 = .ok (.iconst 3, 1) := by decide +kernel
theorem dX10_init_114 : decode cX10_init 114 = .ok (.iconst 1, 1) := by decide +kernel
theorem dX10_init_115 : decode cX10_init 115 = .ok (.iastore, 1) := by decide +kernel
theorem dX10_init_116 : decode cX10_init 116 = .ok (.dup, 1) := by decide +kernel
theorem dX10_init_117 : decode cX10_init 117 = .ok (.iconst 4, 1) := by decide +kernel
theorem dX10_init_118 : decode cX10_init 118 = .ok (.bipush 9, 2) := by decide +kernel
theorem dX10_init_120 : decode cX10_init 120 = .ok (.iastore, 1) := by decide +kernel
theorem dX10_init_121 : decode cX10_init 121 = .ok (.dup, 1) := by decide +kernel
theorem dX10_init_122 : decode cX10_init 122 = .ok (.iconst 5, 1) := by decide +kernel
theorem dX10_init_123 : decode cX10_init 123 = .ok (.iconst 1, 1) := by decide +kernel
theorem dX10_init_124 : decode cX10_init 124 = .ok (.iastore, 1) := by decide +kernel
theorem dX10_init_125 : decode cX10_init 125 = .ok (.dup, 1) := by decide +kernel
theorem dX10_init_126 : decode cX10_init 126 = .ok (.bipush 6, 2) := by decide +kernel
theorem dX10_init_128 : decode cX10_init 128 = .ok (.sipush 199, 3) := by decide +kernel
theorem dX10_init_131 : decode cX10_init 131 = .ok (.iastore, 1) := by decide +kernel
theorem dX10_init_132 : decode cX10_init 132 = .ok (.dup, 1) := by decide +kernel
theorem dX10_init_133 : decode cX10_init 133 = .ok (.bipush 7, 2) := by decide +kernel
theorem dX10_init_135 : decode cX10_init 135 = .ok (.bipush 30, 2) := by decide +kernel
theorem dX10_init_137 : decode cX10_init 137 = .ok (.iastore, 1) := by decide +kernel
theorem dX10_init_138 : decode cX10_init 138 = .ok (.dup, 1) := by decide +kernel
theorem dX10_init_139 : decode cX10_init 139 = .ok (.bipush 8, 2) := by decide +kernel
theorem dX10_init_141 : decode cX10_init 141 = .ok (.sipush 199, 3) := by decide +kernel
theorem dX10_init_144 : decode cX10_init 144 = .ok (.iastore, 1) := by decide +kernel
theorem dX10_init_145 : decode cX10_init 145 = .ok (.putfield 28, 3) := by decide +kernel
theorem dX10_init_148 : decode cX10_init 148 = .ok (.aload_n 0, 1) := by decide +kernel
theorem dX10_init_149 : decode cX10_init 149 = .ok (.bipush 120, 2) := by decide +kernel
theorem dX10_init_151 : decode cX10_init 151 = .ok (.newarray .int, 2) := by decide +kernel
theorem dX10_init_153 : decode cX10_init 153 = .ok (.putfield 31, 3) := by decide +kernel
theorem dX10_init_156 : decode cX10_init 156 = .ok (.aload_n 0, 1) := by decide +kernel
theorem dX10_init_157 : decode cX10_init 157 = .ok (.bipush 120, 2) := by decide +kernel
theorem dX10_init_159 : decode cX10_init 159 = .ok (.newarray .int, 2) := by decide +kernel
theorem dX10_init_161 : decode cX10_init 161 = .ok (.putfield 34, 3) := by decide +kernel
theorem dX10_init_164 : decode cX10_init 164 = .ok (.aload_n 0, 1) := by decide +kernel
theorem dX10_init_165 : decode cX10_init 165 = .ok (.bipush 120, 2) := by decide +kernel
theorem dX10_init_167 : decode cX10_init 167 = .ok (.newarray .int, 2) := by decide +kernel
theorem dX10_init_169 : decode cX10_init 169 = .ok (.putfield 37, 3) := by decide +kernel
theorem dX10_init_172 : decode cX10_init 172 = .ok (.aload_n 0, 1) := by decide +kernel
theorem dX10_init_173 : decode cX10_init 173 = .ok (.bipush 6, 2) := by decide +kernel
theorem dX10_init_175 : decode cX10_init 175 = .ok (.newarray .int, 2) := by decide +kernel
theorem dX10_init_177 : decode cX10_init 177 = .ok (.putfield 40, 3) := by decide +kernel
theorem dX10_init_180 : decode cX10_init 180 = .ok (.aload_n 0, 1) := by decide +kernel
theorem dX10_init_181 : decode cX10_init 181 = .ok (.bipush 6, 2) := by decide +kernel
theorem dX10_init_183 : decode cX10_init 183 = .ok (.newarray .char, 2) := by decide +kernel
theorem dX10_init_185 : decode cX10_init 185 = .ok (.dup, 1) := by decide +kernel
theorem dX10_init_186 : decode cX10_init 186 = .ok (.iconst 0, 1) := by decide +kernel
theorem dX10_init_187 : decode cX10_init 187 = .ok (.bipush 114, 2) := by decide +kernel
theorem dX10_init_189 : decode cX10_init 189 = .ok (.castore, 1) := by decide +kernel
theorem dX10_init_190 : decode cX10_init 190 = .ok (.dup, 1) := by decide +kernel
theorem dX10_init_191 : decode cX10_init 191 = .ok (.iconst 1, 1) := by decide +kernel
theorem dX10_init_192 : decode cX10_init 192 = .ok (.bipush 108, 2) := by decide +kernel
theorem dX10_init_194 : decode cX10_init 194 = .ok (.castore, 1) := by decide +kernel
theorem dX10_init_195 : decode cX10_init 195 = .ok (.dup, 1) := by decide +kernel
theorem dX10_init_196 : decode cX10_init 196 = .ok (.iconst 2, 1) := by decide +kernel
theorem dX10_init_197 : decode cX10_init 197 = .ok (.bipush 104, 2) := by decide +kernel
theorem dX10_init_199 : decode cX10_init 199 = .ok (.castore, 1) := by decide +kernel
theorem dX10_init_200 : decode cX10_init 200 = .ok (.dup, 1) := by decide +kernel
theorem dX10_init_201 : decode cX10_init 201 = .ok (.iconst 3, 1) := by decide +kernel
theorem dX10_init_202 : decode cX10_init 202 = .ok (.bipush 109, 2) := by decide +kernel
theorem dX10_init_204 : decode cX10_init 204 = .ok (.castore, 1) := by decide +kernel
theorem dX10_init_205 : decode cX10_init 205 = .ok (.dup, 1) := by decide +kernel
theorem dX10_init_206 : decode cX10_init 206 = .ok (.iconst 4, 1) := by decide +kernel
theorem dX10_init_207 : decode cX10_init 207 = .ok (.bipush 110, 2) := by decide +kernel
theorem dX10_init_209 : decode cX10_init 209 = .ok (.castore, 1) := by decide +kernel
theorem dX10_init_210 : decode cX10_init 210 = .ok (.dup, 1) := by decide +kernel
theorem dX10_init_211 : decode cX10_init 211 = .ok (.iconst 5, 1) := by decide +kernel
theorem dX10_init_212 : decode cX10_init 212 = .ok (.bipush 103, 2) := by decide +kernel
theorem dX10_init_214 : decode cX10_init 214 = .ok (.castore, 1) := by decide +kernel
theorem dX10_init_215 : decode cX10_init 215 = .ok (.putfield 43, 3) := by decide +kernel
theorem dX10_init_218 : decode cX10_init 218 = .ok (.aload_n 0, 1) := by decide +kernel
theorem dX10_init_219 : decode cX10_init 219 = .ok (.iconst (-1), 1) := by decide +kernel
theorem dX10_init_220 : decode cX10_init 220 = .ok (.putfield 47, 3) := by decide +kernel
theorem dX10_init_223 : decode cX10_init 223 = .ok (.aload_n 0, 1) := by decide +kernel
theorem dX10_init_224 : decode cX10_init 224 = .ok (.bipush 9, 2) := by decide +kernel
theorem dX10_init_226 : decode cX10_init 226 = .ok (.newarray .int, 2) := by decide +kernel
theorem dX10_init_228 : decode cX10_init 228 = .ok (.putfield 51, 3) := by decide +kernel
theorem dX10_init_231 : decode cX10_init 231 = .ok (.aload_n 0, 1) := by decide +kernel
theorem dX10_init_232 : decode cX10_init 232 = .ok (.bipush 9, 2) := by decide +kernel
theorem dX10_init_234 : decode cX10_init 234 = .ok (.newarray .int, 2) := by decide +kernel
theorem dX10_init_236 : decode cX10_init 236 = .ok (.putfield 54, 3) := by decide +kernel
theorem dX10_init_239 : decode cX10_init 239 = .ok (.aload_n 0, 1) := by decide +kernel
theorem dX10_init_240 : decode cX10_init 240 = .ok (.bipush 9, 2) := by decide +kernel
theorem dX10_init_242 : decode cX10_init 242 = .ok (.newarray .int, 2) := by decide +kernel
theorem dX10_init_244 : decode cX10_init 244 = .ok (.putfield 57, 3) := by decide +kernel
theorem dX10_init_247 : decode cX10_init 247 = .ok (.aload_n 0, 1) := by decide +kernel
theorem dX10_init_248 : decode cX10_init 248 = .ok (.bipush 6, 2) := by decide +kernel
theorem dX10_init_250 : decode cX10_init 250 = .ok (.newarray .int, 2) := by decide +kernel
theorem dX10_init_252 : decode cX10_init 252 = .ok (.dup, 1) := by decide +kernel
theorem dX10_init_253 : decode cX10_init 253 = .ok (.iconst 0, 1) := by decide +kernel
theorem dX10_init_254 : decode cX10_init 254 = .ok (.iconst (-1), 1) := by decide +kernel
theorem dX10_init_255 : decode cX10_init 255 = .ok (.iastore, 1) := by decide +kernel
theorem dX10_init_256 : decode cX10_init 256 = .ok (.dup, 1) := by decide +kernel
theorem dX10_init_257 : decode cX10_init 257 = .ok (.iconst 1, 1) := by decide +kernel
theorem dX10_init_258 : decode cX10_init 258 = .ok (.iconst (-1), 1) := by decide +kernel
theorem dX10_init_259 : decode cX10_init 259 = .ok (.iastore, 1) := by decide +kernel
theorem dX10_init_260 : decode cX10_init 260 = .ok (.dup, 1) := by decide +kernel
theorem dX10_init_261 : decode cX10_init 261 = .ok (.iconst 2, 1) := by decide +kernel
theorem dX10_init_262 : decode cX10_init 262 = .ok (.iconst (-1), 1) := by decide +kernel
theorem dX10_init_263 : decode cX10_init 263 = .ok (.iastore, 1) := by decide +kernel
theorem dX10_init_264 : decode cX10_init 264 = .ok (.dup, 1) := by decide +kernel
theorem dX10_init_265 : decode cX10_init 265 = .ok (.iconst 3, 1) := by decide +kernel
theorem dX10_init_266 : decode cX10_init 266 = .ok (.iconst (-1), 1) := by decide +kernel
theorem dX10_init_267 : decode cX10_init 267 = .ok (.iastore, 1) := by decide +kernel
theorem dX10_init_268 : decode cX10_init 268 = .ok (.dup, 1) := by decide +kernel
theorem dX10_init_269 : decode cX10_init 269 = .ok (.iconst 4, 1) := by decide +kernel
theorem dX10_init_270 : decode cX10_init 270 = .ok (.iconst (-1), 1) := by decide +kernel
theorem dX10_init_271 : decode cX10_init 271 = .ok (.iastore, 1) := by decide +kernel
theorem dX10_init_272 : decode cX10_init 272 = .ok (.dup, 1) := by decide +kernel
theorem dX10_init_273 : decode cX10_init 273 = .ok (.iconst 5, 1) := by decide +kernel
theorem dX10_init_274 : decode cX10_init 274 = .ok (.iconst (-1), 1) := by decide +kernel
theorem dX10_init_275 : decode cX10_init 275 = .ok (.iastore, 1) := by decide +kernel
theorem dX10_init_276 : decode cX10_init 276 = .ok (.putfield 60, 3) := by decide +kernel
theorem dX10_init_279 : decode cX10_init 279 = .ok (.aload_n 0, 1) := by decide +kernel
theorem dX10_init_280 : decode cX10_init 280 = .ok (.bipush 6, 2) := by decide +kernel
theorem dX10_init_282 : decode cX10_init 282 = .ok (.newarray .int, 2) := by decide +kernel
theorem dX10_init_284 : decode cX10_init 284 = .ok (.putfield 63, 3) := by decide +kernel
theorem dX10_init_287 : decode cX10_init 287 = .ok (.aload_n 0, 1) := by decide +kernel
theorem dX10_init_288 : decode cX10_init 288 = .ok (.sipush 360, 3) := by decide +kernel
theorem dX10_init_291 : decode cX10_init 291 = .ok (.newarray .long, 2) := by decide +kernel
theorem dX10_init_293 : decode cX10_init 293 = .ok (.putfield 66, 3) := by decide +kernel
theorem dX10_init_296 : decode cX10_init 296 = .ok (.aload_n 0, 1) := by decide +kernel
theorem dX10_init_297 : decode cX10_init 297 = .ok (.bipush 60, 2) := by decide +kernel
theorem dX10_init_299 : decode cX10_init 299 = .ok (.newarray .long, 2) := by decide +kernel
theorem dX10_init_301 : decode cX10_init 301 = .ok (.putfield 70, 3) := by decide +kernel
theorem dX10_init_304 : decode cX10_init 304 = .ok (.aload_n 0, 1) := by decide +kernel
theorem dX10_init_305 : decode cX10_init 305 = .ok (.iconst 5, 1) := by decide +kernel
theorem dX10_init_306 : decode cX10_init 306 = .ok (.newarray .int, 2) := by decide +kernel
theorem dX10_init_308 : decode cX10_init 308 = .ok (.putfield 73, 3) := by decide +kernel
theorem dX10_init_311 : decode cX10_init 311 = .ok (.aload_n 0, 1) := by decide +kernel
theorem dX10_init_312 : decode cX10_init 312 = .ok (.bipush 94, 2) := by decide +kernel
theorem dX10_init_314 : decode cX10_init 314 = .ok (.newarray .int, 2) := by decide +kernel
theorem dX10_init_316 : decode cX10_init 316 = .ok (.putfield 76, 3) := by decide +kernel
theorem dX10_init_319 : decode cX10_init 319 = .ok (.aload_n 0, 1) := by decide +kernel
theorem dX10_init_320 : decode cX10_init 320 = .ok (.iconst 5, 1) := by decide +kernel
theorem dX10_init_321 : decode cX10_init 321 = .ok (.newarray .int, 2) := by decide +kernel
theorem dX10_init_323 : decode cX10_init 323 = .ok (.putfield 79, 3) := by decide +kernel
theorem dX10_init_326 : decode cX10_init 326 = .ok (.aload_n 0, 1) := by decide +kernel
theorem dX10_init_327 : decode cX10_init 327 = .ok (.bipush 8, 2) := by decide +kernel
theorem dX10_init_329 : decode cX10_init 329 = .ok (.newarray .int, 2) := by decide +kernel
theorem dX10_init_331 : decode cX10_init 331 = .ok (.dup, 1) := by decide +kernel
theorem dX10_init_332 : decode cX10_init 332 = .ok (.iconst 0, 1) := by decide +kernel
theorem dX10_init_333 : decode cX10_init 333 = .ok (.iconst (-1), 1) := by decide +kernel
theorem dX10_init_334 : decode cX10_init 334 = .ok (.iastore, 1) := by decide +kernel
theorem dX10_init_335 : decode cX10_init 335 = .ok (.dup, 1) := by decide +kernel
theorem dX10_init_336 : decode cX10_init 336 = .ok (.iconst 1, 1) := by decide +kernel
theorem dX10_init_337 : decode cX10_init 337 = .ok (.iconst 0, 1) := by decide +kernel
theorem dX10_init_338 : decode cX10_init 338 = .ok (.iastore, 1) := by decide +kernel
theorem dX10_init_339 : decode cX10_init 339 = .ok (.dup, 1) := by decide +kernel
theorem dX10_init_340 : decode cX10_init 340 = .ok (.iconst 2, 1) := by decide +kernel
theorem dX10_init_341 : decode cX10_init 341 = .ok (.iconst 0, 1) := by decide +kernel
theorem dX10_init_342 : decode cX10_init 342 = .ok (.iastore, 1) := by decide +kernel
theorem dX10_init_343 : decode cX10_init 343 = .ok (.dup, 1) := by decide +kernel
theorem dX10_init_344 : decode cX10_init 344 = .ok (.iconst 3, 1) := by decide +kernel
theorem dX10_init_345 : decode cX10_init 345 = .ok (.iconst 2, 1) := by decide +kernel
theorem dX10_init_346 : decode cX10_init 346 = .ok (.iastore, 1) := by decide +kernel
theorem dX10_init_347 : decode cX10_init 347 = .ok (.dup, 1) := by decide +kernel
theorem dX10_init_348 : decode cX10_init 348 = .ok (.iconst 4, 1) := by decide +kernel
theorem dX10_init_349 : decode cX10_init 349 = .ok (.iconst 1, 1) := by decide +kernel
theorem dX10_init_350 : decode cX10_init 350 = .ok (.iastore, 1) := by decide +kernel
theorem dX10_init_351 : decode cX10_init 351 = .ok (.dup, 1) := by decide +kernel
theorem dX10_init_352 : decode cX10_init 352 = .ok (.iconst 5, 1) := by decide +kernel
theorem dX10_init_353 : decode cX10_init 353 = .ok (.iconst 3, 1) := by decide +kernel
theorem dX10_init_354 : decode cX10_init 354 = .ok (.iastore, 1) := by decide +kernel
theorem dX10_init_355 : decode cX10_init 355 = .ok (.dup, 1) := by decide +kernel
theorem dX10_init_356 : decode cX10_init 356 = .ok (.bipush 6, 2) := by decide +kernel
theorem dX10_init_358 : decode cX10_init 358 = .ok (.iconst 0, 1) := by decide +kernel
theorem dX10_init_359 : decode cX10_init 359 = .ok (.iastore, 1) := by decide +kernel
theorem dX10_init_360 : decode cX10_init 360 = .ok (.dup, 1) := by decide +kernel
theorem dX10_init_361 : decode cX10_init 361 = .ok (.bipush 7, 2) := by decide +kernel
theorem dX10_init_363 : decode cX10_init 363 = .ok (.iconst 4, 1) := by decide +kernel
theorem dX10_init_364 : decode cX10_init 364 = .ok (.iastore, 1) := by decide +kernel
theorem dX10_init_365 : decode cX10_init 365 = .ok (.putfield 82, 3) := by decide +kernel
theorem dX10_init_368 : decode cX10_init 368 = .ok (.aload_n 0, 1) := by decide +kernel
theorem dX10_init_369 : decode cX10_init 369 = .ok (.bipush 32, 2) := by decide +kernel
theorem dX10_init_371 : decode cX10_init 371 = .ok (.newarray .int, 2) := by decide +kernel
theorem dX10_init_373 : decode cX10_init 373 = .ok (.dup, 1) := by decide +kernel
theorem dX10_init_374 : decode cX10_init 374 = .ok (.iconst 0, 1) := by decide +kernel
theorem dX10_init_375 : decode cX10_init 375 = .ok (.iconst 1, 1) := by decide +kernel
theorem dX10_init_376 : decode cX10_init 376 = .ok (.iastore, 1) := by decide +kernel
theorem dX10_init_377 : decode cX10_init 377 = .ok (.dup, 1) := by decide +kernel
theorem dX10_init_378 : decode cX10_init 378 = .ok (.iconst 1, 1) := by decide +kernel
theorem dX10_init_379 : decode cX10_init 379 = .ok (.bipush 10, 2) := by decide +kernel
theorem dX10_init_381 : decode cX10_init 381 = .ok (.iastore, 1) := by decide +kernel
theorem dX10_init_382 : decode cX10_init 382 = .ok (.dup, 1) := by decide +kernel
theorem dX10_init_383 : decode cX10_init 383 = .ok (.iconst 2, 1) := by decide +kernel
theorem dX10_init_384 : decode cX10_init 384 = .ok (.bipush 11, 2) := by decide +kernel
theorem dX10_init_386 : decode cX10_init 386 = .ok (.iastore, 1) := by decide +kernel
theorem dX10_init_387 : decode cX10_init 387 = .ok (.dup, 1) := by decide +kernel
theorem dX10_init_388 : decode cX10_init 388 = .ok (.iconst 3, 1) := by decide +kernel
theorem dX10_init_389 : decode cX10_init 389 = .ok (.iconst 2, 1) := by decide +kernel
theorem dX10_init_390 : decode cX10_init 390 = .ok (.iastore, 1) := by decide +kernel
theorem dX10_init_391 : decode cX10_init 391 = .ok (.dup, 1) := by decide +kernel
theorem dX10_init_392 : decode cX10_init 392 = .ok (.iconst 4, 1) := by decide +kernel
theorem dX10_init_393 : decode cX10_init 393 = .ok (.bipush 20, 2) := by decide +kernel
theorem dX10_init_395 : decode cX10_init 395 = .ok (.iastore, 1) := by decide +kernel
theorem dX10_init_396 : decode cX10_init 396 = .ok (.dup, 1) := by decide +kernel
theorem dX10_init_397 : decode cX10_init 397 = .ok (.iconst 5, 1) := by decide +kernel
theorem dX10_init_398 : decode cX10_init 398 = .ok (.iconst 0, 1) := by decide +kernel
theorem dX10_init_399 : decode cX10_init 399 = .ok (.iastore, 1) := by decide +kernel
theorem dX10_init_400 : decode cX10_init 400 = .ok (.dup, 1) := by decide +kernel
theorem dX10_init_401 : decode cX10_init 401 = .ok (.bipush 6, 2) := by decide +kernel
theorem dX10_init_403 : decode cX10_init 403 = .ok (.iconst 0, 1) := by decide +kernel
theorem dX10_init_404 : decode cX10_init 404 = .ok (.iastore, 1) := by decide +kernel
theorem dX10_init_405 : decode cX10_init 405 = .ok (.dup, 1) := by decide +kernel
theorem dX10_init_406 : decode cX10_init 406 = .ok (.bipush 7, 2) := by decide +kernel
theorem dX10_init_408 : decode cX10_init 408 = .ok (.iconst 0, 1) := by decide +kernel
theorem dX10_init_409 : decode cX10_init 409 = .ok (.iastore, 1) := by decide +kernel
theorem dX10_init_410 : decode cX10_init 410 = .ok (.dup, 1) := by decide +kernel
theorem dX10_init_411 : decode cX10_init 411 = .ok (.bipush 8, 2) := by decide +kernel
theorem dX10_init_413 : decode cX10_init 413 = .ok (.iconst 0, 1) := by decide +kernel
theorem dX10_init_414 : decode cX10_init 414 = .ok (.iastore, 1) := by decide +kernel
theorem dX10_init_415 : decode cX10_init 415 = .ok (.dup, 1) := by decide +kernel
theorem dX10_init_416 : decode cX10_init 416 = .ok (.bipush 9, 2) := by decide +kernel
theorem dX10_init_418 : decode cX10_init 418 = .ok (.bipush 30, 2) := by decide +kernel
theorem dX10_init_420 : decode cX10_init 420 = .ok (.iastore, 1) := by decide +kernel
theorem dX10_init_421 : decode cX10_init 421 = .ok (.dup, 1) := by decide +kernel
theorem dX10_init_422 : decode cX10_init 422 = .ok (.bipush 10, 2) := by decide +kernel
theorem dX10_init_424 : decode cX10_init 424 = .ok (.iconst 0, 1) := by decide +kernel
theorem dX10_init_425 : decode cX10_init 425 = .ok (.iastore, 1) := by decide +kernel
theorem dX10_init_426 : decode cX10_init 426 = .ok (.dup, 1) := by decide +kernel
theorem dX10_init_427 : decode cX10_init 427 = .ok (.bipush 11, 2) := by decide +kernel
theorem dX10_init_429 : decode cX10_init 429 = .ok (.iconst 0, 1) := by decide +kernel
theorem dX10_init_430 : decode cX10_init 430 = .ok (.iastore, 1) := by decide +kernel
theorem dX10_init_431 : decode cX10_init 431 = .ok (.dup, 1) := by decide +kernel
theorem dX10_init_432 : decode cX10_init 432 = .ok (.bipush 12, 2) := by decide +kernel
theorem dX10_init_434 : decode cX10_init 434 = .ok (.iconst 0, 1) := by decide +kernel
theorem dX10_init_435 : decode cX10_init 435 = .ok (.iastore, 1) := by decide +kernel
theorem dX10_init_436 : decode cX10_init 436 = .ok (.dup, 1) := by decide +kernel
theorem dX10_init_437 : decode cX10_init 437 = .ok (.bipush 13, 2) := by decide +kernel
theorem dX10_init_439 : decode cX10_init 439 = .ok (.bipush 41, 2) := by decide +kernel
theorem dX10_init_441 : decode cX10_init 441 = .ok (.iastore, 1) := by decide +kernel
theorem dX10_init_442 : decode cX10_init 442 = .ok (.dup, 1) := by decide +kernel
theorem dX10_init_443 : decode cX10_init 443 = .ok (.bipush 14, 2) := by decide +kernel
theorem dX10_init_445 : decode cX10_init 445 = .ok (.bipush 40, 2) := by decide +kernel
theorem dX10_init_447 : decode cX10_init 447 = .ok (.iastore, 1) := by decide +kernel
theorem dX10_init_448 : decode cX10_init 448 = .ok (.dup, 1) := by decide +kernel
theorem dX10_init_449 : decode cX10_init 449 = .ok (.bipush 15, 2) := by decide +kernel
theorem dX10_init_451 : decode cX10_init 451 = .ok (.iconst 0, 1) := by decide +kernel
theorem dX10_init_452 : decode cX10_init 452 = .ok (.iastore, 1) := by decide +kernel
theorem dX10_init_453 : decode cX10_init 453 = .ok (.dup, 1) := by decide +kernel
theorem dX10_init_454 : decode cX10_init 454 = .ok (.bipush 16, 2) := by decide +kernel
theorem dX10_init_456 : decode cX10_init 456 = .ok (.iconst 0, 1) := by decide +kernel
theorem dX10_init_457 : decode cX10_init 457 = .ok (.iastore, 1) := by decide +kernel
theorem dX10_init_458 : decode cX10_init 458 = .ok (.dup, 1) := by decide +kernel
theorem dX10_init_459 : decode cX10_init 459 = .ok (.bipush 17, 2) := by decide +kernel
theorem dX10_init_461 : decode cX10_init 461 = .ok (.iconst 0, 1) := by decide +kernel
theorem dX10_init_462 : decode cX10_init 462 = .ok (.iastore, 1) := by decide +kernel
theorem dX10_init_463 : decode cX10_init 463 = .ok (.dup, 1) := by decide +kernel
theorem dX10_init_464 : decode cX10_init 464 = .ok (.bipush 18, 2) := by decide +kernel
theorem dX10_init_466 : decode cX10_init 466 = .ok (.bipush 50, 2) := by decide +kernel
theorem dX10_init_468 : decode cX10_init 468 = .ok (.iastore, 1) := by decide +kernel
theorem dX10_init_469 : decode cX10_init 469 = .ok (.dup, 1) := by decide +kernel
theorem dX10_init_470 : decode cX10_init 470 = .ok (.bipush 19, 2) := by decide +kernel
theorem dX10_init_472 : decode cX10_init 472 = .ok (.iconst 0, 1) := by decide +kernel
theorem dX10_init_473 : decode cX10_init 473 = .ok (.iastore, 1) := by decide +kernel
theorem dX10_init_474 : decode cX10_init 474 = .ok (.dup, 1) := by decide +kernel
theorem dX10_init_475 : decode cX10_init 475 = .ok (.bipush 20, 2) := by decide +kernel
theorem dX10_init_477 : decode cX10_init 477 = .ok (.iconst 0, 1) := by decide +kernel
theorem dX10_init_478 : decode cX10_init 478 = .ok (.iastore, 1) := by decide +kernel
theorem dX10_init_479 : decode cX10_init 479 = .ok (.dup, 1) := by decide +kernel
theorem dX10_init_480 : decode cX10_init 480 = .ok (.bipush 21, 2) := by decide +kernel
theorem dX10_init_482 : decode cX10_init 482 = .ok (.iconst 0, 1) := by decide +kernel
theorem dX10_init_483 : decode cX10_init 483 = .ok (.iastore, 1) := by decide +kernel
theorem dX10_init_484 : decode cX10_init 484 = .ok (.dup, 1) := by decide +kernel
theorem dX10_init_485 : decode cX10_init 485 = .ok (.bipush 22, 2) := by decide +kernel
theorem dX10_init_487 : decode cX10_init 487 = .ok (.iconst 0, 1) := by decide +kernel
theorem dX10_init_488 : decode cX10_init 488 = .ok (.iastore, 1) := by decide +kernel
theorem dX10_init_489 : decode cX10_init 489 = .ok (.dup, 1) := by decide +kernel
theorem dX10_init_490 : decode cX10_init 490 = .ok (.bipush 23, 2) := by decide +kernel
theorem dX10_init_492 : decode cX10_init 492 = .ok (.bipush 60, 2) := by decide +kernel
theorem dX10_init_494 : decode cX10_init 494 = .ok (.iastore, 1) := by decide +kernel
theorem dX10_init_495 : decode cX10_init 495 = .ok (.dup, 1) := by decide +kernel
theorem dX10_init_496 : decode cX10_init 496 = .ok (.bipush 24, 2) := by decide +kernel
theorem dX10_init_498 : decode cX10_init 498 = .ok (.bipush 70, 2) := by decide +kernel
theorem dX10_init_500 : decode cX10_init 500 = .ok (.iastore, 1) := by decide +kernel
theorem dX10_init_501 : decode cX10_init 501 = .ok (.dup, 1) := by decide +kernel
theorem dX10_init_502 : decode cX10_init 502 = .ok (.bipush 25, 2) := by decide +kernel
theorem dX10_init_504 : decode cX10_init 504 = .ok (.iconst 0, 1) := by decide +kernel
theorem dX10_init_505 : decode cX10_init 505 = .ok (.iastore, 1) := by decide +kernel
theorem dX10_init_506 : decode cX10_init 506 = .ok (.dup, 1) := by decide +kernel
theorem dX10_init_507 : decode cX10_init 507 = .ok (.bipush 26, 2) := by decide +kernel
theorem dX10_init_509 : decode cX10_init 509 = .ok (.iconst 0, 1) := by decide +kernel
theorem dX10_init_510 : decode cX10_init 510 = .ok (.iastore, 1) := by decide +kernel
theorem dX10_init_511 : decode cX10_init 511 = .ok (.dup, 1) := by decide +kernel
theorem dX10_init_512 : decode cX10_init 512 = .ok (.bipush 27, 2) := by decide +kernel
theorem dX10_init_514 : decode cX10_init 514 = .ok (.iconst 0, 1) := by decide +kernel
theorem dX10_init_515 : decode cX10_init 515 = .ok (.iastore, 1) := by decide +kernel
theorem dX10_init_516 : decode cX10_init 516 = .ok (.dup, 1) := by decide +kernel
theorem dX10_init_517 : decode cX10_init 517 = .ok (.bipush 28, 2) := by decide +kernel
theorem dX10_init_519 : decode cX10_init 519 = .ok (.iconst 0, 1) := by decide +kernel
theorem dX10_init_520 : decode cX10_init 520 = .ok (.iastore, 1) := by decide +kernel
theorem dX10_init_521 : decode cX10_init 521 = .ok (.dup, 1) := by decide +kernel
theorem dX10_init_522 : decode cX10_init 522 = .ok (.bipush 29, 2) := by decide +kernel
theorem dX10_init_524 : decode cX10_init 524 = .ok (.bipush 80, 2) := by decide +kernel
theorem dX10_init_526 : decode cX10_init 526 = .ok (.iastore, 1) := by decide +kernel
theorem dX10_init_527 : decode cX10_init 527 = .ok (.dup, 1) := by decide +kernel
theorem dX10_init_528 : decode cX10_init 528 = .ok (.bipush 30, 2) := by decide +kernel
theorem dX10_init_530 : decode cX10_init 530 = .ok (.iconst 0, 1) := by decide +kernel
theorem dX10_init_531 : decode cX10_init 531 = .ok (.iastore, 1) := by decide +kernel
theorem dX10_init_532 : decode cX10_init 532 = .ok (.dup, 1) := by decide +kernel
theorem dX10_init_533 : decode cX10_init 533 = .ok (.bipush 31, 2) := by decide +kernel
theorem dX10_init_535 : decode cX10_init 535 = .ok (.bipush 81, 2) := by decide +kernel
theorem dX10_init_537 : decode cX10_init 537 = .ok (.iastore, 1) := by decide +kernel
theorem dX10_init_538 : decode cX10_init 538 = .ok (.putfield 85, 3) := by decide +kernel
theorem dX10_init_541 : decode cX10_init 541 = .ok (.aload_n 0, 1) := by decide +kernel
theorem dX10_init_542 : decode cX10_init 542 = .ok (.bipush 50, 2) := by decide +kernel
theorem dX10_init_544 : decode cX10_init 544 = .ok (.newarray .int, 2) := by decide +kernel
theorem dX10_init_546 : decode cX10_init 546 = .ok (.putfield 88, 3) := by decide +kernel
theorem dX10_init_549 : decode cX10_init 549 = .ok (.aload_n 0, 1) := by decide +kernel
theorem dX10_init_550 : decode cX10_init 550 = .ok (.bipush 24, 2) := by decide +kernel
theorem dX10_init_552 : decode cX10_init 552 = .ok (.newarray .int, 2) := by decide +kernel
theorem dX10_init_554 : decode cX10_init 554 = .ok (.putfield 91, 3) := by decide +kernel
theorem dX10_init_557 : decode cX10_init 557 = .ok (.return_, 1) := by decide +kernel
theorem dX10_isIn_0 : decode cX10_isIn 0 = .ok (.iload_n 0, 1) := by decide +kernel
theorem dX10_isIn_1 : decode cX10_isIn 1 = .ok (.iload_n 1, 1) := by decide +kernel
theorem dX10_isIn_2 : decode cX10_isIn 2 = .ok (.if_icmp .lt 12, 3) := by decide +kernel
theorem dX10_isIn_5 : decode cX10_isIn 5 = .ok (.iload_n 0, 1) := by decide +kernel
theorem dX10_isIn_6 : decode cX10_isIn 6 = .ok (.iload_n 2, 1) := by decide +kernel
theorem dX10_isIn_7 : decode cX10_isIn 7 = .ok (.if_icmp .gt 7, 3) := by decide +kernel
theorem dX10_isIn_10 : decode cX10_isIn 10 = .ok (.iconst 1, 1) := by decide +kernel
theorem dX10_isIn_11 : decode cX10_isIn 11 = .ok (.goto 4, 3) := by decide +kernel
theorem dX10_isIn_14 : decode cX10_isIn 14 = .ok (.iconst 0, 1) := by decide +kernel
theorem dX10_isIn_15 : decode cX10_isIn 15 = .ok (.ireturn, 1) := by decide +kernel
theorem dX10_bound_0 : decode cX10_bound 0 = .ok (.iload_n 1, 1) := by decide +kernel
theorem dX10_bound_1 : decode cX10_bound 1 = .ok (.iload_n 2, 1) := by decide +kernel
theorem dX10_bound_2 : decode cX10_bound 2 = .ok (.iload_n 0, 1) := by decide +kernel
theorem dX10_bound_3 : decode cX10_bound 3 = .ok (.invokestatic 94, 3) := by decide +kernel
theorem dX10_bound_6 : decode cX10_bound 6 = .ok (.invokestatic 100, 3) := by decide +kernel
theorem dX10_bound_9 : decode cX10_bound 9 = .ok (.ireturn, 1) := by decide +kernel
theorem dX10_keepAll_0 : decode cX10_keepAll 0 = .ok (.iconst 0, 1) := by decide +kernel
theorem dX10_keepAll_1 : decode cX10_keepAll 1 = .ok (.istore_n 2, 1) := by decide +kernel
theorem dX10_keepAll_2 : decode cX10_keepAll 2 = .ok (.iload_n 2, 1) := by decide +kernel
theorem dX10_keepAll_3 : decode cX10_keepAll 3 = .ok (.bipush 94, 2) := by decide +kernel
theorem dX10_keepAll_5 : decode cX10_keepAll 5 = .ok (.if_icmp .ge 26, 3) := by decide +kernel
theorem dX10_keepAll_8 : decode cX10_keepAll 8 = .ok (.aload_n 0, 1) := by decide +kernel
theorem dX10_keepAll_9 : decode cX10_keepAll 9 = .ok (.getfield 13, 3) := by decide +kernel
theorem dX10_keepAll_12 : decode cX10_keepAll 12 = .ok (.bipush 94, 2) := by decide +kernel
theorem dX10_keepAll_14 : decode cX10_keepAll 14 = .ok (.iload_n 1, 1) := by decide +kernel
theorem dX10_keepAll_15 : decode cX10_keepAll 15 = .ok (.imul, 1) := by decide +kernel
theorem dX10_keepAll_16 : decode cX10_keepAll 16 = .ok (.iload_n 2, 1) := by decide +kernel
theorem dX10_keepAll_17 : decode cX10_keepAll 17 = .ok (.iadd, 1) := by decide +kernel
theorem dX10_keepAll_18 : decode cX10_keepAll 18 = .ok (.aload_n 0, 1) := by decide +kernel
theorem dX10_keepAll_19 : decode cX10_keepAll 19 = .ok (.getfield 7, 3) := by decide +kernel
theorem dX10_keepAll_22 : decode cX10_keepAll 22 = .ok (.iload_n 2, 1) := by decide +kernel
theorem dX10_keepAll_23 : decode cX10_keepAll 23 = .ok (.iaload, 1) := by decide +kernel
theorem dX10_keepAll_24 : decode cX10_keepAll 24 = .ok (.iastore, 1) := by decide +kernel
theorem dX10_keepAll_25 : decode cX10_keepAll 25 = .ok (.iinc 2 1, 3) := by decide +kernel
theorem dX10_keepAll_28 : decode cX10_keepAll 28 = .ok (.goto (-26), 3) := by decide +kernel
theorem dX10_keepAll_31 : decode cX10_keepAll 31 = .ok (.return_, 1) := by decide +kernel
theorem dX10_layAll_0 : decode cX10_layAll 0 = .ok (.iconst 0, 1) := by decide +kernel
theorem dX10_layAll_1 : decode cX10_layAll 1 = .ok (.istore_n 2, 1) := by decide +kernel
theorem dX10_layAll_2 : decode cX10_layAll 2 = .ok (.iload_n 2, 1) := by decide +kernel
theorem dX10_layAll_3 : decode cX10_layAll 3 = .ok (.bipush 94, 2) := by decide +kernel
theorem dX10_layAll_5 : decode cX10_layAll 5 = .ok (.if_icmp .ge 26, 3) := by decide +kernel
theorem dX10_layAll_8 : decode cX10_layAll 8 = .ok (.aload_n 0, 1) := by decide +kernel
theorem dX10_layAll_9 : decode cX10_layAll 9 = .ok (.getfield 7, 3) := by decide +kernel
theorem dX10_layAll_12 : decode cX10_layAll 12 = .ok (.iload_n 2, 1) := by decide +kernel
theorem dX10_layAll_13 : decode cX10_layAll 13 = .ok (.aload_n 0, 1) := by decide +kernel
theorem dX10_layAll_14 : decode cX10_layAll 14 = .ok (.getfield 13, 3) := by decide +kernel
theorem dX10_layAll_17 : decode cX10_layAll 17 = .ok (.bipush 94, 2) := by decide +kernel
theorem dX10_layAll_19 : decode cX10_layAll 19 = .ok (.iload_n 1, 1) := by decide +kernel
theorem dX10_layAll_20 : decode cX10_layAll 20 = .ok (.imul, 1) := by decide +kernel
theorem dX10_layAll_21 : decode cX10_layAll 21 = .ok (.iload_n 2, 1) := by decide +kernel
theorem dX10_layAll_22 : decode cX10_layAll 22 = .ok (.iadd, 1) := by decide +kernel
theorem dX10_layAll_23 : decode cX10_layAll 23 = .ok (.iaload, 1) := by decide +kernel
theorem dX10_layAll_24 : decode cX10_layAll 24 = .ok (.iastore, 1) := by decide +kernel
theorem dX10_layAll_25 : decode cX10_layAll 25 = .ok (.iinc 2 1, 3) := by decide +kernel
theorem dX10_layAll_28 : decode cX10_layAll 28 = .ok (.goto (-26), 3) := by decide +kernel
theorem dX10_layAll_31 : decode cX10_layAll 31 = .ok (.return_, 1) := by decide +kernel
theorem dX10_isGuest_0 : decode cX10_isGuest 0 = .ok (.iload_n 1, 1) := by decide +kernel
theorem dX10_isGuest_1 : decode cX10_isGuest 1 = .ok (.iconst 0, 1) := by decide +kernel
theorem dX10_isGuest_2 : decode cX10_isGuest 2 = .ok (.aload_n 0, 1) := by decide +kernel
theorem dX10_isGuest_3 : decode cX10_isGuest 3 = .ok (.getfield 103, 3) := by decide +kernel
theorem dX10_isGuest_6 : decode cX10_isGuest 6 = .ok (.iconst 1, 1) := by decide +kernel
theorem dX10_isGuest_7 : decode cX10_isGuest 7 = .ok (.isub, 1) := by decide +kernel
theorem dX10_isGuest_8 : decode cX10_isGuest 8 = .ok (.invokestatic 106, 3) := by decide +kernel
theorem dX10_isGuest_11 : decode cX10_isGuest 11 = .ok (.ireturn, 1) := by decide +kernel
theorem dX10_number_0 : decode cX10_number 0 = .ok (.aload_n 0, 1) := by decide +kernel
theorem dX10_number_1 : decode cX10_number 1 = .ok (.getfield 7, 3) := by decide +kernel
theorem dX10_number_4 : decode cX10_number 4 = .ok (.bipush 6, 2) := by decide +kernel
theorem dX10_number_6 : decode cX10_number 6 = .ok (.iload_n 1, 1) := by decide +kernel
theorem dX10_number_7 : decode cX10_number 7 = .ok (.imul, 1) := by decide +kernel
theorem dX10_number_8 : decode cX10_number 8 = .ok (.iload_n 2, 1) := by decide +kernel
theorem dX10_number_9 : decode cX10_number 9 = .ok (.iadd, 1) := by decide +kernel
theorem dX10_number_10 : decode cX10_number 10 = .ok (.iaload, 1) := by decide +kernel
theorem dX10_number_11 : decode cX10_number 11 = .ok (.ireturn, 1) := by decide +kernel
theorem dX10_change_0 : decode cX10_change 0 = .ok (.aload_n 0, 1) := by decide +kernel
theorem dX10_change_1 : decode cX10_change 1 = .ok (.getfield 7, 3) := by decide +kernel
theorem dX10_change_4 : decode cX10_change 4 = .ok (.bipush 6, 2) := by decide +kernel
theorem dX10_change_6 : decode cX10_change 6 = .ok (.iload_n 1, 1) := by decide +kernel
theorem dX10_change_7 : decode cX10_change 7 = .ok (.imul, 1) := by decide +kernel
theorem dX10_change_8 : decode cX10_change 8 = .ok (.iload_n 2, 1) := by decide +kernel
theorem dX10_change_9 : decode cX10_change 9 = .ok (.iadd, 1) := by decide +kernel
theorem dX10_change_10 : decode cX10_change 10 = .ok (.iload_n 3, 1) := by decide +kernel
theorem dX10_change_11 : decode cX10_change 11 = .ok (.iastore, 1) := by decide +kernel
theorem dX10_change_12 : decode cX10_change 12 = .ok (.return_, 1) := by decide +kernel
theorem dX10_isHere_0 : decode cX10_isHere 0 = .ok (.aload_n 0, 1) := by decide +kernel
theorem dX10_isHere_1 : decode cX10_isHere 1 = .ok (.iload_n 1, 1) := by decide +kernel
theorem dX10_isHere_2 : decode cX10_isHere 2 = .ok (.iconst 5, 1) := by decide +kernel
theorem dX10_isHere_3 : decode cX10_isHere 3 = .ok (.invokevirtual 110, 3) := by decide +kernel
theorem dX10_isHere_6 : decode cX10_isHere 6 = .ok (.ifCond .ne 7, 3) := by decide +kernel
theorem dX10_isHere_9 : decode cX10_isHere 9 = .ok (.iconst 1, 1) := by decide +kernel
theorem dX10_isHere_10 : decode cX10_isHere 10 = .ok (.goto 4, 3) := by decide +kernel
theorem dX10_isHere_13 : decode cX10_isHere 13 = .ok (.iconst 0, 1) := by decide +kernel
theorem dX10_isHere_14 : decode cX10_isHere 14 = .ok (.ireturn, 1) := by decide +kernel
theorem dX10_add_0 : decode cX10_add 0 = .ok (.aload_n 0, 1) := by decide +kernel
theorem dX10_add_1 : decode cX10_add 1 = .ok (.getfield 103, 3) := by decide +kernel
theorem dX10_add_4 : decode cX10_add 4 = .ok (.istore 6, 2) := by decide +kernel
theorem dX10_add_6 : decode cX10_add 6 = .ok (.aload_n 0, 1) := by decide +kernel
theorem dX10_add_7 : decode cX10_add 7 = .ok (.iload 6, 2) := by decide +kernel
theorem dX10_add_9 : decode cX10_add 9 = .ok (.iconst 0, 1) := by decide +kernel
theorem dX10_add_10 : decode cX10_add 10 = .ok (.iload_n 1, 1) := by decide +kernel
theorem dX10_add_11 : decode cX10_add 11 = .ok (.invokevirtual 113, 3) := by decide +kernel
theorem dX10_add_14 : decode cX10_add 14 = .ok (.aload_n 0, 1) := by decide +kernel
theorem dX10_add_15 : decode cX10_add 15 = .ok (.iload 6, 2) := by decide +kernel
theorem dX10_add_17 : decode cX10_add 17 = .ok (.iconst 1, 1) := by decide +kernel
theorem dX10_add_18 : decode cX10_add 18 = .ok (.iload_n 2, 1) := by decide +kernel
theorem dX10_add_19 : decode cX10_add 19 = .ok (.invokevirtual 113, 3) := by decide +kernel
theorem dX10_add_22 : decode cX10_add 22 = .ok (.aload_n 0, 1) := by decide +kernel
theorem dX10_add_23 : decode cX10_add 23 = .ok (.iload 6, 2) := by decide +kernel
theorem dX10_add_25 : decode cX10_add 25 = .ok (.iconst 2, 1) := by decide +kernel
theorem dX10_add_26 : decode cX10_add 26 = .ok (.iload_n 3, 1) := by decide +kernel
theorem dX10_add_27 : decode cX10_add 27 = .ok (.invokevirtual 113, 3) := by decide +kernel
theorem dX10_add_30 : decode cX10_add 30 = .ok (.aload_n 0, 1) := by decide +kernel
theorem dX10_add_31 : decode cX10_add 31 = .ok (.iload 6, 2) := by decide +kernel
theorem dX10_add_33 : decode cX10_add 33 = .ok (.iconst 3, 1) := by decide +kernel
theorem dX10_add_34 : decode cX10_add 34 = .ok (.iload 4, 2) := by decide +kernel
theorem dX10_add_36 : decode cX10_add 36 = .ok (.invokevirtual 113, 3) := by decide +kernel
theorem dX10_add_39 : decode cX10_add 39 = .ok (.aload_n 0, 1) := by decide +kernel
theorem dX10_add_40 : decode cX10_add 40 = .ok (.iload 6, 2) := by decide +kernel
theorem dX10_add_42 : decode cX10_add 42 = .ok (.iconst 4, 1) := by decide +kernel
theorem dX10_add_43 : decode cX10_add 43 = .ok (.iload 5, 2) := by decide +kernel
theorem dX10_add_45 : decode cX10_add 45 = .ok (.invokevirtual 113, 3) := by decide +kernel
theorem dX10_add_48 : decode cX10_add 48 = .ok (.aload_n 0, 1) := by decide +kernel
theorem dX10_add_49 : decode cX10_add 49 = .ok (.iload 6, 2) := by decide +kernel
theorem dX10_add_51 : decode cX10_add 51 = .ok (.iconst 5, 1) := by decide +kernel
theorem dX10_add_52 : decode cX10_add 52 = .ok (.iconst 0, 1) := by decide +kernel
theorem dX10_add_53 : decode cX10_add 53 = .ok (.invokevirtual 113, 3) := by decide +kernel
theorem dX10_add_56 : decode cX10_add 56 = .ok (.aload_n 0, 1) := by decide +kernel
theorem dX10_add_57 : decode cX10_add 57 = .ok (.dup, 1) := by decide +kernel
theorem dX10_add_58 : decode cX10_add 58 = .ok (.getfield 103, 3) := by decide +kernel
theorem dX10_add_61 : decode cX10_add 61 = .ok (.iconst 1, 1) := by decide +kernel
theorem dX10_add_62 : decode cX10_add 62 = .ok (.iadd, 1) := by decide +kernel
theorem dX10_add_63 : decode cX10_add 63 = .ok (.putfield 103, 3) := by decide +kernel
theorem dX10_add_66 : decode cX10_add 66 = .ok (.iload 6, 2) := by decide +kernel
theorem dX10_add_68 : decode cX10_add 68 = .ok (.ireturn, 1) := by decide +kernel
theorem dX10_guest_0 : decode cX10_guest 0 = .ok (.iload_n 1, 1) := by decide +kernel
theorem dX10_guest_1 : decode cX10_guest 1 = .ok (.iconst 0, 1) := by decide +kernel
theorem dX10_guest_2 : decode cX10_guest 2 = .ok (.iconst 1, 1) := by decide +kernel
theorem dX10_guest_3 : decode cX10_guest 3 = .ok (.invokestatic 106, 3) := by decide +kernel
theorem dX10_guest_6 : decode cX10_guest 6 = .ok (.ifCond .eq 13, 3) := by decide +kernel
theorem dX10_guest_9 : decode cX10_guest 9 = .ok (.iload_n 2, 1) := by decide +kernel
theorem dX10_guest_10 : decode cX10_guest 10 = .ok (.iconst 5, 1) := by decide +kernel
theorem dX10_guest_11 : decode cX10_guest 11 = .ok (.bipush 9, 2) := by decide +kernel
theorem dX10_guest_13 : decode cX10_guest 13 = .ok (.invokestatic 106, 3) := by decide +kernel
theorem dX10_guest_16 : decode cX10_guest 16 = .ok (.ifCond .ne 5, 3) := by decide +kernel
theorem dX10_guest_19 : decode cX10_guest 19 = .ok (.iconst (-1), 1) := by decide +kernel
theorem dX10_guest_20 : decode cX10_guest 20 = .ok (.ireturn, 1) := by decide +kernel
theorem dX10_guest_21 : decode cX10_guest 21 = .ok (.aload_n 0, 1) := by decide +kernel
theorem dX10_guest_22 : decode cX10_guest 22 = .ok (.getfield 103, 3) := by decide +kernel
theorem dX10_guest_25 : decode cX10_guest 25 = .ok (.bipush 9, 2) := by decide +kernel
theorem dX10_guest_27 : decode cX10_guest 27 = .ok (.if_icmp .ne 8, 3) := by decide +kernel
theorem dX10_guest_30 : decode cX10_guest 30 = .ok (.bipush (-3), 2) := by decide +kernel
theorem dX10_guest_32 : decode cX10_guest 32 = .ok (.goto 12, 3) := by decide +kernel
theorem dX10_guest_35 : decode cX10_guest 35 = .ok (.aload_n 0, 1) := by decide +kernel
theorem dX10_guest_36 : decode cX10_guest 36 = .ok (.iconst 0, 1) := by decide +kernel
theorem dX10_guest_37 : decode cX10_guest 37 = .ok (.iconst 1, 1) := by decide +kernel
theorem dX10_guest_38 : decode cX10_guest 38 = .ok (.iconst 0, 1) := by decide +kernel
theorem dX10_guest_39 : decode cX10_guest 39 = .ok (.iload_n 1, 1) := by decide +kernel
theorem dX10_guest_40 : decode cX10_guest 40 = .ok (.iload_n 2, 1) := by decide +kernel
theorem dX10_guest_41 : decode cX10_guest 41 = .ok (.invokevirtual 117, 3) := by decide +kernel
theorem dX10_guest_44 : decode cX10_guest 44 = .ok (.ireturn, 1) := by decide +kernel
theorem dX10_addSlip_0 : decode cX10_addSlip 0 = .ok (.bipush 54, 2) := by decide +kernel
theorem dX10_addSlip_2 : decode cX10_addSlip 2 = .ok (.iconst 3, 1) := by decide +kernel
theorem dX10_addSlip_3 : decode cX10_addSlip 3 = .ok (.aload_n 0, 1) := by decide +kernel
theorem dX10_addSlip_4 : decode cX10_addSlip 4 = .ok (.getfield 121, 3) := by decide +kernel
theorem dX10_addSlip_7 : decode cX10_addSlip 7 = .ok (.imul, 1) := by decide +kernel
theorem dX10_addSlip_8 : decode cX10_addSlip 8 = .ok (.iadd, 1) := by decide +kernel
theorem dX10_addSlip_9 : decode cX10_addSlip 9 = .ok (.istore 4, 2) := by decide +kernel
theorem dX10_addSlip_11 : decode cX10_addSlip 11 = .ok (.aload_n 0, 1) := by decide +kernel
theorem dX10_addSlip_12 : decode cX10_addSlip 12 = .ok (.getfield 7, 3) := by decide +kernel
theorem dX10_addSlip_15 : decode cX10_addSlip 15 = .ok (.iload 4, 2) := by decide +kernel
theorem dX10_addSlip_17 : decode cX10_addSlip 17 = .ok (.iload_n 2, 1) := by decide +kernel
theorem dX10_addSlip_18 : decode cX10_addSlip 18 = .ok (.iastore, 1) := by decide +kernel
theorem dX10_addSlip_19 : decode cX10_addSlip 19 = .ok (.aload_n 0, 1) := by decide +kernel
theorem dX10_addSlip_20 : decode cX10_addSlip 20 = .ok (.getfield 7, 3) := by decide +kernel
theorem dX10_addSlip_23 : decode cX10_addSlip 23 = .ok (.iload 4, 2) := by decide +kernel
theorem dX10_addSlip_25 : decode cX10_addSlip 25 = .ok (.iconst 1, 1) := by decide +kernel
theorem dX10_addSlip_26 : decode cX10_addSlip 26 = .ok (.iadd, 1) := by decide +kernel
theorem dX10_addSlip_27 : decode cX10_addSlip 27 = .ok (.iload_n 3, 1) := by decide +kernel
theorem dX10_addSlip_28 : decode cX10_addSlip 28 = .ok (.iastore, 1) := by decide +kernel
theorem dX10_addSlip_29 : decode cX10_addSlip 29 = .ok (.aload_n 0, 1) := by decide +kernel
theorem dX10_addSlip_30 : decode cX10_addSlip 30 = .ok (.getfield 7, 3) := by decide +kernel
theorem dX10_addSlip_33 : decode cX10_addSlip 33 = .ok (.iload 4, 2) := by decide +kernel
theorem dX10_addSlip_35 : decode cX10_addSlip 35 = .ok (.iconst 2, 1) := by decide +kernel
theorem dX10_addSlip_36 : decode cX10_addSlip 36 = .ok (.iadd, 1) := by decide +kernel
theorem dX10_addSlip_37 : decode cX10_addSlip 37 = .ok (.iload_n 1, 1) := by decide +kernel
theorem dX10_addSlip_38 : decode cX10_addSlip 38 = .ok (.iastore, 1) := by decide +kernel
theorem dX10_addSlip_39 : decode cX10_addSlip 39 = .ok (.aload_n 0, 1) := by decide +kernel
theorem dX10_addSlip_40 : decode cX10_addSlip 40 = .ok (.dup, 1) := by decide +kernel
theorem dX10_addSlip_41 : decode cX10_addSlip 41 = .ok (.getfield 121, 3) := by decide +kernel
theorem dX10_addSlip_44 : decode cX10_addSlip 44 = .ok (.iconst 1, 1) := by decide +kernel
theorem dX10_addSlip_45 : decode cX10_addSlip 45 = .ok (.iadd, 1) := by decide +kernel
end
section
theorem dX10_addSlip_46 : decode cX10_addSlip 46 = .ok (.putfield 121, 3) := by decide +kernel
theorem dX10_addSlip_49 : decode cX10_addSlip 49 = .ok (.aload_n 0, 1) := by decide +kernel
theorem dX10_addSlip_50 : decode cX10_addSlip 50 = .ok (.getfield 121, 3) := by decide +kernel
theorem dX10_addSlip_53 : decode cX10_addSlip 53 = .ok (.iconst 1, 1) := by decide +kernel
theorem dX10_addSlip_54 : decode cX10_addSlip 54 = .ok (.isub, 1) := by decide +kernel
theorem dX10_addSlip_55 : decode cX10_addSlip 55 = .ok (.ireturn, 1) := by decide +kernel
theorem dX10_slip_0 : decode cX10_slip 0 = .ok (.aload_n 0, 1) := by decide +kernel
theorem dX10_slip_1 : decode cX10_slip 1 = .ok (.iload_n 1, 1) := by decide +kernel
theorem dX10_slip_2 : decode cX10_slip 2 = .ok (.invokevirtual 124, 3) := by decide +kernel
theorem dX10_slip_5 : decode cX10_slip 5 = .ok (.ifCond .eq 24, 3) := by decide +kernel
theorem dX10_slip_8 : decode cX10_slip 8 = .ok (.iload_n 2, 1) := by decide +kernel
theorem dX10_slip_9 : decode cX10_slip 9 = .ok (.iconst 0, 1) := by decide +kernel
theorem dX10_slip_10 : decode cX10_slip 10 = .ok (.sipush 199, 3) := by decide +kernel
theorem dX10_slip_13 : decode cX10_slip 13 = .ok (.invokestatic 106, 3) := by decide +kernel
theorem dX10_slip_16 : decode cX10_slip 16 = .ok (.ifCond .eq 13, 3) := by decide +kernel
theorem dX10_slip_19 : decode cX10_slip 19 = .ok (.iload_n 3, 1) := by decide +kernel
theorem dX10_slip_20 : decode cX10_slip 20 = .ok (.iconst 1, 1) := by decide +kernel
theorem dX10_slip_21 : decode cX10_slip 21 = .ok (.bipush 30, 2) := by decide +kernel
theorem dX10_slip_23 : decode cX10_slip 23 = .ok (.invokestatic 106, 3) := by decide +kernel
theorem dX10_slip_26 : decode cX10_slip 26 = .ok (.ifCond .ne 5, 3) := by decide +kernel
theorem dX10_slip_29 : decode cX10_slip 29 = .ok (.iconst (-1), 1) := by decide +kernel
theorem dX10_slip_30 : decode cX10_slip 30 = .ok (.ireturn, 1) := by decide +kernel
theorem dX10_slip_31 : decode cX10_slip 31 = .ok (.aload_n 0, 1) := by decide +kernel
theorem dX10_slip_32 : decode cX10_slip 32 = .ok (.getfield 121, 3) := by decide +kernel
theorem dX10_slip_35 : decode cX10_slip 35 = .ok (.bipush 12, 2) := by decide +kernel
theorem dX10_slip_37 : decode cX10_slip 37 = .ok (.if_icmp .ne 8, 3) := by decide +kernel
theorem dX10_slip_40 : decode cX10_slip 40 = .ok (.bipush (-3), 2) := by decide +kernel
theorem dX10_slip_42 : decode cX10_slip 42 = .ok (.goto 10, 3) := by decide +kernel
theorem dX10_slip_45 : decode cX10_slip 45 = .ok (.aload_n 0, 1) := by decide +kernel
theorem dX10_slip_46 : decode cX10_slip 46 = .ok (.iload_n 1, 1) := by decide +kernel
theorem dX10_slip_47 : decode cX10_slip 47 = .ok (.iload_n 2, 1) := by decide +kernel
theorem dX10_slip_48 : decode cX10_slip 48 = .ok (.iload_n 3, 1) := by decide +kernel
theorem dX10_slip_49 : decode cX10_slip 49 = .ok (.invokevirtual 128, 3) := by decide +kernel
theorem dX10_slip_52 : decode cX10_slip 52 = .ok (.ireturn, 1) := by decide +kernel
theorem dX10_place_0 : decode cX10_place 0 = .ok (.iload_n 2, 1) := by decide +kernel
theorem dX10_place_1 : decode cX10_place 1 = .ok (.bipush 8, 2) := by decide +kernel
theorem dX10_place_3 : decode cX10_place 3 = .ok (.if_icmp .ne 14, 3) := by decide +kernel
theorem dX10_place_6 : decode cX10_place 6 = .ok (.iload_n 1, 1) := by decide +kernel
theorem dX10_place_7 : decode cX10_place 7 = .ok (.ifCond .ne 8, 3) := by decide +kernel
theorem dX10_place_10 : decode cX10_place 10 = .ok (.bipush 93, 2) := by decide +kernel
theorem dX10_place_12 : decode cX10_place 12 = .ok (.goto 4, 3) := by decide +kernel
theorem dX10_place_15 : decode cX10_place 15 = .ok (.iconst (-1), 1) := by decide +kernel
theorem dX10_place_16 : decode cX10_place 16 = .ok (.ireturn, 1) := by decide +kernel
theorem dX10_place_17 : decode cX10_place 17 = .ok (.iload_n 2, 1) := by decide +kernel
theorem dX10_place_18 : decode cX10_place 18 = .ok (.bipush 6, 2) := by decide +kernel
theorem dX10_place_20 : decode cX10_place 20 = .ok (.if_icmp .eq 9, 3) := by decide +kernel
theorem dX10_place_23 : decode cX10_place 23 = .ok (.iload_n 2, 1) := by decide +kernel
theorem dX10_place_24 : decode cX10_place 24 = .ok (.bipush 7, 2) := by decide +kernel
theorem dX10_place_26 : decode cX10_place 26 = .ok (.if_icmp .ne 33, 3) := by decide +kernel
theorem dX10_place_29 : decode cX10_place 29 = .ok (.iload_n 1, 1) := by decide +kernel
theorem dX10_place_30 : decode cX10_place 30 = .ok (.iconst 0, 1) := by decide +kernel
theorem dX10_place_31 : decode cX10_place 31 = .ok (.aload_n 0, 1) := by decide +kernel
theorem dX10_place_32 : decode cX10_place 32 = .ok (.getfield 121, 3) := by decide +kernel
theorem dX10_place_35 : decode cX10_place 35 = .ok (.iconst 1, 1) := by decide +kernel
theorem dX10_place_36 : decode cX10_place 36 = .ok (.isub, 1) := by decide +kernel
theorem dX10_place_37 : decode cX10_place 37 = .ok (.invokestatic 106, 3) := by decide +kernel
theorem dX10_place_40 : decode cX10_place 40 = .ok (.ifCond .eq 17, 3) := by decide +kernel
theorem dX10_place_43 : decode cX10_place 43 = .ok (.bipush 54, 2) := by decide +kernel
theorem dX10_place_45 : decode cX10_place 45 = .ok (.iconst 3, 1) := by decide +kernel
theorem dX10_place_46 : decode cX10_place 46 = .ok (.iload_n 1, 1) := by decide +kernel
theorem dX10_place_47 : decode cX10_place 47 = .ok (.imul, 1) := by decide +kernel
theorem dX10_place_48 : decode cX10_place 48 = .ok (.iadd, 1) := by decide +kernel
theorem dX10_place_49 : decode cX10_place 49 = .ok (.iload_n 2, 1) := by decide +kernel
theorem dX10_place_50 : decode cX10_place 50 = .ok (.iadd, 1) := by decide +kernel
theorem dX10_place_51 : decode cX10_place 51 = .ok (.bipush 6, 2) := by decide +kernel
theorem dX10_place_53 : decode cX10_place 53 = .ok (.isub, 1) := by decide +kernel
theorem dX10_place_54 : decode cX10_place 54 = .ok (.goto 4, 3) := by decide +kernel
theorem dX10_place_57 : decode cX10_place 57 = .ok (.iconst (-1), 1) := by decide +kernel
theorem dX10_place_58 : decode cX10_place 58 = .ok (.ireturn, 1) := by decide +kernel
theorem dX10_place_59 : decode cX10_place 59 = .ok (.iload_n 2, 1) := by decide +kernel
theorem dX10_place_60 : decode cX10_place 60 = .ok (.iconst 0, 1) := by decide +kernel
theorem dX10_place_61 : decode cX10_place 61 = .ok (.iconst 5, 1) := by decide +kernel
theorem dX10_place_62 : decode cX10_place 62 = .ok (.invokestatic 106, 3) := by decide +kernel
theorem dX10_place_65 : decode cX10_place 65 = .ok (.ifCond .eq 20, 3) := by decide +kernel
theorem dX10_place_68 : decode cX10_place 68 = .ok (.aload_n 0, 1) := by decide +kernel
theorem dX10_place_69 : decode cX10_place 69 = .ok (.iload_n 1, 1) := by decide +kernel
theorem dX10_place_70 : decode cX10_place 70 = .ok (.invokevirtual 124, 3) := by decide +kernel
theorem dX10_place_73 : decode cX10_place 73 = .ok (.ifCond .eq 12, 3) := by decide +kernel
theorem dX10_place_76 : decode cX10_place 76 = .ok (.bipush 6, 2) := by decide +kernel
theorem dX10_place_78 : decode cX10_place 78 = .ok (.iload_n 1, 1) := by decide +kernel
theorem dX10_place_79 : decode cX10_place 79 = .ok (.imul, 1) := by decide +kernel
theorem dX10_place_80 : decode cX10_place 80 = .ok (.iload_n 2, 1) := by decide +kernel
theorem dX10_place_81 : decode cX10_place 81 = .ok (.iadd, 1) := by decide +kernel
theorem dX10_place_82 : decode cX10_place 82 = .ok (.goto 4, 3) := by decide +kernel
theorem dX10_place_85 : decode cX10_place 85 = .ok (.iconst (-1), 1) := by decide +kernel
theorem dX10_place_86 : decode cX10_place 86 = .ok (.ireturn, 1) := by decide +kernel
theorem dX10_mend_0 : decode cX10_mend 0 = .ok (.aload_n 0, 1) := by decide +kernel
theorem dX10_mend_1 : decode cX10_mend 1 = .ok (.iload_n 1, 1) := by decide +kernel
theorem dX10_mend_2 : decode cX10_mend 2 = .ok (.iload_n 2, 1) := by decide +kernel
theorem dX10_mend_3 : decode cX10_mend 3 = .ok (.invokevirtual 132, 3) := by decide +kernel
theorem dX10_mend_6 : decode cX10_mend 6 = .ok (.istore 4, 2) := by decide +kernel
theorem dX10_mend_8 : decode cX10_mend 8 = .ok (.iload 4, 2) := by decide +kernel
theorem dX10_mend_10 : decode cX10_mend 10 = .ok (.iconst (-1), 1) := by decide +kernel
theorem dX10_mend_11 : decode cX10_mend 11 = .ok (.if_icmp .eq 22, 3) := by decide +kernel
theorem dX10_mend_14 : decode cX10_mend 14 = .ok (.iload_n 3, 1) := by decide +kernel
theorem dX10_mend_15 : decode cX10_mend 15 = .ok (.aload_n 0, 1) := by decide +kernel
theorem dX10_mend_16 : decode cX10_mend 16 = .ok (.getfield 25, 3) := by decide +kernel
theorem dX10_mend_19 : decode cX10_mend 19 = .ok (.iload_n 2, 1) := by decide +kernel
theorem dX10_mend_20 : decode cX10_mend 20 = .ok (.iaload, 1) := by decide +kernel
theorem dX10_mend_21 : decode cX10_mend 21 = .ok (.aload_n 0, 1) := by decide +kernel
theorem dX10_mend_22 : decode cX10_mend 22 = .ok (.getfield 28, 3) := by decide +kernel
theorem dX10_mend_25 : decode cX10_mend 25 = .ok (.iload_n 2, 1) := by decide +kernel
theorem dX10_mend_26 : decode cX10_mend 26 = .ok (.iaload, 1) := by decide +kernel
theorem dX10_mend_27 : decode cX10_mend 27 = .ok (.invokestatic 106, 3) := by decide +kernel
theorem dX10_mend_30 : decode cX10_mend 30 = .ok (.ifCond .ne 5, 3) := by decide +kernel
theorem dX10_mend_33 : decode cX10_mend 33 = .ok (.iconst (-1), 1) := by decide +kernel
theorem dX10_mend_34 : decode cX10_mend 34 = .ok (.ireturn, 1) := by decide +kernel
theorem dX10_mend_35 : decode cX10_mend 35 = .ok (.aload_n 0, 1) := by decide +kernel
theorem dX10_mend_36 : decode cX10_mend 36 = .ok (.getfield 7, 3) := by decide +kernel
theorem dX10_mend_39 : decode cX10_mend 39 = .ok (.iload 4, 2) := by decide +kernel
theorem dX10_mend_41 : decode cX10_mend 41 = .ok (.iaload, 1) := by decide +kernel
theorem dX10_mend_42 : decode cX10_mend 42 = .ok (.istore 5, 2) := by decide +kernel
theorem dX10_mend_44 : decode cX10_mend 44 = .ok (.iload 5, 2) := by decide +kernel
theorem dX10_mend_46 : decode cX10_mend 46 = .ok (.iload_n 3, 1) := by decide +kernel
theorem dX10_mend_47 : decode cX10_mend 47 = .ok (.if_icmp .eq 144, 3) := by decide +kernel
theorem dX10_mend_50 : decode cX10_mend 50 = .ok (.aload_n 0, 1) := by decide +kernel
theorem dX10_mend_51 : decode cX10_mend 51 = .ok (.getfield 7, 3) := by decide +kernel
theorem dX10_mend_54 : decode cX10_mend 54 = .ok (.iload 4, 2) := by decide +kernel
theorem dX10_mend_56 : decode cX10_mend 56 = .ok (.iload_n 3, 1) := by decide +kernel
theorem dX10_mend_57 : decode cX10_mend 57 = .ok (.iastore, 1) := by decide +kernel
theorem dX10_mend_58 : decode cX10_mend 58 = .ok (.aload_n 0, 1) := by decide +kernel
theorem dX10_mend_59 : decode cX10_mend 59 = .ok (.getfield 135, 3) := by decide +kernel
theorem dX10_mend_62 : decode cX10_mend 62 = .ok (.bipush 40, 2) := by decide +kernel
theorem dX10_mend_64 : decode cX10_mend 64 = .ok (.if_icmp .ne 77, 3) := by decide +kernel
theorem dX10_mend_67 : decode cX10_mend 67 = .ok (.iconst 1, 1) := by decide +kernel
theorem dX10_mend_68 : decode cX10_mend 68 = .ok (.istore 6, 2) := by decide +kernel
theorem dX10_mend_70 : decode cX10_mend 70 = .ok (.iload 6, 2) := by decide +kernel
theorem dX10_mend_72 : decode cX10_mend 72 = .ok (.bipush 40, 2) := by decide +kernel
theorem dX10_mend_74 : decode cX10_mend 74 = .ok (.if_icmp .ge 57, 3) := by decide +kernel
theorem dX10_mend_77 : decode cX10_mend 77 = .ok (.aload_n 0, 1) := by decide +kernel
theorem dX10_mend_78 : decode cX10_mend 78 = .ok (.getfield 16, 3) := by decide +kernel
theorem dX10_mend_81 : decode cX10_mend 81 = .ok (.iload 6, 2) := by decide +kernel
theorem dX10_mend_83 : decode cX10_mend 83 = .ok (.iconst 1, 1) := by decide +kernel
theorem dX10_mend_84 : decode cX10_mend 84 = .ok (.isub, 1) := by decide +kernel
theorem dX10_mend_85 : decode cX10_mend 85 = .ok (.aload_n 0, 1) := by decide +kernel
theorem dX10_mend_86 : decode cX10_mend 86 = .ok (.getfield 16, 3) := by decide +kernel
theorem dX10_mend_89 : decode cX10_mend 89 = .ok (.iload 6, 2) := by decide +kernel
theorem dX10_mend_91 : decode cX10_mend 91 = .ok (.iaload, 1) := by decide +kernel
theorem dX10_mend_92 : decode cX10_mend 92 = .ok (.iastore, 1) := by decide +kernel
theorem dX10_mend_93 : decode cX10_mend 93 = .ok (.aload_n 0, 1) := by decide +kernel
theorem dX10_mend_94 : decode cX10_mend 94 = .ok (.getfield 19, 3) := by decide +kernel
theorem dX10_mend_97 : decode cX10_mend 97 = .ok (.iload 6, 2) := by decide +kernel
theorem dX10_mend_99 : decode cX10_mend 99 = .ok (.iconst 1, 1) := by decide +kernel
theorem dX10_mend_100 : decode cX10_mend 100 = .ok (.isub, 1) := by decide +kernel
theorem dX10_mend_101 : decode cX10_mend 101 = .ok (.aload_n 0, 1) := by decide +kernel
theorem dX10_mend_102 : decode cX10_mend 102 = .ok (.getfield 19, 3) := by decide +kernel
theorem dX10_mend_105 : decode cX10_mend 105 = .ok (.iload 6, 2) := by decide +kernel
theorem dX10_mend_107 : decode cX10_mend 107 = .ok (.iaload, 1) := by decide +kernel
theorem dX10_mend_108 : decode cX10_mend 108 = .ok (.iastore, 1) := by decide +kernel
theorem dX10_mend_109 : decode cX10_mend 109 = .ok (.aload_n 0, 1) := by decide +kernel
theorem dX10_mend_110 : decode cX10_mend 110 = .ok (.getfield 22, 3) := by decide +kernel
theorem dX10_mend_113 : decode cX10_mend 113 = .ok (.iload 6, 2) := by decide +kernel
theorem dX10_mend_115 : decode cX10_mend 115 = .ok (.iconst 1, 1) := by decide +kernel
theorem dX10_mend_116 : decode cX10_mend 116 = .ok (.isub, 1) := by decide +kernel
theorem dX10_mend_117 : decode cX10_mend 117 = .ok (.aload_n 0, 1) := by decide +kernel
theorem dX10_mend_118 : decode cX10_mend 118 = .ok (.getfield 22, 3) := by decide +kernel
theorem dX10_mend_121 : decode cX10_mend 121 = .ok (.iload 6, 2) := by decide +kernel
theorem dX10_mend_123 : decode cX10_mend 123 = .ok (.iaload, 1) := by decide +kernel
theorem dX10_mend_124 : decode cX10_mend 124 = .ok (.iastore, 1) := by decide +kernel
theorem dX10_mend_125 : decode cX10_mend 125 = .ok (.iinc 6 1, 3) := by decide +kernel
theorem dX10_mend_128 : decode cX10_mend 128 = .ok (.goto (-58), 3) := by decide +kernel
theorem dX10_mend_131 : decode cX10_mend 131 = .ok (.aload_n 0, 1) := by decide +kernel
theorem dX10_mend_132 : decode cX10_mend 132 = .ok (.dup, 1) := by decide +kernel
theorem dX10_mend_133 : decode cX10_mend 133 = .ok (.getfield 135, 3) := by decide +kernel
theorem dX10_mend_136 : decode cX10_mend 136 = .ok (.iconst 1, 1) := by decide +kernel
theorem dX10_mend_137 : decode cX10_mend 137 = .ok (.isub, 1) := by decide +kernel
theorem dX10_mend_138 : decode cX10_mend 138 = .ok (.putfield 135, 3) := by decide +kernel
theorem dX10_mend_141 : decode cX10_mend 141 = .ok (.aload_n 0, 1) := by decide +kernel
theorem dX10_mend_142 : decode cX10_mend 142 = .ok (.getfield 16, 3) := by decide +kernel
theorem dX10_mend_145 : decode cX10_mend 145 = .ok (.aload_n 0, 1) := by decide +kernel
theorem dX10_mend_146 : decode cX10_mend 146 = .ok (.getfield 135, 3) := by decide +kernel
theorem dX10_mend_149 : decode cX10_mend 149 = .ok (.iload 4, 2) := by decide +kernel
theorem dX10_mend_151 : decode cX10_mend 151 = .ok (.iastore, 1) := by decide +kernel
theorem dX10_mend_152 : decode cX10_mend 152 = .ok (.aload_n 0, 1) := by decide +kernel
theorem dX10_mend_153 : decode cX10_mend 153 = .ok (.getfield 19, 3) := by decide +kernel
theorem dX10_mend_156 : decode cX10_mend 156 = .ok (.aload_n 0, 1) := by decide +kernel
theorem dX10_mend_157 : decode cX10_mend 157 = .ok (.getfield 135, 3) := by decide +kernel
theorem dX10_mend_160 : decode cX10_mend 160 = .ok (.iload 5, 2) := by decide +kernel
theorem dX10_mend_162 : decode cX10_mend 162 = .ok (.iastore, 1) := by decide +kernel
theorem dX10_mend_163 : decode cX10_mend 163 = .ok (.aload_n 0, 1) := by decide +kernel
theorem dX10_mend_164 : decode cX10_mend 164 = .ok (.getfield 22, 3) := by decide +kernel
theorem dX10_mend_167 : decode cX10_mend 167 = .ok (.aload_n 0, 1) := by decide +kernel
theorem dX10_mend_168 : decode cX10_mend 168 = .ok (.getfield 135, 3) := by decide +kernel
theorem dX10_mend_171 : decode cX10_mend 171 = .ok (.iload_n 3, 1) := by decide +kernel
theorem dX10_mend_172 : decode cX10_mend 172 = .ok (.iastore, 1) := by decide +kernel
theorem dX10_mend_173 : decode cX10_mend 173 = .ok (.aload_n 0, 1) := by decide +kernel
theorem dX10_mend_174 : decode cX10_mend 174 = .ok (.dup, 1) := by decide +kernel
theorem dX10_mend_175 : decode cX10_mend 175 = .ok (.getfield 135, 3) := by decide +kernel
theorem dX10_mend_178 : decode cX10_mend 178 = .ok (.iconst 1, 1) := by decide +kernel
theorem dX10_mend_179 : decode cX10_mend 179 = .ok (.iadd, 1) := by decide +kernel
theorem dX10_mend_180 : decode cX10_mend 180 = .ok (.putfield 135, 3) := by decide +kernel
theorem dX10_mend_183 : decode cX10_mend 183 = .ok (.aload_n 0, 1) := by decide +kernel
theorem dX10_mend_184 : decode cX10_mend 184 = .ok (.aload_n 0, 1) := by decide +kernel
theorem dX10_mend_185 : decode cX10_mend 185 = .ok (.getfield 135, 3) := by decide +kernel
theorem dX10_mend_188 : decode cX10_mend 188 = .ok (.putfield 138, 3) := by decide +kernel
theorem dX10_mend_191 : decode cX10_mend 191 = .ok (.iload 5, 2) := by decide +kernel
theorem dX10_mend_193 : decode cX10_mend 193 = .ok (.ireturn, 1) := by decide +kernel
theorem dX10_of_0 : decode cX10_of 0 = .ok (.iload_n 2, 1) := by decide +kernel
theorem dX10_of_1 : decode cX10_of 1 = .ok (.bipush 9, 2) := by decide +kernel
theorem dX10_of_3 : decode cX10_of 3 = .ok (.if_icmp .ne 35, 3) := by decide +kernel
theorem dX10_of_6 : decode cX10_of 6 = .ok (.iload_n 1, 1) := by decide +kernel
theorem dX10_of_7 : decode cX10_of 7 = .ok (.iconst 0, 1) := by decide +kernel
theorem dX10_of_8 : decode cX10_of 8 = .ok (.aload_n 0, 1) := by decide +kernel
theorem dX10_of_9 : decode cX10_of 9 = .ok (.getfield 121, 3) := by decide +kernel
theorem dX10_of_12 : decode cX10_of 12 = .ok (.iconst 1, 1) := by decide +kernel
theorem dX10_of_13 : decode cX10_of 13 = .ok (.isub, 1) := by decide +kernel
theorem dX10_of_14 : decode cX10_of 14 = .ok (.invokestatic 106, 3) := by decide +kernel
theorem dX10_of_17 : decode cX10_of 17 = .ok (.ifCond .eq 19, 3) := by decide +kernel
theorem dX10_of_20 : decode cX10_of 20 = .ok (.aload_n 0, 1) := by decide +kernel
theorem dX10_of_21 : decode cX10_of 21 = .ok (.getfield 7, 3) := by decide +kernel
theorem dX10_of_24 : decode cX10_of 24 = .ok (.bipush 54, 2) := by decide +kernel
theorem dX10_of_26 : decode cX10_of 26 = .ok (.iconst 3, 1) := by decide +kernel
theorem dX10_of_27 : decode cX10_of 27 = .ok (.iload_n 1, 1) := by decide +kernel
theorem dX10_of_28 : decode cX10_of 28 = .ok (.imul, 1) := by decide +kernel
theorem dX10_of_29 : decode cX10_of 29 = .ok (.iadd, 1) := by decide +kernel
theorem dX10_of_30 : decode cX10_of 30 = .ok (.iconst 2, 1) := by decide +kernel
theorem dX10_of_31 : decode cX10_of 31 = .ok (.iadd, 1) := by decide +kernel
theorem dX10_of_32 : decode cX10_of 32 = .ok (.iaload, 1) := by decide +kernel
theorem dX10_of_33 : decode cX10_of 33 = .ok (.goto 4, 3) := by decide +kernel
theorem dX10_of_36 : decode cX10_of 36 = .ok (.iconst (-1), 1) := by decide +kernel
theorem dX10_of_37 : decode cX10_of 37 = .ok (.ireturn, 1) := by decide +kernel
theorem dX10_of_38 : decode cX10_of 38 = .ok (.aload_n 0, 1) := by decide +kernel
theorem dX10_of_39 : decode cX10_of 39 = .ok (.iload_n 1, 1) := by decide +kernel
theorem dX10_of_40 : decode cX10_of 40 = .ok (.iload_n 2, 1) := by decide +kernel
theorem dX10_of_41 : decode cX10_of 41 = .ok (.invokevirtual 132, 3) := by decide +kernel
theorem dX10_of_44 : decode cX10_of 44 = .ok (.istore_n 3, 1) := by decide +kernel
theorem dX10_of_45 : decode cX10_of 45 = .ok (.iload_n 3, 1) := by decide +kernel
theorem dX10_of_46 : decode cX10_of 46 = .ok (.iconst (-1), 1) := by decide +kernel
theorem dX10_of_47 : decode cX10_of 47 = .ok (.if_icmp .ne 7, 3) := by decide +kernel
theorem dX10_of_50 : decode cX10_of 50 = .ok (.iconst (-1), 1) := by decide +kernel
theorem dX10_of_51 : decode cX10_of 51 = .ok (.goto 9, 3) := by decide +kernel
theorem dX10_of_54 : decode cX10_of 54 = .ok (.aload_n 0, 1) := by decide +kernel
theorem dX10_of_55 : decode cX10_of 55 = .ok (.getfield 7, 3) := by decide +kernel
theorem dX10_of_58 : decode cX10_of 58 = .ok (.iload_n 3, 1) := by decide +kernel
theorem dX10_of_59 : decode cX10_of 59 = .ok (.iaload, 1) := by decide +kernel
theorem dX10_of_60 : decode cX10_of 60 = .ok (.ireturn, 1) := by decide +kernel
theorem dX10_undo_0 : decode cX10_undo 0 = .ok (.aload_n 0, 1) := by decide +kernel
theorem dX10_undo_1 : decode cX10_undo 1 = .ok (.getfield 135, 3) := by decide +kernel
theorem dX10_undo_4 : decode cX10_undo 4 = .ok (.ifCond .ne 6, 3) := by decide +kernel
theorem dX10_undo_7 : decode cX10_undo 7 = .ok (.bipush (-5), 2) := by decide +kernel
theorem dX10_undo_9 : decode cX10_undo 9 = .ok (.ireturn, 1) := by decide +kernel
theorem dX10_undo_10 : decode cX10_undo 10 = .ok (.aload_n 0, 1) := by decide +kernel
theorem dX10_undo_11 : decode cX10_undo 11 = .ok (.dup, 1) := by decide +kernel
theorem dX10_undo_12 : decode cX10_undo 12 = .ok (.getfield 135, 3) := by decide +kernel
theorem dX10_undo_15 : decode cX10_undo 15 = .ok (.iconst 1, 1) := by decide +kernel
theorem dX10_undo_16 : decode cX10_undo 16 = .ok (.isub, 1) := by decide +kernel
theorem dX10_undo_17 : decode cX10_undo 17 = .ok (.putfield 135, 3) := by decide +kernel
theorem dX10_undo_20 : decode cX10_undo 20 = .ok (.aload_n 0, 1) := by decide +kernel
theorem dX10_undo_21 : decode cX10_undo 21 = .ok (.getfield 7, 3) := by decide +kernel
theorem dX10_undo_24 : decode cX10_undo 24 = .ok (.aload_n 0, 1) := by decide +kernel
theorem dX10_undo_25 : decode cX10_undo 25 = .ok (.getfield 16, 3) := by decide +kernel
theorem dX10_undo_28 : decode cX10_undo 28 = .ok (.aload_n 0, 1) := by decide +kernel
theorem dX10_undo_29 : decode cX10_undo 29 = .ok (.getfield 135, 3) := by decide +kernel
theorem dX10_undo_32 : decode cX10_undo 32 = .ok (.iaload, 1) := by decide +kernel
theorem dX10_undo_33 : decode cX10_undo 33 = .ok (.aload_n 0, 1) := by decide +kernel
theorem dX10_undo_34 : decode cX10_undo 34 = .ok (.getfield 19, 3) := by decide +kernel
theorem dX10_undo_37 : decode cX10_undo 37 = .ok (.aload_n 0, 1) := by decide +kernel
theorem dX10_undo_38 : decode cX10_undo 38 = .ok (.getfield 135, 3) := by decide +kernel
theorem dX10_undo_41 : decode cX10_undo 41 = .ok (.iaload, 1) := by decide +kernel
theorem dX10_undo_42 : decode cX10_undo 42 = .ok (.iastore, 1) := by decide +kernel
theorem dX10_undo_43 : decode cX10_undo 43 = .ok (.aload_n 0, 1) := by decide +kernel
theorem dX10_undo_44 : decode cX10_undo 44 = .ok (.getfield 135, 3) := by decide +kernel
theorem dX10_undo_47 : decode cX10_undo 47 = .ok (.ireturn, 1) := by decide +kernel
theorem dX10_redo_0 : decode cX10_redo 0 = .ok (.aload_n 0, 1) := by decide +kernel
theorem dX10_redo_1 : decode cX10_redo 1 = .ok (.getfield 135, 3) := by decide +kernel
theorem dX10_redo_4 : decode cX10_redo 4 = .ok (.aload_n 0, 1) := by decide +kernel
theorem dX10_redo_5 : decode cX10_redo 5 = .ok (.getfield 138, 3) := by decide +kernel
theorem dX10_redo_8 : decode cX10_redo 8 = .ok (.if_icmp .ne 6, 3) := by decide +kernel
theorem dX10_redo_11 : decode cX10_redo 11 = .ok (.bipush (-5), 2) := by decide +kernel
theorem dX10_redo_13 : decode cX10_redo 13 = .ok (.ireturn, 1) := by decide +kernel
theorem dX10_redo_14 : decode cX10_redo 14 = .ok (.aload_n 0, 1) := by decide +kernel
theorem dX10_redo_15 : decode cX10_redo 15 = .ok (.getfield 7, 3) := by decide +kernel
theorem dX10_redo_18 : decode cX10_redo 18 = .ok (.aload_n 0, 1) := by decide +kernel
theorem dX10_redo_19 : decode cX10_redo 19 = .ok (.getfield 16, 3) := by decide +kernel
theorem dX10_redo_22 : decode cX10_redo 22 = .ok (.aload_n 0, 1) := by decide +kernel
theorem dX10_redo_23 : decode cX10_redo 23 = .ok (.getfield 135, 3) := by decide +kernel
theorem dX10_redo_26 : decode cX10_redo 26 = .ok (.iaload, 1) := by decide +kernel
theorem dX10_redo_27 : decode cX10_redo 27 = .ok (.aload_n 0, 1) := by decide +kernel
theorem dX10_redo_28 : decode cX10_redo 28 = .ok (.getfield 22, 3) := by decide +kernel
theorem dX10_redo_31 : decode cX10_redo 31 = .ok (.aload_n 0, 1) := by decide +kernel
theorem dX10_redo_32 : decode cX10_redo 32 = .ok (.getfield 135, 3) := by decide +kernel
theorem dX10_redo_35 : decode cX10_redo 35 = .ok (.iaload, 1) := by decide +kernel
theorem dX10_redo_36 : decode cX10_redo 36 = .ok (.iastore, 1) := by decide +kernel
theorem dX10_redo_37 : decode cX10_redo 37 = .ok (.aload_n 0, 1) := by decide +kernel
theorem dX10_redo_38 : decode cX10_redo 38 = .ok (.dup, 1) := by decide +kernel
theorem dX10_redo_39 : decode cX10_redo 39 = .ok (.getfield 135, 3) := by decide +kernel
theorem dX10_redo_42 : decode cX10_redo 42 = .ok (.iconst 1, 1) := by decide +kernel
theorem dX10_redo_43 : decode cX10_redo 43 = .ok (.iadd, 1) := by decide +kernel
theorem dX10_redo_44 : decode cX10_redo 44 = .ok (.putfield 135, 3) := by decide +kernel
theorem dX10_redo_47 : decode cX10_redo 47 = .ok (.aload_n 0, 1) := by decide +kernel
theorem dX10_redo_48 : decode cX10_redo 48 = .ok (.getfield 138, 3) := by decide +kernel
theorem dX10_redo_51 : decode cX10_redo 51 = .ok (.aload_n 0, 1) := by decide +kernel
theorem dX10_redo_52 : decode cX10_redo 52 = .ok (.getfield 135, 3) := by decide +kernel
theorem dX10_redo_55 : decode cX10_redo 55 = .ok (.isub, 1) := by decide +kernel
theorem dX10_redo_56 : decode cX10_redo 56 = .ok (.ireturn, 1) := by decide +kernel
theorem dX10_feed_0 : decode cX10_feed 0 = .ok (.iload_n 1, 1) := by decide +kernel
theorem dX10_feed_1 : decode cX10_feed 1 = .ok (.iconst 0, 1) := by decide +kernel
theorem dX10_feed_2 : decode cX10_feed 2 = .ok (.sipush 255, 3) := by decide +kernel
theorem dX10_feed_5 : decode cX10_feed 5 = .ok (.invokestatic 106, 3) := by decide +kernel
theorem dX10_feed_8 : decode cX10_feed 8 = .ok (.ifCond .ne 5, 3) := by decide +kernel
theorem dX10_feed_11 : decode cX10_feed 11 = .ok (.iconst (-1), 1) := by decide +kernel
theorem dX10_feed_12 : decode cX10_feed 12 = .ok (.ireturn, 1) := by decide +kernel
theorem dX10_feed_13 : decode cX10_feed 13 = .ok (.aload_n 0, 1) := by decide +kernel
theorem dX10_feed_14 : decode cX10_feed 14 = .ok (.getfield 141, 3) := by decide +kernel
theorem dX10_feed_17 : decode cX10_feed 17 = .ok (.bipush 120, 2) := by decide +kernel
theorem dX10_feed_19 : decode cX10_feed 19 = .ok (.if_icmp .ne 6, 3) := by decide +kernel
theorem dX10_feed_22 : decode cX10_feed 22 = .ok (.bipush (-3), 2) := by decide +kernel
theorem dX10_feed_24 : decode cX10_feed 24 = .ok (.ireturn, 1) := by decide +kernel
theorem dX10_feed_25 : decode cX10_feed 25 = .ok (.aload_n 0, 1) := by decide +kernel
theorem dX10_feed_26 : decode cX10_feed 26 = .ok (.getfield 31, 3) := by decide +kernel
theorem dX10_feed_29 : decode cX10_feed 29 = .ok (.aload_n 0, 1) := by decide +kernel
theorem dX10_feed_30 : decode cX10_feed 30 = .ok (.getfield 141, 3) := by decide +kernel
theorem dX10_feed_33 : decode cX10_feed 33 = .ok (.iload_n 1, 1) := by decide +kernel
theorem dX10_feed_34 : decode cX10_feed 34 = .ok (.iastore, 1) := by decide +kernel
theorem dX10_feed_35 : decode cX10_feed 35 = .ok (.aload_n 0, 1) := by decide +kernel
theorem dX10_feed_36 : decode cX10_feed 36 = .ok (.dup, 1) := by decide +kernel
theorem dX10_feed_37 : decode cX10_feed 37 = .ok (.getfield 141, 3) := by decide +kernel
theorem dX10_feed_40 : decode cX10_feed 40 = .ok (.iconst 1, 1) := by decide +kernel
theorem dX10_feed_41 : decode cX10_feed 41 = .ok (.iadd, 1) := by decide +kernel
theorem dX10_feed_42 : decode cX10_feed 42 = .ok (.putfield 141, 3) := by decide +kernel
theorem dX10_feed_45 : decode cX10_feed 45 = .ok (.aload_n 0, 1) := by decide +kernel
theorem dX10_feed_46 : decode cX10_feed 46 = .ok (.getfield 141, 3) := by decide +kernel
theorem dX10_feed_49 : decode cX10_feed 49 = .ok (.ireturn, 1) := by decide +kernel
theorem dX10_isAt_0 : decode cX10_isAt 0 = .ok (.aload_n 0, 1) := by decide +kernel
theorem dX10_isAt_1 : decode cX10_isAt 1 = .ok (.getfield 144, 3) := by decide +kernel
theorem dX10_isAt_4 : decode cX10_isAt 4 = .ok (.ifCond .eq 31, 3) := by decide +kernel
theorem dX10_isAt_7 : decode cX10_isAt 7 = .ok (.aload_n 0, 1) := by decide +kernel
theorem dX10_isAt_8 : decode cX10_isAt 8 = .ok (.getfield 148, 3) := by decide +kernel
theorem dX10_isAt_11 : decode cX10_isAt 11 = .ok (.aload_n 0, 1) := by decide +kernel
theorem dX10_isAt_12 : decode cX10_isAt 12 = .ok (.getfield 151, 3) := by decide +kernel
theorem dX10_isAt_15 : decode cX10_isAt 15 = .ok (.if_icmp .ge 20, 3) := by decide +kernel
theorem dX10_isAt_18 : decode cX10_isAt 18 = .ok (.aload_n 0, 1) := by decide +kernel
theorem dX10_isAt_19 : decode cX10_isAt 19 = .ok (.getfield 37, 3) := by decide +kernel
theorem dX10_isAt_22 : decode cX10_isAt 22 = .ok (.aload_n 0, 1) := by decide +kernel
theorem dX10_isAt_23 : decode cX10_isAt 23 = .ok (.getfield 148, 3) := by decide +kernel
theorem dX10_isAt_26 : decode cX10_isAt 26 = .ok (.iaload, 1) := by decide +kernel
theorem dX10_isAt_27 : decode cX10_isAt 27 = .ok (.iload_n 1, 1) := by decide +kernel
theorem dX10_isAt_28 : decode cX10_isAt 28 = .ok (.if_icmp .ne 7, 3) := by decide +kernel
theorem dX10_isAt_31 : decode cX10_isAt 31 = .ok (.iconst 1, 1) := by decide +kernel
theorem dX10_isAt_32 : decode cX10_isAt 32 = .ok (.goto 4, 3) := by decide +kernel
theorem dX10_isAt_35 : decode cX10_isAt 35 = .ok (.iconst 0, 1) := by decide +kernel
theorem dX10_isAt_36 : decode cX10_isAt 36 = .ok (.ireturn, 1) := by decide +kernel
theorem dX10_isDigit_0 : decode cX10_isDigit 0 = .ok (.aload_n 0, 1) := by decide +kernel
theorem dX10_isDigit_1 : decode cX10_isDigit 1 = .ok (.getfield 144, 3) := by decide +kernel
theorem dX10_isDigit_4 : decode cX10_isDigit 4 = .ok (.ifCond .eq 37, 3) := by decide +kernel
theorem dX10_isDigit_7 : decode cX10_isDigit 7 = .ok (.aload_n 0, 1) := by decide +kernel
theorem dX10_isDigit_8 : decode cX10_isDigit 8 = .ok (.getfield 148, 3) := by decide +kernel
theorem dX10_isDigit_11 : decode cX10_isDigit 11 = .ok (.aload_n 0, 1) := by decide +kernel
theorem dX10_isDigit_12 : decode cX10_isDigit 12 = .ok (.getfield 151, 3) := by decide +kernel
theorem dX10_isDigit_15 : decode cX10_isDigit 15 = .ok (.if_icmp .ge 26, 3) := by decide +kernel
theorem dX10_isDigit_18 : decode cX10_isDigit 18 = .ok (.aload_n 0, 1) := by decide +kernel
theorem dX10_isDigit_19 : decode cX10_isDigit 19 = .ok (.getfield 37, 3) := by decide +kernel
theorem dX10_isDigit_22 : decode cX10_isDigit 22 = .ok (.aload_n 0, 1) := by decide +kernel
theorem dX10_isDigit_23 : decode cX10_isDigit 23 = .ok (.getfield 148, 3) := by decide +kernel
theorem dX10_isDigit_26 : decode cX10_isDigit 26 = .ok (.iaload, 1) := by decide +kernel
theorem dX10_isDigit_27 : decode cX10_isDigit 27 = .ok (.bipush 48, 2) := by decide +kernel
theorem dX10_isDigit_29 : decode cX10_isDigit 29 = .ok (.bipush 57, 2) := by decide +kernel
theorem dX10_isDigit_31 : decode cX10_isDigit 31 = .ok (.invokestatic 106, 3) := by decide +kernel
theorem dX10_isDigit_34 : decode cX10_isDigit 34 = .ok (.ifCond .eq 7, 3) := by decide +kernel
theorem dX10_isDigit_37 : decode cX10_isDigit 37 = .ok (.iconst 1, 1) := by decide +kernel
theorem dX10_isDigit_38 : decode cX10_isDigit 38 = .ok (.goto 4, 3) := by decide +kernel
theorem dX10_isDigit_41 : decode cX10_isDigit 41 = .ok (.iconst 0, 1) := by decide +kernel
theorem dX10_isDigit_42 : decode cX10_isDigit 42 = .ok (.ireturn, 1) := by decide +kernel
theorem dX10_number__0 : decode cX10_number_ 0 = .ok (.iconst 0, 1) := by decide +kernel
theorem dX10_number__1 : decode cX10_number_ 1 = .ok (.istore_n 1, 1) := by decide +kernel
theorem dX10_number__2 : decode cX10_number_ 2 = .ok (.iconst 0, 1) := by decide +kernel
theorem dX10_number__3 : decode cX10_number_ 3 = .ok (.istore_n 2, 1) := by decide +kernel
theorem dX10_number__4 : decode cX10_number_ 4 = .ok (.iload_n 2, 1) := by decide +kernel
theorem dX10_number__5 : decode cX10_number_ 5 = .ok (.iconst 4, 1) := by decide +kernel
theorem dX10_number__6 : decode cX10_number_ 6 = .ok (.if_icmp .ge 44, 3) := by decide +kernel
theorem dX10_number__9 : decode cX10_number_ 9 = .ok (.aload_n 0, 1) := by decide +kernel
theorem dX10_number__10 : decode cX10_number_ 10 = .ok (.invokevirtual 154, 3) := by decide +kernel
theorem dX10_number__13 : decode cX10_number_ 13 = .ok (.ifCond .eq 37, 3) := by decide +kernel
theorem dX10_number__16 : decode cX10_number_ 16 = .ok (.bipush 10, 2) := by decide +kernel
theorem dX10_number__18 : decode cX10_number_ 18 = .ok (.iload_n 1, 1) := by decide +kernel
theorem dX10_number__19 : decode cX10_number_ 19 = .ok (.imul, 1) := by decide +kernel
theorem dX10_number__20 : decode cX10_number_ 20 = .ok (.aload_n 0, 1) := by decide +kernel
theorem dX10_number__21 : decode cX10_number_ 21 = .ok (.getfield 37, 3) := by decide +kernel
theorem dX10_number__24 : decode cX10_number_ 24 = .ok (.aload_n 0, 1) := by decide +kernel
theorem dX10_number__25 : decode cX10_number_ 25 = .ok (.getfield 148, 3) := by decide +kernel
theorem dX10_number__28 : decode cX10_number_ 28 = .ok (.iaload, 1) := by decide +kernel
theorem dX10_number__29 : decode cX10_number_ 29 = .ok (.iadd, 1) := by decide +kernel
theorem dX10_number__30 : decode cX10_number_ 30 = .ok (.bipush 48, 2) := by decide +kernel
theorem dX10_number__32 : decode cX10_number_ 32 = .ok (.isub, 1) := by decide +kernel
theorem dX10_number__33 : decode cX10_number_ 33 = .ok (.istore_n 1, 1) := by decide +kernel
theorem dX10_number__34 : decode cX10_number_ 34 = .ok (.aload_n 0, 1) := by decide +kernel
theorem dX10_number__35 : decode cX10_number_ 35 = .ok (.dup, 1) := by decide +kernel
theorem dX10_number__36 : decode cX10_number_ 36 = .ok (.getfield 148, 3) := by decide +kernel
theorem dX10_number__39 : decode cX10_number_ 39 = .ok (.iconst 1, 1) := by decide +kernel
theorem dX10_number__40 : decode cX10_number_ 40 = .ok (.iadd, 1) := by decide +kernel
theorem dX10_number__41 : decode cX10_number_ 41 = .ok (.putfield 148, 3) := by decide +kernel
theorem dX10_number__44 : decode cX10_number_ 44 = .ok (.iinc 2 1, 3) := by decide +kernel
theorem dX10_number__47 : decode cX10_number_ 47 = .ok (.goto (-43), 3) := by decide +kernel
theorem dX10_number__50 : decode cX10_number_ 50 = .ok (.iload_n 1, 1) := by decide +kernel
theorem dX10_number__51 : decode cX10_number_ 51 = .ok (.ireturn, 1) := by decide +kernel
theorem dX10_opens_0 : decode cX10_opens 0 = .ok (.aload_n 0, 1) := by decide +kernel
theorem dX10_opens_1 : decode cX10_opens 1 = .ok (.aload_n 0, 1) := by decide +kernel
theorem dX10_opens_2 : decode cX10_opens 2 = .ok (.getfield 158, 3) := by decide +kernel
theorem dX10_opens_5 : decode cX10_opens 5 = .ok (.bipush 6, 2) := by decide +kernel
theorem dX10_opens_7 : decode cX10_opens 7 = .ok (.if_icmp .ge 7, 3) := by decide +kernel
theorem dX10_opens_10 : decode cX10_opens 10 = .ok (.iconst 1, 1) := by decide +kernel
theorem dX10_opens_11 : decode cX10_opens 11 = .ok (.goto 4, 3) := by decide +kernel
theorem dX10_opens_14 : decode cX10_opens 14 = .ok (.iconst 0, 1) := by decide +kernel
theorem dX10_opens_15 : decode cX10_opens 15 = .ok (.putfield 144, 3) := by decide +kernel
theorem dX10_opens_18 : decode cX10_opens 18 = .ok (.aload_n 0, 1) := by decide +kernel
theorem dX10_opens_19 : decode cX10_opens 19 = .ok (.getfield 144, 3) := by decide +kernel
theorem dX10_opens_22 : decode cX10_opens 22 = .ok (.ifCond .eq 23, 3) := by decide +kernel
theorem dX10_opens_25 : decode cX10_opens 25 = .ok (.aload_n 0, 1) := by decide +kernel
theorem dX10_opens_26 : decode cX10_opens 26 = .ok (.dup, 1) := by decide +kernel
theorem dX10_opens_27 : decode cX10_opens 27 = .ok (.getfield 158, 3) := by decide +kernel
theorem dX10_opens_30 : decode cX10_opens 30 = .ok (.iconst 1, 1) := by decide +kernel
theorem dX10_opens_31 : decode cX10_opens 31 = .ok (.iadd, 1) := by decide +kernel
theorem dX10_opens_32 : decode cX10_opens 32 = .ok (.putfield 158, 3) := by decide +kernel
theorem dX10_opens_35 : decode cX10_opens 35 = .ok (.aload_n 0, 1) := by decide +kernel
theorem dX10_opens_36 : decode cX10_opens 36 = .ok (.dup, 1) := by decide +kernel
theorem dX10_opens_37 : decode cX10_opens 37 = .ok (.getfield 148, 3) := by decide +kernel
theorem dX10_opens_40 : decode cX10_opens 40 = .ok (.iconst 1, 1) := by decide +kernel
theorem dX10_opens_41 : decode cX10_opens 41 = .ok (.iadd, 1) := by decide +kernel
theorem dX10_opens_42 : decode cX10_opens 42 = .ok (.putfield 148, 3) := by decide +kernel
theorem dX10_opens_45 : decode cX10_opens 45 = .ok (.aload_n 0, 1) := by decide +kernel
theorem dX10_opens_46 : decode cX10_opens 46 = .ok (.getfield 144, 3) := by decide +kernel
theorem dX10_opens_49 : decode cX10_opens 49 = .ok (.ireturn, 1) := by decide +kernel
theorem dX10_one_0 : decode cX10_one 0 = .ok (.iconst 0, 1) := by decide +kernel
theorem dX10_one_1 : decode cX10_one 1 = .ok (.istore_n 1, 1) := by decide +kernel
theorem dX10_one_2 : decode cX10_one 2 = .ok (.aload_n 0, 1) := by decide +kernel
theorem dX10_one_3 : decode cX10_one 3 = .ok (.invokevirtual 154, 3) := by decide +kernel
theorem dX10_one_6 : decode cX10_one 6 = .ok (.ifCond .eq 8, 3) := by decide +kernel
theorem dX10_one_9 : decode cX10_one 9 = .ok (.aload_n 0, 1) := by decide +kernel
theorem dX10_one_10 : decode cX10_one 10 = .ok (.invokevirtual 161, 3) := by decide +kernel
theorem dX10_one_13 : decode cX10_one 13 = .ok (.ireturn, 1) := by decide +kernel
theorem dX10_one_14 : decode cX10_one 14 = .ok (.aload_n 0, 1) := by decide +kernel
theorem dX10_one_15 : decode cX10_one 15 = .ok (.bipush 33, 2) := by decide +kernel
theorem dX10_one_17 : decode cX10_one 17 = .ok (.invokevirtual 164, 3) := by decide +kernel
theorem dX10_one_20 : decode cX10_one 20 = .ok (.ifCond .ne 12, 3) := by decide +kernel
theorem dX10_one_23 : decode cX10_one 23 = .ok (.aload_n 0, 1) := by decide +kernel
theorem dX10_one_24 : decode cX10_one 24 = .ok (.bipush 45, 2) := by decide +kernel
theorem dX10_one_26 : decode cX10_one 26 = .ok (.invokevirtual 164, 3) := by decide +kernel
theorem dX10_one_29 : decode cX10_one 29 = .ok (.ifCond .eq 53, 3) := by decide +kernel
theorem dX10_one_32 : decode cX10_one 32 = .ok (.aload_n 0, 1) := by decide +kernel
theorem dX10_one_33 : decode cX10_one 33 = .ok (.bipush 33, 2) := by decide +kernel
theorem dX10_one_35 : decode cX10_one 35 = .ok (.invokevirtual 164, 3) := by decide +kernel
theorem dX10_one_38 : decode cX10_one 38 = .ok (.istore_n 2, 1) := by decide +kernel
theorem dX10_one_39 : decode cX10_one 39 = .ok (.aload_n 0, 1) := by decide +kernel
theorem dX10_one_40 : decode cX10_one 40 = .ok (.invokevirtual 167, 3) := by decide +kernel
theorem dX10_one_43 : decode cX10_one 43 = .ok (.ifCond .eq 37, 3) := by decide +kernel
theorem dX10_one_46 : decode cX10_one 46 = .ok (.aload_n 0, 1) := by decide +kernel
theorem dX10_one_47 : decode cX10_one 47 = .ok (.invokevirtual 170, 3) := by decide +kernel
theorem dX10_one_50 : decode cX10_one 50 = .ok (.istore_n 3, 1) := by decide +kernel
theorem dX10_one_51 : decode cX10_one 51 = .ok (.iload_n 2, 1) := by decide +kernel
theorem dX10_one_52 : decode cX10_one 52 = .ok (.ifCond .eq 15, 3) := by decide +kernel
theorem dX10_one_55 : decode cX10_one 55 = .ok (.iload_n 3, 1) := by decide +kernel
theorem dX10_one_56 : decode cX10_one 56 = .ok (.ifCond .ne 7, 3) := by decide +kernel
theorem dX10_one_59 : decode cX10_one 59 = .ok (.iconst 1, 1) := by decide +kernel
theorem dX10_one_60 : decode cX10_one 60 = .ok (.goto 9, 3) := by decide +kernel
theorem dX10_one_63 : decode cX10_one 63 = .ok (.iconst 0, 1) := by decide +kernel
theorem dX10_one_64 : decode cX10_one 64 = .ok (.goto 5, 3) := by decide +kernel
theorem dX10_one_67 : decode cX10_one 67 = .ok (.iload_n 3, 1) := by decide +kernel
theorem dX10_one_68 : decode cX10_one 68 = .ok (.ineg, 1) := by decide +kernel
theorem dX10_one_69 : decode cX10_one 69 = .ok (.istore_n 1, 1) := by decide +kernel
theorem dX10_one_70 : decode cX10_one 70 = .ok (.aload_n 0, 1) := by decide +kernel
theorem dX10_one_71 : decode cX10_one 71 = .ok (.dup, 1) := by decide +kernel
theorem dX10_one_72 : decode cX10_one 72 = .ok (.getfield 158, 3) := by decide +kernel
theorem dX10_one_75 : decode cX10_one 75 = .ok (.iconst 1, 1) := by decide +kernel
theorem dX10_one_76 : decode cX10_one 76 = .ok (.isub, 1) := by decide +kernel
theorem dX10_one_77 : decode cX10_one 77 = .ok (.putfield 158, 3) := by decide +kernel
theorem dX10_one_80 : decode cX10_one 80 = .ok (.iload_n 1, 1) := by decide +kernel
theorem dX10_one_81 : decode cX10_one 81 = .ok (.ireturn, 1) := by decide +kernel
theorem dX10_one_82 : decode cX10_one 82 = .ok (.aload_n 0, 1) := by decide +kernel
theorem dX10_one_83 : decode cX10_one 83 = .ok (.bipush 40, 2) := by decide +kernel
theorem dX10_one_85 : decode cX10_one 85 = .ok (.invokevirtual 164, 3) := by decide +kernel
theorem dX10_one_88 : decode cX10_one 88 = .ok (.ifCond .eq 58, 3) := by decide +kernel
theorem dX10_one_91 : decode cX10_one 91 = .ok (.aload_n 0, 1) := by decide +kernel
theorem dX10_one_92 : decode cX10_one 92 = .ok (.invokevirtual 167, 3) := by decide +kernel
theorem dX10_one_95 : decode cX10_one 95 = .ok (.ifCond .eq 49, 3) := by decide +kernel
theorem dX10_one_98 : decode cX10_one 98 = .ok (.aload_n 0, 1) := by decide +kernel
theorem dX10_one_99 : decode cX10_one 99 = .ok (.invokevirtual 173, 3) := by decide +kernel
theorem dX10_one_102 : decode cX10_one 102 = .ok (.istore_n 1, 1) := by decide +kernel
theorem dX10_one_103 : decode cX10_one 103 = .ok (.aload_n 0, 1) := by decide +kernel
theorem dX10_one_104 : decode cX10_one 104 = .ok (.aload_n 0, 1) := by decide +kernel
theorem dX10_one_105 : decode cX10_one 105 = .ok (.bipush 41, 2) := by decide +kernel
theorem dX10_one_107 : decode cX10_one 107 = .ok (.invokevirtual 164, 3) := by decide +kernel
theorem dX10_one_110 : decode cX10_one 110 = .ok (.putfield 144, 3) := by decide +kernel
theorem dX10_one_113 : decode cX10_one 113 = .ok (.aload_n 0, 1) := by decide +kernel
theorem dX10_one_114 : decode cX10_one 114 = .ok (.dup, 1) := by decide +kernel
theorem dX10_one_115 : decode cX10_one 115 = .ok (.getfield 148, 3) := by decide +kernel
theorem dX10_one_118 : decode cX10_one 118 = .ok (.aload_n 0, 1) := by decide +kernel
theorem dX10_one_119 : decode cX10_one 119 = .ok (.getfield 144, 3) := by decide +kernel
theorem dX10_one_122 : decode cX10_one 122 = .ok (.ifCond .eq 7, 3) := by decide +kernel
theorem dX10_one_125 : decode cX10_one 125 = .ok (.iconst 1, 1) := by decide +kernel
theorem dX10_one_126 : decode cX10_one 126 = .ok (.goto 4, 3) := by decide +kernel
theorem dX10_one_129 : decode cX10_one 129 = .ok (.iconst 0, 1) := by decide +kernel
theorem dX10_one_130 : decode cX10_one 130 = .ok (.iadd, 1) := by decide +kernel
theorem dX10_one_131 : decode cX10_one 131 = .ok (.putfield 148, 3) := by decide +kernel
theorem dX10_one_134 : decode cX10_one 134 = .ok (.aload_n 0, 1) := by decide +kernel
theorem dX10_one_135 : decode cX10_one 135 = .ok (.dup, 1) := by decide +kernel
theorem dX10_one_136 : decode cX10_one 136 = .ok (.getfield 158, 3) := by decide +kernel
theorem dX10_one_139 : decode cX10_one 139 = .ok (.iconst 1, 1) := by decide +kernel
theorem dX10_one_140 : decode cX10_one 140 = .ok (.isub, 1) := by decide +kernel
theorem dX10_one_141 : decode cX10_one 141 = .ok (.putfield 158, 3) := by decide +kernel
theorem dX10_one_144 : decode cX10_one 144 = .ok (.iload_n 1, 1) := by decide +kernel
theorem dX10_one_145 : decode cX10_one 145 = .ok (.ireturn, 1) := by decide +kernel
theorem dX10_one_146 : decode cX10_one 146 = .ok (.iconst 0, 1) := by decide +kernel
theorem dX10_one_147 : decode cX10_one 147 = .ok (.istore_n 2, 1) := by decide +kernel
theorem dX10_one_148 : decode cX10_one 148 = .ok (.iload_n 2, 1) := by decide +kernel
theorem dX10_one_149 : decode cX10_one 149 = .ok (.bipush 6, 2) := by decide +kernel
theorem dX10_one_151 : decode cX10_one 151 = .ok (.if_icmp .ge 39, 3) := by decide +kernel
theorem dX10_one_154 : decode cX10_one 154 = .ok (.aload_n 0, 1) := by decide +kernel
theorem dX10_one_155 : decode cX10_one 155 = .ok (.aload_n 0, 1) := by decide +kernel
theorem dX10_one_156 : decode cX10_one 156 = .ok (.getfield 43, 3) := by decide +kernel
theorem dX10_one_159 : decode cX10_one 159 = .ok (.iload_n 2, 1) := by decide +kernel
theorem dX10_one_160 : decode cX10_one 160 = .ok (.caload, 1) := by decide +kernel
theorem dX10_one_161 : decode cX10_one 161 = .ok (.invokevirtual 164, 3) := by decide +kernel
theorem dX10_one_164 : decode cX10_one 164 = .ok (.ifCond .eq 20, 3) := by decide +kernel
theorem dX10_one_167 : decode cX10_one 167 = .ok (.aload_n 0, 1) := by decide +kernel
theorem dX10_one_168 : decode cX10_one 168 = .ok (.dup, 1) := by decide +kernel
theorem dX10_one_169 : decode cX10_one 169 = .ok (.getfield 148, 3) := by decide +kernel
theorem dX10_one_172 : decode cX10_one 172 = .ok (.iconst 1, 1) := by decide +kernel
theorem dX10_one_173 : decode cX10_one 173 = .ok (.iadd, 1) := by decide +kernel
theorem dX10_one_174 : decode cX10_one 174 = .ok (.putfield 148, 3) := by decide +kernel
theorem dX10_one_177 : decode cX10_one 177 = .ok (.aload_n 0, 1) := by decide +kernel
theorem dX10_one_178 : decode cX10_one 178 = .ok (.getfield 40, 3) := by decide +kernel
theorem dX10_one_181 : decode cX10_one 181 = .ok (.iload_n 2, 1) := by decide +kernel
theorem dX10_one_182 : decode cX10_one 182 = .ok (.iaload, 1) := by decide +kernel
theorem dX10_one_183 : decode cX10_one 183 = .ok (.ireturn, 1) := by decide +kernel
theorem dX10_one_184 : decode cX10_one 184 = .ok (.iinc 2 1, 3) := by decide +kernel
theorem dX10_one_187 : decode cX10_one 187 = .ok (.goto (-39), 3) := by decide +kernel
theorem dX10_one_190 : decode cX10_one 190 = .ok (.aload_n 0, 1) := by decide +kernel
theorem dX10_one_191 : decode cX10_one 191 = .ok (.iconst 0, 1) := by decide +kernel
theorem dX10_one_192 : decode cX10_one 192 = .ok (.putfield 144, 3) := by decide +kernel
theorem dX10_one_195 : decode cX10_one 195 = .ok (.iconst 0, 1) := by decide +kernel
theorem dX10_one_196 : decode cX10_one 196 = .ok (.ireturn, 1) := by decide +kernel
theorem dX10_product_0 : decode cX10_product 0 = .ok (.aload_n 0, 1) := by decide +kernel
theorem dX10_product_1 : decode cX10_product 1 = .ok (.invokevirtual 170, 3) := by decide +kernel
theorem dX10_product_4 : decode cX10_product 4 = .ok (.istore_n 1, 1) := by decide +kernel
theorem dX10_product_5 : decode cX10_product 5 = .ok (.aload_n 0, 1) := by decide +kernel
theorem dX10_product_6 : decode cX10_product 6 = .ok (.bipush 42, 2) := by decide +kernel
theorem dX10_product_8 : decode cX10_product 8 = .ok (.invokevirtual 164, 3) := by decide +kernel
theorem dX10_product_11 : decode cX10_product 11 = .ok (.ifCond .ne 21, 3) := by decide +kernel
theorem dX10_product_14 : decode cX10_product 14 = .ok (.aload_n 0, 1) := by decide +kernel
theorem dX10_product_15 : decode cX10_product 15 = .ok (.bipush 47, 2) := by decide +kernel
theorem dX10_product_17 : decode cX10_product 17 = .ok (.invokevirtual 164, 3) := by decide +kernel
theorem dX10_product_20 : decode cX10_product 20 = .ok (.ifCond .ne 12, 3) := by decide +kernel
theorem dX10_product_23 : decode cX10_product 23 = .ok (.aload_n 0, 1) := by decide +kernel
theorem dX10_product_24 : decode cX10_product 24 = .ok (.bipush 37, 2) := by decide +kernel
theorem dX10_product_26 : decode cX10_product 26 = .ok (.invokevirtual 164, 3) := by decide +kernel
theorem dX10_product_29 : decode cX10_product 29 = .ok (.ifCond .eq 67, 3) := by decide +kernel
theorem dX10_product_32 : decode cX10_product 32 = .ok (.aload_n 0, 1) := by decide +kernel
theorem dX10_product_33 : decode cX10_product 33 = .ok (.getfield 37, 3) := by decide +kernel
theorem dX10_product_36 : decode cX10_product 36 = .ok (.aload_n 0, 1) := by decide +kernel
theorem dX10_product_37 : decode cX10_product 37 = .ok (.getfield 148, 3) := by decide +kernel
theorem dX10_product_40 : decode cX10_product 40 = .ok (.iaload, 1) := by decide +kernel
theorem dX10_product_41 : decode cX10_product 41 = .ok (.istore_n 2, 1) := by decide +kernel
theorem dX10_product_42 : decode cX10_product 42 = .ok (.aload_n 0, 1) := by decide +kernel
theorem dX10_product_43 : decode cX10_product 43 = .ok (.dup, 1) := by decide +kernel
theorem dX10_product_44 : decode cX10_product 44 = .ok (.getfield 148, 3) := by decide +kernel
theorem dX10_product_47 : decode cX10_product 47 = .ok (.iconst 1, 1) := by decide +kernel
theorem dX10_product_48 : decode cX10_product 48 = .ok (.iadd, 1) := by decide +kernel
theorem dX10_product_49 : decode cX10_product 49 = .ok (.putfield 148, 3) := by decide +kernel
theorem dX10_product_52 : decode cX10_product 52 = .ok (.aload_n 0, 1) := by decide +kernel
theorem dX10_product_53 : decode cX10_product 53 = .ok (.invokevirtual 170, 3) := by decide +kernel
theorem dX10_product_56 : decode cX10_product 56 = .ok (.istore_n 3, 1) := by decide +kernel
theorem dX10_product_57 : decode cX10_product 57 = .ok (.iload_n 2, 1) := by decide +kernel
theorem dX10_product_58 : decode cX10_product 58 = .ok (.bipush 42, 2) := by decide +kernel
theorem dX10_product_60 : decode cX10_product 60 = .ok (.if_icmp .ne 9, 3) := by decide +kernel
theorem dX10_product_63 : decode cX10_product 63 = .ok (.iload_n 1, 1) := by decide +kernel
theorem dX10_product_64 : decode cX10_product 64 = .ok (.iload_n 3, 1) := by decide +kernel
theorem dX10_product_65 : decode cX10_product 65 = .ok (.imul, 1) := by decide +kernel
theorem dX10_product_66 : decode cX10_product 66 = .ok (.goto 26, 3) := by decide +kernel
theorem dX10_product_69 : decode cX10_product 69 = .ok (.iload_n 3, 1) := by decide +kernel
theorem dX10_product_70 : decode cX10_product 70 = .ok (.ifCond .ne 7, 3) := by decide +kernel
theorem dX10_product_73 : decode cX10_product 73 = .ok (.iconst 0, 1) := by decide +kernel
theorem dX10_product_74 : decode cX10_product 74 = .ok (.goto 18, 3) := by decide +kernel
theorem dX10_product_77 : decode cX10_product 77 = .ok (.iload_n 2, 1) := by decide +kernel
theorem dX10_product_78 : decode cX10_product 78 = .ok (.bipush 47, 2) := by decide +kernel
theorem dX10_product_80 : decode cX10_product 80 = .ok (.if_icmp .ne 9, 3) := by decide +kernel
theorem dX10_product_83 : decode cX10_product 83 = .ok (.iload_n 1, 1) := by decide +kernel
theorem dX10_product_84 : decode cX10_product 84 = .ok (.iload_n 3, 1) := by decide +kernel
theorem dX10_product_85 : decode cX10_product 85 = .ok (.idiv, 1) := by decide +kernel
theorem dX10_product_86 : decode cX10_product 86 = .ok (.goto 6, 3) := by decide +kernel
theorem dX10_product_89 : decode cX10_product 89 = .ok (.iload_n 1, 1) := by decide +kernel
theorem dX10_product_90 : decode cX10_product 90 = .ok (.iload_n 3, 1) := by decide +kernel
theorem dX10_product_91 : decode cX10_product 91 = .ok (.irem, 1) := by decide +kernel
theorem dX10_product_92 : decode cX10_product 92 = .ok (.istore_n 1, 1) := by decide +kernel
theorem dX10_product_93 : decode cX10_product 93 = .ok (.goto (-88), 3) := by decide +kernel
theorem dX10_product_96 : decode cX10_product 96 = .ok (.iload_n 1, 1) := by decide +kernel
theorem dX10_product_97 : decode cX10_product 97 = .ok (.ireturn, 1) := by decide +kernel
theorem dX10_total_0 : decode cX10_total 0 = .ok (.aload_n 0, 1) := by decide +kernel
theorem dX10_total_1 : decode cX10_total 1 = .ok (.invokevirtual 176, 3) := by decide +kernel
theorem dX10_total_4 : decode cX10_total 4 = .ok (.istore_n 1, 1) := by decide +kernel
theorem dX10_total_5 : decode cX10_total 5 = .ok (.aload_n 0, 1) := by decide +kernel
theorem dX10_total_6 : decode cX10_total 6 = .ok (.bipush 43, 2) := by decide +kernel
theorem dX10_total_8 : decode cX10_total 8 = .ok (.invokevirtual 164, 3) := by decide +kernel
theorem dX10_total_11 : decode cX10_total 11 = .ok (.ifCond .ne 12, 3) := by decide +kernel
theorem dX10_total_14 : decode cX10_total 14 = .ok (.aload_n 0, 1) := by decide +kernel
theorem dX10_total_15 : decode cX10_total 15 = .ok (.bipush 45, 2) := by decide +kernel
theorem dX10_total_17 : decode cX10_total 17 = .ok (.invokevirtual 164, 3) := by decide +kernel
theorem dX10_total_20 : decode cX10_total 20 = .ok (.ifCond .eq 42, 3) := by decide +kernel
theorem dX10_total_23 : decode cX10_total 23 = .ok (.aload_n 0, 1) := by decide +kernel
theorem dX10_total_24 : decode cX10_total 24 = .ok (.bipush 43, 2) := by decide +kernel
theorem dX10_total_26 : decode cX10_total 26 = .ok (.invokevirtual 164, 3) := by decide +kernel
theorem dX10_total_29 : decode cX10_total 29 = .ok (.istore_n 2, 1) := by decide +kernel
theorem dX10_total_30 : decode cX10_total 30 = .ok (.aload_n 0, 1) := by decide +kernel
theorem dX10_total_31 : decode cX10_total 31 = .ok (.dup, 1) := by decide +kernel
theorem dX10_total_32 : decode cX10_total 32 = .ok (.getfield 148, 3) := by decide +kernel
theorem dX10_total_35 : decode cX10_total 35 = .ok (.iconst 1, 1) := by decide +kernel
theorem dX10_total_36 : decode cX10_total 36 = .ok (.iadd, 1) := by decide +kernel
theorem dX10_total_37 : decode cX10_total 37 = .ok (.putfield 148, 3) := by decide +kernel
theorem dX10_total_40 : decode cX10_total 40 = .ok (.aload_n 0, 1) := by decide +kernel
theorem dX10_total_41 : decode cX10_total 41 = .ok (.invokevirtual 176, 3) := by decide +kernel
theorem dX10_total_44 : decode cX10_total 44 = .ok (.istore_n 3, 1) := by decide +kernel
theorem dX10_total_45 : decode cX10_total 45 = .ok (.iload_n 2, 1) := by decide +kernel
theorem dX10_total_46 : decode cX10_total 46 = .ok (.ifCond .eq 9, 3) := by decide +kernel
theorem dX10_total_49 : decode cX10_total 49 = .ok (.iload_n 1, 1) := by decide +kernel
theorem dX10_total_50 : decode cX10_total 50 = .ok (.iload_n 3, 1) := by decide +kernel
theorem dX10_total_51 : decode cX10_total 51 = .ok (.iadd, 1) := by decide +kernel
theorem dX10_total_52 : decode cX10_total 52 = .ok (.goto 6, 3) := by decide +kernel
theorem dX10_total_55 : decode cX10_total 55 = .ok (.iload_n 1, 1) := by decide +kernel
theorem dX10_total_56 : decode cX10_total 56 = .ok (.iload_n 3, 1) := by decide +kernel
theorem dX10_total_57 : decode cX10_total 57 = .ok (.isub, 1) := by decide +kernel
theorem dX10_total_58 : decode cX10_total 58 = .ok (.istore_n 1, 1) := by decide +kernel
theorem dX10_total_59 : decode cX10_total 59 = .ok (.goto (-54), 3) := by decide +kernel
theorem dX10_total_62 : decode cX10_total 62 = .ok (.iload_n 1, 1) := by decide +kernel
theorem dX10_total_63 : decode cX10_total 63 = .ok (.ireturn, 1) := by decide +kernel
theorem dX10_compared_0 : decode cX10_compared 0 = .ok (.aload_n 0, 1) := by decide +kernel
theorem dX10_compared_1 : decode cX10_compared 1 = .ok (.invokevirtual 179, 3) := by decide +kernel
theorem dX10_compared_4 : decode cX10_compared 4 = .ok (.istore_n 1, 1) := by decide +kernel
theorem dX10_compared_5 : decode cX10_compared 5 = .ok (.aload_n 0, 1) := by decide +kernel
theorem dX10_compared_6 : decode cX10_compared 6 = .ok (.bipush 60, 2) := by decide +kernel
theorem dX10_compared_8 : decode cX10_compared 8 = .ok (.invokevirtual 164, 3) := by decide +kernel
theorem dX10_compared_11 : decode cX10_compared 11 = .ok (.ifCond .ne 21, 3) := by decide +kernel
theorem dX10_compared_14 : decode cX10_compared 14 = .ok (.aload_n 0, 1) := by decide +kernel
theorem dX10_compared_15 : decode cX10_compared 15 = .ok (.bipush 61, 2) := by decide +kernel
theorem dX10_compared_17 : decode cX10_compared 17 = .ok (.invokevirtual 164, 3) := by decide +kernel
theorem dX10_compared_20 : decode cX10_compared 20 = .ok (.ifCond .ne 12, 3) := by decide +kernel
theorem dX10_compared_23 : decode cX10_compared 23 = .ok (.aload_n 0, 1) := by decide +kernel
theorem dX10_compared_24 : decode cX10_compared 24 = .ok (.bipush 62, 2) := by decide +kernel
theorem dX10_compared_26 : decode cX10_compared 26 = .ok (.invokevirtual 164, 3) := by decide +kernel
theorem dX10_compared_29 : decode cX10_compared 29 = .ok (.ifCond .eq 89, 3) := by decide +kernel
theorem dX10_compared_32 : decode cX10_compared 32 = .ok (.aload_n 0, 1) := by decide +kernel
theorem dX10_compared_33 : decode cX10_compared 33 = .ok (.getfield 37, 3) := by decide +kernel
theorem dX10_compared_36 : decode cX10_compared 36 = .ok (.aload_n 0, 1) := by decide +kernel
theorem dX10_compared_37 : decode cX10_compared 37 = .ok (.getfield 148, 3) := by decide +kernel
theorem dX10_compared_40 : decode cX10_compared 40 = .ok (.iaload, 1) := by decide +kernel
theorem dX10_compared_41 : decode cX10_compared 41 = .ok (.istore_n 2, 1) := by decide +kernel
theorem dX10_compared_42 : decode cX10_compared 42 = .ok (.aload_n 0, 1) := by decide +kernel
theorem dX10_compared_43 : decode cX10_compared 43 = .ok (.dup, 1) := by decide +kernel
theorem dX10_compared_44 : decode cX10_compared 44 = .ok (.getfield 148, 3) := by decide +kernel
theorem dX10_compared_47 : decode cX10_compared 47 = .ok (.iconst 1, 1) := by decide +kernel
theorem dX10_compared_48 : decode cX10_compared 48 = .ok (.iadd, 1) := by decide +kernel
theorem dX10_compared_49 : decode cX10_compared 49 = .ok (.putfield 148, 3) := by decide +kernel
theorem dX10_compared_52 : decode cX10_compared 52 = .ok (.aload_n 0, 1) := by decide +kernel
theorem dX10_compared_53 : decode cX10_compared 53 = .ok (.invokevirtual 179, 3) := by decide +kernel
theorem dX10_compared_56 : decode cX10_compared 56 = .ok (.istore_n 3, 1) := by decide +kernel
theorem dX10_compared_57 : decode cX10_compared 57 = .ok (.iload_n 2, 1) := by decide +kernel
theorem dX10_compared_58 : decode cX10_compared 58 = .ok (.bipush 60, 2) := by decide +kernel
theorem dX10_compared_60 : decode cX10_compared 60 = .ok (.if_icmp .ne 16, 3) := by decide +kernel
theorem dX10_compared_63 : decode cX10_compared 63 = .ok (.iload_n 1, 1) := by decide +kernel
theorem dX10_compared_64 : decode cX10_compared 64 = .ok (.iload_n 3, 1) := by decide +kernel
theorem dX10_compared_65 : decode cX10_compared 65 = .ok (.if_icmp .ge 7, 3) := by decide +kernel
theorem dX10_compared_68 : decode cX10_compared 68 = .ok (.iconst 1, 1) := by decide +kernel
theorem dX10_compared_69 : decode cX10_compared 69 = .ok (.goto 36, 3) := by decide +kernel
theorem dX10_compared_72 : decode cX10_compared 72 = .ok (.iconst 0, 1) := by decide +kernel
theorem dX10_compared_73 : decode cX10_compared 73 = .ok (.goto 32, 3) := by decide +kernel
theorem dX10_compared_76 : decode cX10_compared 76 = .ok (.iload_n 2, 1) := by decide +kernel
theorem dX10_compared_77 : decode cX10_compared 77 = .ok (.bipush 61, 2) := by decide +kernel
theorem dX10_compared_79 : decode cX10_compared 79 = .ok (.if_icmp .ne 16, 3) := by decide +kernel
theorem dX10_compared_82 : decode cX10_compared 82 = .ok (.iload_n 1, 1) := by decide +kernel
theorem dX10_compared_83 : decode cX10_compared 83 = .ok (.iload_n 3, 1) := by decide +kernel
theorem dX10_compared_84 : decode cX10_compared 84 = .ok (.if_icmp .ne 7, 3) := by decide +kernel
theorem dX10_compared_87 : decode cX10_compared 87 = .ok (.iconst 1, 1) := by decide +kernel
theorem dX10_compared_88 : decode cX10_compared 88 = .ok (.goto 17, 3) := by decide +kernel
theorem dX10_compared_91 : decode cX10_compared 91 = .ok (.iconst 0, 1) := by decide +kernel
theorem dX10_compared_92 : decode cX10_compared 92 = .ok (.goto 13, 3) := by decide +kernel
theorem dX10_compared_95 : decode cX10_compared 95 = .ok (.iload_n 1, 1) := by decide +kernel
theorem dX10_compared_96 : decode cX10_compared 96 = .ok (.iload_n 3, 1) := by decide +kernel
theorem dX10_compared_97 : decode cX10_compared 97 = .ok (.if_icmp .le 7, 3) := by decide +kernel
theorem dX10_compared_100 : decode cX10_compared 100 = .ok (.iconst 1, 1) := by decide +kernel
theorem dX10_compared_101 : decode cX10_compared 101 = .ok (.goto 4, 3) := by decide +kernel
theorem dX10_compared_104 : decode cX10_compared 104 = .ok (.iconst 0, 1) := by decide +kernel
theorem dX10_compared_105 : decode cX10_compared 105 = .ok (.istore 4, 2) := by decide +kernel
theorem dX10_compared_107 : decode cX10_compared 107 = .ok (.iload 4, 2) := by decide +kernel
theorem dX10_compared_109 : decode cX10_compared 109 = .ok (.ifCond .eq 7, 3) := by decide +kernel
theorem dX10_compared_112 : decode cX10_compared 112 = .ok (.iconst 1, 1) := by decide +kernel
theorem dX10_compared_113 : decode cX10_compared 113 = .ok (.goto 4, 3) := by decide +kernel
theorem dX10_compared_116 : decode cX10_compared 116 = .ok (.iconst 0, 1) := by decide +kernel
theorem dX10_compared_117 : decode cX10_compared 117 = .ok (.istore_n 1, 1) := by decide +kernel
theorem dX10_compared_118 : decode cX10_compared 118 = .ok (.iload_n 1, 1) := by decide +kernel
theorem dX10_compared_119 : decode cX10_compared 119 = .ok (.ireturn, 1) := by decide +kernel
theorem dX10_both_0 : decode cX10_both 0 = .ok (.aload_n 0, 1) := by decide +kernel
theorem dX10_both_1 : decode cX10_both 1 = .ok (.invokevirtual 182, 3) := by decide +kernel
theorem dX10_both_4 : decode cX10_both 4 = .ok (.istore_n 1, 1) := by decide +kernel
theorem dX10_both_5 : decode cX10_both 5 = .ok (.aload_n 0, 1) := by decide +kernel
theorem dX10_both_6 : decode cX10_both 6 = .ok (.bipush 38, 2) := by decide +kernel
theorem dX10_both_8 : decode cX10_both 8 = .ok (.invokevirtual 164, 3) := by decide +kernel
theorem dX10_both_11 : decode cX10_both 11 = .ok (.ifCond .eq 35, 3) := by decide +kernel
theorem dX10_both_14 : decode cX10_both 14 = .ok (.aload_n 0, 1) := by decide +kernel
theorem dX10_both_15 : decode cX10_both 15 = .ok (.dup, 1) := by decide +kernel
theorem dX10_both_16 : decode cX10_both 16 = .ok (.getfield 148, 3) := by decide +kernel
theorem dX10_both_19 : decode cX10_both 19 = .ok (.iconst 1, 1) := by decide +kernel
theorem dX10_both_20 : decode cX10_both 20 = .ok (.iadd, 1) := by decide +kernel
theorem dX10_both_21 : decode cX10_both 21 = .ok (.putfield 148, 3) := by decide +kernel
theorem dX10_both_24 : decode cX10_both 24 = .ok (.aload_n 0, 1) := by decide +kernel
theorem dX10_both_25 : decode cX10_both 25 = .ok (.invokevirtual 182, 3) := by decide +kernel
theorem dX10_both_28 : decode cX10_both 28 = .ok (.istore_n 2, 1) := by decide +kernel
theorem dX10_both_29 : decode cX10_both 29 = .ok (.iload_n 1, 1) := by decide +kernel
theorem dX10_both_30 : decode cX10_both 30 = .ok (.ifCond .eq 11, 3) := by decide +kernel
theorem dX10_both_33 : decode cX10_both 33 = .ok (.iload_n 2, 1) := by decide +kernel
theorem dX10_both_34 : decode cX10_both 34 = .ok (.ifCond .eq 7, 3) := by decide +kernel
theorem dX10_both_37 : decode cX10_both 37 = .ok (.iconst 1, 1) := by decide +kernel
theorem dX10_both_38 : decode cX10_both 38 = .ok (.goto 4, 3) := by decide +kernel
theorem dX10_both_41 : decode cX10_both 41 = .ok (.iconst 0, 1) := by decide +kernel
theorem dX10_both_42 : decode cX10_both 42 = .ok (.istore_n 1, 1) := by decide +kernel
theorem dX10_both_43 : decode cX10_both 43 = .ok (.goto (-38), 3) := by decide +kernel
theorem dX10_both_46 : decode cX10_both 46 = .ok (.iload_n 1, 1) := by decide +kernel
theorem dX10_both_47 : decode cX10_both 47 = .ok (.ireturn, 1) := by decide +kernel
theorem dX10_any_0 : decode cX10_any 0 = .ok (.aload_n 0, 1) := by decide +kernel
theorem dX10_any_1 : decode cX10_any 1 = .ok (.invokevirtual 185, 3) := by decide +kernel
theorem dX10_any_4 : decode cX10_any 4 = .ok (.istore_n 1, 1) := by decide +kernel
theorem dX10_any_5 : decode cX10_any 5 = .ok (.aload_n 0, 1) := by decide +kernel
theorem dX10_any_6 : decode cX10_any 6 = .ok (.bipush 124, 2) := by decide +kernel
theorem dX10_any_8 : decode cX10_any 8 = .ok (.invokevirtual 164, 3) := by decide +kernel
theorem dX10_any_11 : decode cX10_any 11 = .ok (.ifCond .eq 35, 3) := by decide +kernel
theorem dX10_any_14 : decode cX10_any 14 = .ok (.aload_n 0, 1) := by decide +kernel
theorem dX10_any_15 : decode cX10_any 15 = .ok (.dup, 1) := by decide +kernel
theorem dX10_any_16 : decode cX10_any 16 = .ok (.getfield 148, 3) := by decide +kernel
theorem dX10_any_19 : decode cX10_any 19 = .ok (.iconst 1, 1) := by decide +kernel
theorem dX10_any_20 : decode cX10_any 20 = .ok (.iadd, 1) := by decide +kernel
theorem dX10_any_21 : decode cX10_any 21 = .ok (.putfield 148, 3) := by decide +kernel
theorem dX10_any_24 : decode cX10_any 24 = .ok (.aload_n 0, 1) := by decide +kernel
theorem dX10_any_25 : decode cX10_any 25 = .ok (.invokevirtual 185, 3) := by decide +kernel
theorem dX10_any_28 : decode cX10_any 28 = .ok (.istore_n 2, 1) := by decide +kernel
theorem dX10_any_29 : decode cX10_any 29 = .ok (.iload_n 1, 1) := by decide +kernel
theorem dX10_any_30 : decode cX10_any 30 = .ok (.ifCond .ne 7, 3) := by decide +kernel
theorem dX10_any_33 : decode cX10_any 33 = .ok (.iload_n 2, 1) := by decide +kernel
theorem dX10_any_34 : decode cX10_any 34 = .ok (.ifCond .eq 7, 3) := by decide +kernel
theorem dX10_any_37 : decode cX10_any 37 = .ok (.iconst 1, 1) := by decide +kernel
theorem dX10_any_38 : decode cX10_any 38 = .ok (.goto 4, 3) := by decide +kernel
theorem dX10_any_41 : decode cX10_any 41 = .ok (.iconst 0, 1) := by decide +kernel
theorem dX10_any_42 : decode cX10_any 42 = .ok (.istore_n 1, 1) := by decide +kernel
theorem dX10_any_43 : decode cX10_any 43 = .ok (.goto (-38), 3) := by decide +kernel
theorem dX10_any_46 : decode cX10_any 46 = .ok (.iload_n 1, 1) := by decide +kernel
theorem dX10_any_47 : decode cX10_any 47 = .ok (.ireturn, 1) := by decide +kernel
theorem dX10_gives_0 : decode cX10_gives 0 = .ok (.aload_n 0, 1) := by decide +kernel
theorem dX10_gives_1 : decode cX10_gives 1 = .ok (.iconst 0, 1) := by decide +kernel
theorem dX10_gives_2 : decode cX10_gives 2 = .ok (.putfield 148, 3) := by decide +kernel
theorem dX10_gives_5 : decode cX10_gives 5 = .ok (.aload_n 0, 1) := by decide +kernel
theorem dX10_gives_6 : decode cX10_gives 6 = .ok (.iconst 1, 1) := by decide +kernel
theorem dX10_gives_7 : decode cX10_gives 7 = .ok (.putfield 144, 3) := by decide +kernel
theorem dX10_gives_10 : decode cX10_gives 10 = .ok (.aload_n 0, 1) := by decide +kernel
theorem dX10_gives_11 : decode cX10_gives 11 = .ok (.iconst 0, 1) := by decide +kernel
theorem dX10_gives_12 : decode cX10_gives 12 = .ok (.putfield 158, 3) := by decide +kernel
theorem dX10_gives_15 : decode cX10_gives 15 = .ok (.iconst 0, 1) := by decide +kernel
theorem dX10_gives_16 : decode cX10_gives 16 = .ok (.istore_n 1, 1) := by decide +kernel
theorem dX10_gives_17 : decode cX10_gives 17 = .ok (.iconst 0, 1) := by decide +kernel
theorem dX10_gives_18 : decode cX10_gives 18 = .ok (.istore_n 2, 1) := by decide +kernel
theorem dX10_gives_19 : decode cX10_gives 19 = .ok (.iconst 1, 1) := by decide +kernel
theorem dX10_gives_20 : decode cX10_gives 20 = .ok (.istore_n 3, 1) := by decide +kernel
theorem dX10_gives_21 : decode cX10_gives 21 = .ok (.iload_n 3, 1) := by decide +kernel
theorem dX10_gives_22 : decode cX10_gives 22 = .ok (.ifCond .eq 108, 3) := by decide +kernel
theorem dX10_gives_25 : decode cX10_gives 25 = .ok (.aload_n 0, 1) := by decide +kernel
theorem dX10_gives_26 : decode cX10_gives 26 = .ok (.invokevirtual 173, 3) := by decide +kernel
theorem dX10_gives_29 : decode cX10_gives 29 = .ok (.istore 4, 2) := by decide +kernel
theorem dX10_gives_31 : decode cX10_gives 31 = .ok (.iconst 1, 1) := by decide +kernel
theorem dX10_gives_32 : decode cX10_gives 32 = .ok (.istore 5, 2) := by decide +kernel
theorem dX10_gives_34 : decode cX10_gives 34 = .ok (.aload_n 0, 1) := by decide +kernel
theorem dX10_gives_35 : decode cX10_gives 35 = .ok (.bipush 63, 2) := by decide +kernel
theorem dX10_gives_37 : decode cX10_gives 37 = .ok (.invokevirtual 164, 3) := by decide +kernel
theorem dX10_gives_40 : decode cX10_gives 40 = .ok (.ifCond .eq 31, 3) := by decide +kernel
theorem dX10_gives_43 : decode cX10_gives 43 = .ok (.aload_n 0, 1) := by decide +kernel
theorem dX10_gives_44 : decode cX10_gives 44 = .ok (.dup, 1) := by decide +kernel
theorem dX10_gives_45 : decode cX10_gives 45 = .ok (.getfield 148, 3) := by decide +kernel
theorem dX10_gives_48 : decode cX10_gives 48 = .ok (.iconst 1, 1) := by decide +kernel
theorem dX10_gives_49 : decode cX10_gives 49 = .ok (.iadd, 1) := by decide +kernel
theorem dX10_gives_50 : decode cX10_gives 50 = .ok (.putfield 148, 3) := by decide +kernel
theorem dX10_gives_53 : decode cX10_gives 53 = .ok (.iload 4, 2) := by decide +kernel
theorem dX10_gives_55 : decode cX10_gives 55 = .ok (.ifCond .eq 7, 3) := by decide +kernel
theorem dX10_gives_58 : decode cX10_gives 58 = .ok (.iconst 1, 1) := by decide +kernel
theorem dX10_gives_59 : decode cX10_gives 59 = .ok (.goto 4, 3) := by decide +kernel
theorem dX10_gives_62 : decode cX10_gives 62 = .ok (.iconst 0, 1) := by decide +kernel
theorem dX10_gives_63 : decode cX10_gives 63 = .ok (.istore 5, 2) := by decide +kernel
theorem dX10_gives_65 : decode cX10_gives 65 = .ok (.aload_n 0, 1) := by decide +kernel
theorem dX10_gives_66 : decode cX10_gives 66 = .ok (.invokevirtual 173, 3) := by decide +kernel
theorem dX10_gives_69 : decode cX10_gives 69 = .ok (.istore 4, 2) := by decide +kernel
theorem dX10_gives_71 : decode cX10_gives 71 = .ok (.iload 5, 2) := by decide +kernel
theorem dX10_gives_73 : decode cX10_gives 73 = .ok (.ifCond .eq 12, 3) := by decide +kernel
theorem dX10_gives_76 : decode cX10_gives 76 = .ok (.iload_n 2, 1) := by decide +kernel
theorem dX10_gives_77 : decode cX10_gives 77 = .ok (.ifCond .ne 8, 3) := by decide +kernel
theorem dX10_gives_80 : decode cX10_gives 80 = .ok (.iload 4, 2) := by decide +kernel
theorem dX10_gives_82 : decode cX10_gives 82 = .ok (.goto 4, 3) := by decide +kernel
theorem dX10_gives_85 : decode cX10_gives 85 = .ok (.iload_n 1, 1) := by decide +kernel
theorem dX10_gives_86 : decode cX10_gives 86 = .ok (.istore_n 1, 1) := by decide +kernel
theorem dX10_gives_87 : decode cX10_gives 87 = .ok (.iload_n 2, 1) := by decide +kernel
theorem dX10_gives_88 : decode cX10_gives 88 = .ok (.ifCond .ne 8, 3) := by decide +kernel
theorem dX10_gives_91 : decode cX10_gives 91 = .ok (.iload 5, 2) := by decide +kernel
theorem dX10_gives_93 : decode cX10_gives 93 = .ok (.ifCond .eq 7, 3) := by decide +kernel
theorem dX10_gives_96 : decode cX10_gives 96 = .ok (.iconst 1, 1) := by decide +kernel
theorem dX10_gives_97 : decode cX10_gives 97 = .ok (.goto 4, 3) := by decide +kernel
theorem dX10_gives_100 : decode cX10_gives 100 = .ok (.iconst 0, 1) := by decide +kernel
theorem dX10_gives_101 : decode cX10_gives 101 = .ok (.istore_n 2, 1) := by decide +kernel
theorem dX10_gives_102 : decode cX10_gives 102 = .ok (.aload_n 0, 1) := by decide +kernel
theorem dX10_gives_103 : decode cX10_gives 103 = .ok (.bipush 59, 2) := by decide +kernel
theorem dX10_gives_105 : decode cX10_gives 105 = .ok (.invokevirtual 164, 3) := by decide +kernel
theorem dX10_gives_108 : decode cX10_gives 108 = .ok (.istore_n 3, 1) := by decide +kernel
theorem dX10_gives_109 : decode cX10_gives 109 = .ok (.aload_n 0, 1) := by decide +kernel
theorem dX10_gives_110 : decode cX10_gives 110 = .ok (.dup, 1) := by decide +kernel
theorem dX10_gives_111 : decode cX10_gives 111 = .ok (.getfield 148, 3) := by decide +kernel
theorem dX10_gives_114 : decode cX10_gives 114 = .ok (.iload_n 3, 1) := by decide +kernel
theorem dX10_gives_115 : decode cX10_gives 115 = .ok (.ifCond .eq 7, 3) := by decide +kernel
theorem dX10_gives_118 : decode cX10_gives 118 = .ok (.iconst 1, 1) := by decide +kernel
theorem dX10_gives_119 : decode cX10_gives 119 = .ok (.goto 4, 3) := by decide +kernel
theorem dX10_gives_122 : decode cX10_gives 122 = .ok (.iconst 0, 1) := by decide +kernel
theorem dX10_gives_123 : decode cX10_gives 123 = .ok (.iadd, 1) := by decide +kernel
theorem dX10_gives_124 : decode cX10_gives 124 = .ok (.putfield 148, 3) := by decide +kernel
theorem dX10_gives_127 : decode cX10_gives 127 = .ok (.goto (-106), 3) := by decide +kernel
theorem dX10_gives_130 : decode cX10_gives 130 = .ok (.iload_n 1, 1) := by decide +kernel
theorem dX10_gives_131 : decode cX10_gives 131 = .ok (.ireturn, 1) := by decide +kernel
theorem dX10_law_0 : decode cX10_law 0 = .ok (.aload_n 0, 1) := by decide +kernel
theorem dX10_law_1 : decode cX10_law 1 = .ok (.aload_n 0, 1) := by decide +kernel
theorem dX10_law_2 : decode cX10_law 2 = .ok (.getfield 141, 3) := by decide +kernel
theorem dX10_law_5 : decode cX10_law 5 = .ok (.putfield 151, 3) := by decide +kernel
theorem dX10_law_8 : decode cX10_law 8 = .ok (.iconst 0, 1) := by decide +kernel
theorem dX10_law_9 : decode cX10_law 9 = .ok (.istore_n 1, 1) := by decide +kernel
theorem dX10_law_10 : decode cX10_law 10 = .ok (.iload_n 1, 1) := by decide +kernel
theorem dX10_law_11 : decode cX10_law 11 = .ok (.aload_n 0, 1) := by decide +kernel
theorem dX10_law_12 : decode cX10_law 12 = .ok (.getfield 151, 3) := by decide +kernel
theorem dX10_law_15 : decode cX10_law 15 = .ok (.if_icmp .ge 21, 3) := by decide +kernel
theorem dX10_law_18 : decode cX10_law 18 = .ok (.aload_n 0, 1) := by decide +kernel
theorem dX10_law_19 : decode cX10_law 19 = .ok (.getfield 37, 3) := by decide +kernel
theorem dX10_law_22 : decode cX10_law 22 = .ok (.iload_n 1, 1) := by decide +kernel
theorem dX10_law_23 : decode cX10_law 23 = .ok (.aload_n 0, 1) := by decide +kernel
theorem dX10_law_24 : decode cX10_law 24 = .ok (.getfield 31, 3) := by decide +kernel
theorem dX10_law_27 : decode cX10_law 27 = .ok (.iload_n 1, 1) := by decide +kernel
theorem dX10_law_28 : decode cX10_law 28 = .ok (.iaload, 1) := by decide +kernel
theorem dX10_law_29 : decode cX10_law 29 = .ok (.iastore, 1) := by decide +kernel
theorem dX10_law_30 : decode cX10_law 30 = .ok (.iinc 1 1, 3) := by decide +kernel
theorem dX10_law_33 : decode cX10_law 33 = .ok (.goto (-23), 3) := by decide +kernel
theorem dX10_law_36 : decode cX10_law 36 = .ok (.aload_n 0, 1) := by decide +kernel
theorem dX10_law_37 : decode cX10_law 37 = .ok (.iconst 0, 1) := by decide +kernel
theorem dX10_law_38 : decode cX10_law 38 = .ok (.putfield 141, 3) := by decide +kernel
theorem dX10_law_41 : decode cX10_law 41 = .ok (.iconst 0, 1) := by decide +kernel
theorem dX10_law_42 : decode cX10_law 42 = .ok (.istore_n 1, 1) := by decide +kernel
theorem dX10_law_43 : decode cX10_law 43 = .ok (.iload_n 1, 1) := by decide +kernel
theorem dX10_law_44 : decode cX10_law 44 = .ok (.bipush 6, 2) := by decide +kernel
theorem dX10_law_46 : decode cX10_law 46 = .ok (.if_icmp .ge 16, 3) := by decide +kernel
theorem dX10_law_49 : decode cX10_law 49 = .ok (.aload_n 0, 1) := by decide +kernel
theorem dX10_law_50 : decode cX10_law 50 = .ok (.getfield 40, 3) := by decide +kernel
theorem dX10_law_53 : decode cX10_law 53 = .ok (.iload_n 1, 1) := by decide +kernel
theorem dX10_law_54 : decode cX10_law 54 = .ok (.iconst 0, 1) := by decide +kernel
theorem dX10_law_55 : decode cX10_law 55 = .ok (.iastore, 1) := by decide +kernel
theorem dX10_law_56 : decode cX10_law 56 = .ok (.iinc 1 1, 3) := by decide +kernel
theorem dX10_law_59 : decode cX10_law 59 = .ok (.goto (-16), 3) := by decide +kernel
theorem dX10_law_62 : decode cX10_law 62 = .ok (.aload_n 0, 1) := by decide +kernel
theorem dX10_law_63 : decode cX10_law 63 = .ok (.invokevirtual 188, 3) := by decide +kernel
theorem dX10_law_66 : decode cX10_law 66 = .ok (.pop, 1) := by decide +kernel
theorem dX10_law_67 : decode cX10_law 67 = .ok (.aload_n 0, 1) := by decide +kernel
theorem dX10_law_68 : decode cX10_law 68 = .ok (.getfield 144, 3) := by decide +kernel
theorem dX10_law_71 : decode cX10_law 71 = .ok (.ifCond .eq 14, 3) := by decide +kernel
theorem dX10_law_74 : decode cX10_law 74 = .ok (.aload_n 0, 1) := by decide +kernel
theorem dX10_law_75 : decode cX10_law 75 = .ok (.getfield 148, 3) := by decide +kernel
theorem dX10_law_78 : decode cX10_law 78 = .ok (.aload_n 0, 1) := by decide +kernel
theorem dX10_law_79 : decode cX10_law 79 = .ok (.getfield 151, 3) := by decide +kernel
theorem dX10_law_82 : decode cX10_law 82 = .ok (.if_icmp .ge 11, 3) := by decide +kernel
theorem dX10_law_85 : decode cX10_law 85 = .ok (.bipush (-100), 2) := by decide +kernel
theorem dX10_law_87 : decode cX10_law 87 = .ok (.aload_n 0, 1) := by decide +kernel
theorem dX10_law_88 : decode cX10_law 88 = .ok (.getfield 148, 3) := by decide +kernel
theorem dX10_law_91 : decode cX10_law 91 = .ok (.isub, 1) := by decide +kernel
theorem dX10_law_92 : decode cX10_law 92 = .ok (.ireturn, 1) := by decide +kernel
theorem dX10_law_93 : decode cX10_law 93 = .ok (.iconst 0, 1) := by decide +kernel
theorem dX10_law_94 : decode cX10_law 94 = .ok (.istore_n 1, 1) := by decide +kernel
theorem dX10_law_95 : decode cX10_law 95 = .ok (.iload_n 1, 1) := by decide +kernel
theorem dX10_law_96 : decode cX10_law 96 = .ok (.aload_n 0, 1) := by decide +kernel
theorem dX10_law_97 : decode cX10_law 97 = .ok (.getfield 151, 3) := by decide +kernel
theorem dX10_law_100 : decode cX10_law 100 = .ok (.if_icmp .ge 21, 3) := by decide +kernel
theorem dX10_law_103 : decode cX10_law 103 = .ok (.aload_n 0, 1) := by decide +kernel
theorem dX10_law_104 : decode cX10_law 104 = .ok (.getfield 34, 3) := by decide +kernel
theorem dX10_law_107 : decode cX10_law 107 = .ok (.iload_n 1, 1) := by decide +kernel
theorem dX10_law_108 : decode cX10_law 108 = .ok (.aload_n 0, 1) := by decide +kernel
theorem dX10_law_109 : decode cX10_law 109 = .ok (.getfield 37, 3) := by decide +kernel
theorem dX10_law_112 : decode cX10_law 112 = .ok (.iload_n 1, 1) := by decide +kernel
theorem dX10_law_113 : decode cX10_law 113 = .ok (.iaload, 1) := by decide +kernel
theorem dX10_law_114 : decode cX10_law 114 = .ok (.iastore, 1) := by decide +kernel
theorem dX10_law_115 : decode cX10_law 115 = .ok (.iinc 1 1, 3) := by decide +kernel
theorem dX10_law_118 : decode cX10_law 118 = .ok (.goto (-23), 3) := by decide +kernel
theorem dX10_law_121 : decode cX10_law 121 = .ok (.aload_n 0, 1) := by decide +kernel
theorem dX10_law_122 : decode cX10_law 122 = .ok (.aload_n 0, 1) := by decide +kernel
theorem dX10_law_123 : decode cX10_law 123 = .ok (.getfield 151, 3) := by decide +kernel
theorem dX10_law_126 : decode cX10_law 126 = .ok (.putfield 191, 3) := by decide +kernel
theorem dX10_law_129 : decode cX10_law 129 = .ok (.aload_n 0, 1) := by decide +kernel
theorem dX10_law_130 : decode cX10_law 130 = .ok (.iconst 1, 1) := by decide +kernel
theorem dX10_law_131 : decode cX10_law 131 = .ok (.putfield 194, 3) := by decide +kernel
theorem dX10_law_134 : decode cX10_law 134 = .ok (.iconst 1, 1) := by decide +kernel
theorem dX10_law_135 : decode cX10_law 135 = .ok (.ireturn, 1) := by decide +kernel
theorem dX10_left_0 : decode cX10_left 0 = .ok (.iconst 0, 1) := by decide +kernel
theorem dX10_left_1 : decode cX10_left 1 = .ok (.istore_n 1, 1) := by decide +kernel
theorem dX10_left_2 : decode cX10_left 2 = .ok (.iconst 0, 1) := by decide +kernel
theorem dX10_left_3 : decode cX10_left 3 = .ok (.istore_n 2, 1) := by decide +kernel
theorem dX10_left_4 : decode cX10_left 4 = .ok (.iload_n 2, 1) := by decide +kernel
theorem dX10_left_5 : decode cX10_left 5 = .ok (.aload_n 0, 1) := by decide +kernel
theorem dX10_left_6 : decode cX10_left 6 = .ok (.getfield 103, 3) := by decide +kernel
theorem dX10_left_9 : decode cX10_left 9 = .ok (.if_icmp .ge 25, 3) := by decide +kernel
theorem dX10_left_12 : decode cX10_left 12 = .ok (.iload_n 1, 1) := by decide +kernel
theorem dX10_left_13 : decode cX10_left 13 = .ok (.aload_n 0, 1) := by decide +kernel
theorem dX10_left_14 : decode cX10_left 14 = .ok (.iload_n 2, 1) := by decide +kernel
theorem dX10_left_15 : decode cX10_left 15 = .ok (.invokevirtual 197, 3) := by decide +kernel
theorem dX10_left_18 : decode cX10_left 18 = .ok (.ifCond .eq 7, 3) := by decide +kernel
theorem dX10_left_21 : decode cX10_left 21 = .ok (.iconst 1, 1) := by decide +kernel
theorem dX10_left_22 : decode cX10_left 22 = .ok (.goto 4, 3) := by decide +kernel
theorem dX10_left_25 : decode cX10_left 25 = .ok (.iconst 0, 1) := by decide +kernel
theorem dX10_left_26 : decode cX10_left 26 = .ok (.iadd, 1) := by decide +kernel
theorem dX10_left_27 : decode cX10_left 27 = .ok (.istore_n 1, 1) := by decide +kernel
theorem dX10_left_28 : decode cX10_left 28 = .ok (.iinc 2 1, 3) := by decide +kernel
theorem dX10_left_31 : decode cX10_left 31 = .ok (.goto (-27), 3) := by decide +kernel
theorem dX10_left_34 : decode cX10_left 34 = .ok (.iload_n 1, 1) := by decide +kernel
theorem dX10_left_35 : decode cX10_left 35 = .ok (.ireturn, 1) := by decide +kernel
theorem dX10_sorryBy_0 : decode cX10_sorryBy 0 = .ok (.aload_n 0, 1) := by decide +kernel
theorem dX10_sorryBy_1 : decode cX10_sorryBy 1 = .ok (.getfield 194, 3) := by decide +kernel
theorem dX10_sorryBy_4 : decode cX10_sorryBy 4 = .ok (.ifCond .ne 40, 3) := by decide +kernel
theorem dX10_sorryBy_7 : decode cX10_sorryBy 7 = .ok (.aload_n 0, 1) := by decide +kernel
theorem dX10_sorryBy_8 : decode cX10_sorryBy 8 = .ok (.iload_n 1, 1) := by decide +kernel
theorem dX10_sorryBy_9 : decode cX10_sorryBy 9 = .ok (.iconst 0, 1) := by decide +kernel
theorem dX10_sorryBy_10 : decode cX10_sorryBy 10 = .ok (.invokevirtual 110, 3) := by decide +kernel
theorem dX10_sorryBy_13 : decode cX10_sorryBy 13 = .ok (.iconst 2, 1) := by decide +kernel
theorem dX10_sorryBy_14 : decode cX10_sorryBy 14 = .ok (.aload_n 0, 1) := by decide +kernel
theorem dX10_sorryBy_15 : decode cX10_sorryBy 15 = .ok (.iload_n 1, 1) := by decide +kernel
theorem dX10_sorryBy_16 : decode cX10_sorryBy 16 = .ok (.iconst 2, 1) := by decide +kernel
theorem dX10_sorryBy_17 : decode cX10_sorryBy 17 = .ok (.invokevirtual 110, 3) := by decide +kernel
theorem dX10_sorryBy_20 : decode cX10_sorryBy 20 = .ok (.imul, 1) := by decide +kernel
theorem dX10_sorryBy_21 : decode cX10_sorryBy 21 = .ok (.iadd, 1) := by decide +kernel
theorem dX10_sorryBy_22 : decode cX10_sorryBy 22 = .ok (.aload_n 0, 1) := by decide +kernel
theorem dX10_sorryBy_23 : decode cX10_sorryBy 23 = .ok (.iload_n 1, 1) := by decide +kernel
theorem dX10_sorryBy_24 : decode cX10_sorryBy 24 = .ok (.iconst 3, 1) := by decide +kernel
theorem dX10_sorryBy_25 : decode cX10_sorryBy 25 = .ok (.invokevirtual 110, 3) := by decide +kernel
theorem dX10_sorryBy_28 : decode cX10_sorryBy 28 = .ok (.ifCond .ne 7, 3) := by decide +kernel
theorem dX10_sorryBy_31 : decode cX10_sorryBy 31 = .ok (.iconst 5, 1) := by decide +kernel
theorem dX10_sorryBy_32 : decode cX10_sorryBy 32 = .ok (.goto 4, 3) := by decide +kernel
theorem dX10_sorryBy_35 : decode cX10_sorryBy 35 = .ok (.iconst 0, 1) := by decide +kernel
theorem dX10_sorryBy_36 : decode cX10_sorryBy 36 = .ok (.isub, 1) := by decide +kernel
theorem dX10_sorryBy_37 : decode cX10_sorryBy 37 = .ok (.iconst 0, 1) := by decide +kernel
theorem dX10_sorryBy_38 : decode cX10_sorryBy 38 = .ok (.bipush 99, 2) := by decide +kernel
theorem dX10_sorryBy_40 : decode cX10_sorryBy 40 = .ok (.invokestatic 200, 3) := by decide +kernel
theorem dX10_sorryBy_43 : decode cX10_sorryBy 43 = .ok (.ireturn, 1) := by decide +kernel
theorem dX10_sorryBy_44 : decode cX10_sorryBy 44 = .ok (.aload_n 0, 1) := by decide +kernel
theorem dX10_sorryBy_45 : decode cX10_sorryBy 45 = .ok (.getfield 40, 3) := by decide +kernel
theorem dX10_sorryBy_48 : decode cX10_sorryBy 48 = .ok (.iconst 0, 1) := by decide +kernel
theorem dX10_sorryBy_49 : decode cX10_sorryBy 49 = .ok (.aload_n 0, 1) := by decide +kernel
theorem dX10_sorryBy_50 : decode cX10_sorryBy 50 = .ok (.iload_n 1, 1) := by decide +kernel
theorem dX10_sorryBy_51 : decode cX10_sorryBy 51 = .ok (.iconst 0, 1) := by decide +kernel
theorem dX10_sorryBy_52 : decode cX10_sorryBy 52 = .ok (.invokevirtual 110, 3) := by decide +kernel
theorem dX10_sorryBy_55 : decode cX10_sorryBy 55 = .ok (.iastore, 1) := by decide +kernel
theorem dX10_sorryBy_56 : decode cX10_sorryBy 56 = .ok (.aload_n 0, 1) := by decide +kernel
theorem dX10_sorryBy_57 : decode cX10_sorryBy 57 = .ok (.getfield 40, 3) := by decide +kernel
theorem dX10_sorryBy_60 : decode cX10_sorryBy 60 = .ok (.iconst 1, 1) := by decide +kernel
theorem dX10_sorryBy_61 : decode cX10_sorryBy 61 = .ok (.aload_n 0, 1) := by decide +kernel
theorem dX10_sorryBy_62 : decode cX10_sorryBy 62 = .ok (.iload_n 1, 1) := by decide +kernel
theorem dX10_sorryBy_63 : decode cX10_sorryBy 63 = .ok (.iconst 2, 1) := by decide +kernel
theorem dX10_sorryBy_64 : decode cX10_sorryBy 64 = .ok (.invokevirtual 110, 3) := by decide +kernel
theorem dX10_sorryBy_67 : decode cX10_sorryBy 67 = .ok (.iastore, 1) := by decide +kernel
theorem dX10_sorryBy_68 : decode cX10_sorryBy 68 = .ok (.aload_n 0, 1) := by decide +kernel
theorem dX10_sorryBy_69 : decode cX10_sorryBy 69 = .ok (.getfield 40, 3) := by decide +kernel
theorem dX10_sorryBy_72 : decode cX10_sorryBy 72 = .ok (.iconst 2, 1) := by decide +kernel
theorem dX10_sorryBy_73 : decode cX10_sorryBy 73 = .ok (.aload_n 0, 1) := by decide +kernel
theorem dX10_sorryBy_74 : decode cX10_sorryBy 74 = .ok (.iload_n 1, 1) := by decide +kernel
theorem dX10_sorryBy_75 : decode cX10_sorryBy 75 = .ok (.iconst 3, 1) := by decide +kernel
theorem dX10_sorryBy_76 : decode cX10_sorryBy 76 = .ok (.invokevirtual 110, 3) := by decide +kernel
theorem dX10_sorryBy_79 : decode cX10_sorryBy 79 = .ok (.iastore, 1) := by decide +kernel
theorem dX10_sorryBy_80 : decode cX10_sorryBy 80 = .ok (.aload_n 0, 1) := by decide +kernel
theorem dX10_sorryBy_81 : decode cX10_sorryBy 81 = .ok (.getfield 40, 3) := by decide +kernel
theorem dX10_sorryBy_84 : decode cX10_sorryBy 84 = .ok (.iconst 3, 1) := by decide +kernel
theorem dX10_sorryBy_85 : decode cX10_sorryBy 85 = .ok (.aload_n 0, 1) := by decide +kernel
theorem dX10_sorryBy_86 : decode cX10_sorryBy 86 = .ok (.getfield 7, 3) := by decide +kernel
theorem dX10_sorryBy_89 : decode cX10_sorryBy 89 = .ok (.bipush 93, 2) := by decide +kernel
theorem dX10_sorryBy_91 : decode cX10_sorryBy 91 = .ok (.iaload, 1) := by decide +kernel
theorem dX10_sorryBy_92 : decode cX10_sorryBy 92 = .ok (.iastore, 1) := by decide +kernel
theorem dX10_sorryBy_93 : decode cX10_sorryBy 93 = .ok (.aload_n 0, 1) := by decide +kernel
theorem dX10_sorryBy_94 : decode cX10_sorryBy 94 = .ok (.getfield 40, 3) := by decide +kernel
theorem dX10_sorryBy_97 : decode cX10_sorryBy 97 = .ok (.iconst 4, 1) := by decide +kernel
theorem dX10_sorryBy_98 : decode cX10_sorryBy 98 = .ok (.aload_n 0, 1) := by decide +kernel
theorem dX10_sorryBy_99 : decode cX10_sorryBy 99 = .ok (.invokevirtual 203, 3) := by decide +kernel
theorem dX10_sorryBy_102 : decode cX10_sorryBy 102 = .ok (.iastore, 1) := by decide +kernel
theorem dX10_sorryBy_103 : decode cX10_sorryBy 103 = .ok (.aload_n 0, 1) := by decide +kernel
theorem dX10_sorryBy_104 : decode cX10_sorryBy 104 = .ok (.getfield 40, 3) := by decide +kernel
theorem dX10_sorryBy_107 : decode cX10_sorryBy 107 = .ok (.iconst 5, 1) := by decide +kernel
theorem dX10_sorryBy_108 : decode cX10_sorryBy 108 = .ok (.iload_n 1, 1) := by decide +kernel
theorem dX10_sorryBy_109 : decode cX10_sorryBy 109 = .ok (.iastore, 1) := by decide +kernel
theorem dX10_sorryBy_110 : decode cX10_sorryBy 110 = .ok (.aload_n 0, 1) := by decide +kernel
theorem dX10_sorryBy_111 : decode cX10_sorryBy 111 = .ok (.aload_n 0, 1) := by decide +kernel
theorem dX10_sorryBy_112 : decode cX10_sorryBy 112 = .ok (.getfield 191, 3) := by decide +kernel
theorem dX10_sorryBy_115 : decode cX10_sorryBy 115 = .ok (.putfield 151, 3) := by decide +kernel
theorem dX10_sorryBy_118 : decode cX10_sorryBy 118 = .ok (.iconst 0, 1) := by decide +kernel
theorem dX10_sorryBy_119 : decode cX10_sorryBy 119 = .ok (.istore_n 2, 1) := by decide +kernel
theorem dX10_sorryBy_120 : decode cX10_sorryBy 120 = .ok (.iload_n 2, 1) := by decide +kernel
theorem dX10_sorryBy_121 : decode cX10_sorryBy 121 = .ok (.aload_n 0, 1) := by decide +kernel
theorem dX10_sorryBy_122 : decode cX10_sorryBy 122 = .ok (.getfield 151, 3) := by decide +kernel
theorem dX10_sorryBy_125 : decode cX10_sorryBy 125 = .ok (.if_icmp .ge 21, 3) := by decide +kernel
theorem dX10_sorryBy_128 : decode cX10_sorryBy 128 = .ok (.aload_n 0, 1) := by decide +kernel
theorem dX10_sorryBy_129 : decode cX10_sorryBy 129 = .ok (.getfield 37, 3) := by decide +kernel
theorem dX10_sorryBy_132 : decode cX10_sorryBy 132 = .ok (.iload_n 2, 1) := by decide +kernel
theorem dX10_sorryBy_133 : decode cX10_sorryBy 133 = .ok (.aload_n 0, 1) := by decide +kernel
theorem dX10_sorryBy_134 : decode cX10_sorryBy 134 = .ok (.getfield 34, 3) := by decide +kernel
theorem dX10_sorryBy_137 : decode cX10_sorryBy 137 = .ok (.iload_n 2, 1) := by decide +kernel
theorem dX10_sorryBy_138 : decode cX10_sorryBy 138 = .ok (.iaload, 1) := by decide +kernel
theorem dX10_sorryBy_139 : decode cX10_sorryBy 139 = .ok (.iastore, 1) := by decide +kernel
theorem dX10_sorryBy_140 : decode cX10_sorryBy 140 = .ok (.iinc 2 1, 3) := by decide +kernel
theorem dX10_sorryBy_143 : decode cX10_sorryBy 143 = .ok (.goto (-23), 3) := by decide +kernel
theorem dX10_sorryBy_146 : decode cX10_sorryBy 146 = .ok (.aload_n 0, 1) := by decide +kernel
theorem dX10_sorryBy_147 : decode cX10_sorryBy 147 = .ok (.invokevirtual 188, 3) := by decide +kernel
theorem dX10_sorryBy_150 : decode cX10_sorryBy 150 = .ok (.iconst 0, 1) := by decide +kernel
theorem dX10_sorryBy_151 : decode cX10_sorryBy 151 = .ok (.bipush 99, 2) := by decide +kernel
theorem dX10_sorryBy_153 : decode cX10_sorryBy 153 = .ok (.invokestatic 200, 3) := by decide +kernel
theorem dX10_sorryBy_156 : decode cX10_sorryBy 156 = .ok (.ireturn, 1) := by decide +kernel
theorem dX10_goMinute_0 : decode cX10_goMinute 0 = .ok (.iconst 0, 1) := by decide +kernel
theorem dX10_goMinute_1 : decode cX10_goMinute 1 = .ok (.istore_n 1, 1) := by decide +kernel
theorem dX10_goMinute_2 : decode cX10_goMinute 2 = .ok (.iload_n 1, 1) := by decide +kernel
theorem dX10_goMinute_3 : decode cX10_goMinute 3 = .ok (.aload_n 0, 1) := by decide +kernel
theorem dX10_goMinute_4 : decode cX10_goMinute 4 = .ok (.getfield 103, 3) := by decide +kernel
theorem dX10_goMinute_7 : decode cX10_goMinute 7 = .ok (.if_icmp .ge 143, 3) := by decide +kernel
theorem dX10_goMinute_10 : decode cX10_goMinute 10 = .ok (.aload_n 0, 1) := by decide +kernel
theorem dX10_goMinute_11 : decode cX10_goMinute 11 = .ok (.iload_n 1, 1) := by decide +kernel
theorem dX10_goMinute_12 : decode cX10_goMinute 12 = .ok (.invokevirtual 197, 3) := by decide +kernel
theorem dX10_goMinute_15 : decode cX10_goMinute 15 = .ok (.ifCond .eq 129, 3) := by decide +kernel
theorem dX10_goMinute_18 : decode cX10_goMinute 18 = .ok (.aload_n 0, 1) := by decide +kernel
theorem dX10_goMinute_19 : decode cX10_goMinute 19 = .ok (.iload_n 1, 1) := by decide +kernel
theorem dX10_goMinute_20 : decode cX10_goMinute 20 = .ok (.iconst 0, 1) := by decide +kernel
theorem dX10_goMinute_21 : decode cX10_goMinute 21 = .ok (.invokevirtual 110, 3) := by decide +kernel
theorem dX10_goMinute_24 : decode cX10_goMinute 24 = .ok (.aload_n 0, 1) := by decide +kernel
theorem dX10_goMinute_25 : decode cX10_goMinute 25 = .ok (.iload_n 1, 1) := by decide +kernel
theorem dX10_goMinute_26 : decode cX10_goMinute 26 = .ok (.iconst 1, 1) := by decide +kernel
theorem dX10_goMinute_27 : decode cX10_goMinute 27 = .ok (.invokevirtual 110, 3) := by decide +kernel
theorem dX10_goMinute_30 : decode cX10_goMinute 30 = .ok (.isub, 1) := by decide +kernel
theorem dX10_goMinute_31 : decode cX10_goMinute 31 = .ok (.istore_n 2, 1) := by decide +kernel
theorem dX10_goMinute_32 : decode cX10_goMinute 32 = .ok (.iconst 0, 1) := by decide +kernel
theorem dX10_goMinute_33 : decode cX10_goMinute 33 = .ok (.istore_n 3, 1) := by decide +kernel
theorem dX10_goMinute_34 : decode cX10_goMinute 34 = .ok (.iload_n 3, 1) := by decide +kernel
theorem dX10_goMinute_35 : decode cX10_goMinute 35 = .ok (.aload_n 0, 1) := by decide +kernel
theorem dX10_goMinute_36 : decode cX10_goMinute 36 = .ok (.getfield 121, 3) := by decide +kernel
theorem dX10_goMinute_39 : decode cX10_goMinute 39 = .ok (.if_icmp .ge 63, 3) := by decide +kernel
theorem dX10_goMinute_42 : decode cX10_goMinute 42 = .ok (.bipush 54, 2) := by decide +kernel
theorem dX10_goMinute_44 : decode cX10_goMinute 44 = .ok (.iconst 3, 1) := by decide +kernel
theorem dX10_goMinute_45 : decode cX10_goMinute 45 = .ok (.iload_n 3, 1) := by decide +kernel
theorem dX10_goMinute_46 : decode cX10_goMinute 46 = .ok (.imul, 1) := by decide +kernel
theorem dX10_goMinute_47 : decode cX10_goMinute 47 = .ok (.iadd, 1) := by decide +kernel
theorem dX10_goMinute_48 : decode cX10_goMinute 48 = .ok (.istore 4, 2) := by decide +kernel
theorem dX10_goMinute_50 : decode cX10_goMinute 50 = .ok (.iload_n 2, 1) := by decide +kernel
theorem dX10_goMinute_51 : decode cX10_goMinute 51 = .ok (.aload_n 0, 1) := by decide +kernel
theorem dX10_goMinute_52 : decode cX10_goMinute 52 = .ok (.getfield 7, 3) := by decide +kernel
theorem dX10_goMinute_55 : decode cX10_goMinute 55 = .ok (.iload 4, 2) := by decide +kernel
theorem dX10_goMinute_57 : decode cX10_goMinute 57 = .ok (.iaload, 1) := by decide +kernel
theorem dX10_goMinute_58 : decode cX10_goMinute 58 = .ok (.aload_n 0, 1) := by decide +kernel
theorem dX10_goMinute_59 : decode cX10_goMinute 59 = .ok (.getfield 7, 3) := by decide +kernel
theorem dX10_goMinute_62 : decode cX10_goMinute 62 = .ok (.bipush 93, 2) := by decide +kernel
theorem dX10_goMinute_64 : decode cX10_goMinute 64 = .ok (.iaload, 1) := by decide +kernel
theorem dX10_goMinute_65 : decode cX10_goMinute 65 = .ok (.if_icmp .ne 28, 3) := by decide +kernel
theorem dX10_goMinute_68 : decode cX10_goMinute 68 = .ok (.aload_n 0, 1) := by decide +kernel
theorem dX10_goMinute_69 : decode cX10_goMinute 69 = .ok (.getfield 7, 3) := by decide +kernel
theorem dX10_goMinute_72 : decode cX10_goMinute 72 = .ok (.iload 4, 2) := by decide +kernel
theorem dX10_goMinute_74 : decode cX10_goMinute 74 = .ok (.iconst 2, 1) := by decide +kernel
theorem dX10_goMinute_75 : decode cX10_goMinute 75 = .ok (.iadd, 1) := by decide +kernel
theorem dX10_goMinute_76 : decode cX10_goMinute 76 = .ok (.iaload, 1) := by decide +kernel
theorem dX10_goMinute_77 : decode cX10_goMinute 77 = .ok (.iload_n 1, 1) := by decide +kernel
theorem dX10_goMinute_78 : decode cX10_goMinute 78 = .ok (.if_icmp .ne 15, 3) := by decide +kernel
theorem dX10_goMinute_81 : decode cX10_goMinute 81 = .ok (.aload_n 0, 1) := by decide +kernel
theorem dX10_goMinute_82 : decode cX10_goMinute 82 = .ok (.getfield 7, 3) := by decide +kernel
theorem dX10_goMinute_85 : decode cX10_goMinute 85 = .ok (.iload 4, 2) := by decide +kernel
theorem dX10_goMinute_87 : decode cX10_goMinute 87 = .ok (.iconst 1, 1) := by decide +kernel
theorem dX10_goMinute_88 : decode cX10_goMinute 88 = .ok (.iadd, 1) := by decide +kernel
theorem dX10_goMinute_89 : decode cX10_goMinute 89 = .ok (.iaload, 1) := by decide +kernel
theorem dX10_goMinute_90 : decode cX10_goMinute 90 = .ok (.goto 4, 3) := by decide +kernel
theorem dX10_goMinute_93 : decode cX10_goMinute 93 = .ok (.iconst 0, 1) := by decide +kernel
theorem dX10_goMinute_94 : decode cX10_goMinute 94 = .ok (.iadd, 1) := by decide +kernel
theorem dX10_goMinute_95 : decode cX10_goMinute 95 = .ok (.istore_n 2, 1) := by decide +kernel
theorem dX10_goMinute_96 : decode cX10_goMinute 96 = .ok (.iinc 3 1, 3) := by decide +kernel
theorem dX10_goMinute_99 : decode cX10_goMinute 99 = .ok (.goto (-65), 3) := by decide +kernel
theorem dX10_goMinute_102 : decode cX10_goMinute 102 = .ok (.aload_n 0, 1) := by decide +kernel
theorem dX10_goMinute_103 : decode cX10_goMinute 103 = .ok (.getfield 47, 3) := by decide +kernel
theorem dX10_goMinute_106 : decode cX10_goMinute 106 = .ok (.iload_n 1, 1) := by decide +kernel
theorem dX10_goMinute_107 : decode cX10_goMinute 107 = .ok (.if_icmp .ne 24, 3) := by decide +kernel
theorem dX10_goMinute_110 : decode cX10_goMinute 110 = .ok (.aload_n 0, 1) := by decide +kernel
theorem dX10_goMinute_111 : decode cX10_goMinute 111 = .ok (.getfield 206, 3) := by decide +kernel
theorem dX10_goMinute_114 : decode cX10_goMinute 114 = .ok (.aload_n 0, 1) := by decide +kernel
theorem dX10_goMinute_115 : decode cX10_goMinute 115 = .ok (.getfield 7, 3) := by decide +kernel
theorem dX10_goMinute_118 : decode cX10_goMinute 118 = .ok (.bipush 93, 2) := by decide +kernel
theorem dX10_goMinute_120 : decode cX10_goMinute 120 = .ok (.iaload, 1) := by decide +kernel
theorem dX10_goMinute_121 : decode cX10_goMinute 121 = .ok (.if_icmp .ne 10, 3) := by decide +kernel
theorem dX10_goMinute_124 : decode cX10_goMinute 124 = .ok (.iload_n 2, 1) := by decide +kernel
theorem dX10_goMinute_125 : decode cX10_goMinute 125 = .ok (.aload_n 0, 1) := by decide +kernel
theorem dX10_goMinute_126 : decode cX10_goMinute 126 = .ok (.getfield 209, 3) := by decide +kernel
theorem dX10_goMinute_129 : decode cX10_goMinute 129 = .ok (.iadd, 1) := by decide +kernel
theorem dX10_goMinute_130 : decode cX10_goMinute 130 = .ok (.istore_n 2, 1) := by decide +kernel
theorem dX10_goMinute_131 : decode cX10_goMinute 131 = .ok (.aload_n 0, 1) := by decide +kernel
theorem dX10_goMinute_132 : decode cX10_goMinute 132 = .ok (.iload_n 1, 1) := by decide +kernel
theorem dX10_goMinute_133 : decode cX10_goMinute 133 = .ok (.iconst 0, 1) := by decide +kernel
theorem dX10_goMinute_134 : decode cX10_goMinute 134 = .ok (.iload_n 2, 1) := by decide +kernel
theorem dX10_goMinute_135 : decode cX10_goMinute 135 = .ok (.iconst 0, 1) := by decide +kernel
theorem dX10_goMinute_136 : decode cX10_goMinute 136 = .ok (.bipush 99, 2) := by decide +kernel
theorem dX10_goMinute_138 : decode cX10_goMinute 138 = .ok (.invokestatic 200, 3) := by decide +kernel
theorem dX10_goMinute_141 : decode cX10_goMinute 141 = .ok (.invokevirtual 113, 3) := by decide +kernel
theorem dX10_goMinute_144 : decode cX10_goMinute 144 = .ok (.iinc 1 1, 3) := by decide +kernel
theorem dX10_goMinute_147 : decode cX10_goMinute 147 = .ok (.goto (-145), 3) := by decide +kernel
theorem dX10_goMinute_150 : decode cX10_goMinute 150 = .ok (.aload_n 0, 1) := by decide +kernel
theorem dX10_goMinute_151 : decode cX10_goMinute 151 = .ok (.getfield 7, 3) := by decide +kernel
theorem dX10_goMinute_154 : decode cX10_goMinute 154 = .ok (.bipush 93, 2) := by decide +kernel
theorem dX10_goMinute_156 : decode cX10_goMinute 156 = .ok (.sipush 199, 3) := by decide +kernel
theorem dX10_goMinute_159 : decode cX10_goMinute 159 = .ok (.aload_n 0, 1) := by decide +kernel
theorem dX10_goMinute_160 : decode cX10_goMinute 160 = .ok (.getfield 7, 3) := by decide +kernel
theorem dX10_goMinute_163 : decode cX10_goMinute 163 = .ok (.bipush 93, 2) := by decide +kernel
theorem dX10_goMinute_165 : decode cX10_goMinute 165 = .ok (.iaload, 1) := by decide +kernel
theorem dX10_goMinute_166 : decode cX10_goMinute 166 = .ok (.iconst 1, 1) := by decide +kernel
theorem dX10_goMinute_167 : decode cX10_goMinute 167 = .ok (.iadd, 1) := by decide +kernel
theorem dX10_goMinute_168 : decode cX10_goMinute 168 = .ok (.invokestatic 94, 3) := by decide +kernel
theorem dX10_goMinute_171 : decode cX10_goMinute 171 = .ok (.iastore, 1) := by decide +kernel
theorem dX10_goMinute_172 : decode cX10_goMinute 172 = .ok (.return_, 1) := by decide +kernel
theorem dX10_goMinutes_0 : decode cX10_goMinutes 0 = .ok (.iconst 0, 1) := by decide +kernel
theorem dX10_goMinutes_1 : decode cX10_goMinutes 1 = .ok (.istore_n 2, 1) := by decide +kernel
theorem dX10_goMinutes_2 : decode cX10_goMinutes 2 = .ok (.iload_n 2, 1) := by decide +kernel
theorem dX10_goMinutes_3 : decode cX10_goMinutes 3 = .ok (.iload_n 1, 1) := by decide +kernel
theorem dX10_goMinutes_4 : decode cX10_goMinutes 4 = .ok (.if_icmp .ge 13, 3) := by decide +kernel
theorem dX10_goMinutes_7 : decode cX10_goMinutes 7 = .ok (.aload_n 0, 1) := by decide +kernel
theorem dX10_goMinutes_8 : decode cX10_goMinutes 8 = .ok (.invokevirtual 212, 3) := by decide +kernel
theorem dX10_goMinutes_11 : decode cX10_goMinutes 11 = .ok (.iinc 2 1, 3) := by decide +kernel
theorem dX10_goMinutes_14 : decode cX10_goMinutes 14 = .ok (.goto (-12), 3) := by decide +kernel
theorem dX10_goMinutes_17 : decode cX10_goMinutes 17 = .ok (.return_, 1) := by decide +kernel
theorem dX10_lay_0 : decode cX10_lay 0 = .ok (.iconst 0, 1) := by decide +kernel
theorem dX10_lay_1 : decode cX10_lay 1 = .ok (.istore_n 1, 1) := by decide +kernel
theorem dX10_lay_2 : decode cX10_lay 2 = .ok (.iconst 0, 1) := by decide +kernel
theorem dX10_lay_3 : decode cX10_lay 3 = .ok (.istore_n 2, 1) := by decide +kernel
theorem dX10_lay_4 : decode cX10_lay 4 = .ok (.iload_n 2, 1) := by decide +kernel
theorem dX10_lay_5 : decode cX10_lay 5 = .ok (.aload_n 0, 1) := by decide +kernel
theorem dX10_lay_6 : decode cX10_lay 6 = .ok (.getfield 103, 3) := by decide +kernel
theorem dX10_lay_9 : decode cX10_lay 9 = .ok (.if_icmp .ge 86, 3) := by decide +kernel
theorem dX10_lay_12 : decode cX10_lay 12 = .ok (.aload_n 0, 1) := by decide +kernel
theorem dX10_lay_13 : decode cX10_lay 13 = .ok (.getfield 54, 3) := by decide +kernel
theorem dX10_lay_16 : decode cX10_lay 16 = .ok (.iload_n 2, 1) := by decide +kernel
theorem dX10_lay_17 : decode cX10_lay 17 = .ok (.aload_n 0, 1) := by decide +kernel
theorem dX10_lay_18 : decode cX10_lay 18 = .ok (.iload_n 2, 1) := by decide +kernel
theorem dX10_lay_19 : decode cX10_lay 19 = .ok (.invokevirtual 215, 3) := by decide +kernel
theorem dX10_lay_22 : decode cX10_lay 22 = .ok (.iastore, 1) := by decide +kernel
theorem dX10_lay_23 : decode cX10_lay 23 = .ok (.aload_n 0, 1) := by decide +kernel
theorem dX10_lay_24 : decode cX10_lay 24 = .ok (.iload_n 2, 1) := by decide +kernel
theorem dX10_lay_25 : decode cX10_lay 25 = .ok (.invokevirtual 197, 3) := by decide +kernel
theorem dX10_lay_28 : decode cX10_lay 28 = .ok (.ifCond .eq 61, 3) := by decide +kernel
theorem dX10_lay_31 : decode cX10_lay 31 = .ok (.iload_n 1, 1) := by decide +kernel
theorem dX10_lay_32 : decode cX10_lay 32 = .ok (.istore_n 3, 1) := by decide +kernel
theorem dX10_lay_33 : decode cX10_lay 33 = .ok (.iload_n 3, 1) := by decide +kernel
theorem dX10_lay_34 : decode cX10_lay 34 = .ok (.ifCond .le 45, 3) := by decide +kernel
theorem dX10_lay_37 : decode cX10_lay 37 = .ok (.aload_n 0, 1) := by decide +kernel
theorem dX10_lay_38 : decode cX10_lay 38 = .ok (.getfield 54, 3) := by decide +kernel
theorem dX10_lay_41 : decode cX10_lay 41 = .ok (.aload_n 0, 1) := by decide +kernel
theorem dX10_lay_42 : decode cX10_lay 42 = .ok (.getfield 51, 3) := by decide +kernel
theorem dX10_lay_45 : decode cX10_lay 45 = .ok (.iload_n 3, 1) := by decide +kernel
theorem dX10_lay_46 : decode cX10_lay 46 = .ok (.iconst 1, 1) := by decide +kernel
theorem dX10_lay_47 : decode cX10_lay 47 = .ok (.isub, 1) := by decide +kernel
theorem dX10_lay_48 : decode cX10_lay 48 = .ok (.iaload, 1) := by decide +kernel
theorem dX10_lay_49 : decode cX10_lay 49 = .ok (.iaload, 1) := by decide +kernel
theorem dX10_lay_50 : decode cX10_lay 50 = .ok (.aload_n 0, 1) := by decide +kernel
theorem dX10_lay_51 : decode cX10_lay 51 = .ok (.getfield 54, 3) := by decide +kernel
theorem dX10_lay_54 : decode cX10_lay 54 = .ok (.iload_n 2, 1) := by decide +kernel
theorem dX10_lay_55 : decode cX10_lay 55 = .ok (.iaload, 1) := by decide +kernel
theorem dX10_lay_56 : decode cX10_lay 56 = .ok (.if_icmp .ge 23, 3) := by decide +kernel
theorem dX10_lay_59 : decode cX10_lay 59 = .ok (.aload_n 0, 1) := by decide +kernel
theorem dX10_lay_60 : decode cX10_lay 60 = .ok (.getfield 51, 3) := by decide +kernel
theorem dX10_lay_63 : decode cX10_lay 63 = .ok (.iload_n 3, 1) := by decide +kernel
theorem dX10_lay_64 : decode cX10_lay 64 = .ok (.aload_n 0, 1) := by decide +kernel
theorem dX10_lay_65 : decode cX10_lay 65 = .ok (.getfield 51, 3) := by decide +kernel
theorem dX10_lay_68 : decode cX10_lay 68 = .ok (.iload_n 3, 1) := by decide +kernel
theorem dX10_lay_69 : decode cX10_lay 69 = .ok (.iconst 1, 1) := by decide +kernel
theorem dX10_lay_70 : decode cX10_lay 70 = .ok (.isub, 1) := by decide +kernel
theorem dX10_lay_71 : decode cX10_lay 71 = .ok (.iaload, 1) := by decide +kernel
theorem dX10_lay_72 : decode cX10_lay 72 = .ok (.iastore, 1) := by decide +kernel
theorem dX10_lay_73 : decode cX10_lay 73 = .ok (.iinc 3 (-1), 3) := by decide +kernel
theorem dX10_lay_76 : decode cX10_lay 76 = .ok (.goto (-43), 3) := by decide +kernel
theorem dX10_lay_79 : decode cX10_lay 79 = .ok (.aload_n 0, 1) := by decide +kernel
theorem dX10_lay_80 : decode cX10_lay 80 = .ok (.getfield 51, 3) := by decide +kernel
theorem dX10_lay_83 : decode cX10_lay 83 = .ok (.iload_n 3, 1) := by decide +kernel
theorem dX10_lay_84 : decode cX10_lay 84 = .ok (.iload_n 2, 1) := by decide +kernel
theorem dX10_lay_85 : decode cX10_lay 85 = .ok (.iastore, 1) := by decide +kernel
theorem dX10_lay_86 : decode cX10_lay 86 = .ok (.iinc 1 1, 3) := by decide +kernel
theorem dX10_lay_89 : decode cX10_lay 89 = .ok (.iinc 2 1, 3) := by decide +kernel
theorem dX10_lay_92 : decode cX10_lay 92 = .ok (.goto (-88), 3) := by decide +kernel
theorem dX10_lay_95 : decode cX10_lay 95 = .ok (.iload_n 1, 1) := by decide +kernel
theorem dX10_lay_96 : decode cX10_lay 96 = .ok (.ireturn, 1) := by decide +kernel
theorem dX10_placeOf_0 : decode cX10_placeOf 0 = .ok (.aload_n 0, 1) := by decide +kernel
theorem dX10_placeOf_1 : decode cX10_placeOf 1 = .ok (.invokevirtual 219, 3) := by decide +kernel
theorem dX10_placeOf_4 : decode cX10_placeOf 4 = .ok (.istore_n 2, 1) := by decide +kernel
theorem dX10_placeOf_5 : decode cX10_placeOf 5 = .ok (.iconst 0, 1) := by decide +kernel
theorem dX10_placeOf_6 : decode cX10_placeOf 6 = .ok (.istore_n 3, 1) := by decide +kernel
theorem dX10_placeOf_7 : decode cX10_placeOf 7 = .ok (.iload_n 3, 1) := by decide +kernel
theorem dX10_placeOf_8 : decode cX10_placeOf 8 = .ok (.iload_n 2, 1) := by decide +kernel
theorem dX10_placeOf_9 : decode cX10_placeOf 9 = .ok (.if_icmp .ge 21, 3) := by decide +kernel
theorem dX10_placeOf_12 : decode cX10_placeOf 12 = .ok (.aload_n 0, 1) := by decide +kernel
theorem dX10_placeOf_13 : decode cX10_placeOf 13 = .ok (.getfield 51, 3) := by decide +kernel
theorem dX10_placeOf_16 : decode cX10_placeOf 16 = .ok (.iload_n 3, 1) := by decide +kernel
theorem dX10_placeOf_17 : decode cX10_placeOf 17 = .ok (.iaload, 1) := by decide +kernel
theorem dX10_placeOf_18 : decode cX10_placeOf 18 = .ok (.iload_n 1, 1) := by decide +kernel
theorem dX10_placeOf_19 : decode cX10_placeOf 19 = .ok (.if_icmp .ne 5, 3) := by decide +kernel
theorem dX10_placeOf_22 : decode cX10_placeOf 22 = .ok (.iload_n 3, 1) := by decide +kernel
theorem dX10_placeOf_23 : decode cX10_placeOf 23 = .ok (.ireturn, 1) := by decide +kernel
theorem dX10_placeOf_24 : decode cX10_placeOf 24 = .ok (.iinc 3 1, 3) := by decide +kernel
theorem dX10_placeOf_27 : decode cX10_placeOf 27 = .ok (.goto (-20), 3) := by decide +kernel
theorem dX10_placeOf_30 : decode cX10_placeOf 30 = .ok (.bipush (-2), 2) := by decide +kernel
theorem dX10_placeOf_32 : decode cX10_placeOf 32 = .ok (.ireturn, 1) := by decide +kernel
theorem dX10_firstNow_0 : decode cX10_firstNow 0 = .ok (.aload_n 0, 1) := by decide +kernel
theorem dX10_firstNow_1 : decode cX10_firstNow 1 = .ok (.invokevirtual 219, 3) := by decide +kernel
theorem dX10_firstNow_4 : decode cX10_firstNow 4 = .ok (.ifCond .ne 8, 3) := by decide +kernel
theorem dX10_firstNow_7 : decode cX10_firstNow 7 = .ok (.bipush (-2), 2) := by decide +kernel
theorem dX10_firstNow_9 : decode cX10_firstNow 9 = .ok (.goto 9, 3) := by decide +kernel
theorem dX10_firstNow_12 : decode cX10_firstNow 12 = .ok (.aload_n 0, 1) := by decide +kernel
theorem dX10_firstNow_13 : decode cX10_firstNow 13 = .ok (.getfield 51, 3) := by decide +kernel
theorem dX10_firstNow_16 : decode cX10_firstNow 16 = .ok (.iconst 0, 1) := by decide +kernel
theorem dX10_firstNow_17 : decode cX10_firstNow 17 = .ok (.iaload, 1) := by decide +kernel
theorem dX10_firstNow_18 : decode cX10_firstNow 18 = .ok (.ireturn, 1) := by decide +kernel
theorem dX10_later_0 : decode cX10_later 0 = .ok (.iload_n 1, 1) := by decide +kernel
theorem dX10_later_1 : decode cX10_later 1 = .ok (.iconst 0, 1) := by decide +kernel
theorem dX10_later_2 : decode cX10_later 2 = .ok (.bipush 60, 2) := by decide +kernel
theorem dX10_later_4 : decode cX10_later 4 = .ok (.invokestatic 106, 3) := by decide +kernel
theorem dX10_later_7 : decode cX10_later 7 = .ok (.ifCond .eq 20, 3) := by decide +kernel
theorem dX10_later_10 : decode cX10_later 10 = .ok (.aload_n 0, 1) := by decide +kernel
theorem dX10_later_11 : decode cX10_later 11 = .ok (.iload_n 2, 1) := by decide +kernel
theorem dX10_later_12 : decode cX10_later 12 = .ok (.invokevirtual 124, 3) := by decide +kernel
theorem dX10_later_15 : decode cX10_later 15 = .ok (.ifCond .eq 12, 3) := by decide +kernel
theorem dX10_later_18 : decode cX10_later 18 = .ok (.iload_n 3, 1) := by decide +kernel
theorem dX10_later_19 : decode cX10_later 19 = .ok (.iconst 0, 1) := by decide +kernel
theorem dX10_later_20 : decode cX10_later 20 = .ok (.iconst 2, 1) := by decide +kernel
theorem dX10_later_21 : decode cX10_later 21 = .ok (.invokestatic 106, 3) := by decide +kernel
theorem dX10_later_24 : decode cX10_later 24 = .ok (.ifCond .ne 5, 3) := by decide +kernel
theorem dX10_later_27 : decode cX10_later 27 = .ok (.iconst (-1), 1) := by decide +kernel
theorem dX10_later_28 : decode cX10_later 28 = .ok (.ireturn, 1) := by decide +kernel
theorem dX10_later_29 : decode cX10_later 29 = .ok (.aload_n 0, 1) := by decide +kernel
theorem dX10_later_30 : decode cX10_later 30 = .ok (.iconst 0, 1) := by decide +kernel
theorem dX10_later_31 : decode cX10_later 31 = .ok (.invokevirtual 222, 3) := by decide +kernel
theorem dX10_later_34 : decode cX10_later 34 = .ok (.aload_n 0, 1) := by decide +kernel
theorem dX10_later_35 : decode cX10_later 35 = .ok (.iload_n 1, 1) := by decide +kernel
theorem dX10_later_36 : decode cX10_later 36 = .ok (.invokevirtual 226, 3) := by decide +kernel
theorem dX10_later_39 : decode cX10_later 39 = .ok (.iload_n 3, 1) := by decide +kernel
theorem dX10_later_40 : decode cX10_later 40 = .ok (.ifCond .ne 11, 3) := by decide +kernel
theorem dX10_later_43 : decode cX10_later 43 = .ok (.aload_n 0, 1) := by decide +kernel
theorem dX10_later_44 : decode cX10_later 44 = .ok (.iload_n 2, 1) := by decide +kernel
theorem dX10_later_45 : decode cX10_later 45 = .ok (.invokevirtual 215, 3) := by decide +kernel
theorem dX10_later_48 : decode cX10_later 48 = .ok (.goto 22, 3) := by decide +kernel
theorem dX10_later_51 : decode cX10_later 51 = .ok (.iload_n 3, 1) := by decide +kernel
theorem dX10_later_52 : decode cX10_later 52 = .ok (.iconst 1, 1) := by decide +kernel
theorem dX10_later_53 : decode cX10_later 53 = .ok (.if_icmp .ne 12, 3) := by decide +kernel
theorem dX10_later_56 : decode cX10_later 56 = .ok (.aload_n 0, 1) := by decide +kernel
theorem dX10_later_57 : decode cX10_later 57 = .ok (.iload_n 2, 1) := by decide +kernel
theorem dX10_later_58 : decode cX10_later 58 = .ok (.iconst 0, 1) := by decide +kernel
theorem dX10_later_59 : decode cX10_later 59 = .ok (.invokevirtual 110, 3) := by decide +kernel
theorem dX10_later_62 : decode cX10_later 62 = .ok (.goto 8, 3) := by decide +kernel
theorem dX10_later_65 : decode cX10_later 65 = .ok (.aload_n 0, 1) := by decide +kernel
theorem dX10_later_66 : decode cX10_later 66 = .ok (.iload_n 2, 1) := by decide +kernel
theorem dX10_later_67 : decode cX10_later 67 = .ok (.invokevirtual 229, 3) := by decide +kernel
theorem dX10_later_70 : decode cX10_later 70 = .ok (.istore 4, 2) := by decide +kernel
theorem dX10_later_72 : decode cX10_later 72 = .ok (.aload_n 0, 1) := by decide +kernel
theorem dX10_later_73 : decode cX10_later 73 = .ok (.iconst 0, 1) := by decide +kernel
theorem dX10_later_74 : decode cX10_later 74 = .ok (.invokevirtual 232, 3) := by decide +kernel
theorem dX10_later_77 : decode cX10_later 77 = .ok (.iload 4, 2) := by decide +kernel
theorem dX10_later_79 : decode cX10_later 79 = .ok (.ireturn, 1) := by decide +kernel
theorem dX10_first_0 : decode cX10_first 0 = .ok (.iload_n 1, 1) := by decide +kernel
theorem dX10_first_1 : decode cX10_first 1 = .ok (.iconst 0, 1) := by decide +kernel
theorem dX10_first_2 : decode cX10_first 2 = .ok (.bipush 60, 2) := by decide +kernel
theorem dX10_first_4 : decode cX10_first 4 = .ok (.invokestatic 106, 3) := by decide +kernel
theorem dX10_first_7 : decode cX10_first 7 = .ok (.ifCond .ne 5, 3) := by decide +kernel
theorem dX10_first_10 : decode cX10_first 10 = .ok (.iconst (-1), 1) := by decide +kernel
theorem dX10_first_11 : decode cX10_first 11 = .ok (.ireturn, 1) := by decide +kernel
theorem dX10_first_12 : decode cX10_first 12 = .ok (.aload_n 0, 1) := by decide +kernel
theorem dX10_first_13 : decode cX10_first 13 = .ok (.iconst 0, 1) := by decide +kernel
theorem dX10_first_14 : decode cX10_first 14 = .ok (.invokevirtual 222, 3) := by decide +kernel
theorem dX10_first_17 : decode cX10_first 17 = .ok (.aload_n 0, 1) := by decide +kernel
theorem dX10_first_18 : decode cX10_first 18 = .ok (.iload_n 1, 1) := by decide +kernel
theorem dX10_first_19 : decode cX10_first 19 = .ok (.invokevirtual 226, 3) := by decide +kernel
theorem dX10_first_22 : decode cX10_first 22 = .ok (.aload_n 0, 1) := by decide +kernel
theorem dX10_first_23 : decode cX10_first 23 = .ok (.invokevirtual 235, 3) := by decide +kernel
theorem dX10_first_26 : decode cX10_first 26 = .ok (.istore_n 2, 1) := by decide +kernel
theorem dX10_first_27 : decode cX10_first 27 = .ok (.aload_n 0, 1) := by decide +kernel
theorem dX10_first_28 : decode cX10_first 28 = .ok (.iconst 0, 1) := by decide +kernel
theorem dX10_first_29 : decode cX10_first 29 = .ok (.invokevirtual 232, 3) := by decide +kernel
theorem dX10_first_32 : decode cX10_first 32 = .ok (.iload_n 2, 1) := by decide +kernel
theorem dX10_first_33 : decode cX10_first 33 = .ok (.ireturn, 1) := by decide +kernel
theorem dX10_peak_0 : decode cX10_peak 0 = .ok (.aload_n 0, 1) := by decide +kernel
theorem dX10_peak_1 : decode cX10_peak 1 = .ok (.iload_n 1, 1) := by decide +kernel
theorem dX10_peak_2 : decode cX10_peak 2 = .ok (.invokevirtual 124, 3) := by decide +kernel
theorem dX10_peak_5 : decode cX10_peak 5 = .ok (.ifCond .eq 12, 3) := by decide +kernel
theorem dX10_peak_8 : decode cX10_peak 8 = .ok (.iload_n 2, 1) := by decide +kernel
theorem dX10_peak_9 : decode cX10_peak 9 = .ok (.iconst 0, 1) := by decide +kernel
theorem dX10_peak_10 : decode cX10_peak 10 = .ok (.iconst 1, 1) := by decide +kernel
theorem dX10_peak_11 : decode cX10_peak 11 = .ok (.invokestatic 106, 3) := by decide +kernel
theorem dX10_peak_14 : decode cX10_peak 14 = .ok (.ifCond .ne 5, 3) := by decide +kernel
theorem dX10_peak_17 : decode cX10_peak 17 = .ok (.iconst (-1), 1) := by decide +kernel
theorem dX10_peak_18 : decode cX10_peak 18 = .ok (.ireturn, 1) := by decide +kernel
theorem dX10_peak_19 : decode cX10_peak 19 = .ok (.aload_n 0, 1) := by decide +kernel
theorem dX10_peak_20 : decode cX10_peak 20 = .ok (.iconst 0, 1) := by decide +kernel
theorem dX10_peak_21 : decode cX10_peak 21 = .ok (.invokevirtual 222, 3) := by decide +kernel
theorem dX10_peak_24 : decode cX10_peak 24 = .ok (.iconst 0, 1) := by decide +kernel
theorem dX10_peak_25 : decode cX10_peak 25 = .ok (.istore_n 3, 1) := by decide +kernel
theorem dX10_peak_26 : decode cX10_peak 26 = .ok (.iconst (-1), 1) := by decide +kernel
theorem dX10_peak_27 : decode cX10_peak 27 = .ok (.istore 4, 2) := by decide +kernel
theorem dX10_peak_29 : decode cX10_peak 29 = .ok (.iconst 0, 1) := by decide +kernel
theorem dX10_peak_30 : decode cX10_peak 30 = .ok (.istore 5, 2) := by decide +kernel
theorem dX10_peak_32 : decode cX10_peak 32 = .ok (.iload 5, 2) := by decide +kernel
theorem dX10_peak_34 : decode cX10_peak 34 = .ok (.bipush 60, 2) := by decide +kernel
theorem dX10_peak_36 : decode cX10_peak 36 = .ok (.if_icmp .gt 44, 3) := by decide +kernel
theorem dX10_peak_39 : decode cX10_peak 39 = .ok (.aload_n 0, 1) := by decide +kernel
theorem dX10_peak_40 : decode cX10_peak 40 = .ok (.iload_n 1, 1) := by decide +kernel
theorem dX10_peak_41 : decode cX10_peak 41 = .ok (.iconst 0, 1) := by decide +kernel
theorem dX10_peak_42 : decode cX10_peak 42 = .ok (.invokevirtual 110, 3) := by decide +kernel
theorem dX10_peak_45 : decode cX10_peak 45 = .ok (.iload 4, 2) := by decide +kernel
theorem dX10_peak_47 : decode cX10_peak 47 = .ok (.if_icmp .le 8, 3) := by decide +kernel
theorem dX10_peak_50 : decode cX10_peak 50 = .ok (.iload 5, 2) := by decide +kernel
theorem dX10_peak_52 : decode cX10_peak 52 = .ok (.goto 4, 3) := by decide +kernel
theorem dX10_peak_55 : decode cX10_peak 55 = .ok (.iload_n 3, 1) := by decide +kernel
theorem dX10_peak_56 : decode cX10_peak 56 = .ok (.istore_n 3, 1) := by decide +kernel
theorem dX10_peak_57 : decode cX10_peak 57 = .ok (.aload_n 0, 1) := by decide +kernel
theorem dX10_peak_58 : decode cX10_peak 58 = .ok (.iload_n 1, 1) := by decide +kernel
theorem dX10_peak_59 : decode cX10_peak 59 = .ok (.iconst 0, 1) := by decide +kernel
theorem dX10_peak_60 : decode cX10_peak 60 = .ok (.invokevirtual 110, 3) := by decide +kernel
theorem dX10_peak_63 : decode cX10_peak 63 = .ok (.iload 4, 2) := by decide +kernel
theorem dX10_peak_65 : decode cX10_peak 65 = .ok (.invokestatic 100, 3) := by decide +kernel
theorem dX10_peak_68 : decode cX10_peak 68 = .ok (.istore 4, 2) := by decide +kernel
theorem dX10_peak_70 : decode cX10_peak 70 = .ok (.aload_n 0, 1) := by decide +kernel
theorem dX10_peak_71 : decode cX10_peak 71 = .ok (.invokevirtual 212, 3) := by decide +kernel
theorem dX10_peak_74 : decode cX10_peak 74 = .ok (.iinc 5 1, 3) := by decide +kernel
theorem dX10_peak_77 : decode cX10_peak 77 = .ok (.goto (-45), 3) := by decide +kernel
theorem dX10_peak_80 : decode cX10_peak 80 = .ok (.aload_n 0, 1) := by decide +kernel
theorem dX10_peak_81 : decode cX10_peak 81 = .ok (.iconst 0, 1) := by decide +kernel
theorem dX10_peak_82 : decode cX10_peak 82 = .ok (.invokevirtual 232, 3) := by decide +kernel
theorem dX10_peak_85 : decode cX10_peak 85 = .ok (.iload_n 2, 1) := by decide +kernel
theorem dX10_peak_86 : decode cX10_peak 86 = .ok (.ifCond .ne 7, 3) := by decide +kernel
theorem dX10_peak_89 : decode cX10_peak 89 = .ok (.iload_n 3, 1) := by decide +kernel
theorem dX10_peak_90 : decode cX10_peak 90 = .ok (.goto 5, 3) := by decide +kernel
theorem dX10_peak_93 : decode cX10_peak 93 = .ok (.iload 4, 2) := by decide +kernel
theorem dX10_peak_95 : decode cX10_peak 95 = .ok (.ireturn, 1) := by decide +kernel
theorem dX10_goAll_0 : decode cX10_goAll 0 = .ok (.aload_n 0, 1) := by decide +kernel
theorem dX10_goAll_1 : decode cX10_goAll 1 = .ok (.iconst 0, 1) := by decide +kernel
theorem dX10_goAll_2 : decode cX10_goAll 2 = .ok (.invokevirtual 222, 3) := by decide +kernel
theorem dX10_goAll_5 : decode cX10_goAll 5 = .ok (.aload_n 0, 1) := by decide +kernel
theorem dX10_goAll_6 : decode cX10_goAll 6 = .ok (.iload_n 1, 1) := by decide +kernel
theorem dX10_goAll_7 : decode cX10_goAll 7 = .ok (.invokevirtual 226, 3) := by decide +kernel
theorem dX10_goAll_10 : decode cX10_goAll 10 = .ok (.iconst 0, 1) := by decide +kernel
theorem dX10_goAll_11 : decode cX10_goAll 11 = .ok (.istore_n 3, 1) := by decide +kernel
theorem dX10_goAll_12 : decode cX10_goAll 12 = .ok (.aload_n 0, 1) := by decide +kernel
theorem dX10_goAll_13 : decode cX10_goAll 13 = .ok (.iconst 0, 1) := by decide +kernel
theorem dX10_goAll_14 : decode cX10_goAll 14 = .ok (.putfield 238, 3) := by decide +kernel
theorem dX10_goAll_17 : decode cX10_goAll 17 = .ok (.aload_n 0, 1) := by decide +kernel
theorem dX10_goAll_18 : decode cX10_goAll 18 = .ok (.invokevirtual 219, 3) := by decide +kernel
theorem dX10_goAll_21 : decode cX10_goAll 21 = .ok (.istore 4, 2) := by decide +kernel
theorem dX10_goAll_23 : decode cX10_goAll 23 = .ok (.iload 4, 2) := by decide +kernel
theorem dX10_goAll_25 : decode cX10_goAll 25 = .ok (.ifCond .le 84, 3) := by decide +kernel
theorem dX10_goAll_28 : decode cX10_goAll 28 = .ok (.aload_n 0, 1) := by decide +kernel
theorem dX10_goAll_29 : decode cX10_goAll 29 = .ok (.getfield 51, 3) := by decide +kernel
theorem dX10_goAll_32 : decode cX10_goAll 32 = .ok (.iconst 0, 1) := by decide +kernel
theorem dX10_goAll_33 : decode cX10_goAll 33 = .ok (.iaload, 1) := by decide +kernel
theorem dX10_goAll_34 : decode cX10_goAll 34 = .ok (.iload_n 2, 1) := by decide +kernel
theorem dX10_goAll_35 : decode cX10_goAll 35 = .ok (.if_icmp .ne 18, 3) := by decide +kernel
theorem dX10_goAll_38 : decode cX10_goAll 38 = .ok (.iload 4, 2) := by decide +kernel
theorem dX10_goAll_40 : decode cX10_goAll 40 = .ok (.iconst 1, 1) := by decide +kernel
theorem dX10_goAll_41 : decode cX10_goAll 41 = .ok (.if_icmp .le 12, 3) := by decide +kernel
theorem dX10_goAll_44 : decode cX10_goAll 44 = .ok (.aload_n 0, 1) := by decide +kernel
theorem dX10_goAll_45 : decode cX10_goAll 45 = .ok (.getfield 51, 3) := by decide +kernel
theorem dX10_goAll_48 : decode cX10_goAll 48 = .ok (.iconst 1, 1) := by decide +kernel
theorem dX10_goAll_49 : decode cX10_goAll 49 = .ok (.iaload, 1) := by decide +kernel
theorem dX10_goAll_50 : decode cX10_goAll 50 = .ok (.goto 9, 3) := by decide +kernel
theorem dX10_goAll_53 : decode cX10_goAll 53 = .ok (.aload_n 0, 1) := by decide +kernel
theorem dX10_goAll_54 : decode cX10_goAll 54 = .ok (.getfield 51, 3) := by decide +kernel
theorem dX10_goAll_57 : decode cX10_goAll 57 = .ok (.iconst 0, 1) := by decide +kernel
theorem dX10_goAll_58 : decode cX10_goAll 58 = .ok (.iaload, 1) := by decide +kernel
theorem dX10_goAll_59 : decode cX10_goAll 59 = .ok (.istore 5, 2) := by decide +kernel
theorem dX10_goAll_61 : decode cX10_goAll 61 = .ok (.aload_n 0, 1) := by decide +kernel
theorem dX10_goAll_62 : decode cX10_goAll 62 = .ok (.getfield 57, 3) := by decide +kernel
theorem dX10_goAll_65 : decode cX10_goAll 65 = .ok (.iload_n 3, 1) := by decide +kernel
theorem dX10_goAll_66 : decode cX10_goAll 66 = .ok (.iload 5, 2) := by decide +kernel
theorem dX10_goAll_68 : decode cX10_goAll 68 = .ok (.iastore, 1) := by decide +kernel
theorem dX10_goAll_69 : decode cX10_goAll 69 = .ok (.iinc 3 1, 3) := by decide +kernel
theorem dX10_goAll_72 : decode cX10_goAll 72 = .ok (.aload_n 0, 1) := by decide +kernel
theorem dX10_goAll_73 : decode cX10_goAll 73 = .ok (.dup, 1) := by decide +kernel
theorem dX10_goAll_74 : decode cX10_goAll 74 = .ok (.getfield 238, 3) := by decide +kernel
theorem dX10_goAll_77 : decode cX10_goAll 77 = .ok (.aload_n 0, 1) := by decide +kernel
theorem dX10_goAll_78 : decode cX10_goAll 78 = .ok (.iload 5, 2) := by decide +kernel
theorem dX10_goAll_80 : decode cX10_goAll 80 = .ok (.iconst 0, 1) := by decide +kernel
theorem dX10_goAll_81 : decode cX10_goAll 81 = .ok (.invokevirtual 110, 3) := by decide +kernel
theorem dX10_goAll_84 : decode cX10_goAll 84 = .ok (.iadd, 1) := by decide +kernel
theorem dX10_goAll_85 : decode cX10_goAll 85 = .ok (.putfield 238, 3) := by decide +kernel
theorem dX10_goAll_88 : decode cX10_goAll 88 = .ok (.aload_n 0, 1) := by decide +kernel
theorem dX10_goAll_89 : decode cX10_goAll 89 = .ok (.iload 5, 2) := by decide +kernel
theorem dX10_goAll_91 : decode cX10_goAll 91 = .ok (.iconst 5, 1) := by decide +kernel
theorem dX10_goAll_92 : decode cX10_goAll 92 = .ok (.iconst 1, 1) := by decide +kernel
theorem dX10_goAll_93 : decode cX10_goAll 93 = .ok (.invokevirtual 113, 3) := by decide +kernel
theorem dX10_goAll_96 : decode cX10_goAll 96 = .ok (.aload_n 0, 1) := by decide +kernel
theorem dX10_goAll_97 : decode cX10_goAll 97 = .ok (.invokevirtual 212, 3) := by decide +kernel
theorem dX10_goAll_100 : decode cX10_goAll 100 = .ok (.aload_n 0, 1) := by decide +kernel
theorem dX10_goAll_101 : decode cX10_goAll 101 = .ok (.invokevirtual 219, 3) := by decide +kernel
theorem dX10_goAll_104 : decode cX10_goAll 104 = .ok (.istore 4, 2) := by decide +kernel
theorem dX10_goAll_106 : decode cX10_goAll 106 = .ok (.goto (-83), 3) := by decide +kernel
theorem dX10_goAll_109 : decode cX10_goAll 109 = .ok (.aload_n 0, 1) := by decide +kernel
theorem dX10_goAll_110 : decode cX10_goAll 110 = .ok (.iconst 0, 1) := by decide +kernel
theorem dX10_goAll_111 : decode cX10_goAll 111 = .ok (.invokevirtual 232, 3) := by decide +kernel
theorem dX10_goAll_114 : decode cX10_goAll 114 = .ok (.iload_n 3, 1) := by decide +kernel
theorem dX10_goAll_115 : decode cX10_goAll 115 = .ok (.ireturn, 1) := by decide +kernel
theorem dX10_wentAs_0 : decode cX10_wentAs 0 = .ok (.iconst 0, 1) := by decide +kernel
theorem dX10_wentAs_1 : decode cX10_wentAs 1 = .ok (.istore_n 3, 1) := by decide +kernel
theorem dX10_wentAs_2 : decode cX10_wentAs 2 = .ok (.iload_n 3, 1) := by decide +kernel
theorem dX10_wentAs_3 : decode cX10_wentAs 3 = .ok (.iload_n 2, 1) := by decide +kernel
theorem dX10_wentAs_4 : decode cX10_wentAs 4 = .ok (.if_icmp .ge 21, 3) := by decide +kernel
theorem dX10_wentAs_7 : decode cX10_wentAs 7 = .ok (.aload_n 0, 1) := by decide +kernel
theorem dX10_wentAs_8 : decode cX10_wentAs 8 = .ok (.getfield 57, 3) := by decide +kernel
theorem dX10_wentAs_11 : decode cX10_wentAs 11 = .ok (.iload_n 3, 1) := by decide +kernel
theorem dX10_wentAs_12 : decode cX10_wentAs 12 = .ok (.iaload, 1) := by decide +kernel
theorem dX10_wentAs_13 : decode cX10_wentAs 13 = .ok (.iload_n 1, 1) := by decide +kernel
theorem dX10_wentAs_14 : decode cX10_wentAs 14 = .ok (.if_icmp .ne 5, 3) := by decide +kernel
theorem dX10_wentAs_17 : decode cX10_wentAs 17 = .ok (.iload_n 3, 1) := by decide +kernel
theorem dX10_wentAs_18 : decode cX10_wentAs 18 = .ok (.ireturn, 1) := by decide +kernel
theorem dX10_wentAs_19 : decode cX10_wentAs 19 = .ok (.iinc 3 1, 3) := by decide +kernel
theorem dX10_wentAs_22 : decode cX10_wentAs 22 = .ok (.goto (-20), 3) := by decide +kernel
theorem dX10_wentAs_25 : decode cX10_wentAs 25 = .ok (.bipush (-2), 2) := by decide +kernel
theorem dX10_wentAs_27 : decode cX10_wentAs 27 = .ok (.ireturn, 1) := by decide +kernel
theorem dX10_goesAs_0 : decode cX10_goesAs 0 = .ok (.iload_n 1, 1) := by decide +kernel
theorem dX10_goesAs_1 : decode cX10_goesAs 1 = .ok (.iconst 0, 1) := by decide +kernel
theorem dX10_goesAs_2 : decode cX10_goesAs 2 = .ok (.bipush 60, 2) := by decide +kernel
theorem dX10_goesAs_4 : decode cX10_goesAs 4 = .ok (.invokestatic 106, 3) := by decide +kernel
theorem dX10_goesAs_7 : decode cX10_goesAs 7 = .ok (.ifCond .eq 7, 3) := by decide +kernel
theorem dX10_goesAs_10 : decode cX10_goesAs 10 = .ok (.iload_n 2, 1) := by decide +kernel
theorem dX10_goesAs_11 : decode cX10_goesAs 11 = .ok (.ifCond .ge 5, 3) := by decide +kernel
theorem dX10_goesAs_14 : decode cX10_goesAs 14 = .ok (.iconst (-1), 1) := by decide +kernel
theorem dX10_goesAs_15 : decode cX10_goesAs 15 = .ok (.ireturn, 1) := by decide +kernel
theorem dX10_goesAs_16 : decode cX10_goesAs 16 = .ok (.iload_n 2, 1) := by decide +kernel
theorem dX10_goesAs_17 : decode cX10_goesAs 17 = .ok (.aload_n 0, 1) := by decide +kernel
theorem dX10_goesAs_18 : decode cX10_goesAs 18 = .ok (.iload_n 1, 1) := by decide +kernel
theorem dX10_goesAs_19 : decode cX10_goesAs 19 = .ok (.iconst (-1), 1) := by decide +kernel
theorem dX10_goesAs_20 : decode cX10_goesAs 20 = .ok (.invokevirtual 241, 3) := by decide +kernel
theorem dX10_goesAs_23 : decode cX10_goesAs 23 = .ok (.if_icmp .ge 12, 3) := by decide +kernel
theorem dX10_goesAs_26 : decode cX10_goesAs 26 = .ok (.aload_n 0, 1) := by decide +kernel
theorem dX10_goesAs_27 : decode cX10_goesAs 27 = .ok (.getfield 57, 3) := by decide +kernel
theorem dX10_goesAs_30 : decode cX10_goesAs 30 = .ok (.iload_n 2, 1) := by decide +kernel
theorem dX10_goesAs_31 : decode cX10_goesAs 31 = .ok (.iaload, 1) := by decide +kernel
theorem dX10_goesAs_32 : decode cX10_goesAs 32 = .ok (.goto 5, 3) := by decide +kernel
theorem dX10_goesAs_35 : decode cX10_goesAs 35 = .ok (.bipush (-2), 2) := by decide +kernel
theorem dX10_goesAs_37 : decode cX10_goesAs 37 = .ok (.ireturn, 1) := by decide +kernel
theorem dX10_goesWhen_0 : decode cX10_goesWhen 0 = .ok (.iload_n 1, 1) := by decide +kernel
theorem dX10_goesWhen_1 : decode cX10_goesWhen 1 = .ok (.iconst 0, 1) := by decide +kernel
theorem dX10_goesWhen_2 : decode cX10_goesWhen 2 = .ok (.bipush 60, 2) := by decide +kernel
theorem dX10_goesWhen_4 : decode cX10_goesWhen 4 = .ok (.invokestatic 106, 3) := by decide +kernel
theorem dX10_goesWhen_7 : decode cX10_goesWhen 7 = .ok (.ifCond .eq 11, 3) := by decide +kernel
theorem dX10_goesWhen_10 : decode cX10_goesWhen 10 = .ok (.aload_n 0, 1) := by decide +kernel
theorem dX10_goesWhen_11 : decode cX10_goesWhen 11 = .ok (.iload_n 2, 1) := by decide +kernel
theorem dX10_goesWhen_12 : decode cX10_goesWhen 12 = .ok (.invokevirtual 124, 3) := by decide +kernel
theorem dX10_goesWhen_15 : decode cX10_goesWhen 15 = .ok (.ifCond .ne 5, 3) := by decide +kernel
theorem dX10_goesWhen_18 : decode cX10_goesWhen 18 = .ok (.iconst (-1), 1) := by decide +kernel
theorem dX10_goesWhen_19 : decode cX10_goesWhen 19 = .ok (.ireturn, 1) := by decide +kernel
theorem dX10_goesWhen_20 : decode cX10_goesWhen 20 = .ok (.aload_n 0, 1) := by decide +kernel
theorem dX10_goesWhen_21 : decode cX10_goesWhen 21 = .ok (.iload_n 2, 1) := by decide +kernel
theorem dX10_goesWhen_22 : decode cX10_goesWhen 22 = .ok (.aload_n 0, 1) := by decide +kernel
theorem dX10_goesWhen_23 : decode cX10_goesWhen 23 = .ok (.iload_n 1, 1) := by decide +kernel
theorem dX10_goesWhen_24 : decode cX10_goesWhen 24 = .ok (.iconst (-1), 1) := by decide +kernel
theorem dX10_goesWhen_25 : decode cX10_goesWhen 25 = .ok (.invokevirtual 241, 3) := by decide +kernel
theorem dX10_goesWhen_28 : decode cX10_goesWhen 28 = .ok (.invokevirtual 244, 3) := by decide +kernel
theorem dX10_goesWhen_31 : decode cX10_goesWhen 31 = .ok (.istore_n 3, 1) := by decide +kernel
theorem dX10_goesWhen_32 : decode cX10_goesWhen 32 = .ok (.iload_n 3, 1) := by decide +kernel
theorem dX10_goesWhen_33 : decode cX10_goesWhen 33 = .ok (.bipush (-2), 2) := by decide +kernel
theorem dX10_goesWhen_35 : decode cX10_goesWhen 35 = .ok (.if_icmp .ne 8, 3) := by decide +kernel
theorem dX10_goesWhen_38 : decode cX10_goesWhen 38 = .ok (.bipush (-2), 2) := by decide +kernel
theorem dX10_goesWhen_40 : decode cX10_goesWhen 40 = .ok (.goto 6, 3) := by decide +kernel
theorem dX10_goesWhen_43 : decode cX10_goesWhen 43 = .ok (.iload_n 1, 1) := by decide +kernel
theorem dX10_goesWhen_44 : decode cX10_goesWhen 44 = .ok (.iload_n 3, 1) := by decide +kernel
theorem dX10_goesWhen_45 : decode cX10_goesWhen 45 = .ok (.iadd, 1) := by decide +kernel
theorem dX10_goesWhen_46 : decode cX10_goesWhen 46 = .ok (.ireturn, 1) := by decide +kernel
theorem dX10_waits_0 : decode cX10_waits 0 = .ok (.iload_n 1, 1) := by decide +kernel
theorem dX10_waits_1 : decode cX10_waits 1 = .ok (.iconst 0, 1) := by decide +kernel
theorem dX10_waits_2 : decode cX10_waits 2 = .ok (.bipush 60, 2) := by decide +kernel
theorem dX10_waits_4 : decode cX10_waits 4 = .ok (.invokestatic 106, 3) := by decide +kernel
theorem dX10_waits_7 : decode cX10_waits 7 = .ok (.ifCond .ne 5, 3) := by decide +kernel
theorem dX10_waits_10 : decode cX10_waits 10 = .ok (.iconst (-1), 1) := by decide +kernel
theorem dX10_waits_11 : decode cX10_waits 11 = .ok (.ireturn, 1) := by decide +kernel
theorem dX10_waits_12 : decode cX10_waits 12 = .ok (.iconst 0, 1) := by decide +kernel
theorem dX10_waits_13 : decode cX10_waits 13 = .ok (.istore_n 2, 1) := by decide +kernel
theorem dX10_waits_14 : decode cX10_waits 14 = .ok (.aload_n 0, 1) := by decide +kernel
theorem dX10_waits_15 : decode cX10_waits 15 = .ok (.invokevirtual 203, 3) := by decide +kernel
theorem dX10_waits_18 : decode cX10_waits 18 = .ok (.iconst 1, 1) := by decide +kernel
theorem dX10_waits_19 : decode cX10_waits 19 = .ok (.isub, 1) := by decide +kernel
theorem dX10_waits_20 : decode cX10_waits 20 = .ok (.istore_n 3, 1) := by decide +kernel
theorem dX10_waits_21 : decode cX10_waits 21 = .ok (.iload_n 3, 1) := by decide +kernel
theorem dX10_waits_22 : decode cX10_waits 22 = .ok (.ifCond .lt 15, 3) := by decide +kernel
theorem dX10_waits_25 : decode cX10_waits 25 = .ok (.iload_n 2, 1) := by decide +kernel
theorem dX10_waits_26 : decode cX10_waits 26 = .ok (.iload_n 1, 1) := by decide +kernel
theorem dX10_waits_27 : decode cX10_waits 27 = .ok (.iload_n 3, 1) := by decide +kernel
theorem dX10_waits_28 : decode cX10_waits 28 = .ok (.iadd, 1) := by decide +kernel
theorem dX10_waits_29 : decode cX10_waits 29 = .ok (.iadd, 1) := by decide +kernel
theorem dX10_waits_30 : decode cX10_waits 30 = .ok (.istore_n 2, 1) := by decide +kernel
theorem dX10_waits_31 : decode cX10_waits 31 = .ok (.iinc 3 (-1), 3) := by decide +kernel
theorem dX10_waits_34 : decode cX10_waits 34 = .ok (.goto (-13), 3) := by decide +kernel
theorem dX10_waits_37 : decode cX10_waits 37 = .ok (.iload_n 2, 1) := by decide +kernel
theorem dX10_waits_38 : decode cX10_waits 38 = .ok (.ireturn, 1) := by decide +kernel
theorem dX10_sorry_0 : decode cX10_sorry 0 = .ok (.aload_n 0, 1) := by decide +kernel
theorem dX10_sorry_1 : decode cX10_sorry 1 = .ok (.iload_n 1, 1) := by decide +kernel
theorem dX10_sorry_2 : decode cX10_sorry 2 = .ok (.invokevirtual 124, 3) := by decide +kernel
theorem dX10_sorry_5 : decode cX10_sorry 5 = .ok (.ifCond .eq 13, 3) := by decide +kernel
theorem dX10_sorry_8 : decode cX10_sorry 8 = .ok (.iload_n 2, 1) := by decide +kernel
theorem dX10_sorry_9 : decode cX10_sorry 9 = .ok (.iconst 0, 1) := by decide +kernel
theorem dX10_sorry_10 : decode cX10_sorry 10 = .ok (.bipush 8, 2) := by decide +kernel
theorem dX10_sorry_12 : decode cX10_sorry 12 = .ok (.invokestatic 106, 3) := by decide +kernel
theorem dX10_sorry_15 : decode cX10_sorry 15 = .ok (.ifCond .ne 5, 3) := by decide +kernel
theorem dX10_sorry_18 : decode cX10_sorry 18 = .ok (.iconst (-1), 1) := by decide +kernel
theorem dX10_sorry_19 : decode cX10_sorry 19 = .ok (.ireturn, 1) := by decide +kernel
theorem dX10_sorry_20 : decode cX10_sorry 20 = .ok (.aload_n 0, 1) := by decide +kernel
theorem dX10_sorry_21 : decode cX10_sorry 21 = .ok (.iload_n 1, 1) := by decide +kernel
theorem dX10_sorry_22 : decode cX10_sorry 22 = .ok (.iconst 2, 1) := by decide +kernel
theorem dX10_sorry_23 : decode cX10_sorry 23 = .ok (.invokevirtual 110, 3) := by decide +kernel
theorem dX10_sorry_26 : decode cX10_sorry 26 = .ok (.istore_n 3, 1) := by decide +kernel
theorem dX10_sorry_27 : decode cX10_sorry 27 = .ok (.bipush (-2), 2) := by decide +kernel
theorem dX10_sorry_29 : decode cX10_sorry 29 = .ok (.istore 4, 2) := by decide +kernel
theorem dX10_sorry_31 : decode cX10_sorry 31 = .ok (.iconst 0, 1) := by decide +kernel
theorem dX10_sorry_32 : decode cX10_sorry 32 = .ok (.istore 5, 2) := by decide +kernel
theorem dX10_sorry_34 : decode cX10_sorry 34 = .ok (.iload 5, 2) := by decide +kernel
theorem dX10_sorry_36 : decode cX10_sorry 36 = .ok (.bipush 10, 2) := by decide +kernel
theorem dX10_sorry_38 : decode cX10_sorry 38 = .ok (.if_icmp .ge 56, 3) := by decide +kernel
theorem dX10_sorry_41 : decode cX10_sorry 41 = .ok (.iload 4, 2) := by decide +kernel
theorem dX10_sorry_43 : decode cX10_sorry 43 = .ok (.bipush (-2), 2) := by decide +kernel
theorem dX10_sorry_45 : decode cX10_sorry 45 = .ok (.if_icmp .ne 49, 3) := by decide +kernel
theorem dX10_sorry_48 : decode cX10_sorry 48 = .ok (.aload_n 0, 1) := by decide +kernel
theorem dX10_sorry_49 : decode cX10_sorry 49 = .ok (.iload_n 1, 1) := by decide +kernel
theorem dX10_sorry_50 : decode cX10_sorry 50 = .ok (.invokevirtual 197, 3) := by decide +kernel
theorem dX10_sorry_53 : decode cX10_sorry 53 = .ok (.ifCond .eq 41, 3) := by decide +kernel
theorem dX10_sorry_56 : decode cX10_sorry 56 = .ok (.aload_n 0, 1) := by decide +kernel
theorem dX10_sorry_57 : decode cX10_sorry 57 = .ok (.iload_n 1, 1) := by decide +kernel
theorem dX10_sorry_58 : decode cX10_sorry 58 = .ok (.iconst 2, 1) := by decide +kernel
theorem dX10_sorry_59 : decode cX10_sorry 59 = .ok (.iload 5, 2) := by decide +kernel
theorem dX10_sorry_61 : decode cX10_sorry 61 = .ok (.invokevirtual 113, 3) := by decide +kernel
theorem dX10_sorry_64 : decode cX10_sorry 64 = .ok (.aload_n 0, 1) := by decide +kernel
theorem dX10_sorry_65 : decode cX10_sorry 65 = .ok (.iload_n 1, 1) := by decide +kernel
theorem dX10_sorry_66 : decode cX10_sorry 66 = .ok (.aload_n 0, 1) := by decide +kernel
theorem dX10_sorry_67 : decode cX10_sorry 67 = .ok (.iconst 0, 1) := by decide +kernel
theorem dX10_sorry_68 : decode cX10_sorry 68 = .ok (.iconst (-1), 1) := by decide +kernel
theorem dX10_sorry_69 : decode cX10_sorry 69 = .ok (.invokevirtual 241, 3) := by decide +kernel
theorem dX10_sorry_72 : decode cX10_sorry 72 = .ok (.invokevirtual 244, 3) := by decide +kernel
theorem dX10_sorry_75 : decode cX10_sorry 75 = .ok (.iload_n 2, 1) := by decide +kernel
theorem dX10_sorry_76 : decode cX10_sorry 76 = .ok (.if_icmp .gt 8, 3) := by decide +kernel
theorem dX10_sorry_79 : decode cX10_sorry 79 = .ok (.iload 5, 2) := by decide +kernel
theorem dX10_sorry_81 : decode cX10_sorry 81 = .ok (.goto 5, 3) := by decide +kernel
theorem dX10_sorry_84 : decode cX10_sorry 84 = .ok (.bipush (-2), 2) := by decide +kernel
theorem dX10_sorry_86 : decode cX10_sorry 86 = .ok (.istore 4, 2) := by decide +kernel
theorem dX10_sorry_88 : decode cX10_sorry 88 = .ok (.iinc 5 1, 3) := by decide +kernel
theorem dX10_sorry_91 : decode cX10_sorry 91 = .ok (.goto (-57), 3) := by decide +kernel
theorem dX10_sorry_94 : decode cX10_sorry 94 = .ok (.aload_n 0, 1) := by decide +kernel
theorem dX10_sorry_95 : decode cX10_sorry 95 = .ok (.iload_n 1, 1) := by decide +kernel
theorem dX10_sorry_96 : decode cX10_sorry 96 = .ok (.iconst 2, 1) := by decide +kernel
theorem dX10_sorry_97 : decode cX10_sorry 97 = .ok (.iload_n 3, 1) := by decide +kernel
theorem dX10_sorry_98 : decode cX10_sorry 98 = .ok (.invokevirtual 113, 3) := by decide +kernel
theorem dX10_sorry_101 : decode cX10_sorry 101 = .ok (.iload 4, 2) := by decide +kernel
theorem dX10_sorry_103 : decode cX10_sorry 103 = .ok (.ireturn, 1) := by decide +kernel
theorem dX10_slipWhen_0 : decode cX10_slipWhen 0 = .ok (.aload_n 0, 1) := by decide +kernel
theorem dX10_slipWhen_1 : decode cX10_slipWhen 1 = .ok (.iload_n 1, 1) := by decide +kernel
theorem dX10_slipWhen_2 : decode cX10_slipWhen 2 = .ok (.invokevirtual 124, 3) := by decide +kernel
theorem dX10_slipWhen_5 : decode cX10_slipWhen 5 = .ok (.ifCond .eq 33, 3) := by decide +kernel
theorem dX10_slipWhen_8 : decode cX10_slipWhen 8 = .ok (.iload_n 2, 1) := by decide +kernel
theorem dX10_slipWhen_9 : decode cX10_slipWhen 9 = .ok (.bipush 100, 2) := by decide +kernel
theorem dX10_slipWhen_11 : decode cX10_slipWhen 11 = .ok (.sipush 3030, 3) := by decide +kernel
theorem dX10_slipWhen_14 : decode cX10_slipWhen 14 = .ok (.invokestatic 106, 3) := by decide +kernel
theorem dX10_slipWhen_17 : decode cX10_slipWhen 17 = .ok (.ifCond .eq 21, 3) := by decide +kernel
theorem dX10_slipWhen_20 : decode cX10_slipWhen 20 = .ok (.iload_n 2, 1) := by decide +kernel
theorem dX10_slipWhen_21 : decode cX10_slipWhen 21 = .ok (.bipush 100, 2) := by decide +kernel
theorem dX10_slipWhen_23 : decode cX10_slipWhen 23 = .ok (.irem, 1) := by decide +kernel
theorem dX10_slipWhen_24 : decode cX10_slipWhen 24 = .ok (.bipush 30, 2) := by decide +kernel
theorem dX10_slipWhen_26 : decode cX10_slipWhen 26 = .ok (.if_icmp .gt 12, 3) := by decide +kernel
theorem dX10_slipWhen_29 : decode cX10_slipWhen 29 = .ok (.iload_n 3, 1) := by decide +kernel
theorem dX10_slipWhen_30 : decode cX10_slipWhen 30 = .ok (.iconst 0, 1) := by decide +kernel
theorem dX10_slipWhen_31 : decode cX10_slipWhen 31 = .ok (.iconst 1, 1) := by decide +kernel
theorem dX10_slipWhen_32 : decode cX10_slipWhen 32 = .ok (.invokestatic 106, 3) := by decide +kernel
theorem dX10_slipWhen_35 : decode cX10_slipWhen 35 = .ok (.ifCond .ne 5, 3) := by decide +kernel
theorem dX10_slipWhen_38 : decode cX10_slipWhen 38 = .ok (.iconst (-1), 1) := by decide +kernel
theorem dX10_slipWhen_39 : decode cX10_slipWhen 39 = .ok (.ireturn, 1) := by decide +kernel
theorem dX10_slipWhen_40 : decode cX10_slipWhen 40 = .ok (.aload_n 0, 1) := by decide +kernel
theorem dX10_slipWhen_41 : decode cX10_slipWhen 41 = .ok (.iload_n 1, 1) := by decide +kernel
theorem dX10_slipWhen_42 : decode cX10_slipWhen 42 = .ok (.invokevirtual 197, 3) := by decide +kernel
theorem dX10_slipWhen_45 : decode cX10_slipWhen 45 = .ok (.ifCond .ne 6, 3) := by decide +kernel
theorem dX10_slipWhen_48 : decode cX10_slipWhen 48 = .ok (.bipush (-5), 2) := by decide +kernel
theorem dX10_slipWhen_50 : decode cX10_slipWhen 50 = .ok (.ireturn, 1) := by decide +kernel
theorem dX10_slipWhen_51 : decode cX10_slipWhen 51 = .ok (.iconst 0, 1) := by decide +kernel
theorem dX10_slipWhen_52 : decode cX10_slipWhen 52 = .ok (.istore 4, 2) := by decide +kernel
theorem dX10_slipWhen_54 : decode cX10_slipWhen 54 = .ok (.bipush 9, 2) := by decide +kernel
theorem dX10_slipWhen_56 : decode cX10_slipWhen 56 = .ok (.istore 5, 2) := by decide +kernel
theorem dX10_slipWhen_58 : decode cX10_slipWhen 58 = .ok (.aload_n 0, 1) := by decide +kernel
theorem dX10_slipWhen_59 : decode cX10_slipWhen 59 = .ok (.iload_n 1, 1) := by decide +kernel
theorem dX10_slipWhen_60 : decode cX10_slipWhen 60 = .ok (.putfield 47, 3) := by decide +kernel
theorem dX10_slipWhen_63 : decode cX10_slipWhen 63 = .ok (.aload_n 0, 1) := by decide +kernel
theorem dX10_slipWhen_64 : decode cX10_slipWhen 64 = .ok (.iload_n 2, 1) := by decide +kernel
theorem dX10_slipWhen_65 : decode cX10_slipWhen 65 = .ok (.bipush 100, 2) := by decide +kernel
theorem dX10_slipWhen_67 : decode cX10_slipWhen 67 = .ok (.idiv, 1) := by decide +kernel
theorem dX10_slipWhen_68 : decode cX10_slipWhen 68 = .ok (.putfield 209, 3) := by decide +kernel
theorem dX10_slipWhen_71 : decode cX10_slipWhen 71 = .ok (.iconst 0, 1) := by decide +kernel
theorem dX10_slipWhen_72 : decode cX10_slipWhen 72 = .ok (.istore 6, 2) := by decide +kernel
theorem dX10_slipWhen_74 : decode cX10_slipWhen 74 = .ok (.iload 6, 2) := by decide +kernel
theorem dX10_slipWhen_76 : decode cX10_slipWhen 76 = .ok (.bipush 30, 2) := by decide +kernel
theorem dX10_slipWhen_78 : decode cX10_slipWhen 78 = .ok (.if_icmp .gt 64, 3) := by decide +kernel
theorem dX10_slipWhen_81 : decode cX10_slipWhen 81 = .ok (.aload_n 0, 1) := by decide +kernel
theorem dX10_slipWhen_82 : decode cX10_slipWhen 82 = .ok (.aload_n 0, 1) := by decide +kernel
theorem dX10_slipWhen_83 : decode cX10_slipWhen 83 = .ok (.getfield 7, 3) := by decide +kernel
theorem dX10_slipWhen_86 : decode cX10_slipWhen 86 = .ok (.bipush 93, 2) := by decide +kernel
theorem dX10_slipWhen_88 : decode cX10_slipWhen 88 = .ok (.iaload, 1) := by decide +kernel
theorem dX10_slipWhen_89 : decode cX10_slipWhen 89 = .ok (.iload 6, 2) := by decide +kernel
theorem dX10_slipWhen_91 : decode cX10_slipWhen 91 = .ok (.iadd, 1) := by decide +kernel
theorem dX10_slipWhen_92 : decode cX10_slipWhen 92 = .ok (.putfield 206, 3) := by decide +kernel
theorem dX10_slipWhen_95 : decode cX10_slipWhen 95 = .ok (.aload_n 0, 1) := by decide +kernel
theorem dX10_slipWhen_96 : decode cX10_slipWhen 96 = .ok (.iload_n 1, 1) := by decide +kernel
theorem dX10_slipWhen_97 : decode cX10_slipWhen 97 = .ok (.aload_n 0, 1) := by decide +kernel
theorem dX10_slipWhen_98 : decode cX10_slipWhen 98 = .ok (.iload_n 2, 1) := by decide +kernel
theorem dX10_slipWhen_99 : decode cX10_slipWhen 99 = .ok (.bipush 100, 2) := by decide +kernel
theorem dX10_slipWhen_101 : decode cX10_slipWhen 101 = .ok (.irem, 1) := by decide +kernel
theorem dX10_slipWhen_102 : decode cX10_slipWhen 102 = .ok (.iconst (-1), 1) := by decide +kernel
theorem dX10_slipWhen_103 : decode cX10_slipWhen 103 = .ok (.invokevirtual 241, 3) := by decide +kernel
theorem dX10_slipWhen_106 : decode cX10_slipWhen 106 = .ok (.invokevirtual 244, 3) := by decide +kernel
theorem dX10_slipWhen_109 : decode cX10_slipWhen 109 = .ok (.istore 7, 2) := by decide +kernel
theorem dX10_slipWhen_111 : decode cX10_slipWhen 111 = .ok (.iload 7, 2) := by decide +kernel
theorem dX10_slipWhen_113 : decode cX10_slipWhen 113 = .ok (.iload 5, 2) := by decide +kernel
theorem dX10_slipWhen_115 : decode cX10_slipWhen 115 = .ok (.if_icmp .ge 8, 3) := by decide +kernel
theorem dX10_slipWhen_118 : decode cX10_slipWhen 118 = .ok (.iload 6, 2) := by decide +kernel
theorem dX10_slipWhen_120 : decode cX10_slipWhen 120 = .ok (.goto 5, 3) := by decide +kernel
theorem dX10_slipWhen_123 : decode cX10_slipWhen 123 = .ok (.iload 4, 2) := by decide +kernel
theorem dX10_slipWhen_125 : decode cX10_slipWhen 125 = .ok (.istore 4, 2) := by decide +kernel
theorem dX10_slipWhen_127 : decode cX10_slipWhen 127 = .ok (.iload 7, 2) := by decide +kernel
theorem dX10_slipWhen_129 : decode cX10_slipWhen 129 = .ok (.iload 5, 2) := by decide +kernel
theorem dX10_slipWhen_131 : decode cX10_slipWhen 131 = .ok (.invokestatic 94, 3) := by decide +kernel
theorem dX10_slipWhen_134 : decode cX10_slipWhen 134 = .ok (.istore 5, 2) := by decide +kernel
theorem dX10_slipWhen_136 : decode cX10_slipWhen 136 = .ok (.iinc 6 1, 3) := by decide +kernel
theorem dX10_slipWhen_139 : decode cX10_slipWhen 139 = .ok (.goto (-65), 3) := by decide +kernel
theorem dX10_slipWhen_142 : decode cX10_slipWhen 142 = .ok (.aload_n 0, 1) := by decide +kernel
theorem dX10_slipWhen_143 : decode cX10_slipWhen 143 = .ok (.iconst (-1), 1) := by decide +kernel
theorem dX10_slipWhen_144 : decode cX10_slipWhen 144 = .ok (.putfield 47, 3) := by decide +kernel
theorem dX10_slipWhen_147 : decode cX10_slipWhen 147 = .ok (.iload_n 3, 1) := by decide +kernel
theorem dX10_slipWhen_148 : decode cX10_slipWhen 148 = .ok (.ifCond .ne 8, 3) := by decide +kernel
theorem dX10_slipWhen_151 : decode cX10_slipWhen 151 = .ok (.iload 4, 2) := by decide +kernel
theorem dX10_slipWhen_153 : decode cX10_slipWhen 153 = .ok (.goto 5, 3) := by decide +kernel
theorem dX10_slipWhen_156 : decode cX10_slipWhen 156 = .ok (.iload 5, 2) := by decide +kernel
theorem dX10_slipWhen_158 : decode cX10_slipWhen 158 = .ok (.ireturn, 1) := by decide +kernel
theorem dX10_held_0 : decode cX10_held 0 = .ok (.iload_n 1, 1) := by decide +kernel
theorem dX10_held_1 : decode cX10_held 1 = .ok (.iconst 0, 1) := by decide +kernel
theorem dX10_held_2 : decode cX10_held 2 = .ok (.iconst 1, 1) := by decide +kernel
theorem dX10_held_3 : decode cX10_held 3 = .ok (.invokestatic 106, 3) := by decide +kernel
theorem dX10_held_6 : decode cX10_held 6 = .ok (.ifCond .ne 5, 3) := by decide +kernel
theorem dX10_held_9 : decode cX10_held 9 = .ok (.iconst (-1), 1) := by decide +kernel
theorem dX10_held_10 : decode cX10_held 10 = .ok (.ireturn, 1) := by decide +kernel
theorem dX10_held_11 : decode cX10_held 11 = .ok (.aload_n 0, 1) := by decide +kernel
theorem dX10_held_12 : decode cX10_held 12 = .ok (.iconst 0, 1) := by decide +kernel
theorem dX10_held_13 : decode cX10_held 13 = .ok (.iconst (-1), 1) := by decide +kernel
theorem dX10_held_14 : decode cX10_held 14 = .ok (.invokevirtual 241, 3) := by decide +kernel
theorem dX10_held_17 : decode cX10_held 17 = .ok (.pop, 1) := by decide +kernel
theorem dX10_held_18 : decode cX10_held 18 = .ok (.bipush 9, 2) := by decide +kernel
theorem dX10_held_20 : decode cX10_held 20 = .ok (.istore_n 2, 1) := by decide +kernel
theorem dX10_held_21 : decode cX10_held 21 = .ok (.aload_n 0, 1) := by decide +kernel
theorem dX10_held_22 : decode cX10_held 22 = .ok (.getfield 238, 3) := by decide +kernel
theorem dX10_held_25 : decode cX10_held 25 = .ok (.istore_n 3, 1) := by decide +kernel
theorem dX10_held_26 : decode cX10_held 26 = .ok (.iconst 0, 1) := by decide +kernel
theorem dX10_held_27 : decode cX10_held 27 = .ok (.istore 4, 2) := by decide +kernel
theorem dX10_held_29 : decode cX10_held 29 = .ok (.iload 4, 2) := by decide +kernel
theorem dX10_held_31 : decode cX10_held 31 = .ok (.aload_n 0, 1) := by decide +kernel
theorem dX10_held_32 : decode cX10_held 32 = .ok (.getfield 103, 3) := by decide +kernel
theorem dX10_held_35 : decode cX10_held 35 = .ok (.if_icmp .ge 50, 3) := by decide +kernel
theorem dX10_held_38 : decode cX10_held 38 = .ok (.aload_n 0, 1) := by decide +kernel
theorem dX10_held_39 : decode cX10_held 39 = .ok (.iload 4, 2) := by decide +kernel
theorem dX10_held_41 : decode cX10_held 41 = .ok (.invokevirtual 197, 3) := by decide +kernel
theorem dX10_held_44 : decode cX10_held 44 = .ok (.ifCond .eq 35, 3) := by decide +kernel
theorem dX10_held_47 : decode cX10_held 47 = .ok (.aload_n 0, 1) := by decide +kernel
theorem dX10_held_48 : decode cX10_held 48 = .ok (.iconst 0, 1) := by decide +kernel
theorem dX10_held_49 : decode cX10_held 49 = .ok (.iload 4, 2) := by decide +kernel
theorem dX10_held_51 : decode cX10_held 51 = .ok (.invokevirtual 241, 3) := by decide +kernel
theorem dX10_held_54 : decode cX10_held 54 = .ok (.pop, 1) := by decide +kernel
theorem dX10_held_55 : decode cX10_held 55 = .ok (.aload_n 0, 1) := by decide +kernel
theorem dX10_held_56 : decode cX10_held 56 = .ok (.getfield 238, 3) := by decide +kernel
theorem dX10_held_59 : decode cX10_held 59 = .ok (.iload_n 3, 1) := by decide +kernel
theorem dX10_held_60 : decode cX10_held 60 = .ok (.if_icmp .ge 8, 3) := by decide +kernel
theorem dX10_held_63 : decode cX10_held 63 = .ok (.iload 4, 2) := by decide +kernel
theorem dX10_held_65 : decode cX10_held 65 = .ok (.goto 4, 3) := by decide +kernel
theorem dX10_held_68 : decode cX10_held 68 = .ok (.iload_n 2, 1) := by decide +kernel
theorem dX10_held_69 : decode cX10_held 69 = .ok (.istore_n 2, 1) := by decide +kernel
theorem dX10_held_70 : decode cX10_held 70 = .ok (.aload_n 0, 1) := by decide +kernel
theorem dX10_held_71 : decode cX10_held 71 = .ok (.getfield 238, 3) := by decide +kernel
theorem dX10_held_74 : decode cX10_held 74 = .ok (.iload_n 3, 1) := by decide +kernel
theorem dX10_held_75 : decode cX10_held 75 = .ok (.invokestatic 94, 3) := by decide +kernel
theorem dX10_held_78 : decode cX10_held 78 = .ok (.istore_n 3, 1) := by decide +kernel
theorem dX10_held_79 : decode cX10_held 79 = .ok (.iinc 4 1, 3) := by decide +kernel
theorem dX10_held_82 : decode cX10_held 82 = .ok (.goto (-53), 3) := by decide +kernel
theorem dX10_held_85 : decode cX10_held 85 = .ok (.iload_n 1, 1) := by decide +kernel
theorem dX10_held_86 : decode cX10_held 86 = .ok (.ifCond .ne 7, 3) := by decide +kernel
theorem dX10_held_89 : decode cX10_held 89 = .ok (.iload_n 2, 1) := by decide +kernel
theorem dX10_held_90 : decode cX10_held 90 = .ok (.goto 4, 3) := by decide +kernel
theorem dX10_held_93 : decode cX10_held 93 = .ok (.iload_n 3, 1) := by decide +kernel
theorem dX10_held_94 : decode cX10_held 94 = .ok (.ireturn, 1) := by decide +kernel
theorem dX10_gloves_0 : decode cX10_gloves 0 = .ok (.iconst 0, 1) := by decide +kernel
theorem dX10_gloves_1 : decode cX10_gloves 1 = .ok (.istore_n 3, 1) := by decide +kernel
theorem dX10_gloves_2 : decode cX10_gloves 2 = .ok (.iconst 0, 1) := by decide +kernel
theorem dX10_gloves_3 : decode cX10_gloves 3 = .ok (.istore 4, 2) := by decide +kernel
theorem dX10_gloves_5 : decode cX10_gloves 5 = .ok (.iload 4, 2) := by decide +kernel
theorem dX10_gloves_7 : decode cX10_gloves 7 = .ok (.aload_n 0, 1) := by decide +kernel
theorem dX10_gloves_8 : decode cX10_gloves 8 = .ok (.getfield 103, 3) := by decide +kernel
theorem dX10_gloves_11 : decode cX10_gloves 11 = .ok (.if_icmp .ge 48, 3) := by decide +kernel
theorem dX10_gloves_14 : decode cX10_gloves 14 = .ok (.iload_n 3, 1) := by decide +kernel
theorem dX10_gloves_15 : decode cX10_gloves 15 = .ok (.aload_n 0, 1) := by decide +kernel
theorem dX10_gloves_16 : decode cX10_gloves 16 = .ok (.iload 4, 2) := by decide +kernel
theorem dX10_gloves_18 : decode cX10_gloves 18 = .ok (.invokevirtual 197, 3) := by decide +kernel
theorem dX10_gloves_21 : decode cX10_gloves 21 = .ok (.ifCond .eq 29, 3) := by decide +kernel
theorem dX10_gloves_24 : decode cX10_gloves 24 = .ok (.aload_n 0, 1) := by decide +kernel
theorem dX10_gloves_25 : decode cX10_gloves 25 = .ok (.iload 4, 2) := by decide +kernel
theorem dX10_gloves_27 : decode cX10_gloves 27 = .ok (.iconst 3, 1) := by decide +kernel
theorem dX10_gloves_28 : decode cX10_gloves 28 = .ok (.invokevirtual 110, 3) := by decide +kernel
theorem dX10_gloves_31 : decode cX10_gloves 31 = .ok (.iload_n 1, 1) := by decide +kernel
theorem dX10_gloves_32 : decode cX10_gloves 32 = .ok (.if_icmp .ne 18, 3) := by decide +kernel
theorem dX10_gloves_35 : decode cX10_gloves 35 = .ok (.aload_n 0, 1) := by decide +kernel
theorem dX10_gloves_36 : decode cX10_gloves 36 = .ok (.iload 4, 2) := by decide +kernel
theorem dX10_gloves_38 : decode cX10_gloves 38 = .ok (.iconst 4, 1) := by decide +kernel
theorem dX10_gloves_39 : decode cX10_gloves 39 = .ok (.invokevirtual 110, 3) := by decide +kernel
theorem dX10_gloves_42 : decode cX10_gloves 42 = .ok (.iload_n 2, 1) := by decide +kernel
theorem dX10_gloves_43 : decode cX10_gloves 43 = .ok (.if_icmp .ne 7, 3) := by decide +kernel
theorem dX10_gloves_46 : decode cX10_gloves 46 = .ok (.iconst 1, 1) := by decide +kernel
theorem dX10_gloves_47 : decode cX10_gloves 47 = .ok (.goto 4, 3) := by decide +kernel
theorem dX10_gloves_50 : decode cX10_gloves 50 = .ok (.iconst 0, 1) := by decide +kernel
theorem dX10_gloves_51 : decode cX10_gloves 51 = .ok (.iadd, 1) := by decide +kernel
theorem dX10_gloves_52 : decode cX10_gloves 52 = .ok (.istore_n 3, 1) := by decide +kernel
theorem dX10_gloves_53 : decode cX10_gloves 53 = .ok (.iinc 4 1, 3) := by decide +kernel
theorem dX10_gloves_56 : decode cX10_gloves 56 = .ok (.goto (-51), 3) := by decide +kernel
theorem dX10_gloves_59 : decode cX10_gloves 59 = .ok (.iload_n 3, 1) := by decide +kernel
theorem dX10_gloves_60 : decode cX10_gloves 60 = .ok (.ireturn, 1) := by decide +kernel
theorem dX10_pairs_0 : decode cX10_pairs 0 = .ok (.iload_n 1, 1) := by decide +kernel
theorem dX10_pairs_1 : decode cX10_pairs 1 = .ok (.iconst 0, 1) := by decide +kernel
theorem dX10_pairs_2 : decode cX10_pairs 2 = .ok (.iconst 2, 1) := by decide +kernel
theorem dX10_pairs_3 : decode cX10_pairs 3 = .ok (.invokestatic 106, 3) := by decide +kernel
theorem dX10_pairs_6 : decode cX10_pairs 6 = .ok (.ifCond .ne 5, 3) := by decide +kernel
theorem dX10_pairs_9 : decode cX10_pairs 9 = .ok (.iconst (-1), 1) := by decide +kernel
theorem dX10_pairs_10 : decode cX10_pairs 10 = .ok (.ireturn, 1) := by decide +kernel
theorem dX10_pairs_11 : decode cX10_pairs 11 = .ok (.iconst 0, 1) := by decide +kernel
theorem dX10_pairs_12 : decode cX10_pairs 12 = .ok (.istore_n 2, 1) := by decide +kernel
theorem dX10_pairs_13 : decode cX10_pairs 13 = .ok (.bipush (-2), 2) := by decide +kernel
theorem dX10_pairs_15 : decode cX10_pairs 15 = .ok (.istore_n 3, 1) := by decide +kernel
theorem dX10_pairs_16 : decode cX10_pairs 16 = .ok (.bipush 9, 2) := by decide +kernel
theorem dX10_pairs_18 : decode cX10_pairs 18 = .ok (.istore 4, 2) := by decide +kernel
theorem dX10_pairs_20 : decode cX10_pairs 20 = .ok (.iload 4, 2) := by decide +kernel
theorem dX10_pairs_22 : decode cX10_pairs 22 = .ok (.iconst 5, 1) := by decide +kernel
theorem dX10_pairs_23 : decode cX10_pairs 23 = .ok (.if_icmp .lt 51, 3) := by decide +kernel
theorem dX10_pairs_26 : decode cX10_pairs 26 = .ok (.aload_n 0, 1) := by decide +kernel
theorem dX10_pairs_27 : decode cX10_pairs 27 = .ok (.iconst 0, 1) := by decide +kernel
theorem dX10_pairs_28 : decode cX10_pairs 28 = .ok (.iload 4, 2) := by decide +kernel
theorem dX10_pairs_30 : decode cX10_pairs 30 = .ok (.invokevirtual 247, 3) := by decide +kernel
theorem dX10_pairs_33 : decode cX10_pairs 33 = .ok (.istore 5, 2) := by decide +kernel
theorem dX10_pairs_35 : decode cX10_pairs 35 = .ok (.aload_n 0, 1) := by decide +kernel
theorem dX10_pairs_36 : decode cX10_pairs 36 = .ok (.iconst 1, 1) := by decide +kernel
theorem dX10_pairs_37 : decode cX10_pairs 37 = .ok (.iload 4, 2) := by decide +kernel
theorem dX10_pairs_39 : decode cX10_pairs 39 = .ok (.invokevirtual 247, 3) := by decide +kernel
theorem dX10_pairs_42 : decode cX10_pairs 42 = .ok (.istore 6, 2) := by decide +kernel
theorem dX10_pairs_44 : decode cX10_pairs 44 = .ok (.iload_n 2, 1) := by decide +kernel
theorem dX10_pairs_45 : decode cX10_pairs 45 = .ok (.iload 5, 2) := by decide +kernel
theorem dX10_pairs_47 : decode cX10_pairs 47 = .ok (.iload 6, 2) := by decide +kernel
theorem dX10_pairs_49 : decode cX10_pairs 49 = .ok (.invokestatic 94, 3) := by decide +kernel
theorem dX10_pairs_52 : decode cX10_pairs 52 = .ok (.iadd, 1) := by decide +kernel
theorem dX10_pairs_53 : decode cX10_pairs 53 = .ok (.istore_n 2, 1) := by decide +kernel
theorem dX10_pairs_54 : decode cX10_pairs 54 = .ok (.iload 5, 2) := by decide +kernel
theorem dX10_pairs_56 : decode cX10_pairs 56 = .ok (.iload 6, 2) := by decide +kernel
theorem dX10_pairs_58 : decode cX10_pairs 58 = .ok (.if_icmp .eq 8, 3) := by decide +kernel
theorem dX10_pairs_61 : decode cX10_pairs 61 = .ok (.iload 4, 2) := by decide +kernel
theorem dX10_pairs_63 : decode cX10_pairs 63 = .ok (.goto 4, 3) := by decide +kernel
theorem dX10_pairs_66 : decode cX10_pairs 66 = .ok (.iload_n 3, 1) := by decide +kernel
theorem dX10_pairs_67 : decode cX10_pairs 67 = .ok (.istore_n 3, 1) := by decide +kernel
theorem dX10_pairs_68 : decode cX10_pairs 68 = .ok (.iinc 4 (-1), 3) := by decide +kernel
theorem dX10_pairs_71 : decode cX10_pairs 71 = .ok (.goto (-51), 3) := by decide +kernel
theorem dX10_pairs_74 : decode cX10_pairs 74 = .ok (.iload_n 1, 1) := by decide +kernel
theorem dX10_pairs_75 : decode cX10_pairs 75 = .ok (.ifCond .ne 7, 3) := by decide +kernel
theorem dX10_pairs_78 : decode cX10_pairs 78 = .ok (.iload_n 2, 1) := by decide +kernel
theorem dX10_pairs_79 : decode cX10_pairs 79 = .ok (.goto 20, 3) := by decide +kernel
theorem dX10_pairs_82 : decode cX10_pairs 82 = .ok (.iload_n 1, 1) := by decide +kernel
theorem dX10_pairs_83 : decode cX10_pairs 83 = .ok (.iconst 1, 1) := by decide +kernel
theorem dX10_pairs_84 : decode cX10_pairs 84 = .ok (.if_icmp .ne 14, 3) := by decide +kernel
theorem dX10_pairs_87 : decode cX10_pairs 87 = .ok (.aload_n 0, 1) := by decide +kernel
theorem dX10_pairs_88 : decode cX10_pairs 88 = .ok (.invokevirtual 203, 3) := by decide +kernel
theorem dX10_pairs_91 : decode cX10_pairs 91 = .ok (.iconst 2, 1) := by decide +kernel
theorem dX10_pairs_92 : decode cX10_pairs 92 = .ok (.iload_n 2, 1) := by decide +kernel
theorem dX10_pairs_93 : decode cX10_pairs 93 = .ok (.imul, 1) := by decide +kernel
theorem dX10_pairs_94 : decode cX10_pairs 94 = .ok (.isub, 1) := by decide +kernel
theorem dX10_pairs_95 : decode cX10_pairs 95 = .ok (.goto 4, 3) := by decide +kernel
theorem dX10_pairs_98 : decode cX10_pairs 98 = .ok (.iload_n 3, 1) := by decide +kernel
theorem dX10_pairs_99 : decode cX10_pairs 99 = .ok (.ireturn, 1) := by decide +kernel
theorem dX10_isShelf_0 : decode cX10_isShelf 0 = .ok (.iload_n 0, 1) := by decide +kernel
theorem dX10_isShelf_1 : decode cX10_isShelf 1 = .ok (.iconst 0, 1) := by decide +kernel
theorem dX10_isShelf_2 : decode cX10_isShelf 2 = .ok (.iconst 5, 1) := by decide +kernel
theorem dX10_isShelf_3 : decode cX10_isShelf 3 = .ok (.invokestatic 106, 3) := by decide +kernel
theorem dX10_isShelf_6 : decode cX10_isShelf 6 = .ok (.ireturn, 1) := by decide +kernel
theorem dX10_bytesIn_0 : decode cX10_bytesIn 0 = .ok (.aload_n 0, 1) := by decide +kernel
theorem dX10_bytesIn_1 : decode cX10_bytesIn 1 = .ok (.getfield 60, 3) := by decide +kernel
theorem dX10_bytesIn_4 : decode cX10_bytesIn 4 = .ok (.iload_n 1, 1) := by decide +kernel
theorem dX10_bytesIn_5 : decode cX10_bytesIn 5 = .ok (.iaload, 1) := by decide +kernel
theorem dX10_bytesIn_6 : decode cX10_bytesIn 6 = .ok (.iconst (-1), 1) := by decide +kernel
theorem dX10_bytesIn_7 : decode cX10_bytesIn 7 = .ok (.if_icmp .ne 8, 3) := by decide +kernel
theorem dX10_bytesIn_10 : decode cX10_bytesIn 10 = .ok (.bipush (-11), 2) := by decide +kernel
theorem dX10_bytesIn_12 : decode cX10_bytesIn 12 = .ok (.goto 18, 3) := by decide +kernel
theorem dX10_bytesIn_15 : decode cX10_bytesIn 15 = .ok (.aload_n 0, 1) := by decide +kernel
theorem dX10_bytesIn_16 : decode cX10_bytesIn 16 = .ok (.getfield 60, 3) := by decide +kernel
theorem dX10_bytesIn_19 : decode cX10_bytesIn 19 = .ok (.iload_n 1, 1) := by decide +kernel
theorem dX10_bytesIn_20 : decode cX10_bytesIn 20 = .ok (.iaload, 1) := by decide +kernel
theorem dX10_bytesIn_21 : decode cX10_bytesIn 21 = .ok (.ifCond .eq 8, 3) := by decide +kernel
theorem dX10_bytesIn_24 : decode cX10_bytesIn 24 = .ok (.bipush (-12), 2) := by decide +kernel
theorem dX10_bytesIn_26 : decode cX10_bytesIn 26 = .ok (.goto 4, 3) := by decide +kernel
theorem dX10_bytesIn_29 : decode cX10_bytesIn 29 = .ok (.iconst 1, 1) := by decide +kernel
theorem dX10_bytesIn_30 : decode cX10_bytesIn 30 = .ok (.ireturn, 1) := by decide +kernel
theorem dX10_byteAt_0 : decode cX10_byteAt 0 = .ok (.iload_n 2, 1) := by decide +kernel
theorem dX10_byteAt_1 : decode cX10_byteAt 1 = .ok (.aload_n 0, 1) := by decide +kernel
theorem dX10_byteAt_2 : decode cX10_byteAt 2 = .ok (.getfield 63, 3) := by decide +kernel
theorem dX10_byteAt_5 : decode cX10_byteAt 5 = .ok (.iload_n 1, 1) := by decide +kernel
theorem dX10_byteAt_6 : decode cX10_byteAt 6 = .ok (.iaload, 1) := by decide +kernel
theorem dX10_byteAt_7 : decode cX10_byteAt 7 = .ok (.if_icmp .ge 18, 3) := by decide +kernel
theorem dX10_byteAt_10 : decode cX10_byteAt 10 = .ok (.aload_n 0, 1) := by decide +kernel
theorem dX10_byteAt_11 : decode cX10_byteAt 11 = .ok (.getfield 66, 3) := by decide +kernel
theorem dX10_byteAt_14 : decode cX10_byteAt 14 = .ok (.bipush 60, 2) := by decide +kernel
theorem dX10_byteAt_16 : decode cX10_byteAt 16 = .ok (.iload_n 1, 1) := by decide +kernel
theorem dX10_byteAt_17 : decode cX10_byteAt 17 = .ok (.imul, 1) := by decide +kernel
theorem dX10_byteAt_18 : decode cX10_byteAt 18 = .ok (.iload_n 2, 1) := by decide +kernel
theorem dX10_byteAt_19 : decode cX10_byteAt 19 = .ok (.iadd, 1) := by decide +kernel
theorem dX10_byteAt_20 : decode cX10_byteAt 20 = .ok (.laload, 1) := by decide +kernel
theorem dX10_byteAt_21 : decode cX10_byteAt 21 = .ok (.l2i, 1) := by decide +kernel
theorem dX10_byteAt_22 : decode cX10_byteAt 22 = .ok (.goto 4, 3) := by decide +kernel
theorem dX10_byteAt_25 : decode cX10_byteAt 25 = .ok (.iconst (-1), 1) := by decide +kernel
theorem dX10_byteAt_26 : decode cX10_byteAt 26 = .ok (.ireturn, 1) := by decide +kernel
theorem dX10_guests_0 : decode cX10_guests 0 = .ok (.iload_n 1, 1) := by decide +kernel
theorem dX10_guests_1 : decode cX10_guests 1 = .ok (.invokestatic 250, 3) := by decide +kernel
theorem dX10_guests_4 : decode cX10_guests 4 = .ok (.ifCond .eq 13, 3) := by decide +kernel
theorem dX10_guests_7 : decode cX10_guests 7 = .ok (.iload_n 3, 1) := by decide +kernel
theorem dX10_guests_8 : decode cX10_guests 8 = .ok (.iconst 1, 1) := by decide +kernel
theorem dX10_guests_9 : decode cX10_guests 9 = .ok (.bipush 9, 2) := by decide +kernel
theorem dX10_guests_11 : decode cX10_guests 11 = .ok (.invokestatic 106, 3) := by decide +kernel
theorem dX10_guests_14 : decode cX10_guests 14 = .ok (.ifCond .ne 5, 3) := by decide +kernel
theorem dX10_guests_17 : decode cX10_guests 17 = .ok (.iconst (-1), 1) := by decide +kernel
theorem dX10_guests_18 : decode cX10_guests 18 = .ok (.ireturn, 1) := by decide +kernel
theorem dX10_guests_19 : decode cX10_guests 19 = .ok (.aload_n 0, 1) := by decide +kernel
theorem dX10_guests_20 : decode cX10_guests 20 = .ok (.getfield 60, 3) := by decide +kernel
theorem dX10_guests_23 : decode cX10_guests 23 = .ok (.iload_n 1, 1) := by decide +kernel
theorem dX10_guests_24 : decode cX10_guests 24 = .ok (.iaload, 1) := by decide +kernel
theorem dX10_guests_25 : decode cX10_guests 25 = .ok (.ifCond .le 6, 3) := by decide +kernel
theorem dX10_guests_28 : decode cX10_guests 28 = .ok (.bipush (-12), 2) := by decide +kernel
theorem dX10_guests_30 : decode cX10_guests 30 = .ok (.ireturn, 1) := by decide +kernel
theorem dX10_guests_31 : decode cX10_guests 31 = .ok (.iconst 0, 1) := by decide +kernel
theorem dX10_guests_32 : decode cX10_guests 32 = .ok (.istore 4, 2) := by decide +kernel
theorem dX10_guests_34 : decode cX10_guests 34 = .ok (.iconst 0, 1) := by decide +kernel
theorem dX10_guests_35 : decode cX10_guests 35 = .ok (.istore 5, 2) := by decide +kernel
theorem dX10_guests_37 : decode cX10_guests 37 = .ok (.iload 5, 2) := by decide +kernel
theorem dX10_guests_39 : decode cX10_guests 39 = .ok (.iload_n 3, 1) := by decide +kernel
theorem dX10_guests_40 : decode cX10_guests 40 = .ok (.if_icmp .ge 175, 3) := by decide +kernel
theorem dX10_guests_43 : decode cX10_guests 43 = .ok (.iload 4, 2) := by decide +kernel
theorem dX10_guests_45 : decode cX10_guests 45 = .ok (.iload 5, 2) := by decide +kernel
theorem dX10_guests_47 : decode cX10_guests 47 = .ok (.if_icmp .ne 168, 3) := by decide +kernel
theorem dX10_guests_50 : decode cX10_guests 50 = .ok (.aload_n 0, 1) := by decide +kernel
theorem dX10_guests_51 : decode cX10_guests 51 = .ok (.getfield 103, 3) := by decide +kernel
theorem dX10_guests_54 : decode cX10_guests 54 = .ok (.bipush 9, 2) := by decide +kernel
theorem dX10_guests_56 : decode cX10_guests 56 = .ok (.if_icmp .ge 159, 3) := by decide +kernel
theorem dX10_guests_59 : decode cX10_guests 59 = .ok (.iload_n 2, 1) := by decide +kernel
theorem dX10_guests_60 : decode cX10_guests 60 = .ok (.i2l, 1) := by decide +kernel
theorem dX10_guests_61 : decode cX10_guests 61 = .ok (.ldc2_w 253, 3) := by decide +kernel
theorem dX10_guests_64 : decode cX10_guests 64 = .ok (.iload 5, 2) := by decide +kernel
theorem dX10_guests_66 : decode cX10_guests 66 = .ok (.i2l, 1) := by decide +kernel
theorem dX10_guests_67 : decode cX10_guests 67 = .ok (.lmul, 1) := by decide +kernel
theorem dX10_guests_68 : decode cX10_guests 68 = .ok (.ladd, 1) := by decide +kernel
theorem dX10_guests_69 : decode cX10_guests 69 = .ok (.lstore 6, 2) := by decide +kernel
theorem dX10_guests_71 : decode cX10_guests 71 = .ok (.aload_n 0, 1) := by decide +kernel
theorem dX10_guests_72 : decode cX10_guests 72 = .ok (.getfield 60, 3) := by decide +kernel
theorem dX10_guests_75 : decode cX10_guests 75 = .ok (.iload_n 1, 1) := by decide +kernel
theorem dX10_guests_76 : decode cX10_guests 76 = .ok (.iaload, 1) := by decide +kernel
theorem dX10_guests_77 : decode cX10_guests 77 = .ok (.ifCond .ne 132, 3) := by decide +kernel
theorem dX10_guests_80 : decode cX10_guests 80 = .ok (.iload_n 2, 1) := by decide +kernel
theorem dX10_guests_81 : decode cX10_guests 81 = .ok (.ifCond .lt 128, 3) := by decide +kernel
theorem dX10_guests_84 : decode cX10_guests 84 = .ok (.lload 6, 2) := by decide +kernel
theorem dX10_guests_86 : decode cX10_guests 86 = .ok (.ldc2_w 255, 3) := by decide +kernel
theorem dX10_guests_89 : decode cX10_guests 89 = .ok (.ladd, 1) := by decide +kernel
theorem dX10_guests_90 : decode cX10_guests 90 = .ok (.aload_n 0, 1) := by decide +kernel
theorem dX10_guests_91 : decode cX10_guests 91 = .ok (.getfield 63, 3) := by decide +kernel
theorem dX10_guests_94 : decode cX10_guests 94 = .ok (.iload_n 1, 1) := by decide +kernel
theorem dX10_guests_95 : decode cX10_guests 95 = .ok (.iaload, 1) := by decide +kernel
theorem dX10_guests_96 : decode cX10_guests 96 = .ok (.i2l, 1) := by decide +kernel
theorem dX10_guests_97 : decode cX10_guests 97 = .ok (.lcmp, 1) := by decide +kernel
theorem dX10_guests_98 : decode cX10_guests 98 = .ok (.ifCond .ge 111, 3) := by decide +kernel
theorem dX10_guests_101 : decode cX10_guests 101 = .ok (.lload 6, 2) := by decide +kernel
theorem dX10_guests_103 : decode cX10_guests 103 = .ok (.l2i, 1) := by decide +kernel
theorem dX10_guests_104 : decode cX10_guests 104 = .ok (.istore 8, 2) := by decide +kernel
theorem dX10_guests_106 : decode cX10_guests 106 = .ok (.aload_n 0, 1) := by decide +kernel
theorem dX10_guests_107 : decode cX10_guests 107 = .ok (.iload_n 1, 1) := by decide +kernel
theorem dX10_guests_108 : decode cX10_guests 108 = .ok (.iload 8, 2) := by decide +kernel
theorem dX10_guests_110 : decode cX10_guests 110 = .ok (.invokevirtual 257, 3) := by decide +kernel
theorem dX10_guests_113 : decode cX10_guests 113 = .ok (.istore 9, 2) := by decide +kernel
theorem dX10_guests_115 : decode cX10_guests 115 = .ok (.aload_n 0, 1) := by decide +kernel
theorem dX10_guests_116 : decode cX10_guests 116 = .ok (.iload_n 1, 1) := by decide +kernel
theorem dX10_guests_117 : decode cX10_guests 117 = .ok (.iload 8, 2) := by decide +kernel
theorem dX10_guests_119 : decode cX10_guests 119 = .ok (.iconst 1, 1) := by decide +kernel
theorem dX10_guests_120 : decode cX10_guests 120 = .ok (.iadd, 1) := by decide +kernel
theorem dX10_guests_121 : decode cX10_guests 121 = .ok (.invokevirtual 257, 3) := by decide +kernel
theorem dX10_guests_124 : decode cX10_guests 124 = .ok (.istore 10, 2) := by decide +kernel
theorem dX10_guests_126 : decode cX10_guests 126 = .ok (.aload_n 0, 1) := by decide +kernel
theorem dX10_guests_127 : decode cX10_guests 127 = .ok (.iload_n 1, 1) := by decide +kernel
theorem dX10_guests_128 : decode cX10_guests 128 = .ok (.iload 8, 2) := by decide +kernel
theorem dX10_guests_130 : decode cX10_guests 130 = .ok (.iconst 2, 1) := by decide +kernel
theorem dX10_guests_131 : decode cX10_guests 131 = .ok (.iadd, 1) := by decide +kernel
theorem dX10_guests_132 : decode cX10_guests 132 = .ok (.invokevirtual 257, 3) := by decide +kernel
theorem dX10_guests_135 : decode cX10_guests 135 = .ok (.istore 11, 2) := by decide +kernel
theorem dX10_guests_137 : decode cX10_guests 137 = .ok (.aload_n 0, 1) := by decide +kernel
theorem dX10_guests_138 : decode cX10_guests 138 = .ok (.iload_n 1, 1) := by decide +kernel
theorem dX10_guests_139 : decode cX10_guests 139 = .ok (.iload 8, 2) := by decide +kernel
theorem dX10_guests_141 : decode cX10_guests 141 = .ok (.iconst 3, 1) := by decide +kernel
theorem dX10_guests_142 : decode cX10_guests 142 = .ok (.iadd, 1) := by decide +kernel
theorem dX10_guests_143 : decode cX10_guests 143 = .ok (.invokevirtual 257, 3) := by decide +kernel
theorem dX10_guests_146 : decode cX10_guests 146 = .ok (.istore 12, 2) := by decide +kernel
theorem dX10_guests_148 : decode cX10_guests 148 = .ok (.iload 9, 2) := by decide +kernel
theorem dX10_guests_150 : decode cX10_guests 150 = .ok (.iconst 0, 1) := by decide +kernel
theorem dX10_guests_151 : decode cX10_guests 151 = .ok (.bipush 99, 2) := by decide +kernel
theorem dX10_guests_153 : decode cX10_guests 153 = .ok (.invokestatic 106, 3) := by decide +kernel
theorem dX10_guests_156 : decode cX10_guests 156 = .ok (.ifCond .eq 53, 3) := by decide +kernel
theorem dX10_guests_159 : decode cX10_guests 159 = .ok (.iload 10, 2) := by decide +kernel
theorem dX10_guests_161 : decode cX10_guests 161 = .ok (.iconst 0, 1) := by decide +kernel
theorem dX10_guests_162 : decode cX10_guests 162 = .ok (.bipush 9, 2) := by decide +kernel
theorem dX10_guests_164 : decode cX10_guests 164 = .ok (.invokestatic 106, 3) := by decide +kernel
theorem dX10_guests_167 : decode cX10_guests 167 = .ok (.ifCond .eq 42, 3) := by decide +kernel
theorem dX10_guests_170 : decode cX10_guests 170 = .ok (.iload 11, 2) := by decide +kernel
theorem dX10_guests_172 : decode cX10_guests 172 = .ok (.iconst 0, 1) := by decide +kernel
theorem dX10_guests_173 : decode cX10_guests 173 = .ok (.bipush 9, 2) := by decide +kernel
theorem dX10_guests_175 : decode cX10_guests 175 = .ok (.invokestatic 106, 3) := by decide +kernel
theorem dX10_guests_178 : decode cX10_guests 178 = .ok (.ifCond .eq 31, 3) := by decide +kernel
theorem dX10_guests_181 : decode cX10_guests 181 = .ok (.iload 12, 2) := by decide +kernel
theorem dX10_guests_183 : decode cX10_guests 183 = .ok (.iconst 0, 1) := by decide +kernel
theorem dX10_guests_184 : decode cX10_guests 184 = .ok (.iconst 1, 1) := by decide +kernel
theorem dX10_guests_185 : decode cX10_guests 185 = .ok (.invokestatic 106, 3) := by decide +kernel
theorem dX10_guests_188 : decode cX10_guests 188 = .ok (.ifCond .eq 21, 3) := by decide +kernel
theorem dX10_guests_191 : decode cX10_guests 191 = .ok (.aload_n 0, 1) := by decide +kernel
theorem dX10_guests_192 : decode cX10_guests 192 = .ok (.iload 9, 2) := by decide +kernel
theorem dX10_guests_194 : decode cX10_guests 194 = .ok (.iload 10, 2) := by decide +kernel
theorem dX10_guests_196 : decode cX10_guests 196 = .ok (.iload 11, 2) := by decide +kernel
theorem dX10_guests_198 : decode cX10_guests 198 = .ok (.iload 12, 2) := by decide +kernel
theorem dX10_guests_200 : decode cX10_guests 200 = .ok (.bipush 7, 2) := by decide +kernel
theorem dX10_guests_202 : decode cX10_guests 202 = .ok (.invokevirtual 117, 3) := by decide +kernel
theorem dX10_guests_205 : decode cX10_guests 205 = .ok (.pop, 1) := by decide +kernel
theorem dX10_guests_206 : decode cX10_guests 206 = .ok (.iinc 4 1, 3) := by decide +kernel
theorem dX10_guests_209 : decode cX10_guests 209 = .ok (.iinc 5 1, 3) := by decide +kernel
theorem dX10_guests_212 : decode cX10_guests 212 = .ok (.goto (-175), 3) := by decide +kernel
theorem dX10_guests_215 : decode cX10_guests 215 = .ok (.iload 4, 2) := by decide +kernel
theorem dX10_guests_217 : decode cX10_guests 217 = .ok (.ireturn, 1) := by decide +kernel
theorem dX10_wrong_0 : decode cX10_wrong 0 = .ok (.aload_n 0, 1) := by decide +kernel
theorem dX10_wrong_1 : decode cX10_wrong 1 = .ok (.iconst 0, 1) := by decide +kernel
theorem dX10_wrong_2 : decode cX10_wrong 2 = .ok (.iconst (-1), 1) := by decide +kernel
theorem dX10_wrong_3 : decode cX10_wrong 3 = .ok (.invokevirtual 241, 3) := by decide +kernel
theorem dX10_wrong_6 : decode cX10_wrong 6 = .ok (.istore_n 2, 1) := by decide +kernel
theorem dX10_wrong_7 : decode cX10_wrong 7 = .ok (.iconst 0, 1) := by decide +kernel
theorem dX10_wrong_8 : decode cX10_wrong 8 = .ok (.istore_n 3, 1) := by decide +kernel
theorem dX10_wrong_9 : decode cX10_wrong 9 = .ok (.iload_n 3, 1) := by decide +kernel
theorem dX10_wrong_10 : decode cX10_wrong 10 = .ok (.bipush 9, 2) := by decide +kernel
theorem dX10_wrong_12 : decode cX10_wrong 12 = .ok (.aload_n 0, 1) := by decide +kernel
theorem dX10_wrong_13 : decode cX10_wrong 13 = .ok (.getfield 63, 3) := by decide +kernel
theorem dX10_wrong_16 : decode cX10_wrong 16 = .ok (.iload_n 1, 1) := by decide +kernel
theorem dX10_wrong_17 : decode cX10_wrong 17 = .ok (.iaload, 1) := by decide +kernel
theorem dX10_wrong_18 : decode cX10_wrong 18 = .ok (.invokestatic 94, 3) := by decide +kernel
theorem dX10_wrong_21 : decode cX10_wrong 21 = .ok (.if_icmp .ge 42, 3) := by decide +kernel
theorem dX10_wrong_24 : decode cX10_wrong 24 = .ok (.iload_n 3, 1) := by decide +kernel
theorem dX10_wrong_25 : decode cX10_wrong 25 = .ok (.iload_n 2, 1) := by decide +kernel
theorem dX10_wrong_26 : decode cX10_wrong 26 = .ok (.if_icmp .ge 29, 3) := by decide +kernel
theorem dX10_wrong_29 : decode cX10_wrong 29 = .ok (.aload_n 0, 1) := by decide +kernel
theorem dX10_wrong_30 : decode cX10_wrong 30 = .ok (.iload_n 1, 1) := by decide +kernel
theorem dX10_wrong_31 : decode cX10_wrong 31 = .ok (.iload_n 3, 1) := by decide +kernel
theorem dX10_wrong_32 : decode cX10_wrong 32 = .ok (.invokevirtual 257, 3) := by decide +kernel
theorem dX10_wrong_35 : decode cX10_wrong 35 = .ok (.bipush 9, 2) := by decide +kernel
theorem dX10_wrong_37 : decode cX10_wrong 37 = .ok (.if_icmp .eq 20, 3) := by decide +kernel
theorem dX10_wrong_40 : decode cX10_wrong 40 = .ok (.aload_n 0, 1) := by decide +kernel
theorem dX10_wrong_41 : decode cX10_wrong 41 = .ok (.iload_n 1, 1) := by decide +kernel
theorem dX10_wrong_42 : decode cX10_wrong 42 = .ok (.iload_n 3, 1) := by decide +kernel
theorem dX10_wrong_43 : decode cX10_wrong 43 = .ok (.invokevirtual 257, 3) := by decide +kernel
theorem dX10_wrong_46 : decode cX10_wrong 46 = .ok (.aload_n 0, 1) := by decide +kernel
theorem dX10_wrong_47 : decode cX10_wrong 47 = .ok (.getfield 57, 3) := by decide +kernel
theorem dX10_wrong_50 : decode cX10_wrong 50 = .ok (.iload_n 3, 1) := by decide +kernel
theorem dX10_wrong_51 : decode cX10_wrong 51 = .ok (.iaload, 1) := by decide +kernel
theorem dX10_wrong_52 : decode cX10_wrong 52 = .ok (.if_icmp .eq 5, 3) := by decide +kernel
theorem dX10_wrong_55 : decode cX10_wrong 55 = .ok (.iload_n 3, 1) := by decide +kernel
theorem dX10_wrong_56 : decode cX10_wrong 56 = .ok (.ireturn, 1) := by decide +kernel
theorem dX10_wrong_57 : decode cX10_wrong 57 = .ok (.iinc 3 1, 3) := by decide +kernel
theorem dX10_wrong_60 : decode cX10_wrong 60 = .ok (.goto (-51), 3) := by decide +kernel
theorem dX10_wrong_63 : decode cX10_wrong 63 = .ok (.bipush (-2), 2) := by decide +kernel
theorem dX10_wrong_65 : decode cX10_wrong 65 = .ok (.ireturn, 1) := by decide +kernel
theorem dX10_judge_0 : decode cX10_judge 0 = .ok (.iload_n 1, 1) := by decide +kernel
theorem dX10_judge_1 : decode cX10_judge 1 = .ok (.invokestatic 250, 3) := by decide +kernel
theorem dX10_judge_4 : decode cX10_judge 4 = .ok (.ifCond .ne 5, 3) := by decide +kernel
theorem dX10_judge_7 : decode cX10_judge 7 = .ok (.iconst (-1), 1) := by decide +kernel
theorem dX10_judge_8 : decode cX10_judge 8 = .ok (.ireturn, 1) := by decide +kernel
theorem dX10_judge_9 : decode cX10_judge 9 = .ok (.aload_n 0, 1) := by decide +kernel
theorem dX10_judge_10 : decode cX10_judge 10 = .ok (.iload_n 1, 1) := by decide +kernel
theorem dX10_judge_11 : decode cX10_judge 11 = .ok (.invokevirtual 260, 3) := by decide +kernel
theorem dX10_judge_14 : decode cX10_judge 14 = .ok (.iconst 1, 1) := by decide +kernel
theorem dX10_judge_15 : decode cX10_judge 15 = .ok (.if_icmp .ge 11, 3) := by decide +kernel
theorem dX10_judge_18 : decode cX10_judge 18 = .ok (.aload_n 0, 1) := by decide +kernel
theorem dX10_judge_19 : decode cX10_judge 19 = .ok (.iload_n 1, 1) := by decide +kernel
theorem dX10_judge_20 : decode cX10_judge 20 = .ok (.invokevirtual 260, 3) := by decide +kernel
theorem dX10_judge_23 : decode cX10_judge 23 = .ok (.goto 8, 3) := by decide +kernel
theorem dX10_judge_26 : decode cX10_judge 26 = .ok (.aload_n 0, 1) := by decide +kernel
theorem dX10_judge_27 : decode cX10_judge 27 = .ok (.iload_n 1, 1) := by decide +kernel
theorem dX10_judge_28 : decode cX10_judge 28 = .ok (.invokevirtual 263, 3) := by decide +kernel
theorem dX10_judge_31 : decode cX10_judge 31 = .ok (.ireturn, 1) := by decide +kernel
theorem dX10_fits_0 : decode cX10_fits 0 = .ok (.iload_n 1, 1) := by decide +kernel
theorem dX10_fits_1 : decode cX10_fits 1 = .ok (.invokestatic 250, 3) := by decide +kernel
theorem dX10_fits_4 : decode cX10_fits 4 = .ok (.ifCond .eq 20, 3) := by decide +kernel
theorem dX10_fits_7 : decode cX10_fits 7 = .ok (.aload_n 0, 1) := by decide +kernel
theorem dX10_fits_8 : decode cX10_fits 8 = .ok (.iload_n 2, 1) := by decide +kernel
theorem dX10_fits_9 : decode cX10_fits 9 = .ok (.invokevirtual 124, 3) := by decide +kernel
theorem dX10_fits_12 : decode cX10_fits 12 = .ok (.ifCond .eq 12, 3) := by decide +kernel
theorem dX10_fits_15 : decode cX10_fits 15 = .ok (.iload_n 3, 1) := by decide +kernel
theorem dX10_fits_16 : decode cX10_fits 16 = .ok (.iconst 0, 1) := by decide +kernel
theorem dX10_fits_17 : decode cX10_fits 17 = .ok (.iconst 5, 1) := by decide +kernel
theorem dX10_fits_18 : decode cX10_fits 18 = .ok (.invokestatic 106, 3) := by decide +kernel
theorem dX10_fits_21 : decode cX10_fits 21 = .ok (.ifCond .ne 5, 3) := by decide +kernel
theorem dX10_fits_24 : decode cX10_fits 24 = .ok (.iconst (-1), 1) := by decide +kernel
theorem dX10_fits_25 : decode cX10_fits 25 = .ok (.ireturn, 1) := by decide +kernel
theorem dX10_fits_26 : decode cX10_fits 26 = .ok (.aload_n 0, 1) := by decide +kernel
theorem dX10_fits_27 : decode cX10_fits 27 = .ok (.iload_n 1, 1) := by decide +kernel
theorem dX10_fits_28 : decode cX10_fits 28 = .ok (.invokevirtual 260, 3) := by decide +kernel
theorem dX10_fits_31 : decode cX10_fits 31 = .ok (.iconst 1, 1) := by decide +kernel
theorem dX10_fits_32 : decode cX10_fits 32 = .ok (.if_icmp .ge 9, 3) := by decide +kernel
theorem dX10_fits_35 : decode cX10_fits 35 = .ok (.aload_n 0, 1) := by decide +kernel
theorem dX10_fits_36 : decode cX10_fits 36 = .ok (.iload_n 1, 1) := by decide +kernel
theorem dX10_fits_37 : decode cX10_fits 37 = .ok (.invokevirtual 260, 3) := by decide +kernel
theorem dX10_fits_40 : decode cX10_fits 40 = .ok (.ireturn, 1) := by decide +kernel
theorem dX10_fits_41 : decode cX10_fits 41 = .ok (.iload_n 3, 1) := by decide +kernel
theorem dX10_fits_42 : decode cX10_fits 42 = .ok (.iconst 2, 1) := by decide +kernel
theorem dX10_fits_43 : decode cX10_fits 43 = .ok (.if_icmp .ge 7, 3) := by decide +kernel
theorem dX10_fits_46 : decode cX10_fits 46 = .ok (.iconst 2, 1) := by decide +kernel
theorem dX10_fits_47 : decode cX10_fits 47 = .ok (.goto 13, 3) := by decide +kernel
theorem dX10_fits_50 : decode cX10_fits 50 = .ok (.iload_n 3, 1) := by decide +kernel
theorem dX10_fits_51 : decode cX10_fits 51 = .ok (.iconst 4, 1) := by decide +kernel
theorem dX10_fits_52 : decode cX10_fits 52 = .ok (.if_icmp .ge 7, 3) := by decide +kernel
theorem dX10_fits_55 : decode cX10_fits 55 = .ok (.iconst 1, 1) := by decide +kernel
theorem dX10_fits_56 : decode cX10_fits 56 = .ok (.goto 4, 3) := by decide +kernel
theorem dX10_fits_59 : decode cX10_fits 59 = .ok (.iconst 0, 1) := by decide +kernel
theorem dX10_fits_60 : decode cX10_fits 60 = .ok (.istore 4, 2) := by decide +kernel
theorem dX10_fits_62 : decode cX10_fits 62 = .ok (.aload_n 0, 1) := by decide +kernel
theorem dX10_fits_63 : decode cX10_fits 63 = .ok (.iload_n 2, 1) := by decide +kernel
theorem dX10_fits_64 : decode cX10_fits 64 = .ok (.iload 4, 2) := by decide +kernel
theorem dX10_fits_66 : decode cX10_fits 66 = .ok (.invokevirtual 110, 3) := by decide +kernel
theorem dX10_fits_69 : decode cX10_fits 69 = .ok (.istore 5, 2) := by decide +kernel
theorem dX10_fits_71 : decode cX10_fits 71 = .ok (.iconst 0, 1) := by decide +kernel
theorem dX10_fits_72 : decode cX10_fits 72 = .ok (.istore 6, 2) := by decide +kernel
theorem dX10_fits_74 : decode cX10_fits 74 = .ok (.bipush (-2), 2) := by decide +kernel
theorem dX10_fits_76 : decode cX10_fits 76 = .ok (.istore 7, 2) := by decide +kernel
theorem dX10_fits_78 : decode cX10_fits 78 = .ok (.iload 4, 2) := by decide +kernel
theorem dX10_fits_80 : decode cX10_fits 80 = .ok (.ifCond .ne 8, 3) := by decide +kernel
theorem dX10_fits_83 : decode cX10_fits 83 = .ok (.bipush 99, 2) := by decide +kernel
theorem dX10_fits_85 : decode cX10_fits 85 = .ok (.goto 5, 3) := by decide +kernel
theorem dX10_fits_88 : decode cX10_fits 88 = .ok (.bipush 9, 2) := by decide +kernel
theorem dX10_fits_90 : decode cX10_fits 90 = .ok (.istore 8, 2) := by decide +kernel
theorem dX10_fits_92 : decode cX10_fits 92 = .ok (.iload 8, 2) := by decide +kernel
theorem dX10_fits_94 : decode cX10_fits 94 = .ok (.ifCond .lt 64, 3) := by decide +kernel
theorem dX10_fits_97 : decode cX10_fits 97 = .ok (.aload_n 0, 1) := by decide +kernel
theorem dX10_fits_98 : decode cX10_fits 98 = .ok (.iload_n 2, 1) := by decide +kernel
theorem dX10_fits_99 : decode cX10_fits 99 = .ok (.iload 4, 2) := by decide +kernel
theorem dX10_fits_101 : decode cX10_fits 101 = .ok (.iload 8, 2) := by decide +kernel
theorem dX10_fits_103 : decode cX10_fits 103 = .ok (.invokevirtual 113, 3) := by decide +kernel
theorem dX10_fits_106 : decode cX10_fits 106 = .ok (.aload_n 0, 1) := by decide +kernel
theorem dX10_fits_107 : decode cX10_fits 107 = .ok (.iload_n 1, 1) := by decide +kernel
theorem dX10_fits_108 : decode cX10_fits 108 = .ok (.invokevirtual 263, 3) := by decide +kernel
theorem dX10_fits_111 : decode cX10_fits 111 = .ok (.bipush (-2), 2) := by decide +kernel
theorem dX10_fits_113 : decode cX10_fits 113 = .ok (.if_icmp .ne 7, 3) := by decide +kernel
theorem dX10_fits_116 : decode cX10_fits 116 = .ok (.iconst 1, 1) := by decide +kernel
theorem dX10_fits_117 : decode cX10_fits 117 = .ok (.goto 4, 3) := by decide +kernel
theorem dX10_fits_120 : decode cX10_fits 120 = .ok (.iconst 0, 1) := by decide +kernel
theorem dX10_fits_121 : decode cX10_fits 121 = .ok (.istore 9, 2) := by decide +kernel
theorem dX10_fits_123 : decode cX10_fits 123 = .ok (.iload 6, 2) := by decide +kernel
theorem dX10_fits_125 : decode cX10_fits 125 = .ok (.iload 9, 2) := by decide +kernel
theorem dX10_fits_127 : decode cX10_fits 127 = .ok (.ifCond .eq 7, 3) := by decide +kernel
theorem dX10_fits_130 : decode cX10_fits 130 = .ok (.iconst 1, 1) := by decide +kernel
theorem dX10_fits_131 : decode cX10_fits 131 = .ok (.goto 4, 3) := by decide +kernel
theorem dX10_fits_134 : decode cX10_fits 134 = .ok (.iconst 0, 1) := by decide +kernel
theorem dX10_fits_135 : decode cX10_fits 135 = .ok (.iadd, 1) := by decide +kernel
theorem dX10_fits_136 : decode cX10_fits 136 = .ok (.istore 6, 2) := by decide +kernel
theorem dX10_fits_138 : decode cX10_fits 138 = .ok (.iload 9, 2) := by decide +kernel
theorem dX10_fits_140 : decode cX10_fits 140 = .ok (.ifCond .eq 8, 3) := by decide +kernel
theorem dX10_fits_143 : decode cX10_fits 143 = .ok (.iload 8, 2) := by decide +kernel
theorem dX10_fits_145 : decode cX10_fits 145 = .ok (.goto 5, 3) := by decide +kernel
theorem dX10_fits_148 : decode cX10_fits 148 = .ok (.iload 7, 2) := by decide +kernel
theorem dX10_fits_150 : decode cX10_fits 150 = .ok (.istore 7, 2) := by decide +kernel
theorem dX10_fits_152 : decode cX10_fits 152 = .ok (.iinc 8 (-1), 3) := by decide +kernel
theorem dX10_fits_155 : decode cX10_fits 155 = .ok (.goto (-63), 3) := by decide +kernel
theorem dX10_fits_158 : decode cX10_fits 158 = .ok (.aload_n 0, 1) := by decide +kernel
theorem dX10_fits_159 : decode cX10_fits 159 = .ok (.iload_n 2, 1) := by decide +kernel
theorem dX10_fits_160 : decode cX10_fits 160 = .ok (.iload 4, 2) := by decide +kernel
theorem dX10_fits_162 : decode cX10_fits 162 = .ok (.iload 5, 2) := by decide +kernel
theorem dX10_fits_164 : decode cX10_fits 164 = .ok (.invokevirtual 113, 3) := by decide +kernel
theorem dX10_fits_167 : decode cX10_fits 167 = .ok (.iload_n 3, 1) := by decide +kernel
theorem dX10_fits_168 : decode cX10_fits 168 = .ok (.iconst 2, 1) := by decide +kernel
theorem dX10_fits_169 : decode cX10_fits 169 = .ok (.irem, 1) := by decide +kernel
theorem dX10_fits_170 : decode cX10_fits 170 = .ok (.ifCond .ne 8, 3) := by decide +kernel
theorem dX10_fits_173 : decode cX10_fits 173 = .ok (.iload 6, 2) := by decide +kernel
theorem dX10_fits_175 : decode cX10_fits 175 = .ok (.goto 5, 3) := by decide +kernel
theorem dX10_fits_178 : decode cX10_fits 178 = .ok (.iload 7, 2) := by decide +kernel
theorem dX10_fits_180 : decode cX10_fits 180 = .ok (.ireturn, 1) := by decide +kernel
theorem dX10_upside_0 : decode cX10_upside 0 = .ok (.iload_n 1, 1) := by decide +kernel
theorem dX10_upside_1 : decode cX10_upside 1 = .ok (.iconst 0, 1) := by decide +kernel
theorem dX10_upside_2 : decode cX10_upside 2 = .ok (.iconst 1, 1) := by decide +kernel
theorem dX10_upside_3 : decode cX10_upside 3 = .ok (.invokestatic 106, 3) := by decide +kernel
theorem dX10_upside_6 : decode cX10_upside 6 = .ok (.ifCond .ne 5, 3) := by decide +kernel
theorem dX10_upside_9 : decode cX10_upside 9 = .ok (.iconst (-1), 1) := by decide +kernel
theorem dX10_upside_10 : decode cX10_upside 10 = .ok (.ireturn, 1) := by decide +kernel
theorem dX10_upside_11 : decode cX10_upside 11 = .ok (.aload_n 0, 1) := by decide +kernel
theorem dX10_upside_12 : decode cX10_upside 12 = .ok (.invokevirtual 219, 3) := by decide +kernel
theorem dX10_upside_15 : decode cX10_upside 15 = .ok (.istore_n 2, 1) := by decide +kernel
theorem dX10_upside_16 : decode cX10_upside 16 = .ok (.iconst 0, 1) := by decide +kernel
theorem dX10_upside_17 : decode cX10_upside 17 = .ok (.istore_n 3, 1) := by decide +kernel
theorem dX10_upside_18 : decode cX10_upside 18 = .ok (.iconst 0, 1) := by decide +kernel
theorem dX10_upside_19 : decode cX10_upside 19 = .ok (.istore 4, 2) := by decide +kernel
theorem dX10_upside_21 : decode cX10_upside 21 = .ok (.iload 4, 2) := by decide +kernel
theorem dX10_upside_23 : decode cX10_upside 23 = .ok (.iload_n 2, 1) := by decide +kernel
theorem dX10_upside_24 : decode cX10_upside 24 = .ok (.if_icmp .ge 113, 3) := by decide +kernel
theorem dX10_upside_27 : decode cX10_upside 27 = .ok (.iload 4, 2) := by decide +kernel
theorem dX10_upside_29 : decode cX10_upside 29 = .ok (.iconst 1, 1) := by decide +kernel
theorem dX10_upside_30 : decode cX10_upside 30 = .ok (.iadd, 1) := by decide +kernel
theorem dX10_upside_31 : decode cX10_upside 31 = .ok (.istore 5, 2) := by decide +kernel
theorem dX10_upside_33 : decode cX10_upside 33 = .ok (.iload 5, 2) := by decide +kernel
theorem dX10_upside_35 : decode cX10_upside 35 = .ok (.iload_n 2, 1) := by decide +kernel
theorem dX10_upside_36 : decode cX10_upside 36 = .ok (.if_icmp .ge 95, 3) := by decide +kernel
theorem dX10_upside_39 : decode cX10_upside 39 = .ok (.iload_n 1, 1) := by decide +kernel
theorem dX10_upside_40 : decode cX10_upside 40 = .ok (.ifCond .ne 38, 3) := by decide +kernel
theorem dX10_upside_43 : decode cX10_upside 43 = .ok (.aload_n 0, 1) := by decide +kernel
theorem dX10_upside_44 : decode cX10_upside 44 = .ok (.aload_n 0, 1) := by decide +kernel
theorem dX10_upside_45 : decode cX10_upside 45 = .ok (.getfield 51, 3) := by decide +kernel
theorem dX10_upside_48 : decode cX10_upside 48 = .ok (.iload 5, 2) := by decide +kernel
theorem dX10_upside_50 : decode cX10_upside 50 = .ok (.iaload, 1) := by decide +kernel
theorem dX10_upside_51 : decode cX10_upside 51 = .ok (.iconst 0, 1) := by decide +kernel
theorem dX10_upside_52 : decode cX10_upside 52 = .ok (.invokevirtual 110, 3) := by decide +kernel
theorem dX10_upside_55 : decode cX10_upside 55 = .ok (.aload_n 0, 1) := by decide +kernel
theorem dX10_upside_56 : decode cX10_upside 56 = .ok (.aload_n 0, 1) := by decide +kernel
theorem dX10_upside_57 : decode cX10_upside 57 = .ok (.getfield 51, 3) := by decide +kernel
theorem dX10_upside_60 : decode cX10_upside 60 = .ok (.iload 4, 2) := by decide +kernel
theorem dX10_upside_62 : decode cX10_upside 62 = .ok (.iaload, 1) := by decide +kernel
theorem dX10_upside_63 : decode cX10_upside 63 = .ok (.iconst 0, 1) := by decide +kernel
theorem dX10_upside_64 : decode cX10_upside 64 = .ok (.invokevirtual 110, 3) := by decide +kernel
theorem dX10_upside_67 : decode cX10_upside 67 = .ok (.if_icmp .le 7, 3) := by decide +kernel
theorem dX10_upside_70 : decode cX10_upside 70 = .ok (.iconst 1, 1) := by decide +kernel
theorem dX10_upside_71 : decode cX10_upside 71 = .ok (.goto 39, 3) := by decide +kernel
theorem dX10_upside_74 : decode cX10_upside 74 = .ok (.iconst 0, 1) := by decide +kernel
theorem dX10_upside_75 : decode cX10_upside 75 = .ok (.goto 35, 3) := by decide +kernel
theorem dX10_upside_78 : decode cX10_upside 78 = .ok (.aload_n 0, 1) := by decide +kernel
theorem dX10_upside_79 : decode cX10_upside 79 = .ok (.getfield 54, 3) := by decide +kernel
theorem dX10_upside_82 : decode cX10_upside 82 = .ok (.aload_n 0, 1) := by decide +kernel
theorem dX10_upside_83 : decode cX10_upside 83 = .ok (.getfield 51, 3) := by decide +kernel
theorem dX10_upside_86 : decode cX10_upside 86 = .ok (.iload 4, 2) := by decide +kernel
theorem dX10_upside_88 : decode cX10_upside 88 = .ok (.iaload, 1) := by decide +kernel
theorem dX10_upside_89 : decode cX10_upside 89 = .ok (.iaload, 1) := by decide +kernel
theorem dX10_upside_90 : decode cX10_upside 90 = .ok (.aload_n 0, 1) := by decide +kernel
theorem dX10_upside_91 : decode cX10_upside 91 = .ok (.getfield 54, 3) := by decide +kernel
theorem dX10_upside_94 : decode cX10_upside 94 = .ok (.aload_n 0, 1) := by decide +kernel
theorem dX10_upside_95 : decode cX10_upside 95 = .ok (.getfield 51, 3) := by decide +kernel
theorem dX10_upside_98 : decode cX10_upside 98 = .ok (.iload 5, 2) := by decide +kernel
theorem dX10_upside_100 : decode cX10_upside 100 = .ok (.iaload, 1) := by decide +kernel
theorem dX10_upside_101 : decode cX10_upside 101 = .ok (.iaload, 1) := by decide +kernel
theorem dX10_upside_102 : decode cX10_upside 102 = .ok (.if_icmp .ne 7, 3) := by decide +kernel
theorem dX10_upside_105 : decode cX10_upside 105 = .ok (.iconst 1, 1) := by decide +kernel
theorem dX10_upside_106 : decode cX10_upside 106 = .ok (.goto 4, 3) := by decide +kernel
theorem dX10_upside_109 : decode cX10_upside 109 = .ok (.iconst 0, 1) := by decide +kernel
theorem dX10_upside_110 : decode cX10_upside 110 = .ok (.istore 6, 2) := by decide +kernel
theorem dX10_upside_112 : decode cX10_upside 112 = .ok (.iload_n 3, 1) := by decide +kernel
theorem dX10_upside_113 : decode cX10_upside 113 = .ok (.iload 6, 2) := by decide +kernel
theorem dX10_upside_115 : decode cX10_upside 115 = .ok (.ifCond .eq 7, 3) := by decide +kernel
theorem dX10_upside_118 : decode cX10_upside 118 = .ok (.iconst 1, 1) := by decide +kernel
theorem dX10_upside_119 : decode cX10_upside 119 = .ok (.goto 4, 3) := by decide +kernel
theorem dX10_upside_122 : decode cX10_upside 122 = .ok (.iconst 0, 1) := by decide +kernel
theorem dX10_upside_123 : decode cX10_upside 123 = .ok (.iadd, 1) := by decide +kernel
theorem dX10_upside_124 : decode cX10_upside 124 = .ok (.istore_n 3, 1) := by decide +kernel
theorem dX10_upside_125 : decode cX10_upside 125 = .ok (.iinc 5 1, 3) := by decide +kernel
theorem dX10_upside_128 : decode cX10_upside 128 = .ok (.goto (-95), 3) := by decide +kernel
theorem dX10_upside_131 : decode cX10_upside 131 = .ok (.iinc 4 1, 3) := by decide +kernel
theorem dX10_upside_134 : decode cX10_upside 134 = .ok (.goto (-113), 3) := by decide +kernel
theorem dX10_upside_137 : decode cX10_upside 137 = .ok (.iload_n 3, 1) := by decide +kernel
theorem dX10_upside_138 : decode cX10_upside 138 = .ok (.ireturn, 1) := by decide +kernel
theorem dX10_turns_0 : decode cX10_turns 0 = .ok (.iload_n 3, 1) := by decide +kernel
theorem dX10_turns_1 : decode cX10_turns 1 = .ok (.iload 4, 2) := by decide +kernel
theorem dX10_turns_3 : decode cX10_turns 3 = .ok (.if_icmp .ne 27, 3) := by decide +kernel
theorem dX10_turns_6 : decode cX10_turns 6 = .ok (.aload_n 0, 1) := by decide +kernel
theorem dX10_turns_7 : decode cX10_turns 7 = .ok (.iconst 0, 1) := by decide +kernel
theorem dX10_turns_8 : decode cX10_turns 8 = .ok (.iconst (-1), 1) := by decide +kernel
theorem dX10_turns_9 : decode cX10_turns 9 = .ok (.invokevirtual 241, 3) := by decide +kernel
theorem dX10_turns_12 : decode cX10_turns 12 = .ok (.istore 5, 2) := by decide +kernel
theorem dX10_turns_14 : decode cX10_turns 14 = .ok (.aload_n 0, 1) := by decide +kernel
theorem dX10_turns_15 : decode cX10_turns 15 = .ok (.iload_n 2, 1) := by decide +kernel
theorem dX10_turns_16 : decode cX10_turns 16 = .ok (.iload 5, 2) := by decide +kernel
theorem dX10_turns_18 : decode cX10_turns 18 = .ok (.invokevirtual 244, 3) := by decide +kernel
theorem dX10_turns_21 : decode cX10_turns 21 = .ok (.aload_n 0, 1) := by decide +kernel
theorem dX10_turns_22 : decode cX10_turns 22 = .ok (.iload_n 1, 1) := by decide +kernel
theorem dX10_turns_23 : decode cX10_turns 23 = .ok (.iload 5, 2) := by decide +kernel
theorem dX10_turns_25 : decode cX10_turns 25 = .ok (.invokevirtual 244, 3) := by decide +kernel
theorem dX10_turns_28 : decode cX10_turns 28 = .ok (.isub, 1) := by decide +kernel
theorem dX10_turns_29 : decode cX10_turns 29 = .ok (.ireturn, 1) := by decide +kernel
theorem dX10_turns_30 : decode cX10_turns 30 = .ok (.iload_n 3, 1) := by decide +kernel
theorem dX10_turns_31 : decode cX10_turns 31 = .ok (.iconst 2, 1) := by decide +kernel
theorem dX10_turns_32 : decode cX10_turns 32 = .ok (.irem, 1) := by decide +kernel
theorem dX10_turns_33 : decode cX10_turns 33 = .ok (.ifCond .ne 7, 3) := by decide +kernel
theorem dX10_turns_36 : decode cX10_turns 36 = .ok (.iconst 1, 1) := by decide +kernel
theorem dX10_turns_37 : decode cX10_turns 37 = .ok (.goto 4, 3) := by decide +kernel
theorem dX10_turns_40 : decode cX10_turns 40 = .ok (.iconst 0, 1) := by decide +kernel
theorem dX10_turns_41 : decode cX10_turns 41 = .ok (.istore 5, 2) := by decide +kernel
theorem dX10_turns_43 : decode cX10_turns 43 = .ok (.iload 5, 2) := by decide +kernel
theorem dX10_turns_45 : decode cX10_turns 45 = .ok (.ifCond .eq 7, 3) := by decide +kernel
theorem dX10_turns_48 : decode cX10_turns 48 = .ok (.iload_n 1, 1) := by decide +kernel
theorem dX10_turns_49 : decode cX10_turns 49 = .ok (.goto 4, 3) := by decide +kernel
theorem dX10_turns_52 : decode cX10_turns 52 = .ok (.iload_n 2, 1) := by decide +kernel
theorem dX10_turns_53 : decode cX10_turns 53 = .ok (.istore 6, 2) := by decide +kernel
theorem dX10_turns_55 : decode cX10_turns 55 = .ok (.aload_n 0, 1) := by decide +kernel
theorem dX10_turns_56 : decode cX10_turns 56 = .ok (.iload 6, 2) := by decide +kernel
theorem dX10_turns_58 : decode cX10_turns 58 = .ok (.iconst 2, 1) := by decide +kernel
theorem dX10_turns_59 : decode cX10_turns 59 = .ok (.invokevirtual 110, 3) := by decide +kernel
theorem dX10_turns_62 : decode cX10_turns 62 = .ok (.istore 7, 2) := by decide +kernel
theorem dX10_turns_64 : decode cX10_turns 64 = .ok (.iload 5, 2) := by decide +kernel
theorem dX10_turns_66 : decode cX10_turns 66 = .ok (.ifCond .eq 9, 3) := by decide +kernel
theorem dX10_turns_69 : decode cX10_turns 69 = .ok (.ldc_w 268, 3) := by decide +kernel
theorem dX10_turns_72 : decode cX10_turns 72 = .ok (.goto 6, 3) := by decide +kernel
theorem dX10_turns_75 : decode cX10_turns 75 = .ok (.ldc_w 269, 3) := by decide +kernel
theorem dX10_turns_78 : decode cX10_turns 78 = .ok (.istore 8, 2) := by decide +kernel
theorem dX10_turns_80 : decode cX10_turns 80 = .ok (.iconst 2, 1) := by decide +kernel
theorem dX10_turns_81 : decode cX10_turns 81 = .ok (.istore 9, 2) := by decide +kernel
theorem dX10_turns_83 : decode cX10_turns 83 = .ok (.iconst 0, 1) := by decide +kernel
theorem dX10_turns_84 : decode cX10_turns 84 = .ok (.istore 10, 2) := by decide +kernel
theorem dX10_turns_86 : decode cX10_turns 86 = .ok (.iload 10, 2) := by decide +kernel
theorem dX10_turns_88 : decode cX10_turns 88 = .ok (.iconst 3, 1) := by decide +kernel
theorem dX10_turns_89 : decode cX10_turns 89 = .ok (.if_icmp .ge 142, 3) := by decide +kernel
theorem dX10_turns_92 : decode cX10_turns 92 = .ok (.iload 10, 2) := by decide +kernel
theorem dX10_turns_94 : decode cX10_turns 94 = .ok (.ifCond .ne 7, 3) := by decide +kernel
theorem dX10_turns_97 : decode cX10_turns 97 = .ok (.iconst 2, 1) := by decide +kernel
theorem dX10_turns_98 : decode cX10_turns 98 = .ok (.goto 7, 3) := by decide +kernel
theorem dX10_turns_101 : decode cX10_turns 101 = .ok (.iload 10, 2) := by decide +kernel
theorem dX10_turns_103 : decode cX10_turns 103 = .ok (.iconst 1, 1) := by decide +kernel
theorem dX10_turns_104 : decode cX10_turns 104 = .ok (.isub, 1) := by decide +kernel
theorem dX10_turns_105 : decode cX10_turns 105 = .ok (.istore 11, 2) := by decide +kernel
theorem dX10_turns_107 : decode cX10_turns 107 = .ok (.aload_n 0, 1) := by decide +kernel
theorem dX10_turns_108 : decode cX10_turns 108 = .ok (.iload 6, 2) := by decide +kernel
theorem dX10_turns_110 : decode cX10_turns 110 = .ok (.iconst 2, 1) := by decide +kernel
theorem dX10_turns_111 : decode cX10_turns 111 = .ok (.iload 11, 2) := by decide +kernel
theorem dX10_turns_113 : decode cX10_turns 113 = .ok (.iconst 2, 1) := by decide +kernel
theorem dX10_turns_114 : decode cX10_turns 114 = .ok (.if_icmp .ne 8, 3) := by decide +kernel
theorem dX10_turns_117 : decode cX10_turns 117 = .ok (.iload 7, 2) := by decide +kernel
theorem dX10_turns_119 : decode cX10_turns 119 = .ok (.goto 28, 3) := by decide +kernel
theorem dX10_turns_122 : decode cX10_turns 122 = .ok (.iload 11, 2) := by decide +kernel
theorem dX10_turns_124 : decode cX10_turns 124 = .ok (.ifCond .ne 15, 3) := by decide +kernel
theorem dX10_turns_127 : decode cX10_turns 127 = .ok (.bipush 9, 2) := by decide +kernel
theorem dX10_turns_129 : decode cX10_turns 129 = .ok (.iload 7, 2) := by decide +kernel
theorem dX10_turns_131 : decode cX10_turns 131 = .ok (.iconst 2, 1) := by decide +kernel
theorem dX10_turns_132 : decode cX10_turns 132 = .ok (.iadd, 1) := by decide +kernel
theorem dX10_turns_133 : decode cX10_turns 133 = .ok (.invokestatic 94, 3) := by decide +kernel
theorem dX10_turns_136 : decode cX10_turns 136 = .ok (.goto 11, 3) := by decide +kernel
theorem dX10_turns_139 : decode cX10_turns 139 = .ok (.iconst 0, 1) := by decide +kernel
theorem dX10_turns_140 : decode cX10_turns 140 = .ok (.iload 7, 2) := by decide +kernel
theorem dX10_turns_142 : decode cX10_turns 142 = .ok (.iconst 2, 1) := by decide +kernel
theorem dX10_turns_143 : decode cX10_turns 143 = .ok (.isub, 1) := by decide +kernel
theorem dX10_turns_144 : decode cX10_turns 144 = .ok (.invokestatic 100, 3) := by decide +kernel
theorem dX10_turns_147 : decode cX10_turns 147 = .ok (.invokevirtual 113, 3) := by decide +kernel
theorem dX10_turns_150 : decode cX10_turns 150 = .ok (.aload_n 0, 1) := by decide +kernel
theorem dX10_turns_151 : decode cX10_turns 151 = .ok (.iload_n 1, 1) := by decide +kernel
theorem dX10_turns_152 : decode cX10_turns 152 = .ok (.iload_n 2, 1) := by decide +kernel
theorem dX10_turns_153 : decode cX10_turns 153 = .ok (.iload_n 3, 1) := by decide +kernel
theorem dX10_turns_154 : decode cX10_turns 154 = .ok (.iconst 1, 1) := by decide +kernel
theorem dX10_turns_155 : decode cX10_turns 155 = .ok (.iadd, 1) := by decide +kernel
theorem dX10_turns_156 : decode cX10_turns 156 = .ok (.iload 4, 2) := by decide +kernel
theorem dX10_turns_158 : decode cX10_turns 158 = .ok (.invokevirtual 270, 3) := by decide +kernel
theorem dX10_turns_161 : decode cX10_turns 161 = .ok (.istore 12, 2) := by decide +kernel
theorem dX10_turns_163 : decode cX10_turns 163 = .ok (.iload 5, 2) := by decide +kernel
theorem dX10_turns_165 : decode cX10_turns 165 = .ok (.ifCond .eq 18, 3) := by decide +kernel
theorem dX10_turns_168 : decode cX10_turns 168 = .ok (.iload 12, 2) := by decide +kernel
theorem dX10_turns_170 : decode cX10_turns 170 = .ok (.iload 8, 2) := by decide +kernel
theorem dX10_turns_172 : decode cX10_turns 172 = .ok (.if_icmp .le 7, 3) := by decide +kernel
theorem dX10_turns_175 : decode cX10_turns 175 = .ok (.iconst 1, 1) := by decide +kernel
theorem dX10_turns_176 : decode cX10_turns 176 = .ok (.goto 19, 3) := by decide +kernel
theorem dX10_turns_179 : decode cX10_turns 179 = .ok (.iconst 0, 1) := by decide +kernel
theorem dX10_turns_180 : decode cX10_turns 180 = .ok (.goto 15, 3) := by decide +kernel
theorem dX10_turns_183 : decode cX10_turns 183 = .ok (.iload 12, 2) := by decide +kernel
theorem dX10_turns_185 : decode cX10_turns 185 = .ok (.iload 8, 2) := by decide +kernel
theorem dX10_turns_187 : decode cX10_turns 187 = .ok (.if_icmp .ge 7, 3) := by decide +kernel
theorem dX10_turns_190 : decode cX10_turns 190 = .ok (.iconst 1, 1) := by decide +kernel
theorem dX10_turns_191 : decode cX10_turns 191 = .ok (.goto 4, 3) := by decide +kernel
theorem dX10_turns_194 : decode cX10_turns 194 = .ok (.iconst 0, 1) := by decide +kernel
theorem dX10_turns_195 : decode cX10_turns 195 = .ok (.istore 13, 2) := by decide +kernel
theorem dX10_turns_197 : decode cX10_turns 197 = .ok (.iload 13, 2) := by decide +kernel
theorem dX10_turns_199 : decode cX10_turns 199 = .ok (.ifCond .eq 8, 3) := by decide +kernel
theorem dX10_turns_202 : decode cX10_turns 202 = .ok (.iload 11, 2) := by decide +kernel
theorem dX10_turns_204 : decode cX10_turns 204 = .ok (.goto 5, 3) := by decide +kernel
theorem dX10_turns_207 : decode cX10_turns 207 = .ok (.iload 9, 2) := by decide +kernel
theorem dX10_turns_209 : decode cX10_turns 209 = .ok (.istore 9, 2) := by decide +kernel
theorem dX10_turns_211 : decode cX10_turns 211 = .ok (.iload 13, 2) := by decide +kernel
theorem dX10_turns_213 : decode cX10_turns 213 = .ok (.ifCond .eq 8, 3) := by decide +kernel
theorem dX10_turns_216 : decode cX10_turns 216 = .ok (.iload 12, 2) := by decide +kernel
theorem dX10_turns_218 : decode cX10_turns 218 = .ok (.goto 5, 3) := by decide +kernel
theorem dX10_turns_221 : decode cX10_turns 221 = .ok (.iload 8, 2) := by decide +kernel
theorem dX10_turns_223 : decode cX10_turns 223 = .ok (.istore 8, 2) := by decide +kernel
theorem dX10_turns_225 : decode cX10_turns 225 = .ok (.iinc 10 1, 3) := by decide +kernel
theorem dX10_turns_228 : decode cX10_turns 228 = .ok (.goto (-142), 3) := by decide +kernel
theorem dX10_turns_231 : decode cX10_turns 231 = .ok (.aload_n 0, 1) := by decide +kernel
theorem dX10_turns_232 : decode cX10_turns 232 = .ok (.iload 6, 2) := by decide +kernel
theorem dX10_turns_234 : decode cX10_turns 234 = .ok (.iconst 2, 1) := by decide +kernel
theorem dX10_turns_235 : decode cX10_turns 235 = .ok (.iload 7, 2) := by decide +kernel
theorem dX10_turns_237 : decode cX10_turns 237 = .ok (.invokevirtual 113, 3) := by decide +kernel
theorem dX10_turns_240 : decode cX10_turns 240 = .ok (.aload_n 0, 1) := by decide +kernel
theorem dX10_turns_241 : decode cX10_turns 241 = .ok (.iload 9, 2) := by decide +kernel
theorem dX10_turns_243 : decode cX10_turns 243 = .ok (.putfield 274, 3) := by decide +kernel
theorem dX10_turns_246 : decode cX10_turns 246 = .ok (.iload 8, 2) := by decide +kernel
theorem dX10_turns_248 : decode cX10_turns 248 = .ok (.ireturn, 1) := by decide +kernel
theorem dX10_byTurns_0 : decode cX10_byTurns 0 = .ok (.iload_n 1, 1) := by decide +kernel
theorem dX10_byTurns_1 : decode cX10_byTurns 1 = .ok (.ifCond .lt 76, 3) := by decide +kernel
theorem dX10_byTurns_4 : decode cX10_byTurns 4 = .ok (.aload_n 0, 1) := by decide +kernel
theorem dX10_byTurns_5 : decode cX10_byTurns 5 = .ok (.iload_n 1, 1) := by decide +kernel
theorem dX10_byTurns_6 : decode cX10_byTurns 6 = .ok (.bipush 10, 2) := by decide +kernel
theorem dX10_byTurns_8 : decode cX10_byTurns 8 = .ok (.idiv, 1) := by decide +kernel
theorem dX10_byTurns_9 : decode cX10_byTurns 9 = .ok (.invokevirtual 124, 3) := by decide +kernel
theorem dX10_byTurns_12 : decode cX10_byTurns 12 = .ok (.ifCond .eq 65, 3) := by decide +kernel
theorem dX10_byTurns_15 : decode cX10_byTurns 15 = .ok (.aload_n 0, 1) := by decide +kernel
theorem dX10_byTurns_16 : decode cX10_byTurns 16 = .ok (.iload_n 1, 1) := by decide +kernel
theorem dX10_byTurns_17 : decode cX10_byTurns 17 = .ok (.bipush 10, 2) := by decide +kernel
theorem dX10_byTurns_19 : decode cX10_byTurns 19 = .ok (.irem, 1) := by decide +kernel
theorem dX10_byTurns_20 : decode cX10_byTurns 20 = .ok (.invokevirtual 124, 3) := by decide +kernel
theorem dX10_byTurns_23 : decode cX10_byTurns 23 = .ok (.ifCond .eq 54, 3) := by decide +kernel
theorem dX10_byTurns_26 : decode cX10_byTurns 26 = .ok (.iload_n 1, 1) := by decide +kernel
theorem dX10_byTurns_27 : decode cX10_byTurns 27 = .ok (.bipush 10, 2) := by decide +kernel
theorem dX10_byTurns_29 : decode cX10_byTurns 29 = .ok (.idiv, 1) := by decide +kernel
theorem dX10_byTurns_30 : decode cX10_byTurns 30 = .ok (.iload_n 1, 1) := by decide +kernel
theorem dX10_byTurns_31 : decode cX10_byTurns 31 = .ok (.bipush 10, 2) := by decide +kernel
theorem dX10_byTurns_33 : decode cX10_byTurns 33 = .ok (.irem, 1) := by decide +kernel
theorem dX10_byTurns_34 : decode cX10_byTurns 34 = .ok (.if_icmp .eq 43, 3) := by decide +kernel
theorem dX10_byTurns_37 : decode cX10_byTurns 37 = .ok (.aload_n 0, 1) := by decide +kernel
theorem dX10_byTurns_38 : decode cX10_byTurns 38 = .ok (.iload_n 1, 1) := by decide +kernel
theorem dX10_byTurns_39 : decode cX10_byTurns 39 = .ok (.bipush 10, 2) := by decide +kernel
theorem dX10_byTurns_41 : decode cX10_byTurns 41 = .ok (.idiv, 1) := by decide +kernel
theorem dX10_byTurns_42 : decode cX10_byTurns 42 = .ok (.invokevirtual 197, 3) := by decide +kernel
theorem dX10_byTurns_45 : decode cX10_byTurns 45 = .ok (.ifCond .eq 32, 3) := by decide +kernel
theorem dX10_byTurns_48 : decode cX10_byTurns 48 = .ok (.aload_n 0, 1) := by decide +kernel
theorem dX10_byTurns_49 : decode cX10_byTurns 49 = .ok (.iload_n 1, 1) := by decide +kernel
theorem dX10_byTurns_50 : decode cX10_byTurns 50 = .ok (.bipush 10, 2) := by decide +kernel
theorem dX10_byTurns_52 : decode cX10_byTurns 52 = .ok (.irem, 1) := by decide +kernel
theorem dX10_byTurns_53 : decode cX10_byTurns 53 = .ok (.invokevirtual 197, 3) := by decide +kernel
theorem dX10_byTurns_56 : decode cX10_byTurns 56 = .ok (.ifCond .eq 21, 3) := by decide +kernel
theorem dX10_byTurns_59 : decode cX10_byTurns 59 = .ok (.iload_n 2, 1) := by decide +kernel
theorem dX10_byTurns_60 : decode cX10_byTurns 60 = .ok (.iconst 1, 1) := by decide +kernel
theorem dX10_byTurns_61 : decode cX10_byTurns 61 = .ok (.iconst 5, 1) := by decide +kernel
theorem dX10_byTurns_62 : decode cX10_byTurns 62 = .ok (.invokestatic 106, 3) := by decide +kernel
theorem dX10_byTurns_65 : decode cX10_byTurns 65 = .ok (.ifCond .eq 12, 3) := by decide +kernel
theorem dX10_byTurns_68 : decode cX10_byTurns 68 = .ok (.iload_n 3, 1) := by decide +kernel
theorem dX10_byTurns_69 : decode cX10_byTurns 69 = .ok (.iconst 0, 1) := by decide +kernel
theorem dX10_byTurns_70 : decode cX10_byTurns 70 = .ok (.iconst 1, 1) := by decide +kernel
theorem dX10_byTurns_71 : decode cX10_byTurns 71 = .ok (.invokestatic 106, 3) := by decide +kernel
theorem dX10_byTurns_74 : decode cX10_byTurns 74 = .ok (.ifCond .ne 7, 3) := by decide +kernel
theorem dX10_byTurns_77 : decode cX10_byTurns 77 = .ok (.ldc_w 277, 3) := by decide +kernel
theorem dX10_byTurns_80 : decode cX10_byTurns 80 = .ok (.ireturn, 1) := by decide +kernel
theorem dX10_byTurns_81 : decode cX10_byTurns 81 = .ok (.aload_n 0, 1) := by decide +kernel
theorem dX10_byTurns_82 : decode cX10_byTurns 82 = .ok (.iload_n 1, 1) := by decide +kernel
theorem dX10_byTurns_83 : decode cX10_byTurns 83 = .ok (.bipush 10, 2) := by decide +kernel
theorem dX10_byTurns_85 : decode cX10_byTurns 85 = .ok (.idiv, 1) := by decide +kernel
theorem dX10_byTurns_86 : decode cX10_byTurns 86 = .ok (.iload_n 1, 1) := by decide +kernel
theorem dX10_byTurns_87 : decode cX10_byTurns 87 = .ok (.bipush 10, 2) := by decide +kernel
theorem dX10_byTurns_89 : decode cX10_byTurns 89 = .ok (.irem, 1) := by decide +kernel
theorem dX10_byTurns_90 : decode cX10_byTurns 90 = .ok (.iconst 0, 1) := by decide +kernel
theorem dX10_byTurns_91 : decode cX10_byTurns 91 = .ok (.iload_n 2, 1) := by decide +kernel
theorem dX10_byTurns_92 : decode cX10_byTurns 92 = .ok (.invokevirtual 270, 3) := by decide +kernel
theorem dX10_byTurns_95 : decode cX10_byTurns 95 = .ok (.istore 4, 2) := by decide +kernel
theorem dX10_byTurns_97 : decode cX10_byTurns 97 = .ok (.iload_n 3, 1) := by decide +kernel
theorem dX10_byTurns_98 : decode cX10_byTurns 98 = .ok (.ifCond .ne 8, 3) := by decide +kernel
theorem dX10_byTurns_101 : decode cX10_byTurns 101 = .ok (.iload 4, 2) := by decide +kernel
theorem dX10_byTurns_103 : decode cX10_byTurns 103 = .ok (.goto 7, 3) := by decide +kernel
theorem dX10_byTurns_106 : decode cX10_byTurns 106 = .ok (.aload_n 0, 1) := by decide +kernel
theorem dX10_byTurns_107 : decode cX10_byTurns 107 = .ok (.getfield 274, 3) := by decide +kernel
theorem dX10_byTurns_110 : decode cX10_byTurns 110 = .ok (.ireturn, 1) := by decide +kernel
theorem dX10_drawn_0 : decode cX10_drawn 0 = .ok (.iload_n 2, 1) := by decide +kernel
theorem dX10_drawn_1 : decode cX10_drawn 1 = .ok (.bipush 100, 2) := by decide +kernel
theorem dX10_drawn_3 : decode cX10_drawn 3 = .ok (.idiv, 1) := by decide +kernel
theorem dX10_drawn_4 : decode cX10_drawn 4 = .ok (.bipush 100, 2) := by decide +kernel
theorem dX10_drawn_6 : decode cX10_drawn 6 = .ok (.irem, 1) := by decide +kernel
theorem dX10_drawn_7 : decode cX10_drawn 7 = .ok (.istore 4, 2) := by decide +kernel
theorem dX10_drawn_9 : decode cX10_drawn 9 = .ok (.iload_n 2, 1) := by decide +kernel
theorem dX10_drawn_10 : decode cX10_drawn 10 = .ok (.bipush 100, 2) := by decide +kernel
theorem dX10_drawn_12 : decode cX10_drawn 12 = .ok (.irem, 1) := by decide +kernel
theorem dX10_drawn_13 : decode cX10_drawn 13 = .ok (.istore 5, 2) := by decide +kernel
theorem dX10_drawn_15 : decode cX10_drawn 15 = .ok (.iload_n 2, 1) := by decide +kernel
theorem dX10_drawn_16 : decode cX10_drawn 16 = .ok (.ifCond .lt 53, 3) := by decide +kernel
theorem dX10_drawn_19 : decode cX10_drawn 19 = .ok (.iload_n 2, 1) := by decide +kernel
theorem dX10_drawn_20 : decode cX10_drawn 20 = .ok (.sipush 10000, 3) := by decide +kernel
theorem dX10_drawn_23 : decode cX10_drawn 23 = .ok (.idiv, 1) := by decide +kernel
theorem dX10_drawn_24 : decode cX10_drawn 24 = .ok (.iconst 1, 1) := by decide +kernel
theorem dX10_drawn_25 : decode cX10_drawn 25 = .ok (.bipush 30, 2) := by decide +kernel
theorem dX10_drawn_27 : decode cX10_drawn 27 = .ok (.invokestatic 106, 3) := by decide +kernel
theorem dX10_drawn_30 : decode cX10_drawn 30 = .ok (.ifCond .eq 39, 3) := by decide +kernel
theorem dX10_drawn_33 : decode cX10_drawn 33 = .ok (.iload 4, 2) := by decide +kernel
theorem dX10_drawn_35 : decode cX10_drawn 35 = .ok (.iconst 1, 1) := by decide +kernel
theorem dX10_drawn_36 : decode cX10_drawn 36 = .ok (.bipush 60, 2) := by decide +kernel
theorem dX10_drawn_38 : decode cX10_drawn 38 = .ok (.invokestatic 106, 3) := by decide +kernel
theorem dX10_drawn_41 : decode cX10_drawn 41 = .ok (.ifCond .eq 28, 3) := by decide +kernel
theorem dX10_drawn_44 : decode cX10_drawn 44 = .ok (.iload 5, 2) := by decide +kernel
theorem dX10_drawn_46 : decode cX10_drawn 46 = .ok (.iconst 0, 1) := by decide +kernel
theorem dX10_drawn_47 : decode cX10_drawn 47 = .ok (.bipush 12, 2) := by decide +kernel
theorem dX10_drawn_49 : decode cX10_drawn 49 = .ok (.invokestatic 106, 3) := by decide +kernel
theorem dX10_drawn_52 : decode cX10_drawn 52 = .ok (.ifCond .eq 17, 3) := by decide +kernel
theorem dX10_drawn_55 : decode cX10_drawn 55 = .ok (.iload_n 3, 1) := by decide +kernel
theorem dX10_drawn_56 : decode cX10_drawn 56 = .ok (.iconst (-1), 1) := by decide +kernel
theorem dX10_drawn_57 : decode cX10_drawn 57 = .ok (.aload_n 0, 1) := by decide +kernel
theorem dX10_drawn_58 : decode cX10_drawn 58 = .ok (.getfield 103, 3) := by decide +kernel
theorem dX10_drawn_61 : decode cX10_drawn 61 = .ok (.iconst 1, 1) := by decide +kernel
theorem dX10_drawn_62 : decode cX10_drawn 62 = .ok (.isub, 1) := by decide +kernel
theorem dX10_drawn_63 : decode cX10_drawn 63 = .ok (.invokestatic 106, 3) := by decide +kernel
theorem dX10_drawn_66 : decode cX10_drawn 66 = .ok (.ifCond .ne 5, 3) := by decide +kernel
theorem dX10_drawn_69 : decode cX10_drawn 69 = .ok (.iconst (-1), 1) := by decide +kernel
theorem dX10_drawn_70 : decode cX10_drawn 70 = .ok (.ireturn, 1) := by decide +kernel
theorem dX10_drawn_71 : decode cX10_drawn 71 = .ok (.iload_n 1, 1) := by decide +kernel
theorem dX10_drawn_72 : decode cX10_drawn 72 = .ok (.istore 6, 2) := by decide +kernel
theorem dX10_drawn_74 : decode cX10_drawn 74 = .ok (.iconst 0, 1) := by decide +kernel
theorem dX10_drawn_75 : decode cX10_drawn 75 = .ok (.istore 7, 2) := by decide +kernel
theorem dX10_drawn_77 : decode cX10_drawn 77 = .ok (.iconst 0, 1) := by decide +kernel
theorem dX10_drawn_78 : decode cX10_drawn 78 = .ok (.istore 8, 2) := by decide +kernel
theorem dX10_drawn_80 : decode cX10_drawn 80 = .ok (.iload 8, 2) := by decide +kernel
theorem dX10_drawn_82 : decode cX10_drawn 82 = .ok (.iload_n 2, 1) := by decide +kernel
end
section
theorem dX10_drawn_83 : decode cX10_drawn 83 = .ok (.sipush 10000, 3) := by decide +kernel
theorem dX10_drawn_86 : decode cX10_drawn 86 = .ok (.idiv, 1) := by decide +kernel
theorem dX10_drawn_87 : decode cX10_drawn 87 = .ok (.if_icmp .ge 183, 3) := by decide +kernel
theorem dX10_drawn_90 : decode cX10_drawn 90 = .ok (.aload_n 0, 1) := by decide +kernel
theorem dX10_drawn_91 : decode cX10_drawn 91 = .ok (.iconst 0, 1) := by decide +kernel
theorem dX10_drawn_92 : decode cX10_drawn 92 = .ok (.invokevirtual 222, 3) := by decide +kernel
theorem dX10_drawn_95 : decode cX10_drawn 95 = .ok (.iconst 0, 1) := by decide +kernel
theorem dX10_drawn_96 : decode cX10_drawn 96 = .ok (.istore 9, 2) := by decide +kernel
theorem dX10_drawn_98 : decode cX10_drawn 98 = .ok (.iload 9, 2) := by decide +kernel
theorem dX10_drawn_100 : decode cX10_drawn 100 = .ok (.iload 4, 2) := by decide +kernel
theorem dX10_drawn_102 : decode cX10_drawn 102 = .ok (.if_icmp .ge 96, 3) := by decide +kernel
theorem dX10_drawn_105 : decode cX10_drawn 105 = .ok (.aload_n 0, 1) := by decide +kernel
theorem dX10_drawn_106 : decode cX10_drawn 106 = .ok (.getfield 103, 3) := by decide +kernel
theorem dX10_drawn_109 : decode cX10_drawn 109 = .ok (.ifCond .le 89, 3) := by decide +kernel
theorem dX10_drawn_112 : decode cX10_drawn 112 = .ok (.iload 6, 2) := by decide +kernel
theorem dX10_drawn_114 : decode cX10_drawn 114 = .ok (.ldc_w 278, 3) := by decide +kernel
theorem dX10_drawn_117 : decode cX10_drawn 117 = .ok (.imul, 1) := by decide +kernel
theorem dX10_drawn_118 : decode cX10_drawn 118 = .ok (.sipush 12345, 3) := by decide +kernel
theorem dX10_drawn_121 : decode cX10_drawn 121 = .ok (.iadd, 1) := by decide +kernel
theorem dX10_drawn_122 : decode cX10_drawn 122 = .ok (.istore 6, 2) := by decide +kernel
theorem dX10_drawn_124 : decode cX10_drawn 124 = .ok (.iload 6, 2) := by decide +kernel
theorem dX10_drawn_126 : decode cX10_drawn 126 = .ok (.bipush 8, 2) := by decide +kernel
theorem dX10_drawn_128 : decode cX10_drawn 128 = .ok (.iushr, 1) := by decide +kernel
theorem dX10_drawn_129 : decode cX10_drawn 129 = .ok (.aload_n 0, 1) := by decide +kernel
theorem dX10_drawn_130 : decode cX10_drawn 130 = .ok (.getfield 103, 3) := by decide +kernel
theorem dX10_drawn_133 : decode cX10_drawn 133 = .ok (.irem, 1) := by decide +kernel
theorem dX10_drawn_134 : decode cX10_drawn 134 = .ok (.istore 10, 2) := by decide +kernel
theorem dX10_drawn_136 : decode cX10_drawn 136 = .ok (.iload 6, 2) := by decide +kernel
theorem dX10_drawn_138 : decode cX10_drawn 138 = .ok (.bipush 24, 2) := by decide +kernel
theorem dX10_drawn_140 : decode cX10_drawn 140 = .ok (.iushr, 1) := by decide +kernel
theorem dX10_drawn_141 : decode cX10_drawn 141 = .ok (.bipush 12, 2) := by decide +kernel
theorem dX10_drawn_143 : decode cX10_drawn 143 = .ok (.irem, 1) := by decide +kernel
theorem dX10_drawn_144 : decode cX10_drawn 144 = .ok (.iload 5, 2) := by decide +kernel
theorem dX10_drawn_146 : decode cX10_drawn 146 = .ok (.if_icmp .ge 42, 3) := by decide +kernel
theorem dX10_drawn_149 : decode cX10_drawn 149 = .ok (.aload_n 0, 1) := by decide +kernel
theorem dX10_drawn_150 : decode cX10_drawn 150 = .ok (.iload 10, 2) := by decide +kernel
theorem dX10_drawn_152 : decode cX10_drawn 152 = .ok (.invokevirtual 197, 3) := by decide +kernel
theorem dX10_drawn_155 : decode cX10_drawn 155 = .ok (.ifCond .eq 33, 3) := by decide +kernel
theorem dX10_drawn_158 : decode cX10_drawn 158 = .ok (.aload_n 0, 1) := by decide +kernel
theorem dX10_drawn_159 : decode cX10_drawn 159 = .ok (.iload 10, 2) := by decide +kernel
theorem dX10_drawn_161 : decode cX10_drawn 161 = .ok (.iconst 0, 1) := by decide +kernel
theorem dX10_drawn_162 : decode cX10_drawn 162 = .ok (.bipush 99, 2) := by decide +kernel
theorem dX10_drawn_164 : decode cX10_drawn 164 = .ok (.aload_n 0, 1) := by decide +kernel
theorem dX10_drawn_165 : decode cX10_drawn 165 = .ok (.iload 10, 2) := by decide +kernel
theorem dX10_drawn_167 : decode cX10_drawn 167 = .ok (.iconst 0, 1) := by decide +kernel
theorem dX10_drawn_168 : decode cX10_drawn 168 = .ok (.invokevirtual 110, 3) := by decide +kernel
theorem dX10_drawn_171 : decode cX10_drawn 171 = .ok (.iconst 1, 1) := by decide +kernel
theorem dX10_drawn_172 : decode cX10_drawn 172 = .ok (.iadd, 1) := by decide +kernel
theorem dX10_drawn_173 : decode cX10_drawn 173 = .ok (.iload 6, 2) := by decide +kernel
theorem dX10_drawn_175 : decode cX10_drawn 175 = .ok (.bipush 16, 2) := by decide +kernel
theorem dX10_drawn_177 : decode cX10_drawn 177 = .ok (.iushr, 1) := by decide +kernel
theorem dX10_drawn_178 : decode cX10_drawn 178 = .ok (.bipush 20, 2) := by decide +kernel
theorem dX10_drawn_180 : decode cX10_drawn 180 = .ok (.irem, 1) := by decide +kernel
theorem dX10_drawn_181 : decode cX10_drawn 181 = .ok (.iadd, 1) := by decide +kernel
theorem dX10_drawn_182 : decode cX10_drawn 182 = .ok (.invokestatic 94, 3) := by decide +kernel
theorem dX10_drawn_185 : decode cX10_drawn 185 = .ok (.invokevirtual 113, 3) := by decide +kernel
theorem dX10_drawn_188 : decode cX10_drawn 188 = .ok (.aload_n 0, 1) := by decide +kernel
theorem dX10_drawn_189 : decode cX10_drawn 189 = .ok (.invokevirtual 212, 3) := by decide +kernel
theorem dX10_drawn_192 : decode cX10_drawn 192 = .ok (.iinc 9 1, 3) := by decide +kernel
theorem dX10_drawn_195 : decode cX10_drawn 195 = .ok (.goto (-97), 3) := by decide +kernel
theorem dX10_drawn_198 : decode cX10_drawn 198 = .ok (.iconst 0, 1) := by decide +kernel
theorem dX10_drawn_199 : decode cX10_drawn 199 = .ok (.istore 9, 2) := by decide +kernel
theorem dX10_drawn_201 : decode cX10_drawn 201 = .ok (.iconst 0, 1) := by decide +kernel
theorem dX10_drawn_202 : decode cX10_drawn 202 = .ok (.istore 10, 2) := by decide +kernel
theorem dX10_drawn_204 : decode cX10_drawn 204 = .ok (.iload 10, 2) := by decide +kernel
theorem dX10_drawn_206 : decode cX10_drawn 206 = .ok (.aload_n 0, 1) := by decide +kernel
theorem dX10_drawn_207 : decode cX10_drawn 207 = .ok (.getfield 103, 3) := by decide +kernel
theorem dX10_drawn_210 : decode cX10_drawn 210 = .ok (.if_icmp .ge 21, 3) := by decide +kernel
theorem dX10_drawn_213 : decode cX10_drawn 213 = .ok (.iload 9, 2) := by decide +kernel
theorem dX10_drawn_215 : decode cX10_drawn 215 = .ok (.aload_n 0, 1) := by decide +kernel
theorem dX10_drawn_216 : decode cX10_drawn 216 = .ok (.iload 10, 2) := by decide +kernel
theorem dX10_drawn_218 : decode cX10_drawn 218 = .ok (.iconst 0, 1) := by decide +kernel
theorem dX10_drawn_219 : decode cX10_drawn 219 = .ok (.invokevirtual 110, 3) := by decide +kernel
theorem dX10_drawn_222 : decode cX10_drawn 222 = .ok (.iadd, 1) := by decide +kernel
theorem dX10_drawn_223 : decode cX10_drawn 223 = .ok (.istore 9, 2) := by decide +kernel
theorem dX10_drawn_225 : decode cX10_drawn 225 = .ok (.iinc 10 1, 3) := by decide +kernel
theorem dX10_drawn_228 : decode cX10_drawn 228 = .ok (.goto (-24), 3) := by decide +kernel
theorem dX10_drawn_231 : decode cX10_drawn 231 = .ok (.iload 7, 2) := by decide +kernel
theorem dX10_drawn_233 : decode cX10_drawn 233 = .ok (.iload_n 3, 1) := by decide +kernel
theorem dX10_drawn_234 : decode cX10_drawn 234 = .ok (.iconst (-1), 1) := by decide +kernel
theorem dX10_drawn_235 : decode cX10_drawn 235 = .ok (.if_icmp .ne 8, 3) := by decide +kernel
theorem dX10_drawn_238 : decode cX10_drawn 238 = .ok (.iload 9, 2) := by decide +kernel
theorem dX10_drawn_240 : decode cX10_drawn 240 = .ok (.goto 16, 3) := by decide +kernel
theorem dX10_drawn_243 : decode cX10_drawn 243 = .ok (.aload_n 0, 1) := by decide +kernel
theorem dX10_drawn_244 : decode cX10_drawn 244 = .ok (.invokevirtual 235, 3) := by decide +kernel
theorem dX10_drawn_247 : decode cX10_drawn 247 = .ok (.iload_n 3, 1) := by decide +kernel
theorem dX10_drawn_248 : decode cX10_drawn 248 = .ok (.if_icmp .ne 7, 3) := by decide +kernel
theorem dX10_drawn_251 : decode cX10_drawn 251 = .ok (.iconst 1, 1) := by decide +kernel
theorem dX10_drawn_252 : decode cX10_drawn 252 = .ok (.goto 4, 3) := by decide +kernel
theorem dX10_drawn_255 : decode cX10_drawn 255 = .ok (.iconst 0, 1) := by decide +kernel
theorem dX10_drawn_256 : decode cX10_drawn 256 = .ok (.iadd, 1) := by decide +kernel
theorem dX10_drawn_257 : decode cX10_drawn 257 = .ok (.istore 7, 2) := by decide +kernel
theorem dX10_drawn_259 : decode cX10_drawn 259 = .ok (.aload_n 0, 1) := by decide +kernel
theorem dX10_drawn_260 : decode cX10_drawn 260 = .ok (.iconst 0, 1) := by decide +kernel
theorem dX10_drawn_261 : decode cX10_drawn 261 = .ok (.invokevirtual 232, 3) := by decide +kernel
theorem dX10_drawn_264 : decode cX10_drawn 264 = .ok (.iinc 8 1, 3) := by decide +kernel
theorem dX10_drawn_267 : decode cX10_drawn 267 = .ok (.goto (-187), 3) := by decide +kernel
theorem dX10_drawn_270 : decode cX10_drawn 270 = .ok (.iload 7, 2) := by decide +kernel
theorem dX10_drawn_272 : decode cX10_drawn 272 = .ok (.ireturn, 1) := by decide +kernel
theorem dX10_slips_0 : decode cX10_slips 0 = .ok (.aload_n 0, 1) := by decide +kernel
theorem dX10_slips_1 : decode cX10_slips 1 = .ok (.iload_n 1, 1) := by decide +kernel
theorem dX10_slips_2 : decode cX10_slips 2 = .ok (.invokevirtual 124, 3) := by decide +kernel
theorem dX10_slips_5 : decode cX10_slips 5 = .ok (.ifCond .eq 13, 3) := by decide +kernel
theorem dX10_slips_8 : decode cX10_slips 8 = .ok (.iload_n 2, 1) := by decide +kernel
theorem dX10_slips_9 : decode cX10_slips 9 = .ok (.iconst 1, 1) := by decide +kernel
theorem dX10_slips_10 : decode cX10_slips 10 = .ok (.bipush 30, 2) := by decide +kernel
theorem dX10_slips_12 : decode cX10_slips 12 = .ok (.invokestatic 106, 3) := by decide +kernel
theorem dX10_slips_15 : decode cX10_slips 15 = .ok (.ifCond .ne 5, 3) := by decide +kernel
theorem dX10_slips_18 : decode cX10_slips 18 = .ok (.iconst (-1), 1) := by decide +kernel
theorem dX10_slips_19 : decode cX10_slips 19 = .ok (.ireturn, 1) := by decide +kernel
theorem dX10_slips_20 : decode cX10_slips 20 = .ok (.aload_n 0, 1) := by decide +kernel
theorem dX10_slips_21 : decode cX10_slips 21 = .ok (.getfield 121, 3) := by decide +kernel
theorem dX10_slips_24 : decode cX10_slips 24 = .ok (.bipush 12, 2) := by decide +kernel
theorem dX10_slips_26 : decode cX10_slips 26 = .ok (.if_icmp .ne 6, 3) := by decide +kernel
theorem dX10_slips_29 : decode cX10_slips 29 = .ok (.bipush (-3), 2) := by decide +kernel
theorem dX10_slips_31 : decode cX10_slips 31 = .ok (.ireturn, 1) := by decide +kernel
theorem dX10_slips_32 : decode cX10_slips 32 = .ok (.aload_n 0, 1) := by decide +kernel
theorem dX10_slips_33 : decode cX10_slips 33 = .ok (.iload_n 1, 1) := by decide +kernel
theorem dX10_slips_34 : decode cX10_slips 34 = .ok (.invokevirtual 197, 3) := by decide +kernel
theorem dX10_slips_37 : decode cX10_slips 37 = .ok (.ifCond .ne 6, 3) := by decide +kernel
theorem dX10_slips_40 : decode cX10_slips 40 = .ok (.bipush (-5), 2) := by decide +kernel
theorem dX10_slips_42 : decode cX10_slips 42 = .ok (.ireturn, 1) := by decide +kernel
theorem dX10_slips_43 : decode cX10_slips 43 = .ok (.aload_n 0, 1) := by decide +kernel
theorem dX10_slips_44 : decode cX10_slips 44 = .ok (.getfield 73, 3) := by decide +kernel
theorem dX10_slips_47 : decode cX10_slips 47 = .ok (.iconst 0, 1) := by decide +kernel
theorem dX10_slips_48 : decode cX10_slips 48 = .ok (.dup2, 1) := by decide +kernel
theorem dX10_slips_49 : decode cX10_slips 49 = .ok (.iaload, 1) := by decide +kernel
theorem dX10_slips_50 : decode cX10_slips 50 = .ok (.iconst 1, 1) := by decide +kernel
theorem dX10_slips_51 : decode cX10_slips 51 = .ok (.iadd, 1) := by decide +kernel
theorem dX10_slips_52 : decode cX10_slips 52 = .ok (.iastore, 1) := by decide +kernel
theorem dX10_slips_53 : decode cX10_slips 53 = .ok (.aload_n 0, 1) := by decide +kernel
theorem dX10_slips_54 : decode cX10_slips 54 = .ok (.iload_n 1, 1) := by decide +kernel
theorem dX10_slips_55 : decode cX10_slips 55 = .ok (.aload_n 0, 1) := by decide +kernel
theorem dX10_slips_56 : decode cX10_slips 56 = .ok (.getfield 7, 3) := by decide +kernel
theorem dX10_slips_59 : decode cX10_slips 59 = .ok (.bipush 93, 2) := by decide +kernel
theorem dX10_slips_61 : decode cX10_slips 61 = .ok (.iaload, 1) := by decide +kernel
theorem dX10_slips_62 : decode cX10_slips 62 = .ok (.iload_n 2, 1) := by decide +kernel
theorem dX10_slips_63 : decode cX10_slips 63 = .ok (.invokevirtual 128, 3) := by decide +kernel
theorem dX10_slips_66 : decode cX10_slips 66 = .ok (.ireturn, 1) := by decide +kernel
theorem dX10_minute_0 : decode cX10_minute 0 = .ok (.aload_n 0, 1) := by decide +kernel
theorem dX10_minute_1 : decode cX10_minute 1 = .ok (.invokevirtual 212, 3) := by decide +kernel
theorem dX10_minute_4 : decode cX10_minute 4 = .ok (.aload_n 0, 1) := by decide +kernel
theorem dX10_minute_5 : decode cX10_minute 5 = .ok (.getfield 73, 3) := by decide +kernel
theorem dX10_minute_8 : decode cX10_minute 8 = .ok (.iconst 1, 1) := by decide +kernel
theorem dX10_minute_9 : decode cX10_minute 9 = .ok (.dup2, 1) := by decide +kernel
theorem dX10_minute_10 : decode cX10_minute 10 = .ok (.iaload, 1) := by decide +kernel
theorem dX10_minute_11 : decode cX10_minute 11 = .ok (.iconst 1, 1) := by decide +kernel
theorem dX10_minute_12 : decode cX10_minute 12 = .ok (.iadd, 1) := by decide +kernel
theorem dX10_minute_13 : decode cX10_minute 13 = .ok (.iastore, 1) := by decide +kernel
theorem dX10_minute_14 : decode cX10_minute 14 = .ok (.aload_n 0, 1) := by decide +kernel
theorem dX10_minute_15 : decode cX10_minute 15 = .ok (.getfield 7, 3) := by decide +kernel
theorem dX10_minute_18 : decode cX10_minute 18 = .ok (.bipush 93, 2) := by decide +kernel
theorem dX10_minute_20 : decode cX10_minute 20 = .ok (.iaload, 1) := by decide +kernel
theorem dX10_minute_21 : decode cX10_minute 21 = .ok (.ireturn, 1) := by decide +kernel
theorem dX10_goes_0 : decode cX10_goes 0 = .ok (.aload_n 0, 1) := by decide +kernel
theorem dX10_goes_1 : decode cX10_goes 1 = .ok (.invokevirtual 235, 3) := by decide +kernel
theorem dX10_goes_4 : decode cX10_goes 4 = .ok (.istore_n 1, 1) := by decide +kernel
theorem dX10_goes_5 : decode cX10_goes 5 = .ok (.iload_n 1, 1) := by decide +kernel
theorem dX10_goes_6 : decode cX10_goes 6 = .ok (.bipush (-2), 2) := by decide +kernel
theorem dX10_goes_8 : decode cX10_goes 8 = .ok (.if_icmp .eq 40, 3) := by decide +kernel
theorem dX10_goes_11 : decode cX10_goes 11 = .ok (.aload_n 0, 1) := by decide +kernel
theorem dX10_goes_12 : decode cX10_goes 12 = .ok (.getfield 73, 3) := by decide +kernel
theorem dX10_goes_15 : decode cX10_goes 15 = .ok (.iconst 2, 1) := by decide +kernel
theorem dX10_goes_16 : decode cX10_goes 16 = .ok (.dup2, 1) := by decide +kernel
theorem dX10_goes_17 : decode cX10_goes 17 = .ok (.iaload, 1) := by decide +kernel
theorem dX10_goes_18 : decode cX10_goes 18 = .ok (.iconst 1, 1) := by decide +kernel
theorem dX10_goes_19 : decode cX10_goes 19 = .ok (.iadd, 1) := by decide +kernel
theorem dX10_goes_20 : decode cX10_goes 20 = .ok (.iastore, 1) := by decide +kernel
theorem dX10_goes_21 : decode cX10_goes 21 = .ok (.aload_n 0, 1) := by decide +kernel
theorem dX10_goes_22 : decode cX10_goes 22 = .ok (.getfield 73, 3) := by decide +kernel
theorem dX10_goes_25 : decode cX10_goes 25 = .ok (.iconst 4, 1) := by decide +kernel
theorem dX10_goes_26 : decode cX10_goes 26 = .ok (.dup2, 1) := by decide +kernel
theorem dX10_goes_27 : decode cX10_goes 27 = .ok (.iaload, 1) := by decide +kernel
theorem dX10_goes_28 : decode cX10_goes 28 = .ok (.aload_n 0, 1) := by decide +kernel
theorem dX10_goes_29 : decode cX10_goes 29 = .ok (.iload_n 1, 1) := by decide +kernel
theorem dX10_goes_30 : decode cX10_goes 30 = .ok (.iconst 0, 1) := by decide +kernel
theorem dX10_goes_31 : decode cX10_goes 31 = .ok (.invokevirtual 110, 3) := by decide +kernel
theorem dX10_goes_34 : decode cX10_goes 34 = .ok (.iadd, 1) := by decide +kernel
theorem dX10_goes_35 : decode cX10_goes 35 = .ok (.iastore, 1) := by decide +kernel
theorem dX10_goes_36 : decode cX10_goes 36 = .ok (.aload_n 0, 1) := by decide +kernel
theorem dX10_goes_37 : decode cX10_goes 37 = .ok (.iload_n 1, 1) := by decide +kernel
theorem dX10_goes_38 : decode cX10_goes 38 = .ok (.iconst 5, 1) := by decide +kernel
theorem dX10_goes_39 : decode cX10_goes 39 = .ok (.iconst 1, 1) := by decide +kernel
theorem dX10_goes_40 : decode cX10_goes 40 = .ok (.invokevirtual 113, 3) := by decide +kernel
theorem dX10_goes_43 : decode cX10_goes 43 = .ok (.aload_n 0, 1) := by decide +kernel
theorem dX10_goes_44 : decode cX10_goes 44 = .ok (.invokevirtual 279, 3) := by decide +kernel
theorem dX10_goes_47 : decode cX10_goes 47 = .ok (.pop, 1) := by decide +kernel
theorem dX10_goes_48 : decode cX10_goes 48 = .ok (.iload_n 1, 1) := by decide +kernel
theorem dX10_goes_49 : decode cX10_goes 49 = .ok (.ireturn, 1) := by decide +kernel
theorem dX10_looks_0 : decode cX10_looks 0 = .ok (.aload_n 0, 1) := by decide +kernel
theorem dX10_looks_1 : decode cX10_looks 1 = .ok (.iload_n 1, 1) := by decide +kernel
theorem dX10_looks_2 : decode cX10_looks 2 = .ok (.invokevirtual 124, 3) := by decide +kernel
theorem dX10_looks_5 : decode cX10_looks 5 = .ok (.ifCond .eq 13, 3) := by decide +kernel
theorem dX10_looks_8 : decode cX10_looks 8 = .ok (.iload_n 2, 1) := by decide +kernel
theorem dX10_looks_9 : decode cX10_looks 9 = .ok (.iconst 0, 1) := by decide +kernel
theorem dX10_looks_10 : decode cX10_looks 10 = .ok (.bipush 9, 2) := by decide +kernel
theorem dX10_looks_12 : decode cX10_looks 12 = .ok (.invokestatic 106, 3) := by decide +kernel
theorem dX10_looks_15 : decode cX10_looks 15 = .ok (.ifCond .ne 5, 3) := by decide +kernel
theorem dX10_looks_18 : decode cX10_looks 18 = .ok (.iconst (-1), 1) := by decide +kernel
theorem dX10_looks_19 : decode cX10_looks 19 = .ok (.ireturn, 1) := by decide +kernel
theorem dX10_looks_20 : decode cX10_looks 20 = .ok (.aload_n 0, 1) := by decide +kernel
theorem dX10_looks_21 : decode cX10_looks 21 = .ok (.iload_n 1, 1) := by decide +kernel
theorem dX10_looks_22 : decode cX10_looks 22 = .ok (.invokevirtual 197, 3) := by decide +kernel
theorem dX10_looks_25 : decode cX10_looks 25 = .ok (.ifCond .ne 6, 3) := by decide +kernel
theorem dX10_looks_28 : decode cX10_looks 28 = .ok (.bipush (-5), 2) := by decide +kernel
theorem dX10_looks_30 : decode cX10_looks 30 = .ok (.ireturn, 1) := by decide +kernel
theorem dX10_looks_31 : decode cX10_looks 31 = .ok (.aload_n 0, 1) := by decide +kernel
theorem dX10_looks_32 : decode cX10_looks 32 = .ok (.iload_n 1, 1) := by decide +kernel
theorem dX10_looks_33 : decode cX10_looks 33 = .ok (.iconst 2, 1) := by decide +kernel
theorem dX10_looks_34 : decode cX10_looks 34 = .ok (.invokevirtual 110, 3) := by decide +kernel
theorem dX10_looks_37 : decode cX10_looks 37 = .ok (.istore_n 3, 1) := by decide +kernel
theorem dX10_looks_38 : decode cX10_looks 38 = .ok (.aload_n 0, 1) := by decide +kernel
theorem dX10_looks_39 : decode cX10_looks 39 = .ok (.iload_n 1, 1) := by decide +kernel
theorem dX10_looks_40 : decode cX10_looks 40 = .ok (.iconst 2, 1) := by decide +kernel
theorem dX10_looks_41 : decode cX10_looks 41 = .ok (.iload_n 2, 1) := by decide +kernel
theorem dX10_looks_42 : decode cX10_looks 42 = .ok (.invokevirtual 113, 3) := by decide +kernel
theorem dX10_looks_45 : decode cX10_looks 45 = .ok (.aload_n 0, 1) := by decide +kernel
theorem dX10_looks_46 : decode cX10_looks 46 = .ok (.getfield 73, 3) := by decide +kernel
theorem dX10_looks_49 : decode cX10_looks 49 = .ok (.iconst 3, 1) := by decide +kernel
theorem dX10_looks_50 : decode cX10_looks 50 = .ok (.dup2, 1) := by decide +kernel
theorem dX10_looks_51 : decode cX10_looks 51 = .ok (.iaload, 1) := by decide +kernel
theorem dX10_looks_52 : decode cX10_looks 52 = .ok (.iconst 1, 1) := by decide +kernel
theorem dX10_looks_53 : decode cX10_looks 53 = .ok (.iadd, 1) := by decide +kernel
theorem dX10_looks_54 : decode cX10_looks 54 = .ok (.iastore, 1) := by decide +kernel
theorem dX10_looks_55 : decode cX10_looks 55 = .ok (.iload_n 3, 1) := by decide +kernel
theorem dX10_looks_56 : decode cX10_looks 56 = .ok (.ireturn, 1) := by decide +kernel
theorem dX10_led_0 : decode cX10_led 0 = .ok (.iload_n 1, 1) := by decide +kernel
theorem dX10_led_1 : decode cX10_led 1 = .ok (.iconst 0, 1) := by decide +kernel
theorem dX10_led_2 : decode cX10_led 2 = .ok (.iconst 4, 1) := by decide +kernel
theorem dX10_led_3 : decode cX10_led 3 = .ok (.invokestatic 106, 3) := by decide +kernel
theorem dX10_led_6 : decode cX10_led 6 = .ok (.ifCond .eq 12, 3) := by decide +kernel
theorem dX10_led_9 : decode cX10_led 9 = .ok (.aload_n 0, 1) := by decide +kernel
theorem dX10_led_10 : decode cX10_led 10 = .ok (.getfield 73, 3) := by decide +kernel
theorem dX10_led_13 : decode cX10_led 13 = .ok (.iload_n 1, 1) := by decide +kernel
theorem dX10_led_14 : decode cX10_led 14 = .ok (.iaload, 1) := by decide +kernel
theorem dX10_led_15 : decode cX10_led 15 = .ok (.goto 4, 3) := by decide +kernel
theorem dX10_led_18 : decode cX10_led 18 = .ok (.iconst (-1), 1) := by decide +kernel
theorem dX10_led_19 : decode cX10_led 19 = .ok (.ireturn, 1) := by decide +kernel
theorem dX10_image_0 : decode cX10_image 0 = .ok (.iconst 0, 1) := by decide +kernel
theorem dX10_image_1 : decode cX10_image 1 = .ok (.istore_n 1, 1) := by decide +kernel
theorem dX10_image_2 : decode cX10_image 2 = .ok (.iload_n 1, 1) := by decide +kernel
theorem dX10_image_3 : decode cX10_image 3 = .ok (.bipush 94, 2) := by decide +kernel
theorem dX10_image_5 : decode cX10_image 5 = .ok (.if_icmp .ge 21, 3) := by decide +kernel
theorem dX10_image_8 : decode cX10_image 8 = .ok (.aload_n 0, 1) := by decide +kernel
theorem dX10_image_9 : decode cX10_image 9 = .ok (.getfield 76, 3) := by decide +kernel
theorem dX10_image_12 : decode cX10_image 12 = .ok (.iload_n 1, 1) := by decide +kernel
theorem dX10_image_13 : decode cX10_image 13 = .ok (.aload_n 0, 1) := by decide +kernel
theorem dX10_image_14 : decode cX10_image 14 = .ok (.getfield 7, 3) := by decide +kernel
theorem dX10_image_17 : decode cX10_image 17 = .ok (.iload_n 1, 1) := by decide +kernel
theorem dX10_image_18 : decode cX10_image 18 = .ok (.iaload, 1) := by decide +kernel
theorem dX10_image_19 : decode cX10_image 19 = .ok (.iastore, 1) := by decide +kernel
theorem dX10_image_20 : decode cX10_image 20 = .ok (.iinc 1 1, 3) := by decide +kernel
theorem dX10_image_23 : decode cX10_image 23 = .ok (.goto (-21), 3) := by decide +kernel
theorem dX10_image_26 : decode cX10_image 26 = .ok (.iconst 0, 1) := by decide +kernel
theorem dX10_image_27 : decode cX10_image 27 = .ok (.istore_n 1, 1) := by decide +kernel
theorem dX10_image_28 : decode cX10_image 28 = .ok (.iload_n 1, 1) := by decide +kernel
theorem dX10_image_29 : decode cX10_image 29 = .ok (.iconst 5, 1) := by decide +kernel
theorem dX10_image_30 : decode cX10_image 30 = .ok (.if_icmp .ge 21, 3) := by decide +kernel
theorem dX10_image_33 : decode cX10_image 33 = .ok (.aload_n 0, 1) := by decide +kernel
theorem dX10_image_34 : decode cX10_image 34 = .ok (.getfield 79, 3) := by decide +kernel
theorem dX10_image_37 : decode cX10_image 37 = .ok (.iload_n 1, 1) := by decide +kernel
theorem dX10_image_38 : decode cX10_image 38 = .ok (.aload_n 0, 1) := by decide +kernel
theorem dX10_image_39 : decode cX10_image 39 = .ok (.getfield 73, 3) := by decide +kernel
theorem dX10_image_42 : decode cX10_image 42 = .ok (.iload_n 1, 1) := by decide +kernel
theorem dX10_image_43 : decode cX10_image 43 = .ok (.iaload, 1) := by decide +kernel
theorem dX10_image_44 : decode cX10_image 44 = .ok (.iastore, 1) := by decide +kernel
theorem dX10_image_45 : decode cX10_image 45 = .ok (.iinc 1 1, 3) := by decide +kernel
theorem dX10_image_48 : decode cX10_image 48 = .ok (.goto (-20), 3) := by decide +kernel
theorem dX10_image_51 : decode cX10_image 51 = .ok (.aload_n 0, 1) := by decide +kernel
theorem dX10_image_52 : decode cX10_image 52 = .ok (.aload_n 0, 1) := by decide +kernel
theorem dX10_image_53 : decode cX10_image 53 = .ok (.getfield 103, 3) := by decide +kernel
theorem dX10_image_56 : decode cX10_image 56 = .ok (.putfield 282, 3) := by decide +kernel
theorem dX10_image_59 : decode cX10_image 59 = .ok (.aload_n 0, 1) := by decide +kernel
theorem dX10_image_60 : decode cX10_image 60 = .ok (.iconst 1, 1) := by decide +kernel
theorem dX10_image_61 : decode cX10_image 61 = .ok (.putfield 285, 3) := by decide +kernel
theorem dX10_image_64 : decode cX10_image 64 = .ok (.aload_n 0, 1) := by decide +kernel
theorem dX10_image_65 : decode cX10_image 65 = .ok (.getfield 73, 3) := by decide +kernel
theorem dX10_image_68 : decode cX10_image 68 = .ok (.iconst 2, 1) := by decide +kernel
theorem dX10_image_69 : decode cX10_image 69 = .ok (.iaload, 1) := by decide +kernel
theorem dX10_image_70 : decode cX10_image 70 = .ok (.ireturn, 1) := by decide +kernel
theorem dX10_back_0 : decode cX10_back 0 = .ok (.aload_n 0, 1) := by decide +kernel
theorem dX10_back_1 : decode cX10_back 1 = .ok (.getfield 285, 3) := by decide +kernel
theorem dX10_back_4 : decode cX10_back 4 = .ok (.ifCond .ne 6, 3) := by decide +kernel
theorem dX10_back_7 : decode cX10_back 7 = .ok (.bipush (-5), 2) := by decide +kernel
theorem dX10_back_9 : decode cX10_back 9 = .ok (.ireturn, 1) := by decide +kernel
theorem dX10_back_10 : decode cX10_back 10 = .ok (.iconst 0, 1) := by decide +kernel
theorem dX10_back_11 : decode cX10_back 11 = .ok (.istore_n 1, 1) := by decide +kernel
theorem dX10_back_12 : decode cX10_back 12 = .ok (.iload_n 1, 1) := by decide +kernel
theorem dX10_back_13 : decode cX10_back 13 = .ok (.aload_n 0, 1) := by decide +kernel
theorem dX10_back_14 : decode cX10_back 14 = .ok (.getfield 282, 3) := by decide +kernel
theorem dX10_back_17 : decode cX10_back 17 = .ok (.if_icmp .ge 58, 3) := by decide +kernel
theorem dX10_back_20 : decode cX10_back 20 = .ok (.aload_n 0, 1) := by decide +kernel
theorem dX10_back_21 : decode cX10_back 21 = .ok (.iload_n 1, 1) := by decide +kernel
theorem dX10_back_22 : decode cX10_back 22 = .ok (.iconst 0, 1) := by decide +kernel
theorem dX10_back_23 : decode cX10_back 23 = .ok (.aload_n 0, 1) := by decide +kernel
theorem dX10_back_24 : decode cX10_back 24 = .ok (.getfield 76, 3) := by decide +kernel
theorem dX10_back_27 : decode cX10_back 27 = .ok (.bipush 6, 2) := by decide +kernel
theorem dX10_back_29 : decode cX10_back 29 = .ok (.iload_n 1, 1) := by decide +kernel
theorem dX10_back_30 : decode cX10_back 30 = .ok (.imul, 1) := by decide +kernel
theorem dX10_back_31 : decode cX10_back 31 = .ok (.iaload, 1) := by decide +kernel
theorem dX10_back_32 : decode cX10_back 32 = .ok (.invokevirtual 113, 3) := by decide +kernel
theorem dX10_back_35 : decode cX10_back 35 = .ok (.aload_n 0, 1) := by decide +kernel
theorem dX10_back_36 : decode cX10_back 36 = .ok (.iload_n 1, 1) := by decide +kernel
theorem dX10_back_37 : decode cX10_back 37 = .ok (.iconst 2, 1) := by decide +kernel
theorem dX10_back_38 : decode cX10_back 38 = .ok (.aload_n 0, 1) := by decide +kernel
theorem dX10_back_39 : decode cX10_back 39 = .ok (.getfield 76, 3) := by decide +kernel
theorem dX10_back_42 : decode cX10_back 42 = .ok (.bipush 6, 2) := by decide +kernel
theorem dX10_back_44 : decode cX10_back 44 = .ok (.iload_n 1, 1) := by decide +kernel
theorem dX10_back_45 : decode cX10_back 45 = .ok (.imul, 1) := by decide +kernel
theorem dX10_back_46 : decode cX10_back 46 = .ok (.iconst 2, 1) := by decide +kernel
theorem dX10_back_47 : decode cX10_back 47 = .ok (.iadd, 1) := by decide +kernel
theorem dX10_back_48 : decode cX10_back 48 = .ok (.iaload, 1) := by decide +kernel
theorem dX10_back_49 : decode cX10_back 49 = .ok (.invokevirtual 113, 3) := by decide +kernel
theorem dX10_back_52 : decode cX10_back 52 = .ok (.aload_n 0, 1) := by decide +kernel
theorem dX10_back_53 : decode cX10_back 53 = .ok (.iload_n 1, 1) := by decide +kernel
theorem dX10_back_54 : decode cX10_back 54 = .ok (.iconst 5, 1) := by decide +kernel
theorem dX10_back_55 : decode cX10_back 55 = .ok (.aload_n 0, 1) := by decide +kernel
theorem dX10_back_56 : decode cX10_back 56 = .ok (.getfield 76, 3) := by decide +kernel
theorem dX10_back_59 : decode cX10_back 59 = .ok (.bipush 6, 2) := by decide +kernel
theorem dX10_back_61 : decode cX10_back 61 = .ok (.iload_n 1, 1) := by decide +kernel
theorem dX10_back_62 : decode cX10_back 62 = .ok (.imul, 1) := by decide +kernel
theorem dX10_back_63 : decode cX10_back 63 = .ok (.iconst 5, 1) := by decide +kernel
theorem dX10_back_64 : decode cX10_back 64 = .ok (.iadd, 1) := by decide +kernel
theorem dX10_back_65 : decode cX10_back 65 = .ok (.iaload, 1) := by decide +kernel
theorem dX10_back_66 : decode cX10_back 66 = .ok (.invokevirtual 113, 3) := by decide +kernel
theorem dX10_back_69 : decode cX10_back 69 = .ok (.iinc 1 1, 3) := by decide +kernel
theorem dX10_back_72 : decode cX10_back 72 = .ok (.goto (-60), 3) := by decide +kernel
theorem dX10_back_75 : decode cX10_back 75 = .ok (.aload_n 0, 1) := by decide +kernel
theorem dX10_back_76 : decode cX10_back 76 = .ok (.getfield 7, 3) := by decide +kernel
theorem dX10_back_79 : decode cX10_back 79 = .ok (.bipush 93, 2) := by decide +kernel
theorem dX10_back_81 : decode cX10_back 81 = .ok (.aload_n 0, 1) := by decide +kernel
theorem dX10_back_82 : decode cX10_back 82 = .ok (.getfield 76, 3) := by decide +kernel
theorem dX10_back_85 : decode cX10_back 85 = .ok (.bipush 93, 2) := by decide +kernel
theorem dX10_back_87 : decode cX10_back 87 = .ok (.iaload, 1) := by decide +kernel
theorem dX10_back_88 : decode cX10_back 88 = .ok (.iastore, 1) := by decide +kernel
theorem dX10_back_89 : decode cX10_back 89 = .ok (.iconst 0, 1) := by decide +kernel
theorem dX10_back_90 : decode cX10_back 90 = .ok (.istore_n 1, 1) := by decide +kernel
theorem dX10_back_91 : decode cX10_back 91 = .ok (.iload_n 1, 1) := by decide +kernel
theorem dX10_back_92 : decode cX10_back 92 = .ok (.iconst 5, 1) := by decide +kernel
theorem dX10_back_93 : decode cX10_back 93 = .ok (.if_icmp .ge 21, 3) := by decide +kernel
theorem dX10_back_96 : decode cX10_back 96 = .ok (.aload_n 0, 1) := by decide +kernel
theorem dX10_back_97 : decode cX10_back 97 = .ok (.getfield 73, 3) := by decide +kernel
theorem dX10_back_100 : decode cX10_back 100 = .ok (.iload_n 1, 1) := by decide +kernel
theorem dX10_back_101 : decode cX10_back 101 = .ok (.aload_n 0, 1) := by decide +kernel
theorem dX10_back_102 : decode cX10_back 102 = .ok (.getfield 79, 3) := by decide +kernel
theorem dX10_back_105 : decode cX10_back 105 = .ok (.iload_n 1, 1) := by decide +kernel
theorem dX10_back_106 : decode cX10_back 106 = .ok (.iaload, 1) := by decide +kernel
theorem dX10_back_107 : decode cX10_back 107 = .ok (.iastore, 1) := by decide +kernel
theorem dX10_back_108 : decode cX10_back 108 = .ok (.iinc 1 1, 3) := by decide +kernel
theorem dX10_back_111 : decode cX10_back 111 = .ok (.goto (-20), 3) := by decide +kernel
theorem dX10_back_114 : decode cX10_back 114 = .ok (.aload_n 0, 1) := by decide +kernel
theorem dX10_back_115 : decode cX10_back 115 = .ok (.getfield 73, 3) := by decide +kernel
theorem dX10_back_118 : decode cX10_back 118 = .ok (.iconst 2, 1) := by decide +kernel
theorem dX10_back_119 : decode cX10_back 119 = .ok (.iaload, 1) := by decide +kernel
theorem dX10_back_120 : decode cX10_back 120 = .ok (.ireturn, 1) := by decide +kernel
theorem dX10_body_0 : decode cX10_body 0 = .ok (.iload_n 1, 1) := by decide +kernel
theorem dX10_body_1 : decode cX10_body 1 = .ok (.iconst 0, 1) := by decide +kernel
theorem dX10_body_2 : decode cX10_body 2 = .ok (.bipush 7, 2) := by decide +kernel
theorem dX10_body_4 : decode cX10_body 4 = .ok (.invokestatic 106, 3) := by decide +kernel
theorem dX10_body_7 : decode cX10_body 7 = .ok (.ifCond .ne 5, 3) := by decide +kernel
theorem dX10_body_10 : decode cX10_body 10 = .ok (.iconst (-1), 1) := by decide +kernel
theorem dX10_body_11 : decode cX10_body 11 = .ok (.ireturn, 1) := by decide +kernel
theorem dX10_body_12 : decode cX10_body 12 = .ok (.aload_n 0, 1) := by decide +kernel
theorem dX10_body_13 : decode cX10_body 13 = .ok (.getfield 288, 3) := by decide +kernel
theorem dX10_body_16 : decode cX10_body 16 = .ok (.bipush 50, 2) := by decide +kernel
theorem dX10_body_18 : decode cX10_body 18 = .ok (.if_icmp .ne 6, 3) := by decide +kernel
theorem dX10_body_21 : decode cX10_body 21 = .ok (.bipush (-3), 2) := by decide +kernel
theorem dX10_body_23 : decode cX10_body 23 = .ok (.ireturn, 1) := by decide +kernel
theorem dX10_body_24 : decode cX10_body 24 = .ok (.aload_n 0, 1) := by decide +kernel
theorem dX10_body_25 : decode cX10_body 25 = .ok (.getfield 88, 3) := by decide +kernel
theorem dX10_body_28 : decode cX10_body 28 = .ok (.aload_n 0, 1) := by decide +kernel
theorem dX10_body_29 : decode cX10_body 29 = .ok (.getfield 288, 3) := by decide +kernel
theorem dX10_body_32 : decode cX10_body 32 = .ok (.iload_n 1, 1) := by decide +kernel
theorem dX10_body_33 : decode cX10_body 33 = .ok (.iastore, 1) := by decide +kernel
theorem dX10_body_34 : decode cX10_body 34 = .ok (.aload_n 0, 1) := by decide +kernel
theorem dX10_body_35 : decode cX10_body 35 = .ok (.dup, 1) := by decide +kernel
theorem dX10_body_36 : decode cX10_body 36 = .ok (.getfield 288, 3) := by decide +kernel
theorem dX10_body_39 : decode cX10_body 39 = .ok (.iconst 1, 1) := by decide +kernel
theorem dX10_body_40 : decode cX10_body 40 = .ok (.iadd, 1) := by decide +kernel
theorem dX10_body_41 : decode cX10_body 41 = .ok (.putfield 288, 3) := by decide +kernel
theorem dX10_body_44 : decode cX10_body 44 = .ok (.aload_n 0, 1) := by decide +kernel
theorem dX10_body_45 : decode cX10_body 45 = .ok (.getfield 288, 3) := by decide +kernel
theorem dX10_body_48 : decode cX10_body 48 = .ok (.iconst 1, 1) := by decide +kernel
theorem dX10_body_49 : decode cX10_body 49 = .ok (.isub, 1) := by decide +kernel
theorem dX10_body_50 : decode cX10_body 50 = .ok (.ireturn, 1) := by decide +kernel
theorem dX10_does_0 : decode cX10_does 0 = .ok (.aload_n 0, 1) := by decide +kernel
theorem dX10_does_1 : decode cX10_does 1 = .ok (.aload_n 0, 1) := by decide +kernel
theorem dX10_does_2 : decode cX10_does 2 = .ok (.getfield 88, 3) := by decide +kernel
theorem dX10_does_5 : decode cX10_does 5 = .ok (.iload_n 1, 1) := by decide +kernel
theorem dX10_does_6 : decode cX10_does 6 = .ok (.iaload, 1) := by decide +kernel
theorem dX10_does_7 : decode cX10_does 7 = .ok (.iload_n 1, 1) := by decide +kernel
theorem dX10_does_8 : decode cX10_does 8 = .ok (.iload_n 2, 1) := by decide +kernel
theorem dX10_does_9 : decode cX10_does 9 = .ok (.iload_n 3, 1) := by decide +kernel
theorem dX10_does_10 : decode cX10_does 10 = .ok (.invokevirtual 291, 3) := by decide +kernel
theorem dX10_does_13 : decode cX10_does 13 = .ok (.ireturn, 1) := by decide +kernel
theorem dX10_byKind_0 : decode cX10_byKind 0 = .ok (.iload_n 1, 1) := by decide +kernel
theorem dX10_byKind_1 : decode cX10_byKind 1 = .ok (.istore 5, 2) := by decide +kernel
theorem dX10_byKind_3 : decode cX10_byKind 3 = .ok (.aload_n 0, 1) := by decide +kernel
theorem dX10_byKind_4 : decode cX10_byKind 4 = .ok (.getfield 85, 3) := by decide +kernel
theorem dX10_byKind_7 : decode cX10_byKind 7 = .ok (.iconst 4, 1) := by decide +kernel
theorem dX10_byKind_8 : decode cX10_byKind 8 = .ok (.iload 5, 2) := by decide +kernel
theorem dX10_byKind_10 : decode cX10_byKind 10 = .ok (.imul, 1) := by decide +kernel
theorem dX10_byKind_11 : decode cX10_byKind 11 = .ok (.iload_n 3, 1) := by decide +kernel
theorem dX10_byKind_12 : decode cX10_byKind 12 = .ok (.iadd, 1) := by decide +kernel
theorem dX10_byKind_13 : decode cX10_byKind 13 = .ok (.iaload, 1) := by decide +kernel
theorem dX10_byKind_14 : decode cX10_byKind 14 = .ok (.ifCond .ne 15, 3) := by decide +kernel
theorem dX10_byKind_17 : decode cX10_byKind 17 = .ok (.aload_n 0, 1) := by decide +kernel
theorem dX10_byKind_18 : decode cX10_byKind 18 = .ok (.getfield 82, 3) := by decide +kernel
theorem dX10_byKind_21 : decode cX10_byKind 21 = .ok (.iload 5, 2) := by decide +kernel
theorem dX10_byKind_23 : decode cX10_byKind 23 = .ok (.iaload, 1) := by decide +kernel
theorem dX10_byKind_24 : decode cX10_byKind 24 = .ok (.istore 5, 2) := by decide +kernel
theorem dX10_byKind_26 : decode cX10_byKind 26 = .ok (.goto (-23), 3) := by decide +kernel
theorem dX10_byKind_29 : decode cX10_byKind 29 = .ok (.aload_n 0, 1) := by decide +kernel
theorem dX10_byKind_30 : decode cX10_byKind 30 = .ok (.getfield 82, 3) := by decide +kernel
theorem dX10_byKind_33 : decode cX10_byKind 33 = .ok (.iload 5, 2) := by decide +kernel
theorem dX10_byKind_35 : decode cX10_byKind 35 = .ok (.iaload, 1) := by decide +kernel
theorem dX10_byKind_36 : decode cX10_byKind 36 = .ok (.istore 6, 2) := by decide +kernel
theorem dX10_byKind_38 : decode cX10_byKind 38 = .ok (.aload_n 0, 1) := by decide +kernel
theorem dX10_byKind_39 : decode cX10_byKind 39 = .ok (.getfield 85, 3) := by decide +kernel
theorem dX10_byKind_42 : decode cX10_byKind 42 = .ok (.iconst 4, 1) := by decide +kernel
theorem dX10_byKind_43 : decode cX10_byKind 43 = .ok (.iload 5, 2) := by decide +kernel
theorem dX10_byKind_45 : decode cX10_byKind 45 = .ok (.imul, 1) := by decide +kernel
theorem dX10_byKind_46 : decode cX10_byKind 46 = .ok (.iload_n 3, 1) := by decide +kernel
theorem dX10_byKind_47 : decode cX10_byKind 47 = .ok (.iadd, 1) := by decide +kernel
theorem dX10_byKind_48 : decode cX10_byKind 48 = .ok (.iaload, 1) := by decide +kernel
theorem dX10_byKind_49 : decode cX10_byKind 49 = .ok (.istore 7, 2) := by decide +kernel
theorem dX10_byKind_51 : decode cX10_byKind 51 = .ok (.aload_n 0, 1) := by decide +kernel
theorem dX10_byKind_52 : decode cX10_byKind 52 = .ok (.getfield 294, 3) := by decide +kernel
theorem dX10_byKind_55 : decode cX10_byKind 55 = .ok (.bipush 24, 2) := by decide +kernel
theorem dX10_byKind_57 : decode cX10_byKind 57 = .ok (.if_icmp .ge 14, 3) := by decide +kernel
theorem dX10_byKind_60 : decode cX10_byKind 60 = .ok (.aload_n 0, 1) := by decide +kernel
theorem dX10_byKind_61 : decode cX10_byKind 61 = .ok (.getfield 91, 3) := by decide +kernel
theorem dX10_byKind_64 : decode cX10_byKind 64 = .ok (.aload_n 0, 1) := by decide +kernel
theorem dX10_byKind_65 : decode cX10_byKind 65 = .ok (.getfield 294, 3) := by decide +kernel
theorem dX10_byKind_68 : decode cX10_byKind 68 = .ok (.iload 7, 2) := by decide +kernel
theorem dX10_byKind_70 : decode cX10_byKind 70 = .ok (.iastore, 1) := by decide +kernel
theorem dX10_byKind_71 : decode cX10_byKind 71 = .ok (.aload_n 0, 1) := by decide +kernel
theorem dX10_byKind_72 : decode cX10_byKind 72 = .ok (.dup, 1) := by decide +kernel
theorem dX10_byKind_73 : decode cX10_byKind 73 = .ok (.getfield 294, 3) := by decide +kernel
theorem dX10_byKind_76 : decode cX10_byKind 76 = .ok (.iconst 1, 1) := by decide +kernel
theorem dX10_byKind_77 : decode cX10_byKind 77 = .ok (.iadd, 1) := by decide +kernel
theorem dX10_byKind_78 : decode cX10_byKind 78 = .ok (.putfield 294, 3) := by decide +kernel
theorem dX10_byKind_81 : decode cX10_byKind 81 = .ok (.iload 7, 2) := by decide +kernel
theorem dX10_byKind_83 : decode cX10_byKind 83 = .ok (.lookupswitch 258 #[(1, 105), (2, 110), (10, 127), (11, 138), (20, 143), (30, 156), (40, 168), (41, 181), (50, 194), (60, 213), (70, 226), (80, 239)], 105) := by decide +kernel
theorem dX10_byKind_188 : decode cX10_byKind 188 = .ok (.iload 4, 2) := by decide +kernel
theorem dX10_byKind_190 : decode cX10_byKind 190 = .ok (.iload_n 2, 1) := by decide +kernel
theorem dX10_byKind_191 : decode cX10_byKind 191 = .ok (.iadd, 1) := by decide +kernel
theorem dX10_byKind_192 : decode cX10_byKind 192 = .ok (.ireturn, 1) := by decide +kernel
theorem dX10_byKind_193 : decode cX10_byKind 193 = .ok (.aload_n 0, 1) := by decide +kernel
theorem dX10_byKind_194 : decode cX10_byKind 194 = .ok (.iload_n 2, 1) := by decide +kernel
theorem dX10_byKind_195 : decode cX10_byKind 195 = .ok (.iconst 1, 1) := by decide +kernel
theorem dX10_byKind_196 : decode cX10_byKind 196 = .ok (.iload 4, 2) := by decide +kernel
theorem dX10_byKind_198 : decode cX10_byKind 198 = .ok (.invokevirtual 297, 3) := by decide +kernel
theorem dX10_byKind_201 : decode cX10_byKind 201 = .ok (.aload_n 0, 1) := by decide +kernel
theorem dX10_byKind_202 : decode cX10_byKind 202 = .ok (.iload_n 2, 1) := by decide +kernel
theorem dX10_byKind_203 : decode cX10_byKind 203 = .ok (.iconst 2, 1) := by decide +kernel
theorem dX10_byKind_204 : decode cX10_byKind 204 = .ok (.iconst 1, 1) := by decide +kernel
theorem dX10_byKind_205 : decode cX10_byKind 205 = .ok (.invokevirtual 297, 3) := by decide +kernel
theorem dX10_byKind_208 : decode cX10_byKind 208 = .ok (.isub, 1) := by decide +kernel
theorem dX10_byKind_209 : decode cX10_byKind 209 = .ok (.ireturn, 1) := by decide +kernel
theorem dX10_byKind_210 : decode cX10_byKind 210 = .ok (.aload_n 0, 1) := by decide +kernel
theorem dX10_byKind_211 : decode cX10_byKind 211 = .ok (.iload_n 2, 1) := by decide +kernel
theorem dX10_byKind_212 : decode cX10_byKind 212 = .ok (.iconst 0, 1) := by decide +kernel
theorem dX10_byKind_213 : decode cX10_byKind 213 = .ok (.iload 4, 2) := by decide +kernel
theorem dX10_byKind_215 : decode cX10_byKind 215 = .ok (.invokevirtual 297, 3) := by decide +kernel
theorem dX10_byKind_218 : decode cX10_byKind 218 = .ok (.iconst 2, 1) := by decide +kernel
theorem dX10_byKind_219 : decode cX10_byKind 219 = .ok (.imul, 1) := by decide +kernel
theorem dX10_byKind_220 : decode cX10_byKind 220 = .ok (.ireturn, 1) := by decide +kernel
theorem dX10_byKind_221 : decode cX10_byKind 221 = .ok (.iload 4, 2) := by decide +kernel
theorem dX10_byKind_223 : decode cX10_byKind 223 = .ok (.iload_n 2, 1) := by decide +kernel
theorem dX10_byKind_224 : decode cX10_byKind 224 = .ok (.ixor, 1) := by decide +kernel
theorem dX10_byKind_225 : decode cX10_byKind 225 = .ok (.ireturn, 1) := by decide +kernel
theorem dX10_byKind_226 : decode cX10_byKind 226 = .ok (.aload_n 0, 1) := by decide +kernel
theorem dX10_byKind_227 : decode cX10_byKind 227 = .ok (.iload 6, 2) := by decide +kernel
theorem dX10_byKind_229 : decode cX10_byKind 229 = .ok (.iload_n 2, 1) := by decide +kernel
theorem dX10_byKind_230 : decode cX10_byKind 230 = .ok (.iconst 0, 1) := by decide +kernel
theorem dX10_byKind_231 : decode cX10_byKind 231 = .ok (.iload 4, 2) := by decide +kernel
theorem dX10_byKind_233 : decode cX10_byKind 233 = .ok (.invokevirtual 291, 3) := by decide +kernel
theorem dX10_byKind_236 : decode cX10_byKind 236 = .ok (.iconst 3, 1) := by decide +kernel
theorem dX10_byKind_237 : decode cX10_byKind 237 = .ok (.iadd, 1) := by decide +kernel
theorem dX10_byKind_238 : decode cX10_byKind 238 = .ok (.ireturn, 1) := by decide +kernel
theorem dX10_byKind_239 : decode cX10_byKind 239 = .ok (.aload_n 0, 1) := by decide +kernel
theorem dX10_byKind_240 : decode cX10_byKind 240 = .ok (.iload 6, 2) := by decide +kernel
theorem dX10_byKind_242 : decode cX10_byKind 242 = .ok (.iload_n 2, 1) := by decide +kernel
theorem dX10_byKind_243 : decode cX10_byKind 243 = .ok (.iconst 1, 1) := by decide +kernel
theorem dX10_byKind_244 : decode cX10_byKind 244 = .ok (.iload 4, 2) := by decide +kernel
theorem dX10_byKind_246 : decode cX10_byKind 246 = .ok (.invokevirtual 291, 3) := by decide +kernel
theorem dX10_byKind_249 : decode cX10_byKind 249 = .ok (.ineg, 1) := by decide +kernel
theorem dX10_byKind_250 : decode cX10_byKind 250 = .ok (.ireturn, 1) := by decide +kernel
theorem dX10_byKind_251 : decode cX10_byKind 251 = .ok (.aload_n 0, 1) := by decide +kernel
theorem dX10_byKind_252 : decode cX10_byKind 252 = .ok (.iload 6, 2) := by decide +kernel
theorem dX10_byKind_254 : decode cX10_byKind 254 = .ok (.iload_n 2, 1) := by decide +kernel
theorem dX10_byKind_255 : decode cX10_byKind 255 = .ok (.iconst 2, 1) := by decide +kernel
theorem dX10_byKind_256 : decode cX10_byKind 256 = .ok (.iload 4, 2) := by decide +kernel
theorem dX10_byKind_258 : decode cX10_byKind 258 = .ok (.invokevirtual 291, 3) := by decide +kernel
theorem dX10_byKind_261 : decode cX10_byKind 261 = .ok (.iconst 3, 1) := by decide +kernel
theorem dX10_byKind_262 : decode cX10_byKind 262 = .ok (.imul, 1) := by decide +kernel
theorem dX10_byKind_263 : decode cX10_byKind 263 = .ok (.ireturn, 1) := by decide +kernel
theorem dX10_byKind_264 : decode cX10_byKind 264 = .ok (.aload_n 0, 1) := by decide +kernel
theorem dX10_byKind_265 : decode cX10_byKind 265 = .ok (.iload 6, 2) := by decide +kernel
theorem dX10_byKind_267 : decode cX10_byKind 267 = .ok (.iload_n 2, 1) := by decide +kernel
theorem dX10_byKind_268 : decode cX10_byKind 268 = .ok (.iconst 1, 1) := by decide +kernel
theorem dX10_byKind_269 : decode cX10_byKind 269 = .ok (.iload 4, 2) := by decide +kernel
theorem dX10_byKind_271 : decode cX10_byKind 271 = .ok (.iconst 1, 1) := by decide +kernel
theorem dX10_byKind_272 : decode cX10_byKind 272 = .ok (.iadd, 1) := by decide +kernel
theorem dX10_byKind_273 : decode cX10_byKind 273 = .ok (.invokevirtual 291, 3) := by decide +kernel
theorem dX10_byKind_276 : decode cX10_byKind 276 = .ok (.ireturn, 1) := by decide +kernel
theorem dX10_byKind_277 : decode cX10_byKind 277 = .ok (.aload_n 0, 1) := by decide +kernel
theorem dX10_byKind_278 : decode cX10_byKind 278 = .ok (.iload 6, 2) := by decide +kernel
theorem dX10_byKind_280 : decode cX10_byKind 280 = .ok (.iload_n 2, 1) := by decide +kernel
theorem dX10_byKind_281 : decode cX10_byKind 281 = .ok (.iconst 2, 1) := by decide +kernel
theorem dX10_byKind_282 : decode cX10_byKind 282 = .ok (.iload 4, 2) := by decide +kernel
theorem dX10_byKind_284 : decode cX10_byKind 284 = .ok (.invokevirtual 291, 3) := by decide +kernel
theorem dX10_byKind_287 : decode cX10_byKind 287 = .ok (.aload_n 0, 1) := by decide +kernel
theorem dX10_byKind_288 : decode cX10_byKind 288 = .ok (.iload_n 2, 1) := by decide +kernel
theorem dX10_byKind_289 : decode cX10_byKind 289 = .ok (.iconst 0, 1) := by decide +kernel
theorem dX10_byKind_290 : decode cX10_byKind 290 = .ok (.iconst 2, 1) := by decide +kernel
theorem dX10_byKind_291 : decode cX10_byKind 291 = .ok (.invokevirtual 297, 3) := by decide +kernel
theorem dX10_byKind_294 : decode cX10_byKind 294 = .ok (.isub, 1) := by decide +kernel
theorem dX10_byKind_295 : decode cX10_byKind 295 = .ok (.ireturn, 1) := by decide +kernel
theorem dX10_byKind_296 : decode cX10_byKind 296 = .ok (.aload_n 0, 1) := by decide +kernel
theorem dX10_byKind_297 : decode cX10_byKind 297 = .ok (.iload 6, 2) := by decide +kernel
theorem dX10_byKind_299 : decode cX10_byKind 299 = .ok (.iload_n 2, 1) := by decide +kernel
theorem dX10_byKind_300 : decode cX10_byKind 300 = .ok (.iconst 3, 1) := by decide +kernel
theorem dX10_byKind_301 : decode cX10_byKind 301 = .ok (.iload 4, 2) := by decide +kernel
theorem dX10_byKind_303 : decode cX10_byKind 303 = .ok (.invokevirtual 291, 3) := by decide +kernel
theorem dX10_byKind_306 : decode cX10_byKind 306 = .ok (.iconst 5, 1) := by decide +kernel
theorem dX10_byKind_307 : decode cX10_byKind 307 = .ok (.ixor, 1) := by decide +kernel
theorem dX10_byKind_308 : decode cX10_byKind 308 = .ok (.ireturn, 1) := by decide +kernel
theorem dX10_byKind_309 : decode cX10_byKind 309 = .ok (.aload_n 0, 1) := by decide +kernel
theorem dX10_byKind_310 : decode cX10_byKind 310 = .ok (.iload 6, 2) := by decide +kernel
theorem dX10_byKind_312 : decode cX10_byKind 312 = .ok (.iload_n 2, 1) := by decide +kernel
theorem dX10_byKind_313 : decode cX10_byKind 313 = .ok (.iconst 0, 1) := by decide +kernel
theorem dX10_byKind_314 : decode cX10_byKind 314 = .ok (.iload 4, 2) := by decide +kernel
theorem dX10_byKind_316 : decode cX10_byKind 316 = .ok (.invokevirtual 291, 3) := by decide +kernel
theorem dX10_byKind_319 : decode cX10_byKind 319 = .ok (.iconst 2, 1) := by decide +kernel
theorem dX10_byKind_320 : decode cX10_byKind 320 = .ok (.imul, 1) := by decide +kernel
theorem dX10_byKind_321 : decode cX10_byKind 321 = .ok (.ireturn, 1) := by decide +kernel
theorem dX10_byKind_322 : decode cX10_byKind 322 = .ok (.aload_n 0, 1) := by decide +kernel
theorem dX10_byKind_323 : decode cX10_byKind 323 = .ok (.iload 6, 2) := by decide +kernel
theorem dX10_byKind_325 : decode cX10_byKind 325 = .ok (.iload_n 2, 1) := by decide +kernel
theorem dX10_byKind_326 : decode cX10_byKind 326 = .ok (.iconst 1, 1) := by decide +kernel
theorem dX10_byKind_327 : decode cX10_byKind 327 = .ok (.iload 4, 2) := by decide +kernel
theorem dX10_byKind_329 : decode cX10_byKind 329 = .ok (.invokevirtual 291, 3) := by decide +kernel
theorem dX10_byKind_332 : decode cX10_byKind 332 = .ok (.aload_n 0, 1) := by decide +kernel
theorem dX10_byKind_333 : decode cX10_byKind 333 = .ok (.iload_n 2, 1) := by decide +kernel
theorem dX10_byKind_334 : decode cX10_byKind 334 = .ok (.iconst 2, 1) := by decide +kernel
theorem dX10_byKind_335 : decode cX10_byKind 335 = .ok (.iconst 2, 1) := by decide +kernel
theorem dX10_byKind_336 : decode cX10_byKind 336 = .ok (.invokevirtual 297, 3) := by decide +kernel
theorem dX10_byKind_339 : decode cX10_byKind 339 = .ok (.iadd, 1) := by decide +kernel
theorem dX10_byKind_340 : decode cX10_byKind 340 = .ok (.ireturn, 1) := by decide +kernel
theorem dX10_byKind_341 : decode cX10_byKind 341 = .ok (.aload_n 0, 1) := by decide +kernel
theorem dX10_byKind_342 : decode cX10_byKind 342 = .ok (.iload 6, 2) := by decide +kernel
theorem dX10_byKind_344 : decode cX10_byKind 344 = .ok (.iload_n 2, 1) := by decide +kernel
theorem dX10_byKind_345 : decode cX10_byKind 345 = .ok (.iconst 3, 1) := by decide +kernel
theorem dX10_byKind_346 : decode cX10_byKind 346 = .ok (.iload 4, 2) := by decide +kernel
theorem dX10_byKind_348 : decode cX10_byKind 348 = .ok (.invokevirtual 291, 3) := by decide +kernel
theorem dX10_byKind_351 : decode cX10_byKind 351 = .ok (.iconst 1, 1) := by decide +kernel
theorem dX10_byKind_352 : decode cX10_byKind 352 = .ok (.isub, 1) := by decide +kernel
theorem dX10_byKind_353 : decode cX10_byKind 353 = .ok (.ireturn, 1) := by decide +kernel
theorem dX10_act_0 : decode cX10_act 0 = .ok (.aload_n 0, 1) := by decide +kernel
theorem dX10_act_1 : decode cX10_act 1 = .ok (.iconst 0, 1) := by decide +kernel
theorem dX10_act_2 : decode cX10_act 2 = .ok (.putfield 294, 3) := by decide +kernel
theorem dX10_act_5 : decode cX10_act 5 = .ok (.iload_n 1, 1) := by decide +kernel
theorem dX10_act_6 : decode cX10_act 6 = .ok (.iconst 0, 1) := by decide +kernel
theorem dX10_act_7 : decode cX10_act 7 = .ok (.aload_n 0, 1) := by decide +kernel
theorem dX10_act_8 : decode cX10_act 8 = .ok (.getfield 288, 3) := by decide +kernel
theorem dX10_act_11 : decode cX10_act 11 = .ok (.iconst 1, 1) := by decide +kernel
theorem dX10_act_12 : decode cX10_act 12 = .ok (.isub, 1) := by decide +kernel
theorem dX10_act_13 : decode cX10_act 13 = .ok (.invokestatic 106, 3) := by decide +kernel
theorem dX10_act_16 : decode cX10_act 16 = .ok (.ifCond .eq 22, 3) := by decide +kernel
theorem dX10_act_19 : decode cX10_act 19 = .ok (.iload_n 2, 1) := by decide +kernel
theorem dX10_act_20 : decode cX10_act 20 = .ok (.iconst 0, 1) := by decide +kernel
theorem dX10_act_21 : decode cX10_act 21 = .ok (.iconst 3, 1) := by decide +kernel
theorem dX10_act_22 : decode cX10_act 22 = .ok (.invokestatic 106, 3) := by decide +kernel
theorem dX10_act_25 : decode cX10_act 25 = .ok (.ifCond .eq 13, 3) := by decide +kernel
theorem dX10_act_28 : decode cX10_act 28 = .ok (.aload_n 0, 1) := by decide +kernel
theorem dX10_act_29 : decode cX10_act 29 = .ok (.iload_n 1, 1) := by decide +kernel
theorem dX10_act_30 : decode cX10_act 30 = .ok (.iload_n 2, 1) := by decide +kernel
theorem dX10_act_31 : decode cX10_act 31 = .ok (.iload_n 3, 1) := by decide +kernel
theorem dX10_act_32 : decode cX10_act 32 = .ok (.invokevirtual 297, 3) := by decide +kernel
theorem dX10_act_35 : decode cX10_act 35 = .ok (.goto 4, 3) := by decide +kernel
theorem dX10_act_38 : decode cX10_act 38 = .ok (.iconst 0, 1) := by decide +kernel
theorem dX10_act_39 : decode cX10_act 39 = .ok (.ireturn, 1) := by decide +kernel
theorem dX10_trace_0 : decode cX10_trace 0 = .ok (.iload_n 1, 1) := by decide +kernel
theorem dX10_trace_1 : decode cX10_trace 1 = .ok (.iconst 0, 1) := by decide +kernel
theorem dX10_trace_2 : decode cX10_trace 2 = .ok (.bipush 24, 2) := by decide +kernel
theorem dX10_trace_4 : decode cX10_trace 4 = .ok (.aload_n 0, 1) := by decide +kernel
theorem dX10_trace_5 : decode cX10_trace 5 = .ok (.getfield 294, 3) := by decide +kernel
theorem dX10_trace_8 : decode cX10_trace 8 = .ok (.invokestatic 94, 3) := by decide +kernel
theorem dX10_trace_11 : decode cX10_trace 11 = .ok (.iconst 1, 1) := by decide +kernel
theorem dX10_trace_12 : decode cX10_trace 12 = .ok (.isub, 1) := by decide +kernel
theorem dX10_trace_13 : decode cX10_trace 13 = .ok (.invokestatic 106, 3) := by decide +kernel
theorem dX10_trace_16 : decode cX10_trace 16 = .ok (.ifCond .eq 12, 3) := by decide +kernel
theorem dX10_trace_19 : decode cX10_trace 19 = .ok (.aload_n 0, 1) := by decide +kernel
theorem dX10_trace_20 : decode cX10_trace 20 = .ok (.getfield 91, 3) := by decide +kernel
theorem dX10_trace_23 : decode cX10_trace 23 = .ok (.iload_n 1, 1) := by decide +kernel
theorem dX10_trace_24 : decode cX10_trace 24 = .ok (.iaload, 1) := by decide +kernel
theorem dX10_trace_25 : decode cX10_trace 25 = .ok (.goto 4, 3) := by decide +kernel
theorem dX10_trace_28 : decode cX10_trace 28 = .ok (.iconst (-1), 1) := by decide +kernel
theorem dX10_trace_29 : decode cX10_trace 29 = .ok (.ireturn, 1) := by decide +kernel
theorem dX10_keep_0 : decode cX10_keep 0 = .ok (.iload_n 1, 1) := by decide +kernel
theorem dX10_keep_1 : decode cX10_keep 1 = .ok (.invokestatic 250, 3) := by decide +kernel
theorem dX10_keep_4 : decode cX10_keep 4 = .ok (.ifCond .eq 17, 3) := by decide +kernel
theorem dX10_keep_7 : decode cX10_keep 7 = .ok (.iload_n 2, 1) := by decide +kernel
theorem dX10_keep_8 : decode cX10_keep 8 = .ok (.iconst (-1), 1) := by decide +kernel
theorem dX10_keep_9 : decode cX10_keep 9 = .ok (.aload_n 0, 1) := by decide +kernel
theorem dX10_keep_10 : decode cX10_keep 10 = .ok (.getfield 288, 3) := by decide +kernel
theorem dX10_keep_13 : decode cX10_keep 13 = .ok (.iconst 1, 1) := by decide +kernel
theorem dX10_keep_14 : decode cX10_keep 14 = .ok (.isub, 1) := by decide +kernel
theorem dX10_keep_15 : decode cX10_keep 15 = .ok (.invokestatic 106, 3) := by decide +kernel
theorem dX10_keep_18 : decode cX10_keep 18 = .ok (.ifCond .ne 5, 3) := by decide +kernel
theorem dX10_keep_21 : decode cX10_keep 21 = .ok (.iconst (-1), 1) := by decide +kernel
theorem dX10_keep_22 : decode cX10_keep 22 = .ok (.ireturn, 1) := by decide +kernel
theorem dX10_keep_23 : decode cX10_keep 23 = .ok (.aload_n 0, 1) := by decide +kernel
theorem dX10_keep_24 : decode cX10_keep 24 = .ok (.getfield 60, 3) := by decide +kernel
theorem dX10_keep_27 : decode cX10_keep 27 = .ok (.iload_n 1, 1) := by decide +kernel
theorem dX10_keep_28 : decode cX10_keep 28 = .ok (.iload_n 2, 1) := by decide +kernel
theorem dX10_keep_29 : decode cX10_keep 29 = .ok (.iconst (-1), 1) := by decide +kernel
theorem dX10_keep_30 : decode cX10_keep 30 = .ok (.if_icmp .ne 7, 3) := by decide +kernel
theorem dX10_keep_33 : decode cX10_keep 33 = .ok (.iconst (-1), 1) := by decide +kernel
theorem dX10_keep_34 : decode cX10_keep 34 = .ok (.goto 7, 3) := by decide +kernel
theorem dX10_keep_37 : decode cX10_keep 37 = .ok (.bipush 10, 2) := by decide +kernel
theorem dX10_keep_39 : decode cX10_keep 39 = .ok (.iload_n 2, 1) := by decide +kernel
theorem dX10_keep_40 : decode cX10_keep 40 = .ok (.iadd, 1) := by decide +kernel
theorem dX10_keep_41 : decode cX10_keep 41 = .ok (.iastore, 1) := by decide +kernel
theorem dX10_keep_42 : decode cX10_keep 42 = .ok (.iconst 1, 1) := by decide +kernel
theorem dX10_keep_43 : decode cX10_keep 43 = .ok (.ireturn, 1) := by decide +kernel
theorem dX10_row_0 : decode cX10_row 0 = .ok (.iload_n 1, 1) := by decide +kernel
theorem dX10_row_1 : decode cX10_row 1 = .ok (.invokestatic 250, 3) := by decide +kernel
theorem dX10_row_4 : decode cX10_row 4 = .ok (.ifCond .eq 18, 3) := by decide +kernel
theorem dX10_row_7 : decode cX10_row 7 = .ok (.iload_n 2, 1) := by decide +kernel
theorem dX10_row_8 : decode cX10_row 8 = .ok (.iconst 0, 1) := by decide +kernel
theorem dX10_row_9 : decode cX10_row 9 = .ok (.iconst 4, 1) := by decide +kernel
theorem dX10_row_10 : decode cX10_row 10 = .ok (.invokestatic 106, 3) := by decide +kernel
theorem dX10_row_13 : decode cX10_row 13 = .ok (.ifCond .eq 9, 3) := by decide +kernel
theorem dX10_row_16 : decode cX10_row 16 = .ok (.iload_n 3, 1) := by decide +kernel
theorem dX10_row_17 : decode cX10_row 17 = .ok (.bipush 60, 2) := by decide +kernel
theorem dX10_row_19 : decode cX10_row 19 = .ok (.if_icmp .le 5, 3) := by decide +kernel
theorem dX10_row_22 : decode cX10_row 22 = .ok (.iconst (-1), 1) := by decide +kernel
theorem dX10_row_23 : decode cX10_row 23 = .ok (.ireturn, 1) := by decide +kernel
theorem dX10_row_24 : decode cX10_row 24 = .ok (.iload_n 3, 1) := by decide +kernel
theorem dX10_row_25 : decode cX10_row 25 = .ok (.ifCond .ge 6, 3) := by decide +kernel
theorem dX10_row_28 : decode cX10_row 28 = .ok (.bipush (-14), 2) := by decide +kernel
theorem dX10_row_30 : decode cX10_row 30 = .ok (.ireturn, 1) := by decide +kernel
theorem dX10_row_31 : decode cX10_row 31 = .ok (.aload_n 0, 1) := by decide +kernel
theorem dX10_row_32 : decode cX10_row 32 = .ok (.getfield 60, 3) := by decide +kernel
theorem dX10_row_35 : decode cX10_row 35 = .ok (.iload_n 1, 1) := by decide +kernel
theorem dX10_row_36 : decode cX10_row 36 = .ok (.iload_n 2, 1) := by decide +kernel
theorem dX10_row_37 : decode cX10_row 37 = .ok (.iastore, 1) := by decide +kernel
theorem dX10_row_38 : decode cX10_row 38 = .ok (.aload_n 0, 1) := by decide +kernel
theorem dX10_row_39 : decode cX10_row 39 = .ok (.getfield 63, 3) := by decide +kernel
theorem dX10_row_42 : decode cX10_row 42 = .ok (.iload_n 1, 1) := by decide +kernel
theorem dX10_row_43 : decode cX10_row 43 = .ok (.iload_n 3, 1) := by decide +kernel
theorem dX10_row_44 : decode cX10_row 44 = .ok (.iastore, 1) := by decide +kernel
theorem dX10_row_45 : decode cX10_row 45 = .ok (.iconst 0, 1) := by decide +kernel
theorem dX10_row_46 : decode cX10_row 46 = .ok (.istore 4, 2) := by decide +kernel
theorem dX10_row_48 : decode cX10_row 48 = .ok (.iload 4, 2) := by decide +kernel
theorem dX10_row_50 : decode cX10_row 50 = .ok (.bipush 60, 2) := by decide +kernel
theorem dX10_row_52 : decode cX10_row 52 = .ok (.if_icmp .ge 22, 3) := by decide +kernel
theorem dX10_row_55 : decode cX10_row 55 = .ok (.aload_n 0, 1) := by decide +kernel
theorem dX10_row_56 : decode cX10_row 56 = .ok (.getfield 66, 3) := by decide +kernel
theorem dX10_row_59 : decode cX10_row 59 = .ok (.bipush 60, 2) := by decide +kernel
theorem dX10_row_61 : decode cX10_row 61 = .ok (.iload_n 1, 1) := by decide +kernel
theorem dX10_row_62 : decode cX10_row 62 = .ok (.imul, 1) := by decide +kernel
theorem dX10_row_63 : decode cX10_row 63 = .ok (.iload 4, 2) := by decide +kernel
theorem dX10_row_65 : decode cX10_row 65 = .ok (.iadd, 1) := by decide +kernel
theorem dX10_row_66 : decode cX10_row 66 = .ok (.lconst 0, 1) := by decide +kernel
theorem dX10_row_67 : decode cX10_row 67 = .ok (.lastore, 1) := by decide +kernel
theorem dX10_row_68 : decode cX10_row 68 = .ok (.iinc 4 1, 3) := by decide +kernel
theorem dX10_row_71 : decode cX10_row 71 = .ok (.goto (-23), 3) := by decide +kernel
theorem dX10_row_74 : decode cX10_row 74 = .ok (.iconst 1, 1) := by decide +kernel
theorem dX10_row_75 : decode cX10_row 75 = .ok (.ireturn, 1) := by decide +kernel
theorem dX10_rowAt_0 : decode cX10_rowAt 0 = .ok (.iload_n 1, 1) := by decide +kernel
theorem dX10_rowAt_1 : decode cX10_rowAt 1 = .ok (.invokestatic 250, 3) := by decide +kernel
theorem dX10_rowAt_4 : decode cX10_rowAt 4 = .ok (.ifCond .ne 7, 3) := by decide +kernel
theorem dX10_rowAt_7 : decode cX10_rowAt 7 = .ok (.iconst (-1), 1) := by decide +kernel
theorem dX10_rowAt_8 : decode cX10_rowAt 8 = .ok (.goto 55, 3) := by decide +kernel
theorem dX10_rowAt_11 : decode cX10_rowAt 11 = .ok (.aload_n 0, 1) := by decide +kernel
theorem dX10_rowAt_12 : decode cX10_rowAt 12 = .ok (.getfield 60, 3) := by decide +kernel
theorem dX10_rowAt_15 : decode cX10_rowAt 15 = .ok (.iload_n 1, 1) := by decide +kernel
theorem dX10_rowAt_16 : decode cX10_rowAt 16 = .ok (.iaload, 1) := by decide +kernel
theorem dX10_rowAt_17 : decode cX10_rowAt 17 = .ok (.iconst (-1), 1) := by decide +kernel
theorem dX10_rowAt_18 : decode cX10_rowAt 18 = .ok (.if_icmp .ne 8, 3) := by decide +kernel
theorem dX10_rowAt_21 : decode cX10_rowAt 21 = .ok (.bipush (-11), 2) := by decide +kernel
theorem dX10_rowAt_23 : decode cX10_rowAt 23 = .ok (.goto 40, 3) := by decide +kernel
theorem dX10_rowAt_26 : decode cX10_rowAt 26 = .ok (.aload_n 0, 1) := by decide +kernel
theorem dX10_rowAt_27 : decode cX10_rowAt 27 = .ok (.getfield 60, 3) := by decide +kernel
theorem dX10_rowAt_30 : decode cX10_rowAt 30 = .ok (.iload_n 1, 1) := by decide +kernel
theorem dX10_rowAt_31 : decode cX10_rowAt 31 = .ok (.iaload, 1) := by decide +kernel
theorem dX10_rowAt_32 : decode cX10_rowAt 32 = .ok (.iconst 4, 1) := by decide +kernel
theorem dX10_rowAt_33 : decode cX10_rowAt 33 = .ok (.if_icmp .le 8, 3) := by decide +kernel
theorem dX10_rowAt_36 : decode cX10_rowAt 36 = .ok (.bipush (-12), 2) := by decide +kernel
theorem dX10_rowAt_38 : decode cX10_rowAt 38 = .ok (.goto 25, 3) := by decide +kernel
theorem dX10_rowAt_41 : decode cX10_rowAt 41 = .ok (.iload_n 2, 1) := by decide +kernel
theorem dX10_rowAt_42 : decode cX10_rowAt 42 = .ok (.iconst 0, 1) := by decide +kernel
theorem dX10_rowAt_43 : decode cX10_rowAt 43 = .ok (.aload_n 0, 1) := by decide +kernel
theorem dX10_rowAt_44 : decode cX10_rowAt 44 = .ok (.getfield 63, 3) := by decide +kernel
theorem dX10_rowAt_47 : decode cX10_rowAt 47 = .ok (.iload_n 1, 1) := by decide +kernel
theorem dX10_rowAt_48 : decode cX10_rowAt 48 = .ok (.iaload, 1) := by decide +kernel
theorem dX10_rowAt_49 : decode cX10_rowAt 49 = .ok (.iconst 1, 1) := by decide +kernel
theorem dX10_rowAt_50 : decode cX10_rowAt 50 = .ok (.isub, 1) := by decide +kernel
theorem dX10_rowAt_51 : decode cX10_rowAt 51 = .ok (.invokestatic 106, 3) := by decide +kernel
theorem dX10_rowAt_54 : decode cX10_rowAt 54 = .ok (.ifCond .ne 8, 3) := by decide +kernel
theorem dX10_rowAt_57 : decode cX10_rowAt 57 = .ok (.bipush (-13), 2) := by decide +kernel
theorem dX10_rowAt_59 : decode cX10_rowAt 59 = .ok (.goto 4, 3) := by decide +kernel
theorem dX10_rowAt_62 : decode cX10_rowAt 62 = .ok (.iconst 1, 1) := by decide +kernel
theorem dX10_rowAt_63 : decode cX10_rowAt 63 = .ok (.ireturn, 1) := by decide +kernel
theorem dX10_put_0 : decode cX10_put 0 = .ok (.aload_n 0, 1) := by decide +kernel
theorem dX10_put_1 : decode cX10_put 1 = .ok (.iload_n 1, 1) := by decide +kernel
theorem dX10_put_2 : decode cX10_put 2 = .ok (.iload_n 2, 1) := by decide +kernel
theorem dX10_put_3 : decode cX10_put 3 = .ok (.invokevirtual 300, 3) := by decide +kernel
theorem dX10_put_6 : decode cX10_put 6 = .ok (.istore 5, 2) := by decide +kernel
theorem dX10_put_8 : decode cX10_put 8 = .ok (.iload 5, 2) := by decide +kernel
theorem dX10_put_10 : decode cX10_put 10 = .ok (.iconst 1, 1) := by decide +kernel
theorem dX10_put_11 : decode cX10_put 11 = .ok (.if_icmp .ge 6, 3) := by decide +kernel
theorem dX10_put_14 : decode cX10_put 14 = .ok (.iload 5, 2) := by decide +kernel
theorem dX10_put_16 : decode cX10_put 16 = .ok (.ireturn, 1) := by decide +kernel
theorem dX10_put_17 : decode cX10_put 17 = .ok (.aload_n 0, 1) := by decide +kernel
theorem dX10_put_18 : decode cX10_put 18 = .ok (.getfield 60, 3) := by decide +kernel
theorem dX10_put_21 : decode cX10_put 21 = .ok (.iload_n 1, 1) := by decide +kernel
theorem dX10_put_22 : decode cX10_put 22 = .ok (.iaload, 1) := by decide +kernel
theorem dX10_put_23 : decode cX10_put 23 = .ok (.istore 6, 2) := by decide +kernel
theorem dX10_put_25 : decode cX10_put 25 = .ok (.aload_n 0, 1) := by decide +kernel
theorem dX10_put_26 : decode cX10_put 26 = .ok (.getfield 66, 3) := by decide +kernel
theorem dX10_put_29 : decode cX10_put 29 = .ok (.bipush 60, 2) := by decide +kernel
theorem dX10_put_31 : decode cX10_put 31 = .ok (.iload_n 1, 1) := by decide +kernel
theorem dX10_put_32 : decode cX10_put 32 = .ok (.imul, 1) := by decide +kernel
theorem dX10_put_33 : decode cX10_put 33 = .ok (.iload_n 2, 1) := by decide +kernel
theorem dX10_put_34 : decode cX10_put 34 = .ok (.iadd, 1) := by decide +kernel
theorem dX10_put_35 : decode cX10_put 35 = .ok (.iload 6, 2) := by decide +kernel
theorem dX10_put_37 : decode cX10_put 37 = .ok (.ifCond .ne 10, 3) := by decide +kernel
theorem dX10_put_40 : decode cX10_put 40 = .ok (.lload_n 3, 1) := by decide +kernel
theorem dX10_put_41 : decode cX10_put 41 = .ok (.l2i, 1) := by decide +kernel
theorem dX10_put_42 : decode cX10_put 42 = .ok (.i2b, 1) := by decide +kernel
theorem dX10_put_43 : decode cX10_put 43 = .ok (.i2l, 1) := by decide +kernel
theorem dX10_put_44 : decode cX10_put 44 = .ok (.goto 49, 3) := by decide +kernel
theorem dX10_put_47 : decode cX10_put 47 = .ok (.iload 6, 2) := by decide +kernel
theorem dX10_put_49 : decode cX10_put 49 = .ok (.iconst 1, 1) := by decide +kernel
theorem dX10_put_50 : decode cX10_put 50 = .ok (.if_icmp .ne 10, 3) := by decide +kernel
theorem dX10_put_53 : decode cX10_put 53 = .ok (.lload_n 3, 1) := by decide +kernel
theorem dX10_put_54 : decode cX10_put 54 = .ok (.l2i, 1) := by decide +kernel
theorem dX10_put_55 : decode cX10_put 55 = .ok (.i2s, 1) := by decide +kernel
theorem dX10_put_56 : decode cX10_put 56 = .ok (.i2l, 1) := by decide +kernel
theorem dX10_put_57 : decode cX10_put 57 = .ok (.goto 36, 3) := by decide +kernel
theorem dX10_put_60 : decode cX10_put 60 = .ok (.iload 6, 2) := by decide +kernel
theorem dX10_put_62 : decode cX10_put 62 = .ok (.iconst 2, 1) := by decide +kernel
theorem dX10_put_63 : decode cX10_put 63 = .ok (.if_icmp .ne 9, 3) := by decide +kernel
theorem dX10_put_66 : decode cX10_put 66 = .ok (.lload_n 3, 1) := by decide +kernel
theorem dX10_put_67 : decode cX10_put 67 = .ok (.l2i, 1) := by decide +kernel
theorem dX10_put_68 : decode cX10_put 68 = .ok (.i2l, 1) := by decide +kernel
theorem dX10_put_69 : decode cX10_put 69 = .ok (.goto 24, 3) := by decide +kernel
theorem dX10_put_72 : decode cX10_put 72 = .ok (.iload 6, 2) := by decide +kernel
theorem dX10_put_74 : decode cX10_put 74 = .ok (.iconst 3, 1) := by decide +kernel
theorem dX10_put_75 : decode cX10_put 75 = .ok (.if_icmp .ne 7, 3) := by decide +kernel
theorem dX10_put_78 : decode cX10_put 78 = .ok (.lload_n 3, 1) := by decide +kernel
theorem dX10_put_79 : decode cX10_put 79 = .ok (.goto 14, 3) := by decide +kernel
theorem dX10_put_82 : decode cX10_put 82 = .ok (.lload_n 3, 1) := by decide +kernel
theorem dX10_put_83 : decode cX10_put 83 = .ok (.lconst 0, 1) := by decide +kernel
theorem dX10_put_84 : decode cX10_put 84 = .ok (.lcmp, 1) := by decide +kernel
theorem dX10_put_85 : decode cX10_put 85 = .ok (.ifCond .eq 7, 3) := by decide +kernel
theorem dX10_put_88 : decode cX10_put 88 = .ok (.lconst 1, 1) := by decide +kernel
theorem dX10_put_89 : decode cX10_put 89 = .ok (.goto 4, 3) := by decide +kernel
theorem dX10_put_92 : decode cX10_put 92 = .ok (.lconst 0, 1) := by decide +kernel
theorem dX10_put_93 : decode cX10_put 93 = .ok (.lastore, 1) := by decide +kernel
theorem dX10_put_94 : decode cX10_put 94 = .ok (.iconst 1, 1) := by decide +kernel
theorem dX10_put_95 : decode cX10_put 95 = .ok (.ireturn, 1) := by decide +kernel
theorem dX10_element_0 : decode cX10_element 0 = .ok (.aload_n 0, 1) := by decide +kernel
theorem dX10_element_1 : decode cX10_element 1 = .ok (.iload_n 1, 1) := by decide +kernel
theorem dX10_element_2 : decode cX10_element 2 = .ok (.iload_n 2, 1) := by decide +kernel
theorem dX10_element_3 : decode cX10_element 3 = .ok (.invokevirtual 300, 3) := by decide +kernel
theorem dX10_element_6 : decode cX10_element 6 = .ok (.iconst 1, 1) := by decide +kernel
theorem dX10_element_7 : decode cX10_element 7 = .ok (.if_icmp .ne 17, 3) := by decide +kernel
theorem dX10_element_10 : decode cX10_element 10 = .ok (.aload_n 0, 1) := by decide +kernel
theorem dX10_element_11 : decode cX10_element 11 = .ok (.getfield 66, 3) := by decide +kernel
theorem dX10_element_14 : decode cX10_element 14 = .ok (.bipush 60, 2) := by decide +kernel
theorem dX10_element_16 : decode cX10_element 16 = .ok (.iload_n 1, 1) := by decide +kernel
theorem dX10_element_17 : decode cX10_element 17 = .ok (.imul, 1) := by decide +kernel
theorem dX10_element_18 : decode cX10_element 18 = .ok (.iload_n 2, 1) := by decide +kernel
theorem dX10_element_19 : decode cX10_element 19 = .ok (.iadd, 1) := by decide +kernel
theorem dX10_element_20 : decode cX10_element 20 = .ok (.laload, 1) := by decide +kernel
theorem dX10_element_21 : decode cX10_element 21 = .ok (.goto 6, 3) := by decide +kernel
theorem dX10_element_24 : decode cX10_element 24 = .ok (.ldc2_w 305, 3) := by decide +kernel
theorem dX10_element_27 : decode cX10_element 27 = .ok (.lreturn, 1) := by decide +kernel
theorem dX10_shift_0 : decode cX10_shift 0 = .ok (.iload_n 1, 1) := by decide +kernel
theorem dX10_shift_1 : decode cX10_shift 1 = .ok (.invokestatic 250, 3) := by decide +kernel
theorem dX10_shift_4 : decode cX10_shift 4 = .ok (.ifCond .eq 10, 3) := by decide +kernel
theorem dX10_shift_7 : decode cX10_shift 7 = .ok (.iload_n 3, 1) := by decide +kernel
theorem dX10_shift_8 : decode cX10_shift 8 = .ok (.invokestatic 250, 3) := by decide +kernel
theorem dX10_shift_11 : decode cX10_shift 11 = .ok (.ifCond .ne 5, 3) := by decide +kernel
theorem dX10_shift_14 : decode cX10_shift 14 = .ok (.iconst (-1), 1) := by decide +kernel
theorem dX10_shift_15 : decode cX10_shift 15 = .ok (.ireturn, 1) := by decide +kernel
theorem dX10_shift_16 : decode cX10_shift 16 = .ok (.aload_n 0, 1) := by decide +kernel
theorem dX10_shift_17 : decode cX10_shift 17 = .ok (.getfield 60, 3) := by decide +kernel
theorem dX10_shift_20 : decode cX10_shift 20 = .ok (.iload_n 1, 1) := by decide +kernel
theorem dX10_shift_21 : decode cX10_shift 21 = .ok (.iaload, 1) := by decide +kernel
theorem dX10_shift_22 : decode cX10_shift 22 = .ok (.iconst (-1), 1) := by decide +kernel
theorem dX10_shift_23 : decode cX10_shift 23 = .ok (.if_icmp .eq 13, 3) := by decide +kernel
theorem dX10_shift_26 : decode cX10_shift 26 = .ok (.aload_n 0, 1) := by decide +kernel
theorem dX10_shift_27 : decode cX10_shift 27 = .ok (.getfield 60, 3) := by decide +kernel
theorem dX10_shift_30 : decode cX10_shift 30 = .ok (.iload_n 3, 1) := by decide +kernel
theorem dX10_shift_31 : decode cX10_shift 31 = .ok (.iaload, 1) := by decide +kernel
theorem dX10_shift_32 : decode cX10_shift 32 = .ok (.iconst (-1), 1) := by decide +kernel
theorem dX10_shift_33 : decode cX10_shift 33 = .ok (.if_icmp .ne 6, 3) := by decide +kernel
theorem dX10_shift_36 : decode cX10_shift 36 = .ok (.bipush (-11), 2) := by decide +kernel
theorem dX10_shift_38 : decode cX10_shift 38 = .ok (.ireturn, 1) := by decide +kernel
theorem dX10_shift_39 : decode cX10_shift 39 = .ok (.aload_n 0, 1) := by decide +kernel
theorem dX10_shift_40 : decode cX10_shift 40 = .ok (.getfield 60, 3) := by decide +kernel
theorem dX10_shift_43 : decode cX10_shift 43 = .ok (.iload_n 1, 1) := by decide +kernel
theorem dX10_shift_44 : decode cX10_shift 44 = .ok (.iaload, 1) := by decide +kernel
theorem dX10_shift_45 : decode cX10_shift 45 = .ok (.iconst 4, 1) := by decide +kernel
theorem dX10_shift_46 : decode cX10_shift 46 = .ok (.if_icmp .gt 18, 3) := by decide +kernel
theorem dX10_shift_49 : decode cX10_shift 49 = .ok (.aload_n 0, 1) := by decide +kernel
theorem dX10_shift_50 : decode cX10_shift 50 = .ok (.getfield 60, 3) := by decide +kernel
theorem dX10_shift_53 : decode cX10_shift 53 = .ok (.iload_n 1, 1) := by decide +kernel
theorem dX10_shift_54 : decode cX10_shift 54 = .ok (.iaload, 1) := by decide +kernel
theorem dX10_shift_55 : decode cX10_shift 55 = .ok (.aload_n 0, 1) := by decide +kernel
theorem dX10_shift_56 : decode cX10_shift 56 = .ok (.getfield 60, 3) := by decide +kernel
theorem dX10_shift_59 : decode cX10_shift 59 = .ok (.iload_n 3, 1) := by decide +kernel
theorem dX10_shift_60 : decode cX10_shift 60 = .ok (.iaload, 1) := by decide +kernel
theorem dX10_shift_61 : decode cX10_shift 61 = .ok (.if_icmp .eq 6, 3) := by decide +kernel
theorem dX10_shift_64 : decode cX10_shift 64 = .ok (.bipush (-12), 2) := by decide +kernel
theorem dX10_shift_66 : decode cX10_shift 66 = .ok (.ireturn, 1) := by decide +kernel
theorem dX10_shift_67 : decode cX10_shift 67 = .ok (.iload 5, 2) := by decide +kernel
theorem dX10_shift_69 : decode cX10_shift 69 = .ok (.ifCond .lt 39, 3) := by decide +kernel
theorem dX10_shift_72 : decode cX10_shift 72 = .ok (.iload_n 2, 1) := by decide +kernel
theorem dX10_shift_73 : decode cX10_shift 73 = .ok (.ifCond .lt 35, 3) := by decide +kernel
theorem dX10_shift_76 : decode cX10_shift 76 = .ok (.iload 4, 2) := by decide +kernel
theorem dX10_shift_78 : decode cX10_shift 78 = .ok (.ifCond .lt 30, 3) := by decide +kernel
theorem dX10_shift_81 : decode cX10_shift 81 = .ok (.iload 5, 2) := by decide +kernel
theorem dX10_shift_83 : decode cX10_shift 83 = .ok (.aload_n 0, 1) := by decide +kernel
theorem dX10_shift_84 : decode cX10_shift 84 = .ok (.getfield 63, 3) := by decide +kernel
theorem dX10_shift_87 : decode cX10_shift 87 = .ok (.iload_n 1, 1) := by decide +kernel
theorem dX10_shift_88 : decode cX10_shift 88 = .ok (.iaload, 1) := by decide +kernel
theorem dX10_shift_89 : decode cX10_shift 89 = .ok (.iload_n 2, 1) := by decide +kernel
theorem dX10_shift_90 : decode cX10_shift 90 = .ok (.isub, 1) := by decide +kernel
theorem dX10_shift_91 : decode cX10_shift 91 = .ok (.if_icmp .gt 17, 3) := by decide +kernel
theorem dX10_shift_94 : decode cX10_shift 94 = .ok (.iload 5, 2) := by decide +kernel
theorem dX10_shift_96 : decode cX10_shift 96 = .ok (.aload_n 0, 1) := by decide +kernel
theorem dX10_shift_97 : decode cX10_shift 97 = .ok (.getfield 63, 3) := by decide +kernel
theorem dX10_shift_100 : decode cX10_shift 100 = .ok (.iload_n 3, 1) := by decide +kernel
theorem dX10_shift_101 : decode cX10_shift 101 = .ok (.iaload, 1) := by decide +kernel
theorem dX10_shift_102 : decode cX10_shift 102 = .ok (.iload 4, 2) := by decide +kernel
theorem dX10_shift_104 : decode cX10_shift 104 = .ok (.isub, 1) := by decide +kernel
theorem dX10_shift_105 : decode cX10_shift 105 = .ok (.if_icmp .le 6, 3) := by decide +kernel
theorem dX10_shift_108 : decode cX10_shift 108 = .ok (.bipush (-13), 2) := by decide +kernel
theorem dX10_shift_110 : decode cX10_shift 110 = .ok (.ireturn, 1) := by decide +kernel
theorem dX10_shift_111 : decode cX10_shift 111 = .ok (.iconst 0, 1) := by decide +kernel
theorem dX10_shift_112 : decode cX10_shift 112 = .ok (.istore 6, 2) := by decide +kernel
theorem dX10_shift_114 : decode cX10_shift 114 = .ok (.iload 6, 2) := by decide +kernel
theorem dX10_shift_116 : decode cX10_shift 116 = .ok (.iload 5, 2) := by decide +kernel
theorem dX10_shift_118 : decode cX10_shift 118 = .ok (.if_icmp .ge 30, 3) := by decide +kernel
theorem dX10_shift_121 : decode cX10_shift 121 = .ok (.aload_n 0, 1) := by decide +kernel
theorem dX10_shift_122 : decode cX10_shift 122 = .ok (.getfield 70, 3) := by decide +kernel
theorem dX10_shift_125 : decode cX10_shift 125 = .ok (.iload 6, 2) := by decide +kernel
theorem dX10_shift_127 : decode cX10_shift 127 = .ok (.aload_n 0, 1) := by decide +kernel
theorem dX10_shift_128 : decode cX10_shift 128 = .ok (.getfield 66, 3) := by decide +kernel
theorem dX10_shift_131 : decode cX10_shift 131 = .ok (.bipush 60, 2) := by decide +kernel
theorem dX10_shift_133 : decode cX10_shift 133 = .ok (.iload_n 1, 1) := by decide +kernel
theorem dX10_shift_134 : decode cX10_shift 134 = .ok (.imul, 1) := by decide +kernel
theorem dX10_shift_135 : decode cX10_shift 135 = .ok (.iload_n 2, 1) := by decide +kernel
theorem dX10_shift_136 : decode cX10_shift 136 = .ok (.iadd, 1) := by decide +kernel
theorem dX10_shift_137 : decode cX10_shift 137 = .ok (.iload 6, 2) := by decide +kernel
theorem dX10_shift_139 : decode cX10_shift 139 = .ok (.iadd, 1) := by decide +kernel
theorem dX10_shift_140 : decode cX10_shift 140 = .ok (.laload, 1) := by decide +kernel
theorem dX10_shift_141 : decode cX10_shift 141 = .ok (.lastore, 1) := by decide +kernel
theorem dX10_shift_142 : decode cX10_shift 142 = .ok (.iinc 6 1, 3) := by decide +kernel
theorem dX10_shift_145 : decode cX10_shift 145 = .ok (.goto (-31), 3) := by decide +kernel
theorem dX10_shift_148 : decode cX10_shift 148 = .ok (.iconst 0, 1) := by decide +kernel
theorem dX10_shift_149 : decode cX10_shift 149 = .ok (.istore 6, 2) := by decide +kernel
theorem dX10_shift_151 : decode cX10_shift 151 = .ok (.iload 6, 2) := by decide +kernel
theorem dX10_shift_153 : decode cX10_shift 153 = .ok (.iload 5, 2) := by decide +kernel
theorem dX10_shift_155 : decode cX10_shift 155 = .ok (.if_icmp .ge 31, 3) := by decide +kernel
theorem dX10_shift_158 : decode cX10_shift 158 = .ok (.aload_n 0, 1) := by decide +kernel
theorem dX10_shift_159 : decode cX10_shift 159 = .ok (.getfield 66, 3) := by decide +kernel
theorem dX10_shift_162 : decode cX10_shift 162 = .ok (.bipush 60, 2) := by decide +kernel
theorem dX10_shift_164 : decode cX10_shift 164 = .ok (.iload_n 3, 1) := by decide +kernel
theorem dX10_shift_165 : decode cX10_shift 165 = .ok (.imul, 1) := by decide +kernel
theorem dX10_shift_166 : decode cX10_shift 166 = .ok (.iload 4, 2) := by decide +kernel
theorem dX10_shift_168 : decode cX10_shift 168 = .ok (.iadd, 1) := by decide +kernel
theorem dX10_shift_169 : decode cX10_shift 169 = .ok (.iload 6, 2) := by decide +kernel
theorem dX10_shift_171 : decode cX10_shift 171 = .ok (.iadd, 1) := by decide +kernel
theorem dX10_shift_172 : decode cX10_shift 172 = .ok (.aload_n 0, 1) := by decide +kernel
theorem dX10_shift_173 : decode cX10_shift 173 = .ok (.getfield 70, 3) := by decide +kernel
theorem dX10_shift_176 : decode cX10_shift 176 = .ok (.iload 6, 2) := by decide +kernel
theorem dX10_shift_178 : decode cX10_shift 178 = .ok (.laload, 1) := by decide +kernel
theorem dX10_shift_179 : decode cX10_shift 179 = .ok (.lastore, 1) := by decide +kernel
theorem dX10_shift_180 : decode cX10_shift 180 = .ok (.iinc 6 1, 3) := by decide +kernel
theorem dX10_shift_183 : decode cX10_shift 183 = .ok (.goto (-32), 3) := by decide +kernel
theorem dX10_shift_186 : decode cX10_shift 186 = .ok (.iload 5, 2) := by decide +kernel
theorem dX10_shift_188 : decode cX10_shift 188 = .ok (.ireturn, 1) := by decide +kernel
theorem dX10_taken_0 : decode cX10_taken 0 = .ok (.iload_n 1, 1) := by decide +kernel
theorem dX10_taken_1 : decode cX10_taken 1 = .ok (.invokestatic 250, 3) := by decide +kernel
theorem dX10_taken_4 : decode cX10_taken 4 = .ok (.ifCond .eq 13, 3) := by decide +kernel
theorem dX10_taken_7 : decode cX10_taken 7 = .ok (.iload_n 2, 1) := by decide +kernel
theorem dX10_taken_8 : decode cX10_taken 8 = .ok (.iconst 0, 1) := by decide +kernel
theorem dX10_taken_9 : decode cX10_taken 9 = .ok (.bipush 7, 2) := by decide +kernel
theorem dX10_taken_11 : decode cX10_taken 11 = .ok (.invokestatic 106, 3) := by decide +kernel
theorem dX10_taken_14 : decode cX10_taken 14 = .ok (.ifCond .ne 5, 3) := by decide +kernel
theorem dX10_taken_17 : decode cX10_taken 17 = .ok (.iconst (-1), 1) := by decide +kernel
theorem dX10_taken_18 : decode cX10_taken 18 = .ok (.ireturn, 1) := by decide +kernel
theorem dX10_taken_19 : decode cX10_taken 19 = .ok (.aload_n 0, 1) := by decide +kernel
theorem dX10_taken_20 : decode cX10_taken 20 = .ok (.getfield 60, 3) := by decide +kernel
theorem dX10_taken_23 : decode cX10_taken 23 = .ok (.iload_n 1, 1) := by decide +kernel
theorem dX10_taken_24 : decode cX10_taken 24 = .ok (.iaload, 1) := by decide +kernel
theorem dX10_taken_25 : decode cX10_taken 25 = .ok (.bipush 10, 2) := by decide +kernel
theorem dX10_taken_27 : decode cX10_taken 27 = .ok (.if_icmp .ge 21, 3) := by decide +kernel
theorem dX10_taken_30 : decode cX10_taken 30 = .ok (.aload_n 0, 1) := by decide +kernel
theorem dX10_taken_31 : decode cX10_taken 31 = .ok (.getfield 60, 3) := by decide +kernel
theorem dX10_taken_34 : decode cX10_taken 34 = .ok (.iload_n 1, 1) := by decide +kernel
theorem dX10_taken_35 : decode cX10_taken 35 = .ok (.iaload, 1) := by decide +kernel
theorem dX10_taken_36 : decode cX10_taken 36 = .ok (.iconst (-1), 1) := by decide +kernel
theorem dX10_taken_37 : decode cX10_taken 37 = .ok (.if_icmp .ne 8, 3) := by decide +kernel
theorem dX10_taken_40 : decode cX10_taken 40 = .ok (.bipush (-11), 2) := by decide +kernel
theorem dX10_taken_42 : decode cX10_taken 42 = .ok (.goto 5, 3) := by decide +kernel
theorem dX10_taken_45 : decode cX10_taken 45 = .ok (.bipush (-12), 2) := by decide +kernel
theorem dX10_taken_47 : decode cX10_taken 47 = .ok (.ireturn, 1) := by decide +kernel
theorem dX10_taken_48 : decode cX10_taken 48 = .ok (.aload_n 0, 1) := by decide +kernel
theorem dX10_taken_49 : decode cX10_taken 49 = .ok (.getfield 88, 3) := by decide +kernel
theorem dX10_taken_52 : decode cX10_taken 52 = .ok (.aload_n 0, 1) := by decide +kernel
theorem dX10_taken_53 : decode cX10_taken 53 = .ok (.getfield 60, 3) := by decide +kernel
theorem dX10_taken_56 : decode cX10_taken 56 = .ok (.iload_n 1, 1) := by decide +kernel
theorem dX10_taken_57 : decode cX10_taken 57 = .ok (.iaload, 1) := by decide +kernel
theorem dX10_taken_58 : decode cX10_taken 58 = .ok (.bipush 10, 2) := by decide +kernel
theorem dX10_taken_60 : decode cX10_taken 60 = .ok (.isub, 1) := by decide +kernel
theorem dX10_taken_61 : decode cX10_taken 61 = .ok (.iaload, 1) := by decide +kernel
theorem dX10_taken_62 : decode cX10_taken 62 = .ok (.istore_n 3, 1) := by decide +kernel
theorem dX10_taken_63 : decode cX10_taken 63 = .ok (.iload_n 3, 1) := by decide +kernel
theorem dX10_taken_64 : decode cX10_taken 64 = .ok (.istore 4, 2) := by decide +kernel
theorem dX10_taken_66 : decode cX10_taken 66 = .ok (.iload 4, 2) := by decide +kernel
theorem dX10_taken_68 : decode cX10_taken 68 = .ok (.iconst (-1), 1) := by decide +kernel
theorem dX10_taken_69 : decode cX10_taken 69 = .ok (.if_icmp .eq 21, 3) := by decide +kernel
theorem dX10_taken_72 : decode cX10_taken 72 = .ok (.iload 4, 2) := by decide +kernel
theorem dX10_taken_74 : decode cX10_taken 74 = .ok (.iload_n 2, 1) := by decide +kernel
theorem dX10_taken_75 : decode cX10_taken 75 = .ok (.if_icmp .eq 15, 3) := by decide +kernel
theorem dX10_taken_78 : decode cX10_taken 78 = .ok (.aload_n 0, 1) := by decide +kernel
theorem dX10_taken_79 : decode cX10_taken 79 = .ok (.getfield 82, 3) := by decide +kernel
theorem dX10_taken_82 : decode cX10_taken 82 = .ok (.iload 4, 2) := by decide +kernel
theorem dX10_taken_84 : decode cX10_taken 84 = .ok (.iaload, 1) := by decide +kernel
theorem dX10_taken_85 : decode cX10_taken 85 = .ok (.istore 4, 2) := by decide +kernel
theorem dX10_taken_87 : decode cX10_taken 87 = .ok (.goto (-21), 3) := by decide +kernel
theorem dX10_taken_90 : decode cX10_taken 90 = .ok (.iload 4, 2) := by decide +kernel
theorem dX10_taken_92 : decode cX10_taken 92 = .ok (.iconst (-1), 1) := by decide +kernel
theorem dX10_taken_93 : decode cX10_taken 93 = .ok (.if_icmp .ne 8, 3) := by decide +kernel
theorem dX10_taken_96 : decode cX10_taken 96 = .ok (.bipush (-12), 2) := by decide +kernel
theorem dX10_taken_98 : decode cX10_taken 98 = .ok (.goto 4, 3) := by decide +kernel
theorem dX10_taken_101 : decode cX10_taken 101 = .ok (.iload_n 3, 1) := by decide +kernel
theorem dX10_taken_102 : decode cX10_taken 102 = .ok (.ireturn, 1) := by decide +kernel
theorem dX10_count_0 : decode cX10_count 0 = .ok (.iload_n 1, 1) := by decide +kernel
theorem dX10_count_1 : decode cX10_count 1 = .ok (.tableswitch 69 0 5 #[39, 44, 49, 54, 59, 64], 39) := by decide +kernel
theorem dX10_count_40 : decode cX10_count 40 = .ok (.aload_n 0, 1) := by decide +kernel
theorem dX10_count_41 : decode cX10_count 41 = .ok (.getfield 103, 3) := by decide +kernel
theorem dX10_count_44 : decode cX10_count 44 = .ok (.ireturn, 1) := by decide +kernel
theorem dX10_count_45 : decode cX10_count 45 = .ok (.aload_n 0, 1) := by decide +kernel
theorem dX10_count_46 : decode cX10_count 46 = .ok (.getfield 121, 3) := by decide +kernel
theorem dX10_count_49 : decode cX10_count 49 = .ok (.ireturn, 1) := by decide +kernel
theorem dX10_count_50 : decode cX10_count 50 = .ok (.aload_n 0, 1) := by decide +kernel
theorem dX10_count_51 : decode cX10_count 51 = .ok (.getfield 141, 3) := by decide +kernel
theorem dX10_count_54 : decode cX10_count 54 = .ok (.ireturn, 1) := by decide +kernel
theorem dX10_count_55 : decode cX10_count 55 = .ok (.aload_n 0, 1) := by decide +kernel
theorem dX10_count_56 : decode cX10_count 56 = .ok (.getfield 135, 3) := by decide +kernel
theorem dX10_count_59 : decode cX10_count 59 = .ok (.ireturn, 1) := by decide +kernel
theorem dX10_count_60 : decode cX10_count 60 = .ok (.aload_n 0, 1) := by decide +kernel
theorem dX10_count_61 : decode cX10_count 61 = .ok (.getfield 288, 3) := by decide +kernel
theorem dX10_count_64 : decode cX10_count 64 = .ok (.ireturn, 1) := by decide +kernel
theorem dX10_count_65 : decode cX10_count 65 = .ok (.aload_n 0, 1) := by decide +kernel
theorem dX10_count_66 : decode cX10_count 66 = .ok (.getfield 294, 3) := by decide +kernel
theorem dX10_count_69 : decode cX10_count 69 = .ok (.ireturn, 1) := by decide +kernel
theorem dX10_count_70 : decode cX10_count 70 = .ok (.iconst (-1), 1) := by decide +kernel
theorem dX10_count_71 : decode cX10_count 71 = .ok (.ireturn, 1) := by decide +kernel
theorem dL_law_0 : decode cL_law 0 = .ok (.new 7, 3) := by decide +kernel
theorem dL_law_3 : decode cL_law 3 = .ok (.dup, 1) := by decide +kernel
theorem dL_law_4 : decode cL_law 4 = .ok (.invokespecial 9, 3) := by decide +kernel
theorem dL_law_7 : decode cL_law 7 = .ok (.astore_n 1, 1) := by decide +kernel
theorem dL_law_8 : decode cL_law 8 = .ok (.new 10, 3) := by decide +kernel
theorem dL_law_11 : decode cL_law 11 = .ok (.dup, 1) := by decide +kernel
theorem dL_law_12 : decode cL_law 12 = .ok (.invokespecial 12, 3) := by decide +kernel
theorem dL_law_15 : decode cL_law 15 = .ok (.astore_n 2, 1) := by decide +kernel
theorem dL_law_16 : decode cL_law 16 = .ok (.iconst 0, 1) := by decide +kernel
theorem dL_law_17 : decode cL_law 17 = .ok (.istore_n 3, 1) := by decide +kernel
theorem dL_law_18 : decode cL_law 18 = .ok (.iload_n 3, 1) := by decide +kernel
theorem dL_law_19 : decode cL_law 19 = .ok (.aload_n 0, 1) := by decide +kernel
theorem dL_law_20 : decode cL_law 20 = .ok (.arraylength, 1) := by decide +kernel
theorem dL_law_21 : decode cL_law 21 = .ok (.bipush 6, 2) := by decide +kernel
theorem dL_law_23 : decode cL_law 23 = .ok (.isub, 1) := by decide +kernel
theorem dL_law_24 : decode cL_law 24 = .ok (.if_icmp .gt 1468, 3) := by decide +kernel
theorem dL_law_27 : decode cL_law 27 = .ok (.aload_n 0, 1) := by decide +kernel
theorem dL_law_28 : decode cL_law 28 = .ok (.iload_n 3, 1) := by decide +kernel
theorem dL_law_29 : decode cL_law 29 = .ok (.iaload, 1) := by decide +kernel
theorem dL_law_30 : decode cL_law 30 = .ok (.bipush 63, 2) := by decide +kernel
theorem dL_law_32 : decode cL_law 32 = .ok (.iand, 1) := by decide +kernel
theorem dL_law_33 : decode cL_law 33 = .ok (.tableswitch 1453 0 40 #[179, 212, 255, 298, 341, 374, 397, 410, 453, 476, 509, 542, 575, 598, 631, 674, 697, 720, 743, 786, 809, 852, 895, 928, 941, 954, 987, 1010, 1023, 1036, 1049, 1062, 1085, 1128, 1151, 1184, 1227, 1300, 1334, 1397, 1430], 179) := by decide +kernel
theorem dL_law_212 : decode cL_law 212 = .ok (.aload_n 1, 1) := by decide +kernel
theorem dL_law_213 : decode cL_law 213 = .ok (.aload_n 0, 1) := by decide +kernel
theorem dL_law_214 : decode cL_law 214 = .ok (.iload_n 3, 1) := by decide +kernel
theorem dL_law_215 : decode cL_law 215 = .ok (.iconst 1, 1) := by decide +kernel
theorem dL_law_216 : decode cL_law 216 = .ok (.iadd, 1) := by decide +kernel
theorem dL_law_217 : decode cL_law 217 = .ok (.iaload, 1) := by decide +kernel
theorem dL_law_218 : decode cL_law 218 = .ok (.aload_n 0, 1) := by decide +kernel
theorem dL_law_219 : decode cL_law 219 = .ok (.iload_n 3, 1) := by decide +kernel
theorem dL_law_220 : decode cL_law 220 = .ok (.iconst 2, 1) := by decide +kernel
theorem dL_law_221 : decode cL_law 221 = .ok (.iadd, 1) := by decide +kernel
theorem dL_law_222 : decode cL_law 222 = .ok (.iaload, 1) := by decide +kernel
theorem dL_law_223 : decode cL_law 223 = .ok (.invokevirtual 13, 3) := by decide +kernel
theorem dL_law_226 : decode cL_law 226 = .ok (.aload_n 2, 1) := by decide +kernel
theorem dL_law_227 : decode cL_law 227 = .ok (.aload_n 0, 1) := by decide +kernel
theorem dL_law_228 : decode cL_law 228 = .ok (.iload_n 3, 1) := by decide +kernel
theorem dL_law_229 : decode cL_law 229 = .ok (.iconst 1, 1) := by decide +kernel
theorem dL_law_230 : decode cL_law 230 = .ok (.iadd, 1) := by decide +kernel
theorem dL_law_231 : decode cL_law 231 = .ok (.iaload, 1) := by decide +kernel
theorem dL_law_232 : decode cL_law 232 = .ok (.aload_n 0, 1) := by decide +kernel
theorem dL_law_233 : decode cL_law 233 = .ok (.iload_n 3, 1) := by decide +kernel
theorem dL_law_234 : decode cL_law 234 = .ok (.iconst 2, 1) := by decide +kernel
theorem dL_law_235 : decode cL_law 235 = .ok (.iadd, 1) := by decide +kernel
theorem dL_law_236 : decode cL_law 236 = .ok (.iaload, 1) := by decide +kernel
theorem dL_law_237 : decode cL_law 237 = .ok (.invokevirtual 17, 3) := by decide +kernel
theorem dL_law_240 : decode cL_law 240 = .ok (.if_icmp .eq 1246, 3) := by decide +kernel
theorem dL_law_243 : decode cL_law 243 = .ok (.iconst 0, 1) := by decide +kernel
theorem dL_law_244 : decode cL_law 244 = .ok (.ireturn, 1) := by decide +kernel
theorem dL_law_245 : decode cL_law 245 = .ok (.aload_n 1, 1) := by decide +kernel
theorem dL_law_246 : decode cL_law 246 = .ok (.aload_n 0, 1) := by decide +kernel
theorem dL_law_247 : decode cL_law 247 = .ok (.iload_n 3, 1) := by decide +kernel
theorem dL_law_248 : decode cL_law 248 = .ok (.iconst 1, 1) := by decide +kernel
theorem dL_law_249 : decode cL_law 249 = .ok (.iadd, 1) := by decide +kernel
theorem dL_law_250 : decode cL_law 250 = .ok (.iaload, 1) := by decide +kernel
theorem dL_law_251 : decode cL_law 251 = .ok (.aload_n 0, 1) := by decide +kernel
theorem dL_law_252 : decode cL_law 252 = .ok (.iload_n 3, 1) := by decide +kernel
theorem dL_law_253 : decode cL_law 253 = .ok (.iconst 2, 1) := by decide +kernel
theorem dL_law_254 : decode cL_law 254 = .ok (.iadd, 1) := by decide +kernel
theorem dL_law_255 : decode cL_law 255 = .ok (.iaload, 1) := by decide +kernel
theorem dL_law_256 : decode cL_law 256 = .ok (.aload_n 0, 1) := by decide +kernel
theorem dL_law_257 : decode cL_law 257 = .ok (.iload_n 3, 1) := by decide +kernel
theorem dL_law_258 : decode cL_law 258 = .ok (.iconst 3, 1) := by decide +kernel
theorem dL_law_259 : decode cL_law 259 = .ok (.iadd, 1) := by decide +kernel
theorem dL_law_260 : decode cL_law 260 = .ok (.iaload, 1) := by decide +kernel
theorem dL_law_261 : decode cL_law 261 = .ok (.invokevirtual 18, 3) := by decide +kernel
theorem dL_law_264 : decode cL_law 264 = .ok (.aload_n 2, 1) := by decide +kernel
theorem dL_law_265 : decode cL_law 265 = .ok (.aload_n 0, 1) := by decide +kernel
theorem dL_law_266 : decode cL_law 266 = .ok (.iload_n 3, 1) := by decide +kernel
theorem dL_law_267 : decode cL_law 267 = .ok (.iconst 1, 1) := by decide +kernel
theorem dL_law_268 : decode cL_law 268 = .ok (.iadd, 1) := by decide +kernel
theorem dL_law_269 : decode cL_law 269 = .ok (.iaload, 1) := by decide +kernel
theorem dL_law_270 : decode cL_law 270 = .ok (.aload_n 0, 1) := by decide +kernel
theorem dL_law_271 : decode cL_law 271 = .ok (.iload_n 3, 1) := by decide +kernel
theorem dL_law_272 : decode cL_law 272 = .ok (.iconst 2, 1) := by decide +kernel
theorem dL_law_273 : decode cL_law 273 = .ok (.iadd, 1) := by decide +kernel
theorem dL_law_274 : decode cL_law 274 = .ok (.iaload, 1) := by decide +kernel
theorem dL_law_275 : decode cL_law 275 = .ok (.aload_n 0, 1) := by decide +kernel
theorem dL_law_276 : decode cL_law 276 = .ok (.iload_n 3, 1) := by decide +kernel
theorem dL_law_277 : decode cL_law 277 = .ok (.iconst 3, 1) := by decide +kernel
theorem dL_law_278 : decode cL_law 278 = .ok (.iadd, 1) := by decide +kernel
theorem dL_law_279 : decode cL_law 279 = .ok (.iaload, 1) := by decide +kernel
theorem dL_law_280 : decode cL_law 280 = .ok (.invokevirtual 22, 3) := by decide +kernel
theorem dL_law_283 : decode cL_law 283 = .ok (.if_icmp .eq 1203, 3) := by decide +kernel
theorem dL_law_286 : decode cL_law 286 = .ok (.iconst 0, 1) := by decide +kernel
theorem dL_law_287 : decode cL_law 287 = .ok (.ireturn, 1) := by decide +kernel
theorem dL_law_288 : decode cL_law 288 = .ok (.aload_n 1, 1) := by decide +kernel
theorem dL_law_289 : decode cL_law 289 = .ok (.aload_n 0, 1) := by decide +kernel
theorem dL_law_290 : decode cL_law 290 = .ok (.iload_n 3, 1) := by decide +kernel
theorem dL_law_291 : decode cL_law 291 = .ok (.iconst 1, 1) := by decide +kernel
theorem dL_law_292 : decode cL_law 292 = .ok (.iadd, 1) := by decide +kernel
theorem dL_law_293 : decode cL_law 293 = .ok (.iaload, 1) := by decide +kernel
theorem dL_law_294 : decode cL_law 294 = .ok (.aload_n 0, 1) := by decide +kernel
theorem dL_law_295 : decode cL_law 295 = .ok (.iload_n 3, 1) := by decide +kernel
theorem dL_law_296 : decode cL_law 296 = .ok (.iconst 2, 1) := by decide +kernel
theorem dL_law_297 : decode cL_law 297 = .ok (.iadd, 1) := by decide +kernel
theorem dL_law_298 : decode cL_law 298 = .ok (.iaload, 1) := by decide +kernel
theorem dL_law_299 : decode cL_law 299 = .ok (.aload_n 0, 1) := by decide +kernel
theorem dL_law_300 : decode cL_law 300 = .ok (.iload_n 3, 1) := by decide +kernel
theorem dL_law_301 : decode cL_law 301 = .ok (.iconst 3, 1) := by decide +kernel
theorem dL_law_302 : decode cL_law 302 = .ok (.iadd, 1) := by decide +kernel
theorem dL_law_303 : decode cL_law 303 = .ok (.iaload, 1) := by decide +kernel
theorem dL_law_304 : decode cL_law 304 = .ok (.invokevirtual 23, 3) := by decide +kernel
theorem dL_law_307 : decode cL_law 307 = .ok (.aload_n 2, 1) := by decide +kernel
theorem dL_law_308 : decode cL_law 308 = .ok (.aload_n 0, 1) := by decide +kernel
theorem dL_law_309 : decode cL_law 309 = .ok (.iload_n 3, 1) := by decide +kernel
theorem dL_law_310 : decode cL_law 310 = .ok (.iconst 1, 1) := by decide +kernel
theorem dL_law_311 : decode cL_law 311 = .ok (.iadd, 1) := by decide +kernel
theorem dL_law_312 : decode cL_law 312 = .ok (.iaload, 1) := by decide +kernel
theorem dL_law_313 : decode cL_law 313 = .ok (.aload_n 0, 1) := by decide +kernel
theorem dL_law_314 : decode cL_law 314 = .ok (.iload_n 3, 1) := by decide +kernel
theorem dL_law_315 : decode cL_law 315 = .ok (.iconst 2, 1) := by decide +kernel
theorem dL_law_316 : decode cL_law 316 = .ok (.iadd, 1) := by decide +kernel
theorem dL_law_317 : decode cL_law 317 = .ok (.iaload, 1) := by decide +kernel
theorem dL_law_318 : decode cL_law 318 = .ok (.aload_n 0, 1) := by decide +kernel
theorem dL_law_319 : decode cL_law 319 = .ok (.iload_n 3, 1) := by decide +kernel
theorem dL_law_320 : decode cL_law 320 = .ok (.iconst 3, 1) := by decide +kernel
theorem dL_law_321 : decode cL_law 321 = .ok (.iadd, 1) := by decide +kernel
theorem dL_law_322 : decode cL_law 322 = .ok (.iaload, 1) := by decide +kernel
theorem dL_law_323 : decode cL_law 323 = .ok (.invokevirtual 26, 3) := by decide +kernel
theorem dL_law_326 : decode cL_law 326 = .ok (.if_icmp .eq 1160, 3) := by decide +kernel
theorem dL_law_329 : decode cL_law 329 = .ok (.iconst 0, 1) := by decide +kernel
theorem dL_law_330 : decode cL_law 330 = .ok (.ireturn, 1) := by decide +kernel
theorem dL_law_331 : decode cL_law 331 = .ok (.aload_n 1, 1) := by decide +kernel
theorem dL_law_332 : decode cL_law 332 = .ok (.aload_n 0, 1) := by decide +kernel
theorem dL_law_333 : decode cL_law 333 = .ok (.iload_n 3, 1) := by decide +kernel
theorem dL_law_334 : decode cL_law 334 = .ok (.iconst 1, 1) := by decide +kernel
theorem dL_law_335 : decode cL_law 335 = .ok (.iadd, 1) := by decide +kernel
theorem dL_law_336 : decode cL_law 336 = .ok (.iaload, 1) := by decide +kernel
theorem dL_law_337 : decode cL_law 337 = .ok (.aload_n 0, 1) := by decide +kernel
theorem dL_law_338 : decode cL_law 338 = .ok (.iload_n 3, 1) := by decide +kernel
theorem dL_law_339 : decode cL_law 339 = .ok (.iconst 2, 1) := by decide +kernel
theorem dL_law_340 : decode cL_law 340 = .ok (.iadd, 1) := by decide +kernel
theorem dL_law_341 : decode cL_law 341 = .ok (.iaload, 1) := by decide +kernel
theorem dL_law_342 : decode cL_law 342 = .ok (.aload_n 0, 1) := by decide +kernel
theorem dL_law_343 : decode cL_law 343 = .ok (.iload_n 3, 1) := by decide +kernel
theorem dL_law_344 : decode cL_law 344 = .ok (.iconst 3, 1) := by decide +kernel
theorem dL_law_345 : decode cL_law 345 = .ok (.iadd, 1) := by decide +kernel
theorem dL_law_346 : decode cL_law 346 = .ok (.iaload, 1) := by decide +kernel
theorem dL_law_347 : decode cL_law 347 = .ok (.invokevirtual 27, 3) := by decide +kernel
theorem dL_law_350 : decode cL_law 350 = .ok (.aload_n 2, 1) := by decide +kernel
theorem dL_law_351 : decode cL_law 351 = .ok (.aload_n 0, 1) := by decide +kernel
theorem dL_law_352 : decode cL_law 352 = .ok (.iload_n 3, 1) := by decide +kernel
theorem dL_law_353 : decode cL_law 353 = .ok (.iconst 1, 1) := by decide +kernel
theorem dL_law_354 : decode cL_law 354 = .ok (.iadd, 1) := by decide +kernel
theorem dL_law_355 : decode cL_law 355 = .ok (.iaload, 1) := by decide +kernel
theorem dL_law_356 : decode cL_law 356 = .ok (.aload_n 0, 1) := by decide +kernel
theorem dL_law_357 : decode cL_law 357 = .ok (.iload_n 3, 1) := by decide +kernel
theorem dL_law_358 : decode cL_law 358 = .ok (.iconst 2, 1) := by decide +kernel
theorem dL_law_359 : decode cL_law 359 = .ok (.iadd, 1) := by decide +kernel
theorem dL_law_360 : decode cL_law 360 = .ok (.iaload, 1) := by decide +kernel
theorem dL_law_361 : decode cL_law 361 = .ok (.aload_n 0, 1) := by decide +kernel
theorem dL_law_362 : decode cL_law 362 = .ok (.iload_n 3, 1) := by decide +kernel
theorem dL_law_363 : decode cL_law 363 = .ok (.iconst 3, 1) := by decide +kernel
theorem dL_law_364 : decode cL_law 364 = .ok (.iadd, 1) := by decide +kernel
theorem dL_law_365 : decode cL_law 365 = .ok (.iaload, 1) := by decide +kernel
theorem dL_law_366 : decode cL_law 366 = .ok (.invokevirtual 30, 3) := by decide +kernel
theorem dL_law_369 : decode cL_law 369 = .ok (.if_icmp .eq 1117, 3) := by decide +kernel
theorem dL_law_372 : decode cL_law 372 = .ok (.iconst 0, 1) := by decide +kernel
theorem dL_law_373 : decode cL_law 373 = .ok (.ireturn, 1) := by decide +kernel
theorem dL_law_374 : decode cL_law 374 = .ok (.aload_n 1, 1) := by decide +kernel
theorem dL_law_375 : decode cL_law 375 = .ok (.aload_n 0, 1) := by decide +kernel
theorem dL_law_376 : decode cL_law 376 = .ok (.iload_n 3, 1) := by decide +kernel
theorem dL_law_377 : decode cL_law 377 = .ok (.iconst 1, 1) := by decide +kernel
theorem dL_law_378 : decode cL_law 378 = .ok (.iadd, 1) := by decide +kernel
theorem dL_law_379 : decode cL_law 379 = .ok (.iaload, 1) := by decide +kernel
theorem dL_law_380 : decode cL_law 380 = .ok (.aload_n 0, 1) := by decide +kernel
theorem dL_law_381 : decode cL_law 381 = .ok (.iload_n 3, 1) := by decide +kernel
theorem dL_law_382 : decode cL_law 382 = .ok (.iconst 2, 1) := by decide +kernel
theorem dL_law_383 : decode cL_law 383 = .ok (.iadd, 1) := by decide +kernel
theorem dL_law_384 : decode cL_law 384 = .ok (.iaload, 1) := by decide +kernel
theorem dL_law_385 : decode cL_law 385 = .ok (.invokevirtual 31, 3) := by decide +kernel
theorem dL_law_388 : decode cL_law 388 = .ok (.aload_n 2, 1) := by decide +kernel
theorem dL_law_389 : decode cL_law 389 = .ok (.aload_n 0, 1) := by decide +kernel
theorem dL_law_390 : decode cL_law 390 = .ok (.iload_n 3, 1) := by decide +kernel
theorem dL_law_391 : decode cL_law 391 = .ok (.iconst 1, 1) := by decide +kernel
theorem dL_law_392 : decode cL_law 392 = .ok (.iadd, 1) := by decide +kernel
theorem dL_law_393 : decode cL_law 393 = .ok (.iaload, 1) := by decide +kernel
theorem dL_law_394 : decode cL_law 394 = .ok (.aload_n 0, 1) := by decide +kernel
theorem dL_law_395 : decode cL_law 395 = .ok (.iload_n 3, 1) := by decide +kernel
theorem dL_law_396 : decode cL_law 396 = .ok (.iconst 2, 1) := by decide +kernel
theorem dL_law_397 : decode cL_law 397 = .ok (.iadd, 1) := by decide +kernel
theorem dL_law_398 : decode cL_law 398 = .ok (.iaload, 1) := by decide +kernel
theorem dL_law_399 : decode cL_law 399 = .ok (.invokevirtual 34, 3) := by decide +kernel
theorem dL_law_402 : decode cL_law 402 = .ok (.if_icmp .eq 1084, 3) := by decide +kernel
theorem dL_law_405 : decode cL_law 405 = .ok (.iconst 0, 1) := by decide +kernel
theorem dL_law_406 : decode cL_law 406 = .ok (.ireturn, 1) := by decide +kernel
theorem dL_law_407 : decode cL_law 407 = .ok (.aload_n 1, 1) := by decide +kernel
theorem dL_law_408 : decode cL_law 408 = .ok (.aload_n 0, 1) := by decide +kernel
theorem dL_law_409 : decode cL_law 409 = .ok (.iload_n 3, 1) := by decide +kernel
theorem dL_law_410 : decode cL_law 410 = .ok (.iconst 1, 1) := by decide +kernel
theorem dL_law_411 : decode cL_law 411 = .ok (.iadd, 1) := by decide +kernel
theorem dL_law_412 : decode cL_law 412 = .ok (.iaload, 1) := by decide +kernel
theorem dL_law_413 : decode cL_law 413 = .ok (.invokevirtual 35, 3) := by decide +kernel
theorem dL_law_416 : decode cL_law 416 = .ok (.aload_n 2, 1) := by decide +kernel
theorem dL_law_417 : decode cL_law 417 = .ok (.aload_n 0, 1) := by decide +kernel
theorem dL_law_418 : decode cL_law 418 = .ok (.iload_n 3, 1) := by decide +kernel
theorem dL_law_419 : decode cL_law 419 = .ok (.iconst 1, 1) := by decide +kernel
theorem dL_law_420 : decode cL_law 420 = .ok (.iadd, 1) := by decide +kernel
theorem dL_law_421 : decode cL_law 421 = .ok (.iaload, 1) := by decide +kernel
theorem dL_law_422 : decode cL_law 422 = .ok (.invokevirtual 39, 3) := by decide +kernel
theorem dL_law_425 : decode cL_law 425 = .ok (.if_icmp .eq 1061, 3) := by decide +kernel
theorem dL_law_428 : decode cL_law 428 = .ok (.iconst 0, 1) := by decide +kernel
theorem dL_law_429 : decode cL_law 429 = .ok (.ireturn, 1) := by decide +kernel
theorem dL_law_430 : decode cL_law 430 = .ok (.aload_n 1, 1) := by decide +kernel
theorem dL_law_431 : decode cL_law 431 = .ok (.invokevirtual 40, 3) := by decide +kernel
theorem dL_law_434 : decode cL_law 434 = .ok (.aload_n 2, 1) := by decide +kernel
theorem dL_law_435 : decode cL_law 435 = .ok (.invokevirtual 44, 3) := by decide +kernel
theorem dL_law_438 : decode cL_law 438 = .ok (.if_icmp .eq 1048, 3) := by decide +kernel
theorem dL_law_441 : decode cL_law 441 = .ok (.iconst 0, 1) := by decide +kernel
theorem dL_law_442 : decode cL_law 442 = .ok (.ireturn, 1) := by decide +kernel
theorem dL_law_443 : decode cL_law 443 = .ok (.aload_n 1, 1) := by decide +kernel
theorem dL_law_444 : decode cL_law 444 = .ok (.aload_n 0, 1) := by decide +kernel
theorem dL_law_445 : decode cL_law 445 = .ok (.iload_n 3, 1) := by decide +kernel
theorem dL_law_446 : decode cL_law 446 = .ok (.iconst 1, 1) := by decide +kernel
theorem dL_law_447 : decode cL_law 447 = .ok (.iadd, 1) := by decide +kernel
theorem dL_law_448 : decode cL_law 448 = .ok (.iaload, 1) := by decide +kernel
theorem dL_law_449 : decode cL_law 449 = .ok (.aload_n 0, 1) := by decide +kernel
theorem dL_law_450 : decode cL_law 450 = .ok (.iload_n 3, 1) := by decide +kernel
theorem dL_law_451 : decode cL_law 451 = .ok (.iconst 2, 1) := by decide +kernel
theorem dL_law_452 : decode cL_law 452 = .ok (.iadd, 1) := by decide +kernel
theorem dL_law_453 : decode cL_law 453 = .ok (.iaload, 1) := by decide +kernel
theorem dL_law_454 : decode cL_law 454 = .ok (.aload_n 0, 1) := by decide +kernel
theorem dL_law_455 : decode cL_law 455 = .ok (.iload_n 3, 1) := by decide +kernel
theorem dL_law_456 : decode cL_law 456 = .ok (.iconst 3, 1) := by decide +kernel
theorem dL_law_457 : decode cL_law 457 = .ok (.iadd, 1) := by decide +kernel
theorem dL_law_458 : decode cL_law 458 = .ok (.iaload, 1) := by decide +kernel
theorem dL_law_459 : decode cL_law 459 = .ok (.invokevirtual 45, 3) := by decide +kernel
theorem dL_law_462 : decode cL_law 462 = .ok (.aload_n 2, 1) := by decide +kernel
theorem dL_law_463 : decode cL_law 463 = .ok (.aload_n 0, 1) := by decide +kernel
theorem dL_law_464 : decode cL_law 464 = .ok (.iload_n 3, 1) := by decide +kernel
theorem dL_law_465 : decode cL_law 465 = .ok (.iconst 1, 1) := by decide +kernel
theorem dL_law_466 : decode cL_law 466 = .ok (.iadd, 1) := by decide +kernel
theorem dL_law_467 : decode cL_law 467 = .ok (.iaload, 1) := by decide +kernel
theorem dL_law_468 : decode cL_law 468 = .ok (.aload_n 0, 1) := by decide +kernel
theorem dL_law_469 : decode cL_law 469 = .ok (.iload_n 3, 1) := by decide +kernel
theorem dL_law_470 : decode cL_law 470 = .ok (.iconst 2, 1) := by decide +kernel
theorem dL_law_471 : decode cL_law 471 = .ok (.iadd, 1) := by decide +kernel
theorem dL_law_472 : decode cL_law 472 = .ok (.iaload, 1) := by decide +kernel
theorem dL_law_473 : decode cL_law 473 = .ok (.aload_n 0, 1) := by decide +kernel
theorem dL_law_474 : decode cL_law 474 = .ok (.iload_n 3, 1) := by decide +kernel
theorem dL_law_475 : decode cL_law 475 = .ok (.iconst 3, 1) := by decide +kernel
theorem dL_law_476 : decode cL_law 476 = .ok (.iadd, 1) := by decide +kernel
theorem dL_law_477 : decode cL_law 477 = .ok (.iaload, 1) := by decide +kernel
theorem dL_law_478 : decode cL_law 478 = .ok (.invokevirtual 48, 3) := by decide +kernel
theorem dL_law_481 : decode cL_law 481 = .ok (.if_icmp .eq 1005, 3) := by decide +kernel
theorem dL_law_484 : decode cL_law 484 = .ok (.iconst 0, 1) := by decide +kernel
theorem dL_law_485 : decode cL_law 485 = .ok (.ireturn, 1) := by decide +kernel
theorem dL_law_486 : decode cL_law 486 = .ok (.aload_n 1, 1) := by decide +kernel
theorem dL_law_487 : decode cL_law 487 = .ok (.aload_n 0, 1) := by decide +kernel
theorem dL_law_488 : decode cL_law 488 = .ok (.iload_n 3, 1) := by decide +kernel
theorem dL_law_489 : decode cL_law 489 = .ok (.iconst 1, 1) := by decide +kernel
theorem dL_law_490 : decode cL_law 490 = .ok (.iadd, 1) := by decide +kernel
theorem dL_law_491 : decode cL_law 491 = .ok (.iaload, 1) := by decide +kernel
theorem dL_law_492 : decode cL_law 492 = .ok (.invokevirtual 49, 3) := by decide +kernel
theorem dL_law_495 : decode cL_law 495 = .ok (.aload_n 2, 1) := by decide +kernel
theorem dL_law_496 : decode cL_law 496 = .ok (.aload_n 0, 1) := by decide +kernel
theorem dL_law_497 : decode cL_law 497 = .ok (.iload_n 3, 1) := by decide +kernel
theorem dL_law_498 : decode cL_law 498 = .ok (.iconst 1, 1) := by decide +kernel
theorem dL_law_499 : decode cL_law 499 = .ok (.iadd, 1) := by decide +kernel
theorem dL_law_500 : decode cL_law 500 = .ok (.iaload, 1) := by decide +kernel
theorem dL_law_501 : decode cL_law 501 = .ok (.invokevirtual 52, 3) := by decide +kernel
theorem dL_law_504 : decode cL_law 504 = .ok (.if_icmp .eq 982, 3) := by decide +kernel
theorem dL_law_507 : decode cL_law 507 = .ok (.iconst 0, 1) := by decide +kernel
theorem dL_law_508 : decode cL_law 508 = .ok (.ireturn, 1) := by decide +kernel
theorem dL_law_509 : decode cL_law 509 = .ok (.aload_n 1, 1) := by decide +kernel
theorem dL_law_510 : decode cL_law 510 = .ok (.aload_n 0, 1) := by decide +kernel
theorem dL_law_511 : decode cL_law 511 = .ok (.iload_n 3, 1) := by decide +kernel
theorem dL_law_512 : decode cL_law 512 = .ok (.iconst 1, 1) := by decide +kernel
theorem dL_law_513 : decode cL_law 513 = .ok (.iadd, 1) := by decide +kernel
theorem dL_law_514 : decode cL_law 514 = .ok (.iaload, 1) := by decide +kernel
theorem dL_law_515 : decode cL_law 515 = .ok (.aload_n 0, 1) := by decide +kernel
theorem dL_law_516 : decode cL_law 516 = .ok (.iload_n 3, 1) := by decide +kernel
theorem dL_law_517 : decode cL_law 517 = .ok (.iconst 2, 1) := by decide +kernel
theorem dL_law_518 : decode cL_law 518 = .ok (.iadd, 1) := by decide +kernel
theorem dL_law_519 : decode cL_law 519 = .ok (.iaload, 1) := by decide +kernel
theorem dL_law_520 : decode cL_law 520 = .ok (.invokevirtual 53, 3) := by decide +kernel
theorem dL_law_523 : decode cL_law 523 = .ok (.aload_n 2, 1) := by decide +kernel
theorem dL_law_524 : decode cL_law 524 = .ok (.aload_n 0, 1) := by decide +kernel
theorem dL_law_525 : decode cL_law 525 = .ok (.iload_n 3, 1) := by decide +kernel
theorem dL_law_526 : decode cL_law 526 = .ok (.iconst 1, 1) := by decide +kernel
theorem dL_law_527 : decode cL_law 527 = .ok (.iadd, 1) := by decide +kernel
theorem dL_law_528 : decode cL_law 528 = .ok (.iaload, 1) := by decide +kernel
theorem dL_law_529 : decode cL_law 529 = .ok (.aload_n 0, 1) := by decide +kernel
theorem dL_law_530 : decode cL_law 530 = .ok (.iload_n 3, 1) := by decide +kernel
theorem dL_law_531 : decode cL_law 531 = .ok (.iconst 2, 1) := by decide +kernel
theorem dL_law_532 : decode cL_law 532 = .ok (.iadd, 1) := by decide +kernel
theorem dL_law_533 : decode cL_law 533 = .ok (.iaload, 1) := by decide +kernel
theorem dL_law_534 : decode cL_law 534 = .ok (.invokevirtual 56, 3) := by decide +kernel
theorem dL_law_537 : decode cL_law 537 = .ok (.if_icmp .eq 949, 3) := by decide +kernel
theorem dL_law_540 : decode cL_law 540 = .ok (.iconst 0, 1) := by decide +kernel
theorem dL_law_541 : decode cL_law 541 = .ok (.ireturn, 1) := by decide +kernel
theorem dL_law_542 : decode cL_law 542 = .ok (.aload_n 1, 1) := by decide +kernel
theorem dL_law_543 : decode cL_law 543 = .ok (.aload_n 0, 1) := by decide +kernel
theorem dL_law_544 : decode cL_law 544 = .ok (.iload_n 3, 1) := by decide +kernel
theorem dL_law_545 : decode cL_law 545 = .ok (.iconst 1, 1) := by decide +kernel
theorem dL_law_546 : decode cL_law 546 = .ok (.iadd, 1) := by decide +kernel
theorem dL_law_547 : decode cL_law 547 = .ok (.iaload, 1) := by decide +kernel
theorem dL_law_548 : decode cL_law 548 = .ok (.aload_n 0, 1) := by decide +kernel
theorem dL_law_549 : decode cL_law 549 = .ok (.iload_n 3, 1) := by decide +kernel
theorem dL_law_550 : decode cL_law 550 = .ok (.iconst 2, 1) := by decide +kernel
theorem dL_law_551 : decode cL_law 551 = .ok (.iadd, 1) := by decide +kernel
theorem dL_law_552 : decode cL_law 552 = .ok (.iaload, 1) := by decide +kernel
theorem dL_law_553 : decode cL_law 553 = .ok (.invokevirtual 57, 3) := by decide +kernel
theorem dL_law_556 : decode cL_law 556 = .ok (.aload_n 2, 1) := by decide +kernel
theorem dL_law_557 : decode cL_law 557 = .ok (.aload_n 0, 1) := by decide +kernel
theorem dL_law_558 : decode cL_law 558 = .ok (.iload_n 3, 1) := by decide +kernel
theorem dL_law_559 : decode cL_law 559 = .ok (.iconst 1, 1) := by decide +kernel
theorem dL_law_560 : decode cL_law 560 = .ok (.iadd, 1) := by decide +kernel
theorem dL_law_561 : decode cL_law 561 = .ok (.iaload, 1) := by decide +kernel
theorem dL_law_562 : decode cL_law 562 = .ok (.aload_n 0, 1) := by decide +kernel
theorem dL_law_563 : decode cL_law 563 = .ok (.iload_n 3, 1) := by decide +kernel
theorem dL_law_564 : decode cL_law 564 = .ok (.iconst 2, 1) := by decide +kernel
theorem dL_law_565 : decode cL_law 565 = .ok (.iadd, 1) := by decide +kernel
theorem dL_law_566 : decode cL_law 566 = .ok (.iaload, 1) := by decide +kernel
theorem dL_law_567 : decode cL_law 567 = .ok (.invokevirtual 60, 3) := by decide +kernel
theorem dL_law_570 : decode cL_law 570 = .ok (.if_icmp .eq 916, 3) := by decide +kernel
theorem dL_law_573 : decode cL_law 573 = .ok (.iconst 0, 1) := by decide +kernel
theorem dL_law_574 : decode cL_law 574 = .ok (.ireturn, 1) := by decide +kernel
theorem dL_law_575 : decode cL_law 575 = .ok (.aload_n 1, 1) := by decide +kernel
theorem dL_law_576 : decode cL_law 576 = .ok (.aload_n 0, 1) := by decide +kernel
theorem dL_law_577 : decode cL_law 577 = .ok (.iload_n 3, 1) := by decide +kernel
theorem dL_law_578 : decode cL_law 578 = .ok (.iconst 1, 1) := by decide +kernel
theorem dL_law_579 : decode cL_law 579 = .ok (.iadd, 1) := by decide +kernel
theorem dL_law_580 : decode cL_law 580 = .ok (.iaload, 1) := by decide +kernel
theorem dL_law_581 : decode cL_law 581 = .ok (.aload_n 0, 1) := by decide +kernel
theorem dL_law_582 : decode cL_law 582 = .ok (.iload_n 3, 1) := by decide +kernel
theorem dL_law_583 : decode cL_law 583 = .ok (.iconst 2, 1) := by decide +kernel
theorem dL_law_584 : decode cL_law 584 = .ok (.iadd, 1) := by decide +kernel
theorem dL_law_585 : decode cL_law 585 = .ok (.iaload, 1) := by decide +kernel
theorem dL_law_586 : decode cL_law 586 = .ok (.invokevirtual 61, 3) := by decide +kernel
theorem dL_law_589 : decode cL_law 589 = .ok (.aload_n 2, 1) := by decide +kernel
theorem dL_law_590 : decode cL_law 590 = .ok (.aload_n 0, 1) := by decide +kernel
theorem dL_law_591 : decode cL_law 591 = .ok (.iload_n 3, 1) := by decide +kernel
theorem dL_law_592 : decode cL_law 592 = .ok (.iconst 1, 1) := by decide +kernel
theorem dL_law_593 : decode cL_law 593 = .ok (.iadd, 1) := by decide +kernel
theorem dL_law_594 : decode cL_law 594 = .ok (.iaload, 1) := by decide +kernel
theorem dL_law_595 : decode cL_law 595 = .ok (.aload_n 0, 1) := by decide +kernel
theorem dL_law_596 : decode cL_law 596 = .ok (.iload_n 3, 1) := by decide +kernel
theorem dL_law_597 : decode cL_law 597 = .ok (.iconst 2, 1) := by decide +kernel
theorem dL_law_598 : decode cL_law 598 = .ok (.iadd, 1) := by decide +kernel
theorem dL_law_599 : decode cL_law 599 = .ok (.iaload, 1) := by decide +kernel
theorem dL_law_600 : decode cL_law 600 = .ok (.invokevirtual 64, 3) := by decide +kernel
theorem dL_law_603 : decode cL_law 603 = .ok (.if_icmp .eq 883, 3) := by decide +kernel
theorem dL_law_606 : decode cL_law 606 = .ok (.iconst 0, 1) := by decide +kernel
theorem dL_law_607 : decode cL_law 607 = .ok (.ireturn, 1) := by decide +kernel
theorem dL_law_608 : decode cL_law 608 = .ok (.aload_n 1, 1) := by decide +kernel
theorem dL_law_609 : decode cL_law 609 = .ok (.aload_n 0, 1) := by decide +kernel
theorem dL_law_610 : decode cL_law 610 = .ok (.iload_n 3, 1) := by decide +kernel
theorem dL_law_611 : decode cL_law 611 = .ok (.iconst 1, 1) := by decide +kernel
theorem dL_law_612 : decode cL_law 612 = .ok (.iadd, 1) := by decide +kernel
theorem dL_law_613 : decode cL_law 613 = .ok (.iaload, 1) := by decide +kernel
theorem dL_law_614 : decode cL_law 614 = .ok (.invokevirtual 65, 3) := by decide +kernel
theorem dL_law_617 : decode cL_law 617 = .ok (.aload_n 2, 1) := by decide +kernel
theorem dL_law_618 : decode cL_law 618 = .ok (.aload_n 0, 1) := by decide +kernel
theorem dL_law_619 : decode cL_law 619 = .ok (.iload_n 3, 1) := by decide +kernel
theorem dL_law_620 : decode cL_law 620 = .ok (.iconst 1, 1) := by decide +kernel
theorem dL_law_621 : decode cL_law 621 = .ok (.iadd, 1) := by decide +kernel
theorem dL_law_622 : decode cL_law 622 = .ok (.iaload, 1) := by decide +kernel
theorem dL_law_623 : decode cL_law 623 = .ok (.invokevirtual 68, 3) := by decide +kernel
theorem dL_law_626 : decode cL_law 626 = .ok (.if_icmp .eq 860, 3) := by decide +kernel
theorem dL_law_629 : decode cL_law 629 = .ok (.iconst 0, 1) := by decide +kernel
theorem dL_law_630 : decode cL_law 630 = .ok (.ireturn, 1) := by decide +kernel
theorem dL_law_631 : decode cL_law 631 = .ok (.aload_n 1, 1) := by decide +kernel
theorem dL_law_632 : decode cL_law 632 = .ok (.aload_n 0, 1) := by decide +kernel
theorem dL_law_633 : decode cL_law 633 = .ok (.iload_n 3, 1) := by decide +kernel
theorem dL_law_634 : decode cL_law 634 = .ok (.iconst 1, 1) := by decide +kernel
theorem dL_law_635 : decode cL_law 635 = .ok (.iadd, 1) := by decide +kernel
theorem dL_law_636 : decode cL_law 636 = .ok (.iaload, 1) := by decide +kernel
theorem dL_law_637 : decode cL_law 637 = .ok (.aload_n 0, 1) := by decide +kernel
theorem dL_law_638 : decode cL_law 638 = .ok (.iload_n 3, 1) := by decide +kernel
theorem dL_law_639 : decode cL_law 639 = .ok (.iconst 2, 1) := by decide +kernel
theorem dL_law_640 : decode cL_law 640 = .ok (.iadd, 1) := by decide +kernel
theorem dL_law_641 : decode cL_law 641 = .ok (.iaload, 1) := by decide +kernel
theorem dL_law_642 : decode cL_law 642 = .ok (.invokevirtual 69, 3) := by decide +kernel
theorem dL_law_645 : decode cL_law 645 = .ok (.aload_n 2, 1) := by decide +kernel
theorem dL_law_646 : decode cL_law 646 = .ok (.aload_n 0, 1) := by decide +kernel
theorem dL_law_647 : decode cL_law 647 = .ok (.iload_n 3, 1) := by decide +kernel
theorem dL_law_648 : decode cL_law 648 = .ok (.iconst 1, 1) := by decide +kernel
theorem dL_law_649 : decode cL_law 649 = .ok (.iadd, 1) := by decide +kernel
theorem dL_law_650 : decode cL_law 650 = .ok (.iaload, 1) := by decide +kernel
theorem dL_law_651 : decode cL_law 651 = .ok (.aload_n 0, 1) := by decide +kernel
theorem dL_law_652 : decode cL_law 652 = .ok (.iload_n 3, 1) := by decide +kernel
theorem dL_law_653 : decode cL_law 653 = .ok (.iconst 2, 1) := by decide +kernel
theorem dL_law_654 : decode cL_law 654 = .ok (.iadd, 1) := by decide +kernel
theorem dL_law_655 : decode cL_law 655 = .ok (.iaload, 1) := by decide +kernel
theorem dL_law_656 : decode cL_law 656 = .ok (.invokevirtual 72, 3) := by decide +kernel
theorem dL_law_659 : decode cL_law 659 = .ok (.if_icmp .eq 827, 3) := by decide +kernel
theorem dL_law_662 : decode cL_law 662 = .ok (.iconst 0, 1) := by decide +kernel
theorem dL_law_663 : decode cL_law 663 = .ok (.ireturn, 1) := by decide +kernel
theorem dL_law_664 : decode cL_law 664 = .ok (.aload_n 1, 1) := by decide +kernel
theorem dL_law_665 : decode cL_law 665 = .ok (.aload_n 0, 1) := by decide +kernel
theorem dL_law_666 : decode cL_law 666 = .ok (.iload_n 3, 1) := by decide +kernel
theorem dL_law_667 : decode cL_law 667 = .ok (.iconst 1, 1) := by decide +kernel
theorem dL_law_668 : decode cL_law 668 = .ok (.iadd, 1) := by decide +kernel
theorem dL_law_669 : decode cL_law 669 = .ok (.iaload, 1) := by decide +kernel
theorem dL_law_670 : decode cL_law 670 = .ok (.aload_n 0, 1) := by decide +kernel
theorem dL_law_671 : decode cL_law 671 = .ok (.iload_n 3, 1) := by decide +kernel
theorem dL_law_672 : decode cL_law 672 = .ok (.iconst 2, 1) := by decide +kernel
theorem dL_law_673 : decode cL_law 673 = .ok (.iadd, 1) := by decide +kernel
theorem dL_law_674 : decode cL_law 674 = .ok (.iaload, 1) := by decide +kernel
theorem dL_law_675 : decode cL_law 675 = .ok (.aload_n 0, 1) := by decide +kernel
theorem dL_law_676 : decode cL_law 676 = .ok (.iload_n 3, 1) := by decide +kernel
theorem dL_law_677 : decode cL_law 677 = .ok (.iconst 3, 1) := by decide +kernel
theorem dL_law_678 : decode cL_law 678 = .ok (.iadd, 1) := by decide +kernel
theorem dL_law_679 : decode cL_law 679 = .ok (.iaload, 1) := by decide +kernel
theorem dL_law_680 : decode cL_law 680 = .ok (.invokevirtual 73, 3) := by decide +kernel
theorem dL_law_683 : decode cL_law 683 = .ok (.aload_n 2, 1) := by decide +kernel
theorem dL_law_684 : decode cL_law 684 = .ok (.aload_n 0, 1) := by decide +kernel
theorem dL_law_685 : decode cL_law 685 = .ok (.iload_n 3, 1) := by decide +kernel
theorem dL_law_686 : decode cL_law 686 = .ok (.iconst 1, 1) := by decide +kernel
theorem dL_law_687 : decode cL_law 687 = .ok (.iadd, 1) := by decide +kernel
theorem dL_law_688 : decode cL_law 688 = .ok (.iaload, 1) := by decide +kernel
theorem dL_law_689 : decode cL_law 689 = .ok (.aload_n 0, 1) := by decide +kernel
theorem dL_law_690 : decode cL_law 690 = .ok (.iload_n 3, 1) := by decide +kernel
theorem dL_law_691 : decode cL_law 691 = .ok (.iconst 2, 1) := by decide +kernel
theorem dL_law_692 : decode cL_law 692 = .ok (.iadd, 1) := by decide +kernel
theorem dL_law_693 : decode cL_law 693 = .ok (.iaload, 1) := by decide +kernel
theorem dL_law_694 : decode cL_law 694 = .ok (.aload_n 0, 1) := by decide +kernel
theorem dL_law_695 : decode cL_law 695 = .ok (.iload_n 3, 1) := by decide +kernel
theorem dL_law_696 : decode cL_law 696 = .ok (.iconst 3, 1) := by decide +kernel
theorem dL_law_697 : decode cL_law 697 = .ok (.iadd, 1) := by decide +kernel
theorem dL_law_698 : decode cL_law 698 = .ok (.iaload, 1) := by decide +kernel
theorem dL_law_699 : decode cL_law 699 = .ok (.invokevirtual 76, 3) := by decide +kernel
theorem dL_law_702 : decode cL_law 702 = .ok (.if_icmp .eq 784, 3) := by decide +kernel
theorem dL_law_705 : decode cL_law 705 = .ok (.iconst 0, 1) := by decide +kernel
theorem dL_law_706 : decode cL_law 706 = .ok (.ireturn, 1) := by decide +kernel
theorem dL_law_707 : decode cL_law 707 = .ok (.aload_n 1, 1) := by decide +kernel
theorem dL_law_708 : decode cL_law 708 = .ok (.aload_n 0, 1) := by decide +kernel
theorem dL_law_709 : decode cL_law 709 = .ok (.iload_n 3, 1) := by decide +kernel
theorem dL_law_710 : decode cL_law 710 = .ok (.iconst 1, 1) := by decide +kernel
theorem dL_law_711 : decode cL_law 711 = .ok (.iadd, 1) := by decide +kernel
theorem dL_law_712 : decode cL_law 712 = .ok (.iaload, 1) := by decide +kernel
theorem dL_law_713 : decode cL_law 713 = .ok (.invokevirtual 77, 3) := by decide +kernel
theorem dL_law_716 : decode cL_law 716 = .ok (.aload_n 2, 1) := by decide +kernel
theorem dL_law_717 : decode cL_law 717 = .ok (.aload_n 0, 1) := by decide +kernel
theorem dL_law_718 : decode cL_law 718 = .ok (.iload_n 3, 1) := by decide +kernel
theorem dL_law_719 : decode cL_law 719 = .ok (.iconst 1, 1) := by decide +kernel
theorem dL_law_720 : decode cL_law 720 = .ok (.iadd, 1) := by decide +kernel
theorem dL_law_721 : decode cL_law 721 = .ok (.iaload, 1) := by decide +kernel
theorem dL_law_722 : decode cL_law 722 = .ok (.invokevirtual 80, 3) := by decide +kernel
theorem dL_law_725 : decode cL_law 725 = .ok (.if_icmp .eq 761, 3) := by decide +kernel
theorem dL_law_728 : decode cL_law 728 = .ok (.iconst 0, 1) := by decide +kernel
theorem dL_law_729 : decode cL_law 729 = .ok (.ireturn, 1) := by decide +kernel
theorem dL_law_730 : decode cL_law 730 = .ok (.aload_n 1, 1) := by decide +kernel
theorem dL_law_731 : decode cL_law 731 = .ok (.aload_n 0, 1) := by decide +kernel
theorem dL_law_732 : decode cL_law 732 = .ok (.iload_n 3, 1) := by decide +kernel
theorem dL_law_733 : decode cL_law 733 = .ok (.iconst 1, 1) := by decide +kernel
theorem dL_law_734 : decode cL_law 734 = .ok (.iadd, 1) := by decide +kernel
theorem dL_law_735 : decode cL_law 735 = .ok (.iaload, 1) := by decide +kernel
theorem dL_law_736 : decode cL_law 736 = .ok (.invokevirtual 81, 3) := by decide +kernel
theorem dL_law_739 : decode cL_law 739 = .ok (.aload_n 2, 1) := by decide +kernel
theorem dL_law_740 : decode cL_law 740 = .ok (.aload_n 0, 1) := by decide +kernel
theorem dL_law_741 : decode cL_law 741 = .ok (.iload_n 3, 1) := by decide +kernel
theorem dL_law_742 : decode cL_law 742 = .ok (.iconst 1, 1) := by decide +kernel
theorem dL_law_743 : decode cL_law 743 = .ok (.iadd, 1) := by decide +kernel
theorem dL_law_744 : decode cL_law 744 = .ok (.iaload, 1) := by decide +kernel
theorem dL_law_745 : decode cL_law 745 = .ok (.invokevirtual 84, 3) := by decide +kernel
theorem dL_law_748 : decode cL_law 748 = .ok (.if_icmp .eq 738, 3) := by decide +kernel
theorem dL_law_751 : decode cL_law 751 = .ok (.iconst 0, 1) := by decide +kernel
theorem dL_law_752 : decode cL_law 752 = .ok (.ireturn, 1) := by decide +kernel
theorem dL_law_753 : decode cL_law 753 = .ok (.aload_n 1, 1) := by decide +kernel
theorem dL_law_754 : decode cL_law 754 = .ok (.aload_n 0, 1) := by decide +kernel
theorem dL_law_755 : decode cL_law 755 = .ok (.iload_n 3, 1) := by decide +kernel
theorem dL_law_756 : decode cL_law 756 = .ok (.iconst 1, 1) := by decide +kernel
theorem dL_law_757 : decode cL_law 757 = .ok (.iadd, 1) := by decide +kernel
theorem dL_law_758 : decode cL_law 758 = .ok (.iaload, 1) := by decide +kernel
theorem dL_law_759 : decode cL_law 759 = .ok (.invokevirtual 85, 3) := by decide +kernel
theorem dL_law_762 : decode cL_law 762 = .ok (.aload_n 2, 1) := by decide +kernel
theorem dL_law_763 : decode cL_law 763 = .ok (.aload_n 0, 1) := by decide +kernel
theorem dL_law_764 : decode cL_law 764 = .ok (.iload_n 3, 1) := by decide +kernel
theorem dL_law_765 : decode cL_law 765 = .ok (.iconst 1, 1) := by decide +kernel
theorem dL_law_766 : decode cL_law 766 = .ok (.iadd, 1) := by decide +kernel
theorem dL_law_767 : decode cL_law 767 = .ok (.iaload, 1) := by decide +kernel
theorem dL_law_768 : decode cL_law 768 = .ok (.invokevirtual 88, 3) := by decide +kernel
theorem dL_law_771 : decode cL_law 771 = .ok (.if_icmp .eq 715, 3) := by decide +kernel
theorem dL_law_774 : decode cL_law 774 = .ok (.iconst 0, 1) := by decide +kernel
theorem dL_law_775 : decode cL_law 775 = .ok (.ireturn, 1) := by decide +kernel
theorem dL_law_776 : decode cL_law 776 = .ok (.aload_n 1, 1) := by decide +kernel
theorem dL_law_777 : decode cL_law 777 = .ok (.aload_n 0, 1) := by decide +kernel
theorem dL_law_778 : decode cL_law 778 = .ok (.iload_n 3, 1) := by decide +kernel
theorem dL_law_779 : decode cL_law 779 = .ok (.iconst 1, 1) := by decide +kernel
theorem dL_law_780 : decode cL_law 780 = .ok (.iadd, 1) := by decide +kernel
theorem dL_law_781 : decode cL_law 781 = .ok (.iaload, 1) := by decide +kernel
theorem dL_law_782 : decode cL_law 782 = .ok (.aload_n 0, 1) := by decide +kernel
theorem dL_law_783 : decode cL_law 783 = .ok (.iload_n 3, 1) := by decide +kernel
theorem dL_law_784 : decode cL_law 784 = .ok (.iconst 2, 1) := by decide +kernel
theorem dL_law_785 : decode cL_law 785 = .ok (.iadd, 1) := by decide +kernel
theorem dL_law_786 : decode cL_law 786 = .ok (.iaload, 1) := by decide +kernel
theorem dL_law_787 : decode cL_law 787 = .ok (.aload_n 0, 1) := by decide +kernel
theorem dL_law_788 : decode cL_law 788 = .ok (.iload_n 3, 1) := by decide +kernel
theorem dL_law_789 : decode cL_law 789 = .ok (.iconst 3, 1) := by decide +kernel
theorem dL_law_790 : decode cL_law 790 = .ok (.iadd, 1) := by decide +kernel
theorem dL_law_791 : decode cL_law 791 = .ok (.iaload, 1) := by decide +kernel
theorem dL_law_792 : decode cL_law 792 = .ok (.invokevirtual 89, 3) := by decide +kernel
theorem dL_law_795 : decode cL_law 795 = .ok (.aload_n 2, 1) := by decide +kernel
theorem dL_law_796 : decode cL_law 796 = .ok (.aload_n 0, 1) := by decide +kernel
theorem dL_law_797 : decode cL_law 797 = .ok (.iload_n 3, 1) := by decide +kernel
theorem dL_law_798 : decode cL_law 798 = .ok (.iconst 1, 1) := by decide +kernel
theorem dL_law_799 : decode cL_law 799 = .ok (.iadd, 1) := by decide +kernel
theorem dL_law_800 : decode cL_law 800 = .ok (.iaload, 1) := by decide +kernel
theorem dL_law_801 : decode cL_law 801 = .ok (.aload_n 0, 1) := by decide +kernel
theorem dL_law_802 : decode cL_law 802 = .ok (.iload_n 3, 1) := by decide +kernel
theorem dL_law_803 : decode cL_law 803 = .ok (.iconst 2, 1) := by decide +kernel
theorem dL_law_804 : decode cL_law 804 = .ok (.iadd, 1) := by decide +kernel
theorem dL_law_805 : decode cL_law 805 = .ok (.iaload, 1) := by decide +kernel
theorem dL_law_806 : decode cL_law 806 = .ok (.aload_n 0, 1) := by decide +kernel
theorem dL_law_807 : decode cL_law 807 = .ok (.iload_n 3, 1) := by decide +kernel
theorem dL_law_808 : decode cL_law 808 = .ok (.iconst 3, 1) := by decide +kernel
theorem dL_law_809 : decode cL_law 809 = .ok (.iadd, 1) := by decide +kernel
theorem dL_law_810 : decode cL_law 810 = .ok (.iaload, 1) := by decide +kernel
theorem dL_law_811 : decode cL_law 811 = .ok (.invokevirtual 92, 3) := by decide +kernel
theorem dL_law_814 : decode cL_law 814 = .ok (.if_icmp .eq 672, 3) := by decide +kernel
theorem dL_law_817 : decode cL_law 817 = .ok (.iconst 0, 1) := by decide +kernel
theorem dL_law_818 : decode cL_law 818 = .ok (.ireturn, 1) := by decide +kernel
theorem dL_law_819 : decode cL_law 819 = .ok (.aload_n 1, 1) := by decide +kernel
theorem dL_law_820 : decode cL_law 820 = .ok (.aload_n 0, 1) := by decide +kernel
theorem dL_law_821 : decode cL_law 821 = .ok (.iload_n 3, 1) := by decide +kernel
theorem dL_law_822 : decode cL_law 822 = .ok (.iconst 1, 1) := by decide +kernel
theorem dL_law_823 : decode cL_law 823 = .ok (.iadd, 1) := by decide +kernel
theorem dL_law_824 : decode cL_law 824 = .ok (.iaload, 1) := by decide +kernel
theorem dL_law_825 : decode cL_law 825 = .ok (.invokevirtual 93, 3) := by decide +kernel
theorem dL_law_828 : decode cL_law 828 = .ok (.aload_n 2, 1) := by decide +kernel
theorem dL_law_829 : decode cL_law 829 = .ok (.aload_n 0, 1) := by decide +kernel
theorem dL_law_830 : decode cL_law 830 = .ok (.iload_n 3, 1) := by decide +kernel
theorem dL_law_831 : decode cL_law 831 = .ok (.iconst 1, 1) := by decide +kernel
theorem dL_law_832 : decode cL_law 832 = .ok (.iadd, 1) := by decide +kernel
theorem dL_law_833 : decode cL_law 833 = .ok (.iaload, 1) := by decide +kernel
theorem dL_law_834 : decode cL_law 834 = .ok (.invokevirtual 96, 3) := by decide +kernel
theorem dL_law_837 : decode cL_law 837 = .ok (.if_icmp .eq 649, 3) := by decide +kernel
theorem dL_law_840 : decode cL_law 840 = .ok (.iconst 0, 1) := by decide +kernel
theorem dL_law_841 : decode cL_law 841 = .ok (.ireturn, 1) := by decide +kernel
theorem dL_law_842 : decode cL_law 842 = .ok (.aload_n 1, 1) := by decide +kernel
theorem dL_law_843 : decode cL_law 843 = .ok (.aload_n 0, 1) := by decide +kernel
theorem dL_law_844 : decode cL_law 844 = .ok (.iload_n 3, 1) := by decide +kernel
theorem dL_law_845 : decode cL_law 845 = .ok (.iconst 1, 1) := by decide +kernel
theorem dL_law_846 : decode cL_law 846 = .ok (.iadd, 1) := by decide +kernel
theorem dL_law_847 : decode cL_law 847 = .ok (.iaload, 1) := by decide +kernel
theorem dL_law_848 : decode cL_law 848 = .ok (.aload_n 0, 1) := by decide +kernel
theorem dL_law_849 : decode cL_law 849 = .ok (.iload_n 3, 1) := by decide +kernel
theorem dL_law_850 : decode cL_law 850 = .ok (.iconst 2, 1) := by decide +kernel
theorem dL_law_851 : decode cL_law 851 = .ok (.iadd, 1) := by decide +kernel
theorem dL_law_852 : decode cL_law 852 = .ok (.iaload, 1) := by decide +kernel
theorem dL_law_853 : decode cL_law 853 = .ok (.aload_n 0, 1) := by decide +kernel
theorem dL_law_854 : decode cL_law 854 = .ok (.iload_n 3, 1) := by decide +kernel
theorem dL_law_855 : decode cL_law 855 = .ok (.iconst 3, 1) := by decide +kernel
theorem dL_law_856 : decode cL_law 856 = .ok (.iadd, 1) := by decide +kernel
theorem dL_law_857 : decode cL_law 857 = .ok (.iaload, 1) := by decide +kernel
theorem dL_law_858 : decode cL_law 858 = .ok (.invokevirtual 97, 3) := by decide +kernel
theorem dL_law_861 : decode cL_law 861 = .ok (.aload_n 2, 1) := by decide +kernel
theorem dL_law_862 : decode cL_law 862 = .ok (.aload_n 0, 1) := by decide +kernel
theorem dL_law_863 : decode cL_law 863 = .ok (.iload_n 3, 1) := by decide +kernel
theorem dL_law_864 : decode cL_law 864 = .ok (.iconst 1, 1) := by decide +kernel
theorem dL_law_865 : decode cL_law 865 = .ok (.iadd, 1) := by decide +kernel
theorem dL_law_866 : decode cL_law 866 = .ok (.iaload, 1) := by decide +kernel
theorem dL_law_867 : decode cL_law 867 = .ok (.aload_n 0, 1) := by decide +kernel
theorem dL_law_868 : decode cL_law 868 = .ok (.iload_n 3, 1) := by decide +kernel
theorem dL_law_869 : decode cL_law 869 = .ok (.iconst 2, 1) := by decide +kernel
theorem dL_law_870 : decode cL_law 870 = .ok (.iadd, 1) := by decide +kernel
theorem dL_law_871 : decode cL_law 871 = .ok (.iaload, 1) := by decide +kernel
theorem dL_law_872 : decode cL_law 872 = .ok (.aload_n 0, 1) := by decide +kernel
theorem dL_law_873 : decode cL_law 873 = .ok (.iload_n 3, 1) := by decide +kernel
theorem dL_law_874 : decode cL_law 874 = .ok (.iconst 3, 1) := by decide +kernel
theorem dL_law_875 : decode cL_law 875 = .ok (.iadd, 1) := by decide +kernel
theorem dL_law_876 : decode cL_law 876 = .ok (.iaload, 1) := by decide +kernel
theorem dL_law_877 : decode cL_law 877 = .ok (.invokevirtual 100, 3) := by decide +kernel
theorem dL_law_880 : decode cL_law 880 = .ok (.if_icmp .eq 606, 3) := by decide +kernel
theorem dL_law_883 : decode cL_law 883 = .ok (.iconst 0, 1) := by decide +kernel
theorem dL_law_884 : decode cL_law 884 = .ok (.ireturn, 1) := by decide +kernel
theorem dL_law_885 : decode cL_law 885 = .ok (.aload_n 1, 1) := by decide +kernel
theorem dL_law_886 : decode cL_law 886 = .ok (.aload_n 0, 1) := by decide +kernel
theorem dL_law_887 : decode cL_law 887 = .ok (.iload_n 3, 1) := by decide +kernel
theorem dL_law_888 : decode cL_law 888 = .ok (.iconst 1, 1) := by decide +kernel
theorem dL_law_889 : decode cL_law 889 = .ok (.iadd, 1) := by decide +kernel
theorem dL_law_890 : decode cL_law 890 = .ok (.iaload, 1) := by decide +kernel
theorem dL_law_891 : decode cL_law 891 = .ok (.aload_n 0, 1) := by decide +kernel
theorem dL_law_892 : decode cL_law 892 = .ok (.iload_n 3, 1) := by decide +kernel
theorem dL_law_893 : decode cL_law 893 = .ok (.iconst 2, 1) := by decide +kernel
theorem dL_law_894 : decode cL_law 894 = .ok (.iadd, 1) := by decide +kernel
theorem dL_law_895 : decode cL_law 895 = .ok (.iaload, 1) := by decide +kernel
theorem dL_law_896 : decode cL_law 896 = .ok (.aload_n 0, 1) := by decide +kernel
theorem dL_law_897 : decode cL_law 897 = .ok (.iload_n 3, 1) := by decide +kernel
theorem dL_law_898 : decode cL_law 898 = .ok (.iconst 3, 1) := by decide +kernel
theorem dL_law_899 : decode cL_law 899 = .ok (.iadd, 1) := by decide +kernel
theorem dL_law_900 : decode cL_law 900 = .ok (.iaload, 1) := by decide +kernel
theorem dL_law_901 : decode cL_law 901 = .ok (.invokevirtual 101, 3) := by decide +kernel
theorem dL_law_904 : decode cL_law 904 = .ok (.aload_n 2, 1) := by decide +kernel
theorem dL_law_905 : decode cL_law 905 = .ok (.aload_n 0, 1) := by decide +kernel
theorem dL_law_906 : decode cL_law 906 = .ok (.iload_n 3, 1) := by decide +kernel
theorem dL_law_907 : decode cL_law 907 = .ok (.iconst 1, 1) := by decide +kernel
theorem dL_law_908 : decode cL_law 908 = .ok (.iadd, 1) := by decide +kernel
theorem dL_law_909 : decode cL_law 909 = .ok (.iaload, 1) := by decide +kernel
theorem dL_law_910 : decode cL_law 910 = .ok (.aload_n 0, 1) := by decide +kernel
theorem dL_law_911 : decode cL_law 911 = .ok (.iload_n 3, 1) := by decide +kernel
theorem dL_law_912 : decode cL_law 912 = .ok (.iconst 2, 1) := by decide +kernel
theorem dL_law_913 : decode cL_law 913 = .ok (.iadd, 1) := by decide +kernel
theorem dL_law_914 : decode cL_law 914 = .ok (.iaload, 1) := by decide +kernel
theorem dL_law_915 : decode cL_law 915 = .ok (.aload_n 0, 1) := by decide +kernel
theorem dL_law_916 : decode cL_law 916 = .ok (.iload_n 3, 1) := by decide +kernel
theorem dL_law_917 : decode cL_law 917 = .ok (.iconst 3, 1) := by decide +kernel
theorem dL_law_918 : decode cL_law 918 = .ok (.iadd, 1) := by decide +kernel
theorem dL_law_919 : decode cL_law 919 = .ok (.iaload, 1) := by decide +kernel
theorem dL_law_920 : decode cL_law 920 = .ok (.invokevirtual 104, 3) := by decide +kernel
theorem dL_law_923 : decode cL_law 923 = .ok (.if_icmp .eq 563, 3) := by decide +kernel
theorem dL_law_926 : decode cL_law 926 = .ok (.iconst 0, 1) := by decide +kernel
theorem dL_law_927 : decode cL_law 927 = .ok (.ireturn, 1) := by decide +kernel
theorem dL_law_928 : decode cL_law 928 = .ok (.aload_n 1, 1) := by decide +kernel
theorem dL_law_929 : decode cL_law 929 = .ok (.aload_n 0, 1) := by decide +kernel
theorem dL_law_930 : decode cL_law 930 = .ok (.iload_n 3, 1) := by decide +kernel
theorem dL_law_931 : decode cL_law 931 = .ok (.iconst 1, 1) := by decide +kernel
theorem dL_law_932 : decode cL_law 932 = .ok (.iadd, 1) := by decide +kernel
theorem dL_law_933 : decode cL_law 933 = .ok (.iaload, 1) := by decide +kernel
theorem dL_law_934 : decode cL_law 934 = .ok (.aload_n 0, 1) := by decide +kernel
theorem dL_law_935 : decode cL_law 935 = .ok (.iload_n 3, 1) := by decide +kernel
theorem dL_law_936 : decode cL_law 936 = .ok (.iconst 2, 1) := by decide +kernel
theorem dL_law_937 : decode cL_law 937 = .ok (.iadd, 1) := by decide +kernel
theorem dL_law_938 : decode cL_law 938 = .ok (.iaload, 1) := by decide +kernel
theorem dL_law_939 : decode cL_law 939 = .ok (.invokevirtual 105, 3) := by decide +kernel
theorem dL_law_942 : decode cL_law 942 = .ok (.aload_n 2, 1) := by decide +kernel
theorem dL_law_943 : decode cL_law 943 = .ok (.aload_n 0, 1) := by decide +kernel
theorem dL_law_944 : decode cL_law 944 = .ok (.iload_n 3, 1) := by decide +kernel
theorem dL_law_945 : decode cL_law 945 = .ok (.iconst 1, 1) := by decide +kernel
theorem dL_law_946 : decode cL_law 946 = .ok (.iadd, 1) := by decide +kernel
theorem dL_law_947 : decode cL_law 947 = .ok (.iaload, 1) := by decide +kernel
theorem dL_law_948 : decode cL_law 948 = .ok (.aload_n 0, 1) := by decide +kernel
theorem dL_law_949 : decode cL_law 949 = .ok (.iload_n 3, 1) := by decide +kernel
theorem dL_law_950 : decode cL_law 950 = .ok (.iconst 2, 1) := by decide +kernel
theorem dL_law_951 : decode cL_law 951 = .ok (.iadd, 1) := by decide +kernel
theorem dL_law_952 : decode cL_law 952 = .ok (.iaload, 1) := by decide +kernel
theorem dL_law_953 : decode cL_law 953 = .ok (.invokevirtual 108, 3) := by decide +kernel
theorem dL_law_956 : decode cL_law 956 = .ok (.if_icmp .eq 530, 3) := by decide +kernel
theorem dL_law_959 : decode cL_law 959 = .ok (.iconst 0, 1) := by decide +kernel
theorem dL_law_960 : decode cL_law 960 = .ok (.ireturn, 1) := by decide +kernel
theorem dL_law_961 : decode cL_law 961 = .ok (.aload_n 1, 1) := by decide +kernel
theorem dL_law_962 : decode cL_law 962 = .ok (.invokevirtual 109, 3) := by decide +kernel
theorem dL_law_965 : decode cL_law 965 = .ok (.aload_n 2, 1) := by decide +kernel
theorem dL_law_966 : decode cL_law 966 = .ok (.invokevirtual 112, 3) := by decide +kernel
theorem dL_law_969 : decode cL_law 969 = .ok (.if_icmp .eq 517, 3) := by decide +kernel
theorem dL_law_972 : decode cL_law 972 = .ok (.iconst 0, 1) := by decide +kernel
theorem dL_law_973 : decode cL_law 973 = .ok (.ireturn, 1) := by decide +kernel
theorem dL_law_974 : decode cL_law 974 = .ok (.aload_n 1, 1) := by decide +kernel
theorem dL_law_975 : decode cL_law 975 = .ok (.invokevirtual 113, 3) := by decide +kernel
theorem dL_law_978 : decode cL_law 978 = .ok (.aload_n 2, 1) := by decide +kernel
theorem dL_law_979 : decode cL_law 979 = .ok (.invokevirtual 116, 3) := by decide +kernel
theorem dL_law_982 : decode cL_law 982 = .ok (.if_icmp .eq 504, 3) := by decide +kernel
theorem dL_law_985 : decode cL_law 985 = .ok (.iconst 0, 1) := by decide +kernel
theorem dL_law_986 : decode cL_law 986 = .ok (.ireturn, 1) := by decide +kernel
theorem dL_law_987 : decode cL_law 987 = .ok (.aload_n 1, 1) := by decide +kernel
theorem dL_law_988 : decode cL_law 988 = .ok (.aload_n 0, 1) := by decide +kernel
theorem dL_law_989 : decode cL_law 989 = .ok (.iload_n 3, 1) := by decide +kernel
theorem dL_law_990 : decode cL_law 990 = .ok (.iconst 1, 1) := by decide +kernel
theorem dL_law_991 : decode cL_law 991 = .ok (.iadd, 1) := by decide +kernel
theorem dL_law_992 : decode cL_law 992 = .ok (.iaload, 1) := by decide +kernel
theorem dL_law_993 : decode cL_law 993 = .ok (.aload_n 0, 1) := by decide +kernel
theorem dL_law_994 : decode cL_law 994 = .ok (.iload_n 3, 1) := by decide +kernel
theorem dL_law_995 : decode cL_law 995 = .ok (.iconst 2, 1) := by decide +kernel
theorem dL_law_996 : decode cL_law 996 = .ok (.iadd, 1) := by decide +kernel
theorem dL_law_997 : decode cL_law 997 = .ok (.iaload, 1) := by decide +kernel
theorem dL_law_998 : decode cL_law 998 = .ok (.invokevirtual 117, 3) := by decide +kernel
theorem dL_law_1001 : decode cL_law 1001 = .ok (.aload_n 2, 1) := by decide +kernel
theorem dL_law_1002 : decode cL_law 1002 = .ok (.aload_n 0, 1) := by decide +kernel
theorem dL_law_1003 : decode cL_law 1003 = .ok (.iload_n 3, 1) := by decide +kernel
theorem dL_law_1004 : decode cL_law 1004 = .ok (.iconst 1, 1) := by decide +kernel
theorem dL_law_1005 : decode cL_law 1005 = .ok (.iadd, 1) := by decide +kernel
theorem dL_law_1006 : decode cL_law 1006 = .ok (.iaload, 1) := by decide +kernel
theorem dL_law_1007 : decode cL_law 1007 = .ok (.aload_n 0, 1) := by decide +kernel
theorem dL_law_1008 : decode cL_law 1008 = .ok (.iload_n 3, 1) := by decide +kernel
theorem dL_law_1009 : decode cL_law 1009 = .ok (.iconst 2, 1) := by decide +kernel
theorem dL_law_1010 : decode cL_law 1010 = .ok (.iadd, 1) := by decide +kernel
theorem dL_law_1011 : decode cL_law 1011 = .ok (.iaload, 1) := by decide +kernel
theorem dL_law_1012 : decode cL_law 1012 = .ok (.invokevirtual 120, 3) := by decide +kernel
theorem dL_law_1015 : decode cL_law 1015 = .ok (.if_icmp .eq 471, 3) := by decide +kernel
theorem dL_law_1018 : decode cL_law 1018 = .ok (.iconst 0, 1) := by decide +kernel
theorem dL_law_1019 : decode cL_law 1019 = .ok (.ireturn, 1) := by decide +kernel
theorem dL_law_1020 : decode cL_law 1020 = .ok (.aload_n 1, 1) := by decide +kernel
theorem dL_law_1021 : decode cL_law 1021 = .ok (.aload_n 0, 1) := by decide +kernel
theorem dL_law_1022 : decode cL_law 1022 = .ok (.iload_n 3, 1) := by decide +kernel
theorem dL_law_1023 : decode cL_law 1023 = .ok (.iconst 1, 1) := by decide +kernel
theorem dL_law_1024 : decode cL_law 1024 = .ok (.iadd, 1) := by decide +kernel
theorem dL_law_1025 : decode cL_law 1025 = .ok (.iaload, 1) := by decide +kernel
theorem dL_law_1026 : decode cL_law 1026 = .ok (.invokevirtual 121, 3) := by decide +kernel
theorem dL_law_1029 : decode cL_law 1029 = .ok (.aload_n 2, 1) := by decide +kernel
theorem dL_law_1030 : decode cL_law 1030 = .ok (.aload_n 0, 1) := by decide +kernel
theorem dL_law_1031 : decode cL_law 1031 = .ok (.iload_n 3, 1) := by decide +kernel
theorem dL_law_1032 : decode cL_law 1032 = .ok (.iconst 1, 1) := by decide +kernel
theorem dL_law_1033 : decode cL_law 1033 = .ok (.iadd, 1) := by decide +kernel
theorem dL_law_1034 : decode cL_law 1034 = .ok (.iaload, 1) := by decide +kernel
theorem dL_law_1035 : decode cL_law 1035 = .ok (.invokevirtual 124, 3) := by decide +kernel
theorem dL_law_1038 : decode cL_law 1038 = .ok (.if_icmp .eq 448, 3) := by decide +kernel
theorem dL_law_1041 : decode cL_law 1041 = .ok (.iconst 0, 1) := by decide +kernel
theorem dL_law_1042 : decode cL_law 1042 = .ok (.ireturn, 1) := by decide +kernel
theorem dL_law_1043 : decode cL_law 1043 = .ok (.aload_n 1, 1) := by decide +kernel
theorem dL_law_1044 : decode cL_law 1044 = .ok (.invokevirtual 125, 3) := by decide +kernel
theorem dL_law_1047 : decode cL_law 1047 = .ok (.aload_n 2, 1) := by decide +kernel
theorem dL_law_1048 : decode cL_law 1048 = .ok (.invokevirtual 128, 3) := by decide +kernel
theorem dL_law_1051 : decode cL_law 1051 = .ok (.if_icmp .eq 435, 3) := by decide +kernel
theorem dL_law_1054 : decode cL_law 1054 = .ok (.iconst 0, 1) := by decide +kernel
theorem dL_law_1055 : decode cL_law 1055 = .ok (.ireturn, 1) := by decide +kernel
theorem dL_law_1056 : decode cL_law 1056 = .ok (.aload_n 1, 1) := by decide +kernel
theorem dL_law_1057 : decode cL_law 1057 = .ok (.invokevirtual 129, 3) := by decide +kernel
theorem dL_law_1060 : decode cL_law 1060 = .ok (.aload_n 2, 1) := by decide +kernel
theorem dL_law_1061 : decode cL_law 1061 = .ok (.invokevirtual 132, 3) := by decide +kernel
theorem dL_law_1064 : decode cL_law 1064 = .ok (.if_icmp .eq 422, 3) := by decide +kernel
theorem dL_law_1067 : decode cL_law 1067 = .ok (.iconst 0, 1) := by decide +kernel
theorem dL_law_1068 : decode cL_law 1068 = .ok (.ireturn, 1) := by decide +kernel
theorem dL_law_1069 : decode cL_law 1069 = .ok (.aload_n 1, 1) := by decide +kernel
theorem dL_law_1070 : decode cL_law 1070 = .ok (.invokevirtual 133, 3) := by decide +kernel
theorem dL_law_1073 : decode cL_law 1073 = .ok (.aload_n 2, 1) := by decide +kernel
theorem dL_law_1074 : decode cL_law 1074 = .ok (.invokevirtual 136, 3) := by decide +kernel
theorem dL_law_1077 : decode cL_law 1077 = .ok (.if_icmp .eq 409, 3) := by decide +kernel
theorem dL_law_1080 : decode cL_law 1080 = .ok (.iconst 0, 1) := by decide +kernel
theorem dL_law_1081 : decode cL_law 1081 = .ok (.ireturn, 1) := by decide +kernel
theorem dL_law_1082 : decode cL_law 1082 = .ok (.aload_n 1, 1) := by decide +kernel
theorem dL_law_1083 : decode cL_law 1083 = .ok (.invokevirtual 137, 3) := by decide +kernel
theorem dL_law_1086 : decode cL_law 1086 = .ok (.aload_n 2, 1) := by decide +kernel
theorem dL_law_1087 : decode cL_law 1087 = .ok (.invokevirtual 140, 3) := by decide +kernel
theorem dL_law_1090 : decode cL_law 1090 = .ok (.if_icmp .eq 396, 3) := by decide +kernel
theorem dL_law_1093 : decode cL_law 1093 = .ok (.iconst 0, 1) := by decide +kernel
theorem dL_law_1094 : decode cL_law 1094 = .ok (.ireturn, 1) := by decide +kernel
theorem dL_law_1095 : decode cL_law 1095 = .ok (.aload_n 1, 1) := by decide +kernel
theorem dL_law_1096 : decode cL_law 1096 = .ok (.aload_n 0, 1) := by decide +kernel
theorem dL_law_1097 : decode cL_law 1097 = .ok (.iload_n 3, 1) := by decide +kernel
theorem dL_law_1098 : decode cL_law 1098 = .ok (.iconst 1, 1) := by decide +kernel
theorem dL_law_1099 : decode cL_law 1099 = .ok (.iadd, 1) := by decide +kernel
theorem dL_law_1100 : decode cL_law 1100 = .ok (.iaload, 1) := by decide +kernel
theorem dL_law_1101 : decode cL_law 1101 = .ok (.invokevirtual 141, 3) := by decide +kernel
theorem dL_law_1104 : decode cL_law 1104 = .ok (.aload_n 2, 1) := by decide +kernel
theorem dL_law_1105 : decode cL_law 1105 = .ok (.aload_n 0, 1) := by decide +kernel
theorem dL_law_1106 : decode cL_law 1106 = .ok (.iload_n 3, 1) := by decide +kernel
theorem dL_law_1107 : decode cL_law 1107 = .ok (.iconst 1, 1) := by decide +kernel
theorem dL_law_1108 : decode cL_law 1108 = .ok (.iadd, 1) := by decide +kernel
theorem dL_law_1109 : decode cL_law 1109 = .ok (.iaload, 1) := by decide +kernel
theorem dL_law_1110 : decode cL_law 1110 = .ok (.invokevirtual 144, 3) := by decide +kernel
theorem dL_law_1113 : decode cL_law 1113 = .ok (.if_icmp .eq 373, 3) := by decide +kernel
theorem dL_law_1116 : decode cL_law 1116 = .ok (.iconst 0, 1) := by decide +kernel
theorem dL_law_1117 : decode cL_law 1117 = .ok (.ireturn, 1) := by decide +kernel
theorem dL_law_1118 : decode cL_law 1118 = .ok (.aload_n 1, 1) := by decide +kernel
theorem dL_law_1119 : decode cL_law 1119 = .ok (.aload_n 0, 1) := by decide +kernel
theorem dL_law_1120 : decode cL_law 1120 = .ok (.iload_n 3, 1) := by decide +kernel
theorem dL_law_1121 : decode cL_law 1121 = .ok (.iconst 1, 1) := by decide +kernel
theorem dL_law_1122 : decode cL_law 1122 = .ok (.iadd, 1) := by decide +kernel
theorem dL_law_1123 : decode cL_law 1123 = .ok (.iaload, 1) := by decide +kernel
theorem dL_law_1124 : decode cL_law 1124 = .ok (.aload_n 0, 1) := by decide +kernel
theorem dL_law_1125 : decode cL_law 1125 = .ok (.iload_n 3, 1) := by decide +kernel
theorem dL_law_1126 : decode cL_law 1126 = .ok (.iconst 2, 1) := by decide +kernel
theorem dL_law_1127 : decode cL_law 1127 = .ok (.iadd, 1) := by decide +kernel
theorem dL_law_1128 : decode cL_law 1128 = .ok (.iaload, 1) := by decide +kernel
theorem dL_law_1129 : decode cL_law 1129 = .ok (.aload_n 0, 1) := by decide +kernel
theorem dL_law_1130 : decode cL_law 1130 = .ok (.iload_n 3, 1) := by decide +kernel
theorem dL_law_1131 : decode cL_law 1131 = .ok (.iconst 3, 1) := by decide +kernel
theorem dL_law_1132 : decode cL_law 1132 = .ok (.iadd, 1) := by decide +kernel
theorem dL_law_1133 : decode cL_law 1133 = .ok (.iaload, 1) := by decide +kernel
theorem dL_law_1134 : decode cL_law 1134 = .ok (.invokevirtual 145, 3) := by decide +kernel
theorem dL_law_1137 : decode cL_law 1137 = .ok (.aload_n 2, 1) := by decide +kernel
theorem dL_law_1138 : decode cL_law 1138 = .ok (.aload_n 0, 1) := by decide +kernel
theorem dL_law_1139 : decode cL_law 1139 = .ok (.iload_n 3, 1) := by decide +kernel
theorem dL_law_1140 : decode cL_law 1140 = .ok (.iconst 1, 1) := by decide +kernel
theorem dL_law_1141 : decode cL_law 1141 = .ok (.iadd, 1) := by decide +kernel
theorem dL_law_1142 : decode cL_law 1142 = .ok (.iaload, 1) := by decide +kernel
theorem dL_law_1143 : decode cL_law 1143 = .ok (.aload_n 0, 1) := by decide +kernel
theorem dL_law_1144 : decode cL_law 1144 = .ok (.iload_n 3, 1) := by decide +kernel
theorem dL_law_1145 : decode cL_law 1145 = .ok (.iconst 2, 1) := by decide +kernel
theorem dL_law_1146 : decode cL_law 1146 = .ok (.iadd, 1) := by decide +kernel
theorem dL_law_1147 : decode cL_law 1147 = .ok (.iaload, 1) := by decide +kernel
theorem dL_law_1148 : decode cL_law 1148 = .ok (.aload_n 0, 1) := by decide +kernel
theorem dL_law_1149 : decode cL_law 1149 = .ok (.iload_n 3, 1) := by decide +kernel
theorem dL_law_1150 : decode cL_law 1150 = .ok (.iconst 3, 1) := by decide +kernel
theorem dL_law_1151 : decode cL_law 1151 = .ok (.iadd, 1) := by decide +kernel
theorem dL_law_1152 : decode cL_law 1152 = .ok (.iaload, 1) := by decide +kernel
theorem dL_law_1153 : decode cL_law 1153 = .ok (.invokevirtual 148, 3) := by decide +kernel
theorem dL_law_1156 : decode cL_law 1156 = .ok (.if_icmp .eq 330, 3) := by decide +kernel
theorem dL_law_1159 : decode cL_law 1159 = .ok (.iconst 0, 1) := by decide +kernel
theorem dL_law_1160 : decode cL_law 1160 = .ok (.ireturn, 1) := by decide +kernel
theorem dL_law_1161 : decode cL_law 1161 = .ok (.aload_n 1, 1) := by decide +kernel
theorem dL_law_1162 : decode cL_law 1162 = .ok (.aload_n 0, 1) := by decide +kernel
theorem dL_law_1163 : decode cL_law 1163 = .ok (.iload_n 3, 1) := by decide +kernel
theorem dL_law_1164 : decode cL_law 1164 = .ok (.iconst 1, 1) := by decide +kernel
theorem dL_law_1165 : decode cL_law 1165 = .ok (.iadd, 1) := by decide +kernel
theorem dL_law_1166 : decode cL_law 1166 = .ok (.iaload, 1) := by decide +kernel
theorem dL_law_1167 : decode cL_law 1167 = .ok (.invokevirtual 149, 3) := by decide +kernel
theorem dL_law_1170 : decode cL_law 1170 = .ok (.aload_n 2, 1) := by decide +kernel
theorem dL_law_1171 : decode cL_law 1171 = .ok (.aload_n 0, 1) := by decide +kernel
theorem dL_law_1172 : decode cL_law 1172 = .ok (.iload_n 3, 1) := by decide +kernel
theorem dL_law_1173 : decode cL_law 1173 = .ok (.iconst 1, 1) := by decide +kernel
theorem dL_law_1174 : decode cL_law 1174 = .ok (.iadd, 1) := by decide +kernel
theorem dL_law_1175 : decode cL_law 1175 = .ok (.iaload, 1) := by decide +kernel
theorem dL_law_1176 : decode cL_law 1176 = .ok (.invokevirtual 152, 3) := by decide +kernel
theorem dL_law_1179 : decode cL_law 1179 = .ok (.if_icmp .eq 307, 3) := by decide +kernel
theorem dL_law_1182 : decode cL_law 1182 = .ok (.iconst 0, 1) := by decide +kernel
theorem dL_law_1183 : decode cL_law 1183 = .ok (.ireturn, 1) := by decide +kernel
theorem dL_law_1184 : decode cL_law 1184 = .ok (.aload_n 1, 1) := by decide +kernel
theorem dL_law_1185 : decode cL_law 1185 = .ok (.aload_n 0, 1) := by decide +kernel
theorem dL_law_1186 : decode cL_law 1186 = .ok (.iload_n 3, 1) := by decide +kernel
theorem dL_law_1187 : decode cL_law 1187 = .ok (.iconst 1, 1) := by decide +kernel
theorem dL_law_1188 : decode cL_law 1188 = .ok (.iadd, 1) := by decide +kernel
theorem dL_law_1189 : decode cL_law 1189 = .ok (.iaload, 1) := by decide +kernel
theorem dL_law_1190 : decode cL_law 1190 = .ok (.aload_n 0, 1) := by decide +kernel
theorem dL_law_1191 : decode cL_law 1191 = .ok (.iload_n 3, 1) := by decide +kernel
theorem dL_law_1192 : decode cL_law 1192 = .ok (.iconst 2, 1) := by decide +kernel
theorem dL_law_1193 : decode cL_law 1193 = .ok (.iadd, 1) := by decide +kernel
theorem dL_law_1194 : decode cL_law 1194 = .ok (.iaload, 1) := by decide +kernel
theorem dL_law_1195 : decode cL_law 1195 = .ok (.invokevirtual 153, 3) := by decide +kernel
theorem dL_law_1198 : decode cL_law 1198 = .ok (.aload_n 2, 1) := by decide +kernel
theorem dL_law_1199 : decode cL_law 1199 = .ok (.aload_n 0, 1) := by decide +kernel
theorem dL_law_1200 : decode cL_law 1200 = .ok (.iload_n 3, 1) := by decide +kernel
theorem dL_law_1201 : decode cL_law 1201 = .ok (.iconst 1, 1) := by decide +kernel
theorem dL_law_1202 : decode cL_law 1202 = .ok (.iadd, 1) := by decide +kernel
theorem dL_law_1203 : decode cL_law 1203 = .ok (.iaload, 1) := by decide +kernel
theorem dL_law_1204 : decode cL_law 1204 = .ok (.aload_n 0, 1) := by decide +kernel
theorem dL_law_1205 : decode cL_law 1205 = .ok (.iload_n 3, 1) := by decide +kernel
theorem dL_law_1206 : decode cL_law 1206 = .ok (.iconst 2, 1) := by decide +kernel
theorem dL_law_1207 : decode cL_law 1207 = .ok (.iadd, 1) := by decide +kernel
theorem dL_law_1208 : decode cL_law 1208 = .ok (.iaload, 1) := by decide +kernel
theorem dL_law_1209 : decode cL_law 1209 = .ok (.invokevirtual 156, 3) := by decide +kernel
theorem dL_law_1212 : decode cL_law 1212 = .ok (.if_icmp .eq 274, 3) := by decide +kernel
theorem dL_law_1215 : decode cL_law 1215 = .ok (.iconst 0, 1) := by decide +kernel
theorem dL_law_1216 : decode cL_law 1216 = .ok (.ireturn, 1) := by decide +kernel
theorem dL_law_1217 : decode cL_law 1217 = .ok (.aload_n 1, 1) := by decide +kernel
theorem dL_law_1218 : decode cL_law 1218 = .ok (.aload_n 0, 1) := by decide +kernel
theorem dL_law_1219 : decode cL_law 1219 = .ok (.iload_n 3, 1) := by decide +kernel
theorem dL_law_1220 : decode cL_law 1220 = .ok (.iconst 1, 1) := by decide +kernel
theorem dL_law_1221 : decode cL_law 1221 = .ok (.iadd, 1) := by decide +kernel
theorem dL_law_1222 : decode cL_law 1222 = .ok (.iaload, 1) := by decide +kernel
theorem dL_law_1223 : decode cL_law 1223 = .ok (.aload_n 0, 1) := by decide +kernel
theorem dL_law_1224 : decode cL_law 1224 = .ok (.iload_n 3, 1) := by decide +kernel
theorem dL_law_1225 : decode cL_law 1225 = .ok (.iconst 2, 1) := by decide +kernel
theorem dL_law_1226 : decode cL_law 1226 = .ok (.iadd, 1) := by decide +kernel
theorem dL_law_1227 : decode cL_law 1227 = .ok (.iaload, 1) := by decide +kernel
theorem dL_law_1228 : decode cL_law 1228 = .ok (.aload_n 0, 1) := by decide +kernel
theorem dL_law_1229 : decode cL_law 1229 = .ok (.iload_n 3, 1) := by decide +kernel
theorem dL_law_1230 : decode cL_law 1230 = .ok (.iconst 3, 1) := by decide +kernel
theorem dL_law_1231 : decode cL_law 1231 = .ok (.iadd, 1) := by decide +kernel
theorem dL_law_1232 : decode cL_law 1232 = .ok (.iaload, 1) := by decide +kernel
theorem dL_law_1233 : decode cL_law 1233 = .ok (.invokevirtual 157, 3) := by decide +kernel
theorem dL_law_1236 : decode cL_law 1236 = .ok (.aload_n 2, 1) := by decide +kernel
theorem dL_law_1237 : decode cL_law 1237 = .ok (.aload_n 0, 1) := by decide +kernel
theorem dL_law_1238 : decode cL_law 1238 = .ok (.iload_n 3, 1) := by decide +kernel
theorem dL_law_1239 : decode cL_law 1239 = .ok (.iconst 1, 1) := by decide +kernel
theorem dL_law_1240 : decode cL_law 1240 = .ok (.iadd, 1) := by decide +kernel
theorem dL_law_1241 : decode cL_law 1241 = .ok (.iaload, 1) := by decide +kernel
theorem dL_law_1242 : decode cL_law 1242 = .ok (.aload_n 0, 1) := by decide +kernel
theorem dL_law_1243 : decode cL_law 1243 = .ok (.iload_n 3, 1) := by decide +kernel
theorem dL_law_1244 : decode cL_law 1244 = .ok (.iconst 2, 1) := by decide +kernel
theorem dL_law_1245 : decode cL_law 1245 = .ok (.iadd, 1) := by decide +kernel
theorem dL_law_1246 : decode cL_law 1246 = .ok (.iaload, 1) := by decide +kernel
theorem dL_law_1247 : decode cL_law 1247 = .ok (.aload_n 0, 1) := by decide +kernel
theorem dL_law_1248 : decode cL_law 1248 = .ok (.iload_n 3, 1) := by decide +kernel
theorem dL_law_1249 : decode cL_law 1249 = .ok (.iconst 3, 1) := by decide +kernel
theorem dL_law_1250 : decode cL_law 1250 = .ok (.iadd, 1) := by decide +kernel
theorem dL_law_1251 : decode cL_law 1251 = .ok (.iaload, 1) := by decide +kernel
theorem dL_law_1252 : decode cL_law 1252 = .ok (.invokevirtual 160, 3) := by decide +kernel
theorem dL_law_1255 : decode cL_law 1255 = .ok (.if_icmp .eq 231, 3) := by decide +kernel
theorem dL_law_1258 : decode cL_law 1258 = .ok (.iconst 0, 1) := by decide +kernel
theorem dL_law_1259 : decode cL_law 1259 = .ok (.ireturn, 1) := by decide +kernel
theorem dL_law_1260 : decode cL_law 1260 = .ok (.aload_n 1, 1) := by decide +kernel
theorem dL_law_1261 : decode cL_law 1261 = .ok (.aload_n 0, 1) := by decide +kernel
theorem dL_law_1262 : decode cL_law 1262 = .ok (.iload_n 3, 1) := by decide +kernel
theorem dL_law_1263 : decode cL_law 1263 = .ok (.iconst 1, 1) := by decide +kernel
theorem dL_law_1264 : decode cL_law 1264 = .ok (.iadd, 1) := by decide +kernel
theorem dL_law_1265 : decode cL_law 1265 = .ok (.iaload, 1) := by decide +kernel
theorem dL_law_1266 : decode cL_law 1266 = .ok (.aload_n 0, 1) := by decide +kernel
theorem dL_law_1267 : decode cL_law 1267 = .ok (.iload_n 3, 1) := by decide +kernel
theorem dL_law_1268 : decode cL_law 1268 = .ok (.iconst 2, 1) := by decide +kernel
theorem dL_law_1269 : decode cL_law 1269 = .ok (.iadd, 1) := by decide +kernel
theorem dL_law_1270 : decode cL_law 1270 = .ok (.iaload, 1) := by decide +kernel
theorem dL_law_1271 : decode cL_law 1271 = .ok (.aload_n 0, 1) := by decide +kernel
theorem dL_law_1272 : decode cL_law 1272 = .ok (.iload_n 3, 1) := by decide +kernel
theorem dL_law_1273 : decode cL_law 1273 = .ok (.iconst 3, 1) := by decide +kernel
theorem dL_law_1274 : decode cL_law 1274 = .ok (.iadd, 1) := by decide +kernel
theorem dL_law_1275 : decode cL_law 1275 = .ok (.iaload, 1) := by decide +kernel
theorem dL_law_1276 : decode cL_law 1276 = .ok (.i2l, 1) := by decide +kernel
theorem dL_law_1277 : decode cL_law 1277 = .ok (.bipush 32, 2) := by decide +kernel
theorem dL_law_1279 : decode cL_law 1279 = .ok (.lshl, 1) := by decide +kernel
theorem dL_law_1280 : decode cL_law 1280 = .ok (.aload_n 0, 1) := by decide +kernel
theorem dL_law_1281 : decode cL_law 1281 = .ok (.iload_n 3, 1) := by decide +kernel
theorem dL_law_1282 : decode cL_law 1282 = .ok (.iconst 4, 1) := by decide +kernel
theorem dL_law_1283 : decode cL_law 1283 = .ok (.iadd, 1) := by decide +kernel
theorem dL_law_1284 : decode cL_law 1284 = .ok (.iaload, 1) := by decide +kernel
theorem dL_law_1285 : decode cL_law 1285 = .ok (.i2l, 1) := by decide +kernel
theorem dL_law_1286 : decode cL_law 1286 = .ok (.ldc2_w 161, 3) := by decide +kernel
theorem dL_law_1289 : decode cL_law 1289 = .ok (.land, 1) := by decide +kernel
theorem dL_law_1290 : decode cL_law 1290 = .ok (.lor, 1) := by decide +kernel
theorem dL_law_1291 : decode cL_law 1291 = .ok (.invokevirtual 163, 3) := by decide +kernel
theorem dL_law_1294 : decode cL_law 1294 = .ok (.aload_n 2, 1) := by decide +kernel
theorem dL_law_1295 : decode cL_law 1295 = .ok (.aload_n 0, 1) := by decide +kernel
theorem dL_law_1296 : decode cL_law 1296 = .ok (.iload_n 3, 1) := by decide +kernel
theorem dL_law_1297 : decode cL_law 1297 = .ok (.iconst 1, 1) := by decide +kernel
theorem dL_law_1298 : decode cL_law 1298 = .ok (.iadd, 1) := by decide +kernel
theorem dL_law_1299 : decode cL_law 1299 = .ok (.iaload, 1) := by decide +kernel
theorem dL_law_1300 : decode cL_law 1300 = .ok (.aload_n 0, 1) := by decide +kernel
theorem dL_law_1301 : decode cL_law 1301 = .ok (.iload_n 3, 1) := by decide +kernel
theorem dL_law_1302 : decode cL_law 1302 = .ok (.iconst 2, 1) := by decide +kernel
theorem dL_law_1303 : decode cL_law 1303 = .ok (.iadd, 1) := by decide +kernel
theorem dL_law_1304 : decode cL_law 1304 = .ok (.iaload, 1) := by decide +kernel
theorem dL_law_1305 : decode cL_law 1305 = .ok (.aload_n 0, 1) := by decide +kernel
theorem dL_law_1306 : decode cL_law 1306 = .ok (.iload_n 3, 1) := by decide +kernel
theorem dL_law_1307 : decode cL_law 1307 = .ok (.iconst 3, 1) := by decide +kernel
theorem dL_law_1308 : decode cL_law 1308 = .ok (.iadd, 1) := by decide +kernel
theorem dL_law_1309 : decode cL_law 1309 = .ok (.iaload, 1) := by decide +kernel
theorem dL_law_1310 : decode cL_law 1310 = .ok (.i2l, 1) := by decide +kernel
theorem dL_law_1311 : decode cL_law 1311 = .ok (.bipush 32, 2) := by decide +kernel
theorem dL_law_1313 : decode cL_law 1313 = .ok (.lshl, 1) := by decide +kernel
theorem dL_law_1314 : decode cL_law 1314 = .ok (.aload_n 0, 1) := by decide +kernel
theorem dL_law_1315 : decode cL_law 1315 = .ok (.iload_n 3, 1) := by decide +kernel
theorem dL_law_1316 : decode cL_law 1316 = .ok (.iconst 4, 1) := by decide +kernel
theorem dL_law_1317 : decode cL_law 1317 = .ok (.iadd, 1) := by decide +kernel
theorem dL_law_1318 : decode cL_law 1318 = .ok (.iaload, 1) := by decide +kernel
theorem dL_law_1319 : decode cL_law 1319 = .ok (.i2l, 1) := by decide +kernel
theorem dL_law_1320 : decode cL_law 1320 = .ok (.ldc2_w 161, 3) := by decide +kernel
theorem dL_law_1323 : decode cL_law 1323 = .ok (.land, 1) := by decide +kernel
theorem dL_law_1324 : decode cL_law 1324 = .ok (.lor, 1) := by decide +kernel
theorem dL_law_1325 : decode cL_law 1325 = .ok (.invokevirtual 167, 3) := by decide +kernel
theorem dL_law_1328 : decode cL_law 1328 = .ok (.if_icmp .eq 158, 3) := by decide +kernel
theorem dL_law_1331 : decode cL_law 1331 = .ok (.iconst 0, 1) := by decide +kernel
theorem dL_law_1332 : decode cL_law 1332 = .ok (.ireturn, 1) := by decide +kernel
theorem dL_law_1333 : decode cL_law 1333 = .ok (.aload_n 1, 1) := by decide +kernel
theorem dL_law_1334 : decode cL_law 1334 = .ok (.aload_n 0, 1) := by decide +kernel
theorem dL_law_1335 : decode cL_law 1335 = .ok (.iload_n 3, 1) := by decide +kernel
theorem dL_law_1336 : decode cL_law 1336 = .ok (.iconst 1, 1) := by decide +kernel
theorem dL_law_1337 : decode cL_law 1337 = .ok (.iadd, 1) := by decide +kernel
theorem dL_law_1338 : decode cL_law 1338 = .ok (.iaload, 1) := by decide +kernel
theorem dL_law_1339 : decode cL_law 1339 = .ok (.aload_n 0, 1) := by decide +kernel
theorem dL_law_1340 : decode cL_law 1340 = .ok (.iload_n 3, 1) := by decide +kernel
theorem dL_law_1341 : decode cL_law 1341 = .ok (.iconst 2, 1) := by decide +kernel
theorem dL_law_1342 : decode cL_law 1342 = .ok (.iadd, 1) := by decide +kernel
theorem dL_law_1343 : decode cL_law 1343 = .ok (.iaload, 1) := by decide +kernel
theorem dL_law_1344 : decode cL_law 1344 = .ok (.invokevirtual 168, 3) := by decide +kernel
theorem dL_law_1347 : decode cL_law 1347 = .ok (.aload_n 2, 1) := by decide +kernel
theorem dL_law_1348 : decode cL_law 1348 = .ok (.aload_n 0, 1) := by decide +kernel
theorem dL_law_1349 : decode cL_law 1349 = .ok (.iload_n 3, 1) := by decide +kernel
theorem dL_law_1350 : decode cL_law 1350 = .ok (.iconst 1, 1) := by decide +kernel
theorem dL_law_1351 : decode cL_law 1351 = .ok (.iadd, 1) := by decide +kernel
theorem dL_law_1352 : decode cL_law 1352 = .ok (.iaload, 1) := by decide +kernel
theorem dL_law_1353 : decode cL_law 1353 = .ok (.aload_n 0, 1) := by decide +kernel
theorem dL_law_1354 : decode cL_law 1354 = .ok (.iload_n 3, 1) := by decide +kernel
theorem dL_law_1355 : decode cL_law 1355 = .ok (.iconst 2, 1) := by decide +kernel
theorem dL_law_1356 : decode cL_law 1356 = .ok (.iadd, 1) := by decide +kernel
theorem dL_law_1357 : decode cL_law 1357 = .ok (.iaload, 1) := by decide +kernel
theorem dL_law_1358 : decode cL_law 1358 = .ok (.invokevirtual 172, 3) := by decide +kernel
theorem dL_law_1361 : decode cL_law 1361 = .ok (.lcmp, 1) := by decide +kernel
theorem dL_law_1362 : decode cL_law 1362 = .ok (.ifCond .eq 124, 3) := by decide +kernel
theorem dL_law_1365 : decode cL_law 1365 = .ok (.iconst 0, 1) := by decide +kernel
theorem dL_law_1366 : decode cL_law 1366 = .ok (.ireturn, 1) := by decide +kernel
theorem dL_law_1367 : decode cL_law 1367 = .ok (.aload_n 1, 1) := by decide +kernel
theorem dL_law_1368 : decode cL_law 1368 = .ok (.aload_n 0, 1) := by decide +kernel
theorem dL_law_1369 : decode cL_law 1369 = .ok (.iload_n 3, 1) := by decide +kernel
theorem dL_law_1370 : decode cL_law 1370 = .ok (.iconst 1, 1) := by decide +kernel
theorem dL_law_1371 : decode cL_law 1371 = .ok (.iadd, 1) := by decide +kernel
theorem dL_law_1372 : decode cL_law 1372 = .ok (.iaload, 1) := by decide +kernel
theorem dL_law_1373 : decode cL_law 1373 = .ok (.aload_n 0, 1) := by decide +kernel
theorem dL_law_1374 : decode cL_law 1374 = .ok (.iload_n 3, 1) := by decide +kernel
theorem dL_law_1375 : decode cL_law 1375 = .ok (.iconst 2, 1) := by decide +kernel
theorem dL_law_1376 : decode cL_law 1376 = .ok (.iadd, 1) := by decide +kernel
theorem dL_law_1377 : decode cL_law 1377 = .ok (.iaload, 1) := by decide +kernel
theorem dL_law_1378 : decode cL_law 1378 = .ok (.aload_n 0, 1) := by decide +kernel
theorem dL_law_1379 : decode cL_law 1379 = .ok (.iload_n 3, 1) := by decide +kernel
theorem dL_law_1380 : decode cL_law 1380 = .ok (.iconst 3, 1) := by decide +kernel
theorem dL_law_1381 : decode cL_law 1381 = .ok (.iadd, 1) := by decide +kernel
theorem dL_law_1382 : decode cL_law 1382 = .ok (.iaload, 1) := by decide +kernel
theorem dL_law_1383 : decode cL_law 1383 = .ok (.aload_n 0, 1) := by decide +kernel
theorem dL_law_1384 : decode cL_law 1384 = .ok (.iload_n 3, 1) := by decide +kernel
theorem dL_law_1385 : decode cL_law 1385 = .ok (.iconst 4, 1) := by decide +kernel
theorem dL_law_1386 : decode cL_law 1386 = .ok (.iadd, 1) := by decide +kernel
theorem dL_law_1387 : decode cL_law 1387 = .ok (.iaload, 1) := by decide +kernel
theorem dL_law_1388 : decode cL_law 1388 = .ok (.aload_n 0, 1) := by decide +kernel
theorem dL_law_1389 : decode cL_law 1389 = .ok (.iload_n 3, 1) := by decide +kernel
theorem dL_law_1390 : decode cL_law 1390 = .ok (.iconst 5, 1) := by decide +kernel
theorem dL_law_1391 : decode cL_law 1391 = .ok (.iadd, 1) := by decide +kernel
theorem dL_law_1392 : decode cL_law 1392 = .ok (.iaload, 1) := by decide +kernel
theorem dL_law_1393 : decode cL_law 1393 = .ok (.invokevirtual 173, 3) := by decide +kernel
theorem dL_law_1396 : decode cL_law 1396 = .ok (.aload_n 2, 1) := by decide +kernel
theorem dL_law_1397 : decode cL_law 1397 = .ok (.aload_n 0, 1) := by decide +kernel
theorem dL_law_1398 : decode cL_law 1398 = .ok (.iload_n 3, 1) := by decide +kernel
theorem dL_law_1399 : decode cL_law 1399 = .ok (.iconst 1, 1) := by decide +kernel
theorem dL_law_1400 : decode cL_law 1400 = .ok (.iadd, 1) := by decide +kernel
theorem dL_law_1401 : decode cL_law 1401 = .ok (.iaload, 1) := by decide +kernel
theorem dL_law_1402 : decode cL_law 1402 = .ok (.aload_n 0, 1) := by decide +kernel
theorem dL_law_1403 : decode cL_law 1403 = .ok (.iload_n 3, 1) := by decide +kernel
theorem dL_law_1404 : decode cL_law 1404 = .ok (.iconst 2, 1) := by decide +kernel
theorem dL_law_1405 : decode cL_law 1405 = .ok (.iadd, 1) := by decide +kernel
theorem dL_law_1406 : decode cL_law 1406 = .ok (.iaload, 1) := by decide +kernel
theorem dL_law_1407 : decode cL_law 1407 = .ok (.aload_n 0, 1) := by decide +kernel
theorem dL_law_1408 : decode cL_law 1408 = .ok (.iload_n 3, 1) := by decide +kernel
theorem dL_law_1409 : decode cL_law 1409 = .ok (.iconst 3, 1) := by decide +kernel
theorem dL_law_1410 : decode cL_law 1410 = .ok (.iadd, 1) := by decide +kernel
theorem dL_law_1411 : decode cL_law 1411 = .ok (.iaload, 1) := by decide +kernel
theorem dL_law_1412 : decode cL_law 1412 = .ok (.aload_n 0, 1) := by decide +kernel
theorem dL_law_1413 : decode cL_law 1413 = .ok (.iload_n 3, 1) := by decide +kernel
theorem dL_law_1414 : decode cL_law 1414 = .ok (.iconst 4, 1) := by decide +kernel
theorem dL_law_1415 : decode cL_law 1415 = .ok (.iadd, 1) := by decide +kernel
theorem dL_law_1416 : decode cL_law 1416 = .ok (.iaload, 1) := by decide +kernel
theorem dL_law_1417 : decode cL_law 1417 = .ok (.aload_n 0, 1) := by decide +kernel
theorem dL_law_1418 : decode cL_law 1418 = .ok (.iload_n 3, 1) := by decide +kernel
theorem dL_law_1419 : decode cL_law 1419 = .ok (.iconst 5, 1) := by decide +kernel
theorem dL_law_1420 : decode cL_law 1420 = .ok (.iadd, 1) := by decide +kernel
theorem dL_law_1421 : decode cL_law 1421 = .ok (.iaload, 1) := by decide +kernel
theorem dL_law_1422 : decode cL_law 1422 = .ok (.invokevirtual 177, 3) := by decide +kernel
theorem dL_law_1425 : decode cL_law 1425 = .ok (.if_icmp .eq 61, 3) := by decide +kernel
theorem dL_law_1428 : decode cL_law 1428 = .ok (.iconst 0, 1) := by decide +kernel
theorem dL_law_1429 : decode cL_law 1429 = .ok (.ireturn, 1) := by decide +kernel
theorem dL_law_1430 : decode cL_law 1430 = .ok (.aload_n 1, 1) := by decide +kernel
theorem dL_law_1431 : decode cL_law 1431 = .ok (.aload_n 0, 1) := by decide +kernel
theorem dL_law_1432 : decode cL_law 1432 = .ok (.iload_n 3, 1) := by decide +kernel
theorem dL_law_1433 : decode cL_law 1433 = .ok (.iconst 1, 1) := by decide +kernel
theorem dL_law_1434 : decode cL_law 1434 = .ok (.iadd, 1) := by decide +kernel
theorem dL_law_1435 : decode cL_law 1435 = .ok (.iaload, 1) := by decide +kernel
theorem dL_law_1436 : decode cL_law 1436 = .ok (.aload_n 0, 1) := by decide +kernel
theorem dL_law_1437 : decode cL_law 1437 = .ok (.iload_n 3, 1) := by decide +kernel
theorem dL_law_1438 : decode cL_law 1438 = .ok (.iconst 2, 1) := by decide +kernel
theorem dL_law_1439 : decode cL_law 1439 = .ok (.iadd, 1) := by decide +kernel
theorem dL_law_1440 : decode cL_law 1440 = .ok (.iaload, 1) := by decide +kernel
theorem dL_law_1441 : decode cL_law 1441 = .ok (.invokevirtual 178, 3) := by decide +kernel
theorem dL_law_1444 : decode cL_law 1444 = .ok (.aload_n 2, 1) := by decide +kernel
theorem dL_law_1445 : decode cL_law 1445 = .ok (.aload_n 0, 1) := by decide +kernel
theorem dL_law_1446 : decode cL_law 1446 = .ok (.iload_n 3, 1) := by decide +kernel
theorem dL_law_1447 : decode cL_law 1447 = .ok (.iconst 1, 1) := by decide +kernel
theorem dL_law_1448 : decode cL_law 1448 = .ok (.iadd, 1) := by decide +kernel
theorem dL_law_1449 : decode cL_law 1449 = .ok (.iaload, 1) := by decide +kernel
theorem dL_law_1450 : decode cL_law 1450 = .ok (.aload_n 0, 1) := by decide +kernel
theorem dL_law_1451 : decode cL_law 1451 = .ok (.iload_n 3, 1) := by decide +kernel
theorem dL_law_1452 : decode cL_law 1452 = .ok (.iconst 2, 1) := by decide +kernel
theorem dL_law_1453 : decode cL_law 1453 = .ok (.iadd, 1) := by decide +kernel
theorem dL_law_1454 : decode cL_law 1454 = .ok (.iaload, 1) := by decide +kernel
theorem dL_law_1455 : decode cL_law 1455 = .ok (.invokevirtual 181, 3) := by decide +kernel
theorem dL_law_1458 : decode cL_law 1458 = .ok (.if_icmp .eq 28, 3) := by decide +kernel
theorem dL_law_1461 : decode cL_law 1461 = .ok (.iconst 0, 1) := by decide +kernel
theorem dL_law_1462 : decode cL_law 1462 = .ok (.ireturn, 1) := by decide +kernel
theorem dL_law_1463 : decode cL_law 1463 = .ok (.aload_n 1, 1) := by decide +kernel
theorem dL_law_1464 : decode cL_law 1464 = .ok (.aload_n 0, 1) := by decide +kernel
theorem dL_law_1465 : decode cL_law 1465 = .ok (.iload_n 3, 1) := by decide +kernel
theorem dL_law_1466 : decode cL_law 1466 = .ok (.iconst 1, 1) := by decide +kernel
theorem dL_law_1467 : decode cL_law 1467 = .ok (.iadd, 1) := by decide +kernel
theorem dL_law_1468 : decode cL_law 1468 = .ok (.iaload, 1) := by decide +kernel
theorem dL_law_1469 : decode cL_law 1469 = .ok (.invokevirtual 182, 3) := by decide +kernel
theorem dL_law_1472 : decode cL_law 1472 = .ok (.aload_n 2, 1) := by decide +kernel
theorem dL_law_1473 : decode cL_law 1473 = .ok (.aload_n 0, 1) := by decide +kernel
theorem dL_law_1474 : decode cL_law 1474 = .ok (.iload_n 3, 1) := by decide +kernel
theorem dL_law_1475 : decode cL_law 1475 = .ok (.iconst 1, 1) := by decide +kernel
theorem dL_law_1476 : decode cL_law 1476 = .ok (.iadd, 1) := by decide +kernel
theorem dL_law_1477 : decode cL_law 1477 = .ok (.iaload, 1) := by decide +kernel
theorem dL_law_1478 : decode cL_law 1478 = .ok (.invokevirtual 185, 3) := by decide +kernel
theorem dL_law_1481 : decode cL_law 1481 = .ok (.if_icmp .eq 5, 3) := by decide +kernel
theorem dL_law_1484 : decode cL_law 1484 = .ok (.iconst 0, 1) := by decide +kernel
theorem dL_law_1485 : decode cL_law 1485 = .ok (.ireturn, 1) := by decide +kernel
theorem dL_law_1486 : decode cL_law 1486 = .ok (.iinc 3 6, 3) := by decide +kernel
theorem dL_law_1489 : decode cL_law 1489 = .ok (.goto (-1471), 3) := by decide +kernel
theorem dL_law_1492 : decode cL_law 1492 = .ok (.iconst 1, 1) := by decide +kernel
theorem dL_law_1493 : decode cL_law 1493 = .ok (.ireturn, 1) := by decide +kernel
end
section
/-! ===== the fixed layout of cells, abstract heaps ===== -/
abbrev AH : Type := (Nat → Nat → Int32) × (Nat → Nat → Int64)
def LY : List (Nat × Nat) := [(9, 12), (7, 12), (20, 9), (20, 9), (20, 9), (20, 9), (20, 9), (20, 9), (20, 13), (20, 13), (20, 13), (7, 12), (20, 9), (20, 9), (20, 9), (20, 9), (20, 9), (20, 9), (20, 13), (20, 13), (20, 13), (20, 120), (4, 9), (20, 121), (20, 120), (3, 4), (20, 121), (20, 121), (6, 7), (20, 9), (8, 4), (20, 100), (20, 5), (2, 7), (20, 9), (20, 9), (20, 9), (20, 5), (0, 6), (20, 40), (20, 40), (20, 40), (20, 40), (1, 4), (20, 50), (20, 24), (23, 6), (5, 5), (5, 5), (5, 5), (5, 5), (5, 5), (5, 5), (21, 60), (21, 60), (21, 60), (21, 60), (21, 60), (21, 60), (10, 46), (20, 94), (20, 188), (20, 40), (20, 40), (20, 40), (20, 9), (20, 9), (20, 120), (20, 120), (20, 120), (20, 6), (22, 6), (20, 9), (20, 9), (20, 9), (20, 6), (20, 6), (21, 360), (21, 60), (20, 5), (20, 94), (20, 5), (20, 8), (20, 32), (20, 50), (20, 24)]
def RF : List (List Nat) := [[1, 21, 0, 22, 25, 28, 30, 32, 33, 38, 43, 46], [2, 3, 4, 5, 6, 7, 8, 9, 10, 0, 0, 0], [], [], [], [], [], [], [], [], [], [12, 13, 14, 15, 16, 17, 18, 19, 20, 0, 0, 0], [], [], [], [], [], [], [], [], [], [], [23, 0, 24, 0, 0, 0, 0, 0, 0], [], [], [26, 0, 27, 0], [], [], [1, 25, 11, 29, 0, 0, 0], [], [28, 0, 0, 31], [], [], [34, 35, 36, 37, 0, 0, 0], [], [], [], [], [39, 40, 41, 42, 0, 0], [], [], [], [], [44, 0, 45, 0], [], [], [47, 48, 49, 50, 51, 52], [0, 0, 0, 0, 53], [0, 0, 0, 0, 54], [0, 0, 0, 0, 55], [0, 0, 0, 0, 56], [0, 0, 0, 0, 57], [0, 0, 0, 0, 58], [], [], [], [], [], [], [60, 61, 0, 0, 62, 63, 64, 0, 0, 65, 66, 67, 0, 68, 0, 0, 69, 0, 0, 0, 0, 70, 71, 0, 0, 0, 72, 73, 74, 0, 75, 76, 77, 78, 0, 79, 80, 81, 0, 0, 82, 83, 84, 0, 85, 0], [], [], [], [], [], [], [], [], [], [], [], [], [], [], [], [], [], [], [], [], [], [], [], [], [], []]
def RK : List (List Bool) := [[true, true, true, true, false, false], [true, false, true, false], [true, true, true, true, false, false, false], [true, false, true, false], [true, false, true, false, false, false, false, false, false], [false, false, false, false, true], [true, true, true, true, false, false, false], [true, true, true, true, true, true, true, true, true, false, false, false], [true, false, false, true], [true, true, false, true, true, true, true, true, true, true, true, true], [true, true, false, false, true, true, true, false, false, true, true, true, false, true, false, false, true, false, false, false, false, true, true, false, false, false, true, true, true, false, true, true, true, true, false, true, true, true, false, false, true, true, true, false, true, false]]
def STL : List (List Int32) := [[0, 0, 0, 0, 5, 0, 0, 1, 0], [99, 9, 9, 1, 9, 1, 199, 30, 199], [0, 0, 0, 2, 1, 3, 0, 4], [1, 10, 11, 2, 20, 0, 0, 0, 0, 30, 0, 0, 0, 41, 40, 0, 0, 0, 50, 0, 0, 0, 0, 60, 70, 0, 0, 0, 0, 80, 0, 81]]
def STN : List (Nat × String × String × Nat) := [(200, "GloveRegret", "LEAST", 9), (201, "GloveRegret", "MOST", 9), (202, "GloveRegret$Hooks", "ABOVE", 8), (203, "GloveRegret$Hooks", "OWN", 32)]
abbrev NO : Nat := 86
def KD (o : Nat) : Nat × Nat := LY.getD o (99, 0)
def rf (o k : Nat) : Nat := (RF.getD o []).getD k 0
def isR (ci k : Nat) : Bool := (RK.getD ci []).getD k false
def ST (o k : Nat) : Int32 := (STL.getD (o - 200) []).getD k 0
def cv (ad : Nat → Nat) (v : Value) : Value := match v with
  | .ref o => .ref (ad o)
  | v => v
def fldV (ad : Nat → Nat) (h : AH) (ci o k : Nat) : Value := if isR ci k = true then .ref (ad (rf o k)) else .int (h.1 o k)
def cellE (ad : Nat → Nat) (cA : Nat → ClassId) (h : AH) (o : Nat) : va_E :=
  if (KD o).1 = 20 then .inl (cA 20, (KD o).2, .inl (h.1 o))
  else if (KD o).1 = 21 then .inl (cA 21, (KD o).2, .inr (.inl (h.2 o)))
  else if (KD o).1 = 22 then .inl (cA 22, (KD o).2, .inl (h.1 o))
  else if (KD o).1 = 23 then .inl (cA 23, (KD o).2, .inr (.inr (.inr (.inr (fun k => some (ad (rf o k)))))))
  else .inr ((KD o).1, (List.range (KD o).2).map (fldV ad h (KD o).1 o))
def Wd (ad : Nat → Nat) (cA : Nat → ClassId) (h : AH) : va_W := (List.range NO).map (fun o => (ad o, cellE ad cA h o))
def tyL (cA : Nat → ClassId) : List (ClassId × FieldType) := [(cA 20, .int), (cA 21, .long), (cA 22, .char), (cA 23, .object RX5)]
def upO (h : AH) (o : Nat) (f : Nat → Int32) : AH := (fun o' => if o' = o then f else h.1 o', h.2)
def upL (h : AH) (o : Nat) (f : Nat → Int64) : AH := (h.1, fun o' => if o' = o then f else h.2 o')
def wI (h : AH) (o k : Nat) (v : Int32) : AH := upO h o (upd (h.1 o) k v)
def wL (h : AH) (o k : Nat) (v : Int64) : AH := upL h o (vp_updL (h.2 o) k v)
def cpI (h : AH) (a sp b dp n : Nat) : AH := upO h b (va_cpy (h.1 a) (h.1 b) sp dp n)
def cpL (h : AH) (a sp b dp n : Nat) : AH := upL h b (va_cpy (h.2 a) (h.2 b) sp dp n)
def inb (i : Int32) (n : Nat) : Bool := decide (0 ≤ i.toInt) && decide (i.toInt < n)
def isB (v : Int32) : Bool := v == 0 || v == 1
abbrev ix (i : Int32) : Nat := i.toNatClampNeg
theorem inb_in {i : Int32} {n : Nat} (h : inb i n = true) : vp_in i n := by
  simp only [inb, Bool.and_eq_true, decide_eq_true_eq] at h
  exact vp_in_iff.mpr h
theorem kd_lt {o : Nat} (h : (KD o).1 < 50) : o < NO := by
  rcases Nat.lt_or_ge o NO with q | q
  · exact q
  · exfalso
    have e : KD o = (99, 0) := by
      unfold KD
      rw [List.getD_eq_getElem?_getD, List.getElem?_eq_none (by exact q)]
      rfl
    rw [e] at h
    exact absurd h (by decide)
theorem wd_get {ad : Nat → Nat} {cA : Nat → ClassId} {h : AH} {o : Nat} (ho : o < NO) : (Wd ad cA h)[o]? = some (ad o, cellE ad cA h o) := by
  unfold Wd
  rw [List.getElem?_map, List.getElem?_range ho]
  rfl
theorem cell_i {ad : Nat → Nat} {cA : Nat → ClassId} {h : AH} {o n : Nat} (k : KD o = (20, n)) : cellE ad cA h o = .inl (cA 20, n, .inl (h.1 o)) := by
  unfold cellE; rw [k]; rfl
theorem cell_l {ad : Nat → Nat} {cA : Nat → ClassId} {h : AH} {o n : Nat} (k : KD o = (21, n)) : cellE ad cA h o = .inl (cA 21, n, .inr (.inl (h.2 o))) := by
  unfold cellE; rw [k]; rfl
theorem cell_c {ad : Nat → Nat} {cA : Nat → ClassId} {h : AH} {o n : Nat} (k : KD o = (22, n)) : cellE ad cA h o = .inl (cA 22, n, .inl (h.1 o)) := by
  unfold cellE; rw [k]; rfl
theorem cell_r {ad : Nat → Nat} {cA : Nat → ClassId} {h : AH} {o n : Nat} (k : KD o = (23, n)) : cellE ad cA h o = .inl (cA 23, n, .inr (.inr (.inr (.inr (fun k => some (ad (rf o k))))))) := by
  unfold cellE; rw [k]; rfl
theorem cell_o {ad : Nat → Nat} {cA : Nat → ClassId} {h : AH} {o ci n : Nat} (k : KD o = (ci, n)) (hc : ci < 20) : cellE ad cA h o = .inr (ci, (List.range n).map (fldV ad h ci o)) := by
  unfold cellE; rw [k]
  show (if ci = 20 then _ else _) = _
  rw [if_neg (by omega)]
  show (if ci = 21 then _ else _) = _
  rw [if_neg (by omega)]
  show (if ci = 22 then _ else _) = _
  rw [if_neg (by omega)]
  show (if ci = 23 then _ else _) = _
  rw [if_neg (by omega)]
theorem upO_ne {h : AH} {o o' : Nat} {f : Nat → Int32} (e : o' ≠ o) : (upO h o f).1 o' = h.1 o' := by
  show (if o' = o then f else h.1 o') = _
  rw [if_neg e]
theorem upO_eq {h : AH} {o : Nat} {f : Nat → Int32} : (upO h o f).1 o = f := by
  show (if o = o then f else h.1 o) = _
  rw [if_pos rfl]
theorem upL_ne {h : AH} {o o' : Nat} {f : Nat → Int64} (e : o' ≠ o) : (upL h o f).2 o' = h.2 o' := by
  show (if o' = o then f else h.2 o') = _
  rw [if_neg e]
theorem upL_eq {h : AH} {o : Nat} {f : Nat → Int64} : (upL h o f).2 o = f := by
  show (if o = o then f else h.2 o) = _
  rw [if_pos rfl]
theorem cell_ext {ad : Nat → Nat} {cA : Nat → ClassId} {h h' : AH} {o : Nat} (e1 : h'.1 o = h.1 o) (e2 : h'.2 o = h.2 o) : cellE ad cA h' o = cellE ad cA h o := by
  unfold cellE
  have e3 : fldV ad h' (KD o).1 o = fldV ad h (KD o).1 o := by
    funext k
    unfold fldV
    rw [e1]
  rw [e1, e2, e3]
theorem wd_set {ad : Nat → Nat} {cA : Nat → ClassId} {h h' : AH} {o : Nat} {c : va_E} (ho : o < NO) (hc : cellE ad cA h' o = c) (e1 : ∀ q, q ≠ o → h'.1 q = h.1 q) (e2 : ∀ q, q ≠ o → h'.2 q = h.2 q) : (Wd ad cA h).set o (ad o, c) = Wd ad cA h' := by
  apply List.ext_getElem?
  intro k
  have hl : (Wd ad cA h).length = NO := by simp [Wd]
  have hl' : (Wd ad cA h').length = NO := by simp [Wd]
  by_cases hk : k = o
  · subst hk
    rw [List.getElem?_set_self (by rw [hl]; exact ho), wd_get ho, hc]
  · rw [List.getElem?_set_ne (Ne.symm hk)]
    rcases Nat.lt_or_ge k NO with q | q
    · rw [wd_get q, wd_get q, cell_ext (e1 k hk) (e2 k hk)]
    · rw [List.getElem?_eq_none (by rw [hl]; exact q), List.getElem?_eq_none (by rw [hl']; exact q)]
theorem wd_setI {ad : Nat → Nat} {cA : Nat → ClassId} {h : AH} {o n : Nat} {f : Nat → Int32} (k : KD o = (20, n)) : (Wd ad cA h).set o (ad o, .inl (cA 20, n, .inl f)) = Wd ad cA (upO h o f) :=
  wd_set (kd_lt (by rw [k]; exact Nat.le_of_ble_eq_true rfl)) (by rw [cell_i k, upO_eq]) (fun q hq => upO_ne hq) (fun q hq => rfl)
theorem wd_setL {ad : Nat → Nat} {cA : Nat → ClassId} {h : AH} {o n : Nat} {f : Nat → Int64} (k : KD o = (21, n)) : (Wd ad cA h).set o (ad o, .inl (cA 21, n, .inr (.inl f))) = Wd ad cA (upL h o f) :=
  wd_set (kd_lt (by rw [k]; exact Nat.le_of_ble_eq_true rfl)) (by rw [cell_l k, upL_eq]) (fun q hq => rfl) (fun q hq => upL_ne hq)
theorem wd_setF {ad : Nat → Nat} {cA : Nat → ClassId} {h : AH} {o ci n k : Nat} {v : Int32} (hk : KD o = (ci, n)) (hc : ci < 20) (hr : isR ci k = false) : (Wd ad cA h).set o (ad o, .inr (ci, ((List.range n).map (fldV ad h ci o)).set k (.int v))) = Wd ad cA (wI h o k v) := by
  refine wd_set (kd_lt (by rw [hk]; show ci < 50; omega)) ?_ (fun q hq => upO_ne hq) (fun q hq => rfl)
  rw [cell_o hk hc]
  congr 2
  apply List.ext_getElem?
  intro j
  have hl : ((List.range n).map (fldV ad h ci o)).length = n := by simp
  rcases Nat.lt_or_ge j n with q | q
  · rw [List.getElem?_map, List.getElem?_range q]
    by_cases hj : j = k
    · subst hj
      rw [List.getElem?_set_self (by rw [hl]; exact q)]
      show some (fldV ad (wI h o j v) ci o j) = _
      unfold fldV
      rw [hr]
      show some (Value.int ((wI h o j v).1 o j)) = _
      unfold wI
      rw [upO_eq, pk_us]
    · rw [List.getElem?_set_ne (Ne.symm hj), List.getElem?_map, List.getElem?_range q]
      show some (fldV ad (wI h o k v) ci o j) = some (fldV ad h ci o j)
      unfold fldV wI
      rw [upO_eq, pk_un hj]
  · rw [List.getElem?_eq_none (by simpa using q), List.getElem?_eq_none (by simpa using q)]
theorem cv_cat (ad : Nat → Nat) (v : Value) : (cv ad v).category = v.category := by cases v <;> rfl
theorem cv_cats (ad : Nat → Nat) (st : List Value) : ((st.map (cv ad)).map fun v => v.category) = st.map fun v => v.category := by
  rw [List.map_map]
  apply List.map_congr_left
  intro v _
  exact cv_cat ad v
abbrev cvp (ad : Nat → Nat) (q : Nat × Value) : Nat × Value := (q.1, cv ad q.2)
theorem cvp_filter1 (ad : Nat → Nat) (i : Nat) (lv : List (Nat × Value)) : (lv.map (cvp ad)).filter (fun q => !(q.1 == i) && !(q.1 + 1 == i && q.2.category == 2)) = (lv.filter (fun q => !(q.1 == i) && !(q.1 + 1 == i && q.2.category == 2))).map (cvp ad) := by
  rw [List.filter_map]
  congr 1
  apply List.filter_congr
  intro q _
  show (!(q.1 == i) && !(q.1 + 1 == i && (cv ad q.2).category == 2)) = _
  rw [cv_cat]
theorem cvp_filter2 (ad : Nat → Nat) (i : Nat) (lv : List (Nat × Value)) : (lv.map (cvp ad)).filter (fun q => !(q.1 == i) && (!(q.1 == i + 1) && !(q.1 + 1 == i && q.2.category == 2))) = (lv.filter (fun q => !(q.1 == i) && (!(q.1 == i + 1) && !(q.1 + 1 == i && q.2.category == 2)))).map (cvp ad) := by
  rw [List.filter_map]
  congr 1
  apply List.filter_congr
  intro q _
  show (!(q.1 == i) && (!(q.1 == i + 1) && !(q.1 + 1 == i && (cv ad q.2).category == 2))) = _
  rw [cv_cat]
theorem cvp_args (ad : Nat → Nat) : ∀ (vs : List Value) (n : Nat), lv_args n (vs.map (cv ad)) = (lv_args n vs).map (cvp ad)
  | [], n => rfl
  | v :: vs, n => by
    show lv_args n (cv ad v :: vs.map (cv ad)) = _
    unfold lv_args
    rw [cv_cat]
    split
    · rw [cvp_args ad vs]; rfl
    · rw [cvp_args ad vs]; rfl
theorem lg_cv (ad : Nat → Nat) (vs : List Value) : (lg_sl (vs.map (cv ad))).length = (lg_sl vs).length := by
  induction vs with
  | nil => rfl
  | cons v vs ih =>
    show (lg_sl (cv ad v :: vs.map (cv ad))).length = _
    unfold lg_sl at ih ⊢
    rw [List.flatMap_cons, List.flatMap_cons, List.length_append, List.length_append, ih, cv_cat]
    congr 1
    split <;> rfl
/-! ===== the tables' good words; worlds; judgements ===== -/
def gtbl : List Cond := lw_tbl.filter goodWord
theorem in_g {w : Cond} (i : Nat) (h : lw_tbl[i]? = some w) (g : goodWord w = true) : w ∈ gtbl := List.mem_filter.mpr ⟨List.mem_of_getElem? h, g⟩
theorem g_good {ws : List Cond} (h : ∀ w ∈ ws, w ∈ gtbl) : GoodIn gtbl ws := fun w hw => ⟨h w hw, good_of_word (List.mem_filter.mp (h w hw)).2⟩
abbrev GG : Type := va_G × (Nat → Prop) × (Nat → Nat) × (Nat → ClassId)
def SF (G : GG) (U : State) (H : Heap) : Prop := ∀ q ∈ STN, va_Z q.2.1 q.2.2.1 "[I" (.ref (G.2.2.1 q.1)) G.2.1 U H ∧ va_T .int (G.2.2.1 q.1) q.2.2.2 (fun j => .int (ST q.1 j)) G.2.1 U H
def NWL : List (String × Nat × MethodName × String) := [(RX3, 49, yX4_isName, RX9), (RX9, 229, yX8_best, RX9), (RX9, 233, yX8_afterTurn, RX9)]
def NW (U : State) : Prop := ∀ q ∈ NWL, va_Nw (.methodLinkNest q.1 q.2.1 q.2.2.1 q.2.2.2) U
theorem SF.moved {G : GG} {u U : State} {H : Heap} (hvm : u.vm.Alike U.vm) (h : SF G u H) : SF G U H := fun q hq => ⟨(h q hq).1.moved hvm, (h q hq).2.moved hvm⟩
theorem SF.kept {G : GG} {U : State} {H H1 : Heap} (h : SF G U H) (hq : ∀ a : Nat, a < H.size → ¬ G.2.1 a → H1[a]? = H[a]?) : SF G U H1 := fun q hh => ⟨(h q hh).1.kept hq, (h q hh).2.kept hq⟩
theorem NW.same {u U : State} (e : u.vm = U.vm) (h : NW u) : NW U := fun q hq => (h q hq).same rfl e
theorem NW.warm {s U : State} (hW : s.WarmedH U.vm) (h : NW s) : NW U := fun q hq => va_Nw.warmM hW (h q hq)
def Wpre (G : GG) (h : AH) (U : State) : Prop := va_P G.1 vwCl (Wd G.2.2.1 G.2.2.2 h) U.heap ∧ va_D G.2.1 (Wd G.2.2.1 G.2.2.2 h) ∧ va_K G.1 vwCl (tyL G.2.2.2) U ∧ SF G U U.heap ∧ NW U
def QcJ (G : GG) (r : Option Value) (h' : AH) : Array Value → State → Outcome → State → Prop := fun _ st oc t => (oc = .returned (r.map (cv G.2.2.1)) ∧ va_P G.1 vwCl (Wd G.2.2.1 G.2.2.2 h') t.heap ∧ va_D G.2.1 (Wd G.2.2.1 G.2.2.2 h')) ∧ va_F G.2.1 st t
def rmD (d : Nat) : Room := { frames := d, cells := 0, slots := 0, locals := 60 * d }
def MW (y : MethodName) (cc : ByteArray) (maxL : Nat) (ret : Option FieldType) (n : Nat) : Prop := Cond.code y cc maxL ret ∈ gtbl ∧ Cond.initialized y.cls ∈ gtbl ∧ (y.cls ≠ "java/lang/invoke/MethodHandle" ∧ y.cls ≠ "java/lang/invoke/VarHandle" ∧ (parseMethodDescriptor y.desc).map (fun d => d.parameters.length) = some n) ∧ plainName y.cls = true ∧ maxL ≤ 20
def Con (G : GG) (d : Nat) (y : MethodName) (cc : ByteArray) (maxL : Nat) (ret : Option FieldType) (av : List Value) (h : AH) (r : Option Value) (h' : AH) : Prop :=
  ∀ l : Launch, Met l y (Cond.code y cc maxL ret :: gtbl) (rmD d) (va_Pc (av.map (cv G.2.2.1)) (Wpre G h)) (QcJ G r h') 0 0 G.2.1
abbrev EE : Type := Program × Launch × Env × Room × State × MethodId × Array Value × List Frame × Method × Code × Nat × Nat × (State → Prop)
def JJ (G : GG) (E : EE) (nL pc : Nat) (lv : List (Nat × Value)) (st : List Value) (h : AH) : Prop := match G, E with
  | (D, A, ad, cA), (p, l, e, R, s, m, args, below, meth, c, cells, slots, Q) =>
    ∀ (H : Heap) (locs : List Loc) (ls : Array Slot), va_P D vwCl (Wd ad cA h) H → va_D A (Wd ad cA h) → va_S A s.heap H locs → lv_has ls nL (lv.map (cvp ad)) → W p l e R s m args below meth c H locs cells slots Q (F0 m pc ls (st.map (cv ad)))
def OK (G : GG) (E : EE) (d : Nat) (own : String) (cc : ByteArray) (nL : Nat) : Prop := match G, E with
  | (D, A, ad, cA), (p, l, e, R, s, m, args, below, meth, c, cells, slots, Q) =>
    p.tables.exec = Jvm.exec ∧ c.code = cc ∧ c.maxLocals = nL ∧ s.vm.findClass own = some m.cls ∧ (∀ w ∈ gtbl, w.before args s = true) ∧ va_K D vwCl (tyL cA) s ∧ SF (D, A, ad, cA) s s.heap ∧ NW s ∧ (d ≤ R.frames ∧ 60 * d ≤ R.locals ∧ cells ≤ R.cells ∧ slots ≤ R.slots)
def RT (G : GG) (E : EE) (ret : Option FieldType) (r : Option Value) (h' : AH) : Prop := match G, E with
  | (D, A, ad, cA), (p, l, e, R, s, m, args, below, meth, c, cells, slots, Q) =>
    meth.sig.returnType = ret ∧ meth.locks = false ∧ cells = 0 ∧ slots = 0 ∧ Q = MQ below (QcJ (D, A, ad, cA) r h') args s 0 0 A
set_option maxHeartbeats 1000000 in
theorem con_of {G : GG} {d : Nat} {y : MethodName} {cc : ByteArray} {maxL n : Nat} {ret : Option FieldType} {av : List Value} {h h' : AH} {r : Option Value} (M : MW y cc maxL ret n) (hlen : (lg_sl av).length ≤ maxL) (body : ∀ E : EE, OK G E d y.cls cc maxL → RT G E ret r h' → JJ G E maxL 0 (lv_args 0 av) [] h) : Con G d y cc maxL ret av h r h' := by
  intro l
  refine Met.ofW (cc := cc) (maxL := maxL) (ret := ret) M.2.2.2.1 rfl ?_
  intro p e s m args below meth c s₁ B hml hv
  obtain ⟨D, A, ad, cA⟩ := G
  obtain ⟨rfl, hP, hD, hK, hZ, hN⟩ := hv
  have hts := atoms_spec (ws := Cond.code y cc maxL ret :: gtbl) B.pre
  have hl := lv_entry (av.map (cv ad)) (n := maxL) (by rw [lg_cv]; exact hlen)
  rw [lg_entry_eq]
  rw [cvp_args] at hl
  exact body (p, l, e, rmD d, s, m, (av.map (cv ad)).toArray, below, meth, c, 0, 0, MQ below (QcJ (D, A, ad, cA) r h') (av.map (cv ad)).toArray s 0 0 A) ⟨B.exec, B.bytes, hml, findClass_of_methodNamed B.named, fun w hw => hts w (List.mem_cons_of_mem _ hw), hK, hZ, hN, Nat.le_refl _, Nat.le_refl _, Nat.zero_le _, Nat.zero_le _⟩ ⟨B.returns, B.notSynchronized, rfl, rfl, rfl⟩ s.heap [] _ hP hD va_S.rf hl
end
section
section ROWS
variable {G : GG} {E : EE} {d : Nat} {own : String} {cc : ByteArray} {nL pc : Nat} {lv : List (Nat × Value)} {st : List Value} {h : AH}
theorem r_iadd {x y : Int32} (K : OK G E d own cc nL) (dc : decode cc pc = .ok (.iadd, 1))  (k : JJ G E nL (pc + 1) lv (.int (x + y) :: st) h) : JJ G E nL pc lv (.int y :: .int x :: st) h := by
  obtain ⟨D, A, ad, cA⟩ := G
  obtain ⟨p, l, e, R, s, m, args, below, meth, c, cells, slots, Q⟩ := E
  obtain ⟨hx, hb, hml, hown, hts, hK, hZ, hN, hR⟩ := K
  intro H locs ls hP hD hS hl
  exact lv_iadd hx hb dc (k H locs ls hP hD hS hl)
theorem r_isub {x y : Int32} (K : OK G E d own cc nL) (dc : decode cc pc = .ok (.isub, 1))  (k : JJ G E nL (pc + 1) lv (.int (x - y) :: st) h) : JJ G E nL pc lv (.int y :: .int x :: st) h := by
  obtain ⟨D, A, ad, cA⟩ := G
  obtain ⟨p, l, e, R, s, m, args, below, meth, c, cells, slots, Q⟩ := E
  obtain ⟨hx, hb, hml, hown, hts, hK, hZ, hN, hR⟩ := K
  intro H locs ls hP hD hS hl
  exact lv_isub hx hb dc (k H locs ls hP hD hS hl)
theorem r_imul {x y : Int32} (K : OK G E d own cc nL) (dc : decode cc pc = .ok (.imul, 1))  (k : JJ G E nL (pc + 1) lv (.int (x * y) :: st) h) : JJ G E nL pc lv (.int y :: .int x :: st) h := by
  obtain ⟨D, A, ad, cA⟩ := G
  obtain ⟨p, l, e, R, s, m, args, below, meth, c, cells, slots, Q⟩ := E
  obtain ⟨hx, hb, hml, hown, hts, hK, hZ, hN, hR⟩ := K
  intro H locs ls hP hD hS hl
  exact lv_imul hx hb dc (k H locs ls hP hD hS hl)
theorem r_iand {x y : Int32} (K : OK G E d own cc nL) (dc : decode cc pc = .ok (.iand, 1))  (k : JJ G E nL (pc + 1) lv (.int (x &&& y) :: st) h) : JJ G E nL pc lv (.int y :: .int x :: st) h := by
  obtain ⟨D, A, ad, cA⟩ := G
  obtain ⟨p, l, e, R, s, m, args, below, meth, c, cells, slots, Q⟩ := E
  obtain ⟨hx, hb, hml, hown, hts, hK, hZ, hN, hR⟩ := K
  intro H locs ls hP hD hS hl
  exact lv_iand hx hb dc (k H locs ls hP hD hS hl)
theorem r_ior {x y : Int32} (K : OK G E d own cc nL) (dc : decode cc pc = .ok (.ior, 1))  (k : JJ G E nL (pc + 1) lv (.int (x ||| y) :: st) h) : JJ G E nL pc lv (.int y :: .int x :: st) h := by
  obtain ⟨D, A, ad, cA⟩ := G
  obtain ⟨p, l, e, R, s, m, args, below, meth, c, cells, slots, Q⟩ := E
  obtain ⟨hx, hb, hml, hown, hts, hK, hZ, hN, hR⟩ := K
  intro H locs ls hP hD hS hl
  exact lv_ior hx hb dc (k H locs ls hP hD hS hl)
theorem r_ixor {x y : Int32} (K : OK G E d own cc nL) (dc : decode cc pc = .ok (.ixor, 1))  (k : JJ G E nL (pc + 1) lv (.int (x ^^^ y) :: st) h) : JJ G E nL pc lv (.int y :: .int x :: st) h := by
  obtain ⟨D, A, ad, cA⟩ := G
  obtain ⟨p, l, e, R, s, m, args, below, meth, c, cells, slots, Q⟩ := E
  obtain ⟨hx, hb, hml, hown, hts, hK, hZ, hN, hR⟩ := K
  intro H locs ls hP hD hS hl
  exact lv_ixor hx hb dc (k H locs ls hP hD hS hl)
theorem r_idiv {x y : Int32} (K : OK G E d own cc nL) (dc : decode cc pc = .ok (.idiv, 1)) (hne : ¬ y = 0) (k : JJ G E nL (pc + 1) lv (.int (x / y) :: st) h) : JJ G E nL pc lv (.int y :: .int x :: st) h := by
  obtain ⟨D, A, ad, cA⟩ := G
  obtain ⟨p, l, e, R, s, m, args, below, meth, c, cells, slots, Q⟩ := E
  obtain ⟨hx, hb, hml, hown, hts, hK, hZ, hN, hR⟩ := K
  intro H locs ls hP hD hS hl
  exact lv_idiv hx hb dc hne (k H locs ls hP hD hS hl)
theorem r_irem {x y : Int32} (K : OK G E d own cc nL) (dc : decode cc pc = .ok (.irem, 1)) (hne : ¬ y = 0) (k : JJ G E nL (pc + 1) lv (.int (x - x / y * y) :: st) h) : JJ G E nL pc lv (.int y :: .int x :: st) h := by
  obtain ⟨D, A, ad, cA⟩ := G
  obtain ⟨p, l, e, R, s, m, args, below, meth, c, cells, slots, Q⟩ := E
  obtain ⟨hx, hb, hml, hown, hts, hK, hZ, hN, hR⟩ := K
  intro H locs ls hP hD hS hl
  exact lv_irem hx hb dc hne (k H locs ls hP hD hS hl)
theorem r_ineg {x : Int32} (K : OK G E d own cc nL) (dc : decode cc pc = .ok (.ineg, 1))  (k : JJ G E nL (pc + 1) lv (.int (-x) :: st) h) : JJ G E nL pc lv (.int x :: st) h := by
  obtain ⟨D, A, ad, cA⟩ := G
  obtain ⟨p, l, e, R, s, m, args, below, meth, c, cells, slots, Q⟩ := E
  obtain ⟨hx, hb, hml, hown, hts, hK, hZ, hN, hR⟩ := K
  intro H locs ls hP hD hS hl
  exact lv_ineg hx hb dc (k H locs ls hP hD hS hl)
theorem r_iushr {x y : Int32} (K : OK G E d own cc nL) (dc : decode cc pc = .ok (.iushr, 1))  (k : JJ G E nL (pc + 1) lv (.int ((x.toUInt32 >>> (y.toUInt32 &&& Int32.toUInt32 31)).toInt32) :: st) h) : JJ G E nL pc lv (.int y :: .int x :: st) h := by
  obtain ⟨D, A, ad, cA⟩ := G
  obtain ⟨p, l, e, R, s, m, args, below, meth, c, cells, slots, Q⟩ := E
  obtain ⟨hx, hb, hml, hown, hts, hK, hZ, hN, hR⟩ := K
  intro H locs ls hP hD hS hl
  exact lv_iushr hx hb dc rfl (k H locs ls hP hD hS hl)
theorem r_ladd {x y : Int64} (K : OK G E d own cc nL) (dc : decode cc pc = .ok (.ladd, 1))  (k : JJ G E nL (pc + 1) lv (.long (x + y) :: st) h) : JJ G E nL pc lv (.long y :: .long x :: st) h := by
  obtain ⟨D, A, ad, cA⟩ := G
  obtain ⟨p, l, e, R, s, m, args, below, meth, c, cells, slots, Q⟩ := E
  obtain ⟨hx, hb, hml, hown, hts, hK, hZ, hN, hR⟩ := K
  intro H locs ls hP hD hS hl
  exact lv_ladd hx hb dc (k H locs ls hP hD hS hl)
theorem r_lsub {x y : Int64} (K : OK G E d own cc nL) (dc : decode cc pc = .ok (.lsub, 1))  (k : JJ G E nL (pc + 1) lv (.long (x - y) :: st) h) : JJ G E nL pc lv (.long y :: .long x :: st) h := by
  obtain ⟨D, A, ad, cA⟩ := G
  obtain ⟨p, l, e, R, s, m, args, below, meth, c, cells, slots, Q⟩ := E
  obtain ⟨hx, hb, hml, hown, hts, hK, hZ, hN, hR⟩ := K
  intro H locs ls hP hD hS hl
  exact lv_lsub hx hb dc (k H locs ls hP hD hS hl)
theorem r_lmul {x y : Int64} (K : OK G E d own cc nL) (dc : decode cc pc = .ok (.lmul, 1))  (k : JJ G E nL (pc + 1) lv (.long (x * y) :: st) h) : JJ G E nL pc lv (.long y :: .long x :: st) h := by
  obtain ⟨D, A, ad, cA⟩ := G
  obtain ⟨p, l, e, R, s, m, args, below, meth, c, cells, slots, Q⟩ := E
  obtain ⟨hx, hb, hml, hown, hts, hK, hZ, hN, hR⟩ := K
  intro H locs ls hP hD hS hl
  exact lv_lmul hx hb dc (k H locs ls hP hD hS hl)
theorem r_land {x y : Int64} (K : OK G E d own cc nL) (dc : decode cc pc = .ok (.land, 1))  (k : JJ G E nL (pc + 1) lv (.long (x &&& y) :: st) h) : JJ G E nL pc lv (.long y :: .long x :: st) h := by
  obtain ⟨D, A, ad, cA⟩ := G
  obtain ⟨p, l, e, R, s, m, args, below, meth, c, cells, slots, Q⟩ := E
  obtain ⟨hx, hb, hml, hown, hts, hK, hZ, hN, hR⟩ := K
  intro H locs ls hP hD hS hl
  exact lv_land hx hb dc (k H locs ls hP hD hS hl)
theorem r_lor {x y : Int64} (K : OK G E d own cc nL) (dc : decode cc pc = .ok (.lor, 1))  (k : JJ G E nL (pc + 1) lv (.long (x ||| y) :: st) h) : JJ G E nL pc lv (.long y :: .long x :: st) h := by
  obtain ⟨D, A, ad, cA⟩ := G
  obtain ⟨p, l, e, R, s, m, args, below, meth, c, cells, slots, Q⟩ := E
  obtain ⟨hx, hb, hml, hown, hts, hK, hZ, hN, hR⟩ := K
  intro H locs ls hP hD hS hl
  exact lv_lor hx hb dc (k H locs ls hP hD hS hl)
theorem r_lshl {x : Int64} {y : Int32} (K : OK G E d own cc nL) (dc : decode cc pc = .ok (.lshl, 1))  (k : JJ G E nL (pc + 1) lv (.long (x <<< (y.toInt64 &&& 63)) :: st) h) : JJ G E nL pc lv (.int y :: .long x :: st) h := by
  obtain ⟨D, A, ad, cA⟩ := G
  obtain ⟨p, l, e, R, s, m, args, below, meth, c, cells, slots, Q⟩ := E
  obtain ⟨hx, hb, hml, hown, hts, hK, hZ, hN, hR⟩ := K
  intro H locs ls hP hD hS hl
  exact lv_lshl hx hb dc rfl (k H locs ls hP hD hS hl)
theorem r_i2l {x : Int32} (K : OK G E d own cc nL) (dc : decode cc pc = .ok (.i2l, 1))  (k : JJ G E nL (pc + 1) lv (.long x.toInt64 :: st) h) : JJ G E nL pc lv (.int x :: st) h := by
  obtain ⟨D, A, ad, cA⟩ := G
  obtain ⟨p, l, e, R, s, m, args, below, meth, c, cells, slots, Q⟩ := E
  obtain ⟨hx, hb, hml, hown, hts, hK, hZ, hN, hR⟩ := K
  intro H locs ls hP hD hS hl
  exact lv_i2l hx hb dc rfl (k H locs ls hP hD hS hl)
theorem r_l2i {x : Int64} (K : OK G E d own cc nL) (dc : decode cc pc = .ok (.l2i, 1))  (k : JJ G E nL (pc + 1) lv (.int x.toInt32 :: st) h) : JJ G E nL pc lv (.long x :: st) h := by
  obtain ⟨D, A, ad, cA⟩ := G
  obtain ⟨p, l, e, R, s, m, args, below, meth, c, cells, slots, Q⟩ := E
  obtain ⟨hx, hb, hml, hown, hts, hK, hZ, hN, hR⟩ := K
  intro H locs ls hP hD hS hl
  exact lv_l2i hx hb dc rfl (k H locs ls hP hD hS hl)
theorem r_i2b {x : Int32} (K : OK G E d own cc nL) (dc : decode cc pc = .ok (.i2b, 1))  (k : JJ G E nL (pc + 1) lv (.int x.toInt8.toInt32 :: st) h) : JJ G E nL pc lv (.int x :: st) h := by
  obtain ⟨D, A, ad, cA⟩ := G
  obtain ⟨p, l, e, R, s, m, args, below, meth, c, cells, slots, Q⟩ := E
  obtain ⟨hx, hb, hml, hown, hts, hK, hZ, hN, hR⟩ := K
  intro H locs ls hP hD hS hl
  exact lv_i2b hx hb dc rfl (k H locs ls hP hD hS hl)
theorem r_i2s {x : Int32} (K : OK G E d own cc nL) (dc : decode cc pc = .ok (.i2s, 1))  (k : JJ G E nL (pc + 1) lv (.int x.toInt16.toInt32 :: st) h) : JJ G E nL pc lv (.int x :: st) h := by
  obtain ⟨D, A, ad, cA⟩ := G
  obtain ⟨p, l, e, R, s, m, args, below, meth, c, cells, slots, Q⟩ := E
  obtain ⟨hx, hb, hml, hown, hts, hK, hZ, hN, hR⟩ := K
  intro H locs ls hP hD hS hl
  exact lv_i2s hx hb dc rfl (k H locs ls hP hD hS hl)
theorem r_lcmp {x y : Int64} (K : OK G E d own cc nL) (dc : decode cc pc = .ok (.lcmp, 1))  (k : JJ G E nL (pc + 1) lv (.int (lg_cmp x y) :: st) h) : JJ G E nL pc lv (.long y :: .long x :: st) h := by
  obtain ⟨D, A, ad, cA⟩ := G
  obtain ⟨p, l, e, R, s, m, args, below, meth, c, cells, slots, Q⟩ := E
  obtain ⟨hx, hb, hml, hown, hts, hK, hZ, hN, hR⟩ := K
  intro H locs ls hP hD hS hl
  exact W.lcmp hx hb dc (k H locs ls hP hD hS hl)
theorem r_iconst {n : Int} {v : Int32} (K : OK G E d own cc nL) (dc : decode cc pc = .ok (.iconst n, 1)) (hv : Int32.ofInt n = v) (k : JJ G E nL (pc + 1) lv (.int v :: st) h) : JJ G E nL pc lv (st) h := by
  obtain ⟨D, A, ad, cA⟩ := G
  obtain ⟨p, l, e, R, s, m, args, below, meth, c, cells, slots, Q⟩ := E
  obtain ⟨hx, hb, hml, hown, hts, hK, hZ, hN, hR⟩ := K
  intro H locs ls hP hD hS hl
  exact lv_iconst hx hb dc hv (k H locs ls hP hD hS hl)
theorem r_bipush {n : Int} {v : Int32} (K : OK G E d own cc nL) (dc : decode cc pc = .ok (.bipush n, 2)) (hv : (Int8.ofInt n).toInt32 = v) (k : JJ G E nL (pc + 2) lv (.int v :: st) h) : JJ G E nL pc lv (st) h := by
  obtain ⟨D, A, ad, cA⟩ := G
  obtain ⟨p, l, e, R, s, m, args, below, meth, c, cells, slots, Q⟩ := E
  obtain ⟨hx, hb, hml, hown, hts, hK, hZ, hN, hR⟩ := K
  intro H locs ls hP hD hS hl
  exact lv_bipush hx hb dc hv (k H locs ls hP hD hS hl)
theorem r_sipush {n : Int} {v : Int32} (K : OK G E d own cc nL) (dc : decode cc pc = .ok (.sipush n, 3)) (hv : (Int16.ofInt n).toInt32 = v) (k : JJ G E nL (pc + 3) lv (.int v :: st) h) : JJ G E nL pc lv (st) h := by
  obtain ⟨D, A, ad, cA⟩ := G
  obtain ⟨p, l, e, R, s, m, args, below, meth, c, cells, slots, Q⟩ := E
  obtain ⟨hx, hb, hml, hown, hts, hK, hZ, hN, hR⟩ := K
  intro H locs ls hP hD hS hl
  exact lv_sipush hx hb dc hv (k H locs ls hP hD hS hl)
theorem r_lconst {n : Fin 2} {v : Int64} (K : OK G E d own cc nL) (dc : decode cc pc = .ok (.lconst n, 1)) (hv : Int64.ofNat (n : Nat) = v) (k : JJ G E nL (pc + 1) lv (.long v :: st) h) : JJ G E nL pc lv (st) h := by
  obtain ⟨D, A, ad, cA⟩ := G
  obtain ⟨p, l, e, R, s, m, args, below, meth, c, cells, slots, Q⟩ := E
  obtain ⟨hx, hb, hml, hown, hts, hK, hZ, hN, hR⟩ := K
  intro H locs ls hP hD hS hl
  exact lv_lconst hx hb dc hv (k H locs ls hP hD hS hl)
theorem r_dup {a : Value} (K : OK G E d own cc nL) (dc : decode cc pc = .ok (.dup, 1)) (ha : a.category = 1) (k : JJ G E nL (pc + 1) lv (a :: a :: st) h) : JJ G E nL pc lv (a :: st) h := by
  obtain ⟨D, A, ad, cA⟩ := G
  obtain ⟨p, l, e, R, s, m, args, below, meth, c, cells, slots, Q⟩ := E
  obtain ⟨hx, hb, hml, hown, hts, hK, hZ, hN, hR⟩ := K
  intro H locs ls hP hD hS hl
  exact lv_dup hx hb dc ((cv_cat ad a).trans ha) (k H locs ls hP hD hS hl)
theorem r_pop {a : Value} (K : OK G E d own cc nL) (dc : decode cc pc = .ok (.pop, 1)) (ha : a.category = 1) (k : JJ G E nL (pc + 1) lv (st) h) : JJ G E nL pc lv (a :: st) h := by
  obtain ⟨D, A, ad, cA⟩ := G
  obtain ⟨p, l, e, R, s, m, args, below, meth, c, cells, slots, Q⟩ := E
  obtain ⟨hx, hb, hml, hown, hts, hK, hZ, hN, hR⟩ := K
  intro H locs ls hP hD hS hl
  exact lv_pop hx hb dc ((cv_cat ad a).trans ha) (k H locs ls hP hD hS hl)
theorem r_dup2 {a b : Value} (K : OK G E d own cc nL) (dc : decode cc pc = .ok (.dup2, 1)) (ha : a.category = 1) (hb2 : b.category = 1) (k : JJ G E nL (pc + 1) lv (a :: b :: a :: b :: st) h) : JJ G E nL pc lv (a :: b :: st) h := by
  obtain ⟨D, A, ad, cA⟩ := G
  obtain ⟨p, l, e, R, s, m, args, below, meth, c, cells, slots, Q⟩ := E
  obtain ⟨hx, hb, hml, hown, hts, hK, hZ, hN, hR⟩ := K
  intro H locs ls hP hD hS hl
  exact lv_dup2_11 hx hb dc ((cv_cat ad a).trans ha) ((cv_cat ad b).trans hb2) (k H locs ls hP hD hS hl)
theorem r_ldc {idx : Nat} {v : Int32} (K : OK G E d own cc nL) (dc : decode cc pc = .ok (.ldc idx, 2)) (hc : Cond.constant own idx v ∈ gtbl) (k : JJ G E nL (pc + 2) lv (.int v :: st) h) : JJ G E nL pc lv st h := by
  obtain ⟨D, A, ad, cA⟩ := G
  obtain ⟨p, l, e, R, s, m, args, below, meth, c, cells, slots, Q⟩ := E
  obtain ⟨hx, hb, hml, hown, hts, hK, hZ, hN, hR⟩ := K
  intro H locs ls hP hD hS hl
  exact lv_ldc hx hb hown (hts _ hc) dc (k H locs ls hP hD hS hl)
theorem r_ldcw {idx : Nat} {v : Int32} (K : OK G E d own cc nL) (dc : decode cc pc = .ok (.ldc_w idx, 3)) (hc : Cond.constant own idx v ∈ gtbl) (k : JJ G E nL (pc + 3) lv (.int v :: st) h) : JJ G E nL pc lv st h := by
  obtain ⟨D, A, ad, cA⟩ := G
  obtain ⟨p, l, e, R, s, m, args, below, meth, c, cells, slots, Q⟩ := E
  obtain ⟨hx, hb, hml, hown, hts, hK, hZ, hN, hR⟩ := K
  intro H locs ls hP hD hS hl
  exact lv_ldcw hx hb hown (hts _ hc) dc (k H locs ls hP hD hS hl)
theorem r_ldc2 {idx : Nat} {v : Int64} (K : OK G E d own cc nL) (dc : decode cc pc = .ok (.ldc2_w idx, 3)) (hc : Cond.constantLong own idx v ∈ gtbl) (k : JJ G E nL (pc + 3) lv (.long v :: st) h) : JJ G E nL pc lv st h := by
  obtain ⟨D, A, ad, cA⟩ := G
  obtain ⟨p, l, e, R, s, m, args, below, meth, c, cells, slots, Q⟩ := E
  obtain ⟨hx, hb, hml, hown, hts, hK, hZ, hN, hR⟩ := K
  intro H locs ls hP hD hS hl
  exact lv_ldc2 hx hb hown (hts _ hc) dc (k H locs ls hP hD hS hl)
theorem lv_cv {ad : Nat → Nat} {ls : Array Slot} (hl : lv_has ls nL (lv.map (cvp ad))) (k : Nat) {i : Nat} {v : Value} (hk : lv[k]? = some (i, v)) : ls[i]? = some (.val (cv ad v)) := lv_at hl k (by rw [List.getElem?_map, hk]; rfl)
theorem r_iload_n {n : Fin 4} {i : Nat} {x : Int32} (K : OK G E d own cc nL) (dc : decode cc pc = .ok (.iload_n n, 1)) (q : Nat) (hi : (n : Nat) = i) (hq : lv[q]? = some (i, .int x)) (k : JJ G E nL (pc + 1) lv (.int x :: st) h) : JJ G E nL pc lv st h := by
  obtain ⟨D, A, ad, cA⟩ := G
  obtain ⟨p, l, e, R, s, m, args, below, meth, c, cells, slots, Q⟩ := E
  obtain ⟨hx, hb, hml, hown, hts, hK, hZ, hN, hR⟩ := K
  intro H locs ls hP hD hS hl
  exact lv_iload_n hx hb dc hi (lv_cv hl q hq) (k H locs ls hP hD hS hl)
theorem r_iload {i : Nat} {x : Int32} (K : OK G E d own cc nL) (dc : decode cc pc = .ok (.iload i, 2)) (q : Nat) (hq : lv[q]? = some (i, .int x)) (k : JJ G E nL (pc + 2) lv (.int x :: st) h) : JJ G E nL pc lv st h := by
  obtain ⟨D, A, ad, cA⟩ := G
  obtain ⟨p, l, e, R, s, m, args, below, meth, c, cells, slots, Q⟩ := E
  obtain ⟨hx, hb, hml, hown, hts, hK, hZ, hN, hR⟩ := K
  intro H locs ls hP hD hS hl
  exact lv_iload hx hb dc (lv_cv hl q hq) (k H locs ls hP hD hS hl)
theorem r_lload_n {n : Fin 4} {i : Nat} {x : Int64} (K : OK G E d own cc nL) (dc : decode cc pc = .ok (.lload_n n, 1)) (q : Nat) (hi : (n : Nat) = i) (hq : lv[q]? = some (i, .long x)) (k : JJ G E nL (pc + 1) lv (.long x :: st) h) : JJ G E nL pc lv st h := by
  obtain ⟨D, A, ad, cA⟩ := G
  obtain ⟨p, l, e, R, s, m, args, below, meth, c, cells, slots, Q⟩ := E
  obtain ⟨hx, hb, hml, hown, hts, hK, hZ, hN, hR⟩ := K
  intro H locs ls hP hD hS hl
  exact lv_lload_n hx hb dc hi (lv_cv hl q hq) (k H locs ls hP hD hS hl)
theorem r_lload {i : Nat} {x : Int64} (K : OK G E d own cc nL) (dc : decode cc pc = .ok (.lload i, 2)) (q : Nat) (hq : lv[q]? = some (i, .long x)) (k : JJ G E nL (pc + 2) lv (.long x :: st) h) : JJ G E nL pc lv st h := by
  obtain ⟨D, A, ad, cA⟩ := G
  obtain ⟨p, l, e, R, s, m, args, below, meth, c, cells, slots, Q⟩ := E
  obtain ⟨hx, hb, hml, hown, hts, hK, hZ, hN, hR⟩ := K
  intro H locs ls hP hD hS hl
  exact lv_lload hx hb dc (lv_cv hl q hq) (k H locs ls hP hD hS hl)
theorem r_aload_n {n : Fin 4} {i : Nat} {x : Nat} (K : OK G E d own cc nL) (dc : decode cc pc = .ok (.aload_n n, 1)) (q : Nat) (hi : (n : Nat) = i) (hq : lv[q]? = some (i, .ref x)) (k : JJ G E nL (pc + 1) lv (.ref x :: st) h) : JJ G E nL pc lv st h := by
  obtain ⟨D, A, ad, cA⟩ := G
  obtain ⟨p, l, e, R, s, m, args, below, meth, c, cells, slots, Q⟩ := E
  obtain ⟨hx, hb, hml, hown, hts, hK, hZ, hN, hR⟩ := K
  intro H locs ls hP hD hS hl
  exact lv_aload_n hx hb dc hi (lv_cv hl q hq) (k H locs ls hP hD hS hl)
theorem r_aload {i : Nat} {x : Nat} (K : OK G E d own cc nL) (dc : decode cc pc = .ok (.aload i, 2)) (q : Nat) (hq : lv[q]? = some (i, .ref x)) (k : JJ G E nL (pc + 2) lv (.ref x :: st) h) : JJ G E nL pc lv st h := by
  obtain ⟨D, A, ad, cA⟩ := G
  obtain ⟨p, l, e, R, s, m, args, below, meth, c, cells, slots, Q⟩ := E
  obtain ⟨hx, hb, hml, hown, hts, hK, hZ, hN, hR⟩ := K
  intro H locs ls hP hD hS hl
  exact lv_aload hx hb dc (lv_cv hl q hq) (k H locs ls hP hD hS hl)
theorem r_istore_n {n : Fin 4} {i : Nat} {x : Int32} {lv' : List (Nat × Value)} (K : OK G E d own cc nL) (dc : decode cc pc = .ok (.istore_n n, 1)) (hi : (n : Nat) = i) (hn : i < nL) (hv : (i, Value.int x) :: lv.filter (fun q => !(q.1 == i) && !(q.1 + 1 == i && q.2.category == 2)) = lv') (k : JJ G E nL (pc + 1) lv' st h) : JJ G E nL pc lv (.int x :: st) h := by
  obtain ⟨D, A, ad, cA⟩ := G
  obtain ⟨p, l, e, R, s, m, args, below, meth, c, cells, slots, Q⟩ := E
  obtain ⟨hx, hb, hml, hown, hts, hK, hZ, hN, hR⟩ := K
  intro H locs ls hP hD hS hl
  subst hv
  exact lv_istore_n hx hb dc hi hl hn (by rw [cvp_filter1]; rfl) (fun ls' hl' => k H locs ls' hP hD hS hl')
theorem r_istore {i : Nat} {x : Int32} {lv' : List (Nat × Value)} (K : OK G E d own cc nL) (dc : decode cc pc = .ok (.istore i, 2)) (hn : i < nL) (hv : (i, Value.int x) :: lv.filter (fun q => !(q.1 == i) && !(q.1 + 1 == i && q.2.category == 2)) = lv') (k : JJ G E nL (pc + 2) lv' st h) : JJ G E nL pc lv (.int x :: st) h := by
  obtain ⟨D, A, ad, cA⟩ := G
  obtain ⟨p, l, e, R, s, m, args, below, meth, c, cells, slots, Q⟩ := E
  obtain ⟨hx, hb, hml, hown, hts, hK, hZ, hN, hR⟩ := K
  intro H locs ls hP hD hS hl
  subst hv
  exact lv_istore hx hb dc hl hn (by rw [cvp_filter1]; rfl) (fun ls' hl' => k H locs ls' hP hD hS hl')
theorem r_astore_n {n : Fin 4} {i : Nat} {x : Nat} {lv' : List (Nat × Value)} (K : OK G E d own cc nL) (dc : decode cc pc = .ok (.astore_n n, 1)) (hi : (n : Nat) = i) (hn : i < nL) (hv : (i, Value.ref x) :: lv.filter (fun q => !(q.1 == i) && !(q.1 + 1 == i && q.2.category == 2)) = lv') (k : JJ G E nL (pc + 1) lv' st h) : JJ G E nL pc lv (.ref x :: st) h := by
  obtain ⟨D, A, ad, cA⟩ := G
  obtain ⟨p, l, e, R, s, m, args, below, meth, c, cells, slots, Q⟩ := E
  obtain ⟨hx, hb, hml, hown, hts, hK, hZ, hN, hR⟩ := K
  intro H locs ls hP hD hS hl
  subst hv
  exact lv_astore_n hx hb dc hi hl hn (by rw [cvp_filter1]; rfl) (fun ls' hl' => k H locs ls' hP hD hS hl')
theorem r_astore {i : Nat} {x : Nat} {lv' : List (Nat × Value)} (K : OK G E d own cc nL) (dc : decode cc pc = .ok (.astore i, 2)) (hn : i < nL) (hv : (i, Value.ref x) :: lv.filter (fun q => !(q.1 == i) && !(q.1 + 1 == i && q.2.category == 2)) = lv') (k : JJ G E nL (pc + 2) lv' st h) : JJ G E nL pc lv (.ref x :: st) h := by
  obtain ⟨D, A, ad, cA⟩ := G
  obtain ⟨p, l, e, R, s, m, args, below, meth, c, cells, slots, Q⟩ := E
  obtain ⟨hx, hb, hml, hown, hts, hK, hZ, hN, hR⟩ := K
  intro H locs ls hP hD hS hl
  subst hv
  exact lv_astore hx hb dc hl hn (by rw [cvp_filter1]; rfl) (fun ls' hl' => k H locs ls' hP hD hS hl')
theorem r_lstore_n {n : Fin 4} {i : Nat} {x : Int64} {lv' : List (Nat × Value)} (K : OK G E d own cc nL) (dc : decode cc pc = .ok (.lstore_n n, 1)) (hi : (n : Nat) = i) (hn : i + 1 < nL) (hv : (i, Value.long x) :: lv.filter (fun q => !(q.1 == i) && (!(q.1 == i + 1) && !(q.1 + 1 == i && q.2.category == 2))) = lv') (k : JJ G E nL (pc + 1) lv' st h) : JJ G E nL pc lv (.long x :: st) h := by
  obtain ⟨D, A, ad, cA⟩ := G
  obtain ⟨p, l, e, R, s, m, args, below, meth, c, cells, slots, Q⟩ := E
  obtain ⟨hx, hb, hml, hown, hts, hK, hZ, hN, hR⟩ := K
  intro H locs ls hP hD hS hl
  subst hv
  exact lv_lstore_n hx hb dc hi hl hn (by rw [cvp_filter2]; rfl) (fun ls' hl' => k H locs ls' hP hD hS hl')
theorem r_lstore {i : Nat} {x : Int64} {lv' : List (Nat × Value)} (K : OK G E d own cc nL) (dc : decode cc pc = .ok (.lstore i, 2)) (hn : i + 1 < nL) (hv : (i, Value.long x) :: lv.filter (fun q => !(q.1 == i) && (!(q.1 == i + 1) && !(q.1 + 1 == i && q.2.category == 2))) = lv') (k : JJ G E nL (pc + 2) lv' st h) : JJ G E nL pc lv (.long x :: st) h := by
  obtain ⟨D, A, ad, cA⟩ := G
  obtain ⟨p, l, e, R, s, m, args, below, meth, c, cells, slots, Q⟩ := E
  obtain ⟨hx, hb, hml, hown, hts, hK, hZ, hN, hR⟩ := K
  intro H locs ls hP hD hS hl
  subst hv
  exact lv_lstore hx hb dc hl hn (by rw [cvp_filter2]; rfl) (fun ls' hl' => k H locs ls' hP hD hS hl')
theorem r_iinc {i : Nat} {n : Int} {x y : Int32} {lv' : List (Nat × Value)} (K : OK G E d own cc nL) (dc : decode cc pc = .ok (.iinc i n, 3)) (q : Nat) (hq : lv[q]? = some (i, .int x)) (hy : Int32.ofInt n = y) (hn : i < nL) (hv : (i, Value.int (x + y)) :: lv.filter (fun q => !(q.1 == i) && !(q.1 + 1 == i && q.2.category == 2)) = lv') (k : JJ G E nL (pc + 3) lv' st h) : JJ G E nL pc lv st h := by
  obtain ⟨D, A, ad, cA⟩ := G
  obtain ⟨p, l, e, R, s, m, args, below, meth, c, cells, slots, Q⟩ := E
  obtain ⟨hx, hb, hml, hown, hts, hK, hZ, hN, hR⟩ := K
  intro H locs ls hP hD hS hl
  subst hv
  subst hy
  exact lv_iinc hx hb dc hl (k := q) (by rw [List.getElem?_map, hq]; rfl) rfl hn (by rw [cvp_filter1]; rfl) (fun ls' hl' => k H locs ls' hP hD hS hl')
theorem r_lv (ks : List Nat) {lv' : List (Nat × Value)} (hv : lv_pick lv ks = lv') (k : JJ G E nL pc lv' st h) : JJ G E nL pc lv st h := by
  obtain ⟨D, A, ad, cA⟩ := G
  obtain ⟨p, l, e, R, s, m, args, below, meth, c, cells, slots, Q⟩ := E
  intro H locs ls hP hD hS hl
  refine k H locs ls hP hD hS (lv_sub hl ks ?_)
  subst hv
  unfold lv_pick
  rw [List.map_filterMap]
  have e2 : (fun i : Nat => (lv.map (cvp ad))[i]?) = fun i : Nat => (lv[i]?).map (cvp ad) := by
    funext i
    rw [List.getElem?_map]
  rw [e2]
theorem r_if_eq {x : Int32} {off : Int} {tgt : Nat} (K : OK G E d own cc nL) (dc : decode cc pc = .ok (.ifCond .eq off, 3)) (ht : (pc : Int) + off = (tgt : Int)) (kt : x = 0 → JJ G E nL tgt lv st h) (kf : ¬ x = 0 → JJ G E nL (pc + 3) lv st h) : JJ G E nL pc lv (.int x :: st) h := by
  obtain ⟨D, A, ad, cA⟩ := G
  obtain ⟨p, l, e, R, s, m, args, below, meth, c, cells, slots, Q⟩ := E
  obtain ⟨hx, hb, hml, hown, hts, hK, hZ, hN, hR⟩ := K
  intro H locs ls hP hD hS hl
  exact lv_if_eq hx hb dc ht (fun z => kt z H locs ls hP hD hS hl) (fun z => kf z H locs ls hP hD hS hl)
theorem r_icmp_eq {x y : Int32} {off : Int} {tgt : Nat} (K : OK G E d own cc nL) (dc : decode cc pc = .ok (.if_icmp .eq off, 3)) (ht : (pc : Int) + off = (tgt : Int)) (kt : x = y → JJ G E nL tgt lv st h) (kf : ¬ x = y → JJ G E nL (pc + 3) lv st h) : JJ G E nL pc lv (.int y :: .int x :: st) h := by
  obtain ⟨D, A, ad, cA⟩ := G
  obtain ⟨p, l, e, R, s, m, args, below, meth, c, cells, slots, Q⟩ := E
  obtain ⟨hx, hb, hml, hown, hts, hK, hZ, hN, hR⟩ := K
  intro H locs ls hP hD hS hl
  exact lv_icmp_eq hx hb dc ht (fun z => kt z H locs ls hP hD hS hl) (fun z => kf z H locs ls hP hD hS hl)
theorem r_if_ne {x : Int32} {off : Int} {tgt : Nat} (K : OK G E d own cc nL) (dc : decode cc pc = .ok (.ifCond .ne off, 3)) (ht : (pc : Int) + off = (tgt : Int)) (kt : ¬ x = 0 → JJ G E nL tgt lv st h) (kf : x = 0 → JJ G E nL (pc + 3) lv st h) : JJ G E nL pc lv (.int x :: st) h := by
  obtain ⟨D, A, ad, cA⟩ := G
  obtain ⟨p, l, e, R, s, m, args, below, meth, c, cells, slots, Q⟩ := E
  obtain ⟨hx, hb, hml, hown, hts, hK, hZ, hN, hR⟩ := K
  intro H locs ls hP hD hS hl
  exact lv_if_ne hx hb dc ht (fun z => kt z H locs ls hP hD hS hl) (fun z => kf z H locs ls hP hD hS hl)
theorem r_icmp_ne {x y : Int32} {off : Int} {tgt : Nat} (K : OK G E d own cc nL) (dc : decode cc pc = .ok (.if_icmp .ne off, 3)) (ht : (pc : Int) + off = (tgt : Int)) (kt : ¬ x = y → JJ G E nL tgt lv st h) (kf : x = y → JJ G E nL (pc + 3) lv st h) : JJ G E nL pc lv (.int y :: .int x :: st) h := by
  obtain ⟨D, A, ad, cA⟩ := G
  obtain ⟨p, l, e, R, s, m, args, below, meth, c, cells, slots, Q⟩ := E
  obtain ⟨hx, hb, hml, hown, hts, hK, hZ, hN, hR⟩ := K
  intro H locs ls hP hD hS hl
  exact lv_icmp_ne hx hb dc ht (fun z => kt z H locs ls hP hD hS hl) (fun z => kf z H locs ls hP hD hS hl)
theorem r_if_lt {x : Int32} {off : Int} {tgt : Nat} (K : OK G E d own cc nL) (dc : decode cc pc = .ok (.ifCond .lt off, 3)) (ht : (pc : Int) + off = (tgt : Int)) (kt : x < 0 → JJ G E nL tgt lv st h) (kf : ¬ x < 0 → JJ G E nL (pc + 3) lv st h) : JJ G E nL pc lv (.int x :: st) h := by
  obtain ⟨D, A, ad, cA⟩ := G
  obtain ⟨p, l, e, R, s, m, args, below, meth, c, cells, slots, Q⟩ := E
  obtain ⟨hx, hb, hml, hown, hts, hK, hZ, hN, hR⟩ := K
  intro H locs ls hP hD hS hl
  exact lv_if_lt hx hb dc ht (fun z => kt z H locs ls hP hD hS hl) (fun z => kf z H locs ls hP hD hS hl)
theorem r_icmp_lt {x y : Int32} {off : Int} {tgt : Nat} (K : OK G E d own cc nL) (dc : decode cc pc = .ok (.if_icmp .lt off, 3)) (ht : (pc : Int) + off = (tgt : Int)) (kt : x < y → JJ G E nL tgt lv st h) (kf : ¬ x < y → JJ G E nL (pc + 3) lv st h) : JJ G E nL pc lv (.int y :: .int x :: st) h := by
  obtain ⟨D, A, ad, cA⟩ := G
  obtain ⟨p, l, e, R, s, m, args, below, meth, c, cells, slots, Q⟩ := E
  obtain ⟨hx, hb, hml, hown, hts, hK, hZ, hN, hR⟩ := K
  intro H locs ls hP hD hS hl
  exact lv_icmp_lt hx hb dc ht (fun z => kt z H locs ls hP hD hS hl) (fun z => kf z H locs ls hP hD hS hl)
theorem r_if_ge {x : Int32} {off : Int} {tgt : Nat} (K : OK G E d own cc nL) (dc : decode cc pc = .ok (.ifCond .ge off, 3)) (ht : (pc : Int) + off = (tgt : Int)) (kt : 0 ≤ x → JJ G E nL tgt lv st h) (kf : ¬ 0 ≤ x → JJ G E nL (pc + 3) lv st h) : JJ G E nL pc lv (.int x :: st) h := by
  obtain ⟨D, A, ad, cA⟩ := G
  obtain ⟨p, l, e, R, s, m, args, below, meth, c, cells, slots, Q⟩ := E
  obtain ⟨hx, hb, hml, hown, hts, hK, hZ, hN, hR⟩ := K
  intro H locs ls hP hD hS hl
  exact lv_if_ge hx hb dc ht (fun z => kt z H locs ls hP hD hS hl) (fun z => kf z H locs ls hP hD hS hl)
theorem r_icmp_ge {x y : Int32} {off : Int} {tgt : Nat} (K : OK G E d own cc nL) (dc : decode cc pc = .ok (.if_icmp .ge off, 3)) (ht : (pc : Int) + off = (tgt : Int)) (kt : y ≤ x → JJ G E nL tgt lv st h) (kf : ¬ y ≤ x → JJ G E nL (pc + 3) lv st h) : JJ G E nL pc lv (.int y :: .int x :: st) h := by
  obtain ⟨D, A, ad, cA⟩ := G
  obtain ⟨p, l, e, R, s, m, args, below, meth, c, cells, slots, Q⟩ := E
  obtain ⟨hx, hb, hml, hown, hts, hK, hZ, hN, hR⟩ := K
  intro H locs ls hP hD hS hl
  exact lv_icmp_ge hx hb dc ht (fun z => kt z H locs ls hP hD hS hl) (fun z => kf z H locs ls hP hD hS hl)
theorem r_if_gt {x : Int32} {off : Int} {tgt : Nat} (K : OK G E d own cc nL) (dc : decode cc pc = .ok (.ifCond .gt off, 3)) (ht : (pc : Int) + off = (tgt : Int)) (kt : 0 < x → JJ G E nL tgt lv st h) (kf : ¬ 0 < x → JJ G E nL (pc + 3) lv st h) : JJ G E nL pc lv (.int x :: st) h := by
  obtain ⟨D, A, ad, cA⟩ := G
  obtain ⟨p, l, e, R, s, m, args, below, meth, c, cells, slots, Q⟩ := E
  obtain ⟨hx, hb, hml, hown, hts, hK, hZ, hN, hR⟩ := K
  intro H locs ls hP hD hS hl
  exact lv_if_gt hx hb dc ht (fun z => kt z H locs ls hP hD hS hl) (fun z => kf z H locs ls hP hD hS hl)
theorem r_icmp_gt {x y : Int32} {off : Int} {tgt : Nat} (K : OK G E d own cc nL) (dc : decode cc pc = .ok (.if_icmp .gt off, 3)) (ht : (pc : Int) + off = (tgt : Int)) (kt : y < x → JJ G E nL tgt lv st h) (kf : ¬ y < x → JJ G E nL (pc + 3) lv st h) : JJ G E nL pc lv (.int y :: .int x :: st) h := by
  obtain ⟨D, A, ad, cA⟩ := G
  obtain ⟨p, l, e, R, s, m, args, below, meth, c, cells, slots, Q⟩ := E
  obtain ⟨hx, hb, hml, hown, hts, hK, hZ, hN, hR⟩ := K
  intro H locs ls hP hD hS hl
  exact lv_icmp_gt hx hb dc ht (fun z => kt z H locs ls hP hD hS hl) (fun z => kf z H locs ls hP hD hS hl)
theorem r_if_le {x : Int32} {off : Int} {tgt : Nat} (K : OK G E d own cc nL) (dc : decode cc pc = .ok (.ifCond .le off, 3)) (ht : (pc : Int) + off = (tgt : Int)) (kt : x ≤ 0 → JJ G E nL tgt lv st h) (kf : ¬ x ≤ 0 → JJ G E nL (pc + 3) lv st h) : JJ G E nL pc lv (.int x :: st) h := by
  obtain ⟨D, A, ad, cA⟩ := G
  obtain ⟨p, l, e, R, s, m, args, below, meth, c, cells, slots, Q⟩ := E
  obtain ⟨hx, hb, hml, hown, hts, hK, hZ, hN, hR⟩ := K
  intro H locs ls hP hD hS hl
  exact lv_if_le hx hb dc ht (fun z => kt z H locs ls hP hD hS hl) (fun z => kf z H locs ls hP hD hS hl)
theorem r_icmp_le {x y : Int32} {off : Int} {tgt : Nat} (K : OK G E d own cc nL) (dc : decode cc pc = .ok (.if_icmp .le off, 3)) (ht : (pc : Int) + off = (tgt : Int)) (kt : x ≤ y → JJ G E nL tgt lv st h) (kf : ¬ x ≤ y → JJ G E nL (pc + 3) lv st h) : JJ G E nL pc lv (.int y :: .int x :: st) h := by
  obtain ⟨D, A, ad, cA⟩ := G
  obtain ⟨p, l, e, R, s, m, args, below, meth, c, cells, slots, Q⟩ := E
  obtain ⟨hx, hb, hml, hown, hts, hK, hZ, hN, hR⟩ := K
  intro H locs ls hP hD hS hl
  exact lv_icmp_le hx hb dc ht (fun z => kt z H locs ls hP hD hS hl) (fun z => kf z H locs ls hP hD hS hl)
theorem r_goto {off : Int} {tgt : Nat} (K : OK G E d own cc nL) (dc : decode cc pc = .ok (.goto off, 3)) (ht : (pc : Int) + off = (tgt : Int)) (k : JJ G E nL tgt lv st h) : JJ G E nL pc lv st h := by
  obtain ⟨D, A, ad, cA⟩ := G
  obtain ⟨p, l, e, R, s, m, args, below, meth, c, cells, slots, Q⟩ := E
  obtain ⟨hx, hb, hml, hown, hts, hK, hZ, hN, hR⟩ := K
  intro H locs ls hP hD hS hl
  exact lv_goto hx hb dc ht (k H locs ls hP hD hS hl)
theorem r_tblIn {dflt lo hi : Int} {offs : Array Int} {len : Nat} {x : Int32} {off : Int} {tgt : Nat} (K : OK G E d own cc nL) (dc : decode cc pc = .ok (.tableswitch dflt lo hi offs, len)) (h1 : ¬ x.toInt < lo) (h2 : ¬ hi < x.toInt) (ho : offs[(x.toInt - lo).toNat]? = some off) (ht : (pc : Int) + off = (tgt : Int)) (k : JJ G E nL tgt lv st h) : JJ G E nL pc lv (.int x :: st) h := by
  obtain ⟨D, A, ad, cA⟩ := G
  obtain ⟨p, l, e, R, s, m, args, below, meth, c, cells, slots, Q⟩ := E
  obtain ⟨hx, hb, hml, hown, hts, hK, hZ, hN, hR⟩ := K
  intro H locs ls hP hD hS hl
  exact lv_tableIn hx hb dc h1 h2 ho ht (k H locs ls hP hD hS hl)
theorem r_tblOut {dflt lo hi : Int} {offs : Array Int} {len : Nat} {x : Int32} {tgt : Nat} (K : OK G E d own cc nL) (dc : decode cc pc = .ok (.tableswitch dflt lo hi offs, len)) (h1 : x.toInt < lo ∨ hi < x.toInt) (ht : (pc : Int) + dflt = (tgt : Int)) (k : JJ G E nL tgt lv st h) : JJ G E nL pc lv (.int x :: st) h := by
  obtain ⟨D, A, ad, cA⟩ := G
  obtain ⟨p, l, e, R, s, m, args, below, meth, c, cells, slots, Q⟩ := E
  obtain ⟨hx, hb, hml, hown, hts, hK, hZ, hN, hR⟩ := K
  intro H locs ls hP hD hS hl
  exact lv_tableOut hx hb dc h1 ht (k H locs ls hP hD hS hl)
theorem r_look {dflt : Int} {ps : Array (Int × Int)} {len : Nat} {x : Int32} {off : Int} {tgt : Nat} (K : OK G E d own cc nL) (dc : decode cc pc = .ok (.lookupswitch dflt ps, len)) (hp : (ps.toList.zip (ps.toList.drop 1)).all (fun (a, next) => a.1 < next.1) = true) (ho : Op.lookupswitch.offset ps.toList dflt x.toInt = off) (ht : (pc : Int) + off = (tgt : Int)) (k : JJ G E nL tgt lv st h) : JJ G E nL pc lv (.int x :: st) h := by
  obtain ⟨D, A, ad, cA⟩ := G
  obtain ⟨p, l, e, R, s, m, args, below, meth, c, cells, slots, Q⟩ := E
  obtain ⟨hx, hb, hml, hown, hts, hK, hZ, hN, hR⟩ := K
  intro H locs ls hP hD hS hl
  exact lv_lookup hx hb dc hp ho ht (k H locs ls hP hD hS hl)
def FL (own : String) (idx ci N k : Nat) : Prop := ∃ (C : String) (T : u_T), vwCl[ci]? = some (C, T, N) ∧ k < N ∧ ci < 20 ∧ (∀ w ∈ u_ws C T N, w ∈ gtbl) ∧ Cond.fieldLink own idx C (T k).2.1 (T k).2.2.1 ∈ gtbl ∧ (T k).1 = C
def FP (own : String) (idx ci N k : Nat) (ty : FieldType) : Prop := ∃ (C : String) (T : u_T) (t0 : Nat → FieldType), vwCl[ci]? = some (C, T, N) ∧ k < N ∧ ci < 20 ∧ (∀ w ∈ u_ws C T N, w ∈ gtbl) ∧ Cond.fieldLink own idx C (T k).2.1 (T k).2.2.1 ∈ gtbl ∧ (T k).1 = C ∧ (∀ k, k < N → parseFieldDescriptor (T k).2.2.1 = some (t0 k)) ∧ (∀ a, a < N → ∀ b, b < N → a ≠ b → (T a).2.1 ≠ (T b).2.1) ∧ (T k).2.2.2 = false ∧ parseFieldDescriptor (T k).2.2.1 = some ty
theorem wd_obj {ad : Nat → Nat} {cA : Nat → ClassId} {o ci N : Nat} (ho : KD o = (ci, N)) (hc : ci < 20) : (Wd ad cA h)[o]? = some (ad o, .inr (ci, (List.range N).map (fldV ad h ci o))) := by
  rw [wd_get (kd_lt (by rw [ho]; show ci < 50; omega)), cell_o ho hc]
theorem r_getI {idx ci N k o : Nat} (K : OK G E d own cc nL) (F : FL own idx ci N k) (dc : decode cc pc = .ok (.getfield idx, 3)) (ho : KD o = (ci, N)) (hr : isR ci k = false) (kk : JJ G E nL (pc + 3) lv (.int (h.1 o k) :: st) h) : JJ G E nL pc lv (.ref o :: st) h := by
  obtain ⟨D, A, ad, cA⟩ := G
  obtain ⟨p, l, e, R, s, m, args, below, meth, c, cells, slots, Q⟩ := E
  obtain ⟨hx, hb, hml, hown, hts, hK, hZ, hN, hR⟩ := K
  intro H locs ls hP hD hS hl
  obtain ⟨C, T, f1, f2, f3, f4, f5, f6⟩ := F
  refine va_get (D := D) hx hb hts f4 hown hK hP o (wd_obj ho f3) f1 k f2 (hts _ f5) (fun x hh => by rw [f6] at hh; exact hh) (v := .int (h.1 o k)) ?_ dc (kk H locs ls hP hD hS hl)
  rw [List.getElem?_map, List.getElem?_range f2]
  show some (fldV ad h ci o k) = _
  unfold fldV
  rw [hr]
  rfl
theorem r_getR {idx ci N k o o' : Nat} (K : OK G E d own cc nL) (F : FL own idx ci N k) (dc : decode cc pc = .ok (.getfield idx, 3)) (ho : KD o = (ci, N)) (hr : isR ci k = true) (he : rf o k = o') (kk : JJ G E nL (pc + 3) lv (.ref o' :: st) h) : JJ G E nL pc lv (.ref o :: st) h := by
  obtain ⟨D, A, ad, cA⟩ := G
  obtain ⟨p, l, e, R, s, m, args, below, meth, c, cells, slots, Q⟩ := E
  obtain ⟨hx, hb, hml, hown, hts, hK, hZ, hN, hR⟩ := K
  intro H locs ls hP hD hS hl
  obtain ⟨C, T, f1, f2, f3, f4, f5, f6⟩ := F
  subst he
  refine va_get (D := D) hx hb hts f4 hown hK hP o (wd_obj ho f3) f1 k f2 (hts _ f5) (fun x hh => by rw [f6] at hh; exact hh) (v := .ref (ad (rf o k))) ?_ dc (kk H locs ls hP hD hS hl)
  rw [List.getElem?_map, List.getElem?_range f2]
  show some (fldV ad h ci o k) = _
  unfold fldV
  rw [hr]
  rfl
theorem r_putT {idx ci N k o : Nat} {v : Int32} {ty : FieldType} (K : OK G E d own cc nL) (F : FP own idx ci N k ty) (dc : decode cc pc = .ok (.putfield idx, 3)) (ho : KD o = (ci, N)) (hr : isR ci k = false) {h1 : AH} (hn : narrow ty (.int v) = .int v) (hf : fits ty (.int v) = true) (he : h1 = wI h o k v) (kk : JJ G E nL (pc + 3) lv st h1) : JJ G E nL pc lv (.int v :: .ref o :: st) h := by
  subst he
  obtain ⟨D, A, ad, cA⟩ := G
  obtain ⟨p, l, e, R, s, m, args, below, meth, c, cells, slots, Q⟩ := E
  obtain ⟨hx, hb, hml, hown, hts, hK, hZ, hN, hR⟩ := K
  intro H locs ls hP hD hS hl
  obtain ⟨C, T, t0, f1, f2, f3, f4, f5, f6, f7, f8, f9, f10⟩ := F
  refine va_put (D := D) hx hb hts f4 t0 f7 f8 hown hK hP hD hS o (wd_obj ho f3) f1 k f2 (hts _ f5) (fun x hh => by rw [f6] at hh; exact hh) f9 (v := .int v) f10 hn hf (by simp; exact f2) dc (fun H' locs' hP' hD' hS' => ?_)
  rw [wd_setF ho f3 hr] at hP' hD'
  exact kk H' locs' ls hP' hD' hS' hl
theorem r_putI {idx ci N k o : Nat} {v : Int32} (K : OK G E d own cc nL) (F : FP own idx ci N k .int) (dc : decode cc pc = .ok (.putfield idx, 3)) (ho : KD o = (ci, N)) (hr : isR ci k = false) {h1 : AH} (he : h1 = wI h o k v) (kk : JJ G E nL (pc + 3) lv st h1) : JJ G E nL pc lv (.int v :: .ref o :: st) h := r_putT K F dc ho hr (vp_nar_int v) rfl he kk
theorem isB_nar {v : Int32} (h : isB v = true) : narrow .boolean (.int v) = .int v ∧ fits .boolean (.int v) = true := by
  unfold isB at h
  rcases (Bool.or_eq_true _ _).mp h with q | q
  · have e := eq_of_beq q
    subst e
    exact ⟨by decide +kernel, by decide +kernel⟩
  · have e := eq_of_beq q
    subst e
    exact ⟨by decide +kernel, by decide +kernel⟩
theorem r_putZ {idx ci N k o : Nat} {v : Int32} (K : OK G E d own cc nL) (F : FP own idx ci N k .boolean) (dc : decode cc pc = .ok (.putfield idx, 3)) (ho : KD o = (ci, N)) (hr : isR ci k = false) (hb2 : isB v = true) {h1 : AH} (he : h1 = wI h o k v) (kk : JJ G E nL (pc + 3) lv st h1) : JJ G E nL pc lv (.int v :: .ref o :: st) h := r_putT K F dc ho hr (isB_nar hb2).1 (isB_nar hb2).2 he kk
theorem wd_arr {ad : Nat → Nat} {cA : Nat → ClassId} {o n : Nat} (ho : KD o = (20, n)) : (Wd ad cA h)[o]? = some (ad o, .inl (cA 20, n, .inl (h.1 o))) := by
  rw [wd_get (kd_lt (by rw [ho]; exact Nat.le_of_ble_eq_true rfl)), cell_i ho]
theorem wd_arrL {ad : Nat → Nat} {cA : Nat → ClassId} {o n : Nat} (ho : KD o = (21, n)) : (Wd ad cA h)[o]? = some (ad o, .inl (cA 21, n, .inr (.inl (h.2 o)))) := by
  rw [wd_get (kd_lt (by rw [ho]; exact Nat.le_of_ble_eq_true rfl)), cell_l ho]
theorem wd_arrC {ad : Nat → Nat} {cA : Nat → ClassId} {o n : Nat} (ho : KD o = (22, n)) : (Wd ad cA h)[o]? = some (ad o, .inl (cA 22, n, .inl (h.1 o))) := by
  rw [wd_get (kd_lt (by rw [ho]; exact Nat.le_of_ble_eq_true rfl)), cell_c ho]
theorem wd_arrR {ad : Nat → Nat} {cA : Nat → ClassId} {o n : Nat} (ho : KD o = (23, n)) : (Wd ad cA h)[o]? = some (ad o, .inl (cA 23, n, .inr (.inr (.inr (.inr (fun k => some (ad (rf o k)))))))) := by
  rw [wd_get (kd_lt (by rw [ho]; exact Nat.le_of_ble_eq_true rfl)), cell_r ho]
theorem r_iald {o n : Nat} {i : Int32} (K : OK G E d own cc nL) (dc : decode cc pc = .ok (.iaload, 1)) (ho : KD o = (20, n)) (hi : inb i n = true) (kk : JJ G E nL (pc + 1) lv (.int (h.1 o (ix i)) :: st) h) : JJ G E nL pc lv (.int i :: .ref o :: st) h := by
  obtain ⟨D, A, ad, cA⟩ := G
  obtain ⟨p, l, e, R, s, m, args, below, meth, c, cells, slots, Q⟩ := E
  obtain ⟨hx, hb, hml, hown, hts, hK, hZ, hN, hR⟩ := K
  intro H locs ls hP hD hS hl
  exact va_iald (D := D) hx hb hK hP o 0 (wd_arr ho) rfl (inb_in hi) dc (kk H locs ls hP hD hS hl)
theorem r_cald {o n : Nat} {i : Int32} (K : OK G E d own cc nL) (dc : decode cc pc = .ok (.caload, 1)) (ho : KD o = (22, n)) (hi : inb i n = true) (kk : JJ G E nL (pc + 1) lv (.int (h.1 o (ix i)) :: st) h) : JJ G E nL pc lv (.int i :: .ref o :: st) h := by
  obtain ⟨D, A, ad, cA⟩ := G
  obtain ⟨p, l, e, R, s, m, args, below, meth, c, cells, slots, Q⟩ := E
  obtain ⟨hx, hb, hml, hown, hts, hK, hZ, hN, hR⟩ := K
  intro H locs ls hP hD hS hl
  exact va_cald (D := D) hx hb hK hP o 2 (wd_arrC ho) rfl (inb_in hi) dc (kk H locs ls hP hD hS hl)
theorem r_lald {o n : Nat} {i : Int32} (K : OK G E d own cc nL) (dc : decode cc pc = .ok (.laload, 1)) (ho : KD o = (21, n)) (hi : inb i n = true) (kk : JJ G E nL (pc + 1) lv (.long (h.2 o (ix i)) :: st) h) : JJ G E nL pc lv (.int i :: .ref o :: st) h := by
  obtain ⟨D, A, ad, cA⟩ := G
  obtain ⟨p, l, e, R, s, m, args, below, meth, c, cells, slots, Q⟩ := E
  obtain ⟨hx, hb, hml, hown, hts, hK, hZ, hN, hR⟩ := K
  intro H locs ls hP hD hS hl
  exact va_lald (D := D) hx hb hK hP o 1 (wd_arrL ho) rfl (inb_in hi) dc (kk H locs ls hP hD hS hl)
theorem r_aald {o n : Nat} {i : Int32} (K : OK G E d own cc nL) (dc : decode cc pc = .ok (.aaload, 1)) (ho : KD o = (23, n)) (hi : inb i n = true) (kk : JJ G E nL (pc + 1) lv (.ref (rf o (ix i)) :: st) h) : JJ G E nL pc lv (.int i :: .ref o :: st) h := by
  obtain ⟨D, A, ad, cA⟩ := G
  obtain ⟨p, l, e, R, s, m, args, below, meth, c, cells, slots, Q⟩ := E
  obtain ⟨hx, hb, hml, hown, hts, hK, hZ, hN, hR⟩ := K
  intro H locs ls hP hD hS hl
  exact va_aldq (D := D) hx hb hK hP o 3 (wd_arrR ho) rfl (inb_in hi) dc (kk H locs ls hP hD hS hl)
theorem r_iast {o n : Nat} {i v : Int32} (K : OK G E d own cc nL) (dc : decode cc pc = .ok (.iastore, 1)) (ho : KD o = (20, n)) (hi : inb i n = true) {h1 : AH} (he : h1 = wI h o (ix i) v) (kk : JJ G E nL (pc + 1) lv st h1) : JJ G E nL pc lv (.int v :: .int i :: .ref o :: st) h := by
  subst he
  obtain ⟨D, A, ad, cA⟩ := G
  obtain ⟨p, l, e, R, s, m, args, below, meth, c, cells, slots, Q⟩ := E
  obtain ⟨hx, hb, hml, hown, hts, hK, hZ, hN, hR⟩ := K
  intro H locs ls hP hD hS hl
  refine va_iast (D := D) hx hb hK hP hD hS o 0 (wd_arr ho) rfl (inb_in hi) dc (fun H' locs' hP' hD' hS' => ?_)
  rw [wd_setI ho] at hP' hD'
  exact kk H' locs' ls hP' hD' hS' hl
theorem r_last {o n : Nat} {i : Int32} {v : Int64} (K : OK G E d own cc nL) (dc : decode cc pc = .ok (.lastore, 1)) (ho : KD o = (21, n)) (hi : inb i n = true) {h1 : AH} (he : h1 = wL h o (ix i) v) (kk : JJ G E nL (pc + 1) lv st h1) : JJ G E nL pc lv (.long v :: .int i :: .ref o :: st) h := by
  subst he
  obtain ⟨D, A, ad, cA⟩ := G
  obtain ⟨p, l, e, R, s, m, args, below, meth, c, cells, slots, Q⟩ := E
  obtain ⟨hx, hb, hml, hown, hts, hK, hZ, hN, hR⟩ := K
  intro H locs ls hP hD hS hl
  refine va_last (D := D) hx hb hK hP hD hS o 1 (wd_arrL ho) rfl (inb_in hi) dc (fun H' locs' hP' hD' hS' => ?_)
  rw [wd_setL ho] at hP' hD'
  exact kk H' locs' ls hP' hD' hS' hl
theorem r_alen {o n : Nat} {v : Int32} (K : OK G E d own cc nL) (dc : decode cc pc = .ok (.arraylength, 1)) (ho : KD o = (20, n)) (hv : Int32.ofNat n = v) (kk : JJ G E nL (pc + 1) lv (.int v :: st) h) : JJ G E nL pc lv (.ref o :: st) h := by
  obtain ⟨D, A, ad, cA⟩ := G
  obtain ⟨p, l, e, R, s, m, args, below, meth, c, cells, slots, Q⟩ := E
  obtain ⟨hx, hb, hml, hown, hts, hK, hZ, hN, hR⟩ := K
  intro H locs ls hP hD hS hl
  exact va_alen (D := D) hx hb hK hP o 0 (wd_arr ho) (ty := .int) rfl hv dc (kk H locs ls hP hD hS hl)
def GS (own : String) (idx q : Nat) : Prop := ∃ e : Nat × String × String × Nat, e ∈ STN ∧ e.1 = q ∧ Cond.fieldLink own idx e.2.1 e.2.2.1 "[I" ∈ gtbl
theorem r_gets {idx q : Nat} (K : OK G E d own cc nL) (F : GS own idx q) (dc : decode cc pc = .ok (.getstatic idx, 3)) (kk : JJ G E nL (pc + 3) lv (.ref q :: st) h) : JJ G E nL pc lv st h := by
  obtain ⟨D, A, ad, cA⟩ := G
  obtain ⟨p, l, e, R, s, m, args, below, meth, c, cells, slots, Q⟩ := E
  obtain ⟨hx, hb, hml, hown, hts, hK, hZ, hN, hR⟩ := K
  intro H locs ls hP hD hS hl
  obtain ⟨e1, f1, f2, f3⟩ := F
  subst f2
  exact va_gets hx hb (hZ e1 f1).1 hS hown (hts _ f3) (fun x hh => hh) dc (kk H locs ls hP hD hS hl)
def SL (q n : Nat) : Prop := ∃ e : Nat × String × String × Nat, e ∈ STN ∧ e.1 = q ∧ e.2.2.2 = n
theorem r_sald {o n : Nat} {i : Int32} (K : OK G E d own cc nL) (dc : decode cc pc = .ok (.iaload, 1)) (ho : SL o n) (hi : inb i n = true) (kk : JJ G E nL (pc + 1) lv (.int (ST o (ix i)) :: st) h) : JJ G E nL pc lv (.int i :: .ref o :: st) h := by
  obtain ⟨D, A, ad, cA⟩ := G
  obtain ⟨p, l, e, R, s, m, args, below, meth, c, cells, slots, Q⟩ := E
  obtain ⟨hx, hb, hml, hown, hts, hK, hZ, hN, hR⟩ := K
  intro H locs ls hP hD hS hl
  obtain ⟨e1, f1, f2, f3⟩ := ho
  subst f2
  subst f3
  obtain ⟨cell, g1, g2, g3, g4, g5, g6, g7⟩ := (hZ e1 f1).2.kept hS.2.1
  have hin := inb_in hi
  have hlt : i.toNatClampNeg < e1.2.2.2 := Nat.not_le.mp fun q => hin (Or.inr q)
  exact W.iald (v := .int (ST e1.1 i.toNatClampNeg)) hx hb g1 g2 g3 (fun q => hin (q.imp id (fun z => Nat.le_trans g4 z))) (g6 _ hlt) rfl rfl dc (kk H locs ls hP hD hS hl)
theorem r_slen {o n : Nat} {v : Int32} (K : OK G E d own cc nL) (dc : decode cc pc = .ok (.arraylength, 1)) (ho : SL o n) (hv : Int32.ofNat n = v) (kk : JJ G E nL (pc + 1) lv (.int v :: st) h) : JJ G E nL pc lv (.ref o :: st) h := by
  obtain ⟨D, A, ad, cA⟩ := G
  obtain ⟨p, l, e, R, s, m, args, below, meth, c, cells, slots, Q⟩ := E
  obtain ⟨hx, hb, hml, hown, hts, hK, hZ, hN, hR⟩ := K
  intro H locs ls hP hD hS hl
  obtain ⟨e1, f1, f2, f3⟩ := ho
  subst f2
  subst f3
  subst hv
  obtain ⟨cell, g1, g2, g3, g4, g5, g6, g7⟩ := (hZ e1 f1).2.kept hS.2.1
  exact W.alen hx hb g1 g2 g5 rfl rfl dc (kk H locs ls hP hD hS hl)
theorem r_iret {h' : AH} {v rv : Int32} (K : OK G E d own cc nL) (Z : RT G E (some .int) (some (.int rv)) h') (dc : decode cc pc = .ok (.ireturn, 1))  (hf : some (v, h) = some (rv, h')) : JJ G E nL pc lv [.int v] h := by
  obtain ⟨D, A, ad, cA⟩ := G
  obtain ⟨p, l, e, R, s, m, args, below, meth, c, cells, slots, Q⟩ := E
  obtain ⟨hx, hb, hml, hown, hts, hK, hZ, hN, hR⟩ := K
  intro H locs ls hP hD hS hl
  obtain ⟨z1, z2, z3, z4, z5⟩ := Z
  subst z3; subst z4; subst z5
  cases hf
  exact W.iret (Qc := QcJ _ _ _) hx hb z1 (fun t ht hW => ⟨⟨rfl, by rw [ht]; exact hP, hD⟩, hS.F ht⟩) hS.2.2 dc z2
theorem r_zret {h' : AH} {v rv : Int32} (K : OK G E d own cc nL) (Z : RT G E (some .boolean) (some (.int rv)) h') (dc : decode cc pc = .ok (.ireturn, 1)) (hv : isB v = true) (hf : some (v, h) = some (rv, h')) : JJ G E nL pc lv [.int v] h := by
  obtain ⟨D, A, ad, cA⟩ := G
  obtain ⟨p, l, e, R, s, m, args, below, meth, c, cells, slots, Q⟩ := E
  obtain ⟨hx, hb, hml, hown, hts, hK, hZ, hN, hR⟩ := K
  intro H locs ls hP hD hS hl
  obtain ⟨z1, z2, z3, z4, z5⟩ := Z
  subst z3; subst z4; subst z5
  cases hf
  exact W.zret (Qc := QcJ _ _ _) hx hb z1 (isB_nar hv).1 (fun t ht hW => ⟨⟨rfl, by rw [ht]; exact hP, hD⟩, hS.F ht⟩) hS.2.2 dc z2
theorem r_lret {h' : AH} {v rv : Int64} (K : OK G E d own cc nL) (Z : RT G E (some .long) (some (.long rv)) h') (dc : decode cc pc = .ok (.lreturn, 1))  (hf : some (v, h) = some (rv, h')) : JJ G E nL pc lv [.long v] h := by
  obtain ⟨D, A, ad, cA⟩ := G
  obtain ⟨p, l, e, R, s, m, args, below, meth, c, cells, slots, Q⟩ := E
  obtain ⟨hx, hb, hml, hown, hts, hK, hZ, hN, hR⟩ := K
  intro H locs ls hP hD hS hl
  obtain ⟨z1, z2, z3, z4, z5⟩ := Z
  subst z3; subst z4; subst z5
  cases hf
  exact W.lret (Qc := QcJ _ _ _) hx hb z1 (fun t ht hW => ⟨⟨rfl, by rw [ht]; exact hP, hD⟩, hS.F ht⟩) hS.2.2 dc z2
theorem r_vret {h' : AH}  (K : OK G E d own cc nL) (Z : RT G E (none) (none) h') (dc : decode cc pc = .ok (.return_, 1))  (hf : some h = some h') : JJ G E nL pc lv [] h := by
  obtain ⟨D, A, ad, cA⟩ := G
  obtain ⟨p, l, e, R, s, m, args, below, meth, c, cells, slots, Q⟩ := E
  obtain ⟨hx, hb, hml, hown, hts, hK, hZ, hN, hR⟩ := K
  intro H locs ls hP hD hS hl
  obtain ⟨z1, z2, z3, z4, z5⟩ := Z
  subst z3; subst z4; subst z5
  cases hf
  exact W.vret (Qc := QcJ _ _ _) hx hb z1 (fun t ht hW => ⟨⟨rfl, by rw [ht]; exact hP, hD⟩, hS.F ht⟩) hS.2.2 dc z2
theorem r_aret {h' : AH} {v rv : Nat} (K : OK G E d own cc nL) (Z : RT G E (some (.array .int)) (some (.ref rv)) h') (dc : decode cc pc = .ok (.areturn, 1))  (hf : some (v, h) = some (rv, h')) : JJ G E nL pc lv [.ref v] h := by
  obtain ⟨D, A, ad, cA⟩ := G
  obtain ⟨p, l, e, R, s, m, args, below, meth, c, cells, slots, Q⟩ := E
  obtain ⟨hx, hb, hml, hown, hts, hK, hZ, hN, hR⟩ := K
  intro H locs ls hP hD hS hl
  obtain ⟨z1, z2, z3, z4, z5⟩ := Z
  subst z3; subst z4; subst z5
  cases hf
  exact W.aret (Qc := QcJ _ _ _) hx hb z1 (Or.inr ⟨_, rfl⟩) (Or.inr ⟨_, rfl⟩) (fun t ht hW => ⟨⟨rfl, by rw [ht]; exact hP, hD⟩, hS.F ht⟩) hS.2.2 dc z2
theorem r_nmI {x y : Int32} (e : y = x) (k : JJ G E nL pc lv (.int y :: st) h) : JJ G E nL pc lv (.int x :: st) h := e ▸ k
theorem r_nmL {x y : Int64} (e : y = x) (k : JJ G E nL pc lv (.long y :: st) h) : JJ G E nL pc lv (.long x :: st) h := e ▸ k
theorem r_nmR {x y : Nat} (e : y = x) (k : JJ G E nL pc lv (.ref y :: st) h) : JJ G E nL pc lv (.ref x :: st) h := e ▸ k
def letV {α β : Type} (x : α) (f : α → β) : β := f x
def bind2 {α β : Type} (o : Option (α × AH)) (f : α → AH → Option β) : Option β := match o with
  | none => none
  | some q => f q.1 q.2
def bindV {β : Type} (o : Option AH) (f : AH → Option β) : Option β := match o with
  | none => none
  | some q => f q
theorem e_t {α : Type} {c : Prop} {i : Decidable c} {a b x : α} (hf : (if c then a else b) = x) (hc : c) : a = x := by rw [if_pos hc] at hf; exact hf
theorem e_f {α : Type} {c : Prop} {i : Decidable c} {a b x : α} (hf : (if c then a else b) = x) (hc : ¬ c) : b = x := by rw [if_neg hc] at hf; exact hf
theorem e_g {α : Type} {c : Prop} {i : Decidable c} {a : Option α} {x : α} (hf : (if c then a else none) = some x) : c ∧ a = some x := by
  by_cases hc : c
  · rw [if_pos hc] at hf; exact ⟨hc, hf⟩
  · rw [if_neg hc] at hf; cases hf
theorem e_n {α : Type} {c : Prop} {i : Decidable c} {a : Option α} {x : α} (hf : (if c then none else a) = some x) : ¬ c ∧ a = some x := by
  by_cases hc : c
  · rw [if_pos hc] at hf; cases hf
  · rw [if_neg hc] at hf; exact ⟨hc, hf⟩
theorem e_l {α β : Type} {x : α} {f : α → β} {y : β} (hf : letV x f = y) : ∃ z, z = x ∧ f z = y := ⟨x, rfl, hf⟩
theorem e_2 {α β : Type} {o : Option (α × AH)} {f : α → AH → Option β} {x : β} (hf : bind2 o f = some x) : ∃ (r : α) (h : AH), o = some (r, h) ∧ f r h = some x := by
  cases o with
  | none => cases hf
  | some q => exact ⟨q.1, q.2, rfl, hf⟩
theorem e_v {β : Type} {o : Option AH} {f : AH → Option β} {x : β} (hf : bindV o f = some x) : ∃ h : AH, o = some h ∧ f h = some x := by
  cases o with
  | none => cases hf
  | some q => exact ⟨q, rfl, hf⟩
def FU : Nat := 4000
end ROWS
end
section
section CALLS
variable {G : GG} {E : EE} {d : Nat} {own : String} {cc : ByteArray} {nL pc : Nat} {lv : List (Nat × Value)} {st : List Value} {h : AH}
def LV (own : String) (idx ci N : Nat) (y : MethodName) : Prop := Cond.methodLink own idx y ∈ gtbl ∧ Cond.instanceMethod y ∈ gtbl ∧ Cond.selects y.cls y y ∈ gtbl ∧ ci < 20 ∧ ∃ T : u_T, vwCl[ci]? = some (y.cls, T, N)
def LSt (own : String) (idx : Nat) (y : MethodName) : Prop := Cond.methodLink own idx y ∈ gtbl ∧ Cond.static y ∈ gtbl
def LVN (own : String) (idx ci N : Nat) (y : MethodName) : Prop := (own, idx, y, RX9) ∈ NWL ∧ Cond.instanceMethod y ∈ gtbl ∧ Cond.selects y.cls y y ∈ gtbl ∧ ci < 20 ∧ ∃ T : u_T, vwCl[ci]? = some (y.cls, T, N)
def LSN (own : String) (idx : Nat) (y : MethodName) : Prop := (own, idx, y, RX9) ∈ NWL ∧ Cond.static y ∈ gtbl
theorem mw_good {y : MethodName} {bb : ByteArray} {maxL n : Nat} {ret : Option FieldType} (M : MW y bb maxL ret n) : GoodIn gtbl (Cond.code y bb maxL ret :: gtbl) := g_good (fun w hw => (List.mem_cons.mp hw).elim (fun q => by rw [q]; exact M.1) id)
theorem call_go {p : Program} {l : Launch} {e : Env} {R : Room} {s : State} {m : MethodId} {args : Array Value} {below : List Frame} {meth : Method} {c : Code} {H : Heap} {locs : List Loc} {cells slots : Nat} {Q : State → Prop} {ls : Array Slot} {rest st0 : List Value} {a : Array Value} {D : va_G} {A : Nat → Prop} {ad : Nat → Nat} {cA : Nat → ClassId} {H0 : Heap} {r : Option Value} {h' : AH}
    (hr : va_Run p l e R s m args below meth c H locs cells slots 0 0 (F0 m pc ls st0) rest (QcJ (D, A, ad, cA) r h' a) A) (hS : va_S A H0 H locs)
    (kk : ∀ (H1 : Heap) (locs1 : List Loc), va_P D vwCl (Wd ad cA h') H1 → va_D A (Wd ad cA h') → va_S A H0 H1 locs1 → W p l e R s m args below meth c H1 locs1 cells slots Q (F0 m (pc + 3) ls ((r.map (cv ad)).toList ++ rest))) : W p l e R s m args below meth c H locs cells slots Q (F0 m pc ls st0) := by
  intro T hT X
  obtain ⟨v, st₀, t, T', L, h0, X', hL, e1, e2, ⟨⟨hv, hP, hD⟩, hz, hk⟩, st⟩ := hr T hT X
  cases hv
  rw [h0] at hz hk
  obtain ⟨t2, a1, b1⟩ := kk T'.heap (locs ++ L) (by rw [e1]; exact hP) hD
    ⟨Nat.le_trans hS.1 (by rw [e1]; exact hz), fun q h1 h2 => by rw [e1, hk q (Nat.lt_of_lt_of_le h1 hS.1) h2]; exact hS.2.1 q h1 h2, fun q hq => by
      rcases List.mem_append.mp hq with h | h
      · exact hS.2.2 q h
      · exact hL q h⟩ T' rfl X'
  exact ⟨t2, st t2 a1, b1⟩
theorem pre_of {D : va_G} {A : Nat → Prop} {ad : Nat → Nat} {cA : Nat → ClassId} {s : State} {H : Heap} {locs : List Loc} {av : List Value} (hP : va_P D vwCl (Wd ad cA h) H) (hD : va_D A (Wd ad cA h)) (hS : va_S A s.heap H locs) (hK : va_K D vwCl (tyL cA) s) (hZ : SF (D, A, ad, cA) s s.heap) (hN : NW s) (U : State) (hU : U.heap = H) (hW : s.WarmedH U.vm) : va_Pc (av.map (cv ad)) (Wpre (D, A, ad, cA) h) (av.map (cv ad)).toArray U :=
  ⟨rfl, by rw [hU]; exact hP, hD, hK.moved hW.alike, by rw [hU]; exact (hZ.kept hS.2.1).moved hW.alike, hN.warm hW⟩
theorem blind_of {G : GG} {av : List Value} : FrameBlind (va_Pc av (Wpre G h)) := fun a U g mk q => by
  obtain ⟨q0, qP, qD, qK, qZ, qN⟩ := q
  exact ⟨q0, qP, qD, va_K.moved (u := U) (U := U.calling g mk a) (Vm.Alike.refl U.vm) qK, SF.moved (u := U) (U := U.calling g mk a) (Vm.Alike.refl U.vm) qZ, NW.same (u := U) (U := U.calling g mk a) rfl qN⟩
theorem rm_ok {R : Room} {maxL d' : Nat} (hd : d' + 1 ≤ d) (hL : maxL ≤ 20) (h1 : d ≤ R.frames) (h2 : 60 * d ≤ R.locals) : (rmD d').frames + 1 ≤ R.frames ∧ 8 + (maxL + 11) + (rmD d').locals ≤ R.locals := by
  show d' + 1 ≤ R.frames ∧ 8 + (maxL + 11) + 60 * d' ≤ R.locals
  omega
theorem rm_ge {d : Nat} : True := trivial

set_option maxHeartbeats 1000000 in
theorem r_callV {idx d' maxL n : Nat} {o ci N : Nat} {y : MethodName} {bb : ByteArray} {ret : Option FieldType} {av st0 : List Value} {r : Option Value} {h' : AH} (K : OK G E d own cc nL) (L : LV own idx ci N y) (M : MW y bb maxL ret n) (C : Con G d' y bb maxL ret (.ref o :: av) h r h') (dc : decode cc pc = .ok (.invokevirtual idx, 3)) (ho : KD o = (ci, N)) (hd : d' + 1 ≤ d) (hn : av.length = n) (hst : av.reverse ++ .ref o :: st = st0) (hw : (st.map fun v => v.category).sum ≤ 8) (k : JJ G E nL (pc + 3) lv (r.toList ++ st) h') : JJ G E nL pc lv st0 h := by
  obtain ⟨D, A, ad, cA⟩ := G
  obtain ⟨p, l, e, R, s, m, args, below, meth, c, cells, slots, Q⟩ := E
  obtain ⟨hx, hb, hml, hown, hts, hK, hZ, hN, hR⟩ := K
  intro H locs ls hP hD hS hl
  subst hst
  have hblind : FrameBlind (va_Pc ((.ref o :: av).map (cv ad)) (Wpre (D, A, ad, cA) h)) := blind_of
  have hrm := rm_ok (maxL := maxL) hd M.2.2.2.2 hR.1 hR.2.1
  obtain ⟨g1, g2, g3, g4, T0, g5⟩ := L
  have hpv : PreV s H y.cls (ad o) (va_Pc ((.ref o :: av).map (cv ad)) (Wpre (D, A, ad, cA) h)) (av.map (cv ad)) := ⟨hblind, va_recv hK hP (ci := ci) (q0 := o) g5 (wd_obj ho g4), fun U hU hW => pre_of (av := .ref o :: av) hP hD hS hK hZ hN U hU hW⟩
  have hrun := va_runV (l := l) (e := e) (R := R) (below := below) (meth := meth) (locs := locs) (cells := cells) (slots := slots) (g := F0 m pc ls ((av.reverse ++ .ref o :: st).map (cv ad))) (As := av.map (cv ad)) (rest := st.map (cv ad)) (⟨hx, hb, hml, hown, hts⟩ : CallFix p m c cc nL s args gtbl own) (C l) ⟨(callB_of (ws := Cond.code y bb maxL ret :: gtbl) n hts (mw_good M) rfl rfl rfl (hts _ M.2.1) (hts _ g1) M.2.2.1 hrm), hts _ g2, hts _ g3⟩ hpv rfl (by rw [List.length_map]; exact hn) hl.1 (by show (av.reverse ++ .ref o :: st).map (cv ad) = (av.map (cv ad)).reverse ++ .ref (ad o) :: st.map (cv ad); rw [List.map_append, List.map_reverse]; rfl) (lv_room (m := m) (pc := pc) (ls := ls) (rest := []) (by rw [cv_cats]; exact hw)) dc ⟨by rw [Nat.add_zero]; exact hR.2.2.1, by rw [Nat.add_zero]; exact hR.2.2.2⟩
  refine call_go hrun hS (fun H1 locs1 hP1 hD1 hS1 => ?_)
  have hk := k H1 locs1 ls hP1 hD1 hS1 hl
  have e9 : (r.toList ++ st).map (cv ad) = (r.map (cv ad)).toList ++ st.map (cv ad) := by
    rw [List.map_append]
    cases r <;> rfl
  rw [e9] at hk
  exact hk
set_option maxHeartbeats 1000000 in
theorem r_callS {idx d' maxL n : Nat} {y : MethodName} {bb : ByteArray} {ret : Option FieldType} {av st0 : List Value} {r : Option Value} {h' : AH} (K : OK G E d own cc nL) (L : LSt own idx y) (M : MW y bb maxL ret n) (C : Con G d' y bb maxL ret av h r h') (dc : decode cc pc = .ok (.invokestatic idx, 3)) (hd : d' + 1 ≤ d) (hn : av.length = n) (hst : av.reverse ++ st = st0) (hw : (st.map fun v => v.category).sum ≤ 8) (k : JJ G E nL (pc + 3) lv (r.toList ++ st) h') : JJ G E nL pc lv st0 h := by
  obtain ⟨D, A, ad, cA⟩ := G
  obtain ⟨p, l, e, R, s, m, args, below, meth, c, cells, slots, Q⟩ := E
  obtain ⟨hx, hb, hml, hown, hts, hK, hZ, hN, hR⟩ := K
  intro H locs ls hP hD hS hl
  subst hst
  have hblind : FrameBlind (va_Pc (av.map (cv ad)) (Wpre (D, A, ad, cA) h)) := blind_of
  have hrm := rm_ok (maxL := maxL) hd M.2.2.2.2 hR.1 hR.2.1
  obtain ⟨g1, g2⟩ := L
  have hpv : PreS s H (va_Pc (av.map (cv ad)) (Wpre (D, A, ad, cA) h)) (av.map (cv ad)) := ⟨hblind, fun U hU hW => pre_of (av := av) hP hD hS hK hZ hN U hU hW⟩
  have hrun := va_runS (l := l) (e := e) (R := R) (below := below) (meth := meth) (locs := locs) (cells := cells) (slots := slots) (g := F0 m pc ls ((av.reverse ++ st).map (cv ad))) (As := av.map (cv ad)) (rest := st.map (cv ad)) (⟨hx, hb, hml, hown, hts⟩ : CallFix p m c cc nL s args gtbl own) (C l) ⟨(callB_of (ws := Cond.code y bb maxL ret :: gtbl) n hts (mw_good M) rfl rfl rfl (hts _ M.2.1) (hts _ g1) M.2.2.1 hrm), hts _ g2⟩ hpv rfl (by rw [List.length_map]; exact hn) hl.1 (by show (av.reverse ++ st).map (cv ad) = (av.map (cv ad)).reverse ++ st.map (cv ad); rw [List.map_append, List.map_reverse]) (lv_room (m := m) (pc := pc) (ls := ls) (rest := []) (by rw [cv_cats]; exact hw)) dc ⟨by rw [Nat.add_zero]; exact hR.2.2.1, by rw [Nat.add_zero]; exact hR.2.2.2⟩
  refine call_go hrun hS (fun H1 locs1 hP1 hD1 hS1 => ?_)
  have hk := k H1 locs1 ls hP1 hD1 hS1 hl
  have e9 : (r.toList ++ st).map (cv ad) = (r.map (cv ad)).toList ++ st.map (cv ad) := by
    rw [List.map_append]
    cases r <;> rfl
  rw [e9] at hk
  exact hk
set_option maxHeartbeats 1000000 in
theorem r_callVN {idx d' maxL n : Nat} {o ci N : Nat} {y : MethodName} {bb : ByteArray} {ret : Option FieldType} {av st0 : List Value} {r : Option Value} {h' : AH} (K : OK G E d own cc nL) (L : LVN own idx ci N y) (M : MW y bb maxL ret n) (C : Con G d' y bb maxL ret (.ref o :: av) h r h') (dc : decode cc pc = .ok (.invokevirtual idx, 3)) (ho : KD o = (ci, N)) (hd : d' + 1 ≤ d) (hn : av.length = n) (hst : av.reverse ++ .ref o :: st = st0) (hw : (st.map fun v => v.category).sum ≤ 8) (k : JJ G E nL (pc + 3) lv (r.toList ++ st) h') : JJ G E nL pc lv st0 h := by
  obtain ⟨D, A, ad, cA⟩ := G
  obtain ⟨p, l, e, R, s, m, args, below, meth, c, cells, slots, Q⟩ := E
  obtain ⟨hx, hb, hml, hown, hts, hK, hZ, hN, hR⟩ := K
  intro H locs ls hP hD hS hl
  subst hst
  have hblind : FrameBlind (va_Pc ((.ref o :: av).map (cv ad)) (Wpre (D, A, ad, cA) h)) := blind_of
  have hrm := rm_ok (maxL := maxL) hd M.2.2.2.2 hR.1 hR.2.1
  obtain ⟨g1, g2, g3, g4, T0, g5⟩ := L
  have hpv : PreV s H y.cls (ad o) (va_Pc ((.ref o :: av).map (cv ad)) (Wpre (D, A, ad, cA) h)) (av.map (cv ad)) := ⟨hblind, va_recv hK hP (ci := ci) (q0 := o) g5 (wd_obj ho g4), fun U hU hW => pre_of (av := .ref o :: av) hP hD hS hK hZ hN U hU hW⟩
  have hrun := va_runVN (l := l) (e := e) (R := R) (below := below) (meth := meth) (locs := locs) (cells := cells) (slots := slots) (g := F0 m pc ls ((av.reverse ++ .ref o :: st).map (cv ad))) (As := av.map (cv ad)) (rest := st.map (cv ad)) (⟨hx, hb, hml, hown, hts⟩ : CallFix p m c cc nL s args gtbl own) (C l) ⟨(va_cnB (ws := Cond.code y bb maxL ret :: gtbl) n hts (mw_good M) rfl rfl rfl (hN _ g1) (hts _ M.2.1) M.2.2.1 hrm), hts _ g2, hts _ g3⟩ hpv rfl (by rw [List.length_map]; exact hn) hl.1 (by show (av.reverse ++ .ref o :: st).map (cv ad) = (av.map (cv ad)).reverse ++ .ref (ad o) :: st.map (cv ad); rw [List.map_append, List.map_reverse]; rfl) (lv_room (m := m) (pc := pc) (ls := ls) (rest := []) (by rw [cv_cats]; exact hw)) dc ⟨by rw [Nat.add_zero]; exact hR.2.2.1, by rw [Nat.add_zero]; exact hR.2.2.2⟩
  refine call_go hrun hS (fun H1 locs1 hP1 hD1 hS1 => ?_)
  have hk := k H1 locs1 ls hP1 hD1 hS1 hl
  have e9 : (r.toList ++ st).map (cv ad) = (r.map (cv ad)).toList ++ st.map (cv ad) := by
    rw [List.map_append]
    cases r <;> rfl
  rw [e9] at hk
  exact hk
set_option maxHeartbeats 1000000 in
theorem r_callSN {idx d' maxL n : Nat} {y : MethodName} {bb : ByteArray} {ret : Option FieldType} {av st0 : List Value} {r : Option Value} {h' : AH} (K : OK G E d own cc nL) (L : LSN own idx y) (M : MW y bb maxL ret n) (C : Con G d' y bb maxL ret av h r h') (dc : decode cc pc = .ok (.invokestatic idx, 3)) (hd : d' + 1 ≤ d) (hn : av.length = n) (hst : av.reverse ++ st = st0) (hw : (st.map fun v => v.category).sum ≤ 8) (k : JJ G E nL (pc + 3) lv (r.toList ++ st) h') : JJ G E nL pc lv st0 h := by
  obtain ⟨D, A, ad, cA⟩ := G
  obtain ⟨p, l, e, R, s, m, args, below, meth, c, cells, slots, Q⟩ := E
  obtain ⟨hx, hb, hml, hown, hts, hK, hZ, hN, hR⟩ := K
  intro H locs ls hP hD hS hl
  subst hst
  have hblind : FrameBlind (va_Pc (av.map (cv ad)) (Wpre (D, A, ad, cA) h)) := blind_of
  have hrm := rm_ok (maxL := maxL) hd M.2.2.2.2 hR.1 hR.2.1
  obtain ⟨g1, g2⟩ := L
  have hpv : PreS s H (va_Pc (av.map (cv ad)) (Wpre (D, A, ad, cA) h)) (av.map (cv ad)) := ⟨hblind, fun U hU hW => pre_of (av := av) hP hD hS hK hZ hN U hU hW⟩
  have hrun := va_runSN (l := l) (e := e) (R := R) (below := below) (meth := meth) (locs := locs) (cells := cells) (slots := slots) (g := F0 m pc ls ((av.reverse ++ st).map (cv ad))) (As := av.map (cv ad)) (rest := st.map (cv ad)) (⟨hx, hb, hml, hown, hts⟩ : CallFix p m c cc nL s args gtbl own) (C l) ⟨(va_cnB (ws := Cond.code y bb maxL ret :: gtbl) n hts (mw_good M) rfl rfl rfl (hN _ g1) (hts _ M.2.1) M.2.2.1 hrm), hts _ g2, trivial⟩ hpv rfl (by rw [List.length_map]; exact hn) hl.1 (by show (av.reverse ++ st).map (cv ad) = (av.map (cv ad)).reverse ++ st.map (cv ad); rw [List.map_append, List.map_reverse]) (lv_room (m := m) (pc := pc) (ls := ls) (rest := []) (by rw [cv_cats]; exact hw)) dc ⟨by rw [Nat.add_zero]; exact hR.2.2.1, by rw [Nat.add_zero]; exact hR.2.2.2⟩
  refine call_go hrun hS (fun H1 locs1 hP1 hD1 hS1 => ?_)
  have hk := k H1 locs1 ls hP1 hD1 hS1 hl
  have e9 : (r.toList ++ st).map (cv ad) = (r.map (cv ad)).toList ++ st.map (cv ad) := by
    rw [List.map_append]
    cases r <;> rfl
  rw [e9] at hk
  exact hk
theorem r_mmax {idx : Nat} {x y : Int32} (K : OK G E d own cc nL) (L : Cond.methodLink own idx Lib.Math.max.name ∈ gtbl ∧ Cond.static Lib.Math.max.name ∈ gtbl ∧ Cond.initialized "java/lang/Math" ∈ gtbl ∧ Cond.code Lib.Math.max.name Lib.Math.max.code 2 (some .int) ∈ gtbl) (dc : decode cc pc = .ok (.invokestatic idx, 3)) (hd : 1 ≤ d) (hw : (st.map fun v => v.category).sum ≤ 8) (k : JJ G E nL (pc + 3) lv (.int (if x < y then y else x) :: st) h) : JJ G E nL pc lv (.int y :: .int x :: st) h := by
  obtain ⟨D, A, ad, cA⟩ := G
  obtain ⟨p, l, e, R, s, m, args, below, meth, c, cells, slots, Q⟩ := E
  obtain ⟨hx, hb, hml, hown, hts, hK, hZ, hN, hR⟩ := K
  intro H locs ls hP hD hS hl
  exact va_mmax hx hb (by rw [hml]; exact hl.1.symm) hown (hts _ L.1) (hts _ L.2.1) (hts _ L.2.2.1) (hts _ L.2.2.2) (by have := hR.1; omega) (by rw [cv_cats]; have := hR.2.1; omega) hR.2.2.1 hR.2.2.2 dc (k H locs ls hP hD hS hl)
theorem r_mmin {idx : Nat} {x y : Int32} (K : OK G E d own cc nL) (L : Cond.methodLink own idx Lib.Math.min.name ∈ gtbl ∧ Cond.static Lib.Math.min.name ∈ gtbl ∧ Cond.initialized "java/lang/Math" ∈ gtbl ∧ Cond.code Lib.Math.min.name Lib.Math.min.code 2 (some .int) ∈ gtbl) (dc : decode cc pc = .ok (.invokestatic idx, 3)) (hd : 1 ≤ d) (hw : (st.map fun v => v.category).sum ≤ 8) (k : JJ G E nL (pc + 3) lv (.int (if y < x then y else x) :: st) h) : JJ G E nL pc lv (.int y :: .int x :: st) h := by
  obtain ⟨D, A, ad, cA⟩ := G
  obtain ⟨p, l, e, R, s, m, args, below, meth, c, cells, slots, Q⟩ := E
  obtain ⟨hx, hb, hml, hown, hts, hK, hZ, hN, hR⟩ := K
  intro H locs ls hP hD hS hl
  exact va_mmin hx hb (by rw [hml]; exact hl.1.symm) hown (hts _ L.1) (hts _ L.2.1) (hts _ L.2.2.1) (hts _ L.2.2.2) (by have := hR.1; omega) (by rw [cv_cats]; have := hR.2.1; omega) hR.2.2.1 hR.2.2.2 dc (k H locs ls hP hD hS hl)
def cpOK (sp dp n : Int32) (n0 n1 : Nat) : Bool := decide (0 ≤ sp.toInt) && (decide (0 ≤ dp.toInt) && (decide (0 ≤ n.toInt) && (decide (ix sp + ix n ≤ n0) && decide (ix dp + ix n ≤ n1))))
theorem cp_ok {sp dp n : Int32} {n0 n1 : Nat} (hh : cpOK sp dp n n0 n1 = true) : ¬ sp < 0 ∧ ¬ dp < 0 ∧ ¬ n < 0 ∧ ix sp + ix n ≤ n0 ∧ ix dp + ix n ≤ n1 := by
  simp only [cpOK, Bool.and_eq_true, decide_eq_true_eq] at hh
  obtain ⟨a, b, c, e, f⟩ := hh
  have key : ∀ z : Int32, 0 ≤ z.toInt → ¬ z < 0 := fun z hz hlt => by
    have := Int32.lt_iff_toInt_lt.mp hlt
    simp at this
    omega
  exact ⟨key _ a, key _ b, key _ c, e, f⟩
set_option maxHeartbeats 1000000 in
theorem r_acopyi {idx a b n0 n1 : Nat} {sp dp n : Int32} (K : OK G E d own cc nL) (L : Cond.methodLink own idx arraycopyName ∈ gtbl ∧ Cond.native arraycopyName ∈ gtbl ∧ Cond.static arraycopyName ∈ gtbl ∧ Cond.initialized "java/lang/System" ∈ gtbl) (dc : decode cc pc = .ok (.invokestatic idx, 3)) (ha : KD a = (20, n0)) (hb2 : KD b = (20, n1)) (hc : cpOK sp dp n n0 n1 = true) (hd : 1 ≤ d) (hw : (st.map fun v => v.category).sum ≤ 8) {h1 : AH} (he : h1 = cpI h a (ix sp) b (ix dp) (ix n)) (k : JJ G E nL (pc + 3) lv st h1) : JJ G E nL pc lv (.int n :: .int dp :: .ref b :: .int sp :: .ref a :: st) h := by
  subst he
  obtain ⟨D, A, ad, cA⟩ := G
  obtain ⟨p, l, e, R, s, m, args, below, meth, c, cells, slots, Q⟩ := E
  obtain ⟨hx, hb, hml, hown, hts, hK, hZ, hN, hR⟩ := K
  intro H locs ls hP hD hS hl
  obtain ⟨c1, c2, c3, c4, c5⟩ := cp_ok hc
  have hnw : nativeFrameWords "java/lang/System" "arraycopy" 5 + 11 ≤ 52 := by decide +kernel
  refine va_copyi (D := D) hx hb (by rw [hml]; exact hl.1.symm) hown (hts _ L.1) (hts _ L.2.1) (hts _ L.2.2.1) (hts _ L.2.2.2) hK hP hD hS a b 0 0 (wd_arr ha) (wd_arr hb2) rfl rfl rfl c1 c2 c3 c4 c5 (fun i _ => rfl) (by have := hR.1; omega) (by rw [cv_cats]; have := hR.2.1; omega) dc (fun H' locs' hP' hD' hS' => ?_)
  rw [wd_setI hb2] at hP' hD'
  exact k H' locs' ls hP' hD' hS' hl
set_option maxHeartbeats 1000000 in
theorem r_acopyl {idx a b n0 n1 : Nat} {sp dp n : Int32} (K : OK G E d own cc nL) (L : Cond.methodLink own idx arraycopyName ∈ gtbl ∧ Cond.native arraycopyName ∈ gtbl ∧ Cond.static arraycopyName ∈ gtbl ∧ Cond.initialized "java/lang/System" ∈ gtbl) (dc : decode cc pc = .ok (.invokestatic idx, 3)) (ha : KD a = (21, n0)) (hb2 : KD b = (21, n1)) (hc : cpOK sp dp n n0 n1 = true) (hd : 1 ≤ d) (hw : (st.map fun v => v.category).sum ≤ 8) {h1 : AH} (he : h1 = cpL h a (ix sp) b (ix dp) (ix n)) (k : JJ G E nL (pc + 3) lv st h1) : JJ G E nL pc lv (.int n :: .int dp :: .ref b :: .int sp :: .ref a :: st) h := by
  subst he
  obtain ⟨D, A, ad, cA⟩ := G
  obtain ⟨p, l, e, R, s, m, args, below, meth, c, cells, slots, Q⟩ := E
  obtain ⟨hx, hb, hml, hown, hts, hK, hZ, hN, hR⟩ := K
  intro H locs ls hP hD hS hl
  obtain ⟨c1, c2, c3, c4, c5⟩ := cp_ok hc
  have hnw : nativeFrameWords "java/lang/System" "arraycopy" 5 + 11 ≤ 52 := by decide +kernel
  refine va_copyl (D := D) hx hb (by rw [hml]; exact hl.1.symm) hown (hts _ L.1) (hts _ L.2.1) (hts _ L.2.2.1) (hts _ L.2.2.2) hK hP hD hS a b 1 1 (wd_arrL ha) (wd_arrL hb2) rfl rfl rfl c1 c2 c3 c4 c5 (fun i _ => rfl) (by have := hR.1; omega) (by rw [cv_cats]; have := hR.2.1; omega) dc (fun H' locs' hP' hD' hS' => ?_)
  rw [wd_setL hb2] at hP' hD'
  exact k H' locs' ls hP' hD' hS' hl
end CALLS
end
