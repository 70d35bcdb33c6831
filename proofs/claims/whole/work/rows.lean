section
-- ===== PART A: goes FIRST, ahead of the names: the tables' words, and 'selects' of the private methods out of them =====
/-- a private method of a class that the tables say can be made, by its rows of tables_1 -/
def lw_okq (q : MethodName × Nat) : Prop := (q.1.cls ≠ "java/lang/invoke/MethodHandle" ∧ q.1.cls ≠ "java/lang/invoke/VarHandle") ∧ Cond.instantiable q.1.cls q.2 ∈ tables_1 ∧ Cond.privateMethod q.1 ∈ tables_1 ∧ Cond.instanceMethod q.1 ∈ tables_1
theorem lw_p0 : lw_okq (⟨"SpecifierDesk", "takeArgument", "(LSpecifierDesk$Kind;ZJ)LSpecifierDesk$Argument;"⟩, 8) := ⟨⟨by decide +kernel, by decide +kernel⟩, List.mem_of_getElem? (i := 20) (by decide +kernel), List.mem_of_getElem? (i := 258) (by decide +kernel), List.mem_of_getElem? (i := 259) (by decide +kernel)⟩
theorem lw_p1 : lw_okq (⟨"SpecifierDesk", "latestArgument", "()LSpecifierDesk$Argument;"⟩, 8) := ⟨⟨by decide +kernel, by decide +kernel⟩, List.mem_of_getElem? (i := 20) (by decide +kernel), List.mem_of_getElem? (i := 297) (by decide +kernel), List.mem_of_getElem? (i := 298) (by decide +kernel)⟩
theorem lw_p2 : lw_okq (⟨"SpecifierDesk", "argumentOf", "(I)LSpecifierDesk$Argument;"⟩, 8) := ⟨⟨by decide +kernel, by decide +kernel⟩, List.mem_of_getElem? (i := 20) (by decide +kernel), List.mem_of_getElem? (i := 301) (by decide +kernel), List.mem_of_getElem? (i := 302) (by decide +kernel)⟩
theorem lw_p3 : lw_okq (⟨"SpecifierDesk", "readAll", "()I"⟩, 8) := ⟨⟨by decide +kernel, by decide +kernel⟩, List.mem_of_getElem? (i := 20) (by decide +kernel), List.mem_of_getElem? (i := 341) (by decide +kernel), List.mem_of_getElem? (i := 342) (by decide +kernel)⟩
theorem lw_p4 : lw_okq (⟨"SpecifierDesk$Specifier", "readIndex", "(LSpecifierDesk$Row;I)I"⟩, 10) := ⟨⟨by decide +kernel, by decide +kernel⟩, List.mem_of_getElem? (i := 52) (by decide +kernel), List.mem_of_getElem? (i := 350) (by decide +kernel), List.mem_of_getElem? (i := 351) (by decide +kernel)⟩
theorem lw_p5 : lw_okq (⟨"SpecifierDesk$Specifier", "readFlags", "(LSpecifierDesk$Row;I)I"⟩, 10) := ⟨⟨by decide +kernel, by decide +kernel⟩, List.mem_of_getElem? (i := 52) (by decide +kernel), List.mem_of_getElem? (i := 364) (by decide +kernel), List.mem_of_getElem? (i := 365) (by decide +kernel)⟩
theorem lw_p6 : lw_okq (⟨"SpecifierDesk$Specifier", "readWidth", "(LSpecifierDesk$Row;I)I"⟩, 10) := ⟨⟨by decide +kernel, by decide +kernel⟩, List.mem_of_getElem? (i := 52) (by decide +kernel), List.mem_of_getElem? (i := 375) (by decide +kernel), List.mem_of_getElem? (i := 376) (by decide +kernel)⟩
theorem lw_p7 : lw_okq (⟨"SpecifierDesk$Specifier", "readPrecision", "(LSpecifierDesk$Row;I)I"⟩, 10) := ⟨⟨by decide +kernel, by decide +kernel⟩, List.mem_of_getElem? (i := 52) (by decide +kernel), List.mem_of_getElem? (i := 379) (by decide +kernel), List.mem_of_getElem? (i := 380) (by decide +kernel)⟩
theorem lw_p8 : lw_okq (⟨"SpecifierDesk$Specifier", "readConversion", "(LSpecifierDesk$Row;I)V"⟩, 10) := ⟨⟨by decide +kernel, by decide +kernel⟩, List.mem_of_getElem? (i := 52) (by decide +kernel), List.mem_of_getElem? (i := 383) (by decide +kernel), List.mem_of_getElem? (i := 384) (by decide +kernel)⟩
theorem lw_p9 : lw_okq (⟨"SpecifierDesk$Specifier", "faultOfLineEnd", "()I"⟩, 10) := ⟨⟨by decide +kernel, by decide +kernel⟩, List.mem_of_getElem? (i := 52) (by decide +kernel), List.mem_of_getElem? (i := 475) (by decide +kernel), List.mem_of_getElem? (i := 476) (by decide +kernel)⟩
theorem lw_p10 : lw_okq (⟨"SpecifierDesk$Specifier", "faultOfParts", "()I"⟩, 10) := ⟨⟨by decide +kernel, by decide +kernel⟩, List.mem_of_getElem? (i := 52) (by decide +kernel), List.mem_of_getElem? (i := 479) (by decide +kernel), List.mem_of_getElem? (i := 480) (by decide +kernel)⟩
theorem lw_p11 : lw_okq (⟨"SpecifierDesk$Specifier", "ownFlags", "()I"⟩, 10) := ⟨⟨by decide +kernel, by decide +kernel⟩, List.mem_of_getElem? (i := 52) (by decide +kernel), List.mem_of_getElem? (i := 489) (by decide +kernel), List.mem_of_getElem? (i := 490) (by decide +kernel)⟩
theorem lw_p12 : lw_okq (⟨"SpecifierDesk", "layOutSpecifier", "()I"⟩, 8) := ⟨⟨by decide +kernel, by decide +kernel⟩, List.mem_of_getElem? (i := 20) (by decide +kernel), List.mem_of_getElem? (i := 494) (by decide +kernel), List.mem_of_getElem? (i := 495) (by decide +kernel)⟩
theorem lw_p13 : lw_okq (⟨"SpecifierDesk$Composer", "start", "()V"⟩, 8) := ⟨⟨by decide +kernel, by decide +kernel⟩, List.mem_of_getElem? (i := 96) (by decide +kernel), List.mem_of_getElem? (i := 502) (by decide +kernel), List.mem_of_getElem? (i := 503) (by decide +kernel)⟩
theorem lw_p14 : lw_okq (⟨"SpecifierDesk$Composer", "putTogether", "()V"⟩, 8) := ⟨⟨by decide +kernel, by decide +kernel⟩, List.mem_of_getElem? (i := 96) (by decide +kernel), List.mem_of_getElem? (i := 509) (by decide +kernel), List.mem_of_getElem? (i := 510) (by decide +kernel)⟩
theorem lw_p15 : lw_okq (⟨"SpecifierDesk", "chosenNumber", "()I"⟩, 8) := ⟨⟨by decide +kernel, by decide +kernel⟩, List.mem_of_getElem? (i := 20) (by decide +kernel), List.mem_of_getElem? (i := 523) (by decide +kernel), List.mem_of_getElem? (i := 524) (by decide +kernel)⟩
def lw_privs_1 : List (MethodName × Nat) := [(⟨"SpecifierDesk", "takeArgument", "(LSpecifierDesk$Kind;ZJ)LSpecifierDesk$Argument;"⟩, 8), (⟨"SpecifierDesk", "latestArgument", "()LSpecifierDesk$Argument;"⟩, 8), (⟨"SpecifierDesk", "argumentOf", "(I)LSpecifierDesk$Argument;"⟩, 8), (⟨"SpecifierDesk", "readAll", "()I"⟩, 8), (⟨"SpecifierDesk$Specifier", "readIndex", "(LSpecifierDesk$Row;I)I"⟩, 10), (⟨"SpecifierDesk$Specifier", "readFlags", "(LSpecifierDesk$Row;I)I"⟩, 10), (⟨"SpecifierDesk$Specifier", "readWidth", "(LSpecifierDesk$Row;I)I"⟩, 10), (⟨"SpecifierDesk$Specifier", "readPrecision", "(LSpecifierDesk$Row;I)I"⟩, 10), (⟨"SpecifierDesk$Specifier", "readConversion", "(LSpecifierDesk$Row;I)V"⟩, 10), (⟨"SpecifierDesk$Specifier", "faultOfLineEnd", "()I"⟩, 10), (⟨"SpecifierDesk$Specifier", "faultOfParts", "()I"⟩, 10), (⟨"SpecifierDesk$Specifier", "ownFlags", "()I"⟩, 10), (⟨"SpecifierDesk", "layOutSpecifier", "()I"⟩, 8), (⟨"SpecifierDesk$Composer", "start", "()V"⟩, 8), (⟨"SpecifierDesk$Composer", "putTogether", "()V"⟩, 8), (⟨"SpecifierDesk", "chosenNumber", "()I"⟩, 8)]
theorem lw_r1 : ∀ q ∈ lw_privs_1, lw_okq q := List.forall_mem_cons.mpr ⟨lw_p0, List.forall_mem_cons.mpr ⟨lw_p1, List.forall_mem_cons.mpr ⟨lw_p2, List.forall_mem_cons.mpr ⟨lw_p3, List.forall_mem_cons.mpr ⟨lw_p4, List.forall_mem_cons.mpr ⟨lw_p5, List.forall_mem_cons.mpr ⟨lw_p6, List.forall_mem_cons.mpr ⟨lw_p7, List.forall_mem_cons.mpr ⟨lw_p8, List.forall_mem_cons.mpr ⟨lw_p9, List.forall_mem_cons.mpr ⟨lw_p10, List.forall_mem_cons.mpr ⟨lw_p11, List.forall_mem_cons.mpr ⟨lw_p12, List.forall_mem_cons.mpr ⟨lw_p13, List.forall_mem_cons.mpr ⟨lw_p14, List.forall_mem_cons.mpr ⟨lw_p15, fun _ h => absurd h List.not_mem_nil⟩⟩⟩⟩⟩⟩⟩⟩⟩⟩⟩⟩⟩⟩⟩⟩
theorem lw_p16 : lw_okq (⟨"SpecifierDesk", "faultOf", "(LSpecifierDesk$Argument;)I"⟩, 8) := ⟨⟨by decide +kernel, by decide +kernel⟩, List.mem_of_getElem? (i := 20) (by decide +kernel), List.mem_of_getElem? (i := 527) (by decide +kernel), List.mem_of_getElem? (i := 528) (by decide +kernel)⟩
theorem lw_p17 : lw_okq (⟨"SpecifierDesk$Composer", "setUnfilled", "(Ljava/lang/String;)V"⟩, 8) := ⟨⟨by decide +kernel, by decide +kernel⟩, List.mem_of_getElem? (i := 96) (by decide +kernel), List.mem_of_getElem? (i := 549) (by decide +kernel), List.mem_of_getElem? (i := 550) (by decide +kernel)⟩
theorem lw_p18 : lw_okq (⟨"SpecifierDesk$Composer", "setSign", "(Z)V"⟩, 8) := ⟨⟨by decide +kernel, by decide +kernel⟩, List.mem_of_getElem? (i := 96) (by decide +kernel), List.mem_of_getElem? (i := 593) (by decide +kernel), List.mem_of_getElem? (i := 594) (by decide +kernel)⟩
theorem lw_p19 : lw_okq (⟨"SpecifierDesk$Composer", "addTruth", "(Z)V"⟩, 8) := ⟨⟨by decide +kernel, by decide +kernel⟩, List.mem_of_getElem? (i := 96) (by decide +kernel), List.mem_of_getElem? (i := 599) (by decide +kernel), List.mem_of_getElem? (i := 600) (by decide +kernel)⟩
theorem lw_p20 : lw_okq (⟨"SpecifierDesk$Composer", "setText", "(LSpecifierDesk$Argument;)V"⟩, 8) := ⟨⟨by decide +kernel, by decide +kernel⟩, List.mem_of_getElem? (i := 96) (by decide +kernel), List.mem_of_getElem? (i := 604) (by decide +kernel), List.mem_of_getElem? (i := 605) (by decide +kernel)⟩
theorem lw_p21 : lw_okq (⟨"SpecifierDesk$Digits", "setLimbs", "(IJ)V"⟩, 4) := ⟨⟨by decide +kernel, by decide +kernel⟩, List.mem_of_getElem? (i := 104) (by decide +kernel), List.mem_of_getElem? (i := 612) (by decide +kernel), List.mem_of_getElem? (i := 613) (by decide +kernel)⟩
theorem lw_p22 : lw_okq (⟨"SpecifierDesk$Digits", "spell", "(I)V"⟩, 4) := ⟨⟨by decide +kernel, by decide +kernel⟩, List.mem_of_getElem? (i := 104) (by decide +kernel), List.mem_of_getElem? (i := 616) (by decide +kernel), List.mem_of_getElem? (i := 617) (by decide +kernel)⟩
theorem lw_p23 : lw_okq (⟨"SpecifierDesk$Digits", "topFrom", "(I)I"⟩, 4) := ⟨⟨by decide +kernel, by decide +kernel⟩, List.mem_of_getElem? (i := 104) (by decide +kernel), List.mem_of_getElem? (i := 623) (by decide +kernel), List.mem_of_getElem? (i := 624) (by decide +kernel)⟩
theorem lw_p24 : lw_okq (⟨"SpecifierDesk$Digits", "divide", "(II)J"⟩, 4) := ⟨⟨by decide +kernel, by decide +kernel⟩, List.mem_of_getElem? (i := 104) (by decide +kernel), List.mem_of_getElem? (i := 627) (by decide +kernel), List.mem_of_getElem? (i := 628) (by decide +kernel)⟩
theorem lw_p25 : lw_okq (⟨"SpecifierDesk$Digits", "trim", "()V"⟩, 4) := ⟨⟨by decide +kernel, by decide +kernel⟩, List.mem_of_getElem? (i := 104) (by decide +kernel), List.mem_of_getElem? (i := 632) (by decide +kernel), List.mem_of_getElem? (i := 633) (by decide +kernel)⟩
theorem lw_p26 : lw_okq (⟨"SpecifierDesk$Composer", "setDecimalText", "(LSpecifierDesk$Argument;)V"⟩, 8) := ⟨⟨by decide +kernel, by decide +kernel⟩, List.mem_of_getElem? (i := 96) (by decide +kernel), List.mem_of_getElem? (i := 644) (by decide +kernel), List.mem_of_getElem? (i := 645) (by decide +kernel)⟩
theorem lw_p27 : lw_okq (⟨"SpecifierDesk$Argument", "isSizeZero", "()Z"⟩, 7) := ⟨⟨by decide +kernel, by decide +kernel⟩, List.mem_of_getElem? (i := 168) (by decide +kernel), List.mem_of_getElem? (i := 652) (by decide +kernel), List.mem_of_getElem? (i := 653) (by decide +kernel)⟩
theorem lw_p28 : lw_okq (⟨"SpecifierDesk$Composer", "addMinus", "(Z)V"⟩, 8) := ⟨⟨by decide +kernel, by decide +kernel⟩, List.mem_of_getElem? (i := 96) (by decide +kernel), List.mem_of_getElem? (i := 656) (by decide +kernel), List.mem_of_getElem? (i := 657) (by decide +kernel)⟩
theorem lw_p29 : lw_okq (⟨"SpecifierDesk$Composer", "addWhole", "(Z)V"⟩, 8) := ⟨⟨by decide +kernel, by decide +kernel⟩, List.mem_of_getElem? (i := 96) (by decide +kernel), List.mem_of_getElem? (i := 668) (by decide +kernel), List.mem_of_getElem? (i := 669) (by decide +kernel)⟩
theorem lw_p30 : lw_okq (⟨"SpecifierDesk$Composer", "addBehindPoint", "(IIZ)V"⟩, 8) := ⟨⟨by decide +kernel, by decide +kernel⟩, List.mem_of_getElem? (i := 96) (by decide +kernel), List.mem_of_getElem? (i := 679) (by decide +kernel), List.mem_of_getElem? (i := 680) (by decide +kernel)⟩
theorem lw_p31 : lw_okq (⟨"SpecifierDesk$Composer", "setFractionText", "(LSpecifierDesk$Argument;)V"⟩, 8) := ⟨⟨by decide +kernel, by decide +kernel⟩, List.mem_of_getElem? (i := 96) (by decide +kernel), List.mem_of_getElem? (i := 692) (by decide +kernel), List.mem_of_getElem? (i := 693) (by decide +kernel)⟩
def lw_privs_2 : List (MethodName × Nat) := [(⟨"SpecifierDesk", "faultOf", "(LSpecifierDesk$Argument;)I"⟩, 8), (⟨"SpecifierDesk$Composer", "setUnfilled", "(Ljava/lang/String;)V"⟩, 8), (⟨"SpecifierDesk$Composer", "setSign", "(Z)V"⟩, 8), (⟨"SpecifierDesk$Composer", "addTruth", "(Z)V"⟩, 8), (⟨"SpecifierDesk$Composer", "setText", "(LSpecifierDesk$Argument;)V"⟩, 8), (⟨"SpecifierDesk$Digits", "setLimbs", "(IJ)V"⟩, 4), (⟨"SpecifierDesk$Digits", "spell", "(I)V"⟩, 4), (⟨"SpecifierDesk$Digits", "topFrom", "(I)I"⟩, 4), (⟨"SpecifierDesk$Digits", "divide", "(II)J"⟩, 4), (⟨"SpecifierDesk$Digits", "trim", "()V"⟩, 4), (⟨"SpecifierDesk$Composer", "setDecimalText", "(LSpecifierDesk$Argument;)V"⟩, 8), (⟨"SpecifierDesk$Argument", "isSizeZero", "()Z"⟩, 7), (⟨"SpecifierDesk$Composer", "addMinus", "(Z)V"⟩, 8), (⟨"SpecifierDesk$Composer", "addWhole", "(Z)V"⟩, 8), (⟨"SpecifierDesk$Composer", "addBehindPoint", "(IIZ)V"⟩, 8), (⟨"SpecifierDesk$Composer", "setFractionText", "(LSpecifierDesk$Argument;)V"⟩, 8)]
theorem lw_r2 : ∀ q ∈ lw_privs_2, lw_okq q := List.forall_mem_cons.mpr ⟨lw_p16, List.forall_mem_cons.mpr ⟨lw_p17, List.forall_mem_cons.mpr ⟨lw_p18, List.forall_mem_cons.mpr ⟨lw_p19, List.forall_mem_cons.mpr ⟨lw_p20, List.forall_mem_cons.mpr ⟨lw_p21, List.forall_mem_cons.mpr ⟨lw_p22, List.forall_mem_cons.mpr ⟨lw_p23, List.forall_mem_cons.mpr ⟨lw_p24, List.forall_mem_cons.mpr ⟨lw_p25, List.forall_mem_cons.mpr ⟨lw_p26, List.forall_mem_cons.mpr ⟨lw_p27, List.forall_mem_cons.mpr ⟨lw_p28, List.forall_mem_cons.mpr ⟨lw_p29, List.forall_mem_cons.mpr ⟨lw_p30, List.forall_mem_cons.mpr ⟨lw_p31, fun _ h => absurd h List.not_mem_nil⟩⟩⟩⟩⟩⟩⟩⟩⟩⟩⟩⟩⟩⟩⟩⟩
theorem lw_p32 : lw_okq (⟨"SpecifierDesk$Composer", "setBased", "(LSpecifierDesk$Argument;I)V"⟩, 8) := ⟨⟨by decide +kernel, by decide +kernel⟩, List.mem_of_getElem? (i := 96) (by decide +kernel), List.mem_of_getElem? (i := 701) (by decide +kernel), List.mem_of_getElem? (i := 702) (by decide +kernel)⟩
theorem lw_p33 : lw_okq (⟨"SpecifierDesk$Composer", "setHex", "(LSpecifierDesk$Argument;)V"⟩, 8) := ⟨⟨by decide +kernel, by decide +kernel⟩, List.mem_of_getElem? (i := 96) (by decide +kernel), List.mem_of_getElem? (i := 715) (by decide +kernel), List.mem_of_getElem? (i := 716) (by decide +kernel)⟩
theorem lw_p34 : lw_okq (⟨"SpecifierDesk$Composer", "setDecimal", "(LSpecifierDesk$Argument;)V"⟩, 8) := ⟨⟨by decide +kernel, by decide +kernel⟩, List.mem_of_getElem? (i := 96) (by decide +kernel), List.mem_of_getElem? (i := 740) (by decide +kernel), List.mem_of_getElem? (i := 741) (by decide +kernel)⟩
theorem lw_p35 : lw_okq (⟨"SpecifierDesk$Digits", "carryInto", "(I)V"⟩, 4) := ⟨⟨by decide +kernel, by decide +kernel⟩, List.mem_of_getElem? (i := 104) (by decide +kernel), List.mem_of_getElem? (i := 748) (by decide +kernel), List.mem_of_getElem? (i := 749) (by decide +kernel)⟩
theorem lw_p36 : lw_okq (⟨"SpecifierDesk$Composer", "setFixed", "(I)V"⟩, 8) := ⟨⟨by decide +kernel, by decide +kernel⟩, List.mem_of_getElem? (i := 96) (by decide +kernel), List.mem_of_getElem? (i := 752) (by decide +kernel), List.mem_of_getElem? (i := 753) (by decide +kernel)⟩
theorem lw_p37 : lw_okq (⟨"SpecifierDesk$Composer", "setScientific", "(I)V"⟩, 8) := ⟨⟨by decide +kernel, by decide +kernel⟩, List.mem_of_getElem? (i := 96) (by decide +kernel), List.mem_of_getElem? (i := 756) (by decide +kernel), List.mem_of_getElem? (i := 757) (by decide +kernel)⟩
theorem lw_p38 : lw_okq (⟨"SpecifierDeskModel", "argument", "(IJZ)I"⟩, 29) := ⟨⟨by decide +kernel, by decide +kernel⟩, List.mem_of_getElem? (i := 774) (by decide +kernel), List.mem_of_getElem? (i := 882) (by decide +kernel), List.mem_of_getElem? (i := 883) (by decide +kernel)⟩
theorem lw_p39 : lw_okq (⟨"SpecifierDeskModel", "sizeOf", "(IJ)V"⟩, 29) := ⟨⟨by decide +kernel, by decide +kernel⟩, List.mem_of_getElem? (i := 774) (by decide +kernel), List.mem_of_getElem? (i := 902) (by decide +kernel), List.mem_of_getElem? (i := 903) (by decide +kernel)⟩
theorem lw_p40 : lw_okq (⟨"SpecifierDeskModel", "goOver", "(I)V"⟩, 29) := ⟨⟨by decide +kernel, by decide +kernel⟩, List.mem_of_getElem? (i := 774) (by decide +kernel), List.mem_of_getElem? (i := 928) (by decide +kernel), List.mem_of_getElem? (i := 929) (by decide +kernel)⟩
theorem lw_p41 : lw_okq (⟨"SpecifierDeskModel", "look", "(I)I"⟩, 29) := ⟨⟨by decide +kernel, by decide +kernel⟩, List.mem_of_getElem? (i := 774) (by decide +kernel), List.mem_of_getElem? (i := 932) (by decide +kernel), List.mem_of_getElem? (i := 933) (by decide +kernel)⟩
theorem lw_p42 : lw_okq (⟨"SpecifierDeskModel", "digitsEnd", "(I)I"⟩, 29) := ⟨⟨by decide +kernel, by decide +kernel⟩, List.mem_of_getElem? (i := 774) (by decide +kernel), List.mem_of_getElem? (i := 939) (by decide +kernel), List.mem_of_getElem? (i := 940) (by decide +kernel)⟩
theorem lw_p43 : lw_okq (⟨"SpecifierDeskModel", "said", "(II)I"⟩, 29) := ⟨⟨by decide +kernel, by decide +kernel⟩, List.mem_of_getElem? (i := 774) (by decide +kernel), List.mem_of_getElem? (i := 943) (by decide +kernel), List.mem_of_getElem? (i := 944) (by decide +kernel)⟩
theorem lw_p44 : lw_okq (⟨"SpecifierDeskModel", "faultOf", "()I"⟩, 29) := ⟨⟨by decide +kernel, by decide +kernel⟩, List.mem_of_getElem? (i := 774) (by decide +kernel), List.mem_of_getElem? (i := 950) (by decide +kernel), List.mem_of_getElem? (i := 951) (by decide +kernel)⟩
theorem lw_p45 : lw_okq (⟨"SpecifierDeskModel", "small", "()I"⟩, 29) := ⟨⟨by decide +kernel, by decide +kernel⟩, List.mem_of_getElem? (i := 774) (by decide +kernel), List.mem_of_getElem? (i := 954) (by decide +kernel), List.mem_of_getElem? (i := 955) (by decide +kernel)⟩
theorem lw_p46 : lw_okq (⟨"SpecifierDeskModel", "isGreat", "()Z"⟩, 29) := ⟨⟨by decide +kernel, by decide +kernel⟩, List.mem_of_getElem? (i := 774) (by decide +kernel), List.mem_of_getElem? (i := 958) (by decide +kernel), List.mem_of_getElem? (i := 959) (by decide +kernel)⟩
theorem lw_p47 : lw_okq (⟨"SpecifierDeskModel", "isNumber", "()Z"⟩, 29) := ⟨⟨by decide +kernel, by decide +kernel⟩, List.mem_of_getElem? (i := 774) (by decide +kernel), List.mem_of_getElem? (i := 966) (by decide +kernel), List.mem_of_getElem? (i := 967) (by decide +kernel)⟩
def lw_privs_3 : List (MethodName × Nat) := [(⟨"SpecifierDesk$Composer", "setBased", "(LSpecifierDesk$Argument;I)V"⟩, 8), (⟨"SpecifierDesk$Composer", "setHex", "(LSpecifierDesk$Argument;)V"⟩, 8), (⟨"SpecifierDesk$Composer", "setDecimal", "(LSpecifierDesk$Argument;)V"⟩, 8), (⟨"SpecifierDesk$Digits", "carryInto", "(I)V"⟩, 4), (⟨"SpecifierDesk$Composer", "setFixed", "(I)V"⟩, 8), (⟨"SpecifierDesk$Composer", "setScientific", "(I)V"⟩, 8), (⟨"SpecifierDeskModel", "argument", "(IJZ)I"⟩, 29), (⟨"SpecifierDeskModel", "sizeOf", "(IJ)V"⟩, 29), (⟨"SpecifierDeskModel", "goOver", "(I)V"⟩, 29), (⟨"SpecifierDeskModel", "look", "(I)I"⟩, 29), (⟨"SpecifierDeskModel", "digitsEnd", "(I)I"⟩, 29), (⟨"SpecifierDeskModel", "said", "(II)I"⟩, 29), (⟨"SpecifierDeskModel", "faultOf", "()I"⟩, 29), (⟨"SpecifierDeskModel", "small", "()I"⟩, 29), (⟨"SpecifierDeskModel", "isGreat", "()Z"⟩, 29), (⟨"SpecifierDeskModel", "isNumber", "()Z"⟩, 29)]
theorem lw_r3 : ∀ q ∈ lw_privs_3, lw_okq q := List.forall_mem_cons.mpr ⟨lw_p32, List.forall_mem_cons.mpr ⟨lw_p33, List.forall_mem_cons.mpr ⟨lw_p34, List.forall_mem_cons.mpr ⟨lw_p35, List.forall_mem_cons.mpr ⟨lw_p36, List.forall_mem_cons.mpr ⟨lw_p37, List.forall_mem_cons.mpr ⟨lw_p38, List.forall_mem_cons.mpr ⟨lw_p39, List.forall_mem_cons.mpr ⟨lw_p40, List.forall_mem_cons.mpr ⟨lw_p41, List.forall_mem_cons.mpr ⟨lw_p42, List.forall_mem_cons.mpr ⟨lw_p43, List.forall_mem_cons.mpr ⟨lw_p44, List.forall_mem_cons.mpr ⟨lw_p45, List.forall_mem_cons.mpr ⟨lw_p46, List.forall_mem_cons.mpr ⟨lw_p47, fun _ h => absurd h List.not_mem_nil⟩⟩⟩⟩⟩⟩⟩⟩⟩⟩⟩⟩⟩⟩⟩⟩
theorem lw_p48 : lw_okq (⟨"SpecifierDeskModel", "has", "(I)Z"⟩, 29) := ⟨⟨by decide +kernel, by decide +kernel⟩, List.mem_of_getElem? (i := 774) (by decide +kernel), List.mem_of_getElem? (i := 971) (by decide +kernel), List.mem_of_getElem? (i := 972) (by decide +kernel)⟩
theorem lw_p49 : lw_okq (⟨"SpecifierDeskModel", "allowed", "()I"⟩, 29) := ⟨⟨by decide +kernel, by decide +kernel⟩, List.mem_of_getElem? (i := 774) (by decide +kernel), List.mem_of_getElem? (i := 975) (by decide +kernel), List.mem_of_getElem? (i := 976) (by decide +kernel)⟩
theorem lw_p50 : lw_okq (⟨"SpecifierDeskModel", "add", "(I)V"⟩, 29) := ⟨⟨by decide +kernel, by decide +kernel⟩, List.mem_of_getElem? (i := 774) (by decide +kernel), List.mem_of_getElem? (i := 979) (by decide +kernel), List.mem_of_getElem? (i := 980) (by decide +kernel)⟩
theorem lw_p51 : lw_okq (⟨"SpecifierDeskModel", "append", "()Z"⟩, 29) := ⟨⟨by decide +kernel, by decide +kernel⟩, List.mem_of_getElem? (i := 774) (by decide +kernel), List.mem_of_getElem? (i := 983) (by decide +kernel), List.mem_of_getElem? (i := 984) (by decide +kernel)⟩
theorem lw_p52 : lw_okq (⟨"SpecifierDeskModel", "argumentFault", "(II)I"⟩, 29) := ⟨⟨by decide +kernel, by decide +kernel⟩, List.mem_of_getElem? (i := 774) (by decide +kernel), List.mem_of_getElem? (i := 987) (by decide +kernel), List.mem_of_getElem? (i := 988) (by decide +kernel)⟩
theorem lw_p53 : lw_okq (⟨"SpecifierDeskModel", "lay", "(II)V"⟩, 29) := ⟨⟨by decide +kernel, by decide +kernel⟩, List.mem_of_getElem? (i := 774) (by decide +kernel), List.mem_of_getElem? (i := 992) (by decide +kernel), List.mem_of_getElem? (i := 993) (by decide +kernel)⟩
theorem lw_p54 : lw_okq (⟨"SpecifierDeskModel", "addTruth", "(Z)V"⟩, 29) := ⟨⟨by decide +kernel, by decide +kernel⟩, List.mem_of_getElem? (i := 774) (by decide +kernel), List.mem_of_getElem? (i := 996) (by decide +kernel), List.mem_of_getElem? (i := 997) (by decide +kernel)⟩
theorem lw_p55 : lw_okq (⟨"SpecifierDeskModel", "addWord", "(JJ)V"⟩, 29) := ⟨⟨by decide +kernel, by decide +kernel⟩, List.mem_of_getElem? (i := 774) (by decide +kernel), List.mem_of_getElem? (i := 1001) (by decide +kernel), List.mem_of_getElem? (i := 1002) (by decide +kernel)⟩
theorem lw_p56 : lw_okq (⟨"SpecifierDeskModel", "textOf", "(I)V"⟩, 29) := ⟨⟨by decide +kernel, by decide +kernel⟩, List.mem_of_getElem? (i := 774) (by decide +kernel), List.mem_of_getElem? (i := 1007) (by decide +kernel), List.mem_of_getElem? (i := 1008) (by decide +kernel)⟩
theorem lw_p57 : lw_okq (⟨"SpecifierDeskModel", "isZeroSize", "(I)Z"⟩, 29) := ⟨⟨by decide +kernel, by decide +kernel⟩, List.mem_of_getElem? (i := 774) (by decide +kernel), List.mem_of_getElem? (i := 1011) (by decide +kernel), List.mem_of_getElem? (i := 1012) (by decide +kernel)⟩
theorem lw_p58 : lw_okq (⟨"SpecifierDeskModel", "spellLong", "(JI)V"⟩, 29) := ⟨⟨by decide +kernel, by decide +kernel⟩, List.mem_of_getElem? (i := 774) (by decide +kernel), List.mem_of_getElem? (i := 1015) (by decide +kernel), List.mem_of_getElem? (i := 1016) (by decide +kernel)⟩
theorem lw_p59 : lw_okq (⟨"SpecifierDeskModel", "spell", "(II)V"⟩, 29) := ⟨⟨by decide +kernel, by decide +kernel⟩, List.mem_of_getElem? (i := 774) (by decide +kernel), List.mem_of_getElem? (i := 1021) (by decide +kernel), List.mem_of_getElem? (i := 1022) (by decide +kernel)⟩
theorem lw_p60 : lw_okq (⟨"SpecifierDeskModel", "addDigits", "()V"⟩, 29) := ⟨⟨by decide +kernel, by decide +kernel⟩, List.mem_of_getElem? (i := 774) (by decide +kernel), List.mem_of_getElem? (i := 1025) (by decide +kernel), List.mem_of_getElem? (i := 1026) (by decide +kernel)⟩
theorem lw_p61 : lw_okq (⟨"SpecifierDeskModel", "addDigit", "(I)V"⟩, 29) := ⟨⟨by decide +kernel, by decide +kernel⟩, List.mem_of_getElem? (i := 774) (by decide +kernel), List.mem_of_getElem? (i := 1029) (by decide +kernel), List.mem_of_getElem? (i := 1030) (by decide +kernel)⟩
theorem lw_p62 : lw_okq (⟨"SpecifierDeskModel", "isNone", "(I)Z"⟩, 29) := ⟨⟨by decide +kernel, by decide +kernel⟩, List.mem_of_getElem? (i := 774) (by decide +kernel), List.mem_of_getElem? (i := 1033) (by decide +kernel), List.mem_of_getElem? (i := 1034) (by decide +kernel)⟩
theorem lw_p63 : lw_okq (⟨"SpecifierDeskModel", "isLast", "(I)Z"⟩, 29) := ⟨⟨by decide +kernel, by decide +kernel⟩, List.mem_of_getElem? (i := 774) (by decide +kernel), List.mem_of_getElem? (i := 1037) (by decide +kernel), List.mem_of_getElem? (i := 1038) (by decide +kernel)⟩
def lw_privs_4 : List (MethodName × Nat) := [(⟨"SpecifierDeskModel", "has", "(I)Z"⟩, 29), (⟨"SpecifierDeskModel", "allowed", "()I"⟩, 29), (⟨"SpecifierDeskModel", "add", "(I)V"⟩, 29), (⟨"SpecifierDeskModel", "append", "()Z"⟩, 29), (⟨"SpecifierDeskModel", "argumentFault", "(II)I"⟩, 29), (⟨"SpecifierDeskModel", "lay", "(II)V"⟩, 29), (⟨"SpecifierDeskModel", "addTruth", "(Z)V"⟩, 29), (⟨"SpecifierDeskModel", "addWord", "(JJ)V"⟩, 29), (⟨"SpecifierDeskModel", "textOf", "(I)V"⟩, 29), (⟨"SpecifierDeskModel", "isZeroSize", "(I)Z"⟩, 29), (⟨"SpecifierDeskModel", "spellLong", "(JI)V"⟩, 29), (⟨"SpecifierDeskModel", "spell", "(II)V"⟩, 29), (⟨"SpecifierDeskModel", "addDigits", "()V"⟩, 29), (⟨"SpecifierDeskModel", "addDigit", "(I)V"⟩, 29), (⟨"SpecifierDeskModel", "isNone", "(I)Z"⟩, 29), (⟨"SpecifierDeskModel", "isLast", "(I)Z"⟩, 29)]
theorem lw_r4 : ∀ q ∈ lw_privs_4, lw_okq q := List.forall_mem_cons.mpr ⟨lw_p48, List.forall_mem_cons.mpr ⟨lw_p49, List.forall_mem_cons.mpr ⟨lw_p50, List.forall_mem_cons.mpr ⟨lw_p51, List.forall_mem_cons.mpr ⟨lw_p52, List.forall_mem_cons.mpr ⟨lw_p53, List.forall_mem_cons.mpr ⟨lw_p54, List.forall_mem_cons.mpr ⟨lw_p55, List.forall_mem_cons.mpr ⟨lw_p56, List.forall_mem_cons.mpr ⟨lw_p57, List.forall_mem_cons.mpr ⟨lw_p58, List.forall_mem_cons.mpr ⟨lw_p59, List.forall_mem_cons.mpr ⟨lw_p60, List.forall_mem_cons.mpr ⟨lw_p61, List.forall_mem_cons.mpr ⟨lw_p62, List.forall_mem_cons.mpr ⟨lw_p63, fun _ h => absurd h List.not_mem_nil⟩⟩⟩⟩⟩⟩⟩⟩⟩⟩⟩⟩⟩⟩⟩⟩
theorem lw_p64 : lw_okq (⟨"SpecifierDeskModel", "isBelow", "(I)Z"⟩, 29) := ⟨⟨by decide +kernel, by decide +kernel⟩, List.mem_of_getElem? (i := 774) (by decide +kernel), List.mem_of_getElem? (i := 1044) (by decide +kernel), List.mem_of_getElem? (i := 1045) (by decide +kernel)⟩
theorem lw_p65 : lw_okq (⟨"SpecifierDeskModel", "fractionText", "(I)V"⟩, 29) := ⟨⟨by decide +kernel, by decide +kernel⟩, List.mem_of_getElem? (i := 774) (by decide +kernel), List.mem_of_getElem? (i := 1049) (by decide +kernel), List.mem_of_getElem? (i := 1050) (by decide +kernel)⟩
theorem lw_p66 : lw_okq (⟨"SpecifierDeskModel", "take", "(I)V"⟩, 29) := ⟨⟨by decide +kernel, by decide +kernel⟩, List.mem_of_getElem? (i := 774) (by decide +kernel), List.mem_of_getElem? (i := 1053) (by decide +kernel), List.mem_of_getElem? (i := 1054) (by decide +kernel)⟩
theorem lw_p67 : lw_okq (⟨"SpecifierDeskModel", "digit", "(I)I"⟩, 29) := ⟨⟨by decide +kernel, by decide +kernel⟩, List.mem_of_getElem? (i := 774) (by decide +kernel), List.mem_of_getElem? (i := 1058) (by decide +kernel), List.mem_of_getElem? (i := 1059) (by decide +kernel)⟩
theorem lw_p68 : lw_okq (⟨"SpecifierDeskModel", "addNumber", "(II)V"⟩, 29) := ⟨⟨by decide +kernel, by decide +kernel⟩, List.mem_of_getElem? (i := 774) (by decide +kernel), List.mem_of_getElem? (i := 1062) (by decide +kernel), List.mem_of_getElem? (i := 1063) (by decide +kernel)⟩
theorem lw_p69 : lw_okq (⟨"SpecifierDeskModel", "decimalText", "(I)V"⟩, 29) := ⟨⟨by decide +kernel, by decide +kernel⟩, List.mem_of_getElem? (i := 774) (by decide +kernel), List.mem_of_getElem? (i := 1066) (by decide +kernel), List.mem_of_getElem? (i := 1067) (by decide +kernel)⟩
theorem lw_p70 : lw_okq (⟨"SpecifierDeskModel", "wholes", "(II)V"⟩, 29) := ⟨⟨by decide +kernel, by decide +kernel⟩, List.mem_of_getElem? (i := 774) (by decide +kernel), List.mem_of_getElem? (i := 1070) (by decide +kernel), List.mem_of_getElem? (i := 1071) (by decide +kernel)⟩
theorem lw_p71 : lw_okq (⟨"SpecifierDeskModel", "begin", "(Z)V"⟩, 29) := ⟨⟨by decide +kernel, by decide +kernel⟩, List.mem_of_getElem? (i := 774) (by decide +kernel), List.mem_of_getElem? (i := 1074) (by decide +kernel), List.mem_of_getElem? (i := 1075) (by decide +kernel)⟩
theorem lw_p72 : lw_okq (⟨"SpecifierDeskModel", "group", "(II)V"⟩, 29) := ⟨⟨by decide +kernel, by decide +kernel⟩, List.mem_of_getElem? (i := 774) (by decide +kernel), List.mem_of_getElem? (i := 1078) (by decide +kernel), List.mem_of_getElem? (i := 1079) (by decide +kernel)⟩
theorem lw_p73 : lw_okq (⟨"SpecifierDeskModel", "finish", "(ZZ)V"⟩, 29) := ⟨⟨by decide +kernel, by decide +kernel⟩, List.mem_of_getElem? (i := 774) (by decide +kernel), List.mem_of_getElem? (i := 1082) (by decide +kernel), List.mem_of_getElem? (i := 1083) (by decide +kernel)⟩
theorem lw_p74 : lw_okq (⟨"SpecifierDeskModel", "last", "(I)V"⟩, 29) := ⟨⟨by decide +kernel, by decide +kernel⟩, List.mem_of_getElem? (i := 774) (by decide +kernel), List.mem_of_getElem? (i := 1087) (by decide +kernel), List.mem_of_getElem? (i := 1088) (by decide +kernel)⟩
theorem lw_p75 : lw_okq (⟨"SpecifierDeskModel", "hexadecimal", "(I)V"⟩, 29) := ⟨⟨by decide +kernel, by decide +kernel⟩, List.mem_of_getElem? (i := 774) (by decide +kernel), List.mem_of_getElem? (i := 1091) (by decide +kernel), List.mem_of_getElem? (i := 1092) (by decide +kernel)⟩
theorem lw_p76 : lw_okq (⟨"SpecifierDeskModel", "floating", "(II)V"⟩, 29) := ⟨⟨by decide +kernel, by decide +kernel⟩, List.mem_of_getElem? (i := 774) (by decide +kernel), List.mem_of_getElem? (i := 1097) (by decide +kernel), List.mem_of_getElem? (i := 1098) (by decide +kernel)⟩
theorem lw_p77 : lw_okq (⟨"SpecifierDeskModel", "keep", "(I)V"⟩, 29) := ⟨⟨by decide +kernel, by decide +kernel⟩, List.mem_of_getElem? (i := 774) (by decide +kernel), List.mem_of_getElem? (i := 1101) (by decide +kernel), List.mem_of_getElem? (i := 1102) (by decide +kernel)⟩
theorem lw_p78 : lw_okq (⟨"SpecifierDeskModel", "exponential", "(I)V"⟩, 29) := ⟨⟨by decide +kernel, by decide +kernel⟩, List.mem_of_getElem? (i := 774) (by decide +kernel), List.mem_of_getElem? (i := 1105) (by decide +kernel), List.mem_of_getElem? (i := 1106) (by decide +kernel)⟩
theorem lw_p79 : lw_okq (⟨"SpecifierDeskModel", "isZero", "()Z"⟩, 29) := ⟨⟨by decide +kernel, by decide +kernel⟩, List.mem_of_getElem? (i := 774) (by decide +kernel), List.mem_of_getElem? (i := 1109) (by decide +kernel), List.mem_of_getElem? (i := 1110) (by decide +kernel)⟩
def lw_privs_5 : List (MethodName × Nat) := [(⟨"SpecifierDeskModel", "isBelow", "(I)Z"⟩, 29), (⟨"SpecifierDeskModel", "fractionText", "(I)V"⟩, 29), (⟨"SpecifierDeskModel", "take", "(I)V"⟩, 29), (⟨"SpecifierDeskModel", "digit", "(I)I"⟩, 29), (⟨"SpecifierDeskModel", "addNumber", "(II)V"⟩, 29), (⟨"SpecifierDeskModel", "decimalText", "(I)V"⟩, 29), (⟨"SpecifierDeskModel", "wholes", "(II)V"⟩, 29), (⟨"SpecifierDeskModel", "begin", "(Z)V"⟩, 29), (⟨"SpecifierDeskModel", "group", "(II)V"⟩, 29), (⟨"SpecifierDeskModel", "finish", "(ZZ)V"⟩, 29), (⟨"SpecifierDeskModel", "last", "(I)V"⟩, 29), (⟨"SpecifierDeskModel", "hexadecimal", "(I)V"⟩, 29), (⟨"SpecifierDeskModel", "floating", "(II)V"⟩, 29), (⟨"SpecifierDeskModel", "keep", "(I)V"⟩, 29), (⟨"SpecifierDeskModel", "exponential", "(I)V"⟩, 29), (⟨"SpecifierDeskModel", "isZero", "()Z"⟩, 29)]
theorem lw_r5 : ∀ q ∈ lw_privs_5, lw_okq q := List.forall_mem_cons.mpr ⟨lw_p64, List.forall_mem_cons.mpr ⟨lw_p65, List.forall_mem_cons.mpr ⟨lw_p66, List.forall_mem_cons.mpr ⟨lw_p67, List.forall_mem_cons.mpr ⟨lw_p68, List.forall_mem_cons.mpr ⟨lw_p69, List.forall_mem_cons.mpr ⟨lw_p70, List.forall_mem_cons.mpr ⟨lw_p71, List.forall_mem_cons.mpr ⟨lw_p72, List.forall_mem_cons.mpr ⟨lw_p73, List.forall_mem_cons.mpr ⟨lw_p74, List.forall_mem_cons.mpr ⟨lw_p75, List.forall_mem_cons.mpr ⟨lw_p76, List.forall_mem_cons.mpr ⟨lw_p77, List.forall_mem_cons.mpr ⟨lw_p78, List.forall_mem_cons.mpr ⟨lw_p79, fun _ h => absurd h List.not_mem_nil⟩⟩⟩⟩⟩⟩⟩⟩⟩⟩⟩⟩⟩⟩⟩⟩
theorem lw_p80 : lw_okq (⟨"SpecifierDeskModel", "fixed", "(I)V"⟩, 29) := ⟨⟨by decide +kernel, by decide +kernel⟩, List.mem_of_getElem? (i := 774) (by decide +kernel), List.mem_of_getElem? (i := 1113) (by decide +kernel), List.mem_of_getElem? (i := 1114) (by decide +kernel)⟩
def lw_privs_6 : List (MethodName × Nat) := [(⟨"SpecifierDeskModel", "fixed", "(I)V"⟩, 29)]
theorem lw_r6 : ∀ q ∈ lw_privs_6, lw_okq q := List.forall_mem_cons.mpr ⟨lw_p80, fun _ h => absurd h List.not_mem_nil⟩
def lw_privs : List (MethodName × Nat) := lw_privs_1 ++ (lw_privs_2 ++ (lw_privs_3 ++ (lw_privs_4 ++ (lw_privs_5 ++ (lw_privs_6)))))
def lw_tbl : List Cond := k2_sels lw_privs ++ tables_1
theorem lw_privs_ok : ∀ q ∈ lw_privs, lw_okq q := by
  show ∀ q ∈ lw_privs_1 ++ (lw_privs_2 ++ (lw_privs_3 ++ (lw_privs_4 ++ (lw_privs_5 ++ (lw_privs_6))))), lw_okq q
  exact List.forall_mem_append.mpr ⟨lw_r1, List.forall_mem_append.mpr ⟨lw_r2, List.forall_mem_append.mpr ⟨lw_r3, List.forall_mem_append.mpr ⟨lw_r4, List.forall_mem_append.mpr ⟨lw_r5, lw_r6⟩⟩⟩⟩⟩
end
section
def R_Desk : String := "SpecifierDesk"
def R_Object : String := "java/lang/Object"
def R_Row : String := "SpecifierDesk$Row"
def R_Math : String := "java/lang/Math"
def R_Specifier : String := "SpecifierDesk$Specifier"
def R_Composer : String := "SpecifierDesk$Composer"
def R_Digits : String := "SpecifierDesk$Digits"
def R_Hex : String := "SpecifierDesk$Hex"
def R_Argument : String := "SpecifierDesk$Argument"
def R_Arrays : String := "java/util/Arrays"
def R_String : String := "java/lang/String"
def R_StringLatin1 : String := "java/lang/StringLatin1"
def R_StringUTF16 : String := "java/lang/StringUTF16"
def R_Preconditions : String := "jdk/internal/util/Preconditions"
def R_Character : String := "java/lang/Character"
def R_Kind : String := "SpecifierDesk$Kind"
def R_Enum : String := "java/lang/Enum"
def R_Model : String := "SpecifierDeskModel"
def R_Sw : String := "SpecifierDesk$1"
def R_Law0 : String := "SpecifierDeskLaw"
def F_Argument : u_T := fun k => match k with
  | 0 => ("SpecifierDesk$Argument", "words", "[J", true)
  | 1 => ("SpecifierDesk$Argument", "kind", "LSpecifierDesk$Kind;", false)
  | 2 => ("SpecifierDesk$Argument", "minus", "Z", false)
  | 3 => ("SpecifierDesk$Argument", "bits", "J", false)
  | 4 => ("SpecifierDesk$Argument", "wide", "I", false)
  | 5 => ("SpecifierDesk$Argument", "lowest", "I", false)
  | _ => ("SpecifierDesk$Argument", "letters", "LSpecifierDesk$Row;", false)
def t_Argument : Nat → FieldType := fun k => match k with
  | 0 => (.array .long)
  | 1 => (.object "SpecifierDesk$Kind")
  | 2 => .boolean
  | 3 => .long
  | 4 => .int
  | 5 => .int
  | _ => (.object "SpecifierDesk$Row")
theorem no_Argument : ∀ a, a < 7 → ∀ b, b < 7 → a ≠ b → (F_Argument a).2.1 ≠ (F_Argument b).2.1 := by decide +kernel
theorem to_Argument : ∀ k, k < 7 → parseFieldDescriptor (F_Argument k).2.2.1 = some (t_Argument k) := by decide +kernel
def F_Composer : u_T := fun k => match k with
  | 0 => ("SpecifierDesk$Composer", "specifier", "LSpecifierDesk$Specifier;", true)
  | 1 => ("SpecifierDesk$Composer", "result", "LSpecifierDesk$Row;", true)
  | 2 => ("SpecifierDesk$Composer", "head", "LSpecifierDesk$Row;", true)
  | 3 => ("SpecifierDesk$Composer", "body", "LSpecifierDesk$Row;", true)
  | 4 => ("SpecifierDesk$Composer", "digits", "LSpecifierDesk$Digits;", true)
  | 5 => ("SpecifierDesk$Composer", "hex", "LSpecifierDesk$Hex;", true)
  | 6 => ("SpecifierDesk$Composer", "bracketOpen", "Z", false)
  | _ => ("SpecifierDesk$Composer", "zeroFilled", "Z", false)
def t_Composer : Nat → FieldType := fun k => match k with
  | 0 => (.object "SpecifierDesk$Specifier")
  | 1 => (.object "SpecifierDesk$Row")
  | 2 => (.object "SpecifierDesk$Row")
  | 3 => (.object "SpecifierDesk$Row")
  | 4 => (.object "SpecifierDesk$Digits")
  | 5 => (.object "SpecifierDesk$Hex")
  | 6 => .boolean
  | _ => .boolean
theorem no_Composer : ∀ a, a < 8 → ∀ b, b < 8 → a ≠ b → (F_Composer a).2.1 ≠ (F_Composer b).2.1 := by decide +kernel
theorem to_Composer : ∀ k, k < 8 → parseFieldDescriptor (F_Composer k).2.2.1 = some (t_Composer k) := by decide +kernel
def F_Digits : u_T := fun k => match k with
  | 0 => ("SpecifierDesk$Digits", "limbs", "[I", true)
  | 1 => ("SpecifierDesk$Digits", "cells", "[B", true)
  | 2 => ("SpecifierDesk$Digits", "used", "I", false)
  | _ => ("SpecifierDesk$Digits", "lowest", "I", false)
def t_Digits : Nat → FieldType := fun k => match k with
  | 0 => (.array .int)
  | 1 => (.array .byte)
  | 2 => .int
  | _ => .int
theorem no_Digits : ∀ a, a < 4 → ∀ b, b < 4 → a ≠ b → (F_Digits a).2.1 ≠ (F_Digits b).2.1 := by decide +kernel
theorem to_Digits : ∀ k, k < 4 → parseFieldDescriptor (F_Digits k).2.2.1 = some (t_Digits k) := by decide +kernel
def F_Hex : u_T := fun k => match k with
  | 0 => ("SpecifierDesk$Hex", "mantissa", "J", false)
  | 1 => ("SpecifierDesk$Hex", "exponent", "I", false)
  | _ => ("SpecifierDesk$Hex", "digits", "I", false)
def t_Hex : Nat → FieldType := fun k => match k with
  | 0 => .long
  | 1 => .int
  | _ => .int
theorem no_Hex : ∀ a, a < 3 → ∀ b, b < 3 → a ≠ b → (F_Hex a).2.1 ≠ (F_Hex b).2.1 := by decide +kernel
theorem to_Hex : ∀ k, k < 3 → parseFieldDescriptor (F_Hex k).2.2.1 = some (t_Hex k) := by decide +kernel
def F_Row : u_T := fun k => match k with
  | 0 => ("SpecifierDesk$Row", "cells", "[B", true)
  | 1 => ("SpecifierDesk$Row", "used", "I", false)
  | _ => ("SpecifierDesk$Row", "burst", "Z", false)
def t_Row : Nat → FieldType := fun k => match k with
  | 0 => (.array .byte)
  | 1 => .int
  | _ => .boolean
theorem no_Row : ∀ a, a < 3 → ∀ b, b < 3 → a ≠ b → (F_Row a).2.1 ≠ (F_Row b).2.1 := by decide +kernel
theorem to_Row : ∀ k, k < 3 → parseFieldDescriptor (F_Row k).2.2.1 = some (t_Row k) := by decide +kernel
def F_Specifier : u_T := fun k => match k with
  | 0 => ("SpecifierDesk$Specifier", "index", "I", false)
  | 1 => ("SpecifierDesk$Specifier", "flags", "I", false)
  | 2 => ("SpecifierDesk$Specifier", "width", "I", false)
  | 3 => ("SpecifierDesk$Specifier", "precision", "I", false)
  | 4 => ("SpecifierDesk$Specifier", "conversion", "C", false)
  | 5 => ("SpecifierDesk$Specifier", "great", "Z", false)
  | 6 => ("SpecifierDesk$Specifier", "known", "Z", false)
  | 7 => ("SpecifierDesk$Specifier", "cutOff", "Z", false)
  | 8 => ("SpecifierDesk$Specifier", "flagTwice", "Z", false)
  | _ => ("SpecifierDesk$Specifier", "last", "I", false)
def t_Specifier : Nat → FieldType := fun k => match k with
  | 0 => .int
  | 1 => .int
  | 2 => .int
  | 3 => .int
  | 4 => .char
  | 5 => .boolean
  | 6 => .boolean
  | 7 => .boolean
  | 8 => .boolean
  | _ => .int
theorem no_Specifier : ∀ a, a < 10 → ∀ b, b < 10 → a ≠ b → (F_Specifier a).2.1 ≠ (F_Specifier b).2.1 := by decide +kernel
theorem to_Specifier : ∀ k, k < 10 → parseFieldDescriptor (F_Specifier k).2.2.1 = some (t_Specifier k) := by decide +kernel
def F_Desk : u_T := fun k => match k with
  | 0 => ("SpecifierDesk", "draft", "LSpecifierDesk$Row;", true)
  | 1 => ("SpecifierDesk", "result", "LSpecifierDesk$Row;", true)
  | 2 => ("SpecifierDesk", "arguments", "[LSpecifierDesk$Argument;", true)
  | 3 => ("SpecifierDesk", "specifier", "LSpecifierDesk$Specifier;", true)
  | 4 => ("SpecifierDesk", "composer", "LSpecifierDesk$Composer;", true)
  | 5 => ("SpecifierDesk", "argumentCount", "I", false)
  | 6 => ("SpecifierDesk", "nextNumber", "I", false)
  | _ => ("SpecifierDesk", "numberBefore", "I", false)
def t_Desk : Nat → FieldType := fun k => match k with
  | 0 => (.object "SpecifierDesk$Row")
  | 1 => (.object "SpecifierDesk$Row")
  | 2 => (.array (.object "SpecifierDesk$Argument"))
  | 3 => (.object "SpecifierDesk$Specifier")
  | 4 => (.object "SpecifierDesk$Composer")
  | 5 => .int
  | 6 => .int
  | _ => .int
theorem no_Desk : ∀ a, a < 8 → ∀ b, b < 8 → a ≠ b → (F_Desk a).2.1 ≠ (F_Desk b).2.1 := by decide +kernel
theorem to_Desk : ∀ k, k < 8 → parseFieldDescriptor (F_Desk k).2.2.1 = some (t_Desk k) := by decide +kernel
def F_Model : u_T := fun k => match k with
  | 0 => ("SpecifierDeskModel", "draft", "[I", true)
  | 1 => ("SpecifierDeskModel", "drafted", "I", false)
  | 2 => ("SpecifierDeskModel", "result", "[I", true)
  | 3 => ("SpecifierDeskModel", "length", "I", false)
  | 4 => ("SpecifierDeskModel", "arguments", "I", false)
  | 5 => ("SpecifierDeskModel", "kinds", "[I", true)
  | 6 => ("SpecifierDeskModel", "values", "[J", true)
  | 7 => ("SpecifierDeskModel", "widths", "[I", true)
  | 8 => ("SpecifierDeskModel", "below", "[Z", true)
  | 9 => ("SpecifierDeskModel", "sizes", "[I", true)
  | 10 => ("SpecifierDeskModel", "scales", "[I", true)
  | 11 => ("SpecifierDeskModel", "parts", "[J", true)
  | 12 => ("SpecifierDeskModel", "texts", "[I", true)
  | 13 => ("SpecifierDeskModel", "lengths", "[I", true)
  | 14 => ("SpecifierDeskModel", "end", "I", false)
  | 15 => ("SpecifierDeskModel", "index", "I", false)
  | 16 => ("SpecifierDeskModel", "flags", "I", false)
  | 17 => ("SpecifierDeskModel", "twice", "Z", false)
  | 18 => ("SpecifierDeskModel", "width", "I", false)
  | 19 => ("SpecifierDeskModel", "precision", "I", false)
  | 20 => ("SpecifierDeskModel", "conversion", "I", false)
  | 21 => ("SpecifierDeskModel", "broken", "Z", false)
  | 22 => ("SpecifierDeskModel", "piece", "[I", true)
  | 23 => ("SpecifierDeskModel", "put", "I", false)
  | 24 => ("SpecifierDeskModel", "head", "I", false)
  | 25 => ("SpecifierDeskModel", "tens", "[I", true)
  | 26 => ("SpecifierDeskModel", "count", "I", false)
  | 27 => ("SpecifierDeskModel", "exponent", "I", false)
  | _ => ("SpecifierDeskModel", "work", "[I", true)
def t_Model : Nat → FieldType := fun k => match k with
  | 0 => (.array .int)
  | 1 => .int
  | 2 => (.array .int)
  | 3 => .int
  | 4 => .int
  | 5 => (.array .int)
  | 6 => (.array .long)
  | 7 => (.array .int)
  | 8 => (.array .boolean)
  | 9 => (.array .int)
  | 10 => (.array .int)
  | 11 => (.array .long)
  | 12 => (.array .int)
  | 13 => (.array .int)
  | 14 => .int
  | 15 => .int
  | 16 => .int
  | 17 => .boolean
  | 18 => .int
  | 19 => .int
  | 20 => .int
  | 21 => .boolean
  | 22 => (.array .int)
  | 23 => .int
  | 24 => .int
  | 25 => (.array .int)
  | 26 => .int
  | 27 => .int
  | _ => (.array .int)
theorem no_Model : ∀ a, a < 29 → ∀ b, b < 29 → a ≠ b → (F_Model a).2.1 ≠ (F_Model b).2.1 := by decide +kernel
theorem to_Model : ∀ k, k < 29 → parseFieldDescriptor (F_Model k).2.2.1 = some (t_Model k) := by decide +kernel
abbrev vwCl : List vw_C := [(R_Argument, F_Argument, 7), (R_Composer, F_Composer, 8), (R_Digits, F_Digits, 4), (R_Hex, F_Hex, 3), (R_Row, F_Row, 3), (R_Specifier, F_Specifier, 10), (R_Desk, F_Desk, 8), (R_Model, F_Model, 29)]
def y_Desk_init : MethodName := ⟨R_Desk, "<init>", "()V"⟩
abbrev b_Desk_init : ByteArray := prog_1_method_1_code
def y_Desk_write : MethodName := ⟨R_Desk, "write", "(J)Z"⟩
abbrev b_Desk_write : ByteArray := prog_1_method_2_code
def y_Desk_clear : MethodName := ⟨R_Desk, "clear", "()V"⟩
abbrev b_Desk_clear : ByteArray := prog_1_method_3_code
def y_Desk_nothing : MethodName := ⟨R_Desk, "nothing", "()I"⟩
abbrev b_Desk_nothing : ByteArray := prog_1_method_4_code
def y_Desk_takeArgument : MethodName := ⟨R_Desk, "takeArgument", "(LSpecifierDesk$Kind;ZJ)LSpecifierDesk$Argument;"⟩
abbrev b_Desk_takeArgument : ByteArray := prog_1_method_16_code
def y_Desk_truth : MethodName := ⟨R_Desk, "truth", "(Z)I"⟩
abbrev b_Desk_truth : ByteArray := prog_1_method_5_code
def y_Desk_character : MethodName := ⟨R_Desk, "character", "(I)I"⟩
abbrev b_Desk_character : ByteArray := prog_1_method_6_code
def y_Desk_whole : MethodName := ⟨R_Desk, "whole", "(JI)I"⟩
abbrev b_Desk_whole : ByteArray := prog_1_method_7_code
def y_Desk_size : MethodName := ⟨R_Desk, "size", "(ZJ)I"⟩
abbrev b_Desk_size : ByteArray := prog_1_method_8_code
def y_Desk_more : MethodName := ⟨R_Desk, "more", "(J)I"⟩
abbrev b_Desk_more : ByteArray := prog_1_method_9_code
def y_Desk_latestArgument : MethodName := ⟨R_Desk, "latestArgument", "()LSpecifierDesk$Argument;"⟩
abbrev b_Desk_latestArgument : ByteArray := prog_1_method_17_code
def y_Desk_argumentOf : MethodName := ⟨R_Desk, "argumentOf", "(I)LSpecifierDesk$Argument;"⟩
abbrev b_Desk_argumentOf : ByteArray := prog_1_method_18_code
def y_Desk_scale : MethodName := ⟨R_Desk, "scale", "(I)I"⟩
abbrev b_Desk_scale : ByteArray := prog_1_method_10_code
def y_Desk_fraction : MethodName := ⟨R_Desk, "fraction", "(JJI)I"⟩
abbrev b_Desk_fraction : ByteArray := prog_1_method_11_code
def y_Desk_text : MethodName := ⟨R_Desk, "text", "()I"⟩
abbrev b_Desk_text : ByteArray := prog_1_method_12_code
def y_Desk_layOut : MethodName := ⟨R_Desk, "layOut", "()I"⟩
abbrev b_Desk_layOut : ByteArray := prog_1_method_13_code
def y_Desk_readAll : MethodName := ⟨R_Desk, "readAll", "()I"⟩
abbrev b_Desk_readAll : ByteArray := prog_1_method_19_code
def y_Desk_layOutSpecifier : MethodName := ⟨R_Desk, "layOutSpecifier", "()I"⟩
abbrev b_Desk_layOutSpecifier : ByteArray := prog_1_method_20_code
def y_Desk_chosenNumber : MethodName := ⟨R_Desk, "chosenNumber", "()I"⟩
abbrev b_Desk_chosenNumber : ByteArray := prog_1_method_21_code
def y_Desk_faultOf : MethodName := ⟨R_Desk, "faultOf", "(LSpecifierDesk$Argument;)I"⟩
abbrev b_Desk_faultOf : ByteArray := prog_1_method_22_code
def y_Desk_length : MethodName := ⟨R_Desk, "length", "()I"⟩
abbrev b_Desk_length : ByteArray := prog_1_method_14_code
def y_Desk_characterAt : MethodName := ⟨R_Desk, "characterAt", "(I)I"⟩
abbrev b_Desk_characterAt : ByteArray := prog_1_method_15_code
def y_Object_init : MethodName := ⟨R_Object, "<init>", "()V"⟩
abbrev b_Object_init : ByteArray := object_method_1_code
def y_Row_init : MethodName := ⟨R_Row, "<init>", "(I)V"⟩
abbrev b_Row_init : ByteArray := prog_8_method_1_code
def y_Row_add : MethodName := ⟨R_Row, "add", "(I)V"⟩
abbrev b_Row_add : ByteArray := prog_8_method_3_code
def y_Row_empty : MethodName := ⟨R_Row, "empty", "()V"⟩
abbrev b_Row_empty : ByteArray := prog_8_method_2_code
def y_Row_addRow : MethodName := ⟨R_Row, "addRow", "(LSpecifierDesk$Row;)V"⟩
abbrev b_Row_addRow : ByteArray := prog_8_method_6_code
def y_Row_at : MethodName := ⟨R_Row, "at", "(I)I"⟩
abbrev b_Row_at : ByteArray := prog_8_method_10_code
def y_Row_addMany : MethodName := ⟨R_Row, "addMany", "(II)V"⟩
abbrev b_Row_addMany : ByteArray := prog_8_method_4_code
def y_Row_raiseFrom : MethodName := ⟨R_Row, "raiseFrom", "(I)V"⟩
abbrev b_Row_raiseFrom : ByteArray := prog_8_method_9_code
def y_Row_addWord : MethodName := ⟨R_Row, "addWord", "(Ljava/lang/String;)V"⟩
abbrev b_Row_addWord : ByteArray := prog_8_method_5_code
def y_Row_addNumber : MethodName := ⟨R_Row, "addNumber", "(II)V"⟩
abbrev b_Row_addNumber : ByteArray := prog_8_method_7_code
def y_Row_cutTo : MethodName := ⟨R_Row, "cutTo", "(I)V"⟩
abbrev b_Row_cutTo : ByteArray := prog_8_method_8_code
def y_Math_max : MethodName := ⟨R_Math, "max", "(II)I"⟩
abbrev b_Math_max : ByteArray := prog_14_method_65_code
def y_Math_min : MethodName := ⟨R_Math, "min", "(II)I"⟩
abbrev b_Math_min : ByteArray := prog_14_method_69_code
def y_Math_abs : MethodName := ⟨R_Math, "abs", "(I)I"⟩
abbrev b_Math_abs : ByteArray := prog_14_method_59_code
def y_Specifier_init : MethodName := ⟨R_Specifier, "<init>", "()V"⟩
abbrev b_Specifier_init : ByteArray := prog_9_method_1_code
def y_Specifier_readFrom : MethodName := ⟨R_Specifier, "readFrom", "(LSpecifierDesk$Row;I)V"⟩
abbrev b_Specifier_readFrom : ByteArray := prog_9_method_2_code
def y_Specifier_readIndex : MethodName := ⟨R_Specifier, "readIndex", "(LSpecifierDesk$Row;I)I"⟩
abbrev b_Specifier_readIndex : ByteArray := prog_9_method_9_code
def y_Specifier_digitsEnd : MethodName := ⟨R_Specifier, "digitsEnd", "(LSpecifierDesk$Row;I)I"⟩
abbrev b_Specifier_digitsEnd : ByteArray := prog_9_method_14_code
def y_Specifier_numberIn : MethodName := ⟨R_Specifier, "numberIn", "(LSpecifierDesk$Row;II)I"⟩
abbrev b_Specifier_numberIn : ByteArray := prog_9_method_15_code
def y_Specifier_readFlags : MethodName := ⟨R_Specifier, "readFlags", "(LSpecifierDesk$Row;I)I"⟩
abbrev b_Specifier_readFlags : ByteArray := prog_9_method_10_code
def y_Specifier_flagOf : MethodName := ⟨R_Specifier, "flagOf", "(I)I"⟩
abbrev b_Specifier_flagOf : ByteArray := prog_9_method_16_code
def y_Specifier_hasAny : MethodName := ⟨R_Specifier, "hasAny", "(I)Z"⟩
abbrev b_Specifier_hasAny : ByteArray := prog_9_method_3_code
def y_Specifier_readWidth : MethodName := ⟨R_Specifier, "readWidth", "(LSpecifierDesk$Row;I)I"⟩
abbrev b_Specifier_readWidth : ByteArray := prog_9_method_11_code
def y_Specifier_readPrecision : MethodName := ⟨R_Specifier, "readPrecision", "(LSpecifierDesk$Row;I)I"⟩
abbrev b_Specifier_readPrecision : ByteArray := prog_9_method_12_code
def y_Specifier_readConversion : MethodName := ⟨R_Specifier, "readConversion", "(LSpecifierDesk$Row;I)V"⟩
abbrev b_Specifier_readConversion : ByteArray := prog_9_method_13_code
def y_Specifier_fault : MethodName := ⟨R_Specifier, "fault", "()I"⟩
abbrev b_Specifier_fault : ByteArray := prog_9_method_5_code
def y_Specifier_faultOfLineEnd : MethodName := ⟨R_Specifier, "faultOfLineEnd", "()I"⟩
abbrev b_Specifier_faultOfLineEnd : ByteArray := prog_9_method_6_code
def y_Specifier_faultOfParts : MethodName := ⟨R_Specifier, "faultOfParts", "()I"⟩
abbrev b_Specifier_faultOfParts : ByteArray := prog_9_method_7_code
def y_Specifier_hasBoth : MethodName := ⟨R_Specifier, "hasBoth", "(II)Z"⟩
abbrev b_Specifier_hasBoth : ByteArray := prog_9_method_4_code
def y_Specifier_ownFlags : MethodName := ⟨R_Specifier, "ownFlags", "()I"⟩
abbrev b_Specifier_ownFlags : ByteArray := prog_9_method_8_code
def y_Composer_init : MethodName := ⟨R_Composer, "<init>", "(LSpecifierDesk$Specifier;LSpecifierDesk$Row;)V"⟩
abbrev b_Composer_init : ByteArray := prog_4_method_1_code
def y_Composer_layMark : MethodName := ⟨R_Composer, "layMark", "(I)V"⟩
abbrev b_Composer_layMark : ByteArray := prog_4_method_2_code
def y_Composer_start : MethodName := ⟨R_Composer, "start", "()V"⟩
abbrev b_Composer_start : ByteArray := prog_4_method_4_code
def y_Composer_putTogether : MethodName := ⟨R_Composer, "putTogether", "()V"⟩
abbrev b_Composer_putTogether : ByteArray := prog_4_method_6_code
def y_Composer_layArgument : MethodName := ⟨R_Composer, "layArgument", "(LSpecifierDesk$Argument;)V"⟩
abbrev b_Composer_layArgument : ByteArray := prog_4_method_3_code
def y_Composer_setUnfilled : MethodName := ⟨R_Composer, "setUnfilled", "(Ljava/lang/String;)V"⟩
abbrev b_Composer_setUnfilled : ByteArray := prog_4_method_5_code
def y_Composer_setSign : MethodName := ⟨R_Composer, "setSign", "(Z)V"⟩
abbrev b_Composer_setSign : ByteArray := prog_4_method_11_code
def y_Composer_addTruth : MethodName := ⟨R_Composer, "addTruth", "(Z)V"⟩
abbrev b_Composer_addTruth : ByteArray := prog_4_method_17_code
def y_Composer_setText : MethodName := ⟨R_Composer, "setText", "(LSpecifierDesk$Argument;)V"⟩
abbrev b_Composer_setText : ByteArray := prog_4_method_7_code
def y_Composer_setDecimalText : MethodName := ⟨R_Composer, "setDecimalText", "(LSpecifierDesk$Argument;)V"⟩
abbrev b_Composer_setDecimalText : ByteArray := prog_4_method_8_code
def y_Composer_addMinus : MethodName := ⟨R_Composer, "addMinus", "(Z)V"⟩
abbrev b_Composer_addMinus : ByteArray := prog_4_method_16_code
def y_Composer_addWhole : MethodName := ⟨R_Composer, "addWhole", "(Z)V"⟩
abbrev b_Composer_addWhole : ByteArray := prog_4_method_18_code
def y_Composer_letterOf : MethodName := ⟨R_Composer, "letterOf", "(I)I"⟩
abbrev b_Composer_letterOf : ByteArray := prog_4_method_20_code
def y_Composer_addBehindPoint : MethodName := ⟨R_Composer, "addBehindPoint", "(IIZ)V"⟩
abbrev b_Composer_addBehindPoint : ByteArray := prog_4_method_19_code
def y_Composer_setFractionText : MethodName := ⟨R_Composer, "setFractionText", "(LSpecifierDesk$Argument;)V"⟩
abbrev b_Composer_setFractionText : ByteArray := prog_4_method_9_code
def y_Composer_setBased : MethodName := ⟨R_Composer, "setBased", "(LSpecifierDesk$Argument;I)V"⟩
abbrev b_Composer_setBased : ByteArray := prog_4_method_12_code
def y_Composer_setHex : MethodName := ⟨R_Composer, "setHex", "(LSpecifierDesk$Argument;)V"⟩
abbrev b_Composer_setHex : ByteArray := prog_4_method_15_code
def y_Composer_setDecimal : MethodName := ⟨R_Composer, "setDecimal", "(LSpecifierDesk$Argument;)V"⟩
abbrev b_Composer_setDecimal : ByteArray := prog_4_method_10_code
def y_Composer_setFixed : MethodName := ⟨R_Composer, "setFixed", "(I)V"⟩
abbrev b_Composer_setFixed : ByteArray := prog_4_method_13_code
def y_Composer_setScientific : MethodName := ⟨R_Composer, "setScientific", "(I)V"⟩
abbrev b_Composer_setScientific : ByteArray := prog_4_method_14_code
def y_Digits_init : MethodName := ⟨R_Digits, "<init>", "()V"⟩
abbrev b_Digits_init : ByteArray := prog_5_method_1_code
def y_Digits_take : MethodName := ⟨R_Digits, "take", "(LSpecifierDesk$Argument;I)V"⟩
abbrev b_Digits_take : ByteArray := prog_5_method_2_code
def y_Digits_setLimbs : MethodName := ⟨R_Digits, "setLimbs", "(IJ)V"⟩
abbrev b_Digits_setLimbs : ByteArray := prog_5_method_11_code
def y_Digits_spell : MethodName := ⟨R_Digits, "spell", "(I)V"⟩
abbrev b_Digits_spell : ByteArray := prog_5_method_12_code
def y_Digits_topFrom : MethodName := ⟨R_Digits, "topFrom", "(I)I"⟩
abbrev b_Digits_topFrom : ByteArray := prog_5_method_13_code
def y_Digits_divide : MethodName := ⟨R_Digits, "divide", "(II)J"⟩
abbrev b_Digits_divide : ByteArray := prog_5_method_14_code
def y_Digits_trim : MethodName := ⟨R_Digits, "trim", "()V"⟩
abbrev b_Digits_trim : ByteArray := prog_5_method_10_code
def y_Digits_isZero : MethodName := ⟨R_Digits, "isZero", "()Z"⟩
abbrev b_Digits_isZero : ByteArray := prog_5_method_4_code
def y_Digits_first : MethodName := ⟨R_Digits, "first", "()I"⟩
abbrev b_Digits_first : ByteArray := prog_5_method_5_code
def y_Digits_at : MethodName := ⟨R_Digits, "at", "(I)I"⟩
abbrev b_Digits_at : ByteArray := prog_5_method_7_code
def y_Digits_lastNotZero : MethodName := ⟨R_Digits, "lastNotZero", "()I"⟩
abbrev b_Digits_lastNotZero : ByteArray := prog_5_method_6_code
def y_Digits_takeBits : MethodName := ⟨R_Digits, "takeBits", "(JI)V"⟩
abbrev b_Digits_takeBits : ByteArray := prog_5_method_3_code
def y_Digits_roundTo : MethodName := ⟨R_Digits, "roundTo", "(I)V"⟩
abbrev b_Digits_roundTo : ByteArray := prog_5_method_8_code
def y_Digits_carryInto : MethodName := ⟨R_Digits, "carryInto", "(I)V"⟩
abbrev b_Digits_carryInto : ByteArray := prog_5_method_9_code
def y_Hex_init : MethodName := ⟨R_Hex, "<init>", "()V"⟩
abbrev b_Hex_init : ByteArray := prog_6_method_1_code
def y_Hex_exponentBits : MethodName := ⟨R_Hex, "exponentBits", "(J)I"⟩
abbrev b_Hex_exponentBits : ByteArray := prog_6_method_2_code
def y_Hex_take : MethodName := ⟨R_Hex, "take", "(J)V"⟩
abbrev b_Hex_take : ByteArray := prog_6_method_3_code
def y_Hex_dropZeros : MethodName := ⟨R_Hex, "dropZeros", "()V"⟩
abbrev b_Hex_dropZeros : ByteArray := prog_6_method_5_code
def y_Hex_roundTo : MethodName := ⟨R_Hex, "roundTo", "(I)V"⟩
abbrev b_Hex_roundTo : ByteArray := prog_6_method_4_code
def y_Hex_at : MethodName := ⟨R_Hex, "at", "(I)I"⟩
abbrev b_Hex_at : ByteArray := prog_6_method_6_code
def y_Argument_init : MethodName := ⟨R_Argument, "<init>", "()V"⟩
abbrev b_Argument_init : ByteArray := prog_3_method_1_code
def y_Argument_become : MethodName := ⟨R_Argument, "become", "(LSpecifierDesk$Kind;ZJ)V"⟩
abbrev b_Argument_become : ByteArray := prog_3_method_2_code
def y_Argument_growBy : MethodName := ⟨R_Argument, "growBy", "(J)Z"⟩
abbrev b_Argument_growBy : ByteArray := prog_3_method_3_code
def y_Argument_isCharacterNumber : MethodName := ⟨R_Argument, "isCharacterNumber", "()Z"⟩
abbrev b_Argument_isCharacterNumber : ByteArray := prog_3_method_5_code
def y_Argument_isNoNumber : MethodName := ⟨R_Argument, "isNoNumber", "()Z"⟩
abbrev b_Argument_isNoNumber : ByteArray := prog_3_method_6_code
def y_Argument_isBeyondNumbers : MethodName := ⟨R_Argument, "isBeyondNumbers", "()Z"⟩
abbrev b_Argument_isBeyondNumbers : ByteArray := prog_3_method_7_code
def y_Argument_isBelowZero : MethodName := ⟨R_Argument, "isBelowZero", "()Z"⟩
abbrev b_Argument_isBelowZero : ByteArray := prog_3_method_4_code
def y_Argument_isSizeZero : MethodName := ⟨R_Argument, "isSizeZero", "()Z"⟩
abbrev b_Argument_isSizeZero : ByteArray := prog_3_method_8_code
def y_Arrays_fill : MethodName := ⟨R_Arrays, "fill", "([JJ)V"⟩
abbrev b_Arrays_fill : ByteArray := prog_18_method_101_code
def y_Arrays_fill_1 : MethodName := ⟨R_Arrays, "fill", "([II)V"⟩
abbrev b_Arrays_fill_1 : ByteArray := prog_18_method_103_code
def y_String_indexOf : MethodName := ⟨R_String, "indexOf", "(I)I"⟩
abbrev b_String_indexOf : ByteArray := prog_15_method_79_code
def y_String_indexOf_1 : MethodName := ⟨R_String, "indexOf", "(II)I"⟩
abbrev b_String_indexOf_1 : ByteArray := prog_15_method_80_code
def y_String_isLatin1 : MethodName := ⟨R_String, "isLatin1", "()Z"⟩
abbrev b_String_isLatin1 : ByteArray := prog_15_method_154_code
def y_String_length : MethodName := ⟨R_String, "length", "()I"⟩
abbrev b_String_length : ByteArray := prog_15_method_54_code
def y_String_coder : MethodName := ⟨R_String, "coder", "()B"⟩
abbrev b_String_coder : ByteArray := prog_15_method_152_code
def y_String_checkBoundsBeginEnd : MethodName := ⟨R_String, "checkBoundsBeginEnd", "(III)V"⟩
abbrev b_String_checkBoundsBeginEnd : ByteArray := prog_15_method_158_code
def y_String_charAt : MethodName := ⟨R_String, "charAt", "(I)C"⟩
abbrev b_String_charAt : ByteArray := prog_15_method_56_code
def y_String_checkIndex : MethodName := ⟨R_String, "checkIndex", "(II)V"⟩
abbrev b_String_checkIndex : ByteArray := prog_15_method_155_code
def y_StringLatin1_indexOf : MethodName := ⟨R_StringLatin1, "indexOf", "([BIII)I"⟩
abbrev b_StringLatin1_indexOf : ByteArray := prog_16_method_22_code
def y_StringLatin1_canEncode : MethodName := ⟨R_StringLatin1, "canEncode", "(I)Z"⟩
abbrev b_StringLatin1_canEncode : ByteArray := prog_16_method_4_code
def y_StringLatin1_indexOfChar : MethodName := ⟨R_StringLatin1, "indexOfChar", "([BIII)I"⟩
abbrev b_StringLatin1_indexOfChar : ByteArray := prog_16_method_23_code
def y_StringLatin1_charAt : MethodName := ⟨R_StringLatin1, "charAt", "([BI)C"⟩
abbrev b_StringLatin1_charAt : ByteArray := prog_16_method_2_code
def y_StringUTF16_indexOf : MethodName := ⟨R_StringUTF16, "indexOf", "([BIII)I"⟩
abbrev b_StringUTF16_indexOf : ByteArray := prog_17_method_40_code
def y_StringUTF16_indexOfChar : MethodName := ⟨R_StringUTF16, "indexOfChar", "([BIII)I"⟩
abbrev b_StringUTF16_indexOfChar : ByteArray := prog_17_method_47_code
def y_StringUTF16_checkBoundsBeginEnd : MethodName := ⟨R_StringUTF16, "checkBoundsBeginEnd", "(II[B)V"⟩
abbrev b_StringUTF16_checkBoundsBeginEnd : ByteArray := prog_17_method_93_code
def y_StringUTF16_length : MethodName := ⟨R_StringUTF16, "length", "([B)I"⟩
abbrev b_StringUTF16_length : ByteArray := prog_17_method_6_code
def y_StringUTF16_indexOfCharUnsafe : MethodName := ⟨R_StringUTF16, "indexOfCharUnsafe", "([BIII)I"⟩
abbrev b_StringUTF16_indexOfCharUnsafe : ByteArray := prog_17_method_48_code
def y_StringUTF16_getChar : MethodName := ⟨R_StringUTF16, "getChar", "([BI)C"⟩
abbrev b_StringUTF16_getChar : ByteArray := prog_17_method_5_code
def y_StringUTF16_indexOfSupplementary : MethodName := ⟨R_StringUTF16, "indexOfSupplementary", "([BIII)I"⟩
abbrev b_StringUTF16_indexOfSupplementary : ByteArray := prog_17_method_49_code
def y_StringUTF16_charAt : MethodName := ⟨R_StringUTF16, "charAt", "([BI)C"⟩
abbrev b_StringUTF16_charAt : ByteArray := prog_17_method_83_code
def y_StringUTF16_checkIndex : MethodName := ⟨R_StringUTF16, "checkIndex", "(I[B)V"⟩
abbrev b_StringUTF16_checkIndex : ByteArray := prog_17_method_91_code
def y_Preconditions_checkFromToIndex : MethodName := ⟨R_Preconditions, "checkFromToIndex", "(IIILjava/util/function/BiFunction;)I"⟩
abbrev b_Preconditions_checkFromToIndex : ByteArray := prog_19_method_12_code
def y_Preconditions_checkIndex : MethodName := ⟨R_Preconditions, "checkIndex", "(IILjava/util/function/BiFunction;)I"⟩
abbrev b_Preconditions_checkIndex : ByteArray := prog_19_method_11_code
def y_Character_isValidCodePoint : MethodName := ⟨R_Character, "isValidCodePoint", "(I)Z"⟩
abbrev b_Character_isValidCodePoint : ByteArray := prog_12_method_11_code
def y_Character_highSurrogate : MethodName := ⟨R_Character, "highSurrogate", "(I)C"⟩
abbrev b_Character_highSurrogate : ByteArray := prog_12_method_28_code
def y_Character_lowSurrogate : MethodName := ⟨R_Character, "lowSurrogate", "(I)C"⟩
abbrev b_Character_lowSurrogate : ByteArray := prog_12_method_29_code
def y_Kind_goesWith : MethodName := ⟨R_Kind, "goesWith", "(C)Z"⟩
abbrev b_Kind_goesWith : ByteArray := prog_7_method_4_code
def y_Enum_ordinal : MethodName := ⟨R_Enum, "ordinal", "()I"⟩
abbrev b_Enum_ordinal : ByteArray := prog_13_method_2_code
def y_Model_init : MethodName := ⟨R_Model, "<init>", "()V"⟩
abbrev b_Model_init : ByteArray := prog_11_method_1_code
def y_Model_write : MethodName := ⟨R_Model, "write", "(J)Z"⟩
abbrev b_Model_write : ByteArray := prog_11_method_2_code
def y_Model_clear : MethodName := ⟨R_Model, "clear", "()V"⟩
abbrev b_Model_clear : ByteArray := prog_11_method_3_code
def y_Model_nothing : MethodName := ⟨R_Model, "nothing", "()I"⟩
abbrev b_Model_nothing : ByteArray := prog_11_method_5_code
def y_Model_argument : MethodName := ⟨R_Model, "argument", "(IJZ)I"⟩
abbrev b_Model_argument : ByteArray := prog_11_method_4_code
def y_Model_truth : MethodName := ⟨R_Model, "truth", "(Z)I"⟩
abbrev b_Model_truth : ByteArray := prog_11_method_6_code
def y_Model_character : MethodName := ⟨R_Model, "character", "(I)I"⟩
abbrev b_Model_character : ByteArray := prog_11_method_7_code
def y_Model_whole : MethodName := ⟨R_Model, "whole", "(JI)I"⟩
abbrev b_Model_whole : ByteArray := prog_11_method_8_code
def y_Model_size : MethodName := ⟨R_Model, "size", "(ZJ)I"⟩
abbrev b_Model_size : ByteArray := prog_11_method_10_code
def y_Model_sizeOf : MethodName := ⟨R_Model, "sizeOf", "(IJ)V"⟩
abbrev b_Model_sizeOf : ByteArray := prog_11_method_9_code
def y_Model_more : MethodName := ⟨R_Model, "more", "(J)I"⟩
abbrev b_Model_more : ByteArray := prog_11_method_11_code
def y_Model_scale : MethodName := ⟨R_Model, "scale", "(I)I"⟩
abbrev b_Model_scale : ByteArray := prog_11_method_12_code
def y_Model_fraction : MethodName := ⟨R_Model, "fraction", "(JJI)I"⟩
abbrev b_Model_fraction : ByteArray := prog_11_method_13_code
def y_Model_text : MethodName := ⟨R_Model, "text", "()I"⟩
abbrev b_Model_text : ByteArray := prog_11_method_14_code
def y_Model_layOut : MethodName := ⟨R_Model, "layOut", "()I"⟩
abbrev b_Model_layOut : ByteArray := prog_11_method_59_code
def y_Model_goOver : MethodName := ⟨R_Model, "goOver", "(I)V"⟩
abbrev b_Model_goOver : ByteArray := prog_11_method_20_code
def y_Model_look : MethodName := ⟨R_Model, "look", "(I)I"⟩
abbrev b_Model_look : ByteArray := prog_11_method_15_code
def y_Model_isDigit : MethodName := ⟨R_Model, "isDigit", "(I)Z"⟩
abbrev b_Model_isDigit : ByteArray := prog_11_method_16_code
def y_Model_digitsEnd : MethodName := ⟨R_Model, "digitsEnd", "(I)I"⟩
abbrev b_Model_digitsEnd : ByteArray := prog_11_method_17_code
def y_Model_said : MethodName := ⟨R_Model, "said", "(II)I"⟩
abbrev b_Model_said : ByteArray := prog_11_method_18_code
def y_Model_flagOf : MethodName := ⟨R_Model, "flagOf", "(I)I"⟩
abbrev b_Model_flagOf : ByteArray := prog_11_method_19_code
def y_Model_faultOf : MethodName := ⟨R_Model, "faultOf", "()I"⟩
abbrev b_Model_faultOf : ByteArray := prog_11_method_27_code
def y_Model_small : MethodName := ⟨R_Model, "small", "()I"⟩
abbrev b_Model_small : ByteArray := prog_11_method_22_code
def y_Model_isGreat : MethodName := ⟨R_Model, "isGreat", "()Z"⟩
abbrev b_Model_isGreat : ByteArray := prog_11_method_23_code
def y_Model_isOneOf : MethodName := ⟨R_Model, "isOneOf", "(IJJ)Z"⟩
abbrev b_Model_isOneOf : ByteArray := prog_11_method_21_code
def y_Model_isNumber : MethodName := ⟨R_Model, "isNumber", "()Z"⟩
abbrev b_Model_isNumber : ByteArray := prog_11_method_24_code
def y_Model_has : MethodName := ⟨R_Model, "has", "(I)Z"⟩
abbrev b_Model_has : ByteArray := prog_11_method_26_code
def y_Model_allowed : MethodName := ⟨R_Model, "allowed", "()I"⟩
abbrev b_Model_allowed : ByteArray := prog_11_method_25_code
def y_Model_add : MethodName := ⟨R_Model, "add", "(I)V"⟩
abbrev b_Model_add : ByteArray := prog_11_method_34_code
def y_Model_append : MethodName := ⟨R_Model, "append", "()Z"⟩
abbrev b_Model_append : ByteArray := prog_11_method_58_code
def y_Model_argumentFault : MethodName := ⟨R_Model, "argumentFault", "(II)I"⟩
abbrev b_Model_argumentFault : ByteArray := prog_11_method_56_code
def y_Model_lay : MethodName := ⟨R_Model, "lay", "(II)V"⟩
abbrev b_Model_lay : ByteArray := prog_11_method_57_code
def y_Model_addTruth : MethodName := ⟨R_Model, "addTruth", "(Z)V"⟩
abbrev b_Model_addTruth : ByteArray := prog_11_method_55_code
def y_Model_addWord : MethodName := ⟨R_Model, "addWord", "(JJ)V"⟩
abbrev b_Model_addWord : ByteArray := prog_11_method_35_code
def y_Model_textOf : MethodName := ⟨R_Model, "textOf", "(I)V"⟩
abbrev b_Model_textOf : ByteArray := prog_11_method_52_code
def y_Model_isZeroSize : MethodName := ⟨R_Model, "isZeroSize", "(I)Z"⟩
abbrev b_Model_isZeroSize : ByteArray := prog_11_method_43_code
def y_Model_spellLong : MethodName := ⟨R_Model, "spellLong", "(JI)V"⟩
abbrev b_Model_spellLong : ByteArray := prog_11_method_29_code
def y_Model_spell : MethodName := ⟨R_Model, "spell", "(II)V"⟩
abbrev b_Model_spell : ByteArray := prog_11_method_28_code
def y_Model_addDigits : MethodName := ⟨R_Model, "addDigits", "()V"⟩
abbrev b_Model_addDigits : ByteArray := prog_11_method_38_code
def y_Model_addDigit : MethodName := ⟨R_Model, "addDigit", "(I)V"⟩
abbrev b_Model_addDigit : ByteArray := prog_11_method_37_code
def y_Model_isNone : MethodName := ⟨R_Model, "isNone", "(I)Z"⟩
abbrev b_Model_isNone : ByteArray := prog_11_method_46_code
def y_Model_isLast : MethodName := ⟨R_Model, "isLast", "(I)Z"⟩
abbrev b_Model_isLast : ByteArray := prog_11_method_45_code
def y_Model_isBelow : MethodName := ⟨R_Model, "isBelow", "(I)Z"⟩
abbrev b_Model_isBelow : ByteArray := prog_11_method_44_code
def y_Model_fractionText : MethodName := ⟨R_Model, "fractionText", "(I)V"⟩
abbrev b_Model_fractionText : ByteArray := prog_11_method_53_code
def y_Model_take : MethodName := ⟨R_Model, "take", "(I)V"⟩
abbrev b_Model_take : ByteArray := prog_11_method_30_code
def y_Model_digit : MethodName := ⟨R_Model, "digit", "(I)I"⟩
abbrev b_Model_digit : ByteArray := prog_11_method_31_code
def y_Model_addNumber : MethodName := ⟨R_Model, "addNumber", "(II)V"⟩
abbrev b_Model_addNumber : ByteArray := prog_11_method_36_code
def y_Model_decimalText : MethodName := ⟨R_Model, "decimalText", "(I)V"⟩
abbrev b_Model_decimalText : ByteArray := prog_11_method_54_code
def y_Model_wholes : MethodName := ⟨R_Model, "wholes", "(II)V"⟩
abbrev b_Model_wholes : ByteArray := prog_11_method_42_code
def y_Model_begin : MethodName := ⟨R_Model, "begin", "(Z)V"⟩
abbrev b_Model_begin : ByteArray := prog_11_method_40_code
def y_Model_group : MethodName := ⟨R_Model, "group", "(II)V"⟩
abbrev b_Model_group : ByteArray := prog_11_method_39_code
def y_Model_finish : MethodName := ⟨R_Model, "finish", "(ZZ)V"⟩
abbrev b_Model_finish : ByteArray := prog_11_method_41_code
def y_Model_last : MethodName := ⟨R_Model, "last", "(I)V"⟩
abbrev b_Model_last : ByteArray := prog_11_method_51_code
def y_Model_hexadecimal : MethodName := ⟨R_Model, "hexadecimal", "(I)V"⟩
abbrev b_Model_hexadecimal : ByteArray := prog_11_method_50_code
def y_Model_floating : MethodName := ⟨R_Model, "floating", "(II)V"⟩
abbrev b_Model_floating : ByteArray := prog_11_method_49_code
def y_Model_keep : MethodName := ⟨R_Model, "keep", "(I)V"⟩
abbrev b_Model_keep : ByteArray := prog_11_method_32_code
def y_Model_exponential : MethodName := ⟨R_Model, "exponential", "(I)V"⟩
abbrev b_Model_exponential : ByteArray := prog_11_method_47_code
def y_Model_isZero : MethodName := ⟨R_Model, "isZero", "()Z"⟩
abbrev b_Model_isZero : ByteArray := prog_11_method_33_code
def y_Model_fixed : MethodName := ⟨R_Model, "fixed", "(I)V"⟩
abbrev b_Model_fixed : ByteArray := prog_11_method_48_code
def y_Model_length : MethodName := ⟨R_Model, "length", "()I"⟩
abbrev b_Model_length : ByteArray := prog_11_method_60_code
def y_Model_characterAt : MethodName := ⟨R_Model, "characterAt", "(I)I"⟩
abbrev b_Model_characterAt : ByteArray := prog_11_method_61_code
def gw : List Cond := lw_tbl.filter goodWord
theorem gw_ok : ∀ w ∈ gw, w ∈ gw ∧ ((w.onTables && w.keeps) = true ∨ ∃ ty, w = .arrayClass ty) := fun w h => ⟨h, good_of_word (List.mem_filter.mp h).2⟩
theorem gm {w : Cond} {i : Nat} (h : lw_tbl[i]? = some w) (hg : goodWord w = true) : w ∈ gw := List.mem_filter.mpr ⟨List.mem_of_getElem? h, hg⟩
def isNw : Cond → Bool
  | .fieldLinkNest .. => true
  | .methodLinkNest .. => true
  | _ => false
def nwL : List Cond := lw_tbl.filter isNw
theorem nwm {w : Cond} {i : Nat} (h : lw_tbl[i]? = some w) (hg : isNw w = true) : w ∈ nwL := List.mem_filter.mpr ⟨List.mem_of_getElem? h, hg⟩
theorem nw_warm (w : Cond) (hw : w ∈ nwL) {s U : State} (hW : s.WarmedH U.vm) (h : va_Nw w s) : va_Nw w U := by
  have h1 := (List.mem_filter.mp hw).2
  cases w <;> first | exact va_Nw.warmF hW h | exact va_Nw.warmM hW h | cases h1
theorem nw_same (w : Cond) (hw : w ∈ nwL) {u U : State} (e : u.vm = U.vm) (h : va_Nw w u) : va_Nw w U := by
  have h1 := (List.mem_filter.mp hw).2
  cases w <;> first | exact va_Nw.same rfl e h | cases h1
theorem in_Argument : ∀ w ∈ u_ws R_Argument F_Argument 7, w ∈ gw := fun w h => List.mem_filter.mpr ((by decide +kernel : ∀ w ∈ u_ws R_Argument F_Argument 7, w ∈ lw_tbl ∧ goodWord w = true) w h)
theorem in_Composer : ∀ w ∈ u_ws R_Composer F_Composer 8, w ∈ gw := fun w h => List.mem_filter.mpr ((by decide +kernel : ∀ w ∈ u_ws R_Composer F_Composer 8, w ∈ lw_tbl ∧ goodWord w = true) w h)
theorem in_Digits : ∀ w ∈ u_ws R_Digits F_Digits 4, w ∈ gw := fun w h => List.mem_filter.mpr ((by decide +kernel : ∀ w ∈ u_ws R_Digits F_Digits 4, w ∈ lw_tbl ∧ goodWord w = true) w h)
theorem in_Hex : ∀ w ∈ u_ws R_Hex F_Hex 3, w ∈ gw := fun w h => List.mem_filter.mpr ((by decide +kernel : ∀ w ∈ u_ws R_Hex F_Hex 3, w ∈ lw_tbl ∧ goodWord w = true) w h)
theorem in_Row : ∀ w ∈ u_ws R_Row F_Row 3, w ∈ gw := fun w h => List.mem_filter.mpr ((by decide +kernel : ∀ w ∈ u_ws R_Row F_Row 3, w ∈ lw_tbl ∧ goodWord w = true) w h)
theorem in_Specifier : ∀ w ∈ u_ws R_Specifier F_Specifier 10, w ∈ gw := fun w h => List.mem_filter.mpr ((by decide +kernel : ∀ w ∈ u_ws R_Specifier F_Specifier 10, w ∈ lw_tbl ∧ goodWord w = true) w h)
theorem in_Desk : ∀ w ∈ u_ws R_Desk F_Desk 8, w ∈ gw := fun w h => List.mem_filter.mpr ((by decide +kernel : ∀ w ∈ u_ws R_Desk F_Desk 8, w ∈ lw_tbl ∧ goodWord w = true) w h)
theorem in_Model : ∀ w ∈ u_ws R_Model F_Model 29, w ∈ gw := fun w h => List.mem_filter.mpr ((by decide +kernel : ∀ w ∈ u_ws R_Model F_Model 29, w ∈ lw_tbl ∧ goodWord w = true) w h)
end
section
/-! MY ROWS: what the decompiled functions are made of, and calls in one row -/
def inB (i : Int32) (n : Nat) : Bool := !(decide (i < 0) || decide (n ≤ i.toNatClampNeg))
theorem inB_in {i : Int32} {n : Nat} (h : inB i n = true) : vp_in i n := by
  intro q
  unfold inB at h
  rcases q with q | q
  · rw [decide_eq_true q] at h
    cases h
  · rw [decide_eq_true q, Bool.or_true] at h
    cases h
theorem in_inB {i : Int32} {n : Nat} (h : vp_in i n) : inB i n = true := by
  unfold inB
  rw [decide_eq_false (fun q => h (Or.inl q)), decide_eq_false (fun q => h (Or.inr q))]
  rfl
theorem gd_ {c : Prop} [Decidable c] {R : Type} {A : Option R} {r : R} (h : (if c then A else none) = some r) : c ∧ A = some r := by
  by_cases hc : c
  · rw [if_pos hc] at h
    exact ⟨hc, h⟩
  · rw [if_neg hc] at h
    cases h
theorem gn_ {c : Prop} [Decidable c] {R : Type} {A : Option R} {r : R} (h : (if c then none else A) = some r) : ¬ c ∧ A = some r := by
  by_cases hc : c
  · rw [if_pos hc] at h
    cases h
  · rw [if_neg hc] at h
    exact ⟨hc, h⟩
theorem ip_ {c : Prop} [Decidable c] {R : Type} {A B : Option R} {r : R} (hc : c) (h : (if c then A else B) = some r) : A = some r := by
  rw [if_pos hc] at h
  exact h
theorem in_ {c : Prop} [Decidable c] {R : Type} {A B : Option R} {r : R} (hc : ¬ c) (h : (if c then A else B) = some r) : B = some r := by
  rw [if_neg hc] at h
  exact h
theorem bd_ {α R : Type} {o : Option α} {k : α → Option R} {r : R} (h : o.bind k = some r) : ∃ u, o = some u ∧ k u = some r := by
  cases o with
  | none => cases h
  | some u => exact ⟨u, rfl, h⟩
/-- a loop with fuel -/
def lp_ {σ R : Type} (b : (σ → Option R) → σ → Option R) : Nat → σ → Option R
  | 0, _ => none
  | n + 1, s => b (lp_ b n) s
def bl (x : Int32) : Prop := x = 0 ∨ x = 1
theorem bl_0 : bl 0 := Or.inl rfl
theorem bl_1 : bl 1 := Or.inr rfl
theorem bl_n {x : Int32} (h : bl x) : narrow .boolean (.int x) = .int x := by rcases h with rfl | rfl <;> rfl
theorem bl_f {x : Int32} (h : bl x) : fits .boolean (.int x) = true := by rcases h with rfl | rfl <;> rfl
def blB (x : Int32) : Bool := decide (x = 0) || decide (x = 1)
theorem blB_ {x : Int32} (h : blB x = true) : bl x := by
  unfold blB at h
  rcases Bool.or_eq_true_iff.mp h with h | h
  · exact Or.inl (of_decide_eq_true h)
  · exact Or.inr (of_decide_eq_true h)
theorem bl_B {x : Int32} (h : bl x) : blB x = true := by rcases h with rfl | rfl <;> rfl
/-- cells put at places -/
def va_sets : va_W → List Nat → va_W → va_W
  | ws, i :: is, c :: cs => va_sets (ws.set i c) is cs
  | ws, _, _ => ws
theorem va_sets_P {D : va_G} {cl : List vw_C} {H : Heap} : ∀ (is : List Nat) (w1 ws : va_W), (∀ (k : Nat) (q : Nat × va_E), ws[k]? = some q → k ∉ is → va_at D cl q H) → is.length = w1.length → (∀ q ∈ w1, va_at D cl q H) → va_P D cl (va_sets ws is w1) H
  | [], w1, ws, h, _, _ => by
    cases w1 <;> exact fun k q hk => h k q hk (fun z => by cases z)
  | i :: is, [], ws, _, hl, _ => by cases hl
  | i :: is, c :: cs, ws, h, hl, h1 => by
    refine va_sets_P is cs (ws.set i c) (fun k q hk hn => ?_) (Nat.succ.inj hl) (fun q hq => h1 q (List.mem_cons_of_mem _ hq))
    by_cases hki : k = i
    · subst hki
      by_cases hlt : k < ws.length
      · rw [List.getElem?_set_self hlt] at hk
        cases hk
        exact h1 c List.mem_cons_self
      · rw [List.getElem?_eq_none (by rw [List.length_set]; omega)] at hk
        cases hk
    · rw [List.getElem?_set_ne (Ne.symm hki)] at hk
      exact h k q hk (fun z => by
        rcases List.mem_cons.mp z with z | z
        · exact hki z
        · exact hn z)
theorem va_sets_fst : ∀ (is : List Nat) (w1 ws : va_W), is.map (fun i => (ws.map Prod.fst)[i]?) = w1.map (fun q => some q.1) → (va_sets ws is w1).map Prod.fst = ws.map Prod.fst
  | [], w1, ws, _ => by cases w1 <;> rfl
  | i :: is, [], ws, h => by cases h
  | i :: is, c :: cs, ws, h => by
    rw [List.map_cons, List.map_cons, List.cons.injEq] at h
    have e : (ws.set i c).map Prod.fst = ws.map Prod.fst := by
      rw [List.map_set]
      have h1 := h.1
      apply List.ext_getElem?
      intro j
      by_cases hj : i = j
      · subst hj
        rw [h1, List.getElem?_set_self (List.getElem?_eq_some_iff.mp h1).1]
      · rw [List.getElem?_set_ne hj]
    show (va_sets (ws.set i c) is cs).map Prod.fst = _
    rw [va_sets_fst is cs (ws.set i c) (by rw [e]; exact h.2), e]
theorem va_D_fst {A : Nat → Prop} {ws ws' : va_W} (h : va_D A ws) (e : ws'.map Prod.fst = ws.map Prod.fst) : va_D A ws' := by
  have key : ∀ (i : Nat) (p : Nat × va_E), ws'[i]? = some p → ∃ q, ws[i]? = some q ∧ q.1 = p.1 := by
    intro i p hp
    have h1 : (ws'.map Prod.fst)[i]? = some p.1 := by rw [List.getElem?_map, hp]; rfl
    rw [e, List.getElem?_map] at h1
    cases hq : ws[i]? with
    | none => rw [hq] at h1; cases h1
    | some q => rw [hq] at h1; exact ⟨q, rfl, Option.some.inj h1⟩
  refine ⟨fun i j p q hp hq hpq => ?_, fun k q hk => ?_⟩
  · obtain ⟨p', h1, h2⟩ := key i p hp
    obtain ⟨q', h3, h4⟩ := key j q hq
    exact h.1 i j p' q' h1 h3 (by rw [h2, h4, hpq])
  · obtain ⟨q', h1, h2⟩ := key k q hk
    rw [← h2]
    exact h.2 k q' h1
theorem va_at_of {is : List Nat} {ws wc : va_W} (hC : is.map (fun i => ws[i]?) = wc.map some) {k : Nat} {q : Nat × va_E} (h : wc[k]? = some q) : ∃ i, is[k]? = some i ∧ ws[i]? = some q := by
  have h1 : (is.map (fun i => ws[i]?))[k]? = some (some q) := by rw [hC, List.getElem?_map, h]; rfl
  rw [List.getElem?_map] at h1
  cases hi : is[k]? with
  | none => rw [hi] at h1; cases h1
  | some i => rw [hi] at h1; exact ⟨i, rfl, Option.some.inj h1⟩
/-- behind a call that made nothing: the callee's cells at their places, the others as they were -/
theorem va_back {A0 : Nat → Prop} {D : va_G} {cl : List vw_C} {ws wc w1 ws' : va_W} {H H1 : Heap} (hP : va_P D cl ws H) (hD : va_D A0 ws) (is : List Nat) (hC : is.map (fun i => ws[i]?) = wc.map some) (he : w1.map Prod.fst = wc.map Prod.fst) (hw : va_sets ws is w1 = ws')
    (hk : ∀ q : Nat, q < H.size → ¬ va_A wc H.size q → H1[q]? = H[q]?) (hP1 : va_P D cl w1 H1) : va_P D cl ws' H1 ∧ va_D A0 ws' := by
  subst hw
  have hlen : is.length = w1.length := by
    have a1 := congrArg List.length hC
    have a2 := congrArg List.length he
    simp only [List.length_map] at a1 a2
    omega
  refine ⟨va_sets_P is w1 ws (fun k q hq hn => ?_) hlen (fun q hq => ?_), va_D_fst hD (va_sets_fst is w1 ws ?_)⟩
  · have hl := (hP k q hq).lt
    refine (hP k q hq).kept (hk q.1 hl (fun h => ?_))
    rcases h with ⟨k2, e, h⟩ | h
    · obtain ⟨i, h1, h2⟩ := va_at_of hC h
      have := hD.1 k i q (q.1, e) hq h2 rfl
      subst this
      exact hn (List.mem_of_getElem? h1)
    · omega
  · obtain ⟨k, hk⟩ := List.getElem?_of_mem hq
    exact hP1 k q hk
  · have a1 : is.map (fun i => (ws.map Prod.fst)[i]?) = (is.map (fun i => ws[i]?)).map (fun o => o.map Prod.fst) := by
      rw [List.map_map]
      apply List.map_congr_left
      intro i _
      show (ws.map Prod.fst)[i]? = (ws[i]?).map Prod.fst
      rw [List.getElem?_map]
    rw [a1, hC, List.map_map]
    have a2 : (wc.map fun q => some q.1) = (w1.map fun q => some q.1) := by
      have := congrArg (List.map some) he
      simp only [List.map_map] at this
      exact this.symm
    exact a2

/-! WORLDS UP TO ORDER -/
theorem va_P_iff {D : va_G} {cl : List vw_C} {ws : va_W} {H : Heap} : va_P D cl ws H ↔ ∀ q ∈ ws, va_at D cl q H := by
  constructor
  · intro h q hq
    obtain ⟨k, hk⟩ := List.getElem?_of_mem hq
    exact h k q hk
  · intro h k q hk
    exact h q (List.mem_of_getElem? hk)
theorem va_D_iff {A : Nat → Prop} {ws : va_W} : va_D A ws ↔ (ws.map Prod.fst).Nodup ∧ ∀ q ∈ ws, A q.1 := by
  constructor
  · intro h
    refine ⟨?_, fun q hq => ?_⟩
    · refine List.pairwise_iff_getElem.mpr (fun i j hi hj hij e => ?_)
      rw [List.length_map] at hi hj
      rw [List.getElem_map, List.getElem_map] at e
      exact Nat.ne_of_lt hij (h.1 i j _ _ (List.getElem?_eq_getElem hi) (List.getElem?_eq_getElem hj) e)
    · obtain ⟨k, hk⟩ := List.getElem?_of_mem hq
      exact h.2 k q hk
  · intro h
    refine ⟨fun i j p q hp hq hpq => ?_, fun k q hk => h.2 q (List.mem_of_getElem? hk)⟩
    have h1 : (ws.map Prod.fst)[i]? = some p.1 := by rw [List.getElem?_map, hp]; rfl
    have h2 : (ws.map Prod.fst)[j]? = some p.1 := by rw [List.getElem?_map, hq]; exact congrArg some hpq.symm
    exact (List.getElem?_inj (List.getElem?_eq_some_iff.mp h1).1 h.1).mp (h1.trans h2.symm)
theorem va_P.perm {D : va_G} {cl : List vw_C} {ws ws' : va_W} {H : Heap} (h : va_P D cl ws H) (hp : ws.Perm ws') : va_P D cl ws' H := va_P_iff.mpr fun q hq => va_P_iff.mp h q (hp.mem_iff.mpr hq)
theorem va_D.perm {A : Nat → Prop} {ws ws' : va_W} (h : va_D A ws) (hp : ws.Perm ws') : va_D A ws' := by
  obtain ⟨h1, h2⟩ := va_D_iff.mp h
  exact va_D_iff.mpr ⟨(hp.map Prod.fst).nodup_iff.mp h1, fun q hq => h2 q (hp.mem_iff.mpr hq)⟩
theorem va_P.left {D : va_G} {cl : List vw_C} {w1 w2 : va_W} {H : Heap} (h : va_P D cl (w1 ++ w2) H) : va_P D cl w1 H := va_P_iff.mpr fun q hq => va_P_iff.mp h q (List.mem_append_left _ hq)
theorem va_D.left {A : Nat → Prop} {w1 w2 : va_W} (h : va_D A (w1 ++ w2)) : va_D A w1 := by
  obtain ⟨h1, h2⟩ := va_D_iff.mp h
  rw [List.map_append] at h1
  exact va_D_iff.mpr ⟨(List.nodup_append.mp h1).1, fun q hq => h2 q (List.mem_append_left _ hq)⟩
/-- behind a call: what the callee gave back, beside the rest -/
theorem va_beside {A0 : Nat → Prop} {D : va_G} {cl : List vw_C} {ws wc wr w1 : va_W} {H H1 : Heap} (hP : va_P D cl ws H) (hD : va_D A0 ws) (hp : ws.Perm (wc ++ wr))
    (hk : ∀ q : Nat, q < H.size → ¬ va_A wc H.size q → H1[q]? = H[q]?) (hF : ∀ q, va_A wc H.size q → A0 q) (hP1 : va_P D cl w1 H1) (hD1 : va_D (va_A wc H.size) w1) : va_P D cl (w1 ++ wr) H1 ∧ va_D A0 (w1 ++ wr) := by
  have hP' := hP.perm hp
  obtain ⟨n1, a1⟩ := va_D_iff.mp (hD.perm hp)
  rw [List.map_append, List.nodup_append] at n1
  obtain ⟨nc, nr, dis⟩ := n1
  have apart : ∀ q ∈ wr, q.1 < H.size ∧ ¬ va_A wc H.size q.1 := by
    intro q hq
    have hl := (va_P_iff.mp hP' q (List.mem_append_right _ hq)).lt
    refine ⟨hl, fun h => ?_⟩
    rcases h with ⟨k, e, h⟩ | h
    · exact dis q.1 (List.mem_map.mpr ⟨_, List.mem_of_getElem? h, rfl⟩) q.1 (List.mem_map.mpr ⟨q, hq, rfl⟩) rfl
    · omega
  obtain ⟨m1, b1⟩ := va_D_iff.mp hD1
  refine ⟨va_P_iff.mpr fun q hq => ?_, va_D_iff.mpr ⟨?_, fun q hq => ?_⟩⟩
  · rcases List.mem_append.mp hq with h | h
    · exact va_P_iff.mp hP1 q h
    · exact (va_P_iff.mp hP' q (List.mem_append_right _ h)).kept (hk q.1 (apart q h).1 (apart q h).2)
  · rw [List.map_append, List.nodup_append]
    refine ⟨m1, nr, fun a ha b hb e => ?_⟩
    obtain ⟨x, hx, ex⟩ := List.mem_map.mp ha
    obtain ⟨y, hy, ey⟩ := List.mem_map.mp hb
    exact (apart y hy).2 (by rw [ey, ← e, ← ex]; exact b1 x hx)
  · rcases List.mem_append.mp hq with h | h
    · exact hF _ (b1 q h)
    · exact a1 q (List.mem_append_right _ h)
theorem va_freeQ {A0 : Nat → Prop} {ws wc wr : va_W} {H0 H : Heap} {locs : List Loc} (hD : va_D A0 ws) (hS : va_S A0 H0 H locs) (hA : ∀ q, H0.size ≤ q → A0 q) (hp : ws.Perm (wc ++ wr)) : ∀ q, va_A wc H.size q → A0 q := by
  intro q h
  rcases h with ⟨k, e, h⟩ | h
  · exact (va_D_iff.mp hD).2 (q, e) (hp.mem_iff.mpr (List.mem_append_left _ (List.mem_of_getElem? h)))
  · exact hA q (Nat.le_trans hS.1 h)

/-! THE ENVIRONMENT of every contract: the tables' words, classes, nest words, constants; a contract's start and end; calls in one row -/
theorem gI {y : MethodName} {b : ByteArray} {n : Nat} {ret : Option FieldType} (h : Cond.code y b n ret ∈ gw) : GoodIn gw (.code y b n ret :: gw) := fun w hw => by
  rcases List.mem_cons.mp hw with rfl | hw
  · exact gw_ok _ h
  · exact gw_ok _ hw
theorem gV {own C : String} {idx : Nat} {y : MethodName} {b : ByteArray} {n : Nat} {ret : Option FieldType} (h1 : Cond.methodLink own idx y ∈ gw) (h2 : Cond.instanceMethod y ∈ gw) (h3 : Cond.selects C y y ∈ gw) (h4 : Cond.initialized C ∈ gw) (h5 : Cond.code y b n ret ∈ gw) : GoodIn gw (wsV own idx C y (.code y b n ret :: gw)) := fun w hw => by
  rcases List.mem_append.mp hw with hw | hw
  · have : w = .methodLink own idx y ∨ w = .instanceMethod y ∨ w = .selects C y y ∨ w = .initialized C := by simpa using hw
    rcases this with rfl | rfl | rfl | rfl
    · exact gw_ok _ h1
    · exact gw_ok _ h2
    · exact gw_ok _ h3
    · exact gw_ok _ h4
  · exact gI h5 w hw
theorem gS {own : String} {idx : Nat} {y : MethodName} {b : ByteArray} {n : Nat} {ret : Option FieldType} (h1 : Cond.methodLink own idx y ∈ gw) (h2 : Cond.static y ∈ gw) (h4 : Cond.initialized y.cls ∈ gw) (h5 : Cond.code y b n ret ∈ gw) : GoodIn gw (va_wsS own idx y (.code y b n ret :: gw)) := fun w hw => by
  rcases List.mem_append.mp hw with hw | hw
  · have : w = .methodLink own idx y ∨ w = .static y ∨ w = .initialized y.cls := by simpa using hw
    rcases this with rfl | rfl | rfl
    · exact gw_ok _ h1
    · exact gw_ok _ h2
    · exact gw_ok _ h4
  · exact gI h5 w hw
/-- classes' numbers, array classes, the first address of our own, the enum's constants, the texts -/
abbrev Gt : Type := va_G × (Nat → ClassId) × Nat × (Nat → Nat) × (Nat → Nat) × (Nat → Nat)
abbrev gD (G : Gt) : va_G := G.1
abbrev gC (G : Gt) (k : Nat) : ClassId := G.2.1 k
abbrev gb (G : Gt) : Nat := G.2.2.1
abbrev gK (G : Gt) (k : Nat) : Nat := G.2.2.2.1 k
abbrev gT (G : Gt) (k : Nat) : Nat := G.2.2.2.2.1 k
abbrev TYS (G : Gt) : List (ClassId × FieldType) := [(gC G 0, .byte), (gC G 1, .int), (gC G 2, .long), (gC G 3, .boolean)]
def EV (G : Gt) (U : State) : Prop := gb G ≤ U.heap.size ∧ va_K (gD G) vwCl (TYS G) U ∧ ∀ w ∈ nwL, va_Nw w U
theorem EV.K {G : Gt} {U : State} (h : EV G U) : va_K (gD G) vwCl (TYS G) U := h.2.1
theorem EV.nw {G : Gt} {U : State} (h : EV G U) : ∀ w ∈ nwL, va_Nw w U := h.2.2
theorem EV.ab {G : Gt} {s : State} {W0 : va_W} (hE : EV G s) (hD0 : va_D (fun q => gb G ≤ q) W0) : ∀ q, va_A W0 s.heap.size q → gb G ≤ q := by
  intro q h
  rcases h with ⟨k, e, h⟩ | h
  · exact hD0.2 k (q, e) h
  · exact Nat.le_trans hE.1 h
theorem EV.to {G : Gt} {s U : State} {A : Nat → Prop} {H : Heap} {locs : List Loc} (hE : EV G s) (hS : va_S A s.heap H locs) (_hAb : ∀ q, A q → gb G ≤ q) (hU : U.heap = H) (hW : s.WarmedH U.vm) : EV G U :=
  ⟨by rw [hU]; exact Nat.le_trans hE.1 hS.1, va_K.moved hW.alike hE.2.1, fun w hw => nw_warm w hw hW (hE.2.2 w hw)⟩
def PC (G : Gt) (av : List Value) (sz : Nat) (W0 : va_W) : Array Value → State → Prop := va_Pc av (fun U => U.heap.size = sz ∧ va_P (gD G) vwCl W0 U.heap ∧ EV G U ∧ va_D (fun q => gb G ≤ q) W0)
theorem PC_b {G : Gt} {av : List Value} {sz : Nat} {W0 : va_W} : FrameBlind (PC G av sz W0) := fun a U g mk q => by
  obtain ⟨q0, q1, qP, qE, qD⟩ := q
  exact ⟨q0, q1, qP, ⟨qE.1, va_K.moved (u := U) (U := U.calling g mk a) (Vm.Alike.refl U.vm) qE.2.1, fun w hw => nw_same w hw (u := U) (U := U.calling g mk a) rfl (qE.2.2 w hw)⟩, qD⟩
theorem PC_p {G : Gt} {av : List Value} {s : State} {A : Nat → Prop} {H : Heap} {locs : List Loc} {wc : va_W} (hE : EV G s) (hS : va_S A s.heap H locs) (hAb : ∀ q, A q → gb G ≤ q) (hP : va_P (gD G) vwCl wc H) (hD : va_D A wc) : ∀ U : State, U.heap = H → s.WarmedH U.vm → PC G av H.size wc av.toArray U :=
  fun U hU hW => ⟨rfl, by rw [hU], by rw [hU]; exact hP, hE.to hS hAb hU hW, hD.weaken (fun _ _ _ h => hAb _ h)⟩
def QV (G : Gt) (A : Nat → Prop) (W1 : va_W) : Array Value → State → Outcome → State → Prop := va_Qv (fun _ : Unit => True) (fun _ t => va_P (gD G) vwCl W1 t.heap ∧ va_D A W1) A
def QI (G : Gt) (v : Int32) (A : Nat → Prop) (W1 : va_W) : Array Value → State → Outcome → State → Prop := va_Qi (fun (r : Int32) (_ : Unit) => r = v) (fun _ t => va_P (gD G) vwCl W1 t.heap ∧ va_D A W1) A
def QZ (G : Gt) (v : Int32) (A : Nat → Prop) (W1 : va_W) : Array Value → State → Outcome → State → Prop := va_Qi (fun (r : Int32) (_ : Unit) => r = v ∧ bl r) (fun _ t => va_P (gD G) vwCl W1 t.heap ∧ va_D A W1) A
def QL (G : Gt) (v : Int64) (A : Nat → Prop) (W1 : va_W) : Array Value → State → Outcome → State → Prop := va_Ql (fun (r : Int64) (_ : Unit) => r = v) (fun _ t => va_P (gD G) vwCl W1 t.heap ∧ va_D A W1) A
section CALLS
variable {p : Program} {l : Launch} {e : Env} {R : Room} {s : State} {m : MethodId} {args : Array Value} {below : List Frame} {meth : Method} {c : Code} {H : Heap} {locs : List Loc} {cells slots : Nat} {Q : State → Prop}
variable {pc : Nat} {ls : Array Slot} {rest st0 : List Value} {a : Array Value} {A : Nat → Prop} {mc ms : Nat} {G : Gt} {ws wc w1 ws' : va_W}
theorem CALLv (hr : va_Run p l e R s m args below meth c H locs cells slots mc ms (F0 m pc ls st0) rest (QV G (va_A wc H.size) w1 a) (va_A wc H.size)) (hP : va_P (gD G) vwCl ws H) (hD : va_D A ws) (hS : va_S A s.heap H locs) (hA : ∀ q, s.heap.size ≤ q → A q) (is : List Nat) (hC : is.map (fun i => ws[i]?) = wc.map some) (he : w1.map Prod.fst = wc.map Prod.fst) (hw : va_sets ws is w1 = ws')
    (kk : ∀ (H1 : Heap) (locs1 : List Loc), va_P (gD G) vwCl ws' H1 → va_D A ws' → va_S A s.heap H1 locs1 → W p l e R s m args below meth c H1 locs1 (cells + mc) (slots + ms) Q (F0 m (pc + 3) ls rest)) : W p l e R s m args below meth c H locs cells slots Q (F0 m pc ls st0) := by
  have hF := va_free hD hS hA is hC
  refine va_callv hr hS (fun q _ h => hF q h) hF (fun u t H1 locs1 ht _ _ hB _ hk hS1 => ?_)
  obtain ⟨hP1, _⟩ := hB
  rw [ht] at hP1
  obtain ⟨hP2, hD2⟩ := va_back hP hD is hC he hw hk hP1
  exact kk H1 locs1 hP2 hD2 hS1
theorem CALLi {v : Int32} (hr : va_Run p l e R s m args below meth c H locs cells slots mc ms (F0 m pc ls st0) rest (QI G v (va_A wc H.size) w1 a) (va_A wc H.size)) (hP : va_P (gD G) vwCl ws H) (hD : va_D A ws) (hS : va_S A s.heap H locs) (hA : ∀ q, s.heap.size ≤ q → A q) (is : List Nat) (hC : is.map (fun i => ws[i]?) = wc.map some) (he : w1.map Prod.fst = wc.map Prod.fst) (hw : va_sets ws is w1 = ws')
    (kk : ∀ (H1 : Heap) (locs1 : List Loc), va_P (gD G) vwCl ws' H1 → va_D A ws' → va_S A s.heap H1 locs1 → W p l e R s m args below meth c H1 locs1 (cells + mc) (slots + ms) Q (F0 m (pc + 3) ls (.int v :: rest))) : W p l e R s m args below meth c H locs cells slots Q (F0 m pc ls st0) := by
  have hF := va_free hD hS hA is hC
  refine va_calli hr hS (fun q _ h => hF q h) hF (fun r u t H1 locs1 ht _ hv hB _ hk hS1 => ?_)
  obtain ⟨hP1, _⟩ := hB
  rw [ht] at hP1
  obtain ⟨hP2, hD2⟩ := va_back hP hD is hC he hw hk hP1
  subst hv
  exact kk H1 locs1 hP2 hD2 hS1
theorem CALLz {v : Int32} (hr : va_Run p l e R s m args below meth c H locs cells slots mc ms (F0 m pc ls st0) rest (QZ G v (va_A wc H.size) w1 a) (va_A wc H.size)) (hP : va_P (gD G) vwCl ws H) (hD : va_D A ws) (hS : va_S A s.heap H locs) (hA : ∀ q, s.heap.size ≤ q → A q) (is : List Nat) (hC : is.map (fun i => ws[i]?) = wc.map some) (he : w1.map Prod.fst = wc.map Prod.fst) (hw : va_sets ws is w1 = ws')
    (kk : bl v → ∀ (H1 : Heap) (locs1 : List Loc), va_P (gD G) vwCl ws' H1 → va_D A ws' → va_S A s.heap H1 locs1 → W p l e R s m args below meth c H1 locs1 (cells + mc) (slots + ms) Q (F0 m (pc + 3) ls (.int v :: rest))) : W p l e R s m args below meth c H locs cells slots Q (F0 m pc ls st0) := by
  have hF := va_free hD hS hA is hC
  refine va_calli hr hS (fun q _ h => hF q h) hF (fun r u t H1 locs1 ht _ hv hB _ hk hS1 => ?_)
  obtain ⟨hP1, _⟩ := hB
  rw [ht] at hP1
  obtain ⟨hP2, hD2⟩ := va_back hP hD is hC he hw hk hP1
  obtain ⟨hv, hb⟩ := hv
  subst hv
  exact kk hb H1 locs1 hP2 hD2 hS1
theorem CALLl {v : Int64} (hr : va_Run p l e R s m args below meth c H locs cells slots mc ms (F0 m pc ls st0) rest (QL G v (va_A wc H.size) w1 a) (va_A wc H.size)) (hP : va_P (gD G) vwCl ws H) (hD : va_D A ws) (hS : va_S A s.heap H locs) (hA : ∀ q, s.heap.size ≤ q → A q) (is : List Nat) (hC : is.map (fun i => ws[i]?) = wc.map some) (he : w1.map Prod.fst = wc.map Prod.fst) (hw : va_sets ws is w1 = ws')
    (kk : ∀ (H1 : Heap) (locs1 : List Loc), va_P (gD G) vwCl ws' H1 → va_D A ws' → va_S A s.heap H1 locs1 → W p l e R s m args below meth c H1 locs1 (cells + mc) (slots + ms) Q (F0 m (pc + 3) ls (.long v :: rest))) : W p l e R s m args below meth c H locs cells slots Q (F0 m pc ls st0) := by
  have hF := va_free hD hS hA is hC
  refine va_calll hr hS (fun q _ h => hF q h) hF (fun r u t H1 locs1 ht _ hv hB _ hk hS1 => ?_)
  obtain ⟨hP1, _⟩ := hB
  rw [ht] at hP1
  obtain ⟨hP2, hD2⟩ := va_back hP hD is hC he hw hk hP1
  subst hv
  exact kk H1 locs1 hP2 hD2 hS1
theorem CALLWv (hr : va_Run p l e R s m args below meth c H locs cells slots mc ms (F0 m pc ls st0) rest (QV G (va_A ws H.size) w1 a) (va_A ws H.size)) (_hP : va_P (gD G) vwCl ws H) (hD : va_D A ws) (hS : va_S A s.heap H locs) (hA : ∀ q, s.heap.size ≤ q → A q)
    (kk : ∀ (H1 : Heap) (locs1 : List Loc), va_P (gD G) vwCl w1 H1 → va_D A w1 → va_S A s.heap H1 locs1 → W p l e R s m args below meth c H1 locs1 (cells + mc) (slots + ms) Q (F0 m (pc + 3) ls rest)) : W p l e R s m args below meth c H locs cells slots Q (F0 m pc ls st0) := by
  have hF : ∀ q, va_A ws H.size q → A q := fun q h => by
    rcases h with ⟨k, e, h⟩ | h
    · exact hD.2 k (q, e) h
    · exact hA q (Nat.le_trans hS.1 h)
  refine va_callv hr hS (fun q _ h => hF q h) hF (fun u t H1 locs1 ht _ _ hB _ hk hS1 => ?_)
  obtain ⟨hP1, hD1⟩ := hB
  rw [ht] at hP1
  exact kk H1 locs1 hP1 (hD1.weaken (fun _ _ _ h => hF _ h)) hS1
theorem CALLWi {v : Int32} (hr : va_Run p l e R s m args below meth c H locs cells slots mc ms (F0 m pc ls st0) rest (QI G v (va_A ws H.size) w1 a) (va_A ws H.size)) (_hP : va_P (gD G) vwCl ws H) (hD : va_D A ws) (hS : va_S A s.heap H locs) (hA : ∀ q, s.heap.size ≤ q → A q)
    (kk : ∀ (H1 : Heap) (locs1 : List Loc), va_P (gD G) vwCl w1 H1 → va_D A w1 → va_S A s.heap H1 locs1 → W p l e R s m args below meth c H1 locs1 (cells + mc) (slots + ms) Q (F0 m (pc + 3) ls (.int v :: rest))) : W p l e R s m args below meth c H locs cells slots Q (F0 m pc ls st0) := by
  have hF : ∀ q, va_A ws H.size q → A q := fun q h => by
    rcases h with ⟨k, e, h⟩ | h
    · exact hD.2 k (q, e) h
    · exact hA q (Nat.le_trans hS.1 h)
  refine va_calli hr hS (fun q _ h => hF q h) hF (fun r u t H1 locs1 ht _ hv hB _ hk hS1 => ?_)
  obtain ⟨hP1, hD1⟩ := hB
  rw [ht] at hP1
  subst hv
  exact kk H1 locs1 hP1 (hD1.weaken (fun _ _ _ h => hF _ h)) hS1
theorem CALLWl {v : Int64} (hr : va_Run p l e R s m args below meth c H locs cells slots mc ms (F0 m pc ls st0) rest (QL G v (va_A ws H.size) w1 a) (va_A ws H.size)) (_hP : va_P (gD G) vwCl ws H) (hD : va_D A ws) (hS : va_S A s.heap H locs) (hA : ∀ q, s.heap.size ≤ q → A q)
    (kk : ∀ (H1 : Heap) (locs1 : List Loc), va_P (gD G) vwCl w1 H1 → va_D A w1 → va_S A s.heap H1 locs1 → W p l e R s m args below meth c H1 locs1 (cells + mc) (slots + ms) Q (F0 m (pc + 3) ls (.long v :: rest))) : W p l e R s m args below meth c H locs cells slots Q (F0 m pc ls st0) := by
  have hF : ∀ q, va_A ws H.size q → A q := fun q h => by
    rcases h with ⟨k, e, h⟩ | h
    · exact hD.2 k (q, e) h
    · exact hA q (Nat.le_trans hS.1 h)
  refine va_calll hr hS (fun q _ h => hF q h) hF (fun r u t H1 locs1 ht _ hv hB _ hk hS1 => ?_)
  obtain ⟨hP1, hD1⟩ := hB
  rw [ht] at hP1
  subst hv
  exact kk H1 locs1 hP1 (hD1.weaken (fun _ _ _ h => hF _ h)) hS1
theorem CALLWz {v : Int32} (hr : va_Run p l e R s m args below meth c H locs cells slots mc ms (F0 m pc ls st0) rest (QZ G v (va_A ws H.size) w1 a) (va_A ws H.size)) (_hP : va_P (gD G) vwCl ws H) (hD : va_D A ws) (hS : va_S A s.heap H locs) (hA : ∀ q, s.heap.size ≤ q → A q)
    (kk : bl v → ∀ (H1 : Heap) (locs1 : List Loc), va_P (gD G) vwCl w1 H1 → va_D A w1 → va_S A s.heap H1 locs1 → W p l e R s m args below meth c H1 locs1 (cells + mc) (slots + ms) Q (F0 m (pc + 3) ls (.int v :: rest))) : W p l e R s m args below meth c H locs cells slots Q (F0 m pc ls st0) := by
  have hF : ∀ q, va_A ws H.size q → A q := fun q h => by
    rcases h with ⟨k, e, h⟩ | h
    · exact hD.2 k (q, e) h
    · exact hA q (Nat.le_trans hS.1 h)
  refine va_calli hr hS (fun q _ h => hF q h) hF (fun r u t H1 locs1 ht _ hv hB _ hk hS1 => ?_)
  obtain ⟨hP1, hD1⟩ := hB
  rw [ht] at hP1
  obtain ⟨hv, hb⟩ := hv
  subst hv
  exact kk hb H1 locs1 hP1 (hD1.weaken (fun _ _ _ h => hF _ h)) hS1
end CALLS
/-- an end with cells that were made: their addresses are u -/
def QN {S : Type} (G : Gt) (A : Nat → Prop) (W1 : S → va_W) : Array Value → State → Outcome → State → Prop := va_Qv (fun _ : S => True) (fun u t => va_P (gD G) vwCl (W1 u) t.heap ∧ va_D A (W1 u)) A
section MAKES
variable {p : Program} {l : Launch} {e : Env} {R : Room} {s : State} {m : MethodId} {args : Array Value} {below : List Frame} {meth : Method} {c : Code} {H : Heap} {locs : List Loc} {cells slots : Nat} {Q : State → Prop}
variable {pc : Nat} {ls : Array Slot} {rest st0 : List Value} {a : Array Value} {A : Nat → Prop} {mc ms : Nat} {G : Gt} {ws wc wr : va_W} {cc : ByteArray}
theorem CALLn {S : Type} {w1 : S → va_W} (hr : va_Run p l e R s m args below meth c H locs cells slots mc ms (F0 m pc ls st0) rest (QN G (va_A wc H.size) w1 a) (va_A wc H.size)) (hP : va_P (gD G) vwCl ws H) (hD : va_D A ws) (hS : va_S A s.heap H locs) (hA : ∀ q, s.heap.size ≤ q → A q) (isC isR : List Nat) (hC : isC.map (fun i => ws[i]?) = wc.map some) (hR : isR.map (fun i => ws[i]?) = wr.map some) (hn : va_nd isR = true) (hdis : ∀ i ∈ isR, i ∉ isC)
    (kk : ∀ (u : S) (H1 : Heap) (locs1 : List Loc), va_P (gD G) vwCl (wr ++ w1 u) H1 → va_D A (wr ++ w1 u) → va_S A s.heap H1 locs1 → W p l e R s m args below meth c H1 locs1 (cells + mc) (slots + ms) Q (F0 m (pc + 3) ls rest)) : W p l e R s m args below meth c H locs cells slots Q (F0 m pc ls st0) := by
  have hF := va_free hD hS hA isC hC
  refine va_callv hr hS (fun q _ h => hF q h) hF (fun u t H1 locs1 ht _ _ hB _ hk hS1 => ?_)
  obtain ⟨hP1, hD1⟩ := hB
  rw [ht] at hP1
  obtain ⟨hP2, hD2⟩ := va_join hP hD isC isR hC hR hn hdis hk hF hP1 hD1
  exact kk u H1 locs1 hP2 hD2 hS1
theorem NEWA (hE : EV G s) (hexec : p.tables.exec = Jvm.exec) (hb : c.code = cc) {atype : ArrayType} (harr : (Cond.arrayClass (newarray.typeOf atype)).before args s = true) {ty : FieldType} (hty : newarray.typeOf atype = ty) (t0 : Nat) {cB : ClassId} (ht : (TYS G)[t0]? = some (cB, ty)) (hP : va_P (gD G) vwCl ws H) (hD : va_D A ws) (hS : va_S A s.heap H locs) (hA : ∀ q, s.heap.size ≤ q → A q)
    {n : Int32} {N' : Nat} {a0 : vp_A} (ha : ∀ cA : ClassId, vp_cell cA a0 = arrV cA N' (fun _ => defaultValue ty)) (hn : ¬ n < 0) (hN : n.toNatClampNeg = N') (hbytes : N' * componentBytes ty ≤ 536870912) (hcells : cells + 1 ≤ R.cells) (hslots : slots + N' ≤ R.slots) (hdg : decode cc pc = .ok (.newarray atype, 2))
    (kk : ∀ (q : Nat) (H1 : Heap), va_P (gD G) vwCl (ws ++ [(q, .inl (cB, a0))]) H1 → va_D A (ws ++ [(q, .inl (cB, a0))]) → va_S A s.heap H1 locs →
      W p l e R s m args below meth c H1 locs (cells + 1) (slots + N') Q (F0 m (pc + 2) ls (.ref q :: rest))) : W p l e R s m args below meth c H locs cells slots Q (F0 m pc ls (.int n :: rest)) := by
  refine va_newa hexec hb harr hty hE.K hP hD hS hA ha hn hN hbytes hcells hslots hdg (fun q cA H1 hK1 hP1 hD1 hS1 => ?_)
  have e1 := (hE.K.2 t0 _ ht).2
  have e2 := (hK1.2 (TYS G).length (cA, ty) (by rw [List.getElem?_append_right (Nat.le_refl _), Nat.sub_self]; rfl)).2
  have e3 : cA = cB := by
    subst hty
    cases atype <;> exact Option.some.inj (e2.symm.trans e1)
  subst e3
  exact kk q H1 hP1 hD1 hS1
end MAKES
end
section
theorem d_Row_empty_0 : decode b_Row_empty 0 = .ok (.aload_n 0, 1) := by decide +kernel
theorem d_Row_empty_1 : decode b_Row_empty 1 = .ok (.iconst 0, 1) := by decide +kernel
theorem d_Row_empty_2 : decode b_Row_empty 2 = .ok (.putfield 19, 3) := by decide +kernel
theorem d_Row_empty_5 : decode b_Row_empty 5 = .ok (.aload_n 0, 1) := by decide +kernel
theorem d_Row_empty_6 : decode b_Row_empty 6 = .ok (.iconst 0, 1) := by decide +kernel
theorem d_Row_empty_7 : decode b_Row_empty 7 = .ok (.putfield 23, 3) := by decide +kernel
theorem d_Row_empty_10 : decode b_Row_empty 10 = .ok (.return_, 1) := by decide +kernel
theorem m_0 : Cond.fieldLink R_Row 19 "SpecifierDesk$Row" "used" "I" ∈ gw := gm (i := 118) (by decide +kernel) (by decide +kernel)
theorem m_1 : Cond.fieldLink R_Row 23 "SpecifierDesk$Row" "burst" "Z" ∈ gw := gm (i := 122) (by decide +kernel) (by decide +kernel)
def f_Row_empty  : Option (Int32 × Int32) :=
  some ((0 : Int32), (0 : Int32))
abbrev w_Row_empty (G : Gt) (qt : Nat) (qt_cells : Nat) (nt_cells : Nat) (t_cells : Nat → Int32) (t_used : Int32) (t_burst : Int32) : va_W := [(qt, .inr (4, [.ref qt_cells, .int t_used, .int t_burst])), (qt_cells, .inl (gC G 0, nt_cells, .inl t_cells))]
set_option maxHeartbeats 4000000 in
set_option maxRecDepth 100000 in
theorem c_Row_empty (l : Launch) (G : Gt) (K : Nat) (qt : Nat) (qt_cells : Nat) (nt_cells : Nat) (t_cells : Nat → Int32) (t_used : Int32) (t_burst : Int32) (sz : Nat) (res : Int32 × Int32)   (hf : f_Row_empty  = some res) : Met l y_Row_empty (.code y_Row_empty b_Row_empty 1 none :: gw) { frames := 0, cells := 0, slots := 0, locals := 0 } (PC G ([.ref qt] : List Value) sz (w_Row_empty G qt qt_cells nt_cells t_cells t_used t_burst)) (QV G (va_A (w_Row_empty G qt qt_cells nt_cells t_cells t_used t_burst) sz) (w_Row_empty G qt qt_cells nt_cells t_cells res.1 res.2)) 0 0 (va_A (w_Row_empty G qt qt_cells nt_cells t_cells t_used t_burst) sz) := by
  refine Met.ofW (cc := b_Row_empty) (maxL := 1) (ret := none) (by decide) rfl ?_
  intro p e s m args below meth c s₁ B hml hv
  obtain ⟨rfl, hsz, hP, hE, hD0⟩ := hv
  have hx := B.exec
  have hb := B.bytes
  have hr := B.returns
  have hts := atoms_spec (ws := (.code y_Row_empty b_Row_empty 1 none :: gw)) B.pre
  have hg : ∀ w ∈ gw, w.before _ s = true := fun w h => hts w (List.mem_cons_of_mem _ h)
  have hown : s.vm.findClass R_Row = some m.cls := findClass_of_methodNamed B.named
  have hlocks := B.notSynchronized
  subst hsz
  have hK := hE.K
  have hD := hD0.self (sz := s.heap.size)
  have hAb := hE.ab hD0
  obtain ⟨Q, hQ⟩ : ∃ Q, MQ below (QV G (va_A (w_Row_empty G qt qt_cells nt_cells t_cells t_used t_burst) s.heap.size) (w_Row_empty G qt qt_cells nt_cells t_cells res.1 res.2)) ([.ref qt] : List Value).toArray s 0 0 (va_A (w_Row_empty G qt qt_cells nt_cells t_cells t_used t_burst) s.heap.size) = Q := ⟨_, rfl⟩
  show W p l e { frames := 0, cells := 0, slots := 0, locals := 0 } s m ([.ref qt] : List Value).toArray below meth c s.heap [] 0 0 (MQ below (QV G (va_A (w_Row_empty G qt qt_cells nt_cells t_cells t_used t_burst) s.heap.size) (w_Row_empty G qt qt_cells nt_cells t_cells res.1 res.2)) ([.ref qt] : List Value).toArray s 0 0 (va_A (w_Row_empty G qt qt_cells nt_cells t_cells t_used t_burst) s.heap.size)) _
  rw [hQ]
  have hA : ∀ q : Nat, s.heap.size ≤ q → va_A (w_Row_empty G qt qt_cells nt_cells t_cells t_used t_burst) s.heap.size q := fun q h => Or.inr h
  obtain ⟨A, hAe⟩ : ∃ A, va_A (w_Row_empty G qt qt_cells nt_cells t_cells t_used t_burst) s.heap.size = A := ⟨_, rfl⟩
  rw [hAe] at hA hD hAb hQ
  have hS : va_S A s.heap s.heap [] := va_S.rf
  have hl := lv_entry (([.ref qt] : List Value)) (n := 1) (Nat.le_of_ble_eq_true rfl)
  rw [lg_entry_eq]
  generalize (lg_sl (([.ref qt] : List Value)) ++ List.replicate (1 - (lg_sl (([.ref qt] : List Value))).length) Slot.unset).toArray = ls at hl ⊢
  have hl : lv_has ls 1 [(0, .ref qt)] := hl
  unfold f_Row_empty at hf
  refine lv_aload_n hx hb d_Row_empty_0 rfl (lv_at hl 0 rfl) ?_
  refine lv_iconst (v := 0) hx hb d_Row_empty_1 (by decide) ?_
  refine va_put (D := gD G) (ci := 4) (v := .int (0 : Int32)) (ty := .int) (C := R_Row) (T := F_Row) (N := 3) hx hb hg in_Row t_Row to_Row no_Row hown hK hP hD hS 0 rfl rfl 1 (by decide) (hg _ m_0) (fun _ h9 => h9) rfl (by decide +kernel) rfl rfl (Nat.le_of_ble_eq_true rfl) d_Row_empty_2 (fun H locs hP hD hS => ?_)
  have hP : va_P (gD G) vwCl (w_Row_empty G qt qt_cells nt_cells t_cells (0 : Int32) t_burst) H := hP
  have hD : va_D A (w_Row_empty G qt qt_cells nt_cells t_cells (0 : Int32) t_burst) := hD
  refine lv_aload_n hx hb d_Row_empty_5 rfl (lv_at hl 0 rfl) ?_
  refine lv_iconst (v := 0) hx hb d_Row_empty_6 (by decide) ?_
  refine va_put (D := gD G) (ci := 4) (v := .int (0 : Int32)) (ty := .boolean) (C := R_Row) (T := F_Row) (N := 3) hx hb hg in_Row t_Row to_Row no_Row hown hK hP hD hS 0 rfl rfl 2 (by decide) (hg _ m_1) (fun _ h9 => h9) rfl (by decide +kernel) (bl_n bl_0) (bl_f bl_0) (Nat.le_of_ble_eq_true rfl) d_Row_empty_7 (fun H locs hP hD hS => ?_)
  have hP : va_P (gD G) vwCl (w_Row_empty G qt qt_cells nt_cells t_cells (0 : Int32) (0 : Int32)) H := hP
  have hD : va_D A (w_Row_empty G qt qt_cells nt_cells t_cells (0 : Int32) (0 : Int32)) := hD
  obtain rfl := Option.some.inj hf
  rw [← hQ]
  exact W.vret hx hb hr (fun t ht hW => ⟨⟨(), rfl, trivial, ⟨by rw [ht]; exact hP, hD⟩⟩, hS.F ht⟩) hS.2.2 d_Row_empty_10
theorem d_Row_add_0 : decode b_Row_add 0 = .ok (.aload_n 0, 1) := by decide +kernel
theorem d_Row_add_1 : decode b_Row_add 1 = .ok (.getfield 19, 3) := by decide +kernel
theorem d_Row_add_4 : decode b_Row_add 4 = .ok (.ifCond .lt 15, 3) := by decide +kernel
theorem d_Row_add_7 : decode b_Row_add 7 = .ok (.aload_n 0, 1) := by decide +kernel
theorem d_Row_add_8 : decode b_Row_add 8 = .ok (.getfield 19, 3) := by decide +kernel
theorem d_Row_add_11 : decode b_Row_add 11 = .ok (.aload_n 0, 1) := by decide +kernel
theorem d_Row_add_12 : decode b_Row_add 12 = .ok (.getfield 13, 3) := by decide +kernel
theorem d_Row_add_15 : decode b_Row_add 15 = .ok (.arraylength, 1) := by decide +kernel
theorem d_Row_add_16 : decode b_Row_add 16 = .ok (.if_icmp .lt 9, 3) := by decide +kernel
theorem d_Row_add_19 : decode b_Row_add 19 = .ok (.aload_n 0, 1) := by decide +kernel
theorem d_Row_add_20 : decode b_Row_add 20 = .ok (.iconst 1, 1) := by decide +kernel
theorem d_Row_add_21 : decode b_Row_add 21 = .ok (.putfield 23, 3) := by decide +kernel
theorem d_Row_add_24 : decode b_Row_add 24 = .ok (.return_, 1) := by decide +kernel
theorem d_Row_add_25 : decode b_Row_add 25 = .ok (.aload_n 0, 1) := by decide +kernel
theorem d_Row_add_26 : decode b_Row_add 26 = .ok (.getfield 13, 3) := by decide +kernel
theorem d_Row_add_29 : decode b_Row_add 29 = .ok (.aload_n 0, 1) := by decide +kernel
theorem d_Row_add_30 : decode b_Row_add 30 = .ok (.getfield 19, 3) := by decide +kernel
theorem d_Row_add_33 : decode b_Row_add 33 = .ok (.iload_n 1, 1) := by decide +kernel
theorem d_Row_add_34 : decode b_Row_add 34 = .ok (.i2b, 1) := by decide +kernel
theorem d_Row_add_35 : decode b_Row_add 35 = .ok (.bastore, 1) := by decide +kernel
theorem d_Row_add_36 : decode b_Row_add 36 = .ok (.aload_n 0, 1) := by decide +kernel
theorem d_Row_add_37 : decode b_Row_add 37 = .ok (.dup, 1) := by decide +kernel
theorem d_Row_add_38 : decode b_Row_add 38 = .ok (.getfield 19, 3) := by decide +kernel
theorem d_Row_add_41 : decode b_Row_add 41 = .ok (.iconst 1, 1) := by decide +kernel
theorem d_Row_add_42 : decode b_Row_add 42 = .ok (.iadd, 1) := by decide +kernel
theorem d_Row_add_43 : decode b_Row_add 43 = .ok (.putfield 19, 3) := by decide +kernel
theorem d_Row_add_46 : decode b_Row_add 46 = .ok (.return_, 1) := by decide +kernel
theorem m_2 : Cond.fieldLink R_Row 13 "SpecifierDesk$Row" "cells" "[B" ∈ gw := gm (i := 117) (by decide +kernel) (by decide +kernel)
def k_Row_add_19  (t_used : Int32) (t_burst : Int32) (t_cells : (Nat → Int32)) : Option (Int32 × Int32 × (Nat → Int32)) :=
  some (t_used, (1 : Int32), t_cells)
def f_Row_add (nt_cells : Nat) (t_cells : Nat → Int32) (t_used : Int32) (t_burst : Int32) (a1 : Int32) : Option (Int32 × Int32 × (Nat → Int32)) :=
  (if t_used < 0 then k_Row_add_19  t_used t_burst t_cells else (if t_used < (nI nt_cells) then (if inB t_used nt_cells = true then some ((t_used + (1 : Int32)), t_burst, (upd t_cells t_used.toNatClampNeg (vp_nar .byte a1.toInt8.toInt32))) else none) else k_Row_add_19  t_used t_burst t_cells))
set_option maxHeartbeats 4000000 in
set_option maxRecDepth 100000 in
theorem c_Row_add (l : Launch) (G : Gt) (K : Nat) (qt : Nat) (qt_cells : Nat) (nt_cells : Nat) (t_cells : Nat → Int32) (t_used : Int32) (t_burst : Int32) (a1 : Int32) (sz : Nat) (res : Int32 × Int32 × (Nat → Int32))   (hf : f_Row_add nt_cells t_cells t_used t_burst a1 = some res) : Met l y_Row_add (.code y_Row_add b_Row_add 2 none :: gw) { frames := 0, cells := 0, slots := 0, locals := 0 } (PC G ([.ref qt, .int a1] : List Value) sz (w_Row_empty G qt qt_cells nt_cells t_cells t_used t_burst)) (QV G (va_A (w_Row_empty G qt qt_cells nt_cells t_cells t_used t_burst) sz) (w_Row_empty G qt qt_cells nt_cells res.2.2 res.1 res.2.1)) 0 0 (va_A (w_Row_empty G qt qt_cells nt_cells t_cells t_used t_burst) sz) := by
  refine Met.ofW (cc := b_Row_add) (maxL := 2) (ret := none) (by decide) rfl ?_
  intro p e s m args below meth c s₁ B hml hv
  obtain ⟨rfl, hsz, hP, hE, hD0⟩ := hv
  have hx := B.exec
  have hb := B.bytes
  have hr := B.returns
  have hts := atoms_spec (ws := (.code y_Row_add b_Row_add 2 none :: gw)) B.pre
  have hg : ∀ w ∈ gw, w.before _ s = true := fun w h => hts w (List.mem_cons_of_mem _ h)
  have hown : s.vm.findClass R_Row = some m.cls := findClass_of_methodNamed B.named
  have hlocks := B.notSynchronized
  subst hsz
  have hK := hE.K
  have hD := hD0.self (sz := s.heap.size)
  have hAb := hE.ab hD0
  obtain ⟨Q, hQ⟩ : ∃ Q, MQ below (QV G (va_A (w_Row_empty G qt qt_cells nt_cells t_cells t_used t_burst) s.heap.size) (w_Row_empty G qt qt_cells nt_cells res.2.2 res.1 res.2.1)) ([.ref qt, .int a1] : List Value).toArray s 0 0 (va_A (w_Row_empty G qt qt_cells nt_cells t_cells t_used t_burst) s.heap.size) = Q := ⟨_, rfl⟩
  show W p l e { frames := 0, cells := 0, slots := 0, locals := 0 } s m ([.ref qt, .int a1] : List Value).toArray below meth c s.heap [] 0 0 (MQ below (QV G (va_A (w_Row_empty G qt qt_cells nt_cells t_cells t_used t_burst) s.heap.size) (w_Row_empty G qt qt_cells nt_cells res.2.2 res.1 res.2.1)) ([.ref qt, .int a1] : List Value).toArray s 0 0 (va_A (w_Row_empty G qt qt_cells nt_cells t_cells t_used t_burst) s.heap.size)) _
  rw [hQ]
  have hA : ∀ q : Nat, s.heap.size ≤ q → va_A (w_Row_empty G qt qt_cells nt_cells t_cells t_used t_burst) s.heap.size q := fun q h => Or.inr h
  obtain ⟨A, hAe⟩ : ∃ A, va_A (w_Row_empty G qt qt_cells nt_cells t_cells t_used t_burst) s.heap.size = A := ⟨_, rfl⟩
  rw [hAe] at hA hD hAb hQ
  have hS : va_S A s.heap s.heap [] := va_S.rf
  have hl := lv_entry (([.ref qt, .int a1] : List Value)) (n := 2) (Nat.le_of_ble_eq_true rfl)
  rw [lg_entry_eq]
  generalize (lg_sl (([.ref qt, .int a1] : List Value)) ++ List.replicate (2 - (lg_sl (([.ref qt, .int a1] : List Value))).length) Slot.unset).toArray = ls at hl ⊢
  have hl : lv_has ls 2 [(0, .ref qt), (1, .int a1)] := hl
  have W_19 : ∀ (t_used : Int32) (t_burst : Int32) (t_cells : (Nat → Int32)) , k_Row_add_19  t_used t_burst t_cells = some res → ∀ (H : Heap) (locs : List Loc) (ls : Array Slot), va_P (gD G) vwCl (w_Row_empty G qt qt_cells nt_cells t_cells t_used t_burst) H → va_D A (w_Row_empty G qt qt_cells nt_cells t_cells t_used t_burst) → va_S A s.heap H locs → lv_has ls 2 [(0, .ref qt)] → W p l e { frames := 0, cells := 0, slots := 0, locals := 0 } s m ([.ref qt, .int a1] : List Value).toArray below meth c H locs 0 0 Q (F0 m 19 ls []) := by
    intro t_used t_burst t_cells  hf H locs ls hP hD hS hl
    unfold k_Row_add_19 at hf
    refine lv_aload_n hx hb d_Row_add_19 rfl (lv_at hl 0 rfl) ?_
    refine lv_iconst (v := 1) hx hb d_Row_add_20 (by decide) ?_
    refine va_put (D := gD G) (ci := 4) (v := .int (1 : Int32)) (ty := .boolean) (C := R_Row) (T := F_Row) (N := 3) hx hb hg in_Row t_Row to_Row no_Row hown hK hP hD hS 0 rfl rfl 2 (by decide) (hg _ m_1) (fun _ h9 => h9) rfl (by decide +kernel) (bl_n bl_1) (bl_f bl_1) (Nat.le_of_ble_eq_true rfl) d_Row_add_21 (fun H locs hP hD hS => ?_)
    have hP : va_P (gD G) vwCl (w_Row_empty G qt qt_cells nt_cells t_cells t_used (1 : Int32)) H := hP
    have hD : va_D A (w_Row_empty G qt qt_cells nt_cells t_cells t_used (1 : Int32)) := hD
    obtain rfl := Option.some.inj hf
    rw [← hQ]
    exact W.vret hx hb hr (fun t ht hW => ⟨⟨(), rfl, trivial, ⟨by rw [ht]; exact hP, hD⟩⟩, hS.F ht⟩) hS.2.2 d_Row_add_24
  unfold f_Row_add at hf
  refine lv_aload_n hx hb d_Row_add_0 rfl (lv_at hl 0 rfl) ?_
  refine va_get (D := gD G) (ci := 4) (v := .int t_used) (C := R_Row) (T := F_Row) (N := 3) hx hb hg in_Row hown hK hP 0 rfl rfl 1 (by decide) (hg _ m_0) (fun _ h9 => h9) rfl d_Row_add_1 ?_
  refine lv_if_lt (tgt := 19) hx hb d_Row_add_4 (by decide) (fun c_4 => ?_) (fun c_4 => ?_)
  · have hf := ip_ c_4 hf
    exact W_19 t_used t_burst t_cells  hf _ _ _ hP hD hS (lv_sub hl [0] rfl)
  · have hf := in_ c_4 hf
    refine lv_aload_n hx hb d_Row_add_7 rfl (lv_at hl 0 rfl) ?_
    refine va_get (D := gD G) (ci := 4) (v := .int t_used) (C := R_Row) (T := F_Row) (N := 3) hx hb hg in_Row hown hK hP 0 rfl rfl 1 (by decide) (hg _ m_0) (fun _ h9 => h9) rfl d_Row_add_8 ?_
    refine lv_aload_n hx hb d_Row_add_11 rfl (lv_at hl 0 rfl) ?_
    refine va_get (D := gD G) (ci := 4) (v := .ref qt_cells) (C := R_Row) (T := F_Row) (N := 3) hx hb hg in_Row hown hK hP 0 rfl rfl 0 (by decide) (hg _ m_2) (fun _ h9 => h9) rfl d_Row_add_12 ?_
    refine va_alen hx hb hK hP 1 0 rfl rfl (v := nI nt_cells) rfl d_Row_add_15 ?_
    refine lv_icmp_lt (tgt := 25) hx hb d_Row_add_16 (by decide) (fun c_16 => ?_) (fun c_16 => ?_)
    · have hf := ip_ c_16 hf
      refine lv_aload_n hx hb d_Row_add_25 rfl (lv_at hl 0 rfl) ?_
      refine va_get (D := gD G) (ci := 4) (v := .ref qt_cells) (C := R_Row) (T := F_Row) (N := 3) hx hb hg in_Row hown hK hP 0 rfl rfl 0 (by decide) (hg _ m_2) (fun _ h9 => h9) rfl d_Row_add_26 ?_
      refine lv_aload_n hx hb d_Row_add_29 rfl (lv_at hl 0 rfl) ?_
      refine va_get (D := gD G) (ci := 4) (v := .int t_used) (C := R_Row) (T := F_Row) (N := 3) hx hb hg in_Row hown hK hP 0 rfl rfl 1 (by decide) (hg _ m_0) (fun _ h9 => h9) rfl d_Row_add_30 ?_
      refine lv_iload_n hx hb d_Row_add_33 rfl (lv_at hl 1 rfl) ?_
      refine lv_i2b (v := a1.toInt8.toInt32) hx hb d_Row_add_34 rfl ?_
      obtain ⟨g_35, hf⟩ := gd_ hf
      refine va_bast hx hb hK hP hD hS 1 0 rfl rfl (inB_in g_35) d_Row_add_35 (fun H locs hP hD hS => ?_)
      have hP : va_P (gD G) vwCl (w_Row_empty G qt qt_cells nt_cells (upd t_cells t_used.toNatClampNeg (vp_nar .byte a1.toInt8.toInt32)) t_used t_burst) H := hP
      have hD : va_D A (w_Row_empty G qt qt_cells nt_cells (upd t_cells t_used.toNatClampNeg (vp_nar .byte a1.toInt8.toInt32)) t_used t_burst) := hD
      refine lv_aload_n hx hb d_Row_add_36 rfl (lv_at hl 0 rfl) ?_
      refine lv_dup hx hb d_Row_add_37 rfl ?_
      refine va_get (D := gD G) (ci := 4) (v := .int t_used) (C := R_Row) (T := F_Row) (N := 3) hx hb hg in_Row hown hK hP 0 rfl rfl 1 (by decide) (hg _ m_0) (fun _ h9 => h9) rfl d_Row_add_38 ?_
      refine lv_iconst (v := 1) hx hb d_Row_add_41 (by decide) ?_
      refine lv_iadd hx hb d_Row_add_42 ?_
      refine va_put (D := gD G) (ci := 4) (v := .int (t_used + (1 : Int32))) (ty := .int) (C := R_Row) (T := F_Row) (N := 3) hx hb hg in_Row t_Row to_Row no_Row hown hK hP hD hS 0 rfl rfl 1 (by decide) (hg _ m_0) (fun _ h9 => h9) rfl (by decide +kernel) rfl rfl (Nat.le_of_ble_eq_true rfl) d_Row_add_43 (fun H locs hP hD hS => ?_)
      have hP : va_P (gD G) vwCl (w_Row_empty G qt qt_cells nt_cells (upd t_cells t_used.toNatClampNeg (vp_nar .byte a1.toInt8.toInt32)) (t_used + (1 : Int32)) t_burst) H := hP
      have hD : va_D A (w_Row_empty G qt qt_cells nt_cells (upd t_cells t_used.toNatClampNeg (vp_nar .byte a1.toInt8.toInt32)) (t_used + (1 : Int32)) t_burst) := hD
      obtain rfl := Option.some.inj hf
      rw [← hQ]
      exact W.vret hx hb hr (fun t ht hW => ⟨⟨(), rfl, trivial, ⟨by rw [ht]; exact hP, hD⟩⟩, hS.F ht⟩) hS.2.2 d_Row_add_46
    · have hf := in_ c_16 hf
      exact W_19 t_used t_burst t_cells  hf _ _ _ hP hD hS (lv_sub hl [0] rfl)
theorem d_Row_addMany_0 : decode b_Row_addMany 0 = .ok (.iconst 0, 1) := by decide +kernel
theorem d_Row_addMany_1 : decode b_Row_addMany 1 = .ok (.istore_n 3, 1) := by decide +kernel
theorem d_Row_addMany_2 : decode b_Row_addMany 2 = .ok (.iload_n 3, 1) := by decide +kernel
theorem d_Row_addMany_3 : decode b_Row_addMany 3 = .ok (.iload_n 2, 1) := by decide +kernel
theorem d_Row_addMany_4 : decode b_Row_addMany 4 = .ok (.if_icmp .ge 14, 3) := by decide +kernel
theorem d_Row_addMany_7 : decode b_Row_addMany 7 = .ok (.aload_n 0, 1) := by decide +kernel
theorem d_Row_addMany_8 : decode b_Row_addMany 8 = .ok (.iload_n 1, 1) := by decide +kernel
theorem d_Row_addMany_9 : decode b_Row_addMany 9 = .ok (.invokevirtual 27, 3) := by decide +kernel
theorem d_Row_addMany_12 : decode b_Row_addMany 12 = .ok (.iinc 3 1, 3) := by decide +kernel
theorem d_Row_addMany_15 : decode b_Row_addMany 15 = .ok (.goto (-13), 3) := by decide +kernel
theorem d_Row_addMany_18 : decode b_Row_addMany 18 = .ok (.return_, 1) := by decide +kernel
theorem m_3 : Cond.methodLink R_Row 27 y_Row_add ∈ gw := gm (i := 416) (by decide +kernel) (by decide +kernel)
theorem m_4 : Cond.instanceMethod y_Row_add ∈ gw := gm (i := 322) (by decide +kernel) (by decide +kernel)
theorem m_5 : Cond.selects R_Row y_Row_add y_Row_add ∈ gw := gm (i := 323) (by decide +kernel) (by decide +kernel)
theorem m_6 : Cond.initialized R_Row ∈ gw := gm (i := 83) (by decide +kernel) (by decide +kernel)
set_option maxRecDepth 100000 in
theorem m_7 : Cond.code y_Row_add b_Row_add 2 none ∈ gw := gm (i := 324) rfl rfl
def b_Row_addMany_2 (nt_cells : Nat) (a1 : Int32) (a2 : Int32)  (rec_2 : (Int32 × Int32 × Int32 × (Nat → Int32)) → Option (Int32 × Int32 × (Nat → Int32))) (z2 : Int32 × Int32 × Int32 × (Nat → Int32)) : Option (Int32 × Int32 × (Nat → Int32)) :=
  (if a2 ≤ z2.1 then some (z2.2.1, z2.2.2.1, z2.2.2.2) else ((f_Row_add nt_cells z2.2.2.2 z2.2.1 z2.2.2.1 a1).bind fun u_9 => rec_2 ((z2.1 + 1), u_9.1, u_9.2.1, u_9.2.2)))
def f_Row_addMany (K : Nat) (nt_cells : Nat) (t_cells : Nat → Int32) (t_used : Int32) (t_burst : Int32) (a1 : Int32) (a2 : Int32) : Option (Int32 × Int32 × (Nat → Int32)) :=
  lp_ (b_Row_addMany_2 nt_cells a1 a2 ) K ((0 : Int32), t_used, t_burst, t_cells)
set_option maxHeartbeats 4000000 in
set_option maxRecDepth 100000 in
theorem c_Row_addMany (l : Launch) (G : Gt) (K : Nat) (qt : Nat) (qt_cells : Nat) (nt_cells : Nat) (t_cells : Nat → Int32) (t_used : Int32) (t_burst : Int32) (a1 : Int32) (a2 : Int32) (sz : Nat) (res : Int32 × Int32 × (Nat → Int32))   (hf : f_Row_addMany K nt_cells t_cells t_used t_burst a1 a2 = some res) : Met l y_Row_addMany (.code y_Row_addMany b_Row_addMany 4 none :: gw) { frames := 1, cells := 0, slots := 0, locals := 40 } (PC G ([.ref qt, .int a1, .int a2] : List Value) sz (w_Row_empty G qt qt_cells nt_cells t_cells t_used t_burst)) (QV G (va_A (w_Row_empty G qt qt_cells nt_cells t_cells t_used t_burst) sz) (w_Row_empty G qt qt_cells nt_cells res.2.2 res.1 res.2.1)) 0 0 (va_A (w_Row_empty G qt qt_cells nt_cells t_cells t_used t_burst) sz) := by
  refine Met.ofW (cc := b_Row_addMany) (maxL := 4) (ret := none) (by decide) rfl ?_
  intro p e s m args below meth c s₁ B hml hv
  obtain ⟨rfl, hsz, hP, hE, hD0⟩ := hv
  have hx := B.exec
  have hb := B.bytes
  have hr := B.returns
  have hts := atoms_spec (ws := (.code y_Row_addMany b_Row_addMany 4 none :: gw)) B.pre
  have hg : ∀ w ∈ gw, w.before _ s = true := fun w h => hts w (List.mem_cons_of_mem _ h)
  have hown : s.vm.findClass R_Row = some m.cls := findClass_of_methodNamed B.named
  have hlocks := B.notSynchronized
  subst hsz
  have hK := hE.K
  have hD := hD0.self (sz := s.heap.size)
  have hAb := hE.ab hD0
  obtain ⟨Q, hQ⟩ : ∃ Q, MQ below (QV G (va_A (w_Row_empty G qt qt_cells nt_cells t_cells t_used t_burst) s.heap.size) (w_Row_empty G qt qt_cells nt_cells res.2.2 res.1 res.2.1)) ([.ref qt, .int a1, .int a2] : List Value).toArray s 0 0 (va_A (w_Row_empty G qt qt_cells nt_cells t_cells t_used t_burst) s.heap.size) = Q := ⟨_, rfl⟩
  show W p l e { frames := 1, cells := 0, slots := 0, locals := 40 } s m ([.ref qt, .int a1, .int a2] : List Value).toArray below meth c s.heap [] 0 0 (MQ below (QV G (va_A (w_Row_empty G qt qt_cells nt_cells t_cells t_used t_burst) s.heap.size) (w_Row_empty G qt qt_cells nt_cells res.2.2 res.1 res.2.1)) ([.ref qt, .int a1, .int a2] : List Value).toArray s 0 0 (va_A (w_Row_empty G qt qt_cells nt_cells t_cells t_used t_burst) s.heap.size)) _
  rw [hQ]
  have hA : ∀ q : Nat, s.heap.size ≤ q → va_A (w_Row_empty G qt qt_cells nt_cells t_cells t_used t_burst) s.heap.size q := fun q h => Or.inr h
  obtain ⟨A, hAe⟩ : ∃ A, va_A (w_Row_empty G qt qt_cells nt_cells t_cells t_used t_burst) s.heap.size = A := ⟨_, rfl⟩
  rw [hAe] at hA hD hAb hQ
  have hS : va_S A s.heap s.heap [] := va_S.rf
  have hl := lv_entry (([.ref qt, .int a1, .int a2] : List Value)) (n := 4) (Nat.le_of_ble_eq_true rfl)
  rw [lg_entry_eq]
  generalize (lg_sl (([.ref qt, .int a1, .int a2] : List Value)) ++ List.replicate (4 - (lg_sl (([.ref qt, .int a1, .int a2] : List Value))).length) Slot.unset).toArray = ls at hl ⊢
  have hl : lv_has ls 4 [(0, .ref qt), (1, .int a1), (2, .int a2)] := hl
  have W_2 : ∀   (n_2 : Nat) (z2 : Int32 × Int32 × Int32 × (Nat → Int32)) , lp_ (b_Row_addMany_2 nt_cells a1 a2 ) n_2 z2 = some res → ∀ (H : Heap) (locs : List Loc) (ls : Array Slot), va_P (gD G) vwCl (w_Row_empty G qt qt_cells nt_cells z2.2.2.2 z2.2.1 z2.2.2.1) H → va_D A (w_Row_empty G qt qt_cells nt_cells z2.2.2.2 z2.2.1 z2.2.2.1) → va_S A s.heap H locs → lv_has ls 4 [(0, .ref qt), (1, .int a1), (2, .int a2), (3, .int z2.1)] → W p l e { frames := 1, cells := 0, slots := 0, locals := 40 } s m ([.ref qt, .int a1, .int a2] : List Value).toArray below meth c H locs 0 0 Q (F0 m 2 ls []) := by
    intro  n_2
    induction n_2 with
    | zero =>
      intro z2  hf
      cases hf
    | succ n_2 ih_2 =>
      intro z2  hf H locs ls hP hD hS hl
      have hf : b_Row_addMany_2 nt_cells a1 a2  (lp_ (b_Row_addMany_2 nt_cells a1 a2 ) n_2) z2 = some res := hf
      generalize lp_ (b_Row_addMany_2 nt_cells a1 a2 ) n_2 = rec_2 at hf ih_2
      unfold b_Row_addMany_2 at hf
      refine lv_iload_n hx hb d_Row_addMany_2 rfl (lv_at hl 3 rfl) ?_
      refine lv_iload_n hx hb d_Row_addMany_3 rfl (lv_at hl 2 rfl) ?_
      refine lv_icmp_ge (tgt := 18) hx hb d_Row_addMany_4 (by decide) (fun c_4 => ?_) (fun c_4 => ?_)
      · have hf := ip_ c_4 hf
        obtain rfl := Option.some.inj hf
        rw [← hQ]
        exact W.vret hx hb hr (fun t ht hW => ⟨⟨(), rfl, trivial, ⟨by rw [ht]; exact hP, hD⟩⟩, hS.F ht⟩) hS.2.2 d_Row_addMany_18
      · have hf := in_ c_4 hf
        refine lv_aload_n hx hb d_Row_addMany_7 rfl (lv_at hl 0 rfl) ?_
        refine lv_iload_n hx hb d_Row_addMany_8 rfl (lv_at hl 1 rfl) ?_
        obtain ⟨u_9, hu_9, hf⟩ := bd_ hf
        refine CALLWv (va_runV (As := [.int a1]) (rest := []) ⟨hx, hb, hml, hown, hg⟩ (c_Row_add l G K qt qt_cells nt_cells z2.2.2.2 z2.2.1 z2.2.2.1 a1 _ u_9  hu_9) (cwV 1 hg (gV m_3 m_4 m_5 m_6 m_7) rfl rfl rfl (by decide +kernel) ⟨Nat.le_of_ble_eq_true rfl, Nat.le_of_ble_eq_true rfl⟩) ⟨PC_b, va_recv hK hP (ci := 4) (q0 := 0) rfl rfl, PC_p hE hS hAb hP hD⟩ rfl rfl hl.1 rfl (lv_room (Nat.le_of_ble_eq_true rfl)) d_Row_addMany_9 ⟨Nat.zero_le _, Nat.zero_le _⟩) hP hD hS hA (fun H locs hP hD hS => ?_)
        have hP : va_P (gD G) vwCl (w_Row_empty G qt qt_cells nt_cells u_9.2.2 u_9.1 u_9.2.1) H := hP
        have hD : va_D A (w_Row_empty G qt qt_cells nt_cells u_9.2.2 u_9.1 u_9.2.1) := hD
        refine lv_iinc (v := (z2.1 + 1)) (lv' := [(3, .int (z2.1 + 1)), (0, .ref qt), (1, .int a1), (2, .int a2)]) hx hb d_Row_addMany_12 hl (k := 3) rfl rfl (by decide) rfl (fun ls hl => ?_)
        refine lv_goto (tgt := 2) hx hb d_Row_addMany_15 (by decide) ?_
        exact ih_2 ((z2.1 + 1), u_9.1, u_9.2.1, u_9.2.2)  hf _ _ _ hP hD hS (lv_sub hl [1, 2, 3, 0] rfl)
  unfold f_Row_addMany at hf
  refine lv_iconst (v := 0) hx hb d_Row_addMany_0 (by decide) ?_
  refine lv_istore_n (lv' := [(3, .int (0 : Int32)), (0, .ref qt), (1, .int a1), (2, .int a2)]) hx hb d_Row_addMany_1 rfl hl (by decide) rfl (fun ls hl => ?_)
  exact W_2   K ((0 : Int32), t_used, t_burst, t_cells)  hf _ _ _ hP hD hS (lv_sub hl [1, 2, 3, 0] rfl)
theorem d_Row_at_0 : decode b_Row_at 0 = .ok (.iload_n 1, 1) := by decide +kernel
theorem d_Row_at_1 : decode b_Row_at 1 = .ok (.ifCond .lt 29, 3) := by decide +kernel
theorem d_Row_at_4 : decode b_Row_at 4 = .ok (.iload_n 1, 1) := by decide +kernel
theorem d_Row_at_5 : decode b_Row_at 5 = .ok (.aload_n 0, 1) := by decide +kernel
theorem d_Row_at_6 : decode b_Row_at 6 = .ok (.getfield 19, 3) := by decide +kernel
theorem d_Row_at_9 : decode b_Row_at 9 = .ok (.if_icmp .ge 21, 3) := by decide +kernel
theorem d_Row_at_12 : decode b_Row_at 12 = .ok (.iload_n 1, 1) := by decide +kernel
theorem d_Row_at_13 : decode b_Row_at 13 = .ok (.aload_n 0, 1) := by decide +kernel
theorem d_Row_at_14 : decode b_Row_at 14 = .ok (.getfield 13, 3) := by decide +kernel
theorem d_Row_at_17 : decode b_Row_at 17 = .ok (.arraylength, 1) := by decide +kernel
theorem d_Row_at_18 : decode b_Row_at 18 = .ok (.if_icmp .ge 12, 3) := by decide +kernel
theorem d_Row_at_21 : decode b_Row_at 21 = .ok (.aload_n 0, 1) := by decide +kernel
theorem d_Row_at_22 : decode b_Row_at 22 = .ok (.getfield 13, 3) := by decide +kernel
theorem d_Row_at_25 : decode b_Row_at 25 = .ok (.iload_n 1, 1) := by decide +kernel
theorem d_Row_at_26 : decode b_Row_at 26 = .ok (.baload, 1) := by decide +kernel
theorem d_Row_at_27 : decode b_Row_at 27 = .ok (.goto 4, 3) := by decide +kernel
theorem d_Row_at_30 : decode b_Row_at 30 = .ok (.iconst (-1), 1) := by decide +kernel
theorem d_Row_at_31 : decode b_Row_at 31 = .ok (.ireturn, 1) := by decide +kernel
def f_Row_at (nt_cells : Nat) (t_cells : Nat → Int32) (t_used : Int32) (a1 : Int32) : Option Int32 :=
  (if a1 < 0 then some (-1 : Int32) else (if t_used ≤ a1 then some (-1 : Int32) else (if (nI nt_cells) ≤ a1 then some (-1 : Int32) else (if inB a1 nt_cells = true then some (t_cells a1.toNatClampNeg) else none))))
set_option maxHeartbeats 4000000 in
set_option maxRecDepth 100000 in
theorem c_Row_at (l : Launch) (G : Gt) (K : Nat) (qt : Nat) (qt_cells : Nat) (nt_cells : Nat) (t_cells : Nat → Int32) (t_used : Int32) (t_burst : Int32) (a1 : Int32) (sz : Nat) (res : Int32)   (hf : f_Row_at nt_cells t_cells t_used a1 = some res) : Met l y_Row_at (.code y_Row_at b_Row_at 2 (some .int) :: gw) { frames := 0, cells := 0, slots := 0, locals := 0 } (PC G ([.ref qt, .int a1] : List Value) sz (w_Row_empty G qt qt_cells nt_cells t_cells t_used t_burst)) (QI G res (va_A (w_Row_empty G qt qt_cells nt_cells t_cells t_used t_burst) sz) (w_Row_empty G qt qt_cells nt_cells t_cells t_used t_burst)) 0 0 (va_A (w_Row_empty G qt qt_cells nt_cells t_cells t_used t_burst) sz) := by
  refine Met.ofW (cc := b_Row_at) (maxL := 2) (ret := (some .int)) (by decide) rfl ?_
  intro p e s m args below meth c s₁ B hml hv
  obtain ⟨rfl, hsz, hP, hE, hD0⟩ := hv
  have hx := B.exec
  have hb := B.bytes
  have hr := B.returns
  have hts := atoms_spec (ws := (.code y_Row_at b_Row_at 2 (some .int) :: gw)) B.pre
  have hg : ∀ w ∈ gw, w.before _ s = true := fun w h => hts w (List.mem_cons_of_mem _ h)
  have hown : s.vm.findClass R_Row = some m.cls := findClass_of_methodNamed B.named
  have hlocks := B.notSynchronized
  subst hsz
  have hK := hE.K
  have hD := hD0.self (sz := s.heap.size)
  have hAb := hE.ab hD0
  obtain ⟨Q, hQ⟩ : ∃ Q, MQ below (QI G res (va_A (w_Row_empty G qt qt_cells nt_cells t_cells t_used t_burst) s.heap.size) (w_Row_empty G qt qt_cells nt_cells t_cells t_used t_burst)) ([.ref qt, .int a1] : List Value).toArray s 0 0 (va_A (w_Row_empty G qt qt_cells nt_cells t_cells t_used t_burst) s.heap.size) = Q := ⟨_, rfl⟩
  show W p l e { frames := 0, cells := 0, slots := 0, locals := 0 } s m ([.ref qt, .int a1] : List Value).toArray below meth c s.heap [] 0 0 (MQ below (QI G res (va_A (w_Row_empty G qt qt_cells nt_cells t_cells t_used t_burst) s.heap.size) (w_Row_empty G qt qt_cells nt_cells t_cells t_used t_burst)) ([.ref qt, .int a1] : List Value).toArray s 0 0 (va_A (w_Row_empty G qt qt_cells nt_cells t_cells t_used t_burst) s.heap.size)) _
  rw [hQ]
  have hA : ∀ q : Nat, s.heap.size ≤ q → va_A (w_Row_empty G qt qt_cells nt_cells t_cells t_used t_burst) s.heap.size q := fun q h => Or.inr h
  obtain ⟨A, hAe⟩ : ∃ A, va_A (w_Row_empty G qt qt_cells nt_cells t_cells t_used t_burst) s.heap.size = A := ⟨_, rfl⟩
  rw [hAe] at hA hD hAb hQ
  have hS : va_S A s.heap s.heap [] := va_S.rf
  have hl := lv_entry (([.ref qt, .int a1] : List Value)) (n := 2) (Nat.le_of_ble_eq_true rfl)
  rw [lg_entry_eq]
  generalize (lg_sl (([.ref qt, .int a1] : List Value)) ++ List.replicate (2 - (lg_sl (([.ref qt, .int a1] : List Value))).length) Slot.unset).toArray = ls at hl ⊢
  have hl : lv_has ls 2 [(0, .ref qt), (1, .int a1)] := hl
  unfold f_Row_at at hf
  refine lv_iload_n hx hb d_Row_at_0 rfl (lv_at hl 1 rfl) ?_
  refine lv_if_lt (tgt := 30) hx hb d_Row_at_1 (by decide) (fun c_1 => ?_) (fun c_1 => ?_)
  · have hf := ip_ c_1 hf
    refine lv_iconst (v := -1) hx hb d_Row_at_30 (by decide) ?_
    obtain rfl := Option.some.inj hf
    rw [← hQ]
    exact W.iret (v := (-1 : Int32)) hx hb hr (fun t ht hW => ⟨⟨(-1 : Int32), (), rfl, rfl, ⟨by rw [ht]; exact hP, hD⟩⟩, hS.F ht⟩) hS.2.2 d_Row_at_31
  · have hf := in_ c_1 hf
    refine lv_iload_n hx hb d_Row_at_4 rfl (lv_at hl 1 rfl) ?_
    refine lv_aload_n hx hb d_Row_at_5 rfl (lv_at hl 0 rfl) ?_
    refine va_get (D := gD G) (ci := 4) (v := .int t_used) (C := R_Row) (T := F_Row) (N := 3) hx hb hg in_Row hown hK hP 0 rfl rfl 1 (by decide) (hg _ m_0) (fun _ h9 => h9) rfl d_Row_at_6 ?_
    refine lv_icmp_ge (tgt := 30) hx hb d_Row_at_9 (by decide) (fun c_9 => ?_) (fun c_9 => ?_)
    · have hf := ip_ c_9 hf
      refine lv_iconst (v := -1) hx hb d_Row_at_30 (by decide) ?_
      obtain rfl := Option.some.inj hf
      rw [← hQ]
      exact W.iret (v := (-1 : Int32)) hx hb hr (fun t ht hW => ⟨⟨(-1 : Int32), (), rfl, rfl, ⟨by rw [ht]; exact hP, hD⟩⟩, hS.F ht⟩) hS.2.2 d_Row_at_31
    · have hf := in_ c_9 hf
      refine lv_iload_n hx hb d_Row_at_12 rfl (lv_at hl 1 rfl) ?_
      refine lv_aload_n hx hb d_Row_at_13 rfl (lv_at hl 0 rfl) ?_
      refine va_get (D := gD G) (ci := 4) (v := .ref qt_cells) (C := R_Row) (T := F_Row) (N := 3) hx hb hg in_Row hown hK hP 0 rfl rfl 0 (by decide) (hg _ m_2) (fun _ h9 => h9) rfl d_Row_at_14 ?_
      refine va_alen hx hb hK hP 1 0 rfl rfl (v := nI nt_cells) rfl d_Row_at_17 ?_
      refine lv_icmp_ge (tgt := 30) hx hb d_Row_at_18 (by decide) (fun c_18 => ?_) (fun c_18 => ?_)
      · have hf := ip_ c_18 hf
        refine lv_iconst (v := -1) hx hb d_Row_at_30 (by decide) ?_
        obtain rfl := Option.some.inj hf
        rw [← hQ]
        exact W.iret (v := (-1 : Int32)) hx hb hr (fun t ht hW => ⟨⟨(-1 : Int32), (), rfl, rfl, ⟨by rw [ht]; exact hP, hD⟩⟩, hS.F ht⟩) hS.2.2 d_Row_at_31
      · have hf := in_ c_18 hf
        refine lv_aload_n hx hb d_Row_at_21 rfl (lv_at hl 0 rfl) ?_
        refine va_get (D := gD G) (ci := 4) (v := .ref qt_cells) (C := R_Row) (T := F_Row) (N := 3) hx hb hg in_Row hown hK hP 0 rfl rfl 0 (by decide) (hg _ m_2) (fun _ h9 => h9) rfl d_Row_at_22 ?_
        refine lv_iload_n hx hb d_Row_at_25 rfl (lv_at hl 1 rfl) ?_
        obtain ⟨g_26, hf⟩ := gd_ hf
        refine va_bald hx hb hK hP 1 0 rfl rfl (inB_in g_26) d_Row_at_26 ?_
        refine lv_goto (tgt := 31) hx hb d_Row_at_27 (by decide) ?_
        obtain rfl := Option.some.inj hf
        rw [← hQ]
        exact W.iret (v := (t_cells a1.toNatClampNeg)) hx hb hr (fun t ht hW => ⟨⟨(t_cells a1.toNatClampNeg), (), rfl, rfl, ⟨by rw [ht]; exact hP, hD⟩⟩, hS.F ht⟩) hS.2.2 d_Row_at_31
theorem d_Row_addRow_0 : decode b_Row_addRow 0 = .ok (.iconst 0, 1) := by decide +kernel
theorem d_Row_addRow_1 : decode b_Row_addRow 1 = .ok (.istore_n 2, 1) := by decide +kernel
theorem d_Row_addRow_2 : decode b_Row_addRow 2 = .ok (.iload_n 2, 1) := by decide +kernel
theorem d_Row_addRow_3 : decode b_Row_addRow 3 = .ok (.aload_n 1, 1) := by decide +kernel
theorem d_Row_addRow_4 : decode b_Row_addRow 4 = .ok (.getfield 19, 3) := by decide +kernel
theorem d_Row_addRow_7 : decode b_Row_addRow 7 = .ok (.if_icmp .ge 18, 3) := by decide +kernel
theorem d_Row_addRow_10 : decode b_Row_addRow 10 = .ok (.aload_n 0, 1) := by decide +kernel
theorem d_Row_addRow_11 : decode b_Row_addRow 11 = .ok (.aload_n 1, 1) := by decide +kernel
theorem d_Row_addRow_12 : decode b_Row_addRow 12 = .ok (.iload_n 2, 1) := by decide +kernel
theorem d_Row_addRow_13 : decode b_Row_addRow 13 = .ok (.invokevirtual 41, 3) := by decide +kernel
theorem d_Row_addRow_16 : decode b_Row_addRow 16 = .ok (.invokevirtual 27, 3) := by decide +kernel
theorem d_Row_addRow_19 : decode b_Row_addRow 19 = .ok (.iinc 2 1, 3) := by decide +kernel
theorem d_Row_addRow_22 : decode b_Row_addRow 22 = .ok (.goto (-20), 3) := by decide +kernel
theorem d_Row_addRow_25 : decode b_Row_addRow 25 = .ok (.return_, 1) := by decide +kernel
theorem m_8 : Cond.methodLink R_Row 41 y_Row_at ∈ gw := gm (i := 412) (by decide +kernel) (by decide +kernel)
theorem m_9 : Cond.instanceMethod y_Row_at ∈ gw := gm (i := 413) (by decide +kernel) (by decide +kernel)
theorem m_10 : Cond.selects R_Row y_Row_at y_Row_at ∈ gw := gm (i := 414) (by decide +kernel) (by decide +kernel)
set_option maxRecDepth 100000 in
theorem m_11 : Cond.code y_Row_at b_Row_at 2 (some .int) ∈ gw := gm (i := 415) rfl rfl
def b_Row_addRow_2 (nt_cells : Nat) (na1_cells : Nat) (a1_cells : Nat → Int32) (a1_used : Int32)  (rec_2 : (Int32 × Int32 × Int32 × (Nat → Int32)) → Option (Int32 × Int32 × (Nat → Int32))) (z2 : Int32 × Int32 × Int32 × (Nat → Int32)) : Option (Int32 × Int32 × (Nat → Int32)) :=
  (if a1_used ≤ z2.1 then some (z2.2.1, z2.2.2.1, z2.2.2.2) else ((f_Row_at na1_cells a1_cells a1_used z2.1).bind fun u_13 => ((f_Row_add nt_cells z2.2.2.2 z2.2.1 z2.2.2.1 u_13).bind fun u_16 => rec_2 ((z2.1 + 1), u_16.1, u_16.2.1, u_16.2.2))))
def f_Row_addRow (K : Nat) (nt_cells : Nat) (t_cells : Nat → Int32) (t_used : Int32) (t_burst : Int32) (na1_cells : Nat) (a1_cells : Nat → Int32) (a1_used : Int32) : Option (Int32 × Int32 × (Nat → Int32)) :=
  lp_ (b_Row_addRow_2 nt_cells na1_cells a1_cells a1_used ) K ((0 : Int32), t_used, t_burst, t_cells)
abbrev w_Row_addRow (G : Gt) (qt : Nat) (qt_cells : Nat) (nt_cells : Nat) (t_cells : Nat → Int32) (t_used : Int32) (t_burst : Int32) (qa1 : Nat) (qa1_cells : Nat) (na1_cells : Nat) (a1_cells : Nat → Int32) (a1_used : Int32) (a1_burst : Int32) : va_W := [(qt, .inr (4, [.ref qt_cells, .int t_used, .int t_burst])), (qt_cells, .inl (gC G 0, nt_cells, .inl t_cells)), (qa1, .inr (4, [.ref qa1_cells, .int a1_used, .int a1_burst])), (qa1_cells, .inl (gC G 0, na1_cells, .inl a1_cells))]
set_option maxHeartbeats 4000000 in
set_option maxRecDepth 100000 in
theorem c_Row_addRow (l : Launch) (G : Gt) (K : Nat) (qt : Nat) (qt_cells : Nat) (nt_cells : Nat) (t_cells : Nat → Int32) (t_used : Int32) (t_burst : Int32) (qa1 : Nat) (qa1_cells : Nat) (na1_cells : Nat) (a1_cells : Nat → Int32) (a1_used : Int32) (a1_burst : Int32) (sz : Nat) (res : Int32 × Int32 × (Nat → Int32))   (hf : f_Row_addRow K nt_cells t_cells t_used t_burst na1_cells a1_cells a1_used = some res) : Met l y_Row_addRow (.code y_Row_addRow b_Row_addRow 3 none :: gw) { frames := 1, cells := 0, slots := 0, locals := 40 } (PC G ([.ref qt, .ref qa1] : List Value) sz (w_Row_addRow G qt qt_cells nt_cells t_cells t_used t_burst qa1 qa1_cells na1_cells a1_cells a1_used a1_burst)) (QV G (va_A (w_Row_addRow G qt qt_cells nt_cells t_cells t_used t_burst qa1 qa1_cells na1_cells a1_cells a1_used a1_burst) sz) (w_Row_addRow G qt qt_cells nt_cells res.2.2 res.1 res.2.1 qa1 qa1_cells na1_cells a1_cells a1_used a1_burst)) 0 0 (va_A (w_Row_addRow G qt qt_cells nt_cells t_cells t_used t_burst qa1 qa1_cells na1_cells a1_cells a1_used a1_burst) sz) := by
  refine Met.ofW (cc := b_Row_addRow) (maxL := 3) (ret := none) (by decide) rfl ?_
  intro p e s m args below meth c s₁ B hml hv
  obtain ⟨rfl, hsz, hP, hE, hD0⟩ := hv
  have hx := B.exec
  have hb := B.bytes
  have hr := B.returns
  have hts := atoms_spec (ws := (.code y_Row_addRow b_Row_addRow 3 none :: gw)) B.pre
  have hg : ∀ w ∈ gw, w.before _ s = true := fun w h => hts w (List.mem_cons_of_mem _ h)
  have hown : s.vm.findClass R_Row = some m.cls := findClass_of_methodNamed B.named
  have hlocks := B.notSynchronized
  subst hsz
  have hK := hE.K
  have hD := hD0.self (sz := s.heap.size)
  have hAb := hE.ab hD0
  obtain ⟨Q, hQ⟩ : ∃ Q, MQ below (QV G (va_A (w_Row_addRow G qt qt_cells nt_cells t_cells t_used t_burst qa1 qa1_cells na1_cells a1_cells a1_used a1_burst) s.heap.size) (w_Row_addRow G qt qt_cells nt_cells res.2.2 res.1 res.2.1 qa1 qa1_cells na1_cells a1_cells a1_used a1_burst)) ([.ref qt, .ref qa1] : List Value).toArray s 0 0 (va_A (w_Row_addRow G qt qt_cells nt_cells t_cells t_used t_burst qa1 qa1_cells na1_cells a1_cells a1_used a1_burst) s.heap.size) = Q := ⟨_, rfl⟩
  show W p l e { frames := 1, cells := 0, slots := 0, locals := 40 } s m ([.ref qt, .ref qa1] : List Value).toArray below meth c s.heap [] 0 0 (MQ below (QV G (va_A (w_Row_addRow G qt qt_cells nt_cells t_cells t_used t_burst qa1 qa1_cells na1_cells a1_cells a1_used a1_burst) s.heap.size) (w_Row_addRow G qt qt_cells nt_cells res.2.2 res.1 res.2.1 qa1 qa1_cells na1_cells a1_cells a1_used a1_burst)) ([.ref qt, .ref qa1] : List Value).toArray s 0 0 (va_A (w_Row_addRow G qt qt_cells nt_cells t_cells t_used t_burst qa1 qa1_cells na1_cells a1_cells a1_used a1_burst) s.heap.size)) _
  rw [hQ]
  have hA : ∀ q : Nat, s.heap.size ≤ q → va_A (w_Row_addRow G qt qt_cells nt_cells t_cells t_used t_burst qa1 qa1_cells na1_cells a1_cells a1_used a1_burst) s.heap.size q := fun q h => Or.inr h
  obtain ⟨A, hAe⟩ : ∃ A, va_A (w_Row_addRow G qt qt_cells nt_cells t_cells t_used t_burst qa1 qa1_cells na1_cells a1_cells a1_used a1_burst) s.heap.size = A := ⟨_, rfl⟩
  rw [hAe] at hA hD hAb hQ
  have hS : va_S A s.heap s.heap [] := va_S.rf
  have hl := lv_entry (([.ref qt, .ref qa1] : List Value)) (n := 3) (Nat.le_of_ble_eq_true rfl)
  rw [lg_entry_eq]
  generalize (lg_sl (([.ref qt, .ref qa1] : List Value)) ++ List.replicate (3 - (lg_sl (([.ref qt, .ref qa1] : List Value))).length) Slot.unset).toArray = ls at hl ⊢
  have hl : lv_has ls 3 [(0, .ref qt), (1, .ref qa1)] := hl
  have W_2 : ∀   (n_2 : Nat) (z2 : Int32 × Int32 × Int32 × (Nat → Int32)) , lp_ (b_Row_addRow_2 nt_cells na1_cells a1_cells a1_used ) n_2 z2 = some res → ∀ (H : Heap) (locs : List Loc) (ls : Array Slot), va_P (gD G) vwCl (w_Row_addRow G qt qt_cells nt_cells z2.2.2.2 z2.2.1 z2.2.2.1 qa1 qa1_cells na1_cells a1_cells a1_used a1_burst) H → va_D A (w_Row_addRow G qt qt_cells nt_cells z2.2.2.2 z2.2.1 z2.2.2.1 qa1 qa1_cells na1_cells a1_cells a1_used a1_burst) → va_S A s.heap H locs → lv_has ls 3 [(0, .ref qt), (1, .ref qa1), (2, .int z2.1)] → W p l e { frames := 1, cells := 0, slots := 0, locals := 40 } s m ([.ref qt, .ref qa1] : List Value).toArray below meth c H locs 0 0 Q (F0 m 2 ls []) := by
    intro  n_2
    induction n_2 with
    | zero =>
      intro z2  hf
      cases hf
    | succ n_2 ih_2 =>
      intro z2  hf H locs ls hP hD hS hl
      have hf : b_Row_addRow_2 nt_cells na1_cells a1_cells a1_used  (lp_ (b_Row_addRow_2 nt_cells na1_cells a1_cells a1_used ) n_2) z2 = some res := hf
      generalize lp_ (b_Row_addRow_2 nt_cells na1_cells a1_cells a1_used ) n_2 = rec_2 at hf ih_2
      unfold b_Row_addRow_2 at hf
      refine lv_iload_n hx hb d_Row_addRow_2 rfl (lv_at hl 2 rfl) ?_
      refine lv_aload_n hx hb d_Row_addRow_3 rfl (lv_at hl 1 rfl) ?_
      refine va_get (D := gD G) (ci := 4) (v := .int a1_used) (C := R_Row) (T := F_Row) (N := 3) hx hb hg in_Row hown hK hP 2 rfl rfl 1 (by decide) (hg _ m_0) (fun _ h9 => h9) rfl d_Row_addRow_4 ?_
      refine lv_icmp_ge (tgt := 25) hx hb d_Row_addRow_7 (by decide) (fun c_7 => ?_) (fun c_7 => ?_)
      · have hf := ip_ c_7 hf
        obtain rfl := Option.some.inj hf
        rw [← hQ]
        exact W.vret hx hb hr (fun t ht hW => ⟨⟨(), rfl, trivial, ⟨by rw [ht]; exact hP, hD⟩⟩, hS.F ht⟩) hS.2.2 d_Row_addRow_25
      · have hf := in_ c_7 hf
        refine lv_aload_n hx hb d_Row_addRow_10 rfl (lv_at hl 0 rfl) ?_
        refine lv_aload_n hx hb d_Row_addRow_11 rfl (lv_at hl 1 rfl) ?_
        refine lv_iload_n hx hb d_Row_addRow_12 rfl (lv_at hl 2 rfl) ?_
        obtain ⟨u_13, hu_13, hf⟩ := bd_ hf
        refine CALLi (va_runV (As := [.int z2.1]) (rest := [.ref qt]) ⟨hx, hb, hml, hown, hg⟩ (c_Row_at l G K qa1 qa1_cells na1_cells a1_cells a1_used a1_burst z2.1 _ u_13  hu_13) (cwV 1 hg (gV m_8 m_9 m_10 m_6 m_11) rfl rfl rfl (by decide +kernel) ⟨Nat.le_of_ble_eq_true rfl, Nat.le_of_ble_eq_true rfl⟩) ⟨PC_b, va_recv hK hP (ci := 4) (q0 := 2) rfl rfl, PC_p hE hS hAb (hP.sub [2, 3] rfl) (hD.sub [2, 3] (by decide) rfl)⟩ rfl rfl hl.1 rfl (lv_room (Nat.le_of_ble_eq_true rfl)) d_Row_addRow_13 ⟨Nat.zero_le _, Nat.zero_le _⟩) hP hD hS hA [2, 3] rfl rfl rfl (fun H locs hP hD hS => ?_)
        have hP : va_P (gD G) vwCl (w_Row_addRow G qt qt_cells nt_cells z2.2.2.2 z2.2.1 z2.2.2.1 qa1 qa1_cells na1_cells a1_cells a1_used a1_burst) H := hP
        have hD : va_D A (w_Row_addRow G qt qt_cells nt_cells z2.2.2.2 z2.2.1 z2.2.2.1 qa1 qa1_cells na1_cells a1_cells a1_used a1_burst) := hD
        obtain ⟨u_16, hu_16, hf⟩ := bd_ hf
        refine CALLv (va_runV (As := [.int u_13]) (rest := []) ⟨hx, hb, hml, hown, hg⟩ (c_Row_add l G K qt qt_cells nt_cells z2.2.2.2 z2.2.1 z2.2.2.1 u_13 _ u_16  hu_16) (cwV 1 hg (gV m_3 m_4 m_5 m_6 m_7) rfl rfl rfl (by decide +kernel) ⟨Nat.le_of_ble_eq_true rfl, Nat.le_of_ble_eq_true rfl⟩) ⟨PC_b, va_recv hK hP (ci := 4) (q0 := 0) rfl rfl, PC_p hE hS hAb (hP.sub [0, 1] rfl) (hD.sub [0, 1] (by decide) rfl)⟩ rfl rfl hl.1 rfl (lv_room (Nat.le_of_ble_eq_true rfl)) d_Row_addRow_16 ⟨Nat.zero_le _, Nat.zero_le _⟩) hP hD hS hA [0, 1] rfl rfl rfl (fun H locs hP hD hS => ?_)
        have hP : va_P (gD G) vwCl (w_Row_addRow G qt qt_cells nt_cells u_16.2.2 u_16.1 u_16.2.1 qa1 qa1_cells na1_cells a1_cells a1_used a1_burst) H := hP
        have hD : va_D A (w_Row_addRow G qt qt_cells nt_cells u_16.2.2 u_16.1 u_16.2.1 qa1 qa1_cells na1_cells a1_cells a1_used a1_burst) := hD
        refine lv_iinc (v := (z2.1 + 1)) (lv' := [(2, .int (z2.1 + 1)), (0, .ref qt), (1, .ref qa1)]) hx hb d_Row_addRow_19 hl (k := 2) rfl rfl (by decide) rfl (fun ls hl => ?_)
        refine lv_goto (tgt := 2) hx hb d_Row_addRow_22 (by decide) ?_
        exact ih_2 ((z2.1 + 1), u_16.1, u_16.2.1, u_16.2.2)  hf _ _ _ hP hD hS (lv_sub hl [1, 2, 0] rfl)
  unfold f_Row_addRow at hf
  refine lv_iconst (v := 0) hx hb d_Row_addRow_0 (by decide) ?_
  refine lv_istore_n (lv' := [(2, .int (0 : Int32)), (0, .ref qt), (1, .ref qa1)]) hx hb d_Row_addRow_1 rfl hl (by decide) rfl (fun ls hl => ?_)
  exact W_2   K ((0 : Int32), t_used, t_burst, t_cells)  hf _ _ _ hP hD hS (lv_sub hl [1, 2, 0] rfl)
theorem d_Row_addNumber_0 : decode b_Row_addNumber 0 = .ok (.iload_n 1, 1) := by decide +kernel
theorem d_Row_addNumber_1 : decode b_Row_addNumber 1 = .ok (.ifCond .ge 9, 3) := by decide +kernel
theorem d_Row_addNumber_4 : decode b_Row_addNumber 4 = .ok (.aload_n 0, 1) := by decide +kernel
theorem d_Row_addNumber_5 : decode b_Row_addNumber 5 = .ok (.bipush 45, 2) := by decide +kernel
theorem d_Row_addNumber_7 : decode b_Row_addNumber 7 = .ok (.invokevirtual 27, 3) := by decide +kernel
theorem d_Row_addNumber_10 : decode b_Row_addNumber 10 = .ok (.iload_n 1, 1) := by decide +kernel
theorem d_Row_addNumber_11 : decode b_Row_addNumber 11 = .ok (.invokestatic 45, 3) := by decide +kernel
theorem d_Row_addNumber_14 : decode b_Row_addNumber 14 = .ok (.istore_n 3, 1) := by decide +kernel
theorem d_Row_addNumber_15 : decode b_Row_addNumber 15 = .ok (.iconst 1, 1) := by decide +kernel
theorem d_Row_addNumber_16 : decode b_Row_addNumber 16 = .ok (.istore 4, 2) := by decide +kernel
theorem d_Row_addNumber_18 : decode b_Row_addNumber 18 = .ok (.iconst 1, 1) := by decide +kernel
theorem d_Row_addNumber_19 : decode b_Row_addNumber 19 = .ok (.istore 5, 2) := by decide +kernel
theorem d_Row_addNumber_21 : decode b_Row_addNumber 21 = .ok (.iload 5, 2) := by decide +kernel
theorem d_Row_addNumber_23 : decode b_Row_addNumber 23 = .ok (.bipush 9, 2) := by decide +kernel
theorem d_Row_addNumber_25 : decode b_Row_addNumber 25 = .ok (.if_icmp .ge 31, 3) := by decide +kernel
theorem d_Row_addNumber_28 : decode b_Row_addNumber 28 = .ok (.iload 5, 2) := by decide +kernel
theorem d_Row_addNumber_30 : decode b_Row_addNumber 30 = .ok (.iload_n 2, 1) := by decide +kernel
theorem d_Row_addNumber_31 : decode b_Row_addNumber 31 = .ok (.if_icmp .lt 12, 3) := by decide +kernel
theorem d_Row_addNumber_34 : decode b_Row_addNumber 34 = .ok (.iload_n 3, 1) := by decide +kernel
theorem d_Row_addNumber_35 : decode b_Row_addNumber 35 = .ok (.bipush 10, 2) := by decide +kernel
theorem d_Row_addNumber_37 : decode b_Row_addNumber 37 = .ok (.idiv, 1) := by decide +kernel
theorem d_Row_addNumber_38 : decode b_Row_addNumber 38 = .ok (.iload 4, 2) := by decide +kernel
theorem d_Row_addNumber_40 : decode b_Row_addNumber 40 = .ok (.if_icmp .lt 16, 3) := by decide +kernel
theorem d_Row_addNumber_43 : decode b_Row_addNumber 43 = .ok (.iload 4, 2) := by decide +kernel
theorem d_Row_addNumber_45 : decode b_Row_addNumber 45 = .ok (.bipush 10, 2) := by decide +kernel
theorem d_Row_addNumber_47 : decode b_Row_addNumber 47 = .ok (.imul, 1) := by decide +kernel
theorem d_Row_addNumber_48 : decode b_Row_addNumber 48 = .ok (.istore 4, 2) := by decide +kernel
theorem d_Row_addNumber_50 : decode b_Row_addNumber 50 = .ok (.iinc 5 1, 3) := by decide +kernel
theorem d_Row_addNumber_53 : decode b_Row_addNumber 53 = .ok (.goto (-32), 3) := by decide +kernel
theorem d_Row_addNumber_56 : decode b_Row_addNumber 56 = .ok (.iload 4, 2) := by decide +kernel
theorem d_Row_addNumber_58 : decode b_Row_addNumber 58 = .ok (.ifCond .le 27, 3) := by decide +kernel
theorem d_Row_addNumber_61 : decode b_Row_addNumber 61 = .ok (.aload_n 0, 1) := by decide +kernel
theorem d_Row_addNumber_62 : decode b_Row_addNumber 62 = .ok (.bipush 48, 2) := by decide +kernel
theorem d_Row_addNumber_64 : decode b_Row_addNumber 64 = .ok (.iload_n 3, 1) := by decide +kernel
theorem d_Row_addNumber_65 : decode b_Row_addNumber 65 = .ok (.iload 4, 2) := by decide +kernel
theorem d_Row_addNumber_67 : decode b_Row_addNumber 67 = .ok (.idiv, 1) := by decide +kernel
theorem d_Row_addNumber_68 : decode b_Row_addNumber 68 = .ok (.bipush 10, 2) := by decide +kernel
theorem d_Row_addNumber_70 : decode b_Row_addNumber 70 = .ok (.irem, 1) := by decide +kernel
theorem d_Row_addNumber_71 : decode b_Row_addNumber 71 = .ok (.iadd, 1) := by decide +kernel
theorem d_Row_addNumber_72 : decode b_Row_addNumber 72 = .ok (.invokevirtual 27, 3) := by decide +kernel
theorem d_Row_addNumber_75 : decode b_Row_addNumber 75 = .ok (.iload 4, 2) := by decide +kernel
theorem d_Row_addNumber_77 : decode b_Row_addNumber 77 = .ok (.bipush 10, 2) := by decide +kernel
theorem d_Row_addNumber_79 : decode b_Row_addNumber 79 = .ok (.idiv, 1) := by decide +kernel
theorem d_Row_addNumber_80 : decode b_Row_addNumber 80 = .ok (.istore 4, 2) := by decide +kernel
theorem d_Row_addNumber_82 : decode b_Row_addNumber 82 = .ok (.goto (-26), 3) := by decide +kernel
theorem d_Row_addNumber_85 : decode b_Row_addNumber 85 = .ok (.return_, 1) := by decide +kernel
theorem m_12 : Cond.methodLink R_Row 45 Lib.Math.abs.name ∈ gw := gm (i := 769) (by decide +kernel) (by decide +kernel)
theorem m_13 : Cond.static Lib.Math.abs.name ∈ gw := gm (i := 770) (by decide +kernel) (by decide +kernel)
theorem m_14 : Cond.initialized "java/lang/Math" ∈ gw := gm (i := 84) (by decide +kernel) (by decide +kernel)
set_option maxRecDepth 100000 in
theorem m_15 : Cond.code Lib.Math.abs.name Lib.Math.abs.code 1 (some .int) ∈ gw := gm (i := 771) rfl rfl
def b_Row_addNumber_56 (nt_cells : Nat) (x3 : Int32) (rec_56 : (Int32 × Int32 × Int32 × (Nat → Int32)) → Option (Int32 × Int32 × (Nat → Int32))) (z56 : Int32 × Int32 × Int32 × (Nat → Int32)) : Option (Int32 × Int32 × (Nat → Int32)) :=
  (if z56.1 ≤ 0 then some (z56.2.1, z56.2.2.1, z56.2.2.2) else (if z56.1 = 0 then none else ((f_Row_add nt_cells z56.2.2.2 z56.2.1 z56.2.2.1 ((48 : Int32) + ((x3 / z56.1) - (x3 / z56.1) / (10 : Int32) * (10 : Int32)))).bind fun u_72 => rec_56 ((z56.1 / (10 : Int32)), u_72.1, u_72.2.1, u_72.2.2))))
def k_Row_addNumber_43 (rec_21 : (Int32 × Int32) → Option (Int32 × Int32 × (Nat → Int32))) (x4 : Int32) (x5 : Int32) : Option (Int32 × Int32 × (Nat → Int32)) :=
  rec_21 ((x4 * (10 : Int32)), (x5 + 1))
def b_Row_addNumber_21 (K : Nat) (nt_cells : Nat) (a2 : Int32) (x3 : Int32) (t_used : Int32) (t_burst : Int32) (t_cells : (Nat → Int32)) (rec_21 : (Int32 × Int32) → Option (Int32 × Int32 × (Nat → Int32))) (z21 : Int32 × Int32) : Option (Int32 × Int32 × (Nat → Int32)) :=
  (if (9 : Int32) ≤ z21.2 then lp_ (b_Row_addNumber_56 nt_cells x3) K (z21.1, t_used, t_burst, t_cells) else (if z21.2 < a2 then k_Row_addNumber_43 rec_21 z21.1 z21.2 else (if (x3 / (10 : Int32)) < z21.1 then lp_ (b_Row_addNumber_56 nt_cells x3) K (z21.1, t_used, t_burst, t_cells) else k_Row_addNumber_43 rec_21 z21.1 z21.2)))
def k_Row_addNumber_10 (K : Nat) (nt_cells : Nat) (a1 : Int32) (a2 : Int32) (t_used : Int32) (t_burst : Int32) (t_cells : (Nat → Int32)) : Option (Int32 × Int32 × (Nat → Int32)) :=
  lp_ (b_Row_addNumber_21 K nt_cells a2 (if 0 ≤ a1 then a1 else 0 - a1) t_used t_burst t_cells) K ((1 : Int32), (1 : Int32))
def f_Row_addNumber (K : Nat) (nt_cells : Nat) (t_cells : Nat → Int32) (t_used : Int32) (t_burst : Int32) (a1 : Int32) (a2 : Int32) : Option (Int32 × Int32 × (Nat → Int32)) :=
  (if 0 ≤ a1 then k_Row_addNumber_10 K nt_cells a1 a2 t_used t_burst t_cells else ((f_Row_add nt_cells t_cells t_used t_burst (45 : Int32)).bind fun u_7 => k_Row_addNumber_10 K nt_cells a1 a2 u_7.1 u_7.2.1 u_7.2.2))
set_option maxHeartbeats 4000000 in
set_option maxRecDepth 100000 in
theorem c_Row_addNumber (l : Launch) (G : Gt) (K : Nat) (qt : Nat) (qt_cells : Nat) (nt_cells : Nat) (t_cells : Nat → Int32) (t_used : Int32) (t_burst : Int32) (a1 : Int32) (a2 : Int32) (sz : Nat) (res : Int32 × Int32 × (Nat → Int32))   (hf : f_Row_addNumber K nt_cells t_cells t_used t_burst a1 a2 = some res) : Met l y_Row_addNumber (.code y_Row_addNumber b_Row_addNumber 6 none :: gw) { frames := 1, cells := 0, slots := 0, locals := 40 } (PC G ([.ref qt, .int a1, .int a2] : List Value) sz (w_Row_empty G qt qt_cells nt_cells t_cells t_used t_burst)) (QV G (va_A (w_Row_empty G qt qt_cells nt_cells t_cells t_used t_burst) sz) (w_Row_empty G qt qt_cells nt_cells res.2.2 res.1 res.2.1)) 0 0 (va_A (w_Row_empty G qt qt_cells nt_cells t_cells t_used t_burst) sz) := by
  refine Met.ofW (cc := b_Row_addNumber) (maxL := 6) (ret := none) (by decide) rfl ?_
  intro p e s m args below meth c s₁ B hml hv
  obtain ⟨rfl, hsz, hP, hE, hD0⟩ := hv
  have hx := B.exec
  have hb := B.bytes
  have hr := B.returns
  have hts := atoms_spec (ws := (.code y_Row_addNumber b_Row_addNumber 6 none :: gw)) B.pre
  have hg : ∀ w ∈ gw, w.before _ s = true := fun w h => hts w (List.mem_cons_of_mem _ h)
  have hown : s.vm.findClass R_Row = some m.cls := findClass_of_methodNamed B.named
  have hlocks := B.notSynchronized
  subst hsz
  have hK := hE.K
  have hD := hD0.self (sz := s.heap.size)
  have hAb := hE.ab hD0
  obtain ⟨Q, hQ⟩ : ∃ Q, MQ below (QV G (va_A (w_Row_empty G qt qt_cells nt_cells t_cells t_used t_burst) s.heap.size) (w_Row_empty G qt qt_cells nt_cells res.2.2 res.1 res.2.1)) ([.ref qt, .int a1, .int a2] : List Value).toArray s 0 0 (va_A (w_Row_empty G qt qt_cells nt_cells t_cells t_used t_burst) s.heap.size) = Q := ⟨_, rfl⟩
  show W p l e { frames := 1, cells := 0, slots := 0, locals := 40 } s m ([.ref qt, .int a1, .int a2] : List Value).toArray below meth c s.heap [] 0 0 (MQ below (QV G (va_A (w_Row_empty G qt qt_cells nt_cells t_cells t_used t_burst) s.heap.size) (w_Row_empty G qt qt_cells nt_cells res.2.2 res.1 res.2.1)) ([.ref qt, .int a1, .int a2] : List Value).toArray s 0 0 (va_A (w_Row_empty G qt qt_cells nt_cells t_cells t_used t_burst) s.heap.size)) _
  rw [hQ]
  have hA : ∀ q : Nat, s.heap.size ≤ q → va_A (w_Row_empty G qt qt_cells nt_cells t_cells t_used t_burst) s.heap.size q := fun q h => Or.inr h
  obtain ⟨A, hAe⟩ : ∃ A, va_A (w_Row_empty G qt qt_cells nt_cells t_cells t_used t_burst) s.heap.size = A := ⟨_, rfl⟩
  rw [hAe] at hA hD hAb hQ
  have hS : va_S A s.heap s.heap [] := va_S.rf
  have hl := lv_entry (([.ref qt, .int a1, .int a2] : List Value)) (n := 6) (Nat.le_of_ble_eq_true rfl)
  rw [lg_entry_eq]
  generalize (lg_sl (([.ref qt, .int a1, .int a2] : List Value)) ++ List.replicate (6 - (lg_sl (([.ref qt, .int a1, .int a2] : List Value))).length) Slot.unset).toArray = ls at hl ⊢
  have hl : lv_has ls 6 [(0, .ref qt), (1, .int a1), (2, .int a2)] := hl
  have W_56 : ∀ (x3 : Int32)  (n_56 : Nat) (z56 : Int32 × Int32 × Int32 × (Nat → Int32)) , lp_ (b_Row_addNumber_56 nt_cells x3) n_56 z56 = some res → ∀ (H : Heap) (locs : List Loc) (ls : Array Slot), va_P (gD G) vwCl (w_Row_empty G qt qt_cells nt_cells z56.2.2.2 z56.2.1 z56.2.2.1) H → va_D A (w_Row_empty G qt qt_cells nt_cells z56.2.2.2 z56.2.1 z56.2.2.1) → va_S A s.heap H locs → lv_has ls 6 [(0, .ref qt), (3, .int x3), (4, .int z56.1)] → W p l e { frames := 1, cells := 0, slots := 0, locals := 40 } s m ([.ref qt, .int a1, .int a2] : List Value).toArray below meth c H locs 0 0 Q (F0 m 56 ls []) := by
    intro x3 n_56
    induction n_56 with
    | zero =>
      intro z56  hf
      cases hf
    | succ n_56 ih_56 =>
      intro z56  hf H locs ls hP hD hS hl
      have hf : b_Row_addNumber_56 nt_cells x3 (lp_ (b_Row_addNumber_56 nt_cells x3) n_56) z56 = some res := hf
      generalize lp_ (b_Row_addNumber_56 nt_cells x3) n_56 = rec_56 at hf ih_56
      unfold b_Row_addNumber_56 at hf
      refine lv_iload hx hb d_Row_addNumber_56 (lv_at hl 2 rfl) ?_
      refine lv_if_le (tgt := 85) hx hb d_Row_addNumber_58 (by decide) (fun c_58 => ?_) (fun c_58 => ?_)
      · have hf := ip_ c_58 hf
        obtain rfl := Option.some.inj hf
        rw [← hQ]
        exact W.vret hx hb hr (fun t ht hW => ⟨⟨(), rfl, trivial, ⟨by rw [ht]; exact hP, hD⟩⟩, hS.F ht⟩) hS.2.2 d_Row_addNumber_85
      · have hf := in_ c_58 hf
        refine lv_aload_n hx hb d_Row_addNumber_61 rfl (lv_at hl 0 rfl) ?_
        refine lv_bipush (v := 48) hx hb d_Row_addNumber_62 (by decide) ?_
        refine lv_iload_n hx hb d_Row_addNumber_64 rfl (lv_at hl 1 rfl) ?_
        refine lv_iload hx hb d_Row_addNumber_65 (lv_at hl 2 rfl) ?_
        obtain ⟨g_67, hf⟩ := gn_ hf
        refine lv_idiv hx hb d_Row_addNumber_67 g_67 ?_
        refine lv_bipush (v := 10) hx hb d_Row_addNumber_68 (by decide) ?_
        refine lv_irem hx hb d_Row_addNumber_70 (by decide) ?_
        refine lv_iadd hx hb d_Row_addNumber_71 ?_
        obtain ⟨u_72, hu_72, hf⟩ := bd_ hf
        refine CALLWv (va_runV (As := [.int ((48 : Int32) + ((x3 / z56.1) - (x3 / z56.1) / (10 : Int32) * (10 : Int32)))]) (rest := []) ⟨hx, hb, hml, hown, hg⟩ (c_Row_add l G K qt qt_cells nt_cells z56.2.2.2 z56.2.1 z56.2.2.1 ((48 : Int32) + ((x3 / z56.1) - (x3 / z56.1) / (10 : Int32) * (10 : Int32))) _ u_72  hu_72) (cwV 1 hg (gV m_3 m_4 m_5 m_6 m_7) rfl rfl rfl (by decide +kernel) ⟨Nat.le_of_ble_eq_true rfl, Nat.le_of_ble_eq_true rfl⟩) ⟨PC_b, va_recv hK hP (ci := 4) (q0 := 0) rfl rfl, PC_p hE hS hAb hP hD⟩ rfl rfl hl.1 rfl (lv_room (Nat.le_of_ble_eq_true rfl)) d_Row_addNumber_72 ⟨Nat.zero_le _, Nat.zero_le _⟩) hP hD hS hA (fun H locs hP hD hS => ?_)
        have hP : va_P (gD G) vwCl (w_Row_empty G qt qt_cells nt_cells u_72.2.2 u_72.1 u_72.2.1) H := hP
        have hD : va_D A (w_Row_empty G qt qt_cells nt_cells u_72.2.2 u_72.1 u_72.2.1) := hD
        refine lv_iload hx hb d_Row_addNumber_75 (lv_at hl 2 rfl) ?_
        refine lv_bipush (v := 10) hx hb d_Row_addNumber_77 (by decide) ?_
        refine lv_idiv hx hb d_Row_addNumber_79 (by decide) ?_
        refine lv_istore (lv' := [(4, .int (z56.1 / (10 : Int32))), (0, .ref qt), (3, .int x3)]) hx hb d_Row_addNumber_80 hl (by decide) rfl (fun ls hl => ?_)
        refine lv_goto (tgt := 56) hx hb d_Row_addNumber_82 (by decide) ?_
        exact ih_56 ((z56.1 / (10 : Int32)), u_72.1, u_72.2.1, u_72.2.2)  hf _ _ _ hP hD hS (lv_sub hl [1, 2, 0] rfl)
  have W_21 : ∀ (x3 : Int32) (t_used : Int32) (t_burst : Int32) (t_cells : (Nat → Int32))  (n_21 : Nat) (z21 : Int32 × Int32) , lp_ (b_Row_addNumber_21 K nt_cells a2 x3 t_used t_burst t_cells) n_21 z21 = some res → ∀ (H : Heap) (locs : List Loc) (ls : Array Slot), va_P (gD G) vwCl (w_Row_empty G qt qt_cells nt_cells t_cells t_used t_burst) H → va_D A (w_Row_empty G qt qt_cells nt_cells t_cells t_used t_burst) → va_S A s.heap H locs → lv_has ls 6 [(0, .ref qt), (2, .int a2), (3, .int x3), (4, .int z21.1), (5, .int z21.2)] → W p l e { frames := 1, cells := 0, slots := 0, locals := 40 } s m ([.ref qt, .int a1, .int a2] : List Value).toArray below meth c H locs 0 0 Q (F0 m 21 ls []) := by
    intro x3 t_used t_burst t_cells n_21
    induction n_21 with
    | zero =>
      intro z21  hf
      cases hf
    | succ n_21 ih_21 =>
      intro z21  hf H locs ls hP hD hS hl
      have hf : b_Row_addNumber_21 K nt_cells a2 x3 t_used t_burst t_cells (lp_ (b_Row_addNumber_21 K nt_cells a2 x3 t_used t_burst t_cells) n_21) z21 = some res := hf
      generalize lp_ (b_Row_addNumber_21 K nt_cells a2 x3 t_used t_burst t_cells) n_21 = rec_21 at hf ih_21
      have W_43 : ∀ (x4 : Int32) (x5 : Int32) , k_Row_addNumber_43 rec_21 x4 x5 = some res → ∀ (H : Heap) (locs : List Loc) (ls : Array Slot), va_P (gD G) vwCl (w_Row_empty G qt qt_cells nt_cells t_cells t_used t_burst) H → va_D A (w_Row_empty G qt qt_cells nt_cells t_cells t_used t_burst) → va_S A s.heap H locs → lv_has ls 6 [(0, .ref qt), (2, .int a2), (3, .int x3), (4, .int x4), (5, .int x5)] → W p l e { frames := 1, cells := 0, slots := 0, locals := 40 } s m ([.ref qt, .int a1, .int a2] : List Value).toArray below meth c H locs 0 0 Q (F0 m 43 ls []) := by
        intro x4 x5  hf H locs ls hP hD hS hl
        unfold k_Row_addNumber_43 at hf
        refine lv_iload hx hb d_Row_addNumber_43 (lv_at hl 3 rfl) ?_
        refine lv_bipush (v := 10) hx hb d_Row_addNumber_45 (by decide) ?_
        refine lv_imul hx hb d_Row_addNumber_47 ?_
        refine lv_istore (lv' := [(4, .int (x4 * (10 : Int32))), (0, .ref qt), (2, .int a2), (3, .int x3), (5, .int x5)]) hx hb d_Row_addNumber_48 hl (by decide) rfl (fun ls hl => ?_)
        refine lv_iinc (v := (x5 + 1)) (lv' := [(5, .int (x5 + 1)), (4, .int (x4 * (10 : Int32))), (0, .ref qt), (2, .int a2), (3, .int x3)]) hx hb d_Row_addNumber_50 hl (k := 4) rfl rfl (by decide) rfl (fun ls hl => ?_)
        refine lv_goto (tgt := 21) hx hb d_Row_addNumber_53 (by decide) ?_
        exact ih_21 ((x4 * (10 : Int32)), (x5 + 1))  hf _ _ _ hP hD hS (lv_sub hl [2, 3, 4, 1, 0] rfl)
      unfold b_Row_addNumber_21 at hf
      refine lv_iload hx hb d_Row_addNumber_21 (lv_at hl 4 rfl) ?_
      refine lv_bipush (v := 9) hx hb d_Row_addNumber_23 (by decide) ?_
      refine lv_icmp_ge (tgt := 56) hx hb d_Row_addNumber_25 (by decide) (fun c_25 => ?_) (fun c_25 => ?_)
      · have hf := ip_ c_25 hf
        exact W_56 x3  K (z21.1, t_used, t_burst, t_cells)  hf _ _ _ hP hD hS (lv_sub hl [0, 2, 3] rfl)
      · have hf := in_ c_25 hf
        refine lv_iload hx hb d_Row_addNumber_28 (lv_at hl 4 rfl) ?_
        refine lv_iload_n hx hb d_Row_addNumber_30 rfl (lv_at hl 1 rfl) ?_
        refine lv_icmp_lt (tgt := 43) hx hb d_Row_addNumber_31 (by decide) (fun c_31 => ?_) (fun c_31 => ?_)
        · have hf := ip_ c_31 hf
          exact W_43 z21.1 z21.2  hf _ _ _ hP hD hS (lv_sub hl [0, 1, 2, 3, 4] rfl)
        · have hf := in_ c_31 hf
          refine lv_iload_n hx hb d_Row_addNumber_34 rfl (lv_at hl 2 rfl) ?_
          refine lv_bipush (v := 10) hx hb d_Row_addNumber_35 (by decide) ?_
          refine lv_idiv hx hb d_Row_addNumber_37 (by decide) ?_
          refine lv_iload hx hb d_Row_addNumber_38 (lv_at hl 3 rfl) ?_
          refine lv_icmp_lt (tgt := 56) hx hb d_Row_addNumber_40 (by decide) (fun c_40 => ?_) (fun c_40 => ?_)
          · have hf := ip_ c_40 hf
            exact W_56 x3  K (z21.1, t_used, t_burst, t_cells)  hf _ _ _ hP hD hS (lv_sub hl [0, 2, 3] rfl)
          · have hf := in_ c_40 hf
            exact W_43 z21.1 z21.2  hf _ _ _ hP hD hS (lv_sub hl [0, 1, 2, 3, 4] rfl)
  have W_10 : ∀ (t_used : Int32) (t_burst : Int32) (t_cells : (Nat → Int32)) , k_Row_addNumber_10 K nt_cells a1 a2 t_used t_burst t_cells = some res → ∀ (H : Heap) (locs : List Loc) (ls : Array Slot), va_P (gD G) vwCl (w_Row_empty G qt qt_cells nt_cells t_cells t_used t_burst) H → va_D A (w_Row_empty G qt qt_cells nt_cells t_cells t_used t_burst) → va_S A s.heap H locs → lv_has ls 6 [(0, .ref qt), (1, .int a1), (2, .int a2)] → W p l e { frames := 1, cells := 0, slots := 0, locals := 40 } s m ([.ref qt, .int a1, .int a2] : List Value).toArray below meth c H locs 0 0 Q (F0 m 10 ls []) := by
    intro t_used t_burst t_cells  hf H locs ls hP hD hS hl
    unfold k_Row_addNumber_10 at hf
    refine lv_iload_n hx hb d_Row_addNumber_10 rfl (lv_at hl 1 rfl) ?_
    refine va_mabs hx hb (hml.trans hl.1.symm) hown (hg _ m_12) (hg _ m_13) (hg _ m_14) (hg _ m_15) (Nat.le_of_ble_eq_true rfl) (Nat.le_of_ble_eq_true rfl) (Nat.zero_le _) (Nat.zero_le _) d_Row_addNumber_11 ?_
    refine lv_istore_n (lv' := [(3, .int (if 0 ≤ a1 then a1 else 0 - a1)), (0, .ref qt), (1, .int a1), (2, .int a2)]) hx hb d_Row_addNumber_14 rfl hl (by decide) rfl (fun ls hl => ?_)
    refine lv_iconst (v := 1) hx hb d_Row_addNumber_15 (by decide) ?_
    refine lv_istore (lv' := [(4, .int (1 : Int32)), (3, .int (if 0 ≤ a1 then a1 else 0 - a1)), (0, .ref qt), (1, .int a1), (2, .int a2)]) hx hb d_Row_addNumber_16 hl (by decide) rfl (fun ls hl => ?_)
    refine lv_iconst (v := 1) hx hb d_Row_addNumber_18 (by decide) ?_
    refine lv_istore (lv' := [(5, .int (1 : Int32)), (4, .int (1 : Int32)), (3, .int (if 0 ≤ a1 then a1 else 0 - a1)), (0, .ref qt), (1, .int a1), (2, .int a2)]) hx hb d_Row_addNumber_19 hl (by decide) rfl (fun ls hl => ?_)
    exact W_21 (if 0 ≤ a1 then a1 else 0 - a1) t_used t_burst t_cells  K ((1 : Int32), (1 : Int32))  hf _ _ _ hP hD hS (lv_sub hl [3, 5, 2, 1, 0] rfl)
  unfold f_Row_addNumber at hf
  refine lv_iload_n hx hb d_Row_addNumber_0 rfl (lv_at hl 1 rfl) ?_
  refine lv_if_ge (tgt := 10) hx hb d_Row_addNumber_1 (by decide) (fun c_1 => ?_) (fun c_1 => ?_)
  · have hf := ip_ c_1 hf
    exact W_10 t_used t_burst t_cells  hf _ _ _ hP hD hS (lv_sub hl [0, 1, 2] rfl)
  · have hf := in_ c_1 hf
    refine lv_aload_n hx hb d_Row_addNumber_4 rfl (lv_at hl 0 rfl) ?_
    refine lv_bipush (v := 45) hx hb d_Row_addNumber_5 (by decide) ?_
    obtain ⟨u_7, hu_7, hf⟩ := bd_ hf
    refine CALLWv (va_runV (As := [.int (45 : Int32)]) (rest := []) ⟨hx, hb, hml, hown, hg⟩ (c_Row_add l G K qt qt_cells nt_cells t_cells t_used t_burst (45 : Int32) _ u_7  hu_7) (cwV 1 hg (gV m_3 m_4 m_5 m_6 m_7) rfl rfl rfl (by decide +kernel) ⟨Nat.le_of_ble_eq_true rfl, Nat.le_of_ble_eq_true rfl⟩) ⟨PC_b, va_recv hK hP (ci := 4) (q0 := 0) rfl rfl, PC_p hE hS hAb hP hD⟩ rfl rfl hl.1 rfl (lv_room (Nat.le_of_ble_eq_true rfl)) d_Row_addNumber_7 ⟨Nat.zero_le _, Nat.zero_le _⟩) hP hD hS hA (fun H locs hP hD hS => ?_)
    have hP : va_P (gD G) vwCl (w_Row_empty G qt qt_cells nt_cells u_7.2.2 u_7.1 u_7.2.1) H := hP
    have hD : va_D A (w_Row_empty G qt qt_cells nt_cells u_7.2.2 u_7.1 u_7.2.1) := hD
    exact W_10 u_7.1 u_7.2.1 u_7.2.2  hf _ _ _ hP hD hS (lv_sub hl [0, 1, 2] rfl)
theorem d_Row_cutTo_0 : decode b_Row_cutTo 0 = .ok (.iload_n 1, 1) := by decide +kernel
theorem d_Row_cutTo_1 : decode b_Row_cutTo 1 = .ok (.ifCond .lt 16, 3) := by decide +kernel
theorem d_Row_cutTo_4 : decode b_Row_cutTo 4 = .ok (.iload_n 1, 1) := by decide +kernel
theorem d_Row_cutTo_5 : decode b_Row_cutTo 5 = .ok (.aload_n 0, 1) := by decide +kernel
theorem d_Row_cutTo_6 : decode b_Row_cutTo 6 = .ok (.getfield 19, 3) := by decide +kernel
theorem d_Row_cutTo_9 : decode b_Row_cutTo 9 = .ok (.if_icmp .ge 8, 3) := by decide +kernel
theorem d_Row_cutTo_12 : decode b_Row_cutTo 12 = .ok (.aload_n 0, 1) := by decide +kernel
theorem d_Row_cutTo_13 : decode b_Row_cutTo 13 = .ok (.iload_n 1, 1) := by decide +kernel
theorem d_Row_cutTo_14 : decode b_Row_cutTo 14 = .ok (.putfield 19, 3) := by decide +kernel
theorem d_Row_cutTo_17 : decode b_Row_cutTo 17 = .ok (.return_, 1) := by decide +kernel
def f_Row_cutTo (t_used : Int32) (a1 : Int32) : Option Int32 :=
  (if a1 < 0 then some t_used else (if t_used ≤ a1 then some t_used else some a1))
set_option maxHeartbeats 4000000 in
set_option maxRecDepth 100000 in
theorem c_Row_cutTo (l : Launch) (G : Gt) (K : Nat) (qt : Nat) (qt_cells : Nat) (nt_cells : Nat) (t_cells : Nat → Int32) (t_used : Int32) (t_burst : Int32) (a1 : Int32) (sz : Nat) (res : Int32)   (hf : f_Row_cutTo t_used a1 = some res) : Met l y_Row_cutTo (.code y_Row_cutTo b_Row_cutTo 2 none :: gw) { frames := 0, cells := 0, slots := 0, locals := 0 } (PC G ([.ref qt, .int a1] : List Value) sz (w_Row_empty G qt qt_cells nt_cells t_cells t_used t_burst)) (QV G (va_A (w_Row_empty G qt qt_cells nt_cells t_cells t_used t_burst) sz) (w_Row_empty G qt qt_cells nt_cells t_cells res t_burst)) 0 0 (va_A (w_Row_empty G qt qt_cells nt_cells t_cells t_used t_burst) sz) := by
  refine Met.ofW (cc := b_Row_cutTo) (maxL := 2) (ret := none) (by decide) rfl ?_
  intro p e s m args below meth c s₁ B hml hv
  obtain ⟨rfl, hsz, hP, hE, hD0⟩ := hv
  have hx := B.exec
  have hb := B.bytes
  have hr := B.returns
  have hts := atoms_spec (ws := (.code y_Row_cutTo b_Row_cutTo 2 none :: gw)) B.pre
  have hg : ∀ w ∈ gw, w.before _ s = true := fun w h => hts w (List.mem_cons_of_mem _ h)
  have hown : s.vm.findClass R_Row = some m.cls := findClass_of_methodNamed B.named
  have hlocks := B.notSynchronized
  subst hsz
  have hK := hE.K
  have hD := hD0.self (sz := s.heap.size)
  have hAb := hE.ab hD0
  obtain ⟨Q, hQ⟩ : ∃ Q, MQ below (QV G (va_A (w_Row_empty G qt qt_cells nt_cells t_cells t_used t_burst) s.heap.size) (w_Row_empty G qt qt_cells nt_cells t_cells res t_burst)) ([.ref qt, .int a1] : List Value).toArray s 0 0 (va_A (w_Row_empty G qt qt_cells nt_cells t_cells t_used t_burst) s.heap.size) = Q := ⟨_, rfl⟩
  show W p l e { frames := 0, cells := 0, slots := 0, locals := 0 } s m ([.ref qt, .int a1] : List Value).toArray below meth c s.heap [] 0 0 (MQ below (QV G (va_A (w_Row_empty G qt qt_cells nt_cells t_cells t_used t_burst) s.heap.size) (w_Row_empty G qt qt_cells nt_cells t_cells res t_burst)) ([.ref qt, .int a1] : List Value).toArray s 0 0 (va_A (w_Row_empty G qt qt_cells nt_cells t_cells t_used t_burst) s.heap.size)) _
  rw [hQ]
  have hA : ∀ q : Nat, s.heap.size ≤ q → va_A (w_Row_empty G qt qt_cells nt_cells t_cells t_used t_burst) s.heap.size q := fun q h => Or.inr h
  obtain ⟨A, hAe⟩ : ∃ A, va_A (w_Row_empty G qt qt_cells nt_cells t_cells t_used t_burst) s.heap.size = A := ⟨_, rfl⟩
  rw [hAe] at hA hD hAb hQ
  have hS : va_S A s.heap s.heap [] := va_S.rf
  have hl := lv_entry (([.ref qt, .int a1] : List Value)) (n := 2) (Nat.le_of_ble_eq_true rfl)
  rw [lg_entry_eq]
  generalize (lg_sl (([.ref qt, .int a1] : List Value)) ++ List.replicate (2 - (lg_sl (([.ref qt, .int a1] : List Value))).length) Slot.unset).toArray = ls at hl ⊢
  have hl : lv_has ls 2 [(0, .ref qt), (1, .int a1)] := hl
  unfold f_Row_cutTo at hf
  refine lv_iload_n hx hb d_Row_cutTo_0 rfl (lv_at hl 1 rfl) ?_
  refine lv_if_lt (tgt := 17) hx hb d_Row_cutTo_1 (by decide) (fun c_1 => ?_) (fun c_1 => ?_)
  · have hf := ip_ c_1 hf
    obtain rfl := Option.some.inj hf
    rw [← hQ]
    exact W.vret hx hb hr (fun t ht hW => ⟨⟨(), rfl, trivial, ⟨by rw [ht]; exact hP, hD⟩⟩, hS.F ht⟩) hS.2.2 d_Row_cutTo_17
  · have hf := in_ c_1 hf
    refine lv_iload_n hx hb d_Row_cutTo_4 rfl (lv_at hl 1 rfl) ?_
    refine lv_aload_n hx hb d_Row_cutTo_5 rfl (lv_at hl 0 rfl) ?_
    refine va_get (D := gD G) (ci := 4) (v := .int t_used) (C := R_Row) (T := F_Row) (N := 3) hx hb hg in_Row hown hK hP 0 rfl rfl 1 (by decide) (hg _ m_0) (fun _ h9 => h9) rfl d_Row_cutTo_6 ?_
    refine lv_icmp_ge (tgt := 17) hx hb d_Row_cutTo_9 (by decide) (fun c_9 => ?_) (fun c_9 => ?_)
    · have hf := ip_ c_9 hf
      obtain rfl := Option.some.inj hf
      rw [← hQ]
      exact W.vret hx hb hr (fun t ht hW => ⟨⟨(), rfl, trivial, ⟨by rw [ht]; exact hP, hD⟩⟩, hS.F ht⟩) hS.2.2 d_Row_cutTo_17
    · have hf := in_ c_9 hf
      refine lv_aload_n hx hb d_Row_cutTo_12 rfl (lv_at hl 0 rfl) ?_
      refine lv_iload_n hx hb d_Row_cutTo_13 rfl (lv_at hl 1 rfl) ?_
      refine va_put (D := gD G) (ci := 4) (v := .int a1) (ty := .int) (C := R_Row) (T := F_Row) (N := 3) hx hb hg in_Row t_Row to_Row no_Row hown hK hP hD hS 0 rfl rfl 1 (by decide) (hg _ m_0) (fun _ h9 => h9) rfl (by decide +kernel) rfl rfl (Nat.le_of_ble_eq_true rfl) d_Row_cutTo_14 (fun H locs hP hD hS => ?_)
      have hP : va_P (gD G) vwCl (w_Row_empty G qt qt_cells nt_cells t_cells a1 t_burst) H := hP
      have hD : va_D A (w_Row_empty G qt qt_cells nt_cells t_cells a1 t_burst) := hD
      obtain rfl := Option.some.inj hf
      rw [← hQ]
      exact W.vret hx hb hr (fun t ht hW => ⟨⟨(), rfl, trivial, ⟨by rw [ht]; exact hP, hD⟩⟩, hS.F ht⟩) hS.2.2 d_Row_cutTo_17
theorem d_Row_raiseFrom_0 : decode b_Row_raiseFrom 0 = .ok (.iconst 0, 1) := by decide +kernel
theorem d_Row_raiseFrom_1 : decode b_Row_raiseFrom 1 = .ok (.iload_n 1, 1) := by decide +kernel
theorem d_Row_raiseFrom_2 : decode b_Row_raiseFrom 2 = .ok (.invokestatic 7, 3) := by decide +kernel
theorem d_Row_raiseFrom_5 : decode b_Row_raiseFrom 5 = .ok (.istore_n 2, 1) := by decide +kernel
theorem d_Row_raiseFrom_6 : decode b_Row_raiseFrom 6 = .ok (.iload_n 2, 1) := by decide +kernel
theorem d_Row_raiseFrom_7 : decode b_Row_raiseFrom 7 = .ok (.aload_n 0, 1) := by decide +kernel
theorem d_Row_raiseFrom_8 : decode b_Row_raiseFrom 8 = .ok (.getfield 19, 3) := by decide +kernel
theorem d_Row_raiseFrom_11 : decode b_Row_raiseFrom 11 = .ok (.if_icmp .ge 52, 3) := by decide +kernel
theorem d_Row_raiseFrom_14 : decode b_Row_raiseFrom 14 = .ok (.iload_n 2, 1) := by decide +kernel
theorem d_Row_raiseFrom_15 : decode b_Row_raiseFrom 15 = .ok (.aload_n 0, 1) := by decide +kernel
theorem d_Row_raiseFrom_16 : decode b_Row_raiseFrom 16 = .ok (.getfield 13, 3) := by decide +kernel
theorem d_Row_raiseFrom_19 : decode b_Row_raiseFrom 19 = .ok (.arraylength, 1) := by decide +kernel
theorem d_Row_raiseFrom_20 : decode b_Row_raiseFrom 20 = .ok (.if_icmp .ge 43, 3) := by decide +kernel
theorem d_Row_raiseFrom_23 : decode b_Row_raiseFrom 23 = .ok (.aload_n 0, 1) := by decide +kernel
theorem d_Row_raiseFrom_24 : decode b_Row_raiseFrom 24 = .ok (.getfield 13, 3) := by decide +kernel
theorem d_Row_raiseFrom_27 : decode b_Row_raiseFrom 27 = .ok (.iload_n 2, 1) := by decide +kernel
theorem d_Row_raiseFrom_28 : decode b_Row_raiseFrom 28 = .ok (.baload, 1) := by decide +kernel
theorem d_Row_raiseFrom_29 : decode b_Row_raiseFrom 29 = .ok (.bipush 97, 2) := by decide +kernel
theorem d_Row_raiseFrom_31 : decode b_Row_raiseFrom 31 = .ok (.if_icmp .lt 26, 3) := by decide +kernel
theorem d_Row_raiseFrom_34 : decode b_Row_raiseFrom 34 = .ok (.aload_n 0, 1) := by decide +kernel
theorem d_Row_raiseFrom_35 : decode b_Row_raiseFrom 35 = .ok (.getfield 13, 3) := by decide +kernel
theorem d_Row_raiseFrom_38 : decode b_Row_raiseFrom 38 = .ok (.iload_n 2, 1) := by decide +kernel
theorem d_Row_raiseFrom_39 : decode b_Row_raiseFrom 39 = .ok (.baload, 1) := by decide +kernel
theorem d_Row_raiseFrom_40 : decode b_Row_raiseFrom 40 = .ok (.bipush 122, 2) := by decide +kernel
theorem d_Row_raiseFrom_42 : decode b_Row_raiseFrom 42 = .ok (.if_icmp .gt 15, 3) := by decide +kernel
theorem d_Row_raiseFrom_45 : decode b_Row_raiseFrom 45 = .ok (.aload_n 0, 1) := by decide +kernel
theorem d_Row_raiseFrom_46 : decode b_Row_raiseFrom 46 = .ok (.getfield 13, 3) := by decide +kernel
theorem d_Row_raiseFrom_49 : decode b_Row_raiseFrom 49 = .ok (.iload_n 2, 1) := by decide +kernel
theorem d_Row_raiseFrom_50 : decode b_Row_raiseFrom 50 = .ok (.dup2, 1) := by decide +kernel
theorem d_Row_raiseFrom_51 : decode b_Row_raiseFrom 51 = .ok (.baload, 1) := by decide +kernel
theorem d_Row_raiseFrom_52 : decode b_Row_raiseFrom 52 = .ok (.bipush 32, 2) := by decide +kernel
theorem d_Row_raiseFrom_54 : decode b_Row_raiseFrom 54 = .ok (.isub, 1) := by decide +kernel
theorem d_Row_raiseFrom_55 : decode b_Row_raiseFrom 55 = .ok (.i2b, 1) := by decide +kernel
theorem d_Row_raiseFrom_56 : decode b_Row_raiseFrom 56 = .ok (.bastore, 1) := by decide +kernel
theorem d_Row_raiseFrom_57 : decode b_Row_raiseFrom 57 = .ok (.iinc 2 1, 3) := by decide +kernel
theorem d_Row_raiseFrom_60 : decode b_Row_raiseFrom 60 = .ok (.goto (-54), 3) := by decide +kernel
theorem d_Row_raiseFrom_63 : decode b_Row_raiseFrom 63 = .ok (.return_, 1) := by decide +kernel
theorem m_16 : Cond.methodLink R_Row 7 Lib.Math.max.name ∈ gw := gm (i := 114) (by decide +kernel) (by decide +kernel)
theorem m_17 : Cond.static Lib.Math.max.name ∈ gw := gm (i := 115) (by decide +kernel) (by decide +kernel)
set_option maxRecDepth 100000 in
theorem m_18 : Cond.code Lib.Math.max.name Lib.Math.max.code 2 (some .int) ∈ gw := gm (i := 116) rfl rfl
def k_Row_raiseFrom_57 (rec_6 : (Int32 × (Nat → Int32)) → Option (Nat → Int32)) (x2 : Int32) (t_cells : (Nat → Int32)) : Option (Nat → Int32) :=
  rec_6 ((x2 + 1), t_cells)
def b_Row_raiseFrom_6 (nt_cells : Nat) (t_used : Int32)  (rec_6 : (Int32 × (Nat → Int32)) → Option (Nat → Int32)) (z6 : Int32 × (Nat → Int32)) : Option (Nat → Int32) :=
  (if t_used ≤ z6.1 then some z6.2 else (if (nI nt_cells) ≤ z6.1 then some z6.2 else (if inB z6.1 nt_cells = true then (if (z6.2 z6.1.toNatClampNeg) < (97 : Int32) then k_Row_raiseFrom_57 rec_6 z6.1 z6.2 else (if inB z6.1 nt_cells = true then (if (122 : Int32) < (z6.2 z6.1.toNatClampNeg) then k_Row_raiseFrom_57 rec_6 z6.1 z6.2 else (if inB z6.1 nt_cells = true then (if inB z6.1 nt_cells = true then k_Row_raiseFrom_57 rec_6 z6.1 (upd z6.2 z6.1.toNatClampNeg (vp_nar .byte (((z6.2 z6.1.toNatClampNeg) - (32 : Int32)).toInt8.toInt32))) else none) else none)) else none)) else none)))
def f_Row_raiseFrom (K : Nat) (nt_cells : Nat) (t_cells : Nat → Int32) (t_used : Int32) (a1 : Int32) : Option (Nat → Int32) :=
  lp_ (b_Row_raiseFrom_6 nt_cells t_used ) K ((if (0 : Int32) < a1 then a1 else (0 : Int32)), t_cells)
set_option maxHeartbeats 4000000 in
set_option maxRecDepth 100000 in
theorem c_Row_raiseFrom (l : Launch) (G : Gt) (K : Nat) (qt : Nat) (qt_cells : Nat) (nt_cells : Nat) (t_cells : Nat → Int32) (t_used : Int32) (t_burst : Int32) (a1 : Int32) (sz : Nat) (res : (Nat → Int32))   (hf : f_Row_raiseFrom K nt_cells t_cells t_used a1 = some res) : Met l y_Row_raiseFrom (.code y_Row_raiseFrom b_Row_raiseFrom 3 none :: gw) { frames := 1, cells := 0, slots := 0, locals := 40 } (PC G ([.ref qt, .int a1] : List Value) sz (w_Row_empty G qt qt_cells nt_cells t_cells t_used t_burst)) (QV G (va_A (w_Row_empty G qt qt_cells nt_cells t_cells t_used t_burst) sz) (w_Row_empty G qt qt_cells nt_cells res t_used t_burst)) 0 0 (va_A (w_Row_empty G qt qt_cells nt_cells t_cells t_used t_burst) sz) := by
  refine Met.ofW (cc := b_Row_raiseFrom) (maxL := 3) (ret := none) (by decide) rfl ?_
  intro p e s m args below meth c s₁ B hml hv
  obtain ⟨rfl, hsz, hP, hE, hD0⟩ := hv
  have hx := B.exec
  have hb := B.bytes
  have hr := B.returns
  have hts := atoms_spec (ws := (.code y_Row_raiseFrom b_Row_raiseFrom 3 none :: gw)) B.pre
  have hg : ∀ w ∈ gw, w.before _ s = true := fun w h => hts w (List.mem_cons_of_mem _ h)
  have hown : s.vm.findClass R_Row = some m.cls := findClass_of_methodNamed B.named
  have hlocks := B.notSynchronized
  subst hsz
  have hK := hE.K
  have hD := hD0.self (sz := s.heap.size)
  have hAb := hE.ab hD0
  obtain ⟨Q, hQ⟩ : ∃ Q, MQ below (QV G (va_A (w_Row_empty G qt qt_cells nt_cells t_cells t_used t_burst) s.heap.size) (w_Row_empty G qt qt_cells nt_cells res t_used t_burst)) ([.ref qt, .int a1] : List Value).toArray s 0 0 (va_A (w_Row_empty G qt qt_cells nt_cells t_cells t_used t_burst) s.heap.size) = Q := ⟨_, rfl⟩
  show W p l e { frames := 1, cells := 0, slots := 0, locals := 40 } s m ([.ref qt, .int a1] : List Value).toArray below meth c s.heap [] 0 0 (MQ below (QV G (va_A (w_Row_empty G qt qt_cells nt_cells t_cells t_used t_burst) s.heap.size) (w_Row_empty G qt qt_cells nt_cells res t_used t_burst)) ([.ref qt, .int a1] : List Value).toArray s 0 0 (va_A (w_Row_empty G qt qt_cells nt_cells t_cells t_used t_burst) s.heap.size)) _
  rw [hQ]
  have hA : ∀ q : Nat, s.heap.size ≤ q → va_A (w_Row_empty G qt qt_cells nt_cells t_cells t_used t_burst) s.heap.size q := fun q h => Or.inr h
  obtain ⟨A, hAe⟩ : ∃ A, va_A (w_Row_empty G qt qt_cells nt_cells t_cells t_used t_burst) s.heap.size = A := ⟨_, rfl⟩
  rw [hAe] at hA hD hAb hQ
  have hS : va_S A s.heap s.heap [] := va_S.rf
  have hl := lv_entry (([.ref qt, .int a1] : List Value)) (n := 3) (Nat.le_of_ble_eq_true rfl)
  rw [lg_entry_eq]
  generalize (lg_sl (([.ref qt, .int a1] : List Value)) ++ List.replicate (3 - (lg_sl (([.ref qt, .int a1] : List Value))).length) Slot.unset).toArray = ls at hl ⊢
  have hl : lv_has ls 3 [(0, .ref qt), (1, .int a1)] := hl
  have W_6 : ∀   (n_6 : Nat) (z6 : Int32 × (Nat → Int32)) , lp_ (b_Row_raiseFrom_6 nt_cells t_used ) n_6 z6 = some res → ∀ (H : Heap) (locs : List Loc) (ls : Array Slot), va_P (gD G) vwCl (w_Row_empty G qt qt_cells nt_cells z6.2 t_used t_burst) H → va_D A (w_Row_empty G qt qt_cells nt_cells z6.2 t_used t_burst) → va_S A s.heap H locs → lv_has ls 3 [(0, .ref qt), (2, .int z6.1)] → W p l e { frames := 1, cells := 0, slots := 0, locals := 40 } s m ([.ref qt, .int a1] : List Value).toArray below meth c H locs 0 0 Q (F0 m 6 ls []) := by
    intro  n_6
    induction n_6 with
    | zero =>
      intro z6  hf
      cases hf
    | succ n_6 ih_6 =>
      intro z6  hf H locs ls hP hD hS hl
      have hf : b_Row_raiseFrom_6 nt_cells t_used  (lp_ (b_Row_raiseFrom_6 nt_cells t_used ) n_6) z6 = some res := hf
      generalize lp_ (b_Row_raiseFrom_6 nt_cells t_used ) n_6 = rec_6 at hf ih_6
      have W_57 : ∀ (x2 : Int32) (t_cells : (Nat → Int32)) , k_Row_raiseFrom_57 rec_6 x2 t_cells = some res → ∀ (H : Heap) (locs : List Loc) (ls : Array Slot), va_P (gD G) vwCl (w_Row_empty G qt qt_cells nt_cells t_cells t_used t_burst) H → va_D A (w_Row_empty G qt qt_cells nt_cells t_cells t_used t_burst) → va_S A s.heap H locs → lv_has ls 3 [(0, .ref qt), (2, .int x2)] → W p l e { frames := 1, cells := 0, slots := 0, locals := 40 } s m ([.ref qt, .int a1] : List Value).toArray below meth c H locs 0 0 Q (F0 m 57 ls []) := by
        intro x2 t_cells  hf H locs ls hP hD hS hl
        unfold k_Row_raiseFrom_57 at hf
        refine lv_iinc (v := (x2 + 1)) (lv' := [(2, .int (x2 + 1)), (0, .ref qt)]) hx hb d_Row_raiseFrom_57 hl (k := 1) rfl rfl (by decide) rfl (fun ls hl => ?_)
        refine lv_goto (tgt := 6) hx hb d_Row_raiseFrom_60 (by decide) ?_
        exact ih_6 ((x2 + 1), t_cells)  hf _ _ _ hP hD hS (lv_sub hl [1, 0] rfl)
      unfold b_Row_raiseFrom_6 at hf
      refine lv_iload_n hx hb d_Row_raiseFrom_6 rfl (lv_at hl 1 rfl) ?_
      refine lv_aload_n hx hb d_Row_raiseFrom_7 rfl (lv_at hl 0 rfl) ?_
      refine va_get (D := gD G) (ci := 4) (v := .int t_used) (C := R_Row) (T := F_Row) (N := 3) hx hb hg in_Row hown hK hP 0 rfl rfl 1 (by decide) (hg _ m_0) (fun _ h9 => h9) rfl d_Row_raiseFrom_8 ?_
      refine lv_icmp_ge (tgt := 63) hx hb d_Row_raiseFrom_11 (by decide) (fun c_11 => ?_) (fun c_11 => ?_)
      · have hf := ip_ c_11 hf
        obtain rfl := Option.some.inj hf
        rw [← hQ]
        exact W.vret hx hb hr (fun t ht hW => ⟨⟨(), rfl, trivial, ⟨by rw [ht]; exact hP, hD⟩⟩, hS.F ht⟩) hS.2.2 d_Row_raiseFrom_63
      · have hf := in_ c_11 hf
        refine lv_iload_n hx hb d_Row_raiseFrom_14 rfl (lv_at hl 1 rfl) ?_
        refine lv_aload_n hx hb d_Row_raiseFrom_15 rfl (lv_at hl 0 rfl) ?_
        refine va_get (D := gD G) (ci := 4) (v := .ref qt_cells) (C := R_Row) (T := F_Row) (N := 3) hx hb hg in_Row hown hK hP 0 rfl rfl 0 (by decide) (hg _ m_2) (fun _ h9 => h9) rfl d_Row_raiseFrom_16 ?_
        refine va_alen hx hb hK hP 1 0 rfl rfl (v := nI nt_cells) rfl d_Row_raiseFrom_19 ?_
        refine lv_icmp_ge (tgt := 63) hx hb d_Row_raiseFrom_20 (by decide) (fun c_20 => ?_) (fun c_20 => ?_)
        · have hf := ip_ c_20 hf
          obtain rfl := Option.some.inj hf
          rw [← hQ]
          exact W.vret hx hb hr (fun t ht hW => ⟨⟨(), rfl, trivial, ⟨by rw [ht]; exact hP, hD⟩⟩, hS.F ht⟩) hS.2.2 d_Row_raiseFrom_63
        · have hf := in_ c_20 hf
          refine lv_aload_n hx hb d_Row_raiseFrom_23 rfl (lv_at hl 0 rfl) ?_
          refine va_get (D := gD G) (ci := 4) (v := .ref qt_cells) (C := R_Row) (T := F_Row) (N := 3) hx hb hg in_Row hown hK hP 0 rfl rfl 0 (by decide) (hg _ m_2) (fun _ h9 => h9) rfl d_Row_raiseFrom_24 ?_
          refine lv_iload_n hx hb d_Row_raiseFrom_27 rfl (lv_at hl 1 rfl) ?_
          obtain ⟨g_28, hf⟩ := gd_ hf
          refine va_bald hx hb hK hP 1 0 rfl rfl (inB_in g_28) d_Row_raiseFrom_28 ?_
          refine lv_bipush (v := 97) hx hb d_Row_raiseFrom_29 (by decide) ?_
          refine lv_icmp_lt (tgt := 57) hx hb d_Row_raiseFrom_31 (by decide) (fun c_31 => ?_) (fun c_31 => ?_)
          · have hf := ip_ c_31 hf
            exact W_57 z6.1 z6.2  hf _ _ _ hP hD hS (lv_sub hl [0, 1] rfl)
          · have hf := in_ c_31 hf
            refine lv_aload_n hx hb d_Row_raiseFrom_34 rfl (lv_at hl 0 rfl) ?_
            refine va_get (D := gD G) (ci := 4) (v := .ref qt_cells) (C := R_Row) (T := F_Row) (N := 3) hx hb hg in_Row hown hK hP 0 rfl rfl 0 (by decide) (hg _ m_2) (fun _ h9 => h9) rfl d_Row_raiseFrom_35 ?_
            refine lv_iload_n hx hb d_Row_raiseFrom_38 rfl (lv_at hl 1 rfl) ?_
            obtain ⟨g_39, hf⟩ := gd_ hf
            refine va_bald hx hb hK hP 1 0 rfl rfl (inB_in g_39) d_Row_raiseFrom_39 ?_
            refine lv_bipush (v := 122) hx hb d_Row_raiseFrom_40 (by decide) ?_
            refine lv_icmp_gt (tgt := 57) hx hb d_Row_raiseFrom_42 (by decide) (fun c_42 => ?_) (fun c_42 => ?_)
            · have hf := ip_ c_42 hf
              exact W_57 z6.1 z6.2  hf _ _ _ hP hD hS (lv_sub hl [0, 1] rfl)
            · have hf := in_ c_42 hf
              refine lv_aload_n hx hb d_Row_raiseFrom_45 rfl (lv_at hl 0 rfl) ?_
              refine va_get (D := gD G) (ci := 4) (v := .ref qt_cells) (C := R_Row) (T := F_Row) (N := 3) hx hb hg in_Row hown hK hP 0 rfl rfl 0 (by decide) (hg _ m_2) (fun _ h9 => h9) rfl d_Row_raiseFrom_46 ?_
              refine lv_iload_n hx hb d_Row_raiseFrom_49 rfl (lv_at hl 1 rfl) ?_
              refine lv_dup2_11 hx hb d_Row_raiseFrom_50 rfl rfl ?_
              obtain ⟨g_51, hf⟩ := gd_ hf
              refine va_bald hx hb hK hP 1 0 rfl rfl (inB_in g_51) d_Row_raiseFrom_51 ?_
              refine lv_bipush (v := 32) hx hb d_Row_raiseFrom_52 (by decide) ?_
              refine lv_isub hx hb d_Row_raiseFrom_54 ?_
              refine lv_i2b (v := ((z6.2 z6.1.toNatClampNeg) - (32 : Int32)).toInt8.toInt32) hx hb d_Row_raiseFrom_55 rfl ?_
              obtain ⟨g_56, hf⟩ := gd_ hf
              refine va_bast hx hb hK hP hD hS 1 0 rfl rfl (inB_in g_56) d_Row_raiseFrom_56 (fun H locs hP hD hS => ?_)
              have hP : va_P (gD G) vwCl (w_Row_empty G qt qt_cells nt_cells (upd z6.2 z6.1.toNatClampNeg (vp_nar .byte (((z6.2 z6.1.toNatClampNeg) - (32 : Int32)).toInt8.toInt32))) t_used t_burst) H := hP
              have hD : va_D A (w_Row_empty G qt qt_cells nt_cells (upd z6.2 z6.1.toNatClampNeg (vp_nar .byte (((z6.2 z6.1.toNatClampNeg) - (32 : Int32)).toInt8.toInt32))) t_used t_burst) := hD
              exact W_57 z6.1 (upd z6.2 z6.1.toNatClampNeg (vp_nar .byte (((z6.2 z6.1.toNatClampNeg) - (32 : Int32)).toInt8.toInt32)))  hf _ _ _ hP hD hS (lv_sub hl [0, 1] rfl)
  unfold f_Row_raiseFrom at hf
  refine lv_iconst (v := 0) hx hb d_Row_raiseFrom_0 (by decide) ?_
  refine lv_iload_n hx hb d_Row_raiseFrom_1 rfl (lv_at hl 1 rfl) ?_
  refine va_mmax hx hb (hml.trans hl.1.symm) hown (hg _ m_16) (hg _ m_17) (hg _ m_14) (hg _ m_18) (Nat.le_of_ble_eq_true rfl) (Nat.le_of_ble_eq_true rfl) (Nat.zero_le _) (Nat.zero_le _) d_Row_raiseFrom_2 ?_
  refine lv_istore_n (lv' := [(2, .int (if (0 : Int32) < a1 then a1 else (0 : Int32))), (0, .ref qt), (1, .int a1)]) hx hb d_Row_raiseFrom_5 rfl hl (by decide) rfl (fun ls hl => ?_)
  exact W_6   K ((if (0 : Int32) < a1 then a1 else (0 : Int32)), t_cells)  hf _ _ _ hP hD hS (lv_sub hl [1, 0] rfl)
end
section
theorem d_Model_clear_0 : decode b_Model_clear 0 = .ok (.aload_n 0, 1) := by decide +kernel
theorem d_Model_clear_1 : decode b_Model_clear 1 = .ok (.iconst 0, 1) := by decide +kernel
theorem d_Model_clear_2 : decode b_Model_clear 2 = .ok (.putfield 56, 3) := by decide +kernel
theorem d_Model_clear_5 : decode b_Model_clear 5 = .ok (.aload_n 0, 1) := by decide +kernel
theorem d_Model_clear_6 : decode b_Model_clear 6 = .ok (.iconst 0, 1) := by decide +kernel
theorem d_Model_clear_7 : decode b_Model_clear 7 = .ok (.putfield 60, 3) := by decide +kernel
theorem d_Model_clear_10 : decode b_Model_clear 10 = .ok (.return_, 1) := by decide +kernel
theorem m_19 : Cond.fieldLink R_Model 56 "SpecifierDeskModel" "drafted" "I" ∈ gw := gm (i := 861) (by decide +kernel) (by decide +kernel)
theorem m_20 : Cond.fieldLink R_Model 60 "SpecifierDeskModel" "arguments" "I" ∈ gw := gm (i := 864) (by decide +kernel) (by decide +kernel)
def f_Model_clear  : Option (Int32 × Int32) :=
  some ((0 : Int32), (0 : Int32))
abbrev w_Model_clear (G : Gt) (qt : Nat) (qt_draft : Nat) (t_draft : Nat → Int32) (t_drafted : Int32) (qt_result : Nat) (t_result : Nat → Int32) (t_length : Int32) (t_arguments : Int32) (qt_kinds : Nat) (t_kinds : Nat → Int32) (qt_values : Nat) (t_values : Nat → Int64) (qt_widths : Nat) (t_widths : Nat → Int32) (qt_below : Nat) (t_below : Nat → Int32) (qt_sizes : Nat) (t_sizes : Nat → Int32) (qt_scales : Nat) (t_scales : Nat → Int32) (qt_parts : Nat) (t_parts : Nat → Int64) (qt_texts : Nat) (t_texts : Nat → Int32) (qt_lengths : Nat) (t_lengths : Nat → Int32) (t_end : Int32) (t_index : Int32) (t_flags : Int32) (t_twice : Int32) (t_width : Int32) (t_precision : Int32) (t_conversion : Int32) (t_broken : Int32) (qt_piece : Nat) (t_piece : Nat → Int32) (t_put : Int32) (t_head : Int32) (qt_tens : Nat) (t_tens : Nat → Int32) (t_count : Int32) (t_exponent : Int32) (qt_work : Nat) (t_work : Nat → Int32) : va_W := [(qt, .inr (7, [.ref qt_draft, .int t_drafted, .ref qt_result, .int t_length, .int t_arguments, .ref qt_kinds, .ref qt_values, .ref qt_widths, .ref qt_below, .ref qt_sizes, .ref qt_scales, .ref qt_parts, .ref qt_texts, .ref qt_lengths, .int t_end, .int t_index, .int t_flags, .int t_twice, .int t_width, .int t_precision, .int t_conversion, .int t_broken, .ref qt_piece, .int t_put, .int t_head, .ref qt_tens, .int t_count, .int t_exponent, .ref qt_work])), (qt_draft, .inl (gC G 1, 400, .inl t_draft)), (qt_result, .inl (gC G 1, 4000, .inl t_result)), (qt_kinds, .inl (gC G 1, 12, .inl t_kinds)), (qt_values, .inl (gC G 2, 12, .inr (.inl t_values))), (qt_widths, .inl (gC G 1, 12, .inl t_widths)), (qt_below, .inl (gC G 3, 12, .inl t_below)), (qt_sizes, .inl (gC G 1, 384, .inl t_sizes)), (qt_scales, .inl (gC G 1, 12, .inl t_scales)), (qt_parts, .inl (gC G 2, 12, .inr (.inl t_parts))), (qt_texts, .inl (gC G 1, 4800, .inl t_texts)), (qt_lengths, .inl (gC G 1, 12, .inl t_lengths)), (qt_piece, .inl (gC G 1, 4000, .inl t_piece)), (qt_tens, .inl (gC G 1, 1200, .inl t_tens)), (qt_work, .inl (gC G 1, 32, .inl t_work))]
set_option maxHeartbeats 4000000 in
set_option maxRecDepth 100000 in
theorem c_Model_clear (l : Launch) (G : Gt) (K : Nat) (qt : Nat) (qt_draft : Nat) (t_draft : Nat → Int32) (t_drafted : Int32) (qt_result : Nat) (t_result : Nat → Int32) (t_length : Int32) (t_arguments : Int32) (qt_kinds : Nat) (t_kinds : Nat → Int32) (qt_values : Nat) (t_values : Nat → Int64) (qt_widths : Nat) (t_widths : Nat → Int32) (qt_below : Nat) (t_below : Nat → Int32) (qt_sizes : Nat) (t_sizes : Nat → Int32) (qt_scales : Nat) (t_scales : Nat → Int32) (qt_parts : Nat) (t_parts : Nat → Int64) (qt_texts : Nat) (t_texts : Nat → Int32) (qt_lengths : Nat) (t_lengths : Nat → Int32) (t_end : Int32) (t_index : Int32) (t_flags : Int32) (t_twice : Int32) (t_width : Int32) (t_precision : Int32) (t_conversion : Int32) (t_broken : Int32) (qt_piece : Nat) (t_piece : Nat → Int32) (t_put : Int32) (t_head : Int32) (qt_tens : Nat) (t_tens : Nat → Int32) (t_count : Int32) (t_exponent : Int32) (qt_work : Nat) (t_work : Nat → Int32) (sz : Nat) (res : Int32 × Int32)   (hf : f_Model_clear  = some res) : Met l y_Model_clear (.code y_Model_clear b_Model_clear 1 none :: gw) { frames := 0, cells := 0, slots := 0, locals := 0 } (PC G ([.ref qt] : List Value) sz (w_Model_clear G qt qt_draft t_draft t_drafted qt_result t_result t_length t_arguments qt_kinds t_kinds qt_values t_values qt_widths t_widths qt_below t_below qt_sizes t_sizes qt_scales t_scales qt_parts t_parts qt_texts t_texts qt_lengths t_lengths t_end t_index t_flags t_twice t_width t_precision t_conversion t_broken qt_piece t_piece t_put t_head qt_tens t_tens t_count t_exponent qt_work t_work)) (QV G (va_A (w_Model_clear G qt qt_draft t_draft t_drafted qt_result t_result t_length t_arguments qt_kinds t_kinds qt_values t_values qt_widths t_widths qt_below t_below qt_sizes t_sizes qt_scales t_scales qt_parts t_parts qt_texts t_texts qt_lengths t_lengths t_end t_index t_flags t_twice t_width t_precision t_conversion t_broken qt_piece t_piece t_put t_head qt_tens t_tens t_count t_exponent qt_work t_work) sz) (w_Model_clear G qt qt_draft t_draft res.1 qt_result t_result t_length res.2 qt_kinds t_kinds qt_values t_values qt_widths t_widths qt_below t_below qt_sizes t_sizes qt_scales t_scales qt_parts t_parts qt_texts t_texts qt_lengths t_lengths t_end t_index t_flags t_twice t_width t_precision t_conversion t_broken qt_piece t_piece t_put t_head qt_tens t_tens t_count t_exponent qt_work t_work)) 0 0 (va_A (w_Model_clear G qt qt_draft t_draft t_drafted qt_result t_result t_length t_arguments qt_kinds t_kinds qt_values t_values qt_widths t_widths qt_below t_below qt_sizes t_sizes qt_scales t_scales qt_parts t_parts qt_texts t_texts qt_lengths t_lengths t_end t_index t_flags t_twice t_width t_precision t_conversion t_broken qt_piece t_piece t_put t_head qt_tens t_tens t_count t_exponent qt_work t_work) sz) := by
  refine Met.ofW (cc := b_Model_clear) (maxL := 1) (ret := none) (by decide) rfl ?_
  intro p e s m args below meth c s₁ B hml hv
  obtain ⟨rfl, hsz, hP, hE, hD0⟩ := hv
  have hx := B.exec
  have hb := B.bytes
  have hr := B.returns
  have hts := atoms_spec (ws := (.code y_Model_clear b_Model_clear 1 none :: gw)) B.pre
  have hg : ∀ w ∈ gw, w.before _ s = true := fun w h => hts w (List.mem_cons_of_mem _ h)
  have hown : s.vm.findClass R_Model = some m.cls := findClass_of_methodNamed B.named
  have hlocks := B.notSynchronized
  subst hsz
  have hK := hE.K
  have hD := hD0.self (sz := s.heap.size)
  have hAb := hE.ab hD0
  obtain ⟨Q, hQ⟩ : ∃ Q, MQ below (QV G (va_A (w_Model_clear G qt qt_draft t_draft t_drafted qt_result t_result t_length t_arguments qt_kinds t_kinds qt_values t_values qt_widths t_widths qt_below t_below qt_sizes t_sizes qt_scales t_scales qt_parts t_parts qt_texts t_texts qt_lengths t_lengths t_end t_index t_flags t_twice t_width t_precision t_conversion t_broken qt_piece t_piece t_put t_head qt_tens t_tens t_count t_exponent qt_work t_work) s.heap.size) (w_Model_clear G qt qt_draft t_draft res.1 qt_result t_result t_length res.2 qt_kinds t_kinds qt_values t_values qt_widths t_widths qt_below t_below qt_sizes t_sizes qt_scales t_scales qt_parts t_parts qt_texts t_texts qt_lengths t_lengths t_end t_index t_flags t_twice t_width t_precision t_conversion t_broken qt_piece t_piece t_put t_head qt_tens t_tens t_count t_exponent qt_work t_work)) ([.ref qt] : List Value).toArray s 0 0 (va_A (w_Model_clear G qt qt_draft t_draft t_drafted qt_result t_result t_length t_arguments qt_kinds t_kinds qt_values t_values qt_widths t_widths qt_below t_below qt_sizes t_sizes qt_scales t_scales qt_parts t_parts qt_texts t_texts qt_lengths t_lengths t_end t_index t_flags t_twice t_width t_precision t_conversion t_broken qt_piece t_piece t_put t_head qt_tens t_tens t_count t_exponent qt_work t_work) s.heap.size) = Q := ⟨_, rfl⟩
  show W p l e { frames := 0, cells := 0, slots := 0, locals := 0 } s m ([.ref qt] : List Value).toArray below meth c s.heap [] 0 0 (MQ below (QV G (va_A (w_Model_clear G qt qt_draft t_draft t_drafted qt_result t_result t_length t_arguments qt_kinds t_kinds qt_values t_values qt_widths t_widths qt_below t_below qt_sizes t_sizes qt_scales t_scales qt_parts t_parts qt_texts t_texts qt_lengths t_lengths t_end t_index t_flags t_twice t_width t_precision t_conversion t_broken qt_piece t_piece t_put t_head qt_tens t_tens t_count t_exponent qt_work t_work) s.heap.size) (w_Model_clear G qt qt_draft t_draft res.1 qt_result t_result t_length res.2 qt_kinds t_kinds qt_values t_values qt_widths t_widths qt_below t_below qt_sizes t_sizes qt_scales t_scales qt_parts t_parts qt_texts t_texts qt_lengths t_lengths t_end t_index t_flags t_twice t_width t_precision t_conversion t_broken qt_piece t_piece t_put t_head qt_tens t_tens t_count t_exponent qt_work t_work)) ([.ref qt] : List Value).toArray s 0 0 (va_A (w_Model_clear G qt qt_draft t_draft t_drafted qt_result t_result t_length t_arguments qt_kinds t_kinds qt_values t_values qt_widths t_widths qt_below t_below qt_sizes t_sizes qt_scales t_scales qt_parts t_parts qt_texts t_texts qt_lengths t_lengths t_end t_index t_flags t_twice t_width t_precision t_conversion t_broken qt_piece t_piece t_put t_head qt_tens t_tens t_count t_exponent qt_work t_work) s.heap.size)) _
  rw [hQ]
  have hA : ∀ q : Nat, s.heap.size ≤ q → va_A (w_Model_clear G qt qt_draft t_draft t_drafted qt_result t_result t_length t_arguments qt_kinds t_kinds qt_values t_values qt_widths t_widths qt_below t_below qt_sizes t_sizes qt_scales t_scales qt_parts t_parts qt_texts t_texts qt_lengths t_lengths t_end t_index t_flags t_twice t_width t_precision t_conversion t_broken qt_piece t_piece t_put t_head qt_tens t_tens t_count t_exponent qt_work t_work) s.heap.size q := fun q h => Or.inr h
  obtain ⟨A, hAe⟩ : ∃ A, va_A (w_Model_clear G qt qt_draft t_draft t_drafted qt_result t_result t_length t_arguments qt_kinds t_kinds qt_values t_values qt_widths t_widths qt_below t_below qt_sizes t_sizes qt_scales t_scales qt_parts t_parts qt_texts t_texts qt_lengths t_lengths t_end t_index t_flags t_twice t_width t_precision t_conversion t_broken qt_piece t_piece t_put t_head qt_tens t_tens t_count t_exponent qt_work t_work) s.heap.size = A := ⟨_, rfl⟩
  rw [hAe] at hA hD hAb hQ
  have hS : va_S A s.heap s.heap [] := va_S.rf
  have hl := lv_entry (([.ref qt] : List Value)) (n := 1) (Nat.le_of_ble_eq_true rfl)
  rw [lg_entry_eq]
  generalize (lg_sl (([.ref qt] : List Value)) ++ List.replicate (1 - (lg_sl (([.ref qt] : List Value))).length) Slot.unset).toArray = ls at hl ⊢
  have hl : lv_has ls 1 [(0, .ref qt)] := hl
  unfold f_Model_clear at hf
  refine lv_aload_n hx hb d_Model_clear_0 rfl (lv_at hl 0 rfl) ?_
  refine lv_iconst (v := 0) hx hb d_Model_clear_1 (by decide) ?_
  refine va_put (D := gD G) (ci := 7) (v := .int (0 : Int32)) (ty := .int) (C := R_Model) (T := F_Model) (N := 29) hx hb hg in_Model t_Model to_Model no_Model hown hK hP hD hS 0 rfl rfl 1 (by decide) (hg _ m_19) (fun _ h9 => h9) rfl (by decide +kernel) rfl rfl (Nat.le_of_ble_eq_true rfl) d_Model_clear_2 (fun H locs hP hD hS => ?_)
  have hP : va_P (gD G) vwCl (w_Model_clear G qt qt_draft t_draft (0 : Int32) qt_result t_result t_length t_arguments qt_kinds t_kinds qt_values t_values qt_widths t_widths qt_below t_below qt_sizes t_sizes qt_scales t_scales qt_parts t_parts qt_texts t_texts qt_lengths t_lengths t_end t_index t_flags t_twice t_width t_precision t_conversion t_broken qt_piece t_piece t_put t_head qt_tens t_tens t_count t_exponent qt_work t_work) H := hP
  have hD : va_D A (w_Model_clear G qt qt_draft t_draft (0 : Int32) qt_result t_result t_length t_arguments qt_kinds t_kinds qt_values t_values qt_widths t_widths qt_below t_below qt_sizes t_sizes qt_scales t_scales qt_parts t_parts qt_texts t_texts qt_lengths t_lengths t_end t_index t_flags t_twice t_width t_precision t_conversion t_broken qt_piece t_piece t_put t_head qt_tens t_tens t_count t_exponent qt_work t_work) := hD
  refine lv_aload_n hx hb d_Model_clear_5 rfl (lv_at hl 0 rfl) ?_
  refine lv_iconst (v := 0) hx hb d_Model_clear_6 (by decide) ?_
  refine va_put (D := gD G) (ci := 7) (v := .int (0 : Int32)) (ty := .int) (C := R_Model) (T := F_Model) (N := 29) hx hb hg in_Model t_Model to_Model no_Model hown hK hP hD hS 0 rfl rfl 4 (by decide) (hg _ m_20) (fun _ h9 => h9) rfl (by decide +kernel) rfl rfl (Nat.le_of_ble_eq_true rfl) d_Model_clear_7 (fun H locs hP hD hS => ?_)
  have hP : va_P (gD G) vwCl (w_Model_clear G qt qt_draft t_draft (0 : Int32) qt_result t_result t_length (0 : Int32) qt_kinds t_kinds qt_values t_values qt_widths t_widths qt_below t_below qt_sizes t_sizes qt_scales t_scales qt_parts t_parts qt_texts t_texts qt_lengths t_lengths t_end t_index t_flags t_twice t_width t_precision t_conversion t_broken qt_piece t_piece t_put t_head qt_tens t_tens t_count t_exponent qt_work t_work) H := hP
  have hD : va_D A (w_Model_clear G qt qt_draft t_draft (0 : Int32) qt_result t_result t_length (0 : Int32) qt_kinds t_kinds qt_values t_values qt_widths t_widths qt_below t_below qt_sizes t_sizes qt_scales t_scales qt_parts t_parts qt_texts t_texts qt_lengths t_lengths t_end t_index t_flags t_twice t_width t_precision t_conversion t_broken qt_piece t_piece t_put t_head qt_tens t_tens t_count t_exponent qt_work t_work) := hD
  obtain rfl := Option.some.inj hf
  rw [← hQ]
  exact W.vret hx hb hr (fun t ht hW => ⟨⟨(), rfl, trivial, ⟨by rw [ht]; exact hP, hD⟩⟩, hS.F ht⟩) hS.2.2 d_Model_clear_10
theorem d_Model_argument_0 : decode b_Model_argument 0 = .ok (.aload_n 0, 1) := by decide +kernel
theorem d_Model_argument_1 : decode b_Model_argument 1 = .ok (.getfield 60, 3) := by decide +kernel
theorem d_Model_argument_4 : decode b_Model_argument 4 = .ok (.bipush 12, 2) := by decide +kernel
theorem d_Model_argument_6 : decode b_Model_argument 6 = .ok (.if_icmp .ne 5, 3) := by decide +kernel
theorem d_Model_argument_9 : decode b_Model_argument 9 = .ok (.iconst (-1), 1) := by decide +kernel
theorem d_Model_argument_10 : decode b_Model_argument 10 = .ok (.ireturn, 1) := by decide +kernel
theorem d_Model_argument_11 : decode b_Model_argument 11 = .ok (.aload_n 0, 1) := by decide +kernel
theorem d_Model_argument_12 : decode b_Model_argument 12 = .ok (.getfield 16, 3) := by decide +kernel
theorem d_Model_argument_15 : decode b_Model_argument 15 = .ok (.aload_n 0, 1) := by decide +kernel
theorem d_Model_argument_16 : decode b_Model_argument 16 = .ok (.getfield 60, 3) := by decide +kernel
theorem d_Model_argument_19 : decode b_Model_argument 19 = .ok (.iload_n 1, 1) := by decide +kernel
theorem d_Model_argument_20 : decode b_Model_argument 20 = .ok (.iastore, 1) := by decide +kernel
theorem d_Model_argument_21 : decode b_Model_argument 21 = .ok (.aload_n 0, 1) := by decide +kernel
theorem d_Model_argument_22 : decode b_Model_argument 22 = .ok (.getfield 19, 3) := by decide +kernel
theorem d_Model_argument_25 : decode b_Model_argument 25 = .ok (.aload_n 0, 1) := by decide +kernel
theorem d_Model_argument_26 : decode b_Model_argument 26 = .ok (.getfield 60, 3) := by decide +kernel
theorem d_Model_argument_29 : decode b_Model_argument 29 = .ok (.lload_n 2, 1) := by decide +kernel
theorem d_Model_argument_30 : decode b_Model_argument 30 = .ok (.lastore, 1) := by decide +kernel
theorem d_Model_argument_31 : decode b_Model_argument 31 = .ok (.aload_n 0, 1) := by decide +kernel
theorem d_Model_argument_32 : decode b_Model_argument 32 = .ok (.getfield 26, 3) := by decide +kernel
theorem d_Model_argument_35 : decode b_Model_argument 35 = .ok (.aload_n 0, 1) := by decide +kernel
theorem d_Model_argument_36 : decode b_Model_argument 36 = .ok (.getfield 60, 3) := by decide +kernel
theorem d_Model_argument_39 : decode b_Model_argument 39 = .ok (.iload 4, 2) := by decide +kernel
theorem d_Model_argument_41 : decode b_Model_argument 41 = .ok (.bastore, 1) := by decide +kernel
theorem d_Model_argument_42 : decode b_Model_argument 42 = .ok (.iconst 0, 1) := by decide +kernel
theorem d_Model_argument_43 : decode b_Model_argument 43 = .ok (.istore 5, 2) := by decide +kernel
theorem d_Model_argument_45 : decode b_Model_argument 45 = .ok (.iload 5, 2) := by decide +kernel
theorem d_Model_argument_47 : decode b_Model_argument 47 = .ok (.bipush 32, 2) := by decide +kernel
theorem d_Model_argument_49 : decode b_Model_argument 49 = .ok (.if_icmp .ge 25, 3) := by decide +kernel
theorem d_Model_argument_52 : decode b_Model_argument 52 = .ok (.aload_n 0, 1) := by decide +kernel
theorem d_Model_argument_53 : decode b_Model_argument 53 = .ok (.getfield 30, 3) := by decide +kernel
theorem d_Model_argument_56 : decode b_Model_argument 56 = .ok (.bipush 32, 2) := by decide +kernel
theorem d_Model_argument_58 : decode b_Model_argument 58 = .ok (.aload_n 0, 1) := by decide +kernel
theorem d_Model_argument_59 : decode b_Model_argument 59 = .ok (.getfield 60, 3) := by decide +kernel
theorem d_Model_argument_62 : decode b_Model_argument 62 = .ok (.imul, 1) := by decide +kernel
theorem d_Model_argument_63 : decode b_Model_argument 63 = .ok (.iload 5, 2) := by decide +kernel
theorem d_Model_argument_65 : decode b_Model_argument 65 = .ok (.iadd, 1) := by decide +kernel
theorem d_Model_argument_66 : decode b_Model_argument 66 = .ok (.iconst 0, 1) := by decide +kernel
theorem d_Model_argument_67 : decode b_Model_argument 67 = .ok (.iastore, 1) := by decide +kernel
theorem d_Model_argument_68 : decode b_Model_argument 68 = .ok (.iinc 5 1, 3) := by decide +kernel
theorem d_Model_argument_71 : decode b_Model_argument 71 = .ok (.goto (-26), 3) := by decide +kernel
theorem d_Model_argument_74 : decode b_Model_argument 74 = .ok (.aload_n 0, 1) := by decide +kernel
theorem d_Model_argument_75 : decode b_Model_argument 75 = .ok (.dup, 1) := by decide +kernel
theorem d_Model_argument_76 : decode b_Model_argument 76 = .ok (.getfield 60, 3) := by decide +kernel
theorem d_Model_argument_79 : decode b_Model_argument 79 = .ok (.iconst 1, 1) := by decide +kernel
theorem d_Model_argument_80 : decode b_Model_argument 80 = .ok (.iadd, 1) := by decide +kernel
theorem d_Model_argument_81 : decode b_Model_argument 81 = .ok (.putfield 60, 3) := by decide +kernel
theorem d_Model_argument_84 : decode b_Model_argument 84 = .ok (.aload_n 0, 1) := by decide +kernel
theorem d_Model_argument_85 : decode b_Model_argument 85 = .ok (.getfield 60, 3) := by decide +kernel
theorem d_Model_argument_88 : decode b_Model_argument 88 = .ok (.ireturn, 1) := by decide +kernel
theorem m_21 : Cond.fieldLink R_Model 16 "SpecifierDeskModel" "kinds" "[I" ∈ gw := gm (i := 865) (by decide +kernel) (by decide +kernel)
theorem m_22 : Cond.fieldLink R_Model 19 "SpecifierDeskModel" "values" "[J" ∈ gw := gm (i := 866) (by decide +kernel) (by decide +kernel)
theorem m_23 : Cond.fieldLink R_Model 26 "SpecifierDeskModel" "below" "[Z" ∈ gw := gm (i := 868) (by decide +kernel) (by decide +kernel)
theorem m_24 : Cond.fieldLink R_Model 30 "SpecifierDeskModel" "sizes" "[I" ∈ gw := gm (i := 869) (by decide +kernel) (by decide +kernel)
def b_Model_argument_45  (t_arguments : Int32) (t_kinds : (Nat → Int32)) (t_values : (Nat → Int64)) (t_below : (Nat → Int32)) (rec_45 : (Int32 × (Nat → Int32)) → Option (Int32 × Int32 × (Nat → Int32) × (Nat → Int64) × (Nat → Int32) × (Nat → Int32))) (z45 : Int32 × (Nat → Int32)) : Option (Int32 × Int32 × (Nat → Int32) × (Nat → Int64) × (Nat → Int32) × (Nat → Int32)) :=
  (if (32 : Int32) ≤ z45.1 then some ((t_arguments + (1 : Int32)), (t_arguments + (1 : Int32)), t_kinds, t_values, t_below, z45.2) else (if inB (((32 : Int32) * t_arguments) + z45.1) 384 = true then rec_45 ((z45.1 + 1), (upd z45.2 (((32 : Int32) * t_arguments) + z45.1).toNatClampNeg (0 : Int32))) else none))
def f_Model_argument (K : Nat) (t_arguments : Int32) (t_kinds : Nat → Int32) (t_values : Nat → Int64) (t_below : Nat → Int32) (t_sizes : Nat → Int32) (a1 : Int32) (a2 : Int64) (a3 : Int32) : Option (Int32 × Int32 × (Nat → Int32) × (Nat → Int64) × (Nat → Int32) × (Nat → Int32)) :=
  (if t_arguments = (12 : Int32) then some ((-1 : Int32), t_arguments, t_kinds, t_values, t_below, t_sizes) else (if inB t_arguments 12 = true then (if inB t_arguments 12 = true then (if inB t_arguments 12 = true then lp_ (b_Model_argument_45  t_arguments (upd t_kinds t_arguments.toNatClampNeg a1) (vp_updL t_values t_arguments.toNatClampNeg a2) (upd t_below t_arguments.toNatClampNeg (vp_nar .boolean a3))) K ((0 : Int32), t_sizes) else none) else none) else none))
set_option maxHeartbeats 4000000 in
set_option maxRecDepth 100000 in
theorem c_Model_argument (l : Launch) (G : Gt) (K : Nat) (qt : Nat) (qt_draft : Nat) (t_draft : Nat → Int32) (t_drafted : Int32) (qt_result : Nat) (t_result : Nat → Int32) (t_length : Int32) (t_arguments : Int32) (qt_kinds : Nat) (t_kinds : Nat → Int32) (qt_values : Nat) (t_values : Nat → Int64) (qt_widths : Nat) (t_widths : Nat → Int32) (qt_below : Nat) (t_below : Nat → Int32) (qt_sizes : Nat) (t_sizes : Nat → Int32) (qt_scales : Nat) (t_scales : Nat → Int32) (qt_parts : Nat) (t_parts : Nat → Int64) (qt_texts : Nat) (t_texts : Nat → Int32) (qt_lengths : Nat) (t_lengths : Nat → Int32) (t_end : Int32) (t_index : Int32) (t_flags : Int32) (t_twice : Int32) (t_width : Int32) (t_precision : Int32) (t_conversion : Int32) (t_broken : Int32) (qt_piece : Nat) (t_piece : Nat → Int32) (t_put : Int32) (t_head : Int32) (qt_tens : Nat) (t_tens : Nat → Int32) (t_count : Int32) (t_exponent : Int32) (qt_work : Nat) (t_work : Nat → Int32) (a1 : Int32) (a2 : Int64) (a3 : Int32) (sz : Nat) (res : Int32 × Int32 × (Nat → Int32) × (Nat → Int64) × (Nat → Int32) × (Nat → Int32)) (hb_a3 : bl a3)  (hf : f_Model_argument K t_arguments t_kinds t_values t_below t_sizes a1 a2 a3 = some res) : Met l y_Model_argument (.code y_Model_argument b_Model_argument 6 (some .int) :: gw) { frames := 0, cells := 0, slots := 0, locals := 0 } (PC G ([.ref qt, .int a1, .long a2, .int a3] : List Value) sz (w_Model_clear G qt qt_draft t_draft t_drafted qt_result t_result t_length t_arguments qt_kinds t_kinds qt_values t_values qt_widths t_widths qt_below t_below qt_sizes t_sizes qt_scales t_scales qt_parts t_parts qt_texts t_texts qt_lengths t_lengths t_end t_index t_flags t_twice t_width t_precision t_conversion t_broken qt_piece t_piece t_put t_head qt_tens t_tens t_count t_exponent qt_work t_work)) (QI G res.1 (va_A (w_Model_clear G qt qt_draft t_draft t_drafted qt_result t_result t_length t_arguments qt_kinds t_kinds qt_values t_values qt_widths t_widths qt_below t_below qt_sizes t_sizes qt_scales t_scales qt_parts t_parts qt_texts t_texts qt_lengths t_lengths t_end t_index t_flags t_twice t_width t_precision t_conversion t_broken qt_piece t_piece t_put t_head qt_tens t_tens t_count t_exponent qt_work t_work) sz) (w_Model_clear G qt qt_draft t_draft t_drafted qt_result t_result t_length res.2.1 qt_kinds res.2.2.1 qt_values res.2.2.2.1 qt_widths t_widths qt_below res.2.2.2.2.1 qt_sizes res.2.2.2.2.2 qt_scales t_scales qt_parts t_parts qt_texts t_texts qt_lengths t_lengths t_end t_index t_flags t_twice t_width t_precision t_conversion t_broken qt_piece t_piece t_put t_head qt_tens t_tens t_count t_exponent qt_work t_work)) 0 0 (va_A (w_Model_clear G qt qt_draft t_draft t_drafted qt_result t_result t_length t_arguments qt_kinds t_kinds qt_values t_values qt_widths t_widths qt_below t_below qt_sizes t_sizes qt_scales t_scales qt_parts t_parts qt_texts t_texts qt_lengths t_lengths t_end t_index t_flags t_twice t_width t_precision t_conversion t_broken qt_piece t_piece t_put t_head qt_tens t_tens t_count t_exponent qt_work t_work) sz) := by
  refine Met.ofW (cc := b_Model_argument) (maxL := 6) (ret := (some .int)) (by decide) rfl ?_
  intro p e s m args below meth c s₁ B hml hv
  obtain ⟨rfl, hsz, hP, hE, hD0⟩ := hv
  have hx := B.exec
  have hb := B.bytes
  have hr := B.returns
  have hts := atoms_spec (ws := (.code y_Model_argument b_Model_argument 6 (some .int) :: gw)) B.pre
  have hg : ∀ w ∈ gw, w.before _ s = true := fun w h => hts w (List.mem_cons_of_mem _ h)
  have hown : s.vm.findClass R_Model = some m.cls := findClass_of_methodNamed B.named
  have hlocks := B.notSynchronized
  subst hsz
  have hK := hE.K
  have hD := hD0.self (sz := s.heap.size)
  have hAb := hE.ab hD0
  obtain ⟨Q, hQ⟩ : ∃ Q, MQ below (QI G res.1 (va_A (w_Model_clear G qt qt_draft t_draft t_drafted qt_result t_result t_length t_arguments qt_kinds t_kinds qt_values t_values qt_widths t_widths qt_below t_below qt_sizes t_sizes qt_scales t_scales qt_parts t_parts qt_texts t_texts qt_lengths t_lengths t_end t_index t_flags t_twice t_width t_precision t_conversion t_broken qt_piece t_piece t_put t_head qt_tens t_tens t_count t_exponent qt_work t_work) s.heap.size) (w_Model_clear G qt qt_draft t_draft t_drafted qt_result t_result t_length res.2.1 qt_kinds res.2.2.1 qt_values res.2.2.2.1 qt_widths t_widths qt_below res.2.2.2.2.1 qt_sizes res.2.2.2.2.2 qt_scales t_scales qt_parts t_parts qt_texts t_texts qt_lengths t_lengths t_end t_index t_flags t_twice t_width t_precision t_conversion t_broken qt_piece t_piece t_put t_head qt_tens t_tens t_count t_exponent qt_work t_work)) ([.ref qt, .int a1, .long a2, .int a3] : List Value).toArray s 0 0 (va_A (w_Model_clear G qt qt_draft t_draft t_drafted qt_result t_result t_length t_arguments qt_kinds t_kinds qt_values t_values qt_widths t_widths qt_below t_below qt_sizes t_sizes qt_scales t_scales qt_parts t_parts qt_texts t_texts qt_lengths t_lengths t_end t_index t_flags t_twice t_width t_precision t_conversion t_broken qt_piece t_piece t_put t_head qt_tens t_tens t_count t_exponent qt_work t_work) s.heap.size) = Q := ⟨_, rfl⟩
  show W p l e { frames := 0, cells := 0, slots := 0, locals := 0 } s m ([.ref qt, .int a1, .long a2, .int a3] : List Value).toArray below meth c s.heap [] 0 0 (MQ below (QI G res.1 (va_A (w_Model_clear G qt qt_draft t_draft t_drafted qt_result t_result t_length t_arguments qt_kinds t_kinds qt_values t_values qt_widths t_widths qt_below t_below qt_sizes t_sizes qt_scales t_scales qt_parts t_parts qt_texts t_texts qt_lengths t_lengths t_end t_index t_flags t_twice t_width t_precision t_conversion t_broken qt_piece t_piece t_put t_head qt_tens t_tens t_count t_exponent qt_work t_work) s.heap.size) (w_Model_clear G qt qt_draft t_draft t_drafted qt_result t_result t_length res.2.1 qt_kinds res.2.2.1 qt_values res.2.2.2.1 qt_widths t_widths qt_below res.2.2.2.2.1 qt_sizes res.2.2.2.2.2 qt_scales t_scales qt_parts t_parts qt_texts t_texts qt_lengths t_lengths t_end t_index t_flags t_twice t_width t_precision t_conversion t_broken qt_piece t_piece t_put t_head qt_tens t_tens t_count t_exponent qt_work t_work)) ([.ref qt, .int a1, .long a2, .int a3] : List Value).toArray s 0 0 (va_A (w_Model_clear G qt qt_draft t_draft t_drafted qt_result t_result t_length t_arguments qt_kinds t_kinds qt_values t_values qt_widths t_widths qt_below t_below qt_sizes t_sizes qt_scales t_scales qt_parts t_parts qt_texts t_texts qt_lengths t_lengths t_end t_index t_flags t_twice t_width t_precision t_conversion t_broken qt_piece t_piece t_put t_head qt_tens t_tens t_count t_exponent qt_work t_work) s.heap.size)) _
  rw [hQ]
  have hA : ∀ q : Nat, s.heap.size ≤ q → va_A (w_Model_clear G qt qt_draft t_draft t_drafted qt_result t_result t_length t_arguments qt_kinds t_kinds qt_values t_values qt_widths t_widths qt_below t_below qt_sizes t_sizes qt_scales t_scales qt_parts t_parts qt_texts t_texts qt_lengths t_lengths t_end t_index t_flags t_twice t_width t_precision t_conversion t_broken qt_piece t_piece t_put t_head qt_tens t_tens t_count t_exponent qt_work t_work) s.heap.size q := fun q h => Or.inr h
  obtain ⟨A, hAe⟩ : ∃ A, va_A (w_Model_clear G qt qt_draft t_draft t_drafted qt_result t_result t_length t_arguments qt_kinds t_kinds qt_values t_values qt_widths t_widths qt_below t_below qt_sizes t_sizes qt_scales t_scales qt_parts t_parts qt_texts t_texts qt_lengths t_lengths t_end t_index t_flags t_twice t_width t_precision t_conversion t_broken qt_piece t_piece t_put t_head qt_tens t_tens t_count t_exponent qt_work t_work) s.heap.size = A := ⟨_, rfl⟩
  rw [hAe] at hA hD hAb hQ
  have hS : va_S A s.heap s.heap [] := va_S.rf
  have hl := lv_entry (([.ref qt, .int a1, .long a2, .int a3] : List Value)) (n := 6) (Nat.le_of_ble_eq_true rfl)
  rw [lg_entry_eq]
  generalize (lg_sl (([.ref qt, .int a1, .long a2, .int a3] : List Value)) ++ List.replicate (6 - (lg_sl (([.ref qt, .int a1, .long a2, .int a3] : List Value))).length) Slot.unset).toArray = ls at hl ⊢
  have hl : lv_has ls 6 [(0, .ref qt), (1, .int a1), (2, .long a2), (4, .int a3)] := hl
  have W_45 : ∀ (t_arguments : Int32) (t_kinds : (Nat → Int32)) (t_values : (Nat → Int64)) (t_below : (Nat → Int32))  (n_45 : Nat) (z45 : Int32 × (Nat → Int32)) , lp_ (b_Model_argument_45  t_arguments t_kinds t_values t_below) n_45 z45 = some res → ∀ (H : Heap) (locs : List Loc) (ls : Array Slot), va_P (gD G) vwCl (w_Model_clear G qt qt_draft t_draft t_drafted qt_result t_result t_length t_arguments qt_kinds t_kinds qt_values t_values qt_widths t_widths qt_below t_below qt_sizes z45.2 qt_scales t_scales qt_parts t_parts qt_texts t_texts qt_lengths t_lengths t_end t_index t_flags t_twice t_width t_precision t_conversion t_broken qt_piece t_piece t_put t_head qt_tens t_tens t_count t_exponent qt_work t_work) H → va_D A (w_Model_clear G qt qt_draft t_draft t_drafted qt_result t_result t_length t_arguments qt_kinds t_kinds qt_values t_values qt_widths t_widths qt_below t_below qt_sizes z45.2 qt_scales t_scales qt_parts t_parts qt_texts t_texts qt_lengths t_lengths t_end t_index t_flags t_twice t_width t_precision t_conversion t_broken qt_piece t_piece t_put t_head qt_tens t_tens t_count t_exponent qt_work t_work) → va_S A s.heap H locs → lv_has ls 6 [(0, .ref qt), (5, .int z45.1)] → W p l e { frames := 0, cells := 0, slots := 0, locals := 0 } s m ([.ref qt, .int a1, .long a2, .int a3] : List Value).toArray below meth c H locs 0 0 Q (F0 m 45 ls []) := by
    intro t_arguments t_kinds t_values t_below n_45
    induction n_45 with
    | zero =>
      intro z45  hf
      cases hf
    | succ n_45 ih_45 =>
      intro z45  hf H locs ls hP hD hS hl
      have hf : b_Model_argument_45  t_arguments t_kinds t_values t_below (lp_ (b_Model_argument_45  t_arguments t_kinds t_values t_below) n_45) z45 = some res := hf
      generalize lp_ (b_Model_argument_45  t_arguments t_kinds t_values t_below) n_45 = rec_45 at hf ih_45
      unfold b_Model_argument_45 at hf
      refine lv_iload hx hb d_Model_argument_45 (lv_at hl 1 rfl) ?_
      refine lv_bipush (v := 32) hx hb d_Model_argument_47 (by decide) ?_
      refine lv_icmp_ge (tgt := 74) hx hb d_Model_argument_49 (by decide) (fun c_49 => ?_) (fun c_49 => ?_)
      · have hf := ip_ c_49 hf
        refine lv_aload_n hx hb d_Model_argument_74 rfl (lv_at hl 0 rfl) ?_
        refine lv_dup hx hb d_Model_argument_75 rfl ?_
        refine va_get (D := gD G) (ci := 7) (v := .int t_arguments) (C := R_Model) (T := F_Model) (N := 29) hx hb hg in_Model hown hK hP 0 rfl rfl 4 (by decide) (hg _ m_20) (fun _ h9 => h9) rfl d_Model_argument_76 ?_
        refine lv_iconst (v := 1) hx hb d_Model_argument_79 (by decide) ?_
        refine lv_iadd hx hb d_Model_argument_80 ?_
        refine va_put (D := gD G) (ci := 7) (v := .int (t_arguments + (1 : Int32))) (ty := .int) (C := R_Model) (T := F_Model) (N := 29) hx hb hg in_Model t_Model to_Model no_Model hown hK hP hD hS 0 rfl rfl 4 (by decide) (hg _ m_20) (fun _ h9 => h9) rfl (by decide +kernel) rfl rfl (Nat.le_of_ble_eq_true rfl) d_Model_argument_81 (fun H locs hP hD hS => ?_)
        have hP : va_P (gD G) vwCl (w_Model_clear G qt qt_draft t_draft t_drafted qt_result t_result t_length (t_arguments + (1 : Int32)) qt_kinds t_kinds qt_values t_values qt_widths t_widths qt_below t_below qt_sizes z45.2 qt_scales t_scales qt_parts t_parts qt_texts t_texts qt_lengths t_lengths t_end t_index t_flags t_twice t_width t_precision t_conversion t_broken qt_piece t_piece t_put t_head qt_tens t_tens t_count t_exponent qt_work t_work) H := hP
        have hD : va_D A (w_Model_clear G qt qt_draft t_draft t_drafted qt_result t_result t_length (t_arguments + (1 : Int32)) qt_kinds t_kinds qt_values t_values qt_widths t_widths qt_below t_below qt_sizes z45.2 qt_scales t_scales qt_parts t_parts qt_texts t_texts qt_lengths t_lengths t_end t_index t_flags t_twice t_width t_precision t_conversion t_broken qt_piece t_piece t_put t_head qt_tens t_tens t_count t_exponent qt_work t_work) := hD
        refine lv_aload_n hx hb d_Model_argument_84 rfl (lv_at hl 0 rfl) ?_
        refine va_get (D := gD G) (ci := 7) (v := .int (t_arguments + (1 : Int32))) (C := R_Model) (T := F_Model) (N := 29) hx hb hg in_Model hown hK hP 0 rfl rfl 4 (by decide) (hg _ m_20) (fun _ h9 => h9) rfl d_Model_argument_85 ?_
        obtain rfl := Option.some.inj hf
        rw [← hQ]
        exact W.iret (v := (t_arguments + (1 : Int32))) hx hb hr (fun t ht hW => ⟨⟨(t_arguments + (1 : Int32)), (), rfl, rfl, ⟨by rw [ht]; exact hP, hD⟩⟩, hS.F ht⟩) hS.2.2 d_Model_argument_88
      · have hf := in_ c_49 hf
        refine lv_aload_n hx hb d_Model_argument_52 rfl (lv_at hl 0 rfl) ?_
        refine va_get (D := gD G) (ci := 7) (v := .ref qt_sizes) (C := R_Model) (T := F_Model) (N := 29) hx hb hg in_Model hown hK hP 0 rfl rfl 9 (by decide) (hg _ m_24) (fun _ h9 => h9) rfl d_Model_argument_53 ?_
        refine lv_bipush (v := 32) hx hb d_Model_argument_56 (by decide) ?_
        refine lv_aload_n hx hb d_Model_argument_58 rfl (lv_at hl 0 rfl) ?_
        refine va_get (D := gD G) (ci := 7) (v := .int t_arguments) (C := R_Model) (T := F_Model) (N := 29) hx hb hg in_Model hown hK hP 0 rfl rfl 4 (by decide) (hg _ m_20) (fun _ h9 => h9) rfl d_Model_argument_59 ?_
        refine lv_imul hx hb d_Model_argument_62 ?_
        refine lv_iload hx hb d_Model_argument_63 (lv_at hl 1 rfl) ?_
        refine lv_iadd hx hb d_Model_argument_65 ?_
        refine lv_iconst (v := 0) hx hb d_Model_argument_66 (by decide) ?_
        obtain ⟨g_67, hf⟩ := gd_ hf
        refine va_iast hx hb hK hP hD hS 7 1 rfl rfl (inB_in g_67) d_Model_argument_67 (fun H locs hP hD hS => ?_)
        have hP : va_P (gD G) vwCl (w_Model_clear G qt qt_draft t_draft t_drafted qt_result t_result t_length t_arguments qt_kinds t_kinds qt_values t_values qt_widths t_widths qt_below t_below qt_sizes (upd z45.2 (((32 : Int32) * t_arguments) + z45.1).toNatClampNeg (0 : Int32)) qt_scales t_scales qt_parts t_parts qt_texts t_texts qt_lengths t_lengths t_end t_index t_flags t_twice t_width t_precision t_conversion t_broken qt_piece t_piece t_put t_head qt_tens t_tens t_count t_exponent qt_work t_work) H := hP
        have hD : va_D A (w_Model_clear G qt qt_draft t_draft t_drafted qt_result t_result t_length t_arguments qt_kinds t_kinds qt_values t_values qt_widths t_widths qt_below t_below qt_sizes (upd z45.2 (((32 : Int32) * t_arguments) + z45.1).toNatClampNeg (0 : Int32)) qt_scales t_scales qt_parts t_parts qt_texts t_texts qt_lengths t_lengths t_end t_index t_flags t_twice t_width t_precision t_conversion t_broken qt_piece t_piece t_put t_head qt_tens t_tens t_count t_exponent qt_work t_work) := hD
        refine lv_iinc (v := (z45.1 + 1)) (lv' := [(5, .int (z45.1 + 1)), (0, .ref qt)]) hx hb d_Model_argument_68 hl (k := 1) rfl rfl (by decide) rfl (fun ls hl => ?_)
        refine lv_goto (tgt := 45) hx hb d_Model_argument_71 (by decide) ?_
        exact ih_45 ((z45.1 + 1), (upd z45.2 (((32 : Int32) * t_arguments) + z45.1).toNatClampNeg (0 : Int32)))  hf _ _ _ hP hD hS (lv_sub hl [1, 0] rfl)
  unfold f_Model_argument at hf
  refine lv_aload_n hx hb d_Model_argument_0 rfl (lv_at hl 0 rfl) ?_
  refine va_get (D := gD G) (ci := 7) (v := .int t_arguments) (C := R_Model) (T := F_Model) (N := 29) hx hb hg in_Model hown hK hP 0 rfl rfl 4 (by decide) (hg _ m_20) (fun _ h9 => h9) rfl d_Model_argument_1 ?_
  refine lv_bipush (v := 12) hx hb d_Model_argument_4 (by decide) ?_
  refine lv_icmp_ne (tgt := 11) hx hb d_Model_argument_6 (by decide) (fun c_6 => ?_) (fun c_6 => ?_)
  · have hf := in_ c_6 hf
    refine lv_aload_n hx hb d_Model_argument_11 rfl (lv_at hl 0 rfl) ?_
    refine va_get (D := gD G) (ci := 7) (v := .ref qt_kinds) (C := R_Model) (T := F_Model) (N := 29) hx hb hg in_Model hown hK hP 0 rfl rfl 5 (by decide) (hg _ m_21) (fun _ h9 => h9) rfl d_Model_argument_12 ?_
    refine lv_aload_n hx hb d_Model_argument_15 rfl (lv_at hl 0 rfl) ?_
    refine va_get (D := gD G) (ci := 7) (v := .int t_arguments) (C := R_Model) (T := F_Model) (N := 29) hx hb hg in_Model hown hK hP 0 rfl rfl 4 (by decide) (hg _ m_20) (fun _ h9 => h9) rfl d_Model_argument_16 ?_
    refine lv_iload_n hx hb d_Model_argument_19 rfl (lv_at hl 1 rfl) ?_
    obtain ⟨g_20, hf⟩ := gd_ hf
    refine va_iast hx hb hK hP hD hS 3 1 rfl rfl (inB_in g_20) d_Model_argument_20 (fun H locs hP hD hS => ?_)
    have hP : va_P (gD G) vwCl (w_Model_clear G qt qt_draft t_draft t_drafted qt_result t_result t_length t_arguments qt_kinds (upd t_kinds t_arguments.toNatClampNeg a1) qt_values t_values qt_widths t_widths qt_below t_below qt_sizes t_sizes qt_scales t_scales qt_parts t_parts qt_texts t_texts qt_lengths t_lengths t_end t_index t_flags t_twice t_width t_precision t_conversion t_broken qt_piece t_piece t_put t_head qt_tens t_tens t_count t_exponent qt_work t_work) H := hP
    have hD : va_D A (w_Model_clear G qt qt_draft t_draft t_drafted qt_result t_result t_length t_arguments qt_kinds (upd t_kinds t_arguments.toNatClampNeg a1) qt_values t_values qt_widths t_widths qt_below t_below qt_sizes t_sizes qt_scales t_scales qt_parts t_parts qt_texts t_texts qt_lengths t_lengths t_end t_index t_flags t_twice t_width t_precision t_conversion t_broken qt_piece t_piece t_put t_head qt_tens t_tens t_count t_exponent qt_work t_work) := hD
    refine lv_aload_n hx hb d_Model_argument_21 rfl (lv_at hl 0 rfl) ?_
    refine va_get (D := gD G) (ci := 7) (v := .ref qt_values) (C := R_Model) (T := F_Model) (N := 29) hx hb hg in_Model hown hK hP 0 rfl rfl 6 (by decide) (hg _ m_22) (fun _ h9 => h9) rfl d_Model_argument_22 ?_
    refine lv_aload_n hx hb d_Model_argument_25 rfl (lv_at hl 0 rfl) ?_
    refine va_get (D := gD G) (ci := 7) (v := .int t_arguments) (C := R_Model) (T := F_Model) (N := 29) hx hb hg in_Model hown hK hP 0 rfl rfl 4 (by decide) (hg _ m_20) (fun _ h9 => h9) rfl d_Model_argument_26 ?_
    refine lv_lload_n hx hb d_Model_argument_29 rfl (lv_at hl 2 rfl) ?_
    obtain ⟨g_30, hf⟩ := gd_ hf
    refine va_last hx hb hK hP hD hS 4 2 rfl rfl (inB_in g_30) d_Model_argument_30 (fun H locs hP hD hS => ?_)
    have hP : va_P (gD G) vwCl (w_Model_clear G qt qt_draft t_draft t_drafted qt_result t_result t_length t_arguments qt_kinds (upd t_kinds t_arguments.toNatClampNeg a1) qt_values (vp_updL t_values t_arguments.toNatClampNeg a2) qt_widths t_widths qt_below t_below qt_sizes t_sizes qt_scales t_scales qt_parts t_parts qt_texts t_texts qt_lengths t_lengths t_end t_index t_flags t_twice t_width t_precision t_conversion t_broken qt_piece t_piece t_put t_head qt_tens t_tens t_count t_exponent qt_work t_work) H := hP
    have hD : va_D A (w_Model_clear G qt qt_draft t_draft t_drafted qt_result t_result t_length t_arguments qt_kinds (upd t_kinds t_arguments.toNatClampNeg a1) qt_values (vp_updL t_values t_arguments.toNatClampNeg a2) qt_widths t_widths qt_below t_below qt_sizes t_sizes qt_scales t_scales qt_parts t_parts qt_texts t_texts qt_lengths t_lengths t_end t_index t_flags t_twice t_width t_precision t_conversion t_broken qt_piece t_piece t_put t_head qt_tens t_tens t_count t_exponent qt_work t_work) := hD
    refine lv_aload_n hx hb d_Model_argument_31 rfl (lv_at hl 0 rfl) ?_
    refine va_get (D := gD G) (ci := 7) (v := .ref qt_below) (C := R_Model) (T := F_Model) (N := 29) hx hb hg in_Model hown hK hP 0 rfl rfl 8 (by decide) (hg _ m_23) (fun _ h9 => h9) rfl d_Model_argument_32 ?_
    refine lv_aload_n hx hb d_Model_argument_35 rfl (lv_at hl 0 rfl) ?_
    refine va_get (D := gD G) (ci := 7) (v := .int t_arguments) (C := R_Model) (T := F_Model) (N := 29) hx hb hg in_Model hown hK hP 0 rfl rfl 4 (by decide) (hg _ m_20) (fun _ h9 => h9) rfl d_Model_argument_36 ?_
    refine lv_iload hx hb d_Model_argument_39 (lv_at hl 3 rfl) ?_
    obtain ⟨g_41, hf⟩ := gd_ hf
    refine va_zast hx hb hK hP hD hS 6 3 rfl rfl (inB_in g_41) d_Model_argument_41 (fun H locs hP hD hS => ?_)
    have hP : va_P (gD G) vwCl (w_Model_clear G qt qt_draft t_draft t_drafted qt_result t_result t_length t_arguments qt_kinds (upd t_kinds t_arguments.toNatClampNeg a1) qt_values (vp_updL t_values t_arguments.toNatClampNeg a2) qt_widths t_widths qt_below (upd t_below t_arguments.toNatClampNeg (vp_nar .boolean a3)) qt_sizes t_sizes qt_scales t_scales qt_parts t_parts qt_texts t_texts qt_lengths t_lengths t_end t_index t_flags t_twice t_width t_precision t_conversion t_broken qt_piece t_piece t_put t_head qt_tens t_tens t_count t_exponent qt_work t_work) H := hP
    have hD : va_D A (w_Model_clear G qt qt_draft t_draft t_drafted qt_result t_result t_length t_arguments qt_kinds (upd t_kinds t_arguments.toNatClampNeg a1) qt_values (vp_updL t_values t_arguments.toNatClampNeg a2) qt_widths t_widths qt_below (upd t_below t_arguments.toNatClampNeg (vp_nar .boolean a3)) qt_sizes t_sizes qt_scales t_scales qt_parts t_parts qt_texts t_texts qt_lengths t_lengths t_end t_index t_flags t_twice t_width t_precision t_conversion t_broken qt_piece t_piece t_put t_head qt_tens t_tens t_count t_exponent qt_work t_work) := hD
    refine lv_iconst (v := 0) hx hb d_Model_argument_42 (by decide) ?_
    refine lv_istore (lv' := [(5, .int (0 : Int32)), (0, .ref qt), (1, .int a1), (2, .long a2), (4, .int a3)]) hx hb d_Model_argument_43 hl (by decide) rfl (fun ls hl => ?_)
    exact W_45 t_arguments (upd t_kinds t_arguments.toNatClampNeg a1) (vp_updL t_values t_arguments.toNatClampNeg a2) (upd t_below t_arguments.toNatClampNeg (vp_nar .boolean a3))  K ((0 : Int32), t_sizes)  hf _ _ _ hP hD hS (lv_sub hl [1, 0] rfl)
  · have hf := ip_ c_6 hf
    refine lv_iconst (v := -1) hx hb d_Model_argument_9 (by decide) ?_
    obtain rfl := Option.some.inj hf
    rw [← hQ]
    exact W.iret (v := (-1 : Int32)) hx hb hr (fun t ht hW => ⟨⟨(-1 : Int32), (), rfl, rfl, ⟨by rw [ht]; exact hP, hD⟩⟩, hS.F ht⟩) hS.2.2 d_Model_argument_10
theorem d_Model_nothing_0 : decode b_Model_nothing 0 = .ok (.aload_n 0, 1) := by decide +kernel
theorem d_Model_nothing_1 : decode b_Model_nothing 1 = .ok (.iconst 0, 1) := by decide +kernel
theorem d_Model_nothing_2 : decode b_Model_nothing 2 = .ok (.lconst 0, 1) := by decide +kernel
theorem d_Model_nothing_3 : decode b_Model_nothing 3 = .ok (.iconst 0, 1) := by decide +kernel
theorem d_Model_nothing_4 : decode b_Model_nothing 4 = .ok (.invokevirtual 63, 3) := by decide +kernel
theorem d_Model_nothing_7 : decode b_Model_nothing 7 = .ok (.ireturn, 1) := by decide +kernel
theorem m_25 : Cond.methodLink R_Model 63 y_Model_argument ∈ gw := gm (i := 962) (by decide +kernel) (by decide +kernel)
theorem m_26 : Cond.instanceMethod y_Model_argument ∈ gw := gm (i := 964) (by decide +kernel) (by decide +kernel)
theorem m_27 : Cond.selects R_Model y_Model_argument y_Model_argument ∈ gw := gm (i := 38) (by decide +kernel) (by decide +kernel)
theorem m_28 : Cond.initialized R_Model ∈ gw := gm (i := 92) (by decide +kernel) (by decide +kernel)
set_option maxRecDepth 100000 in
theorem m_29 : Cond.code y_Model_argument b_Model_argument 6 (some .int) ∈ gw := gm (i := 965) rfl rfl
def f_Model_nothing (K : Nat) (t_arguments : Int32) (t_kinds : Nat → Int32) (t_values : Nat → Int64) (t_below : Nat → Int32) (t_sizes : Nat → Int32) : Option (Int32 × Int32 × (Nat → Int32) × (Nat → Int64) × (Nat → Int32) × (Nat → Int32)) :=
  ((f_Model_argument K t_arguments t_kinds t_values t_below t_sizes (0 : Int32) (0 : Int64) (0 : Int32)).bind fun u_4 => some (u_4.1, u_4.2.1, u_4.2.2.1, u_4.2.2.2.1, u_4.2.2.2.2.1, u_4.2.2.2.2.2))
set_option maxHeartbeats 4000000 in
set_option maxRecDepth 100000 in
theorem c_Model_nothing (l : Launch) (G : Gt) (K : Nat) (qt : Nat) (qt_draft : Nat) (t_draft : Nat → Int32) (t_drafted : Int32) (qt_result : Nat) (t_result : Nat → Int32) (t_length : Int32) (t_arguments : Int32) (qt_kinds : Nat) (t_kinds : Nat → Int32) (qt_values : Nat) (t_values : Nat → Int64) (qt_widths : Nat) (t_widths : Nat → Int32) (qt_below : Nat) (t_below : Nat → Int32) (qt_sizes : Nat) (t_sizes : Nat → Int32) (qt_scales : Nat) (t_scales : Nat → Int32) (qt_parts : Nat) (t_parts : Nat → Int64) (qt_texts : Nat) (t_texts : Nat → Int32) (qt_lengths : Nat) (t_lengths : Nat → Int32) (t_end : Int32) (t_index : Int32) (t_flags : Int32) (t_twice : Int32) (t_width : Int32) (t_precision : Int32) (t_conversion : Int32) (t_broken : Int32) (qt_piece : Nat) (t_piece : Nat → Int32) (t_put : Int32) (t_head : Int32) (qt_tens : Nat) (t_tens : Nat → Int32) (t_count : Int32) (t_exponent : Int32) (qt_work : Nat) (t_work : Nat → Int32) (sz : Nat) (res : Int32 × Int32 × (Nat → Int32) × (Nat → Int64) × (Nat → Int32) × (Nat → Int32))   (hf : f_Model_nothing K t_arguments t_kinds t_values t_below t_sizes = some res) : Met l y_Model_nothing (.code y_Model_nothing b_Model_nothing 1 (some .int) :: gw) { frames := 1, cells := 0, slots := 0, locals := 40 } (PC G ([.ref qt] : List Value) sz (w_Model_clear G qt qt_draft t_draft t_drafted qt_result t_result t_length t_arguments qt_kinds t_kinds qt_values t_values qt_widths t_widths qt_below t_below qt_sizes t_sizes qt_scales t_scales qt_parts t_parts qt_texts t_texts qt_lengths t_lengths t_end t_index t_flags t_twice t_width t_precision t_conversion t_broken qt_piece t_piece t_put t_head qt_tens t_tens t_count t_exponent qt_work t_work)) (QI G res.1 (va_A (w_Model_clear G qt qt_draft t_draft t_drafted qt_result t_result t_length t_arguments qt_kinds t_kinds qt_values t_values qt_widths t_widths qt_below t_below qt_sizes t_sizes qt_scales t_scales qt_parts t_parts qt_texts t_texts qt_lengths t_lengths t_end t_index t_flags t_twice t_width t_precision t_conversion t_broken qt_piece t_piece t_put t_head qt_tens t_tens t_count t_exponent qt_work t_work) sz) (w_Model_clear G qt qt_draft t_draft t_drafted qt_result t_result t_length res.2.1 qt_kinds res.2.2.1 qt_values res.2.2.2.1 qt_widths t_widths qt_below res.2.2.2.2.1 qt_sizes res.2.2.2.2.2 qt_scales t_scales qt_parts t_parts qt_texts t_texts qt_lengths t_lengths t_end t_index t_flags t_twice t_width t_precision t_conversion t_broken qt_piece t_piece t_put t_head qt_tens t_tens t_count t_exponent qt_work t_work)) 0 0 (va_A (w_Model_clear G qt qt_draft t_draft t_drafted qt_result t_result t_length t_arguments qt_kinds t_kinds qt_values t_values qt_widths t_widths qt_below t_below qt_sizes t_sizes qt_scales t_scales qt_parts t_parts qt_texts t_texts qt_lengths t_lengths t_end t_index t_flags t_twice t_width t_precision t_conversion t_broken qt_piece t_piece t_put t_head qt_tens t_tens t_count t_exponent qt_work t_work) sz) := by
  refine Met.ofW (cc := b_Model_nothing) (maxL := 1) (ret := (some .int)) (by decide) rfl ?_
  intro p e s m args below meth c s₁ B hml hv
  obtain ⟨rfl, hsz, hP, hE, hD0⟩ := hv
  have hx := B.exec
  have hb := B.bytes
  have hr := B.returns
  have hts := atoms_spec (ws := (.code y_Model_nothing b_Model_nothing 1 (some .int) :: gw)) B.pre
  have hg : ∀ w ∈ gw, w.before _ s = true := fun w h => hts w (List.mem_cons_of_mem _ h)
  have hown : s.vm.findClass R_Model = some m.cls := findClass_of_methodNamed B.named
  have hlocks := B.notSynchronized
  subst hsz
  have hK := hE.K
  have hD := hD0.self (sz := s.heap.size)
  have hAb := hE.ab hD0
  obtain ⟨Q, hQ⟩ : ∃ Q, MQ below (QI G res.1 (va_A (w_Model_clear G qt qt_draft t_draft t_drafted qt_result t_result t_length t_arguments qt_kinds t_kinds qt_values t_values qt_widths t_widths qt_below t_below qt_sizes t_sizes qt_scales t_scales qt_parts t_parts qt_texts t_texts qt_lengths t_lengths t_end t_index t_flags t_twice t_width t_precision t_conversion t_broken qt_piece t_piece t_put t_head qt_tens t_tens t_count t_exponent qt_work t_work) s.heap.size) (w_Model_clear G qt qt_draft t_draft t_drafted qt_result t_result t_length res.2.1 qt_kinds res.2.2.1 qt_values res.2.2.2.1 qt_widths t_widths qt_below res.2.2.2.2.1 qt_sizes res.2.2.2.2.2 qt_scales t_scales qt_parts t_parts qt_texts t_texts qt_lengths t_lengths t_end t_index t_flags t_twice t_width t_precision t_conversion t_broken qt_piece t_piece t_put t_head qt_tens t_tens t_count t_exponent qt_work t_work)) ([.ref qt] : List Value).toArray s 0 0 (va_A (w_Model_clear G qt qt_draft t_draft t_drafted qt_result t_result t_length t_arguments qt_kinds t_kinds qt_values t_values qt_widths t_widths qt_below t_below qt_sizes t_sizes qt_scales t_scales qt_parts t_parts qt_texts t_texts qt_lengths t_lengths t_end t_index t_flags t_twice t_width t_precision t_conversion t_broken qt_piece t_piece t_put t_head qt_tens t_tens t_count t_exponent qt_work t_work) s.heap.size) = Q := ⟨_, rfl⟩
  show W p l e { frames := 1, cells := 0, slots := 0, locals := 40 } s m ([.ref qt] : List Value).toArray below meth c s.heap [] 0 0 (MQ below (QI G res.1 (va_A (w_Model_clear G qt qt_draft t_draft t_drafted qt_result t_result t_length t_arguments qt_kinds t_kinds qt_values t_values qt_widths t_widths qt_below t_below qt_sizes t_sizes qt_scales t_scales qt_parts t_parts qt_texts t_texts qt_lengths t_lengths t_end t_index t_flags t_twice t_width t_precision t_conversion t_broken qt_piece t_piece t_put t_head qt_tens t_tens t_count t_exponent qt_work t_work) s.heap.size) (w_Model_clear G qt qt_draft t_draft t_drafted qt_result t_result t_length res.2.1 qt_kinds res.2.2.1 qt_values res.2.2.2.1 qt_widths t_widths qt_below res.2.2.2.2.1 qt_sizes res.2.2.2.2.2 qt_scales t_scales qt_parts t_parts qt_texts t_texts qt_lengths t_lengths t_end t_index t_flags t_twice t_width t_precision t_conversion t_broken qt_piece t_piece t_put t_head qt_tens t_tens t_count t_exponent qt_work t_work)) ([.ref qt] : List Value).toArray s 0 0 (va_A (w_Model_clear G qt qt_draft t_draft t_drafted qt_result t_result t_length t_arguments qt_kinds t_kinds qt_values t_values qt_widths t_widths qt_below t_below qt_sizes t_sizes qt_scales t_scales qt_parts t_parts qt_texts t_texts qt_lengths t_lengths t_end t_index t_flags t_twice t_width t_precision t_conversion t_broken qt_piece t_piece t_put t_head qt_tens t_tens t_count t_exponent qt_work t_work) s.heap.size)) _
  rw [hQ]
  have hA : ∀ q : Nat, s.heap.size ≤ q → va_A (w_Model_clear G qt qt_draft t_draft t_drafted qt_result t_result t_length t_arguments qt_kinds t_kinds qt_values t_values qt_widths t_widths qt_below t_below qt_sizes t_sizes qt_scales t_scales qt_parts t_parts qt_texts t_texts qt_lengths t_lengths t_end t_index t_flags t_twice t_width t_precision t_conversion t_broken qt_piece t_piece t_put t_head qt_tens t_tens t_count t_exponent qt_work t_work) s.heap.size q := fun q h => Or.inr h
  obtain ⟨A, hAe⟩ : ∃ A, va_A (w_Model_clear G qt qt_draft t_draft t_drafted qt_result t_result t_length t_arguments qt_kinds t_kinds qt_values t_values qt_widths t_widths qt_below t_below qt_sizes t_sizes qt_scales t_scales qt_parts t_parts qt_texts t_texts qt_lengths t_lengths t_end t_index t_flags t_twice t_width t_precision t_conversion t_broken qt_piece t_piece t_put t_head qt_tens t_tens t_count t_exponent qt_work t_work) s.heap.size = A := ⟨_, rfl⟩
  rw [hAe] at hA hD hAb hQ
  have hS : va_S A s.heap s.heap [] := va_S.rf
  have hl := lv_entry (([.ref qt] : List Value)) (n := 1) (Nat.le_of_ble_eq_true rfl)
  rw [lg_entry_eq]
  generalize (lg_sl (([.ref qt] : List Value)) ++ List.replicate (1 - (lg_sl (([.ref qt] : List Value))).length) Slot.unset).toArray = ls at hl ⊢
  have hl : lv_has ls 1 [(0, .ref qt)] := hl
  unfold f_Model_nothing at hf
  refine lv_aload_n hx hb d_Model_nothing_0 rfl (lv_at hl 0 rfl) ?_
  refine lv_iconst (v := 0) hx hb d_Model_nothing_1 (by decide) ?_
  refine lv_lconst (v := 0) hx hb d_Model_nothing_2 (by decide) ?_
  refine lv_iconst (v := 0) hx hb d_Model_nothing_3 (by decide) ?_
  obtain ⟨u_4, hu_4, hf⟩ := bd_ hf
  refine CALLWi (va_runV (As := [.int (0 : Int32), .long (0 : Int64), .int (0 : Int32)]) (rest := []) ⟨hx, hb, hml, hown, hg⟩ (c_Model_argument l G K qt qt_draft t_draft t_drafted qt_result t_result t_length t_arguments qt_kinds t_kinds qt_values t_values qt_widths t_widths qt_below t_below qt_sizes t_sizes qt_scales t_scales qt_parts t_parts qt_texts t_texts qt_lengths t_lengths t_end t_index t_flags t_twice t_width t_precision t_conversion t_broken qt_piece t_piece t_put t_head qt_tens t_tens t_count t_exponent qt_work t_work (0 : Int32) (0 : Int64) (0 : Int32) _ u_4 bl_0 hu_4) (cwV 3 hg (gV m_25 m_26 m_27 m_28 m_29) rfl rfl rfl (by decide +kernel) ⟨Nat.le_of_ble_eq_true rfl, Nat.le_of_ble_eq_true rfl⟩) ⟨PC_b, va_recv hK hP (ci := 7) (q0 := 0) rfl rfl, PC_p hE hS hAb hP hD⟩ rfl rfl hl.1 rfl (lv_room (Nat.le_of_ble_eq_true rfl)) d_Model_nothing_4 ⟨Nat.zero_le _, Nat.zero_le _⟩) hP hD hS hA (fun H locs hP hD hS => ?_)
  have hP : va_P (gD G) vwCl (w_Model_clear G qt qt_draft t_draft t_drafted qt_result t_result t_length u_4.2.1 qt_kinds u_4.2.2.1 qt_values u_4.2.2.2.1 qt_widths t_widths qt_below u_4.2.2.2.2.1 qt_sizes u_4.2.2.2.2.2 qt_scales t_scales qt_parts t_parts qt_texts t_texts qt_lengths t_lengths t_end t_index t_flags t_twice t_width t_precision t_conversion t_broken qt_piece t_piece t_put t_head qt_tens t_tens t_count t_exponent qt_work t_work) H := hP
  have hD : va_D A (w_Model_clear G qt qt_draft t_draft t_drafted qt_result t_result t_length u_4.2.1 qt_kinds u_4.2.2.1 qt_values u_4.2.2.2.1 qt_widths t_widths qt_below u_4.2.2.2.2.1 qt_sizes u_4.2.2.2.2.2 qt_scales t_scales qt_parts t_parts qt_texts t_texts qt_lengths t_lengths t_end t_index t_flags t_twice t_width t_precision t_conversion t_broken qt_piece t_piece t_put t_head qt_tens t_tens t_count t_exponent qt_work t_work) := hD
  obtain rfl := Option.some.inj hf
  rw [← hQ]
  exact W.iret (v := u_4.1) hx hb hr (fun t ht hW => ⟨⟨u_4.1, (), rfl, rfl, ⟨by rw [ht]; exact hP, hD⟩⟩, hS.F ht⟩) hS.2.2 d_Model_nothing_7
theorem d_Model_truth_0 : decode b_Model_truth 0 = .ok (.aload_n 0, 1) := by decide +kernel
theorem d_Model_truth_1 : decode b_Model_truth 1 = .ok (.iconst 1, 1) := by decide +kernel
theorem d_Model_truth_2 : decode b_Model_truth 2 = .ok (.iload_n 1, 1) := by decide +kernel
theorem d_Model_truth_3 : decode b_Model_truth 3 = .ok (.ifCond .eq 7, 3) := by decide +kernel
theorem d_Model_truth_6 : decode b_Model_truth 6 = .ok (.lconst 1, 1) := by decide +kernel
theorem d_Model_truth_7 : decode b_Model_truth 7 = .ok (.goto 4, 3) := by decide +kernel
theorem d_Model_truth_10 : decode b_Model_truth 10 = .ok (.lconst 0, 1) := by decide +kernel
theorem d_Model_truth_11 : decode b_Model_truth 11 = .ok (.iconst 0, 1) := by decide +kernel
theorem d_Model_truth_12 : decode b_Model_truth 12 = .ok (.invokevirtual 63, 3) := by decide +kernel
theorem d_Model_truth_15 : decode b_Model_truth 15 = .ok (.ireturn, 1) := by decide +kernel
def k_Model_truth_11 (K : Nat) (k1 : Int32) (k2 : Int64) (t_arguments : Int32) (t_kinds : (Nat → Int32)) (t_values : (Nat → Int64)) (t_below : (Nat → Int32)) (t_sizes : (Nat → Int32)) : Option (Int32 × Int32 × (Nat → Int32) × (Nat → Int64) × (Nat → Int32) × (Nat → Int32)) :=
  ((f_Model_argument K t_arguments t_kinds t_values t_below t_sizes k1 k2 (0 : Int32)).bind fun u_12 => some (u_12.1, u_12.2.1, u_12.2.2.1, u_12.2.2.2.1, u_12.2.2.2.2.1, u_12.2.2.2.2.2))
def f_Model_truth (K : Nat) (t_arguments : Int32) (t_kinds : Nat → Int32) (t_values : Nat → Int64) (t_below : Nat → Int32) (t_sizes : Nat → Int32) (a1 : Int32) : Option (Int32 × Int32 × (Nat → Int32) × (Nat → Int64) × (Nat → Int32) × (Nat → Int32)) :=
  (if a1 = 0 then k_Model_truth_11 K (1 : Int32) (0 : Int64) t_arguments t_kinds t_values t_below t_sizes else k_Model_truth_11 K (1 : Int32) (1 : Int64) t_arguments t_kinds t_values t_below t_sizes)
set_option maxHeartbeats 4000000 in
set_option maxRecDepth 100000 in
theorem c_Model_truth (l : Launch) (G : Gt) (K : Nat) (qt : Nat) (qt_draft : Nat) (t_draft : Nat → Int32) (t_drafted : Int32) (qt_result : Nat) (t_result : Nat → Int32) (t_length : Int32) (t_arguments : Int32) (qt_kinds : Nat) (t_kinds : Nat → Int32) (qt_values : Nat) (t_values : Nat → Int64) (qt_widths : Nat) (t_widths : Nat → Int32) (qt_below : Nat) (t_below : Nat → Int32) (qt_sizes : Nat) (t_sizes : Nat → Int32) (qt_scales : Nat) (t_scales : Nat → Int32) (qt_parts : Nat) (t_parts : Nat → Int64) (qt_texts : Nat) (t_texts : Nat → Int32) (qt_lengths : Nat) (t_lengths : Nat → Int32) (t_end : Int32) (t_index : Int32) (t_flags : Int32) (t_twice : Int32) (t_width : Int32) (t_precision : Int32) (t_conversion : Int32) (t_broken : Int32) (qt_piece : Nat) (t_piece : Nat → Int32) (t_put : Int32) (t_head : Int32) (qt_tens : Nat) (t_tens : Nat → Int32) (t_count : Int32) (t_exponent : Int32) (qt_work : Nat) (t_work : Nat → Int32) (a1 : Int32) (sz : Nat) (res : Int32 × Int32 × (Nat → Int32) × (Nat → Int64) × (Nat → Int32) × (Nat → Int32)) (hb_a1 : bl a1)  (hf : f_Model_truth K t_arguments t_kinds t_values t_below t_sizes a1 = some res) : Met l y_Model_truth (.code y_Model_truth b_Model_truth 2 (some .int) :: gw) { frames := 1, cells := 0, slots := 0, locals := 40 } (PC G ([.ref qt, .int a1] : List Value) sz (w_Model_clear G qt qt_draft t_draft t_drafted qt_result t_result t_length t_arguments qt_kinds t_kinds qt_values t_values qt_widths t_widths qt_below t_below qt_sizes t_sizes qt_scales t_scales qt_parts t_parts qt_texts t_texts qt_lengths t_lengths t_end t_index t_flags t_twice t_width t_precision t_conversion t_broken qt_piece t_piece t_put t_head qt_tens t_tens t_count t_exponent qt_work t_work)) (QI G res.1 (va_A (w_Model_clear G qt qt_draft t_draft t_drafted qt_result t_result t_length t_arguments qt_kinds t_kinds qt_values t_values qt_widths t_widths qt_below t_below qt_sizes t_sizes qt_scales t_scales qt_parts t_parts qt_texts t_texts qt_lengths t_lengths t_end t_index t_flags t_twice t_width t_precision t_conversion t_broken qt_piece t_piece t_put t_head qt_tens t_tens t_count t_exponent qt_work t_work) sz) (w_Model_clear G qt qt_draft t_draft t_drafted qt_result t_result t_length res.2.1 qt_kinds res.2.2.1 qt_values res.2.2.2.1 qt_widths t_widths qt_below res.2.2.2.2.1 qt_sizes res.2.2.2.2.2 qt_scales t_scales qt_parts t_parts qt_texts t_texts qt_lengths t_lengths t_end t_index t_flags t_twice t_width t_precision t_conversion t_broken qt_piece t_piece t_put t_head qt_tens t_tens t_count t_exponent qt_work t_work)) 0 0 (va_A (w_Model_clear G qt qt_draft t_draft t_drafted qt_result t_result t_length t_arguments qt_kinds t_kinds qt_values t_values qt_widths t_widths qt_below t_below qt_sizes t_sizes qt_scales t_scales qt_parts t_parts qt_texts t_texts qt_lengths t_lengths t_end t_index t_flags t_twice t_width t_precision t_conversion t_broken qt_piece t_piece t_put t_head qt_tens t_tens t_count t_exponent qt_work t_work) sz) := by
  refine Met.ofW (cc := b_Model_truth) (maxL := 2) (ret := (some .int)) (by decide) rfl ?_
  intro p e s m args below meth c s₁ B hml hv
  obtain ⟨rfl, hsz, hP, hE, hD0⟩ := hv
  have hx := B.exec
  have hb := B.bytes
  have hr := B.returns
  have hts := atoms_spec (ws := (.code y_Model_truth b_Model_truth 2 (some .int) :: gw)) B.pre
  have hg : ∀ w ∈ gw, w.before _ s = true := fun w h => hts w (List.mem_cons_of_mem _ h)
  have hown : s.vm.findClass R_Model = some m.cls := findClass_of_methodNamed B.named
  have hlocks := B.notSynchronized
  subst hsz
  have hK := hE.K
  have hD := hD0.self (sz := s.heap.size)
  have hAb := hE.ab hD0
  obtain ⟨Q, hQ⟩ : ∃ Q, MQ below (QI G res.1 (va_A (w_Model_clear G qt qt_draft t_draft t_drafted qt_result t_result t_length t_arguments qt_kinds t_kinds qt_values t_values qt_widths t_widths qt_below t_below qt_sizes t_sizes qt_scales t_scales qt_parts t_parts qt_texts t_texts qt_lengths t_lengths t_end t_index t_flags t_twice t_width t_precision t_conversion t_broken qt_piece t_piece t_put t_head qt_tens t_tens t_count t_exponent qt_work t_work) s.heap.size) (w_Model_clear G qt qt_draft t_draft t_drafted qt_result t_result t_length res.2.1 qt_kinds res.2.2.1 qt_values res.2.2.2.1 qt_widths t_widths qt_below res.2.2.2.2.1 qt_sizes res.2.2.2.2.2 qt_scales t_scales qt_parts t_parts qt_texts t_texts qt_lengths t_lengths t_end t_index t_flags t_twice t_width t_precision t_conversion t_broken qt_piece t_piece t_put t_head qt_tens t_tens t_count t_exponent qt_work t_work)) ([.ref qt, .int a1] : List Value).toArray s 0 0 (va_A (w_Model_clear G qt qt_draft t_draft t_drafted qt_result t_result t_length t_arguments qt_kinds t_kinds qt_values t_values qt_widths t_widths qt_below t_below qt_sizes t_sizes qt_scales t_scales qt_parts t_parts qt_texts t_texts qt_lengths t_lengths t_end t_index t_flags t_twice t_width t_precision t_conversion t_broken qt_piece t_piece t_put t_head qt_tens t_tens t_count t_exponent qt_work t_work) s.heap.size) = Q := ⟨_, rfl⟩
  show W p l e { frames := 1, cells := 0, slots := 0, locals := 40 } s m ([.ref qt, .int a1] : List Value).toArray below meth c s.heap [] 0 0 (MQ below (QI G res.1 (va_A (w_Model_clear G qt qt_draft t_draft t_drafted qt_result t_result t_length t_arguments qt_kinds t_kinds qt_values t_values qt_widths t_widths qt_below t_below qt_sizes t_sizes qt_scales t_scales qt_parts t_parts qt_texts t_texts qt_lengths t_lengths t_end t_index t_flags t_twice t_width t_precision t_conversion t_broken qt_piece t_piece t_put t_head qt_tens t_tens t_count t_exponent qt_work t_work) s.heap.size) (w_Model_clear G qt qt_draft t_draft t_drafted qt_result t_result t_length res.2.1 qt_kinds res.2.2.1 qt_values res.2.2.2.1 qt_widths t_widths qt_below res.2.2.2.2.1 qt_sizes res.2.2.2.2.2 qt_scales t_scales qt_parts t_parts qt_texts t_texts qt_lengths t_lengths t_end t_index t_flags t_twice t_width t_precision t_conversion t_broken qt_piece t_piece t_put t_head qt_tens t_tens t_count t_exponent qt_work t_work)) ([.ref qt, .int a1] : List Value).toArray s 0 0 (va_A (w_Model_clear G qt qt_draft t_draft t_drafted qt_result t_result t_length t_arguments qt_kinds t_kinds qt_values t_values qt_widths t_widths qt_below t_below qt_sizes t_sizes qt_scales t_scales qt_parts t_parts qt_texts t_texts qt_lengths t_lengths t_end t_index t_flags t_twice t_width t_precision t_conversion t_broken qt_piece t_piece t_put t_head qt_tens t_tens t_count t_exponent qt_work t_work) s.heap.size)) _
  rw [hQ]
  have hA : ∀ q : Nat, s.heap.size ≤ q → va_A (w_Model_clear G qt qt_draft t_draft t_drafted qt_result t_result t_length t_arguments qt_kinds t_kinds qt_values t_values qt_widths t_widths qt_below t_below qt_sizes t_sizes qt_scales t_scales qt_parts t_parts qt_texts t_texts qt_lengths t_lengths t_end t_index t_flags t_twice t_width t_precision t_conversion t_broken qt_piece t_piece t_put t_head qt_tens t_tens t_count t_exponent qt_work t_work) s.heap.size q := fun q h => Or.inr h
  obtain ⟨A, hAe⟩ : ∃ A, va_A (w_Model_clear G qt qt_draft t_draft t_drafted qt_result t_result t_length t_arguments qt_kinds t_kinds qt_values t_values qt_widths t_widths qt_below t_below qt_sizes t_sizes qt_scales t_scales qt_parts t_parts qt_texts t_texts qt_lengths t_lengths t_end t_index t_flags t_twice t_width t_precision t_conversion t_broken qt_piece t_piece t_put t_head qt_tens t_tens t_count t_exponent qt_work t_work) s.heap.size = A := ⟨_, rfl⟩
  rw [hAe] at hA hD hAb hQ
  have hS : va_S A s.heap s.heap [] := va_S.rf
  have hl := lv_entry (([.ref qt, .int a1] : List Value)) (n := 2) (Nat.le_of_ble_eq_true rfl)
  rw [lg_entry_eq]
  generalize (lg_sl (([.ref qt, .int a1] : List Value)) ++ List.replicate (2 - (lg_sl (([.ref qt, .int a1] : List Value))).length) Slot.unset).toArray = ls at hl ⊢
  have hl : lv_has ls 2 [(0, .ref qt), (1, .int a1)] := hl
  have W_11 : ∀ (k1 : Int32) (k2 : Int64) (t_arguments : Int32) (t_kinds : (Nat → Int32)) (t_values : (Nat → Int64)) (t_below : (Nat → Int32)) (t_sizes : (Nat → Int32)) (b_k1 : bl k1), k_Model_truth_11 K k1 k2 t_arguments t_kinds t_values t_below t_sizes = some res → ∀ (H : Heap) (locs : List Loc) (ls : Array Slot), va_P (gD G) vwCl (w_Model_clear G qt qt_draft t_draft t_drafted qt_result t_result t_length t_arguments qt_kinds t_kinds qt_values t_values qt_widths t_widths qt_below t_below qt_sizes t_sizes qt_scales t_scales qt_parts t_parts qt_texts t_texts qt_lengths t_lengths t_end t_index t_flags t_twice t_width t_precision t_conversion t_broken qt_piece t_piece t_put t_head qt_tens t_tens t_count t_exponent qt_work t_work) H → va_D A (w_Model_clear G qt qt_draft t_draft t_drafted qt_result t_result t_length t_arguments qt_kinds t_kinds qt_values t_values qt_widths t_widths qt_below t_below qt_sizes t_sizes qt_scales t_scales qt_parts t_parts qt_texts t_texts qt_lengths t_lengths t_end t_index t_flags t_twice t_width t_precision t_conversion t_broken qt_piece t_piece t_put t_head qt_tens t_tens t_count t_exponent qt_work t_work) → va_S A s.heap H locs → lv_has ls 2 [] → W p l e { frames := 1, cells := 0, slots := 0, locals := 40 } s m ([.ref qt, .int a1] : List Value).toArray below meth c H locs 0 0 Q (F0 m 11 ls [.long k2, .int k1, .ref qt]) := by
    intro k1 k2 t_arguments t_kinds t_values t_below t_sizes b_k1 hf H locs ls hP hD hS hl
    unfold k_Model_truth_11 at hf
    refine lv_iconst (v := 0) hx hb d_Model_truth_11 (by decide) ?_
    obtain ⟨u_12, hu_12, hf⟩ := bd_ hf
    refine CALLWi (va_runV (As := [.int k1, .long k2, .int (0 : Int32)]) (rest := []) ⟨hx, hb, hml, hown, hg⟩ (c_Model_argument l G K qt qt_draft t_draft t_drafted qt_result t_result t_length t_arguments qt_kinds t_kinds qt_values t_values qt_widths t_widths qt_below t_below qt_sizes t_sizes qt_scales t_scales qt_parts t_parts qt_texts t_texts qt_lengths t_lengths t_end t_index t_flags t_twice t_width t_precision t_conversion t_broken qt_piece t_piece t_put t_head qt_tens t_tens t_count t_exponent qt_work t_work k1 k2 (0 : Int32) _ u_12 bl_0 hu_12) (cwV 3 hg (gV m_25 m_26 m_27 m_28 m_29) rfl rfl rfl (by decide +kernel) ⟨Nat.le_of_ble_eq_true rfl, Nat.le_of_ble_eq_true rfl⟩) ⟨PC_b, va_recv hK hP (ci := 7) (q0 := 0) rfl rfl, PC_p hE hS hAb hP hD⟩ rfl rfl hl.1 rfl (lv_room (Nat.le_of_ble_eq_true rfl)) d_Model_truth_12 ⟨Nat.zero_le _, Nat.zero_le _⟩) hP hD hS hA (fun H locs hP hD hS => ?_)
    have hP : va_P (gD G) vwCl (w_Model_clear G qt qt_draft t_draft t_drafted qt_result t_result t_length u_12.2.1 qt_kinds u_12.2.2.1 qt_values u_12.2.2.2.1 qt_widths t_widths qt_below u_12.2.2.2.2.1 qt_sizes u_12.2.2.2.2.2 qt_scales t_scales qt_parts t_parts qt_texts t_texts qt_lengths t_lengths t_end t_index t_flags t_twice t_width t_precision t_conversion t_broken qt_piece t_piece t_put t_head qt_tens t_tens t_count t_exponent qt_work t_work) H := hP
    have hD : va_D A (w_Model_clear G qt qt_draft t_draft t_drafted qt_result t_result t_length u_12.2.1 qt_kinds u_12.2.2.1 qt_values u_12.2.2.2.1 qt_widths t_widths qt_below u_12.2.2.2.2.1 qt_sizes u_12.2.2.2.2.2 qt_scales t_scales qt_parts t_parts qt_texts t_texts qt_lengths t_lengths t_end t_index t_flags t_twice t_width t_precision t_conversion t_broken qt_piece t_piece t_put t_head qt_tens t_tens t_count t_exponent qt_work t_work) := hD
    obtain rfl := Option.some.inj hf
    rw [← hQ]
    exact W.iret (v := u_12.1) hx hb hr (fun t ht hW => ⟨⟨u_12.1, (), rfl, rfl, ⟨by rw [ht]; exact hP, hD⟩⟩, hS.F ht⟩) hS.2.2 d_Model_truth_15
  unfold f_Model_truth at hf
  refine lv_aload_n hx hb d_Model_truth_0 rfl (lv_at hl 0 rfl) ?_
  refine lv_iconst (v := 1) hx hb d_Model_truth_1 (by decide) ?_
  refine lv_iload_n hx hb d_Model_truth_2 rfl (lv_at hl 1 rfl) ?_
  refine lv_if_eq (tgt := 10) hx hb d_Model_truth_3 (by decide) (fun c_3 => ?_) (fun c_3 => ?_)
  · have hf := ip_ c_3 hf
    refine lv_lconst (v := 0) hx hb d_Model_truth_10 (by decide) ?_
    exact W_11 (1 : Int32) (0 : Int64) t_arguments t_kinds t_values t_below t_sizes bl_1 hf _ _ _ hP hD hS (lv_sub hl [] rfl)
  · have hf := in_ c_3 hf
    refine lv_lconst (v := 1) hx hb d_Model_truth_6 (by decide) ?_
    refine lv_goto (tgt := 11) hx hb d_Model_truth_7 (by decide) ?_
    exact W_11 (1 : Int32) (1 : Int64) t_arguments t_kinds t_values t_below t_sizes bl_1 hf _ _ _ hP hD hS (lv_sub hl [] rfl)
theorem d_Model_character_0 : decode b_Model_character 0 = .ok (.iload_n 1, 1) := by decide +kernel
theorem d_Model_character_1 : decode b_Model_character 1 = .ok (.iconst 1, 1) := by decide +kernel
theorem d_Model_character_2 : decode b_Model_character 2 = .ok (.if_icmp .lt 9, 3) := by decide +kernel
theorem d_Model_character_5 : decode b_Model_character 5 = .ok (.iload_n 1, 1) := by decide +kernel
theorem d_Model_character_6 : decode b_Model_character 6 = .ok (.bipush 126, 2) := by decide +kernel
theorem d_Model_character_8 : decode b_Model_character 8 = .ok (.if_icmp .le 7, 3) := by decide +kernel
theorem d_Model_character_11 : decode b_Model_character 11 = .ok (.iconst (-1), 1) := by decide +kernel
theorem d_Model_character_12 : decode b_Model_character 12 = .ok (.goto 11, 3) := by decide +kernel
theorem d_Model_character_15 : decode b_Model_character 15 = .ok (.aload_n 0, 1) := by decide +kernel
theorem d_Model_character_16 : decode b_Model_character 16 = .ok (.iconst 2, 1) := by decide +kernel
theorem d_Model_character_17 : decode b_Model_character 17 = .ok (.iload_n 1, 1) := by decide +kernel
theorem d_Model_character_18 : decode b_Model_character 18 = .ok (.i2l, 1) := by decide +kernel
theorem d_Model_character_19 : decode b_Model_character 19 = .ok (.iconst 0, 1) := by decide +kernel
theorem d_Model_character_20 : decode b_Model_character 20 = .ok (.invokevirtual 63, 3) := by decide +kernel
theorem d_Model_character_23 : decode b_Model_character 23 = .ok (.ireturn, 1) := by decide +kernel
def f_Model_character (K : Nat) (t_arguments : Int32) (t_kinds : Nat → Int32) (t_values : Nat → Int64) (t_below : Nat → Int32) (t_sizes : Nat → Int32) (a1 : Int32) : Option (Int32 × Int32 × (Nat → Int32) × (Nat → Int64) × (Nat → Int32) × (Nat → Int32)) :=
  (if a1 < (1 : Int32) then some ((-1 : Int32), t_arguments, t_kinds, t_values, t_below, t_sizes) else (if a1 ≤ (126 : Int32) then ((f_Model_argument K t_arguments t_kinds t_values t_below t_sizes (2 : Int32) a1.toInt64 (0 : Int32)).bind fun u_20 => some (u_20.1, u_20.2.1, u_20.2.2.1, u_20.2.2.2.1, u_20.2.2.2.2.1, u_20.2.2.2.2.2)) else some ((-1 : Int32), t_arguments, t_kinds, t_values, t_below, t_sizes)))
set_option maxHeartbeats 4000000 in
set_option maxRecDepth 100000 in
theorem c_Model_character (l : Launch) (G : Gt) (K : Nat) (qt : Nat) (qt_draft : Nat) (t_draft : Nat → Int32) (t_drafted : Int32) (qt_result : Nat) (t_result : Nat → Int32) (t_length : Int32) (t_arguments : Int32) (qt_kinds : Nat) (t_kinds : Nat → Int32) (qt_values : Nat) (t_values : Nat → Int64) (qt_widths : Nat) (t_widths : Nat → Int32) (qt_below : Nat) (t_below : Nat → Int32) (qt_sizes : Nat) (t_sizes : Nat → Int32) (qt_scales : Nat) (t_scales : Nat → Int32) (qt_parts : Nat) (t_parts : Nat → Int64) (qt_texts : Nat) (t_texts : Nat → Int32) (qt_lengths : Nat) (t_lengths : Nat → Int32) (t_end : Int32) (t_index : Int32) (t_flags : Int32) (t_twice : Int32) (t_width : Int32) (t_precision : Int32) (t_conversion : Int32) (t_broken : Int32) (qt_piece : Nat) (t_piece : Nat → Int32) (t_put : Int32) (t_head : Int32) (qt_tens : Nat) (t_tens : Nat → Int32) (t_count : Int32) (t_exponent : Int32) (qt_work : Nat) (t_work : Nat → Int32) (a1 : Int32) (sz : Nat) (res : Int32 × Int32 × (Nat → Int32) × (Nat → Int64) × (Nat → Int32) × (Nat → Int32))   (hf : f_Model_character K t_arguments t_kinds t_values t_below t_sizes a1 = some res) : Met l y_Model_character (.code y_Model_character b_Model_character 2 (some .int) :: gw) { frames := 1, cells := 0, slots := 0, locals := 40 } (PC G ([.ref qt, .int a1] : List Value) sz (w_Model_clear G qt qt_draft t_draft t_drafted qt_result t_result t_length t_arguments qt_kinds t_kinds qt_values t_values qt_widths t_widths qt_below t_below qt_sizes t_sizes qt_scales t_scales qt_parts t_parts qt_texts t_texts qt_lengths t_lengths t_end t_index t_flags t_twice t_width t_precision t_conversion t_broken qt_piece t_piece t_put t_head qt_tens t_tens t_count t_exponent qt_work t_work)) (QI G res.1 (va_A (w_Model_clear G qt qt_draft t_draft t_drafted qt_result t_result t_length t_arguments qt_kinds t_kinds qt_values t_values qt_widths t_widths qt_below t_below qt_sizes t_sizes qt_scales t_scales qt_parts t_parts qt_texts t_texts qt_lengths t_lengths t_end t_index t_flags t_twice t_width t_precision t_conversion t_broken qt_piece t_piece t_put t_head qt_tens t_tens t_count t_exponent qt_work t_work) sz) (w_Model_clear G qt qt_draft t_draft t_drafted qt_result t_result t_length res.2.1 qt_kinds res.2.2.1 qt_values res.2.2.2.1 qt_widths t_widths qt_below res.2.2.2.2.1 qt_sizes res.2.2.2.2.2 qt_scales t_scales qt_parts t_parts qt_texts t_texts qt_lengths t_lengths t_end t_index t_flags t_twice t_width t_precision t_conversion t_broken qt_piece t_piece t_put t_head qt_tens t_tens t_count t_exponent qt_work t_work)) 0 0 (va_A (w_Model_clear G qt qt_draft t_draft t_drafted qt_result t_result t_length t_arguments qt_kinds t_kinds qt_values t_values qt_widths t_widths qt_below t_below qt_sizes t_sizes qt_scales t_scales qt_parts t_parts qt_texts t_texts qt_lengths t_lengths t_end t_index t_flags t_twice t_width t_precision t_conversion t_broken qt_piece t_piece t_put t_head qt_tens t_tens t_count t_exponent qt_work t_work) sz) := by
  refine Met.ofW (cc := b_Model_character) (maxL := 2) (ret := (some .int)) (by decide) rfl ?_
  intro p e s m args below meth c s₁ B hml hv
  obtain ⟨rfl, hsz, hP, hE, hD0⟩ := hv
  have hx := B.exec
  have hb := B.bytes
  have hr := B.returns
  have hts := atoms_spec (ws := (.code y_Model_character b_Model_character 2 (some .int) :: gw)) B.pre
  have hg : ∀ w ∈ gw, w.before _ s = true := fun w h => hts w (List.mem_cons_of_mem _ h)
  have hown : s.vm.findClass R_Model = some m.cls := findClass_of_methodNamed B.named
  have hlocks := B.notSynchronized
  subst hsz
  have hK := hE.K
  have hD := hD0.self (sz := s.heap.size)
  have hAb := hE.ab hD0
  obtain ⟨Q, hQ⟩ : ∃ Q, MQ below (QI G res.1 (va_A (w_Model_clear G qt qt_draft t_draft t_drafted qt_result t_result t_length t_arguments qt_kinds t_kinds qt_values t_values qt_widths t_widths qt_below t_below qt_sizes t_sizes qt_scales t_scales qt_parts t_parts qt_texts t_texts qt_lengths t_lengths t_end t_index t_flags t_twice t_width t_precision t_conversion t_broken qt_piece t_piece t_put t_head qt_tens t_tens t_count t_exponent qt_work t_work) s.heap.size) (w_Model_clear G qt qt_draft t_draft t_drafted qt_result t_result t_length res.2.1 qt_kinds res.2.2.1 qt_values res.2.2.2.1 qt_widths t_widths qt_below res.2.2.2.2.1 qt_sizes res.2.2.2.2.2 qt_scales t_scales qt_parts t_parts qt_texts t_texts qt_lengths t_lengths t_end t_index t_flags t_twice t_width t_precision t_conversion t_broken qt_piece t_piece t_put t_head qt_tens t_tens t_count t_exponent qt_work t_work)) ([.ref qt, .int a1] : List Value).toArray s 0 0 (va_A (w_Model_clear G qt qt_draft t_draft t_drafted qt_result t_result t_length t_arguments qt_kinds t_kinds qt_values t_values qt_widths t_widths qt_below t_below qt_sizes t_sizes qt_scales t_scales qt_parts t_parts qt_texts t_texts qt_lengths t_lengths t_end t_index t_flags t_twice t_width t_precision t_conversion t_broken qt_piece t_piece t_put t_head qt_tens t_tens t_count t_exponent qt_work t_work) s.heap.size) = Q := ⟨_, rfl⟩
  show W p l e { frames := 1, cells := 0, slots := 0, locals := 40 } s m ([.ref qt, .int a1] : List Value).toArray below meth c s.heap [] 0 0 (MQ below (QI G res.1 (va_A (w_Model_clear G qt qt_draft t_draft t_drafted qt_result t_result t_length t_arguments qt_kinds t_kinds qt_values t_values qt_widths t_widths qt_below t_below qt_sizes t_sizes qt_scales t_scales qt_parts t_parts qt_texts t_texts qt_lengths t_lengths t_end t_index t_flags t_twice t_width t_precision t_conversion t_broken qt_piece t_piece t_put t_head qt_tens t_tens t_count t_exponent qt_work t_work) s.heap.size) (w_Model_clear G qt qt_draft t_draft t_drafted qt_result t_result t_length res.2.1 qt_kinds res.2.2.1 qt_values res.2.2.2.1 qt_widths t_widths qt_below res.2.2.2.2.1 qt_sizes res.2.2.2.2.2 qt_scales t_scales qt_parts t_parts qt_texts t_texts qt_lengths t_lengths t_end t_index t_flags t_twice t_width t_precision t_conversion t_broken qt_piece t_piece t_put t_head qt_tens t_tens t_count t_exponent qt_work t_work)) ([.ref qt, .int a1] : List Value).toArray s 0 0 (va_A (w_Model_clear G qt qt_draft t_draft t_drafted qt_result t_result t_length t_arguments qt_kinds t_kinds qt_values t_values qt_widths t_widths qt_below t_below qt_sizes t_sizes qt_scales t_scales qt_parts t_parts qt_texts t_texts qt_lengths t_lengths t_end t_index t_flags t_twice t_width t_precision t_conversion t_broken qt_piece t_piece t_put t_head qt_tens t_tens t_count t_exponent qt_work t_work) s.heap.size)) _
  rw [hQ]
  have hA : ∀ q : Nat, s.heap.size ≤ q → va_A (w_Model_clear G qt qt_draft t_draft t_drafted qt_result t_result t_length t_arguments qt_kinds t_kinds qt_values t_values qt_widths t_widths qt_below t_below qt_sizes t_sizes qt_scales t_scales qt_parts t_parts qt_texts t_texts qt_lengths t_lengths t_end t_index t_flags t_twice t_width t_precision t_conversion t_broken qt_piece t_piece t_put t_head qt_tens t_tens t_count t_exponent qt_work t_work) s.heap.size q := fun q h => Or.inr h
  obtain ⟨A, hAe⟩ : ∃ A, va_A (w_Model_clear G qt qt_draft t_draft t_drafted qt_result t_result t_length t_arguments qt_kinds t_kinds qt_values t_values qt_widths t_widths qt_below t_below qt_sizes t_sizes qt_scales t_scales qt_parts t_parts qt_texts t_texts qt_lengths t_lengths t_end t_index t_flags t_twice t_width t_precision t_conversion t_broken qt_piece t_piece t_put t_head qt_tens t_tens t_count t_exponent qt_work t_work) s.heap.size = A := ⟨_, rfl⟩
  rw [hAe] at hA hD hAb hQ
  have hS : va_S A s.heap s.heap [] := va_S.rf
  have hl := lv_entry (([.ref qt, .int a1] : List Value)) (n := 2) (Nat.le_of_ble_eq_true rfl)
  rw [lg_entry_eq]
  generalize (lg_sl (([.ref qt, .int a1] : List Value)) ++ List.replicate (2 - (lg_sl (([.ref qt, .int a1] : List Value))).length) Slot.unset).toArray = ls at hl ⊢
  have hl : lv_has ls 2 [(0, .ref qt), (1, .int a1)] := hl
  unfold f_Model_character at hf
  refine lv_iload_n hx hb d_Model_character_0 rfl (lv_at hl 1 rfl) ?_
  refine lv_iconst (v := 1) hx hb d_Model_character_1 (by decide) ?_
  refine lv_icmp_lt (tgt := 11) hx hb d_Model_character_2 (by decide) (fun c_2 => ?_) (fun c_2 => ?_)
  · have hf := ip_ c_2 hf
    refine lv_iconst (v := -1) hx hb d_Model_character_11 (by decide) ?_
    refine lv_goto (tgt := 23) hx hb d_Model_character_12 (by decide) ?_
    obtain rfl := Option.some.inj hf
    rw [← hQ]
    exact W.iret (v := (-1 : Int32)) hx hb hr (fun t ht hW => ⟨⟨(-1 : Int32), (), rfl, rfl, ⟨by rw [ht]; exact hP, hD⟩⟩, hS.F ht⟩) hS.2.2 d_Model_character_23
  · have hf := in_ c_2 hf
    refine lv_iload_n hx hb d_Model_character_5 rfl (lv_at hl 1 rfl) ?_
    refine lv_bipush (v := 126) hx hb d_Model_character_6 (by decide) ?_
    refine lv_icmp_le (tgt := 15) hx hb d_Model_character_8 (by decide) (fun c_8 => ?_) (fun c_8 => ?_)
    · have hf := ip_ c_8 hf
      refine lv_aload_n hx hb d_Model_character_15 rfl (lv_at hl 0 rfl) ?_
      refine lv_iconst (v := 2) hx hb d_Model_character_16 (by decide) ?_
      refine lv_iload_n hx hb d_Model_character_17 rfl (lv_at hl 1 rfl) ?_
      refine lv_i2l (v := a1.toInt64) hx hb d_Model_character_18 rfl ?_
      refine lv_iconst (v := 0) hx hb d_Model_character_19 (by decide) ?_
      obtain ⟨u_20, hu_20, hf⟩ := bd_ hf
      refine CALLWi (va_runV (As := [.int (2 : Int32), .long a1.toInt64, .int (0 : Int32)]) (rest := []) ⟨hx, hb, hml, hown, hg⟩ (c_Model_argument l G K qt qt_draft t_draft t_drafted qt_result t_result t_length t_arguments qt_kinds t_kinds qt_values t_values qt_widths t_widths qt_below t_below qt_sizes t_sizes qt_scales t_scales qt_parts t_parts qt_texts t_texts qt_lengths t_lengths t_end t_index t_flags t_twice t_width t_precision t_conversion t_broken qt_piece t_piece t_put t_head qt_tens t_tens t_count t_exponent qt_work t_work (2 : Int32) a1.toInt64 (0 : Int32) _ u_20 bl_0 hu_20) (cwV 3 hg (gV m_25 m_26 m_27 m_28 m_29) rfl rfl rfl (by decide +kernel) ⟨Nat.le_of_ble_eq_true rfl, Nat.le_of_ble_eq_true rfl⟩) ⟨PC_b, va_recv hK hP (ci := 7) (q0 := 0) rfl rfl, PC_p hE hS hAb hP hD⟩ rfl rfl hl.1 rfl (lv_room (Nat.le_of_ble_eq_true rfl)) d_Model_character_20 ⟨Nat.zero_le _, Nat.zero_le _⟩) hP hD hS hA (fun H locs hP hD hS => ?_)
      have hP : va_P (gD G) vwCl (w_Model_clear G qt qt_draft t_draft t_drafted qt_result t_result t_length u_20.2.1 qt_kinds u_20.2.2.1 qt_values u_20.2.2.2.1 qt_widths t_widths qt_below u_20.2.2.2.2.1 qt_sizes u_20.2.2.2.2.2 qt_scales t_scales qt_parts t_parts qt_texts t_texts qt_lengths t_lengths t_end t_index t_flags t_twice t_width t_precision t_conversion t_broken qt_piece t_piece t_put t_head qt_tens t_tens t_count t_exponent qt_work t_work) H := hP
      have hD : va_D A (w_Model_clear G qt qt_draft t_draft t_drafted qt_result t_result t_length u_20.2.1 qt_kinds u_20.2.2.1 qt_values u_20.2.2.2.1 qt_widths t_widths qt_below u_20.2.2.2.2.1 qt_sizes u_20.2.2.2.2.2 qt_scales t_scales qt_parts t_parts qt_texts t_texts qt_lengths t_lengths t_end t_index t_flags t_twice t_width t_precision t_conversion t_broken qt_piece t_piece t_put t_head qt_tens t_tens t_count t_exponent qt_work t_work) := hD
      obtain rfl := Option.some.inj hf
      rw [← hQ]
      exact W.iret (v := u_20.1) hx hb hr (fun t ht hW => ⟨⟨u_20.1, (), rfl, rfl, ⟨by rw [ht]; exact hP, hD⟩⟩, hS.F ht⟩) hS.2.2 d_Model_character_23
    · have hf := in_ c_8 hf
      refine lv_iconst (v := -1) hx hb d_Model_character_11 (by decide) ?_
      refine lv_goto (tgt := 23) hx hb d_Model_character_12 (by decide) ?_
      obtain rfl := Option.some.inj hf
      rw [← hQ]
      exact W.iret (v := (-1 : Int32)) hx hb hr (fun t ht hW => ⟨⟨(-1 : Int32), (), rfl, rfl, ⟨by rw [ht]; exact hP, hD⟩⟩, hS.F ht⟩) hS.2.2 d_Model_character_23
theorem d_Model_whole_0 : decode b_Model_whole 0 = .ok (.iload_n 3, 1) := by decide +kernel
theorem d_Model_whole_1 : decode b_Model_whole 1 = .ok (.bipush 8, 2) := by decide +kernel
theorem d_Model_whole_3 : decode b_Model_whole 3 = .ok (.if_icmp .eq 23, 3) := by decide +kernel
theorem d_Model_whole_6 : decode b_Model_whole 6 = .ok (.iload_n 3, 1) := by decide +kernel
theorem d_Model_whole_7 : decode b_Model_whole 7 = .ok (.bipush 16, 2) := by decide +kernel
theorem d_Model_whole_9 : decode b_Model_whole 9 = .ok (.if_icmp .eq 17, 3) := by decide +kernel
theorem d_Model_whole_12 : decode b_Model_whole 12 = .ok (.iload_n 3, 1) := by decide +kernel
theorem d_Model_whole_13 : decode b_Model_whole 13 = .ok (.bipush 32, 2) := by decide +kernel
theorem d_Model_whole_15 : decode b_Model_whole 15 = .ok (.if_icmp .eq 11, 3) := by decide +kernel
theorem d_Model_whole_18 : decode b_Model_whole 18 = .ok (.iload_n 3, 1) := by decide +kernel
theorem d_Model_whole_19 : decode b_Model_whole 19 = .ok (.bipush 64, 2) := by decide +kernel
theorem d_Model_whole_21 : decode b_Model_whole 21 = .ok (.if_icmp .eq 5, 3) := by decide +kernel
theorem d_Model_whole_24 : decode b_Model_whole 24 = .ok (.iconst (-1), 1) := by decide +kernel
theorem d_Model_whole_25 : decode b_Model_whole 25 = .ok (.ireturn, 1) := by decide +kernel
theorem d_Model_whole_26 : decode b_Model_whole 26 = .ok (.lload_n 1, 1) := by decide +kernel
theorem d_Model_whole_27 : decode b_Model_whole 27 = .ok (.bipush 64, 2) := by decide +kernel
theorem d_Model_whole_29 : decode b_Model_whole 29 = .ok (.iload_n 3, 1) := by decide +kernel
theorem d_Model_whole_30 : decode b_Model_whole 30 = .ok (.isub, 1) := by decide +kernel
theorem d_Model_whole_31 : decode b_Model_whole 31 = .ok (.lshl, 1) := by decide +kernel
theorem d_Model_whole_32 : decode b_Model_whole 32 = .ok (.bipush 64, 2) := by decide +kernel
theorem d_Model_whole_34 : decode b_Model_whole 34 = .ok (.iload_n 3, 1) := by decide +kernel
theorem d_Model_whole_35 : decode b_Model_whole 35 = .ok (.isub, 1) := by decide +kernel
theorem d_Model_whole_36 : decode b_Model_whole 36 = .ok (.lshr, 1) := by decide +kernel
theorem d_Model_whole_37 : decode b_Model_whole 37 = .ok (.lstore 4, 2) := by decide +kernel
theorem d_Model_whole_39 : decode b_Model_whole 39 = .ok (.aload_n 0, 1) := by decide +kernel
theorem d_Model_whole_40 : decode b_Model_whole 40 = .ok (.iconst 3, 1) := by decide +kernel
theorem d_Model_whole_41 : decode b_Model_whole 41 = .ok (.lload 4, 2) := by decide +kernel
theorem d_Model_whole_43 : decode b_Model_whole 43 = .ok (.lload 4, 2) := by decide +kernel
theorem d_Model_whole_45 : decode b_Model_whole 45 = .ok (.lconst 0, 1) := by decide +kernel
theorem d_Model_whole_46 : decode b_Model_whole 46 = .ok (.lcmp, 1) := by decide +kernel
theorem d_Model_whole_47 : decode b_Model_whole 47 = .ok (.ifCond .ge 7, 3) := by decide +kernel
theorem d_Model_whole_50 : decode b_Model_whole 50 = .ok (.iconst 1, 1) := by decide +kernel
theorem d_Model_whole_51 : decode b_Model_whole 51 = .ok (.goto 4, 3) := by decide +kernel
theorem d_Model_whole_54 : decode b_Model_whole 54 = .ok (.iconst 0, 1) := by decide +kernel
theorem d_Model_whole_55 : decode b_Model_whole 55 = .ok (.invokevirtual 63, 3) := by decide +kernel
theorem d_Model_whole_58 : decode b_Model_whole 58 = .ok (.istore 6, 2) := by decide +kernel
theorem d_Model_whole_60 : decode b_Model_whole 60 = .ok (.iload 6, 2) := by decide +kernel
theorem d_Model_whole_62 : decode b_Model_whole 62 = .ok (.ifCond .le 13, 3) := by decide +kernel
theorem d_Model_whole_65 : decode b_Model_whole 65 = .ok (.aload_n 0, 1) := by decide +kernel
theorem d_Model_whole_66 : decode b_Model_whole 66 = .ok (.getfield 23, 3) := by decide +kernel
theorem d_Model_whole_69 : decode b_Model_whole 69 = .ok (.iload 6, 2) := by decide +kernel
theorem d_Model_whole_71 : decode b_Model_whole 71 = .ok (.iconst 1, 1) := by decide +kernel
theorem d_Model_whole_72 : decode b_Model_whole 72 = .ok (.isub, 1) := by decide +kernel
theorem d_Model_whole_73 : decode b_Model_whole 73 = .ok (.iload_n 3, 1) := by decide +kernel
theorem d_Model_whole_74 : decode b_Model_whole 74 = .ok (.iastore, 1) := by decide +kernel
theorem d_Model_whole_75 : decode b_Model_whole 75 = .ok (.iload 6, 2) := by decide +kernel
theorem d_Model_whole_77 : decode b_Model_whole 77 = .ok (.ireturn, 1) := by decide +kernel
theorem m_30 : Cond.fieldLink R_Model 23 "SpecifierDeskModel" "widths" "[I" ∈ gw := gm (i := 867) (by decide +kernel) (by decide +kernel)
def k_Model_whole_55 (K : Nat) (a2 : Int32) (k1 : Int32) (k2 : Int64) (k3 : Int32) (t_arguments : Int32) (t_kinds : (Nat → Int32)) (t_values : (Nat → Int64)) (t_widths : (Nat → Int32)) (t_below : (Nat → Int32)) (t_sizes : (Nat → Int32)) : Option (Int32 × Int32 × (Nat → Int32) × (Nat → Int64) × (Nat → Int32) × (Nat → Int32) × (Nat → Int32)) :=
  ((f_Model_argument K t_arguments t_kinds t_values t_below t_sizes k1 k2 k3).bind fun u_55 => (if u_55.1 ≤ 0 then some (u_55.1, u_55.2.1, u_55.2.2.1, u_55.2.2.2.1, t_widths, u_55.2.2.2.2.1, u_55.2.2.2.2.2) else (if inB (u_55.1 - (1 : Int32)) 12 = true then some (u_55.1, u_55.2.1, u_55.2.2.1, u_55.2.2.2.1, (upd t_widths (u_55.1 - (1 : Int32)).toNatClampNeg a2), u_55.2.2.2.2.1, u_55.2.2.2.2.2) else none)))
def k_Model_whole_26 (K : Nat) (a1 : Int64) (a2 : Int32) (t_arguments : Int32) (t_kinds : (Nat → Int32)) (t_values : (Nat → Int64)) (t_widths : (Nat → Int32)) (t_below : (Nat → Int32)) (t_sizes : (Nat → Int32)) : Option (Int32 × Int32 × (Nat → Int32) × (Nat → Int64) × (Nat → Int32) × (Nat → Int32) × (Nat → Int32)) :=
  (if 0 ≤ (lg_cmp ((a1 <<< (((64 : Int32) - a2).toInt64 &&& 63)) >>> (((64 : Int32) - a2).toInt64 &&& 63)) (0 : Int64)) then k_Model_whole_55 K a2 (3 : Int32) ((a1 <<< (((64 : Int32) - a2).toInt64 &&& 63)) >>> (((64 : Int32) - a2).toInt64 &&& 63)) (0 : Int32) t_arguments t_kinds t_values t_widths t_below t_sizes else k_Model_whole_55 K a2 (3 : Int32) ((a1 <<< (((64 : Int32) - a2).toInt64 &&& 63)) >>> (((64 : Int32) - a2).toInt64 &&& 63)) (1 : Int32) t_arguments t_kinds t_values t_widths t_below t_sizes)
def f_Model_whole (K : Nat) (t_arguments : Int32) (t_kinds : Nat → Int32) (t_values : Nat → Int64) (t_widths : Nat → Int32) (t_below : Nat → Int32) (t_sizes : Nat → Int32) (a1 : Int64) (a2 : Int32) : Option (Int32 × Int32 × (Nat → Int32) × (Nat → Int64) × (Nat → Int32) × (Nat → Int32) × (Nat → Int32)) :=
  (if a2 = (8 : Int32) then k_Model_whole_26 K a1 a2 t_arguments t_kinds t_values t_widths t_below t_sizes else (if a2 = (16 : Int32) then k_Model_whole_26 K a1 a2 t_arguments t_kinds t_values t_widths t_below t_sizes else (if a2 = (32 : Int32) then k_Model_whole_26 K a1 a2 t_arguments t_kinds t_values t_widths t_below t_sizes else (if a2 = (64 : Int32) then k_Model_whole_26 K a1 a2 t_arguments t_kinds t_values t_widths t_below t_sizes else some ((-1 : Int32), t_arguments, t_kinds, t_values, t_widths, t_below, t_sizes)))))
set_option maxHeartbeats 4000000 in
set_option maxRecDepth 100000 in
theorem c_Model_whole (l : Launch) (G : Gt) (K : Nat) (qt : Nat) (qt_draft : Nat) (t_draft : Nat → Int32) (t_drafted : Int32) (qt_result : Nat) (t_result : Nat → Int32) (t_length : Int32) (t_arguments : Int32) (qt_kinds : Nat) (t_kinds : Nat → Int32) (qt_values : Nat) (t_values : Nat → Int64) (qt_widths : Nat) (t_widths : Nat → Int32) (qt_below : Nat) (t_below : Nat → Int32) (qt_sizes : Nat) (t_sizes : Nat → Int32) (qt_scales : Nat) (t_scales : Nat → Int32) (qt_parts : Nat) (t_parts : Nat → Int64) (qt_texts : Nat) (t_texts : Nat → Int32) (qt_lengths : Nat) (t_lengths : Nat → Int32) (t_end : Int32) (t_index : Int32) (t_flags : Int32) (t_twice : Int32) (t_width : Int32) (t_precision : Int32) (t_conversion : Int32) (t_broken : Int32) (qt_piece : Nat) (t_piece : Nat → Int32) (t_put : Int32) (t_head : Int32) (qt_tens : Nat) (t_tens : Nat → Int32) (t_count : Int32) (t_exponent : Int32) (qt_work : Nat) (t_work : Nat → Int32) (a1 : Int64) (a2 : Int32) (sz : Nat) (res : Int32 × Int32 × (Nat → Int32) × (Nat → Int64) × (Nat → Int32) × (Nat → Int32) × (Nat → Int32))   (hf : f_Model_whole K t_arguments t_kinds t_values t_widths t_below t_sizes a1 a2 = some res) : Met l y_Model_whole (.code y_Model_whole b_Model_whole 7 (some .int) :: gw) { frames := 1, cells := 0, slots := 0, locals := 40 } (PC G ([.ref qt, .long a1, .int a2] : List Value) sz (w_Model_clear G qt qt_draft t_draft t_drafted qt_result t_result t_length t_arguments qt_kinds t_kinds qt_values t_values qt_widths t_widths qt_below t_below qt_sizes t_sizes qt_scales t_scales qt_parts t_parts qt_texts t_texts qt_lengths t_lengths t_end t_index t_flags t_twice t_width t_precision t_conversion t_broken qt_piece t_piece t_put t_head qt_tens t_tens t_count t_exponent qt_work t_work)) (QI G res.1 (va_A (w_Model_clear G qt qt_draft t_draft t_drafted qt_result t_result t_length t_arguments qt_kinds t_kinds qt_values t_values qt_widths t_widths qt_below t_below qt_sizes t_sizes qt_scales t_scales qt_parts t_parts qt_texts t_texts qt_lengths t_lengths t_end t_index t_flags t_twice t_width t_precision t_conversion t_broken qt_piece t_piece t_put t_head qt_tens t_tens t_count t_exponent qt_work t_work) sz) (w_Model_clear G qt qt_draft t_draft t_drafted qt_result t_result t_length res.2.1 qt_kinds res.2.2.1 qt_values res.2.2.2.1 qt_widths res.2.2.2.2.1 qt_below res.2.2.2.2.2.1 qt_sizes res.2.2.2.2.2.2 qt_scales t_scales qt_parts t_parts qt_texts t_texts qt_lengths t_lengths t_end t_index t_flags t_twice t_width t_precision t_conversion t_broken qt_piece t_piece t_put t_head qt_tens t_tens t_count t_exponent qt_work t_work)) 0 0 (va_A (w_Model_clear G qt qt_draft t_draft t_drafted qt_result t_result t_length t_arguments qt_kinds t_kinds qt_values t_values qt_widths t_widths qt_below t_below qt_sizes t_sizes qt_scales t_scales qt_parts t_parts qt_texts t_texts qt_lengths t_lengths t_end t_index t_flags t_twice t_width t_precision t_conversion t_broken qt_piece t_piece t_put t_head qt_tens t_tens t_count t_exponent qt_work t_work) sz) := by
  refine Met.ofW (cc := b_Model_whole) (maxL := 7) (ret := (some .int)) (by decide) rfl ?_
  intro p e s m args below meth c s₁ B hml hv
  obtain ⟨rfl, hsz, hP, hE, hD0⟩ := hv
  have hx := B.exec
  have hb := B.bytes
  have hr := B.returns
  have hts := atoms_spec (ws := (.code y_Model_whole b_Model_whole 7 (some .int) :: gw)) B.pre
  have hg : ∀ w ∈ gw, w.before _ s = true := fun w h => hts w (List.mem_cons_of_mem _ h)
  have hown : s.vm.findClass R_Model = some m.cls := findClass_of_methodNamed B.named
  have hlocks := B.notSynchronized
  subst hsz
  have hK := hE.K
  have hD := hD0.self (sz := s.heap.size)
  have hAb := hE.ab hD0
  obtain ⟨Q, hQ⟩ : ∃ Q, MQ below (QI G res.1 (va_A (w_Model_clear G qt qt_draft t_draft t_drafted qt_result t_result t_length t_arguments qt_kinds t_kinds qt_values t_values qt_widths t_widths qt_below t_below qt_sizes t_sizes qt_scales t_scales qt_parts t_parts qt_texts t_texts qt_lengths t_lengths t_end t_index t_flags t_twice t_width t_precision t_conversion t_broken qt_piece t_piece t_put t_head qt_tens t_tens t_count t_exponent qt_work t_work) s.heap.size) (w_Model_clear G qt qt_draft t_draft t_drafted qt_result t_result t_length res.2.1 qt_kinds res.2.2.1 qt_values res.2.2.2.1 qt_widths res.2.2.2.2.1 qt_below res.2.2.2.2.2.1 qt_sizes res.2.2.2.2.2.2 qt_scales t_scales qt_parts t_parts qt_texts t_texts qt_lengths t_lengths t_end t_index t_flags t_twice t_width t_precision t_conversion t_broken qt_piece t_piece t_put t_head qt_tens t_tens t_count t_exponent qt_work t_work)) ([.ref qt, .long a1, .int a2] : List Value).toArray s 0 0 (va_A (w_Model_clear G qt qt_draft t_draft t_drafted qt_result t_result t_length t_arguments qt_kinds t_kinds qt_values t_values qt_widths t_widths qt_below t_below qt_sizes t_sizes qt_scales t_scales qt_parts t_parts qt_texts t_texts qt_lengths t_lengths t_end t_index t_flags t_twice t_width t_precision t_conversion t_broken qt_piece t_piece t_put t_head qt_tens t_tens t_count t_exponent qt_work t_work) s.heap.size) = Q := ⟨_, rfl⟩
  show W p l e { frames := 1, cells := 0, slots := 0, locals := 40 } s m ([.ref qt, .long a1, .int a2] : List Value).toArray below meth c s.heap [] 0 0 (MQ below (QI G res.1 (va_A (w_Model_clear G qt qt_draft t_draft t_drafted qt_result t_result t_length t_arguments qt_kinds t_kinds qt_values t_values qt_widths t_widths qt_below t_below qt_sizes t_sizes qt_scales t_scales qt_parts t_parts qt_texts t_texts qt_lengths t_lengths t_end t_index t_flags t_twice t_width t_precision t_conversion t_broken qt_piece t_piece t_put t_head qt_tens t_tens t_count t_exponent qt_work t_work) s.heap.size) (w_Model_clear G qt qt_draft t_draft t_drafted qt_result t_result t_length res.2.1 qt_kinds res.2.2.1 qt_values res.2.2.2.1 qt_widths res.2.2.2.2.1 qt_below res.2.2.2.2.2.1 qt_sizes res.2.2.2.2.2.2 qt_scales t_scales qt_parts t_parts qt_texts t_texts qt_lengths t_lengths t_end t_index t_flags t_twice t_width t_precision t_conversion t_broken qt_piece t_piece t_put t_head qt_tens t_tens t_count t_exponent qt_work t_work)) ([.ref qt, .long a1, .int a2] : List Value).toArray s 0 0 (va_A (w_Model_clear G qt qt_draft t_draft t_drafted qt_result t_result t_length t_arguments qt_kinds t_kinds qt_values t_values qt_widths t_widths qt_below t_below qt_sizes t_sizes qt_scales t_scales qt_parts t_parts qt_texts t_texts qt_lengths t_lengths t_end t_index t_flags t_twice t_width t_precision t_conversion t_broken qt_piece t_piece t_put t_head qt_tens t_tens t_count t_exponent qt_work t_work) s.heap.size)) _
  rw [hQ]
  have hA : ∀ q : Nat, s.heap.size ≤ q → va_A (w_Model_clear G qt qt_draft t_draft t_drafted qt_result t_result t_length t_arguments qt_kinds t_kinds qt_values t_values qt_widths t_widths qt_below t_below qt_sizes t_sizes qt_scales t_scales qt_parts t_parts qt_texts t_texts qt_lengths t_lengths t_end t_index t_flags t_twice t_width t_precision t_conversion t_broken qt_piece t_piece t_put t_head qt_tens t_tens t_count t_exponent qt_work t_work) s.heap.size q := fun q h => Or.inr h
  obtain ⟨A, hAe⟩ : ∃ A, va_A (w_Model_clear G qt qt_draft t_draft t_drafted qt_result t_result t_length t_arguments qt_kinds t_kinds qt_values t_values qt_widths t_widths qt_below t_below qt_sizes t_sizes qt_scales t_scales qt_parts t_parts qt_texts t_texts qt_lengths t_lengths t_end t_index t_flags t_twice t_width t_precision t_conversion t_broken qt_piece t_piece t_put t_head qt_tens t_tens t_count t_exponent qt_work t_work) s.heap.size = A := ⟨_, rfl⟩
  rw [hAe] at hA hD hAb hQ
  have hS : va_S A s.heap s.heap [] := va_S.rf
  have hl := lv_entry (([.ref qt, .long a1, .int a2] : List Value)) (n := 7) (Nat.le_of_ble_eq_true rfl)
  rw [lg_entry_eq]
  generalize (lg_sl (([.ref qt, .long a1, .int a2] : List Value)) ++ List.replicate (7 - (lg_sl (([.ref qt, .long a1, .int a2] : List Value))).length) Slot.unset).toArray = ls at hl ⊢
  have hl : lv_has ls 7 [(0, .ref qt), (1, .long a1), (3, .int a2)] := hl
  have W_55 : ∀ (k1 : Int32) (k2 : Int64) (k3 : Int32) (t_arguments : Int32) (t_kinds : (Nat → Int32)) (t_values : (Nat → Int64)) (t_widths : (Nat → Int32)) (t_below : (Nat → Int32)) (t_sizes : (Nat → Int32)) (b_k3 : bl k3), k_Model_whole_55 K a2 k1 k2 k3 t_arguments t_kinds t_values t_widths t_below t_sizes = some res → ∀ (H : Heap) (locs : List Loc) (ls : Array Slot), va_P (gD G) vwCl (w_Model_clear G qt qt_draft t_draft t_drafted qt_result t_result t_length t_arguments qt_kinds t_kinds qt_values t_values qt_widths t_widths qt_below t_below qt_sizes t_sizes qt_scales t_scales qt_parts t_parts qt_texts t_texts qt_lengths t_lengths t_end t_index t_flags t_twice t_width t_precision t_conversion t_broken qt_piece t_piece t_put t_head qt_tens t_tens t_count t_exponent qt_work t_work) H → va_D A (w_Model_clear G qt qt_draft t_draft t_drafted qt_result t_result t_length t_arguments qt_kinds t_kinds qt_values t_values qt_widths t_widths qt_below t_below qt_sizes t_sizes qt_scales t_scales qt_parts t_parts qt_texts t_texts qt_lengths t_lengths t_end t_index t_flags t_twice t_width t_precision t_conversion t_broken qt_piece t_piece t_put t_head qt_tens t_tens t_count t_exponent qt_work t_work) → va_S A s.heap H locs → lv_has ls 7 [(0, .ref qt), (3, .int a2)] → W p l e { frames := 1, cells := 0, slots := 0, locals := 40 } s m ([.ref qt, .long a1, .int a2] : List Value).toArray below meth c H locs 0 0 Q (F0 m 55 ls [.int k3, .long k2, .int k1, .ref qt]) := by
    intro k1 k2 k3 t_arguments t_kinds t_values t_widths t_below t_sizes b_k3 hf H locs ls hP hD hS hl
    unfold k_Model_whole_55 at hf
    obtain ⟨u_55, hu_55, hf⟩ := bd_ hf
    refine CALLWi (va_runV (As := [.int k1, .long k2, .int k3]) (rest := []) ⟨hx, hb, hml, hown, hg⟩ (c_Model_argument l G K qt qt_draft t_draft t_drafted qt_result t_result t_length t_arguments qt_kinds t_kinds qt_values t_values qt_widths t_widths qt_below t_below qt_sizes t_sizes qt_scales t_scales qt_parts t_parts qt_texts t_texts qt_lengths t_lengths t_end t_index t_flags t_twice t_width t_precision t_conversion t_broken qt_piece t_piece t_put t_head qt_tens t_tens t_count t_exponent qt_work t_work k1 k2 k3 _ u_55 b_k3 hu_55) (cwV 3 hg (gV m_25 m_26 m_27 m_28 m_29) rfl rfl rfl (by decide +kernel) ⟨Nat.le_of_ble_eq_true rfl, Nat.le_of_ble_eq_true rfl⟩) ⟨PC_b, va_recv hK hP (ci := 7) (q0 := 0) rfl rfl, PC_p hE hS hAb hP hD⟩ rfl rfl hl.1 rfl (lv_room (Nat.le_of_ble_eq_true rfl)) d_Model_whole_55 ⟨Nat.zero_le _, Nat.zero_le _⟩) hP hD hS hA (fun H locs hP hD hS => ?_)
    have hP : va_P (gD G) vwCl (w_Model_clear G qt qt_draft t_draft t_drafted qt_result t_result t_length u_55.2.1 qt_kinds u_55.2.2.1 qt_values u_55.2.2.2.1 qt_widths t_widths qt_below u_55.2.2.2.2.1 qt_sizes u_55.2.2.2.2.2 qt_scales t_scales qt_parts t_parts qt_texts t_texts qt_lengths t_lengths t_end t_index t_flags t_twice t_width t_precision t_conversion t_broken qt_piece t_piece t_put t_head qt_tens t_tens t_count t_exponent qt_work t_work) H := hP
    have hD : va_D A (w_Model_clear G qt qt_draft t_draft t_drafted qt_result t_result t_length u_55.2.1 qt_kinds u_55.2.2.1 qt_values u_55.2.2.2.1 qt_widths t_widths qt_below u_55.2.2.2.2.1 qt_sizes u_55.2.2.2.2.2 qt_scales t_scales qt_parts t_parts qt_texts t_texts qt_lengths t_lengths t_end t_index t_flags t_twice t_width t_precision t_conversion t_broken qt_piece t_piece t_put t_head qt_tens t_tens t_count t_exponent qt_work t_work) := hD
    refine lv_istore (lv' := [(6, .int u_55.1), (0, .ref qt), (3, .int a2)]) hx hb d_Model_whole_58 hl (by decide) rfl (fun ls hl => ?_)
    refine lv_iload hx hb d_Model_whole_60 (lv_at hl 0 rfl) ?_
    refine lv_if_le (tgt := 75) hx hb d_Model_whole_62 (by decide) (fun c_62 => ?_) (fun c_62 => ?_)
    · have hf := ip_ c_62 hf
      refine lv_iload hx hb d_Model_whole_75 (lv_at hl 0 rfl) ?_
      obtain rfl := Option.some.inj hf
      rw [← hQ]
      exact W.iret (v := u_55.1) hx hb hr (fun t ht hW => ⟨⟨u_55.1, (), rfl, rfl, ⟨by rw [ht]; exact hP, hD⟩⟩, hS.F ht⟩) hS.2.2 d_Model_whole_77
    · have hf := in_ c_62 hf
      refine lv_aload_n hx hb d_Model_whole_65 rfl (lv_at hl 1 rfl) ?_
      refine va_get (D := gD G) (ci := 7) (v := .ref qt_widths) (C := R_Model) (T := F_Model) (N := 29) hx hb hg in_Model hown hK hP 0 rfl rfl 7 (by decide) (hg _ m_30) (fun _ h9 => h9) rfl d_Model_whole_66 ?_
      refine lv_iload hx hb d_Model_whole_69 (lv_at hl 0 rfl) ?_
      refine lv_iconst (v := 1) hx hb d_Model_whole_71 (by decide) ?_
      refine lv_isub hx hb d_Model_whole_72 ?_
      refine lv_iload_n hx hb d_Model_whole_73 rfl (lv_at hl 2 rfl) ?_
      obtain ⟨g_74, hf⟩ := gd_ hf
      refine va_iast hx hb hK hP hD hS 5 1 rfl rfl (inB_in g_74) d_Model_whole_74 (fun H locs hP hD hS => ?_)
      have hP : va_P (gD G) vwCl (w_Model_clear G qt qt_draft t_draft t_drafted qt_result t_result t_length u_55.2.1 qt_kinds u_55.2.2.1 qt_values u_55.2.2.2.1 qt_widths (upd t_widths (u_55.1 - (1 : Int32)).toNatClampNeg a2) qt_below u_55.2.2.2.2.1 qt_sizes u_55.2.2.2.2.2 qt_scales t_scales qt_parts t_parts qt_texts t_texts qt_lengths t_lengths t_end t_index t_flags t_twice t_width t_precision t_conversion t_broken qt_piece t_piece t_put t_head qt_tens t_tens t_count t_exponent qt_work t_work) H := hP
      have hD : va_D A (w_Model_clear G qt qt_draft t_draft t_drafted qt_result t_result t_length u_55.2.1 qt_kinds u_55.2.2.1 qt_values u_55.2.2.2.1 qt_widths (upd t_widths (u_55.1 - (1 : Int32)).toNatClampNeg a2) qt_below u_55.2.2.2.2.1 qt_sizes u_55.2.2.2.2.2 qt_scales t_scales qt_parts t_parts qt_texts t_texts qt_lengths t_lengths t_end t_index t_flags t_twice t_width t_precision t_conversion t_broken qt_piece t_piece t_put t_head qt_tens t_tens t_count t_exponent qt_work t_work) := hD
      refine lv_iload hx hb d_Model_whole_75 (lv_at hl 0 rfl) ?_
      obtain rfl := Option.some.inj hf
      rw [← hQ]
      exact W.iret (v := u_55.1) hx hb hr (fun t ht hW => ⟨⟨u_55.1, (), rfl, rfl, ⟨by rw [ht]; exact hP, hD⟩⟩, hS.F ht⟩) hS.2.2 d_Model_whole_77
  have W_26 : ∀ (t_arguments : Int32) (t_kinds : (Nat → Int32)) (t_values : (Nat → Int64)) (t_widths : (Nat → Int32)) (t_below : (Nat → Int32)) (t_sizes : (Nat → Int32)) , k_Model_whole_26 K a1 a2 t_arguments t_kinds t_values t_widths t_below t_sizes = some res → ∀ (H : Heap) (locs : List Loc) (ls : Array Slot), va_P (gD G) vwCl (w_Model_clear G qt qt_draft t_draft t_drafted qt_result t_result t_length t_arguments qt_kinds t_kinds qt_values t_values qt_widths t_widths qt_below t_below qt_sizes t_sizes qt_scales t_scales qt_parts t_parts qt_texts t_texts qt_lengths t_lengths t_end t_index t_flags t_twice t_width t_precision t_conversion t_broken qt_piece t_piece t_put t_head qt_tens t_tens t_count t_exponent qt_work t_work) H → va_D A (w_Model_clear G qt qt_draft t_draft t_drafted qt_result t_result t_length t_arguments qt_kinds t_kinds qt_values t_values qt_widths t_widths qt_below t_below qt_sizes t_sizes qt_scales t_scales qt_parts t_parts qt_texts t_texts qt_lengths t_lengths t_end t_index t_flags t_twice t_width t_precision t_conversion t_broken qt_piece t_piece t_put t_head qt_tens t_tens t_count t_exponent qt_work t_work) → va_S A s.heap H locs → lv_has ls 7 [(0, .ref qt), (1, .long a1), (3, .int a2)] → W p l e { frames := 1, cells := 0, slots := 0, locals := 40 } s m ([.ref qt, .long a1, .int a2] : List Value).toArray below meth c H locs 0 0 Q (F0 m 26 ls []) := by
    intro t_arguments t_kinds t_values t_widths t_below t_sizes  hf H locs ls hP hD hS hl
    unfold k_Model_whole_26 at hf
    refine lv_lload_n hx hb d_Model_whole_26 rfl (lv_at hl 1 rfl) ?_
    refine lv_bipush (v := 64) hx hb d_Model_whole_27 (by decide) ?_
    refine lv_iload_n hx hb d_Model_whole_29 rfl (lv_at hl 2 rfl) ?_
    refine lv_isub hx hb d_Model_whole_30 ?_
    refine lv_lshl (v := (a1 <<< (((64 : Int32) - a2).toInt64 &&& 63))) hx hb d_Model_whole_31 rfl ?_
    refine lv_bipush (v := 64) hx hb d_Model_whole_32 (by decide) ?_
    refine lv_iload_n hx hb d_Model_whole_34 rfl (lv_at hl 2 rfl) ?_
    refine lv_isub hx hb d_Model_whole_35 ?_
    refine lv_lshr (v := ((a1 <<< (((64 : Int32) - a2).toInt64 &&& 63)) >>> (((64 : Int32) - a2).toInt64 &&& 63))) hx hb d_Model_whole_36 rfl ?_
    refine lv_lstore (lv' := [(4, .long ((a1 <<< (((64 : Int32) - a2).toInt64 &&& 63)) >>> (((64 : Int32) - a2).toInt64 &&& 63))), (0, .ref qt), (1, .long a1), (3, .int a2)]) hx hb d_Model_whole_37 hl (by decide) rfl (fun ls hl => ?_)
    refine lv_aload_n hx hb d_Model_whole_39 rfl (lv_at hl 1 rfl) ?_
    refine lv_iconst (v := 3) hx hb d_Model_whole_40 (by decide) ?_
    refine lv_lload hx hb d_Model_whole_41 (lv_at hl 0 rfl) ?_
    refine lv_lload hx hb d_Model_whole_43 (lv_at hl 0 rfl) ?_
    refine lv_lconst (v := 0) hx hb d_Model_whole_45 (by decide) ?_
    refine W.lcmp hx hb d_Model_whole_46 ?_
    refine lv_if_ge (tgt := 54) hx hb d_Model_whole_47 (by decide) (fun c_47 => ?_) (fun c_47 => ?_)
    · have hf := ip_ c_47 hf
      refine lv_iconst (v := 0) hx hb d_Model_whole_54 (by decide) ?_
      exact W_55 (3 : Int32) ((a1 <<< (((64 : Int32) - a2).toInt64 &&& 63)) >>> (((64 : Int32) - a2).toInt64 &&& 63)) (0 : Int32) t_arguments t_kinds t_values t_widths t_below t_sizes bl_0 hf _ _ _ hP hD hS (lv_sub hl [1, 3] rfl)
    · have hf := in_ c_47 hf
      refine lv_iconst (v := 1) hx hb d_Model_whole_50 (by decide) ?_
      refine lv_goto (tgt := 55) hx hb d_Model_whole_51 (by decide) ?_
      exact W_55 (3 : Int32) ((a1 <<< (((64 : Int32) - a2).toInt64 &&& 63)) >>> (((64 : Int32) - a2).toInt64 &&& 63)) (1 : Int32) t_arguments t_kinds t_values t_widths t_below t_sizes bl_1 hf _ _ _ hP hD hS (lv_sub hl [1, 3] rfl)
  unfold f_Model_whole at hf
  refine lv_iload_n hx hb d_Model_whole_0 rfl (lv_at hl 2 rfl) ?_
  refine lv_bipush (v := 8) hx hb d_Model_whole_1 (by decide) ?_
  refine lv_icmp_eq (tgt := 26) hx hb d_Model_whole_3 (by decide) (fun c_3 => ?_) (fun c_3 => ?_)
  · have hf := ip_ c_3 hf
    exact W_26 t_arguments t_kinds t_values t_widths t_below t_sizes  hf _ _ _ hP hD hS (lv_sub hl [0, 1, 2] rfl)
  · have hf := in_ c_3 hf
    refine lv_iload_n hx hb d_Model_whole_6 rfl (lv_at hl 2 rfl) ?_
    refine lv_bipush (v := 16) hx hb d_Model_whole_7 (by decide) ?_
    refine lv_icmp_eq (tgt := 26) hx hb d_Model_whole_9 (by decide) (fun c_9 => ?_) (fun c_9 => ?_)
    · have hf := ip_ c_9 hf
      exact W_26 t_arguments t_kinds t_values t_widths t_below t_sizes  hf _ _ _ hP hD hS (lv_sub hl [0, 1, 2] rfl)
    · have hf := in_ c_9 hf
      refine lv_iload_n hx hb d_Model_whole_12 rfl (lv_at hl 2 rfl) ?_
      refine lv_bipush (v := 32) hx hb d_Model_whole_13 (by decide) ?_
      refine lv_icmp_eq (tgt := 26) hx hb d_Model_whole_15 (by decide) (fun c_15 => ?_) (fun c_15 => ?_)
      · have hf := ip_ c_15 hf
        exact W_26 t_arguments t_kinds t_values t_widths t_below t_sizes  hf _ _ _ hP hD hS (lv_sub hl [0, 1, 2] rfl)
      · have hf := in_ c_15 hf
        refine lv_iload_n hx hb d_Model_whole_18 rfl (lv_at hl 2 rfl) ?_
        refine lv_bipush (v := 64) hx hb d_Model_whole_19 (by decide) ?_
        refine lv_icmp_eq (tgt := 26) hx hb d_Model_whole_21 (by decide) (fun c_21 => ?_) (fun c_21 => ?_)
        · have hf := ip_ c_21 hf
          exact W_26 t_arguments t_kinds t_values t_widths t_below t_sizes  hf _ _ _ hP hD hS (lv_sub hl [0, 1, 2] rfl)
        · have hf := in_ c_21 hf
          refine lv_iconst (v := -1) hx hb d_Model_whole_24 (by decide) ?_
          obtain rfl := Option.some.inj hf
          rw [← hQ]
          exact W.iret (v := (-1 : Int32)) hx hb hr (fun t ht hW => ⟨⟨(-1 : Int32), (), rfl, rfl, ⟨by rw [ht]; exact hP, hD⟩⟩, hS.F ht⟩) hS.2.2 d_Model_whole_25
theorem d_Model_sizeOf_0 : decode b_Model_sizeOf 0 = .ok (.iconst 0, 1) := by decide +kernel
theorem d_Model_sizeOf_1 : decode b_Model_sizeOf 1 = .ok (.istore 4, 2) := by decide +kernel
theorem d_Model_sizeOf_3 : decode b_Model_sizeOf 3 = .ok (.iload 4, 2) := by decide +kernel
theorem d_Model_sizeOf_5 : decode b_Model_sizeOf 5 = .ok (.iconst 4, 1) := by decide +kernel
theorem d_Model_sizeOf_6 : decode b_Model_sizeOf 6 = .ok (.if_icmp .ge 33, 3) := by decide +kernel
theorem d_Model_sizeOf_9 : decode b_Model_sizeOf 9 = .ok (.aload_n 0, 1) := by decide +kernel
theorem d_Model_sizeOf_10 : decode b_Model_sizeOf 10 = .ok (.getfield 30, 3) := by decide +kernel
theorem d_Model_sizeOf_13 : decode b_Model_sizeOf 13 = .ok (.bipush 32, 2) := by decide +kernel
theorem d_Model_sizeOf_15 : decode b_Model_sizeOf 15 = .ok (.iload_n 1, 1) := by decide +kernel
theorem d_Model_sizeOf_16 : decode b_Model_sizeOf 16 = .ok (.imul, 1) := by decide +kernel
theorem d_Model_sizeOf_17 : decode b_Model_sizeOf 17 = .ok (.iload 4, 2) := by decide +kernel
theorem d_Model_sizeOf_19 : decode b_Model_sizeOf 19 = .ok (.iadd, 1) := by decide +kernel
theorem d_Model_sizeOf_20 : decode b_Model_sizeOf 20 = .ok (.lload_n 2, 1) := by decide +kernel
theorem d_Model_sizeOf_21 : decode b_Model_sizeOf 21 = .ok (.bipush 16, 2) := by decide +kernel
theorem d_Model_sizeOf_23 : decode b_Model_sizeOf 23 = .ok (.iload 4, 2) := by decide +kernel
theorem d_Model_sizeOf_25 : decode b_Model_sizeOf 25 = .ok (.imul, 1) := by decide +kernel
theorem d_Model_sizeOf_26 : decode b_Model_sizeOf 26 = .ok (.lshr, 1) := by decide +kernel
theorem d_Model_sizeOf_27 : decode b_Model_sizeOf 27 = .ok (.ldc2_w 67, 3) := by decide +kernel
theorem d_Model_sizeOf_30 : decode b_Model_sizeOf 30 = .ok (.land, 1) := by decide +kernel
theorem d_Model_sizeOf_31 : decode b_Model_sizeOf 31 = .ok (.l2i, 1) := by decide +kernel
theorem d_Model_sizeOf_32 : decode b_Model_sizeOf 32 = .ok (.iastore, 1) := by decide +kernel
theorem d_Model_sizeOf_33 : decode b_Model_sizeOf 33 = .ok (.iinc 4 1, 3) := by decide +kernel
theorem d_Model_sizeOf_36 : decode b_Model_sizeOf 36 = .ok (.goto (-33), 3) := by decide +kernel
theorem d_Model_sizeOf_39 : decode b_Model_sizeOf 39 = .ok (.return_, 1) := by decide +kernel
theorem m_31 : Cond.constantLong R_Model 67 65535 ∈ gw := gm (i := 986) (by decide +kernel) (by decide +kernel)
def b_Model_sizeOf_3 (a1 : Int32) (a2 : Int64)  (rec_3 : (Int32 × (Nat → Int32)) → Option (Nat → Int32)) (z3 : Int32 × (Nat → Int32)) : Option (Nat → Int32) :=
  (if (4 : Int32) ≤ z3.1 then some z3.2 else (if inB (((32 : Int32) * a1) + z3.1) 384 = true then rec_3 ((z3.1 + 1), (upd z3.2 (((32 : Int32) * a1) + z3.1).toNatClampNeg (((a2 >>> (((16 : Int32) * z3.1).toInt64 &&& 63)) &&& (65535 : Int64)).toInt32))) else none))
def f_Model_sizeOf (K : Nat) (t_sizes : Nat → Int32) (a1 : Int32) (a2 : Int64) : Option (Nat → Int32) :=
  lp_ (b_Model_sizeOf_3 a1 a2 ) K ((0 : Int32), t_sizes)
set_option maxHeartbeats 4000000 in
set_option maxRecDepth 100000 in
theorem c_Model_sizeOf (l : Launch) (G : Gt) (K : Nat) (qt : Nat) (qt_draft : Nat) (t_draft : Nat → Int32) (t_drafted : Int32) (qt_result : Nat) (t_result : Nat → Int32) (t_length : Int32) (t_arguments : Int32) (qt_kinds : Nat) (t_kinds : Nat → Int32) (qt_values : Nat) (t_values : Nat → Int64) (qt_widths : Nat) (t_widths : Nat → Int32) (qt_below : Nat) (t_below : Nat → Int32) (qt_sizes : Nat) (t_sizes : Nat → Int32) (qt_scales : Nat) (t_scales : Nat → Int32) (qt_parts : Nat) (t_parts : Nat → Int64) (qt_texts : Nat) (t_texts : Nat → Int32) (qt_lengths : Nat) (t_lengths : Nat → Int32) (t_end : Int32) (t_index : Int32) (t_flags : Int32) (t_twice : Int32) (t_width : Int32) (t_precision : Int32) (t_conversion : Int32) (t_broken : Int32) (qt_piece : Nat) (t_piece : Nat → Int32) (t_put : Int32) (t_head : Int32) (qt_tens : Nat) (t_tens : Nat → Int32) (t_count : Int32) (t_exponent : Int32) (qt_work : Nat) (t_work : Nat → Int32) (a1 : Int32) (a2 : Int64) (sz : Nat) (res : (Nat → Int32))   (hf : f_Model_sizeOf K t_sizes a1 a2 = some res) : Met l y_Model_sizeOf (.code y_Model_sizeOf b_Model_sizeOf 5 none :: gw) { frames := 0, cells := 0, slots := 0, locals := 0 } (PC G ([.ref qt, .int a1, .long a2] : List Value) sz (w_Model_clear G qt qt_draft t_draft t_drafted qt_result t_result t_length t_arguments qt_kinds t_kinds qt_values t_values qt_widths t_widths qt_below t_below qt_sizes t_sizes qt_scales t_scales qt_parts t_parts qt_texts t_texts qt_lengths t_lengths t_end t_index t_flags t_twice t_width t_precision t_conversion t_broken qt_piece t_piece t_put t_head qt_tens t_tens t_count t_exponent qt_work t_work)) (QV G (va_A (w_Model_clear G qt qt_draft t_draft t_drafted qt_result t_result t_length t_arguments qt_kinds t_kinds qt_values t_values qt_widths t_widths qt_below t_below qt_sizes t_sizes qt_scales t_scales qt_parts t_parts qt_texts t_texts qt_lengths t_lengths t_end t_index t_flags t_twice t_width t_precision t_conversion t_broken qt_piece t_piece t_put t_head qt_tens t_tens t_count t_exponent qt_work t_work) sz) (w_Model_clear G qt qt_draft t_draft t_drafted qt_result t_result t_length t_arguments qt_kinds t_kinds qt_values t_values qt_widths t_widths qt_below t_below qt_sizes res qt_scales t_scales qt_parts t_parts qt_texts t_texts qt_lengths t_lengths t_end t_index t_flags t_twice t_width t_precision t_conversion t_broken qt_piece t_piece t_put t_head qt_tens t_tens t_count t_exponent qt_work t_work)) 0 0 (va_A (w_Model_clear G qt qt_draft t_draft t_drafted qt_result t_result t_length t_arguments qt_kinds t_kinds qt_values t_values qt_widths t_widths qt_below t_below qt_sizes t_sizes qt_scales t_scales qt_parts t_parts qt_texts t_texts qt_lengths t_lengths t_end t_index t_flags t_twice t_width t_precision t_conversion t_broken qt_piece t_piece t_put t_head qt_tens t_tens t_count t_exponent qt_work t_work) sz) := by
  refine Met.ofW (cc := b_Model_sizeOf) (maxL := 5) (ret := none) (by decide) rfl ?_
  intro p e s m args below meth c s₁ B hml hv
  obtain ⟨rfl, hsz, hP, hE, hD0⟩ := hv
  have hx := B.exec
  have hb := B.bytes
  have hr := B.returns
  have hts := atoms_spec (ws := (.code y_Model_sizeOf b_Model_sizeOf 5 none :: gw)) B.pre
  have hg : ∀ w ∈ gw, w.before _ s = true := fun w h => hts w (List.mem_cons_of_mem _ h)
  have hown : s.vm.findClass R_Model = some m.cls := findClass_of_methodNamed B.named
  have hlocks := B.notSynchronized
  subst hsz
  have hK := hE.K
  have hD := hD0.self (sz := s.heap.size)
  have hAb := hE.ab hD0
  obtain ⟨Q, hQ⟩ : ∃ Q, MQ below (QV G (va_A (w_Model_clear G qt qt_draft t_draft t_drafted qt_result t_result t_length t_arguments qt_kinds t_kinds qt_values t_values qt_widths t_widths qt_below t_below qt_sizes t_sizes qt_scales t_scales qt_parts t_parts qt_texts t_texts qt_lengths t_lengths t_end t_index t_flags t_twice t_width t_precision t_conversion t_broken qt_piece t_piece t_put t_head qt_tens t_tens t_count t_exponent qt_work t_work) s.heap.size) (w_Model_clear G qt qt_draft t_draft t_drafted qt_result t_result t_length t_arguments qt_kinds t_kinds qt_values t_values qt_widths t_widths qt_below t_below qt_sizes res qt_scales t_scales qt_parts t_parts qt_texts t_texts qt_lengths t_lengths t_end t_index t_flags t_twice t_width t_precision t_conversion t_broken qt_piece t_piece t_put t_head qt_tens t_tens t_count t_exponent qt_work t_work)) ([.ref qt, .int a1, .long a2] : List Value).toArray s 0 0 (va_A (w_Model_clear G qt qt_draft t_draft t_drafted qt_result t_result t_length t_arguments qt_kinds t_kinds qt_values t_values qt_widths t_widths qt_below t_below qt_sizes t_sizes qt_scales t_scales qt_parts t_parts qt_texts t_texts qt_lengths t_lengths t_end t_index t_flags t_twice t_width t_precision t_conversion t_broken qt_piece t_piece t_put t_head qt_tens t_tens t_count t_exponent qt_work t_work) s.heap.size) = Q := ⟨_, rfl⟩
  show W p l e { frames := 0, cells := 0, slots := 0, locals := 0 } s m ([.ref qt, .int a1, .long a2] : List Value).toArray below meth c s.heap [] 0 0 (MQ below (QV G (va_A (w_Model_clear G qt qt_draft t_draft t_drafted qt_result t_result t_length t_arguments qt_kinds t_kinds qt_values t_values qt_widths t_widths qt_below t_below qt_sizes t_sizes qt_scales t_scales qt_parts t_parts qt_texts t_texts qt_lengths t_lengths t_end t_index t_flags t_twice t_width t_precision t_conversion t_broken qt_piece t_piece t_put t_head qt_tens t_tens t_count t_exponent qt_work t_work) s.heap.size) (w_Model_clear G qt qt_draft t_draft t_drafted qt_result t_result t_length t_arguments qt_kinds t_kinds qt_values t_values qt_widths t_widths qt_below t_below qt_sizes res qt_scales t_scales qt_parts t_parts qt_texts t_texts qt_lengths t_lengths t_end t_index t_flags t_twice t_width t_precision t_conversion t_broken qt_piece t_piece t_put t_head qt_tens t_tens t_count t_exponent qt_work t_work)) ([.ref qt, .int a1, .long a2] : List Value).toArray s 0 0 (va_A (w_Model_clear G qt qt_draft t_draft t_drafted qt_result t_result t_length t_arguments qt_kinds t_kinds qt_values t_values qt_widths t_widths qt_below t_below qt_sizes t_sizes qt_scales t_scales qt_parts t_parts qt_texts t_texts qt_lengths t_lengths t_end t_index t_flags t_twice t_width t_precision t_conversion t_broken qt_piece t_piece t_put t_head qt_tens t_tens t_count t_exponent qt_work t_work) s.heap.size)) _
  rw [hQ]
  have hA : ∀ q : Nat, s.heap.size ≤ q → va_A (w_Model_clear G qt qt_draft t_draft t_drafted qt_result t_result t_length t_arguments qt_kinds t_kinds qt_values t_values qt_widths t_widths qt_below t_below qt_sizes t_sizes qt_scales t_scales qt_parts t_parts qt_texts t_texts qt_lengths t_lengths t_end t_index t_flags t_twice t_width t_precision t_conversion t_broken qt_piece t_piece t_put t_head qt_tens t_tens t_count t_exponent qt_work t_work) s.heap.size q := fun q h => Or.inr h
  obtain ⟨A, hAe⟩ : ∃ A, va_A (w_Model_clear G qt qt_draft t_draft t_drafted qt_result t_result t_length t_arguments qt_kinds t_kinds qt_values t_values qt_widths t_widths qt_below t_below qt_sizes t_sizes qt_scales t_scales qt_parts t_parts qt_texts t_texts qt_lengths t_lengths t_end t_index t_flags t_twice t_width t_precision t_conversion t_broken qt_piece t_piece t_put t_head qt_tens t_tens t_count t_exponent qt_work t_work) s.heap.size = A := ⟨_, rfl⟩
  rw [hAe] at hA hD hAb hQ
  have hS : va_S A s.heap s.heap [] := va_S.rf
  have hl := lv_entry (([.ref qt, .int a1, .long a2] : List Value)) (n := 5) (Nat.le_of_ble_eq_true rfl)
  rw [lg_entry_eq]
  generalize (lg_sl (([.ref qt, .int a1, .long a2] : List Value)) ++ List.replicate (5 - (lg_sl (([.ref qt, .int a1, .long a2] : List Value))).length) Slot.unset).toArray = ls at hl ⊢
  have hl : lv_has ls 5 [(0, .ref qt), (1, .int a1), (2, .long a2)] := hl
  have W_3 : ∀   (n_3 : Nat) (z3 : Int32 × (Nat → Int32)) , lp_ (b_Model_sizeOf_3 a1 a2 ) n_3 z3 = some res → ∀ (H : Heap) (locs : List Loc) (ls : Array Slot), va_P (gD G) vwCl (w_Model_clear G qt qt_draft t_draft t_drafted qt_result t_result t_length t_arguments qt_kinds t_kinds qt_values t_values qt_widths t_widths qt_below t_below qt_sizes z3.2 qt_scales t_scales qt_parts t_parts qt_texts t_texts qt_lengths t_lengths t_end t_index t_flags t_twice t_width t_precision t_conversion t_broken qt_piece t_piece t_put t_head qt_tens t_tens t_count t_exponent qt_work t_work) H → va_D A (w_Model_clear G qt qt_draft t_draft t_drafted qt_result t_result t_length t_arguments qt_kinds t_kinds qt_values t_values qt_widths t_widths qt_below t_below qt_sizes z3.2 qt_scales t_scales qt_parts t_parts qt_texts t_texts qt_lengths t_lengths t_end t_index t_flags t_twice t_width t_precision t_conversion t_broken qt_piece t_piece t_put t_head qt_tens t_tens t_count t_exponent qt_work t_work) → va_S A s.heap H locs → lv_has ls 5 [(0, .ref qt), (1, .int a1), (2, .long a2), (4, .int z3.1)] → W p l e { frames := 0, cells := 0, slots := 0, locals := 0 } s m ([.ref qt, .int a1, .long a2] : List Value).toArray below meth c H locs 0 0 Q (F0 m 3 ls []) := by
    intro  n_3
    induction n_3 with
    | zero =>
      intro z3  hf
      cases hf
    | succ n_3 ih_3 =>
      intro z3  hf H locs ls hP hD hS hl
      have hf : b_Model_sizeOf_3 a1 a2  (lp_ (b_Model_sizeOf_3 a1 a2 ) n_3) z3 = some res := hf
      generalize lp_ (b_Model_sizeOf_3 a1 a2 ) n_3 = rec_3 at hf ih_3
      unfold b_Model_sizeOf_3 at hf
      refine lv_iload hx hb d_Model_sizeOf_3 (lv_at hl 3 rfl) ?_
      refine lv_iconst (v := 4) hx hb d_Model_sizeOf_5 (by decide) ?_
      refine lv_icmp_ge (tgt := 39) hx hb d_Model_sizeOf_6 (by decide) (fun c_6 => ?_) (fun c_6 => ?_)
      · have hf := ip_ c_6 hf
        obtain rfl := Option.some.inj hf
        rw [← hQ]
        exact W.vret hx hb hr (fun t ht hW => ⟨⟨(), rfl, trivial, ⟨by rw [ht]; exact hP, hD⟩⟩, hS.F ht⟩) hS.2.2 d_Model_sizeOf_39
      · have hf := in_ c_6 hf
        refine lv_aload_n hx hb d_Model_sizeOf_9 rfl (lv_at hl 0 rfl) ?_
        refine va_get (D := gD G) (ci := 7) (v := .ref qt_sizes) (C := R_Model) (T := F_Model) (N := 29) hx hb hg in_Model hown hK hP 0 rfl rfl 9 (by decide) (hg _ m_24) (fun _ h9 => h9) rfl d_Model_sizeOf_10 ?_
        refine lv_bipush (v := 32) hx hb d_Model_sizeOf_13 (by decide) ?_
        refine lv_iload_n hx hb d_Model_sizeOf_15 rfl (lv_at hl 1 rfl) ?_
        refine lv_imul hx hb d_Model_sizeOf_16 ?_
        refine lv_iload hx hb d_Model_sizeOf_17 (lv_at hl 3 rfl) ?_
        refine lv_iadd hx hb d_Model_sizeOf_19 ?_
        refine lv_lload_n hx hb d_Model_sizeOf_20 rfl (lv_at hl 2 rfl) ?_
        refine lv_bipush (v := 16) hx hb d_Model_sizeOf_21 (by decide) ?_
        refine lv_iload hx hb d_Model_sizeOf_23 (lv_at hl 3 rfl) ?_
        refine lv_imul hx hb d_Model_sizeOf_25 ?_
        refine lv_lshr (v := (a2 >>> (((16 : Int32) * z3.1).toInt64 &&& 63))) hx hb d_Model_sizeOf_26 rfl ?_
        refine lv_ldc2 (v := 65535) hx hb hown (hg _ m_31) d_Model_sizeOf_27 ?_
        refine lv_land hx hb d_Model_sizeOf_30 ?_
        refine lv_l2i (v := ((a2 >>> (((16 : Int32) * z3.1).toInt64 &&& 63)) &&& (65535 : Int64)).toInt32) hx hb d_Model_sizeOf_31 rfl ?_
        obtain ⟨g_32, hf⟩ := gd_ hf
        refine va_iast hx hb hK hP hD hS 7 1 rfl rfl (inB_in g_32) d_Model_sizeOf_32 (fun H locs hP hD hS => ?_)
        have hP : va_P (gD G) vwCl (w_Model_clear G qt qt_draft t_draft t_drafted qt_result t_result t_length t_arguments qt_kinds t_kinds qt_values t_values qt_widths t_widths qt_below t_below qt_sizes (upd z3.2 (((32 : Int32) * a1) + z3.1).toNatClampNeg (((a2 >>> (((16 : Int32) * z3.1).toInt64 &&& 63)) &&& (65535 : Int64)).toInt32)) qt_scales t_scales qt_parts t_parts qt_texts t_texts qt_lengths t_lengths t_end t_index t_flags t_twice t_width t_precision t_conversion t_broken qt_piece t_piece t_put t_head qt_tens t_tens t_count t_exponent qt_work t_work) H := hP
        have hD : va_D A (w_Model_clear G qt qt_draft t_draft t_drafted qt_result t_result t_length t_arguments qt_kinds t_kinds qt_values t_values qt_widths t_widths qt_below t_below qt_sizes (upd z3.2 (((32 : Int32) * a1) + z3.1).toNatClampNeg (((a2 >>> (((16 : Int32) * z3.1).toInt64 &&& 63)) &&& (65535 : Int64)).toInt32)) qt_scales t_scales qt_parts t_parts qt_texts t_texts qt_lengths t_lengths t_end t_index t_flags t_twice t_width t_precision t_conversion t_broken qt_piece t_piece t_put t_head qt_tens t_tens t_count t_exponent qt_work t_work) := hD
        refine lv_iinc (v := (z3.1 + 1)) (lv' := [(4, .int (z3.1 + 1)), (0, .ref qt), (1, .int a1), (2, .long a2)]) hx hb d_Model_sizeOf_33 hl (k := 3) rfl rfl (by decide) rfl (fun ls hl => ?_)
        refine lv_goto (tgt := 3) hx hb d_Model_sizeOf_36 (by decide) ?_
        exact ih_3 ((z3.1 + 1), (upd z3.2 (((32 : Int32) * a1) + z3.1).toNatClampNeg (((a2 >>> (((16 : Int32) * z3.1).toInt64 &&& 63)) &&& (65535 : Int64)).toInt32)))  hf _ _ _ hP hD hS (lv_sub hl [1, 2, 3, 0] rfl)
  unfold f_Model_sizeOf at hf
  refine lv_iconst (v := 0) hx hb d_Model_sizeOf_0 (by decide) ?_
  refine lv_istore (lv' := [(4, .int (0 : Int32)), (0, .ref qt), (1, .int a1), (2, .long a2)]) hx hb d_Model_sizeOf_1 hl (by decide) rfl (fun ls hl => ?_)
  exact W_3   K ((0 : Int32), t_sizes)  hf _ _ _ hP hD hS (lv_sub hl [1, 2, 3, 0] rfl)
theorem d_Model_size_0 : decode b_Model_size 0 = .ok (.aload_n 0, 1) := by decide +kernel
theorem d_Model_size_1 : decode b_Model_size 1 = .ok (.iconst 4, 1) := by decide +kernel
theorem d_Model_size_2 : decode b_Model_size 2 = .ok (.lconst 0, 1) := by decide +kernel
theorem d_Model_size_3 : decode b_Model_size 3 = .ok (.iload_n 1, 1) := by decide +kernel
theorem d_Model_size_4 : decode b_Model_size 4 = .ok (.invokevirtual 63, 3) := by decide +kernel
theorem d_Model_size_7 : decode b_Model_size 7 = .ok (.istore 4, 2) := by decide +kernel
theorem d_Model_size_9 : decode b_Model_size 9 = .ok (.iload 4, 2) := by decide +kernel
theorem d_Model_size_11 : decode b_Model_size 11 = .ok (.ifCond .le 12, 3) := by decide +kernel
theorem d_Model_size_14 : decode b_Model_size 14 = .ok (.aload_n 0, 1) := by decide +kernel
theorem d_Model_size_15 : decode b_Model_size 15 = .ok (.iload 4, 2) := by decide +kernel
theorem d_Model_size_17 : decode b_Model_size 17 = .ok (.iconst 1, 1) := by decide +kernel
theorem d_Model_size_18 : decode b_Model_size 18 = .ok (.isub, 1) := by decide +kernel
theorem d_Model_size_19 : decode b_Model_size 19 = .ok (.lload_n 2, 1) := by decide +kernel
theorem d_Model_size_20 : decode b_Model_size 20 = .ok (.invokevirtual 69, 3) := by decide +kernel
theorem d_Model_size_23 : decode b_Model_size 23 = .ok (.iload 4, 2) := by decide +kernel
theorem d_Model_size_25 : decode b_Model_size 25 = .ok (.ireturn, 1) := by decide +kernel
theorem m_32 : Cond.methodLink R_Model 69 y_Model_sizeOf ∈ gw := gm (i := 982) (by decide +kernel) (by decide +kernel)
theorem m_33 : Cond.instanceMethod y_Model_sizeOf ∈ gw := gm (i := 984) (by decide +kernel) (by decide +kernel)
theorem m_34 : Cond.selects R_Model y_Model_sizeOf y_Model_sizeOf ∈ gw := gm (i := 39) (by decide +kernel) (by decide +kernel)
set_option maxRecDepth 100000 in
theorem m_35 : Cond.code y_Model_sizeOf b_Model_sizeOf 5 none ∈ gw := gm (i := 985) rfl rfl
def f_Model_size (K : Nat) (t_arguments : Int32) (t_kinds : Nat → Int32) (t_values : Nat → Int64) (t_below : Nat → Int32) (t_sizes : Nat → Int32) (a1 : Int32) (a2 : Int64) : Option (Int32 × Int32 × (Nat → Int32) × (Nat → Int64) × (Nat → Int32) × (Nat → Int32)) :=
  ((f_Model_argument K t_arguments t_kinds t_values t_below t_sizes (4 : Int32) (0 : Int64) a1).bind fun u_4 => (if u_4.1 ≤ 0 then some (u_4.1, u_4.2.1, u_4.2.2.1, u_4.2.2.2.1, u_4.2.2.2.2.1, u_4.2.2.2.2.2) else ((f_Model_sizeOf K u_4.2.2.2.2.2 (u_4.1 - (1 : Int32)) a2).bind fun u_20 => some (u_4.1, u_4.2.1, u_4.2.2.1, u_4.2.2.2.1, u_4.2.2.2.2.1, u_20))))
set_option maxHeartbeats 4000000 in
set_option maxRecDepth 100000 in
theorem c_Model_size (l : Launch) (G : Gt) (K : Nat) (qt : Nat) (qt_draft : Nat) (t_draft : Nat → Int32) (t_drafted : Int32) (qt_result : Nat) (t_result : Nat → Int32) (t_length : Int32) (t_arguments : Int32) (qt_kinds : Nat) (t_kinds : Nat → Int32) (qt_values : Nat) (t_values : Nat → Int64) (qt_widths : Nat) (t_widths : Nat → Int32) (qt_below : Nat) (t_below : Nat → Int32) (qt_sizes : Nat) (t_sizes : Nat → Int32) (qt_scales : Nat) (t_scales : Nat → Int32) (qt_parts : Nat) (t_parts : Nat → Int64) (qt_texts : Nat) (t_texts : Nat → Int32) (qt_lengths : Nat) (t_lengths : Nat → Int32) (t_end : Int32) (t_index : Int32) (t_flags : Int32) (t_twice : Int32) (t_width : Int32) (t_precision : Int32) (t_conversion : Int32) (t_broken : Int32) (qt_piece : Nat) (t_piece : Nat → Int32) (t_put : Int32) (t_head : Int32) (qt_tens : Nat) (t_tens : Nat → Int32) (t_count : Int32) (t_exponent : Int32) (qt_work : Nat) (t_work : Nat → Int32) (a1 : Int32) (a2 : Int64) (sz : Nat) (res : Int32 × Int32 × (Nat → Int32) × (Nat → Int64) × (Nat → Int32) × (Nat → Int32)) (hb_a1 : bl a1)  (hf : f_Model_size K t_arguments t_kinds t_values t_below t_sizes a1 a2 = some res) : Met l y_Model_size (.code y_Model_size b_Model_size 5 (some .int) :: gw) { frames := 1, cells := 0, slots := 0, locals := 40 } (PC G ([.ref qt, .int a1, .long a2] : List Value) sz (w_Model_clear G qt qt_draft t_draft t_drafted qt_result t_result t_length t_arguments qt_kinds t_kinds qt_values t_values qt_widths t_widths qt_below t_below qt_sizes t_sizes qt_scales t_scales qt_parts t_parts qt_texts t_texts qt_lengths t_lengths t_end t_index t_flags t_twice t_width t_precision t_conversion t_broken qt_piece t_piece t_put t_head qt_tens t_tens t_count t_exponent qt_work t_work)) (QI G res.1 (va_A (w_Model_clear G qt qt_draft t_draft t_drafted qt_result t_result t_length t_arguments qt_kinds t_kinds qt_values t_values qt_widths t_widths qt_below t_below qt_sizes t_sizes qt_scales t_scales qt_parts t_parts qt_texts t_texts qt_lengths t_lengths t_end t_index t_flags t_twice t_width t_precision t_conversion t_broken qt_piece t_piece t_put t_head qt_tens t_tens t_count t_exponent qt_work t_work) sz) (w_Model_clear G qt qt_draft t_draft t_drafted qt_result t_result t_length res.2.1 qt_kinds res.2.2.1 qt_values res.2.2.2.1 qt_widths t_widths qt_below res.2.2.2.2.1 qt_sizes res.2.2.2.2.2 qt_scales t_scales qt_parts t_parts qt_texts t_texts qt_lengths t_lengths t_end t_index t_flags t_twice t_width t_precision t_conversion t_broken qt_piece t_piece t_put t_head qt_tens t_tens t_count t_exponent qt_work t_work)) 0 0 (va_A (w_Model_clear G qt qt_draft t_draft t_drafted qt_result t_result t_length t_arguments qt_kinds t_kinds qt_values t_values qt_widths t_widths qt_below t_below qt_sizes t_sizes qt_scales t_scales qt_parts t_parts qt_texts t_texts qt_lengths t_lengths t_end t_index t_flags t_twice t_width t_precision t_conversion t_broken qt_piece t_piece t_put t_head qt_tens t_tens t_count t_exponent qt_work t_work) sz) := by
  refine Met.ofW (cc := b_Model_size) (maxL := 5) (ret := (some .int)) (by decide) rfl ?_
  intro p e s m args below meth c s₁ B hml hv
  obtain ⟨rfl, hsz, hP, hE, hD0⟩ := hv
  have hx := B.exec
  have hb := B.bytes
  have hr := B.returns
  have hts := atoms_spec (ws := (.code y_Model_size b_Model_size 5 (some .int) :: gw)) B.pre
  have hg : ∀ w ∈ gw, w.before _ s = true := fun w h => hts w (List.mem_cons_of_mem _ h)
  have hown : s.vm.findClass R_Model = some m.cls := findClass_of_methodNamed B.named
  have hlocks := B.notSynchronized
  subst hsz
  have hK := hE.K
  have hD := hD0.self (sz := s.heap.size)
  have hAb := hE.ab hD0
  obtain ⟨Q, hQ⟩ : ∃ Q, MQ below (QI G res.1 (va_A (w_Model_clear G qt qt_draft t_draft t_drafted qt_result t_result t_length t_arguments qt_kinds t_kinds qt_values t_values qt_widths t_widths qt_below t_below qt_sizes t_sizes qt_scales t_scales qt_parts t_parts qt_texts t_texts qt_lengths t_lengths t_end t_index t_flags t_twice t_width t_precision t_conversion t_broken qt_piece t_piece t_put t_head qt_tens t_tens t_count t_exponent qt_work t_work) s.heap.size) (w_Model_clear G qt qt_draft t_draft t_drafted qt_result t_result t_length res.2.1 qt_kinds res.2.2.1 qt_values res.2.2.2.1 qt_widths t_widths qt_below res.2.2.2.2.1 qt_sizes res.2.2.2.2.2 qt_scales t_scales qt_parts t_parts qt_texts t_texts qt_lengths t_lengths t_end t_index t_flags t_twice t_width t_precision t_conversion t_broken qt_piece t_piece t_put t_head qt_tens t_tens t_count t_exponent qt_work t_work)) ([.ref qt, .int a1, .long a2] : List Value).toArray s 0 0 (va_A (w_Model_clear G qt qt_draft t_draft t_drafted qt_result t_result t_length t_arguments qt_kinds t_kinds qt_values t_values qt_widths t_widths qt_below t_below qt_sizes t_sizes qt_scales t_scales qt_parts t_parts qt_texts t_texts qt_lengths t_lengths t_end t_index t_flags t_twice t_width t_precision t_conversion t_broken qt_piece t_piece t_put t_head qt_tens t_tens t_count t_exponent qt_work t_work) s.heap.size) = Q := ⟨_, rfl⟩
  show W p l e { frames := 1, cells := 0, slots := 0, locals := 40 } s m ([.ref qt, .int a1, .long a2] : List Value).toArray below meth c s.heap [] 0 0 (MQ below (QI G res.1 (va_A (w_Model_clear G qt qt_draft t_draft t_drafted qt_result t_result t_length t_arguments qt_kinds t_kinds qt_values t_values qt_widths t_widths qt_below t_below qt_sizes t_sizes qt_scales t_scales qt_parts t_parts qt_texts t_texts qt_lengths t_lengths t_end t_index t_flags t_twice t_width t_precision t_conversion t_broken qt_piece t_piece t_put t_head qt_tens t_tens t_count t_exponent qt_work t_work) s.heap.size) (w_Model_clear G qt qt_draft t_draft t_drafted qt_result t_result t_length res.2.1 qt_kinds res.2.2.1 qt_values res.2.2.2.1 qt_widths t_widths qt_below res.2.2.2.2.1 qt_sizes res.2.2.2.2.2 qt_scales t_scales qt_parts t_parts qt_texts t_texts qt_lengths t_lengths t_end t_index t_flags t_twice t_width t_precision t_conversion t_broken qt_piece t_piece t_put t_head qt_tens t_tens t_count t_exponent qt_work t_work)) ([.ref qt, .int a1, .long a2] : List Value).toArray s 0 0 (va_A (w_Model_clear G qt qt_draft t_draft t_drafted qt_result t_result t_length t_arguments qt_kinds t_kinds qt_values t_values qt_widths t_widths qt_below t_below qt_sizes t_sizes qt_scales t_scales qt_parts t_parts qt_texts t_texts qt_lengths t_lengths t_end t_index t_flags t_twice t_width t_precision t_conversion t_broken qt_piece t_piece t_put t_head qt_tens t_tens t_count t_exponent qt_work t_work) s.heap.size)) _
  rw [hQ]
  have hA : ∀ q : Nat, s.heap.size ≤ q → va_A (w_Model_clear G qt qt_draft t_draft t_drafted qt_result t_result t_length t_arguments qt_kinds t_kinds qt_values t_values qt_widths t_widths qt_below t_below qt_sizes t_sizes qt_scales t_scales qt_parts t_parts qt_texts t_texts qt_lengths t_lengths t_end t_index t_flags t_twice t_width t_precision t_conversion t_broken qt_piece t_piece t_put t_head qt_tens t_tens t_count t_exponent qt_work t_work) s.heap.size q := fun q h => Or.inr h
  obtain ⟨A, hAe⟩ : ∃ A, va_A (w_Model_clear G qt qt_draft t_draft t_drafted qt_result t_result t_length t_arguments qt_kinds t_kinds qt_values t_values qt_widths t_widths qt_below t_below qt_sizes t_sizes qt_scales t_scales qt_parts t_parts qt_texts t_texts qt_lengths t_lengths t_end t_index t_flags t_twice t_width t_precision t_conversion t_broken qt_piece t_piece t_put t_head qt_tens t_tens t_count t_exponent qt_work t_work) s.heap.size = A := ⟨_, rfl⟩
  rw [hAe] at hA hD hAb hQ
  have hS : va_S A s.heap s.heap [] := va_S.rf
  have hl := lv_entry (([.ref qt, .int a1, .long a2] : List Value)) (n := 5) (Nat.le_of_ble_eq_true rfl)
  rw [lg_entry_eq]
  generalize (lg_sl (([.ref qt, .int a1, .long a2] : List Value)) ++ List.replicate (5 - (lg_sl (([.ref qt, .int a1, .long a2] : List Value))).length) Slot.unset).toArray = ls at hl ⊢
  have hl : lv_has ls 5 [(0, .ref qt), (1, .int a1), (2, .long a2)] := hl
  unfold f_Model_size at hf
  refine lv_aload_n hx hb d_Model_size_0 rfl (lv_at hl 0 rfl) ?_
  refine lv_iconst (v := 4) hx hb d_Model_size_1 (by decide) ?_
  refine lv_lconst (v := 0) hx hb d_Model_size_2 (by decide) ?_
  refine lv_iload_n hx hb d_Model_size_3 rfl (lv_at hl 1 rfl) ?_
  obtain ⟨u_4, hu_4, hf⟩ := bd_ hf
  refine CALLWi (va_runV (As := [.int (4 : Int32), .long (0 : Int64), .int a1]) (rest := []) ⟨hx, hb, hml, hown, hg⟩ (c_Model_argument l G K qt qt_draft t_draft t_drafted qt_result t_result t_length t_arguments qt_kinds t_kinds qt_values t_values qt_widths t_widths qt_below t_below qt_sizes t_sizes qt_scales t_scales qt_parts t_parts qt_texts t_texts qt_lengths t_lengths t_end t_index t_flags t_twice t_width t_precision t_conversion t_broken qt_piece t_piece t_put t_head qt_tens t_tens t_count t_exponent qt_work t_work (4 : Int32) (0 : Int64) a1 _ u_4 hb_a1 hu_4) (cwV 3 hg (gV m_25 m_26 m_27 m_28 m_29) rfl rfl rfl (by decide +kernel) ⟨Nat.le_of_ble_eq_true rfl, Nat.le_of_ble_eq_true rfl⟩) ⟨PC_b, va_recv hK hP (ci := 7) (q0 := 0) rfl rfl, PC_p hE hS hAb hP hD⟩ rfl rfl hl.1 rfl (lv_room (Nat.le_of_ble_eq_true rfl)) d_Model_size_4 ⟨Nat.zero_le _, Nat.zero_le _⟩) hP hD hS hA (fun H locs hP hD hS => ?_)
  have hP : va_P (gD G) vwCl (w_Model_clear G qt qt_draft t_draft t_drafted qt_result t_result t_length u_4.2.1 qt_kinds u_4.2.2.1 qt_values u_4.2.2.2.1 qt_widths t_widths qt_below u_4.2.2.2.2.1 qt_sizes u_4.2.2.2.2.2 qt_scales t_scales qt_parts t_parts qt_texts t_texts qt_lengths t_lengths t_end t_index t_flags t_twice t_width t_precision t_conversion t_broken qt_piece t_piece t_put t_head qt_tens t_tens t_count t_exponent qt_work t_work) H := hP
  have hD : va_D A (w_Model_clear G qt qt_draft t_draft t_drafted qt_result t_result t_length u_4.2.1 qt_kinds u_4.2.2.1 qt_values u_4.2.2.2.1 qt_widths t_widths qt_below u_4.2.2.2.2.1 qt_sizes u_4.2.2.2.2.2 qt_scales t_scales qt_parts t_parts qt_texts t_texts qt_lengths t_lengths t_end t_index t_flags t_twice t_width t_precision t_conversion t_broken qt_piece t_piece t_put t_head qt_tens t_tens t_count t_exponent qt_work t_work) := hD
  refine lv_istore (lv' := [(4, .int u_4.1), (0, .ref qt), (1, .int a1), (2, .long a2)]) hx hb d_Model_size_7 hl (by decide) rfl (fun ls hl => ?_)
  refine lv_iload hx hb d_Model_size_9 (lv_at hl 0 rfl) ?_
  refine lv_if_le (tgt := 23) hx hb d_Model_size_11 (by decide) (fun c_11 => ?_) (fun c_11 => ?_)
  · have hf := ip_ c_11 hf
    refine lv_iload hx hb d_Model_size_23 (lv_at hl 0 rfl) ?_
    obtain rfl := Option.some.inj hf
    rw [← hQ]
    exact W.iret (v := u_4.1) hx hb hr (fun t ht hW => ⟨⟨u_4.1, (), rfl, rfl, ⟨by rw [ht]; exact hP, hD⟩⟩, hS.F ht⟩) hS.2.2 d_Model_size_25
  · have hf := in_ c_11 hf
    refine lv_aload_n hx hb d_Model_size_14 rfl (lv_at hl 1 rfl) ?_
    refine lv_iload hx hb d_Model_size_15 (lv_at hl 0 rfl) ?_
    refine lv_iconst (v := 1) hx hb d_Model_size_17 (by decide) ?_
    refine lv_isub hx hb d_Model_size_18 ?_
    refine lv_lload_n hx hb d_Model_size_19 rfl (lv_at hl 3 rfl) ?_
    obtain ⟨u_20, hu_20, hf⟩ := bd_ hf
    refine CALLWv (va_runV (As := [.int (u_4.1 - (1 : Int32)), .long a2]) (rest := []) ⟨hx, hb, hml, hown, hg⟩ (c_Model_sizeOf l G K qt qt_draft t_draft t_drafted qt_result t_result t_length u_4.2.1 qt_kinds u_4.2.2.1 qt_values u_4.2.2.2.1 qt_widths t_widths qt_below u_4.2.2.2.2.1 qt_sizes u_4.2.2.2.2.2 qt_scales t_scales qt_parts t_parts qt_texts t_texts qt_lengths t_lengths t_end t_index t_flags t_twice t_width t_precision t_conversion t_broken qt_piece t_piece t_put t_head qt_tens t_tens t_count t_exponent qt_work t_work (u_4.1 - (1 : Int32)) a2 _ u_20  hu_20) (cwV 2 hg (gV m_32 m_33 m_34 m_28 m_35) rfl rfl rfl (by decide +kernel) ⟨Nat.le_of_ble_eq_true rfl, Nat.le_of_ble_eq_true rfl⟩) ⟨PC_b, va_recv hK hP (ci := 7) (q0 := 0) rfl rfl, PC_p hE hS hAb hP hD⟩ rfl rfl hl.1 rfl (lv_room (Nat.le_of_ble_eq_true rfl)) d_Model_size_20 ⟨Nat.zero_le _, Nat.zero_le _⟩) hP hD hS hA (fun H locs hP hD hS => ?_)
    have hP : va_P (gD G) vwCl (w_Model_clear G qt qt_draft t_draft t_drafted qt_result t_result t_length u_4.2.1 qt_kinds u_4.2.2.1 qt_values u_4.2.2.2.1 qt_widths t_widths qt_below u_4.2.2.2.2.1 qt_sizes u_20 qt_scales t_scales qt_parts t_parts qt_texts t_texts qt_lengths t_lengths t_end t_index t_flags t_twice t_width t_precision t_conversion t_broken qt_piece t_piece t_put t_head qt_tens t_tens t_count t_exponent qt_work t_work) H := hP
    have hD : va_D A (w_Model_clear G qt qt_draft t_draft t_drafted qt_result t_result t_length u_4.2.1 qt_kinds u_4.2.2.1 qt_values u_4.2.2.2.1 qt_widths t_widths qt_below u_4.2.2.2.2.1 qt_sizes u_20 qt_scales t_scales qt_parts t_parts qt_texts t_texts qt_lengths t_lengths t_end t_index t_flags t_twice t_width t_precision t_conversion t_broken qt_piece t_piece t_put t_head qt_tens t_tens t_count t_exponent qt_work t_work) := hD
    refine lv_iload hx hb d_Model_size_23 (lv_at hl 0 rfl) ?_
    obtain rfl := Option.some.inj hf
    rw [← hQ]
    exact W.iret (v := u_4.1) hx hb hr (fun t ht hW => ⟨⟨u_4.1, (), rfl, rfl, ⟨by rw [ht]; exact hP, hD⟩⟩, hS.F ht⟩) hS.2.2 d_Model_size_25
theorem d_Model_more_0 : decode b_Model_more 0 = .ok (.aload_n 0, 1) := by decide +kernel
theorem d_Model_more_1 : decode b_Model_more 1 = .ok (.getfield 60, 3) := by decide +kernel
theorem d_Model_more_4 : decode b_Model_more 4 = .ok (.iconst 1, 1) := by decide +kernel
theorem d_Model_more_5 : decode b_Model_more 5 = .ok (.isub, 1) := by decide +kernel
theorem d_Model_more_6 : decode b_Model_more 6 = .ok (.istore_n 3, 1) := by decide +kernel
theorem d_Model_more_7 : decode b_Model_more 7 = .ok (.iload_n 3, 1) := by decide +kernel
theorem d_Model_more_8 : decode b_Model_more 8 = .ok (.ifCond .lt 23, 3) := by decide +kernel
theorem d_Model_more_11 : decode b_Model_more 11 = .ok (.aload_n 0, 1) := by decide +kernel
theorem d_Model_more_12 : decode b_Model_more 12 = .ok (.getfield 16, 3) := by decide +kernel
theorem d_Model_more_15 : decode b_Model_more 15 = .ok (.iload_n 3, 1) := by decide +kernel
theorem d_Model_more_16 : decode b_Model_more 16 = .ok (.iaload, 1) := by decide +kernel
theorem d_Model_more_17 : decode b_Model_more 17 = .ok (.iconst 4, 1) := by decide +kernel
theorem d_Model_more_18 : decode b_Model_more 18 = .ok (.if_icmp .eq 15, 3) := by decide +kernel
theorem d_Model_more_21 : decode b_Model_more 21 = .ok (.aload_n 0, 1) := by decide +kernel
theorem d_Model_more_22 : decode b_Model_more 22 = .ok (.getfield 16, 3) := by decide +kernel
theorem d_Model_more_25 : decode b_Model_more 25 = .ok (.iload_n 3, 1) := by decide +kernel
theorem d_Model_more_26 : decode b_Model_more 26 = .ok (.iaload, 1) := by decide +kernel
theorem d_Model_more_27 : decode b_Model_more 27 = .ok (.iconst 5, 1) := by decide +kernel
theorem d_Model_more_28 : decode b_Model_more 28 = .ok (.if_icmp .eq 5, 3) := by decide +kernel
theorem d_Model_more_31 : decode b_Model_more 31 = .ok (.iconst (-1), 1) := by decide +kernel
theorem d_Model_more_32 : decode b_Model_more 32 = .ok (.ireturn, 1) := by decide +kernel
theorem d_Model_more_33 : decode b_Model_more 33 = .ok (.bipush 28, 2) := by decide +kernel
theorem d_Model_more_35 : decode b_Model_more 35 = .ok (.istore 4, 2) := by decide +kernel
theorem d_Model_more_37 : decode b_Model_more 37 = .ok (.iload 4, 2) := by decide +kernel
theorem d_Model_more_39 : decode b_Model_more 39 = .ok (.bipush 32, 2) := by decide +kernel
theorem d_Model_more_41 : decode b_Model_more 41 = .ok (.if_icmp .ge 26, 3) := by decide +kernel
theorem d_Model_more_44 : decode b_Model_more 44 = .ok (.aload_n 0, 1) := by decide +kernel
theorem d_Model_more_45 : decode b_Model_more 45 = .ok (.getfield 30, 3) := by decide +kernel
theorem d_Model_more_48 : decode b_Model_more 48 = .ok (.bipush 32, 2) := by decide +kernel
theorem d_Model_more_50 : decode b_Model_more 50 = .ok (.iload_n 3, 1) := by decide +kernel
theorem d_Model_more_51 : decode b_Model_more 51 = .ok (.imul, 1) := by decide +kernel
theorem d_Model_more_52 : decode b_Model_more 52 = .ok (.iload 4, 2) := by decide +kernel
theorem d_Model_more_54 : decode b_Model_more 54 = .ok (.iadd, 1) := by decide +kernel
theorem d_Model_more_55 : decode b_Model_more 55 = .ok (.iaload, 1) := by decide +kernel
theorem d_Model_more_56 : decode b_Model_more 56 = .ok (.ifCond .eq 5, 3) := by decide +kernel
theorem d_Model_more_59 : decode b_Model_more 59 = .ok (.iconst (-1), 1) := by decide +kernel
theorem d_Model_more_60 : decode b_Model_more 60 = .ok (.ireturn, 1) := by decide +kernel
theorem d_Model_more_61 : decode b_Model_more 61 = .ok (.iinc 4 1, 3) := by decide +kernel
theorem d_Model_more_64 : decode b_Model_more 64 = .ok (.goto (-27), 3) := by decide +kernel
theorem d_Model_more_67 : decode b_Model_more 67 = .ok (.bipush 31, 2) := by decide +kernel
theorem d_Model_more_69 : decode b_Model_more 69 = .ok (.istore 4, 2) := by decide +kernel
theorem d_Model_more_71 : decode b_Model_more 71 = .ok (.iload 4, 2) := by decide +kernel
theorem d_Model_more_73 : decode b_Model_more 73 = .ok (.iconst 3, 1) := by decide +kernel
theorem d_Model_more_74 : decode b_Model_more 74 = .ok (.if_icmp .le 35, 3) := by decide +kernel
theorem d_Model_more_77 : decode b_Model_more 77 = .ok (.aload_n 0, 1) := by decide +kernel
theorem d_Model_more_78 : decode b_Model_more 78 = .ok (.getfield 30, 3) := by decide +kernel
theorem d_Model_more_81 : decode b_Model_more 81 = .ok (.bipush 32, 2) := by decide +kernel
theorem d_Model_more_83 : decode b_Model_more 83 = .ok (.iload_n 3, 1) := by decide +kernel
theorem d_Model_more_84 : decode b_Model_more 84 = .ok (.imul, 1) := by decide +kernel
theorem d_Model_more_85 : decode b_Model_more 85 = .ok (.iload 4, 2) := by decide +kernel
theorem d_Model_more_87 : decode b_Model_more 87 = .ok (.iadd, 1) := by decide +kernel
theorem d_Model_more_88 : decode b_Model_more 88 = .ok (.aload_n 0, 1) := by decide +kernel
theorem d_Model_more_89 : decode b_Model_more 89 = .ok (.getfield 30, 3) := by decide +kernel
theorem d_Model_more_92 : decode b_Model_more 92 = .ok (.bipush 32, 2) := by decide +kernel
theorem d_Model_more_94 : decode b_Model_more 94 = .ok (.iload_n 3, 1) := by decide +kernel
theorem d_Model_more_95 : decode b_Model_more 95 = .ok (.imul, 1) := by decide +kernel
theorem d_Model_more_96 : decode b_Model_more 96 = .ok (.iload 4, 2) := by decide +kernel
theorem d_Model_more_98 : decode b_Model_more 98 = .ok (.iadd, 1) := by decide +kernel
theorem d_Model_more_99 : decode b_Model_more 99 = .ok (.iconst 4, 1) := by decide +kernel
theorem d_Model_more_100 : decode b_Model_more 100 = .ok (.isub, 1) := by decide +kernel
theorem d_Model_more_101 : decode b_Model_more 101 = .ok (.iaload, 1) := by decide +kernel
theorem d_Model_more_102 : decode b_Model_more 102 = .ok (.iastore, 1) := by decide +kernel
theorem d_Model_more_103 : decode b_Model_more 103 = .ok (.iinc 4 (-1), 3) := by decide +kernel
theorem d_Model_more_106 : decode b_Model_more 106 = .ok (.goto (-35), 3) := by decide +kernel
theorem d_Model_more_109 : decode b_Model_more 109 = .ok (.aload_n 0, 1) := by decide +kernel
theorem d_Model_more_110 : decode b_Model_more 110 = .ok (.iload_n 3, 1) := by decide +kernel
theorem d_Model_more_111 : decode b_Model_more 111 = .ok (.lload_n 1, 1) := by decide +kernel
theorem d_Model_more_112 : decode b_Model_more 112 = .ok (.invokevirtual 69, 3) := by decide +kernel
theorem d_Model_more_115 : decode b_Model_more 115 = .ok (.aload_n 0, 1) := by decide +kernel
theorem d_Model_more_116 : decode b_Model_more 116 = .ok (.getfield 60, 3) := by decide +kernel
theorem d_Model_more_119 : decode b_Model_more 119 = .ok (.ireturn, 1) := by decide +kernel
def b_Model_more_71 (K : Nat) (t_arguments : Int32) (a1 : Int64) (x3 : Int32) (rec_71 : (Int32 × (Nat → Int32)) → Option (Int32 × (Nat → Int32))) (z71 : Int32 × (Nat → Int32)) : Option (Int32 × (Nat → Int32)) :=
  (if z71.1 ≤ (3 : Int32) then ((f_Model_sizeOf K z71.2 x3 a1).bind fun u_112 => some (t_arguments, u_112)) else (if inB ((((32 : Int32) * x3) + z71.1) - (4 : Int32)) 384 = true then (if inB (((32 : Int32) * x3) + z71.1) 384 = true then rec_71 ((z71.1 + (-1)), (upd z71.2 (((32 : Int32) * x3) + z71.1).toNatClampNeg (z71.2 ((((32 : Int32) * x3) + z71.1) - (4 : Int32)).toNatClampNeg))) else none) else none))
def b_Model_more_37 (K : Nat) (t_arguments : Int32) (a1 : Int64) (x3 : Int32) (t_sizes : (Nat → Int32)) (rec_37 : Int32 → Option (Int32 × (Nat → Int32))) (z37 : Int32) : Option (Int32 × (Nat → Int32)) :=
  (if (32 : Int32) ≤ z37 then lp_ (b_Model_more_71 K t_arguments a1 x3) K ((31 : Int32), t_sizes) else (if inB (((32 : Int32) * x3) + z37) 384 = true then (if (t_sizes (((32 : Int32) * x3) + z37).toNatClampNeg) = 0 then rec_37 (z37 + 1) else some ((-1 : Int32), t_sizes)) else none))
def k_Model_more_33 (K : Nat) (t_arguments : Int32) (a1 : Int64) (x3 : Int32) (t_sizes : (Nat → Int32)) : Option (Int32 × (Nat → Int32)) :=
  lp_ (b_Model_more_37 K t_arguments a1 x3 t_sizes) K (28 : Int32)
def f_Model_more (K : Nat) (t_arguments : Int32) (t_kinds : Nat → Int32) (t_sizes : Nat → Int32) (a1 : Int64) : Option (Int32 × (Nat → Int32)) :=
  (if (t_arguments - (1 : Int32)) < 0 then some ((-1 : Int32), t_sizes) else (if inB (t_arguments - (1 : Int32)) 12 = true then (if (t_kinds (t_arguments - (1 : Int32)).toNatClampNeg) = (4 : Int32) then k_Model_more_33 K t_arguments a1 (t_arguments - (1 : Int32)) t_sizes else (if inB (t_arguments - (1 : Int32)) 12 = true then (if (t_kinds (t_arguments - (1 : Int32)).toNatClampNeg) = (5 : Int32) then k_Model_more_33 K t_arguments a1 (t_arguments - (1 : Int32)) t_sizes else some ((-1 : Int32), t_sizes)) else none)) else none))
set_option maxHeartbeats 4000000 in
set_option maxRecDepth 100000 in
theorem c_Model_more (l : Launch) (G : Gt) (K : Nat) (qt : Nat) (qt_draft : Nat) (t_draft : Nat → Int32) (t_drafted : Int32) (qt_result : Nat) (t_result : Nat → Int32) (t_length : Int32) (t_arguments : Int32) (qt_kinds : Nat) (t_kinds : Nat → Int32) (qt_values : Nat) (t_values : Nat → Int64) (qt_widths : Nat) (t_widths : Nat → Int32) (qt_below : Nat) (t_below : Nat → Int32) (qt_sizes : Nat) (t_sizes : Nat → Int32) (qt_scales : Nat) (t_scales : Nat → Int32) (qt_parts : Nat) (t_parts : Nat → Int64) (qt_texts : Nat) (t_texts : Nat → Int32) (qt_lengths : Nat) (t_lengths : Nat → Int32) (t_end : Int32) (t_index : Int32) (t_flags : Int32) (t_twice : Int32) (t_width : Int32) (t_precision : Int32) (t_conversion : Int32) (t_broken : Int32) (qt_piece : Nat) (t_piece : Nat → Int32) (t_put : Int32) (t_head : Int32) (qt_tens : Nat) (t_tens : Nat → Int32) (t_count : Int32) (t_exponent : Int32) (qt_work : Nat) (t_work : Nat → Int32) (a1 : Int64) (sz : Nat) (res : Int32 × (Nat → Int32))   (hf : f_Model_more K t_arguments t_kinds t_sizes a1 = some res) : Met l y_Model_more (.code y_Model_more b_Model_more 5 (some .int) :: gw) { frames := 1, cells := 0, slots := 0, locals := 40 } (PC G ([.ref qt, .long a1] : List Value) sz (w_Model_clear G qt qt_draft t_draft t_drafted qt_result t_result t_length t_arguments qt_kinds t_kinds qt_values t_values qt_widths t_widths qt_below t_below qt_sizes t_sizes qt_scales t_scales qt_parts t_parts qt_texts t_texts qt_lengths t_lengths t_end t_index t_flags t_twice t_width t_precision t_conversion t_broken qt_piece t_piece t_put t_head qt_tens t_tens t_count t_exponent qt_work t_work)) (QI G res.1 (va_A (w_Model_clear G qt qt_draft t_draft t_drafted qt_result t_result t_length t_arguments qt_kinds t_kinds qt_values t_values qt_widths t_widths qt_below t_below qt_sizes t_sizes qt_scales t_scales qt_parts t_parts qt_texts t_texts qt_lengths t_lengths t_end t_index t_flags t_twice t_width t_precision t_conversion t_broken qt_piece t_piece t_put t_head qt_tens t_tens t_count t_exponent qt_work t_work) sz) (w_Model_clear G qt qt_draft t_draft t_drafted qt_result t_result t_length t_arguments qt_kinds t_kinds qt_values t_values qt_widths t_widths qt_below t_below qt_sizes res.2 qt_scales t_scales qt_parts t_parts qt_texts t_texts qt_lengths t_lengths t_end t_index t_flags t_twice t_width t_precision t_conversion t_broken qt_piece t_piece t_put t_head qt_tens t_tens t_count t_exponent qt_work t_work)) 0 0 (va_A (w_Model_clear G qt qt_draft t_draft t_drafted qt_result t_result t_length t_arguments qt_kinds t_kinds qt_values t_values qt_widths t_widths qt_below t_below qt_sizes t_sizes qt_scales t_scales qt_parts t_parts qt_texts t_texts qt_lengths t_lengths t_end t_index t_flags t_twice t_width t_precision t_conversion t_broken qt_piece t_piece t_put t_head qt_tens t_tens t_count t_exponent qt_work t_work) sz) := by
  refine Met.ofW (cc := b_Model_more) (maxL := 5) (ret := (some .int)) (by decide) rfl ?_
  intro p e s m args below meth c s₁ B hml hv
  obtain ⟨rfl, hsz, hP, hE, hD0⟩ := hv
  have hx := B.exec
  have hb := B.bytes
  have hr := B.returns
  have hts := atoms_spec (ws := (.code y_Model_more b_Model_more 5 (some .int) :: gw)) B.pre
  have hg : ∀ w ∈ gw, w.before _ s = true := fun w h => hts w (List.mem_cons_of_mem _ h)
  have hown : s.vm.findClass R_Model = some m.cls := findClass_of_methodNamed B.named
  have hlocks := B.notSynchronized
  subst hsz
  have hK := hE.K
  have hD := hD0.self (sz := s.heap.size)
  have hAb := hE.ab hD0
  obtain ⟨Q, hQ⟩ : ∃ Q, MQ below (QI G res.1 (va_A (w_Model_clear G qt qt_draft t_draft t_drafted qt_result t_result t_length t_arguments qt_kinds t_kinds qt_values t_values qt_widths t_widths qt_below t_below qt_sizes t_sizes qt_scales t_scales qt_parts t_parts qt_texts t_texts qt_lengths t_lengths t_end t_index t_flags t_twice t_width t_precision t_conversion t_broken qt_piece t_piece t_put t_head qt_tens t_tens t_count t_exponent qt_work t_work) s.heap.size) (w_Model_clear G qt qt_draft t_draft t_drafted qt_result t_result t_length t_arguments qt_kinds t_kinds qt_values t_values qt_widths t_widths qt_below t_below qt_sizes res.2 qt_scales t_scales qt_parts t_parts qt_texts t_texts qt_lengths t_lengths t_end t_index t_flags t_twice t_width t_precision t_conversion t_broken qt_piece t_piece t_put t_head qt_tens t_tens t_count t_exponent qt_work t_work)) ([.ref qt, .long a1] : List Value).toArray s 0 0 (va_A (w_Model_clear G qt qt_draft t_draft t_drafted qt_result t_result t_length t_arguments qt_kinds t_kinds qt_values t_values qt_widths t_widths qt_below t_below qt_sizes t_sizes qt_scales t_scales qt_parts t_parts qt_texts t_texts qt_lengths t_lengths t_end t_index t_flags t_twice t_width t_precision t_conversion t_broken qt_piece t_piece t_put t_head qt_tens t_tens t_count t_exponent qt_work t_work) s.heap.size) = Q := ⟨_, rfl⟩
  show W p l e { frames := 1, cells := 0, slots := 0, locals := 40 } s m ([.ref qt, .long a1] : List Value).toArray below meth c s.heap [] 0 0 (MQ below (QI G res.1 (va_A (w_Model_clear G qt qt_draft t_draft t_drafted qt_result t_result t_length t_arguments qt_kinds t_kinds qt_values t_values qt_widths t_widths qt_below t_below qt_sizes t_sizes qt_scales t_scales qt_parts t_parts qt_texts t_texts qt_lengths t_lengths t_end t_index t_flags t_twice t_width t_precision t_conversion t_broken qt_piece t_piece t_put t_head qt_tens t_tens t_count t_exponent qt_work t_work) s.heap.size) (w_Model_clear G qt qt_draft t_draft t_drafted qt_result t_result t_length t_arguments qt_kinds t_kinds qt_values t_values qt_widths t_widths qt_below t_below qt_sizes res.2 qt_scales t_scales qt_parts t_parts qt_texts t_texts qt_lengths t_lengths t_end t_index t_flags t_twice t_width t_precision t_conversion t_broken qt_piece t_piece t_put t_head qt_tens t_tens t_count t_exponent qt_work t_work)) ([.ref qt, .long a1] : List Value).toArray s 0 0 (va_A (w_Model_clear G qt qt_draft t_draft t_drafted qt_result t_result t_length t_arguments qt_kinds t_kinds qt_values t_values qt_widths t_widths qt_below t_below qt_sizes t_sizes qt_scales t_scales qt_parts t_parts qt_texts t_texts qt_lengths t_lengths t_end t_index t_flags t_twice t_width t_precision t_conversion t_broken qt_piece t_piece t_put t_head qt_tens t_tens t_count t_exponent qt_work t_work) s.heap.size)) _
  rw [hQ]
  have hA : ∀ q : Nat, s.heap.size ≤ q → va_A (w_Model_clear G qt qt_draft t_draft t_drafted qt_result t_result t_length t_arguments qt_kinds t_kinds qt_values t_values qt_widths t_widths qt_below t_below qt_sizes t_sizes qt_scales t_scales qt_parts t_parts qt_texts t_texts qt_lengths t_lengths t_end t_index t_flags t_twice t_width t_precision t_conversion t_broken qt_piece t_piece t_put t_head qt_tens t_tens t_count t_exponent qt_work t_work) s.heap.size q := fun q h => Or.inr h
  obtain ⟨A, hAe⟩ : ∃ A, va_A (w_Model_clear G qt qt_draft t_draft t_drafted qt_result t_result t_length t_arguments qt_kinds t_kinds qt_values t_values qt_widths t_widths qt_below t_below qt_sizes t_sizes qt_scales t_scales qt_parts t_parts qt_texts t_texts qt_lengths t_lengths t_end t_index t_flags t_twice t_width t_precision t_conversion t_broken qt_piece t_piece t_put t_head qt_tens t_tens t_count t_exponent qt_work t_work) s.heap.size = A := ⟨_, rfl⟩
  rw [hAe] at hA hD hAb hQ
  have hS : va_S A s.heap s.heap [] := va_S.rf
  have hl := lv_entry (([.ref qt, .long a1] : List Value)) (n := 5) (Nat.le_of_ble_eq_true rfl)
  rw [lg_entry_eq]
  generalize (lg_sl (([.ref qt, .long a1] : List Value)) ++ List.replicate (5 - (lg_sl (([.ref qt, .long a1] : List Value))).length) Slot.unset).toArray = ls at hl ⊢
  have hl : lv_has ls 5 [(0, .ref qt), (1, .long a1)] := hl
  have W_71 : ∀ (x3 : Int32)  (n_71 : Nat) (z71 : Int32 × (Nat → Int32)) , lp_ (b_Model_more_71 K t_arguments a1 x3) n_71 z71 = some res → ∀ (H : Heap) (locs : List Loc) (ls : Array Slot), va_P (gD G) vwCl (w_Model_clear G qt qt_draft t_draft t_drafted qt_result t_result t_length t_arguments qt_kinds t_kinds qt_values t_values qt_widths t_widths qt_below t_below qt_sizes z71.2 qt_scales t_scales qt_parts t_parts qt_texts t_texts qt_lengths t_lengths t_end t_index t_flags t_twice t_width t_precision t_conversion t_broken qt_piece t_piece t_put t_head qt_tens t_tens t_count t_exponent qt_work t_work) H → va_D A (w_Model_clear G qt qt_draft t_draft t_drafted qt_result t_result t_length t_arguments qt_kinds t_kinds qt_values t_values qt_widths t_widths qt_below t_below qt_sizes z71.2 qt_scales t_scales qt_parts t_parts qt_texts t_texts qt_lengths t_lengths t_end t_index t_flags t_twice t_width t_precision t_conversion t_broken qt_piece t_piece t_put t_head qt_tens t_tens t_count t_exponent qt_work t_work) → va_S A s.heap H locs → lv_has ls 5 [(0, .ref qt), (1, .long a1), (3, .int x3), (4, .int z71.1)] → W p l e { frames := 1, cells := 0, slots := 0, locals := 40 } s m ([.ref qt, .long a1] : List Value).toArray below meth c H locs 0 0 Q (F0 m 71 ls []) := by
    intro x3 n_71
    induction n_71 with
    | zero =>
      intro z71  hf
      cases hf
    | succ n_71 ih_71 =>
      intro z71  hf H locs ls hP hD hS hl
      have hf : b_Model_more_71 K t_arguments a1 x3 (lp_ (b_Model_more_71 K t_arguments a1 x3) n_71) z71 = some res := hf
      generalize lp_ (b_Model_more_71 K t_arguments a1 x3) n_71 = rec_71 at hf ih_71
      unfold b_Model_more_71 at hf
      refine lv_iload hx hb d_Model_more_71 (lv_at hl 3 rfl) ?_
      refine lv_iconst (v := 3) hx hb d_Model_more_73 (by decide) ?_
      refine lv_icmp_le (tgt := 109) hx hb d_Model_more_74 (by decide) (fun c_74 => ?_) (fun c_74 => ?_)
      · have hf := ip_ c_74 hf
        refine lv_aload_n hx hb d_Model_more_109 rfl (lv_at hl 0 rfl) ?_
        refine lv_iload_n hx hb d_Model_more_110 rfl (lv_at hl 2 rfl) ?_
        refine lv_lload_n hx hb d_Model_more_111 rfl (lv_at hl 1 rfl) ?_
        obtain ⟨u_112, hu_112, hf⟩ := bd_ hf
        refine CALLWv (va_runV (As := [.int x3, .long a1]) (rest := []) ⟨hx, hb, hml, hown, hg⟩ (c_Model_sizeOf l G K qt qt_draft t_draft t_drafted qt_result t_result t_length t_arguments qt_kinds t_kinds qt_values t_values qt_widths t_widths qt_below t_below qt_sizes z71.2 qt_scales t_scales qt_parts t_parts qt_texts t_texts qt_lengths t_lengths t_end t_index t_flags t_twice t_width t_precision t_conversion t_broken qt_piece t_piece t_put t_head qt_tens t_tens t_count t_exponent qt_work t_work x3 a1 _ u_112  hu_112) (cwV 2 hg (gV m_32 m_33 m_34 m_28 m_35) rfl rfl rfl (by decide +kernel) ⟨Nat.le_of_ble_eq_true rfl, Nat.le_of_ble_eq_true rfl⟩) ⟨PC_b, va_recv hK hP (ci := 7) (q0 := 0) rfl rfl, PC_p hE hS hAb hP hD⟩ rfl rfl hl.1 rfl (lv_room (Nat.le_of_ble_eq_true rfl)) d_Model_more_112 ⟨Nat.zero_le _, Nat.zero_le _⟩) hP hD hS hA (fun H locs hP hD hS => ?_)
        have hP : va_P (gD G) vwCl (w_Model_clear G qt qt_draft t_draft t_drafted qt_result t_result t_length t_arguments qt_kinds t_kinds qt_values t_values qt_widths t_widths qt_below t_below qt_sizes u_112 qt_scales t_scales qt_parts t_parts qt_texts t_texts qt_lengths t_lengths t_end t_index t_flags t_twice t_width t_precision t_conversion t_broken qt_piece t_piece t_put t_head qt_tens t_tens t_count t_exponent qt_work t_work) H := hP
        have hD : va_D A (w_Model_clear G qt qt_draft t_draft t_drafted qt_result t_result t_length t_arguments qt_kinds t_kinds qt_values t_values qt_widths t_widths qt_below t_below qt_sizes u_112 qt_scales t_scales qt_parts t_parts qt_texts t_texts qt_lengths t_lengths t_end t_index t_flags t_twice t_width t_precision t_conversion t_broken qt_piece t_piece t_put t_head qt_tens t_tens t_count t_exponent qt_work t_work) := hD
        refine lv_aload_n hx hb d_Model_more_115 rfl (lv_at hl 0 rfl) ?_
        refine va_get (D := gD G) (ci := 7) (v := .int t_arguments) (C := R_Model) (T := F_Model) (N := 29) hx hb hg in_Model hown hK hP 0 rfl rfl 4 (by decide) (hg _ m_20) (fun _ h9 => h9) rfl d_Model_more_116 ?_
        obtain rfl := Option.some.inj hf
        rw [← hQ]
        exact W.iret (v := t_arguments) hx hb hr (fun t ht hW => ⟨⟨t_arguments, (), rfl, rfl, ⟨by rw [ht]; exact hP, hD⟩⟩, hS.F ht⟩) hS.2.2 d_Model_more_119
      · have hf := in_ c_74 hf
        refine lv_aload_n hx hb d_Model_more_77 rfl (lv_at hl 0 rfl) ?_
        refine va_get (D := gD G) (ci := 7) (v := .ref qt_sizes) (C := R_Model) (T := F_Model) (N := 29) hx hb hg in_Model hown hK hP 0 rfl rfl 9 (by decide) (hg _ m_24) (fun _ h9 => h9) rfl d_Model_more_78 ?_
        refine lv_bipush (v := 32) hx hb d_Model_more_81 (by decide) ?_
        refine lv_iload_n hx hb d_Model_more_83 rfl (lv_at hl 2 rfl) ?_
        refine lv_imul hx hb d_Model_more_84 ?_
        refine lv_iload hx hb d_Model_more_85 (lv_at hl 3 rfl) ?_
        refine lv_iadd hx hb d_Model_more_87 ?_
        refine lv_aload_n hx hb d_Model_more_88 rfl (lv_at hl 0 rfl) ?_
        refine va_get (D := gD G) (ci := 7) (v := .ref qt_sizes) (C := R_Model) (T := F_Model) (N := 29) hx hb hg in_Model hown hK hP 0 rfl rfl 9 (by decide) (hg _ m_24) (fun _ h9 => h9) rfl d_Model_more_89 ?_
        refine lv_bipush (v := 32) hx hb d_Model_more_92 (by decide) ?_
        refine lv_iload_n hx hb d_Model_more_94 rfl (lv_at hl 2 rfl) ?_
        refine lv_imul hx hb d_Model_more_95 ?_
        refine lv_iload hx hb d_Model_more_96 (lv_at hl 3 rfl) ?_
        refine lv_iadd hx hb d_Model_more_98 ?_
        refine lv_iconst (v := 4) hx hb d_Model_more_99 (by decide) ?_
        refine lv_isub hx hb d_Model_more_100 ?_
        obtain ⟨g_101, hf⟩ := gd_ hf
        refine va_iald hx hb hK hP 7 1 rfl rfl (inB_in g_101) d_Model_more_101 ?_
        obtain ⟨g_102, hf⟩ := gd_ hf
        refine va_iast hx hb hK hP hD hS 7 1 rfl rfl (inB_in g_102) d_Model_more_102 (fun H locs hP hD hS => ?_)
        have hP : va_P (gD G) vwCl (w_Model_clear G qt qt_draft t_draft t_drafted qt_result t_result t_length t_arguments qt_kinds t_kinds qt_values t_values qt_widths t_widths qt_below t_below qt_sizes (upd z71.2 (((32 : Int32) * x3) + z71.1).toNatClampNeg (z71.2 ((((32 : Int32) * x3) + z71.1) - (4 : Int32)).toNatClampNeg)) qt_scales t_scales qt_parts t_parts qt_texts t_texts qt_lengths t_lengths t_end t_index t_flags t_twice t_width t_precision t_conversion t_broken qt_piece t_piece t_put t_head qt_tens t_tens t_count t_exponent qt_work t_work) H := hP
        have hD : va_D A (w_Model_clear G qt qt_draft t_draft t_drafted qt_result t_result t_length t_arguments qt_kinds t_kinds qt_values t_values qt_widths t_widths qt_below t_below qt_sizes (upd z71.2 (((32 : Int32) * x3) + z71.1).toNatClampNeg (z71.2 ((((32 : Int32) * x3) + z71.1) - (4 : Int32)).toNatClampNeg)) qt_scales t_scales qt_parts t_parts qt_texts t_texts qt_lengths t_lengths t_end t_index t_flags t_twice t_width t_precision t_conversion t_broken qt_piece t_piece t_put t_head qt_tens t_tens t_count t_exponent qt_work t_work) := hD
        refine lv_iinc (v := (z71.1 + (-1))) (lv' := [(4, .int (z71.1 + (-1))), (0, .ref qt), (1, .long a1), (3, .int x3)]) hx hb d_Model_more_103 hl (k := 3) rfl rfl (by decide) rfl (fun ls hl => ?_)
        refine lv_goto (tgt := 71) hx hb d_Model_more_106 (by decide) ?_
        exact ih_71 ((z71.1 + (-1)), (upd z71.2 (((32 : Int32) * x3) + z71.1).toNatClampNeg (z71.2 ((((32 : Int32) * x3) + z71.1) - (4 : Int32)).toNatClampNeg)))  hf _ _ _ hP hD hS (lv_sub hl [1, 2, 3, 0] rfl)
  have W_37 : ∀ (x3 : Int32) (t_sizes : (Nat → Int32))  (n_37 : Nat) (z37 : Int32) , lp_ (b_Model_more_37 K t_arguments a1 x3 t_sizes) n_37 z37 = some res → ∀ (H : Heap) (locs : List Loc) (ls : Array Slot), va_P (gD G) vwCl (w_Model_clear G qt qt_draft t_draft t_drafted qt_result t_result t_length t_arguments qt_kinds t_kinds qt_values t_values qt_widths t_widths qt_below t_below qt_sizes t_sizes qt_scales t_scales qt_parts t_parts qt_texts t_texts qt_lengths t_lengths t_end t_index t_flags t_twice t_width t_precision t_conversion t_broken qt_piece t_piece t_put t_head qt_tens t_tens t_count t_exponent qt_work t_work) H → va_D A (w_Model_clear G qt qt_draft t_draft t_drafted qt_result t_result t_length t_arguments qt_kinds t_kinds qt_values t_values qt_widths t_widths qt_below t_below qt_sizes t_sizes qt_scales t_scales qt_parts t_parts qt_texts t_texts qt_lengths t_lengths t_end t_index t_flags t_twice t_width t_precision t_conversion t_broken qt_piece t_piece t_put t_head qt_tens t_tens t_count t_exponent qt_work t_work) → va_S A s.heap H locs → lv_has ls 5 [(0, .ref qt), (1, .long a1), (3, .int x3), (4, .int z37)] → W p l e { frames := 1, cells := 0, slots := 0, locals := 40 } s m ([.ref qt, .long a1] : List Value).toArray below meth c H locs 0 0 Q (F0 m 37 ls []) := by
    intro x3 t_sizes n_37
    induction n_37 with
    | zero =>
      intro z37  hf
      cases hf
    | succ n_37 ih_37 =>
      intro z37  hf H locs ls hP hD hS hl
      have hf : b_Model_more_37 K t_arguments a1 x3 t_sizes (lp_ (b_Model_more_37 K t_arguments a1 x3 t_sizes) n_37) z37 = some res := hf
      generalize lp_ (b_Model_more_37 K t_arguments a1 x3 t_sizes) n_37 = rec_37 at hf ih_37
      unfold b_Model_more_37 at hf
      refine lv_iload hx hb d_Model_more_37 (lv_at hl 3 rfl) ?_
      refine lv_bipush (v := 32) hx hb d_Model_more_39 (by decide) ?_
      refine lv_icmp_ge (tgt := 67) hx hb d_Model_more_41 (by decide) (fun c_41 => ?_) (fun c_41 => ?_)
      · have hf := ip_ c_41 hf
        refine lv_bipush (v := 31) hx hb d_Model_more_67 (by decide) ?_
        refine lv_istore (lv' := [(4, .int (31 : Int32)), (0, .ref qt), (1, .long a1), (3, .int x3)]) hx hb d_Model_more_69 hl (by decide) rfl (fun ls hl => ?_)
        exact W_71 x3  K ((31 : Int32), t_sizes)  hf _ _ _ hP hD hS (lv_sub hl [1, 2, 3, 0] rfl)
      · have hf := in_ c_41 hf
        refine lv_aload_n hx hb d_Model_more_44 rfl (lv_at hl 0 rfl) ?_
        refine va_get (D := gD G) (ci := 7) (v := .ref qt_sizes) (C := R_Model) (T := F_Model) (N := 29) hx hb hg in_Model hown hK hP 0 rfl rfl 9 (by decide) (hg _ m_24) (fun _ h9 => h9) rfl d_Model_more_45 ?_
        refine lv_bipush (v := 32) hx hb d_Model_more_48 (by decide) ?_
        refine lv_iload_n hx hb d_Model_more_50 rfl (lv_at hl 2 rfl) ?_
        refine lv_imul hx hb d_Model_more_51 ?_
        refine lv_iload hx hb d_Model_more_52 (lv_at hl 3 rfl) ?_
        refine lv_iadd hx hb d_Model_more_54 ?_
        obtain ⟨g_55, hf⟩ := gd_ hf
        refine va_iald hx hb hK hP 7 1 rfl rfl (inB_in g_55) d_Model_more_55 ?_
        refine lv_if_eq (tgt := 61) hx hb d_Model_more_56 (by decide) (fun c_56 => ?_) (fun c_56 => ?_)
        · have hf := ip_ c_56 hf
          refine lv_iinc (v := (z37 + 1)) (lv' := [(4, .int (z37 + 1)), (0, .ref qt), (1, .long a1), (3, .int x3)]) hx hb d_Model_more_61 hl (k := 3) rfl rfl (by decide) rfl (fun ls hl => ?_)
          refine lv_goto (tgt := 37) hx hb d_Model_more_64 (by decide) ?_
          exact ih_37 (z37 + 1)  hf _ _ _ hP hD hS (lv_sub hl [1, 2, 3, 0] rfl)
        · have hf := in_ c_56 hf
          refine lv_iconst (v := -1) hx hb d_Model_more_59 (by decide) ?_
          obtain rfl := Option.some.inj hf
          rw [← hQ]
          exact W.iret (v := (-1 : Int32)) hx hb hr (fun t ht hW => ⟨⟨(-1 : Int32), (), rfl, rfl, ⟨by rw [ht]; exact hP, hD⟩⟩, hS.F ht⟩) hS.2.2 d_Model_more_60
  have W_33 : ∀ (x3 : Int32) (t_sizes : (Nat → Int32)) , k_Model_more_33 K t_arguments a1 x3 t_sizes = some res → ∀ (H : Heap) (locs : List Loc) (ls : Array Slot), va_P (gD G) vwCl (w_Model_clear G qt qt_draft t_draft t_drafted qt_result t_result t_length t_arguments qt_kinds t_kinds qt_values t_values qt_widths t_widths qt_below t_below qt_sizes t_sizes qt_scales t_scales qt_parts t_parts qt_texts t_texts qt_lengths t_lengths t_end t_index t_flags t_twice t_width t_precision t_conversion t_broken qt_piece t_piece t_put t_head qt_tens t_tens t_count t_exponent qt_work t_work) H → va_D A (w_Model_clear G qt qt_draft t_draft t_drafted qt_result t_result t_length t_arguments qt_kinds t_kinds qt_values t_values qt_widths t_widths qt_below t_below qt_sizes t_sizes qt_scales t_scales qt_parts t_parts qt_texts t_texts qt_lengths t_lengths t_end t_index t_flags t_twice t_width t_precision t_conversion t_broken qt_piece t_piece t_put t_head qt_tens t_tens t_count t_exponent qt_work t_work) → va_S A s.heap H locs → lv_has ls 5 [(0, .ref qt), (1, .long a1), (3, .int x3)] → W p l e { frames := 1, cells := 0, slots := 0, locals := 40 } s m ([.ref qt, .long a1] : List Value).toArray below meth c H locs 0 0 Q (F0 m 33 ls []) := by
    intro x3 t_sizes  hf H locs ls hP hD hS hl
    unfold k_Model_more_33 at hf
    refine lv_bipush (v := 28) hx hb d_Model_more_33 (by decide) ?_
    refine lv_istore (lv' := [(4, .int (28 : Int32)), (0, .ref qt), (1, .long a1), (3, .int x3)]) hx hb d_Model_more_35 hl (by decide) rfl (fun ls hl => ?_)
    exact W_37 x3 t_sizes  K (28 : Int32)  hf _ _ _ hP hD hS (lv_sub hl [1, 2, 3, 0] rfl)
  unfold f_Model_more at hf
  refine lv_aload_n hx hb d_Model_more_0 rfl (lv_at hl 0 rfl) ?_
  refine va_get (D := gD G) (ci := 7) (v := .int t_arguments) (C := R_Model) (T := F_Model) (N := 29) hx hb hg in_Model hown hK hP 0 rfl rfl 4 (by decide) (hg _ m_20) (fun _ h9 => h9) rfl d_Model_more_1 ?_
  refine lv_iconst (v := 1) hx hb d_Model_more_4 (by decide) ?_
  refine lv_isub hx hb d_Model_more_5 ?_
  refine lv_istore_n (lv' := [(3, .int (t_arguments - (1 : Int32))), (0, .ref qt), (1, .long a1)]) hx hb d_Model_more_6 rfl hl (by decide) rfl (fun ls hl => ?_)
  refine lv_iload_n hx hb d_Model_more_7 rfl (lv_at hl 0 rfl) ?_
  refine lv_if_lt (tgt := 31) hx hb d_Model_more_8 (by decide) (fun c_8 => ?_) (fun c_8 => ?_)
  · have hf := ip_ c_8 hf
    refine lv_iconst (v := -1) hx hb d_Model_more_31 (by decide) ?_
    obtain rfl := Option.some.inj hf
    rw [← hQ]
    exact W.iret (v := (-1 : Int32)) hx hb hr (fun t ht hW => ⟨⟨(-1 : Int32), (), rfl, rfl, ⟨by rw [ht]; exact hP, hD⟩⟩, hS.F ht⟩) hS.2.2 d_Model_more_32
  · have hf := in_ c_8 hf
    refine lv_aload_n hx hb d_Model_more_11 rfl (lv_at hl 1 rfl) ?_
    refine va_get (D := gD G) (ci := 7) (v := .ref qt_kinds) (C := R_Model) (T := F_Model) (N := 29) hx hb hg in_Model hown hK hP 0 rfl rfl 5 (by decide) (hg _ m_21) (fun _ h9 => h9) rfl d_Model_more_12 ?_
    refine lv_iload_n hx hb d_Model_more_15 rfl (lv_at hl 0 rfl) ?_
    obtain ⟨g_16, hf⟩ := gd_ hf
    refine va_iald hx hb hK hP 3 1 rfl rfl (inB_in g_16) d_Model_more_16 ?_
    refine lv_iconst (v := 4) hx hb d_Model_more_17 (by decide) ?_
    refine lv_icmp_eq (tgt := 33) hx hb d_Model_more_18 (by decide) (fun c_18 => ?_) (fun c_18 => ?_)
    · have hf := ip_ c_18 hf
      exact W_33 (t_arguments - (1 : Int32)) t_sizes  hf _ _ _ hP hD hS (lv_sub hl [1, 2, 0] rfl)
    · have hf := in_ c_18 hf
      refine lv_aload_n hx hb d_Model_more_21 rfl (lv_at hl 1 rfl) ?_
      refine va_get (D := gD G) (ci := 7) (v := .ref qt_kinds) (C := R_Model) (T := F_Model) (N := 29) hx hb hg in_Model hown hK hP 0 rfl rfl 5 (by decide) (hg _ m_21) (fun _ h9 => h9) rfl d_Model_more_22 ?_
      refine lv_iload_n hx hb d_Model_more_25 rfl (lv_at hl 0 rfl) ?_
      obtain ⟨g_26, hf⟩ := gd_ hf
      refine va_iald hx hb hK hP 3 1 rfl rfl (inB_in g_26) d_Model_more_26 ?_
      refine lv_iconst (v := 5) hx hb d_Model_more_27 (by decide) ?_
      refine lv_icmp_eq (tgt := 33) hx hb d_Model_more_28 (by decide) (fun c_28 => ?_) (fun c_28 => ?_)
      · have hf := ip_ c_28 hf
        exact W_33 (t_arguments - (1 : Int32)) t_sizes  hf _ _ _ hP hD hS (lv_sub hl [1, 2, 0] rfl)
      · have hf := in_ c_28 hf
        refine lv_iconst (v := -1) hx hb d_Model_more_31 (by decide) ?_
        obtain rfl := Option.some.inj hf
        rw [← hQ]
        exact W.iret (v := (-1 : Int32)) hx hb hr (fun t ht hW => ⟨⟨(-1 : Int32), (), rfl, rfl, ⟨by rw [ht]; exact hP, hD⟩⟩, hS.F ht⟩) hS.2.2 d_Model_more_32
theorem d_Model_scale_0 : decode b_Model_scale 0 = .ok (.aload_n 0, 1) := by decide +kernel
theorem d_Model_scale_1 : decode b_Model_scale 1 = .ok (.getfield 60, 3) := by decide +kernel
theorem d_Model_scale_4 : decode b_Model_scale 4 = .ok (.iconst 1, 1) := by decide +kernel
theorem d_Model_scale_5 : decode b_Model_scale 5 = .ok (.isub, 1) := by decide +kernel
theorem d_Model_scale_6 : decode b_Model_scale 6 = .ok (.istore_n 2, 1) := by decide +kernel
theorem d_Model_scale_7 : decode b_Model_scale 7 = .ok (.iload_n 2, 1) := by decide +kernel
theorem d_Model_scale_8 : decode b_Model_scale 8 = .ok (.ifCond .lt 27, 3) := by decide +kernel
theorem d_Model_scale_11 : decode b_Model_scale 11 = .ok (.aload_n 0, 1) := by decide +kernel
theorem d_Model_scale_12 : decode b_Model_scale 12 = .ok (.getfield 16, 3) := by decide +kernel
theorem d_Model_scale_15 : decode b_Model_scale 15 = .ok (.iload_n 2, 1) := by decide +kernel
theorem d_Model_scale_16 : decode b_Model_scale 16 = .ok (.iaload, 1) := by decide +kernel
theorem d_Model_scale_17 : decode b_Model_scale 17 = .ok (.iconst 4, 1) := by decide +kernel
theorem d_Model_scale_18 : decode b_Model_scale 18 = .ok (.if_icmp .ne 17, 3) := by decide +kernel
theorem d_Model_scale_21 : decode b_Model_scale 21 = .ok (.iload_n 1, 1) := by decide +kernel
theorem d_Model_scale_22 : decode b_Model_scale 22 = .ok (.sipush (-400), 3) := by decide +kernel
theorem d_Model_scale_25 : decode b_Model_scale 25 = .ok (.if_icmp .lt 10, 3) := by decide +kernel
theorem d_Model_scale_28 : decode b_Model_scale 28 = .ok (.iload_n 1, 1) := by decide +kernel
theorem d_Model_scale_29 : decode b_Model_scale 29 = .ok (.sipush 400, 3) := by decide +kernel
theorem d_Model_scale_32 : decode b_Model_scale 32 = .ok (.if_icmp .le 5, 3) := by decide +kernel
theorem d_Model_scale_35 : decode b_Model_scale 35 = .ok (.iconst (-1), 1) := by decide +kernel
theorem d_Model_scale_36 : decode b_Model_scale 36 = .ok (.ireturn, 1) := by decide +kernel
theorem d_Model_scale_37 : decode b_Model_scale 37 = .ok (.aload_n 0, 1) := by decide +kernel
theorem d_Model_scale_38 : decode b_Model_scale 38 = .ok (.getfield 16, 3) := by decide +kernel
theorem d_Model_scale_41 : decode b_Model_scale 41 = .ok (.iload_n 2, 1) := by decide +kernel
theorem d_Model_scale_42 : decode b_Model_scale 42 = .ok (.iconst 5, 1) := by decide +kernel
theorem d_Model_scale_43 : decode b_Model_scale 43 = .ok (.iastore, 1) := by decide +kernel
theorem d_Model_scale_44 : decode b_Model_scale 44 = .ok (.aload_n 0, 1) := by decide +kernel
theorem d_Model_scale_45 : decode b_Model_scale 45 = .ok (.getfield 33, 3) := by decide +kernel
theorem d_Model_scale_48 : decode b_Model_scale 48 = .ok (.iload_n 2, 1) := by decide +kernel
theorem d_Model_scale_49 : decode b_Model_scale 49 = .ok (.iload_n 1, 1) := by decide +kernel
theorem d_Model_scale_50 : decode b_Model_scale 50 = .ok (.iastore, 1) := by decide +kernel
theorem d_Model_scale_51 : decode b_Model_scale 51 = .ok (.aload_n 0, 1) := by decide +kernel
theorem d_Model_scale_52 : decode b_Model_scale 52 = .ok (.getfield 60, 3) := by decide +kernel
theorem d_Model_scale_55 : decode b_Model_scale 55 = .ok (.ireturn, 1) := by decide +kernel
theorem m_36 : Cond.fieldLink R_Model 33 "SpecifierDeskModel" "scales" "[I" ∈ gw := gm (i := 870) (by decide +kernel) (by decide +kernel)
def f_Model_scale (t_arguments : Int32) (t_kinds : Nat → Int32) (t_scales : Nat → Int32) (a1 : Int32) : Option (Int32 × (Nat → Int32) × (Nat → Int32)) :=
  (if (t_arguments - (1 : Int32)) < 0 then some ((-1 : Int32), t_kinds, t_scales) else (if inB (t_arguments - (1 : Int32)) 12 = true then (if (t_kinds (t_arguments - (1 : Int32)).toNatClampNeg) = (4 : Int32) then (if a1 < (-400 : Int32) then some ((-1 : Int32), t_kinds, t_scales) else (if a1 ≤ (400 : Int32) then (if inB (t_arguments - (1 : Int32)) 12 = true then (if inB (t_arguments - (1 : Int32)) 12 = true then some (t_arguments, (upd t_kinds (t_arguments - (1 : Int32)).toNatClampNeg (5 : Int32)), (upd t_scales (t_arguments - (1 : Int32)).toNatClampNeg a1)) else none) else none) else some ((-1 : Int32), t_kinds, t_scales))) else some ((-1 : Int32), t_kinds, t_scales)) else none))
set_option maxHeartbeats 4000000 in
set_option maxRecDepth 100000 in
theorem c_Model_scale (l : Launch) (G : Gt) (K : Nat) (qt : Nat) (qt_draft : Nat) (t_draft : Nat → Int32) (t_drafted : Int32) (qt_result : Nat) (t_result : Nat → Int32) (t_length : Int32) (t_arguments : Int32) (qt_kinds : Nat) (t_kinds : Nat → Int32) (qt_values : Nat) (t_values : Nat → Int64) (qt_widths : Nat) (t_widths : Nat → Int32) (qt_below : Nat) (t_below : Nat → Int32) (qt_sizes : Nat) (t_sizes : Nat → Int32) (qt_scales : Nat) (t_scales : Nat → Int32) (qt_parts : Nat) (t_parts : Nat → Int64) (qt_texts : Nat) (t_texts : Nat → Int32) (qt_lengths : Nat) (t_lengths : Nat → Int32) (t_end : Int32) (t_index : Int32) (t_flags : Int32) (t_twice : Int32) (t_width : Int32) (t_precision : Int32) (t_conversion : Int32) (t_broken : Int32) (qt_piece : Nat) (t_piece : Nat → Int32) (t_put : Int32) (t_head : Int32) (qt_tens : Nat) (t_tens : Nat → Int32) (t_count : Int32) (t_exponent : Int32) (qt_work : Nat) (t_work : Nat → Int32) (a1 : Int32) (sz : Nat) (res : Int32 × (Nat → Int32) × (Nat → Int32))   (hf : f_Model_scale t_arguments t_kinds t_scales a1 = some res) : Met l y_Model_scale (.code y_Model_scale b_Model_scale 3 (some .int) :: gw) { frames := 0, cells := 0, slots := 0, locals := 0 } (PC G ([.ref qt, .int a1] : List Value) sz (w_Model_clear G qt qt_draft t_draft t_drafted qt_result t_result t_length t_arguments qt_kinds t_kinds qt_values t_values qt_widths t_widths qt_below t_below qt_sizes t_sizes qt_scales t_scales qt_parts t_parts qt_texts t_texts qt_lengths t_lengths t_end t_index t_flags t_twice t_width t_precision t_conversion t_broken qt_piece t_piece t_put t_head qt_tens t_tens t_count t_exponent qt_work t_work)) (QI G res.1 (va_A (w_Model_clear G qt qt_draft t_draft t_drafted qt_result t_result t_length t_arguments qt_kinds t_kinds qt_values t_values qt_widths t_widths qt_below t_below qt_sizes t_sizes qt_scales t_scales qt_parts t_parts qt_texts t_texts qt_lengths t_lengths t_end t_index t_flags t_twice t_width t_precision t_conversion t_broken qt_piece t_piece t_put t_head qt_tens t_tens t_count t_exponent qt_work t_work) sz) (w_Model_clear G qt qt_draft t_draft t_drafted qt_result t_result t_length t_arguments qt_kinds res.2.1 qt_values t_values qt_widths t_widths qt_below t_below qt_sizes t_sizes qt_scales res.2.2 qt_parts t_parts qt_texts t_texts qt_lengths t_lengths t_end t_index t_flags t_twice t_width t_precision t_conversion t_broken qt_piece t_piece t_put t_head qt_tens t_tens t_count t_exponent qt_work t_work)) 0 0 (va_A (w_Model_clear G qt qt_draft t_draft t_drafted qt_result t_result t_length t_arguments qt_kinds t_kinds qt_values t_values qt_widths t_widths qt_below t_below qt_sizes t_sizes qt_scales t_scales qt_parts t_parts qt_texts t_texts qt_lengths t_lengths t_end t_index t_flags t_twice t_width t_precision t_conversion t_broken qt_piece t_piece t_put t_head qt_tens t_tens t_count t_exponent qt_work t_work) sz) := by
  refine Met.ofW (cc := b_Model_scale) (maxL := 3) (ret := (some .int)) (by decide) rfl ?_
  intro p e s m args below meth c s₁ B hml hv
  obtain ⟨rfl, hsz, hP, hE, hD0⟩ := hv
  have hx := B.exec
  have hb := B.bytes
  have hr := B.returns
  have hts := atoms_spec (ws := (.code y_Model_scale b_Model_scale 3 (some .int) :: gw)) B.pre
  have hg : ∀ w ∈ gw, w.before _ s = true := fun w h => hts w (List.mem_cons_of_mem _ h)
  have hown : s.vm.findClass R_Model = some m.cls := findClass_of_methodNamed B.named
  have hlocks := B.notSynchronized
  subst hsz
  have hK := hE.K
  have hD := hD0.self (sz := s.heap.size)
  have hAb := hE.ab hD0
  obtain ⟨Q, hQ⟩ : ∃ Q, MQ below (QI G res.1 (va_A (w_Model_clear G qt qt_draft t_draft t_drafted qt_result t_result t_length t_arguments qt_kinds t_kinds qt_values t_values qt_widths t_widths qt_below t_below qt_sizes t_sizes qt_scales t_scales qt_parts t_parts qt_texts t_texts qt_lengths t_lengths t_end t_index t_flags t_twice t_width t_precision t_conversion t_broken qt_piece t_piece t_put t_head qt_tens t_tens t_count t_exponent qt_work t_work) s.heap.size) (w_Model_clear G qt qt_draft t_draft t_drafted qt_result t_result t_length t_arguments qt_kinds res.2.1 qt_values t_values qt_widths t_widths qt_below t_below qt_sizes t_sizes qt_scales res.2.2 qt_parts t_parts qt_texts t_texts qt_lengths t_lengths t_end t_index t_flags t_twice t_width t_precision t_conversion t_broken qt_piece t_piece t_put t_head qt_tens t_tens t_count t_exponent qt_work t_work)) ([.ref qt, .int a1] : List Value).toArray s 0 0 (va_A (w_Model_clear G qt qt_draft t_draft t_drafted qt_result t_result t_length t_arguments qt_kinds t_kinds qt_values t_values qt_widths t_widths qt_below t_below qt_sizes t_sizes qt_scales t_scales qt_parts t_parts qt_texts t_texts qt_lengths t_lengths t_end t_index t_flags t_twice t_width t_precision t_conversion t_broken qt_piece t_piece t_put t_head qt_tens t_tens t_count t_exponent qt_work t_work) s.heap.size) = Q := ⟨_, rfl⟩
  show W p l e { frames := 0, cells := 0, slots := 0, locals := 0 } s m ([.ref qt, .int a1] : List Value).toArray below meth c s.heap [] 0 0 (MQ below (QI G res.1 (va_A (w_Model_clear G qt qt_draft t_draft t_drafted qt_result t_result t_length t_arguments qt_kinds t_kinds qt_values t_values qt_widths t_widths qt_below t_below qt_sizes t_sizes qt_scales t_scales qt_parts t_parts qt_texts t_texts qt_lengths t_lengths t_end t_index t_flags t_twice t_width t_precision t_conversion t_broken qt_piece t_piece t_put t_head qt_tens t_tens t_count t_exponent qt_work t_work) s.heap.size) (w_Model_clear G qt qt_draft t_draft t_drafted qt_result t_result t_length t_arguments qt_kinds res.2.1 qt_values t_values qt_widths t_widths qt_below t_below qt_sizes t_sizes qt_scales res.2.2 qt_parts t_parts qt_texts t_texts qt_lengths t_lengths t_end t_index t_flags t_twice t_width t_precision t_conversion t_broken qt_piece t_piece t_put t_head qt_tens t_tens t_count t_exponent qt_work t_work)) ([.ref qt, .int a1] : List Value).toArray s 0 0 (va_A (w_Model_clear G qt qt_draft t_draft t_drafted qt_result t_result t_length t_arguments qt_kinds t_kinds qt_values t_values qt_widths t_widths qt_below t_below qt_sizes t_sizes qt_scales t_scales qt_parts t_parts qt_texts t_texts qt_lengths t_lengths t_end t_index t_flags t_twice t_width t_precision t_conversion t_broken qt_piece t_piece t_put t_head qt_tens t_tens t_count t_exponent qt_work t_work) s.heap.size)) _
  rw [hQ]
  have hA : ∀ q : Nat, s.heap.size ≤ q → va_A (w_Model_clear G qt qt_draft t_draft t_drafted qt_result t_result t_length t_arguments qt_kinds t_kinds qt_values t_values qt_widths t_widths qt_below t_below qt_sizes t_sizes qt_scales t_scales qt_parts t_parts qt_texts t_texts qt_lengths t_lengths t_end t_index t_flags t_twice t_width t_precision t_conversion t_broken qt_piece t_piece t_put t_head qt_tens t_tens t_count t_exponent qt_work t_work) s.heap.size q := fun q h => Or.inr h
  obtain ⟨A, hAe⟩ : ∃ A, va_A (w_Model_clear G qt qt_draft t_draft t_drafted qt_result t_result t_length t_arguments qt_kinds t_kinds qt_values t_values qt_widths t_widths qt_below t_below qt_sizes t_sizes qt_scales t_scales qt_parts t_parts qt_texts t_texts qt_lengths t_lengths t_end t_index t_flags t_twice t_width t_precision t_conversion t_broken qt_piece t_piece t_put t_head qt_tens t_tens t_count t_exponent qt_work t_work) s.heap.size = A := ⟨_, rfl⟩
  rw [hAe] at hA hD hAb hQ
  have hS : va_S A s.heap s.heap [] := va_S.rf
  have hl := lv_entry (([.ref qt, .int a1] : List Value)) (n := 3) (Nat.le_of_ble_eq_true rfl)
  rw [lg_entry_eq]
  generalize (lg_sl (([.ref qt, .int a1] : List Value)) ++ List.replicate (3 - (lg_sl (([.ref qt, .int a1] : List Value))).length) Slot.unset).toArray = ls at hl ⊢
  have hl : lv_has ls 3 [(0, .ref qt), (1, .int a1)] := hl
  unfold f_Model_scale at hf
  refine lv_aload_n hx hb d_Model_scale_0 rfl (lv_at hl 0 rfl) ?_
  refine va_get (D := gD G) (ci := 7) (v := .int t_arguments) (C := R_Model) (T := F_Model) (N := 29) hx hb hg in_Model hown hK hP 0 rfl rfl 4 (by decide) (hg _ m_20) (fun _ h9 => h9) rfl d_Model_scale_1 ?_
  refine lv_iconst (v := 1) hx hb d_Model_scale_4 (by decide) ?_
  refine lv_isub hx hb d_Model_scale_5 ?_
  refine lv_istore_n (lv' := [(2, .int (t_arguments - (1 : Int32))), (0, .ref qt), (1, .int a1)]) hx hb d_Model_scale_6 rfl hl (by decide) rfl (fun ls hl => ?_)
  refine lv_iload_n hx hb d_Model_scale_7 rfl (lv_at hl 0 rfl) ?_
  refine lv_if_lt (tgt := 35) hx hb d_Model_scale_8 (by decide) (fun c_8 => ?_) (fun c_8 => ?_)
  · have hf := ip_ c_8 hf
    refine lv_iconst (v := -1) hx hb d_Model_scale_35 (by decide) ?_
    obtain rfl := Option.some.inj hf
    rw [← hQ]
    exact W.iret (v := (-1 : Int32)) hx hb hr (fun t ht hW => ⟨⟨(-1 : Int32), (), rfl, rfl, ⟨by rw [ht]; exact hP, hD⟩⟩, hS.F ht⟩) hS.2.2 d_Model_scale_36
  · have hf := in_ c_8 hf
    refine lv_aload_n hx hb d_Model_scale_11 rfl (lv_at hl 1 rfl) ?_
    refine va_get (D := gD G) (ci := 7) (v := .ref qt_kinds) (C := R_Model) (T := F_Model) (N := 29) hx hb hg in_Model hown hK hP 0 rfl rfl 5 (by decide) (hg _ m_21) (fun _ h9 => h9) rfl d_Model_scale_12 ?_
    refine lv_iload_n hx hb d_Model_scale_15 rfl (lv_at hl 0 rfl) ?_
    obtain ⟨g_16, hf⟩ := gd_ hf
    refine va_iald hx hb hK hP 3 1 rfl rfl (inB_in g_16) d_Model_scale_16 ?_
    refine lv_iconst (v := 4) hx hb d_Model_scale_17 (by decide) ?_
    refine lv_icmp_ne (tgt := 35) hx hb d_Model_scale_18 (by decide) (fun c_18 => ?_) (fun c_18 => ?_)
    · have hf := in_ c_18 hf
      refine lv_iconst (v := -1) hx hb d_Model_scale_35 (by decide) ?_
      obtain rfl := Option.some.inj hf
      rw [← hQ]
      exact W.iret (v := (-1 : Int32)) hx hb hr (fun t ht hW => ⟨⟨(-1 : Int32), (), rfl, rfl, ⟨by rw [ht]; exact hP, hD⟩⟩, hS.F ht⟩) hS.2.2 d_Model_scale_36
    · have hf := ip_ c_18 hf
      refine lv_iload_n hx hb d_Model_scale_21 rfl (lv_at hl 2 rfl) ?_
      refine lv_sipush (v := -400) hx hb d_Model_scale_22 (by decide) ?_
      refine lv_icmp_lt (tgt := 35) hx hb d_Model_scale_25 (by decide) (fun c_25 => ?_) (fun c_25 => ?_)
      · have hf := ip_ c_25 hf
        refine lv_iconst (v := -1) hx hb d_Model_scale_35 (by decide) ?_
        obtain rfl := Option.some.inj hf
        rw [← hQ]
        exact W.iret (v := (-1 : Int32)) hx hb hr (fun t ht hW => ⟨⟨(-1 : Int32), (), rfl, rfl, ⟨by rw [ht]; exact hP, hD⟩⟩, hS.F ht⟩) hS.2.2 d_Model_scale_36
      · have hf := in_ c_25 hf
        refine lv_iload_n hx hb d_Model_scale_28 rfl (lv_at hl 2 rfl) ?_
        refine lv_sipush (v := 400) hx hb d_Model_scale_29 (by decide) ?_
        refine lv_icmp_le (tgt := 37) hx hb d_Model_scale_32 (by decide) (fun c_32 => ?_) (fun c_32 => ?_)
        · have hf := ip_ c_32 hf
          refine lv_aload_n hx hb d_Model_scale_37 rfl (lv_at hl 1 rfl) ?_
          refine va_get (D := gD G) (ci := 7) (v := .ref qt_kinds) (C := R_Model) (T := F_Model) (N := 29) hx hb hg in_Model hown hK hP 0 rfl rfl 5 (by decide) (hg _ m_21) (fun _ h9 => h9) rfl d_Model_scale_38 ?_
          refine lv_iload_n hx hb d_Model_scale_41 rfl (lv_at hl 0 rfl) ?_
          refine lv_iconst (v := 5) hx hb d_Model_scale_42 (by decide) ?_
          obtain ⟨g_43, hf⟩ := gd_ hf
          refine va_iast hx hb hK hP hD hS 3 1 rfl rfl (inB_in g_43) d_Model_scale_43 (fun H locs hP hD hS => ?_)
          have hP : va_P (gD G) vwCl (w_Model_clear G qt qt_draft t_draft t_drafted qt_result t_result t_length t_arguments qt_kinds (upd t_kinds (t_arguments - (1 : Int32)).toNatClampNeg (5 : Int32)) qt_values t_values qt_widths t_widths qt_below t_below qt_sizes t_sizes qt_scales t_scales qt_parts t_parts qt_texts t_texts qt_lengths t_lengths t_end t_index t_flags t_twice t_width t_precision t_conversion t_broken qt_piece t_piece t_put t_head qt_tens t_tens t_count t_exponent qt_work t_work) H := hP
          have hD : va_D A (w_Model_clear G qt qt_draft t_draft t_drafted qt_result t_result t_length t_arguments qt_kinds (upd t_kinds (t_arguments - (1 : Int32)).toNatClampNeg (5 : Int32)) qt_values t_values qt_widths t_widths qt_below t_below qt_sizes t_sizes qt_scales t_scales qt_parts t_parts qt_texts t_texts qt_lengths t_lengths t_end t_index t_flags t_twice t_width t_precision t_conversion t_broken qt_piece t_piece t_put t_head qt_tens t_tens t_count t_exponent qt_work t_work) := hD
          refine lv_aload_n hx hb d_Model_scale_44 rfl (lv_at hl 1 rfl) ?_
          refine va_get (D := gD G) (ci := 7) (v := .ref qt_scales) (C := R_Model) (T := F_Model) (N := 29) hx hb hg in_Model hown hK hP 0 rfl rfl 10 (by decide) (hg _ m_36) (fun _ h9 => h9) rfl d_Model_scale_45 ?_
          refine lv_iload_n hx hb d_Model_scale_48 rfl (lv_at hl 0 rfl) ?_
          refine lv_iload_n hx hb d_Model_scale_49 rfl (lv_at hl 2 rfl) ?_
          obtain ⟨g_50, hf⟩ := gd_ hf
          refine va_iast hx hb hK hP hD hS 8 1 rfl rfl (inB_in g_50) d_Model_scale_50 (fun H locs hP hD hS => ?_)
          have hP : va_P (gD G) vwCl (w_Model_clear G qt qt_draft t_draft t_drafted qt_result t_result t_length t_arguments qt_kinds (upd t_kinds (t_arguments - (1 : Int32)).toNatClampNeg (5 : Int32)) qt_values t_values qt_widths t_widths qt_below t_below qt_sizes t_sizes qt_scales (upd t_scales (t_arguments - (1 : Int32)).toNatClampNeg a1) qt_parts t_parts qt_texts t_texts qt_lengths t_lengths t_end t_index t_flags t_twice t_width t_precision t_conversion t_broken qt_piece t_piece t_put t_head qt_tens t_tens t_count t_exponent qt_work t_work) H := hP
          have hD : va_D A (w_Model_clear G qt qt_draft t_draft t_drafted qt_result t_result t_length t_arguments qt_kinds (upd t_kinds (t_arguments - (1 : Int32)).toNatClampNeg (5 : Int32)) qt_values t_values qt_widths t_widths qt_below t_below qt_sizes t_sizes qt_scales (upd t_scales (t_arguments - (1 : Int32)).toNatClampNeg a1) qt_parts t_parts qt_texts t_texts qt_lengths t_lengths t_end t_index t_flags t_twice t_width t_precision t_conversion t_broken qt_piece t_piece t_put t_head qt_tens t_tens t_count t_exponent qt_work t_work) := hD
          refine lv_aload_n hx hb d_Model_scale_51 rfl (lv_at hl 1 rfl) ?_
          refine va_get (D := gD G) (ci := 7) (v := .int t_arguments) (C := R_Model) (T := F_Model) (N := 29) hx hb hg in_Model hown hK hP 0 rfl rfl 4 (by decide) (hg _ m_20) (fun _ h9 => h9) rfl d_Model_scale_52 ?_
          obtain rfl := Option.some.inj hf
          rw [← hQ]
          exact W.iret (v := t_arguments) hx hb hr (fun t ht hW => ⟨⟨t_arguments, (), rfl, rfl, ⟨by rw [ht]; exact hP, hD⟩⟩, hS.F ht⟩) hS.2.2 d_Model_scale_55
        · have hf := in_ c_32 hf
          refine lv_iconst (v := -1) hx hb d_Model_scale_35 (by decide) ?_
          obtain rfl := Option.some.inj hf
          rw [← hQ]
          exact W.iret (v := (-1 : Int32)) hx hb hr (fun t ht hW => ⟨⟨(-1 : Int32), (), rfl, rfl, ⟨by rw [ht]; exact hP, hD⟩⟩, hS.F ht⟩) hS.2.2 d_Model_scale_36
theorem d_Model_fraction_0 : decode b_Model_fraction 0 = .ok (.lload_n 3, 1) := by decide +kernel
theorem d_Model_fraction_1 : decode b_Model_fraction 1 = .ok (.lconst 0, 1) := by decide +kernel
theorem d_Model_fraction_2 : decode b_Model_fraction 2 = .ok (.lcmp, 1) := by decide +kernel
theorem d_Model_fraction_3 : decode b_Model_fraction 3 = .ok (.ifCond .lt 27, 3) := by decide +kernel
theorem d_Model_fraction_6 : decode b_Model_fraction 6 = .ok (.lload_n 3, 1) := by decide +kernel
theorem d_Model_fraction_7 : decode b_Model_fraction 7 = .ok (.ldc2_w 73, 3) := by decide +kernel
theorem d_Model_fraction_10 : decode b_Model_fraction 10 = .ok (.lcmp, 1) := by decide +kernel
theorem d_Model_fraction_11 : decode b_Model_fraction 11 = .ok (.ifCond .gt 19, 3) := by decide +kernel
theorem d_Model_fraction_14 : decode b_Model_fraction 14 = .ok (.iload 5, 2) := by decide +kernel
theorem d_Model_fraction_16 : decode b_Model_fraction 16 = .ok (.sipush (-400), 3) := by decide +kernel
theorem d_Model_fraction_19 : decode b_Model_fraction 19 = .ok (.if_icmp .lt 11, 3) := by decide +kernel
theorem d_Model_fraction_22 : decode b_Model_fraction 22 = .ok (.iload 5, 2) := by decide +kernel
theorem d_Model_fraction_24 : decode b_Model_fraction 24 = .ok (.sipush 400, 3) := by decide +kernel
theorem d_Model_fraction_27 : decode b_Model_fraction 27 = .ok (.if_icmp .le 5, 3) := by decide +kernel
theorem d_Model_fraction_30 : decode b_Model_fraction 30 = .ok (.iconst (-1), 1) := by decide +kernel
theorem d_Model_fraction_31 : decode b_Model_fraction 31 = .ok (.ireturn, 1) := by decide +kernel
theorem d_Model_fraction_32 : decode b_Model_fraction 32 = .ok (.aload_n 0, 1) := by decide +kernel
theorem d_Model_fraction_33 : decode b_Model_fraction 33 = .ok (.bipush 6, 2) := by decide +kernel
theorem d_Model_fraction_35 : decode b_Model_fraction 35 = .ok (.lload_n 1, 1) := by decide +kernel
theorem d_Model_fraction_36 : decode b_Model_fraction 36 = .ok (.lload_n 1, 1) := by decide +kernel
theorem d_Model_fraction_37 : decode b_Model_fraction 37 = .ok (.lconst 0, 1) := by decide +kernel
theorem d_Model_fraction_38 : decode b_Model_fraction 38 = .ok (.lcmp, 1) := by decide +kernel
theorem d_Model_fraction_39 : decode b_Model_fraction 39 = .ok (.ifCond .ge 7, 3) := by decide +kernel
theorem d_Model_fraction_42 : decode b_Model_fraction 42 = .ok (.iconst 1, 1) := by decide +kernel
theorem d_Model_fraction_43 : decode b_Model_fraction 43 = .ok (.goto 4, 3) := by decide +kernel
theorem d_Model_fraction_46 : decode b_Model_fraction 46 = .ok (.iconst 0, 1) := by decide +kernel
theorem d_Model_fraction_47 : decode b_Model_fraction 47 = .ok (.invokevirtual 63, 3) := by decide +kernel
theorem d_Model_fraction_50 : decode b_Model_fraction 50 = .ok (.istore 6, 2) := by decide +kernel
theorem d_Model_fraction_52 : decode b_Model_fraction 52 = .ok (.iload 6, 2) := by decide +kernel
theorem d_Model_fraction_54 : decode b_Model_fraction 54 = .ok (.ifCond .ge 5, 3) := by decide +kernel
theorem d_Model_fraction_57 : decode b_Model_fraction 57 = .ok (.iconst (-1), 1) := by decide +kernel
theorem d_Model_fraction_58 : decode b_Model_fraction 58 = .ok (.ireturn, 1) := by decide +kernel
theorem d_Model_fraction_59 : decode b_Model_fraction 59 = .ok (.aload_n 0, 1) := by decide +kernel
theorem d_Model_fraction_60 : decode b_Model_fraction 60 = .ok (.getfield 36, 3) := by decide +kernel
theorem d_Model_fraction_63 : decode b_Model_fraction 63 = .ok (.iload 6, 2) := by decide +kernel
theorem d_Model_fraction_65 : decode b_Model_fraction 65 = .ok (.iconst 1, 1) := by decide +kernel
theorem d_Model_fraction_66 : decode b_Model_fraction 66 = .ok (.isub, 1) := by decide +kernel
theorem d_Model_fraction_67 : decode b_Model_fraction 67 = .ok (.lload_n 3, 1) := by decide +kernel
theorem d_Model_fraction_68 : decode b_Model_fraction 68 = .ok (.lastore, 1) := by decide +kernel
theorem d_Model_fraction_69 : decode b_Model_fraction 69 = .ok (.aload_n 0, 1) := by decide +kernel
theorem d_Model_fraction_70 : decode b_Model_fraction 70 = .ok (.getfield 33, 3) := by decide +kernel
theorem d_Model_fraction_73 : decode b_Model_fraction 73 = .ok (.iload 6, 2) := by decide +kernel
theorem d_Model_fraction_75 : decode b_Model_fraction 75 = .ok (.iconst 1, 1) := by decide +kernel
theorem d_Model_fraction_76 : decode b_Model_fraction 76 = .ok (.isub, 1) := by decide +kernel
theorem d_Model_fraction_77 : decode b_Model_fraction 77 = .ok (.iload 5, 2) := by decide +kernel
theorem d_Model_fraction_79 : decode b_Model_fraction 79 = .ok (.ineg, 1) := by decide +kernel
theorem d_Model_fraction_80 : decode b_Model_fraction 80 = .ok (.iastore, 1) := by decide +kernel
theorem d_Model_fraction_81 : decode b_Model_fraction 81 = .ok (.iload 6, 2) := by decide +kernel
theorem d_Model_fraction_83 : decode b_Model_fraction 83 = .ok (.ireturn, 1) := by decide +kernel
theorem m_37 : Cond.constantLong R_Model 73 99999999999999999 ∈ gw := gm (i := 999) (by decide +kernel) (by decide +kernel)
theorem m_38 : Cond.fieldLink R_Model 36 "SpecifierDeskModel" "parts" "[J" ∈ gw := gm (i := 871) (by decide +kernel) (by decide +kernel)
def k_Model_fraction_47 (K : Nat) (a2 : Int64) (a3 : Int32) (k1 : Int32) (k2 : Int64) (k3 : Int32) (t_arguments : Int32) (t_kinds : (Nat → Int32)) (t_values : (Nat → Int64)) (t_below : (Nat → Int32)) (t_sizes : (Nat → Int32)) (t_scales : (Nat → Int32)) (t_parts : (Nat → Int64)) : Option (Int32 × Int32 × (Nat → Int32) × (Nat → Int64) × (Nat → Int32) × (Nat → Int32) × (Nat → Int32) × (Nat → Int64)) :=
  ((f_Model_argument K t_arguments t_kinds t_values t_below t_sizes k1 k2 k3).bind fun u_47 => (if 0 ≤ u_47.1 then (if inB (u_47.1 - (1 : Int32)) 12 = true then (if inB (u_47.1 - (1 : Int32)) 12 = true then some (u_47.1, u_47.2.1, u_47.2.2.1, u_47.2.2.2.1, u_47.2.2.2.2.1, u_47.2.2.2.2.2, (upd t_scales (u_47.1 - (1 : Int32)).toNatClampNeg (-a3)), (vp_updL t_parts (u_47.1 - (1 : Int32)).toNatClampNeg a2)) else none) else none) else some ((-1 : Int32), u_47.2.1, u_47.2.2.1, u_47.2.2.2.1, u_47.2.2.2.2.1, u_47.2.2.2.2.2, t_scales, t_parts)))
def f_Model_fraction (K : Nat) (t_arguments : Int32) (t_kinds : Nat → Int32) (t_values : Nat → Int64) (t_below : Nat → Int32) (t_sizes : Nat → Int32) (t_scales : Nat → Int32) (t_parts : Nat → Int64) (a1 : Int64) (a2 : Int64) (a3 : Int32) : Option (Int32 × Int32 × (Nat → Int32) × (Nat → Int64) × (Nat → Int32) × (Nat → Int32) × (Nat → Int32) × (Nat → Int64)) :=
  (if (lg_cmp a2 (0 : Int64)) < 0 then some ((-1 : Int32), t_arguments, t_kinds, t_values, t_below, t_sizes, t_scales, t_parts) else (if 0 < (lg_cmp a2 (99999999999999999 : Int64)) then some ((-1 : Int32), t_arguments, t_kinds, t_values, t_below, t_sizes, t_scales, t_parts) else (if a3 < (-400 : Int32) then some ((-1 : Int32), t_arguments, t_kinds, t_values, t_below, t_sizes, t_scales, t_parts) else (if a3 ≤ (400 : Int32) then (if 0 ≤ (lg_cmp a1 (0 : Int64)) then k_Model_fraction_47 K a2 a3 (6 : Int32) a1 (0 : Int32) t_arguments t_kinds t_values t_below t_sizes t_scales t_parts else k_Model_fraction_47 K a2 a3 (6 : Int32) a1 (1 : Int32) t_arguments t_kinds t_values t_below t_sizes t_scales t_parts) else some ((-1 : Int32), t_arguments, t_kinds, t_values, t_below, t_sizes, t_scales, t_parts)))))
set_option maxHeartbeats 4000000 in
set_option maxRecDepth 100000 in
theorem c_Model_fraction (l : Launch) (G : Gt) (K : Nat) (qt : Nat) (qt_draft : Nat) (t_draft : Nat → Int32) (t_drafted : Int32) (qt_result : Nat) (t_result : Nat → Int32) (t_length : Int32) (t_arguments : Int32) (qt_kinds : Nat) (t_kinds : Nat → Int32) (qt_values : Nat) (t_values : Nat → Int64) (qt_widths : Nat) (t_widths : Nat → Int32) (qt_below : Nat) (t_below : Nat → Int32) (qt_sizes : Nat) (t_sizes : Nat → Int32) (qt_scales : Nat) (t_scales : Nat → Int32) (qt_parts : Nat) (t_parts : Nat → Int64) (qt_texts : Nat) (t_texts : Nat → Int32) (qt_lengths : Nat) (t_lengths : Nat → Int32) (t_end : Int32) (t_index : Int32) (t_flags : Int32) (t_twice : Int32) (t_width : Int32) (t_precision : Int32) (t_conversion : Int32) (t_broken : Int32) (qt_piece : Nat) (t_piece : Nat → Int32) (t_put : Int32) (t_head : Int32) (qt_tens : Nat) (t_tens : Nat → Int32) (t_count : Int32) (t_exponent : Int32) (qt_work : Nat) (t_work : Nat → Int32) (a1 : Int64) (a2 : Int64) (a3 : Int32) (sz : Nat) (res : Int32 × Int32 × (Nat → Int32) × (Nat → Int64) × (Nat → Int32) × (Nat → Int32) × (Nat → Int32) × (Nat → Int64))   (hf : f_Model_fraction K t_arguments t_kinds t_values t_below t_sizes t_scales t_parts a1 a2 a3 = some res) : Met l y_Model_fraction (.code y_Model_fraction b_Model_fraction 7 (some .int) :: gw) { frames := 1, cells := 0, slots := 0, locals := 40 } (PC G ([.ref qt, .long a1, .long a2, .int a3] : List Value) sz (w_Model_clear G qt qt_draft t_draft t_drafted qt_result t_result t_length t_arguments qt_kinds t_kinds qt_values t_values qt_widths t_widths qt_below t_below qt_sizes t_sizes qt_scales t_scales qt_parts t_parts qt_texts t_texts qt_lengths t_lengths t_end t_index t_flags t_twice t_width t_precision t_conversion t_broken qt_piece t_piece t_put t_head qt_tens t_tens t_count t_exponent qt_work t_work)) (QI G res.1 (va_A (w_Model_clear G qt qt_draft t_draft t_drafted qt_result t_result t_length t_arguments qt_kinds t_kinds qt_values t_values qt_widths t_widths qt_below t_below qt_sizes t_sizes qt_scales t_scales qt_parts t_parts qt_texts t_texts qt_lengths t_lengths t_end t_index t_flags t_twice t_width t_precision t_conversion t_broken qt_piece t_piece t_put t_head qt_tens t_tens t_count t_exponent qt_work t_work) sz) (w_Model_clear G qt qt_draft t_draft t_drafted qt_result t_result t_length res.2.1 qt_kinds res.2.2.1 qt_values res.2.2.2.1 qt_widths t_widths qt_below res.2.2.2.2.1 qt_sizes res.2.2.2.2.2.1 qt_scales res.2.2.2.2.2.2.1 qt_parts res.2.2.2.2.2.2.2 qt_texts t_texts qt_lengths t_lengths t_end t_index t_flags t_twice t_width t_precision t_conversion t_broken qt_piece t_piece t_put t_head qt_tens t_tens t_count t_exponent qt_work t_work)) 0 0 (va_A (w_Model_clear G qt qt_draft t_draft t_drafted qt_result t_result t_length t_arguments qt_kinds t_kinds qt_values t_values qt_widths t_widths qt_below t_below qt_sizes t_sizes qt_scales t_scales qt_parts t_parts qt_texts t_texts qt_lengths t_lengths t_end t_index t_flags t_twice t_width t_precision t_conversion t_broken qt_piece t_piece t_put t_head qt_tens t_tens t_count t_exponent qt_work t_work) sz) := by
  refine Met.ofW (cc := b_Model_fraction) (maxL := 7) (ret := (some .int)) (by decide) rfl ?_
  intro p e s m args below meth c s₁ B hml hv
  obtain ⟨rfl, hsz, hP, hE, hD0⟩ := hv
  have hx := B.exec
  have hb := B.bytes
  have hr := B.returns
  have hts := atoms_spec (ws := (.code y_Model_fraction b_Model_fraction 7 (some .int) :: gw)) B.pre
  have hg : ∀ w ∈ gw, w.before _ s = true := fun w h => hts w (List.mem_cons_of_mem _ h)
  have hown : s.vm.findClass R_Model = some m.cls := findClass_of_methodNamed B.named
  have hlocks := B.notSynchronized
  subst hsz
  have hK := hE.K
  have hD := hD0.self (sz := s.heap.size)
  have hAb := hE.ab hD0
  obtain ⟨Q, hQ⟩ : ∃ Q, MQ below (QI G res.1 (va_A (w_Model_clear G qt qt_draft t_draft t_drafted qt_result t_result t_length t_arguments qt_kinds t_kinds qt_values t_values qt_widths t_widths qt_below t_below qt_sizes t_sizes qt_scales t_scales qt_parts t_parts qt_texts t_texts qt_lengths t_lengths t_end t_index t_flags t_twice t_width t_precision t_conversion t_broken qt_piece t_piece t_put t_head qt_tens t_tens t_count t_exponent qt_work t_work) s.heap.size) (w_Model_clear G qt qt_draft t_draft t_drafted qt_result t_result t_length res.2.1 qt_kinds res.2.2.1 qt_values res.2.2.2.1 qt_widths t_widths qt_below res.2.2.2.2.1 qt_sizes res.2.2.2.2.2.1 qt_scales res.2.2.2.2.2.2.1 qt_parts res.2.2.2.2.2.2.2 qt_texts t_texts qt_lengths t_lengths t_end t_index t_flags t_twice t_width t_precision t_conversion t_broken qt_piece t_piece t_put t_head qt_tens t_tens t_count t_exponent qt_work t_work)) ([.ref qt, .long a1, .long a2, .int a3] : List Value).toArray s 0 0 (va_A (w_Model_clear G qt qt_draft t_draft t_drafted qt_result t_result t_length t_arguments qt_kinds t_kinds qt_values t_values qt_widths t_widths qt_below t_below qt_sizes t_sizes qt_scales t_scales qt_parts t_parts qt_texts t_texts qt_lengths t_lengths t_end t_index t_flags t_twice t_width t_precision t_conversion t_broken qt_piece t_piece t_put t_head qt_tens t_tens t_count t_exponent qt_work t_work) s.heap.size) = Q := ⟨_, rfl⟩
  show W p l e { frames := 1, cells := 0, slots := 0, locals := 40 } s m ([.ref qt, .long a1, .long a2, .int a3] : List Value).toArray below meth c s.heap [] 0 0 (MQ below (QI G res.1 (va_A (w_Model_clear G qt qt_draft t_draft t_drafted qt_result t_result t_length t_arguments qt_kinds t_kinds qt_values t_values qt_widths t_widths qt_below t_below qt_sizes t_sizes qt_scales t_scales qt_parts t_parts qt_texts t_texts qt_lengths t_lengths t_end t_index t_flags t_twice t_width t_precision t_conversion t_broken qt_piece t_piece t_put t_head qt_tens t_tens t_count t_exponent qt_work t_work) s.heap.size) (w_Model_clear G qt qt_draft t_draft t_drafted qt_result t_result t_length res.2.1 qt_kinds res.2.2.1 qt_values res.2.2.2.1 qt_widths t_widths qt_below res.2.2.2.2.1 qt_sizes res.2.2.2.2.2.1 qt_scales res.2.2.2.2.2.2.1 qt_parts res.2.2.2.2.2.2.2 qt_texts t_texts qt_lengths t_lengths t_end t_index t_flags t_twice t_width t_precision t_conversion t_broken qt_piece t_piece t_put t_head qt_tens t_tens t_count t_exponent qt_work t_work)) ([.ref qt, .long a1, .long a2, .int a3] : List Value).toArray s 0 0 (va_A (w_Model_clear G qt qt_draft t_draft t_drafted qt_result t_result t_length t_arguments qt_kinds t_kinds qt_values t_values qt_widths t_widths qt_below t_below qt_sizes t_sizes qt_scales t_scales qt_parts t_parts qt_texts t_texts qt_lengths t_lengths t_end t_index t_flags t_twice t_width t_precision t_conversion t_broken qt_piece t_piece t_put t_head qt_tens t_tens t_count t_exponent qt_work t_work) s.heap.size)) _
  rw [hQ]
  have hA : ∀ q : Nat, s.heap.size ≤ q → va_A (w_Model_clear G qt qt_draft t_draft t_drafted qt_result t_result t_length t_arguments qt_kinds t_kinds qt_values t_values qt_widths t_widths qt_below t_below qt_sizes t_sizes qt_scales t_scales qt_parts t_parts qt_texts t_texts qt_lengths t_lengths t_end t_index t_flags t_twice t_width t_precision t_conversion t_broken qt_piece t_piece t_put t_head qt_tens t_tens t_count t_exponent qt_work t_work) s.heap.size q := fun q h => Or.inr h
  obtain ⟨A, hAe⟩ : ∃ A, va_A (w_Model_clear G qt qt_draft t_draft t_drafted qt_result t_result t_length t_arguments qt_kinds t_kinds qt_values t_values qt_widths t_widths qt_below t_below qt_sizes t_sizes qt_scales t_scales qt_parts t_parts qt_texts t_texts qt_lengths t_lengths t_end t_index t_flags t_twice t_width t_precision t_conversion t_broken qt_piece t_piece t_put t_head qt_tens t_tens t_count t_exponent qt_work t_work) s.heap.size = A := ⟨_, rfl⟩
  rw [hAe] at hA hD hAb hQ
  have hS : va_S A s.heap s.heap [] := va_S.rf
  have hl := lv_entry (([.ref qt, .long a1, .long a2, .int a3] : List Value)) (n := 7) (Nat.le_of_ble_eq_true rfl)
  rw [lg_entry_eq]
  generalize (lg_sl (([.ref qt, .long a1, .long a2, .int a3] : List Value)) ++ List.replicate (7 - (lg_sl (([.ref qt, .long a1, .long a2, .int a3] : List Value))).length) Slot.unset).toArray = ls at hl ⊢
  have hl : lv_has ls 7 [(0, .ref qt), (1, .long a1), (3, .long a2), (5, .int a3)] := hl
  have W_47 : ∀ (k1 : Int32) (k2 : Int64) (k3 : Int32) (t_arguments : Int32) (t_kinds : (Nat → Int32)) (t_values : (Nat → Int64)) (t_below : (Nat → Int32)) (t_sizes : (Nat → Int32)) (t_scales : (Nat → Int32)) (t_parts : (Nat → Int64)) (b_k3 : bl k3), k_Model_fraction_47 K a2 a3 k1 k2 k3 t_arguments t_kinds t_values t_below t_sizes t_scales t_parts = some res → ∀ (H : Heap) (locs : List Loc) (ls : Array Slot), va_P (gD G) vwCl (w_Model_clear G qt qt_draft t_draft t_drafted qt_result t_result t_length t_arguments qt_kinds t_kinds qt_values t_values qt_widths t_widths qt_below t_below qt_sizes t_sizes qt_scales t_scales qt_parts t_parts qt_texts t_texts qt_lengths t_lengths t_end t_index t_flags t_twice t_width t_precision t_conversion t_broken qt_piece t_piece t_put t_head qt_tens t_tens t_count t_exponent qt_work t_work) H → va_D A (w_Model_clear G qt qt_draft t_draft t_drafted qt_result t_result t_length t_arguments qt_kinds t_kinds qt_values t_values qt_widths t_widths qt_below t_below qt_sizes t_sizes qt_scales t_scales qt_parts t_parts qt_texts t_texts qt_lengths t_lengths t_end t_index t_flags t_twice t_width t_precision t_conversion t_broken qt_piece t_piece t_put t_head qt_tens t_tens t_count t_exponent qt_work t_work) → va_S A s.heap H locs → lv_has ls 7 [(0, .ref qt), (3, .long a2), (5, .int a3)] → W p l e { frames := 1, cells := 0, slots := 0, locals := 40 } s m ([.ref qt, .long a1, .long a2, .int a3] : List Value).toArray below meth c H locs 0 0 Q (F0 m 47 ls [.int k3, .long k2, .int k1, .ref qt]) := by
    intro k1 k2 k3 t_arguments t_kinds t_values t_below t_sizes t_scales t_parts b_k3 hf H locs ls hP hD hS hl
    unfold k_Model_fraction_47 at hf
    obtain ⟨u_47, hu_47, hf⟩ := bd_ hf
    refine CALLWi (va_runV (As := [.int k1, .long k2, .int k3]) (rest := []) ⟨hx, hb, hml, hown, hg⟩ (c_Model_argument l G K qt qt_draft t_draft t_drafted qt_result t_result t_length t_arguments qt_kinds t_kinds qt_values t_values qt_widths t_widths qt_below t_below qt_sizes t_sizes qt_scales t_scales qt_parts t_parts qt_texts t_texts qt_lengths t_lengths t_end t_index t_flags t_twice t_width t_precision t_conversion t_broken qt_piece t_piece t_put t_head qt_tens t_tens t_count t_exponent qt_work t_work k1 k2 k3 _ u_47 b_k3 hu_47) (cwV 3 hg (gV m_25 m_26 m_27 m_28 m_29) rfl rfl rfl (by decide +kernel) ⟨Nat.le_of_ble_eq_true rfl, Nat.le_of_ble_eq_true rfl⟩) ⟨PC_b, va_recv hK hP (ci := 7) (q0 := 0) rfl rfl, PC_p hE hS hAb hP hD⟩ rfl rfl hl.1 rfl (lv_room (Nat.le_of_ble_eq_true rfl)) d_Model_fraction_47 ⟨Nat.zero_le _, Nat.zero_le _⟩) hP hD hS hA (fun H locs hP hD hS => ?_)
    have hP : va_P (gD G) vwCl (w_Model_clear G qt qt_draft t_draft t_drafted qt_result t_result t_length u_47.2.1 qt_kinds u_47.2.2.1 qt_values u_47.2.2.2.1 qt_widths t_widths qt_below u_47.2.2.2.2.1 qt_sizes u_47.2.2.2.2.2 qt_scales t_scales qt_parts t_parts qt_texts t_texts qt_lengths t_lengths t_end t_index t_flags t_twice t_width t_precision t_conversion t_broken qt_piece t_piece t_put t_head qt_tens t_tens t_count t_exponent qt_work t_work) H := hP
    have hD : va_D A (w_Model_clear G qt qt_draft t_draft t_drafted qt_result t_result t_length u_47.2.1 qt_kinds u_47.2.2.1 qt_values u_47.2.2.2.1 qt_widths t_widths qt_below u_47.2.2.2.2.1 qt_sizes u_47.2.2.2.2.2 qt_scales t_scales qt_parts t_parts qt_texts t_texts qt_lengths t_lengths t_end t_index t_flags t_twice t_width t_precision t_conversion t_broken qt_piece t_piece t_put t_head qt_tens t_tens t_count t_exponent qt_work t_work) := hD
    refine lv_istore (lv' := [(6, .int u_47.1), (0, .ref qt), (3, .long a2), (5, .int a3)]) hx hb d_Model_fraction_50 hl (by decide) rfl (fun ls hl => ?_)
    refine lv_iload hx hb d_Model_fraction_52 (lv_at hl 0 rfl) ?_
    refine lv_if_ge (tgt := 59) hx hb d_Model_fraction_54 (by decide) (fun c_54 => ?_) (fun c_54 => ?_)
    · have hf := ip_ c_54 hf
      refine lv_aload_n hx hb d_Model_fraction_59 rfl (lv_at hl 1 rfl) ?_
      refine va_get (D := gD G) (ci := 7) (v := .ref qt_parts) (C := R_Model) (T := F_Model) (N := 29) hx hb hg in_Model hown hK hP 0 rfl rfl 11 (by decide) (hg _ m_38) (fun _ h9 => h9) rfl d_Model_fraction_60 ?_
      refine lv_iload hx hb d_Model_fraction_63 (lv_at hl 0 rfl) ?_
      refine lv_iconst (v := 1) hx hb d_Model_fraction_65 (by decide) ?_
      refine lv_isub hx hb d_Model_fraction_66 ?_
      refine lv_lload_n hx hb d_Model_fraction_67 rfl (lv_at hl 2 rfl) ?_
      obtain ⟨g_68, hf⟩ := gd_ hf
      refine va_last hx hb hK hP hD hS 9 2 rfl rfl (inB_in g_68) d_Model_fraction_68 (fun H locs hP hD hS => ?_)
      have hP : va_P (gD G) vwCl (w_Model_clear G qt qt_draft t_draft t_drafted qt_result t_result t_length u_47.2.1 qt_kinds u_47.2.2.1 qt_values u_47.2.2.2.1 qt_widths t_widths qt_below u_47.2.2.2.2.1 qt_sizes u_47.2.2.2.2.2 qt_scales t_scales qt_parts (vp_updL t_parts (u_47.1 - (1 : Int32)).toNatClampNeg a2) qt_texts t_texts qt_lengths t_lengths t_end t_index t_flags t_twice t_width t_precision t_conversion t_broken qt_piece t_piece t_put t_head qt_tens t_tens t_count t_exponent qt_work t_work) H := hP
      have hD : va_D A (w_Model_clear G qt qt_draft t_draft t_drafted qt_result t_result t_length u_47.2.1 qt_kinds u_47.2.2.1 qt_values u_47.2.2.2.1 qt_widths t_widths qt_below u_47.2.2.2.2.1 qt_sizes u_47.2.2.2.2.2 qt_scales t_scales qt_parts (vp_updL t_parts (u_47.1 - (1 : Int32)).toNatClampNeg a2) qt_texts t_texts qt_lengths t_lengths t_end t_index t_flags t_twice t_width t_precision t_conversion t_broken qt_piece t_piece t_put t_head qt_tens t_tens t_count t_exponent qt_work t_work) := hD
      refine lv_aload_n hx hb d_Model_fraction_69 rfl (lv_at hl 1 rfl) ?_
      refine va_get (D := gD G) (ci := 7) (v := .ref qt_scales) (C := R_Model) (T := F_Model) (N := 29) hx hb hg in_Model hown hK hP 0 rfl rfl 10 (by decide) (hg _ m_36) (fun _ h9 => h9) rfl d_Model_fraction_70 ?_
      refine lv_iload hx hb d_Model_fraction_73 (lv_at hl 0 rfl) ?_
      refine lv_iconst (v := 1) hx hb d_Model_fraction_75 (by decide) ?_
      refine lv_isub hx hb d_Model_fraction_76 ?_
      refine lv_iload hx hb d_Model_fraction_77 (lv_at hl 3 rfl) ?_
      refine lv_ineg hx hb d_Model_fraction_79 ?_
      obtain ⟨g_80, hf⟩ := gd_ hf
      refine va_iast hx hb hK hP hD hS 8 1 rfl rfl (inB_in g_80) d_Model_fraction_80 (fun H locs hP hD hS => ?_)
      have hP : va_P (gD G) vwCl (w_Model_clear G qt qt_draft t_draft t_drafted qt_result t_result t_length u_47.2.1 qt_kinds u_47.2.2.1 qt_values u_47.2.2.2.1 qt_widths t_widths qt_below u_47.2.2.2.2.1 qt_sizes u_47.2.2.2.2.2 qt_scales (upd t_scales (u_47.1 - (1 : Int32)).toNatClampNeg (-a3)) qt_parts (vp_updL t_parts (u_47.1 - (1 : Int32)).toNatClampNeg a2) qt_texts t_texts qt_lengths t_lengths t_end t_index t_flags t_twice t_width t_precision t_conversion t_broken qt_piece t_piece t_put t_head qt_tens t_tens t_count t_exponent qt_work t_work) H := hP
      have hD : va_D A (w_Model_clear G qt qt_draft t_draft t_drafted qt_result t_result t_length u_47.2.1 qt_kinds u_47.2.2.1 qt_values u_47.2.2.2.1 qt_widths t_widths qt_below u_47.2.2.2.2.1 qt_sizes u_47.2.2.2.2.2 qt_scales (upd t_scales (u_47.1 - (1 : Int32)).toNatClampNeg (-a3)) qt_parts (vp_updL t_parts (u_47.1 - (1 : Int32)).toNatClampNeg a2) qt_texts t_texts qt_lengths t_lengths t_end t_index t_flags t_twice t_width t_precision t_conversion t_broken qt_piece t_piece t_put t_head qt_tens t_tens t_count t_exponent qt_work t_work) := hD
      refine lv_iload hx hb d_Model_fraction_81 (lv_at hl 0 rfl) ?_
      obtain rfl := Option.some.inj hf
      rw [← hQ]
      exact W.iret (v := u_47.1) hx hb hr (fun t ht hW => ⟨⟨u_47.1, (), rfl, rfl, ⟨by rw [ht]; exact hP, hD⟩⟩, hS.F ht⟩) hS.2.2 d_Model_fraction_83
    · have hf := in_ c_54 hf
      refine lv_iconst (v := -1) hx hb d_Model_fraction_57 (by decide) ?_
      obtain rfl := Option.some.inj hf
      rw [← hQ]
      exact W.iret (v := (-1 : Int32)) hx hb hr (fun t ht hW => ⟨⟨(-1 : Int32), (), rfl, rfl, ⟨by rw [ht]; exact hP, hD⟩⟩, hS.F ht⟩) hS.2.2 d_Model_fraction_58
  unfold f_Model_fraction at hf
  refine lv_lload_n hx hb d_Model_fraction_0 rfl (lv_at hl 2 rfl) ?_
  refine lv_lconst (v := 0) hx hb d_Model_fraction_1 (by decide) ?_
  refine W.lcmp hx hb d_Model_fraction_2 ?_
  refine lv_if_lt (tgt := 30) hx hb d_Model_fraction_3 (by decide) (fun c_3 => ?_) (fun c_3 => ?_)
  · have hf := ip_ c_3 hf
    refine lv_iconst (v := -1) hx hb d_Model_fraction_30 (by decide) ?_
    obtain rfl := Option.some.inj hf
    rw [← hQ]
    exact W.iret (v := (-1 : Int32)) hx hb hr (fun t ht hW => ⟨⟨(-1 : Int32), (), rfl, rfl, ⟨by rw [ht]; exact hP, hD⟩⟩, hS.F ht⟩) hS.2.2 d_Model_fraction_31
  · have hf := in_ c_3 hf
    refine lv_lload_n hx hb d_Model_fraction_6 rfl (lv_at hl 2 rfl) ?_
    refine lv_ldc2 (v := 99999999999999999) hx hb hown (hg _ m_37) d_Model_fraction_7 ?_
    refine W.lcmp hx hb d_Model_fraction_10 ?_
    refine lv_if_gt (tgt := 30) hx hb d_Model_fraction_11 (by decide) (fun c_11 => ?_) (fun c_11 => ?_)
    · have hf := ip_ c_11 hf
      refine lv_iconst (v := -1) hx hb d_Model_fraction_30 (by decide) ?_
      obtain rfl := Option.some.inj hf
      rw [← hQ]
      exact W.iret (v := (-1 : Int32)) hx hb hr (fun t ht hW => ⟨⟨(-1 : Int32), (), rfl, rfl, ⟨by rw [ht]; exact hP, hD⟩⟩, hS.F ht⟩) hS.2.2 d_Model_fraction_31
    · have hf := in_ c_11 hf
      refine lv_iload hx hb d_Model_fraction_14 (lv_at hl 3 rfl) ?_
      refine lv_sipush (v := -400) hx hb d_Model_fraction_16 (by decide) ?_
      refine lv_icmp_lt (tgt := 30) hx hb d_Model_fraction_19 (by decide) (fun c_19 => ?_) (fun c_19 => ?_)
      · have hf := ip_ c_19 hf
        refine lv_iconst (v := -1) hx hb d_Model_fraction_30 (by decide) ?_
        obtain rfl := Option.some.inj hf
        rw [← hQ]
        exact W.iret (v := (-1 : Int32)) hx hb hr (fun t ht hW => ⟨⟨(-1 : Int32), (), rfl, rfl, ⟨by rw [ht]; exact hP, hD⟩⟩, hS.F ht⟩) hS.2.2 d_Model_fraction_31
      · have hf := in_ c_19 hf
        refine lv_iload hx hb d_Model_fraction_22 (lv_at hl 3 rfl) ?_
        refine lv_sipush (v := 400) hx hb d_Model_fraction_24 (by decide) ?_
        refine lv_icmp_le (tgt := 32) hx hb d_Model_fraction_27 (by decide) (fun c_27 => ?_) (fun c_27 => ?_)
        · have hf := ip_ c_27 hf
          refine lv_aload_n hx hb d_Model_fraction_32 rfl (lv_at hl 0 rfl) ?_
          refine lv_bipush (v := 6) hx hb d_Model_fraction_33 (by decide) ?_
          refine lv_lload_n hx hb d_Model_fraction_35 rfl (lv_at hl 1 rfl) ?_
          refine lv_lload_n hx hb d_Model_fraction_36 rfl (lv_at hl 1 rfl) ?_
          refine lv_lconst (v := 0) hx hb d_Model_fraction_37 (by decide) ?_
          refine W.lcmp hx hb d_Model_fraction_38 ?_
          refine lv_if_ge (tgt := 46) hx hb d_Model_fraction_39 (by decide) (fun c_39 => ?_) (fun c_39 => ?_)
          · have hf := ip_ c_39 hf
            refine lv_iconst (v := 0) hx hb d_Model_fraction_46 (by decide) ?_
            exact W_47 (6 : Int32) a1 (0 : Int32) t_arguments t_kinds t_values t_below t_sizes t_scales t_parts bl_0 hf _ _ _ hP hD hS (lv_sub hl [0, 2, 3] rfl)
          · have hf := in_ c_39 hf
            refine lv_iconst (v := 1) hx hb d_Model_fraction_42 (by decide) ?_
            refine lv_goto (tgt := 47) hx hb d_Model_fraction_43 (by decide) ?_
            exact W_47 (6 : Int32) a1 (1 : Int32) t_arguments t_kinds t_values t_below t_sizes t_scales t_parts bl_1 hf _ _ _ hP hD hS (lv_sub hl [0, 2, 3] rfl)
        · have hf := in_ c_27 hf
          refine lv_iconst (v := -1) hx hb d_Model_fraction_30 (by decide) ?_
          obtain rfl := Option.some.inj hf
          rw [← hQ]
          exact W.iret (v := (-1 : Int32)) hx hb hr (fun t ht hW => ⟨⟨(-1 : Int32), (), rfl, rfl, ⟨by rw [ht]; exact hP, hD⟩⟩, hS.F ht⟩) hS.2.2 d_Model_fraction_31
theorem d_Model_text_0 : decode b_Model_text 0 = .ok (.aload_n 0, 1) := by decide +kernel
theorem d_Model_text_1 : decode b_Model_text 1 = .ok (.bipush 7, 2) := by decide +kernel
theorem d_Model_text_3 : decode b_Model_text 3 = .ok (.lconst 0, 1) := by decide +kernel
theorem d_Model_text_4 : decode b_Model_text 4 = .ok (.iconst 0, 1) := by decide +kernel
theorem d_Model_text_5 : decode b_Model_text 5 = .ok (.invokevirtual 63, 3) := by decide +kernel
theorem d_Model_text_8 : decode b_Model_text 8 = .ok (.istore_n 1, 1) := by decide +kernel
theorem d_Model_text_9 : decode b_Model_text 9 = .ok (.iload_n 1, 1) := by decide +kernel
theorem d_Model_text_10 : decode b_Model_text 10 = .ok (.ifCond .ge 5, 3) := by decide +kernel
theorem d_Model_text_13 : decode b_Model_text 13 = .ok (.iconst (-1), 1) := by decide +kernel
theorem d_Model_text_14 : decode b_Model_text 14 = .ok (.ireturn, 1) := by decide +kernel
theorem d_Model_text_15 : decode b_Model_text 15 = .ok (.iconst 0, 1) := by decide +kernel
theorem d_Model_text_16 : decode b_Model_text 16 = .ok (.istore_n 2, 1) := by decide +kernel
theorem d_Model_text_17 : decode b_Model_text 17 = .ok (.iload_n 2, 1) := by decide +kernel
theorem d_Model_text_18 : decode b_Model_text 18 = .ok (.aload_n 0, 1) := by decide +kernel
theorem d_Model_text_19 : decode b_Model_text 19 = .ok (.getfield 56, 3) := by decide +kernel
theorem d_Model_text_22 : decode b_Model_text 22 = .ok (.if_icmp .ge 29, 3) := by decide +kernel
theorem d_Model_text_25 : decode b_Model_text 25 = .ok (.aload_n 0, 1) := by decide +kernel
theorem d_Model_text_26 : decode b_Model_text 26 = .ok (.getfield 39, 3) := by decide +kernel
theorem d_Model_text_29 : decode b_Model_text 29 = .ok (.sipush 400, 3) := by decide +kernel
theorem d_Model_text_32 : decode b_Model_text 32 = .ok (.iload_n 1, 1) := by decide +kernel
theorem d_Model_text_33 : decode b_Model_text 33 = .ok (.iconst 1, 1) := by decide +kernel
theorem d_Model_text_34 : decode b_Model_text 34 = .ok (.isub, 1) := by decide +kernel
theorem d_Model_text_35 : decode b_Model_text 35 = .ok (.imul, 1) := by decide +kernel
theorem d_Model_text_36 : decode b_Model_text 36 = .ok (.iload_n 2, 1) := by decide +kernel
theorem d_Model_text_37 : decode b_Model_text 37 = .ok (.iadd, 1) := by decide +kernel
theorem d_Model_text_38 : decode b_Model_text 38 = .ok (.aload_n 0, 1) := by decide +kernel
theorem d_Model_text_39 : decode b_Model_text 39 = .ok (.getfield 7, 3) := by decide +kernel
theorem d_Model_text_42 : decode b_Model_text 42 = .ok (.iload_n 2, 1) := by decide +kernel
theorem d_Model_text_43 : decode b_Model_text 43 = .ok (.iaload, 1) := by decide +kernel
theorem d_Model_text_44 : decode b_Model_text 44 = .ok (.iastore, 1) := by decide +kernel
theorem d_Model_text_45 : decode b_Model_text 45 = .ok (.iinc 2 1, 3) := by decide +kernel
theorem d_Model_text_48 : decode b_Model_text 48 = .ok (.goto (-31), 3) := by decide +kernel
theorem d_Model_text_51 : decode b_Model_text 51 = .ok (.aload_n 0, 1) := by decide +kernel
theorem d_Model_text_52 : decode b_Model_text 52 = .ok (.getfield 42, 3) := by decide +kernel
theorem d_Model_text_55 : decode b_Model_text 55 = .ok (.iload_n 1, 1) := by decide +kernel
theorem d_Model_text_56 : decode b_Model_text 56 = .ok (.iconst 1, 1) := by decide +kernel
theorem d_Model_text_57 : decode b_Model_text 57 = .ok (.isub, 1) := by decide +kernel
theorem d_Model_text_58 : decode b_Model_text 58 = .ok (.aload_n 0, 1) := by decide +kernel
theorem d_Model_text_59 : decode b_Model_text 59 = .ok (.getfield 56, 3) := by decide +kernel
theorem d_Model_text_62 : decode b_Model_text 62 = .ok (.iastore, 1) := by decide +kernel
theorem d_Model_text_63 : decode b_Model_text 63 = .ok (.aload_n 0, 1) := by decide +kernel
theorem d_Model_text_64 : decode b_Model_text 64 = .ok (.iconst 0, 1) := by decide +kernel
theorem d_Model_text_65 : decode b_Model_text 65 = .ok (.putfield 56, 3) := by decide +kernel
theorem d_Model_text_68 : decode b_Model_text 68 = .ok (.iload_n 1, 1) := by decide +kernel
theorem d_Model_text_69 : decode b_Model_text 69 = .ok (.ireturn, 1) := by decide +kernel
theorem m_39 : Cond.fieldLink R_Model 42 "SpecifierDeskModel" "lengths" "[I" ∈ gw := gm (i := 873) (by decide +kernel) (by decide +kernel)
theorem m_40 : Cond.fieldLink R_Model 39 "SpecifierDeskModel" "texts" "[I" ∈ gw := gm (i := 872) (by decide +kernel) (by decide +kernel)
theorem m_41 : Cond.fieldLink R_Model 7 "SpecifierDeskModel" "draft" "[I" ∈ gw := gm (i := 860) (by decide +kernel) (by decide +kernel)
def b_Model_text_17 (t_draft : Nat → Int32) (x1 : Int32) (t_drafted : Int32) (t_arguments : Int32) (t_kinds : (Nat → Int32)) (t_values : (Nat → Int64)) (t_below : (Nat → Int32)) (t_sizes : (Nat → Int32)) (t_lengths : (Nat → Int32)) (rec_17 : (Int32 × (Nat → Int32)) → Option (Int32 × Int32 × Int32 × (Nat → Int32) × (Nat → Int64) × (Nat → Int32) × (Nat → Int32) × (Nat → Int32) × (Nat → Int32))) (z17 : Int32 × (Nat → Int32)) : Option (Int32 × Int32 × Int32 × (Nat → Int32) × (Nat → Int64) × (Nat → Int32) × (Nat → Int32) × (Nat → Int32) × (Nat → Int32)) :=
  (if t_drafted ≤ z17.1 then (if inB (x1 - (1 : Int32)) 12 = true then some (x1, (0 : Int32), t_arguments, t_kinds, t_values, t_below, t_sizes, z17.2, (upd t_lengths (x1 - (1 : Int32)).toNatClampNeg t_drafted)) else none) else (if inB z17.1 400 = true then (if inB (((400 : Int32) * (x1 - (1 : Int32))) + z17.1) 4800 = true then rec_17 ((z17.1 + 1), (upd z17.2 (((400 : Int32) * (x1 - (1 : Int32))) + z17.1).toNatClampNeg (t_draft z17.1.toNatClampNeg))) else none) else none))
def f_Model_text (K : Nat) (t_draft : Nat → Int32) (t_drafted : Int32) (t_arguments : Int32) (t_kinds : Nat → Int32) (t_values : Nat → Int64) (t_below : Nat → Int32) (t_sizes : Nat → Int32) (t_texts : Nat → Int32) (t_lengths : Nat → Int32) : Option (Int32 × Int32 × Int32 × (Nat → Int32) × (Nat → Int64) × (Nat → Int32) × (Nat → Int32) × (Nat → Int32) × (Nat → Int32)) :=
  ((f_Model_argument K t_arguments t_kinds t_values t_below t_sizes (7 : Int32) (0 : Int64) (0 : Int32)).bind fun u_5 => (if 0 ≤ u_5.1 then lp_ (b_Model_text_17 t_draft u_5.1 t_drafted u_5.2.1 u_5.2.2.1 u_5.2.2.2.1 u_5.2.2.2.2.1 u_5.2.2.2.2.2 t_lengths) K ((0 : Int32), t_texts) else some ((-1 : Int32), t_drafted, u_5.2.1, u_5.2.2.1, u_5.2.2.2.1, u_5.2.2.2.2.1, u_5.2.2.2.2.2, t_texts, t_lengths)))
set_option maxHeartbeats 4000000 in
set_option maxRecDepth 100000 in
theorem c_Model_text (l : Launch) (G : Gt) (K : Nat) (qt : Nat) (qt_draft : Nat) (t_draft : Nat → Int32) (t_drafted : Int32) (qt_result : Nat) (t_result : Nat → Int32) (t_length : Int32) (t_arguments : Int32) (qt_kinds : Nat) (t_kinds : Nat → Int32) (qt_values : Nat) (t_values : Nat → Int64) (qt_widths : Nat) (t_widths : Nat → Int32) (qt_below : Nat) (t_below : Nat → Int32) (qt_sizes : Nat) (t_sizes : Nat → Int32) (qt_scales : Nat) (t_scales : Nat → Int32) (qt_parts : Nat) (t_parts : Nat → Int64) (qt_texts : Nat) (t_texts : Nat → Int32) (qt_lengths : Nat) (t_lengths : Nat → Int32) (t_end : Int32) (t_index : Int32) (t_flags : Int32) (t_twice : Int32) (t_width : Int32) (t_precision : Int32) (t_conversion : Int32) (t_broken : Int32) (qt_piece : Nat) (t_piece : Nat → Int32) (t_put : Int32) (t_head : Int32) (qt_tens : Nat) (t_tens : Nat → Int32) (t_count : Int32) (t_exponent : Int32) (qt_work : Nat) (t_work : Nat → Int32) (sz : Nat) (res : Int32 × Int32 × Int32 × (Nat → Int32) × (Nat → Int64) × (Nat → Int32) × (Nat → Int32) × (Nat → Int32) × (Nat → Int32))   (hf : f_Model_text K t_draft t_drafted t_arguments t_kinds t_values t_below t_sizes t_texts t_lengths = some res) : Met l y_Model_text (.code y_Model_text b_Model_text 3 (some .int) :: gw) { frames := 1, cells := 0, slots := 0, locals := 40 } (PC G ([.ref qt] : List Value) sz (w_Model_clear G qt qt_draft t_draft t_drafted qt_result t_result t_length t_arguments qt_kinds t_kinds qt_values t_values qt_widths t_widths qt_below t_below qt_sizes t_sizes qt_scales t_scales qt_parts t_parts qt_texts t_texts qt_lengths t_lengths t_end t_index t_flags t_twice t_width t_precision t_conversion t_broken qt_piece t_piece t_put t_head qt_tens t_tens t_count t_exponent qt_work t_work)) (QI G res.1 (va_A (w_Model_clear G qt qt_draft t_draft t_drafted qt_result t_result t_length t_arguments qt_kinds t_kinds qt_values t_values qt_widths t_widths qt_below t_below qt_sizes t_sizes qt_scales t_scales qt_parts t_parts qt_texts t_texts qt_lengths t_lengths t_end t_index t_flags t_twice t_width t_precision t_conversion t_broken qt_piece t_piece t_put t_head qt_tens t_tens t_count t_exponent qt_work t_work) sz) (w_Model_clear G qt qt_draft t_draft res.2.1 qt_result t_result t_length res.2.2.1 qt_kinds res.2.2.2.1 qt_values res.2.2.2.2.1 qt_widths t_widths qt_below res.2.2.2.2.2.1 qt_sizes res.2.2.2.2.2.2.1 qt_scales t_scales qt_parts t_parts qt_texts res.2.2.2.2.2.2.2.1 qt_lengths res.2.2.2.2.2.2.2.2 t_end t_index t_flags t_twice t_width t_precision t_conversion t_broken qt_piece t_piece t_put t_head qt_tens t_tens t_count t_exponent qt_work t_work)) 0 0 (va_A (w_Model_clear G qt qt_draft t_draft t_drafted qt_result t_result t_length t_arguments qt_kinds t_kinds qt_values t_values qt_widths t_widths qt_below t_below qt_sizes t_sizes qt_scales t_scales qt_parts t_parts qt_texts t_texts qt_lengths t_lengths t_end t_index t_flags t_twice t_width t_precision t_conversion t_broken qt_piece t_piece t_put t_head qt_tens t_tens t_count t_exponent qt_work t_work) sz) := by
  refine Met.ofW (cc := b_Model_text) (maxL := 3) (ret := (some .int)) (by decide) rfl ?_
  intro p e s m args below meth c s₁ B hml hv
  obtain ⟨rfl, hsz, hP, hE, hD0⟩ := hv
  have hx := B.exec
  have hb := B.bytes
  have hr := B.returns
  have hts := atoms_spec (ws := (.code y_Model_text b_Model_text 3 (some .int) :: gw)) B.pre
  have hg : ∀ w ∈ gw, w.before _ s = true := fun w h => hts w (List.mem_cons_of_mem _ h)
  have hown : s.vm.findClass R_Model = some m.cls := findClass_of_methodNamed B.named
  have hlocks := B.notSynchronized
  subst hsz
  have hK := hE.K
  have hD := hD0.self (sz := s.heap.size)
  have hAb := hE.ab hD0
  obtain ⟨Q, hQ⟩ : ∃ Q, MQ below (QI G res.1 (va_A (w_Model_clear G qt qt_draft t_draft t_drafted qt_result t_result t_length t_arguments qt_kinds t_kinds qt_values t_values qt_widths t_widths qt_below t_below qt_sizes t_sizes qt_scales t_scales qt_parts t_parts qt_texts t_texts qt_lengths t_lengths t_end t_index t_flags t_twice t_width t_precision t_conversion t_broken qt_piece t_piece t_put t_head qt_tens t_tens t_count t_exponent qt_work t_work) s.heap.size) (w_Model_clear G qt qt_draft t_draft res.2.1 qt_result t_result t_length res.2.2.1 qt_kinds res.2.2.2.1 qt_values res.2.2.2.2.1 qt_widths t_widths qt_below res.2.2.2.2.2.1 qt_sizes res.2.2.2.2.2.2.1 qt_scales t_scales qt_parts t_parts qt_texts res.2.2.2.2.2.2.2.1 qt_lengths res.2.2.2.2.2.2.2.2 t_end t_index t_flags t_twice t_width t_precision t_conversion t_broken qt_piece t_piece t_put t_head qt_tens t_tens t_count t_exponent qt_work t_work)) ([.ref qt] : List Value).toArray s 0 0 (va_A (w_Model_clear G qt qt_draft t_draft t_drafted qt_result t_result t_length t_arguments qt_kinds t_kinds qt_values t_values qt_widths t_widths qt_below t_below qt_sizes t_sizes qt_scales t_scales qt_parts t_parts qt_texts t_texts qt_lengths t_lengths t_end t_index t_flags t_twice t_width t_precision t_conversion t_broken qt_piece t_piece t_put t_head qt_tens t_tens t_count t_exponent qt_work t_work) s.heap.size) = Q := ⟨_, rfl⟩
  show W p l e { frames := 1, cells := 0, slots := 0, locals := 40 } s m ([.ref qt] : List Value).toArray below meth c s.heap [] 0 0 (MQ below (QI G res.1 (va_A (w_Model_clear G qt qt_draft t_draft t_drafted qt_result t_result t_length t_arguments qt_kinds t_kinds qt_values t_values qt_widths t_widths qt_below t_below qt_sizes t_sizes qt_scales t_scales qt_parts t_parts qt_texts t_texts qt_lengths t_lengths t_end t_index t_flags t_twice t_width t_precision t_conversion t_broken qt_piece t_piece t_put t_head qt_tens t_tens t_count t_exponent qt_work t_work) s.heap.size) (w_Model_clear G qt qt_draft t_draft res.2.1 qt_result t_result t_length res.2.2.1 qt_kinds res.2.2.2.1 qt_values res.2.2.2.2.1 qt_widths t_widths qt_below res.2.2.2.2.2.1 qt_sizes res.2.2.2.2.2.2.1 qt_scales t_scales qt_parts t_parts qt_texts res.2.2.2.2.2.2.2.1 qt_lengths res.2.2.2.2.2.2.2.2 t_end t_index t_flags t_twice t_width t_precision t_conversion t_broken qt_piece t_piece t_put t_head qt_tens t_tens t_count t_exponent qt_work t_work)) ([.ref qt] : List Value).toArray s 0 0 (va_A (w_Model_clear G qt qt_draft t_draft t_drafted qt_result t_result t_length t_arguments qt_kinds t_kinds qt_values t_values qt_widths t_widths qt_below t_below qt_sizes t_sizes qt_scales t_scales qt_parts t_parts qt_texts t_texts qt_lengths t_lengths t_end t_index t_flags t_twice t_width t_precision t_conversion t_broken qt_piece t_piece t_put t_head qt_tens t_tens t_count t_exponent qt_work t_work) s.heap.size)) _
  rw [hQ]
  have hA : ∀ q : Nat, s.heap.size ≤ q → va_A (w_Model_clear G qt qt_draft t_draft t_drafted qt_result t_result t_length t_arguments qt_kinds t_kinds qt_values t_values qt_widths t_widths qt_below t_below qt_sizes t_sizes qt_scales t_scales qt_parts t_parts qt_texts t_texts qt_lengths t_lengths t_end t_index t_flags t_twice t_width t_precision t_conversion t_broken qt_piece t_piece t_put t_head qt_tens t_tens t_count t_exponent qt_work t_work) s.heap.size q := fun q h => Or.inr h
  obtain ⟨A, hAe⟩ : ∃ A, va_A (w_Model_clear G qt qt_draft t_draft t_drafted qt_result t_result t_length t_arguments qt_kinds t_kinds qt_values t_values qt_widths t_widths qt_below t_below qt_sizes t_sizes qt_scales t_scales qt_parts t_parts qt_texts t_texts qt_lengths t_lengths t_end t_index t_flags t_twice t_width t_precision t_conversion t_broken qt_piece t_piece t_put t_head qt_tens t_tens t_count t_exponent qt_work t_work) s.heap.size = A := ⟨_, rfl⟩
  rw [hAe] at hA hD hAb hQ
  have hS : va_S A s.heap s.heap [] := va_S.rf
  have hl := lv_entry (([.ref qt] : List Value)) (n := 3) (Nat.le_of_ble_eq_true rfl)
  rw [lg_entry_eq]
  generalize (lg_sl (([.ref qt] : List Value)) ++ List.replicate (3 - (lg_sl (([.ref qt] : List Value))).length) Slot.unset).toArray = ls at hl ⊢
  have hl : lv_has ls 3 [(0, .ref qt)] := hl
  have W_17 : ∀ (x1 : Int32) (t_drafted : Int32) (t_arguments : Int32) (t_kinds : (Nat → Int32)) (t_values : (Nat → Int64)) (t_below : (Nat → Int32)) (t_sizes : (Nat → Int32)) (t_lengths : (Nat → Int32))  (n_17 : Nat) (z17 : Int32 × (Nat → Int32)) , lp_ (b_Model_text_17 t_draft x1 t_drafted t_arguments t_kinds t_values t_below t_sizes t_lengths) n_17 z17 = some res → ∀ (H : Heap) (locs : List Loc) (ls : Array Slot), va_P (gD G) vwCl (w_Model_clear G qt qt_draft t_draft t_drafted qt_result t_result t_length t_arguments qt_kinds t_kinds qt_values t_values qt_widths t_widths qt_below t_below qt_sizes t_sizes qt_scales t_scales qt_parts t_parts qt_texts z17.2 qt_lengths t_lengths t_end t_index t_flags t_twice t_width t_precision t_conversion t_broken qt_piece t_piece t_put t_head qt_tens t_tens t_count t_exponent qt_work t_work) H → va_D A (w_Model_clear G qt qt_draft t_draft t_drafted qt_result t_result t_length t_arguments qt_kinds t_kinds qt_values t_values qt_widths t_widths qt_below t_below qt_sizes t_sizes qt_scales t_scales qt_parts t_parts qt_texts z17.2 qt_lengths t_lengths t_end t_index t_flags t_twice t_width t_precision t_conversion t_broken qt_piece t_piece t_put t_head qt_tens t_tens t_count t_exponent qt_work t_work) → va_S A s.heap H locs → lv_has ls 3 [(0, .ref qt), (1, .int x1), (2, .int z17.1)] → W p l e { frames := 1, cells := 0, slots := 0, locals := 40 } s m ([.ref qt] : List Value).toArray below meth c H locs 0 0 Q (F0 m 17 ls []) := by
    intro x1 t_drafted t_arguments t_kinds t_values t_below t_sizes t_lengths n_17
    induction n_17 with
    | zero =>
      intro z17  hf
      cases hf
    | succ n_17 ih_17 =>
      intro z17  hf H locs ls hP hD hS hl
      have hf : b_Model_text_17 t_draft x1 t_drafted t_arguments t_kinds t_values t_below t_sizes t_lengths (lp_ (b_Model_text_17 t_draft x1 t_drafted t_arguments t_kinds t_values t_below t_sizes t_lengths) n_17) z17 = some res := hf
      generalize lp_ (b_Model_text_17 t_draft x1 t_drafted t_arguments t_kinds t_values t_below t_sizes t_lengths) n_17 = rec_17 at hf ih_17
      unfold b_Model_text_17 at hf
      refine lv_iload_n hx hb d_Model_text_17 rfl (lv_at hl 2 rfl) ?_
      refine lv_aload_n hx hb d_Model_text_18 rfl (lv_at hl 0 rfl) ?_
      refine va_get (D := gD G) (ci := 7) (v := .int t_drafted) (C := R_Model) (T := F_Model) (N := 29) hx hb hg in_Model hown hK hP 0 rfl rfl 1 (by decide) (hg _ m_19) (fun _ h9 => h9) rfl d_Model_text_19 ?_
      refine lv_icmp_ge (tgt := 51) hx hb d_Model_text_22 (by decide) (fun c_22 => ?_) (fun c_22 => ?_)
      · have hf := ip_ c_22 hf
        refine lv_aload_n hx hb d_Model_text_51 rfl (lv_at hl 0 rfl) ?_
        refine va_get (D := gD G) (ci := 7) (v := .ref qt_lengths) (C := R_Model) (T := F_Model) (N := 29) hx hb hg in_Model hown hK hP 0 rfl rfl 13 (by decide) (hg _ m_39) (fun _ h9 => h9) rfl d_Model_text_52 ?_
        refine lv_iload_n hx hb d_Model_text_55 rfl (lv_at hl 1 rfl) ?_
        refine lv_iconst (v := 1) hx hb d_Model_text_56 (by decide) ?_
        refine lv_isub hx hb d_Model_text_57 ?_
        refine lv_aload_n hx hb d_Model_text_58 rfl (lv_at hl 0 rfl) ?_
        refine va_get (D := gD G) (ci := 7) (v := .int t_drafted) (C := R_Model) (T := F_Model) (N := 29) hx hb hg in_Model hown hK hP 0 rfl rfl 1 (by decide) (hg _ m_19) (fun _ h9 => h9) rfl d_Model_text_59 ?_
        obtain ⟨g_62, hf⟩ := gd_ hf
        refine va_iast hx hb hK hP hD hS 11 1 rfl rfl (inB_in g_62) d_Model_text_62 (fun H locs hP hD hS => ?_)
        have hP : va_P (gD G) vwCl (w_Model_clear G qt qt_draft t_draft t_drafted qt_result t_result t_length t_arguments qt_kinds t_kinds qt_values t_values qt_widths t_widths qt_below t_below qt_sizes t_sizes qt_scales t_scales qt_parts t_parts qt_texts z17.2 qt_lengths (upd t_lengths (x1 - (1 : Int32)).toNatClampNeg t_drafted) t_end t_index t_flags t_twice t_width t_precision t_conversion t_broken qt_piece t_piece t_put t_head qt_tens t_tens t_count t_exponent qt_work t_work) H := hP
        have hD : va_D A (w_Model_clear G qt qt_draft t_draft t_drafted qt_result t_result t_length t_arguments qt_kinds t_kinds qt_values t_values qt_widths t_widths qt_below t_below qt_sizes t_sizes qt_scales t_scales qt_parts t_parts qt_texts z17.2 qt_lengths (upd t_lengths (x1 - (1 : Int32)).toNatClampNeg t_drafted) t_end t_index t_flags t_twice t_width t_precision t_conversion t_broken qt_piece t_piece t_put t_head qt_tens t_tens t_count t_exponent qt_work t_work) := hD
        refine lv_aload_n hx hb d_Model_text_63 rfl (lv_at hl 0 rfl) ?_
        refine lv_iconst (v := 0) hx hb d_Model_text_64 (by decide) ?_
        refine va_put (D := gD G) (ci := 7) (v := .int (0 : Int32)) (ty := .int) (C := R_Model) (T := F_Model) (N := 29) hx hb hg in_Model t_Model to_Model no_Model hown hK hP hD hS 0 rfl rfl 1 (by decide) (hg _ m_19) (fun _ h9 => h9) rfl (by decide +kernel) rfl rfl (Nat.le_of_ble_eq_true rfl) d_Model_text_65 (fun H locs hP hD hS => ?_)
        have hP : va_P (gD G) vwCl (w_Model_clear G qt qt_draft t_draft (0 : Int32) qt_result t_result t_length t_arguments qt_kinds t_kinds qt_values t_values qt_widths t_widths qt_below t_below qt_sizes t_sizes qt_scales t_scales qt_parts t_parts qt_texts z17.2 qt_lengths (upd t_lengths (x1 - (1 : Int32)).toNatClampNeg t_drafted) t_end t_index t_flags t_twice t_width t_precision t_conversion t_broken qt_piece t_piece t_put t_head qt_tens t_tens t_count t_exponent qt_work t_work) H := hP
        have hD : va_D A (w_Model_clear G qt qt_draft t_draft (0 : Int32) qt_result t_result t_length t_arguments qt_kinds t_kinds qt_values t_values qt_widths t_widths qt_below t_below qt_sizes t_sizes qt_scales t_scales qt_parts t_parts qt_texts z17.2 qt_lengths (upd t_lengths (x1 - (1 : Int32)).toNatClampNeg t_drafted) t_end t_index t_flags t_twice t_width t_precision t_conversion t_broken qt_piece t_piece t_put t_head qt_tens t_tens t_count t_exponent qt_work t_work) := hD
        refine lv_iload_n hx hb d_Model_text_68 rfl (lv_at hl 1 rfl) ?_
        obtain rfl := Option.some.inj hf
        rw [← hQ]
        exact W.iret (v := x1) hx hb hr (fun t ht hW => ⟨⟨x1, (), rfl, rfl, ⟨by rw [ht]; exact hP, hD⟩⟩, hS.F ht⟩) hS.2.2 d_Model_text_69
      · have hf := in_ c_22 hf
        refine lv_aload_n hx hb d_Model_text_25 rfl (lv_at hl 0 rfl) ?_
        refine va_get (D := gD G) (ci := 7) (v := .ref qt_texts) (C := R_Model) (T := F_Model) (N := 29) hx hb hg in_Model hown hK hP 0 rfl rfl 12 (by decide) (hg _ m_40) (fun _ h9 => h9) rfl d_Model_text_26 ?_
        refine lv_sipush (v := 400) hx hb d_Model_text_29 (by decide) ?_
        refine lv_iload_n hx hb d_Model_text_32 rfl (lv_at hl 1 rfl) ?_
        refine lv_iconst (v := 1) hx hb d_Model_text_33 (by decide) ?_
        refine lv_isub hx hb d_Model_text_34 ?_
        refine lv_imul hx hb d_Model_text_35 ?_
        refine lv_iload_n hx hb d_Model_text_36 rfl (lv_at hl 2 rfl) ?_
        refine lv_iadd hx hb d_Model_text_37 ?_
        refine lv_aload_n hx hb d_Model_text_38 rfl (lv_at hl 0 rfl) ?_
        refine va_get (D := gD G) (ci := 7) (v := .ref qt_draft) (C := R_Model) (T := F_Model) (N := 29) hx hb hg in_Model hown hK hP 0 rfl rfl 0 (by decide) (hg _ m_41) (fun _ h9 => h9) rfl d_Model_text_39 ?_
        refine lv_iload_n hx hb d_Model_text_42 rfl (lv_at hl 2 rfl) ?_
        obtain ⟨g_43, hf⟩ := gd_ hf
        refine va_iald hx hb hK hP 1 1 rfl rfl (inB_in g_43) d_Model_text_43 ?_
        obtain ⟨g_44, hf⟩ := gd_ hf
        refine va_iast hx hb hK hP hD hS 10 1 rfl rfl (inB_in g_44) d_Model_text_44 (fun H locs hP hD hS => ?_)
        have hP : va_P (gD G) vwCl (w_Model_clear G qt qt_draft t_draft t_drafted qt_result t_result t_length t_arguments qt_kinds t_kinds qt_values t_values qt_widths t_widths qt_below t_below qt_sizes t_sizes qt_scales t_scales qt_parts t_parts qt_texts (upd z17.2 (((400 : Int32) * (x1 - (1 : Int32))) + z17.1).toNatClampNeg (t_draft z17.1.toNatClampNeg)) qt_lengths t_lengths t_end t_index t_flags t_twice t_width t_precision t_conversion t_broken qt_piece t_piece t_put t_head qt_tens t_tens t_count t_exponent qt_work t_work) H := hP
        have hD : va_D A (w_Model_clear G qt qt_draft t_draft t_drafted qt_result t_result t_length t_arguments qt_kinds t_kinds qt_values t_values qt_widths t_widths qt_below t_below qt_sizes t_sizes qt_scales t_scales qt_parts t_parts qt_texts (upd z17.2 (((400 : Int32) * (x1 - (1 : Int32))) + z17.1).toNatClampNeg (t_draft z17.1.toNatClampNeg)) qt_lengths t_lengths t_end t_index t_flags t_twice t_width t_precision t_conversion t_broken qt_piece t_piece t_put t_head qt_tens t_tens t_count t_exponent qt_work t_work) := hD
        refine lv_iinc (v := (z17.1 + 1)) (lv' := [(2, .int (z17.1 + 1)), (0, .ref qt), (1, .int x1)]) hx hb d_Model_text_45 hl (k := 2) rfl rfl (by decide) rfl (fun ls hl => ?_)
        refine lv_goto (tgt := 17) hx hb d_Model_text_48 (by decide) ?_
        exact ih_17 ((z17.1 + 1), (upd z17.2 (((400 : Int32) * (x1 - (1 : Int32))) + z17.1).toNatClampNeg (t_draft z17.1.toNatClampNeg)))  hf _ _ _ hP hD hS (lv_sub hl [1, 2, 0] rfl)
  unfold f_Model_text at hf
  refine lv_aload_n hx hb d_Model_text_0 rfl (lv_at hl 0 rfl) ?_
  refine lv_bipush (v := 7) hx hb d_Model_text_1 (by decide) ?_
  refine lv_lconst (v := 0) hx hb d_Model_text_3 (by decide) ?_
  refine lv_iconst (v := 0) hx hb d_Model_text_4 (by decide) ?_
  obtain ⟨u_5, hu_5, hf⟩ := bd_ hf
  refine CALLWi (va_runV (As := [.int (7 : Int32), .long (0 : Int64), .int (0 : Int32)]) (rest := []) ⟨hx, hb, hml, hown, hg⟩ (c_Model_argument l G K qt qt_draft t_draft t_drafted qt_result t_result t_length t_arguments qt_kinds t_kinds qt_values t_values qt_widths t_widths qt_below t_below qt_sizes t_sizes qt_scales t_scales qt_parts t_parts qt_texts t_texts qt_lengths t_lengths t_end t_index t_flags t_twice t_width t_precision t_conversion t_broken qt_piece t_piece t_put t_head qt_tens t_tens t_count t_exponent qt_work t_work (7 : Int32) (0 : Int64) (0 : Int32) _ u_5 bl_0 hu_5) (cwV 3 hg (gV m_25 m_26 m_27 m_28 m_29) rfl rfl rfl (by decide +kernel) ⟨Nat.le_of_ble_eq_true rfl, Nat.le_of_ble_eq_true rfl⟩) ⟨PC_b, va_recv hK hP (ci := 7) (q0 := 0) rfl rfl, PC_p hE hS hAb hP hD⟩ rfl rfl hl.1 rfl (lv_room (Nat.le_of_ble_eq_true rfl)) d_Model_text_5 ⟨Nat.zero_le _, Nat.zero_le _⟩) hP hD hS hA (fun H locs hP hD hS => ?_)
  have hP : va_P (gD G) vwCl (w_Model_clear G qt qt_draft t_draft t_drafted qt_result t_result t_length u_5.2.1 qt_kinds u_5.2.2.1 qt_values u_5.2.2.2.1 qt_widths t_widths qt_below u_5.2.2.2.2.1 qt_sizes u_5.2.2.2.2.2 qt_scales t_scales qt_parts t_parts qt_texts t_texts qt_lengths t_lengths t_end t_index t_flags t_twice t_width t_precision t_conversion t_broken qt_piece t_piece t_put t_head qt_tens t_tens t_count t_exponent qt_work t_work) H := hP
  have hD : va_D A (w_Model_clear G qt qt_draft t_draft t_drafted qt_result t_result t_length u_5.2.1 qt_kinds u_5.2.2.1 qt_values u_5.2.2.2.1 qt_widths t_widths qt_below u_5.2.2.2.2.1 qt_sizes u_5.2.2.2.2.2 qt_scales t_scales qt_parts t_parts qt_texts t_texts qt_lengths t_lengths t_end t_index t_flags t_twice t_width t_precision t_conversion t_broken qt_piece t_piece t_put t_head qt_tens t_tens t_count t_exponent qt_work t_work) := hD
  refine lv_istore_n (lv' := [(1, .int u_5.1), (0, .ref qt)]) hx hb d_Model_text_8 rfl hl (by decide) rfl (fun ls hl => ?_)
  refine lv_iload_n hx hb d_Model_text_9 rfl (lv_at hl 0 rfl) ?_
  refine lv_if_ge (tgt := 15) hx hb d_Model_text_10 (by decide) (fun c_10 => ?_) (fun c_10 => ?_)
  · have hf := ip_ c_10 hf
    refine lv_iconst (v := 0) hx hb d_Model_text_15 (by decide) ?_
    refine lv_istore_n (lv' := [(2, .int (0 : Int32)), (1, .int u_5.1), (0, .ref qt)]) hx hb d_Model_text_16 rfl hl (by decide) rfl (fun ls hl => ?_)
    exact W_17 u_5.1 t_drafted u_5.2.1 u_5.2.2.1 u_5.2.2.2.1 u_5.2.2.2.2.1 u_5.2.2.2.2.2 t_lengths  K ((0 : Int32), t_texts)  hf _ _ _ hP hD hS (lv_sub hl [2, 1, 0] rfl)
  · have hf := in_ c_10 hf
    refine lv_iconst (v := -1) hx hb d_Model_text_13 (by decide) ?_
    obtain rfl := Option.some.inj hf
    rw [← hQ]
    exact W.iret (v := (-1 : Int32)) hx hb hr (fun t ht hW => ⟨⟨(-1 : Int32), (), rfl, rfl, ⟨by rw [ht]; exact hP, hD⟩⟩, hS.F ht⟩) hS.2.2 d_Model_text_14
theorem d_Model_length_0 : decode b_Model_length 0 = .ok (.aload_n 0, 1) := by decide +kernel
theorem d_Model_length_1 : decode b_Model_length 1 = .ok (.getfield 273, 3) := by decide +kernel
theorem d_Model_length_4 : decode b_Model_length 4 = .ok (.ireturn, 1) := by decide +kernel
theorem m_42 : Cond.fieldLink R_Model 273 "SpecifierDeskModel" "length" "I" ∈ gw := gm (i := 863) (by decide +kernel) (by decide +kernel)
def f_Model_length (t_length : Int32) : Option Int32 :=
  some t_length
set_option maxHeartbeats 4000000 in
set_option maxRecDepth 100000 in
theorem c_Model_length (l : Launch) (G : Gt) (K : Nat) (qt : Nat) (qt_draft : Nat) (t_draft : Nat → Int32) (t_drafted : Int32) (qt_result : Nat) (t_result : Nat → Int32) (t_length : Int32) (t_arguments : Int32) (qt_kinds : Nat) (t_kinds : Nat → Int32) (qt_values : Nat) (t_values : Nat → Int64) (qt_widths : Nat) (t_widths : Nat → Int32) (qt_below : Nat) (t_below : Nat → Int32) (qt_sizes : Nat) (t_sizes : Nat → Int32) (qt_scales : Nat) (t_scales : Nat → Int32) (qt_parts : Nat) (t_parts : Nat → Int64) (qt_texts : Nat) (t_texts : Nat → Int32) (qt_lengths : Nat) (t_lengths : Nat → Int32) (t_end : Int32) (t_index : Int32) (t_flags : Int32) (t_twice : Int32) (t_width : Int32) (t_precision : Int32) (t_conversion : Int32) (t_broken : Int32) (qt_piece : Nat) (t_piece : Nat → Int32) (t_put : Int32) (t_head : Int32) (qt_tens : Nat) (t_tens : Nat → Int32) (t_count : Int32) (t_exponent : Int32) (qt_work : Nat) (t_work : Nat → Int32) (sz : Nat) (res : Int32)   (hf : f_Model_length t_length = some res) : Met l y_Model_length (.code y_Model_length b_Model_length 1 (some .int) :: gw) { frames := 0, cells := 0, slots := 0, locals := 0 } (PC G ([.ref qt] : List Value) sz (w_Model_clear G qt qt_draft t_draft t_drafted qt_result t_result t_length t_arguments qt_kinds t_kinds qt_values t_values qt_widths t_widths qt_below t_below qt_sizes t_sizes qt_scales t_scales qt_parts t_parts qt_texts t_texts qt_lengths t_lengths t_end t_index t_flags t_twice t_width t_precision t_conversion t_broken qt_piece t_piece t_put t_head qt_tens t_tens t_count t_exponent qt_work t_work)) (QI G res (va_A (w_Model_clear G qt qt_draft t_draft t_drafted qt_result t_result t_length t_arguments qt_kinds t_kinds qt_values t_values qt_widths t_widths qt_below t_below qt_sizes t_sizes qt_scales t_scales qt_parts t_parts qt_texts t_texts qt_lengths t_lengths t_end t_index t_flags t_twice t_width t_precision t_conversion t_broken qt_piece t_piece t_put t_head qt_tens t_tens t_count t_exponent qt_work t_work) sz) (w_Model_clear G qt qt_draft t_draft t_drafted qt_result t_result t_length t_arguments qt_kinds t_kinds qt_values t_values qt_widths t_widths qt_below t_below qt_sizes t_sizes qt_scales t_scales qt_parts t_parts qt_texts t_texts qt_lengths t_lengths t_end t_index t_flags t_twice t_width t_precision t_conversion t_broken qt_piece t_piece t_put t_head qt_tens t_tens t_count t_exponent qt_work t_work)) 0 0 (va_A (w_Model_clear G qt qt_draft t_draft t_drafted qt_result t_result t_length t_arguments qt_kinds t_kinds qt_values t_values qt_widths t_widths qt_below t_below qt_sizes t_sizes qt_scales t_scales qt_parts t_parts qt_texts t_texts qt_lengths t_lengths t_end t_index t_flags t_twice t_width t_precision t_conversion t_broken qt_piece t_piece t_put t_head qt_tens t_tens t_count t_exponent qt_work t_work) sz) := by
  refine Met.ofW (cc := b_Model_length) (maxL := 1) (ret := (some .int)) (by decide) rfl ?_
  intro p e s m args below meth c s₁ B hml hv
  obtain ⟨rfl, hsz, hP, hE, hD0⟩ := hv
  have hx := B.exec
  have hb := B.bytes
  have hr := B.returns
  have hts := atoms_spec (ws := (.code y_Model_length b_Model_length 1 (some .int) :: gw)) B.pre
  have hg : ∀ w ∈ gw, w.before _ s = true := fun w h => hts w (List.mem_cons_of_mem _ h)
  have hown : s.vm.findClass R_Model = some m.cls := findClass_of_methodNamed B.named
  have hlocks := B.notSynchronized
  subst hsz
  have hK := hE.K
  have hD := hD0.self (sz := s.heap.size)
  have hAb := hE.ab hD0
  obtain ⟨Q, hQ⟩ : ∃ Q, MQ below (QI G res (va_A (w_Model_clear G qt qt_draft t_draft t_drafted qt_result t_result t_length t_arguments qt_kinds t_kinds qt_values t_values qt_widths t_widths qt_below t_below qt_sizes t_sizes qt_scales t_scales qt_parts t_parts qt_texts t_texts qt_lengths t_lengths t_end t_index t_flags t_twice t_width t_precision t_conversion t_broken qt_piece t_piece t_put t_head qt_tens t_tens t_count t_exponent qt_work t_work) s.heap.size) (w_Model_clear G qt qt_draft t_draft t_drafted qt_result t_result t_length t_arguments qt_kinds t_kinds qt_values t_values qt_widths t_widths qt_below t_below qt_sizes t_sizes qt_scales t_scales qt_parts t_parts qt_texts t_texts qt_lengths t_lengths t_end t_index t_flags t_twice t_width t_precision t_conversion t_broken qt_piece t_piece t_put t_head qt_tens t_tens t_count t_exponent qt_work t_work)) ([.ref qt] : List Value).toArray s 0 0 (va_A (w_Model_clear G qt qt_draft t_draft t_drafted qt_result t_result t_length t_arguments qt_kinds t_kinds qt_values t_values qt_widths t_widths qt_below t_below qt_sizes t_sizes qt_scales t_scales qt_parts t_parts qt_texts t_texts qt_lengths t_lengths t_end t_index t_flags t_twice t_width t_precision t_conversion t_broken qt_piece t_piece t_put t_head qt_tens t_tens t_count t_exponent qt_work t_work) s.heap.size) = Q := ⟨_, rfl⟩
  show W p l e { frames := 0, cells := 0, slots := 0, locals := 0 } s m ([.ref qt] : List Value).toArray below meth c s.heap [] 0 0 (MQ below (QI G res (va_A (w_Model_clear G qt qt_draft t_draft t_drafted qt_result t_result t_length t_arguments qt_kinds t_kinds qt_values t_values qt_widths t_widths qt_below t_below qt_sizes t_sizes qt_scales t_scales qt_parts t_parts qt_texts t_texts qt_lengths t_lengths t_end t_index t_flags t_twice t_width t_precision t_conversion t_broken qt_piece t_piece t_put t_head qt_tens t_tens t_count t_exponent qt_work t_work) s.heap.size) (w_Model_clear G qt qt_draft t_draft t_drafted qt_result t_result t_length t_arguments qt_kinds t_kinds qt_values t_values qt_widths t_widths qt_below t_below qt_sizes t_sizes qt_scales t_scales qt_parts t_parts qt_texts t_texts qt_lengths t_lengths t_end t_index t_flags t_twice t_width t_precision t_conversion t_broken qt_piece t_piece t_put t_head qt_tens t_tens t_count t_exponent qt_work t_work)) ([.ref qt] : List Value).toArray s 0 0 (va_A (w_Model_clear G qt qt_draft t_draft t_drafted qt_result t_result t_length t_arguments qt_kinds t_kinds qt_values t_values qt_widths t_widths qt_below t_below qt_sizes t_sizes qt_scales t_scales qt_parts t_parts qt_texts t_texts qt_lengths t_lengths t_end t_index t_flags t_twice t_width t_precision t_conversion t_broken qt_piece t_piece t_put t_head qt_tens t_tens t_count t_exponent qt_work t_work) s.heap.size)) _
  rw [hQ]
  have hA : ∀ q : Nat, s.heap.size ≤ q → va_A (w_Model_clear G qt qt_draft t_draft t_drafted qt_result t_result t_length t_arguments qt_kinds t_kinds qt_values t_values qt_widths t_widths qt_below t_below qt_sizes t_sizes qt_scales t_scales qt_parts t_parts qt_texts t_texts qt_lengths t_lengths t_end t_index t_flags t_twice t_width t_precision t_conversion t_broken qt_piece t_piece t_put t_head qt_tens t_tens t_count t_exponent qt_work t_work) s.heap.size q := fun q h => Or.inr h
  obtain ⟨A, hAe⟩ : ∃ A, va_A (w_Model_clear G qt qt_draft t_draft t_drafted qt_result t_result t_length t_arguments qt_kinds t_kinds qt_values t_values qt_widths t_widths qt_below t_below qt_sizes t_sizes qt_scales t_scales qt_parts t_parts qt_texts t_texts qt_lengths t_lengths t_end t_index t_flags t_twice t_width t_precision t_conversion t_broken qt_piece t_piece t_put t_head qt_tens t_tens t_count t_exponent qt_work t_work) s.heap.size = A := ⟨_, rfl⟩
  rw [hAe] at hA hD hAb hQ
  have hS : va_S A s.heap s.heap [] := va_S.rf
  have hl := lv_entry (([.ref qt] : List Value)) (n := 1) (Nat.le_of_ble_eq_true rfl)
  rw [lg_entry_eq]
  generalize (lg_sl (([.ref qt] : List Value)) ++ List.replicate (1 - (lg_sl (([.ref qt] : List Value))).length) Slot.unset).toArray = ls at hl ⊢
  have hl : lv_has ls 1 [(0, .ref qt)] := hl
  unfold f_Model_length at hf
  refine lv_aload_n hx hb d_Model_length_0 rfl (lv_at hl 0 rfl) ?_
  refine va_get (D := gD G) (ci := 7) (v := .int t_length) (C := R_Model) (T := F_Model) (N := 29) hx hb hg in_Model hown hK hP 0 rfl rfl 3 (by decide) (hg _ m_42) (fun _ h9 => h9) rfl d_Model_length_1 ?_
  obtain rfl := Option.some.inj hf
  rw [← hQ]
  exact W.iret (v := t_length) hx hb hr (fun t ht hW => ⟨⟨t_length, (), rfl, rfl, ⟨by rw [ht]; exact hP, hD⟩⟩, hS.F ht⟩) hS.2.2 d_Model_length_4
theorem d_Model_characterAt_0 : decode b_Model_characterAt 0 = .ok (.iload_n 1, 1) := by decide +kernel
theorem d_Model_characterAt_1 : decode b_Model_characterAt 1 = .ok (.ifCond .lt 11, 3) := by decide +kernel
theorem d_Model_characterAt_4 : decode b_Model_characterAt 4 = .ok (.iload_n 1, 1) := by decide +kernel
theorem d_Model_characterAt_5 : decode b_Model_characterAt 5 = .ok (.aload_n 0, 1) := by decide +kernel
theorem d_Model_characterAt_6 : decode b_Model_characterAt 6 = .ok (.getfield 273, 3) := by decide +kernel
theorem d_Model_characterAt_9 : decode b_Model_characterAt 9 = .ok (.if_icmp .lt 7, 3) := by decide +kernel
theorem d_Model_characterAt_12 : decode b_Model_characterAt 12 = .ok (.iconst (-1), 1) := by decide +kernel
theorem d_Model_characterAt_13 : decode b_Model_characterAt 13 = .ok (.goto 9, 3) := by decide +kernel
theorem d_Model_characterAt_16 : decode b_Model_characterAt 16 = .ok (.aload_n 0, 1) := by decide +kernel
theorem d_Model_characterAt_17 : decode b_Model_characterAt 17 = .ok (.getfield 13, 3) := by decide +kernel
theorem d_Model_characterAt_20 : decode b_Model_characterAt 20 = .ok (.iload_n 1, 1) := by decide +kernel
theorem d_Model_characterAt_21 : decode b_Model_characterAt 21 = .ok (.iaload, 1) := by decide +kernel
theorem d_Model_characterAt_22 : decode b_Model_characterAt 22 = .ok (.ireturn, 1) := by decide +kernel
theorem m_43 : Cond.fieldLink R_Model 13 "SpecifierDeskModel" "result" "[I" ∈ gw := gm (i := 862) (by decide +kernel) (by decide +kernel)
def f_Model_characterAt (t_result : Nat → Int32) (t_length : Int32) (a1 : Int32) : Option Int32 :=
  (if a1 < 0 then some (-1 : Int32) else (if a1 < t_length then (if inB a1 4000 = true then some (t_result a1.toNatClampNeg) else none) else some (-1 : Int32)))
set_option maxHeartbeats 4000000 in
set_option maxRecDepth 100000 in
theorem c_Model_characterAt (l : Launch) (G : Gt) (K : Nat) (qt : Nat) (qt_draft : Nat) (t_draft : Nat → Int32) (t_drafted : Int32) (qt_result : Nat) (t_result : Nat → Int32) (t_length : Int32) (t_arguments : Int32) (qt_kinds : Nat) (t_kinds : Nat → Int32) (qt_values : Nat) (t_values : Nat → Int64) (qt_widths : Nat) (t_widths : Nat → Int32) (qt_below : Nat) (t_below : Nat → Int32) (qt_sizes : Nat) (t_sizes : Nat → Int32) (qt_scales : Nat) (t_scales : Nat → Int32) (qt_parts : Nat) (t_parts : Nat → Int64) (qt_texts : Nat) (t_texts : Nat → Int32) (qt_lengths : Nat) (t_lengths : Nat → Int32) (t_end : Int32) (t_index : Int32) (t_flags : Int32) (t_twice : Int32) (t_width : Int32) (t_precision : Int32) (t_conversion : Int32) (t_broken : Int32) (qt_piece : Nat) (t_piece : Nat → Int32) (t_put : Int32) (t_head : Int32) (qt_tens : Nat) (t_tens : Nat → Int32) (t_count : Int32) (t_exponent : Int32) (qt_work : Nat) (t_work : Nat → Int32) (a1 : Int32) (sz : Nat) (res : Int32)   (hf : f_Model_characterAt t_result t_length a1 = some res) : Met l y_Model_characterAt (.code y_Model_characterAt b_Model_characterAt 2 (some .int) :: gw) { frames := 0, cells := 0, slots := 0, locals := 0 } (PC G ([.ref qt, .int a1] : List Value) sz (w_Model_clear G qt qt_draft t_draft t_drafted qt_result t_result t_length t_arguments qt_kinds t_kinds qt_values t_values qt_widths t_widths qt_below t_below qt_sizes t_sizes qt_scales t_scales qt_parts t_parts qt_texts t_texts qt_lengths t_lengths t_end t_index t_flags t_twice t_width t_precision t_conversion t_broken qt_piece t_piece t_put t_head qt_tens t_tens t_count t_exponent qt_work t_work)) (QI G res (va_A (w_Model_clear G qt qt_draft t_draft t_drafted qt_result t_result t_length t_arguments qt_kinds t_kinds qt_values t_values qt_widths t_widths qt_below t_below qt_sizes t_sizes qt_scales t_scales qt_parts t_parts qt_texts t_texts qt_lengths t_lengths t_end t_index t_flags t_twice t_width t_precision t_conversion t_broken qt_piece t_piece t_put t_head qt_tens t_tens t_count t_exponent qt_work t_work) sz) (w_Model_clear G qt qt_draft t_draft t_drafted qt_result t_result t_length t_arguments qt_kinds t_kinds qt_values t_values qt_widths t_widths qt_below t_below qt_sizes t_sizes qt_scales t_scales qt_parts t_parts qt_texts t_texts qt_lengths t_lengths t_end t_index t_flags t_twice t_width t_precision t_conversion t_broken qt_piece t_piece t_put t_head qt_tens t_tens t_count t_exponent qt_work t_work)) 0 0 (va_A (w_Model_clear G qt qt_draft t_draft t_drafted qt_result t_result t_length t_arguments qt_kinds t_kinds qt_values t_values qt_widths t_widths qt_below t_below qt_sizes t_sizes qt_scales t_scales qt_parts t_parts qt_texts t_texts qt_lengths t_lengths t_end t_index t_flags t_twice t_width t_precision t_conversion t_broken qt_piece t_piece t_put t_head qt_tens t_tens t_count t_exponent qt_work t_work) sz) := by
  refine Met.ofW (cc := b_Model_characterAt) (maxL := 2) (ret := (some .int)) (by decide) rfl ?_
  intro p e s m args below meth c s₁ B hml hv
  obtain ⟨rfl, hsz, hP, hE, hD0⟩ := hv
  have hx := B.exec
  have hb := B.bytes
  have hr := B.returns
  have hts := atoms_spec (ws := (.code y_Model_characterAt b_Model_characterAt 2 (some .int) :: gw)) B.pre
  have hg : ∀ w ∈ gw, w.before _ s = true := fun w h => hts w (List.mem_cons_of_mem _ h)
  have hown : s.vm.findClass R_Model = some m.cls := findClass_of_methodNamed B.named
  have hlocks := B.notSynchronized
  subst hsz
  have hK := hE.K
  have hD := hD0.self (sz := s.heap.size)
  have hAb := hE.ab hD0
  obtain ⟨Q, hQ⟩ : ∃ Q, MQ below (QI G res (va_A (w_Model_clear G qt qt_draft t_draft t_drafted qt_result t_result t_length t_arguments qt_kinds t_kinds qt_values t_values qt_widths t_widths qt_below t_below qt_sizes t_sizes qt_scales t_scales qt_parts t_parts qt_texts t_texts qt_lengths t_lengths t_end t_index t_flags t_twice t_width t_precision t_conversion t_broken qt_piece t_piece t_put t_head qt_tens t_tens t_count t_exponent qt_work t_work) s.heap.size) (w_Model_clear G qt qt_draft t_draft t_drafted qt_result t_result t_length t_arguments qt_kinds t_kinds qt_values t_values qt_widths t_widths qt_below t_below qt_sizes t_sizes qt_scales t_scales qt_parts t_parts qt_texts t_texts qt_lengths t_lengths t_end t_index t_flags t_twice t_width t_precision t_conversion t_broken qt_piece t_piece t_put t_head qt_tens t_tens t_count t_exponent qt_work t_work)) ([.ref qt, .int a1] : List Value).toArray s 0 0 (va_A (w_Model_clear G qt qt_draft t_draft t_drafted qt_result t_result t_length t_arguments qt_kinds t_kinds qt_values t_values qt_widths t_widths qt_below t_below qt_sizes t_sizes qt_scales t_scales qt_parts t_parts qt_texts t_texts qt_lengths t_lengths t_end t_index t_flags t_twice t_width t_precision t_conversion t_broken qt_piece t_piece t_put t_head qt_tens t_tens t_count t_exponent qt_work t_work) s.heap.size) = Q := ⟨_, rfl⟩
  show W p l e { frames := 0, cells := 0, slots := 0, locals := 0 } s m ([.ref qt, .int a1] : List Value).toArray below meth c s.heap [] 0 0 (MQ below (QI G res (va_A (w_Model_clear G qt qt_draft t_draft t_drafted qt_result t_result t_length t_arguments qt_kinds t_kinds qt_values t_values qt_widths t_widths qt_below t_below qt_sizes t_sizes qt_scales t_scales qt_parts t_parts qt_texts t_texts qt_lengths t_lengths t_end t_index t_flags t_twice t_width t_precision t_conversion t_broken qt_piece t_piece t_put t_head qt_tens t_tens t_count t_exponent qt_work t_work) s.heap.size) (w_Model_clear G qt qt_draft t_draft t_drafted qt_result t_result t_length t_arguments qt_kinds t_kinds qt_values t_values qt_widths t_widths qt_below t_below qt_sizes t_sizes qt_scales t_scales qt_parts t_parts qt_texts t_texts qt_lengths t_lengths t_end t_index t_flags t_twice t_width t_precision t_conversion t_broken qt_piece t_piece t_put t_head qt_tens t_tens t_count t_exponent qt_work t_work)) ([.ref qt, .int a1] : List Value).toArray s 0 0 (va_A (w_Model_clear G qt qt_draft t_draft t_drafted qt_result t_result t_length t_arguments qt_kinds t_kinds qt_values t_values qt_widths t_widths qt_below t_below qt_sizes t_sizes qt_scales t_scales qt_parts t_parts qt_texts t_texts qt_lengths t_lengths t_end t_index t_flags t_twice t_width t_precision t_conversion t_broken qt_piece t_piece t_put t_head qt_tens t_tens t_count t_exponent qt_work t_work) s.heap.size)) _
  rw [hQ]
  have hA : ∀ q : Nat, s.heap.size ≤ q → va_A (w_Model_clear G qt qt_draft t_draft t_drafted qt_result t_result t_length t_arguments qt_kinds t_kinds qt_values t_values qt_widths t_widths qt_below t_below qt_sizes t_sizes qt_scales t_scales qt_parts t_parts qt_texts t_texts qt_lengths t_lengths t_end t_index t_flags t_twice t_width t_precision t_conversion t_broken qt_piece t_piece t_put t_head qt_tens t_tens t_count t_exponent qt_work t_work) s.heap.size q := fun q h => Or.inr h
  obtain ⟨A, hAe⟩ : ∃ A, va_A (w_Model_clear G qt qt_draft t_draft t_drafted qt_result t_result t_length t_arguments qt_kinds t_kinds qt_values t_values qt_widths t_widths qt_below t_below qt_sizes t_sizes qt_scales t_scales qt_parts t_parts qt_texts t_texts qt_lengths t_lengths t_end t_index t_flags t_twice t_width t_precision t_conversion t_broken qt_piece t_piece t_put t_head qt_tens t_tens t_count t_exponent qt_work t_work) s.heap.size = A := ⟨_, rfl⟩
  rw [hAe] at hA hD hAb hQ
  have hS : va_S A s.heap s.heap [] := va_S.rf
  have hl := lv_entry (([.ref qt, .int a1] : List Value)) (n := 2) (Nat.le_of_ble_eq_true rfl)
  rw [lg_entry_eq]
  generalize (lg_sl (([.ref qt, .int a1] : List Value)) ++ List.replicate (2 - (lg_sl (([.ref qt, .int a1] : List Value))).length) Slot.unset).toArray = ls at hl ⊢
  have hl : lv_has ls 2 [(0, .ref qt), (1, .int a1)] := hl
  unfold f_Model_characterAt at hf
  refine lv_iload_n hx hb d_Model_characterAt_0 rfl (lv_at hl 1 rfl) ?_
  refine lv_if_lt (tgt := 12) hx hb d_Model_characterAt_1 (by decide) (fun c_1 => ?_) (fun c_1 => ?_)
  · have hf := ip_ c_1 hf
    refine lv_iconst (v := -1) hx hb d_Model_characterAt_12 (by decide) ?_
    refine lv_goto (tgt := 22) hx hb d_Model_characterAt_13 (by decide) ?_
    obtain rfl := Option.some.inj hf
    rw [← hQ]
    exact W.iret (v := (-1 : Int32)) hx hb hr (fun t ht hW => ⟨⟨(-1 : Int32), (), rfl, rfl, ⟨by rw [ht]; exact hP, hD⟩⟩, hS.F ht⟩) hS.2.2 d_Model_characterAt_22
  · have hf := in_ c_1 hf
    refine lv_iload_n hx hb d_Model_characterAt_4 rfl (lv_at hl 1 rfl) ?_
    refine lv_aload_n hx hb d_Model_characterAt_5 rfl (lv_at hl 0 rfl) ?_
    refine va_get (D := gD G) (ci := 7) (v := .int t_length) (C := R_Model) (T := F_Model) (N := 29) hx hb hg in_Model hown hK hP 0 rfl rfl 3 (by decide) (hg _ m_42) (fun _ h9 => h9) rfl d_Model_characterAt_6 ?_
    refine lv_icmp_lt (tgt := 16) hx hb d_Model_characterAt_9 (by decide) (fun c_9 => ?_) (fun c_9 => ?_)
    · have hf := ip_ c_9 hf
      refine lv_aload_n hx hb d_Model_characterAt_16 rfl (lv_at hl 0 rfl) ?_
      refine va_get (D := gD G) (ci := 7) (v := .ref qt_result) (C := R_Model) (T := F_Model) (N := 29) hx hb hg in_Model hown hK hP 0 rfl rfl 2 (by decide) (hg _ m_43) (fun _ h9 => h9) rfl d_Model_characterAt_17 ?_
      refine lv_iload_n hx hb d_Model_characterAt_20 rfl (lv_at hl 1 rfl) ?_
      obtain ⟨g_21, hf⟩ := gd_ hf
      refine va_iald hx hb hK hP 2 1 rfl rfl (inB_in g_21) d_Model_characterAt_21 ?_
      obtain rfl := Option.some.inj hf
      rw [← hQ]
      exact W.iret (v := (t_result a1.toNatClampNeg)) hx hb hr (fun t ht hW => ⟨⟨(t_result a1.toNatClampNeg), (), rfl, rfl, ⟨by rw [ht]; exact hP, hD⟩⟩, hS.F ht⟩) hS.2.2 d_Model_characterAt_22
    · have hf := in_ c_9 hf
      refine lv_iconst (v := -1) hx hb d_Model_characterAt_12 (by decide) ?_
      refine lv_goto (tgt := 22) hx hb d_Model_characterAt_13 (by decide) ?_
      obtain rfl := Option.some.inj hf
      rw [← hQ]
      exact W.iret (v := (-1 : Int32)) hx hb hr (fun t ht hW => ⟨⟨(-1 : Int32), (), rfl, rfl, ⟨by rw [ht]; exact hP, hD⟩⟩, hS.F ht⟩) hS.2.2 d_Model_characterAt_22
theorem d_Model_write_0 : decode b_Model_write 0 = .ok (.iconst 0, 1) := by decide +kernel
theorem d_Model_write_1 : decode b_Model_write 1 = .ok (.istore_n 3, 1) := by decide +kernel
theorem d_Model_write_2 : decode b_Model_write 2 = .ok (.iconst 1, 1) := by decide +kernel
theorem d_Model_write_3 : decode b_Model_write 3 = .ok (.istore 4, 2) := by decide +kernel
theorem d_Model_write_5 : decode b_Model_write 5 = .ok (.iconst 0, 1) := by decide +kernel
theorem d_Model_write_6 : decode b_Model_write 6 = .ok (.istore 5, 2) := by decide +kernel
theorem d_Model_write_8 : decode b_Model_write 8 = .ok (.iload 5, 2) := by decide +kernel
theorem d_Model_write_10 : decode b_Model_write 10 = .ok (.bipush 8, 2) := by decide +kernel
theorem d_Model_write_12 : decode b_Model_write 12 = .ok (.if_icmp .ge 55, 3) := by decide +kernel
theorem d_Model_write_15 : decode b_Model_write 15 = .ok (.lload_n 1, 1) := by decide +kernel
theorem d_Model_write_16 : decode b_Model_write 16 = .ok (.bipush 8, 2) := by decide +kernel
theorem d_Model_write_18 : decode b_Model_write 18 = .ok (.iload 5, 2) := by decide +kernel
theorem d_Model_write_20 : decode b_Model_write 20 = .ok (.imul, 1) := by decide +kernel
theorem d_Model_write_21 : decode b_Model_write 21 = .ok (.lshr, 1) := by decide +kernel
theorem d_Model_write_22 : decode b_Model_write 22 = .ok (.ldc2_w 54, 3) := by decide +kernel
theorem d_Model_write_25 : decode b_Model_write 25 = .ok (.land, 1) := by decide +kernel
theorem d_Model_write_26 : decode b_Model_write 26 = .ok (.l2i, 1) := by decide +kernel
theorem d_Model_write_27 : decode b_Model_write 27 = .ok (.istore 6, 2) := by decide +kernel
theorem d_Model_write_29 : decode b_Model_write 29 = .ok (.iload 4, 2) := by decide +kernel
theorem d_Model_write_31 : decode b_Model_write 31 = .ok (.ifCond .eq 14, 3) := by decide +kernel
theorem d_Model_write_34 : decode b_Model_write 34 = .ok (.iload 6, 2) := by decide +kernel
theorem d_Model_write_36 : decode b_Model_write 36 = .ok (.bipush 127, 2) := by decide +kernel
theorem d_Model_write_38 : decode b_Model_write 38 = .ok (.if_icmp .ge 7, 3) := by decide +kernel
theorem d_Model_write_41 : decode b_Model_write 41 = .ok (.iconst 1, 1) := by decide +kernel
theorem d_Model_write_42 : decode b_Model_write 42 = .ok (.goto 4, 3) := by decide +kernel
theorem d_Model_write_45 : decode b_Model_write 45 = .ok (.iconst 0, 1) := by decide +kernel
theorem d_Model_write_46 : decode b_Model_write 46 = .ok (.istore 4, 2) := by decide +kernel
theorem d_Model_write_48 : decode b_Model_write 48 = .ok (.iload_n 3, 1) := by decide +kernel
theorem d_Model_write_49 : decode b_Model_write 49 = .ok (.iload 6, 2) := by decide +kernel
theorem d_Model_write_51 : decode b_Model_write 51 = .ok (.ifCond .le 7, 3) := by decide +kernel
theorem d_Model_write_54 : decode b_Model_write 54 = .ok (.iconst 1, 1) := by decide +kernel
theorem d_Model_write_55 : decode b_Model_write 55 = .ok (.goto 4, 3) := by decide +kernel
theorem d_Model_write_58 : decode b_Model_write 58 = .ok (.iconst 0, 1) := by decide +kernel
theorem d_Model_write_59 : decode b_Model_write 59 = .ok (.iadd, 1) := by decide +kernel
theorem d_Model_write_60 : decode b_Model_write 60 = .ok (.istore_n 3, 1) := by decide +kernel
theorem d_Model_write_61 : decode b_Model_write 61 = .ok (.iinc 5 1, 3) := by decide +kernel
theorem d_Model_write_64 : decode b_Model_write 64 = .ok (.goto (-56), 3) := by decide +kernel
theorem d_Model_write_67 : decode b_Model_write 67 = .ok (.iload 4, 2) := by decide +kernel
theorem d_Model_write_69 : decode b_Model_write 69 = .ok (.ifCond .eq 15, 3) := by decide +kernel
theorem d_Model_write_72 : decode b_Model_write 72 = .ok (.aload_n 0, 1) := by decide +kernel
theorem d_Model_write_73 : decode b_Model_write 73 = .ok (.getfield 56, 3) := by decide +kernel
theorem d_Model_write_76 : decode b_Model_write 76 = .ok (.iload_n 3, 1) := by decide +kernel
theorem d_Model_write_77 : decode b_Model_write 77 = .ok (.iadd, 1) := by decide +kernel
theorem d_Model_write_78 : decode b_Model_write 78 = .ok (.sipush 400, 3) := by decide +kernel
theorem d_Model_write_81 : decode b_Model_write 81 = .ok (.if_icmp .le 5, 3) := by decide +kernel
theorem d_Model_write_84 : decode b_Model_write 84 = .ok (.iconst 0, 1) := by decide +kernel
theorem d_Model_write_85 : decode b_Model_write 85 = .ok (.ireturn, 1) := by decide +kernel
theorem d_Model_write_86 : decode b_Model_write 86 = .ok (.bipush 7, 2) := by decide +kernel
theorem d_Model_write_88 : decode b_Model_write 88 = .ok (.istore 5, 2) := by decide +kernel
theorem d_Model_write_90 : decode b_Model_write 90 = .ok (.iload 5, 2) := by decide +kernel
theorem d_Model_write_92 : decode b_Model_write 92 = .ok (.ifCond .lt 52, 3) := by decide +kernel
theorem d_Model_write_95 : decode b_Model_write 95 = .ok (.lload_n 1, 1) := by decide +kernel
theorem d_Model_write_96 : decode b_Model_write 96 = .ok (.bipush 8, 2) := by decide +kernel
theorem d_Model_write_98 : decode b_Model_write 98 = .ok (.iload 5, 2) := by decide +kernel
theorem d_Model_write_100 : decode b_Model_write 100 = .ok (.imul, 1) := by decide +kernel
theorem d_Model_write_101 : decode b_Model_write 101 = .ok (.lshr, 1) := by decide +kernel
theorem d_Model_write_102 : decode b_Model_write 102 = .ok (.ldc2_w 54, 3) := by decide +kernel
theorem d_Model_write_105 : decode b_Model_write 105 = .ok (.land, 1) := by decide +kernel
theorem d_Model_write_106 : decode b_Model_write 106 = .ok (.l2i, 1) := by decide +kernel
theorem d_Model_write_107 : decode b_Model_write 107 = .ok (.istore 6, 2) := by decide +kernel
theorem d_Model_write_109 : decode b_Model_write 109 = .ok (.iload 6, 2) := by decide +kernel
theorem d_Model_write_111 : decode b_Model_write 111 = .ok (.ifCond .ne 6, 3) := by decide +kernel
theorem d_Model_write_114 : decode b_Model_write 114 = .ok (.goto 24, 3) := by decide +kernel
theorem d_Model_write_117 : decode b_Model_write 117 = .ok (.aload_n 0, 1) := by decide +kernel
theorem d_Model_write_118 : decode b_Model_write 118 = .ok (.getfield 7, 3) := by decide +kernel
theorem d_Model_write_121 : decode b_Model_write 121 = .ok (.aload_n 0, 1) := by decide +kernel
theorem d_Model_write_122 : decode b_Model_write 122 = .ok (.getfield 56, 3) := by decide +kernel
theorem d_Model_write_125 : decode b_Model_write 125 = .ok (.iload 6, 2) := by decide +kernel
theorem d_Model_write_127 : decode b_Model_write 127 = .ok (.iastore, 1) := by decide +kernel
theorem d_Model_write_128 : decode b_Model_write 128 = .ok (.aload_n 0, 1) := by decide +kernel
theorem d_Model_write_129 : decode b_Model_write 129 = .ok (.dup, 1) := by decide +kernel
theorem d_Model_write_130 : decode b_Model_write 130 = .ok (.getfield 56, 3) := by decide +kernel
theorem d_Model_write_133 : decode b_Model_write 133 = .ok (.iconst 1, 1) := by decide +kernel
theorem d_Model_write_134 : decode b_Model_write 134 = .ok (.iadd, 1) := by decide +kernel
theorem d_Model_write_135 : decode b_Model_write 135 = .ok (.putfield 56, 3) := by decide +kernel
theorem d_Model_write_138 : decode b_Model_write 138 = .ok (.iinc 5 (-1), 3) := by decide +kernel
theorem d_Model_write_141 : decode b_Model_write 141 = .ok (.goto (-51), 3) := by decide +kernel
theorem d_Model_write_144 : decode b_Model_write 144 = .ok (.iconst 1, 1) := by decide +kernel
theorem d_Model_write_145 : decode b_Model_write 145 = .ok (.ireturn, 1) := by decide +kernel
theorem m_44 : Cond.constantLong R_Model 54 255 ∈ gw := gm (i := 953) (by decide +kernel) (by decide +kernel)
def k_Model_write_138 (rec_90 : (Int32 × Int32 × (Nat → Int32)) → Option (Int32 × Int32 × (Nat → Int32))) (x5 : Int32) (t_drafted : Int32) (t_draft : (Nat → Int32)) : Option (Int32 × Int32 × (Nat → Int32)) :=
  rec_90 ((x5 + (-1)), t_drafted, t_draft)
def b_Model_write_90 (a1 : Int64)  (rec_90 : (Int32 × Int32 × (Nat → Int32)) → Option (Int32 × Int32 × (Nat → Int32))) (z90 : Int32 × Int32 × (Nat → Int32)) : Option (Int32 × Int32 × (Nat → Int32)) :=
  (if z90.1 < 0 then some ((1 : Int32), z90.2.1, z90.2.2) else (if ((a1 >>> (((8 : Int32) * z90.1).toInt64 &&& 63)) &&& (255 : Int64)).toInt32 = 0 then k_Model_write_138 rec_90 z90.1 z90.2.1 z90.2.2 else (if inB z90.2.1 400 = true then k_Model_write_138 rec_90 z90.1 (z90.2.1 + (1 : Int32)) (upd z90.2.2 z90.2.1.toNatClampNeg (((a1 >>> (((8 : Int32) * z90.1).toInt64 &&& 63)) &&& (255 : Int64)).toInt32)) else none)))
def k_Model_write_59 (rec_8 : (Int32 × Int32 × Int32) → Option (Int32 × Int32 × (Nat → Int32))) (x4 : Int32) (x5 : Int32) (k0 : Int32) (k1 : Int32) : Option (Int32 × Int32 × (Nat → Int32)) :=
  rec_8 ((k0 + k1), x4, (x5 + 1))
def k_Model_write_46 (rec_8 : (Int32 × Int32 × Int32) → Option (Int32 × Int32 × (Nat → Int32))) (x3 : Int32) (x5 : Int32) (x6 : Int32) (k0 : Int32) : Option (Int32 × Int32 × (Nat → Int32)) :=
  (if x6 ≤ 0 then k_Model_write_59 rec_8 k0 x5 x3 (0 : Int32) else k_Model_write_59 rec_8 k0 x5 x3 (1 : Int32))
def k_Model_write_45 (rec_8 : (Int32 × Int32 × Int32) → Option (Int32 × Int32 × (Nat → Int32))) (x3 : Int32) (x5 : Int32) (x6 : Int32) : Option (Int32 × Int32 × (Nat → Int32)) :=
  k_Model_write_46 rec_8 x3 x5 x6 (0 : Int32)
def b_Model_write_8 (K : Nat) (a1 : Int64) (t_drafted : Int32) (t_draft : (Nat → Int32)) (rec_8 : (Int32 × Int32 × Int32) → Option (Int32 × Int32 × (Nat → Int32))) (z8 : Int32 × Int32 × Int32) : Option (Int32 × Int32 × (Nat → Int32)) :=
  (if (8 : Int32) ≤ z8.2.2 then (if z8.2.1 = 0 then some ((0 : Int32), t_drafted, t_draft) else (if (t_drafted + z8.1) ≤ (400 : Int32) then lp_ (b_Model_write_90 a1 ) K ((7 : Int32), t_drafted, t_draft) else some ((0 : Int32), t_drafted, t_draft))) else (if z8.2.1 = 0 then k_Model_write_45 rec_8 z8.1 z8.2.2 (((a1 >>> (((8 : Int32) * z8.2.2).toInt64 &&& 63)) &&& (255 : Int64)).toInt32) else (if (127 : Int32) ≤ ((a1 >>> (((8 : Int32) * z8.2.2).toInt64 &&& 63)) &&& (255 : Int64)).toInt32 then k_Model_write_45 rec_8 z8.1 z8.2.2 (((a1 >>> (((8 : Int32) * z8.2.2).toInt64 &&& 63)) &&& (255 : Int64)).toInt32) else k_Model_write_46 rec_8 z8.1 z8.2.2 (((a1 >>> (((8 : Int32) * z8.2.2).toInt64 &&& 63)) &&& (255 : Int64)).toInt32) (1 : Int32))))
def f_Model_write (K : Nat) (t_draft : Nat → Int32) (t_drafted : Int32) (a1 : Int64) : Option (Int32 × Int32 × (Nat → Int32)) :=
  lp_ (b_Model_write_8 K a1 t_drafted t_draft) K ((0 : Int32), (1 : Int32), (0 : Int32))
set_option maxHeartbeats 4000000 in
set_option maxRecDepth 100000 in
theorem c_Model_write (l : Launch) (G : Gt) (K : Nat) (qt : Nat) (qt_draft : Nat) (t_draft : Nat → Int32) (t_drafted : Int32) (qt_result : Nat) (t_result : Nat → Int32) (t_length : Int32) (t_arguments : Int32) (qt_kinds : Nat) (t_kinds : Nat → Int32) (qt_values : Nat) (t_values : Nat → Int64) (qt_widths : Nat) (t_widths : Nat → Int32) (qt_below : Nat) (t_below : Nat → Int32) (qt_sizes : Nat) (t_sizes : Nat → Int32) (qt_scales : Nat) (t_scales : Nat → Int32) (qt_parts : Nat) (t_parts : Nat → Int64) (qt_texts : Nat) (t_texts : Nat → Int32) (qt_lengths : Nat) (t_lengths : Nat → Int32) (t_end : Int32) (t_index : Int32) (t_flags : Int32) (t_twice : Int32) (t_width : Int32) (t_precision : Int32) (t_conversion : Int32) (t_broken : Int32) (qt_piece : Nat) (t_piece : Nat → Int32) (t_put : Int32) (t_head : Int32) (qt_tens : Nat) (t_tens : Nat → Int32) (t_count : Int32) (t_exponent : Int32) (qt_work : Nat) (t_work : Nat → Int32) (a1 : Int64) (sz : Nat) (res : Int32 × Int32 × (Nat → Int32))   (hf : f_Model_write K t_draft t_drafted a1 = some res) : Met l y_Model_write (.code y_Model_write b_Model_write 7 (some .boolean) :: gw) { frames := 0, cells := 0, slots := 0, locals := 0 } (PC G ([.ref qt, .long a1] : List Value) sz (w_Model_clear G qt qt_draft t_draft t_drafted qt_result t_result t_length t_arguments qt_kinds t_kinds qt_values t_values qt_widths t_widths qt_below t_below qt_sizes t_sizes qt_scales t_scales qt_parts t_parts qt_texts t_texts qt_lengths t_lengths t_end t_index t_flags t_twice t_width t_precision t_conversion t_broken qt_piece t_piece t_put t_head qt_tens t_tens t_count t_exponent qt_work t_work)) (QZ G res.1 (va_A (w_Model_clear G qt qt_draft t_draft t_drafted qt_result t_result t_length t_arguments qt_kinds t_kinds qt_values t_values qt_widths t_widths qt_below t_below qt_sizes t_sizes qt_scales t_scales qt_parts t_parts qt_texts t_texts qt_lengths t_lengths t_end t_index t_flags t_twice t_width t_precision t_conversion t_broken qt_piece t_piece t_put t_head qt_tens t_tens t_count t_exponent qt_work t_work) sz) (w_Model_clear G qt qt_draft res.2.2 res.2.1 qt_result t_result t_length t_arguments qt_kinds t_kinds qt_values t_values qt_widths t_widths qt_below t_below qt_sizes t_sizes qt_scales t_scales qt_parts t_parts qt_texts t_texts qt_lengths t_lengths t_end t_index t_flags t_twice t_width t_precision t_conversion t_broken qt_piece t_piece t_put t_head qt_tens t_tens t_count t_exponent qt_work t_work)) 0 0 (va_A (w_Model_clear G qt qt_draft t_draft t_drafted qt_result t_result t_length t_arguments qt_kinds t_kinds qt_values t_values qt_widths t_widths qt_below t_below qt_sizes t_sizes qt_scales t_scales qt_parts t_parts qt_texts t_texts qt_lengths t_lengths t_end t_index t_flags t_twice t_width t_precision t_conversion t_broken qt_piece t_piece t_put t_head qt_tens t_tens t_count t_exponent qt_work t_work) sz) := by
  refine Met.ofW (cc := b_Model_write) (maxL := 7) (ret := (some .boolean)) (by decide) rfl ?_
  intro p e s m args below meth c s₁ B hml hv
  obtain ⟨rfl, hsz, hP, hE, hD0⟩ := hv
  have hx := B.exec
  have hb := B.bytes
  have hr := B.returns
  have hts := atoms_spec (ws := (.code y_Model_write b_Model_write 7 (some .boolean) :: gw)) B.pre
  have hg : ∀ w ∈ gw, w.before _ s = true := fun w h => hts w (List.mem_cons_of_mem _ h)
  have hown : s.vm.findClass R_Model = some m.cls := findClass_of_methodNamed B.named
  have hlocks := B.notSynchronized
  subst hsz
  have hK := hE.K
  have hD := hD0.self (sz := s.heap.size)
  have hAb := hE.ab hD0
  obtain ⟨Q, hQ⟩ : ∃ Q, MQ below (QZ G res.1 (va_A (w_Model_clear G qt qt_draft t_draft t_drafted qt_result t_result t_length t_arguments qt_kinds t_kinds qt_values t_values qt_widths t_widths qt_below t_below qt_sizes t_sizes qt_scales t_scales qt_parts t_parts qt_texts t_texts qt_lengths t_lengths t_end t_index t_flags t_twice t_width t_precision t_conversion t_broken qt_piece t_piece t_put t_head qt_tens t_tens t_count t_exponent qt_work t_work) s.heap.size) (w_Model_clear G qt qt_draft res.2.2 res.2.1 qt_result t_result t_length t_arguments qt_kinds t_kinds qt_values t_values qt_widths t_widths qt_below t_below qt_sizes t_sizes qt_scales t_scales qt_parts t_parts qt_texts t_texts qt_lengths t_lengths t_end t_index t_flags t_twice t_width t_precision t_conversion t_broken qt_piece t_piece t_put t_head qt_tens t_tens t_count t_exponent qt_work t_work)) ([.ref qt, .long a1] : List Value).toArray s 0 0 (va_A (w_Model_clear G qt qt_draft t_draft t_drafted qt_result t_result t_length t_arguments qt_kinds t_kinds qt_values t_values qt_widths t_widths qt_below t_below qt_sizes t_sizes qt_scales t_scales qt_parts t_parts qt_texts t_texts qt_lengths t_lengths t_end t_index t_flags t_twice t_width t_precision t_conversion t_broken qt_piece t_piece t_put t_head qt_tens t_tens t_count t_exponent qt_work t_work) s.heap.size) = Q := ⟨_, rfl⟩
  show W p l e { frames := 0, cells := 0, slots := 0, locals := 0 } s m ([.ref qt, .long a1] : List Value).toArray below meth c s.heap [] 0 0 (MQ below (QZ G res.1 (va_A (w_Model_clear G qt qt_draft t_draft t_drafted qt_result t_result t_length t_arguments qt_kinds t_kinds qt_values t_values qt_widths t_widths qt_below t_below qt_sizes t_sizes qt_scales t_scales qt_parts t_parts qt_texts t_texts qt_lengths t_lengths t_end t_index t_flags t_twice t_width t_precision t_conversion t_broken qt_piece t_piece t_put t_head qt_tens t_tens t_count t_exponent qt_work t_work) s.heap.size) (w_Model_clear G qt qt_draft res.2.2 res.2.1 qt_result t_result t_length t_arguments qt_kinds t_kinds qt_values t_values qt_widths t_widths qt_below t_below qt_sizes t_sizes qt_scales t_scales qt_parts t_parts qt_texts t_texts qt_lengths t_lengths t_end t_index t_flags t_twice t_width t_precision t_conversion t_broken qt_piece t_piece t_put t_head qt_tens t_tens t_count t_exponent qt_work t_work)) ([.ref qt, .long a1] : List Value).toArray s 0 0 (va_A (w_Model_clear G qt qt_draft t_draft t_drafted qt_result t_result t_length t_arguments qt_kinds t_kinds qt_values t_values qt_widths t_widths qt_below t_below qt_sizes t_sizes qt_scales t_scales qt_parts t_parts qt_texts t_texts qt_lengths t_lengths t_end t_index t_flags t_twice t_width t_precision t_conversion t_broken qt_piece t_piece t_put t_head qt_tens t_tens t_count t_exponent qt_work t_work) s.heap.size)) _
  rw [hQ]
  have hA : ∀ q : Nat, s.heap.size ≤ q → va_A (w_Model_clear G qt qt_draft t_draft t_drafted qt_result t_result t_length t_arguments qt_kinds t_kinds qt_values t_values qt_widths t_widths qt_below t_below qt_sizes t_sizes qt_scales t_scales qt_parts t_parts qt_texts t_texts qt_lengths t_lengths t_end t_index t_flags t_twice t_width t_precision t_conversion t_broken qt_piece t_piece t_put t_head qt_tens t_tens t_count t_exponent qt_work t_work) s.heap.size q := fun q h => Or.inr h
  obtain ⟨A, hAe⟩ : ∃ A, va_A (w_Model_clear G qt qt_draft t_draft t_drafted qt_result t_result t_length t_arguments qt_kinds t_kinds qt_values t_values qt_widths t_widths qt_below t_below qt_sizes t_sizes qt_scales t_scales qt_parts t_parts qt_texts t_texts qt_lengths t_lengths t_end t_index t_flags t_twice t_width t_precision t_conversion t_broken qt_piece t_piece t_put t_head qt_tens t_tens t_count t_exponent qt_work t_work) s.heap.size = A := ⟨_, rfl⟩
  rw [hAe] at hA hD hAb hQ
  have hS : va_S A s.heap s.heap [] := va_S.rf
  have hl := lv_entry (([.ref qt, .long a1] : List Value)) (n := 7) (Nat.le_of_ble_eq_true rfl)
  rw [lg_entry_eq]
  generalize (lg_sl (([.ref qt, .long a1] : List Value)) ++ List.replicate (7 - (lg_sl (([.ref qt, .long a1] : List Value))).length) Slot.unset).toArray = ls at hl ⊢
  have hl : lv_has ls 7 [(0, .ref qt), (1, .long a1)] := hl
  have W_90 : ∀   (n_90 : Nat) (z90 : Int32 × Int32 × (Nat → Int32)) , lp_ (b_Model_write_90 a1 ) n_90 z90 = some res → ∀ (H : Heap) (locs : List Loc) (ls : Array Slot), va_P (gD G) vwCl (w_Model_clear G qt qt_draft z90.2.2 z90.2.1 qt_result t_result t_length t_arguments qt_kinds t_kinds qt_values t_values qt_widths t_widths qt_below t_below qt_sizes t_sizes qt_scales t_scales qt_parts t_parts qt_texts t_texts qt_lengths t_lengths t_end t_index t_flags t_twice t_width t_precision t_conversion t_broken qt_piece t_piece t_put t_head qt_tens t_tens t_count t_exponent qt_work t_work) H → va_D A (w_Model_clear G qt qt_draft z90.2.2 z90.2.1 qt_result t_result t_length t_arguments qt_kinds t_kinds qt_values t_values qt_widths t_widths qt_below t_below qt_sizes t_sizes qt_scales t_scales qt_parts t_parts qt_texts t_texts qt_lengths t_lengths t_end t_index t_flags t_twice t_width t_precision t_conversion t_broken qt_piece t_piece t_put t_head qt_tens t_tens t_count t_exponent qt_work t_work) → va_S A s.heap H locs → lv_has ls 7 [(0, .ref qt), (1, .long a1), (5, .int z90.1)] → W p l e { frames := 0, cells := 0, slots := 0, locals := 0 } s m ([.ref qt, .long a1] : List Value).toArray below meth c H locs 0 0 Q (F0 m 90 ls []) := by
    intro  n_90
    induction n_90 with
    | zero =>
      intro z90  hf
      cases hf
    | succ n_90 ih_90 =>
      intro z90  hf H locs ls hP hD hS hl
      have hf : b_Model_write_90 a1  (lp_ (b_Model_write_90 a1 ) n_90) z90 = some res := hf
      generalize lp_ (b_Model_write_90 a1 ) n_90 = rec_90 at hf ih_90
      have W_138 : ∀ (x5 : Int32) (t_drafted : Int32) (t_draft : (Nat → Int32)) , k_Model_write_138 rec_90 x5 t_drafted t_draft = some res → ∀ (H : Heap) (locs : List Loc) (ls : Array Slot), va_P (gD G) vwCl (w_Model_clear G qt qt_draft t_draft t_drafted qt_result t_result t_length t_arguments qt_kinds t_kinds qt_values t_values qt_widths t_widths qt_below t_below qt_sizes t_sizes qt_scales t_scales qt_parts t_parts qt_texts t_texts qt_lengths t_lengths t_end t_index t_flags t_twice t_width t_precision t_conversion t_broken qt_piece t_piece t_put t_head qt_tens t_tens t_count t_exponent qt_work t_work) H → va_D A (w_Model_clear G qt qt_draft t_draft t_drafted qt_result t_result t_length t_arguments qt_kinds t_kinds qt_values t_values qt_widths t_widths qt_below t_below qt_sizes t_sizes qt_scales t_scales qt_parts t_parts qt_texts t_texts qt_lengths t_lengths t_end t_index t_flags t_twice t_width t_precision t_conversion t_broken qt_piece t_piece t_put t_head qt_tens t_tens t_count t_exponent qt_work t_work) → va_S A s.heap H locs → lv_has ls 7 [(0, .ref qt), (1, .long a1), (5, .int x5)] → W p l e { frames := 0, cells := 0, slots := 0, locals := 0 } s m ([.ref qt, .long a1] : List Value).toArray below meth c H locs 0 0 Q (F0 m 138 ls []) := by
        intro x5 t_drafted t_draft  hf H locs ls hP hD hS hl
        unfold k_Model_write_138 at hf
        refine lv_iinc (v := (x5 + (-1))) (lv' := [(5, .int (x5 + (-1))), (0, .ref qt), (1, .long a1)]) hx hb d_Model_write_138 hl (k := 2) rfl rfl (by decide) rfl (fun ls hl => ?_)
        refine lv_goto (tgt := 90) hx hb d_Model_write_141 (by decide) ?_
        exact ih_90 ((x5 + (-1)), t_drafted, t_draft)  hf _ _ _ hP hD hS (lv_sub hl [1, 2, 0] rfl)
      unfold b_Model_write_90 at hf
      refine lv_iload hx hb d_Model_write_90 (lv_at hl 2 rfl) ?_
      refine lv_if_lt (tgt := 144) hx hb d_Model_write_92 (by decide) (fun c_92 => ?_) (fun c_92 => ?_)
      · have hf := ip_ c_92 hf
        refine lv_iconst (v := 1) hx hb d_Model_write_144 (by decide) ?_
        obtain rfl := Option.some.inj hf
        rw [← hQ]
        exact W.zret (v := (1 : Int32)) hx hb hr (bl_n bl_1) (fun t ht hW => ⟨⟨(1 : Int32), (), rfl, ⟨rfl, bl_1⟩, ⟨by rw [ht]; exact hP, hD⟩⟩, hS.F ht⟩) hS.2.2 d_Model_write_145
      · have hf := in_ c_92 hf
        refine lv_lload_n hx hb d_Model_write_95 rfl (lv_at hl 1 rfl) ?_
        refine lv_bipush (v := 8) hx hb d_Model_write_96 (by decide) ?_
        refine lv_iload hx hb d_Model_write_98 (lv_at hl 2 rfl) ?_
        refine lv_imul hx hb d_Model_write_100 ?_
        refine lv_lshr (v := (a1 >>> (((8 : Int32) * z90.1).toInt64 &&& 63))) hx hb d_Model_write_101 rfl ?_
        refine lv_ldc2 (v := 255) hx hb hown (hg _ m_44) d_Model_write_102 ?_
        refine lv_land hx hb d_Model_write_105 ?_
        refine lv_l2i (v := ((a1 >>> (((8 : Int32) * z90.1).toInt64 &&& 63)) &&& (255 : Int64)).toInt32) hx hb d_Model_write_106 rfl ?_
        refine lv_istore (lv' := [(6, .int (((a1 >>> (((8 : Int32) * z90.1).toInt64 &&& 63)) &&& (255 : Int64)).toInt32)), (0, .ref qt), (1, .long a1), (5, .int z90.1)]) hx hb d_Model_write_107 hl (by decide) rfl (fun ls hl => ?_)
        refine lv_iload hx hb d_Model_write_109 (lv_at hl 0 rfl) ?_
        refine lv_if_ne (tgt := 117) hx hb d_Model_write_111 (by decide) (fun c_111 => ?_) (fun c_111 => ?_)
        · have hf := in_ c_111 hf
          refine lv_aload_n hx hb d_Model_write_117 rfl (lv_at hl 1 rfl) ?_
          refine va_get (D := gD G) (ci := 7) (v := .ref qt_draft) (C := R_Model) (T := F_Model) (N := 29) hx hb hg in_Model hown hK hP 0 rfl rfl 0 (by decide) (hg _ m_41) (fun _ h9 => h9) rfl d_Model_write_118 ?_
          refine lv_aload_n hx hb d_Model_write_121 rfl (lv_at hl 1 rfl) ?_
          refine va_get (D := gD G) (ci := 7) (v := .int z90.2.1) (C := R_Model) (T := F_Model) (N := 29) hx hb hg in_Model hown hK hP 0 rfl rfl 1 (by decide) (hg _ m_19) (fun _ h9 => h9) rfl d_Model_write_122 ?_
          refine lv_iload hx hb d_Model_write_125 (lv_at hl 0 rfl) ?_
          obtain ⟨g_127, hf⟩ := gd_ hf
          refine va_iast hx hb hK hP hD hS 1 1 rfl rfl (inB_in g_127) d_Model_write_127 (fun H locs hP hD hS => ?_)
          have hP : va_P (gD G) vwCl (w_Model_clear G qt qt_draft (upd z90.2.2 z90.2.1.toNatClampNeg (((a1 >>> (((8 : Int32) * z90.1).toInt64 &&& 63)) &&& (255 : Int64)).toInt32)) z90.2.1 qt_result t_result t_length t_arguments qt_kinds t_kinds qt_values t_values qt_widths t_widths qt_below t_below qt_sizes t_sizes qt_scales t_scales qt_parts t_parts qt_texts t_texts qt_lengths t_lengths t_end t_index t_flags t_twice t_width t_precision t_conversion t_broken qt_piece t_piece t_put t_head qt_tens t_tens t_count t_exponent qt_work t_work) H := hP
          have hD : va_D A (w_Model_clear G qt qt_draft (upd z90.2.2 z90.2.1.toNatClampNeg (((a1 >>> (((8 : Int32) * z90.1).toInt64 &&& 63)) &&& (255 : Int64)).toInt32)) z90.2.1 qt_result t_result t_length t_arguments qt_kinds t_kinds qt_values t_values qt_widths t_widths qt_below t_below qt_sizes t_sizes qt_scales t_scales qt_parts t_parts qt_texts t_texts qt_lengths t_lengths t_end t_index t_flags t_twice t_width t_precision t_conversion t_broken qt_piece t_piece t_put t_head qt_tens t_tens t_count t_exponent qt_work t_work) := hD
          refine lv_aload_n hx hb d_Model_write_128 rfl (lv_at hl 1 rfl) ?_
          refine lv_dup hx hb d_Model_write_129 rfl ?_
          refine va_get (D := gD G) (ci := 7) (v := .int z90.2.1) (C := R_Model) (T := F_Model) (N := 29) hx hb hg in_Model hown hK hP 0 rfl rfl 1 (by decide) (hg _ m_19) (fun _ h9 => h9) rfl d_Model_write_130 ?_
          refine lv_iconst (v := 1) hx hb d_Model_write_133 (by decide) ?_
          refine lv_iadd hx hb d_Model_write_134 ?_
          refine va_put (D := gD G) (ci := 7) (v := .int (z90.2.1 + (1 : Int32))) (ty := .int) (C := R_Model) (T := F_Model) (N := 29) hx hb hg in_Model t_Model to_Model no_Model hown hK hP hD hS 0 rfl rfl 1 (by decide) (hg _ m_19) (fun _ h9 => h9) rfl (by decide +kernel) rfl rfl (Nat.le_of_ble_eq_true rfl) d_Model_write_135 (fun H locs hP hD hS => ?_)
          have hP : va_P (gD G) vwCl (w_Model_clear G qt qt_draft (upd z90.2.2 z90.2.1.toNatClampNeg (((a1 >>> (((8 : Int32) * z90.1).toInt64 &&& 63)) &&& (255 : Int64)).toInt32)) (z90.2.1 + (1 : Int32)) qt_result t_result t_length t_arguments qt_kinds t_kinds qt_values t_values qt_widths t_widths qt_below t_below qt_sizes t_sizes qt_scales t_scales qt_parts t_parts qt_texts t_texts qt_lengths t_lengths t_end t_index t_flags t_twice t_width t_precision t_conversion t_broken qt_piece t_piece t_put t_head qt_tens t_tens t_count t_exponent qt_work t_work) H := hP
          have hD : va_D A (w_Model_clear G qt qt_draft (upd z90.2.2 z90.2.1.toNatClampNeg (((a1 >>> (((8 : Int32) * z90.1).toInt64 &&& 63)) &&& (255 : Int64)).toInt32)) (z90.2.1 + (1 : Int32)) qt_result t_result t_length t_arguments qt_kinds t_kinds qt_values t_values qt_widths t_widths qt_below t_below qt_sizes t_sizes qt_scales t_scales qt_parts t_parts qt_texts t_texts qt_lengths t_lengths t_end t_index t_flags t_twice t_width t_precision t_conversion t_broken qt_piece t_piece t_put t_head qt_tens t_tens t_count t_exponent qt_work t_work) := hD
          exact W_138 z90.1 (z90.2.1 + (1 : Int32)) (upd z90.2.2 z90.2.1.toNatClampNeg (((a1 >>> (((8 : Int32) * z90.1).toInt64 &&& 63)) &&& (255 : Int64)).toInt32))  hf _ _ _ hP hD hS (lv_sub hl [1, 2, 3] rfl)
        · have hf := ip_ c_111 hf
          refine lv_goto (tgt := 138) hx hb d_Model_write_114 (by decide) ?_
          exact W_138 z90.1 z90.2.1 z90.2.2  hf _ _ _ hP hD hS (lv_sub hl [1, 2, 3] rfl)
  have W_8 : ∀ (t_drafted : Int32) (t_draft : (Nat → Int32))  (n_8 : Nat) (z8 : Int32 × Int32 × Int32) (b_x4 : bl z8.2.1), lp_ (b_Model_write_8 K a1 t_drafted t_draft) n_8 z8 = some res → ∀ (H : Heap) (locs : List Loc) (ls : Array Slot), va_P (gD G) vwCl (w_Model_clear G qt qt_draft t_draft t_drafted qt_result t_result t_length t_arguments qt_kinds t_kinds qt_values t_values qt_widths t_widths qt_below t_below qt_sizes t_sizes qt_scales t_scales qt_parts t_parts qt_texts t_texts qt_lengths t_lengths t_end t_index t_flags t_twice t_width t_precision t_conversion t_broken qt_piece t_piece t_put t_head qt_tens t_tens t_count t_exponent qt_work t_work) H → va_D A (w_Model_clear G qt qt_draft t_draft t_drafted qt_result t_result t_length t_arguments qt_kinds t_kinds qt_values t_values qt_widths t_widths qt_below t_below qt_sizes t_sizes qt_scales t_scales qt_parts t_parts qt_texts t_texts qt_lengths t_lengths t_end t_index t_flags t_twice t_width t_precision t_conversion t_broken qt_piece t_piece t_put t_head qt_tens t_tens t_count t_exponent qt_work t_work) → va_S A s.heap H locs → lv_has ls 7 [(0, .ref qt), (1, .long a1), (3, .int z8.1), (4, .int z8.2.1), (5, .int z8.2.2)] → W p l e { frames := 0, cells := 0, slots := 0, locals := 0 } s m ([.ref qt, .long a1] : List Value).toArray below meth c H locs 0 0 Q (F0 m 8 ls []) := by
    intro t_drafted t_draft n_8
    induction n_8 with
    | zero =>
      intro z8 b_x4 hf
      cases hf
    | succ n_8 ih_8 =>
      intro z8 b_x4 hf H locs ls hP hD hS hl
      have hf : b_Model_write_8 K a1 t_drafted t_draft (lp_ (b_Model_write_8 K a1 t_drafted t_draft) n_8) z8 = some res := hf
      generalize lp_ (b_Model_write_8 K a1 t_drafted t_draft) n_8 = rec_8 at hf ih_8
      have W_59 : ∀ (x4 : Int32) (x5 : Int32) (k0 : Int32) (k1 : Int32) (b_x4 : bl x4) (b_k1 : bl k1), k_Model_write_59 rec_8 x4 x5 k0 k1 = some res → ∀ (H : Heap) (locs : List Loc) (ls : Array Slot), va_P (gD G) vwCl (w_Model_clear G qt qt_draft t_draft t_drafted qt_result t_result t_length t_arguments qt_kinds t_kinds qt_values t_values qt_widths t_widths qt_below t_below qt_sizes t_sizes qt_scales t_scales qt_parts t_parts qt_texts t_texts qt_lengths t_lengths t_end t_index t_flags t_twice t_width t_precision t_conversion t_broken qt_piece t_piece t_put t_head qt_tens t_tens t_count t_exponent qt_work t_work) H → va_D A (w_Model_clear G qt qt_draft t_draft t_drafted qt_result t_result t_length t_arguments qt_kinds t_kinds qt_values t_values qt_widths t_widths qt_below t_below qt_sizes t_sizes qt_scales t_scales qt_parts t_parts qt_texts t_texts qt_lengths t_lengths t_end t_index t_flags t_twice t_width t_precision t_conversion t_broken qt_piece t_piece t_put t_head qt_tens t_tens t_count t_exponent qt_work t_work) → va_S A s.heap H locs → lv_has ls 7 [(0, .ref qt), (1, .long a1), (4, .int x4), (5, .int x5)] → W p l e { frames := 0, cells := 0, slots := 0, locals := 0 } s m ([.ref qt, .long a1] : List Value).toArray below meth c H locs 0 0 Q (F0 m 59 ls [.int k1, .int k0]) := by
        intro x4 x5 k0 k1 b_x4 b_k1 hf H locs ls hP hD hS hl
        unfold k_Model_write_59 at hf
        refine lv_iadd hx hb d_Model_write_59 ?_
        refine lv_istore_n (lv' := [(3, .int (k0 + k1)), (0, .ref qt), (1, .long a1), (4, .int x4), (5, .int x5)]) hx hb d_Model_write_60 rfl hl (by decide) rfl (fun ls hl => ?_)
        refine lv_iinc (v := (x5 + 1)) (lv' := [(5, .int (x5 + 1)), (3, .int (k0 + k1)), (0, .ref qt), (1, .long a1), (4, .int x4)]) hx hb d_Model_write_61 hl (k := 4) rfl rfl (by decide) rfl (fun ls hl => ?_)
        refine lv_goto (tgt := 8) hx hb d_Model_write_64 (by decide) ?_
        exact ih_8 ((k0 + k1), x4, (x5 + 1)) b_x4 hf _ _ _ hP hD hS (lv_sub hl [2, 3, 1, 4, 0] rfl)
      have W_46 : ∀ (x3 : Int32) (x5 : Int32) (x6 : Int32) (k0 : Int32) (b_k0 : bl k0), k_Model_write_46 rec_8 x3 x5 x6 k0 = some res → ∀ (H : Heap) (locs : List Loc) (ls : Array Slot), va_P (gD G) vwCl (w_Model_clear G qt qt_draft t_draft t_drafted qt_result t_result t_length t_arguments qt_kinds t_kinds qt_values t_values qt_widths t_widths qt_below t_below qt_sizes t_sizes qt_scales t_scales qt_parts t_parts qt_texts t_texts qt_lengths t_lengths t_end t_index t_flags t_twice t_width t_precision t_conversion t_broken qt_piece t_piece t_put t_head qt_tens t_tens t_count t_exponent qt_work t_work) H → va_D A (w_Model_clear G qt qt_draft t_draft t_drafted qt_result t_result t_length t_arguments qt_kinds t_kinds qt_values t_values qt_widths t_widths qt_below t_below qt_sizes t_sizes qt_scales t_scales qt_parts t_parts qt_texts t_texts qt_lengths t_lengths t_end t_index t_flags t_twice t_width t_precision t_conversion t_broken qt_piece t_piece t_put t_head qt_tens t_tens t_count t_exponent qt_work t_work) → va_S A s.heap H locs → lv_has ls 7 [(0, .ref qt), (1, .long a1), (3, .int x3), (5, .int x5), (6, .int x6)] → W p l e { frames := 0, cells := 0, slots := 0, locals := 0 } s m ([.ref qt, .long a1] : List Value).toArray below meth c H locs 0 0 Q (F0 m 46 ls [.int k0]) := by
        intro x3 x5 x6 k0 b_k0 hf H locs ls hP hD hS hl
        unfold k_Model_write_46 at hf
        refine lv_istore (lv' := [(4, .int k0), (0, .ref qt), (1, .long a1), (3, .int x3), (5, .int x5), (6, .int x6)]) hx hb d_Model_write_46 hl (by decide) rfl (fun ls hl => ?_)
        refine lv_iload_n hx hb d_Model_write_48 rfl (lv_at hl 3 rfl) ?_
        refine lv_iload hx hb d_Model_write_49 (lv_at hl 5 rfl) ?_
        refine lv_if_le (tgt := 58) hx hb d_Model_write_51 (by decide) (fun c_51 => ?_) (fun c_51 => ?_)
        · have hf := ip_ c_51 hf
          refine lv_iconst (v := 0) hx hb d_Model_write_58 (by decide) ?_
          exact W_59 k0 x5 x3 (0 : Int32) b_k0 bl_0 hf _ _ _ hP hD hS (lv_sub hl [1, 2, 0, 4] rfl)
        · have hf := in_ c_51 hf
          refine lv_iconst (v := 1) hx hb d_Model_write_54 (by decide) ?_
          refine lv_goto (tgt := 59) hx hb d_Model_write_55 (by decide) ?_
          exact W_59 k0 x5 x3 (1 : Int32) b_k0 bl_1 hf _ _ _ hP hD hS (lv_sub hl [1, 2, 0, 4] rfl)
      have W_45 : ∀ (x3 : Int32) (x5 : Int32) (x6 : Int32) , k_Model_write_45 rec_8 x3 x5 x6 = some res → ∀ (H : Heap) (locs : List Loc) (ls : Array Slot), va_P (gD G) vwCl (w_Model_clear G qt qt_draft t_draft t_drafted qt_result t_result t_length t_arguments qt_kinds t_kinds qt_values t_values qt_widths t_widths qt_below t_below qt_sizes t_sizes qt_scales t_scales qt_parts t_parts qt_texts t_texts qt_lengths t_lengths t_end t_index t_flags t_twice t_width t_precision t_conversion t_broken qt_piece t_piece t_put t_head qt_tens t_tens t_count t_exponent qt_work t_work) H → va_D A (w_Model_clear G qt qt_draft t_draft t_drafted qt_result t_result t_length t_arguments qt_kinds t_kinds qt_values t_values qt_widths t_widths qt_below t_below qt_sizes t_sizes qt_scales t_scales qt_parts t_parts qt_texts t_texts qt_lengths t_lengths t_end t_index t_flags t_twice t_width t_precision t_conversion t_broken qt_piece t_piece t_put t_head qt_tens t_tens t_count t_exponent qt_work t_work) → va_S A s.heap H locs → lv_has ls 7 [(0, .ref qt), (1, .long a1), (3, .int x3), (5, .int x5), (6, .int x6)] → W p l e { frames := 0, cells := 0, slots := 0, locals := 0 } s m ([.ref qt, .long a1] : List Value).toArray below meth c H locs 0 0 Q (F0 m 45 ls []) := by
        intro x3 x5 x6  hf H locs ls hP hD hS hl
        unfold k_Model_write_45 at hf
        refine lv_iconst (v := 0) hx hb d_Model_write_45 (by decide) ?_
        exact W_46 x3 x5 x6 (0 : Int32) bl_0 hf _ _ _ hP hD hS (lv_sub hl [0, 1, 2, 3, 4] rfl)
      unfold b_Model_write_8 at hf
      refine lv_iload hx hb d_Model_write_8 (lv_at hl 4 rfl) ?_
      refine lv_bipush (v := 8) hx hb d_Model_write_10 (by decide) ?_
      refine lv_icmp_ge (tgt := 67) hx hb d_Model_write_12 (by decide) (fun c_12 => ?_) (fun c_12 => ?_)
      · have hf := ip_ c_12 hf
        refine lv_iload hx hb d_Model_write_67 (lv_at hl 3 rfl) ?_
        refine lv_if_eq (tgt := 84) hx hb d_Model_write_69 (by decide) (fun c_69 => ?_) (fun c_69 => ?_)
        · have hf := ip_ c_69 hf
          refine lv_iconst (v := 0) hx hb d_Model_write_84 (by decide) ?_
          obtain rfl := Option.some.inj hf
          rw [← hQ]
          exact W.zret (v := (0 : Int32)) hx hb hr (bl_n bl_0) (fun t ht hW => ⟨⟨(0 : Int32), (), rfl, ⟨rfl, bl_0⟩, ⟨by rw [ht]; exact hP, hD⟩⟩, hS.F ht⟩) hS.2.2 d_Model_write_85
        · have hf := in_ c_69 hf
          refine lv_aload_n hx hb d_Model_write_72 rfl (lv_at hl 0 rfl) ?_
          refine va_get (D := gD G) (ci := 7) (v := .int t_drafted) (C := R_Model) (T := F_Model) (N := 29) hx hb hg in_Model hown hK hP 0 rfl rfl 1 (by decide) (hg _ m_19) (fun _ h9 => h9) rfl d_Model_write_73 ?_
          refine lv_iload_n hx hb d_Model_write_76 rfl (lv_at hl 2 rfl) ?_
          refine lv_iadd hx hb d_Model_write_77 ?_
          refine lv_sipush (v := 400) hx hb d_Model_write_78 (by decide) ?_
          refine lv_icmp_le (tgt := 86) hx hb d_Model_write_81 (by decide) (fun c_81 => ?_) (fun c_81 => ?_)
          · have hf := ip_ c_81 hf
            refine lv_bipush (v := 7) hx hb d_Model_write_86 (by decide) ?_
            refine lv_istore (lv' := [(5, .int (7 : Int32)), (0, .ref qt), (1, .long a1), (3, .int z8.1), (4, .int z8.2.1)]) hx hb d_Model_write_88 hl (by decide) rfl (fun ls hl => ?_)
            exact W_90   K ((7 : Int32), t_drafted, t_draft)  hf _ _ _ hP hD hS (lv_sub hl [1, 2, 0] rfl)
          · have hf := in_ c_81 hf
            refine lv_iconst (v := 0) hx hb d_Model_write_84 (by decide) ?_
            obtain rfl := Option.some.inj hf
            rw [← hQ]
            exact W.zret (v := (0 : Int32)) hx hb hr (bl_n bl_0) (fun t ht hW => ⟨⟨(0 : Int32), (), rfl, ⟨rfl, bl_0⟩, ⟨by rw [ht]; exact hP, hD⟩⟩, hS.F ht⟩) hS.2.2 d_Model_write_85
      · have hf := in_ c_12 hf
        refine lv_lload_n hx hb d_Model_write_15 rfl (lv_at hl 1 rfl) ?_
        refine lv_bipush (v := 8) hx hb d_Model_write_16 (by decide) ?_
        refine lv_iload hx hb d_Model_write_18 (lv_at hl 4 rfl) ?_
        refine lv_imul hx hb d_Model_write_20 ?_
        refine lv_lshr (v := (a1 >>> (((8 : Int32) * z8.2.2).toInt64 &&& 63))) hx hb d_Model_write_21 rfl ?_
        refine lv_ldc2 (v := 255) hx hb hown (hg _ m_44) d_Model_write_22 ?_
        refine lv_land hx hb d_Model_write_25 ?_
        refine lv_l2i (v := ((a1 >>> (((8 : Int32) * z8.2.2).toInt64 &&& 63)) &&& (255 : Int64)).toInt32) hx hb d_Model_write_26 rfl ?_
        refine lv_istore (lv' := [(6, .int (((a1 >>> (((8 : Int32) * z8.2.2).toInt64 &&& 63)) &&& (255 : Int64)).toInt32)), (0, .ref qt), (1, .long a1), (3, .int z8.1), (4, .int z8.2.1), (5, .int z8.2.2)]) hx hb d_Model_write_27 hl (by decide) rfl (fun ls hl => ?_)
        refine lv_iload hx hb d_Model_write_29 (lv_at hl 4 rfl) ?_
        refine lv_if_eq (tgt := 45) hx hb d_Model_write_31 (by decide) (fun c_31 => ?_) (fun c_31 => ?_)
        · have hf := ip_ c_31 hf
          exact W_45 z8.1 z8.2.2 (((a1 >>> (((8 : Int32) * z8.2.2).toInt64 &&& 63)) &&& (255 : Int64)).toInt32)  hf _ _ _ hP hD hS (lv_sub hl [1, 2, 3, 5, 0] rfl)
        · have hf := in_ c_31 hf
          refine lv_iload hx hb d_Model_write_34 (lv_at hl 0 rfl) ?_
          refine lv_bipush (v := 127) hx hb d_Model_write_36 (by decide) ?_
          refine lv_icmp_ge (tgt := 45) hx hb d_Model_write_38 (by decide) (fun c_38 => ?_) (fun c_38 => ?_)
          · have hf := ip_ c_38 hf
            exact W_45 z8.1 z8.2.2 (((a1 >>> (((8 : Int32) * z8.2.2).toInt64 &&& 63)) &&& (255 : Int64)).toInt32)  hf _ _ _ hP hD hS (lv_sub hl [1, 2, 3, 5, 0] rfl)
          · have hf := in_ c_38 hf
            refine lv_iconst (v := 1) hx hb d_Model_write_41 (by decide) ?_
            refine lv_goto (tgt := 46) hx hb d_Model_write_42 (by decide) ?_
            exact W_46 z8.1 z8.2.2 (((a1 >>> (((8 : Int32) * z8.2.2).toInt64 &&& 63)) &&& (255 : Int64)).toInt32) (1 : Int32) bl_1 hf _ _ _ hP hD hS (lv_sub hl [1, 2, 3, 5, 0] rfl)
  unfold f_Model_write at hf
  refine lv_iconst (v := 0) hx hb d_Model_write_0 (by decide) ?_
  refine lv_istore_n (lv' := [(3, .int (0 : Int32)), (0, .ref qt), (1, .long a1)]) hx hb d_Model_write_1 rfl hl (by decide) rfl (fun ls hl => ?_)
  refine lv_iconst (v := 1) hx hb d_Model_write_2 (by decide) ?_
  refine lv_istore (lv' := [(4, .int (1 : Int32)), (3, .int (0 : Int32)), (0, .ref qt), (1, .long a1)]) hx hb d_Model_write_3 hl (by decide) rfl (fun ls hl => ?_)
  refine lv_iconst (v := 0) hx hb d_Model_write_5 (by decide) ?_
  refine lv_istore (lv' := [(5, .int (0 : Int32)), (4, .int (1 : Int32)), (3, .int (0 : Int32)), (0, .ref qt), (1, .long a1)]) hx hb d_Model_write_6 hl (by decide) rfl (fun ls hl => ?_)
  exact W_8 t_drafted t_draft  K ((0 : Int32), (1 : Int32), (0 : Int32)) bl_1 hf _ _ _ hP hD hS (lv_sub hl [3, 4, 2, 1, 0] rfl)
end
