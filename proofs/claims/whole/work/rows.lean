section
-- ===== PART A: goes FIRST, ahead of the names: the tables' words, and 'selects' of the private methods out of them =====
/-- a private method of a class that the tables say can be made, by its rows of tables_1 -/
def lw_okq (q : MethodName × Nat) : Prop := (q.1.cls ≠ "java/lang/invoke/MethodHandle" ∧ q.1.cls ≠ "java/lang/invoke/VarHandle") ∧ Cond.instantiable q.1.cls q.2 ∈ tables_1 ∧ Cond.privateMethod q.1 ∈ tables_1 ∧ Cond.instanceMethod q.1 ∈ tables_1
theorem lw_p0 : lw_okq (⟨"SpecifierDesk", "takeArgument", "(LSpecifierDesk$Kind;ZJ)LSpecifierDesk$Argument;"⟩, 8) := ⟨⟨by decide +kernel, by decide +kernel⟩, List.mem_of_getElem? (i := 20) (by decide +kernel), List.mem_of_getElem? (i := 258) (by decide +kernel), List.mem_of_getElem? (i := 259) (by decide +kernel)⟩
theorem lw_p1 : lw_okq (⟨"SpecifierDesk", "latestArgument", "()LSpecifierDesk$Argument;"⟩, 8) := ⟨⟨by decide +kernel, by decide +kernel⟩, List.mem_of_getElem? (i := 20) (by decide +kernel), List.mem_of_getElem? (i := 297) (by decide +kernel), List.mem_of_getElem? (i := 298) (by decide +kernel)⟩
theorem lw_p2 : lw_okq (⟨"SpecifierDesk", "argumentOf", "(I)LSpecifierDesk$Argument;"⟩, 8) := ⟨⟨by decide +kernel, by decide +kernel⟩, List.mem_of_getElem? (i := 20) (by decide +kernel), List.mem_of_getElem? (i := 301) (by decide +kernel), List.mem_of_getElem? (i := 302) (by decide +kernel)⟩
theorem lw_p3 : lw_okq (⟨"SpecifierDesk", "readAll", "()I"⟩, 8) := ⟨⟨by decide +kernel, by decide +kernel⟩, List.mem_of_getElem? (i := 20) (by decide +kernel), List.mem_of_getElem? (i := 341) (by decide +kernel), List.mem_of_getElem? (i := 342) (by decide +kernel)⟩
theorem lw_p4 : lw_okq (⟨"SpecifierDesk$Specifier", "readIndex", "(LSpecifierDesk$Row;I)I"⟩, 10) := ⟨⟨by decide +kernel, by decide +kernel⟩, List.mem_of_getElem? (i := 52) (by decide +kernel), List.mem_of_getElem? (i := 350) (by decide +kernel), List.mem_of_getElem? (i := 351) (by decide +kernel)⟩
theorem lw_p5 : lw_okq (⟨"SpecifierDesk$Specifier", "readFlags", "(LSpecifierDesk$Row;I)I"⟩, 10) := ⟨⟨by decide +kernel, by decide +kernel⟩, List.mem_of_getElem? (i := 52) (by decide +kernel), List.mem_of_getElem? (i := 364) (by decide +kernel), List.mem_of_getElem? (i := 365) (by decide +kernel)⟩
theorem lw_p6 : lw_okq (⟨"SpecifierDesk$Specifier", "readWidth", "(LSpecifierDesk$Row;I)I"⟩, 10) := ⟨⟨by decide +kernel, by decide +kernel⟩, List.mem_of_getElem? (i := 52) (by decide +kernel), List.mem_of_getElem? (i := 375) (by decide +kernel), List.mem_of_getElem? (i := 376) (by decide +kernel)⟩
theorem lw_p7 : lw_okq (⟨"SpecifierDesk$Specifier", "readPrecision", "(LSpecifierDesk$Row;I)I"⟩, 10) := ⟨⟨by decide +kernel, by decide +kernel⟩, List.mem_of_getElem? (i := 52) (by decide +kernel), List.mem_of_getElem? (i := 379) (by decide +kernel), List.mem_of_getElem? (i := 380) (by decide +kernel)⟩
theorem lw_p8 : lw_okq (⟨"SpecifierDesk$Specifier", "readConversion", "(LSpecifierDesk$Row;I)V"⟩, 10) := ⟨⟨by decide +kernel, by decide +kernel⟩, List.mem_of_getElem? (i := 52) (by decide +kernel), List.mem_of_getElem? (i := 383) (by decide +kernel), List.mem_of_getElem? (i := 384) (by decide +kernel)⟩
theorem lw_p9 : lw_okq (⟨"SpecifierDesk$Specifier", "faultOfLineEnd", "()I"⟩, 10) := ⟨⟨by decide +kernel, by decide +kernel⟩, List.mem_of_getElem? (i := 52) (by decide +kernel), List.mem_of_getElem? (i := 475) (by decide +kernel), List.mem_of_getElem? (i := 476) (by decide +kernel)⟩
theorem lw_p10 : lw_okq (⟨"SpecifierDesk$Specifier", "faultOfParts", "()I"⟩, 10) := ⟨⟨by decide +kernel, by decide +kernel⟩, List.mem_of_getElem? (i := 52) (by decide +kernel), List.mem_of_getElem? (i := 479) (by decide +kernel), List.mem_of_getElem? (i := 480) (by decide +kernel)⟩
theorem lw_p11 : lw_okq (⟨"SpecifierDesk$Specifier", "ownFlags", "()I"⟩, 10) := ⟨⟨by decide +kernel, by decide +kernel⟩, List.mem_of_getElem? (i := 52) (by decide +kernel), List.mem_of_getElem? (i := 489) (by decide +kernel), List.mem_of_getElem? (i := 490) (by decide +kernel)⟩
theorem lw_p12 : lw_okq (⟨"SpecifierDesk", "layOutSpecifier", "()I"⟩, 8) := ⟨⟨by decide +kernel, by decide +kernel⟩, List.mem_of_getElem? (i := 20) (by decide +kernel), List.mem_of_getElem? (i := 494) (by decide +kernel), List.mem_of_getElem? (i := 495) (by decide +kernel)⟩
theorem lw_p13 : lw_okq (⟨"SpecifierDesk$Composer", "start", "()V"⟩, 8) := ⟨⟨by decide +kernel, by decide +kernel⟩, List.mem_of_getElem? (i := 96) (by decide +kernel), List.mem_of_getElem? (i := 502) (by decide +kernel), List.mem_of_getElem? (i := 503) (by decide +kernel)⟩
theorem lw_p14 : lw_okq (⟨"SpecifierDesk$Composer", "putTogether", "()V"⟩, 8) := ⟨⟨by decide +kernel, by decide +kernel⟩, List.mem_of_getElem? (i := 96) (by decide +kernel), List.mem_of_getElem? (i := 509) (by decide +kernel), List.mem_of_getElem? (i := 510) (by decide +kernel)⟩
theorem lw_p15 : lw_okq (⟨"SpecifierDesk", "chosenNumber", "()I"⟩, 8) := ⟨⟨by decide +kernel, by decide +kernel⟩, List.mem_of_getElem? (i := 20) (by decide +kernel), List.mem_of_getElem? (i := 523) (by decide +kernel), List.mem_of_getElem? (i := 524) (by decide +kernel)⟩
def lw_privs_1 : List (MethodName × Nat) := [(⟨"SpecifierDesk", "takeArgument", "(LSpecifierDesk$Kind;ZJ)LSpecifierDesk$Argument;"⟩, 8), (⟨"SpecifierDesk", "latestArgument", "()LSpecifierDesk$Argument;"⟩, 8), (⟨"SpecifierDesk", "argumentOf", "(I)LSpecifierDesk$Argument;"⟩, 8), (⟨"SpecifierDesk", "readAll", "()I"⟩, 8), (⟨"SpecifierDesk$Specifier", "readIndex", "(LSpecifierDesk$Row;I)I"⟩, 10), (⟨"SpecifierDesk$Specifier", "readFlags", "(LSpecifierDesk$Row;I)I"⟩, 10), (⟨"SpecifierDesk$Specifier", "readWidth", "(LSpecifierDesk$Row;I)I"⟩, 10), (⟨"SpecifierDesk$Specifier", "readPrecision", "(LSpecifierDesk$Row;I)I"⟩, 10), (⟨"SpecifierDesk$Specifier", "readConversion", "(LSpecifierDesk$Row;I)V"⟩, 10), (⟨"SpecifierDesk$Specifier", "faultOfLineEnd", "()I"⟩, 10), (⟨"SpecifierDesk$Specifier", "faultOfParts", "()I"⟩, 10), (⟨"SpecifierDesk$Specifier", "ownFlags", "()I"⟩, 10), (⟨"SpecifierDesk", "layOutSpecifier", "()I"⟩, 8), (⟨"SpecifierDesk$Composer", "start", "()V"⟩, 8), (⟨"SpecifierDesk$Composer", "putTogether", "()V"⟩, 8), (⟨"SpecifierDesk", "chosenNumber", "()I"⟩, 8)]
theorem lw_r1 : ∀ q ∈ lw_privs_1, lw_okq q := List.forall_mem_cons.mpr ⟨lw_p0, List.forall_mem_cons.mpr ⟨lw_p1, List.forall_mem_cons.mpr ⟨lw_p2, List.forall_mem_cons.mpr ⟨lw_p3, List.forall_mem_cons.mpr ⟨lw_p4, List.forall_mem_cons.mpr ⟨lw_p5, List.forall_mem_cons.mpr ⟨lw_p6, List.forall_mem_cons.mpr ⟨lw_p7, List.forall_mem_cons.mpr ⟨lw_p8, List.forall_mem_cons.mpr ⟨lw_p9, List.forall_mem_cons.mpr ⟨lw_p10, List.forall_mem_cons.mpr ⟨lw_p11, List.forall_mem_cons.mpr ⟨lw_p12, List.forall_mem_cons.mpr ⟨lw_p13, List.forall_mem_cons.mpr ⟨lw_p14, List.forall_mem_cons.mpr ⟨lw_p15, fun _ h => absurd h List.not_mem_nil⟩⟩⟩⟩⟩⟩⟩⟩⟩⟩⟩⟩⟩⟩⟩⟩
theorem lw_p16 : lw_okq (⟨"SpecifierDesk", "faultOf", "(LSpecifierDesk$Argument;)I"⟩, 8) := ⟨⟨by decide +kernel, by decide +kernel⟩, List.mem_of_getElem? (i := 20) (by decide +kernel), List.mem_of_getElem? (i := 527) (by decide +kernel), List.mem_of_getElem? (i := 528) (by decide +kernel)⟩
theorem lw_p17 : lw_okq (⟨"SpecifierDesk$Composer", "setUnfilled", "(Ljava/lang/String;)V"⟩, 8) := ⟨⟨by decide +kernel, by decide +kernel⟩, List.mem_of_getElem? (i := 96) (by decide +kernel), List.mem_of_getElem? (i := 549) (by decide +kernel), List.mem_of_getElem? (i := 550) (by decide +kernel)⟩
theorem lw_p18 : lw_okq (⟨"SpecifierDesk$Composer", "setSign", "(Z)V"⟩, 8) := ⟨⟨by decide +kernel, by decide +kernel⟩, List.mem_of_getElem? (i := 96) (by decide +kernel), List.mem_of_getElem? (i := 593) (by decide +kernel), List.mem_of_getElem? (i := 594) (by decide +kernel)⟩
theorem lw_p19 : lw_okq (⟨"SpecifierDesk$Composer", "addTruth", "(Z)V"⟩, 8) := ⟨⟨by decide +kernel, by decide +kernel⟩, List.mem_of_getElem? (i := 96) (by decide +kernel), List.mem_of_getElem? (i := 599) (by decide +kernel), List.mem_of_getElem? (i := 600) (by decide +kernel)⟩
theorem lw_p20 : lw_okq (⟨"SpecifierDesk$Composer", "setText", "(LSpecifierDesk$Argument;)V"⟩, 8) := ⟨⟨by decide +kernel, by decide +kernel⟩, List.mem_of_getElem? (i := 96) (by decide +kernel), List.mem_of_getElem? (i := 604) (by decide +kernel), List.mem_of_getElem? (i := 605) (by decide +kernel)⟩
theorem lw_p21 : lw_okq (⟨"SpecifierDesk$Digits", "setLimbs", "(IJ)V"⟩, 4) := ⟨⟨by decide +kernel, by decide +kernel⟩, List.mem_of_getElem? (i := 104) (by decide +kernel), List.mem_of_getElem? (i := 612) (by decide +kernel), List.mem_of_getElem? (i := 613) (by decide +kernel)⟩
theorem lw_p22 : lw_okq (⟨"SpecifierDesk$Digits", "spell", "(I)V"⟩, 4) := ⟨⟨by decide +kernel, by decide +kernel⟩, List.mem_of_getElem? (i := 104) (by decide +kernel), List.mem_of_getElem? (i := 616) (by decide +kernel), List.mem_of_getElem? (i := 617) (by decide +kernel)⟩
theorem lw_p23 : lw_okq (⟨"SpecifierDesk$Digits", "topFrom", "(I)I"⟩, 4) := ⟨⟨by decide +kernel, by decide +kernel⟩, List.mem_of_getElem? (i := 104) (by decide +kernel), List.mem_of_getElem? (i := 623) (by decide +kernel), List.mem_of_getElem? (i := 624) (by decide +kernel)⟩
theorem lw_p24 : lw_okq (⟨"SpecifierDesk$Digits", "divide", "(II)J"⟩, 4) := ⟨⟨by decide +kernel, by decide +kernel⟩, List.mem_of_getElem? (i := 104) (by decide +kernel), List.mem_of_getElem? (i := 627) (by decide +kernel), List.mem_of_getElem? (i := 628) (by decide +kernel)⟩
theorem lw_p25 : lw_okq (⟨"SpecifierDesk$Digits", "trim", "()V"⟩, 4) := ⟨⟨by decide +kernel, by decide +kernel⟩, List.mem_of_getElem? (i := 104) (by decide +kernel), List.mem_of_getElem? (i := 632) (by decide +kernel), List.mem_of_getElem? (i := 633) (by decide +kernel)⟩
theorem lw_p26 : lw_okq (⟨"SpecifierDesk$Composer", "setDecimalText", "(LSpecifierDesk$Argument;)V"⟩, 8) := ⟨⟨by decide +kernel, by decide +kernel⟩, List.mem_of_getElem? (i := 96) (by decide +kernel), List.mem_of_getElem? (i := 644) (by decide +kernel), List.mem_of_getElem? (i := 645) (by decide +kernel)⟩
theorem lw_p27 : lw_okq (⟨"SpecifierDesk$Argument", "isSizeZero", "()Z"⟩, 7) := ⟨⟨by decide +kernel, by decide +kernel⟩, List.mem_of_getElem? (i := 168) (by decide +kernel), List.mem_of_getElem? (i := 652) (by decide +kernel), List.mem_of_getElem? (i := 653) (by decide +kernel)⟩
theorem lw_p28 : lw_okq (⟨"SpecifierDesk$Composer", "addMinus", "(Z)V"⟩, 8) := ⟨⟨by decide +kernel, by decide +kernel⟩, List.mem_of_getElem? (i := 96) (by decide +kernel), List.mem_of_getElem? (i := 656) (by decide +kernel), List.mem_of_getElem? (i := 657) (by decide +kernel)⟩
theorem lw_p29 : lw_okq (⟨"SpecifierDesk$Composer", "addWhole", "(Z)V"⟩, 8) := ⟨⟨by decide +kernel, by decide +kernel⟩, List.mem_of_getElem? (i := 96) (by decide +kernel), List.mem_of_getElem? (i := 668) (by decide +kernel), List.mem_of_getElem? (i := 669) (by decide +kernel)⟩
theorem lw_p30 : lw_okq (⟨"SpecifierDesk$Composer", "addBehindPoint", "(IIZ)V"⟩, 8) := ⟨⟨by decide +kernel, by decide +kernel⟩, List.mem_of_getElem? (i := 96) (by decide +kernel), List.mem_of_getElem? (i := 679) (by decide +kernel), List.mem_of_getElem? (i := 680) (by decide +kernel)⟩
theorem lw_p31 : lw_okq (⟨"SpecifierDesk$Composer", "setFractionText", "(LSpecifierDesk$Argument;)V"⟩, 8) := ⟨⟨by decide +kernel, by decide +kernel⟩, List.mem_of_getElem? (i := 96) (by decide +kernel), List.mem_of_getElem? (i := 692) (by decide +kernel), List.mem_of_getElem? (i := 693) (by decide +kernel)⟩
def lw_privs_2 : List (MethodName × Nat) := [(⟨"SpecifierDesk", "faultOf", "(LSpecifierDesk$Argument;)I"⟩, 8), (⟨"SpecifierDesk$Composer", "setUnfilled", "(Ljava/lang/String;)V"⟩, 8), (⟨"SpecifierDesk$Composer", "setSign", "(Z)V"⟩, 8), (⟨"SpecifierDesk$Composer", "addTruth", "(Z)V"⟩, 8), (⟨"SpecifierDesk$Composer", "setText", "(LSpecifierDesk$Argument;)V"⟩, 8), (⟨"SpecifierDesk$Digits", "setLimbs", "(IJ)V"⟩, 4), (⟨"SpecifierDesk$Digits", "spell", "(I)V"⟩, 4), (⟨"SpecifierDesk$Digits", "topFrom", "(I)I"⟩, 4), (⟨"SpecifierDesk$Digits", "divide", "(II)J"⟩, 4), (⟨"SpecifierDesk$Digits", "trim", "()V"⟩, 4), (⟨"SpecifierDesk$Composer", "setDecimalText", "(LSpecifierDesk$Argument;)V"⟩, 8), (⟨"SpecifierDesk$Argument", "isSizeZero", "()Z"⟩, 7), (⟨"SpecifierDesk$Composer", "addMinus", "(Z)V"⟩, 8), (⟨"SpecifierDesk$Composer", "addWhole", "(Z)V"⟩, 8), (⟨"SpecifierDesk$Composer", "addBehindPoint", "(IIZ)V"⟩, 8), (⟨"SpecifierDesk$Composer", "setFractionText", "(LSpecifierDesk$Argument;)V"⟩, 8)]
theorem lw_r2 : ∀ q ∈ lw_privs_2, lw_okq q := List.forall_mem_cons.mpr ⟨lw_p16, List.forall_mem_cons.mpr ⟨lw_p17, List.forall_mem_cons.mpr ⟨lw_p18, List.forall_mem_cons.mpr ⟨lw_p19, List.forall_mem_cons.mpr ⟨lw_p20, List.forall_mem_cons.mpr ⟨lw_p21, List.forall_mem_cons.mpr ⟨lw_p22, List.forall_mem_cons.mpr ⟨lw_p23, List.forall_mem_cons.mpr ⟨lw_p24, List.forall_mem_cons.mpr ⟨lw_p25, List.forall_mem_cons.mpr ⟨lw_p26, List.forall_mem_cons.mpr ⟨lw_p27, List.forall_mem_cons.mpr ⟨lw_p28, List.forall_mem_cons.mpr ⟨lw_p29, List.forall_mem_cons.mpr ⟨lw_p30, List.forall_mem_cons.mpr ⟨lw_p31, fun _ h => absurd h List.not_mem_nil⟩⟩⟩⟩⟩⟩⟩⟩⟩⟩⟩⟩⟩⟩⟩⟩
theorem lw_p32 : lw_okq (⟨"SpecifierDesk$Composer", "setBased", "(LSpecifierDesk$Argument;I)V"⟩, 8) := ⟨⟨by decide +kernel, by decide +kernel⟩, List.mem_of_getElem? (i := 96) (by decide +kernel), List.mem_of_getElem? (i := 701) (by decide +kernel), List.mem_of_getElem? (i := 702) (by decide +kernel)⟩
theorem lw_p33 : lw_okq (⟨"SpecifierDesk$Composer", "setHex", "(LSpecifierDesk$Argument;)V"⟩, 8) := ⟨⟨by decide +kernel, by decide +kernel⟩, List.mem_of_getElem? (i := 96) (by decide +kernel), List.mem_of_getElem? (i := 715) (by decide +kernel), List.mem_of_getElem? (i := 716) (by decide +kernel)⟩
theorem lw_p34 : lw_okq (⟨"SpecifierDesk$Composer", "setDecimal", "(LSpecifierDesk$Argument;)V"⟩, 8) := ⟨⟨by decide +kernel, by decide +kernel⟩, List.mem_of_getElem? (i := 96) (by decide +kernel), List.mem_of_getElem? (i := 740) (by decide +kernel), List.mem_of_getElem? (i := 741) (by decide +kernel)⟩
theorem lw_p35 : lw_okq (⟨"SpecifierDesk$Digits", "carryInto", "(I)V"⟩, 4) := ⟨⟨by decide +kernel, by decide +kernel⟩, List.mem_of_getElem? (i := 104) (by decide +kernel), List.mem_of_getElem? (i := 748) (by decide +kernel), List.mem_of_getElem? (i := 749) (by decide +kernel)⟩
theorem lw_p36 : lw_okq (⟨"SpecifierDesk$Composer", "setFixed", "(I)V"⟩, 8) := ⟨⟨by decide +kernel, by decide +kernel⟩, List.mem_of_getElem? (i := 96) (by decide +kernel), List.mem_of_getElem? (i := 752) (by decide +kernel), List.mem_of_getElem? (i := 753) (by decide +kernel)⟩
theorem lw_p37 : lw_okq (⟨"SpecifierDesk$Composer", "setScientific", "(I)V"⟩, 8) := ⟨⟨by decide +kernel, by decide +kernel⟩, List.mem_of_getElem? (i := 96) (by decide +kernel), List.mem_of_getElem? (i := 756) (by decide +kernel), List.mem_of_getElem? (i := 757) (by decide +kernel)⟩
theorem lw_p38 : lw_okq (⟨"SpecifierDeskModel", "argument", "(IJZ)I"⟩, 29) := ⟨⟨by decide +kernel, by decide +kernel⟩, List.mem_of_getElem? (i := 774) (by decide +kernel), List.mem_of_getElem? (i := 882) (by decide +kernel), List.mem_of_getElem? (i := 883) (by decide +kernel)⟩
theorem lw_p39 : lw_okq (⟨"SpecifierDeskModel", "sizeOf", "(IJ)V"⟩, 29) := ⟨⟨by decide +kernel, by decide +kernel⟩, List.mem_of_getElem? (i := 774) (by decide +kernel), List.mem_of_getElem? (i := 902) (by decide +kernel), List.mem_of_getElem? (i := 903) (by decide +kernel)⟩
theorem lw_p40 : lw_okq (⟨"SpecifierDeskModel", "goOver", "(I)V"⟩, 29) := ⟨⟨by decide +kernel, by decide +kernel⟩, List.mem_of_getElem? (i := 774) (by decide +kernel), List.mem_of_getElem? (i := 928) (by decide +kernel), List.mem_of_getElem? (i := 929) (by decide +kernel)⟩
theorem lw_p41 : lw_okq (⟨"SpecifierDeskModel", "look", "(I)I"⟩, 29) := ⟨⟨by decide +kernel, by decide +kernel⟩, List.mem_of_getElem? (i := 774) (by decide +kernel), List.mem_of_getElem? (i := 932) (by decide +kernel), List.mem_of_getElem? (i := 933) (by decide +kernel)⟩
theorem lw_p42 : lw_okq (⟨"SpecifierDeskModel", "digitsEnd", "(I)I"⟩, 29) := ⟨⟨by decide +kernel, by decide +kernel⟩, List.mem_of_getElem? (i := 774) (by decide +kernel), List.mem_of_getElem? (i := 939) (by decide +kernel), List.mem_of_getElem? (i := 940) (by decide +kernel)⟩
theorem lw_p43 : lw_okq (⟨"SpecifierDeskModel", "said", "(II)I"⟩, 29) := ⟨⟨by decide +kernel, by decide +kernel⟩, List.mem_of_getElem? (i := 774) (by decide +kernel), List.mem_of_getElem? (i := 943) (by decide +kernel), List.mem_of_getElem? (i := 944) (by decide +kernel)⟩
theorem lw_p44 : lw_okq (⟨"SpecifierDeskModel", "faultOf", "()I"⟩, 29) := ⟨⟨by decide +kernel, by decide +kernel⟩, List.mem_of_getElem? (i := 774) (by decide +kernel), List.mem_of_getElem? (i := 950) (by decide +kernel), List.mem_of_getElem? (i := 951) (by decide +kernel)⟩
theorem lw_p45 : lw_okq (⟨"SpecifierDeskModel", "small", "()I"⟩, 29) := ⟨⟨by decide +kernel, by decide +kernel⟩, List.mem_of_getElem? (i := 774) (by decide +kernel), List.mem_of_getElem? (i := 954) (by decide +kernel), List.mem_of_getElem? (i := 955) (by decide +kernel)⟩
theorem lw_p46 : lw_okq (⟨"SpecifierDeskModel", "isGreat", "()Z"⟩, 29) := ⟨⟨by decide +kernel, by decide +kernel⟩, List.mem_of_getElem? (i := 774) (by decide +kernel), List.mem_of_getElem? (i := 958) (by decide +kernel), List.mem_of_getElem? (i := 959) (by decide +kernel)⟩
theorem lw_p47 : lw_okq (⟨"SpecifierDeskModel", "isNumber", "()Z"⟩, 29) := ⟨⟨by decide +kernel, by decide +kernel⟩, List.mem_of_getElem? (i := 774) (by decide +kernel), List.mem_of_getElem? (i := 966) (by decide +kernel), List.mem_of_getElem? (i := 967) (by decide +kernel)⟩
def lw_privs_3 : List (MethodName × Nat) := [(⟨"SpecifierDesk$Composer", "setBased", "(LSpecifierDesk$Argument;I)V"⟩, 8), (⟨"SpecifierDesk$Composer", "setHex", "(LSpecifierDesk$Argument;)V"⟩, 8), (⟨"SpecifierDesk$Composer", "setDecimal", "(LSpecifierDesk$Argument;)V"⟩, 8), (⟨"SpecifierDesk$Digits", "carryInto", "(I)V"⟩, 4), (⟨"SpecifierDesk$Composer", "setFixed", "(I)V"⟩, 8), (⟨"SpecifierDesk$Composer", "setScientific", "(I)V"⟩, 8), (⟨"SpecifierDeskModel", "argument", "(IJZ)I"⟩, 29), (⟨"SpecifierDeskModel", "sizeOf", "(IJ)V"⟩, 29), (⟨"SpecifierDeskModel", "goOver", "(I)V"⟩, 29), (⟨"SpecifierDeskModel", "look", "(I)I"⟩, 29), (⟨"SpecifierDeskModel", "digitsEnd", "(I)I"⟩, 29), (⟨"SpecifierDeskModel", "said", "(II)I"⟩, 29), (⟨"SpecifierDeskModel", "faultOf", "()I"⟩, 29), (⟨"SpecifierDeskModel", "small", "()I"⟩, 29), (⟨"SpecifierDeskModel", "isGreat", "()Z"⟩, 29), (⟨"SpecifierDeskModel", "isNumber", "()Z"⟩, 29)]
theorem lw_r3 : ∀ q ∈ lw_privs_3, lw_okq q := List.forall_mem_cons.mpr ⟨lw_p32, List.forall_mem_cons.mpr ⟨lw_p33, List.forall_mem_cons.mpr ⟨lw_p34, List.forall_mem_cons.mpr ⟨lw_p35, List.forall_mem_cons.mpr ⟨lw_p36, List.forall_mem_cons.mpr ⟨lw_p37, List.forall_mem_cons.mpr ⟨lw_p38, List.forall_mem_cons.mpr ⟨lw_p39, List.forall_mem_cons.mpr ⟨lw_p40, List.forall_mem_cons.mpr ⟨lw_p41, List.forall_mem_cons.mpr ⟨lw_p42, List.forall_mem_cons.mpr ⟨lw_p43, List.forall_mem_cons.mpr ⟨lw_p44, List.forall_mem_cons.mpr ⟨lw_p45, List.forall_mem_cons.mpr ⟨lw_p46, List.forall_mem_cons.mpr ⟨lw_p47, fun _ h => absurd h List.not_mem_nil⟩⟩⟩⟩⟩⟩⟩⟩⟩⟩⟩⟩⟩⟩⟩⟩
theorem lw_p48 : lw_okq (⟨"SpecifierDeskModel", "has", "(I)Z"⟩, 29) := ⟨⟨by decide +kernel, by decide +kernel⟩, List.mem_of_getElem? (i := 774) (by decide +kernel), List.mem_of_getElem? (i := 971) (by decide +kernel), List.mem_of_getElem? (i := 972) (by decide +kernel)⟩
theorem lw_p49 : lw_okq (⟨"SpecifierDeskModel", "allowed", "()I"⟩, 29) := ⟨⟨by decide +kernel, by decide +kernel⟩, List.mem_of_getElem? (i := 774) (by decide +kernel), List.mem_of_getElem? (i := 975) (by decide +kernel), List.mem_of_getElem? (i := 976) (by decide +kernel)⟩
theorem lw_p50 : lw_okq (⟨"SpecifierDeskModel", "add", "(I)V"⟩, 29) := ⟨⟨by decide +kernel, by decide +kernel⟩, List.mem_of_getElem? (i := 774) (by decide +kernel), List.mem_of_getElem? (i := 979) (by decide +kernel), List.mem_of_getElem? (i := 980) (by decide +kernel)⟩
theorem lw_p51 : lw_okq (⟨"SpecifierDeskModel", "append", "()Z"⟩, 29) := ⟨⟨by decide +kernel, by decide +kernel⟩, List.mem_of_getElem? (i := 774) (by decide +kernel), List.mem_of_getElem? (i := 983) (by decide +kernel), List.mem_of_getElem? (i := 984) (by decide +kernel)⟩
theorem lw_p52 : lw_okq (⟨"SpecifierDeskModel", "argumentFault", "(II)I"⟩, 29) := ⟨⟨by decide +kernel, by decide +kernel⟩, List.mem_of_getElem? (i := 774) (by decide +kernel), List.mem_of_getElem? (i := 987) (by decide +kernel), List.mem_of_getElem? (i := 988) (by decide +kernel)⟩
theorem lw_p53 : lw_okq (⟨"SpecifierDeskModel", "lay", "(II)V"⟩, 29) := ⟨⟨by decide +kernel, by decide +kernel⟩, List.mem_of_getElem? (i := 774) (by decide +kernel), List.mem_of_getElem? (i := 992) (by decide +kernel), List.mem_of_getElem? (i := 993) (by decide +kernel)⟩
theorem lw_p54 : lw_okq (⟨"SpecifierDeskModel", "addTruth", "(Z)V"⟩, 29) := ⟨⟨by decide +kernel, by decide +kernel⟩, List.mem_of_getElem? (i := 774) (by decide +kernel), List.mem_of_getElem? (i := 996) (by decide +kernel), List.mem_of_getElem? (i := 997) (by decide +kernel)⟩
theorem lw_p55 : lw_okq (⟨"SpecifierDeskModel", "addWord", "(JJ)V"⟩, 29) := ⟨⟨by decide +kernel, by decide +kernel⟩, List.mem_of_getElem? (i := 774) (by decide +kernel), List.mem_of_getElem? (i := 1001) (by decide +kernel), List.mem_of_getElem? (i := 1002) (by decide +kernel)⟩
theorem lw_p56 : lw_okq (⟨"SpecifierDeskModel", "textOf", "(I)V"⟩, 29) := ⟨⟨by decide +kernel, by decide +kernel⟩, List.mem_of_getElem? (i := 774) (by decide +kernel), List.mem_of_getElem? (i := 1007) (by decide +kernel), List.mem_of_getElem? (i := 1008) (by decide +kernel)⟩
theorem lw_p57 : lw_okq (⟨"SpecifierDeskModel", "isZeroSize", "(I)Z"⟩, 29) := ⟨⟨by decide +kernel, by decide +kernel⟩, List.mem_of_getElem? (i := 774) (by decide +kernel), List.mem_of_getElem? (i := 1011) (by decide +kernel), List.mem_of_getElem? (i := 1012) (by decide +kernel)⟩
theorem lw_p58 : lw_okq (⟨"SpecifierDeskModel", "spellLong", "(JI)V"⟩, 29) := ⟨⟨by decide +kernel, by decide +kernel⟩, List.mem_of_getElem? (i := 774) (by decide +kernel), List.mem_of_getElem? (i := 1015) (by decide +kernel), List.mem_of_getElem? (i := 1016) (by decide +kernel)⟩
theorem lw_p59 : lw_okq (⟨"SpecifierDeskModel", "spell", "(II)V"⟩, 29) := ⟨⟨by decide +kernel, by decide +kernel⟩, List.mem_of_getElem? (i := 774) (by decide +kernel), List.mem_of_getElem? (i := 1021) (by decide +kernel), List.mem_of_getElem? (i := 1022) (by decide +kernel)⟩
theorem lw_p60 : lw_okq (⟨"SpecifierDeskModel", "addDigits", "()V"⟩, 29) := ⟨⟨by decide +kernel, by decide +kernel⟩, List.mem_of_getElem? (i := 774) (by decide +kernel), List.mem_of_getElem? (i := 1025) (by decide +kernel), List.mem_of_getElem? (i := 1026) (by decide +kernel)⟩
theorem lw_p61 : lw_okq (⟨"SpecifierDeskModel", "addDigit", "(I)V"⟩, 29) := ⟨⟨by decide +kernel, by decide +kernel⟩, List.mem_of_getElem? (i := 774) (by decide +kernel), List.mem_of_getElem? (i := 1029) (by decide +kernel), List.mem_of_getElem? (i := 1030) (by decide +kernel)⟩
theorem lw_p62 : lw_okq (⟨"SpecifierDeskModel", "isNone", "(I)Z"⟩, 29) := ⟨⟨by decide +kernel, by decide +kernel⟩, List.mem_of_getElem? (i := 774) (by decide +kernel), List.mem_of_getElem? (i := 1033) (by decide +kernel), List.mem_of_getElem? (i := 1034) (by decide +kernel)⟩
theorem lw_p63 : lw_okq (⟨"SpecifierDeskModel", "isLast", "(I)Z"⟩, 29) := ⟨⟨by decide +kernel, by decide +kernel⟩, List.mem_of_getElem? (i := 774) (by decide +kernel), List.mem_of_getElem? (i := 1037) (by decide +kernel), List.mem_of_getElem? (i := 1038) (by decide +kernel)⟩
def lw_privs_4 : List (MethodName × Nat) := [(⟨"SpecifierDeskModel", "has", "(I)Z"⟩, 29), (⟨"SpecifierDeskModel", "allowed", "()I"⟩, 29), (⟨"SpecifierDeskModel", "add", "(I)V"⟩, 29), (⟨"SpecifierDeskModel", "append", "()Z"⟩, 29), (⟨"SpecifierDeskModel", "argumentFault", "(II)I"⟩, 29), (⟨"SpecifierDeskModel", "lay", "(II)V"⟩, 29), (⟨"SpecifierDeskModel", "addTruth", "(Z)V"⟩, 29), (⟨"SpecifierDeskModel", "addWord", "(JJ)V"⟩, 29), (⟨"SpecifierDeskModel", "textOf", "(I)V"⟩, 29), (⟨"SpecifierDeskModel", "isZeroSize", "(I)Z"⟩, 29), (⟨"SpecifierDeskModel", "spellLong", "(JI)V"⟩, 29), (⟨"SpecifierDeskModel", "spell", "(II)V"⟩, 29), (⟨"SpecifierDeskModel", "addDigits", "()V"⟩, 29), (⟨"SpecifierDeskModel", "addDigit", "(I)V"⟩, 29), (⟨"SpecifierDeskModel", "isNone", "(I)Z"⟩, 29), (⟨"SpecifierDeskModel", "isLast", "(I)Z"⟩, 29)]
theorem lw_r4 : ∀ q ∈ lw_privs_4, lw_okq q := List.forall_mem_cons.mpr ⟨lw_p48, List.forall_mem_cons.mpr ⟨lw_p49, List.forall_mem_cons.mpr ⟨lw_p50, List.forall_mem_cons.mpr ⟨lw_p51, List.forall_mem_cons.mpr ⟨lw_p52, List.forall_mem_cons.mpr ⟨lw_p53, List.forall_mem_cons.mpr ⟨lw_p54, List.forall_mem_cons.mpr ⟨lw_p55, List.forall_mem_cons.mpr ⟨lw_p56, List.forall_mem_cons.mpr ⟨lw_p57, List.forall_mem_cons.mpr ⟨lw_p58, List.forall_mem_cons.mpr ⟨lw_p59, List.forall_mem_cons.mpr ⟨lw_p60, List.forall_mem_cons.mpr ⟨lw_p61, List.forall_mem_cons.mpr ⟨lw_p62, List.forall_mem_cons.mpr ⟨lw_p63, fun _ h => absurd h List.not_mem_nil⟩⟩⟩⟩⟩⟩⟩⟩⟩⟩⟩⟩⟩⟩⟩⟩
theorem lw_p64 : lw_okq (⟨"SpecifierDeskModel", "isBelow", "(I)Z"⟩, 29) := ⟨⟨by decide +kernel, by decide +kernel⟩, List.mem_of_getElem? (i := 774) (by decide +kernel), List.mem_of_getElem? (i := 1044) (by decide +kernel), List.mem_of_getElem? (i := 1045) (by decide +kernel)⟩
theorem lw_p65 : lw_okq (⟨"SpecifierDeskModel", "fractionText", "(I)V"⟩, 29) := ⟨⟨by decide +kernel, by decide +kernel⟩, List.mem_of_getElem? (i := 774) (by decide +kernel), List.mem_of_getElem? (i := 1049) (by decide +kernel), List.mem_of_getElem? (i := 1050) (by decide +kernel)⟩
theorem lw_p66 : lw_okq (⟨"SpecifierDeskModel", "take", "(I)V"⟩, 29) := ⟨⟨by decide +kernel, by decide +kernel⟩, List.mem_of_getElem? (i := 774) (by decide +kernel), List.mem_of_getElem? (i := 1053) (by decide +kernel), List.mem_of_getElem? (i := 1054) (by decide +kernel)⟩
theorem lw_p67 : lw_okq (⟨"SpecifierDeskModel", "digit", "(I)I"⟩, 29) := ⟨⟨by decide +kernel, by decide +kernel⟩, List.mem_of_getElem? (i := 774) (by decide +kernel), List.mem_of_getElem? (i := 1058) (by decide +kernel), List.mem_of_getElem? (i := 1059) (by decide +kernel)⟩
theorem lw_p68 : lw_okq (⟨"SpecifierDeskModel", "addNumber", "(II)V"⟩, 29) := ⟨⟨by decide +kernel, by decide +kernel⟩, List.mem_of_getElem? (i := 774) (by decide +kernel), List.mem_of_getElem? (i := 1062) (by decide +kernel), List.mem_of_getElem? (i := 1063) (by decide +kernel)⟩
theorem lw_p69 : lw_okq (⟨"SpecifierDeskModel", "decimalText", "(I)V"⟩, 29) := ⟨⟨by decide +kernel, by decide +kernel⟩, List.mem_of_getElem? (i := 774) (by decide +kernel), List.mem_of_getElem? (i := 1066) (by decide +kernel), List.mem_of_getElem? (i := 1067) (by decide +kernel)⟩
theorem lw_p70 : lw_okq (⟨"SpecifierDeskModel", "wholes", "(II)V"⟩, 29) := ⟨⟨by decide +kernel, by decide +kernel⟩, List.mem_of_getElem? (i := 774) (by decide +kernel), List.mem_of_getElem? (i := 1070) (by decide +kernel), List.mem_of_getElem? (i := 1071) (by decide +kernel)⟩
theorem lw_p71 : lw_okq (⟨"SpecifierDeskModel", "begin", "(Z)V"⟩, 29) := ⟨⟨by decide +kernel, by decide +kernel⟩, List.mem_of_getElem? (i := 774) (by decide +kernel), List.mem_of_getElem? (i := 1074) (by decide +kernel), List.mem_of_getElem? (i := 1075) (by decide +kernel)⟩
theorem lw_p72 : lw_okq (⟨"SpecifierDeskModel", "group", "(II)V"⟩, 29) := ⟨⟨by decide +kernel, by decide +kernel⟩, List.mem_of_getElem? (i := 774) (by decide +kernel), List.mem_of_getElem? (i := 1078) (by decide +kernel), List.mem_of_getElem? (i := 1079) (by decide +kernel)⟩
theorem lw_p73 : lw_okq (⟨"SpecifierDeskModel", "finish", "(ZZ)V"⟩, 29) := ⟨⟨by decide +kernel, by decide +kernel⟩, List.mem_of_getElem? (i := 774) (by decide +kernel), List.mem_of_getElem? (i := 1082) (by decide +kernel), List.mem_of_getElem? (i := 1083) (by decide +kernel)⟩
theorem lw_p74 : lw_okq (⟨"SpecifierDeskModel", "last", "(I)V"⟩, 29) := ⟨⟨by decide +kernel, by decide +kernel⟩, List.mem_of_getElem? (i := 774) (by decide +kernel), List.mem_of_getElem? (i := 1087) (by decide +kernel), List.mem_of_getElem? (i := 1088) (by decide +kernel)⟩
theorem lw_p75 : lw_okq (⟨"SpecifierDeskModel", "hexadecimal", "(I)V"⟩, 29) := ⟨⟨by decide +kernel, by decide +kernel⟩, List.mem_of_getElem? (i := 774) (by decide +kernel), List.mem_of_getElem? (i := 1091) (by decide +kernel), List.mem_of_getElem? (i := 1092) (by decide +kernel)⟩
theorem lw_p76 : lw_okq (⟨"SpecifierDeskModel", "floating", "(II)V"⟩, 29) := ⟨⟨by decide +kernel, by decide +kernel⟩, List.mem_of_getElem? (i := 774) (by decide +kernel), List.mem_of_getElem? (i := 1097) (by decide +kernel), List.mem_of_getElem? (i := 1098) (by decide +kernel)⟩
theorem lw_p77 : lw_okq (⟨"SpecifierDeskModel", "keep", "(I)V"⟩, 29) := ⟨⟨by decide +kernel, by decide +kernel⟩, List.mem_of_getElem? (i := 774) (by decide +kernel), List.mem_of_getElem? (i := 1101) (by decide +kernel), List.mem_of_getElem? (i := 1102) (by decide +kernel)⟩
theorem lw_p78 : lw_okq (⟨"SpecifierDeskModel", "exponential", "(I)V"⟩, 29) := ⟨⟨by decide +kernel, by decide +kernel⟩, List.mem_of_getElem? (i := 774) (by decide +kernel), List.mem_of_getElem? (i := 1105) (by decide +kernel), List.mem_of_getElem? (i := 1106) (by decide +kernel)⟩
theorem lw_p79 : lw_okq (⟨"SpecifierDeskModel", "isZero", "()Z"⟩, 29) := ⟨⟨by decide +kernel, by decide +kernel⟩, List.mem_of_getElem? (i := 774) (by decide +kernel), List.mem_of_getElem? (i := 1109) (by decide +kernel), List.mem_of_getElem? (i := 1110) (by decide +kernel)⟩
def lw_privs_5 : List (MethodName × Nat) := [(⟨"SpecifierDeskModel", "isBelow", "(I)Z"⟩, 29), (⟨"SpecifierDeskModel", "fractionText", "(I)V"⟩, 29), (⟨"SpecifierDeskModel", "take", "(I)V"⟩, 29), (⟨"SpecifierDeskModel", "digit", "(I)I"⟩, 29), (⟨"SpecifierDeskModel", "addNumber", "(II)V"⟩, 29), (⟨"SpecifierDeskModel", "decimalText", "(I)V"⟩, 29), (⟨"SpecifierDeskModel", "wholes", "(II)V"⟩, 29), (⟨"SpecifierDeskModel", "begin", "(Z)V"⟩, 29), (⟨"SpecifierDeskModel", "group", "(II)V"⟩, 29), (⟨"SpecifierDeskModel", "finish", "(ZZ)V"⟩, 29), (⟨"SpecifierDeskModel", "last", "(I)V"⟩, 29), (⟨"SpecifierDeskModel", "hexadecimal", "(I)V"⟩, 29), (⟨"SpecifierDeskModel", "floating", "(II)V"⟩, 29), (⟨"SpecifierDeskModel", "keep", "(I)V"⟩, 29), (⟨"SpecifierDeskModel", "exponential", "(I)V"⟩, 29), (⟨"SpecifierDeskModel", "isZero", "()Z"⟩, 29)]
theorem lw_r5 : ∀ q ∈ lw_privs_5, lw_okq q := List.forall_mem_cons.mpr ⟨lw_p64, List.forall_mem_cons.mpr ⟨lw_p65, List.forall_mem_cons.mpr ⟨lw_p66, List.forall_mem_cons.mpr ⟨lw_p67, List.forall_mem_cons.mpr ⟨lw_p68, List.forall_mem_cons.mpr ⟨lw_p69, List.forall_mem_cons.mpr ⟨lw_p70, List.forall_mem_cons.mpr ⟨lw_p71, List.forall_mem_cons.mpr ⟨lw_p72, List.forall_mem_cons.mpr ⟨lw_p73, List.forall_mem_cons.mpr ⟨lw_p74, List.forall_mem_cons.mpr ⟨lw_p75, List.forall_mem_cons.mpr ⟨lw_p76, List.forall_mem_cons.mpr ⟨lw_p77, List.forall_mem_cons.mpr ⟨lw_p78, List.forall_mem_cons.mpr ⟨lw_p79, fun _ h => absurd h List.not_mem_nil⟩⟩⟩⟩⟩⟩⟩⟩⟩⟩⟩⟩⟩⟩⟩⟩
theorem lw_p80 : lw_okq (⟨"SpecifierDeskModel", "fixed", "(I)V"⟩, 29) := ⟨⟨by decide +kernel, by decide +kernel⟩, List.mem_of_getElem? (i := 774) (by decide +kernel), List.mem_of_getElem? (i := 1113) (by decide +kernel), List.mem_of_getElem? (i := 1114) (by decide +kernel)⟩
def lw_privs_6 : List (MethodName × Nat) := [(⟨"SpecifierDeskModel", "fixed", "(I)V"⟩, 29)]
theorem lw_r6 : ∀ q ∈ lw_privs_6, lw_okq q := List.forall_mem_cons.mpr ⟨lw_p80, fun _ h => absurd h List.not_mem_nil⟩
def lw_privs : List (MethodName × Nat) := lw_privs_1 ++ (lw_privs_2 ++ (lw_privs_3 ++ (lw_privs_4 ++ (lw_privs_5 ++ (lw_privs_6)))))
def lw_tbl : List Cond := k2_sels lw_privs ++ tables_1
theorem lw_privs_ok : ∀ q ∈ lw_privs, lw_okq q := by
  show ∀ q ∈ lw_privs_1 ++ (lw_privs_2 ++ (lw_privs_3 ++ (lw_privs_4 ++ (lw_privs_5 ++ (lw_privs_6))))), lw_okq q
  exact List.forall_mem_append.mpr ⟨lw_r1, List.forall_mem_append.mpr ⟨lw_r2, List.forall_mem_append.mpr ⟨lw_r3, List.forall_mem_append.mpr ⟨lw_r4, List.forall_mem_append.mpr ⟨lw_r5, lw_r6⟩⟩⟩⟩⟩
end
section
def R_Desk : String := "SpecifierDesk"
def R_Object : String := "java/lang/Object"
def R_Row : String := "SpecifierDesk$Row"
def R_Math : String := "java/lang/Math"
def R_Specifier : String := "SpecifierDesk$Specifier"
def R_Composer : String := "SpecifierDesk$Composer"
def R_Digits : String := "SpecifierDesk$Digits"
def R_Hex : String := "SpecifierDesk$Hex"
def R_Argument : String := "SpecifierDesk$Argument"
def R_Arrays : String := "java/util/Arrays"
def R_String : String := "java/lang/String"
def R_StringLatin1 : String := "java/lang/StringLatin1"
def R_StringUTF16 : String := "java/lang/StringUTF16"
def R_Preconditions : String := "jdk/internal/util/Preconditions"
def R_Character : String := "java/lang/Character"
def R_Kind : String := "SpecifierDesk$Kind"
def R_Enum : String := "java/lang/Enum"
def R_Model : String := "SpecifierDeskModel"
def R_Sw : String := "SpecifierDesk$1"
def R_Law0 : String := "SpecifierDeskLaw"
def F_Argument : u_T := fun k => match k with
  | 0 => ("SpecifierDesk$Argument", "words", "[J", true)
  | 1 => ("SpecifierDesk$Argument", "kind", "LSpecifierDesk$Kind;", false)
  | 2 => ("SpecifierDesk$Argument", "minus", "Z", false)
  | 3 => ("SpecifierDesk$Argument", "bits", "J", false)
  | 4 => ("SpecifierDesk$Argument", "wide", "I", false)
  | 5 => ("SpecifierDesk$Argument", "lowest", "I", false)
  | _ => ("SpecifierDesk$Argument", "letters", "LSpecifierDesk$Row;", false)
def t_Argument : Nat → FieldType := fun k => match k with
  | 0 => (.array .long)
  | 1 => (.object "SpecifierDesk$Kind")
  | 2 => .boolean
  | 3 => .long
  | 4 => .int
  | 5 => .int
  | _ => (.object "SpecifierDesk$Row")
theorem no_Argument : ∀ a, a < 7 → ∀ b, b < 7 → a ≠ b → (F_Argument a).2.1 ≠ (F_Argument b).2.1 := by decide +kernel
theorem to_Argument : ∀ k, k < 7 → parseFieldDescriptor (F_Argument k).2.2.1 = some (t_Argument k) := by decide +kernel
def F_Composer : u_T := fun k => match k with
  | 0 => ("SpecifierDesk$Composer", "specifier", "LSpecifierDesk$Specifier;", true)
  | 1 => ("SpecifierDesk$Composer", "result", "LSpecifierDesk$Row;", true)
  | 2 => ("SpecifierDesk$Composer", "head", "LSpecifierDesk$Row;", true)
  | 3 => ("SpecifierDesk$Composer", "body", "LSpecifierDesk$Row;", true)
  | 4 => ("SpecifierDesk$Composer", "digits", "LSpecifierDesk$Digits;", true)
  | 5 => ("SpecifierDesk$Composer", "hex", "LSpecifierDesk$Hex;", true)
  | 6 => ("SpecifierDesk$Composer", "bracketOpen", "Z", false)
  | _ => ("SpecifierDesk$Composer", "zeroFilled", "Z", false)
def t_Composer : Nat → FieldType := fun k => match k with
  | 0 => (.object "SpecifierDesk$Specifier")
  | 1 => (.object "SpecifierDesk$Row")
  | 2 => (.object "SpecifierDesk$Row")
  | 3 => (.object "SpecifierDesk$Row")
  | 4 => (.object "SpecifierDesk$Digits")
  | 5 => (.object "SpecifierDesk$Hex")
  | 6 => .boolean
  | _ => .boolean
theorem no_Composer : ∀ a, a < 8 → ∀ b, b < 8 → a ≠ b → (F_Composer a).2.1 ≠ (F_Composer b).2.1 := by decide +kernel
theorem to_Composer : ∀ k, k < 8 → parseFieldDescriptor (F_Composer k).2.2.1 = some (t_Composer k) := by decide +kernel
def F_Digits : u_T := fun k => match k with
  | 0 => ("SpecifierDesk$Digits", "limbs", "[I", true)
  | 1 => ("SpecifierDesk$Digits", "cells", "[B", true)
  | 2 => ("SpecifierDesk$Digits", "used", "I", false)
  | _ => ("SpecifierDesk$Digits", "lowest", "I", false)
def t_Digits : Nat → FieldType := fun k => match k with
  | 0 => (.array .int)
  | 1 => (.array .byte)
  | 2 => .int
  | _ => .int
theorem no_Digits : ∀ a, a < 4 → ∀ b, b < 4 → a ≠ b → (F_Digits a).2.1 ≠ (F_Digits b).2.1 := by decide +kernel
theorem to_Digits : ∀ k, k < 4 → parseFieldDescriptor (F_Digits k).2.2.1 = some (t_Digits k) := by decide +kernel
def F_Hex : u_T := fun k => match k with
  | 0 => ("SpecifierDesk$Hex", "mantissa", "J", false)
  | 1 => ("SpecifierDesk$Hex", "exponent", "I", false)
  | _ => ("SpecifierDesk$Hex", "digits", "I", false)
def t_Hex : Nat → FieldType := fun k => match k with
  | 0 => .long
  | 1 => .int
  | _ => .int
theorem no_Hex : ∀ a, a < 3 → ∀ b, b < 3 → a ≠ b → (F_Hex a).2.1 ≠ (F_Hex b).2.1 := by decide +kernel
theorem to_Hex : ∀ k, k < 3 → parseFieldDescriptor (F_Hex k).2.2.1 = some (t_Hex k) := by decide +kernel
def F_Row : u_T := fun k => match k with
  | 0 => ("SpecifierDesk$Row", "cells", "[B", true)
  | 1 => ("SpecifierDesk$Row", "used", "I", false)
  | _ => ("SpecifierDesk$Row", "burst", "Z", false)
def t_Row : Nat → FieldType := fun k => match k with
  | 0 => (.array .byte)
  | 1 => .int
  | _ => .boolean
theorem no_Row : ∀ a, a < 3 → ∀ b, b < 3 → a ≠ b → (F_Row a).2.1 ≠ (F_Row b).2.1 := by decide +kernel
theorem to_Row : ∀ k, k < 3 → parseFieldDescriptor (F_Row k).2.2.1 = some (t_Row k) := by decide +kernel
def F_Specifier : u_T := fun k => match k with
  | 0 => ("SpecifierDesk$Specifier", "index", "I", false)
  | 1 => ("SpecifierDesk$Specifier", "flags", "I", false)
  | 2 => ("SpecifierDesk$Specifier", "width", "I", false)
  | 3 => ("SpecifierDesk$Specifier", "precision", "I", false)
  | 4 => ("SpecifierDesk$Specifier", "conversion", "C", false)
  | 5 => ("SpecifierDesk$Specifier", "great", "Z", false)
  | 6 => ("SpecifierDesk$Specifier", "known", "Z", false)
  | 7 => ("SpecifierDesk$Specifier", "cutOff", "Z", false)
  | 8 => ("SpecifierDesk$Specifier", "flagTwice", "Z", false)
  | _ => ("SpecifierDesk$Specifier", "last", "I", false)
def t_Specifier : Nat → FieldType := fun k => match k with
  | 0 => .int
  | 1 => .int
  | 2 => .int
  | 3 => .int
  | 4 => .char
  | 5 => .boolean
  | 6 => .boolean
  | 7 => .boolean
  | 8 => .boolean
  | _ => .int
theorem no_Specifier : ∀ a, a < 10 → ∀ b, b < 10 → a ≠ b → (F_Specifier a).2.1 ≠ (F_Specifier b).2.1 := by decide +kernel
theorem to_Specifier : ∀ k, k < 10 → parseFieldDescriptor (F_Specifier k).2.2.1 = some (t_Specifier k) := by decide +kernel
def F_Desk : u_T := fun k => match k with
  | 0 => ("SpecifierDesk", "draft", "LSpecifierDesk$Row;", true)
  | 1 => ("SpecifierDesk", "result", "LSpecifierDesk$Row;", true)
  | 2 => ("SpecifierDesk", "arguments", "[LSpecifierDesk$Argument;", true)
  | 3 => ("SpecifierDesk", "specifier", "LSpecifierDesk$Specifier;", true)
  | 4 => ("SpecifierDesk", "composer", "LSpecifierDesk$Composer;", true)
  | 5 => ("SpecifierDesk", "argumentCount", "I", false)
  | 6 => ("SpecifierDesk", "nextNumber", "I", false)
  | _ => ("SpecifierDesk", "numberBefore", "I", false)
def t_Desk : Nat → FieldType := fun k => match k with
  | 0 => (.object "SpecifierDesk$Row")
  | 1 => (.object "SpecifierDesk$Row")
  | 2 => (.array (.object "SpecifierDesk$Argument"))
  | 3 => (.object "SpecifierDesk$Specifier")
  | 4 => (.object "SpecifierDesk$Composer")
  | 5 => .int
  | 6 => .int
  | _ => .int
theorem no_Desk : ∀ a, a < 8 → ∀ b, b < 8 → a ≠ b → (F_Desk a).2.1 ≠ (F_Desk b).2.1 := by decide +kernel
theorem to_Desk : ∀ k, k < 8 → parseFieldDescriptor (F_Desk k).2.2.1 = some (t_Desk k) := by decide +kernel
def F_Model : u_T := fun k => match k with
  | 0 => ("SpecifierDeskModel", "draft", "[I", true)
  | 1 => ("SpecifierDeskModel", "drafted", "I", false)
  | 2 => ("SpecifierDeskModel", "result", "[I", true)
  | 3 => ("SpecifierDeskModel", "length", "I", false)
  | 4 => ("SpecifierDeskModel", "arguments", "I", false)
  | 5 => ("SpecifierDeskModel", "kinds", "[I", true)
  | 6 => ("SpecifierDeskModel", "values", "[J", true)
  | 7 => ("SpecifierDeskModel", "widths", "[I", true)
  | 8 => ("SpecifierDeskModel", "below", "[Z", true)
  | 9 => ("SpecifierDeskModel", "sizes", "[I", true)
  | 10 => ("SpecifierDeskModel", "scales", "[I", true)
  | 11 => ("SpecifierDeskModel", "parts", "[J", true)
  | 12 => ("SpecifierDeskModel", "texts", "[I", true)
  | 13 => ("SpecifierDeskModel", "lengths", "[I", true)
  | 14 => ("SpecifierDeskModel", "end", "I", false)
  | 15 => ("SpecifierDeskModel", "index", "I", false)
  | 16 => ("SpecifierDeskModel", "flags", "I", false)
  | 17 => ("SpecifierDeskModel", "twice", "Z", false)
  | 18 => ("SpecifierDeskModel", "width", "I", false)
  | 19 => ("SpecifierDeskModel", "precision", "I", false)
  | 20 => ("SpecifierDeskModel", "conversion", "I", false)
  | 21 => ("SpecifierDeskModel", "broken", "Z", false)
  | 22 => ("SpecifierDeskModel", "piece", "[I", true)
  | 23 => ("SpecifierDeskModel", "put", "I", false)
  | 24 => ("SpecifierDeskModel", "head", "I", false)
  | 25 => ("SpecifierDeskModel", "tens", "[I", true)
  | 26 => ("SpecifierDeskModel", "count", "I", false)
  | 27 => ("SpecifierDeskModel", "exponent", "I", false)
  | _ => ("SpecifierDeskModel", "work", "[I", true)
def t_Model : Nat → FieldType := fun k => match k with
  | 0 => (.array .int)
  | 1 => .int
  | 2 => (.array .int)
  | 3 => .int
  | 4 => .int
  | 5 => (.array .int)
  | 6 => (.array .long)
  | 7 => (.array .int)
  | 8 => (.array .boolean)
  | 9 => (.array .int)
  | 10 => (.array .int)
  | 11 => (.array .long)
  | 12 => (.array .int)
  | 13 => (.array .int)
  | 14 => .int
  | 15 => .int
  | 16 => .int
  | 17 => .boolean
  | 18 => .int
  | 19 => .int
  | 20 => .int
  | 21 => .boolean
  | 22 => (.array .int)
  | 23 => .int
  | 24 => .int
  | 25 => (.array .int)
  | 26 => .int
  | 27 => .int
  | _ => (.array .int)
theorem no_Model : ∀ a, a < 29 → ∀ b, b < 29 → a ≠ b → (F_Model a).2.1 ≠ (F_Model b).2.1 := by decide +kernel
theorem to_Model : ∀ k, k < 29 → parseFieldDescriptor (F_Model k).2.2.1 = some (t_Model k) := by decide +kernel
abbrev vwCl : List vw_C := [(R_Argument, F_Argument, 7), (R_Composer, F_Composer, 8), (R_Digits, F_Digits, 4), (R_Hex, F_Hex, 3), (R_Row, F_Row, 3), (R_Specifier, F_Specifier, 10), (R_Desk, F_Desk, 8), (R_Model, F_Model, 29)]
def y_Desk_init : MethodName := ⟨R_Desk, "<init>", "()V"⟩
abbrev b_Desk_init : ByteArray := prog_1_method_1_code
def y_Desk_write : MethodName := ⟨R_Desk, "write", "(J)Z"⟩
abbrev b_Desk_write : ByteArray := prog_1_method_2_code
def y_Desk_clear : MethodName := ⟨R_Desk, "clear", "()V"⟩
abbrev b_Desk_clear : ByteArray := prog_1_method_3_code
def y_Desk_nothing : MethodName := ⟨R_Desk, "nothing", "()I"⟩
abbrev b_Desk_nothing : ByteArray := prog_1_method_4_code
def y_Desk_takeArgument : MethodName := ⟨R_Desk, "takeArgument", "(LSpecifierDesk$Kind;ZJ)LSpecifierDesk$Argument;"⟩
abbrev b_Desk_takeArgument : ByteArray := prog_1_method_16_code
def y_Desk_truth : MethodName := ⟨R_Desk, "truth", "(Z)I"⟩
abbrev b_Desk_truth : ByteArray := prog_1_method_5_code
def y_Desk_character : MethodName := ⟨R_Desk, "character", "(I)I"⟩
abbrev b_Desk_character : ByteArray := prog_1_method_6_code
def y_Desk_whole : MethodName := ⟨R_Desk, "whole", "(JI)I"⟩
abbrev b_Desk_whole : ByteArray := prog_1_method_7_code
def y_Desk_size : MethodName := ⟨R_Desk, "size", "(ZJ)I"⟩
abbrev b_Desk_size : ByteArray := prog_1_method_8_code
def y_Desk_more : MethodName := ⟨R_Desk, "more", "(J)I"⟩
abbrev b_Desk_more : ByteArray := prog_1_method_9_code
def y_Desk_latestArgument : MethodName := ⟨R_Desk, "latestArgument", "()LSpecifierDesk$Argument;"⟩
abbrev b_Desk_latestArgument : ByteArray := prog_1_method_17_code
def y_Desk_argumentOf : MethodName := ⟨R_Desk, "argumentOf", "(I)LSpecifierDesk$Argument;"⟩
abbrev b_Desk_argumentOf : ByteArray := prog_1_method_18_code
def y_Desk_scale : MethodName := ⟨R_Desk, "scale", "(I)I"⟩
abbrev b_Desk_scale : ByteArray := prog_1_method_10_code
def y_Desk_fraction : MethodName := ⟨R_Desk, "fraction", "(JJI)I"⟩
abbrev b_Desk_fraction : ByteArray := prog_1_method_11_code
def y_Desk_text : MethodName := ⟨R_Desk, "text", "()I"⟩
abbrev b_Desk_text : ByteArray := prog_1_method_12_code
def y_Desk_layOut : MethodName := ⟨R_Desk, "layOut", "()I"⟩
abbrev b_Desk_layOut : ByteArray := prog_1_method_13_code
def y_Desk_readAll : MethodName := ⟨R_Desk, "readAll", "()I"⟩
abbrev b_Desk_readAll : ByteArray := prog_1_method_19_code
def y_Desk_layOutSpecifier : MethodName := ⟨R_Desk, "layOutSpecifier", "()I"⟩
abbrev b_Desk_layOutSpecifier : ByteArray := prog_1_method_20_code
def y_Desk_chosenNumber : MethodName := ⟨R_Desk, "chosenNumber", "()I"⟩
abbrev b_Desk_chosenNumber : ByteArray := prog_1_method_21_code
def y_Desk_faultOf : MethodName := ⟨R_Desk, "faultOf", "(LSpecifierDesk$Argument;)I"⟩
abbrev b_Desk_faultOf : ByteArray := prog_1_method_22_code
def y_Desk_length : MethodName := ⟨R_Desk, "length", "()I"⟩
abbrev b_Desk_length : ByteArray := prog_1_method_14_code
def y_Desk_characterAt : MethodName := ⟨R_Desk, "characterAt", "(I)I"⟩
abbrev b_Desk_characterAt : ByteArray := prog_1_method_15_code
def y_Object_init : MethodName := ⟨R_Object, "<init>", "()V"⟩
abbrev b_Object_init : ByteArray := object_method_1_code
def y_Row_init : MethodName := ⟨R_Row, "<init>", "(I)V"⟩
abbrev b_Row_init : ByteArray := prog_8_method_1_code
def y_Row_add : MethodName := ⟨R_Row, "add", "(I)V"⟩
abbrev b_Row_add : ByteArray := prog_8_method_3_code
def y_Row_empty : MethodName := ⟨R_Row, "empty", "()V"⟩
abbrev b_Row_empty : ByteArray := prog_8_method_2_code
def y_Row_addRow : MethodName := ⟨R_Row, "addRow", "(LSpecifierDesk$Row;)V"⟩
abbrev b_Row_addRow : ByteArray := prog_8_method_6_code
def y_Row_at : MethodName := ⟨R_Row, "at", "(I)I"⟩
abbrev b_Row_at : ByteArray := prog_8_method_10_code
def y_Row_addMany : MethodName := ⟨R_Row, "addMany", "(II)V"⟩
abbrev b_Row_addMany : ByteArray := prog_8_method_4_code
def y_Row_raiseFrom : MethodName := ⟨R_Row, "raiseFrom", "(I)V"⟩
abbrev b_Row_raiseFrom : ByteArray := prog_8_method_9_code
def y_Row_addWord : MethodName := ⟨R_Row, "addWord", "(Ljava/lang/String;)V"⟩
abbrev b_Row_addWord : ByteArray := prog_8_method_5_code
def y_Row_addNumber : MethodName := ⟨R_Row, "addNumber", "(II)V"⟩
abbrev b_Row_addNumber : ByteArray := prog_8_method_7_code
def y_Row_cutTo : MethodName := ⟨R_Row, "cutTo", "(I)V"⟩
abbrev b_Row_cutTo : ByteArray := prog_8_method_8_code
def y_Math_max : MethodName := ⟨R_Math, "max", "(II)I"⟩
abbrev b_Math_max : ByteArray := prog_14_method_65_code
def y_Math_min : MethodName := ⟨R_Math, "min", "(II)I"⟩
abbrev b_Math_min : ByteArray := prog_14_method_69_code
def y_Math_abs : MethodName := ⟨R_Math, "abs", "(I)I"⟩
abbrev b_Math_abs : ByteArray := prog_14_method_59_code
def y_Specifier_init : MethodName := ⟨R_Specifier, "<init>", "()V"⟩
abbrev b_Specifier_init : ByteArray := prog_9_method_1_code
def y_Specifier_readFrom : MethodName := ⟨R_Specifier, "readFrom", "(LSpecifierDesk$Row;I)V"⟩
abbrev b_Specifier_readFrom : ByteArray := prog_9_method_2_code
def y_Specifier_readIndex : MethodName := ⟨R_Specifier, "readIndex", "(LSpecifierDesk$Row;I)I"⟩
abbrev b_Specifier_readIndex : ByteArray := prog_9_method_9_code
def y_Specifier_digitsEnd : MethodName := ⟨R_Specifier, "digitsEnd", "(LSpecifierDesk$Row;I)I"⟩
abbrev b_Specifier_digitsEnd : ByteArray := prog_9_method_14_code
def y_Specifier_numberIn : MethodName := ⟨R_Specifier, "numberIn", "(LSpecifierDesk$Row;II)I"⟩
abbrev b_Specifier_numberIn : ByteArray := prog_9_method_15_code
def y_Specifier_readFlags : MethodName := ⟨R_Specifier, "readFlags", "(LSpecifierDesk$Row;I)I"⟩
abbrev b_Specifier_readFlags : ByteArray := prog_9_method_10_code
def y_Specifier_flagOf : MethodName := ⟨R_Specifier, "flagOf", "(I)I"⟩
abbrev b_Specifier_flagOf : ByteArray := prog_9_method_16_code
def y_Specifier_hasAny : MethodName := ⟨R_Specifier, "hasAny", "(I)Z"⟩
abbrev b_Specifier_hasAny : ByteArray := prog_9_method_3_code
def y_Specifier_readWidth : MethodName := ⟨R_Specifier, "readWidth", "(LSpecifierDesk$Row;I)I"⟩
abbrev b_Specifier_readWidth : ByteArray := prog_9_method_11_code
def y_Specifier_readPrecision : MethodName := ⟨R_Specifier, "readPrecision", "(LSpecifierDesk$Row;I)I"⟩
abbrev b_Specifier_readPrecision : ByteArray := prog_9_method_12_code
def y_Specifier_readConversion : MethodName := ⟨R_Specifier, "readConversion", "(LSpecifierDesk$Row;I)V"⟩
abbrev b_Specifier_readConversion : ByteArray := prog_9_method_13_code
def y_Specifier_fault : MethodName := ⟨R_Specifier, "fault", "()I"⟩
abbrev b_Specifier_fault : ByteArray := prog_9_method_5_code
def y_Specifier_faultOfLineEnd : MethodName := ⟨R_Specifier, "faultOfLineEnd", "()I"⟩
abbrev b_Specifier_faultOfLineEnd : ByteArray := prog_9_method_6_code
def y_Specifier_faultOfParts : MethodName := ⟨R_Specifier, "faultOfParts", "()I"⟩
abbrev b_Specifier_faultOfParts : ByteArray := prog_9_method_7_code
def y_Specifier_hasBoth : MethodName := ⟨R_Specifier, "hasBoth", "(II)Z"⟩
abbrev b_Specifier_hasBoth : ByteArray := prog_9_method_4_code
def y_Specifier_ownFlags : MethodName := ⟨R_Specifier, "ownFlags", "()I"⟩
abbrev b_Specifier_ownFlags : ByteArray := prog_9_method_8_code
def y_Composer_init : MethodName := ⟨R_Composer, "<init>", "(LSpecifierDesk$Specifier;LSpecifierDesk$Row;)V"⟩
abbrev b_Composer_init : ByteArray := prog_4_method_1_code
def y_Composer_layMark : MethodName := ⟨R_Composer, "layMark", "(I)V"⟩
abbrev b_Composer_layMark : ByteArray := prog_4_method_2_code
def y_Composer_start : MethodName := ⟨R_Composer, "start", "()V"⟩
abbrev b_Composer_start : ByteArray := prog_4_method_4_code
def y_Composer_putTogether : MethodName := ⟨R_Composer, "putTogether", "()V"⟩
abbrev b_Composer_putTogether : ByteArray := prog_4_method_6_code
def y_Composer_layArgument : MethodName := ⟨R_Composer, "layArgument", "(LSpecifierDesk$Argument;)V"⟩
abbrev b_Composer_layArgument : ByteArray := prog_4_method_3_code
def y_Composer_setUnfilled : MethodName := ⟨R_Composer, "setUnfilled", "(Ljava/lang/String;)V"⟩
abbrev b_Composer_setUnfilled : ByteArray := prog_4_method_5_code
def y_Composer_setSign : MethodName := ⟨R_Composer, "setSign", "(Z)V"⟩
abbrev b_Composer_setSign : ByteArray := prog_4_method_11_code
def y_Composer_addTruth : MethodName := ⟨R_Composer, "addTruth", "(Z)V"⟩
abbrev b_Composer_addTruth : ByteArray := prog_4_method_17_code
def y_Composer_setText : MethodName := ⟨R_Composer, "setText", "(LSpecifierDesk$Argument;)V"⟩
abbrev b_Composer_setText : ByteArray := prog_4_method_7_code
def y_Composer_setDecimalText : MethodName := ⟨R_Composer, "setDecimalText", "(LSpecifierDesk$Argument;)V"⟩
abbrev b_Composer_setDecimalText : ByteArray := prog_4_method_8_code
def y_Composer_addMinus : MethodName := ⟨R_Composer, "addMinus", "(Z)V"⟩
abbrev b_Composer_addMinus : ByteArray := prog_4_method_16_code
def y_Composer_addWhole : MethodName := ⟨R_Composer, "addWhole", "(Z)V"⟩
abbrev b_Composer_addWhole : ByteArray := prog_4_method_18_code
def y_Composer_letterOf : MethodName := ⟨R_Composer, "letterOf", "(I)I"⟩
abbrev b_Composer_letterOf : ByteArray := prog_4_method_20_code
def y_Composer_addBehindPoint : MethodName := ⟨R_Composer, "addBehindPoint", "(IIZ)V"⟩
abbrev b_Composer_addBehindPoint : ByteArray := prog_4_method_19_code
def y_Composer_setFractionText : MethodName := ⟨R_Composer, "setFractionText", "(LSpecifierDesk$Argument;)V"⟩
abbrev b_Composer_setFractionText : ByteArray := prog_4_method_9_code
def y_Composer_setBased : MethodName := ⟨R_Composer, "setBased", "(LSpecifierDesk$Argument;I)V"⟩
abbrev b_Composer_setBased : ByteArray := prog_4_method_12_code
def y_Composer_setHex : MethodName := ⟨R_Composer, "setHex", "(LSpecifierDesk$Argument;)V"⟩
abbrev b_Composer_setHex : ByteArray := prog_4_method_15_code
def y_Composer_setDecimal : MethodName := ⟨R_Composer, "setDecimal", "(LSpecifierDesk$Argument;)V"⟩
abbrev b_Composer_setDecimal : ByteArray := prog_4_method_10_code
def y_Composer_setFixed : MethodName := ⟨R_Composer, "setFixed", "(I)V"⟩
abbrev b_Composer_setFixed : ByteArray := prog_4_method_13_code
def y_Composer_setScientific : MethodName := ⟨R_Composer, "setScientific", "(I)V"⟩
abbrev b_Composer_setScientific : ByteArray := prog_4_method_14_code
def y_Digits_init : MethodName := ⟨R_Digits, "<init>", "()V"⟩
abbrev b_Digits_init : ByteArray := prog_5_method_1_code
def y_Digits_take : MethodName := ⟨R_Digits, "take", "(LSpecifierDesk$Argument;I)V"⟩
abbrev b_Digits_take : ByteArray := prog_5_method_2_code
def y_Digits_setLimbs : MethodName := ⟨R_Digits, "setLimbs", "(IJ)V"⟩
abbrev b_Digits_setLimbs : ByteArray := prog_5_method_11_code
def y_Digits_spell : MethodName := ⟨R_Digits, "spell", "(I)V"⟩
abbrev b_Digits_spell : ByteArray := prog_5_method_12_code
def y_Digits_topFrom : MethodName := ⟨R_Digits, "topFrom", "(I)I"⟩
abbrev b_Digits_topFrom : ByteArray := prog_5_method_13_code
def y_Digits_divide : MethodName := ⟨R_Digits, "divide", "(II)J"⟩
abbrev b_Digits_divide : ByteArray := prog_5_method_14_code
def y_Digits_trim : MethodName := ⟨R_Digits, "trim", "()V"⟩
abbrev b_Digits_trim : ByteArray := prog_5_method_10_code
def y_Digits_isZero : MethodName := ⟨R_Digits, "isZero", "()Z"⟩
abbrev b_Digits_isZero : ByteArray := prog_5_method_4_code
def y_Digits_first : MethodName := ⟨R_Digits, "first", "()I"⟩
abbrev b_Digits_first : ByteArray := prog_5_method_5_code
def y_Digits_at : MethodName := ⟨R_Digits, "at", "(I)I"⟩
abbrev b_Digits_at : ByteArray := prog_5_method_7_code
def y_Digits_lastNotZero : MethodName := ⟨R_Digits, "lastNotZero", "()I"⟩
abbrev b_Digits_lastNotZero : ByteArray := prog_5_method_6_code
def y_Digits_takeBits : MethodName := ⟨R_Digits, "takeBits", "(JI)V"⟩
abbrev b_Digits_takeBits : ByteArray := prog_5_method_3_code
def y_Digits_roundTo : MethodName := ⟨R_Digits, "roundTo", "(I)V"⟩
abbrev b_Digits_roundTo : ByteArray := prog_5_method_8_code
def y_Digits_carryInto : MethodName := ⟨R_Digits, "carryInto", "(I)V"⟩
abbrev b_Digits_carryInto : ByteArray := prog_5_method_9_code
def y_Hex_init : MethodName := ⟨R_Hex, "<init>", "()V"⟩
abbrev b_Hex_init : ByteArray := prog_6_method_1_code
def y_Hex_exponentBits : MethodName := ⟨R_Hex, "exponentBits", "(J)I"⟩
abbrev b_Hex_exponentBits : ByteArray := prog_6_method_2_code
def y_Hex_take : MethodName := ⟨R_Hex, "take", "(J)V"⟩
abbrev b_Hex_take : ByteArray := prog_6_method_3_code
def y_Hex_dropZeros : MethodName := ⟨R_Hex, "dropZeros", "()V"⟩
abbrev b_Hex_dropZeros : ByteArray := prog_6_method_5_code
def y_Hex_roundTo : MethodName := ⟨R_Hex, "roundTo", "(I)V"⟩
abbrev b_Hex_roundTo : ByteArray := prog_6_method_4_code
def y_Hex_at : MethodName := ⟨R_Hex, "at", "(I)I"⟩
abbrev b_Hex_at : ByteArray := prog_6_method_6_code
def y_Argument_init : MethodName := ⟨R_Argument, "<init>", "()V"⟩
abbrev b_Argument_init : ByteArray := prog_3_method_1_code
def y_Argument_become : MethodName := ⟨R_Argument, "become", "(LSpecifierDesk$Kind;ZJ)V"⟩
abbrev b_Argument_become : ByteArray := prog_3_method_2_code
def y_Argument_growBy : MethodName := ⟨R_Argument, "growBy", "(J)Z"⟩
abbrev b_Argument_growBy : ByteArray := prog_3_method_3_code
def y_Argument_isCharacterNumber : MethodName := ⟨R_Argument, "isCharacterNumber", "()Z"⟩
abbrev b_Argument_isCharacterNumber : ByteArray := prog_3_method_5_code
def y_Argument_isNoNumber : MethodName := ⟨R_Argument, "isNoNumber", "()Z"⟩
abbrev b_Argument_isNoNumber : ByteArray := prog_3_method_6_code
def y_Argument_isBeyondNumbers : MethodName := ⟨R_Argument, "isBeyondNumbers", "()Z"⟩
abbrev b_Argument_isBeyondNumbers : ByteArray := prog_3_method_7_code
def y_Argument_isBelowZero : MethodName := ⟨R_Argument, "isBelowZero", "()Z"⟩
abbrev b_Argument_isBelowZero : ByteArray := prog_3_method_4_code
def y_Argument_isSizeZero : MethodName := ⟨R_Argument, "isSizeZero", "()Z"⟩
abbrev b_Argument_isSizeZero : ByteArray := prog_3_method_8_code
def y_Arrays_fill : MethodName := ⟨R_Arrays, "fill", "([JJ)V"⟩
abbrev b_Arrays_fill : ByteArray := prog_18_method_101_code
def y_Arrays_fill_1 : MethodName := ⟨R_Arrays, "fill", "([II)V"⟩
abbrev b_Arrays_fill_1 : ByteArray := prog_18_method_103_code
def y_String_indexOf : MethodName := ⟨R_String, "indexOf", "(I)I"⟩
abbrev b_String_indexOf : ByteArray := prog_15_method_79_code
def y_String_indexOf_1 : MethodName := ⟨R_String, "indexOf", "(II)I"⟩
abbrev b_String_indexOf_1 : ByteArray := prog_15_method_80_code
def y_String_isLatin1 : MethodName := ⟨R_String, "isLatin1", "()Z"⟩
abbrev b_String_isLatin1 : ByteArray := prog_15_method_154_code
def y_String_length : MethodName := ⟨R_String, "length", "()I"⟩
abbrev b_String_length : ByteArray := prog_15_method_54_code
def y_String_coder : MethodName := ⟨R_String, "coder", "()B"⟩
abbrev b_String_coder : ByteArray := prog_15_method_152_code
def y_String_checkBoundsBeginEnd : MethodName := ⟨R_String, "checkBoundsBeginEnd", "(III)V"⟩
abbrev b_String_checkBoundsBeginEnd : ByteArray := prog_15_method_158_code
def y_String_charAt : MethodName := ⟨R_String, "charAt", "(I)C"⟩
abbrev b_String_charAt : ByteArray := prog_15_method_56_code
def y_String_checkIndex : MethodName := ⟨R_String, "checkIndex", "(II)V"⟩
abbrev b_String_checkIndex : ByteArray := prog_15_method_155_code
def y_StringLatin1_indexOf : MethodName := ⟨R_StringLatin1, "indexOf", "([BIII)I"⟩
abbrev b_StringLatin1_indexOf : ByteArray := prog_16_method_22_code
def y_StringLatin1_canEncode : MethodName := ⟨R_StringLatin1, "canEncode", "(I)Z"⟩
abbrev b_StringLatin1_canEncode : ByteArray := prog_16_method_4_code
def y_StringLatin1_indexOfChar : MethodName := ⟨R_StringLatin1, "indexOfChar", "([BIII)I"⟩
abbrev b_StringLatin1_indexOfChar : ByteArray := prog_16_method_23_code
def y_StringLatin1_charAt : MethodName := ⟨R_StringLatin1, "charAt", "([BI)C"⟩
abbrev b_StringLatin1_charAt : ByteArray := prog_16_method_2_code
def y_StringUTF16_indexOf : MethodName := ⟨R_StringUTF16, "indexOf", "([BIII)I"⟩
abbrev b_StringUTF16_indexOf : ByteArray := prog_17_method_40_code
def y_StringUTF16_indexOfChar : MethodName := ⟨R_StringUTF16, "indexOfChar", "([BIII)I"⟩
abbrev b_StringUTF16_indexOfChar : ByteArray := prog_17_method_47_code
def y_StringUTF16_checkBoundsBeginEnd : MethodName := ⟨R_StringUTF16, "checkBoundsBeginEnd", "(II[B)V"⟩
abbrev b_StringUTF16_checkBoundsBeginEnd : ByteArray := prog_17_method_93_code
def y_StringUTF16_length : MethodName := ⟨R_StringUTF16, "length", "([B)I"⟩
abbrev b_StringUTF16_length : ByteArray := prog_17_method_6_code
def y_StringUTF16_indexOfCharUnsafe : MethodName := ⟨R_StringUTF16, "indexOfCharUnsafe", "([BIII)I"⟩
abbrev b_StringUTF16_indexOfCharUnsafe : ByteArray := prog_17_method_48_code
def y_StringUTF16_getChar : MethodName := ⟨R_StringUTF16, "getChar", "([BI)C"⟩
abbrev b_StringUTF16_getChar : ByteArray := prog_17_method_5_code
def y_StringUTF16_indexOfSupplementary : MethodName := ⟨R_StringUTF16, "indexOfSupplementary", "([BIII)I"⟩
abbrev b_StringUTF16_indexOfSupplementary : ByteArray := prog_17_method_49_code
def y_StringUTF16_charAt : MethodName := ⟨R_StringUTF16, "charAt", "([BI)C"⟩
abbrev b_StringUTF16_charAt : ByteArray := prog_17_method_83_code
def y_StringUTF16_checkIndex : MethodName := ⟨R_StringUTF16, "checkIndex", "(I[B)V"⟩
abbrev b_StringUTF16_checkIndex : ByteArray := prog_17_method_91_code
def y_Preconditions_checkFromToIndex : MethodName := ⟨R_Preconditions, "checkFromToIndex", "(IIILjava/util/function/BiFunction;)I"⟩
abbrev b_Preconditions_checkFromToIndex : ByteArray := prog_19_method_12_code
def y_Preconditions_checkIndex : MethodName := ⟨R_Preconditions, "checkIndex", "(IILjava/util/function/BiFunction;)I"⟩
abbrev b_Preconditions_checkIndex : ByteArray := prog_19_method_11_code
def y_Character_isValidCodePoint : MethodName := ⟨R_Character, "isValidCodePoint", "(I)Z"⟩
abbrev b_Character_isValidCodePoint : ByteArray := prog_12_method_11_code
def y_Character_highSurrogate : MethodName := ⟨R_Character, "highSurrogate", "(I)C"⟩
abbrev b_Character_highSurrogate : ByteArray := prog_12_method_28_code
def y_Character_lowSurrogate : MethodName := ⟨R_Character, "lowSurrogate", "(I)C"⟩
abbrev b_Character_lowSurrogate : ByteArray := prog_12_method_29_code
def y_Kind_goesWith : MethodName := ⟨R_Kind, "goesWith", "(C)Z"⟩
abbrev b_Kind_goesWith : ByteArray := prog_7_method_4_code
def y_Enum_ordinal : MethodName := ⟨R_Enum, "ordinal", "()I"⟩
abbrev b_Enum_ordinal : ByteArray := prog_13_method_2_code
def y_Model_init : MethodName := ⟨R_Model, "<init>", "()V"⟩
abbrev b_Model_init : ByteArray := prog_11_method_1_code
def y_Model_write : MethodName := ⟨R_Model, "write", "(J)Z"⟩
abbrev b_Model_write : ByteArray := prog_11_method_2_code
def y_Model_clear : MethodName := ⟨R_Model, "clear", "()V"⟩
abbrev b_Model_clear : ByteArray := prog_11_method_3_code
def y_Model_nothing : MethodName := ⟨R_Model, "nothing", "()I"⟩
abbrev b_Model_nothing : ByteArray := prog_11_method_5_code
def y_Model_argument : MethodName := ⟨R_Model, "argument", "(IJZ)I"⟩
abbrev b_Model_argument : ByteArray := prog_11_method_4_code
def y_Model_truth : MethodName := ⟨R_Model, "truth", "(Z)I"⟩
abbrev b_Model_truth : ByteArray := prog_11_method_6_code
def y_Model_character : MethodName := ⟨R_Model, "character", "(I)I"⟩
abbrev b_Model_character : ByteArray := prog_11_method_7_code
def y_Model_whole : MethodName := ⟨R_Model, "whole", "(JI)I"⟩
abbrev b_Model_whole : ByteArray := prog_11_method_8_code
def y_Model_size : MethodName := ⟨R_Model, "size", "(ZJ)I"⟩
abbrev b_Model_size : ByteArray := prog_11_method_10_code
def y_Model_sizeOf : MethodName := ⟨R_Model, "sizeOf", "(IJ)V"⟩
abbrev b_Model_sizeOf : ByteArray := prog_11_method_9_code
def y_Model_more : MethodName := ⟨R_Model, "more", "(J)I"⟩
abbrev b_Model_more : ByteArray := prog_11_method_11_code
def y_Model_scale : MethodName := ⟨R_Model, "scale", "(I)I"⟩
abbrev b_Model_scale : ByteArray := prog_11_method_12_code
def y_Model_fraction : MethodName := ⟨R_Model, "fraction", "(JJI)I"⟩
abbrev b_Model_fraction : ByteArray := prog_11_method_13_code
def y_Model_text : MethodName := ⟨R_Model, "text", "()I"⟩
abbrev b_Model_text : ByteArray := prog_11_method_14_code
def y_Model_layOut : MethodName := ⟨R_Model, "layOut", "()I"⟩
abbrev b_Model_layOut : ByteArray := prog_11_method_59_code
def y_Model_goOver : MethodName := ⟨R_Model, "goOver", "(I)V"⟩
abbrev b_Model_goOver : ByteArray := prog_11_method_20_code
def y_Model_look : MethodName := ⟨R_Model, "look", "(I)I"⟩
abbrev b_Model_look : ByteArray := prog_11_method_15_code
def y_Model_isDigit : MethodName := ⟨R_Model, "isDigit", "(I)Z"⟩
abbrev b_Model_isDigit : ByteArray := prog_11_method_16_code
def y_Model_digitsEnd : MethodName := ⟨R_Model, "digitsEnd", "(I)I"⟩
abbrev b_Model_digitsEnd : ByteArray := prog_11_method_17_code
def y_Model_said : MethodName := ⟨R_Model, "said", "(II)I"⟩
abbrev b_Model_said : ByteArray := prog_11_method_18_code
def y_Model_flagOf : MethodName := ⟨R_Model, "flagOf", "(I)I"⟩
abbrev b_Model_flagOf : ByteArray := prog_11_method_19_code
def y_Model_faultOf : MethodName := ⟨R_Model, "faultOf", "()I"⟩
abbrev b_Model_faultOf : ByteArray := prog_11_method_27_code
def y_Model_small : MethodName := ⟨R_Model, "small", "()I"⟩
abbrev b_Model_small : ByteArray := prog_11_method_22_code
def y_Model_isGreat : MethodName := ⟨R_Model, "isGreat", "()Z"⟩
abbrev b_Model_isGreat : ByteArray := prog_11_method_23_code
def y_Model_isOneOf : MethodName := ⟨R_Model, "isOneOf", "(IJJ)Z"⟩
abbrev b_Model_isOneOf : ByteArray := prog_11_method_21_code
def y_Model_isNumber : MethodName := ⟨R_Model, "isNumber", "()Z"⟩
abbrev b_Model_isNumber : ByteArray := prog_11_method_24_code
def y_Model_has : MethodName := ⟨R_Model, "has", "(I)Z"⟩
abbrev b_Model_has : ByteArray := prog_11_method_26_code
def y_Model_allowed : MethodName := ⟨R_Model, "allowed", "()I"⟩
abbrev b_Model_allowed : ByteArray := prog_11_method_25_code
def y_Model_add : MethodName := ⟨R_Model, "add", "(I)V"⟩
abbrev b_Model_add : ByteArray := prog_11_method_34_code
def y_Model_append : MethodName := ⟨R_Model, "append", "()Z"⟩
abbrev b_Model_append : ByteArray := prog_11_method_58_code
def y_Model_argumentFault : MethodName := ⟨R_Model, "argumentFault", "(II)I"⟩
abbrev b_Model_argumentFault : ByteArray := prog_11_method_56_code
def y_Model_lay : MethodName := ⟨R_Model, "lay", "(II)V"⟩
abbrev b_Model_lay : ByteArray := prog_11_method_57_code
def y_Model_addTruth : MethodName := ⟨R_Model, "addTruth", "(Z)V"⟩
abbrev b_Model_addTruth : ByteArray := prog_11_method_55_code
def y_Model_addWord : MethodName := ⟨R_Model, "addWord", "(JJ)V"⟩
abbrev b_Model_addWord : ByteArray := prog_11_method_35_code
def y_Model_textOf : MethodName := ⟨R_Model, "textOf", "(I)V"⟩
abbrev b_Model_textOf : ByteArray := prog_11_method_52_code
def y_Model_isZeroSize : MethodName := ⟨R_Model, "isZeroSize", "(I)Z"⟩
abbrev b_Model_isZeroSize : ByteArray := prog_11_method_43_code
def y_Model_spellLong : MethodName := ⟨R_Model, "spellLong", "(JI)V"⟩
abbrev b_Model_spellLong : ByteArray := prog_11_method_29_code
def y_Model_spell : MethodName := ⟨R_Model, "spell", "(II)V"⟩
abbrev b_Model_spell : ByteArray := prog_11_method_28_code
def y_Model_addDigits : MethodName := ⟨R_Model, "addDigits", "()V"⟩
abbrev b_Model_addDigits : ByteArray := prog_11_method_38_code
def y_Model_addDigit : MethodName := ⟨R_Model, "addDigit", "(I)V"⟩
abbrev b_Model_addDigit : ByteArray := prog_11_method_37_code
def y_Model_isNone : MethodName := ⟨R_Model, "isNone", "(I)Z"⟩
abbrev b_Model_isNone : ByteArray := prog_11_method_46_code
def y_Model_isLast : MethodName := ⟨R_Model, "isLast", "(I)Z"⟩
abbrev b_Model_isLast : ByteArray := prog_11_method_45_code
def y_Model_isBelow : MethodName := ⟨R_Model, "isBelow", "(I)Z"⟩
abbrev b_Model_isBelow : ByteArray := prog_11_method_44_code
def y_Model_fractionText : MethodName := ⟨R_Model, "fractionText", "(I)V"⟩
abbrev b_Model_fractionText : ByteArray := prog_11_method_53_code
def y_Model_take : MethodName := ⟨R_Model, "take", "(I)V"⟩
abbrev b_Model_take : ByteArray := prog_11_method_30_code
def y_Model_digit : MethodName := ⟨R_Model, "digit", "(I)I"⟩
abbrev b_Model_digit : ByteArray := prog_11_method_31_code
def y_Model_addNumber : MethodName := ⟨R_Model, "addNumber", "(II)V"⟩
abbrev b_Model_addNumber : ByteArray := prog_11_method_36_code
def y_Model_decimalText : MethodName := ⟨R_Model, "decimalText", "(I)V"⟩
abbrev b_Model_decimalText : ByteArray := prog_11_method_54_code
def y_Model_wholes : MethodName := ⟨R_Model, "wholes", "(II)V"⟩
abbrev b_Model_wholes : ByteArray := prog_11_method_42_code
def y_Model_begin : MethodName := ⟨R_Model, "begin", "(Z)V"⟩
abbrev b_Model_begin : ByteArray := prog_11_method_40_code
def y_Model_group : MethodName := ⟨R_Model, "group", "(II)V"⟩
abbrev b_Model_group : ByteArray := prog_11_method_39_code
def y_Model_finish : MethodName := ⟨R_Model, "finish", "(ZZ)V"⟩
abbrev b_Model_finish : ByteArray := prog_11_method_41_code
def y_Model_last : MethodName := ⟨R_Model, "last", "(I)V"⟩
abbrev b_Model_last : ByteArray := prog_11_method_51_code
def y_Model_hexadecimal : MethodName := ⟨R_Model, "hexadecimal", "(I)V"⟩
abbrev b_Model_hexadecimal : ByteArray := prog_11_method_50_code
def y_Model_floating : MethodName := ⟨R_Model, "floating", "(II)V"⟩
abbrev b_Model_floating : ByteArray := prog_11_method_49_code
def y_Model_keep : MethodName := ⟨R_Model, "keep", "(I)V"⟩
abbrev b_Model_keep : ByteArray := prog_11_method_32_code
def y_Model_exponential : MethodName := ⟨R_Model, "exponential", "(I)V"⟩
abbrev b_Model_exponential : ByteArray := prog_11_method_47_code
def y_Model_isZero : MethodName := ⟨R_Model, "isZero", "()Z"⟩
abbrev b_Model_isZero : ByteArray := prog_11_method_33_code
def y_Model_fixed : MethodName := ⟨R_Model, "fixed", "(I)V"⟩
abbrev b_Model_fixed : ByteArray := prog_11_method_48_code
def y_Model_length : MethodName := ⟨R_Model, "length", "()I"⟩
abbrev b_Model_length : ByteArray := prog_11_method_60_code
def y_Model_characterAt : MethodName := ⟨R_Model, "characterAt", "(I)I"⟩
abbrev b_Model_characterAt : ByteArray := prog_11_method_61_code
def gw : List Cond := lw_tbl.filter goodWord
theorem gw_ok : ∀ w ∈ gw, w ∈ gw ∧ ((w.onTables && w.keeps) = true ∨ ∃ ty, w = .arrayClass ty) := fun w h => ⟨h, good_of_word (List.mem_filter.mp h).2⟩
theorem gm {w : Cond} {i : Nat} (h : lw_tbl[i]? = some w) (hg : goodWord w = true) : w ∈ gw := List.mem_filter.mpr ⟨List.mem_of_getElem? h, hg⟩
def isNw : Cond → Bool
  | .fieldLinkNest .. => true
  | .methodLinkNest .. => true
  | _ => false
def nwL : List Cond := lw_tbl.filter isNw
theorem nwm {w : Cond} {i : Nat} (h : lw_tbl[i]? = some w) (hg : isNw w = true) : w ∈ nwL := List.mem_filter.mpr ⟨List.mem_of_getElem? h, hg⟩
theorem nw_warm (w : Cond) (hw : w ∈ nwL) {s U : State} (hW : s.WarmedH U.vm) (h : va_Nw w s) : va_Nw w U := by
  have h1 := (List.mem_filter.mp hw).2
  cases w <;> first | exact va_Nw.warmF hW h | exact va_Nw.warmM hW h | cases h1
theorem nw_same (w : Cond) (hw : w ∈ nwL) {u U : State} (e : u.vm = U.vm) (h : va_Nw w u) : va_Nw w U := by
  have h1 := (List.mem_filter.mp hw).2
  cases w <;> first | exact va_Nw.same rfl e h | cases h1
theorem in_Argument : ∀ w ∈ u_ws R_Argument F_Argument 7, w ∈ gw := fun w h => List.mem_filter.mpr ((by decide +kernel : ∀ w ∈ u_ws R_Argument F_Argument 7, w ∈ lw_tbl ∧ goodWord w = true) w h)
theorem in_Composer : ∀ w ∈ u_ws R_Composer F_Composer 8, w ∈ gw := fun w h => List.mem_filter.mpr ((by decide +kernel : ∀ w ∈ u_ws R_Composer F_Composer 8, w ∈ lw_tbl ∧ goodWord w = true) w h)
theorem in_Digits : ∀ w ∈ u_ws R_Digits F_Digits 4, w ∈ gw := fun w h => List.mem_filter.mpr ((by decide +kernel : ∀ w ∈ u_ws R_Digits F_Digits 4, w ∈ lw_tbl ∧ goodWord w = true) w h)
theorem in_Hex : ∀ w ∈ u_ws R_Hex F_Hex 3, w ∈ gw := fun w h => List.mem_filter.mpr ((by decide +kernel : ∀ w ∈ u_ws R_Hex F_Hex 3, w ∈ lw_tbl ∧ goodWord w = true) w h)
theorem in_Row : ∀ w ∈ u_ws R_Row F_Row 3, w ∈ gw := fun w h => List.mem_filter.mpr ((by decide +kernel : ∀ w ∈ u_ws R_Row F_Row 3, w ∈ lw_tbl ∧ goodWord w = true) w h)
theorem in_Specifier : ∀ w ∈ u_ws R_Specifier F_Specifier 10, w ∈ gw := fun w h => List.mem_filter.mpr ((by decide +kernel : ∀ w ∈ u_ws R_Specifier F_Specifier 10, w ∈ lw_tbl ∧ goodWord w = true) w h)
theorem in_Desk : ∀ w ∈ u_ws R_Desk F_Desk 8, w ∈ gw := fun w h => List.mem_filter.mpr ((by decide +kernel : ∀ w ∈ u_ws R_Desk F_Desk 8, w ∈ lw_tbl ∧ goodWord w = true) w h)
theorem in_Model : ∀ w ∈ u_ws R_Model F_Model 29, w ∈ gw := fun w h => List.mem_filter.mpr ((by decide +kernel : ∀ w ∈ u_ws R_Model F_Model 29, w ∈ lw_tbl ∧ goodWord w = true) w h)
end
section
/-! MY ROWS: what the decompiled functions are made of, and calls in one row -/
def inB (i : Int32) (n : Nat) : Bool := !(decide (i < 0) || decide (n ≤ i.toNatClampNeg))
theorem inB_in {i : Int32} {n : Nat} (h : inB i n = true) : vp_in i n := by
  intro q
  unfold inB at h
  rcases q with q | q
  · rw [decide_eq_true q] at h
    cases h
  · rw [decide_eq_true q, Bool.or_true] at h
    cases h
theorem in_inB {i : Int32} {n : Nat} (h : vp_in i n) : inB i n = true := by
  unfold inB
  rw [decide_eq_false (fun q => h (Or.inl q)), decide_eq_false (fun q => h (Or.inr q))]
  rfl
theorem gd_ {c : Prop} [Decidable c] {R : Type} {A : Option R} {r : R} (h : (if c then A else none) = some r) : c ∧ A = some r := by
  by_cases hc : c
  · rw [if_pos hc] at h
    exact ⟨hc, h⟩
  · rw [if_neg hc] at h
    cases h
theorem gn_ {c : Prop} [Decidable c] {R : Type} {A : Option R} {r : R} (h : (if c then none else A) = some r) : ¬ c ∧ A = some r := by
  by_cases hc : c
  · rw [if_pos hc] at h
    cases h
  · rw [if_neg hc] at h
    exact ⟨hc, h⟩
theorem ip_ {c : Prop} [Decidable c] {R : Type} {A B : Option R} {r : R} (hc : c) (h : (if c then A else B) = some r) : A = some r := by
  rw [if_pos hc] at h
  exact h
theorem in_ {c : Prop} [Decidable c] {R : Type} {A B : Option R} {r : R} (hc : ¬ c) (h : (if c then A else B) = some r) : B = some r := by
  rw [if_neg hc] at h
  exact h
theorem bd_ {α R : Type} {o : Option α} {k : α → Option R} {r : R} (h : o.bind k = some r) : ∃ u, o = some u ∧ k u = some r := by
  cases o with
  | none => cases h
  | some u => exact ⟨u, rfl, h⟩
/-- a loop with fuel -/
def lp_ {σ R : Type} (b : (σ → Option R) → σ → Option R) : Nat → σ → Option R
  | 0, _ => none
  | n + 1, s => b (lp_ b n) s
def bl (x : Int32) : Prop := x = 0 ∨ x = 1
theorem bl_0 : bl 0 := Or.inl rfl
theorem bl_1 : bl 1 := Or.inr rfl
theorem bl_n {x : Int32} (h : bl x) : narrow .boolean (.int x) = .int x := by rcases h with rfl | rfl <;> rfl
theorem bl_f {x : Int32} (h : bl x) : fits .boolean (.int x) = true := by rcases h with rfl | rfl <;> rfl
/-- cells put at places -/
def va_sets : va_W → List Nat → va_W → va_W
  | ws, i :: is, c :: cs => va_sets (ws.set i c) is cs
  | ws, _, _ => ws
theorem va_sets_P {D : va_G} {cl : List vw_C} {H : Heap} : ∀ (is : List Nat) (w1 ws : va_W), (∀ (k : Nat) (q : Nat × va_E), ws[k]? = some q → k ∉ is → va_at D cl q H) → is.length = w1.length → (∀ q ∈ w1, va_at D cl q H) → va_P D cl (va_sets ws is w1) H
  | [], w1, ws, h, _, _ => by
    cases w1 <;> exact fun k q hk => h k q hk (fun z => by cases z)
  | i :: is, [], ws, _, hl, _ => by cases hl
  | i :: is, c :: cs, ws, h, hl, h1 => by
    refine va_sets_P is cs (ws.set i c) (fun k q hk hn => ?_) (Nat.succ.inj hl) (fun q hq => h1 q (List.mem_cons_of_mem _ hq))
    by_cases hki : k = i
    · subst hki
      by_cases hlt : k < ws.length
      · rw [List.getElem?_set_self hlt] at hk
        cases hk
        exact h1 c List.mem_cons_self
      · rw [List.getElem?_eq_none (by rw [List.length_set]; omega)] at hk
        cases hk
    · rw [List.getElem?_set_ne (Ne.symm hki)] at hk
      exact h k q hk (fun z => by
        rcases List.mem_cons.mp z with z | z
        · exact hki z
        · exact hn z)
theorem va_sets_fst : ∀ (is : List Nat) (w1 ws : va_W), is.map (fun i => (ws.map Prod.fst)[i]?) = w1.map (fun q => some q.1) → (va_sets ws is w1).map Prod.fst = ws.map Prod.fst
  | [], w1, ws, _ => by cases w1 <;> rfl
  | i :: is, [], ws, h => by cases h
  | i :: is, c :: cs, ws, h => by
    rw [List.map_cons, List.map_cons, List.cons.injEq] at h
    have e : (ws.set i c).map Prod.fst = ws.map Prod.fst := by
      rw [List.map_set]
      have h1 := h.1
      apply List.ext_getElem?
      intro j
      by_cases hj : i = j
      · subst hj
        rw [h1, List.getElem?_set_self (List.getElem?_eq_some_iff.mp h1).1]
      · rw [List.getElem?_set_ne hj]
    show (va_sets (ws.set i c) is cs).map Prod.fst = _
    rw [va_sets_fst is cs (ws.set i c) (by rw [e]; exact h.2), e]
theorem va_D_fst {A : Nat → Prop} {ws ws' : va_W} (h : va_D A ws) (e : ws'.map Prod.fst = ws.map Prod.fst) : va_D A ws' := by
  have key : ∀ (i : Nat) (p : Nat × va_E), ws'[i]? = some p → ∃ q, ws[i]? = some q ∧ q.1 = p.1 := by
    intro i p hp
    have h1 : (ws'.map Prod.fst)[i]? = some p.1 := by rw [List.getElem?_map, hp]; rfl
    rw [e, List.getElem?_map] at h1
    cases hq : ws[i]? with
    | none => rw [hq] at h1; cases h1
    | some q => rw [hq] at h1; exact ⟨q, rfl, Option.some.inj h1⟩
  refine ⟨fun i j p q hp hq hpq => ?_, fun k q hk => ?_⟩
  · obtain ⟨p', h1, h2⟩ := key i p hp
    obtain ⟨q', h3, h4⟩ := key j q hq
    exact h.1 i j p' q' h1 h3 (by rw [h2, h4, hpq])
  · obtain ⟨q', h1, h2⟩ := key k q hk
    rw [← h2]
    exact h.2 k q' h1
theorem va_at_of {is : List Nat} {ws wc : va_W} (hC : is.map (fun i => ws[i]?) = wc.map some) {k : Nat} {q : Nat × va_E} (h : wc[k]? = some q) : ∃ i, is[k]? = some i ∧ ws[i]? = some q := by
  have h1 : (is.map (fun i => ws[i]?))[k]? = some (some q) := by rw [hC, List.getElem?_map, h]; rfl
  rw [List.getElem?_map] at h1
  cases hi : is[k]? with
  | none => rw [hi] at h1; cases h1
  | some i => rw [hi] at h1; exact ⟨i, rfl, Option.some.inj h1⟩
/-- behind a call that made nothing: the callee's cells at their places, the others as they were -/
theorem va_back {A0 : Nat → Prop} {D : va_G} {cl : List vw_C} {ws wc w1 ws' : va_W} {H H1 : Heap} (hP : va_P D cl ws H) (hD : va_D A0 ws) (is : List Nat) (hC : is.map (fun i => ws[i]?) = wc.map some) (he : w1.map Prod.fst = wc.map Prod.fst) (hw : va_sets ws is w1 = ws')
    (hk : ∀ q : Nat, q < H.size → ¬ va_A wc H.size q → H1[q]? = H[q]?) (hP1 : va_P D cl w1 H1) : va_P D cl ws' H1 ∧ va_D A0 ws' := by
  subst hw
  have hlen : is.length = w1.length := by
    have a1 := congrArg List.length hC
    have a2 := congrArg List.length he
    simp only [List.length_map] at a1 a2
    omega
  refine ⟨va_sets_P is w1 ws (fun k q hq hn => ?_) hlen (fun q hq => ?_), va_D_fst hD (va_sets_fst is w1 ws ?_)⟩
  · have hl := (hP k q hq).lt
    refine (hP k q hq).kept (hk q.1 hl (fun h => ?_))
    rcases h with ⟨k2, e, h⟩ | h
    · obtain ⟨i, h1, h2⟩ := va_at_of hC h
      have := hD.1 k i q (q.1, e) hq h2 rfl
      subst this
      exact hn (List.mem_of_getElem? h1)
    · omega
  · obtain ⟨k, hk⟩ := List.getElem?_of_mem hq
    exact hP1 k q hk
  · have a1 : is.map (fun i => (ws.map Prod.fst)[i]?) = (is.map (fun i => ws[i]?)).map (fun o => o.map Prod.fst) := by
      rw [List.map_map]
      apply List.map_congr_left
      intro i _
      show (ws.map Prod.fst)[i]? = (ws[i]?).map Prod.fst
      rw [List.getElem?_map]
    rw [a1, hC, List.map_map]
    have a2 : (wc.map fun q => some q.1) = (w1.map fun q => some q.1) := by
      have := congrArg (List.map some) he
      simp only [List.map_map] at this
      exact this.symm
    exact a2

/-! WORLDS UP TO ORDER -/
theorem va_P_iff {D : va_G} {cl : List vw_C} {ws : va_W} {H : Heap} : va_P D cl ws H ↔ ∀ q ∈ ws, va_at D cl q H := by
  constructor
  · intro h q hq
    obtain ⟨k, hk⟩ := List.getElem?_of_mem hq
    exact h k q hk
  · intro h k q hk
    exact h q (List.mem_of_getElem? hk)
theorem va_D_iff {A : Nat → Prop} {ws : va_W} : va_D A ws ↔ (ws.map Prod.fst).Nodup ∧ ∀ q ∈ ws, A q.1 := by
  constructor
  · intro h
    refine ⟨?_, fun q hq => ?_⟩
    · refine List.pairwise_iff_getElem.mpr (fun i j hi hj hij e => ?_)
      rw [List.length_map] at hi hj
      rw [List.getElem_map, List.getElem_map] at e
      exact Nat.ne_of_lt hij (h.1 i j _ _ (List.getElem?_eq_getElem hi) (List.getElem?_eq_getElem hj) e)
    · obtain ⟨k, hk⟩ := List.getElem?_of_mem hq
      exact h.2 k q hk
  · intro h
    refine ⟨fun i j p q hp hq hpq => ?_, fun k q hk => h.2 q (List.mem_of_getElem? hk)⟩
    have h1 : (ws.map Prod.fst)[i]? = some p.1 := by rw [List.getElem?_map, hp]; rfl
    have h2 : (ws.map Prod.fst)[j]? = some p.1 := by rw [List.getElem?_map, hq]; exact congrArg some hpq.symm
    exact (List.getElem?_inj (List.getElem?_eq_some_iff.mp h1).1 h.1).mp (h1.trans h2.symm)
theorem va_P.perm {D : va_G} {cl : List vw_C} {ws ws' : va_W} {H : Heap} (h : va_P D cl ws H) (hp : ws.Perm ws') : va_P D cl ws' H := va_P_iff.mpr fun q hq => va_P_iff.mp h q (hp.mem_iff.mpr hq)
theorem va_D.perm {A : Nat → Prop} {ws ws' : va_W} (h : va_D A ws) (hp : ws.Perm ws') : va_D A ws' := by
  obtain ⟨h1, h2⟩ := va_D_iff.mp h
  exact va_D_iff.mpr ⟨(hp.map Prod.fst).nodup_iff.mp h1, fun q hq => h2 q (hp.mem_iff.mpr hq)⟩
theorem va_P.left {D : va_G} {cl : List vw_C} {w1 w2 : va_W} {H : Heap} (h : va_P D cl (w1 ++ w2) H) : va_P D cl w1 H := va_P_iff.mpr fun q hq => va_P_iff.mp h q (List.mem_append_left _ hq)
theorem va_D.left {A : Nat → Prop} {w1 w2 : va_W} (h : va_D A (w1 ++ w2)) : va_D A w1 := by
  obtain ⟨h1, h2⟩ := va_D_iff.mp h
  rw [List.map_append] at h1
  exact va_D_iff.mpr ⟨(List.nodup_append.mp h1).1, fun q hq => h2 q (List.mem_append_left _ hq)⟩
/-- behind a call: what the callee gave back, beside the rest -/
theorem va_beside {A0 : Nat → Prop} {D : va_G} {cl : List vw_C} {ws wc wr w1 : va_W} {H H1 : Heap} (hP : va_P D cl ws H) (hD : va_D A0 ws) (hp : ws.Perm (wc ++ wr))
    (hk : ∀ q : Nat, q < H.size → ¬ va_A wc H.size q → H1[q]? = H[q]?) (hF : ∀ q, va_A wc H.size q → A0 q) (hP1 : va_P D cl w1 H1) (hD1 : va_D (va_A wc H.size) w1) : va_P D cl (w1 ++ wr) H1 ∧ va_D A0 (w1 ++ wr) := by
  have hP' := hP.perm hp
  obtain ⟨n1, a1⟩ := va_D_iff.mp (hD.perm hp)
  rw [List.map_append, List.nodup_append] at n1
  obtain ⟨nc, nr, dis⟩ := n1
  have apart : ∀ q ∈ wr, q.1 < H.size ∧ ¬ va_A wc H.size q.1 := by
    intro q hq
    have hl := (va_P_iff.mp hP' q (List.mem_append_right _ hq)).lt
    refine ⟨hl, fun h => ?_⟩
    rcases h with ⟨k, e, h⟩ | h
    · exact dis q.1 (List.mem_map.mpr ⟨_, List.mem_of_getElem? h, rfl⟩) q.1 (List.mem_map.mpr ⟨q, hq, rfl⟩) rfl
    · omega
  obtain ⟨m1, b1⟩ := va_D_iff.mp hD1
  refine ⟨va_P_iff.mpr fun q hq => ?_, va_D_iff.mpr ⟨?_, fun q hq => ?_⟩⟩
  · rcases List.mem_append.mp hq with h | h
    · exact va_P_iff.mp hP1 q h
    · exact (va_P_iff.mp hP' q (List.mem_append_right _ h)).kept (hk q.1 (apart q h).1 (apart q h).2)
  · rw [List.map_append, List.nodup_append]
    refine ⟨m1, nr, fun a ha b hb e => ?_⟩
    obtain ⟨x, hx, ex⟩ := List.mem_map.mp ha
    obtain ⟨y, hy, ey⟩ := List.mem_map.mp hb
    exact (apart y hy).2 (by rw [ey, ← e, ← ex]; exact b1 x hx)
  · rcases List.mem_append.mp hq with h | h
    · exact hF _ (b1 q h)
    · exact a1 q (List.mem_append_right _ h)
theorem va_freeQ {A0 : Nat → Prop} {ws wc wr : va_W} {H0 H : Heap} {locs : List Loc} (hD : va_D A0 ws) (hS : va_S A0 H0 H locs) (hA : ∀ q, H0.size ≤ q → A0 q) (hp : ws.Perm (wc ++ wr)) : ∀ q, va_A wc H.size q → A0 q := by
  intro q h
  rcases h with ⟨k, e, h⟩ | h
  · exact (va_D_iff.mp hD).2 (q, e) (hp.mem_iff.mpr (List.mem_append_left _ (List.mem_of_getElem? h)))
  · exact hA q (Nat.le_trans hS.1 h)

/-! THE ENVIRONMENT of every contract: the tables' words, classes, nest words, constants; a contract's start and end; calls in one row -/
theorem gI {y : MethodName} {b : ByteArray} {n : Nat} {ret : Option FieldType} (h : Cond.code y b n ret ∈ gw) : GoodIn gw (.code y b n ret :: gw) := fun w hw => by
  rcases List.mem_cons.mp hw with rfl | hw
  · exact gw_ok _ h
  · exact gw_ok _ hw
theorem gV {own C : String} {idx : Nat} {y : MethodName} {b : ByteArray} {n : Nat} {ret : Option FieldType} (h1 : Cond.methodLink own idx y ∈ gw) (h2 : Cond.instanceMethod y ∈ gw) (h3 : Cond.selects C y y ∈ gw) (h4 : Cond.initialized C ∈ gw) (h5 : Cond.code y b n ret ∈ gw) : GoodIn gw (wsV own idx C y (.code y b n ret :: gw)) := fun w hw => by
  rcases List.mem_append.mp hw with hw | hw
  · have : w = .methodLink own idx y ∨ w = .instanceMethod y ∨ w = .selects C y y ∨ w = .initialized C := by simpa using hw
    rcases this with rfl | rfl | rfl | rfl
    · exact gw_ok _ h1
    · exact gw_ok _ h2
    · exact gw_ok _ h3
    · exact gw_ok _ h4
  · exact gI h5 w hw
theorem gS {own : String} {idx : Nat} {y : MethodName} {b : ByteArray} {n : Nat} {ret : Option FieldType} (h1 : Cond.methodLink own idx y ∈ gw) (h2 : Cond.static y ∈ gw) (h4 : Cond.initialized y.cls ∈ gw) (h5 : Cond.code y b n ret ∈ gw) : GoodIn gw (va_wsS own idx y (.code y b n ret :: gw)) := fun w hw => by
  rcases List.mem_append.mp hw with hw | hw
  · have : w = .methodLink own idx y ∨ w = .static y ∨ w = .initialized y.cls := by simpa using hw
    rcases this with rfl | rfl | rfl
    · exact gw_ok _ h1
    · exact gw_ok _ h2
    · exact gw_ok _ h4
  · exact gI h5 w hw
/-- classes' numbers, array classes, the first address of our own, the enum's constants, the texts -/
abbrev Gt : Type := va_G × (Nat → ClassId) × Nat × (Nat → Nat) × (Nat → Nat) × (Nat → Nat)
abbrev gD (G : Gt) : va_G := G.1
abbrev gC (G : Gt) (k : Nat) : ClassId := G.2.1 k
abbrev gb (G : Gt) : Nat := G.2.2.1
abbrev gK (G : Gt) (k : Nat) : Nat := G.2.2.2.1 k
abbrev gT (G : Gt) (k : Nat) : Nat := G.2.2.2.2.1 k
abbrev TYS (G : Gt) : List (ClassId × FieldType) := [(gC G 0, .byte), (gC G 1, .int), (gC G 2, .long)]
def EV (G : Gt) (U : State) : Prop := gb G ≤ U.heap.size ∧ va_K (gD G) vwCl (TYS G) U ∧ ∀ w ∈ nwL, va_Nw w U
theorem EV.K {G : Gt} {U : State} (h : EV G U) : va_K (gD G) vwCl (TYS G) U := h.2.1
theorem EV.nw {G : Gt} {U : State} (h : EV G U) : ∀ w ∈ nwL, va_Nw w U := h.2.2
theorem EV.ab {G : Gt} {s : State} {W0 : va_W} (hE : EV G s) (hD0 : va_D (fun q => gb G ≤ q) W0) : ∀ q, va_A W0 s.heap.size q → gb G ≤ q := by
  intro q h
  rcases h with ⟨k, e, h⟩ | h
  · exact hD0.2 k (q, e) h
  · exact Nat.le_trans hE.1 h
theorem EV.to {G : Gt} {s U : State} {A : Nat → Prop} {H : Heap} {locs : List Loc} (hE : EV G s) (hS : va_S A s.heap H locs) (_hAb : ∀ q, A q → gb G ≤ q) (hU : U.heap = H) (hW : s.WarmedH U.vm) : EV G U :=
  ⟨by rw [hU]; exact Nat.le_trans hE.1 hS.1, va_K.moved hW.alike hE.2.1, fun w hw => nw_warm w hw hW (hE.2.2 w hw)⟩
def PC (G : Gt) (av : List Value) (sz : Nat) (W0 : va_W) : Array Value → State → Prop := va_Pc av (fun U => U.heap.size = sz ∧ va_P (gD G) vwCl W0 U.heap ∧ EV G U ∧ va_D (fun q => gb G ≤ q) W0)
theorem PC_b {G : Gt} {av : List Value} {sz : Nat} {W0 : va_W} : FrameBlind (PC G av sz W0) := fun a U g mk q => by
  obtain ⟨q0, q1, qP, qE, qD⟩ := q
  exact ⟨q0, q1, qP, ⟨qE.1, va_K.moved (u := U) (U := U.calling g mk a) (Vm.Alike.refl U.vm) qE.2.1, fun w hw => nw_same w hw (u := U) (U := U.calling g mk a) rfl (qE.2.2 w hw)⟩, qD⟩
theorem PC_p {G : Gt} {av : List Value} {s : State} {A : Nat → Prop} {H : Heap} {locs : List Loc} {wc : va_W} (hE : EV G s) (hS : va_S A s.heap H locs) (hAb : ∀ q, A q → gb G ≤ q) (hP : va_P (gD G) vwCl wc H) (hD : va_D A wc) : ∀ U : State, U.heap = H → s.WarmedH U.vm → PC G av H.size wc av.toArray U :=
  fun U hU hW => ⟨rfl, by rw [hU], by rw [hU]; exact hP, hE.to hS hAb hU hW, hD.weaken (fun _ _ _ h => hAb _ h)⟩
def QV (G : Gt) (A : Nat → Prop) (W1 : va_W) : Array Value → State → Outcome → State → Prop := va_Qv (fun _ : Unit => True) (fun _ t => va_P (gD G) vwCl W1 t.heap ∧ va_D A W1) A
def QI (G : Gt) (v : Int32) (A : Nat → Prop) (W1 : va_W) : Array Value → State → Outcome → State → Prop := va_Qi (fun (r : Int32) (_ : Unit) => r = v) (fun _ t => va_P (gD G) vwCl W1 t.heap ∧ va_D A W1) A
def QZ (G : Gt) (v : Int32) (A : Nat → Prop) (W1 : va_W) : Array Value → State → Outcome → State → Prop := va_Qi (fun (r : Int32) (_ : Unit) => r = v ∧ bl r) (fun _ t => va_P (gD G) vwCl W1 t.heap ∧ va_D A W1) A
def QL (G : Gt) (v : Int64) (A : Nat → Prop) (W1 : va_W) : Array Value → State → Outcome → State → Prop := va_Ql (fun (r : Int64) (_ : Unit) => r = v) (fun _ t => va_P (gD G) vwCl W1 t.heap ∧ va_D A W1) A
section CALLS
variable {p : Program} {l : Launch} {e : Env} {R : Room} {s : State} {m : MethodId} {args : Array Value} {below : List Frame} {meth : Method} {c : Code} {H : Heap} {locs : List Loc} {cells slots : Nat} {Q : State → Prop}
variable {pc : Nat} {ls : Array Slot} {rest st0 : List Value} {a : Array Value} {A : Nat → Prop} {mc ms : Nat} {G : Gt} {ws wc w1 ws' : va_W}
theorem CALLv (hr : va_Run p l e R s m args below meth c H locs cells slots mc ms (F0 m pc ls st0) rest (QV G (va_A wc H.size) w1 a) (va_A wc H.size)) (hP : va_P (gD G) vwCl ws H) (hD : va_D A ws) (hS : va_S A s.heap H locs) (hA : ∀ q, s.heap.size ≤ q → A q) (is : List Nat) (hC : is.map (fun i => ws[i]?) = wc.map some) (he : w1.map Prod.fst = wc.map Prod.fst) (hw : va_sets ws is w1 = ws')
    (kk : ∀ (H1 : Heap) (locs1 : List Loc), va_P (gD G) vwCl ws' H1 → va_D A ws' → va_S A s.heap H1 locs1 → W p l e R s m args below meth c H1 locs1 (cells + mc) (slots + ms) Q (F0 m (pc + 3) ls rest)) : W p l e R s m args below meth c H locs cells slots Q (F0 m pc ls st0) := by
  have hF := va_free hD hS hA is hC
  refine va_callv hr hS (fun q _ h => hF q h) hF (fun u t H1 locs1 ht _ _ hB _ hk hS1 => ?_)
  obtain ⟨hP1, _⟩ := hB
  rw [ht] at hP1
  obtain ⟨hP2, hD2⟩ := va_back hP hD is hC he hw hk hP1
  exact kk H1 locs1 hP2 hD2 hS1
theorem CALLi {v : Int32} (hr : va_Run p l e R s m args below meth c H locs cells slots mc ms (F0 m pc ls st0) rest (QI G v (va_A wc H.size) w1 a) (va_A wc H.size)) (hP : va_P (gD G) vwCl ws H) (hD : va_D A ws) (hS : va_S A s.heap H locs) (hA : ∀ q, s.heap.size ≤ q → A q) (is : List Nat) (hC : is.map (fun i => ws[i]?) = wc.map some) (he : w1.map Prod.fst = wc.map Prod.fst) (hw : va_sets ws is w1 = ws')
    (kk : ∀ (H1 : Heap) (locs1 : List Loc), va_P (gD G) vwCl ws' H1 → va_D A ws' → va_S A s.heap H1 locs1 → W p l e R s m args below meth c H1 locs1 (cells + mc) (slots + ms) Q (F0 m (pc + 3) ls (.int v :: rest))) : W p l e R s m args below meth c H locs cells slots Q (F0 m pc ls st0) := by
  have hF := va_free hD hS hA is hC
  refine va_calli hr hS (fun q _ h => hF q h) hF (fun r u t H1 locs1 ht _ hv hB _ hk hS1 => ?_)
  obtain ⟨hP1, _⟩ := hB
  rw [ht] at hP1
  obtain ⟨hP2, hD2⟩ := va_back hP hD is hC he hw hk hP1
  subst hv
  exact kk H1 locs1 hP2 hD2 hS1
theorem CALLz {v : Int32} (hr : va_Run p l e R s m args below meth c H locs cells slots mc ms (F0 m pc ls st0) rest (QZ G v (va_A wc H.size) w1 a) (va_A wc H.size)) (hP : va_P (gD G) vwCl ws H) (hD : va_D A ws) (hS : va_S A s.heap H locs) (hA : ∀ q, s.heap.size ≤ q → A q) (is : List Nat) (hC : is.map (fun i => ws[i]?) = wc.map some) (he : w1.map Prod.fst = wc.map Prod.fst) (hw : va_sets ws is w1 = ws')
    (kk : bl v → ∀ (H1 : Heap) (locs1 : List Loc), va_P (gD G) vwCl ws' H1 → va_D A ws' → va_S A s.heap H1 locs1 → W p l e R s m args below meth c H1 locs1 (cells + mc) (slots + ms) Q (F0 m (pc + 3) ls (.int v :: rest))) : W p l e R s m args below meth c H locs cells slots Q (F0 m pc ls st0) := by
  have hF := va_free hD hS hA is hC
  refine va_calli hr hS (fun q _ h => hF q h) hF (fun r u t H1 locs1 ht _ hv hB _ hk hS1 => ?_)
  obtain ⟨hP1, _⟩ := hB
  rw [ht] at hP1
  obtain ⟨hP2, hD2⟩ := va_back hP hD is hC he hw hk hP1
  obtain ⟨hv, hb⟩ := hv
  subst hv
  exact kk hb H1 locs1 hP2 hD2 hS1
theorem CALLl {v : Int64} (hr : va_Run p l e R s m args below meth c H locs cells slots mc ms (F0 m pc ls st0) rest (QL G v (va_A wc H.size) w1 a) (va_A wc H.size)) (hP : va_P (gD G) vwCl ws H) (hD : va_D A ws) (hS : va_S A s.heap H locs) (hA : ∀ q, s.heap.size ≤ q → A q) (is : List Nat) (hC : is.map (fun i => ws[i]?) = wc.map some) (he : w1.map Prod.fst = wc.map Prod.fst) (hw : va_sets ws is w1 = ws')
    (kk : ∀ (H1 : Heap) (locs1 : List Loc), va_P (gD G) vwCl ws' H1 → va_D A ws' → va_S A s.heap H1 locs1 → W p l e R s m args below meth c H1 locs1 (cells + mc) (slots + ms) Q (F0 m (pc + 3) ls (.long v :: rest))) : W p l e R s m args below meth c H locs cells slots Q (F0 m pc ls st0) := by
  have hF := va_free hD hS hA is hC
  refine va_calll hr hS (fun q _ h => hF q h) hF (fun r u t H1 locs1 ht _ hv hB _ hk hS1 => ?_)
  obtain ⟨hP1, _⟩ := hB
  rw [ht] at hP1
  obtain ⟨hP2, hD2⟩ := va_back hP hD is hC he hw hk hP1
  subst hv
  exact kk H1 locs1 hP2 hD2 hS1
end CALLS
/-- an end with cells that were made: their addresses are u -/
def QN {S : Type} (G : Gt) (A : Nat → Prop) (W1 : S → va_W) : Array Value → State → Outcome → State → Prop := va_Qv (fun _ : S => True) (fun u t => va_P (gD G) vwCl (W1 u) t.heap ∧ va_D A (W1 u)) A
section MAKES
variable {p : Program} {l : Launch} {e : Env} {R : Room} {s : State} {m : MethodId} {args : Array Value} {below : List Frame} {meth : Method} {c : Code} {H : Heap} {locs : List Loc} {cells slots : Nat} {Q : State → Prop}
variable {pc : Nat} {ls : Array Slot} {rest st0 : List Value} {a : Array Value} {A : Nat → Prop} {mc ms : Nat} {G : Gt} {ws wc wr : va_W} {cc : ByteArray}
theorem CALLn {S : Type} {w1 : S → va_W} (hr : va_Run p l e R s m args below meth c H locs cells slots mc ms (F0 m pc ls st0) rest (QN G (va_A wc H.size) w1 a) (va_A wc H.size)) (hP : va_P (gD G) vwCl ws H) (hD : va_D A ws) (hS : va_S A s.heap H locs) (hA : ∀ q, s.heap.size ≤ q → A q) (isC isR : List Nat) (hC : isC.map (fun i => ws[i]?) = wc.map some) (hR : isR.map (fun i => ws[i]?) = wr.map some) (hn : va_nd isR = true) (hdis : ∀ i ∈ isR, i ∉ isC)
    (kk : ∀ (u : S) (H1 : Heap) (locs1 : List Loc), va_P (gD G) vwCl (wr ++ w1 u) H1 → va_D A (wr ++ w1 u) → va_S A s.heap H1 locs1 → W p l e R s m args below meth c H1 locs1 (cells + mc) (slots + ms) Q (F0 m (pc + 3) ls rest)) : W p l e R s m args below meth c H locs cells slots Q (F0 m pc ls st0) := by
  have hF := va_free hD hS hA isC hC
  refine va_callv hr hS (fun q _ h => hF q h) hF (fun u t H1 locs1 ht _ _ hB _ hk hS1 => ?_)
  obtain ⟨hP1, hD1⟩ := hB
  rw [ht] at hP1
  obtain ⟨hP2, hD2⟩ := va_join hP hD isC isR hC hR hn hdis hk hF hP1 hD1
  exact kk u H1 locs1 hP2 hD2 hS1
theorem NEWA (hE : EV G s) (hexec : p.tables.exec = Jvm.exec) (hb : c.code = cc) {atype : ArrayType} (harr : (Cond.arrayClass (newarray.typeOf atype)).before args s = true) {ty : FieldType} (hty : newarray.typeOf atype = ty) (t0 : Nat) {cB : ClassId} (ht : (TYS G)[t0]? = some (cB, ty)) (hP : va_P (gD G) vwCl ws H) (hD : va_D A ws) (hS : va_S A s.heap H locs) (hA : ∀ q, s.heap.size ≤ q → A q)
    {n : Int32} {N' : Nat} {a0 : vp_A} (ha : ∀ cA : ClassId, vp_cell cA a0 = arrV cA N' (fun _ => defaultValue ty)) (hn : ¬ n < 0) (hN : n.toNatClampNeg = N') (hbytes : N' * componentBytes ty ≤ 536870912) (hcells : cells + 1 ≤ R.cells) (hslots : slots + N' ≤ R.slots) (hdg : decode cc pc = .ok (.newarray atype, 2))
    (kk : ∀ (q : Nat) (H1 : Heap), va_P (gD G) vwCl (ws ++ [(q, .inl (cB, a0))]) H1 → va_D A (ws ++ [(q, .inl (cB, a0))]) → va_S A s.heap H1 locs →
      W p l e R s m args below meth c H1 locs (cells + 1) (slots + N') Q (F0 m (pc + 2) ls (.ref q :: rest))) : W p l e R s m args below meth c H locs cells slots Q (F0 m pc ls (.int n :: rest)) := by
  refine va_newa hexec hb harr hty hE.K hP hD hS hA ha hn hN hbytes hcells hslots hdg (fun q cA H1 hK1 hP1 hD1 hS1 => ?_)
  have e1 := (hE.K.2 t0 _ ht).2
  have e2 := (hK1.2 (TYS G).length (cA, ty) (by rw [List.getElem?_append_right (Nat.le_refl _), Nat.sub_self]; rfl)).2
  have e3 : cA = cB := by
    subst hty
    cases atype <;> exact Option.some.inj (e2.symm.trans e1)
  subst e3
  exact kk q H1 hP1 hD1 hS1
end MAKES
end
section
theorem d_Row_empty_0 : decode b_Row_empty 0 = .ok (.aload_n 0, 1) := by decide +kernel
theorem d_Row_empty_1 : decode b_Row_empty 1 = .ok (.iconst 0, 1) := by decide +kernel
theorem d_Row_empty_2 : decode b_Row_empty 2 = .ok (.putfield 19, 3) := by decide +kernel
theorem d_Row_empty_5 : decode b_Row_empty 5 = .ok (.aload_n 0, 1) := by decide +kernel
theorem d_Row_empty_6 : decode b_Row_empty 6 = .ok (.iconst 0, 1) := by decide +kernel
theorem d_Row_empty_7 : decode b_Row_empty 7 = .ok (.putfield 23, 3) := by decide +kernel
theorem d_Row_empty_10 : decode b_Row_empty 10 = .ok (.return_, 1) := by decide +kernel
theorem m_0 : Cond.fieldLink R_Row 19 "SpecifierDesk$Row" "used" "I" ∈ gw := gm (i := 118) (by decide +kernel) (by decide +kernel)
theorem m_1 : Cond.fieldLink R_Row 23 "SpecifierDesk$Row" "burst" "Z" ∈ gw := gm (i := 122) (by decide +kernel) (by decide +kernel)
def f_Row_empty  : Option (Int32 × Int32) :=
  some ((0 : Int32), (0 : Int32))
abbrev w_Row_empty (G : Gt) (qt : Nat) (qt_cells : Nat) (nt_cells : Nat) (t_cells : Nat → Int32) (t_used : Int32) (t_burst : Int32) : va_W := [(qt, .inr (4, [.ref qt_cells, .int t_used, .int t_burst])), (qt_cells, .inl (gC G 0, nt_cells, .inl t_cells))]
set_option maxHeartbeats 4000000 in
set_option maxRecDepth 100000 in
theorem c_Row_empty (l : Launch) (G : Gt) (K : Nat) (qt : Nat) (qt_cells : Nat) (nt_cells : Nat) (t_cells : Nat → Int32) (t_used : Int32) (t_burst : Int32) (sz : Nat) (res : Int32 × Int32)   (hf : f_Row_empty  = some res) : Met l y_Row_empty (.code y_Row_empty b_Row_empty 1 none :: gw) { frames := 0, cells := 0, slots := 0, locals := 0 } (PC G ([.ref qt] : List Value) sz (w_Row_empty G qt qt_cells nt_cells t_cells t_used t_burst)) (QV G (va_A (w_Row_empty G qt qt_cells nt_cells t_cells t_used t_burst) sz) (w_Row_empty G qt qt_cells nt_cells t_cells res.1 res.2)) 0 0 (va_A (w_Row_empty G qt qt_cells nt_cells t_cells t_used t_burst) sz) := by
  refine Met.ofW (cc := b_Row_empty) (maxL := 1) (ret := none) (by decide) rfl ?_
  intro p e s m args below meth c s₁ B hml hv
  obtain ⟨rfl, hsz, hP, hE, hD0⟩ := hv
  have hx := B.exec
  have hb := B.bytes
  have hr := B.returns
  have hts := atoms_spec (ws := (.code y_Row_empty b_Row_empty 1 none :: gw)) B.pre
  have hg : ∀ w ∈ gw, w.before _ s = true := fun w h => hts w (List.mem_cons_of_mem _ h)
  have hown : s.vm.findClass R_Row = some m.cls := findClass_of_methodNamed B.named
  have hlocks := B.notSynchronized
  subst hsz
  have hK := hE.K
  have hD := hD0.self (sz := s.heap.size)
  have hAb := hE.ab hD0
  obtain ⟨Q, hQ⟩ : ∃ Q, MQ below (QV G (va_A (w_Row_empty G qt qt_cells nt_cells t_cells t_used t_burst) s.heap.size) (w_Row_empty G qt qt_cells nt_cells t_cells res.1 res.2)) ([.ref qt] : List Value).toArray s 0 0 (va_A (w_Row_empty G qt qt_cells nt_cells t_cells t_used t_burst) s.heap.size) = Q := ⟨_, rfl⟩
  show W p l e { frames := 0, cells := 0, slots := 0, locals := 0 } s m ([.ref qt] : List Value).toArray below meth c s.heap [] 0 0 (MQ below (QV G (va_A (w_Row_empty G qt qt_cells nt_cells t_cells t_used t_burst) s.heap.size) (w_Row_empty G qt qt_cells nt_cells t_cells res.1 res.2)) ([.ref qt] : List Value).toArray s 0 0 (va_A (w_Row_empty G qt qt_cells nt_cells t_cells t_used t_burst) s.heap.size)) _
  rw [hQ]
  have hA : ∀ q : Nat, s.heap.size ≤ q → va_A (w_Row_empty G qt qt_cells nt_cells t_cells t_used t_burst) s.heap.size q := fun q h => Or.inr h
  obtain ⟨A, hAe⟩ : ∃ A, va_A (w_Row_empty G qt qt_cells nt_cells t_cells t_used t_burst) s.heap.size = A := ⟨_, rfl⟩
  rw [hAe] at hA hD hAb hQ
  have hS : va_S A s.heap s.heap [] := va_S.rf
  have hl := lv_entry (([.ref qt] : List Value)) (n := 1) (Nat.le_of_ble_eq_true rfl)
  rw [lg_entry_eq]
  generalize (lg_sl (([.ref qt] : List Value)) ++ List.replicate (1 - (lg_sl (([.ref qt] : List Value))).length) Slot.unset).toArray = ls at hl ⊢
  have hl : lv_has ls 1 [(0, .ref qt)] := hl
  unfold f_Row_empty at hf
  refine lv_aload_n hx hb d_Row_empty_0 rfl (lv_at hl 0 rfl) ?_
  refine lv_iconst (v := 0) hx hb d_Row_empty_1 (by decide) ?_
  refine va_put (D := gD G) (ci := 4) (v := .int (0 : Int32)) (ty := .int) (C := R_Row) (T := F_Row) (N := 3) hx hb hg in_Row t_Row to_Row no_Row hown hK hP hD hS 0 rfl rfl 1 (by decide) (hg _ m_0) (fun _ h9 => h9) rfl (by decide +kernel) rfl rfl (Nat.le_of_ble_eq_true rfl) d_Row_empty_2 (fun H locs hP hD hS => ?_)
  have hP : va_P (gD G) vwCl (w_Row_empty G qt qt_cells nt_cells t_cells (0 : Int32) t_burst) H := hP
  have hD : va_D A (w_Row_empty G qt qt_cells nt_cells t_cells (0 : Int32) t_burst) := hD
  refine lv_aload_n hx hb d_Row_empty_5 rfl (lv_at hl 0 rfl) ?_
  refine lv_iconst (v := 0) hx hb d_Row_empty_6 (by decide) ?_
  refine va_put (D := gD G) (ci := 4) (v := .int (0 : Int32)) (ty := .boolean) (C := R_Row) (T := F_Row) (N := 3) hx hb hg in_Row t_Row to_Row no_Row hown hK hP hD hS 0 rfl rfl 2 (by decide) (hg _ m_1) (fun _ h9 => h9) rfl (by decide +kernel) (bl_n bl_0) (bl_f bl_0) (Nat.le_of_ble_eq_true rfl) d_Row_empty_7 (fun H locs hP hD hS => ?_)
  have hP : va_P (gD G) vwCl (w_Row_empty G qt qt_cells nt_cells t_cells (0 : Int32) (0 : Int32)) H := hP
  have hD : va_D A (w_Row_empty G qt qt_cells nt_cells t_cells (0 : Int32) (0 : Int32)) := hD
  obtain rfl := Option.some.inj hf
  rw [← hQ]
  exact W.vret hx hb hr (fun t ht hW => ⟨⟨(), rfl, trivial, ⟨by rw [ht]; exact hP, hD⟩⟩, hS.F ht⟩) hS.2.2 d_Row_empty_10
theorem d_Row_add_0 : decode b_Row_add 0 = .ok (.aload_n 0, 1) := by decide +kernel
theorem d_Row_add_1 : decode b_Row_add 1 = .ok (.getfield 19, 3) := by decide +kernel
theorem d_Row_add_4 : decode b_Row_add 4 = .ok (.ifCond .lt 15, 3) := by decide +kernel
theorem d_Row_add_7 : decode b_Row_add 7 = .ok (.aload_n 0, 1) := by decide +kernel
theorem d_Row_add_8 : decode b_Row_add 8 = .ok (.getfield 19, 3) := by decide +kernel
theorem d_Row_add_11 : decode b_Row_add 11 = .ok (.aload_n 0, 1) := by decide +kernel
theorem d_Row_add_12 : decode b_Row_add 12 = .ok (.getfield 13, 3) := by decide +kernel
theorem d_Row_add_15 : decode b_Row_add 15 = .ok (.arraylength, 1) := by decide +kernel
theorem d_Row_add_16 : decode b_Row_add 16 = .ok (.if_icmp .lt 9, 3) := by decide +kernel
theorem d_Row_add_19 : decode b_Row_add 19 = .ok (.aload_n 0, 1) := by decide +kernel
theorem d_Row_add_20 : decode b_Row_add 20 = .ok (.iconst 1, 1) := by decide +kernel
theorem d_Row_add_21 : decode b_Row_add 21 = .ok (.putfield 23, 3) := by decide +kernel
theorem d_Row_add_24 : decode b_Row_add 24 = .ok (.return_, 1) := by decide +kernel
theorem d_Row_add_25 : decode b_Row_add 25 = .ok (.aload_n 0, 1) := by decide +kernel
theorem d_Row_add_26 : decode b_Row_add 26 = .ok (.getfield 13, 3) := by decide +kernel
theorem d_Row_add_29 : decode b_Row_add 29 = .ok (.aload_n 0, 1) := by decide +kernel
theorem d_Row_add_30 : decode b_Row_add 30 = .ok (.getfield 19, 3) := by decide +kernel
theorem d_Row_add_33 : decode b_Row_add 33 = .ok (.iload_n 1, 1) := by decide +kernel
theorem d_Row_add_34 : decode b_Row_add 34 = .ok (.i2b, 1) := by decide +kernel
theorem d_Row_add_35 : decode b_Row_add 35 = .ok (.bastore, 1) := by decide +kernel
theorem d_Row_add_36 : decode b_Row_add 36 = .ok (.aload_n 0, 1) := by decide +kernel
theorem d_Row_add_37 : decode b_Row_add 37 = .ok (.dup, 1) := by decide +kernel
theorem d_Row_add_38 : decode b_Row_add 38 = .ok (.getfield 19, 3) := by decide +kernel
theorem d_Row_add_41 : decode b_Row_add 41 = .ok (.iconst 1, 1) := by decide +kernel
theorem d_Row_add_42 : decode b_Row_add 42 = .ok (.iadd, 1) := by decide +kernel
theorem d_Row_add_43 : decode b_Row_add 43 = .ok (.putfield 19, 3) := by decide +kernel
theorem d_Row_add_46 : decode b_Row_add 46 = .ok (.return_, 1) := by decide +kernel
theorem m_2 : Cond.fieldLink R_Row 13 "SpecifierDesk$Row" "cells" "[B" ∈ gw := gm (i := 117) (by decide +kernel) (by decide +kernel)
def k_Row_add_19  (t_used : Int32) (t_burst : Int32) (t_cells : (Nat → Int32)) : Option (Int32 × Int32 × (Nat → Int32)) :=
  some (t_used, (1 : Int32), t_cells)
def f_Row_add (nt_cells : Nat) (t_cells : Nat → Int32) (t_used : Int32) (t_burst : Int32) (a1 : Int32) : Option (Int32 × Int32 × (Nat → Int32)) :=
  (if t_used < 0 then k_Row_add_19  t_used t_burst t_cells else (if t_used < (nI nt_cells) then (if inB t_used nt_cells = true then some ((t_used + (1 : Int32)), t_burst, (upd t_cells t_used.toNatClampNeg (vp_nar .byte a1.toInt8.toInt32))) else none) else k_Row_add_19  t_used t_burst t_cells))
abbrev w_Row_add (G : Gt) (qt : Nat) (qt_cells : Nat) (nt_cells : Nat) (t_cells : Nat → Int32) (t_used : Int32) (t_burst : Int32) : va_W := [(qt, .inr (4, [.ref qt_cells, .int t_used, .int t_burst])), (qt_cells, .inl (gC G 0, nt_cells, .inl t_cells))]
set_option maxHeartbeats 4000000 in
set_option maxRecDepth 100000 in
theorem c_Row_add (l : Launch) (G : Gt) (K : Nat) (qt : Nat) (qt_cells : Nat) (nt_cells : Nat) (t_cells : Nat → Int32) (t_used : Int32) (t_burst : Int32) (a1 : Int32) (sz : Nat) (res : Int32 × Int32 × (Nat → Int32))   (hf : f_Row_add nt_cells t_cells t_used t_burst a1 = some res) : Met l y_Row_add (.code y_Row_add b_Row_add 2 none :: gw) { frames := 0, cells := 0, slots := 0, locals := 0 } (PC G ([.ref qt, .int a1] : List Value) sz (w_Row_add G qt qt_cells nt_cells t_cells t_used t_burst)) (QV G (va_A (w_Row_add G qt qt_cells nt_cells t_cells t_used t_burst) sz) (w_Row_add G qt qt_cells nt_cells res.2.2 res.1 res.2.1)) 0 0 (va_A (w_Row_add G qt qt_cells nt_cells t_cells t_used t_burst) sz) := by
  refine Met.ofW (cc := b_Row_add) (maxL := 2) (ret := none) (by decide) rfl ?_
  intro p e s m args below meth c s₁ B hml hv
  obtain ⟨rfl, hsz, hP, hE, hD0⟩ := hv
  have hx := B.exec
  have hb := B.bytes
  have hr := B.returns
  have hts := atoms_spec (ws := (.code y_Row_add b_Row_add 2 none :: gw)) B.pre
  have hg : ∀ w ∈ gw, w.before _ s = true := fun w h => hts w (List.mem_cons_of_mem _ h)
  have hown : s.vm.findClass R_Row = some m.cls := findClass_of_methodNamed B.named
  have hlocks := B.notSynchronized
  subst hsz
  have hK := hE.K
  have hD := hD0.self (sz := s.heap.size)
  have hAb := hE.ab hD0
  obtain ⟨Q, hQ⟩ : ∃ Q, MQ below (QV G (va_A (w_Row_add G qt qt_cells nt_cells t_cells t_used t_burst) s.heap.size) (w_Row_add G qt qt_cells nt_cells res.2.2 res.1 res.2.1)) ([.ref qt, .int a1] : List Value).toArray s 0 0 (va_A (w_Row_add G qt qt_cells nt_cells t_cells t_used t_burst) s.heap.size) = Q := ⟨_, rfl⟩
  show W p l e { frames := 0, cells := 0, slots := 0, locals := 0 } s m ([.ref qt, .int a1] : List Value).toArray below meth c s.heap [] 0 0 (MQ below (QV G (va_A (w_Row_add G qt qt_cells nt_cells t_cells t_used t_burst) s.heap.size) (w_Row_add G qt qt_cells nt_cells res.2.2 res.1 res.2.1)) ([.ref qt, .int a1] : List Value).toArray s 0 0 (va_A (w_Row_add G qt qt_cells nt_cells t_cells t_used t_burst) s.heap.size)) _
  rw [hQ]
  have hA : ∀ q : Nat, s.heap.size ≤ q → va_A (w_Row_add G qt qt_cells nt_cells t_cells t_used t_burst) s.heap.size q := fun q h => Or.inr h
  obtain ⟨A, hAe⟩ : ∃ A, va_A (w_Row_add G qt qt_cells nt_cells t_cells t_used t_burst) s.heap.size = A := ⟨_, rfl⟩
  rw [hAe] at hA hD hAb hQ
  have hS : va_S A s.heap s.heap [] := va_S.rf
  have hl := lv_entry (([.ref qt, .int a1] : List Value)) (n := 2) (Nat.le_of_ble_eq_true rfl)
  rw [lg_entry_eq]
  generalize (lg_sl (([.ref qt, .int a1] : List Value)) ++ List.replicate (2 - (lg_sl (([.ref qt, .int a1] : List Value))).length) Slot.unset).toArray = ls at hl ⊢
  have hl : lv_has ls 2 [(0, .ref qt), (1, .int a1)] := hl
  have W_19 : ∀ (t_used : Int32) (t_burst : Int32) (t_cells : (Nat → Int32)) , k_Row_add_19  t_used t_burst t_cells = some res → ∀ (H : Heap) (locs : List Loc) (ls : Array Slot), va_P (gD G) vwCl (w_Row_add G qt qt_cells nt_cells t_cells t_used t_burst) H → va_D A (w_Row_add G qt qt_cells nt_cells t_cells t_used t_burst) → va_S A s.heap H locs → lv_has ls 2 [(0, .ref qt)] → W p l e { frames := 0, cells := 0, slots := 0, locals := 0 } s m ([.ref qt, .int a1] : List Value).toArray below meth c H locs 0 0 Q (F0 m 19 ls []) := by
    intro t_used t_burst t_cells  hf H locs ls hP hD hS hl
    unfold k_Row_add_19 at hf
    refine lv_aload_n hx hb d_Row_add_19 rfl (lv_at hl 0 rfl) ?_
    refine lv_iconst (v := 1) hx hb d_Row_add_20 (by decide) ?_
    refine va_put (D := gD G) (ci := 4) (v := .int (1 : Int32)) (ty := .boolean) (C := R_Row) (T := F_Row) (N := 3) hx hb hg in_Row t_Row to_Row no_Row hown hK hP hD hS 0 rfl rfl 2 (by decide) (hg _ m_1) (fun _ h9 => h9) rfl (by decide +kernel) (bl_n bl_1) (bl_f bl_1) (Nat.le_of_ble_eq_true rfl) d_Row_add_21 (fun H locs hP hD hS => ?_)
    have hP : va_P (gD G) vwCl (w_Row_add G qt qt_cells nt_cells t_cells t_used (1 : Int32)) H := hP
    have hD : va_D A (w_Row_add G qt qt_cells nt_cells t_cells t_used (1 : Int32)) := hD
    obtain rfl := Option.some.inj hf
    rw [← hQ]
    exact W.vret hx hb hr (fun t ht hW => ⟨⟨(), rfl, trivial, ⟨by rw [ht]; exact hP, hD⟩⟩, hS.F ht⟩) hS.2.2 d_Row_add_24
  unfold f_Row_add at hf
  refine lv_aload_n hx hb d_Row_add_0 rfl (lv_at hl 0 rfl) ?_
  refine va_get (D := gD G) (ci := 4) (v := .int t_used) (C := R_Row) (T := F_Row) (N := 3) hx hb hg in_Row hown hK hP 0 rfl rfl 1 (by decide) (hg _ m_0) (fun _ h9 => h9) rfl d_Row_add_1 ?_
  refine lv_if_lt (tgt := 19) hx hb d_Row_add_4 (by decide) (fun c_4 => ?_) (fun c_4 => ?_)
  · have hf := ip_ c_4 hf
    exact W_19 t_used t_burst t_cells  hf _ _ _ hP hD hS (lv_sub hl [0] rfl)
  · have hf := in_ c_4 hf
    refine lv_aload_n hx hb d_Row_add_7 rfl (lv_at hl 0 rfl) ?_
    refine va_get (D := gD G) (ci := 4) (v := .int t_used) (C := R_Row) (T := F_Row) (N := 3) hx hb hg in_Row hown hK hP 0 rfl rfl 1 (by decide) (hg _ m_0) (fun _ h9 => h9) rfl d_Row_add_8 ?_
    refine lv_aload_n hx hb d_Row_add_11 rfl (lv_at hl 0 rfl) ?_
    refine va_get (D := gD G) (ci := 4) (v := .ref qt_cells) (C := R_Row) (T := F_Row) (N := 3) hx hb hg in_Row hown hK hP 0 rfl rfl 0 (by decide) (hg _ m_2) (fun _ h9 => h9) rfl d_Row_add_12 ?_
    refine va_alen hx hb hK hP 1 0 rfl rfl (v := nI nt_cells) rfl d_Row_add_15 ?_
    refine lv_icmp_lt (tgt := 25) hx hb d_Row_add_16 (by decide) (fun c_16 => ?_) (fun c_16 => ?_)
    · have hf := ip_ c_16 hf
      refine lv_aload_n hx hb d_Row_add_25 rfl (lv_at hl 0 rfl) ?_
      refine va_get (D := gD G) (ci := 4) (v := .ref qt_cells) (C := R_Row) (T := F_Row) (N := 3) hx hb hg in_Row hown hK hP 0 rfl rfl 0 (by decide) (hg _ m_2) (fun _ h9 => h9) rfl d_Row_add_26 ?_
      refine lv_aload_n hx hb d_Row_add_29 rfl (lv_at hl 0 rfl) ?_
      refine va_get (D := gD G) (ci := 4) (v := .int t_used) (C := R_Row) (T := F_Row) (N := 3) hx hb hg in_Row hown hK hP 0 rfl rfl 1 (by decide) (hg _ m_0) (fun _ h9 => h9) rfl d_Row_add_30 ?_
      refine lv_iload_n hx hb d_Row_add_33 rfl (lv_at hl 1 rfl) ?_
      refine lv_i2b (v := a1.toInt8.toInt32) hx hb d_Row_add_34 rfl ?_
      obtain ⟨g_35, hf⟩ := gd_ hf
      refine va_bast hx hb hK hP hD hS 1 0 rfl rfl (inB_in g_35) d_Row_add_35 (fun H locs hP hD hS => ?_)
      have hP : va_P (gD G) vwCl (w_Row_add G qt qt_cells nt_cells (upd t_cells t_used.toNatClampNeg (vp_nar .byte a1.toInt8.toInt32)) t_used t_burst) H := hP
      have hD : va_D A (w_Row_add G qt qt_cells nt_cells (upd t_cells t_used.toNatClampNeg (vp_nar .byte a1.toInt8.toInt32)) t_used t_burst) := hD
      refine lv_aload_n hx hb d_Row_add_36 rfl (lv_at hl 0 rfl) ?_
      refine lv_dup hx hb d_Row_add_37 rfl ?_
      refine va_get (D := gD G) (ci := 4) (v := .int t_used) (C := R_Row) (T := F_Row) (N := 3) hx hb hg in_Row hown hK hP 0 rfl rfl 1 (by decide) (hg _ m_0) (fun _ h9 => h9) rfl d_Row_add_38 ?_
      refine lv_iconst (v := 1) hx hb d_Row_add_41 (by decide) ?_
      refine lv_iadd hx hb d_Row_add_42 ?_
      refine va_put (D := gD G) (ci := 4) (v := .int (t_used + (1 : Int32))) (ty := .int) (C := R_Row) (T := F_Row) (N := 3) hx hb hg in_Row t_Row to_Row no_Row hown hK hP hD hS 0 rfl rfl 1 (by decide) (hg _ m_0) (fun _ h9 => h9) rfl (by decide +kernel) rfl rfl (Nat.le_of_ble_eq_true rfl) d_Row_add_43 (fun H locs hP hD hS => ?_)
      have hP : va_P (gD G) vwCl (w_Row_add G qt qt_cells nt_cells (upd t_cells t_used.toNatClampNeg (vp_nar .byte a1.toInt8.toInt32)) (t_used + (1 : Int32)) t_burst) H := hP
      have hD : va_D A (w_Row_add G qt qt_cells nt_cells (upd t_cells t_used.toNatClampNeg (vp_nar .byte a1.toInt8.toInt32)) (t_used + (1 : Int32)) t_burst) := hD
      obtain rfl := Option.some.inj hf
      rw [← hQ]
      exact W.vret hx hb hr (fun t ht hW => ⟨⟨(), rfl, trivial, ⟨by rw [ht]; exact hP, hD⟩⟩, hS.F ht⟩) hS.2.2 d_Row_add_46
    · have hf := in_ c_16 hf
      exact W_19 t_used t_burst t_cells  hf _ _ _ hP hD hS (lv_sub hl [0] rfl)
theorem d_Row_addMany_0 : decode b_Row_addMany 0 = .ok (.iconst 0, 1) := by decide +kernel
theorem d_Row_addMany_1 : decode b_Row_addMany 1 = .ok (.istore_n 3, 1) := by decide +kernel
theorem d_Row_addMany_2 : decode b_Row_addMany 2 = .ok (.iload_n 3, 1) := by decide +kernel
theorem d_Row_addMany_3 : decode b_Row_addMany 3 = .ok (.iload_n 2, 1) := by decide +kernel
theorem d_Row_addMany_4 : decode b_Row_addMany 4 = .ok (.if_icmp .ge 14, 3) := by decide +kernel
theorem d_Row_addMany_7 : decode b_Row_addMany 7 = .ok (.aload_n 0, 1) := by decide +kernel
theorem d_Row_addMany_8 : decode b_Row_addMany 8 = .ok (.iload_n 1, 1) := by decide +kernel
theorem d_Row_addMany_9 : decode b_Row_addMany 9 = .ok (.invokevirtual 27, 3) := by decide +kernel
theorem d_Row_addMany_12 : decode b_Row_addMany 12 = .ok (.iinc 3 1, 3) := by decide +kernel
theorem d_Row_addMany_15 : decode b_Row_addMany 15 = .ok (.goto (-13), 3) := by decide +kernel
theorem d_Row_addMany_18 : decode b_Row_addMany 18 = .ok (.return_, 1) := by decide +kernel
theorem m_3 : Cond.methodLink R_Row 27 y_Row_add ∈ gw := gm (i := 416) (by decide +kernel) (by decide +kernel)
theorem m_4 : Cond.instanceMethod y_Row_add ∈ gw := gm (i := 322) (by decide +kernel) (by decide +kernel)
theorem m_5 : Cond.selects R_Row y_Row_add y_Row_add ∈ gw := gm (i := 323) (by decide +kernel) (by decide +kernel)
theorem m_6 : Cond.initialized R_Row ∈ gw := gm (i := 83) (by decide +kernel) (by decide +kernel)
set_option maxRecDepth 100000 in
theorem m_7 : Cond.code y_Row_add b_Row_add 2 none ∈ gw := gm (i := 324) rfl rfl
def b_Row_addMany_2 (nt_cells : Nat) (a1 : Int32) (a2 : Int32)  (rec_2 : (Int32 × Int32 × Int32 × (Nat → Int32)) → Option (Int32 × Int32 × (Nat → Int32))) (z2 : Int32 × Int32 × Int32 × (Nat → Int32)) : Option (Int32 × Int32 × (Nat → Int32)) :=
  (if a2 ≤ z2.1 then some (z2.2.1, z2.2.2.1, z2.2.2.2) else ((f_Row_add nt_cells z2.2.2.2 z2.2.1 z2.2.2.1 a1).bind fun u_9 => rec_2 ((z2.1 + 1), u_9.1, u_9.2.1, u_9.2.2)))
def f_Row_addMany (K : Nat) (nt_cells : Nat) (t_cells : Nat → Int32) (t_used : Int32) (t_burst : Int32) (a1 : Int32) (a2 : Int32) : Option (Int32 × Int32 × (Nat → Int32)) :=
  lp_ (b_Row_addMany_2 nt_cells a1 a2 ) K ((0 : Int32), t_used, t_burst, t_cells)
abbrev w_Row_addMany (G : Gt) (qt : Nat) (qt_cells : Nat) (nt_cells : Nat) (t_cells : Nat → Int32) (t_used : Int32) (t_burst : Int32) : va_W := [(qt, .inr (4, [.ref qt_cells, .int t_used, .int t_burst])), (qt_cells, .inl (gC G 0, nt_cells, .inl t_cells))]
set_option maxHeartbeats 4000000 in
set_option maxRecDepth 100000 in
theorem c_Row_addMany (l : Launch) (G : Gt) (K : Nat) (qt : Nat) (qt_cells : Nat) (nt_cells : Nat) (t_cells : Nat → Int32) (t_used : Int32) (t_burst : Int32) (a1 : Int32) (a2 : Int32) (sz : Nat) (res : Int32 × Int32 × (Nat → Int32))   (hf : f_Row_addMany K nt_cells t_cells t_used t_burst a1 a2 = some res) : Met l y_Row_addMany (.code y_Row_addMany b_Row_addMany 4 none :: gw) { frames := 1, cells := 0, slots := 0, locals := 40 } (PC G ([.ref qt, .int a1, .int a2] : List Value) sz (w_Row_addMany G qt qt_cells nt_cells t_cells t_used t_burst)) (QV G (va_A (w_Row_addMany G qt qt_cells nt_cells t_cells t_used t_burst) sz) (w_Row_addMany G qt qt_cells nt_cells res.2.2 res.1 res.2.1)) 0 0 (va_A (w_Row_addMany G qt qt_cells nt_cells t_cells t_used t_burst) sz) := by
  refine Met.ofW (cc := b_Row_addMany) (maxL := 4) (ret := none) (by decide) rfl ?_
  intro p e s m args below meth c s₁ B hml hv
  obtain ⟨rfl, hsz, hP, hE, hD0⟩ := hv
  have hx := B.exec
  have hb := B.bytes
  have hr := B.returns
  have hts := atoms_spec (ws := (.code y_Row_addMany b_Row_addMany 4 none :: gw)) B.pre
  have hg : ∀ w ∈ gw, w.before _ s = true := fun w h => hts w (List.mem_cons_of_mem _ h)
  have hown : s.vm.findClass R_Row = some m.cls := findClass_of_methodNamed B.named
  have hlocks := B.notSynchronized
  subst hsz
  have hK := hE.K
  have hD := hD0.self (sz := s.heap.size)
  have hAb := hE.ab hD0
  obtain ⟨Q, hQ⟩ : ∃ Q, MQ below (QV G (va_A (w_Row_addMany G qt qt_cells nt_cells t_cells t_used t_burst) s.heap.size) (w_Row_addMany G qt qt_cells nt_cells res.2.2 res.1 res.2.1)) ([.ref qt, .int a1, .int a2] : List Value).toArray s 0 0 (va_A (w_Row_addMany G qt qt_cells nt_cells t_cells t_used t_burst) s.heap.size) = Q := ⟨_, rfl⟩
  show W p l e { frames := 1, cells := 0, slots := 0, locals := 40 } s m ([.ref qt, .int a1, .int a2] : List Value).toArray below meth c s.heap [] 0 0 (MQ below (QV G (va_A (w_Row_addMany G qt qt_cells nt_cells t_cells t_used t_burst) s.heap.size) (w_Row_addMany G qt qt_cells nt_cells res.2.2 res.1 res.2.1)) ([.ref qt, .int a1, .int a2] : List Value).toArray s 0 0 (va_A (w_Row_addMany G qt qt_cells nt_cells t_cells t_used t_burst) s.heap.size)) _
  rw [hQ]
  have hA : ∀ q : Nat, s.heap.size ≤ q → va_A (w_Row_addMany G qt qt_cells nt_cells t_cells t_used t_burst) s.heap.size q := fun q h => Or.inr h
  obtain ⟨A, hAe⟩ : ∃ A, va_A (w_Row_addMany G qt qt_cells nt_cells t_cells t_used t_burst) s.heap.size = A := ⟨_, rfl⟩
  rw [hAe] at hA hD hAb hQ
  have hS : va_S A s.heap s.heap [] := va_S.rf
  have hl := lv_entry (([.ref qt, .int a1, .int a2] : List Value)) (n := 4) (Nat.le_of_ble_eq_true rfl)
  rw [lg_entry_eq]
  generalize (lg_sl (([.ref qt, .int a1, .int a2] : List Value)) ++ List.replicate (4 - (lg_sl (([.ref qt, .int a1, .int a2] : List Value))).length) Slot.unset).toArray = ls at hl ⊢
  have hl : lv_has ls 4 [(0, .ref qt), (1, .int a1), (2, .int a2)] := hl
  have W_2 : ∀   (n_2 : Nat) (z2 : Int32 × Int32 × Int32 × (Nat → Int32)) , lp_ (b_Row_addMany_2 nt_cells a1 a2 ) n_2 z2 = some res → ∀ (H : Heap) (locs : List Loc) (ls : Array Slot), va_P (gD G) vwCl (w_Row_addMany G qt qt_cells nt_cells z2.2.2.2 z2.2.1 z2.2.2.1) H → va_D A (w_Row_addMany G qt qt_cells nt_cells z2.2.2.2 z2.2.1 z2.2.2.1) → va_S A s.heap H locs → lv_has ls 4 [(0, .ref qt), (1, .int a1), (2, .int a2), (3, .int z2.1)] → W p l e { frames := 1, cells := 0, slots := 0, locals := 40 } s m ([.ref qt, .int a1, .int a2] : List Value).toArray below meth c H locs 0 0 Q (F0 m 2 ls []) := by
    intro  n_2
    induction n_2 with
    | zero =>
      intro z2  hf
      cases hf
    | succ n_2 ih_2 =>
      intro z2  hf H locs ls hP hD hS hl
      have hf : b_Row_addMany_2 nt_cells a1 a2  (lp_ (b_Row_addMany_2 nt_cells a1 a2 ) n_2) z2 = some res := hf
      generalize lp_ (b_Row_addMany_2 nt_cells a1 a2 ) n_2 = rec_2 at hf ih_2
      unfold b_Row_addMany_2 at hf
      refine lv_iload_n hx hb d_Row_addMany_2 rfl (lv_at hl 3 rfl) ?_
      refine lv_iload_n hx hb d_Row_addMany_3 rfl (lv_at hl 2 rfl) ?_
      refine lv_icmp_ge (tgt := 18) hx hb d_Row_addMany_4 (by decide) (fun c_4 => ?_) (fun c_4 => ?_)
      · have hf := ip_ c_4 hf
        obtain rfl := Option.some.inj hf
        rw [← hQ]
        exact W.vret hx hb hr (fun t ht hW => ⟨⟨(), rfl, trivial, ⟨by rw [ht]; exact hP, hD⟩⟩, hS.F ht⟩) hS.2.2 d_Row_addMany_18
      · have hf := in_ c_4 hf
        refine lv_aload_n hx hb d_Row_addMany_7 rfl (lv_at hl 0 rfl) ?_
        refine lv_iload_n hx hb d_Row_addMany_8 rfl (lv_at hl 1 rfl) ?_
        obtain ⟨u_9, hu_9, hf⟩ := bd_ hf
        refine CALLv (va_runV (As := [.int a1]) (rest := []) ⟨hx, hb, hml, hown, hg⟩ (c_Row_add l G K qt qt_cells nt_cells z2.2.2.2 z2.2.1 z2.2.2.1 a1 _ u_9  hu_9) (cwV 1 hg (gV m_3 m_4 m_5 m_6 m_7) rfl rfl rfl (by decide +kernel) ⟨Nat.le_of_ble_eq_true rfl, Nat.le_of_ble_eq_true rfl⟩) ⟨PC_b, va_recv hK hP (ci := 4) (q0 := 0) rfl rfl, PC_p hE hS hAb (hP.sub [0, 1] rfl) (hD.sub [0, 1] (by decide) rfl)⟩ rfl rfl hl.1 rfl (lv_room (Nat.le_of_ble_eq_true rfl)) d_Row_addMany_9 ⟨Nat.zero_le _, Nat.zero_le _⟩) hP hD hS hA [0, 1] rfl rfl rfl (fun H locs hP hD hS => ?_)
        have hP : va_P (gD G) vwCl (w_Row_addMany G qt qt_cells nt_cells u_9.2.2 u_9.1 u_9.2.1) H := hP
        have hD : va_D A (w_Row_addMany G qt qt_cells nt_cells u_9.2.2 u_9.1 u_9.2.1) := hD
        refine lv_iinc (v := (z2.1 + 1)) (lv' := [(3, .int (z2.1 + 1)), (0, .ref qt), (1, .int a1), (2, .int a2)]) hx hb d_Row_addMany_12 hl (k := 3) rfl rfl (by decide) rfl (fun ls hl => ?_)
        refine lv_goto (tgt := 2) hx hb d_Row_addMany_15 (by decide) ?_
        exact ih_2 ((z2.1 + 1), u_9.1, u_9.2.1, u_9.2.2)  hf _ _ _ hP hD hS (lv_sub hl [1, 2, 3, 0] rfl)
  unfold f_Row_addMany at hf
  refine lv_iconst (v := 0) hx hb d_Row_addMany_0 (by decide) ?_
  refine lv_istore_n (lv' := [(3, .int (0 : Int32)), (0, .ref qt), (1, .int a1), (2, .int a2)]) hx hb d_Row_addMany_1 rfl hl (by decide) rfl (fun ls hl => ?_)
  exact W_2   K ((0 : Int32), t_used, t_burst, t_cells)  hf _ _ _ hP hD hS (lv_sub hl [1, 2, 3, 0] rfl)
theorem d_Row_at_0 : decode b_Row_at 0 = .ok (.iload_n 1, 1) := by decide +kernel
theorem d_Row_at_1 : decode b_Row_at 1 = .ok (.ifCond .lt 29, 3) := by decide +kernel
theorem d_Row_at_4 : decode b_Row_at 4 = .ok (.iload_n 1, 1) := by decide +kernel
theorem d_Row_at_5 : decode b_Row_at 5 = .ok (.aload_n 0, 1) := by decide +kernel
theorem d_Row_at_6 : decode b_Row_at 6 = .ok (.getfield 19, 3) := by decide +kernel
theorem d_Row_at_9 : decode b_Row_at 9 = .ok (.if_icmp .ge 21, 3) := by decide +kernel
theorem d_Row_at_12 : decode b_Row_at 12 = .ok (.iload_n 1, 1) := by decide +kernel
theorem d_Row_at_13 : decode b_Row_at 13 = .ok (.aload_n 0, 1) := by decide +kernel
theorem d_Row_at_14 : decode b_Row_at 14 = .ok (.getfield 13, 3) := by decide +kernel
theorem d_Row_at_17 : decode b_Row_at 17 = .ok (.arraylength, 1) := by decide +kernel
theorem d_Row_at_18 : decode b_Row_at 18 = .ok (.if_icmp .ge 12, 3) := by decide +kernel
theorem d_Row_at_21 : decode b_Row_at 21 = .ok (.aload_n 0, 1) := by decide +kernel
theorem d_Row_at_22 : decode b_Row_at 22 = .ok (.getfield 13, 3) := by decide +kernel
theorem d_Row_at_25 : decode b_Row_at 25 = .ok (.iload_n 1, 1) := by decide +kernel
theorem d_Row_at_26 : decode b_Row_at 26 = .ok (.baload, 1) := by decide +kernel
theorem d_Row_at_27 : decode b_Row_at 27 = .ok (.goto 4, 3) := by decide +kernel
theorem d_Row_at_30 : decode b_Row_at 30 = .ok (.iconst (-1), 1) := by decide +kernel
theorem d_Row_at_31 : decode b_Row_at 31 = .ok (.ireturn, 1) := by decide +kernel
def f_Row_at (nt_cells : Nat) (t_cells : Nat → Int32) (t_used : Int32) (a1 : Int32) : Option Int32 :=
  (if a1 < 0 then some (-1 : Int32) else (if t_used ≤ a1 then some (-1 : Int32) else (if (nI nt_cells) ≤ a1 then some (-1 : Int32) else (if inB a1 nt_cells = true then some (t_cells a1.toNatClampNeg) else none))))
abbrev w_Row_at (G : Gt) (qt : Nat) (qt_cells : Nat) (nt_cells : Nat) (t_cells : Nat → Int32) (t_used : Int32) (t_burst : Int32) : va_W := [(qt, .inr (4, [.ref qt_cells, .int t_used, .int t_burst])), (qt_cells, .inl (gC G 0, nt_cells, .inl t_cells))]
set_option maxHeartbeats 4000000 in
set_option maxRecDepth 100000 in
theorem c_Row_at (l : Launch) (G : Gt) (K : Nat) (qt : Nat) (qt_cells : Nat) (nt_cells : Nat) (t_cells : Nat → Int32) (t_used : Int32) (t_burst : Int32) (a1 : Int32) (sz : Nat) (res : Int32)   (hf : f_Row_at nt_cells t_cells t_used a1 = some res) : Met l y_Row_at (.code y_Row_at b_Row_at 2 (some .int) :: gw) { frames := 0, cells := 0, slots := 0, locals := 0 } (PC G ([.ref qt, .int a1] : List Value) sz (w_Row_at G qt qt_cells nt_cells t_cells t_used t_burst)) (QI G res (va_A (w_Row_at G qt qt_cells nt_cells t_cells t_used t_burst) sz) (w_Row_at G qt qt_cells nt_cells t_cells t_used t_burst)) 0 0 (va_A (w_Row_at G qt qt_cells nt_cells t_cells t_used t_burst) sz) := by
  refine Met.ofW (cc := b_Row_at) (maxL := 2) (ret := (some .int)) (by decide) rfl ?_
  intro p e s m args below meth c s₁ B hml hv
  obtain ⟨rfl, hsz, hP, hE, hD0⟩ := hv
  have hx := B.exec
  have hb := B.bytes
  have hr := B.returns
  have hts := atoms_spec (ws := (.code y_Row_at b_Row_at 2 (some .int) :: gw)) B.pre
  have hg : ∀ w ∈ gw, w.before _ s = true := fun w h => hts w (List.mem_cons_of_mem _ h)
  have hown : s.vm.findClass R_Row = some m.cls := findClass_of_methodNamed B.named
  have hlocks := B.notSynchronized
  subst hsz
  have hK := hE.K
  have hD := hD0.self (sz := s.heap.size)
  have hAb := hE.ab hD0
  obtain ⟨Q, hQ⟩ : ∃ Q, MQ below (QI G res (va_A (w_Row_at G qt qt_cells nt_cells t_cells t_used t_burst) s.heap.size) (w_Row_at G qt qt_cells nt_cells t_cells t_used t_burst)) ([.ref qt, .int a1] : List Value).toArray s 0 0 (va_A (w_Row_at G qt qt_cells nt_cells t_cells t_used t_burst) s.heap.size) = Q := ⟨_, rfl⟩
  show W p l e { frames := 0, cells := 0, slots := 0, locals := 0 } s m ([.ref qt, .int a1] : List Value).toArray below meth c s.heap [] 0 0 (MQ below (QI G res (va_A (w_Row_at G qt qt_cells nt_cells t_cells t_used t_burst) s.heap.size) (w_Row_at G qt qt_cells nt_cells t_cells t_used t_burst)) ([.ref qt, .int a1] : List Value).toArray s 0 0 (va_A (w_Row_at G qt qt_cells nt_cells t_cells t_used t_burst) s.heap.size)) _
  rw [hQ]
  have hA : ∀ q : Nat, s.heap.size ≤ q → va_A (w_Row_at G qt qt_cells nt_cells t_cells t_used t_burst) s.heap.size q := fun q h => Or.inr h
  obtain ⟨A, hAe⟩ : ∃ A, va_A (w_Row_at G qt qt_cells nt_cells t_cells t_used t_burst) s.heap.size = A := ⟨_, rfl⟩
  rw [hAe] at hA hD hAb hQ
  have hS : va_S A s.heap s.heap [] := va_S.rf
  have hl := lv_entry (([.ref qt, .int a1] : List Value)) (n := 2) (Nat.le_of_ble_eq_true rfl)
  rw [lg_entry_eq]
  generalize (lg_sl (([.ref qt, .int a1] : List Value)) ++ List.replicate (2 - (lg_sl (([.ref qt, .int a1] : List Value))).length) Slot.unset).toArray = ls at hl ⊢
  have hl : lv_has ls 2 [(0, .ref qt), (1, .int a1)] := hl
  unfold f_Row_at at hf
  refine lv_iload_n hx hb d_Row_at_0 rfl (lv_at hl 1 rfl) ?_
  refine lv_if_lt (tgt := 30) hx hb d_Row_at_1 (by decide) (fun c_1 => ?_) (fun c_1 => ?_)
  · have hf := ip_ c_1 hf
    refine lv_iconst (v := -1) hx hb d_Row_at_30 (by decide) ?_
    obtain rfl := Option.some.inj hf
    rw [← hQ]
    exact W.iret (v := (-1 : Int32)) hx hb hr (fun t ht hW => ⟨⟨(-1 : Int32), (), rfl, rfl, ⟨by rw [ht]; exact hP, hD⟩⟩, hS.F ht⟩) hS.2.2 d_Row_at_31
  · have hf := in_ c_1 hf
    refine lv_iload_n hx hb d_Row_at_4 rfl (lv_at hl 1 rfl) ?_
    refine lv_aload_n hx hb d_Row_at_5 rfl (lv_at hl 0 rfl) ?_
    refine va_get (D := gD G) (ci := 4) (v := .int t_used) (C := R_Row) (T := F_Row) (N := 3) hx hb hg in_Row hown hK hP 0 rfl rfl 1 (by decide) (hg _ m_0) (fun _ h9 => h9) rfl d_Row_at_6 ?_
    refine lv_icmp_ge (tgt := 30) hx hb d_Row_at_9 (by decide) (fun c_9 => ?_) (fun c_9 => ?_)
    · have hf := ip_ c_9 hf
      refine lv_iconst (v := -1) hx hb d_Row_at_30 (by decide) ?_
      obtain rfl := Option.some.inj hf
      rw [← hQ]
      exact W.iret (v := (-1 : Int32)) hx hb hr (fun t ht hW => ⟨⟨(-1 : Int32), (), rfl, rfl, ⟨by rw [ht]; exact hP, hD⟩⟩, hS.F ht⟩) hS.2.2 d_Row_at_31
    · have hf := in_ c_9 hf
      refine lv_iload_n hx hb d_Row_at_12 rfl (lv_at hl 1 rfl) ?_
      refine lv_aload_n hx hb d_Row_at_13 rfl (lv_at hl 0 rfl) ?_
      refine va_get (D := gD G) (ci := 4) (v := .ref qt_cells) (C := R_Row) (T := F_Row) (N := 3) hx hb hg in_Row hown hK hP 0 rfl rfl 0 (by decide) (hg _ m_2) (fun _ h9 => h9) rfl d_Row_at_14 ?_
      refine va_alen hx hb hK hP 1 0 rfl rfl (v := nI nt_cells) rfl d_Row_at_17 ?_
      refine lv_icmp_ge (tgt := 30) hx hb d_Row_at_18 (by decide) (fun c_18 => ?_) (fun c_18 => ?_)
      · have hf := ip_ c_18 hf
        refine lv_iconst (v := -1) hx hb d_Row_at_30 (by decide) ?_
        obtain rfl := Option.some.inj hf
        rw [← hQ]
        exact W.iret (v := (-1 : Int32)) hx hb hr (fun t ht hW => ⟨⟨(-1 : Int32), (), rfl, rfl, ⟨by rw [ht]; exact hP, hD⟩⟩, hS.F ht⟩) hS.2.2 d_Row_at_31
      · have hf := in_ c_18 hf
        refine lv_aload_n hx hb d_Row_at_21 rfl (lv_at hl 0 rfl) ?_
        refine va_get (D := gD G) (ci := 4) (v := .ref qt_cells) (C := R_Row) (T := F_Row) (N := 3) hx hb hg in_Row hown hK hP 0 rfl rfl 0 (by decide) (hg _ m_2) (fun _ h9 => h9) rfl d_Row_at_22 ?_
        refine lv_iload_n hx hb d_Row_at_25 rfl (lv_at hl 1 rfl) ?_
        obtain ⟨g_26, hf⟩ := gd_ hf
        refine va_bald hx hb hK hP 1 0 rfl rfl (inB_in g_26) d_Row_at_26 ?_
        refine lv_goto (tgt := 31) hx hb d_Row_at_27 (by decide) ?_
        obtain rfl := Option.some.inj hf
        rw [← hQ]
        exact W.iret (v := (t_cells a1.toNatClampNeg)) hx hb hr (fun t ht hW => ⟨⟨(t_cells a1.toNatClampNeg), (), rfl, rfl, ⟨by rw [ht]; exact hP, hD⟩⟩, hS.F ht⟩) hS.2.2 d_Row_at_31
theorem d_Row_addRow_0 : decode b_Row_addRow 0 = .ok (.iconst 0, 1) := by decide +kernel
theorem d_Row_addRow_1 : decode b_Row_addRow 1 = .ok (.istore_n 2, 1) := by decide +kernel
theorem d_Row_addRow_2 : decode b_Row_addRow 2 = .ok (.iload_n 2, 1) := by decide +kernel
theorem d_Row_addRow_3 : decode b_Row_addRow 3 = .ok (.aload_n 1, 1) := by decide +kernel
theorem d_Row_addRow_4 : decode b_Row_addRow 4 = .ok (.getfield 19, 3) := by decide +kernel
theorem d_Row_addRow_7 : decode b_Row_addRow 7 = .ok (.if_icmp .ge 18, 3) := by decide +kernel
theorem d_Row_addRow_10 : decode b_Row_addRow 10 = .ok (.aload_n 0, 1) := by decide +kernel
theorem d_Row_addRow_11 : decode b_Row_addRow 11 = .ok (.aload_n 1, 1) := by decide +kernel
theorem d_Row_addRow_12 : decode b_Row_addRow 12 = .ok (.iload_n 2, 1) := by decide +kernel
theorem d_Row_addRow_13 : decode b_Row_addRow 13 = .ok (.invokevirtual 41, 3) := by decide +kernel
theorem d_Row_addRow_16 : decode b_Row_addRow 16 = .ok (.invokevirtual 27, 3) := by decide +kernel
theorem d_Row_addRow_19 : decode b_Row_addRow 19 = .ok (.iinc 2 1, 3) := by decide +kernel
theorem d_Row_addRow_22 : decode b_Row_addRow 22 = .ok (.goto (-20), 3) := by decide +kernel
theorem d_Row_addRow_25 : decode b_Row_addRow 25 = .ok (.return_, 1) := by decide +kernel
theorem m_8 : Cond.methodLink R_Row 41 y_Row_at ∈ gw := gm (i := 412) (by decide +kernel) (by decide +kernel)
theorem m_9 : Cond.instanceMethod y_Row_at ∈ gw := gm (i := 413) (by decide +kernel) (by decide +kernel)
theorem m_10 : Cond.selects R_Row y_Row_at y_Row_at ∈ gw := gm (i := 414) (by decide +kernel) (by decide +kernel)
set_option maxRecDepth 100000 in
theorem m_11 : Cond.code y_Row_at b_Row_at 2 (some .int) ∈ gw := gm (i := 415) rfl rfl
def b_Row_addRow_2 (nt_cells : Nat) (na1_cells : Nat) (a1_cells : Nat → Int32) (a1_used : Int32)  (rec_2 : (Int32 × Int32 × Int32 × (Nat → Int32)) → Option (Int32 × Int32 × (Nat → Int32))) (z2 : Int32 × Int32 × Int32 × (Nat → Int32)) : Option (Int32 × Int32 × (Nat → Int32)) :=
  (if a1_used ≤ z2.1 then some (z2.2.1, z2.2.2.1, z2.2.2.2) else ((f_Row_at na1_cells a1_cells a1_used z2.1).bind fun u_13 => ((f_Row_add nt_cells z2.2.2.2 z2.2.1 z2.2.2.1 u_13).bind fun u_16 => rec_2 ((z2.1 + 1), u_16.1, u_16.2.1, u_16.2.2))))
def f_Row_addRow (K : Nat) (nt_cells : Nat) (t_cells : Nat → Int32) (t_used : Int32) (t_burst : Int32) (na1_cells : Nat) (a1_cells : Nat → Int32) (a1_used : Int32) : Option (Int32 × Int32 × (Nat → Int32)) :=
  lp_ (b_Row_addRow_2 nt_cells na1_cells a1_cells a1_used ) K ((0 : Int32), t_used, t_burst, t_cells)
abbrev w_Row_addRow (G : Gt) (qt : Nat) (qt_cells : Nat) (nt_cells : Nat) (t_cells : Nat → Int32) (t_used : Int32) (t_burst : Int32) (qa1 : Nat) (qa1_cells : Nat) (na1_cells : Nat) (a1_cells : Nat → Int32) (a1_used : Int32) (a1_burst : Int32) : va_W := [(qt, .inr (4, [.ref qt_cells, .int t_used, .int t_burst])), (qt_cells, .inl (gC G 0, nt_cells, .inl t_cells)), (qa1, .inr (4, [.ref qa1_cells, .int a1_used, .int a1_burst])), (qa1_cells, .inl (gC G 0, na1_cells, .inl a1_cells))]
set_option maxHeartbeats 4000000 in
set_option maxRecDepth 100000 in
theorem c_Row_addRow (l : Launch) (G : Gt) (K : Nat) (qt : Nat) (qt_cells : Nat) (nt_cells : Nat) (t_cells : Nat → Int32) (t_used : Int32) (t_burst : Int32) (qa1 : Nat) (qa1_cells : Nat) (na1_cells : Nat) (a1_cells : Nat → Int32) (a1_used : Int32) (a1_burst : Int32) (sz : Nat) (res : Int32 × Int32 × (Nat → Int32))   (hf : f_Row_addRow K nt_cells t_cells t_used t_burst na1_cells a1_cells a1_used = some res) : Met l y_Row_addRow (.code y_Row_addRow b_Row_addRow 3 none :: gw) { frames := 1, cells := 0, slots := 0, locals := 40 } (PC G ([.ref qt, .ref qa1] : List Value) sz (w_Row_addRow G qt qt_cells nt_cells t_cells t_used t_burst qa1 qa1_cells na1_cells a1_cells a1_used a1_burst)) (QV G (va_A (w_Row_addRow G qt qt_cells nt_cells t_cells t_used t_burst qa1 qa1_cells na1_cells a1_cells a1_used a1_burst) sz) (w_Row_addRow G qt qt_cells nt_cells res.2.2 res.1 res.2.1 qa1 qa1_cells na1_cells a1_cells a1_used a1_burst)) 0 0 (va_A (w_Row_addRow G qt qt_cells nt_cells t_cells t_used t_burst qa1 qa1_cells na1_cells a1_cells a1_used a1_burst) sz) := by
  refine Met.ofW (cc := b_Row_addRow) (maxL := 3) (ret := none) (by decide) rfl ?_
  intro p e s m args below meth c s₁ B hml hv
  obtain ⟨rfl, hsz, hP, hE, hD0⟩ := hv
  have hx := B.exec
  have hb := B.bytes
  have hr := B.returns
  have hts := atoms_spec (ws := (.code y_Row_addRow b_Row_addRow 3 none :: gw)) B.pre
  have hg : ∀ w ∈ gw, w.before _ s = true := fun w h => hts w (List.mem_cons_of_mem _ h)
  have hown : s.vm.findClass R_Row = some m.cls := findClass_of_methodNamed B.named
  have hlocks := B.notSynchronized
  subst hsz
  have hK := hE.K
  have hD := hD0.self (sz := s.heap.size)
  have hAb := hE.ab hD0
  obtain ⟨Q, hQ⟩ : ∃ Q, MQ below (QV G (va_A (w_Row_addRow G qt qt_cells nt_cells t_cells t_used t_burst qa1 qa1_cells na1_cells a1_cells a1_used a1_burst) s.heap.size) (w_Row_addRow G qt qt_cells nt_cells res.2.2 res.1 res.2.1 qa1 qa1_cells na1_cells a1_cells a1_used a1_burst)) ([.ref qt, .ref qa1] : List Value).toArray s 0 0 (va_A (w_Row_addRow G qt qt_cells nt_cells t_cells t_used t_burst qa1 qa1_cells na1_cells a1_cells a1_used a1_burst) s.heap.size) = Q := ⟨_, rfl⟩
  show W p l e { frames := 1, cells := 0, slots := 0, locals := 40 } s m ([.ref qt, .ref qa1] : List Value).toArray below meth c s.heap [] 0 0 (MQ below (QV G (va_A (w_Row_addRow G qt qt_cells nt_cells t_cells t_used t_burst qa1 qa1_cells na1_cells a1_cells a1_used a1_burst) s.heap.size) (w_Row_addRow G qt qt_cells nt_cells res.2.2 res.1 res.2.1 qa1 qa1_cells na1_cells a1_cells a1_used a1_burst)) ([.ref qt, .ref qa1] : List Value).toArray s 0 0 (va_A (w_Row_addRow G qt qt_cells nt_cells t_cells t_used t_burst qa1 qa1_cells na1_cells a1_cells a1_used a1_burst) s.heap.size)) _
  rw [hQ]
  have hA : ∀ q : Nat, s.heap.size ≤ q → va_A (w_Row_addRow G qt qt_cells nt_cells t_cells t_used t_burst qa1 qa1_cells na1_cells a1_cells a1_used a1_burst) s.heap.size q := fun q h => Or.inr h
  obtain ⟨A, hAe⟩ : ∃ A, va_A (w_Row_addRow G qt qt_cells nt_cells t_cells t_used t_burst qa1 qa1_cells na1_cells a1_cells a1_used a1_burst) s.heap.size = A := ⟨_, rfl⟩
  rw [hAe] at hA hD hAb hQ
  have hS : va_S A s.heap s.heap [] := va_S.rf
  have hl := lv_entry (([.ref qt, .ref qa1] : List Value)) (n := 3) (Nat.le_of_ble_eq_true rfl)
  rw [lg_entry_eq]
  generalize (lg_sl (([.ref qt, .ref qa1] : List Value)) ++ List.replicate (3 - (lg_sl (([.ref qt, .ref qa1] : List Value))).length) Slot.unset).toArray = ls at hl ⊢
  have hl : lv_has ls 3 [(0, .ref qt), (1, .ref qa1)] := hl
  have W_2 : ∀   (n_2 : Nat) (z2 : Int32 × Int32 × Int32 × (Nat → Int32)) , lp_ (b_Row_addRow_2 nt_cells na1_cells a1_cells a1_used ) n_2 z2 = some res → ∀ (H : Heap) (locs : List Loc) (ls : Array Slot), va_P (gD G) vwCl (w_Row_addRow G qt qt_cells nt_cells z2.2.2.2 z2.2.1 z2.2.2.1 qa1 qa1_cells na1_cells a1_cells a1_used a1_burst) H → va_D A (w_Row_addRow G qt qt_cells nt_cells z2.2.2.2 z2.2.1 z2.2.2.1 qa1 qa1_cells na1_cells a1_cells a1_used a1_burst) → va_S A s.heap H locs → lv_has ls 3 [(0, .ref qt), (1, .ref qa1), (2, .int z2.1)] → W p l e { frames := 1, cells := 0, slots := 0, locals := 40 } s m ([.ref qt, .ref qa1] : List Value).toArray below meth c H locs 0 0 Q (F0 m 2 ls []) := by
    intro  n_2
    induction n_2 with
    | zero =>
      intro z2  hf
      cases hf
    | succ n_2 ih_2 =>
      intro z2  hf H locs ls hP hD hS hl
      have hf : b_Row_addRow_2 nt_cells na1_cells a1_cells a1_used  (lp_ (b_Row_addRow_2 nt_cells na1_cells a1_cells a1_used ) n_2) z2 = some res := hf
      generalize lp_ (b_Row_addRow_2 nt_cells na1_cells a1_cells a1_used ) n_2 = rec_2 at hf ih_2
      unfold b_Row_addRow_2 at hf
      refine lv_iload_n hx hb d_Row_addRow_2 rfl (lv_at hl 2 rfl) ?_
      refine lv_aload_n hx hb d_Row_addRow_3 rfl (lv_at hl 1 rfl) ?_
      refine va_get (D := gD G) (ci := 4) (v := .int a1_used) (C := R_Row) (T := F_Row) (N := 3) hx hb hg in_Row hown hK hP 2 rfl rfl 1 (by decide) (hg _ m_0) (fun _ h9 => h9) rfl d_Row_addRow_4 ?_
      refine lv_icmp_ge (tgt := 25) hx hb d_Row_addRow_7 (by decide) (fun c_7 => ?_) (fun c_7 => ?_)
      · have hf := ip_ c_7 hf
        obtain rfl := Option.some.inj hf
        rw [← hQ]
        exact W.vret hx hb hr (fun t ht hW => ⟨⟨(), rfl, trivial, ⟨by rw [ht]; exact hP, hD⟩⟩, hS.F ht⟩) hS.2.2 d_Row_addRow_25
      · have hf := in_ c_7 hf
        refine lv_aload_n hx hb d_Row_addRow_10 rfl (lv_at hl 0 rfl) ?_
        refine lv_aload_n hx hb d_Row_addRow_11 rfl (lv_at hl 1 rfl) ?_
        refine lv_iload_n hx hb d_Row_addRow_12 rfl (lv_at hl 2 rfl) ?_
        obtain ⟨u_13, hu_13, hf⟩ := bd_ hf
        refine CALLi (va_runV (As := [.int z2.1]) (rest := [.ref qt]) ⟨hx, hb, hml, hown, hg⟩ (c_Row_at l G K qa1 qa1_cells na1_cells a1_cells a1_used a1_burst z2.1 _ u_13  hu_13) (cwV 1 hg (gV m_8 m_9 m_10 m_6 m_11) rfl rfl rfl (by decide +kernel) ⟨Nat.le_of_ble_eq_true rfl, Nat.le_of_ble_eq_true rfl⟩) ⟨PC_b, va_recv hK hP (ci := 4) (q0 := 2) rfl rfl, PC_p hE hS hAb (hP.sub [2, 3] rfl) (hD.sub [2, 3] (by decide) rfl)⟩ rfl rfl hl.1 rfl (lv_room (Nat.le_of_ble_eq_true rfl)) d_Row_addRow_13 ⟨Nat.zero_le _, Nat.zero_le _⟩) hP hD hS hA [2, 3] rfl rfl rfl (fun H locs hP hD hS => ?_)
        have hP : va_P (gD G) vwCl (w_Row_addRow G qt qt_cells nt_cells z2.2.2.2 z2.2.1 z2.2.2.1 qa1 qa1_cells na1_cells a1_cells a1_used a1_burst) H := hP
        have hD : va_D A (w_Row_addRow G qt qt_cells nt_cells z2.2.2.2 z2.2.1 z2.2.2.1 qa1 qa1_cells na1_cells a1_cells a1_used a1_burst) := hD
        obtain ⟨u_16, hu_16, hf⟩ := bd_ hf
        refine CALLv (va_runV (As := [.int u_13]) (rest := []) ⟨hx, hb, hml, hown, hg⟩ (c_Row_add l G K qt qt_cells nt_cells z2.2.2.2 z2.2.1 z2.2.2.1 u_13 _ u_16  hu_16) (cwV 1 hg (gV m_3 m_4 m_5 m_6 m_7) rfl rfl rfl (by decide +kernel) ⟨Nat.le_of_ble_eq_true rfl, Nat.le_of_ble_eq_true rfl⟩) ⟨PC_b, va_recv hK hP (ci := 4) (q0 := 0) rfl rfl, PC_p hE hS hAb (hP.sub [0, 1] rfl) (hD.sub [0, 1] (by decide) rfl)⟩ rfl rfl hl.1 rfl (lv_room (Nat.le_of_ble_eq_true rfl)) d_Row_addRow_16 ⟨Nat.zero_le _, Nat.zero_le _⟩) hP hD hS hA [0, 1] rfl rfl rfl (fun H locs hP hD hS => ?_)
        have hP : va_P (gD G) vwCl (w_Row_addRow G qt qt_cells nt_cells u_16.2.2 u_16.1 u_16.2.1 qa1 qa1_cells na1_cells a1_cells a1_used a1_burst) H := hP
        have hD : va_D A (w_Row_addRow G qt qt_cells nt_cells u_16.2.2 u_16.1 u_16.2.1 qa1 qa1_cells na1_cells a1_cells a1_used a1_burst) := hD
        refine lv_iinc (v := (z2.1 + 1)) (lv' := [(2, .int (z2.1 + 1)), (0, .ref qt), (1, .ref qa1)]) hx hb d_Row_addRow_19 hl (k := 2) rfl rfl (by decide) rfl (fun ls hl => ?_)
        refine lv_goto (tgt := 2) hx hb d_Row_addRow_22 (by decide) ?_
        exact ih_2 ((z2.1 + 1), u_16.1, u_16.2.1, u_16.2.2)  hf _ _ _ hP hD hS (lv_sub hl [1, 2, 0] rfl)
  unfold f_Row_addRow at hf
  refine lv_iconst (v := 0) hx hb d_Row_addRow_0 (by decide) ?_
  refine lv_istore_n (lv' := [(2, .int (0 : Int32)), (0, .ref qt), (1, .ref qa1)]) hx hb d_Row_addRow_1 rfl hl (by decide) rfl (fun ls hl => ?_)
  exact W_2   K ((0 : Int32), t_used, t_burst, t_cells)  hf _ _ _ hP hD hS (lv_sub hl [1, 2, 0] rfl)
theorem d_Row_addNumber_0 : decode b_Row_addNumber 0 = .ok (.iload_n 1, 1) := by decide +kernel
theorem d_Row_addNumber_1 : decode b_Row_addNumber 1 = .ok (.ifCond .ge 9, 3) := by decide +kernel
theorem d_Row_addNumber_4 : decode b_Row_addNumber 4 = .ok (.aload_n 0, 1) := by decide +kernel
theorem d_Row_addNumber_5 : decode b_Row_addNumber 5 = .ok (.bipush 45, 2) := by decide +kernel
theorem d_Row_addNumber_7 : decode b_Row_addNumber 7 = .ok (.invokevirtual 27, 3) := by decide +kernel
theorem d_Row_addNumber_10 : decode b_Row_addNumber 10 = .ok (.iload_n 1, 1) := by decide +kernel
theorem d_Row_addNumber_11 : decode b_Row_addNumber 11 = .ok (.invokestatic 45, 3) := by decide +kernel
theorem d_Row_addNumber_14 : decode b_Row_addNumber 14 = .ok (.istore_n 3, 1) := by decide +kernel
theorem d_Row_addNumber_15 : decode b_Row_addNumber 15 = .ok (.iconst 1, 1) := by decide +kernel
theorem d_Row_addNumber_16 : decode b_Row_addNumber 16 = .ok (.istore 4, 2) := by decide +kernel
theorem d_Row_addNumber_18 : decode b_Row_addNumber 18 = .ok (.iconst 1, 1) := by decide +kernel
theorem d_Row_addNumber_19 : decode b_Row_addNumber 19 = .ok (.istore 5, 2) := by decide +kernel
theorem d_Row_addNumber_21 : decode b_Row_addNumber 21 = .ok (.iload 5, 2) := by decide +kernel
theorem d_Row_addNumber_23 : decode b_Row_addNumber 23 = .ok (.bipush 9, 2) := by decide +kernel
theorem d_Row_addNumber_25 : decode b_Row_addNumber 25 = .ok (.if_icmp .ge 31, 3) := by decide +kernel
theorem d_Row_addNumber_28 : decode b_Row_addNumber 28 = .ok (.iload 5, 2) := by decide +kernel
theorem d_Row_addNumber_30 : decode b_Row_addNumber 30 = .ok (.iload_n 2, 1) := by decide +kernel
theorem d_Row_addNumber_31 : decode b_Row_addNumber 31 = .ok (.if_icmp .lt 12, 3) := by decide +kernel
theorem d_Row_addNumber_34 : decode b_Row_addNumber 34 = .ok (.iload_n 3, 1) := by decide +kernel
theorem d_Row_addNumber_35 : decode b_Row_addNumber 35 = .ok (.bipush 10, 2) := by decide +kernel
theorem d_Row_addNumber_37 : decode b_Row_addNumber 37 = .ok (.idiv, 1) := by decide +kernel
theorem d_Row_addNumber_38 : decode b_Row_addNumber 38 = .ok (.iload 4, 2) := by decide +kernel
theorem d_Row_addNumber_40 : decode b_Row_addNumber 40 = .ok (.if_icmp .lt 16, 3) := by decide +kernel
theorem d_Row_addNumber_43 : decode b_Row_addNumber 43 = .ok (.iload 4, 2) := by decide +kernel
theorem d_Row_addNumber_45 : decode b_Row_addNumber 45 = .ok (.bipush 10, 2) := by decide +kernel
theorem d_Row_addNumber_47 : decode b_Row_addNumber 47 = .ok (.imul, 1) := by decide +kernel
theorem d_Row_addNumber_48 : decode b_Row_addNumber 48 = .ok (.istore 4, 2) := by decide +kernel
theorem d_Row_addNumber_50 : decode b_Row_addNumber 50 = .ok (.iinc 5 1, 3) := by decide +kernel
theorem d_Row_addNumber_53 : decode b_Row_addNumber 53 = .ok (.goto (-32), 3) := by decide +kernel
theorem d_Row_addNumber_56 : decode b_Row_addNumber 56 = .ok (.iload 4, 2) := by decide +kernel
theorem d_Row_addNumber_58 : decode b_Row_addNumber 58 = .ok (.ifCond .le 27, 3) := by decide +kernel
theorem d_Row_addNumber_61 : decode b_Row_addNumber 61 = .ok (.aload_n 0, 1) := by decide +kernel
theorem d_Row_addNumber_62 : decode b_Row_addNumber 62 = .ok (.bipush 48, 2) := by decide +kernel
theorem d_Row_addNumber_64 : decode b_Row_addNumber 64 = .ok (.iload_n 3, 1) := by decide +kernel
theorem d_Row_addNumber_65 : decode b_Row_addNumber 65 = .ok (.iload 4, 2) := by decide +kernel
theorem d_Row_addNumber_67 : decode b_Row_addNumber 67 = .ok (.idiv, 1) := by decide +kernel
theorem d_Row_addNumber_68 : decode b_Row_addNumber 68 = .ok (.bipush 10, 2) := by decide +kernel
theorem d_Row_addNumber_70 : decode b_Row_addNumber 70 = .ok (.irem, 1) := by decide +kernel
theorem d_Row_addNumber_71 : decode b_Row_addNumber 71 = .ok (.iadd, 1) := by decide +kernel
theorem d_Row_addNumber_72 : decode b_Row_addNumber 72 = .ok (.invokevirtual 27, 3) := by decide +kernel
theorem d_Row_addNumber_75 : decode b_Row_addNumber 75 = .ok (.iload 4, 2) := by decide +kernel
theorem d_Row_addNumber_77 : decode b_Row_addNumber 77 = .ok (.bipush 10, 2) := by decide +kernel
theorem d_Row_addNumber_79 : decode b_Row_addNumber 79 = .ok (.idiv, 1) := by decide +kernel
theorem d_Row_addNumber_80 : decode b_Row_addNumber 80 = .ok (.istore 4, 2) := by decide +kernel
theorem d_Row_addNumber_82 : decode b_Row_addNumber 82 = .ok (.goto (-26), 3) := by decide +kernel
theorem d_Row_addNumber_85 : decode b_Row_addNumber 85 = .ok (.return_, 1) := by decide +kernel
theorem m_12 : Cond.methodLink R_Row 45 Lib.Math.abs.name ∈ gw := gm (i := 769) (by decide +kernel) (by decide +kernel)
theorem m_13 : Cond.static Lib.Math.abs.name ∈ gw := gm (i := 770) (by decide +kernel) (by decide +kernel)
theorem m_14 : Cond.initialized "java/lang/Math" ∈ gw := gm (i := 84) (by decide +kernel) (by decide +kernel)
set_option maxRecDepth 100000 in
theorem m_15 : Cond.code Lib.Math.abs.name Lib.Math.abs.code 1 (some .int) ∈ gw := gm (i := 771) rfl rfl
def b_Row_addNumber_56 (nt_cells : Nat) (x3 : Int32) (rec_56 : (Int32 × Int32 × Int32 × (Nat → Int32)) → Option (Int32 × Int32 × (Nat → Int32))) (z56 : Int32 × Int32 × Int32 × (Nat → Int32)) : Option (Int32 × Int32 × (Nat → Int32)) :=
  (if z56.1 ≤ 0 then some (z56.2.1, z56.2.2.1, z56.2.2.2) else (if z56.1 = 0 then none else ((f_Row_add nt_cells z56.2.2.2 z56.2.1 z56.2.2.1 ((48 : Int32) + ((x3 / z56.1) - (x3 / z56.1) / (10 : Int32) * (10 : Int32)))).bind fun u_72 => rec_56 ((z56.1 / (10 : Int32)), u_72.1, u_72.2.1, u_72.2.2))))
def k_Row_addNumber_43 (rec_21 : (Int32 × Int32) → Option (Int32 × Int32 × (Nat → Int32))) (x4 : Int32) (x5 : Int32) : Option (Int32 × Int32 × (Nat → Int32)) :=
  rec_21 ((x4 * (10 : Int32)), (x5 + 1))
def b_Row_addNumber_21 (K : Nat) (nt_cells : Nat) (a2 : Int32) (x3 : Int32) (t_used : Int32) (t_burst : Int32) (t_cells : (Nat → Int32)) (rec_21 : (Int32 × Int32) → Option (Int32 × Int32 × (Nat → Int32))) (z21 : Int32 × Int32) : Option (Int32 × Int32 × (Nat → Int32)) :=
  (if (9 : Int32) ≤ z21.2 then lp_ (b_Row_addNumber_56 nt_cells x3) K (z21.1, t_used, t_burst, t_cells) else (if z21.2 < a2 then k_Row_addNumber_43 rec_21 z21.1 z21.2 else (if (x3 / (10 : Int32)) < z21.1 then lp_ (b_Row_addNumber_56 nt_cells x3) K (z21.1, t_used, t_burst, t_cells) else k_Row_addNumber_43 rec_21 z21.1 z21.2)))
def k_Row_addNumber_10 (K : Nat) (nt_cells : Nat) (a1 : Int32) (a2 : Int32) (t_used : Int32) (t_burst : Int32) (t_cells : (Nat → Int32)) : Option (Int32 × Int32 × (Nat → Int32)) :=
  lp_ (b_Row_addNumber_21 K nt_cells a2 (if 0 ≤ a1 then a1 else 0 - a1) t_used t_burst t_cells) K ((1 : Int32), (1 : Int32))
def f_Row_addNumber (K : Nat) (nt_cells : Nat) (t_cells : Nat → Int32) (t_used : Int32) (t_burst : Int32) (a1 : Int32) (a2 : Int32) : Option (Int32 × Int32 × (Nat → Int32)) :=
  (if 0 ≤ a1 then k_Row_addNumber_10 K nt_cells a1 a2 t_used t_burst t_cells else ((f_Row_add nt_cells t_cells t_used t_burst (45 : Int32)).bind fun u_7 => k_Row_addNumber_10 K nt_cells a1 a2 u_7.1 u_7.2.1 u_7.2.2))
abbrev w_Row_addNumber (G : Gt) (qt : Nat) (qt_cells : Nat) (nt_cells : Nat) (t_cells : Nat → Int32) (t_used : Int32) (t_burst : Int32) : va_W := [(qt, .inr (4, [.ref qt_cells, .int t_used, .int t_burst])), (qt_cells, .inl (gC G 0, nt_cells, .inl t_cells))]
set_option maxHeartbeats 4000000 in
set_option maxRecDepth 100000 in
theorem c_Row_addNumber (l : Launch) (G : Gt) (K : Nat) (qt : Nat) (qt_cells : Nat) (nt_cells : Nat) (t_cells : Nat → Int32) (t_used : Int32) (t_burst : Int32) (a1 : Int32) (a2 : Int32) (sz : Nat) (res : Int32 × Int32 × (Nat → Int32))   (hf : f_Row_addNumber K nt_cells t_cells t_used t_burst a1 a2 = some res) : Met l y_Row_addNumber (.code y_Row_addNumber b_Row_addNumber 6 none :: gw) { frames := 1, cells := 0, slots := 0, locals := 40 } (PC G ([.ref qt, .int a1, .int a2] : List Value) sz (w_Row_addNumber G qt qt_cells nt_cells t_cells t_used t_burst)) (QV G (va_A (w_Row_addNumber G qt qt_cells nt_cells t_cells t_used t_burst) sz) (w_Row_addNumber G qt qt_cells nt_cells res.2.2 res.1 res.2.1)) 0 0 (va_A (w_Row_addNumber G qt qt_cells nt_cells t_cells t_used t_burst) sz) := by
  refine Met.ofW (cc := b_Row_addNumber) (maxL := 6) (ret := none) (by decide) rfl ?_
  intro p e s m args below meth c s₁ B hml hv
  obtain ⟨rfl, hsz, hP, hE, hD0⟩ := hv
  have hx := B.exec
  have hb := B.bytes
  have hr := B.returns
  have hts := atoms_spec (ws := (.code y_Row_addNumber b_Row_addNumber 6 none :: gw)) B.pre
  have hg : ∀ w ∈ gw, w.before _ s = true := fun w h => hts w (List.mem_cons_of_mem _ h)
  have hown : s.vm.findClass R_Row = some m.cls := findClass_of_methodNamed B.named
  have hlocks := B.notSynchronized
  subst hsz
  have hK := hE.K
  have hD := hD0.self (sz := s.heap.size)
  have hAb := hE.ab hD0
  obtain ⟨Q, hQ⟩ : ∃ Q, MQ below (QV G (va_A (w_Row_addNumber G qt qt_cells nt_cells t_cells t_used t_burst) s.heap.size) (w_Row_addNumber G qt qt_cells nt_cells res.2.2 res.1 res.2.1)) ([.ref qt, .int a1, .int a2] : List Value).toArray s 0 0 (va_A (w_Row_addNumber G qt qt_cells nt_cells t_cells t_used t_burst) s.heap.size) = Q := ⟨_, rfl⟩
  show W p l e { frames := 1, cells := 0, slots := 0, locals := 40 } s m ([.ref qt, .int a1, .int a2] : List Value).toArray below meth c s.heap [] 0 0 (MQ below (QV G (va_A (w_Row_addNumber G qt qt_cells nt_cells t_cells t_used t_burst) s.heap.size) (w_Row_addNumber G qt qt_cells nt_cells res.2.2 res.1 res.2.1)) ([.ref qt, .int a1, .int a2] : List Value).toArray s 0 0 (va_A (w_Row_addNumber G qt qt_cells nt_cells t_cells t_used t_burst) s.heap.size)) _
  rw [hQ]
  have hA : ∀ q : Nat, s.heap.size ≤ q → va_A (w_Row_addNumber G qt qt_cells nt_cells t_cells t_used t_burst) s.heap.size q := fun q h => Or.inr h
  obtain ⟨A, hAe⟩ : ∃ A, va_A (w_Row_addNumber G qt qt_cells nt_cells t_cells t_used t_burst) s.heap.size = A := ⟨_, rfl⟩
  rw [hAe] at hA hD hAb hQ
  have hS : va_S A s.heap s.heap [] := va_S.rf
  have hl := lv_entry (([.ref qt, .int a1, .int a2] : List Value)) (n := 6) (Nat.le_of_ble_eq_true rfl)
  rw [lg_entry_eq]
  generalize (lg_sl (([.ref qt, .int a1, .int a2] : List Value)) ++ List.replicate (6 - (lg_sl (([.ref qt, .int a1, .int a2] : List Value))).length) Slot.unset).toArray = ls at hl ⊢
  have hl : lv_has ls 6 [(0, .ref qt), (1, .int a1), (2, .int a2)] := hl
  have W_56 : ∀ (x3 : Int32)  (n_56 : Nat) (z56 : Int32 × Int32 × Int32 × (Nat → Int32)) , lp_ (b_Row_addNumber_56 nt_cells x3) n_56 z56 = some res → ∀ (H : Heap) (locs : List Loc) (ls : Array Slot), va_P (gD G) vwCl (w_Row_addNumber G qt qt_cells nt_cells z56.2.2.2 z56.2.1 z56.2.2.1) H → va_D A (w_Row_addNumber G qt qt_cells nt_cells z56.2.2.2 z56.2.1 z56.2.2.1) → va_S A s.heap H locs → lv_has ls 6 [(0, .ref qt), (3, .int x3), (4, .int z56.1)] → W p l e { frames := 1, cells := 0, slots := 0, locals := 40 } s m ([.ref qt, .int a1, .int a2] : List Value).toArray below meth c H locs 0 0 Q (F0 m 56 ls []) := by
    intro x3 n_56
    induction n_56 with
    | zero =>
      intro z56  hf
      cases hf
    | succ n_56 ih_56 =>
      intro z56  hf H locs ls hP hD hS hl
      have hf : b_Row_addNumber_56 nt_cells x3 (lp_ (b_Row_addNumber_56 nt_cells x3) n_56) z56 = some res := hf
      generalize lp_ (b_Row_addNumber_56 nt_cells x3) n_56 = rec_56 at hf ih_56
      unfold b_Row_addNumber_56 at hf
      refine lv_iload hx hb d_Row_addNumber_56 (lv_at hl 2 rfl) ?_
      refine lv_if_le (tgt := 85) hx hb d_Row_addNumber_58 (by decide) (fun c_58 => ?_) (fun c_58 => ?_)
      · have hf := ip_ c_58 hf
        obtain rfl := Option.some.inj hf
        rw [← hQ]
        exact W.vret hx hb hr (fun t ht hW => ⟨⟨(), rfl, trivial, ⟨by rw [ht]; exact hP, hD⟩⟩, hS.F ht⟩) hS.2.2 d_Row_addNumber_85
      · have hf := in_ c_58 hf
        refine lv_aload_n hx hb d_Row_addNumber_61 rfl (lv_at hl 0 rfl) ?_
        refine lv_bipush (v := 48) hx hb d_Row_addNumber_62 (by decide) ?_
        refine lv_iload_n hx hb d_Row_addNumber_64 rfl (lv_at hl 1 rfl) ?_
        refine lv_iload hx hb d_Row_addNumber_65 (lv_at hl 2 rfl) ?_
        obtain ⟨g_67, hf⟩ := gn_ hf
        refine lv_idiv hx hb d_Row_addNumber_67 g_67 ?_
        refine lv_bipush (v := 10) hx hb d_Row_addNumber_68 (by decide) ?_
        refine lv_irem hx hb d_Row_addNumber_70 (by decide) ?_
        refine lv_iadd hx hb d_Row_addNumber_71 ?_
        obtain ⟨u_72, hu_72, hf⟩ := bd_ hf
        refine CALLv (va_runV (As := [.int ((48 : Int32) + ((x3 / z56.1) - (x3 / z56.1) / (10 : Int32) * (10 : Int32)))]) (rest := []) ⟨hx, hb, hml, hown, hg⟩ (c_Row_add l G K qt qt_cells nt_cells z56.2.2.2 z56.2.1 z56.2.2.1 ((48 : Int32) + ((x3 / z56.1) - (x3 / z56.1) / (10 : Int32) * (10 : Int32))) _ u_72  hu_72) (cwV 1 hg (gV m_3 m_4 m_5 m_6 m_7) rfl rfl rfl (by decide +kernel) ⟨Nat.le_of_ble_eq_true rfl, Nat.le_of_ble_eq_true rfl⟩) ⟨PC_b, va_recv hK hP (ci := 4) (q0 := 0) rfl rfl, PC_p hE hS hAb (hP.sub [0, 1] rfl) (hD.sub [0, 1] (by decide) rfl)⟩ rfl rfl hl.1 rfl (lv_room (Nat.le_of_ble_eq_true rfl)) d_Row_addNumber_72 ⟨Nat.zero_le _, Nat.zero_le _⟩) hP hD hS hA [0, 1] rfl rfl rfl (fun H locs hP hD hS => ?_)
        have hP : va_P (gD G) vwCl (w_Row_addNumber G qt qt_cells nt_cells u_72.2.2 u_72.1 u_72.2.1) H := hP
        have hD : va_D A (w_Row_addNumber G qt qt_cells nt_cells u_72.2.2 u_72.1 u_72.2.1) := hD
        refine lv_iload hx hb d_Row_addNumber_75 (lv_at hl 2 rfl) ?_
        refine lv_bipush (v := 10) hx hb d_Row_addNumber_77 (by decide) ?_
        refine lv_idiv hx hb d_Row_addNumber_79 (by decide) ?_
        refine lv_istore (lv' := [(4, .int (z56.1 / (10 : Int32))), (0, .ref qt), (3, .int x3)]) hx hb d_Row_addNumber_80 hl (by decide) rfl (fun ls hl => ?_)
        refine lv_goto (tgt := 56) hx hb d_Row_addNumber_82 (by decide) ?_
        exact ih_56 ((z56.1 / (10 : Int32)), u_72.1, u_72.2.1, u_72.2.2)  hf _ _ _ hP hD hS (lv_sub hl [1, 2, 0] rfl)
  have W_21 : ∀ (x3 : Int32) (t_used : Int32) (t_burst : Int32) (t_cells : (Nat → Int32))  (n_21 : Nat) (z21 : Int32 × Int32) , lp_ (b_Row_addNumber_21 K nt_cells a2 x3 t_used t_burst t_cells) n_21 z21 = some res → ∀ (H : Heap) (locs : List Loc) (ls : Array Slot), va_P (gD G) vwCl (w_Row_addNumber G qt qt_cells nt_cells t_cells t_used t_burst) H → va_D A (w_Row_addNumber G qt qt_cells nt_cells t_cells t_used t_burst) → va_S A s.heap H locs → lv_has ls 6 [(0, .ref qt), (2, .int a2), (3, .int x3), (4, .int z21.1), (5, .int z21.2)] → W p l e { frames := 1, cells := 0, slots := 0, locals := 40 } s m ([.ref qt, .int a1, .int a2] : List Value).toArray below meth c H locs 0 0 Q (F0 m 21 ls []) := by
    intro x3 t_used t_burst t_cells n_21
    induction n_21 with
    | zero =>
      intro z21  hf
      cases hf
    | succ n_21 ih_21 =>
      intro z21  hf H locs ls hP hD hS hl
      have hf : b_Row_addNumber_21 K nt_cells a2 x3 t_used t_burst t_cells (lp_ (b_Row_addNumber_21 K nt_cells a2 x3 t_used t_burst t_cells) n_21) z21 = some res := hf
      generalize lp_ (b_Row_addNumber_21 K nt_cells a2 x3 t_used t_burst t_cells) n_21 = rec_21 at hf ih_21
      have W_43 : ∀ (x4 : Int32) (x5 : Int32) , k_Row_addNumber_43 rec_21 x4 x5 = some res → ∀ (H : Heap) (locs : List Loc) (ls : Array Slot), va_P (gD G) vwCl (w_Row_addNumber G qt qt_cells nt_cells t_cells t_used t_burst) H → va_D A (w_Row_addNumber G qt qt_cells nt_cells t_cells t_used t_burst) → va_S A s.heap H locs → lv_has ls 6 [(0, .ref qt), (2, .int a2), (3, .int x3), (4, .int x4), (5, .int x5)] → W p l e { frames := 1, cells := 0, slots := 0, locals := 40 } s m ([.ref qt, .int a1, .int a2] : List Value).toArray below meth c H locs 0 0 Q (F0 m 43 ls []) := by
        intro x4 x5  hf H locs ls hP hD hS hl
        unfold k_Row_addNumber_43 at hf
        refine lv_iload hx hb d_Row_addNumber_43 (lv_at hl 3 rfl) ?_
        refine lv_bipush (v := 10) hx hb d_Row_addNumber_45 (by decide) ?_
        refine lv_imul hx hb d_Row_addNumber_47 ?_
        refine lv_istore (lv' := [(4, .int (x4 * (10 : Int32))), (0, .ref qt), (2, .int a2), (3, .int x3), (5, .int x5)]) hx hb d_Row_addNumber_48 hl (by decide) rfl (fun ls hl => ?_)
        refine lv_iinc (v := (x5 + 1)) (lv' := [(5, .int (x5 + 1)), (4, .int (x4 * (10 : Int32))), (0, .ref qt), (2, .int a2), (3, .int x3)]) hx hb d_Row_addNumber_50 hl (k := 4) rfl rfl (by decide) rfl (fun ls hl => ?_)
        refine lv_goto (tgt := 21) hx hb d_Row_addNumber_53 (by decide) ?_
        exact ih_21 ((x4 * (10 : Int32)), (x5 + 1))  hf _ _ _ hP hD hS (lv_sub hl [2, 3, 4, 1, 0] rfl)
      unfold b_Row_addNumber_21 at hf
      refine lv_iload hx hb d_Row_addNumber_21 (lv_at hl 4 rfl) ?_
      refine lv_bipush (v := 9) hx hb d_Row_addNumber_23 (by decide) ?_
      refine lv_icmp_ge (tgt := 56) hx hb d_Row_addNumber_25 (by decide) (fun c_25 => ?_) (fun c_25 => ?_)
      · have hf := ip_ c_25 hf
        exact W_56 x3  K (z21.1, t_used, t_burst, t_cells)  hf _ _ _ hP hD hS (lv_sub hl [0, 2, 3] rfl)
      · have hf := in_ c_25 hf
        refine lv_iload hx hb d_Row_addNumber_28 (lv_at hl 4 rfl) ?_
        refine lv_iload_n hx hb d_Row_addNumber_30 rfl (lv_at hl 1 rfl) ?_
        refine lv_icmp_lt (tgt := 43) hx hb d_Row_addNumber_31 (by decide) (fun c_31 => ?_) (fun c_31 => ?_)
        · have hf := ip_ c_31 hf
          exact W_43 z21.1 z21.2  hf _ _ _ hP hD hS (lv_sub hl [0, 1, 2, 3, 4] rfl)
        · have hf := in_ c_31 hf
          refine lv_iload_n hx hb d_Row_addNumber_34 rfl (lv_at hl 2 rfl) ?_
          refine lv_bipush (v := 10) hx hb d_Row_addNumber_35 (by decide) ?_
          refine lv_idiv hx hb d_Row_addNumber_37 (by decide) ?_
          refine lv_iload hx hb d_Row_addNumber_38 (lv_at hl 3 rfl) ?_
          refine lv_icmp_lt (tgt := 56) hx hb d_Row_addNumber_40 (by decide) (fun c_40 => ?_) (fun c_40 => ?_)
          · have hf := ip_ c_40 hf
            exact W_56 x3  K (z21.1, t_used, t_burst, t_cells)  hf _ _ _ hP hD hS (lv_sub hl [0, 2, 3] rfl)
          · have hf := in_ c_40 hf
            exact W_43 z21.1 z21.2  hf _ _ _ hP hD hS (lv_sub hl [0, 1, 2, 3, 4] rfl)
  have W_10 : ∀ (t_used : Int32) (t_burst : Int32) (t_cells : (Nat → Int32)) , k_Row_addNumber_10 K nt_cells a1 a2 t_used t_burst t_cells = some res → ∀ (H : Heap) (locs : List Loc) (ls : Array Slot), va_P (gD G) vwCl (w_Row_addNumber G qt qt_cells nt_cells t_cells t_used t_burst) H → va_D A (w_Row_addNumber G qt qt_cells nt_cells t_cells t_used t_burst) → va_S A s.heap H locs → lv_has ls 6 [(0, .ref qt), (1, .int a1), (2, .int a2)] → W p l e { frames := 1, cells := 0, slots := 0, locals := 40 } s m ([.ref qt, .int a1, .int a2] : List Value).toArray below meth c H locs 0 0 Q (F0 m 10 ls []) := by
    intro t_used t_burst t_cells  hf H locs ls hP hD hS hl
    unfold k_Row_addNumber_10 at hf
    refine lv_iload_n hx hb d_Row_addNumber_10 rfl (lv_at hl 1 rfl) ?_
    refine va_mabs hx hb (hml.trans hl.1.symm) hown (hg _ m_12) (hg _ m_13) (hg _ m_14) (hg _ m_15) (Nat.le_of_ble_eq_true rfl) (Nat.le_of_ble_eq_true rfl) (Nat.zero_le _) (Nat.zero_le _) d_Row_addNumber_11 ?_
    refine lv_istore_n (lv' := [(3, .int (if 0 ≤ a1 then a1 else 0 - a1)), (0, .ref qt), (1, .int a1), (2, .int a2)]) hx hb d_Row_addNumber_14 rfl hl (by decide) rfl (fun ls hl => ?_)
    refine lv_iconst (v := 1) hx hb d_Row_addNumber_15 (by decide) ?_
    refine lv_istore (lv' := [(4, .int (1 : Int32)), (3, .int (if 0 ≤ a1 then a1 else 0 - a1)), (0, .ref qt), (1, .int a1), (2, .int a2)]) hx hb d_Row_addNumber_16 hl (by decide) rfl (fun ls hl => ?_)
    refine lv_iconst (v := 1) hx hb d_Row_addNumber_18 (by decide) ?_
    refine lv_istore (lv' := [(5, .int (1 : Int32)), (4, .int (1 : Int32)), (3, .int (if 0 ≤ a1 then a1 else 0 - a1)), (0, .ref qt), (1, .int a1), (2, .int a2)]) hx hb d_Row_addNumber_19 hl (by decide) rfl (fun ls hl => ?_)
    exact W_21 (if 0 ≤ a1 then a1 else 0 - a1) t_used t_burst t_cells  K ((1 : Int32), (1 : Int32))  hf _ _ _ hP hD hS (lv_sub hl [3, 5, 2, 1, 0] rfl)
  unfold f_Row_addNumber at hf
  refine lv_iload_n hx hb d_Row_addNumber_0 rfl (lv_at hl 1 rfl) ?_
  refine lv_if_ge (tgt := 10) hx hb d_Row_addNumber_1 (by decide) (fun c_1 => ?_) (fun c_1 => ?_)
  · have hf := ip_ c_1 hf
    exact W_10 t_used t_burst t_cells  hf _ _ _ hP hD hS (lv_sub hl [0, 1, 2] rfl)
  · have hf := in_ c_1 hf
    refine lv_aload_n hx hb d_Row_addNumber_4 rfl (lv_at hl 0 rfl) ?_
    refine lv_bipush (v := 45) hx hb d_Row_addNumber_5 (by decide) ?_
    obtain ⟨u_7, hu_7, hf⟩ := bd_ hf
    refine CALLv (va_runV (As := [.int (45 : Int32)]) (rest := []) ⟨hx, hb, hml, hown, hg⟩ (c_Row_add l G K qt qt_cells nt_cells t_cells t_used t_burst (45 : Int32) _ u_7  hu_7) (cwV 1 hg (gV m_3 m_4 m_5 m_6 m_7) rfl rfl rfl (by decide +kernel) ⟨Nat.le_of_ble_eq_true rfl, Nat.le_of_ble_eq_true rfl⟩) ⟨PC_b, va_recv hK hP (ci := 4) (q0 := 0) rfl rfl, PC_p hE hS hAb (hP.sub [0, 1] rfl) (hD.sub [0, 1] (by decide) rfl)⟩ rfl rfl hl.1 rfl (lv_room (Nat.le_of_ble_eq_true rfl)) d_Row_addNumber_7 ⟨Nat.zero_le _, Nat.zero_le _⟩) hP hD hS hA [0, 1] rfl rfl rfl (fun H locs hP hD hS => ?_)
    have hP : va_P (gD G) vwCl (w_Row_addNumber G qt qt_cells nt_cells u_7.2.2 u_7.1 u_7.2.1) H := hP
    have hD : va_D A (w_Row_addNumber G qt qt_cells nt_cells u_7.2.2 u_7.1 u_7.2.1) := hD
    exact W_10 u_7.1 u_7.2.1 u_7.2.2  hf _ _ _ hP hD hS (lv_sub hl [0, 1, 2] rfl)
theorem d_Row_cutTo_0 : decode b_Row_cutTo 0 = .ok (.iload_n 1, 1) := by decide +kernel
theorem d_Row_cutTo_1 : decode b_Row_cutTo 1 = .ok (.ifCond .lt 16, 3) := by decide +kernel
theorem d_Row_cutTo_4 : decode b_Row_cutTo 4 = .ok (.iload_n 1, 1) := by decide +kernel
theorem d_Row_cutTo_5 : decode b_Row_cutTo 5 = .ok (.aload_n 0, 1) := by decide +kernel
theorem d_Row_cutTo_6 : decode b_Row_cutTo 6 = .ok (.getfield 19, 3) := by decide +kernel
theorem d_Row_cutTo_9 : decode b_Row_cutTo 9 = .ok (.if_icmp .ge 8, 3) := by decide +kernel
theorem d_Row_cutTo_12 : decode b_Row_cutTo 12 = .ok (.aload_n 0, 1) := by decide +kernel
theorem d_Row_cutTo_13 : decode b_Row_cutTo 13 = .ok (.iload_n 1, 1) := by decide +kernel
theorem d_Row_cutTo_14 : decode b_Row_cutTo 14 = .ok (.putfield 19, 3) := by decide +kernel
theorem d_Row_cutTo_17 : decode b_Row_cutTo 17 = .ok (.return_, 1) := by decide +kernel
def f_Row_cutTo (t_used : Int32) (a1 : Int32) : Option Int32 :=
  (if a1 < 0 then some t_used else (if t_used ≤ a1 then some t_used else some a1))
abbrev w_Row_cutTo (G : Gt) (qt : Nat) (qt_cells : Nat) (nt_cells : Nat) (t_cells : Nat → Int32) (t_used : Int32) (t_burst : Int32) : va_W := [(qt, .inr (4, [.ref qt_cells, .int t_used, .int t_burst])), (qt_cells, .inl (gC G 0, nt_cells, .inl t_cells))]
set_option maxHeartbeats 4000000 in
set_option maxRecDepth 100000 in
theorem c_Row_cutTo (l : Launch) (G : Gt) (K : Nat) (qt : Nat) (qt_cells : Nat) (nt_cells : Nat) (t_cells : Nat → Int32) (t_used : Int32) (t_burst : Int32) (a1 : Int32) (sz : Nat) (res : Int32)   (hf : f_Row_cutTo t_used a1 = some res) : Met l y_Row_cutTo (.code y_Row_cutTo b_Row_cutTo 2 none :: gw) { frames := 0, cells := 0, slots := 0, locals := 0 } (PC G ([.ref qt, .int a1] : List Value) sz (w_Row_cutTo G qt qt_cells nt_cells t_cells t_used t_burst)) (QV G (va_A (w_Row_cutTo G qt qt_cells nt_cells t_cells t_used t_burst) sz) (w_Row_cutTo G qt qt_cells nt_cells t_cells res t_burst)) 0 0 (va_A (w_Row_cutTo G qt qt_cells nt_cells t_cells t_used t_burst) sz) := by
  refine Met.ofW (cc := b_Row_cutTo) (maxL := 2) (ret := none) (by decide) rfl ?_
  intro p e s m args below meth c s₁ B hml hv
  obtain ⟨rfl, hsz, hP, hE, hD0⟩ := hv
  have hx := B.exec
  have hb := B.bytes
  have hr := B.returns
  have hts := atoms_spec (ws := (.code y_Row_cutTo b_Row_cutTo 2 none :: gw)) B.pre
  have hg : ∀ w ∈ gw, w.before _ s = true := fun w h => hts w (List.mem_cons_of_mem _ h)
  have hown : s.vm.findClass R_Row = some m.cls := findClass_of_methodNamed B.named
  have hlocks := B.notSynchronized
  subst hsz
  have hK := hE.K
  have hD := hD0.self (sz := s.heap.size)
  have hAb := hE.ab hD0
  obtain ⟨Q, hQ⟩ : ∃ Q, MQ below (QV G (va_A (w_Row_cutTo G qt qt_cells nt_cells t_cells t_used t_burst) s.heap.size) (w_Row_cutTo G qt qt_cells nt_cells t_cells res t_burst)) ([.ref qt, .int a1] : List Value).toArray s 0 0 (va_A (w_Row_cutTo G qt qt_cells nt_cells t_cells t_used t_burst) s.heap.size) = Q := ⟨_, rfl⟩
  show W p l e { frames := 0, cells := 0, slots := 0, locals := 0 } s m ([.ref qt, .int a1] : List Value).toArray below meth c s.heap [] 0 0 (MQ below (QV G (va_A (w_Row_cutTo G qt qt_cells nt_cells t_cells t_used t_burst) s.heap.size) (w_Row_cutTo G qt qt_cells nt_cells t_cells res t_burst)) ([.ref qt, .int a1] : List Value).toArray s 0 0 (va_A (w_Row_cutTo G qt qt_cells nt_cells t_cells t_used t_burst) s.heap.size)) _
  rw [hQ]
  have hA : ∀ q : Nat, s.heap.size ≤ q → va_A (w_Row_cutTo G qt qt_cells nt_cells t_cells t_used t_burst) s.heap.size q := fun q h => Or.inr h
  obtain ⟨A, hAe⟩ : ∃ A, va_A (w_Row_cutTo G qt qt_cells nt_cells t_cells t_used t_burst) s.heap.size = A := ⟨_, rfl⟩
  rw [hAe] at hA hD hAb hQ
  have hS : va_S A s.heap s.heap [] := va_S.rf
  have hl := lv_entry (([.ref qt, .int a1] : List Value)) (n := 2) (Nat.le_of_ble_eq_true rfl)
  rw [lg_entry_eq]
  generalize (lg_sl (([.ref qt, .int a1] : List Value)) ++ List.replicate (2 - (lg_sl (([.ref qt, .int a1] : List Value))).length) Slot.unset).toArray = ls at hl ⊢
  have hl : lv_has ls 2 [(0, .ref qt), (1, .int a1)] := hl
  unfold f_Row_cutTo at hf
  refine lv_iload_n hx hb d_Row_cutTo_0 rfl (lv_at hl 1 rfl) ?_
  refine lv_if_lt (tgt := 17) hx hb d_Row_cutTo_1 (by decide) (fun c_1 => ?_) (fun c_1 => ?_)
  · have hf := ip_ c_1 hf
    obtain rfl := Option.some.inj hf
    rw [← hQ]
    exact W.vret hx hb hr (fun t ht hW => ⟨⟨(), rfl, trivial, ⟨by rw [ht]; exact hP, hD⟩⟩, hS.F ht⟩) hS.2.2 d_Row_cutTo_17
  · have hf := in_ c_1 hf
    refine lv_iload_n hx hb d_Row_cutTo_4 rfl (lv_at hl 1 rfl) ?_
    refine lv_aload_n hx hb d_Row_cutTo_5 rfl (lv_at hl 0 rfl) ?_
    refine va_get (D := gD G) (ci := 4) (v := .int t_used) (C := R_Row) (T := F_Row) (N := 3) hx hb hg in_Row hown hK hP 0 rfl rfl 1 (by decide) (hg _ m_0) (fun _ h9 => h9) rfl d_Row_cutTo_6 ?_
    refine lv_icmp_ge (tgt := 17) hx hb d_Row_cutTo_9 (by decide) (fun c_9 => ?_) (fun c_9 => ?_)
    · have hf := ip_ c_9 hf
      obtain rfl := Option.some.inj hf
      rw [← hQ]
      exact W.vret hx hb hr (fun t ht hW => ⟨⟨(), rfl, trivial, ⟨by rw [ht]; exact hP, hD⟩⟩, hS.F ht⟩) hS.2.2 d_Row_cutTo_17
    · have hf := in_ c_9 hf
      refine lv_aload_n hx hb d_Row_cutTo_12 rfl (lv_at hl 0 rfl) ?_
      refine lv_iload_n hx hb d_Row_cutTo_13 rfl (lv_at hl 1 rfl) ?_
      refine va_put (D := gD G) (ci := 4) (v := .int a1) (ty := .int) (C := R_Row) (T := F_Row) (N := 3) hx hb hg in_Row t_Row to_Row no_Row hown hK hP hD hS 0 rfl rfl 1 (by decide) (hg _ m_0) (fun _ h9 => h9) rfl (by decide +kernel) rfl rfl (Nat.le_of_ble_eq_true rfl) d_Row_cutTo_14 (fun H locs hP hD hS => ?_)
      have hP : va_P (gD G) vwCl (w_Row_cutTo G qt qt_cells nt_cells t_cells a1 t_burst) H := hP
      have hD : va_D A (w_Row_cutTo G qt qt_cells nt_cells t_cells a1 t_burst) := hD
      obtain rfl := Option.some.inj hf
      rw [← hQ]
      exact W.vret hx hb hr (fun t ht hW => ⟨⟨(), rfl, trivial, ⟨by rw [ht]; exact hP, hD⟩⟩, hS.F ht⟩) hS.2.2 d_Row_cutTo_17
theorem d_Row_raiseFrom_0 : decode b_Row_raiseFrom 0 = .ok (.iconst 0, 1) := by decide +kernel
theorem d_Row_raiseFrom_1 : decode b_Row_raiseFrom 1 = .ok (.iload_n 1, 1) := by decide +kernel
theorem d_Row_raiseFrom_2 : decode b_Row_raiseFrom 2 = .ok (.invokestatic 7, 3) := by decide +kernel
theorem d_Row_raiseFrom_5 : decode b_Row_raiseFrom 5 = .ok (.istore_n 2, 1) := by decide +kernel
theorem d_Row_raiseFrom_6 : decode b_Row_raiseFrom 6 = .ok (.iload_n 2, 1) := by decide +kernel
theorem d_Row_raiseFrom_7 : decode b_Row_raiseFrom 7 = .ok (.aload_n 0, 1) := by decide +kernel
theorem d_Row_raiseFrom_8 : decode b_Row_raiseFrom 8 = .ok (.getfield 19, 3) := by decide +kernel
theorem d_Row_raiseFrom_11 : decode b_Row_raiseFrom 11 = .ok (.if_icmp .ge 52, 3) := by decide +kernel
theorem d_Row_raiseFrom_14 : decode b_Row_raiseFrom 14 = .ok (.iload_n 2, 1) := by decide +kernel
theorem d_Row_raiseFrom_15 : decode b_Row_raiseFrom 15 = .ok (.aload_n 0, 1) := by decide +kernel
theorem d_Row_raiseFrom_16 : decode b_Row_raiseFrom 16 = .ok (.getfield 13, 3) := by decide +kernel
theorem d_Row_raiseFrom_19 : decode b_Row_raiseFrom 19 = .ok (.arraylength, 1) := by decide +kernel
theorem d_Row_raiseFrom_20 : decode b_Row_raiseFrom 20 = .ok (.if_icmp .ge 43, 3) := by decide +kernel
theorem d_Row_raiseFrom_23 : decode b_Row_raiseFrom 23 = .ok (.aload_n 0, 1) := by decide +kernel
theorem d_Row_raiseFrom_24 : decode b_Row_raiseFrom 24 = .ok (.getfield 13, 3) := by decide +kernel
theorem d_Row_raiseFrom_27 : decode b_Row_raiseFrom 27 = .ok (.iload_n 2, 1) := by decide +kernel
theorem d_Row_raiseFrom_28 : decode b_Row_raiseFrom 28 = .ok (.baload, 1) := by decide +kernel
theorem d_Row_raiseFrom_29 : decode b_Row_raiseFrom 29 = .ok (.bipush 97, 2) := by decide +kernel
theorem d_Row_raiseFrom_31 : decode b_Row_raiseFrom 31 = .ok (.if_icmp .lt 26, 3) := by decide +kernel
theorem d_Row_raiseFrom_34 : decode b_Row_raiseFrom 34 = .ok (.aload_n 0, 1) := by decide +kernel
theorem d_Row_raiseFrom_35 : decode b_Row_raiseFrom 35 = .ok (.getfield 13, 3) := by decide +kernel
theorem d_Row_raiseFrom_38 : decode b_Row_raiseFrom 38 = .ok (.iload_n 2, 1) := by decide +kernel
theorem d_Row_raiseFrom_39 : decode b_Row_raiseFrom 39 = .ok (.baload, 1) := by decide +kernel
theorem d_Row_raiseFrom_40 : decode b_Row_raiseFrom 40 = .ok (.bipush 122, 2) := by decide +kernel
theorem d_Row_raiseFrom_42 : decode b_Row_raiseFrom 42 = .ok (.if_icmp .gt 15, 3) := by decide +kernel
theorem d_Row_raiseFrom_45 : decode b_Row_raiseFrom 45 = .ok (.aload_n 0, 1) := by decide +kernel
theorem d_Row_raiseFrom_46 : decode b_Row_raiseFrom 46 = .ok (.getfield 13, 3) := by decide +kernel
theorem d_Row_raiseFrom_49 : decode b_Row_raiseFrom 49 = .ok (.iload_n 2, 1) := by decide +kernel
theorem d_Row_raiseFrom_50 : decode b_Row_raiseFrom 50 = .ok (.dup2, 1) := by decide +kernel
theorem d_Row_raiseFrom_51 : decode b_Row_raiseFrom 51 = .ok (.baload, 1) := by decide +kernel
theorem d_Row_raiseFrom_52 : decode b_Row_raiseFrom 52 = .ok (.bipush 32, 2) := by decide +kernel
theorem d_Row_raiseFrom_54 : decode b_Row_raiseFrom 54 = .ok (.isub, 1) := by decide +kernel
theorem d_Row_raiseFrom_55 : decode b_Row_raiseFrom 55 = .ok (.i2b, 1) := by decide +kernel
theorem d_Row_raiseFrom_56 : decode b_Row_raiseFrom 56 = .ok (.bastore, 1) := by decide +kernel
theorem d_Row_raiseFrom_57 : decode b_Row_raiseFrom 57 = .ok (.iinc 2 1, 3) := by decide +kernel
theorem d_Row_raiseFrom_60 : decode b_Row_raiseFrom 60 = .ok (.goto (-54), 3) := by decide +kernel
theorem d_Row_raiseFrom_63 : decode b_Row_raiseFrom 63 = .ok (.return_, 1) := by decide +kernel
theorem m_16 : Cond.methodLink R_Row 7 Lib.Math.max.name ∈ gw := gm (i := 114) (by decide +kernel) (by decide +kernel)
theorem m_17 : Cond.static Lib.Math.max.name ∈ gw := gm (i := 115) (by decide +kernel) (by decide +kernel)
set_option maxRecDepth 100000 in
theorem m_18 : Cond.code Lib.Math.max.name Lib.Math.max.code 2 (some .int) ∈ gw := gm (i := 116) rfl rfl
def k_Row_raiseFrom_57 (rec_6 : (Int32 × (Nat → Int32)) → Option (Nat → Int32)) (x2 : Int32) (t_cells : (Nat → Int32)) : Option (Nat → Int32) :=
  rec_6 ((x2 + 1), t_cells)
def b_Row_raiseFrom_6 (nt_cells : Nat) (t_used : Int32)  (rec_6 : (Int32 × (Nat → Int32)) → Option (Nat → Int32)) (z6 : Int32 × (Nat → Int32)) : Option (Nat → Int32) :=
  (if t_used ≤ z6.1 then some z6.2 else (if (nI nt_cells) ≤ z6.1 then some z6.2 else (if inB z6.1 nt_cells = true then (if (z6.2 z6.1.toNatClampNeg) < (97 : Int32) then k_Row_raiseFrom_57 rec_6 z6.1 z6.2 else (if inB z6.1 nt_cells = true then (if (122 : Int32) < (z6.2 z6.1.toNatClampNeg) then k_Row_raiseFrom_57 rec_6 z6.1 z6.2 else (if inB z6.1 nt_cells = true then (if inB z6.1 nt_cells = true then k_Row_raiseFrom_57 rec_6 z6.1 (upd z6.2 z6.1.toNatClampNeg (vp_nar .byte (((z6.2 z6.1.toNatClampNeg) - (32 : Int32)).toInt8.toInt32))) else none) else none)) else none)) else none)))
def f_Row_raiseFrom (K : Nat) (nt_cells : Nat) (t_cells : Nat → Int32) (t_used : Int32) (a1 : Int32) : Option (Nat → Int32) :=
  lp_ (b_Row_raiseFrom_6 nt_cells t_used ) K ((if (0 : Int32) < a1 then a1 else (0 : Int32)), t_cells)
abbrev w_Row_raiseFrom (G : Gt) (qt : Nat) (qt_cells : Nat) (nt_cells : Nat) (t_cells : Nat → Int32) (t_used : Int32) (t_burst : Int32) : va_W := [(qt, .inr (4, [.ref qt_cells, .int t_used, .int t_burst])), (qt_cells, .inl (gC G 0, nt_cells, .inl t_cells))]
set_option maxHeartbeats 4000000 in
set_option maxRecDepth 100000 in
theorem c_Row_raiseFrom (l : Launch) (G : Gt) (K : Nat) (qt : Nat) (qt_cells : Nat) (nt_cells : Nat) (t_cells : Nat → Int32) (t_used : Int32) (t_burst : Int32) (a1 : Int32) (sz : Nat) (res : (Nat → Int32))   (hf : f_Row_raiseFrom K nt_cells t_cells t_used a1 = some res) : Met l y_Row_raiseFrom (.code y_Row_raiseFrom b_Row_raiseFrom 3 none :: gw) { frames := 1, cells := 0, slots := 0, locals := 40 } (PC G ([.ref qt, .int a1] : List Value) sz (w_Row_raiseFrom G qt qt_cells nt_cells t_cells t_used t_burst)) (QV G (va_A (w_Row_raiseFrom G qt qt_cells nt_cells t_cells t_used t_burst) sz) (w_Row_raiseFrom G qt qt_cells nt_cells res t_used t_burst)) 0 0 (va_A (w_Row_raiseFrom G qt qt_cells nt_cells t_cells t_used t_burst) sz) := by
  refine Met.ofW (cc := b_Row_raiseFrom) (maxL := 3) (ret := none) (by decide) rfl ?_
  intro p e s m args below meth c s₁ B hml hv
  obtain ⟨rfl, hsz, hP, hE, hD0⟩ := hv
  have hx := B.exec
  have hb := B.bytes
  have hr := B.returns
  have hts := atoms_spec (ws := (.code y_Row_raiseFrom b_Row_raiseFrom 3 none :: gw)) B.pre
  have hg : ∀ w ∈ gw, w.before _ s = true := fun w h => hts w (List.mem_cons_of_mem _ h)
  have hown : s.vm.findClass R_Row = some m.cls := findClass_of_methodNamed B.named
  have hlocks := B.notSynchronized
  subst hsz
  have hK := hE.K
  have hD := hD0.self (sz := s.heap.size)
  have hAb := hE.ab hD0
  obtain ⟨Q, hQ⟩ : ∃ Q, MQ below (QV G (va_A (w_Row_raiseFrom G qt qt_cells nt_cells t_cells t_used t_burst) s.heap.size) (w_Row_raiseFrom G qt qt_cells nt_cells res t_used t_burst)) ([.ref qt, .int a1] : List Value).toArray s 0 0 (va_A (w_Row_raiseFrom G qt qt_cells nt_cells t_cells t_used t_burst) s.heap.size) = Q := ⟨_, rfl⟩
  show W p l e { frames := 1, cells := 0, slots := 0, locals := 40 } s m ([.ref qt, .int a1] : List Value).toArray below meth c s.heap [] 0 0 (MQ below (QV G (va_A (w_Row_raiseFrom G qt qt_cells nt_cells t_cells t_used t_burst) s.heap.size) (w_Row_raiseFrom G qt qt_cells nt_cells res t_used t_burst)) ([.ref qt, .int a1] : List Value).toArray s 0 0 (va_A (w_Row_raiseFrom G qt qt_cells nt_cells t_cells t_used t_burst) s.heap.size)) _
  rw [hQ]
  have hA : ∀ q : Nat, s.heap.size ≤ q → va_A (w_Row_raiseFrom G qt qt_cells nt_cells t_cells t_used t_burst) s.heap.size q := fun q h => Or.inr h
  obtain ⟨A, hAe⟩ : ∃ A, va_A (w_Row_raiseFrom G qt qt_cells nt_cells t_cells t_used t_burst) s.heap.size = A := ⟨_, rfl⟩
  rw [hAe] at hA hD hAb hQ
  have hS : va_S A s.heap s.heap [] := va_S.rf
  have hl := lv_entry (([.ref qt, .int a1] : List Value)) (n := 3) (Nat.le_of_ble_eq_true rfl)
  rw [lg_entry_eq]
  generalize (lg_sl (([.ref qt, .int a1] : List Value)) ++ List.replicate (3 - (lg_sl (([.ref qt, .int a1] : List Value))).length) Slot.unset).toArray = ls at hl ⊢
  have hl : lv_has ls 3 [(0, .ref qt), (1, .int a1)] := hl
  have W_6 : ∀   (n_6 : Nat) (z6 : Int32 × (Nat → Int32)) , lp_ (b_Row_raiseFrom_6 nt_cells t_used ) n_6 z6 = some res → ∀ (H : Heap) (locs : List Loc) (ls : Array Slot), va_P (gD G) vwCl (w_Row_raiseFrom G qt qt_cells nt_cells z6.2 t_used t_burst) H → va_D A (w_Row_raiseFrom G qt qt_cells nt_cells z6.2 t_used t_burst) → va_S A s.heap H locs → lv_has ls 3 [(0, .ref qt), (2, .int z6.1)] → W p l e { frames := 1, cells := 0, slots := 0, locals := 40 } s m ([.ref qt, .int a1] : List Value).toArray below meth c H locs 0 0 Q (F0 m 6 ls []) := by
    intro  n_6
    induction n_6 with
    | zero =>
      intro z6  hf
      cases hf
    | succ n_6 ih_6 =>
      intro z6  hf H locs ls hP hD hS hl
      have hf : b_Row_raiseFrom_6 nt_cells t_used  (lp_ (b_Row_raiseFrom_6 nt_cells t_used ) n_6) z6 = some res := hf
      generalize lp_ (b_Row_raiseFrom_6 nt_cells t_used ) n_6 = rec_6 at hf ih_6
      have W_57 : ∀ (x2 : Int32) (t_cells : (Nat → Int32)) , k_Row_raiseFrom_57 rec_6 x2 t_cells = some res → ∀ (H : Heap) (locs : List Loc) (ls : Array Slot), va_P (gD G) vwCl (w_Row_raiseFrom G qt qt_cells nt_cells t_cells t_used t_burst) H → va_D A (w_Row_raiseFrom G qt qt_cells nt_cells t_cells t_used t_burst) → va_S A s.heap H locs → lv_has ls 3 [(0, .ref qt), (2, .int x2)] → W p l e { frames := 1, cells := 0, slots := 0, locals := 40 } s m ([.ref qt, .int a1] : List Value).toArray below meth c H locs 0 0 Q (F0 m 57 ls []) := by
        intro x2 t_cells  hf H locs ls hP hD hS hl
        unfold k_Row_raiseFrom_57 at hf
        refine lv_iinc (v := (x2 + 1)) (lv' := [(2, .int (x2 + 1)), (0, .ref qt)]) hx hb d_Row_raiseFrom_57 hl (k := 1) rfl rfl (by decide) rfl (fun ls hl => ?_)
        refine lv_goto (tgt := 6) hx hb d_Row_raiseFrom_60 (by decide) ?_
        exact ih_6 ((x2 + 1), t_cells)  hf _ _ _ hP hD hS (lv_sub hl [1, 0] rfl)
      unfold b_Row_raiseFrom_6 at hf
      refine lv_iload_n hx hb d_Row_raiseFrom_6 rfl (lv_at hl 1 rfl) ?_
      refine lv_aload_n hx hb d_Row_raiseFrom_7 rfl (lv_at hl 0 rfl) ?_
      refine va_get (D := gD G) (ci := 4) (v := .int t_used) (C := R_Row) (T := F_Row) (N := 3) hx hb hg in_Row hown hK hP 0 rfl rfl 1 (by decide) (hg _ m_0) (fun _ h9 => h9) rfl d_Row_raiseFrom_8 ?_
      refine lv_icmp_ge (tgt := 63) hx hb d_Row_raiseFrom_11 (by decide) (fun c_11 => ?_) (fun c_11 => ?_)
      · have hf := ip_ c_11 hf
        obtain rfl := Option.some.inj hf
        rw [← hQ]
        exact W.vret hx hb hr (fun t ht hW => ⟨⟨(), rfl, trivial, ⟨by rw [ht]; exact hP, hD⟩⟩, hS.F ht⟩) hS.2.2 d_Row_raiseFrom_63
      · have hf := in_ c_11 hf
        refine lv_iload_n hx hb d_Row_raiseFrom_14 rfl (lv_at hl 1 rfl) ?_
        refine lv_aload_n hx hb d_Row_raiseFrom_15 rfl (lv_at hl 0 rfl) ?_
        refine va_get (D := gD G) (ci := 4) (v := .ref qt_cells) (C := R_Row) (T := F_Row) (N := 3) hx hb hg in_Row hown hK hP 0 rfl rfl 0 (by decide) (hg _ m_2) (fun _ h9 => h9) rfl d_Row_raiseFrom_16 ?_
        refine va_alen hx hb hK hP 1 0 rfl rfl (v := nI nt_cells) rfl d_Row_raiseFrom_19 ?_
        refine lv_icmp_ge (tgt := 63) hx hb d_Row_raiseFrom_20 (by decide) (fun c_20 => ?_) (fun c_20 => ?_)
        · have hf := ip_ c_20 hf
          obtain rfl := Option.some.inj hf
          rw [← hQ]
          exact W.vret hx hb hr (fun t ht hW => ⟨⟨(), rfl, trivial, ⟨by rw [ht]; exact hP, hD⟩⟩, hS.F ht⟩) hS.2.2 d_Row_raiseFrom_63
        · have hf := in_ c_20 hf
          refine lv_aload_n hx hb d_Row_raiseFrom_23 rfl (lv_at hl 0 rfl) ?_
          refine va_get (D := gD G) (ci := 4) (v := .ref qt_cells) (C := R_Row) (T := F_Row) (N := 3) hx hb hg in_Row hown hK hP 0 rfl rfl 0 (by decide) (hg _ m_2) (fun _ h9 => h9) rfl d_Row_raiseFrom_24 ?_
          refine lv_iload_n hx hb d_Row_raiseFrom_27 rfl (lv_at hl 1 rfl) ?_
          obtain ⟨g_28, hf⟩ := gd_ hf
          refine va_bald hx hb hK hP 1 0 rfl rfl (inB_in g_28) d_Row_raiseFrom_28 ?_
          refine lv_bipush (v := 97) hx hb d_Row_raiseFrom_29 (by decide) ?_
          refine lv_icmp_lt (tgt := 57) hx hb d_Row_raiseFrom_31 (by decide) (fun c_31 => ?_) (fun c_31 => ?_)
          · have hf := ip_ c_31 hf
            exact W_57 z6.1 z6.2  hf _ _ _ hP hD hS (lv_sub hl [0, 1] rfl)
          · have hf := in_ c_31 hf
            refine lv_aload_n hx hb d_Row_raiseFrom_34 rfl (lv_at hl 0 rfl) ?_
            refine va_get (D := gD G) (ci := 4) (v := .ref qt_cells) (C := R_Row) (T := F_Row) (N := 3) hx hb hg in_Row hown hK hP 0 rfl rfl 0 (by decide) (hg _ m_2) (fun _ h9 => h9) rfl d_Row_raiseFrom_35 ?_
            refine lv_iload_n hx hb d_Row_raiseFrom_38 rfl (lv_at hl 1 rfl) ?_
            obtain ⟨g_39, hf⟩ := gd_ hf
            refine va_bald hx hb hK hP 1 0 rfl rfl (inB_in g_39) d_Row_raiseFrom_39 ?_
            refine lv_bipush (v := 122) hx hb d_Row_raiseFrom_40 (by decide) ?_
            refine lv_icmp_gt (tgt := 57) hx hb d_Row_raiseFrom_42 (by decide) (fun c_42 => ?_) (fun c_42 => ?_)
            · have hf := ip_ c_42 hf
              exact W_57 z6.1 z6.2  hf _ _ _ hP hD hS (lv_sub hl [0, 1] rfl)
            · have hf := in_ c_42 hf
              refine lv_aload_n hx hb d_Row_raiseFrom_45 rfl (lv_at hl 0 rfl) ?_
              refine va_get (D := gD G) (ci := 4) (v := .ref qt_cells) (C := R_Row) (T := F_Row) (N := 3) hx hb hg in_Row hown hK hP 0 rfl rfl 0 (by decide) (hg _ m_2) (fun _ h9 => h9) rfl d_Row_raiseFrom_46 ?_
              refine lv_iload_n hx hb d_Row_raiseFrom_49 rfl (lv_at hl 1 rfl) ?_
              refine lv_dup2_11 hx hb d_Row_raiseFrom_50 rfl rfl ?_
              obtain ⟨g_51, hf⟩ := gd_ hf
              refine va_bald hx hb hK hP 1 0 rfl rfl (inB_in g_51) d_Row_raiseFrom_51 ?_
              refine lv_bipush (v := 32) hx hb d_Row_raiseFrom_52 (by decide) ?_
              refine lv_isub hx hb d_Row_raiseFrom_54 ?_
              refine lv_i2b (v := ((z6.2 z6.1.toNatClampNeg) - (32 : Int32)).toInt8.toInt32) hx hb d_Row_raiseFrom_55 rfl ?_
              obtain ⟨g_56, hf⟩ := gd_ hf
              refine va_bast hx hb hK hP hD hS 1 0 rfl rfl (inB_in g_56) d_Row_raiseFrom_56 (fun H locs hP hD hS => ?_)
              have hP : va_P (gD G) vwCl (w_Row_raiseFrom G qt qt_cells nt_cells (upd z6.2 z6.1.toNatClampNeg (vp_nar .byte (((z6.2 z6.1.toNatClampNeg) - (32 : Int32)).toInt8.toInt32))) t_used t_burst) H := hP
              have hD : va_D A (w_Row_raiseFrom G qt qt_cells nt_cells (upd z6.2 z6.1.toNatClampNeg (vp_nar .byte (((z6.2 z6.1.toNatClampNeg) - (32 : Int32)).toInt8.toInt32))) t_used t_burst) := hD
              exact W_57 z6.1 (upd z6.2 z6.1.toNatClampNeg (vp_nar .byte (((z6.2 z6.1.toNatClampNeg) - (32 : Int32)).toInt8.toInt32)))  hf _ _ _ hP hD hS (lv_sub hl [0, 1] rfl)
  unfold f_Row_raiseFrom at hf
  refine lv_iconst (v := 0) hx hb d_Row_raiseFrom_0 (by decide) ?_
  refine lv_iload_n hx hb d_Row_raiseFrom_1 rfl (lv_at hl 1 rfl) ?_
  refine va_mmax hx hb (hml.trans hl.1.symm) hown (hg _ m_16) (hg _ m_17) (hg _ m_14) (hg _ m_18) (Nat.le_of_ble_eq_true rfl) (Nat.le_of_ble_eq_true rfl) (Nat.zero_le _) (Nat.zero_le _) d_Row_raiseFrom_2 ?_
  refine lv_istore_n (lv' := [(2, .int (if (0 : Int32) < a1 then a1 else (0 : Int32))), (0, .ref qt), (1, .int a1)]) hx hb d_Row_raiseFrom_5 rfl hl (by decide) rfl (fun ls hl => ?_)
  exact W_6   K ((if (0 : Int32) < a1 then a1 else (0 : Int32)), t_cells)  hf _ _ _ hP hD hS (lv_sub hl [1, 0] rfl)
end
