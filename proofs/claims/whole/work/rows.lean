section
-- ===== PART A: goes FIRST, ahead of the names: the tables' words, and 'selects' of the private methods out of them =====
/-- a private method of a class that the tables say can be made, by its rows of tables_1 -/
def lw_okq (q : MethodName × Nat) : Prop := (q.1.cls ≠ "java/lang/invoke/MethodHandle" ∧ q.1.cls ≠ "java/lang/invoke/VarHandle") ∧ Cond.instantiable q.1.cls q.2 ∈ tables_1 ∧ Cond.privateMethod q.1 ∈ tables_1 ∧ Cond.instanceMethod q.1 ∈ tables_1
theorem lw_p0 : lw_okq (⟨"SpecifierDesk", "takeArgument", "(LSpecifierDesk$Kind;ZJ)LSpecifierDesk$Argument;"⟩, 8) := ⟨⟨by decide +kernel, by decide +kernel⟩, List.mem_of_getElem? (i := 20) (by decide +kernel), List.mem_of_getElem? (i := 258) (by decide +kernel), List.mem_of_getElem? (i := 259) (by decide +kernel)⟩
theorem lw_p1 : lw_okq (⟨"SpecifierDesk", "latestArgument", "()LSpecifierDesk$Argument;"⟩, 8) := ⟨⟨by decide +kernel, by decide +kernel⟩, List.mem_of_getElem? (i := 20) (by decide +kernel), List.mem_of_getElem? (i := 297) (by decide +kernel), List.mem_of_getElem? (i := 298) (by decide +kernel)⟩
theorem lw_p2 : lw_okq (⟨"SpecifierDesk", "argumentOf", "(I)LSpecifierDesk$Argument;"⟩, 8) := ⟨⟨by decide +kernel, by decide +kernel⟩, List.mem_of_getElem? (i := 20) (by decide +kernel), List.mem_of_getElem? (i := 301) (by decide +kernel), List.mem_of_getElem? (i := 302) (by decide +kernel)⟩
theorem lw_p3 : lw_okq (⟨"SpecifierDesk", "readAll", "()I"⟩, 8) := ⟨⟨by decide +kernel, by decide +kernel⟩, List.mem_of_getElem? (i := 20) (by decide +kernel), List.mem_of_getElem? (i := 341) (by decide +kernel), List.mem_of_getElem? (i := 342) (by decide +kernel)⟩
theorem lw_p4 : lw_okq (⟨"SpecifierDesk$Specifier", "readIndex", "(LSpecifierDesk$Row;I)I"⟩, 10) := ⟨⟨by decide +kernel, by decide +kernel⟩, List.mem_of_getElem? (i := 52) (by decide +kernel), List.mem_of_getElem? (i := 350) (by decide +kernel), List.mem_of_getElem? (i := 351) (by decide +kernel)⟩
theorem lw_p5 : lw_okq (⟨"SpecifierDesk$Specifier", "readFlags", "(LSpecifierDesk$Row;I)I"⟩, 10) := ⟨⟨by decide +kernel, by decide +kernel⟩, List.mem_of_getElem? (i := 52) (by decide +kernel), List.mem_of_getElem? (i := 364) (by decide +kernel), List.mem_of_getElem? (i := 365) (by decide +kernel)⟩
theorem lw_p6 : lw_okq (⟨"SpecifierDesk$Specifier", "readWidth", "(LSpecifierDesk$Row;I)I"⟩, 10) := ⟨⟨by decide +kernel, by decide +kernel⟩, List.mem_of_getElem? (i := 52) (by decide +kernel), List.mem_of_getElem? (i := 375) (by decide +kernel), List.mem_of_getElem? (i := 376) (by decide +kernel)⟩
theorem lw_p7 : lw_okq (⟨"SpecifierDesk$Specifier", "readPrecision", "(LSpecifierDesk$Row;I)I"⟩, 10) := ⟨⟨by decide +kernel, by decide +kernel⟩, List.mem_of_getElem? (i := 52) (by decide +kernel), List.mem_of_getElem? (i := 379) (by decide +kernel), List.mem_of_getElem? (i := 380) (by decide +kernel)⟩
theorem lw_p8 : lw_okq (⟨"SpecifierDesk$Specifier", "readConversion", "(LSpecifierDesk$Row;I)V"⟩, 10) := ⟨⟨by decide +kernel, by decide +kernel⟩, List.mem_of_getElem? (i := 52) (by decide +kernel), List.mem_of_getElem? (i := 383) (by decide +kernel), List.mem_of_getElem? (i := 384) (by decide +kernel)⟩
theorem lw_p9 : lw_okq (⟨"SpecifierDesk$Specifier", "faultOfLineEnd", "()I"⟩, 10) := ⟨⟨by decide +kernel, by decide +kernel⟩, List.mem_of_getElem? (i := 52) (by decide +kernel), List.mem_of_getElem? (i := 475) (by decide +kernel), List.mem_of_getElem? (i := 476) (by decide +kernel)⟩
theorem lw_p10 : lw_okq (⟨"SpecifierDesk$Specifier", "faultOfParts", "()I"⟩, 10) := ⟨⟨by decide +kernel, by decide +kernel⟩, List.mem_of_getElem? (i := 52) (by decide +kernel), List.mem_of_getElem? (i := 479) (by decide +kernel), List.mem_of_getElem? (i := 480) (by decide +kernel)⟩
theorem lw_p11 : lw_okq (⟨"SpecifierDesk$Specifier", "ownFlags", "()I"⟩, 10) := ⟨⟨by decide +kernel, by decide +kernel⟩, List.mem_of_getElem? (i := 52) (by decide +kernel), List.mem_of_getElem? (i := 489) (by decide +kernel), List.mem_of_getElem? (i := 490) (by decide +kernel)⟩
theorem lw_p12 : lw_okq (⟨"SpecifierDesk", "layOutSpecifier", "()I"⟩, 8) := ⟨⟨by decide +kernel, by decide +kernel⟩, List.mem_of_getElem? (i := 20) (by decide +kernel), List.mem_of_getElem? (i := 494) (by decide +kernel), List.mem_of_getElem? (i := 495) (by decide +kernel)⟩
theorem lw_p13 : lw_okq (⟨"SpecifierDesk$Composer", "start", "()V"⟩, 8) := ⟨⟨by decide +kernel, by decide +kernel⟩, List.mem_of_getElem? (i := 96) (by decide +kernel), List.mem_of_getElem? (i := 502) (by decide +kernel), List.mem_of_getElem? (i := 503) (by decide +kernel)⟩
theorem lw_p14 : lw_okq (⟨"SpecifierDesk$Composer", "putTogether", "()V"⟩, 8) := ⟨⟨by decide +kernel, by decide +kernel⟩, List.mem_of_getElem? (i := 96) (by decide +kernel), List.mem_of_getElem? (i := 509) (by decide +kernel), List.mem_of_getElem? (i := 510) (by decide +kernel)⟩
theorem lw_p15 : lw_okq (⟨"SpecifierDesk", "chosenNumber", "()I"⟩, 8) := ⟨⟨by decide +kernel, by decide +kernel⟩, List.mem_of_getElem? (i := 20) (by decide +kernel), List.mem_of_getElem? (i := 523) (by decide +kernel), List.mem_of_getElem? (i := 524) (by decide +kernel)⟩
def lw_privs_1 : List (MethodName × Nat) := [(⟨"SpecifierDesk", "takeArgument", "(LSpecifierDesk$Kind;ZJ)LSpecifierDesk$Argument;"⟩, 8), (⟨"SpecifierDesk", "latestArgument", "()LSpecifierDesk$Argument;"⟩, 8), (⟨"SpecifierDesk", "argumentOf", "(I)LSpecifierDesk$Argument;"⟩, 8), (⟨"SpecifierDesk", "readAll", "()I"⟩, 8), (⟨"SpecifierDesk$Specifier", "readIndex", "(LSpecifierDesk$Row;I)I"⟩, 10), (⟨"SpecifierDesk$Specifier", "readFlags", "(LSpecifierDesk$Row;I)I"⟩, 10), (⟨"SpecifierDesk$Specifier", "readWidth", "(LSpecifierDesk$Row;I)I"⟩, 10), (⟨"SpecifierDesk$Specifier", "readPrecision", "(LSpecifierDesk$Row;I)I"⟩, 10), (⟨"SpecifierDesk$Specifier", "readConversion", "(LSpecifierDesk$Row;I)V"⟩, 10), (⟨"SpecifierDesk$Specifier", "faultOfLineEnd", "()I"⟩, 10), (⟨"SpecifierDesk$Specifier", "faultOfParts", "()I"⟩, 10), (⟨"SpecifierDesk$Specifier", "ownFlags", "()I"⟩, 10), (⟨"SpecifierDesk", "layOutSpecifier", "()I"⟩, 8), (⟨"SpecifierDesk$Composer", "start", "()V"⟩, 8), (⟨"SpecifierDesk$Composer", "putTogether", "()V"⟩, 8), (⟨"SpecifierDesk", "chosenNumber", "()I"⟩, 8)]
theorem lw_r1 : ∀ q ∈ lw_privs_1, lw_okq q := List.forall_mem_cons.mpr ⟨lw_p0, List.forall_mem_cons.mpr ⟨lw_p1, List.forall_mem_cons.mpr ⟨lw_p2, List.forall_mem_cons.mpr ⟨lw_p3, List.forall_mem_cons.mpr ⟨lw_p4, List.forall_mem_cons.mpr ⟨lw_p5, List.forall_mem_cons.mpr ⟨lw_p6, List.forall_mem_cons.mpr ⟨lw_p7, List.forall_mem_cons.mpr ⟨lw_p8, List.forall_mem_cons.mpr ⟨lw_p9, List.forall_mem_cons.mpr ⟨lw_p10, List.forall_mem_cons.mpr ⟨lw_p11, List.forall_mem_cons.mpr ⟨lw_p12, List.forall_mem_cons.mpr ⟨lw_p13, List.forall_mem_cons.mpr ⟨lw_p14, List.forall_mem_cons.mpr ⟨lw_p15, fun _ h => absurd h List.not_mem_nil⟩⟩⟩⟩⟩⟩⟩⟩⟩⟩⟩⟩⟩⟩⟩⟩
theorem lw_p16 : lw_okq (⟨"SpecifierDesk", "faultOf", "(LSpecifierDesk$Argument;)I"⟩, 8) := ⟨⟨by decide +kernel, by decide +kernel⟩, List.mem_of_getElem? (i := 20) (by decide +kernel), List.mem_of_getElem? (i := 527) (by decide +kernel), List.mem_of_getElem? (i := 528) (by decide +kernel)⟩
theorem lw_p17 : lw_okq (⟨"SpecifierDesk$Composer", "setUnfilled", "(Ljava/lang/String;)V"⟩, 8) := ⟨⟨by decide +kernel, by decide +kernel⟩, List.mem_of_getElem? (i := 96) (by decide +kernel), List.mem_of_getElem? (i := 549) (by decide +kernel), List.mem_of_getElem? (i := 550) (by decide +kernel)⟩
theorem lw_p18 : lw_okq (⟨"SpecifierDesk$Composer", "setSign", "(Z)V"⟩, 8) := ⟨⟨by decide +kernel, by decide +kernel⟩, List.mem_of_getElem? (i := 96) (by decide +kernel), List.mem_of_getElem? (i := 593) (by decide +kernel), List.mem_of_getElem? (i := 594) (by decide +kernel)⟩
theorem lw_p19 : lw_okq (⟨"SpecifierDesk$Composer", "addTruth", "(Z)V"⟩, 8) := ⟨⟨by decide +kernel, by decide +kernel⟩, List.mem_of_getElem? (i := 96) (by decide +kernel), List.mem_of_getElem? (i := 599) (by decide +kernel), List.mem_of_getElem? (i := 600) (by decide +kernel)⟩
theorem lw_p20 : lw_okq (⟨"SpecifierDesk$Composer", "setText", "(LSpecifierDesk$Argument;)V"⟩, 8) := ⟨⟨by decide +kernel, by decide +kernel⟩, List.mem_of_getElem? (i := 96) (by decide +kernel), List.mem_of_getElem? (i := 604) (by decide +kernel), List.mem_of_getElem? (i := 605) (by decide +kernel)⟩
theorem lw_p21 : lw_okq (⟨"SpecifierDesk$Digits", "setLimbs", "(IJ)V"⟩, 4) := ⟨⟨by decide +kernel, by decide +kernel⟩, List.mem_of_getElem? (i := 104) (by decide +kernel), List.mem_of_getElem? (i := 612) (by decide +kernel), List.mem_of_getElem? (i := 613) (by decide +kernel)⟩
theorem lw_p22 : lw_okq (⟨"SpecifierDesk$Digits", "spell", "(I)V"⟩, 4) := ⟨⟨by decide +kernel, by decide +kernel⟩, List.mem_of_getElem? (i := 104) (by decide +kernel), List.mem_of_getElem? (i := 616) (by decide +kernel), List.mem_of_getElem? (i := 617) (by decide +kernel)⟩
theorem lw_p23 : lw_okq (⟨"SpecifierDesk$Digits", "topFrom", "(I)I"⟩, 4) := ⟨⟨by decide +kernel, by decide +kernel⟩, List.mem_of_getElem? (i := 104) (by decide +kernel), List.mem_of_getElem? (i := 623) (by decide +kernel), List.mem_of_getElem? (i := 624) (by decide +kernel)⟩
theorem lw_p24 : lw_okq (⟨"SpecifierDesk$Digits", "divide", "(II)J"⟩, 4) := ⟨⟨by decide +kernel, by decide +kernel⟩, List.mem_of_getElem? (i := 104) (by decide +kernel), List.mem_of_getElem? (i := 627) (by decide +kernel), List.mem_of_getElem? (i := 628) (by decide +kernel)⟩
theorem lw_p25 : lw_okq (⟨"SpecifierDesk$Digits", "trim", "()V"⟩, 4) := ⟨⟨by decide +kernel, by decide +kernel⟩, List.mem_of_getElem? (i := 104) (by decide +kernel), List.mem_of_getElem? (i := 632) (by decide +kernel), List.mem_of_getElem? (i := 633) (by decide +kernel)⟩
theorem lw_p26 : lw_okq (⟨"SpecifierDesk$Composer", "setDecimalText", "(LSpecifierDesk$Argument;)V"⟩, 8) := ⟨⟨by decide +kernel, by decide +kernel⟩, List.mem_of_getElem? (i := 96) (by decide +kernel), List.mem_of_getElem? (i := 644) (by decide +kernel), List.mem_of_getElem? (i := 645) (by decide +kernel)⟩
theorem lw_p27 : lw_okq (⟨"SpecifierDesk$Argument", "isSizeZero", "()Z"⟩, 7) := ⟨⟨by decide +kernel, by decide +kernel⟩, List.mem_of_getElem? (i := 168) (by decide +kernel), List.mem_of_getElem? (i := 652) (by decide +kernel), List.mem_of_getElem? (i := 653) (by decide +kernel)⟩
theorem lw_p28 : lw_okq (⟨"SpecifierDesk$Composer", "addMinus", "(Z)V"⟩, 8) := ⟨⟨by decide +kernel, by decide +kernel⟩, List.mem_of_getElem? (i := 96) (by decide +kernel), List.mem_of_getElem? (i := 656) (by decide +kernel), List.mem_of_getElem? (i := 657) (by decide +kernel)⟩
theorem lw_p29 : lw_okq (⟨"SpecifierDesk$Composer", "addWhole", "(Z)V"⟩, 8) := ⟨⟨by decide +kernel, by decide +kernel⟩, List.mem_of_getElem? (i := 96) (by decide +kernel), List.mem_of_getElem? (i := 668) (by decide +kernel), List.mem_of_getElem? (i := 669) (by decide +kernel)⟩
theorem lw_p30 : lw_okq (⟨"SpecifierDesk$Composer", "addBehindPoint", "(IIZ)V"⟩, 8) := ⟨⟨by decide +kernel, by decide +kernel⟩, List.mem_of_getElem? (i := 96) (by decide +kernel), List.mem_of_getElem? (i := 679) (by decide +kernel), List.mem_of_getElem? (i := 680) (by decide +kernel)⟩
theorem lw_p31 : lw_okq (⟨"SpecifierDesk$Composer", "setFractionText", "(LSpecifierDesk$Argument;)V"⟩, 8) := ⟨⟨by decide +kernel, by decide +kernel⟩, List.mem_of_getElem? (i := 96) (by decide +kernel), List.mem_of_getElem? (i := 692) (by decide +kernel), List.mem_of_getElem? (i := 693) (by decide +kernel)⟩
def lw_privs_2 : List (MethodName × Nat) := [(⟨"SpecifierDesk", "faultOf", "(LSpecifierDesk$Argument;)I"⟩, 8), (⟨"SpecifierDesk$Composer", "setUnfilled", "(Ljava/lang/String;)V"⟩, 8), (⟨"SpecifierDesk$Composer", "setSign", "(Z)V"⟩, 8), (⟨"SpecifierDesk$Composer", "addTruth", "(Z)V"⟩, 8), (⟨"SpecifierDesk$Composer", "setText", "(LSpecifierDesk$Argument;)V"⟩, 8), (⟨"SpecifierDesk$Digits", "setLimbs", "(IJ)V"⟩, 4), (⟨"SpecifierDesk$Digits", "spell", "(I)V"⟩, 4), (⟨"SpecifierDesk$Digits", "topFrom", "(I)I"⟩, 4), (⟨"SpecifierDesk$Digits", "divide", "(II)J"⟩, 4), (⟨"SpecifierDesk$Digits", "trim", "()V"⟩, 4), (⟨"SpecifierDesk$Composer", "setDecimalText", "(LSpecifierDesk$Argument;)V"⟩, 8), (⟨"SpecifierDesk$Argument", "isSizeZero", "()Z"⟩, 7), (⟨"SpecifierDesk$Composer", "addMinus", "(Z)V"⟩, 8), (⟨"SpecifierDesk$Composer", "addWhole", "(Z)V"⟩, 8), (⟨"SpecifierDesk$Composer", "addBehindPoint", "(IIZ)V"⟩, 8), (⟨"SpecifierDesk$Composer", "setFractionText", "(LSpecifierDesk$Argument;)V"⟩, 8)]
theorem lw_r2 : ∀ q ∈ lw_privs_2, lw_okq q := List.forall_mem_cons.mpr ⟨lw_p16, List.forall_mem_cons.mpr ⟨lw_p17, List.forall_mem_cons.mpr ⟨lw_p18, List.forall_mem_cons.mpr ⟨lw_p19, List.forall_mem_cons.mpr ⟨lw_p20, List.forall_mem_cons.mpr ⟨lw_p21, List.forall_mem_cons.mpr ⟨lw_p22, List.forall_mem_cons.mpr ⟨lw_p23, List.forall_mem_cons.mpr ⟨lw_p24, List.forall_mem_cons.mpr ⟨lw_p25, List.forall_mem_cons.mpr ⟨lw_p26, List.forall_mem_cons.mpr ⟨lw_p27, List.forall_mem_cons.mpr ⟨lw_p28, List.forall_mem_cons.mpr ⟨lw_p29, List.forall_mem_cons.mpr ⟨lw_p30, List.forall_mem_cons.mpr ⟨lw_p31, fun _ h => absurd h List.not_mem_nil⟩⟩⟩⟩⟩⟩⟩⟩⟩⟩⟩⟩⟩⟩⟩⟩
theorem lw_p32 : lw_okq (⟨"SpecifierDesk$Composer", "setBased", "(LSpecifierDesk$Argument;I)V"⟩, 8) := ⟨⟨by decide +kernel, by decide +kernel⟩, List.mem_of_getElem? (i := 96) (by decide +kernel), List.mem_of_getElem? (i := 701) (by decide +kernel), List.mem_of_getElem? (i := 702) (by decide +kernel)⟩
theorem lw_p33 : lw_okq (⟨"SpecifierDesk$Composer", "setHex", "(LSpecifierDesk$Argument;)V"⟩, 8) := ⟨⟨by decide +kernel, by decide +kernel⟩, List.mem_of_getElem? (i := 96) (by decide +kernel), List.mem_of_getElem? (i := 715) (by decide +kernel), List.mem_of_getElem? (i := 716) (by decide +kernel)⟩
theorem lw_p34 : lw_okq (⟨"SpecifierDesk$Composer", "setDecimal", "(LSpecifierDesk$Argument;)V"⟩, 8) := ⟨⟨by decide +kernel, by decide +kernel⟩, List.mem_of_getElem? (i := 96) (by decide +kernel), List.mem_of_getElem? (i := 740) (by decide +kernel), List.mem_of_getElem? (i := 741) (by decide +kernel)⟩
theorem lw_p35 : lw_okq (⟨"SpecifierDesk$Digits", "carryInto", "(I)V"⟩, 4) := ⟨⟨by decide +kernel, by decide +kernel⟩, List.mem_of_getElem? (i := 104) (by decide +kernel), List.mem_of_getElem? (i := 748) (by decide +kernel), List.mem_of_getElem? (i := 749) (by decide +kernel)⟩
theorem lw_p36 : lw_okq (⟨"SpecifierDesk$Composer", "setFixed", "(I)V"⟩, 8) := ⟨⟨by decide +kernel, by decide +kernel⟩, List.mem_of_getElem? (i := 96) (by decide +kernel), List.mem_of_getElem? (i := 752) (by decide +kernel), List.mem_of_getElem? (i := 753) (by decide +kernel)⟩
theorem lw_p37 : lw_okq (⟨"SpecifierDesk$Composer", "setScientific", "(I)V"⟩, 8) := ⟨⟨by decide +kernel, by decide +kernel⟩, List.mem_of_getElem? (i := 96) (by decide +kernel), List.mem_of_getElem? (i := 756) (by decide +kernel), List.mem_of_getElem? (i := 757) (by decide +kernel)⟩
theorem lw_p38 : lw_okq (⟨"SpecifierDeskModel", "argument", "(IJZ)I"⟩, 29) := ⟨⟨by decide +kernel, by decide +kernel⟩, List.mem_of_getElem? (i := 774) (by decide +kernel), List.mem_of_getElem? (i := 882) (by decide +kernel), List.mem_of_getElem? (i := 883) (by decide +kernel)⟩
theorem lw_p39 : lw_okq (⟨"SpecifierDeskModel", "sizeOf", "(IJ)V"⟩, 29) := ⟨⟨by decide +kernel, by decide +kernel⟩, List.mem_of_getElem? (i := 774) (by decide +kernel), List.mem_of_getElem? (i := 902) (by decide +kernel), List.mem_of_getElem? (i := 903) (by decide +kernel)⟩
theorem lw_p40 : lw_okq (⟨"SpecifierDeskModel", "goOver", "(I)V"⟩, 29) := ⟨⟨by decide +kernel, by decide +kernel⟩, List.mem_of_getElem? (i := 774) (by decide +kernel), List.mem_of_getElem? (i := 928) (by decide +kernel), List.mem_of_getElem? (i := 929) (by decide +kernel)⟩
theorem lw_p41 : lw_okq (⟨"SpecifierDeskModel", "look", "(I)I"⟩, 29) := ⟨⟨by decide +kernel, by decide +kernel⟩, List.mem_of_getElem? (i := 774) (by decide +kernel), List.mem_of_getElem? (i := 932) (by decide +kernel), List.mem_of_getElem? (i := 933) (by decide +kernel)⟩
theorem lw_p42 : lw_okq (⟨"SpecifierDeskModel", "digitsEnd", "(I)I"⟩, 29) := ⟨⟨by decide +kernel, by decide +kernel⟩, List.mem_of_getElem? (i := 774) (by decide +kernel), List.mem_of_getElem? (i := 939) (by decide +kernel), List.mem_of_getElem? (i := 940) (by decide +kernel)⟩
theorem lw_p43 : lw_okq (⟨"SpecifierDeskModel", "said", "(II)I"⟩, 29) := ⟨⟨by decide +kernel, by decide +kernel⟩, List.mem_of_getElem? (i := 774) (by decide +kernel), List.mem_of_getElem? (i := 943) (by decide +kernel), List.mem_of_getElem? (i := 944) (by decide +kernel)⟩
theorem lw_p44 : lw_okq (⟨"SpecifierDeskModel", "faultOf", "()I"⟩, 29) := ⟨⟨by decide +kernel, by decide +kernel⟩, List.mem_of_getElem? (i := 774) (by decide +kernel), List.mem_of_getElem? (i := 950) (by decide +kernel), List.mem_of_getElem? (i := 951) (by decide +kernel)⟩
theorem lw_p45 : lw_okq (⟨"SpecifierDeskModel", "small", "()I"⟩, 29) := ⟨⟨by decide +kernel, by decide +kernel⟩, List.mem_of_getElem? (i := 774) (by decide +kernel), List.mem_of_getElem? (i := 954) (by decide +kernel), List.mem_of_getElem? (i := 955) (by decide +kernel)⟩
theorem lw_p46 : lw_okq (⟨"SpecifierDeskModel", "isGreat", "()Z"⟩, 29) := ⟨⟨by decide +kernel, by decide +kernel⟩, List.mem_of_getElem? (i := 774) (by decide +kernel), List.mem_of_getElem? (i := 958) (by decide +kernel), List.mem_of_getElem? (i := 959) (by decide +kernel)⟩
theorem lw_p47 : lw_okq (⟨"SpecifierDeskModel", "isNumber", "()Z"⟩, 29) := ⟨⟨by decide +kernel, by decide +kernel⟩, List.mem_of_getElem? (i := 774) (by decide +kernel), List.mem_of_getElem? (i := 966) (by decide +kernel), List.mem_of_getElem? (i := 967) (by decide +kernel)⟩
def lw_privs_3 : List (MethodName × Nat) := [(⟨"SpecifierDesk$Composer", "setBased", "(LSpecifierDesk$Argument;I)V"⟩, 8), (⟨"SpecifierDesk$Composer", "setHex", "(LSpecifierDesk$Argument;)V"⟩, 8), (⟨"SpecifierDesk$Composer", "setDecimal", "(LSpecifierDesk$Argument;)V"⟩, 8), (⟨"SpecifierDesk$Digits", "carryInto", "(I)V"⟩, 4), (⟨"SpecifierDesk$Composer", "setFixed", "(I)V"⟩, 8), (⟨"SpecifierDesk$Composer", "setScientific", "(I)V"⟩, 8), (⟨"SpecifierDeskModel", "argument", "(IJZ)I"⟩, 29), (⟨"SpecifierDeskModel", "sizeOf", "(IJ)V"⟩, 29), (⟨"SpecifierDeskModel", "goOver", "(I)V"⟩, 29), (⟨"SpecifierDeskModel", "look", "(I)I"⟩, 29), (⟨"SpecifierDeskModel", "digitsEnd", "(I)I"⟩, 29), (⟨"SpecifierDeskModel", "said", "(II)I"⟩, 29), (⟨"SpecifierDeskModel", "faultOf", "()I"⟩, 29), (⟨"SpecifierDeskModel", "small", "()I"⟩, 29), (⟨"SpecifierDeskModel", "isGreat", "()Z"⟩, 29), (⟨"SpecifierDeskModel", "isNumber", "()Z"⟩, 29)]
theorem lw_r3 : ∀ q ∈ lw_privs_3, lw_okq q := List.forall_mem_cons.mpr ⟨lw_p32, List.forall_mem_cons.mpr ⟨lw_p33, List.forall_mem_cons.mpr ⟨lw_p34, List.forall_mem_cons.mpr ⟨lw_p35, List.forall_mem_cons.mpr ⟨lw_p36, List.forall_mem_cons.mpr ⟨lw_p37, List.forall_mem_cons.mpr ⟨lw_p38, List.forall_mem_cons.mpr ⟨lw_p39, List.forall_mem_cons.mpr ⟨lw_p40, List.forall_mem_cons.mpr ⟨lw_p41, List.forall_mem_cons.mpr ⟨lw_p42, List.forall_mem_cons.mpr ⟨lw_p43, List.forall_mem_cons.mpr ⟨lw_p44, List.forall_mem_cons.mpr ⟨lw_p45, List.forall_mem_cons.mpr ⟨lw_p46, List.forall_mem_cons.mpr ⟨lw_p47, fun _ h => absurd h List.not_mem_nil⟩⟩⟩⟩⟩⟩⟩⟩⟩⟩⟩⟩⟩⟩⟩⟩
theorem lw_p48 : lw_okq (⟨"SpecifierDeskModel", "has", "(I)Z"⟩, 29) := ⟨⟨by decide +kernel, by decide +kernel⟩, List.mem_of_getElem? (i := 774) (by decide +kernel), List.mem_of_getElem? (i := 971) (by decide +kernel), List.mem_of_getElem? (i := 972) (by decide +kernel)⟩
theorem lw_p49 : lw_okq (⟨"SpecifierDeskModel", "allowed", "()I"⟩, 29) := ⟨⟨by decide +kernel, by decide +kernel⟩, List.mem_of_getElem? (i := 774) (by decide +kernel), List.mem_of_getElem? (i := 975) (by decide +kernel), List.mem_of_getElem? (i := 976) (by decide +kernel)⟩
theorem lw_p50 : lw_okq (⟨"SpecifierDeskModel", "add", "(I)V"⟩, 29) := ⟨⟨by decide +kernel, by decide +kernel⟩, List.mem_of_getElem? (i := 774) (by decide +kernel), List.mem_of_getElem? (i := 979) (by decide +kernel), List.mem_of_getElem? (i := 980) (by decide +kernel)⟩
theorem lw_p51 : lw_okq (⟨"SpecifierDeskModel", "append", "()Z"⟩, 29) := ⟨⟨by decide +kernel, by decide +kernel⟩, List.mem_of_getElem? (i := 774) (by decide +kernel), List.mem_of_getElem? (i := 983) (by decide +kernel), List.mem_of_getElem? (i := 984) (by decide +kernel)⟩
theorem lw_p52 : lw_okq (⟨"SpecifierDeskModel", "argumentFault", "(II)I"⟩, 29) := ⟨⟨by decide +kernel, by decide +kernel⟩, List.mem_of_getElem? (i := 774) (by decide +kernel), List.mem_of_getElem? (i := 987) (by decide +kernel), List.mem_of_getElem? (i := 988) (by decide +kernel)⟩
theorem lw_p53 : lw_okq (⟨"SpecifierDeskModel", "lay", "(II)V"⟩, 29) := ⟨⟨by decide +kernel, by decide +kernel⟩, List.mem_of_getElem? (i := 774) (by decide +kernel), List.mem_of_getElem? (i := 992) (by decide +kernel), List.mem_of_getElem? (i := 993) (by decide +kernel)⟩
theorem lw_p54 : lw_okq (⟨"SpecifierDeskModel", "addTruth", "(Z)V"⟩, 29) := ⟨⟨by decide +kernel, by decide +kernel⟩, List.mem_of_getElem? (i := 774) (by decide +kernel), List.mem_of_getElem? (i := 996) (by decide +kernel), List.mem_of_getElem? (i := 997) (by decide +kernel)⟩
theorem lw_p55 : lw_okq (⟨"SpecifierDeskModel", "addWord", "(JJ)V"⟩, 29) := ⟨⟨by decide +kernel, by decide +kernel⟩, List.mem_of_getElem? (i := 774) (by decide +kernel), List.mem_of_getElem? (i := 1001) (by decide +kernel), List.mem_of_getElem? (i := 1002) (by decide +kernel)⟩
theorem lw_p56 : lw_okq (⟨"SpecifierDeskModel", "textOf", "(I)V"⟩, 29) := ⟨⟨by decide +kernel, by decide +kernel⟩, List.mem_of_getElem? (i := 774) (by decide +kernel), List.mem_of_getElem? (i := 1007) (by decide +kernel), List.mem_of_getElem? (i := 1008) (by decide +kernel)⟩
theorem lw_p57 : lw_okq (⟨"SpecifierDeskModel", "isZeroSize", "(I)Z"⟩, 29) := ⟨⟨by decide +kernel, by decide +kernel⟩, List.mem_of_getElem? (i := 774) (by decide +kernel), List.mem_of_getElem? (i := 1011) (by decide +kernel), List.mem_of_getElem? (i := 1012) (by decide +kernel)⟩
theorem lw_p58 : lw_okq (⟨"SpecifierDeskModel", "spellLong", "(JI)V"⟩, 29) := ⟨⟨by decide +kernel, by decide +kernel⟩, List.mem_of_getElem? (i := 774) (by decide +kernel), List.mem_of_getElem? (i := 1015) (by decide +kernel), List.mem_of_getElem? (i := 1016) (by decide +kernel)⟩
theorem lw_p59 : lw_okq (⟨"SpecifierDeskModel", "spell", "(II)V"⟩, 29) := ⟨⟨by decide +kernel, by decide +kernel⟩, List.mem_of_getElem? (i := 774) (by decide +kernel), List.mem_of_getElem? (i := 1021) (by decide +kernel), List.mem_of_getElem? (i := 1022) (by decide +kernel)⟩
theorem lw_p60 : lw_okq (⟨"SpecifierDeskModel", "addDigits", "()V"⟩, 29) := ⟨⟨by decide +kernel, by decide +kernel⟩, List.mem_of_getElem? (i := 774) (by decide +kernel), List.mem_of_getElem? (i := 1025) (by decide +kernel), List.mem_of_getElem? (i := 1026) (by decide +kernel)⟩
theorem lw_p61 : lw_okq (⟨"SpecifierDeskModel", "addDigit", "(I)V"⟩, 29) := ⟨⟨by decide +kernel, by decide +kernel⟩, List.mem_of_getElem? (i := 774) (by decide +kernel), List.mem_of_getElem? (i := 1029) (by decide +kernel), List.mem_of_getElem? (i := 1030) (by decide +kernel)⟩
theorem lw_p62 : lw_okq (⟨"SpecifierDeskModel", "isNone", "(I)Z"⟩, 29) := ⟨⟨by decide +kernel, by decide +kernel⟩, List.mem_of_getElem? (i := 774) (by decide +kernel), List.mem_of_getElem? (i := 1033) (by decide +kernel), List.mem_of_getElem? (i := 1034) (by decide +kernel)⟩
theorem lw_p63 : lw_okq (⟨"SpecifierDeskModel", "isLast", "(I)Z"⟩, 29) := ⟨⟨by decide +kernel, by decide +kernel⟩, List.mem_of_getElem? (i := 774) (by decide +kernel), List.mem_of_getElem? (i := 1037) (by decide +kernel), List.mem_of_getElem? (i := 1038) (by decide +kernel)⟩
def lw_privs_4 : List (MethodName × Nat) := [(⟨"SpecifierDeskModel", "has", "(I)Z"⟩, 29), (⟨"SpecifierDeskModel", "allowed", "()I"⟩, 29), (⟨"SpecifierDeskModel", "add", "(I)V"⟩, 29), (⟨"SpecifierDeskModel", "append", "()Z"⟩, 29), (⟨"SpecifierDeskModel", "argumentFault", "(II)I"⟩, 29), (⟨"SpecifierDeskModel", "lay", "(II)V"⟩, 29), (⟨"SpecifierDeskModel", "addTruth", "(Z)V"⟩, 29), (⟨"SpecifierDeskModel", "addWord", "(JJ)V"⟩, 29), (⟨"SpecifierDeskModel", "textOf", "(I)V"⟩, 29), (⟨"SpecifierDeskModel", "isZeroSize", "(I)Z"⟩, 29), (⟨"SpecifierDeskModel", "spellLong", "(JI)V"⟩, 29), (⟨"SpecifierDeskModel", "spell", "(II)V"⟩, 29), (⟨"SpecifierDeskModel", "addDigits", "()V"⟩, 29), (⟨"SpecifierDeskModel", "addDigit", "(I)V"⟩, 29), (⟨"SpecifierDeskModel", "isNone", "(I)Z"⟩, 29), (⟨"SpecifierDeskModel", "isLast", "(I)Z"⟩, 29)]
theorem lw_r4 : ∀ q ∈ lw_privs_4, lw_okq q := List.forall_mem_cons.mpr ⟨lw_p48, List.forall_mem_cons.mpr ⟨lw_p49, List.forall_mem_cons.mpr ⟨lw_p50, List.forall_mem_cons.mpr ⟨lw_p51, List.forall_mem_cons.mpr ⟨lw_p52, List.forall_mem_cons.mpr ⟨lw_p53, List.forall_mem_cons.mpr ⟨lw_p54, List.forall_mem_cons.mpr ⟨lw_p55, List.forall_mem_cons.mpr ⟨lw_p56, List.forall_mem_cons.mpr ⟨lw_p57, List.forall_mem_cons.mpr ⟨lw_p58, List.forall_mem_cons.mpr ⟨lw_p59, List.forall_mem_cons.mpr ⟨lw_p60, List.forall_mem_cons.mpr ⟨lw_p61, List.forall_mem_cons.mpr ⟨lw_p62, List.forall_mem_cons.mpr ⟨lw_p63, fun _ h => absurd h List.not_mem_nil⟩⟩⟩⟩⟩⟩⟩⟩⟩⟩⟩⟩⟩⟩⟩⟩
theorem lw_p64 : lw_okq (⟨"SpecifierDeskModel", "isBelow", "(I)Z"⟩, 29) := ⟨⟨by decide +kernel, by decide +kernel⟩, List.mem_of_getElem? (i := 774) (by decide +kernel), List.mem_of_getElem? (i := 1044) (by decide +kernel), List.mem_of_getElem? (i := 1045) (by decide +kernel)⟩
theorem lw_p65 : lw_okq (⟨"SpecifierDeskModel", "fractionText", "(I)V"⟩, 29) := ⟨⟨by decide +kernel, by decide +kernel⟩, List.mem_of_getElem? (i := 774) (by decide +kernel), List.mem_of_getElem? (i := 1049) (by decide +kernel), List.mem_of_getElem? (i := 1050) (by decide +kernel)⟩
theorem lw_p66 : lw_okq (⟨"SpecifierDeskModel", "take", "(I)V"⟩, 29) := ⟨⟨by decide +kernel, by decide +kernel⟩, List.mem_of_getElem? (i := 774) (by decide +kernel), List.mem_of_getElem? (i := 1053) (by decide +kernel), List.mem_of_getElem? (i := 1054) (by decide +kernel)⟩
theorem lw_p67 : lw_okq (⟨"SpecifierDeskModel", "digit", "(I)I"⟩, 29) := ⟨⟨by decide +kernel, by decide +kernel⟩, List.mem_of_getElem? (i := 774) (by decide +kernel), List.mem_of_getElem? (i := 1058) (by decide +kernel), List.mem_of_getElem? (i := 1059) (by decide +kernel)⟩
theorem lw_p68 : lw_okq (⟨"SpecifierDeskModel", "addNumber", "(II)V"⟩, 29) := ⟨⟨by decide +kernel, by decide +kernel⟩, List.mem_of_getElem? (i := 774) (by decide +kernel), List.mem_of_getElem? (i := 1062) (by decide +kernel), List.mem_of_getElem? (i := 1063) (by decide +kernel)⟩
theorem lw_p69 : lw_okq (⟨"SpecifierDeskModel", "decimalText", "(I)V"⟩, 29) := ⟨⟨by decide +kernel, by decide +kernel⟩, List.mem_of_getElem? (i := 774) (by decide +kernel), List.mem_of_getElem? (i := 1066) (by decide +kernel), List.mem_of_getElem? (i := 1067) (by decide +kernel)⟩
theorem lw_p70 : lw_okq (⟨"SpecifierDeskModel", "wholes", "(II)V"⟩, 29) := ⟨⟨by decide +kernel, by decide +kernel⟩, List.mem_of_getElem? (i := 774) (by decide +kernel), List.mem_of_getElem? (i := 1070) (by decide +kernel), List.mem_of_getElem? (i := 1071) (by decide +kernel)⟩
theorem lw_p71 : lw_okq (⟨"SpecifierDeskModel", "begin", "(Z)V"⟩, 29) := ⟨⟨by decide +kernel, by decide +kernel⟩, List.mem_of_getElem? (i := 774) (by decide +kernel), List.mem_of_getElem? (i := 1074) (by decide +kernel), List.mem_of_getElem? (i := 1075) (by decide +kernel)⟩
theorem lw_p72 : lw_okq (⟨"SpecifierDeskModel", "group", "(II)V"⟩, 29) := ⟨⟨by decide +kernel, by decide +kernel⟩, List.mem_of_getElem? (i := 774) (by decide +kernel), List.mem_of_getElem? (i := 1078) (by decide +kernel), List.mem_of_getElem? (i := 1079) (by decide +kernel)⟩
theorem lw_p73 : lw_okq (⟨"SpecifierDeskModel", "finish", "(ZZ)V"⟩, 29) := ⟨⟨by decide +kernel, by decide +kernel⟩, List.mem_of_getElem? (i := 774) (by decide +kernel), List.mem_of_getElem? (i := 1082) (by decide +kernel), List.mem_of_getElem? (i := 1083) (by decide +kernel)⟩
theorem lw_p74 : lw_okq (⟨"SpecifierDeskModel", "last", "(I)V"⟩, 29) := ⟨⟨by decide +kernel, by decide +kernel⟩, List.mem_of_getElem? (i := 774) (by decide +kernel), List.mem_of_getElem? (i := 1087) (by decide +kernel), List.mem_of_getElem? (i := 1088) (by decide +kernel)⟩
theorem lw_p75 : lw_okq (⟨"SpecifierDeskModel", "hexadecimal", "(I)V"⟩, 29) := ⟨⟨by decide +kernel, by decide +kernel⟩, List.mem_of_getElem? (i := 774) (by decide +kernel), List.mem_of_getElem? (i := 1091) (by decide +kernel), List.mem_of_getElem? (i := 1092) (by decide +kernel)⟩
theorem lw_p76 : lw_okq (⟨"SpecifierDeskModel", "floating", "(II)V"⟩, 29) := ⟨⟨by decide +kernel, by decide +kernel⟩, List.mem_of_getElem? (i := 774) (by decide +kernel), List.mem_of_getElem? (i := 1097) (by decide +kernel), List.mem_of_getElem? (i := 1098) (by decide +kernel)⟩
theorem lw_p77 : lw_okq (⟨"SpecifierDeskModel", "keep", "(I)V"⟩, 29) := ⟨⟨by decide +kernel, by decide +kernel⟩, List.mem_of_getElem? (i := 774) (by decide +kernel), List.mem_of_getElem? (i := 1101) (by decide +kernel), List.mem_of_getElem? (i := 1102) (by decide +kernel)⟩
theorem lw_p78 : lw_okq (⟨"SpecifierDeskModel", "exponential", "(I)V"⟩, 29) := ⟨⟨by decide +kernel, by decide +kernel⟩, List.mem_of_getElem? (i := 774) (by decide +kernel), List.mem_of_getElem? (i := 1105) (by decide +kernel), List.mem_of_getElem? (i := 1106) (by decide +kernel)⟩
theorem lw_p79 : lw_okq (⟨"SpecifierDeskModel", "isZero", "()Z"⟩, 29) := ⟨⟨by decide +kernel, by decide +kernel⟩, List.mem_of_getElem? (i := 774) (by decide +kernel), List.mem_of_getElem? (i := 1109) (by decide +kernel), List.mem_of_getElem? (i := 1110) (by decide +kernel)⟩
def lw_privs_5 : List (MethodName × Nat) := [(⟨"SpecifierDeskModel", "isBelow", "(I)Z"⟩, 29), (⟨"SpecifierDeskModel", "fractionText", "(I)V"⟩, 29), (⟨"SpecifierDeskModel", "take", "(I)V"⟩, 29), (⟨"SpecifierDeskModel", "digit", "(I)I"⟩, 29), (⟨"SpecifierDeskModel", "addNumber", "(II)V"⟩, 29), (⟨"SpecifierDeskModel", "decimalText", "(I)V"⟩, 29), (⟨"SpecifierDeskModel", "wholes", "(II)V"⟩, 29), (⟨"SpecifierDeskModel", "begin", "(Z)V"⟩, 29), (⟨"SpecifierDeskModel", "group", "(II)V"⟩, 29), (⟨"SpecifierDeskModel", "finish", "(ZZ)V"⟩, 29), (⟨"SpecifierDeskModel", "last", "(I)V"⟩, 29), (⟨"SpecifierDeskModel", "hexadecimal", "(I)V"⟩, 29), (⟨"SpecifierDeskModel", "floating", "(II)V"⟩, 29), (⟨"SpecifierDeskModel", "keep", "(I)V"⟩, 29), (⟨"SpecifierDeskModel", "exponential", "(I)V"⟩, 29), (⟨"SpecifierDeskModel", "isZero", "()Z"⟩, 29)]
theorem lw_r5 : ∀ q ∈ lw_privs_5, lw_okq q := List.forall_mem_cons.mpr ⟨lw_p64, List.forall_mem_cons.mpr ⟨lw_p65, List.forall_mem_cons.mpr ⟨lw_p66, List.forall_mem_cons.mpr ⟨lw_p67, List.forall_mem_cons.mpr ⟨lw_p68, List.forall_mem_cons.mpr ⟨lw_p69, List.forall_mem_cons.mpr ⟨lw_p70, List.forall_mem_cons.mpr ⟨lw_p71, List.forall_mem_cons.mpr ⟨lw_p72, List.forall_mem_cons.mpr ⟨lw_p73, List.forall_mem_cons.mpr ⟨lw_p74, List.forall_mem_cons.mpr ⟨lw_p75, List.forall_mem_cons.mpr ⟨lw_p76, List.forall_mem_cons.mpr ⟨lw_p77, List.forall_mem_cons.mpr ⟨lw_p78, List.forall_mem_cons.mpr ⟨lw_p79, fun _ h => absurd h List.not_mem_nil⟩⟩⟩⟩⟩⟩⟩⟩⟩⟩⟩⟩⟩⟩⟩⟩
theorem lw_p80 : lw_okq (⟨"SpecifierDeskModel", "fixed", "(I)V"⟩, 29) := ⟨⟨by decide +kernel, by decide +kernel⟩, List.mem_of_getElem? (i := 774) (by decide +kernel), List.mem_of_getElem? (i := 1113) (by decide +kernel), List.mem_of_getElem? (i := 1114) (by decide +kernel)⟩
def lw_privs_6 : List (MethodName × Nat) := [(⟨"SpecifierDeskModel", "fixed", "(I)V"⟩, 29)]
theorem lw_r6 : ∀ q ∈ lw_privs_6, lw_okq q := List.forall_mem_cons.mpr ⟨lw_p80, fun _ h => absurd h List.not_mem_nil⟩
def lw_privs : List (MethodName × Nat) := lw_privs_1 ++ (lw_privs_2 ++ (lw_privs_3 ++ (lw_privs_4 ++ (lw_privs_5 ++ (lw_privs_6)))))
def lw_tbl : List Cond := k2_sels lw_privs ++ tables_1
theorem lw_privs_ok : ∀ q ∈ lw_privs, lw_okq q := by
  show ∀ q ∈ lw_privs_1 ++ (lw_privs_2 ++ (lw_privs_3 ++ (lw_privs_4 ++ (lw_privs_5 ++ (lw_privs_6))))), lw_okq q
  exact List.forall_mem_append.mpr ⟨lw_r1, List.forall_mem_append.mpr ⟨lw_r2, List.forall_mem_append.mpr ⟨lw_r3, List.forall_mem_append.mpr ⟨lw_r4, List.forall_mem_append.mpr ⟨lw_r5, lw_r6⟩⟩⟩⟩⟩
end
section
def R_Desk : String := "SpecifierDesk"
def R_Object : String := "java/lang/Object"
def R_Row : String := "SpecifierDesk$Row"
def R_Math : String := "java/lang/Math"
def R_Specifier : String := "SpecifierDesk$Specifier"
def R_Composer : String := "SpecifierDesk$Composer"
def R_Digits : String := "SpecifierDesk$Digits"
def R_Hex : String := "SpecifierDesk$Hex"
def R_Argument : String := "SpecifierDesk$Argument"
def R_Arrays : String := "java/util/Arrays"
def R_String : String := "java/lang/String"
def R_StringLatin1 : String := "java/lang/StringLatin1"
def R_StringUTF16 : String := "java/lang/StringUTF16"
def R_Preconditions : String := "jdk/internal/util/Preconditions"
def R_Character : String := "java/lang/Character"
def R_Kind : String := "SpecifierDesk$Kind"
def R_Enum : String := "java/lang/Enum"
def R_Model : String := "SpecifierDeskModel"
def R_Sw : String := "SpecifierDesk$1"
def R_Law0 : String := "SpecifierDeskLaw"
def F_Argument : u_T := fun k => match k with
  | 0 => ("SpecifierDesk$Argument", "words", "[J", true)
  | 1 => ("SpecifierDesk$Argument", "kind", "LSpecifierDesk$Kind;", false)
  | 2 => ("SpecifierDesk$Argument", "minus", "Z", false)
  | 3 => ("SpecifierDesk$Argument", "bits", "J", false)
  | 4 => ("SpecifierDesk$Argument", "wide", "I", false)
  | 5 => ("SpecifierDesk$Argument", "lowest", "I", false)
  | _ => ("SpecifierDesk$Argument", "letters", "LSpecifierDesk$Row;", false)
def t_Argument : Nat → FieldType := fun k => match k with
  | 0 => (.array .long)
  | 1 => (.object "SpecifierDesk$Kind")
  | 2 => .boolean
  | 3 => .long
  | 4 => .int
  | 5 => .int
  | _ => (.object "SpecifierDesk$Row")
theorem no_Argument : ∀ a, a < 7 → ∀ b, b < 7 → a ≠ b → (F_Argument a).2.1 ≠ (F_Argument b).2.1 := by decide +kernel
theorem to_Argument : ∀ k, k < 7 → parseFieldDescriptor (F_Argument k).2.2.1 = some (t_Argument k) := by decide +kernel
def F_Composer : u_T := fun k => match k with
  | 0 => ("SpecifierDesk$Composer", "specifier", "LSpecifierDesk$Specifier;", true)
  | 1 => ("SpecifierDesk$Composer", "result", "LSpecifierDesk$Row;", true)
  | 2 => ("SpecifierDesk$Composer", "head", "LSpecifierDesk$Row;", true)
  | 3 => ("SpecifierDesk$Composer", "body", "LSpecifierDesk$Row;", true)
  | 4 => ("SpecifierDesk$Composer", "digits", "LSpecifierDesk$Digits;", true)
  | 5 => ("SpecifierDesk$Composer", "hex", "LSpecifierDesk$Hex;", true)
  | 6 => ("SpecifierDesk$Composer", "bracketOpen", "Z", false)
  | _ => ("SpecifierDesk$Composer", "zeroFilled", "Z", false)
def t_Composer : Nat → FieldType := fun k => match k with
  | 0 => (.object "SpecifierDesk$Specifier")
  | 1 => (.object "SpecifierDesk$Row")
  | 2 => (.object "SpecifierDesk$Row")
  | 3 => (.object "SpecifierDesk$Row")
  | 4 => (.object "SpecifierDesk$Digits")
  | 5 => (.object "SpecifierDesk$Hex")
  | 6 => .boolean
  | _ => .boolean
theorem no_Composer : ∀ a, a < 8 → ∀ b, b < 8 → a ≠ b → (F_Composer a).2.1 ≠ (F_Composer b).2.1 := by decide +kernel
theorem to_Composer : ∀ k, k < 8 → parseFieldDescriptor (F_Composer k).2.2.1 = some (t_Composer k) := by decide +kernel
def F_Digits : u_T := fun k => match k with
  | 0 => ("SpecifierDesk$Digits", "limbs", "[I", true)
  | 1 => ("SpecifierDesk$Digits", "cells", "[B", true)
  | 2 => ("SpecifierDesk$Digits", "used", "I", false)
  | _ => ("SpecifierDesk$Digits", "lowest", "I", false)
def t_Digits : Nat → FieldType := fun k => match k with
  | 0 => (.array .int)
  | 1 => (.array .byte)
  | 2 => .int
  | _ => .int
theorem no_Digits : ∀ a, a < 4 → ∀ b, b < 4 → a ≠ b → (F_Digits a).2.1 ≠ (F_Digits b).2.1 := by decide +kernel
theorem to_Digits : ∀ k, k < 4 → parseFieldDescriptor (F_Digits k).2.2.1 = some (t_Digits k) := by decide +kernel
def F_Hex : u_T := fun k => match k with
  | 0 => ("SpecifierDesk$Hex", "mantissa", "J", false)
  | 1 => ("SpecifierDesk$Hex", "exponent", "I", false)
  | _ => ("SpecifierDesk$Hex", "digits", "I", false)
def t_Hex : Nat → FieldType := fun k => match k with
  | 0 => .long
  | 1 => .int
  | _ => .int
theorem no_Hex : ∀ a, a < 3 → ∀ b, b < 3 → a ≠ b → (F_Hex a).2.1 ≠ (F_Hex b).2.1 := by decide +kernel
theorem to_Hex : ∀ k, k < 3 → parseFieldDescriptor (F_Hex k).2.2.1 = some (t_Hex k) := by decide +kernel
def F_Row : u_T := fun k => match k with
  | 0 => ("SpecifierDesk$Row", "cells", "[B", true)
  | 1 => ("SpecifierDesk$Row", "used", "I", false)
  | _ => ("SpecifierDesk$Row", "burst", "Z", false)
def t_Row : Nat → FieldType := fun k => match k with
  | 0 => (.array .byte)
  | 1 => .int
  | _ => .boolean
theorem no_Row : ∀ a, a < 3 → ∀ b, b < 3 → a ≠ b → (F_Row a).2.1 ≠ (F_Row b).2.1 := by decide +kernel
theorem to_Row : ∀ k, k < 3 → parseFieldDescriptor (F_Row k).2.2.1 = some (t_Row k) := by decide +kernel
def F_Specifier : u_T := fun k => match k with
  | 0 => ("SpecifierDesk$Specifier", "index", "I", false)
  | 1 => ("SpecifierDesk$Specifier", "flags", "I", false)
  | 2 => ("SpecifierDesk$Specifier", "width", "I", false)
  | 3 => ("SpecifierDesk$Specifier", "precision", "I", false)
  | 4 => ("SpecifierDesk$Specifier", "conversion", "C", false)
  | 5 => ("SpecifierDesk$Specifier", "great", "Z", false)
  | 6 => ("SpecifierDesk$Specifier", "known", "Z", false)
  | 7 => ("SpecifierDesk$Specifier", "cutOff", "Z", false)
  | 8 => ("SpecifierDesk$Specifier", "flagTwice", "Z", false)
  | _ => ("SpecifierDesk$Specifier", "last", "I", false)
def t_Specifier : Nat → FieldType := fun k => match k with
  | 0 => .int
  | 1 => .int
  | 2 => .int
  | 3 => .int
  | 4 => .char
  | 5 => .boolean
  | 6 => .boolean
  | 7 => .boolean
  | 8 => .boolean
  | _ => .int
theorem no_Specifier : ∀ a, a < 10 → ∀ b, b < 10 → a ≠ b → (F_Specifier a).2.1 ≠ (F_Specifier b).2.1 := by decide +kernel
theorem to_Specifier : ∀ k, k < 10 → parseFieldDescriptor (F_Specifier k).2.2.1 = some (t_Specifier k) := by decide +kernel
def F_Desk : u_T := fun k => match k with
  | 0 => ("SpecifierDesk", "draft", "LSpecifierDesk$Row;", true)
  | 1 => ("SpecifierDesk", "result", "LSpecifierDesk$Row;", true)
  | 2 => ("SpecifierDesk", "arguments", "[LSpecifierDesk$Argument;", true)
  | 3 => ("SpecifierDesk", "specifier", "LSpecifierDesk$Specifier;", true)
  | 4 => ("SpecifierDesk", "composer", "LSpecifierDesk$Composer;", true)
  | 5 => ("SpecifierDesk", "argumentCount", "I", false)
  | 6 => ("SpecifierDesk", "nextNumber", "I", false)
  | _ => ("SpecifierDesk", "numberBefore", "I", false)
def t_Desk : Nat → FieldType := fun k => match k with
  | 0 => (.object "SpecifierDesk$Row")
  | 1 => (.object "SpecifierDesk$Row")
  | 2 => (.array (.object "SpecifierDesk$Argument"))
  | 3 => (.object "SpecifierDesk$Specifier")
  | 4 => (.object "SpecifierDesk$Composer")
  | 5 => .int
  | 6 => .int
  | _ => .int
theorem no_Desk : ∀ a, a < 8 → ∀ b, b < 8 → a ≠ b → (F_Desk a).2.1 ≠ (F_Desk b).2.1 := by decide +kernel
theorem to_Desk : ∀ k, k < 8 → parseFieldDescriptor (F_Desk k).2.2.1 = some (t_Desk k) := by decide +kernel
def F_Model : u_T := fun k => match k with
  | 0 => ("SpecifierDeskModel", "draft", "[I", true)
  | 1 => ("SpecifierDeskModel", "drafted", "I", false)
  | 2 => ("SpecifierDeskModel", "result", "[I", true)
  | 3 => ("SpecifierDeskModel", "length", "I", false)
  | 4 => ("SpecifierDeskModel", "arguments", "I", false)
  | 5 => ("SpecifierDeskModel", "kinds", "[I", true)
  | 6 => ("SpecifierDeskModel", "values", "[J", true)
  | 7 => ("SpecifierDeskModel", "widths", "[I", true)
  | 8 => ("SpecifierDeskModel", "below", "[Z", true)
  | 9 => ("SpecifierDeskModel", "sizes", "[I", true)
  | 10 => ("SpecifierDeskModel", "scales", "[I", true)
  | 11 => ("SpecifierDeskModel", "parts", "[J", true)
  | 12 => ("SpecifierDeskModel", "texts", "[I", true)
  | 13 => ("SpecifierDeskModel", "lengths", "[I", true)
  | 14 => ("SpecifierDeskModel", "end", "I", false)
  | 15 => ("SpecifierDeskModel", "index", "I", false)
  | 16 => ("SpecifierDeskModel", "flags", "I", false)
  | 17 => ("SpecifierDeskModel", "twice", "Z", false)
  | 18 => ("SpecifierDeskModel", "width", "I", false)
  | 19 => ("SpecifierDeskModel", "precision", "I", false)
  | 20 => ("SpecifierDeskModel", "conversion", "I", false)
  | 21 => ("SpecifierDeskModel", "broken", "Z", false)
  | 22 => ("SpecifierDeskModel", "piece", "[I", true)
  | 23 => ("SpecifierDeskModel", "put", "I", false)
  | 24 => ("SpecifierDeskModel", "head", "I", false)
  | 25 => ("SpecifierDeskModel", "tens", "[I", true)
  | 26 => ("SpecifierDeskModel", "count", "I", false)
  | 27 => ("SpecifierDeskModel", "exponent", "I", false)
  | _ => ("SpecifierDeskModel", "work", "[I", true)
def t_Model : Nat → FieldType := fun k => match k with
  | 0 => (.array .int)
  | 1 => .int
  | 2 => (.array .int)
  | 3 => .int
  | 4 => .int
  | 5 => (.array .int)
  | 6 => (.array .long)
  | 7 => (.array .int)
  | 8 => (.array .boolean)
  | 9 => (.array .int)
  | 10 => (.array .int)
  | 11 => (.array .long)
  | 12 => (.array .int)
  | 13 => (.array .int)
  | 14 => .int
  | 15 => .int
  | 16 => .int
  | 17 => .boolean
  | 18 => .int
  | 19 => .int
  | 20 => .int
  | 21 => .boolean
  | 22 => (.array .int)
  | 23 => .int
  | 24 => .int
  | 25 => (.array .int)
  | 26 => .int
  | 27 => .int
  | _ => (.array .int)
theorem no_Model : ∀ a, a < 29 → ∀ b, b < 29 → a ≠ b → (F_Model a).2.1 ≠ (F_Model b).2.1 := by decide +kernel
theorem to_Model : ∀ k, k < 29 → parseFieldDescriptor (F_Model k).2.2.1 = some (t_Model k) := by decide +kernel
abbrev vwCl : List vw_C := [(R_Argument, F_Argument, 7), (R_Composer, F_Composer, 8), (R_Digits, F_Digits, 4), (R_Hex, F_Hex, 3), (R_Row, F_Row, 3), (R_Specifier, F_Specifier, 10), (R_Desk, F_Desk, 8), (R_Model, F_Model, 29)]
def y_Desk_init : MethodName := ⟨R_Desk, "<init>", "()V"⟩
abbrev cd_Desk_init : ByteArray := prog_1_method_1_code
def y_Desk_write : MethodName := ⟨R_Desk, "write", "(J)Z"⟩
abbrev cd_Desk_write : ByteArray := prog_1_method_2_code
def y_Desk_clear : MethodName := ⟨R_Desk, "clear", "()V"⟩
abbrev cd_Desk_clear : ByteArray := prog_1_method_3_code
def y_Desk_nothing : MethodName := ⟨R_Desk, "nothing", "()I"⟩
abbrev cd_Desk_nothing : ByteArray := prog_1_method_4_code
def y_Desk_takeArgument : MethodName := ⟨R_Desk, "takeArgument", "(LSpecifierDesk$Kind;ZJ)LSpecifierDesk$Argument;"⟩
abbrev cd_Desk_takeArgument : ByteArray := prog_1_method_16_code
def y_Desk_truth : MethodName := ⟨R_Desk, "truth", "(Z)I"⟩
abbrev cd_Desk_truth : ByteArray := prog_1_method_5_code
def y_Desk_character : MethodName := ⟨R_Desk, "character", "(I)I"⟩
abbrev cd_Desk_character : ByteArray := prog_1_method_6_code
def y_Desk_whole : MethodName := ⟨R_Desk, "whole", "(JI)I"⟩
abbrev cd_Desk_whole : ByteArray := prog_1_method_7_code
def y_Desk_size : MethodName := ⟨R_Desk, "size", "(ZJ)I"⟩
abbrev cd_Desk_size : ByteArray := prog_1_method_8_code
def y_Desk_more : MethodName := ⟨R_Desk, "more", "(J)I"⟩
abbrev cd_Desk_more : ByteArray := prog_1_method_9_code
def y_Desk_latestArgument : MethodName := ⟨R_Desk, "latestArgument", "()LSpecifierDesk$Argument;"⟩
abbrev cd_Desk_latestArgument : ByteArray := prog_1_method_17_code
def y_Desk_argumentOf : MethodName := ⟨R_Desk, "argumentOf", "(I)LSpecifierDesk$Argument;"⟩
abbrev cd_Desk_argumentOf : ByteArray := prog_1_method_18_code
def y_Desk_scale : MethodName := ⟨R_Desk, "scale", "(I)I"⟩
abbrev cd_Desk_scale : ByteArray := prog_1_method_10_code
def y_Desk_fraction : MethodName := ⟨R_Desk, "fraction", "(JJI)I"⟩
abbrev cd_Desk_fraction : ByteArray := prog_1_method_11_code
def y_Desk_text : MethodName := ⟨R_Desk, "text", "()I"⟩
abbrev cd_Desk_text : ByteArray := prog_1_method_12_code
def y_Desk_layOut : MethodName := ⟨R_Desk, "layOut", "()I"⟩
abbrev cd_Desk_layOut : ByteArray := prog_1_method_13_code
def y_Desk_readAll : MethodName := ⟨R_Desk, "readAll", "()I"⟩
abbrev cd_Desk_readAll : ByteArray := prog_1_method_19_code
def y_Desk_layOutSpecifier : MethodName := ⟨R_Desk, "layOutSpecifier", "()I"⟩
abbrev cd_Desk_layOutSpecifier : ByteArray := prog_1_method_20_code
def y_Desk_chosenNumber : MethodName := ⟨R_Desk, "chosenNumber", "()I"⟩
abbrev cd_Desk_chosenNumber : ByteArray := prog_1_method_21_code
def y_Desk_faultOf : MethodName := ⟨R_Desk, "faultOf", "(LSpecifierDesk$Argument;)I"⟩
abbrev cd_Desk_faultOf : ByteArray := prog_1_method_22_code
def y_Desk_length : MethodName := ⟨R_Desk, "length", "()I"⟩
abbrev cd_Desk_length : ByteArray := prog_1_method_14_code
def y_Desk_characterAt : MethodName := ⟨R_Desk, "characterAt", "(I)I"⟩
abbrev cd_Desk_characterAt : ByteArray := prog_1_method_15_code
def y_Object_init : MethodName := ⟨R_Object, "<init>", "()V"⟩
abbrev cd_Object_init : ByteArray := object_method_1_code
def y_Row_init : MethodName := ⟨R_Row, "<init>", "(I)V"⟩
abbrev cd_Row_init : ByteArray := prog_8_method_1_code
def y_Row_add : MethodName := ⟨R_Row, "add", "(I)V"⟩
abbrev cd_Row_add : ByteArray := prog_8_method_3_code
def y_Row_empty : MethodName := ⟨R_Row, "empty", "()V"⟩
abbrev cd_Row_empty : ByteArray := prog_8_method_2_code
def y_Row_addRow : MethodName := ⟨R_Row, "addRow", "(LSpecifierDesk$Row;)V"⟩
abbrev cd_Row_addRow : ByteArray := prog_8_method_6_code
def y_Row_at : MethodName := ⟨R_Row, "at", "(I)I"⟩
abbrev cd_Row_at : ByteArray := prog_8_method_10_code
def y_Row_addMany : MethodName := ⟨R_Row, "addMany", "(II)V"⟩
abbrev cd_Row_addMany : ByteArray := prog_8_method_4_code
def y_Row_raiseFrom : MethodName := ⟨R_Row, "raiseFrom", "(I)V"⟩
abbrev cd_Row_raiseFrom : ByteArray := prog_8_method_9_code
def y_Row_addWord : MethodName := ⟨R_Row, "addWord", "(Ljava/lang/String;)V"⟩
abbrev cd_Row_addWord : ByteArray := prog_8_method_5_code
def y_Row_addNumber : MethodName := ⟨R_Row, "addNumber", "(II)V"⟩
abbrev cd_Row_addNumber : ByteArray := prog_8_method_7_code
def y_Row_cutTo : MethodName := ⟨R_Row, "cutTo", "(I)V"⟩
abbrev cd_Row_cutTo : ByteArray := prog_8_method_8_code
def y_Math_max : MethodName := ⟨R_Math, "max", "(II)I"⟩
abbrev cd_Math_max : ByteArray := prog_14_method_65_code
def y_Math_min : MethodName := ⟨R_Math, "min", "(II)I"⟩
abbrev cd_Math_min : ByteArray := prog_14_method_69_code
def y_Math_abs : MethodName := ⟨R_Math, "abs", "(I)I"⟩
abbrev cd_Math_abs : ByteArray := prog_14_method_59_code
def y_Specifier_init : MethodName := ⟨R_Specifier, "<init>", "()V"⟩
abbrev cd_Specifier_init : ByteArray := prog_9_method_1_code
def y_Specifier_readFrom : MethodName := ⟨R_Specifier, "readFrom", "(LSpecifierDesk$Row;I)V"⟩
abbrev cd_Specifier_readFrom : ByteArray := prog_9_method_2_code
def y_Specifier_readIndex : MethodName := ⟨R_Specifier, "readIndex", "(LSpecifierDesk$Row;I)I"⟩
abbrev cd_Specifier_readIndex : ByteArray := prog_9_method_9_code
def y_Specifier_digitsEnd : MethodName := ⟨R_Specifier, "digitsEnd", "(LSpecifierDesk$Row;I)I"⟩
abbrev cd_Specifier_digitsEnd : ByteArray := prog_9_method_14_code
def y_Specifier_numberIn : MethodName := ⟨R_Specifier, "numberIn", "(LSpecifierDesk$Row;II)I"⟩
abbrev cd_Specifier_numberIn : ByteArray := prog_9_method_15_code
def y_Specifier_readFlags : MethodName := ⟨R_Specifier, "readFlags", "(LSpecifierDesk$Row;I)I"⟩
abbrev cd_Specifier_readFlags : ByteArray := prog_9_method_10_code
def y_Specifier_flagOf : MethodName := ⟨R_Specifier, "flagOf", "(I)I"⟩
abbrev cd_Specifier_flagOf : ByteArray := prog_9_method_16_code
def y_Specifier_hasAny : MethodName := ⟨R_Specifier, "hasAny", "(I)Z"⟩
abbrev cd_Specifier_hasAny : ByteArray := prog_9_method_3_code
def y_Specifier_readWidth : MethodName := ⟨R_Specifier, "readWidth", "(LSpecifierDesk$Row;I)I"⟩
abbrev cd_Specifier_readWidth : ByteArray := prog_9_method_11_code
def y_Specifier_readPrecision : MethodName := ⟨R_Specifier, "readPrecision", "(LSpecifierDesk$Row;I)I"⟩
abbrev cd_Specifier_readPrecision : ByteArray := prog_9_method_12_code
def y_Specifier_readConversion : MethodName := ⟨R_Specifier, "readConversion", "(LSpecifierDesk$Row;I)V"⟩
abbrev cd_Specifier_readConversion : ByteArray := prog_9_method_13_code
def y_Specifier_fault : MethodName := ⟨R_Specifier, "fault", "()I"⟩
abbrev cd_Specifier_fault : ByteArray := prog_9_method_5_code
def y_Specifier_faultOfLineEnd : MethodName := ⟨R_Specifier, "faultOfLineEnd", "()I"⟩
abbrev cd_Specifier_faultOfLineEnd : ByteArray := prog_9_method_6_code
def y_Specifier_faultOfParts : MethodName := ⟨R_Specifier, "faultOfParts", "()I"⟩
abbrev cd_Specifier_faultOfParts : ByteArray := prog_9_method_7_code
def y_Specifier_hasBoth : MethodName := ⟨R_Specifier, "hasBoth", "(II)Z"⟩
abbrev cd_Specifier_hasBoth : ByteArray := prog_9_method_4_code
def y_Specifier_ownFlags : MethodName := ⟨R_Specifier, "ownFlags", "()I"⟩
abbrev cd_Specifier_ownFlags : ByteArray := prog_9_method_8_code
def y_Composer_init : MethodName := ⟨R_Composer, "<init>", "(LSpecifierDesk$Specifier;LSpecifierDesk$Row;)V"⟩
abbrev cd_Composer_init : ByteArray := prog_4_method_1_code
def y_Composer_layMark : MethodName := ⟨R_Composer, "layMark", "(I)V"⟩
abbrev cd_Composer_layMark : ByteArray := prog_4_method_2_code
def y_Composer_start : MethodName := ⟨R_Composer, "start", "()V"⟩
abbrev cd_Composer_start : ByteArray := prog_4_method_4_code
def y_Composer_putTogether : MethodName := ⟨R_Composer, "putTogether", "()V"⟩
abbrev cd_Composer_putTogether : ByteArray := prog_4_method_6_code
def y_Composer_layArgument : MethodName := ⟨R_Composer, "layArgument", "(LSpecifierDesk$Argument;)V"⟩
abbrev cd_Composer_layArgument : ByteArray := prog_4_method_3_code
def y_Composer_setUnfilled : MethodName := ⟨R_Composer, "setUnfilled", "(Ljava/lang/String;)V"⟩
abbrev cd_Composer_setUnfilled : ByteArray := prog_4_method_5_code
def y_Composer_setSign : MethodName := ⟨R_Composer, "setSign", "(Z)V"⟩
abbrev cd_Composer_setSign : ByteArray := prog_4_method_11_code
def y_Composer_addTruth : MethodName := ⟨R_Composer, "addTruth", "(Z)V"⟩
abbrev cd_Composer_addTruth : ByteArray := prog_4_method_17_code
def y_Composer_setText : MethodName := ⟨R_Composer, "setText", "(LSpecifierDesk$Argument;)V"⟩
abbrev cd_Composer_setText : ByteArray := prog_4_method_7_code
def y_Composer_setDecimalText : MethodName := ⟨R_Composer, "setDecimalText", "(LSpecifierDesk$Argument;)V"⟩
abbrev cd_Composer_setDecimalText : ByteArray := prog_4_method_8_code
def y_Composer_addMinus : MethodName := ⟨R_Composer, "addMinus", "(Z)V"⟩
abbrev cd_Composer_addMinus : ByteArray := prog_4_method_16_code
def y_Composer_addWhole : MethodName := ⟨R_Composer, "addWhole", "(Z)V"⟩
abbrev cd_Composer_addWhole : ByteArray := prog_4_method_18_code
def y_Composer_letterOf : MethodName := ⟨R_Composer, "letterOf", "(I)I"⟩
abbrev cd_Composer_letterOf : ByteArray := prog_4_method_20_code
def y_Composer_addBehindPoint : MethodName := ⟨R_Composer, "addBehindPoint", "(IIZ)V"⟩
abbrev cd_Composer_addBehindPoint : ByteArray := prog_4_method_19_code
def y_Composer_setFractionText : MethodName := ⟨R_Composer, "setFractionText", "(LSpecifierDesk$Argument;)V"⟩
abbrev cd_Composer_setFractionText : ByteArray := prog_4_method_9_code
def y_Composer_setBased : MethodName := ⟨R_Composer, "setBased", "(LSpecifierDesk$Argument;I)V"⟩
abbrev cd_Composer_setBased : ByteArray := prog_4_method_12_code
def y_Composer_setHex : MethodName := ⟨R_Composer, "setHex", "(LSpecifierDesk$Argument;)V"⟩
abbrev cd_Composer_setHex : ByteArray := prog_4_method_15_code
def y_Composer_setDecimal : MethodName := ⟨R_Composer, "setDecimal", "(LSpecifierDesk$Argument;)V"⟩
abbrev cd_Composer_setDecimal : ByteArray := prog_4_method_10_code
def y_Composer_setFixed : MethodName := ⟨R_Composer, "setFixed", "(I)V"⟩
abbrev cd_Composer_setFixed : ByteArray := prog_4_method_13_code
def y_Composer_setScientific : MethodName := ⟨R_Composer, "setScientific", "(I)V"⟩
abbrev cd_Composer_setScientific : ByteArray := prog_4_method_14_code
def y_Digits_init : MethodName := ⟨R_Digits, "<init>", "()V"⟩
abbrev cd_Digits_init : ByteArray := prog_5_method_1_code
def y_Digits_take : MethodName := ⟨R_Digits, "take", "(LSpecifierDesk$Argument;I)V"⟩
abbrev cd_Digits_take : ByteArray := prog_5_method_2_code
def y_Digits_setLimbs : MethodName := ⟨R_Digits, "setLimbs", "(IJ)V"⟩
abbrev cd_Digits_setLimbs : ByteArray := prog_5_method_11_code
def y_Digits_spell : MethodName := ⟨R_Digits, "spell", "(I)V"⟩
abbrev cd_Digits_spell : ByteArray := prog_5_method_12_code
def y_Digits_topFrom : MethodName := ⟨R_Digits, "topFrom", "(I)I"⟩
abbrev cd_Digits_topFrom : ByteArray := prog_5_method_13_code
def y_Digits_divide : MethodName := ⟨R_Digits, "divide", "(II)J"⟩
abbrev cd_Digits_divide : ByteArray := prog_5_method_14_code
def y_Digits_trim : MethodName := ⟨R_Digits, "trim", "()V"⟩
abbrev cd_Digits_trim : ByteArray := prog_5_method_10_code
def y_Digits_isZero : MethodName := ⟨R_Digits, "isZero", "()Z"⟩
abbrev cd_Digits_isZero : ByteArray := prog_5_method_4_code
def y_Digits_first : MethodName := ⟨R_Digits, "first", "()I"⟩
abbrev cd_Digits_first : ByteArray := prog_5_method_5_code
def y_Digits_at : MethodName := ⟨R_Digits, "at", "(I)I"⟩
abbrev cd_Digits_at : ByteArray := prog_5_method_7_code
def y_Digits_lastNotZero : MethodName := ⟨R_Digits, "lastNotZero", "()I"⟩
abbrev cd_Digits_lastNotZero : ByteArray := prog_5_method_6_code
def y_Digits_takeBits : MethodName := ⟨R_Digits, "takeBits", "(JI)V"⟩
abbrev cd_Digits_takeBits : ByteArray := prog_5_method_3_code
def y_Digits_roundTo : MethodName := ⟨R_Digits, "roundTo", "(I)V"⟩
abbrev cd_Digits_roundTo : ByteArray := prog_5_method_8_code
def y_Digits_carryInto : MethodName := ⟨R_Digits, "carryInto", "(I)V"⟩
abbrev cd_Digits_carryInto : ByteArray := prog_5_method_9_code
def y_Hex_init : MethodName := ⟨R_Hex, "<init>", "()V"⟩
abbrev cd_Hex_init : ByteArray := prog_6_method_1_code
def y_Hex_exponentBits : MethodName := ⟨R_Hex, "exponentBits", "(J)I"⟩
abbrev cd_Hex_exponentBits : ByteArray := prog_6_method_2_code
def y_Hex_take : MethodName := ⟨R_Hex, "take", "(J)V"⟩
abbrev cd_Hex_take : ByteArray := prog_6_method_3_code
def y_Hex_dropZeros : MethodName := ⟨R_Hex, "dropZeros", "()V"⟩
abbrev cd_Hex_dropZeros : ByteArray := prog_6_method_5_code
def y_Hex_roundTo : MethodName := ⟨R_Hex, "roundTo", "(I)V"⟩
abbrev cd_Hex_roundTo : ByteArray := prog_6_method_4_code
def y_Hex_at : MethodName := ⟨R_Hex, "at", "(I)I"⟩
abbrev cd_Hex_at : ByteArray := prog_6_method_6_code
def y_Argument_init : MethodName := ⟨R_Argument, "<init>", "()V"⟩
abbrev cd_Argument_init : ByteArray := prog_3_method_1_code
def y_Argument_become : MethodName := ⟨R_Argument, "become", "(LSpecifierDesk$Kind;ZJ)V"⟩
abbrev cd_Argument_become : ByteArray := prog_3_method_2_code
def y_Argument_growBy : MethodName := ⟨R_Argument, "growBy", "(J)Z"⟩
abbrev cd_Argument_growBy : ByteArray := prog_3_method_3_code
def y_Argument_isCharacterNumber : MethodName := ⟨R_Argument, "isCharacterNumber", "()Z"⟩
abbrev cd_Argument_isCharacterNumber : ByteArray := prog_3_method_5_code
def y_Argument_isNoNumber : MethodName := ⟨R_Argument, "isNoNumber", "()Z"⟩
abbrev cd_Argument_isNoNumber : ByteArray := prog_3_method_6_code
def y_Argument_isBeyondNumbers : MethodName := ⟨R_Argument, "isBeyondNumbers", "()Z"⟩
abbrev cd_Argument_isBeyondNumbers : ByteArray := prog_3_method_7_code
def y_Argument_isBelowZero : MethodName := ⟨R_Argument, "isBelowZero", "()Z"⟩
abbrev cd_Argument_isBelowZero : ByteArray := prog_3_method_4_code
def y_Argument_isSizeZero : MethodName := ⟨R_Argument, "isSizeZero", "()Z"⟩
abbrev cd_Argument_isSizeZero : ByteArray := prog_3_method_8_code
def y_Arrays_fill : MethodName := ⟨R_Arrays, "fill", "([JJ)V"⟩
abbrev cd_Arrays_fill : ByteArray := prog_18_method_101_code
def y_Arrays_fill_1 : MethodName := ⟨R_Arrays, "fill", "([II)V"⟩
abbrev cd_Arrays_fill_1 : ByteArray := prog_18_method_103_code
def y_String_indexOf : MethodName := ⟨R_String, "indexOf", "(I)I"⟩
abbrev cd_String_indexOf : ByteArray := prog_15_method_79_code
def y_String_indexOf_1 : MethodName := ⟨R_String, "indexOf", "(II)I"⟩
abbrev cd_String_indexOf_1 : ByteArray := prog_15_method_80_code
def y_String_isLatin1 : MethodName := ⟨R_String, "isLatin1", "()Z"⟩
abbrev cd_String_isLatin1 : ByteArray := prog_15_method_154_code
def y_String_length : MethodName := ⟨R_String, "length", "()I"⟩
abbrev cd_String_length : ByteArray := prog_15_method_54_code
def y_String_coder : MethodName := ⟨R_String, "coder", "()B"⟩
abbrev cd_String_coder : ByteArray := prog_15_method_152_code
def y_String_checkBoundsBeginEnd : MethodName := ⟨R_String, "checkBoundsBeginEnd", "(III)V"⟩
abbrev cd_String_checkBoundsBeginEnd : ByteArray := prog_15_method_158_code
def y_String_charAt : MethodName := ⟨R_String, "charAt", "(I)C"⟩
abbrev cd_String_charAt : ByteArray := prog_15_method_56_code
def y_String_checkIndex : MethodName := ⟨R_String, "checkIndex", "(II)V"⟩
abbrev cd_String_checkIndex : ByteArray := prog_15_method_155_code
def y_StringLatin1_indexOf : MethodName := ⟨R_StringLatin1, "indexOf", "([BIII)I"⟩
abbrev cd_StringLatin1_indexOf : ByteArray := prog_16_method_22_code
def y_StringLatin1_canEncode : MethodName := ⟨R_StringLatin1, "canEncode", "(I)Z"⟩
abbrev cd_StringLatin1_canEncode : ByteArray := prog_16_method_4_code
def y_StringLatin1_indexOfChar : MethodName := ⟨R_StringLatin1, "indexOfChar", "([BIII)I"⟩
abbrev cd_StringLatin1_indexOfChar : ByteArray := prog_16_method_23_code
def y_StringLatin1_charAt : MethodName := ⟨R_StringLatin1, "charAt", "([BI)C"⟩
abbrev cd_StringLatin1_charAt : ByteArray := prog_16_method_2_code
def y_StringUTF16_indexOf : MethodName := ⟨R_StringUTF16, "indexOf", "([BIII)I"⟩
abbrev cd_StringUTF16_indexOf : ByteArray := prog_17_method_40_code
def y_StringUTF16_indexOfChar : MethodName := ⟨R_StringUTF16, "indexOfChar", "([BIII)I"⟩
abbrev cd_StringUTF16_indexOfChar : ByteArray := prog_17_method_47_code
def y_StringUTF16_checkBoundsBeginEnd : MethodName := ⟨R_StringUTF16, "checkBoundsBeginEnd", "(II[B)V"⟩
abbrev cd_StringUTF16_checkBoundsBeginEnd : ByteArray := prog_17_method_93_code
def y_StringUTF16_length : MethodName := ⟨R_StringUTF16, "length", "([B)I"⟩
abbrev cd_StringUTF16_length : ByteArray := prog_17_method_6_code
def y_StringUTF16_indexOfCharUnsafe : MethodName := ⟨R_StringUTF16, "indexOfCharUnsafe", "([BIII)I"⟩
abbrev cd_StringUTF16_indexOfCharUnsafe : ByteArray := prog_17_method_48_code
def y_StringUTF16_getChar : MethodName := ⟨R_StringUTF16, "getChar", "([BI)C"⟩
abbrev cd_StringUTF16_getChar : ByteArray := prog_17_method_5_code
def y_StringUTF16_indexOfSupplementary : MethodName := ⟨R_StringUTF16, "indexOfSupplementary", "([BIII)I"⟩
abbrev cd_StringUTF16_indexOfSupplementary : ByteArray := prog_17_method_49_code
def y_StringUTF16_charAt : MethodName := ⟨R_StringUTF16, "charAt", "([BI)C"⟩
abbrev cd_StringUTF16_charAt : ByteArray := prog_17_method_83_code
def y_StringUTF16_checkIndex : MethodName := ⟨R_StringUTF16, "checkIndex", "(I[B)V"⟩
abbrev cd_StringUTF16_checkIndex : ByteArray := prog_17_method_91_code
def y_Preconditions_checkFromToIndex : MethodName := ⟨R_Preconditions, "checkFromToIndex", "(IIILjava/util/function/BiFunction;)I"⟩
abbrev cd_Preconditions_checkFromToIndex : ByteArray := prog_19_method_12_code
def y_Preconditions_checkIndex : MethodName := ⟨R_Preconditions, "checkIndex", "(IILjava/util/function/BiFunction;)I"⟩
abbrev cd_Preconditions_checkIndex : ByteArray := prog_19_method_11_code
def y_Character_isValidCodePoint : MethodName := ⟨R_Character, "isValidCodePoint", "(I)Z"⟩
abbrev cd_Character_isValidCodePoint : ByteArray := prog_12_method_11_code
def y_Character_highSurrogate : MethodName := ⟨R_Character, "highSurrogate", "(I)C"⟩
abbrev cd_Character_highSurrogate : ByteArray := prog_12_method_28_code
def y_Character_lowSurrogate : MethodName := ⟨R_Character, "lowSurrogate", "(I)C"⟩
abbrev cd_Character_lowSurrogate : ByteArray := prog_12_method_29_code
def y_Kind_goesWith : MethodName := ⟨R_Kind, "goesWith", "(C)Z"⟩
abbrev cd_Kind_goesWith : ByteArray := prog_7_method_4_code
def y_Enum_ordinal : MethodName := ⟨R_Enum, "ordinal", "()I"⟩
abbrev cd_Enum_ordinal : ByteArray := prog_13_method_2_code
def y_Model_init : MethodName := ⟨R_Model, "<init>", "()V"⟩
abbrev cd_Model_init : ByteArray := prog_11_method_1_code
def y_Model_write : MethodName := ⟨R_Model, "write", "(J)Z"⟩
abbrev cd_Model_write : ByteArray := prog_11_method_2_code
def y_Model_clear : MethodName := ⟨R_Model, "clear", "()V"⟩
abbrev cd_Model_clear : ByteArray := prog_11_method_3_code
def y_Model_nothing : MethodName := ⟨R_Model, "nothing", "()I"⟩
abbrev cd_Model_nothing : ByteArray := prog_11_method_5_code
def y_Model_argument : MethodName := ⟨R_Model, "argument", "(IJZ)I"⟩
abbrev cd_Model_argument : ByteArray := prog_11_method_4_code
def y_Model_truth : MethodName := ⟨R_Model, "truth", "(Z)I"⟩
abbrev cd_Model_truth : ByteArray := prog_11_method_6_code
def y_Model_character : MethodName := ⟨R_Model, "character", "(I)I"⟩
abbrev cd_Model_character : ByteArray := prog_11_method_7_code
def y_Model_whole : MethodName := ⟨R_Model, "whole", "(JI)I"⟩
abbrev cd_Model_whole : ByteArray := prog_11_method_8_code
def y_Model_size : MethodName := ⟨R_Model, "size", "(ZJ)I"⟩
abbrev cd_Model_size : ByteArray := prog_11_method_10_code
def y_Model_sizeOf : MethodName := ⟨R_Model, "sizeOf", "(IJ)V"⟩
abbrev cd_Model_sizeOf : ByteArray := prog_11_method_9_code
def y_Model_more : MethodName := ⟨R_Model, "more", "(J)I"⟩
abbrev cd_Model_more : ByteArray := prog_11_method_11_code
def y_Model_scale : MethodName := ⟨R_Model, "scale", "(I)I"⟩
abbrev cd_Model_scale : ByteArray := prog_11_method_12_code
def y_Model_fraction : MethodName := ⟨R_Model, "fraction", "(JJI)I"⟩
abbrev cd_Model_fraction : ByteArray := prog_11_method_13_code
def y_Model_text : MethodName := ⟨R_Model, "text", "()I"⟩
abbrev cd_Model_text : ByteArray := prog_11_method_14_code
def y_Model_layOut : MethodName := ⟨R_Model, "layOut", "()I"⟩
abbrev cd_Model_layOut : ByteArray := prog_11_method_59_code
def y_Model_goOver : MethodName := ⟨R_Model, "goOver", "(I)V"⟩
abbrev cd_Model_goOver : ByteArray := prog_11_method_20_code
def y_Model_look : MethodName := ⟨R_Model, "look", "(I)I"⟩
abbrev cd_Model_look : ByteArray := prog_11_method_15_code
def y_Model_isDigit : MethodName := ⟨R_Model, "isDigit", "(I)Z"⟩
abbrev cd_Model_isDigit : ByteArray := prog_11_method_16_code
def y_Model_digitsEnd : MethodName := ⟨R_Model, "digitsEnd", "(I)I"⟩
abbrev cd_Model_digitsEnd : ByteArray := prog_11_method_17_code
def y_Model_said : MethodName := ⟨R_Model, "said", "(II)I"⟩
abbrev cd_Model_said : ByteArray := prog_11_method_18_code
def y_Model_flagOf : MethodName := ⟨R_Model, "flagOf", "(I)I"⟩
abbrev cd_Model_flagOf : ByteArray := prog_11_method_19_code
def y_Model_faultOf : MethodName := ⟨R_Model, "faultOf", "()I"⟩
abbrev cd_Model_faultOf : ByteArray := prog_11_method_27_code
def y_Model_small : MethodName := ⟨R_Model, "small", "()I"⟩
abbrev cd_Model_small : ByteArray := prog_11_method_22_code
def y_Model_isGreat : MethodName := ⟨R_Model, "isGreat", "()Z"⟩
abbrev cd_Model_isGreat : ByteArray := prog_11_method_23_code
def y_Model_isOneOf : MethodName := ⟨R_Model, "isOneOf", "(IJJ)Z"⟩
abbrev cd_Model_isOneOf : ByteArray := prog_11_method_21_code
def y_Model_isNumber : MethodName := ⟨R_Model, "isNumber", "()Z"⟩
abbrev cd_Model_isNumber : ByteArray := prog_11_method_24_code
def y_Model_has : MethodName := ⟨R_Model, "has", "(I)Z"⟩
abbrev cd_Model_has : ByteArray := prog_11_method_26_code
def y_Model_allowed : MethodName := ⟨R_Model, "allowed", "()I"⟩
abbrev cd_Model_allowed : ByteArray := prog_11_method_25_code
def y_Model_add : MethodName := ⟨R_Model, "add", "(I)V"⟩
abbrev cd_Model_add : ByteArray := prog_11_method_34_code
def y_Model_append : MethodName := ⟨R_Model, "append", "()Z"⟩
abbrev cd_Model_append : ByteArray := prog_11_method_58_code
def y_Model_argumentFault : MethodName := ⟨R_Model, "argumentFault", "(II)I"⟩
abbrev cd_Model_argumentFault : ByteArray := prog_11_method_56_code
def y_Model_lay : MethodName := ⟨R_Model, "lay", "(II)V"⟩
abbrev cd_Model_lay : ByteArray := prog_11_method_57_code
def y_Model_addTruth : MethodName := ⟨R_Model, "addTruth", "(Z)V"⟩
abbrev cd_Model_addTruth : ByteArray := prog_11_method_55_code
def y_Model_addWord : MethodName := ⟨R_Model, "addWord", "(JJ)V"⟩
abbrev cd_Model_addWord : ByteArray := prog_11_method_35_code
def y_Model_textOf : MethodName := ⟨R_Model, "textOf", "(I)V"⟩
abbrev cd_Model_textOf : ByteArray := prog_11_method_52_code
def y_Model_isZeroSize : MethodName := ⟨R_Model, "isZeroSize", "(I)Z"⟩
abbrev cd_Model_isZeroSize : ByteArray := prog_11_method_43_code
def y_Model_spellLong : MethodName := ⟨R_Model, "spellLong", "(JI)V"⟩
abbrev cd_Model_spellLong : ByteArray := prog_11_method_29_code
def y_Model_spell : MethodName := ⟨R_Model, "spell", "(II)V"⟩
abbrev cd_Model_spell : ByteArray := prog_11_method_28_code
def y_Model_addDigits : MethodName := ⟨R_Model, "addDigits", "()V"⟩
abbrev cd_Model_addDigits : ByteArray := prog_11_method_38_code
def y_Model_addDigit : MethodName := ⟨R_Model, "addDigit", "(I)V"⟩
abbrev cd_Model_addDigit : ByteArray := prog_11_method_37_code
def y_Model_isNone : MethodName := ⟨R_Model, "isNone", "(I)Z"⟩
abbrev cd_Model_isNone : ByteArray := prog_11_method_46_code
def y_Model_isLast : MethodName := ⟨R_Model, "isLast", "(I)Z"⟩
abbrev cd_Model_isLast : ByteArray := prog_11_method_45_code
def y_Model_isBelow : MethodName := ⟨R_Model, "isBelow", "(I)Z"⟩
abbrev cd_Model_isBelow : ByteArray := prog_11_method_44_code
def y_Model_fractionText : MethodName := ⟨R_Model, "fractionText", "(I)V"⟩
abbrev cd_Model_fractionText : ByteArray := prog_11_method_53_code
def y_Model_take : MethodName := ⟨R_Model, "take", "(I)V"⟩
abbrev cd_Model_take : ByteArray := prog_11_method_30_code
def y_Model_digit : MethodName := ⟨R_Model, "digit", "(I)I"⟩
abbrev cd_Model_digit : ByteArray := prog_11_method_31_code
def y_Model_addNumber : MethodName := ⟨R_Model, "addNumber", "(II)V"⟩
abbrev cd_Model_addNumber : ByteArray := prog_11_method_36_code
def y_Model_decimalText : MethodName := ⟨R_Model, "decimalText", "(I)V"⟩
abbrev cd_Model_decimalText : ByteArray := prog_11_method_54_code
def y_Model_wholes : MethodName := ⟨R_Model, "wholes", "(II)V"⟩
abbrev cd_Model_wholes : ByteArray := prog_11_method_42_code
def y_Model_begin : MethodName := ⟨R_Model, "begin", "(Z)V"⟩
abbrev cd_Model_begin : ByteArray := prog_11_method_40_code
def y_Model_group : MethodName := ⟨R_Model, "group", "(II)V"⟩
abbrev cd_Model_group : ByteArray := prog_11_method_39_code
def y_Model_finish : MethodName := ⟨R_Model, "finish", "(ZZ)V"⟩
abbrev cd_Model_finish : ByteArray := prog_11_method_41_code
def y_Model_last : MethodName := ⟨R_Model, "last", "(I)V"⟩
abbrev cd_Model_last : ByteArray := prog_11_method_51_code
def y_Model_hexadecimal : MethodName := ⟨R_Model, "hexadecimal", "(I)V"⟩
abbrev cd_Model_hexadecimal : ByteArray := prog_11_method_50_code
def y_Model_floating : MethodName := ⟨R_Model, "floating", "(II)V"⟩
abbrev cd_Model_floating : ByteArray := prog_11_method_49_code
def y_Model_keep : MethodName := ⟨R_Model, "keep", "(I)V"⟩
abbrev cd_Model_keep : ByteArray := prog_11_method_32_code
def y_Model_exponential : MethodName := ⟨R_Model, "exponential", "(I)V"⟩
abbrev cd_Model_exponential : ByteArray := prog_11_method_47_code
def y_Model_isZero : MethodName := ⟨R_Model, "isZero", "()Z"⟩
abbrev cd_Model_isZero : ByteArray := prog_11_method_33_code
def y_Model_fixed : MethodName := ⟨R_Model, "fixed", "(I)V"⟩
abbrev cd_Model_fixed : ByteArray := prog_11_method_48_code
def y_Model_length : MethodName := ⟨R_Model, "length", "()I"⟩
abbrev cd_Model_length : ByteArray := prog_11_method_60_code
def y_Model_characterAt : MethodName := ⟨R_Model, "characterAt", "(I)I"⟩
abbrev cd_Model_characterAt : ByteArray := prog_11_method_61_code
def gw : List Cond := lw_tbl.filter goodWord
theorem gw_ok : ∀ w ∈ gw, w ∈ gw ∧ ((w.onTables && w.keeps) = true ∨ ∃ ty, w = .arrayClass ty) := fun w h => ⟨h, good_of_word (List.mem_filter.mp h).2⟩
theorem gm {w : Cond} {i : Nat} (h : lw_tbl[i]? = some w) (hg : goodWord w = true) : w ∈ gw := List.mem_filter.mpr ⟨List.mem_of_getElem? h, hg⟩
def isNw : Cond → Bool
  | .fieldLinkNest .. => true
  | .methodLinkNest .. => true
  | _ => false
def nwL : List Cond := lw_tbl.filter isNw
theorem nwm {w : Cond} {i : Nat} (h : lw_tbl[i]? = some w) (hg : isNw w = true) : w ∈ nwL := List.mem_filter.mpr ⟨List.mem_of_getElem? h, hg⟩
theorem nw_warm (w : Cond) (hw : w ∈ nwL) {s U : State} (hW : s.WarmedH U.vm) (h : va_Nw w s) : va_Nw w U := by
  have h1 := (List.mem_filter.mp hw).2
  cases w <;> first | exact va_Nw.warmF hW h | exact va_Nw.warmM hW h | cases h1
theorem nw_same (w : Cond) (hw : w ∈ nwL) {u U : State} (e : u.vm = U.vm) (h : va_Nw w u) : va_Nw w U := by
  have h1 := (List.mem_filter.mp hw).2
  cases w <;> first | exact va_Nw.same rfl e h | cases h1
abbrev nS : Nat := 22
abbrev sLen : List Nat := [7, 12, 7, 5, 5, 4, 3, 8, 4, 2, 1, 1, 2, 1, 2, 10, 2, 3, 6, 5, 5, 6]
abbrev sByt : List (List Int32) := [[66, 83, 67, 88, 69, 71, 65], [98, 115, 99, 100, 111, 120, 101, 102, 103, 97, 37, 110], [100, 111, 120, 101, 102, 103, 97], [37, 99, 100, 111, 120], [102, 97, 108, 115, 101], [110, 117, 108, 108], [78, 97, 78], [73, 110, 102, 105, 110, 105, 116, 121], [116, 114, 117, 101], [69, 43], [69], [48], [48, 120], [101], [101, 43], [98, 115, 99, 100, 111, 120, 101, 102, 103, 97], [98, 115], [98, 115, 99], [98, 115, 99, 100, 111, 120], [98, 115, 100, 111, 120], [98, 115, 101, 102, 103], [98, 115, 101, 102, 103, 97]]
abbrev sRef : List (String × Nat × String × Nat) := [("SpecifierDesk$Specifier", 105, "BSCXEGA", 0), ("SpecifierDesk$Specifier", 107, "bscdoxefga%n", 1), ("SpecifierDesk$Specifier", 67, "doxefga", 2), ("SpecifierDesk$Specifier", 75, "%cdox", 3), ("SpecifierDesk$Composer", 68, "false", 4), ("SpecifierDesk$Composer", 70, "null", 5), ("SpecifierDesk$Composer", 80, "NaN", 6), ("SpecifierDesk$Composer", 93, "Infinity", 7), ("SpecifierDesk$Composer", 273, "true", 8), ("SpecifierDesk$Composer", 219, "E+", 9), ("SpecifierDesk$Composer", 221, "E", 10), ("SpecifierDesk$Composer", 252, "0", 11), ("SpecifierDesk$Composer", 254, "0x", 12), ("SpecifierDesk$Composer", 256, "e", 13), ("SpecifierDesk$Composer", 258, "e+", 14), ("SpecifierDesk$Kind", 58, "bscdoxefga", 15), ("SpecifierDesk$Kind", 64, "bs", 16), ("SpecifierDesk$Kind", 67, "bsc", 17), ("SpecifierDesk$Kind", 70, "bscdox", 18), ("SpecifierDesk$Kind", 73, "bsdox", 19), ("SpecifierDesk$Kind", 76, "bsefg", 20), ("SpecifierDesk$Kind", 79, "bsefga", 21)]
abbrev kNm : List String := ["NOTHING", "TRUTH", "CHARACTER", "SHORT_WHOLE", "LONG_WHOLE", "DECIMAL", "FRACTION", "TEXT"]
def kConv (i : Nat) : Nat := ([15, 16, 17, 18, 19, 20, 21, 16] : List Nat).getD i 0
theorem in_Argument : ∀ w ∈ u_ws R_Argument F_Argument 7, w ∈ gw := fun w h => List.mem_filter.mpr ((by decide +kernel : ∀ w ∈ u_ws R_Argument F_Argument 7, w ∈ lw_tbl ∧ goodWord w = true) w h)
theorem in_Composer : ∀ w ∈ u_ws R_Composer F_Composer 8, w ∈ gw := fun w h => List.mem_filter.mpr ((by decide +kernel : ∀ w ∈ u_ws R_Composer F_Composer 8, w ∈ lw_tbl ∧ goodWord w = true) w h)
theorem in_Digits : ∀ w ∈ u_ws R_Digits F_Digits 4, w ∈ gw := fun w h => List.mem_filter.mpr ((by decide +kernel : ∀ w ∈ u_ws R_Digits F_Digits 4, w ∈ lw_tbl ∧ goodWord w = true) w h)
theorem in_Hex : ∀ w ∈ u_ws R_Hex F_Hex 3, w ∈ gw := fun w h => List.mem_filter.mpr ((by decide +kernel : ∀ w ∈ u_ws R_Hex F_Hex 3, w ∈ lw_tbl ∧ goodWord w = true) w h)
theorem in_Row : ∀ w ∈ u_ws R_Row F_Row 3, w ∈ gw := fun w h => List.mem_filter.mpr ((by decide +kernel : ∀ w ∈ u_ws R_Row F_Row 3, w ∈ lw_tbl ∧ goodWord w = true) w h)
theorem in_Specifier : ∀ w ∈ u_ws R_Specifier F_Specifier 10, w ∈ gw := fun w h => List.mem_filter.mpr ((by decide +kernel : ∀ w ∈ u_ws R_Specifier F_Specifier 10, w ∈ lw_tbl ∧ goodWord w = true) w h)
theorem in_Desk : ∀ w ∈ u_ws R_Desk F_Desk 8, w ∈ gw := fun w h => List.mem_filter.mpr ((by decide +kernel : ∀ w ∈ u_ws R_Desk F_Desk 8, w ∈ lw_tbl ∧ goodWord w = true) w h)
theorem in_Model : ∀ w ∈ u_ws R_Model F_Model 29, w ∈ gw := fun w h => List.mem_filter.mpr ((by decide +kernel : ∀ w ∈ u_ws R_Model F_Model 29, w ∈ lw_tbl ∧ goodWord w = true) w h)
theorem kConv_lt (i : Nat) : kConv i < nS := by
  unfold kConv
  rcases Nat.lt_or_ge i 8 with h | h
  · revert i; decide
  · rw [List.getD_eq_getElem?_getD, List.getElem?_eq_none (by simpa using h)]; decide
end
section
/-! MY ROWS: what the decompiled functions are made of, and calls in one row -/
def inB (i : Int32) (n : Nat) : Bool := !(decide (i < 0) || decide (n ≤ i.toNatClampNeg))
theorem inB_in {i : Int32} {n : Nat} (h : inB i n = true) : vp_in i n := by
  intro q
  unfold inB at h
  rcases q with q | q
  · rw [decide_eq_true q] at h
    cases h
  · rw [decide_eq_true q, Bool.or_true] at h
    cases h
theorem in_inB {i : Int32} {n : Nat} (h : vp_in i n) : inB i n = true := by
  unfold inB
  rw [decide_eq_false (fun q => h (Or.inl q)), decide_eq_false (fun q => h (Or.inr q))]
  rfl
theorem gd_ {c : Prop} [Decidable c] {R : Type} {A : Option R} {r : R} (h : (if c then A else none) = some r) : c ∧ A = some r := by
  by_cases hc : c
  · rw [if_pos hc] at h
    exact ⟨hc, h⟩
  · rw [if_neg hc] at h
    cases h
theorem gn_ {c : Prop} [Decidable c] {R : Type} {A : Option R} {r : R} (h : (if c then none else A) = some r) : ¬ c ∧ A = some r := by
  by_cases hc : c
  · rw [if_pos hc] at h
    cases h
  · rw [if_neg hc] at h
    exact ⟨hc, h⟩
theorem ip_ {c : Prop} [Decidable c] {R : Type} {A B : Option R} {r : R} (hc : c) (h : (if c then A else B) = some r) : A = some r := by
  rw [if_pos hc] at h
  exact h
theorem in_ {c : Prop} [Decidable c] {R : Type} {A B : Option R} {r : R} (hc : ¬ c) (h : (if c then A else B) = some r) : B = some r := by
  rw [if_neg hc] at h
  exact h
theorem bd_ {α R : Type} {o : Option α} {k : α → Option R} {r : R} (h : o.bind k = some r) : ∃ u, o = some u ∧ k u = some r := by
  cases o with
  | none => cases h
  | some u => exact ⟨u, rfl, h⟩
/-- a loop with fuel -/
def lp_ {σ R : Type} (b : (σ → Option R) → σ → Option R) : Nat → σ → Option R
  | 0, _ => none
  | n + 1, s => b (lp_ b n) s
def bl (x : Int32) : Prop := x = 0 ∨ x = 1
theorem bl_0 : bl 0 := Or.inl rfl
theorem bl_1 : bl 1 := Or.inr rfl
theorem bl_n {x : Int32} (h : bl x) : narrow .boolean (.int x) = .int x := by rcases h with rfl | rfl <;> rfl
theorem bl_f {x : Int32} (h : bl x) : fits .boolean (.int x) = true := by rcases h with rfl | rfl <;> rfl
def blB (x : Int32) : Bool := decide (x = 0) || decide (x = 1)
theorem blB_ {x : Int32} (h : blB x = true) : bl x := by
  unfold blB at h
  rcases Bool.or_eq_true_iff.mp h with h | h
  · exact Or.inl (of_decide_eq_true h)
  · exact Or.inr (of_decide_eq_true h)
theorem bl_B {x : Int32} (h : bl x) : blB x = true := by rcases h with rfl | rfl <;> rfl
/-- cells put at places -/
def va_sets : va_W → List Nat → va_W → va_W
  | ws, i :: is, c :: cs => va_sets (ws.set i c) is cs
  | ws, _, _ => ws
theorem va_sets_P {D : va_G} {cl : List vw_C} {H : Heap} : ∀ (is : List Nat) (w1 ws : va_W), (∀ (k : Nat) (q : Nat × va_E), ws[k]? = some q → k ∉ is → va_at D cl q H) → is.length = w1.length → (∀ q ∈ w1, va_at D cl q H) → va_P D cl (va_sets ws is w1) H
  | [], w1, ws, h, _, _ => by
    cases w1 <;> exact fun k q hk => h k q hk (fun z => by cases z)
  | i :: is, [], ws, _, hl, _ => by cases hl
  | i :: is, c :: cs, ws, h, hl, h1 => by
    refine va_sets_P is cs (ws.set i c) (fun k q hk hn => ?_) (Nat.succ.inj hl) (fun q hq => h1 q (List.mem_cons_of_mem _ hq))
    by_cases hki : k = i
    · subst hki
      by_cases hlt : k < ws.length
      · rw [List.getElem?_set_self hlt] at hk
        cases hk
        exact h1 c List.mem_cons_self
      · rw [List.getElem?_eq_none (by rw [List.length_set]; omega)] at hk
        cases hk
    · rw [List.getElem?_set_ne (Ne.symm hki)] at hk
      exact h k q hk (fun z => by
        rcases List.mem_cons.mp z with z | z
        · exact hki z
        · exact hn z)
theorem va_sets_fst : ∀ (is : List Nat) (w1 ws : va_W), is.map (fun i => (ws.map Prod.fst)[i]?) = w1.map (fun q => some q.1) → (va_sets ws is w1).map Prod.fst = ws.map Prod.fst
  | [], w1, ws, _ => by cases w1 <;> rfl
  | i :: is, [], ws, h => by cases h
  | i :: is, c :: cs, ws, h => by
    rw [List.map_cons, List.map_cons, List.cons.injEq] at h
    have e : (ws.set i c).map Prod.fst = ws.map Prod.fst := by
      rw [List.map_set]
      have h1 := h.1
      apply List.ext_getElem?
      intro j
      by_cases hj : i = j
      · subst hj
        rw [h1, List.getElem?_set_self (List.getElem?_eq_some_iff.mp h1).1]
      · rw [List.getElem?_set_ne hj]
    show (va_sets (ws.set i c) is cs).map Prod.fst = _
    rw [va_sets_fst is cs (ws.set i c) (by rw [e]; exact h.2), e]
theorem va_D_fst {A : Nat → Prop} {ws ws' : va_W} (h : va_D A ws) (e : ws'.map Prod.fst = ws.map Prod.fst) : va_D A ws' := by
  have key : ∀ (i : Nat) (p : Nat × va_E), ws'[i]? = some p → ∃ q, ws[i]? = some q ∧ q.1 = p.1 := by
    intro i p hp
    have h1 : (ws'.map Prod.fst)[i]? = some p.1 := by rw [List.getElem?_map, hp]; rfl
    rw [e, List.getElem?_map] at h1
    cases hq : ws[i]? with
    | none => rw [hq] at h1; cases h1
    | some q => rw [hq] at h1; exact ⟨q, rfl, Option.some.inj h1⟩
  refine ⟨fun i j p q hp hq hpq => ?_, fun k q hk => ?_⟩
  · obtain ⟨p', h1, h2⟩ := key i p hp
    obtain ⟨q', h3, h4⟩ := key j q hq
    exact h.1 i j p' q' h1 h3 (by rw [h2, h4, hpq])
  · obtain ⟨q', h1, h2⟩ := key k q hk
    rw [← h2]
    exact h.2 k q' h1
theorem va_at_of {is : List Nat} {ws wc : va_W} (hC : is.map (fun i => ws[i]?) = wc.map some) {k : Nat} {q : Nat × va_E} (h : wc[k]? = some q) : ∃ i, is[k]? = some i ∧ ws[i]? = some q := by
  have h1 : (is.map (fun i => ws[i]?))[k]? = some (some q) := by rw [hC, List.getElem?_map, h]; rfl
  rw [List.getElem?_map] at h1
  cases hi : is[k]? with
  | none => rw [hi] at h1; cases h1
  | some i => rw [hi] at h1; exact ⟨i, rfl, Option.some.inj h1⟩
/-- behind a call that made nothing: the callee's cells at their places, the others as they were -/
theorem va_back {A0 : Nat → Prop} {D : va_G} {cl : List vw_C} {ws wc w1 ws' : va_W} {H H1 : Heap} (hP : va_P D cl ws H) (hD : va_D A0 ws) (is : List Nat) (hC : is.map (fun i => ws[i]?) = wc.map some) (he : w1.map Prod.fst = wc.map Prod.fst) (hw : va_sets ws is w1 = ws')
    (hk : ∀ q : Nat, q < H.size → ¬ va_A wc H.size q → H1[q]? = H[q]?) (hP1 : va_P D cl w1 H1) : va_P D cl ws' H1 ∧ va_D A0 ws' := by
  subst hw
  have hlen : is.length = w1.length := by
    have a1 := congrArg List.length hC
    have a2 := congrArg List.length he
    simp only [List.length_map] at a1 a2
    omega
  refine ⟨va_sets_P is w1 ws (fun k q hq hn => ?_) hlen (fun q hq => ?_), va_D_fst hD (va_sets_fst is w1 ws ?_)⟩
  · have hl := (hP k q hq).lt
    refine (hP k q hq).kept (hk q.1 hl (fun h => ?_))
    rcases h with ⟨k2, e, h⟩ | h
    · obtain ⟨i, h1, h2⟩ := va_at_of hC h
      have := hD.1 k i q (q.1, e) hq h2 rfl
      subst this
      exact hn (List.mem_of_getElem? h1)
    · omega
  · obtain ⟨k, hk⟩ := List.getElem?_of_mem hq
    exact hP1 k q hk
  · have a1 : is.map (fun i => (ws.map Prod.fst)[i]?) = (is.map (fun i => ws[i]?)).map (fun o => o.map Prod.fst) := by
      rw [List.map_map]
      apply List.map_congr_left
      intro i _
      show (ws.map Prod.fst)[i]? = (ws[i]?).map Prod.fst
      rw [List.getElem?_map]
    rw [a1, hC, List.map_map]
    have a2 : (wc.map fun q => some q.1) = (w1.map fun q => some q.1) := by
      have := congrArg (List.map some) he
      simp only [List.map_map] at this
      exact this.symm
    exact a2

/-! WORLDS UP TO ORDER -/
theorem va_P_iff {D : va_G} {cl : List vw_C} {ws : va_W} {H : Heap} : va_P D cl ws H ↔ ∀ q ∈ ws, va_at D cl q H := by
  constructor
  · intro h q hq
    obtain ⟨k, hk⟩ := List.getElem?_of_mem hq
    exact h k q hk
  · intro h k q hk
    exact h q (List.mem_of_getElem? hk)
theorem va_D_iff {A : Nat → Prop} {ws : va_W} : va_D A ws ↔ (ws.map Prod.fst).Nodup ∧ ∀ q ∈ ws, A q.1 := by
  constructor
  · intro h
    refine ⟨?_, fun q hq => ?_⟩
    · refine List.pairwise_iff_getElem.mpr (fun i j hi hj hij e => ?_)
      rw [List.length_map] at hi hj
      rw [List.getElem_map, List.getElem_map] at e
      exact Nat.ne_of_lt hij (h.1 i j _ _ (List.getElem?_eq_getElem hi) (List.getElem?_eq_getElem hj) e)
    · obtain ⟨k, hk⟩ := List.getElem?_of_mem hq
      exact h.2 k q hk
  · intro h
    refine ⟨fun i j p q hp hq hpq => ?_, fun k q hk => h.2 q (List.mem_of_getElem? hk)⟩
    have h1 : (ws.map Prod.fst)[i]? = some p.1 := by rw [List.getElem?_map, hp]; rfl
    have h2 : (ws.map Prod.fst)[j]? = some p.1 := by rw [List.getElem?_map, hq]; exact congrArg some hpq.symm
    exact (List.getElem?_inj (List.getElem?_eq_some_iff.mp h1).1 h.1).mp (h1.trans h2.symm)
theorem va_P.perm {D : va_G} {cl : List vw_C} {ws ws' : va_W} {H : Heap} (h : va_P D cl ws H) (hp : ws.Perm ws') : va_P D cl ws' H := va_P_iff.mpr fun q hq => va_P_iff.mp h q (hp.mem_iff.mpr hq)
theorem va_D.perm {A : Nat → Prop} {ws ws' : va_W} (h : va_D A ws) (hp : ws.Perm ws') : va_D A ws' := by
  obtain ⟨h1, h2⟩ := va_D_iff.mp h
  exact va_D_iff.mpr ⟨(hp.map Prod.fst).nodup_iff.mp h1, fun q hq => h2 q (hp.mem_iff.mpr hq)⟩
theorem va_P.left {D : va_G} {cl : List vw_C} {w1 w2 : va_W} {H : Heap} (h : va_P D cl (w1 ++ w2) H) : va_P D cl w1 H := va_P_iff.mpr fun q hq => va_P_iff.mp h q (List.mem_append_left _ hq)
theorem va_D.left {A : Nat → Prop} {w1 w2 : va_W} (h : va_D A (w1 ++ w2)) : va_D A w1 := by
  obtain ⟨h1, h2⟩ := va_D_iff.mp h
  rw [List.map_append] at h1
  exact va_D_iff.mpr ⟨(List.nodup_append.mp h1).1, fun q hq => h2 q (List.mem_append_left _ hq)⟩
/-- behind a call: what the callee gave back, beside the rest -/
theorem va_beside {A0 : Nat → Prop} {D : va_G} {cl : List vw_C} {ws wc wr w1 : va_W} {H H1 : Heap} (hP : va_P D cl ws H) (hD : va_D A0 ws) (hp : ws.Perm (wc ++ wr))
    (hk : ∀ q : Nat, q < H.size → ¬ va_A wc H.size q → H1[q]? = H[q]?) (hF : ∀ q, va_A wc H.size q → A0 q) (hP1 : va_P D cl w1 H1) (hD1 : va_D (va_A wc H.size) w1) : va_P D cl (w1 ++ wr) H1 ∧ va_D A0 (w1 ++ wr) := by
  have hP' := hP.perm hp
  obtain ⟨n1, a1⟩ := va_D_iff.mp (hD.perm hp)
  rw [List.map_append, List.nodup_append] at n1
  obtain ⟨nc, nr, dis⟩ := n1
  have apart : ∀ q ∈ wr, q.1 < H.size ∧ ¬ va_A wc H.size q.1 := by
    intro q hq
    have hl := (va_P_iff.mp hP' q (List.mem_append_right _ hq)).lt
    refine ⟨hl, fun h => ?_⟩
    rcases h with ⟨k, e, h⟩ | h
    · exact dis q.1 (List.mem_map.mpr ⟨_, List.mem_of_getElem? h, rfl⟩) q.1 (List.mem_map.mpr ⟨q, hq, rfl⟩) rfl
    · omega
  obtain ⟨m1, b1⟩ := va_D_iff.mp hD1
  refine ⟨va_P_iff.mpr fun q hq => ?_, va_D_iff.mpr ⟨?_, fun q hq => ?_⟩⟩
  · rcases List.mem_append.mp hq with h | h
    · exact va_P_iff.mp hP1 q h
    · exact (va_P_iff.mp hP' q (List.mem_append_right _ h)).kept (hk q.1 (apart q h).1 (apart q h).2)
  · rw [List.map_append, List.nodup_append]
    refine ⟨m1, nr, fun a ha b hb e => ?_⟩
    obtain ⟨x, hx, ex⟩ := List.mem_map.mp ha
    obtain ⟨y, hy, ey⟩ := List.mem_map.mp hb
    exact (apart y hy).2 (by rw [ey, ← e, ← ex]; exact b1 x hx)
  · rcases List.mem_append.mp hq with h | h
    · exact hF _ (b1 q h)
    · exact a1 q (List.mem_append_right _ h)
theorem va_freeQ {A0 : Nat → Prop} {ws wc wr : va_W} {H0 H : Heap} {locs : List Loc} (hD : va_D A0 ws) (hS : va_S A0 H0 H locs) (hA : ∀ q, H0.size ≤ q → A0 q) (hp : ws.Perm (wc ++ wr)) : ∀ q, va_A wc H.size q → A0 q := by
  intro q h
  rcases h with ⟨k, e, h⟩ | h
  · exact (va_D_iff.mp hD).2 (q, e) (hp.mem_iff.mpr (List.mem_append_left _ (List.mem_of_getElem? h)))
  · exact hA q (Nat.le_trans hS.1 h)

/-! THE ENVIRONMENT of every contract: the tables' words, classes, nest words, constants; a contract's start and end; calls in one row -/
theorem gI {y : MethodName} {b : ByteArray} {n : Nat} {ret : Option FieldType} (h : Cond.code y b n ret ∈ gw) : GoodIn gw (.code y b n ret :: gw) := fun w hw => by
  rcases List.mem_cons.mp hw with rfl | hw
  · exact gw_ok _ h
  · exact gw_ok _ hw
theorem gV {own C : String} {idx : Nat} {y : MethodName} {b : ByteArray} {n : Nat} {ret : Option FieldType} (h1 : Cond.methodLink own idx y ∈ gw) (h2 : Cond.instanceMethod y ∈ gw) (h3 : Cond.selects C y y ∈ gw) (h4 : Cond.initialized C ∈ gw) (h5 : Cond.code y b n ret ∈ gw) : GoodIn gw (wsV own idx C y (.code y b n ret :: gw)) := fun w hw => by
  rcases List.mem_append.mp hw with hw | hw
  · have : w = .methodLink own idx y ∨ w = .instanceMethod y ∨ w = .selects C y y ∨ w = .initialized C := by simpa using hw
    rcases this with rfl | rfl | rfl | rfl
    · exact gw_ok _ h1
    · exact gw_ok _ h2
    · exact gw_ok _ h3
    · exact gw_ok _ h4
  · exact gI h5 w hw
theorem gS {own : String} {idx : Nat} {y : MethodName} {b : ByteArray} {n : Nat} {ret : Option FieldType} (h1 : Cond.methodLink own idx y ∈ gw) (h2 : Cond.static y ∈ gw) (h4 : Cond.initialized y.cls ∈ gw) (h5 : Cond.code y b n ret ∈ gw) : GoodIn gw (va_wsS own idx y (.code y b n ret :: gw)) := fun w hw => by
  rcases List.mem_append.mp hw with hw | hw
  · have : w = .methodLink own idx y ∨ w = .static y ∨ w = .initialized y.cls := by simpa using hw
    rcases this with rfl | rfl | rfl
    · exact gw_ok _ h1
    · exact gw_ok _ h2
    · exact gw_ok _ h4
  · exact gI h5 w hw
/-- classes' numbers, array classes, the first address of our own, the enum's constants, the texts, their bytes, the switch's table -/
abbrev Gt : Type := va_G × (Nat → ClassId) × Nat × (Nat → Nat) × (Nat → Nat) × (Nat → Nat) × Nat × Option Nat
abbrev gD (G : Gt) : va_G := G.1
abbrev gC (G : Gt) (k : Nat) : ClassId := G.2.1 k
abbrev gb (G : Gt) : Nat := G.2.2.1
abbrev gK (G : Gt) (k : Nat) : Nat := G.2.2.2.1 k
abbrev gT (G : Gt) (k : Nat) : Nat := G.2.2.2.2.1 k
abbrev gU (G : Gt) (k : Nat) : Nat := G.2.2.2.2.2.1 k
abbrev gM (G : Gt) : Nat := G.2.2.2.2.2.2.1
abbrev gF (G : Gt) : Option Nat := G.2.2.2.2.2.2.2
abbrev gA0 (G : Gt) : Nat → Prop := fun q => gb G ≤ q
abbrev TYS (G : Gt) : List (ClassId × FieldType) := [(gC G 0, .byte), (gC G 1, .int), (gC G 2, .long), (gC G 3, .boolean), (gC G 4, .object "SpecifierDesk$Argument")]
abbrev kF : List (String × String × String × List Int32) := [("java/lang/Enum", "ordinal", "I", [0, 1, 2, 3, 4, 5, 6, 7])]
def kOrd (i : Nat) : Int32 := ([0, 1, 2, 3, 4, 5, 6, 7] : List Int32).getD i 0
def swm (i : Nat) : Int32 := ([0, 1, 2, 0, 0, 3, 4, 5] : List Int32).getD i 0
def ST (G : Gt) (U : State) (H : Heap) : Prop :=
  va_En "SpecifierDesk$Kind" "LSpecifierDesk$Kind;" kNm kF (gK G) (gA0 G) U H ∧
  (∀ i, i < 8 → va_OF "SpecifierDesk$Kind" "conversions" "Ljava/lang/String;" (.ref (gT G (kConv i))) (gK G i) (gA0 G) U H) ∧
  vk_S nS sLen sByt (gT G) (gU G) (gA0 G) U H ∧
  va_Z "java/lang/String" "COMPACT_STRINGS" "Z" (.int 1) (gA0 G) U H ∧
  va_Z "SpecifierDesk$1" "$SwitchMap$SpecifierDesk$Kind" "[I" (.ref (gM G)) (gA0 G) U H ∧
  va_T .int (gM G) 8 (fun j => .int (swm j)) (gA0 G) U H ∧
  va_Z "jdk/internal/util/Preconditions" "SIOOBE_FORMATTER" "Ljava/util/function/BiFunction;" (va_rf (gF G)) (gA0 G) U H
theorem ST.moved {G : Gt} {u U : State} {H : Heap} (hvm : u.vm.Alike U.vm) (h : ST G u H) : ST G U H :=
  ⟨va_En.moved hvm h.1, fun i hi => va_OF.moved hvm (h.2.1 i hi), vk_S.moved hvm h.2.2.1, va_Z.moved hvm h.2.2.2.1, va_Z.moved hvm h.2.2.2.2.1, va_T.moved hvm h.2.2.2.2.2.1, va_Z.moved hvm h.2.2.2.2.2.2⟩
theorem ST.kept {G : Gt} {U : State} {H H1 : Heap} (h : ST G U H) (hq : ∀ a : Nat, a < H.size → ¬ gA0 G a → H1[a]? = H[a]?) : ST G U H1 :=
  ⟨h.1.kept hq, fun i hi => (h.2.1 i hi).kept hq, h.2.2.1.kept hq, h.2.2.2.1.kept hq, h.2.2.2.2.1.kept hq, h.2.2.2.2.2.1.kept hq, h.2.2.2.2.2.2.kept hq⟩
def SRs (G : Gt) (U : State) : Prop := ∀ e ∈ sRef, vk_R e.1 e.2.1 e.2.2.1 (gT G e.2.2.2) U
def EV (G : Gt) (U : State) : Prop := gb G ≤ U.heap.size ∧ va_K (gD G) vwCl (TYS G) U ∧ (∀ w ∈ nwL, va_Nw w U) ∧ ST G U U.heap ∧ SRs G U
theorem EV.K {G : Gt} {U : State} (h : EV G U) : va_K (gD G) vwCl (TYS G) U := h.2.1
theorem EV.nw {G : Gt} {U : State} (h : EV G U) : ∀ w ∈ nwL, va_Nw w U := h.2.2.1
theorem EV.sr {G : Gt} {U : State} (h : EV G U) : ∀ e ∈ sRef, vk_R e.1 e.2.1 e.2.2.1 (gT G e.2.2.2) U := h.2.2.2.2
theorem EV.kz {G : Gt} {U : State} {A : Nat → Prop} (h : EV G U) (hAb : ∀ q, A q → gb G ≤ q) (i : Nat) (hi : i < 8) : va_Z "SpecifierDesk$Kind" (kNm.getD i "") "LSpecifierDesk$Kind;" (.ref (gK G i)) A U U.heap := ((h.2.2.2.1.1.1 i hi).1).narrow hAb
theorem EV.en {G : Gt} {U : State} {A : Nat → Prop} (h : EV G U) (hAb : ∀ q, A q → gb G ≤ q) : va_En "SpecifierDesk$Kind" "LSpecifierDesk$Kind;" kNm kF (gK G) A U U.heap := h.2.2.2.1.1.narrow hAb
theorem EV.kc {G : Gt} {U : State} {A : Nat → Prop} (h : EV G U) (hAb : ∀ q, A q → gb G ≤ q) (i : Nat) (hi : i < 8) : va_OF "SpecifierDesk$Kind" "conversions" "Ljava/lang/String;" (.ref (gT G (kConv i))) (gK G i) A U U.heap := (h.2.2.2.1.2.1 i hi).narrow hAb
theorem EV.vs {G : Gt} {U : State} {A : Nat → Prop} (h : EV G U) (hAb : ∀ q, A q → gb G ≤ q) : vk_S nS sLen sByt (gT G) (gU G) A U U.heap := h.2.2.2.1.2.2.1.narrow hAb
theorem EV.cs {G : Gt} {U : State} {A : Nat → Prop} (h : EV G U) (hAb : ∀ q, A q → gb G ≤ q) : va_Z "java/lang/String" "COMPACT_STRINGS" "Z" (.int 1) A U U.heap := h.2.2.2.1.2.2.2.1.narrow hAb
theorem EV.sm {G : Gt} {U : State} {A : Nat → Prop} (h : EV G U) (hAb : ∀ q, A q → gb G ≤ q) : va_Z "SpecifierDesk$1" "$SwitchMap$SpecifierDesk$Kind" "[I" (.ref (gM G)) A U U.heap := h.2.2.2.1.2.2.2.2.1.narrow hAb
theorem EV.st {G : Gt} {U : State} {A : Nat → Prop} (h : EV G U) (hAb : ∀ q, A q → gb G ≤ q) : va_T .int (gM G) 8 (fun j => .int (swm j)) A U U.heap := h.2.2.2.1.2.2.2.2.2.1.narrow hAb
theorem EV.ff {G : Gt} {U : State} {A : Nat → Prop} (h : EV G U) (hAb : ∀ q, A q → gb G ≤ q) : va_Z "jdk/internal/util/Preconditions" "SIOOBE_FORMATTER" "Ljava/util/function/BiFunction;" (va_rf (gF G)) A U U.heap := h.2.2.2.1.2.2.2.2.2.2.narrow hAb
theorem EV.kinj {G : Gt} {U : State} (h : EV G U) {i j : Nat} (hi : i < 8) (hj : j < 8) (e : gK G i = gK G j) : i = j := h.2.2.2.1.1.2 i j hi hj e
theorem EV.ab {G : Gt} {s : State} {W0 : va_W} (hE : EV G s) (hD0 : va_D (fun q => gb G ≤ q) W0) : ∀ q, va_A W0 s.heap.size q → gb G ≤ q := by
  intro q h
  rcases h with ⟨k, e, h⟩ | h
  · exact hD0.2 k (q, e) h
  · exact Nat.le_trans hE.1 h
theorem EV.to {G : Gt} {s U : State} {A : Nat → Prop} {H : Heap} {locs : List Loc} (hE : EV G s) (hS : va_S A s.heap H locs) (hAb : ∀ q, A q → gb G ≤ q) (hU : U.heap = H) (hW : s.WarmedH U.vm) : EV G U := by
  refine ⟨by rw [hU]; exact Nat.le_trans hE.1 hS.1, va_K.moved hW.alike hE.2.1, fun w hw => nw_warm w hw hW (hE.2.2.1 w hw), ?_, fun e he => vk_R.warm hW (hE.2.2.2.2 e he)⟩
  rw [hU]
  exact (ST.moved hW.alike hE.2.2.2.1).kept (fun a h1 h2 => hS.2.1 a h1 (fun z => h2 (hAb a z)))
def PC (G : Gt) (av : List Value) (sz : Nat) (W0 : va_W) : Array Value → State → Prop := va_Pc av (fun U => U.heap.size = sz ∧ va_P (gD G) vwCl W0 U.heap ∧ EV G U ∧ va_D (fun q => gb G ≤ q) W0)
theorem PC_b {G : Gt} {av : List Value} {sz : Nat} {W0 : va_W} : FrameBlind (PC G av sz W0) := fun a U g mk q => by
  obtain ⟨q0, q1, qP, qE, qD⟩ := q
  exact ⟨q0, q1, qP, ⟨qE.1, va_K.moved (u := U) (U := U.calling g mk a) (Vm.Alike.refl U.vm) qE.2.1, fun w hw => nw_same w hw (u := U) (U := U.calling g mk a) rfl (qE.2.2.1 w hw), ST.moved (u := U) (U := U.calling g mk a) (Vm.Alike.refl U.vm) qE.2.2.2.1, fun e he => vk_R.same (u := U) (U := U.calling g mk a) rfl (qE.2.2.2.2 e he)⟩, qD⟩
theorem PC_p {G : Gt} {av : List Value} {s : State} {A : Nat → Prop} {H : Heap} {locs : List Loc} {wc : va_W} (hE : EV G s) (hS : va_S A s.heap H locs) (hAb : ∀ q, A q → gb G ≤ q) (hP : va_P (gD G) vwCl wc H) (hD : va_D A wc) : ∀ U : State, U.heap = H → s.WarmedH U.vm → PC G av H.size wc av.toArray U :=
  fun U hU hW => ⟨rfl, by rw [hU], by rw [hU]; exact hP, hE.to hS hAb hU hW, hD.weaken (fun _ _ _ h => hAb _ h)⟩
def QV (G : Gt) (A : Nat → Prop) (W1 : va_W) : Array Value → State → Outcome → State → Prop := va_Qv (fun _ : Unit => True) (fun _ t => va_P (gD G) vwCl W1 t.heap ∧ va_D A W1) A
def QI (G : Gt) (v : Int32) (A : Nat → Prop) (W1 : va_W) : Array Value → State → Outcome → State → Prop := va_Qi (fun (r : Int32) (_ : Unit) => r = v) (fun _ t => va_P (gD G) vwCl W1 t.heap ∧ va_D A W1) A
def QZ (G : Gt) (v : Int32) (A : Nat → Prop) (W1 : va_W) : Array Value → State → Outcome → State → Prop := va_Qi (fun (r : Int32) (_ : Unit) => r = v ∧ bl r) (fun _ t => va_P (gD G) vwCl W1 t.heap ∧ va_D A W1) A
def QL (G : Gt) (v : Int64) (A : Nat → Prop) (W1 : va_W) : Array Value → State → Outcome → State → Prop := va_Ql (fun (r : Int64) (_ : Unit) => r = v) (fun _ t => va_P (gD G) vwCl W1 t.heap ∧ va_D A W1) A
section CALLS
variable {p : Program} {l : Launch} {e : Env} {R : Room} {s : State} {m : MethodId} {args : Array Value} {below : List Frame} {meth : Method} {c : Code} {H : Heap} {locs : List Loc} {cells slots : Nat} {Q : State → Prop}
variable {pc : Nat} {ls : Array Slot} {rest st0 : List Value} {a : Array Value} {A : Nat → Prop} {mc ms : Nat} {G : Gt} {ws wc w1 ws' : va_W}
theorem CALLv (hr : va_Run p l e R s m args below meth c H locs cells slots mc ms (F0 m pc ls st0) rest (QV G (va_A wc H.size) w1 a) (va_A wc H.size)) (hP : va_P (gD G) vwCl ws H) (hD : va_D A ws) (hS : va_S A s.heap H locs) (hA : ∀ q, s.heap.size ≤ q → A q) (is : List Nat) (hC : is.map (fun i => ws[i]?) = wc.map some) (he : w1.map Prod.fst = wc.map Prod.fst) (hw : va_sets ws is w1 = ws')
    (kk : ∀ (H1 : Heap) (locs1 : List Loc), va_P (gD G) vwCl ws' H1 → va_D A ws' → va_S A s.heap H1 locs1 → W p l e R s m args below meth c H1 locs1 (cells + mc) (slots + ms) Q (F0 m (pc + 3) ls rest)) : W p l e R s m args below meth c H locs cells slots Q (F0 m pc ls st0) := by
  have hF := va_free hD hS hA is hC
  refine va_callv hr hS (fun q _ h => hF q h) hF (fun u t H1 locs1 ht _ _ hB _ hk hS1 => ?_)
  obtain ⟨hP1, _⟩ := hB
  rw [ht] at hP1
  obtain ⟨hP2, hD2⟩ := va_back hP hD is hC he hw hk hP1
  exact kk H1 locs1 hP2 hD2 hS1
theorem CALLi {v : Int32} (hr : va_Run p l e R s m args below meth c H locs cells slots mc ms (F0 m pc ls st0) rest (QI G v (va_A wc H.size) w1 a) (va_A wc H.size)) (hP : va_P (gD G) vwCl ws H) (hD : va_D A ws) (hS : va_S A s.heap H locs) (hA : ∀ q, s.heap.size ≤ q → A q) (is : List Nat) (hC : is.map (fun i => ws[i]?) = wc.map some) (he : w1.map Prod.fst = wc.map Prod.fst) (hw : va_sets ws is w1 = ws')
    (kk : ∀ (H1 : Heap) (locs1 : List Loc), va_P (gD G) vwCl ws' H1 → va_D A ws' → va_S A s.heap H1 locs1 → W p l e R s m args below meth c H1 locs1 (cells + mc) (slots + ms) Q (F0 m (pc + 3) ls (.int v :: rest))) : W p l e R s m args below meth c H locs cells slots Q (F0 m pc ls st0) := by
  have hF := va_free hD hS hA is hC
  refine va_calli hr hS (fun q _ h => hF q h) hF (fun r u t H1 locs1 ht _ hv hB _ hk hS1 => ?_)
  obtain ⟨hP1, _⟩ := hB
  rw [ht] at hP1
  obtain ⟨hP2, hD2⟩ := va_back hP hD is hC he hw hk hP1
  subst hv
  exact kk H1 locs1 hP2 hD2 hS1
theorem CALLz {v : Int32} (hr : va_Run p l e R s m args below meth c H locs cells slots mc ms (F0 m pc ls st0) rest (QZ G v (va_A wc H.size) w1 a) (va_A wc H.size)) (hP : va_P (gD G) vwCl ws H) (hD : va_D A ws) (hS : va_S A s.heap H locs) (hA : ∀ q, s.heap.size ≤ q → A q) (is : List Nat) (hC : is.map (fun i => ws[i]?) = wc.map some) (he : w1.map Prod.fst = wc.map Prod.fst) (hw : va_sets ws is w1 = ws')
    (kk : bl v → ∀ (H1 : Heap) (locs1 : List Loc), va_P (gD G) vwCl ws' H1 → va_D A ws' → va_S A s.heap H1 locs1 → W p l e R s m args below meth c H1 locs1 (cells + mc) (slots + ms) Q (F0 m (pc + 3) ls (.int v :: rest))) : W p l e R s m args below meth c H locs cells slots Q (F0 m pc ls st0) := by
  have hF := va_free hD hS hA is hC
  refine va_calli hr hS (fun q _ h => hF q h) hF (fun r u t H1 locs1 ht _ hv hB _ hk hS1 => ?_)
  obtain ⟨hP1, _⟩ := hB
  rw [ht] at hP1
  obtain ⟨hP2, hD2⟩ := va_back hP hD is hC he hw hk hP1
  obtain ⟨hv, hb⟩ := hv
  subst hv
  exact kk hb H1 locs1 hP2 hD2 hS1
theorem CALLl {v : Int64} (hr : va_Run p l e R s m args below meth c H locs cells slots mc ms (F0 m pc ls st0) rest (QL G v (va_A wc H.size) w1 a) (va_A wc H.size)) (hP : va_P (gD G) vwCl ws H) (hD : va_D A ws) (hS : va_S A s.heap H locs) (hA : ∀ q, s.heap.size ≤ q → A q) (is : List Nat) (hC : is.map (fun i => ws[i]?) = wc.map some) (he : w1.map Prod.fst = wc.map Prod.fst) (hw : va_sets ws is w1 = ws')
    (kk : ∀ (H1 : Heap) (locs1 : List Loc), va_P (gD G) vwCl ws' H1 → va_D A ws' → va_S A s.heap H1 locs1 → W p l e R s m args below meth c H1 locs1 (cells + mc) (slots + ms) Q (F0 m (pc + 3) ls (.long v :: rest))) : W p l e R s m args below meth c H locs cells slots Q (F0 m pc ls st0) := by
  have hF := va_free hD hS hA is hC
  refine va_calll hr hS (fun q _ h => hF q h) hF (fun r u t H1 locs1 ht _ hv hB _ hk hS1 => ?_)
  obtain ⟨hP1, _⟩ := hB
  rw [ht] at hP1
  obtain ⟨hP2, hD2⟩ := va_back hP hD is hC he hw hk hP1
  subst hv
  exact kk H1 locs1 hP2 hD2 hS1
theorem CALLWv (hr : va_Run p l e R s m args below meth c H locs cells slots mc ms (F0 m pc ls st0) rest (QV G (va_A ws H.size) w1 a) (va_A ws H.size)) (_hP : va_P (gD G) vwCl ws H) (hD : va_D A ws) (hS : va_S A s.heap H locs) (hA : ∀ q, s.heap.size ≤ q → A q)
    (kk : ∀ (H1 : Heap) (locs1 : List Loc), va_P (gD G) vwCl w1 H1 → va_D A w1 → va_S A s.heap H1 locs1 → W p l e R s m args below meth c H1 locs1 (cells + mc) (slots + ms) Q (F0 m (pc + 3) ls rest)) : W p l e R s m args below meth c H locs cells slots Q (F0 m pc ls st0) := by
  have hF : ∀ q, va_A ws H.size q → A q := fun q h => by
    rcases h with ⟨k, e, h⟩ | h
    · exact hD.2 k (q, e) h
    · exact hA q (Nat.le_trans hS.1 h)
  refine va_callv hr hS (fun q _ h => hF q h) hF (fun u t H1 locs1 ht _ _ hB _ hk hS1 => ?_)
  obtain ⟨hP1, hD1⟩ := hB
  rw [ht] at hP1
  exact kk H1 locs1 hP1 (hD1.weaken (fun _ _ _ h => hF _ h)) hS1
theorem CALLWi {v : Int32} (hr : va_Run p l e R s m args below meth c H locs cells slots mc ms (F0 m pc ls st0) rest (QI G v (va_A ws H.size) w1 a) (va_A ws H.size)) (_hP : va_P (gD G) vwCl ws H) (hD : va_D A ws) (hS : va_S A s.heap H locs) (hA : ∀ q, s.heap.size ≤ q → A q)
    (kk : ∀ (H1 : Heap) (locs1 : List Loc), va_P (gD G) vwCl w1 H1 → va_D A w1 → va_S A s.heap H1 locs1 → W p l e R s m args below meth c H1 locs1 (cells + mc) (slots + ms) Q (F0 m (pc + 3) ls (.int v :: rest))) : W p l e R s m args below meth c H locs cells slots Q (F0 m pc ls st0) := by
  have hF : ∀ q, va_A ws H.size q → A q := fun q h => by
    rcases h with ⟨k, e, h⟩ | h
    · exact hD.2 k (q, e) h
    · exact hA q (Nat.le_trans hS.1 h)
  refine va_calli hr hS (fun q _ h => hF q h) hF (fun r u t H1 locs1 ht _ hv hB _ hk hS1 => ?_)
  obtain ⟨hP1, hD1⟩ := hB
  rw [ht] at hP1
  subst hv
  exact kk H1 locs1 hP1 (hD1.weaken (fun _ _ _ h => hF _ h)) hS1
theorem CALLWl {v : Int64} (hr : va_Run p l e R s m args below meth c H locs cells slots mc ms (F0 m pc ls st0) rest (QL G v (va_A ws H.size) w1 a) (va_A ws H.size)) (_hP : va_P (gD G) vwCl ws H) (hD : va_D A ws) (hS : va_S A s.heap H locs) (hA : ∀ q, s.heap.size ≤ q → A q)
    (kk : ∀ (H1 : Heap) (locs1 : List Loc), va_P (gD G) vwCl w1 H1 → va_D A w1 → va_S A s.heap H1 locs1 → W p l e R s m args below meth c H1 locs1 (cells + mc) (slots + ms) Q (F0 m (pc + 3) ls (.long v :: rest))) : W p l e R s m args below meth c H locs cells slots Q (F0 m pc ls st0) := by
  have hF : ∀ q, va_A ws H.size q → A q := fun q h => by
    rcases h with ⟨k, e, h⟩ | h
    · exact hD.2 k (q, e) h
    · exact hA q (Nat.le_trans hS.1 h)
  refine va_calll hr hS (fun q _ h => hF q h) hF (fun r u t H1 locs1 ht _ hv hB _ hk hS1 => ?_)
  obtain ⟨hP1, hD1⟩ := hB
  rw [ht] at hP1
  subst hv
  exact kk H1 locs1 hP1 (hD1.weaken (fun _ _ _ h => hF _ h)) hS1
theorem CALLWz {v : Int32} (hr : va_Run p l e R s m args below meth c H locs cells slots mc ms (F0 m pc ls st0) rest (QZ G v (va_A ws H.size) w1 a) (va_A ws H.size)) (_hP : va_P (gD G) vwCl ws H) (hD : va_D A ws) (hS : va_S A s.heap H locs) (hA : ∀ q, s.heap.size ≤ q → A q)
    (kk : bl v → ∀ (H1 : Heap) (locs1 : List Loc), va_P (gD G) vwCl w1 H1 → va_D A w1 → va_S A s.heap H1 locs1 → W p l e R s m args below meth c H1 locs1 (cells + mc) (slots + ms) Q (F0 m (pc + 3) ls (.int v :: rest))) : W p l e R s m args below meth c H locs cells slots Q (F0 m pc ls st0) := by
  have hF : ∀ q, va_A ws H.size q → A q := fun q h => by
    rcases h with ⟨k, e, h⟩ | h
    · exact hD.2 k (q, e) h
    · exact hA q (Nat.le_trans hS.1 h)
  refine va_calli hr hS (fun q _ h => hF q h) hF (fun r u t H1 locs1 ht _ hv hB _ hk hS1 => ?_)
  obtain ⟨hP1, hD1⟩ := hB
  rw [ht] at hP1
  obtain ⟨hv, hb⟩ := hv
  subst hv
  exact kk hb H1 locs1 hP1 (hD1.weaken (fun _ _ _ h => hF _ h)) hS1
end CALLS
theorem gU_ {own C owner : String} {idx : Nat} {x y : MethodName} {b : ByteArray} {n : Nat} {ret : Option FieldType} (h1 : Cond.methodLink own idx x ∈ gw) (h2 : Cond.sameMethod x.cls owner x.name x.desc ∈ gw) (h3 : Cond.selects C x y ∈ gw) (h4 : Cond.instanceMethod y ∈ gw) (h5 : Cond.initialized y.cls ∈ gw) (h6 : Cond.code y b n ret ∈ gw) : GoodIn gw (va_wsU own idx C owner x y (.code y b n ret :: gw)) := fun w hw => by
  rcases List.mem_append.mp hw with hw | hw
  · have : w = .methodLink own idx x ∨ w = .sameMethod x.cls owner x.name x.desc ∨ w = .selects C x y ∨ w = .instanceMethod y ∨ w = .initialized y.cls := by simpa using hw
    rcases this with rfl | rfl | rfl | rfl | rfl
    · exact gw_ok _ h1
    · exact gw_ok _ h2
    · exact gw_ok _ h3
    · exact gw_ok _ h4
    · exact gw_ok _ h5
  · exact gI h6 w hw
section ACMP
variable {p : Program} {l : Launch} {e : Env} {R : Room} {s : State} {m : MethodId} {args : Array Value} {below : List Frame} {meth : Method} {c : Code} {H : Heap} {locs : List Loc} {cells slots : Nat} {Q : State → Prop}
variable {cc : ByteArray} {pc : Nat} {ls : Array Slot} {rest : List Value} {G : Gt}
theorem ac_eq (hE : EV G s) {i j : Nat} (hi : i < 8) (hj : j < 8) (hexec : p.tables.exec = Jvm.exec) (hb : c.code = cc) {off : Int} {tgt : Nat} (hdg : decode cc pc = .ok (.if_acmp .eq off, 3)) (ht : (pc : Int) + off = (tgt : Int))
    (kt : i = j → W p l e R s m args below meth c H locs cells slots Q (F0 m tgt ls rest)) (kf : ¬ i = j → W p l e R s m args below meth c H locs cells slots Q (F0 m (pc + 3) ls rest)) : W p l e R s m args below meth c H locs cells slots Q (F0 m pc ls (.ref (gK G j) :: .ref (gK G i) :: rest)) :=
  lv_acmp_eq (rx := some (gK G i)) (ry := some (gK G j)) hexec hb hdg ht (fun h => kt (hE.kinj hi hj (Option.some.inj h))) (fun h => kf (fun z => h (by rw [z])))
theorem ac_ne (hE : EV G s) {i j : Nat} (hi : i < 8) (hj : j < 8) (hexec : p.tables.exec = Jvm.exec) (hb : c.code = cc) {off : Int} {tgt : Nat} (hdg : decode cc pc = .ok (.if_acmp .ne off, 3)) (ht : (pc : Int) + off = (tgt : Int))
    (kt : ¬ i = j → W p l e R s m args below meth c H locs cells slots Q (F0 m tgt ls rest)) (kf : i = j → W p l e R s m args below meth c H locs cells slots Q (F0 m (pc + 3) ls rest)) : W p l e R s m args below meth c H locs cells slots Q (F0 m pc ls (.ref (gK G j) :: .ref (gK G i) :: rest)) :=
  lv_acmp_ne (rx := some (gK G i)) (ry := some (gK G j)) hexec hb hdg ht (fun h => kt (fun z => h (by rw [z]))) (fun h => kf (hE.kinj hi hj (Option.some.inj h)))
end ACMP
section LDCW
variable {p : Program} {l : Launch} {e : Env} {R : Room} {s : State} {m : MethodId} {args : Array Value} {below : List Frame} {meth : Method} {c : Code} {H : Heap} {locs : List Loc} {cells slots : Nat} {Q : State → Prop}
variable {cc : ByteArray} {pc : Nat} {ls : Array Slot} {rest : List Value}
theorem va_ldcSw (hexec : p.tables.exec = Jvm.exec) (hb : c.code = cc) {own tx : String} {index q : Nat} (hown : s.vm.findClass own = some m.cls) (hZ : vk_R own index tx q s) (hdg : decode cc pc = .ok (.ldc_w index, 3))
    (k : W p l e R s m args below meth c H locs cells slots Q (F0 m (pc + 3) ls (.ref q :: rest))) : W p l e R s m args below meth c H locs cells slots Q (F0 m pc ls rest) := by
  intro T hT X
  obtain ⟨t, a1, b1⟩ := k T hT X
  exact ⟨t, X.ldcStringW hexec hown (text := tx) (a := q) hZ.1 hZ.2 (g := F0 m pc ls rest) rfl (by rw [hb]; exact hdg) t a1, b1⟩
end LDCW
def chB (x : Int32) : Bool := decide ((x.toUInt32 % 65536).toInt32 = x)
theorem chB_ {x : Int32} (h : chB x = true) : narrow .char (.int x) = .int x := by
  have h := of_decide_eq_true h
  have h2 := pk_nc x
  rw [h] at h2
  exact h2
theorem chF_ {x : Int32} (h : chB x = true) : fits .char (.int x) = true := by
  have h := of_decide_eq_true h
  have h2 := pk_fc x
  rw [h] at h2
  exact h2
/-- an end with cells that were made: their addresses are u -/
def QN {S : Type} (G : Gt) (A : Nat → Prop) (W1 : S → va_W) : Array Value → State → Outcome → State → Prop := va_Qv (fun _ : S => True) (fun u t => va_P (gD G) vwCl (W1 u) t.heap ∧ va_D A (W1 u)) A
section MAKES
variable {p : Program} {l : Launch} {e : Env} {R : Room} {s : State} {m : MethodId} {args : Array Value} {below : List Frame} {meth : Method} {c : Code} {H : Heap} {locs : List Loc} {cells slots : Nat} {Q : State → Prop}
variable {pc : Nat} {ls : Array Slot} {rest st0 : List Value} {a : Array Value} {A : Nat → Prop} {mc ms : Nat} {G : Gt} {ws wc wr : va_W} {cc : ByteArray}
theorem CALLn {S : Type} {w1 : S → va_W} (hr : va_Run p l e R s m args below meth c H locs cells slots mc ms (F0 m pc ls st0) rest (QN G (va_A wc H.size) w1 a) (va_A wc H.size)) (hP : va_P (gD G) vwCl ws H) (hD : va_D A ws) (hS : va_S A s.heap H locs) (hA : ∀ q, s.heap.size ≤ q → A q) (isC isR : List Nat) (hC : isC.map (fun i => ws[i]?) = wc.map some) (hR : isR.map (fun i => ws[i]?) = wr.map some) (hn : va_nd isR = true) (hdis : ∀ i ∈ isR, i ∉ isC)
    (kk : ∀ (u : S) (H1 : Heap) (locs1 : List Loc), va_P (gD G) vwCl (wr ++ w1 u) H1 → va_D A (wr ++ w1 u) → va_S A s.heap H1 locs1 → W p l e R s m args below meth c H1 locs1 (cells + mc) (slots + ms) Q (F0 m (pc + 3) ls rest)) : W p l e R s m args below meth c H locs cells slots Q (F0 m pc ls st0) := by
  have hF := va_free hD hS hA isC hC
  refine va_callv hr hS (fun q _ h => hF q h) hF (fun u t H1 locs1 ht _ _ hB _ hk hS1 => ?_)
  obtain ⟨hP1, hD1⟩ := hB
  rw [ht] at hP1
  obtain ⟨hP2, hD2⟩ := va_join hP hD isC isR hC hR hn hdis hk hF hP1 hD1
  exact kk u H1 locs1 hP2 hD2 hS1
theorem NEWA (hE : EV G s) (hexec : p.tables.exec = Jvm.exec) (hb : c.code = cc) {atype : ArrayType} (harr : (Cond.arrayClass (newarray.typeOf atype)).before args s = true) {ty : FieldType} (hty : newarray.typeOf atype = ty) (t0 : Nat) {cB : ClassId} (ht : (TYS G)[t0]? = some (cB, ty)) (hP : va_P (gD G) vwCl ws H) (hD : va_D A ws) (hS : va_S A s.heap H locs) (hA : ∀ q, s.heap.size ≤ q → A q)
    {n : Int32} {N' : Nat} {a0 : vp_A} (ha : ∀ cA : ClassId, vp_cell cA a0 = arrV cA N' (fun _ => defaultValue ty)) (hn : ¬ n < 0) (hN : n.toNatClampNeg = N') (hbytes : N' * componentBytes ty ≤ 536870912) (hcells : cells + 1 ≤ R.cells) (hslots : slots + N' ≤ R.slots) (hdg : decode cc pc = .ok (.newarray atype, 2))
    (kk : ∀ (q : Nat) (H1 : Heap), va_P (gD G) vwCl (ws ++ [(q, .inl (cB, a0))]) H1 → va_D A (ws ++ [(q, .inl (cB, a0))]) → va_S A s.heap H1 locs →
      W p l e R s m args below meth c H1 locs (cells + 1) (slots + N') Q (F0 m (pc + 2) ls (.ref q :: rest))) : W p l e R s m args below meth c H locs cells slots Q (F0 m pc ls (.int n :: rest)) := by
  refine va_newa hexec hb harr hty hE.K hP hD hS hA ha hn hN hbytes hcells hslots hdg (fun q cA H1 hK1 hP1 hD1 hS1 => ?_)
  have e1 := (hE.K.2 t0 _ ht).2
  have e2 := (hK1.2 (TYS G).length (cA, ty) (by rw [List.getElem?_append_right (Nat.le_refl _), Nat.sub_self]; rfl)).2
  have e3 : cA = cB := by
    subst hty
    cases atype <;> exact Option.some.inj (e2.symm.trans e1)
  subst e3
  exact kk q H1 hP1 hD1 hS1
end MAKES
end
section
theorem d_Preconditions_checkIndex_0 : decode cd_Preconditions_checkIndex 0 = .ok (.iload_n 0, 1) := by decide +kernel
theorem d_Preconditions_checkIndex_1 : decode cd_Preconditions_checkIndex 1 = .ok (.ifCond .lt 8, 3) := by decide +kernel
theorem d_Preconditions_checkIndex_4 : decode cd_Preconditions_checkIndex 4 = .ok (.iload_n 0, 1) := by decide +kernel
theorem d_Preconditions_checkIndex_5 : decode cd_Preconditions_checkIndex 5 = .ok (.iload_n 1, 1) := by decide +kernel
theorem d_Preconditions_checkIndex_6 : decode cd_Preconditions_checkIndex 6 = .ok (.if_icmp .lt 10, 3) := by decide +kernel
theorem d_Preconditions_checkIndex_9 : decode cd_Preconditions_checkIndex 9 = .ok (.aload_n 2, 1) := by decide +kernel
theorem d_Preconditions_checkIndex_10 : decode cd_Preconditions_checkIndex 10 = .ok (.iload_n 0, 1) := by decide +kernel
theorem d_Preconditions_checkIndex_11 : decode cd_Preconditions_checkIndex 11 = .ok (.iload_n 1, 1) := by decide +kernel
theorem d_Preconditions_checkIndex_12 : decode cd_Preconditions_checkIndex 12 = .ok (.invokestatic 95, 3) := by decide +kernel
theorem d_Preconditions_checkIndex_15 : decode cd_Preconditions_checkIndex 15 = .ok (.athrow, 1) := by decide +kernel
theorem d_Preconditions_checkIndex_16 : decode cd_Preconditions_checkIndex 16 = .ok (.iload_n 0, 1) := by decide +kernel
theorem d_Preconditions_checkIndex_17 : decode cd_Preconditions_checkIndex 17 = .ok (.ireturn, 1) := by decide +kernel
def k_Preconditions_checkIndexn_9   : Option Int32 :=
  none
def f_Preconditions_checkIndexn (a1 : Int32) (a2 : Int32) : Option Int32 :=
  (if a1 < 0 then k_Preconditions_checkIndexn_9   else (if a1 < a2 then some a1 else k_Preconditions_checkIndexn_9  ))
abbrev w_Preconditions_checkIndexn (G : Gt)  : va_W := []
set_option maxHeartbeats 4000000 in
set_option maxRecDepth 100000 in
theorem c_Preconditions_checkIndexn (l : Launch) (G : Gt) (K : Nat) (a1 : Int32) (a2 : Int32) (sz : Nat) (res : Int32)   (hf : f_Preconditions_checkIndexn a1 a2 = some res) : Met l y_Preconditions_checkIndex (.code y_Preconditions_checkIndex cd_Preconditions_checkIndex 3 (some .int) :: gw) { frames := 0, cells := 0, slots := 0, locals := 0 } (PC G ([.int a1, .int a2, .null] : List Value) sz (w_Preconditions_checkIndexn G )) (QI G res (va_A (w_Preconditions_checkIndexn G ) sz) (w_Preconditions_checkIndexn G )) 0 0 (va_A (w_Preconditions_checkIndexn G ) sz) := by
  refine Met.ofW (cc := cd_Preconditions_checkIndex) (maxL := 3) (ret := (some .int)) (by decide) rfl ?_
  intro p e s m args below meth c s₁ B hml hv
  obtain ⟨rfl, hsz, hP, hE, hD0⟩ := hv
  have hx := B.exec
  have hb := B.bytes
  have hr := B.returns
  have hts := atoms_spec (ws := (.code y_Preconditions_checkIndex cd_Preconditions_checkIndex 3 (some .int) :: gw)) B.pre
  have hg : ∀ w ∈ gw, w.before _ s = true := fun w h => hts w (List.mem_cons_of_mem _ h)
  have hown : s.vm.findClass R_Preconditions = some m.cls := findClass_of_methodNamed B.named
  have hlocks := B.notSynchronized
  subst hsz
  have hK := hE.K
  have hD := hD0.self (sz := s.heap.size)
  have hAb := hE.ab hD0
  obtain ⟨Q, hQ⟩ : ∃ Q, MQ below (QI G res (va_A (w_Preconditions_checkIndexn G ) s.heap.size) (w_Preconditions_checkIndexn G )) ([.int a1, .int a2, .null] : List Value).toArray s 0 0 (va_A (w_Preconditions_checkIndexn G ) s.heap.size) = Q := ⟨_, rfl⟩
  show W p l e { frames := 0, cells := 0, slots := 0, locals := 0 } s m ([.int a1, .int a2, .null] : List Value).toArray below meth c s.heap [] 0 0 (MQ below (QI G res (va_A (w_Preconditions_checkIndexn G ) s.heap.size) (w_Preconditions_checkIndexn G )) ([.int a1, .int a2, .null] : List Value).toArray s 0 0 (va_A (w_Preconditions_checkIndexn G ) s.heap.size)) _
  rw [hQ]
  have hA : ∀ q : Nat, s.heap.size ≤ q → va_A (w_Preconditions_checkIndexn G ) s.heap.size q := fun q h => Or.inr h
  obtain ⟨A, hAe⟩ : ∃ A, va_A (w_Preconditions_checkIndexn G ) s.heap.size = A := ⟨_, rfl⟩
  rw [hAe] at hA hD hAb hQ
  have hS : va_S A s.heap s.heap [] := va_S.rf
  have hl := lv_entry (([.int a1, .int a2, .null] : List Value)) (n := 3) (Nat.le_of_ble_eq_true rfl)
  rw [lg_entry_eq]
  generalize (lg_sl (([.int a1, .int a2, .null] : List Value)) ++ List.replicate (3 - (lg_sl (([.int a1, .int a2, .null] : List Value))).length) Slot.unset).toArray = ls at hl ⊢
  have hl : lv_has ls 3 [(0, .int a1), (1, .int a2), (2, .null)] := hl
  have W_9 : k_Preconditions_checkIndexn_9   = some res → ∀ (H : Heap) (locs : List Loc) (ls : Array Slot), va_P (gD G) vwCl (w_Preconditions_checkIndexn G ) H → va_D A (w_Preconditions_checkIndexn G ) → va_S A s.heap H locs → lv_has ls 3 [(0, .int a1), (1, .int a2), (2, .null)] → W p l e { frames := 0, cells := 0, slots := 0, locals := 0 } s m ([.int a1, .int a2, .null] : List Value).toArray below meth c H locs 0 0 Q (F0 m 9 ls []) := by
    intro   hf H locs ls hP hD hS hl
    unfold k_Preconditions_checkIndexn_9 at hf
    refine lv_aload_nN hx hb d_Preconditions_checkIndex_9 rfl (lv_at hl 2 rfl) ?_
    refine lv_iload_n hx hb d_Preconditions_checkIndex_10 rfl (lv_at hl 0 rfl) ?_
    refine lv_iload_n hx hb d_Preconditions_checkIndex_11 rfl (lv_at hl 1 rfl) ?_
    cases hf
  unfold f_Preconditions_checkIndexn at hf
  refine lv_iload_n hx hb d_Preconditions_checkIndex_0 rfl (lv_at hl 0 rfl) ?_
  refine lv_if_lt (tgt := 9) hx hb d_Preconditions_checkIndex_1 (by decide) (fun c_1 => ?_) (fun c_1 => ?_)
  · have hf := ip_ c_1 hf
    exact W_9   hf _ _ _ hP hD hS (lv_sub hl [0, 1, 2] rfl)
  · have hf := in_ c_1 hf
    refine lv_iload_n hx hb d_Preconditions_checkIndex_4 rfl (lv_at hl 0 rfl) ?_
    refine lv_iload_n hx hb d_Preconditions_checkIndex_5 rfl (lv_at hl 1 rfl) ?_
    refine lv_icmp_lt (tgt := 16) hx hb d_Preconditions_checkIndex_6 (by decide) (fun c_6 => ?_) (fun c_6 => ?_)
    · have hf := ip_ c_6 hf
      refine lv_iload_n hx hb d_Preconditions_checkIndex_16 rfl (lv_at hl 0 rfl) ?_
      obtain rfl := Option.some.inj hf
      rw [← hQ]
      exact W.iret (v := a1) hx hb hr (fun t9 ht hW => ⟨⟨a1, (), rfl, rfl, ⟨by rw [ht]; exact hP, hD⟩⟩, hS.F ht⟩) hS.2.2 d_Preconditions_checkIndex_17
    · have hf := in_ c_6 hf
      exact W_9   hf _ _ _ hP hD hS (lv_sub hl [0, 1, 2] rfl)
set_option maxHeartbeats 4000000 in
set_option maxRecDepth 100000 in
theorem c_Preconditions_checkIndexr (l : Launch) (G : Gt) (K : Nat) (a1 : Int32) (a2 : Int32) (qa3 : Nat) (sz : Nat) (res : Int32)   (hf : f_Preconditions_checkIndexn a1 a2 = some res) : Met l y_Preconditions_checkIndex (.code y_Preconditions_checkIndex cd_Preconditions_checkIndex 3 (some .int) :: gw) { frames := 0, cells := 0, slots := 0, locals := 0 } (PC G ([.int a1, .int a2, .ref qa3] : List Value) sz (w_Preconditions_checkIndexn G )) (QI G res (va_A (w_Preconditions_checkIndexn G ) sz) (w_Preconditions_checkIndexn G )) 0 0 (va_A (w_Preconditions_checkIndexn G ) sz) := by
  refine Met.ofW (cc := cd_Preconditions_checkIndex) (maxL := 3) (ret := (some .int)) (by decide) rfl ?_
  intro p e s m args below meth c s₁ B hml hv
  obtain ⟨rfl, hsz, hP, hE, hD0⟩ := hv
  have hx := B.exec
  have hb := B.bytes
  have hr := B.returns
  have hts := atoms_spec (ws := (.code y_Preconditions_checkIndex cd_Preconditions_checkIndex 3 (some .int) :: gw)) B.pre
  have hg : ∀ w ∈ gw, w.before _ s = true := fun w h => hts w (List.mem_cons_of_mem _ h)
  have hown : s.vm.findClass R_Preconditions = some m.cls := findClass_of_methodNamed B.named
  have hlocks := B.notSynchronized
  subst hsz
  have hK := hE.K
  have hD := hD0.self (sz := s.heap.size)
  have hAb := hE.ab hD0
  obtain ⟨Q, hQ⟩ : ∃ Q, MQ below (QI G res (va_A (w_Preconditions_checkIndexn G ) s.heap.size) (w_Preconditions_checkIndexn G )) ([.int a1, .int a2, .ref qa3] : List Value).toArray s 0 0 (va_A (w_Preconditions_checkIndexn G ) s.heap.size) = Q := ⟨_, rfl⟩
  show W p l e { frames := 0, cells := 0, slots := 0, locals := 0 } s m ([.int a1, .int a2, .ref qa3] : List Value).toArray below meth c s.heap [] 0 0 (MQ below (QI G res (va_A (w_Preconditions_checkIndexn G ) s.heap.size) (w_Preconditions_checkIndexn G )) ([.int a1, .int a2, .ref qa3] : List Value).toArray s 0 0 (va_A (w_Preconditions_checkIndexn G ) s.heap.size)) _
  rw [hQ]
  have hA : ∀ q : Nat, s.heap.size ≤ q → va_A (w_Preconditions_checkIndexn G ) s.heap.size q := fun q h => Or.inr h
  obtain ⟨A, hAe⟩ : ∃ A, va_A (w_Preconditions_checkIndexn G ) s.heap.size = A := ⟨_, rfl⟩
  rw [hAe] at hA hD hAb hQ
  have hS : va_S A s.heap s.heap [] := va_S.rf
  have hl := lv_entry (([.int a1, .int a2, .ref qa3] : List Value)) (n := 3) (Nat.le_of_ble_eq_true rfl)
  rw [lg_entry_eq]
  generalize (lg_sl (([.int a1, .int a2, .ref qa3] : List Value)) ++ List.replicate (3 - (lg_sl (([.int a1, .int a2, .ref qa3] : List Value))).length) Slot.unset).toArray = ls at hl ⊢
  have hl : lv_has ls 3 [(0, .int a1), (1, .int a2), (2, .ref qa3)] := hl
  have W_9 : k_Preconditions_checkIndexn_9   = some res → ∀ (H : Heap) (locs : List Loc) (ls : Array Slot), va_P (gD G) vwCl (w_Preconditions_checkIndexn G ) H → va_D A (w_Preconditions_checkIndexn G ) → va_S A s.heap H locs → lv_has ls 3 [(0, .int a1), (1, .int a2), (2, .ref qa3)] → W p l e { frames := 0, cells := 0, slots := 0, locals := 0 } s m ([.int a1, .int a2, .ref qa3] : List Value).toArray below meth c H locs 0 0 Q (F0 m 9 ls []) := by
    intro   hf H locs ls hP hD hS hl
    unfold k_Preconditions_checkIndexn_9 at hf
    refine lv_aload_n hx hb d_Preconditions_checkIndex_9 rfl (lv_at hl 2 rfl) ?_
    refine lv_iload_n hx hb d_Preconditions_checkIndex_10 rfl (lv_at hl 0 rfl) ?_
    refine lv_iload_n hx hb d_Preconditions_checkIndex_11 rfl (lv_at hl 1 rfl) ?_
    cases hf
  unfold f_Preconditions_checkIndexn at hf
  refine lv_iload_n hx hb d_Preconditions_checkIndex_0 rfl (lv_at hl 0 rfl) ?_
  refine lv_if_lt (tgt := 9) hx hb d_Preconditions_checkIndex_1 (by decide) (fun c_1 => ?_) (fun c_1 => ?_)
  · have hf := ip_ c_1 hf
    exact W_9   hf _ _ _ hP hD hS (lv_sub hl [0, 1, 2] rfl)
  · have hf := in_ c_1 hf
    refine lv_iload_n hx hb d_Preconditions_checkIndex_4 rfl (lv_at hl 0 rfl) ?_
    refine lv_iload_n hx hb d_Preconditions_checkIndex_5 rfl (lv_at hl 1 rfl) ?_
    refine lv_icmp_lt (tgt := 16) hx hb d_Preconditions_checkIndex_6 (by decide) (fun c_6 => ?_) (fun c_6 => ?_)
    · have hf := ip_ c_6 hf
      refine lv_iload_n hx hb d_Preconditions_checkIndex_16 rfl (lv_at hl 0 rfl) ?_
      obtain rfl := Option.some.inj hf
      rw [← hQ]
      exact W.iret (v := a1) hx hb hr (fun t9 ht hW => ⟨⟨a1, (), rfl, rfl, ⟨by rw [ht]; exact hP, hD⟩⟩, hS.F ht⟩) hS.2.2 d_Preconditions_checkIndex_17
    · have hf := in_ c_6 hf
      exact W_9   hf _ _ _ hP hD hS (lv_sub hl [0, 1, 2] rfl)
theorem d_String_checkIndex_0 : decode cd_String_checkIndex 0 = .ok (.iload_n 0, 1) := by decide +kernel
theorem d_String_checkIndex_1 : decode cd_String_checkIndex 1 = .ok (.iload_n 1, 1) := by decide +kernel
theorem d_String_checkIndex_2 : decode cd_String_checkIndex 2 = .ok (.getstatic 1053, 3) := by decide +kernel
theorem d_String_checkIndex_5 : decode cd_String_checkIndex 5 = .ok (.invokestatic 1059, 3) := by decide +kernel
theorem d_String_checkIndex_8 : decode cd_String_checkIndex 8 = .ok (.pop, 1) := by decide +kernel
theorem d_String_checkIndex_9 : decode cd_String_checkIndex 9 = .ok (.return_, 1) := by decide +kernel
theorem m_0 : Cond.fieldLink R_String 1053 "jdk/internal/util/Preconditions" "SIOOBE_FORMATTER" "Ljava/util/function/BiFunction;" ∈ gw := gm (i := 519) (by decide +kernel) (by decide +kernel)
theorem m_1 : Cond.methodLink R_String 1059 y_Preconditions_checkIndex ∈ gw := gm (i := 648) (by decide +kernel) (by decide +kernel)
theorem m_2 : Cond.static y_Preconditions_checkIndex ∈ gw := gm (i := 649) (by decide +kernel) (by decide +kernel)
theorem m_3 : Cond.initialized R_Preconditions ∈ gw := gm (i := 97) (by decide +kernel) (by decide +kernel)
set_option maxRecDepth 100000 in
theorem m_4 : Cond.code y_Preconditions_checkIndex cd_Preconditions_checkIndex 3 (some .int) ∈ gw := gm (i := 650) rfl rfl
def f_String_checkIndex (a1 : Int32) (a2 : Int32) : Option Unit :=
  ((f_Preconditions_checkIndexn a1 a2).bind fun u_5 => some ())
set_option maxHeartbeats 4000000 in
set_option maxRecDepth 100000 in
theorem c_String_checkIndex (l : Launch) (G : Gt) (K : Nat) (a1 : Int32) (a2 : Int32) (sz : Nat) (res : Unit)   (hf : f_String_checkIndex a1 a2 = some res) : Met l y_String_checkIndex (.code y_String_checkIndex cd_String_checkIndex 2 none :: gw) { frames := 1, cells := 0, slots := 0, locals := 40 } (PC G ([.int a1, .int a2] : List Value) sz (w_Preconditions_checkIndexn G )) (QV G (va_A (w_Preconditions_checkIndexn G ) sz) (w_Preconditions_checkIndexn G )) 0 0 (va_A (w_Preconditions_checkIndexn G ) sz) := by
  refine Met.ofW (cc := cd_String_checkIndex) (maxL := 2) (ret := none) (by decide) rfl ?_
  intro p e s m args below meth c s₁ B hml hv
  obtain ⟨rfl, hsz, hP, hE, hD0⟩ := hv
  have hx := B.exec
  have hb := B.bytes
  have hr := B.returns
  have hts := atoms_spec (ws := (.code y_String_checkIndex cd_String_checkIndex 2 none :: gw)) B.pre
  have hg : ∀ w ∈ gw, w.before _ s = true := fun w h => hts w (List.mem_cons_of_mem _ h)
  have hown : s.vm.findClass R_String = some m.cls := findClass_of_methodNamed B.named
  have hlocks := B.notSynchronized
  subst hsz
  have hK := hE.K
  have hD := hD0.self (sz := s.heap.size)
  have hAb := hE.ab hD0
  obtain ⟨Q, hQ⟩ : ∃ Q, MQ below (QV G (va_A (w_Preconditions_checkIndexn G ) s.heap.size) (w_Preconditions_checkIndexn G )) ([.int a1, .int a2] : List Value).toArray s 0 0 (va_A (w_Preconditions_checkIndexn G ) s.heap.size) = Q := ⟨_, rfl⟩
  show W p l e { frames := 1, cells := 0, slots := 0, locals := 40 } s m ([.int a1, .int a2] : List Value).toArray below meth c s.heap [] 0 0 (MQ below (QV G (va_A (w_Preconditions_checkIndexn G ) s.heap.size) (w_Preconditions_checkIndexn G )) ([.int a1, .int a2] : List Value).toArray s 0 0 (va_A (w_Preconditions_checkIndexn G ) s.heap.size)) _
  rw [hQ]
  have hA : ∀ q : Nat, s.heap.size ≤ q → va_A (w_Preconditions_checkIndexn G ) s.heap.size q := fun q h => Or.inr h
  obtain ⟨A, hAe⟩ : ∃ A, va_A (w_Preconditions_checkIndexn G ) s.heap.size = A := ⟨_, rfl⟩
  rw [hAe] at hA hD hAb hQ
  have hS : va_S A s.heap s.heap [] := va_S.rf
  have hl := lv_entry (([.int a1, .int a2] : List Value)) (n := 2) (Nat.le_of_ble_eq_true rfl)
  rw [lg_entry_eq]
  generalize (lg_sl (([.int a1, .int a2] : List Value)) ++ List.replicate (2 - (lg_sl (([.int a1, .int a2] : List Value))).length) Slot.unset).toArray = ls at hl ⊢
  have hl : lv_has ls 2 [(0, .int a1), (1, .int a2)] := hl
  unfold f_String_checkIndex at hf
  refine lv_iload_n hx hb d_String_checkIndex_0 rfl (lv_at hl 0 rfl) ?_
  refine lv_iload_n hx hb d_String_checkIndex_1 rfl (lv_at hl 1 rfl) ?_
  refine va_gets hx hb (hE.ff hAb) hS hown (hg _ m_0) (fun _ h9 => h9) d_String_checkIndex_2 ?_
  rcases hfm_2 : gF G with _ | qf_2
  · show W _ _ _ _ _ _ _ _ _ _ _ _ _ _ _ (F0 m _ ls (.null :: _))
    obtain ⟨u_5, hu_5, hf⟩ := bd_ hf
    refine CALLWi (va_runS (As := [.int a1, .int a2, .null]) (rest := []) ⟨hx, hb, hml, hown, hg⟩ (c_Preconditions_checkIndexn l G K a1 a2 _ u_5  hu_5) (va_cwS 3 hg (gS m_1 m_2 m_3 m_4) rfl rfl rfl (by decide +kernel) ⟨Nat.le_of_ble_eq_true rfl, Nat.le_of_ble_eq_true rfl⟩) ⟨PC_b, PC_p hE hS hAb hP hD⟩ rfl rfl hl.1 rfl (lv_room (Nat.le_of_ble_eq_true rfl)) d_String_checkIndex_5 ⟨Nat.zero_le _, Nat.zero_le _⟩) hP hD hS hA (fun H locs hP hD hS => ?_)
    have hP : va_P (gD G) vwCl (w_Preconditions_checkIndexn G ) H := hP
    have hD : va_D A (w_Preconditions_checkIndexn G ) := hD
    refine lv_pop hx hb d_String_checkIndex_8 rfl ?_
    obtain rfl := Option.some.inj hf
    rw [← hQ]
    exact W.vret hx hb hr (fun t9 ht hW => ⟨⟨(), rfl, trivial, ⟨by rw [ht]; exact hP, hD⟩⟩, hS.F ht⟩) hS.2.2 d_String_checkIndex_9
  · show W _ _ _ _ _ _ _ _ _ _ _ _ _ _ _ (F0 m _ ls (.ref qf_2 :: _))
    obtain ⟨u_5, hu_5, hf⟩ := bd_ hf
    refine CALLWi (va_runS (As := [.int a1, .int a2, .ref qf_2]) (rest := []) ⟨hx, hb, hml, hown, hg⟩ (c_Preconditions_checkIndexr l G K a1 a2 qf_2 _ u_5  hu_5) (va_cwS 3 hg (gS m_1 m_2 m_3 m_4) rfl rfl rfl (by decide +kernel) ⟨Nat.le_of_ble_eq_true rfl, Nat.le_of_ble_eq_true rfl⟩) ⟨PC_b, PC_p hE hS hAb hP hD⟩ rfl rfl hl.1 rfl (lv_room (Nat.le_of_ble_eq_true rfl)) d_String_checkIndex_5 ⟨Nat.zero_le _, Nat.zero_le _⟩) hP hD hS hA (fun H locs hP hD hS => ?_)
    have hP : va_P (gD G) vwCl (w_Preconditions_checkIndexn G ) H := hP
    have hD : va_D A (w_Preconditions_checkIndexn G ) := hD
    refine lv_pop hx hb d_String_checkIndex_8 rfl ?_
    obtain rfl := Option.some.inj hf
    rw [← hQ]
    exact W.vret hx hb hr (fun t9 ht hW => ⟨⟨(), rfl, trivial, ⟨by rw [ht]; exact hP, hD⟩⟩, hS.F ht⟩) hS.2.2 d_String_checkIndex_9
theorem d_StringLatin1_canEncode_0 : decode cd_StringLatin1_canEncode 0 = .ok (.iload_n 0, 1) := by decide +kernel
theorem d_StringLatin1_canEncode_1 : decode cd_StringLatin1_canEncode 1 = .ok (.ifCond .lt 14, 3) := by decide +kernel
theorem d_StringLatin1_canEncode_4 : decode cd_StringLatin1_canEncode 4 = .ok (.iload_n 0, 1) := by decide +kernel
theorem d_StringLatin1_canEncode_5 : decode cd_StringLatin1_canEncode 5 = .ok (.sipush 255, 3) := by decide +kernel
theorem d_StringLatin1_canEncode_8 : decode cd_StringLatin1_canEncode 8 = .ok (.if_icmp .gt 7, 3) := by decide +kernel
theorem d_StringLatin1_canEncode_11 : decode cd_StringLatin1_canEncode 11 = .ok (.iconst 1, 1) := by decide +kernel
theorem d_StringLatin1_canEncode_12 : decode cd_StringLatin1_canEncode 12 = .ok (.goto 4, 3) := by decide +kernel
theorem d_StringLatin1_canEncode_15 : decode cd_StringLatin1_canEncode 15 = .ok (.iconst 0, 1) := by decide +kernel
theorem d_StringLatin1_canEncode_16 : decode cd_StringLatin1_canEncode 16 = .ok (.ireturn, 1) := by decide +kernel
def f_StringLatin1_canEncode (a1 : Int32) : Option Int32 :=
  (if a1 < 0 then some (0 : Int32) else (if (255 : Int32) < a1 then some (0 : Int32) else some (1 : Int32)))
set_option maxHeartbeats 4000000 in
set_option maxRecDepth 100000 in
theorem c_StringLatin1_canEncode (l : Launch) (G : Gt) (K : Nat) (a1 : Int32) (sz : Nat) (res : Int32)   (hf : f_StringLatin1_canEncode a1 = some res) : Met l y_StringLatin1_canEncode (.code y_StringLatin1_canEncode cd_StringLatin1_canEncode 1 (some .boolean) :: gw) { frames := 0, cells := 0, slots := 0, locals := 0 } (PC G ([.int a1] : List Value) sz (w_Preconditions_checkIndexn G )) (QZ G res (va_A (w_Preconditions_checkIndexn G ) sz) (w_Preconditions_checkIndexn G )) 0 0 (va_A (w_Preconditions_checkIndexn G ) sz) := by
  refine Met.ofW (cc := cd_StringLatin1_canEncode) (maxL := 1) (ret := (some .boolean)) (by decide) rfl ?_
  intro p e s m args below meth c s₁ B hml hv
  obtain ⟨rfl, hsz, hP, hE, hD0⟩ := hv
  have hx := B.exec
  have hb := B.bytes
  have hr := B.returns
  have hts := atoms_spec (ws := (.code y_StringLatin1_canEncode cd_StringLatin1_canEncode 1 (some .boolean) :: gw)) B.pre
  have hg : ∀ w ∈ gw, w.before _ s = true := fun w h => hts w (List.mem_cons_of_mem _ h)
  have hown : s.vm.findClass R_StringLatin1 = some m.cls := findClass_of_methodNamed B.named
  have hlocks := B.notSynchronized
  subst hsz
  have hK := hE.K
  have hD := hD0.self (sz := s.heap.size)
  have hAb := hE.ab hD0
  obtain ⟨Q, hQ⟩ : ∃ Q, MQ below (QZ G res (va_A (w_Preconditions_checkIndexn G ) s.heap.size) (w_Preconditions_checkIndexn G )) ([.int a1] : List Value).toArray s 0 0 (va_A (w_Preconditions_checkIndexn G ) s.heap.size) = Q := ⟨_, rfl⟩
  show W p l e { frames := 0, cells := 0, slots := 0, locals := 0 } s m ([.int a1] : List Value).toArray below meth c s.heap [] 0 0 (MQ below (QZ G res (va_A (w_Preconditions_checkIndexn G ) s.heap.size) (w_Preconditions_checkIndexn G )) ([.int a1] : List Value).toArray s 0 0 (va_A (w_Preconditions_checkIndexn G ) s.heap.size)) _
  rw [hQ]
  have hA : ∀ q : Nat, s.heap.size ≤ q → va_A (w_Preconditions_checkIndexn G ) s.heap.size q := fun q h => Or.inr h
  obtain ⟨A, hAe⟩ : ∃ A, va_A (w_Preconditions_checkIndexn G ) s.heap.size = A := ⟨_, rfl⟩
  rw [hAe] at hA hD hAb hQ
  have hS : va_S A s.heap s.heap [] := va_S.rf
  have hl := lv_entry (([.int a1] : List Value)) (n := 1) (Nat.le_of_ble_eq_true rfl)
  rw [lg_entry_eq]
  generalize (lg_sl (([.int a1] : List Value)) ++ List.replicate (1 - (lg_sl (([.int a1] : List Value))).length) Slot.unset).toArray = ls at hl ⊢
  have hl : lv_has ls 1 [(0, .int a1)] := hl
  unfold f_StringLatin1_canEncode at hf
  refine lv_iload_n hx hb d_StringLatin1_canEncode_0 rfl (lv_at hl 0 rfl) ?_
  refine lv_if_lt (tgt := 15) hx hb d_StringLatin1_canEncode_1 (by decide) (fun c_1 => ?_) (fun c_1 => ?_)
  · have hf := ip_ c_1 hf
    refine lv_iconst (v := 0) hx hb d_StringLatin1_canEncode_15 (by decide) ?_
    obtain rfl := Option.some.inj hf
    rw [← hQ]
    exact W.zret (v := (0 : Int32)) hx hb hr (bl_n bl_0) (fun t9 ht hW => ⟨⟨(0 : Int32), (), rfl, ⟨rfl, bl_0⟩, ⟨by rw [ht]; exact hP, hD⟩⟩, hS.F ht⟩) hS.2.2 d_StringLatin1_canEncode_16
  · have hf := in_ c_1 hf
    refine lv_iload_n hx hb d_StringLatin1_canEncode_4 rfl (lv_at hl 0 rfl) ?_
    refine lv_sipush (v := 255) hx hb d_StringLatin1_canEncode_5 (by decide) ?_
    refine lv_icmp_gt (tgt := 15) hx hb d_StringLatin1_canEncode_8 (by decide) (fun c_8 => ?_) (fun c_8 => ?_)
    · have hf := ip_ c_8 hf
      refine lv_iconst (v := 0) hx hb d_StringLatin1_canEncode_15 (by decide) ?_
      obtain rfl := Option.some.inj hf
      rw [← hQ]
      exact W.zret (v := (0 : Int32)) hx hb hr (bl_n bl_0) (fun t9 ht hW => ⟨⟨(0 : Int32), (), rfl, ⟨rfl, bl_0⟩, ⟨by rw [ht]; exact hP, hD⟩⟩, hS.F ht⟩) hS.2.2 d_StringLatin1_canEncode_16
    · have hf := in_ c_8 hf
      refine lv_iconst (v := 1) hx hb d_StringLatin1_canEncode_11 (by decide) ?_
      refine lv_goto (tgt := 16) hx hb d_StringLatin1_canEncode_12 (by decide) ?_
      obtain rfl := Option.some.inj hf
      rw [← hQ]
      exact W.zret (v := (1 : Int32)) hx hb hr (bl_n bl_1) (fun t9 ht hW => ⟨⟨(1 : Int32), (), rfl, ⟨rfl, bl_1⟩, ⟨by rw [ht]; exact hP, hD⟩⟩, hS.F ht⟩) hS.2.2 d_StringLatin1_canEncode_16
theorem d_StringLatin1_indexOfChar_0 : decode cd_StringLatin1_indexOfChar 0 = .ok (.iload_n 1, 1) := by decide +kernel
theorem d_StringLatin1_indexOfChar_1 : decode cd_StringLatin1_indexOfChar 1 = .ok (.i2b, 1) := by decide +kernel
theorem d_StringLatin1_indexOfChar_2 : decode cd_StringLatin1_indexOfChar 2 = .ok (.istore 4, 2) := by decide +kernel
theorem d_StringLatin1_indexOfChar_4 : decode cd_StringLatin1_indexOfChar 4 = .ok (.iload_n 2, 1) := by decide +kernel
theorem d_StringLatin1_indexOfChar_5 : decode cd_StringLatin1_indexOfChar 5 = .ok (.istore 5, 2) := by decide +kernel
theorem d_StringLatin1_indexOfChar_7 : decode cd_StringLatin1_indexOfChar 7 = .ok (.iload 5, 2) := by decide +kernel
theorem d_StringLatin1_indexOfChar_9 : decode cd_StringLatin1_indexOfChar 9 = .ok (.iload_n 3, 1) := by decide +kernel
theorem d_StringLatin1_indexOfChar_10 : decode cd_StringLatin1_indexOfChar 10 = .ok (.if_icmp .ge 21, 3) := by decide +kernel
theorem d_StringLatin1_indexOfChar_13 : decode cd_StringLatin1_indexOfChar 13 = .ok (.aload_n 0, 1) := by decide +kernel
theorem d_StringLatin1_indexOfChar_14 : decode cd_StringLatin1_indexOfChar 14 = .ok (.iload 5, 2) := by decide +kernel
theorem d_StringLatin1_indexOfChar_16 : decode cd_StringLatin1_indexOfChar 16 = .ok (.baload, 1) := by decide +kernel
theorem d_StringLatin1_indexOfChar_17 : decode cd_StringLatin1_indexOfChar 17 = .ok (.iload 4, 2) := by decide +kernel
theorem d_StringLatin1_indexOfChar_19 : decode cd_StringLatin1_indexOfChar 19 = .ok (.if_icmp .ne 6, 3) := by decide +kernel
theorem d_StringLatin1_indexOfChar_22 : decode cd_StringLatin1_indexOfChar 22 = .ok (.iload 5, 2) := by decide +kernel
theorem d_StringLatin1_indexOfChar_24 : decode cd_StringLatin1_indexOfChar 24 = .ok (.ireturn, 1) := by decide +kernel
theorem d_StringLatin1_indexOfChar_25 : decode cd_StringLatin1_indexOfChar 25 = .ok (.iinc 5 1, 3) := by decide +kernel
theorem d_StringLatin1_indexOfChar_28 : decode cd_StringLatin1_indexOfChar 28 = .ok (.goto (-21), 3) := by decide +kernel
theorem d_StringLatin1_indexOfChar_31 : decode cd_StringLatin1_indexOfChar 31 = .ok (.iconst (-1), 1) := by decide +kernel
theorem d_StringLatin1_indexOfChar_32 : decode cd_StringLatin1_indexOfChar 32 = .ok (.ireturn, 1) := by decide +kernel
def b_StringLatin1_indexOfChar_7 (a1 : Nat) (a4 : Int32) (x4 : Int32) (rec_7 : Int32 → Option Int32) (z7 : Int32) : Option Int32 :=
  (if a4 ≤ z7 then some (-1 : Int32) else (if inB z7 (sLen.getD a1 0) = true then (if ((sByt.getD a1 []).getD z7.toNatClampNeg 0) = x4 then some z7 else rec_7 (z7 + 1)) else none))
def f_StringLatin1_indexOfChar (K : Nat) (a1 : Nat) (a2 : Int32) (a3 : Int32) (a4 : Int32) : Option Int32 :=
  lp_ (b_StringLatin1_indexOfChar_7 a1 a4 a2.toInt8.toInt32) K a3
set_option maxHeartbeats 4000000 in
set_option maxRecDepth 100000 in
theorem c_StringLatin1_indexOfChar (l : Launch) (G : Gt) (K : Nat) (a1 : Nat) (a2 : Int32) (a3 : Int32) (a4 : Int32) (sz : Nat) (res : Int32)  (hr_a1 : a1 < nS) (hf : f_StringLatin1_indexOfChar K a1 a2 a3 a4 = some res) : Met l y_StringLatin1_indexOfChar (.code y_StringLatin1_indexOfChar cd_StringLatin1_indexOfChar 6 (some .int) :: gw) { frames := 0, cells := 0, slots := 0, locals := 0 } (PC G ([.ref (gU G a1), .int a2, .int a3, .int a4] : List Value) sz (w_Preconditions_checkIndexn G )) (QI G res (va_A (w_Preconditions_checkIndexn G ) sz) (w_Preconditions_checkIndexn G )) 0 0 (va_A (w_Preconditions_checkIndexn G ) sz) := by
  refine Met.ofW (cc := cd_StringLatin1_indexOfChar) (maxL := 6) (ret := (some .int)) (by decide) rfl ?_
  intro p e s m args below meth c s₁ B hml hv
  obtain ⟨rfl, hsz, hP, hE, hD0⟩ := hv
  have hx := B.exec
  have hb := B.bytes
  have hr := B.returns
  have hts := atoms_spec (ws := (.code y_StringLatin1_indexOfChar cd_StringLatin1_indexOfChar 6 (some .int) :: gw)) B.pre
  have hg : ∀ w ∈ gw, w.before _ s = true := fun w h => hts w (List.mem_cons_of_mem _ h)
  have hown : s.vm.findClass R_StringLatin1 = some m.cls := findClass_of_methodNamed B.named
  have hlocks := B.notSynchronized
  subst hsz
  have hK := hE.K
  have hD := hD0.self (sz := s.heap.size)
  have hAb := hE.ab hD0
  obtain ⟨Q, hQ⟩ : ∃ Q, MQ below (QI G res (va_A (w_Preconditions_checkIndexn G ) s.heap.size) (w_Preconditions_checkIndexn G )) ([.ref (gU G a1), .int a2, .int a3, .int a4] : List Value).toArray s 0 0 (va_A (w_Preconditions_checkIndexn G ) s.heap.size) = Q := ⟨_, rfl⟩
  show W p l e { frames := 0, cells := 0, slots := 0, locals := 0 } s m ([.ref (gU G a1), .int a2, .int a3, .int a4] : List Value).toArray below meth c s.heap [] 0 0 (MQ below (QI G res (va_A (w_Preconditions_checkIndexn G ) s.heap.size) (w_Preconditions_checkIndexn G )) ([.ref (gU G a1), .int a2, .int a3, .int a4] : List Value).toArray s 0 0 (va_A (w_Preconditions_checkIndexn G ) s.heap.size)) _
  rw [hQ]
  have hA : ∀ q : Nat, s.heap.size ≤ q → va_A (w_Preconditions_checkIndexn G ) s.heap.size q := fun q h => Or.inr h
  obtain ⟨A, hAe⟩ : ∃ A, va_A (w_Preconditions_checkIndexn G ) s.heap.size = A := ⟨_, rfl⟩
  rw [hAe] at hA hD hAb hQ
  have hS : va_S A s.heap s.heap [] := va_S.rf
  have hl := lv_entry (([.ref (gU G a1), .int a2, .int a3, .int a4] : List Value)) (n := 6) (Nat.le_of_ble_eq_true rfl)
  rw [lg_entry_eq]
  generalize (lg_sl (([.ref (gU G a1), .int a2, .int a3, .int a4] : List Value)) ++ List.replicate (6 - (lg_sl (([.ref (gU G a1), .int a2, .int a3, .int a4] : List Value))).length) Slot.unset).toArray = ls at hl ⊢
  have hl : lv_has ls 6 [(0, .ref (gU G a1)), (1, .int a2), (2, .int a3), (3, .int a4)] := hl
  have W_7 : ∀ (x4 : Int32)  (n_7 : Nat) (z7 : Int32) , lp_ (b_StringLatin1_indexOfChar_7 a1 a4 x4) n_7 z7 = some res → ∀ (H : Heap) (locs : List Loc) (ls : Array Slot), va_P (gD G) vwCl (w_Preconditions_checkIndexn G ) H → va_D A (w_Preconditions_checkIndexn G ) → va_S A s.heap H locs → lv_has ls 6 [(0, .ref (gU G a1)), (3, .int a4), (4, .int x4), (5, .int z7)] → W p l e { frames := 0, cells := 0, slots := 0, locals := 0 } s m ([.ref (gU G a1), .int a2, .int a3, .int a4] : List Value).toArray below meth c H locs 0 0 Q (F0 m 7 ls []) := by
    intro x4 n_7
    induction n_7 with
    | zero =>
      intro z7  hf
      cases hf
    | succ n_7 ih_7 =>
      intro z7  hf H locs ls hP hD hS hl
      have hf : b_StringLatin1_indexOfChar_7 a1 a4 x4 (lp_ (b_StringLatin1_indexOfChar_7 a1 a4 x4) n_7) z7 = some res := hf
      generalize lp_ (b_StringLatin1_indexOfChar_7 a1 a4 x4) n_7 = rec_7 at hf ih_7
      unfold b_StringLatin1_indexOfChar_7 at hf
      refine lv_iload hx hb d_StringLatin1_indexOfChar_7 (lv_at hl 3 rfl) ?_
      refine lv_iload_n hx hb d_StringLatin1_indexOfChar_9 rfl (lv_at hl 1 rfl) ?_
      refine lv_icmp_ge (tgt := 31) hx hb d_StringLatin1_indexOfChar_10 (by decide) (fun c_10 => ?_) (fun c_10 => ?_)
      · have hf := ip_ c_10 hf
        refine lv_iconst (v := -1) hx hb d_StringLatin1_indexOfChar_31 (by decide) ?_
        obtain rfl := Option.some.inj hf
        rw [← hQ]
        exact W.iret (v := (-1 : Int32)) hx hb hr (fun t9 ht hW => ⟨⟨(-1 : Int32), (), rfl, rfl, ⟨by rw [ht]; exact hP, hD⟩⟩, hS.F ht⟩) hS.2.2 d_StringLatin1_indexOfChar_32
      · have hf := in_ c_10 hf
        refine lv_aload_n hx hb d_StringLatin1_indexOfChar_13 rfl (lv_at hl 0 rfl) ?_
        refine lv_iload hx hb d_StringLatin1_indexOfChar_14 (lv_at hl 3 rfl) ?_
        obtain ⟨g_16, hf⟩ := gd_ hf
        refine va_tb hx hb ((hE.vs hAb).1 a1 hr_a1).2.2.2 hS (inB_in g_16) (v := .int ((sByt.getD a1 []).getD z7.toNatClampNeg 0)) rfl d_StringLatin1_indexOfChar_16 ?_
        refine lv_iload hx hb d_StringLatin1_indexOfChar_17 (lv_at hl 2 rfl) ?_
        refine lv_icmp_ne (tgt := 25) hx hb d_StringLatin1_indexOfChar_19 (by decide) (fun c_19 => ?_) (fun c_19 => ?_)
        · have hf := in_ c_19 hf
          refine lv_iinc (v := (z7 + 1)) (lv' := [(5, .int (z7 + 1)), (0, .ref (gU G a1)), (3, .int a4), (4, .int x4)]) hx hb d_StringLatin1_indexOfChar_25 hl (k := 3) rfl rfl (by decide) rfl (fun ls hl => ?_)
          refine lv_goto (tgt := 7) hx hb d_StringLatin1_indexOfChar_28 (by decide) ?_
          exact ih_7 (z7 + 1)  hf _ _ _ hP hD hS (lv_sub hl [1, 2, 3, 0] rfl)
        · have hf := ip_ c_19 hf
          refine lv_iload hx hb d_StringLatin1_indexOfChar_22 (lv_at hl 3 rfl) ?_
          obtain rfl := Option.some.inj hf
          rw [← hQ]
          exact W.iret (v := z7) hx hb hr (fun t9 ht hW => ⟨⟨z7, (), rfl, rfl, ⟨by rw [ht]; exact hP, hD⟩⟩, hS.F ht⟩) hS.2.2 d_StringLatin1_indexOfChar_24
  unfold f_StringLatin1_indexOfChar at hf
  refine lv_iload_n hx hb d_StringLatin1_indexOfChar_0 rfl (lv_at hl 1 rfl) ?_
  refine lv_i2b (v := a2.toInt8.toInt32) hx hb d_StringLatin1_indexOfChar_1 rfl ?_
  refine lv_istore (lv' := [(4, .int a2.toInt8.toInt32), (0, .ref (gU G a1)), (1, .int a2), (2, .int a3), (3, .int a4)]) hx hb d_StringLatin1_indexOfChar_2 hl (by decide) rfl (fun ls hl => ?_)
  refine lv_iload_n hx hb d_StringLatin1_indexOfChar_4 rfl (lv_at hl 3 rfl) ?_
  refine lv_istore (lv' := [(5, .int a3), (4, .int a2.toInt8.toInt32), (0, .ref (gU G a1)), (1, .int a2), (2, .int a3), (3, .int a4)]) hx hb d_StringLatin1_indexOfChar_5 hl (by decide) rfl (fun ls hl => ?_)
  exact W_7 a2.toInt8.toInt32  K a3  hf _ _ _ hP hD hS (lv_sub hl [2, 5, 1, 0] rfl)
theorem d_StringLatin1_indexOf_0 : decode cd_StringLatin1_indexOf 0 = .ok (.iload_n 1, 1) := by decide +kernel
theorem d_StringLatin1_indexOf_1 : decode cd_StringLatin1_indexOf 1 = .ok (.invokestatic 88, 3) := by decide +kernel
theorem d_StringLatin1_indexOf_4 : decode cd_StringLatin1_indexOf 4 = .ok (.ifCond .ne 5, 3) := by decide +kernel
theorem d_StringLatin1_indexOf_7 : decode cd_StringLatin1_indexOf 7 = .ok (.iconst (-1), 1) := by decide +kernel
theorem d_StringLatin1_indexOf_8 : decode cd_StringLatin1_indexOf 8 = .ok (.ireturn, 1) := by decide +kernel
theorem d_StringLatin1_indexOf_9 : decode cd_StringLatin1_indexOf 9 = .ok (.iload_n 2, 1) := by decide +kernel
theorem d_StringLatin1_indexOf_10 : decode cd_StringLatin1_indexOf 10 = .ok (.iconst 0, 1) := by decide +kernel
theorem d_StringLatin1_indexOf_11 : decode cd_StringLatin1_indexOf 11 = .ok (.invokestatic 92, 3) := by decide +kernel
theorem d_StringLatin1_indexOf_14 : decode cd_StringLatin1_indexOf 14 = .ok (.istore_n 2, 1) := by decide +kernel
theorem d_StringLatin1_indexOf_15 : decode cd_StringLatin1_indexOf 15 = .ok (.iload_n 3, 1) := by decide +kernel
theorem d_StringLatin1_indexOf_16 : decode cd_StringLatin1_indexOf 16 = .ok (.aload_n 0, 1) := by decide +kernel
theorem d_StringLatin1_indexOf_17 : decode cd_StringLatin1_indexOf 17 = .ok (.arraylength, 1) := by decide +kernel
theorem d_StringLatin1_indexOf_18 : decode cd_StringLatin1_indexOf 18 = .ok (.invokestatic 38, 3) := by decide +kernel
theorem d_StringLatin1_indexOf_21 : decode cd_StringLatin1_indexOf 21 = .ok (.istore_n 3, 1) := by decide +kernel
theorem d_StringLatin1_indexOf_22 : decode cd_StringLatin1_indexOf 22 = .ok (.iload_n 2, 1) := by decide +kernel
theorem d_StringLatin1_indexOf_23 : decode cd_StringLatin1_indexOf 23 = .ok (.iload_n 3, 1) := by decide +kernel
theorem d_StringLatin1_indexOf_24 : decode cd_StringLatin1_indexOf 24 = .ok (.if_icmp .lt 5, 3) := by decide +kernel
theorem d_StringLatin1_indexOf_27 : decode cd_StringLatin1_indexOf 27 = .ok (.iconst (-1), 1) := by decide +kernel
theorem d_StringLatin1_indexOf_28 : decode cd_StringLatin1_indexOf 28 = .ok (.ireturn, 1) := by decide +kernel
theorem d_StringLatin1_indexOf_29 : decode cd_StringLatin1_indexOf 29 = .ok (.aload_n 0, 1) := by decide +kernel
theorem d_StringLatin1_indexOf_30 : decode cd_StringLatin1_indexOf 30 = .ok (.iload_n 1, 1) := by decide +kernel
theorem d_StringLatin1_indexOf_31 : decode cd_StringLatin1_indexOf 31 = .ok (.iload_n 2, 1) := by decide +kernel
theorem d_StringLatin1_indexOf_32 : decode cd_StringLatin1_indexOf 32 = .ok (.iload_n 3, 1) := by decide +kernel
theorem d_StringLatin1_indexOf_33 : decode cd_StringLatin1_indexOf 33 = .ok (.invokestatic 95, 3) := by decide +kernel
theorem d_StringLatin1_indexOf_36 : decode cd_StringLatin1_indexOf 36 = .ok (.ireturn, 1) := by decide +kernel
theorem m_5 : Cond.methodLink R_StringLatin1 88 y_StringLatin1_canEncode ∈ gw := gm (i := 493) (by decide +kernel) (by decide +kernel)
theorem m_6 : Cond.static y_StringLatin1_canEncode ∈ gw := gm (i := 494) (by decide +kernel) (by decide +kernel)
theorem m_7 : Cond.initialized R_StringLatin1 ∈ gw := gm (i := 95) (by decide +kernel) (by decide +kernel)
set_option maxRecDepth 100000 in
theorem m_8 : Cond.code y_StringLatin1_canEncode cd_StringLatin1_canEncode 1 (some .boolean) ∈ gw := gm (i := 495) rfl rfl
theorem m_9 : Cond.methodLink R_StringLatin1 92 Lib.Math.max.name ∈ gw := gm (i := 496) (by decide +kernel) (by decide +kernel)
theorem m_10 : Cond.static Lib.Math.max.name ∈ gw := gm (i := 115) (by decide +kernel) (by decide +kernel)
theorem m_11 : Cond.initialized "java/lang/Math" ∈ gw := gm (i := 84) (by decide +kernel) (by decide +kernel)
set_option maxRecDepth 100000 in
theorem m_12 : Cond.code Lib.Math.max.name Lib.Math.max.code 2 (some .int) ∈ gw := gm (i := 116) rfl rfl
theorem m_13 : Cond.methodLink R_StringLatin1 38 Lib.Math.min.name ∈ gw := gm (i := 497) (by decide +kernel) (by decide +kernel)
theorem m_14 : Cond.static Lib.Math.min.name ∈ gw := gm (i := 442) (by decide +kernel) (by decide +kernel)
set_option maxRecDepth 100000 in
theorem m_15 : Cond.code Lib.Math.min.name Lib.Math.min.code 2 (some .int) ∈ gw := gm (i := 443) rfl rfl
theorem m_16 : Cond.methodLink R_StringLatin1 95 y_StringLatin1_indexOfChar ∈ gw := gm (i := 498) (by decide +kernel) (by decide +kernel)
theorem m_17 : Cond.static y_StringLatin1_indexOfChar ∈ gw := gm (i := 499) (by decide +kernel) (by decide +kernel)
set_option maxRecDepth 100000 in
theorem m_18 : Cond.code y_StringLatin1_indexOfChar cd_StringLatin1_indexOfChar 6 (some .int) ∈ gw := gm (i := 500) rfl rfl
def f_StringLatin1_indexOf (K : Nat) (a1 : Nat) (a2 : Int32) (a3 : Int32) (a4 : Int32) : Option Int32 :=
  ((f_StringLatin1_canEncode a2).bind fun u_1 => (if u_1 = 0 then some (-1 : Int32) else (if (if a3 < (0 : Int32) then (0 : Int32) else a3) < (if (nI (sLen.getD a1 0)) < a4 then (nI (sLen.getD a1 0)) else a4) then ((f_StringLatin1_indexOfChar K a1 a2 (if a3 < (0 : Int32) then (0 : Int32) else a3) (if (nI (sLen.getD a1 0)) < a4 then (nI (sLen.getD a1 0)) else a4)).bind fun u_33 => some u_33) else some (-1 : Int32))))
set_option maxHeartbeats 4000000 in
set_option maxRecDepth 100000 in
theorem c_StringLatin1_indexOf (l : Launch) (G : Gt) (K : Nat) (a1 : Nat) (a2 : Int32) (a3 : Int32) (a4 : Int32) (sz : Nat) (res : Int32)  (hr_a1 : a1 < nS) (hf : f_StringLatin1_indexOf K a1 a2 a3 a4 = some res) : Met l y_StringLatin1_indexOf (.code y_StringLatin1_indexOf cd_StringLatin1_indexOf 4 (some .int) :: gw) { frames := 1, cells := 0, slots := 0, locals := 40 } (PC G ([.ref (gU G a1), .int a2, .int a3, .int a4] : List Value) sz (w_Preconditions_checkIndexn G )) (QI G res (va_A (w_Preconditions_checkIndexn G ) sz) (w_Preconditions_checkIndexn G )) 0 0 (va_A (w_Preconditions_checkIndexn G ) sz) := by
  refine Met.ofW (cc := cd_StringLatin1_indexOf) (maxL := 4) (ret := (some .int)) (by decide) rfl ?_
  intro p e s m args below meth c s₁ B hml hv
  obtain ⟨rfl, hsz, hP, hE, hD0⟩ := hv
  have hx := B.exec
  have hb := B.bytes
  have hr := B.returns
  have hts := atoms_spec (ws := (.code y_StringLatin1_indexOf cd_StringLatin1_indexOf 4 (some .int) :: gw)) B.pre
  have hg : ∀ w ∈ gw, w.before _ s = true := fun w h => hts w (List.mem_cons_of_mem _ h)
  have hown : s.vm.findClass R_StringLatin1 = some m.cls := findClass_of_methodNamed B.named
  have hlocks := B.notSynchronized
  subst hsz
  have hK := hE.K
  have hD := hD0.self (sz := s.heap.size)
  have hAb := hE.ab hD0
  obtain ⟨Q, hQ⟩ : ∃ Q, MQ below (QI G res (va_A (w_Preconditions_checkIndexn G ) s.heap.size) (w_Preconditions_checkIndexn G )) ([.ref (gU G a1), .int a2, .int a3, .int a4] : List Value).toArray s 0 0 (va_A (w_Preconditions_checkIndexn G ) s.heap.size) = Q := ⟨_, rfl⟩
  show W p l e { frames := 1, cells := 0, slots := 0, locals := 40 } s m ([.ref (gU G a1), .int a2, .int a3, .int a4] : List Value).toArray below meth c s.heap [] 0 0 (MQ below (QI G res (va_A (w_Preconditions_checkIndexn G ) s.heap.size) (w_Preconditions_checkIndexn G )) ([.ref (gU G a1), .int a2, .int a3, .int a4] : List Value).toArray s 0 0 (va_A (w_Preconditions_checkIndexn G ) s.heap.size)) _
  rw [hQ]
  have hA : ∀ q : Nat, s.heap.size ≤ q → va_A (w_Preconditions_checkIndexn G ) s.heap.size q := fun q h => Or.inr h
  obtain ⟨A, hAe⟩ : ∃ A, va_A (w_Preconditions_checkIndexn G ) s.heap.size = A := ⟨_, rfl⟩
  rw [hAe] at hA hD hAb hQ
  have hS : va_S A s.heap s.heap [] := va_S.rf
  have hl := lv_entry (([.ref (gU G a1), .int a2, .int a3, .int a4] : List Value)) (n := 4) (Nat.le_of_ble_eq_true rfl)
  rw [lg_entry_eq]
  generalize (lg_sl (([.ref (gU G a1), .int a2, .int a3, .int a4] : List Value)) ++ List.replicate (4 - (lg_sl (([.ref (gU G a1), .int a2, .int a3, .int a4] : List Value))).length) Slot.unset).toArray = ls at hl ⊢
  have hl : lv_has ls 4 [(0, .ref (gU G a1)), (1, .int a2), (2, .int a3), (3, .int a4)] := hl
  unfold f_StringLatin1_indexOf at hf
  refine lv_iload_n hx hb d_StringLatin1_indexOf_0 rfl (lv_at hl 1 rfl) ?_
  obtain ⟨u_1, hu_1, hf⟩ := bd_ hf
  refine CALLWz (va_runS (As := [.int a2]) (rest := []) ⟨hx, hb, hml, hown, hg⟩ (c_StringLatin1_canEncode l G K a2 _ u_1  hu_1) (va_cwS 1 hg (gS m_5 m_6 m_7 m_8) rfl rfl rfl (by decide +kernel) ⟨Nat.le_of_ble_eq_true rfl, Nat.le_of_ble_eq_true rfl⟩) ⟨PC_b, PC_p hE hS hAb hP hD⟩ rfl rfl hl.1 rfl (lv_room (Nat.le_of_ble_eq_true rfl)) d_StringLatin1_indexOf_1 ⟨Nat.zero_le _, Nat.zero_le _⟩) hP hD hS hA (fun bu_1 H locs hP hD hS => ?_)
  have hP : va_P (gD G) vwCl (w_Preconditions_checkIndexn G ) H := hP
  have hD : va_D A (w_Preconditions_checkIndexn G ) := hD
  refine lv_if_ne (tgt := 9) hx hb d_StringLatin1_indexOf_4 (by decide) (fun c_4 => ?_) (fun c_4 => ?_)
  · have hf := in_ c_4 hf
    refine lv_iload_n hx hb d_StringLatin1_indexOf_9 rfl (lv_at hl 2 rfl) ?_
    refine lv_iconst (v := 0) hx hb d_StringLatin1_indexOf_10 (by decide) ?_
    refine va_mmax hx hb (hml.trans hl.1.symm) hown (hg _ m_9) (hg _ m_10) (hg _ m_11) (hg _ m_12) (Nat.le_of_ble_eq_true rfl) (Nat.le_of_ble_eq_true rfl) (Nat.zero_le _) (Nat.zero_le _) d_StringLatin1_indexOf_11 ?_
    refine lv_istore_n (lv' := [(2, .int (if a3 < (0 : Int32) then (0 : Int32) else a3)), (0, .ref (gU G a1)), (1, .int a2), (3, .int a4)]) hx hb d_StringLatin1_indexOf_14 rfl hl (by decide) rfl (fun ls hl => ?_)
    refine lv_iload_n hx hb d_StringLatin1_indexOf_15 rfl (lv_at hl 3 rfl) ?_
    refine lv_aload_n hx hb d_StringLatin1_indexOf_16 rfl (lv_at hl 1 rfl) ?_
    refine va_tlen hx hb ((hE.vs hAb).1 a1 hr_a1).2.2.2 hS (v := nI (sLen.getD a1 0)) rfl d_StringLatin1_indexOf_17 ?_
    refine va_mmin hx hb (hml.trans hl.1.symm) hown (hg _ m_13) (hg _ m_14) (hg _ m_11) (hg _ m_15) (Nat.le_of_ble_eq_true rfl) (Nat.le_of_ble_eq_true rfl) (Nat.zero_le _) (Nat.zero_le _) d_StringLatin1_indexOf_18 ?_
    refine lv_istore_n (lv' := [(3, .int (if (nI (sLen.getD a1 0)) < a4 then (nI (sLen.getD a1 0)) else a4)), (2, .int (if a3 < (0 : Int32) then (0 : Int32) else a3)), (0, .ref (gU G a1)), (1, .int a2)]) hx hb d_StringLatin1_indexOf_21 rfl hl (by decide) rfl (fun ls hl => ?_)
    refine lv_iload_n hx hb d_StringLatin1_indexOf_22 rfl (lv_at hl 1 rfl) ?_
    refine lv_iload_n hx hb d_StringLatin1_indexOf_23 rfl (lv_at hl 0 rfl) ?_
    refine lv_icmp_lt (tgt := 29) hx hb d_StringLatin1_indexOf_24 (by decide) (fun c_24 => ?_) (fun c_24 => ?_)
    · have hf := ip_ c_24 hf
      refine lv_aload_n hx hb d_StringLatin1_indexOf_29 rfl (lv_at hl 2 rfl) ?_
      refine lv_iload_n hx hb d_StringLatin1_indexOf_30 rfl (lv_at hl 3 rfl) ?_
      refine lv_iload_n hx hb d_StringLatin1_indexOf_31 rfl (lv_at hl 1 rfl) ?_
      refine lv_iload_n hx hb d_StringLatin1_indexOf_32 rfl (lv_at hl 0 rfl) ?_
      obtain ⟨u_33, hu_33, hf⟩ := bd_ hf
      refine CALLWi (va_runS (As := [.ref (gU G a1), .int a2, .int (if a3 < (0 : Int32) then (0 : Int32) else a3), .int (if (nI (sLen.getD a1 0)) < a4 then (nI (sLen.getD a1 0)) else a4)]) (rest := []) ⟨hx, hb, hml, hown, hg⟩ (c_StringLatin1_indexOfChar l G K a1 a2 (if a3 < (0 : Int32) then (0 : Int32) else a3) (if (nI (sLen.getD a1 0)) < a4 then (nI (sLen.getD a1 0)) else a4) _ u_33 hr_a1 hu_33) (va_cwS 4 hg (gS m_16 m_17 m_7 m_18) rfl rfl rfl (by decide +kernel) ⟨Nat.le_of_ble_eq_true rfl, Nat.le_of_ble_eq_true rfl⟩) ⟨PC_b, PC_p hE hS hAb hP hD⟩ rfl rfl hl.1 rfl (lv_room (Nat.le_of_ble_eq_true rfl)) d_StringLatin1_indexOf_33 ⟨Nat.zero_le _, Nat.zero_le _⟩) hP hD hS hA (fun H locs hP hD hS => ?_)
      have hP : va_P (gD G) vwCl (w_Preconditions_checkIndexn G ) H := hP
      have hD : va_D A (w_Preconditions_checkIndexn G ) := hD
      obtain rfl := Option.some.inj hf
      rw [← hQ]
      exact W.iret (v := u_33) hx hb hr (fun t9 ht hW => ⟨⟨u_33, (), rfl, rfl, ⟨by rw [ht]; exact hP, hD⟩⟩, hS.F ht⟩) hS.2.2 d_StringLatin1_indexOf_36
    · have hf := in_ c_24 hf
      refine lv_iconst (v := -1) hx hb d_StringLatin1_indexOf_27 (by decide) ?_
      obtain rfl := Option.some.inj hf
      rw [← hQ]
      exact W.iret (v := (-1 : Int32)) hx hb hr (fun t9 ht hW => ⟨⟨(-1 : Int32), (), rfl, rfl, ⟨by rw [ht]; exact hP, hD⟩⟩, hS.F ht⟩) hS.2.2 d_StringLatin1_indexOf_28
  · have hf := ip_ c_4 hf
    refine lv_iconst (v := -1) hx hb d_StringLatin1_indexOf_7 (by decide) ?_
    obtain rfl := Option.some.inj hf
    rw [← hQ]
    exact W.iret (v := (-1 : Int32)) hx hb hr (fun t9 ht hW => ⟨⟨(-1 : Int32), (), rfl, rfl, ⟨by rw [ht]; exact hP, hD⟩⟩, hS.F ht⟩) hS.2.2 d_StringLatin1_indexOf_8
theorem d_StringLatin1_charAt_0 : decode cd_StringLatin1_charAt 0 = .ok (.iload_n 1, 1) := by decide +kernel
theorem d_StringLatin1_charAt_1 : decode cd_StringLatin1_charAt 1 = .ok (.aload_n 0, 1) := by decide +kernel
theorem d_StringLatin1_charAt_2 : decode cd_StringLatin1_charAt 2 = .ok (.arraylength, 1) := by decide +kernel
theorem d_StringLatin1_charAt_3 : decode cd_StringLatin1_charAt 3 = .ok (.invokestatic 9, 3) := by decide +kernel
theorem d_StringLatin1_charAt_6 : decode cd_StringLatin1_charAt 6 = .ok (.aload_n 0, 1) := by decide +kernel
theorem d_StringLatin1_charAt_7 : decode cd_StringLatin1_charAt 7 = .ok (.iload_n 1, 1) := by decide +kernel
theorem d_StringLatin1_charAt_8 : decode cd_StringLatin1_charAt 8 = .ok (.baload, 1) := by decide +kernel
theorem d_StringLatin1_charAt_9 : decode cd_StringLatin1_charAt 9 = .ok (.sipush 255, 3) := by decide +kernel
theorem d_StringLatin1_charAt_12 : decode cd_StringLatin1_charAt 12 = .ok (.iand, 1) := by decide +kernel
theorem d_StringLatin1_charAt_13 : decode cd_StringLatin1_charAt 13 = .ok (.i2c, 1) := by decide +kernel
theorem d_StringLatin1_charAt_14 : decode cd_StringLatin1_charAt 14 = .ok (.ireturn, 1) := by decide +kernel
theorem m_19 : Cond.methodLink R_StringLatin1 9 y_String_checkIndex ∈ gw := gm (i := 645) (by decide +kernel) (by decide +kernel)
theorem m_20 : Cond.static y_String_checkIndex ∈ gw := gm (i := 646) (by decide +kernel) (by decide +kernel)
theorem m_21 : Cond.initialized R_String ∈ gw := gm (i := 94) (by decide +kernel) (by decide +kernel)
set_option maxRecDepth 100000 in
theorem m_22 : Cond.code y_String_checkIndex cd_String_checkIndex 2 none ∈ gw := gm (i := 647) rfl rfl
def f_StringLatin1_charAt (a1 : Nat) (a2 : Int32) : Option Int32 :=
  ((f_String_checkIndex a2 (nI (sLen.getD a1 0))).bind fun u_3 => (if inB a2 (sLen.getD a1 0) = true then some (((((sByt.getD a1 []).getD a2.toNatClampNeg 0) &&& (255 : Int32)).toUInt32 % 65536).toInt32) else none))
set_option maxHeartbeats 4000000 in
set_option maxRecDepth 100000 in
theorem c_StringLatin1_charAt (l : Launch) (G : Gt) (K : Nat) (a1 : Nat) (a2 : Int32) (sz : Nat) (res : Int32)  (hr_a1 : a1 < nS) (hf : f_StringLatin1_charAt a1 a2 = some res) : Met l y_StringLatin1_charAt (.code y_StringLatin1_charAt cd_StringLatin1_charAt 2 (some .char) :: gw) { frames := 2, cells := 0, slots := 0, locals := 80 } (PC G ([.ref (gU G a1), .int a2] : List Value) sz (w_Preconditions_checkIndexn G )) (QI G res (va_A (w_Preconditions_checkIndexn G ) sz) (w_Preconditions_checkIndexn G )) 0 0 (va_A (w_Preconditions_checkIndexn G ) sz) := by
  refine Met.ofW (cc := cd_StringLatin1_charAt) (maxL := 2) (ret := (some .char)) (by decide) rfl ?_
  intro p e s m args below meth c s₁ B hml hv
  obtain ⟨rfl, hsz, hP, hE, hD0⟩ := hv
  have hx := B.exec
  have hb := B.bytes
  have hr := B.returns
  have hts := atoms_spec (ws := (.code y_StringLatin1_charAt cd_StringLatin1_charAt 2 (some .char) :: gw)) B.pre
  have hg : ∀ w ∈ gw, w.before _ s = true := fun w h => hts w (List.mem_cons_of_mem _ h)
  have hown : s.vm.findClass R_StringLatin1 = some m.cls := findClass_of_methodNamed B.named
  have hlocks := B.notSynchronized
  subst hsz
  have hK := hE.K
  have hD := hD0.self (sz := s.heap.size)
  have hAb := hE.ab hD0
  obtain ⟨Q, hQ⟩ : ∃ Q, MQ below (QI G res (va_A (w_Preconditions_checkIndexn G ) s.heap.size) (w_Preconditions_checkIndexn G )) ([.ref (gU G a1), .int a2] : List Value).toArray s 0 0 (va_A (w_Preconditions_checkIndexn G ) s.heap.size) = Q := ⟨_, rfl⟩
  show W p l e { frames := 2, cells := 0, slots := 0, locals := 80 } s m ([.ref (gU G a1), .int a2] : List Value).toArray below meth c s.heap [] 0 0 (MQ below (QI G res (va_A (w_Preconditions_checkIndexn G ) s.heap.size) (w_Preconditions_checkIndexn G )) ([.ref (gU G a1), .int a2] : List Value).toArray s 0 0 (va_A (w_Preconditions_checkIndexn G ) s.heap.size)) _
  rw [hQ]
  have hA : ∀ q : Nat, s.heap.size ≤ q → va_A (w_Preconditions_checkIndexn G ) s.heap.size q := fun q h => Or.inr h
  obtain ⟨A, hAe⟩ : ∃ A, va_A (w_Preconditions_checkIndexn G ) s.heap.size = A := ⟨_, rfl⟩
  rw [hAe] at hA hD hAb hQ
  have hS : va_S A s.heap s.heap [] := va_S.rf
  have hl := lv_entry (([.ref (gU G a1), .int a2] : List Value)) (n := 2) (Nat.le_of_ble_eq_true rfl)
  rw [lg_entry_eq]
  generalize (lg_sl (([.ref (gU G a1), .int a2] : List Value)) ++ List.replicate (2 - (lg_sl (([.ref (gU G a1), .int a2] : List Value))).length) Slot.unset).toArray = ls at hl ⊢
  have hl : lv_has ls 2 [(0, .ref (gU G a1)), (1, .int a2)] := hl
  unfold f_StringLatin1_charAt at hf
  refine lv_iload_n hx hb d_StringLatin1_charAt_0 rfl (lv_at hl 1 rfl) ?_
  refine lv_aload_n hx hb d_StringLatin1_charAt_1 rfl (lv_at hl 0 rfl) ?_
  refine va_tlen hx hb ((hE.vs hAb).1 a1 hr_a1).2.2.2 hS (v := nI (sLen.getD a1 0)) rfl d_StringLatin1_charAt_2 ?_
  obtain ⟨u_3, hu_3, hf⟩ := bd_ hf
  refine CALLWv (va_runS (As := [.int a2, .int (nI (sLen.getD a1 0))]) (rest := []) ⟨hx, hb, hml, hown, hg⟩ (c_String_checkIndex l G K a2 (nI (sLen.getD a1 0)) _ u_3  hu_3) (va_cwS 2 hg (gS m_19 m_20 m_21 m_22) rfl rfl rfl (by decide +kernel) ⟨Nat.le_of_ble_eq_true rfl, Nat.le_of_ble_eq_true rfl⟩) ⟨PC_b, PC_p hE hS hAb hP hD⟩ rfl rfl hl.1 rfl (lv_room (Nat.le_of_ble_eq_true rfl)) d_StringLatin1_charAt_3 ⟨Nat.zero_le _, Nat.zero_le _⟩) hP hD hS hA (fun H locs hP hD hS => ?_)
  have hP : va_P (gD G) vwCl (w_Preconditions_checkIndexn G ) H := hP
  have hD : va_D A (w_Preconditions_checkIndexn G ) := hD
  refine lv_aload_n hx hb d_StringLatin1_charAt_6 rfl (lv_at hl 0 rfl) ?_
  refine lv_iload_n hx hb d_StringLatin1_charAt_7 rfl (lv_at hl 1 rfl) ?_
  obtain ⟨g_8, hf⟩ := gd_ hf
  refine va_tb hx hb ((hE.vs hAb).1 a1 hr_a1).2.2.2 hS (inB_in g_8) (v := .int ((sByt.getD a1 []).getD a2.toNatClampNeg 0)) rfl d_StringLatin1_charAt_8 ?_
  refine lv_sipush (v := 255) hx hb d_StringLatin1_charAt_9 (by decide) ?_
  refine lv_iand hx hb d_StringLatin1_charAt_12 ?_
  refine lv_i2c (v := ((((sByt.getD a1 []).getD a2.toNatClampNeg 0) &&& (255 : Int32)).toUInt32 % 65536).toInt32) hx hb d_StringLatin1_charAt_13 rfl ?_
  obtain rfl := Option.some.inj hf
  rw [← hQ]
  exact W.zret (v := ((((sByt.getD a1 []).getD a2.toNatClampNeg 0) &&& (255 : Int32)).toUInt32 % 65536).toInt32) hx hb hr (pk_nc _) (fun t9 ht hW => ⟨⟨((((sByt.getD a1 []).getD a2.toNatClampNeg 0) &&& (255 : Int32)).toUInt32 % 65536).toInt32, (), rfl, rfl, ⟨by rw [ht]; exact hP, hD⟩⟩, hS.F ht⟩) hS.2.2 d_StringLatin1_charAt_14
theorem d_String_coder_0 : decode cd_String_coder 0 = .ok (.getstatic 38, 3) := by decide +kernel
theorem d_String_coder_3 : decode cd_String_coder 3 = .ok (.ifCond .eq 10, 3) := by decide +kernel
theorem d_String_coder_6 : decode cd_String_coder 6 = .ok (.aload_n 0, 1) := by decide +kernel
theorem d_String_coder_7 : decode cd_String_coder 7 = .ok (.getfield 15, 3) := by decide +kernel
theorem d_String_coder_10 : decode cd_String_coder 10 = .ok (.goto 4, 3) := by decide +kernel
theorem d_String_coder_13 : decode cd_String_coder 13 = .ok (.iconst 1, 1) := by decide +kernel
theorem d_String_coder_14 : decode cd_String_coder 14 = .ok (.ireturn, 1) := by decide +kernel
theorem m_23 : Cond.fieldLink R_String 38 "java/lang/String" "COMPACT_STRINGS" "Z" ∈ gw := gm (i := 480) (by decide +kernel) (by decide +kernel)
theorem m_24 : Cond.fieldLink R_String 15 "java/lang/String" "coder" "B" ∈ gw := gm (i := 1206) (by decide +kernel) (by decide +kernel)
def f_String_coder  : Option Int32 :=
  some (0 : Int32)
set_option maxHeartbeats 4000000 in
set_option maxRecDepth 100000 in
theorem c_String_coder (l : Launch) (G : Gt) (K : Nat) (t : Nat) (sz : Nat) (res : Int32)  (hr_t : t < nS) (hf : f_String_coder  = some res) : Met l y_String_coder (.code y_String_coder cd_String_coder 1 (some .byte) :: gw) { frames := 0, cells := 0, slots := 0, locals := 0 } (PC G ([.ref (gT G t)] : List Value) sz (w_Preconditions_checkIndexn G )) (QI G res (va_A (w_Preconditions_checkIndexn G ) sz) (w_Preconditions_checkIndexn G )) 0 0 (va_A (w_Preconditions_checkIndexn G ) sz) := by
  refine Met.ofW (cc := cd_String_coder) (maxL := 1) (ret := (some .byte)) (by decide) rfl ?_
  intro p e s m args below meth c s₁ B hml hv
  obtain ⟨rfl, hsz, hP, hE, hD0⟩ := hv
  have hx := B.exec
  have hb := B.bytes
  have hr := B.returns
  have hts := atoms_spec (ws := (.code y_String_coder cd_String_coder 1 (some .byte) :: gw)) B.pre
  have hg : ∀ w ∈ gw, w.before _ s = true := fun w h => hts w (List.mem_cons_of_mem _ h)
  have hown : s.vm.findClass R_String = some m.cls := findClass_of_methodNamed B.named
  have hlocks := B.notSynchronized
  subst hsz
  have hK := hE.K
  have hD := hD0.self (sz := s.heap.size)
  have hAb := hE.ab hD0
  obtain ⟨Q, hQ⟩ : ∃ Q, MQ below (QI G res (va_A (w_Preconditions_checkIndexn G ) s.heap.size) (w_Preconditions_checkIndexn G )) ([.ref (gT G t)] : List Value).toArray s 0 0 (va_A (w_Preconditions_checkIndexn G ) s.heap.size) = Q := ⟨_, rfl⟩
  show W p l e { frames := 0, cells := 0, slots := 0, locals := 0 } s m ([.ref (gT G t)] : List Value).toArray below meth c s.heap [] 0 0 (MQ below (QI G res (va_A (w_Preconditions_checkIndexn G ) s.heap.size) (w_Preconditions_checkIndexn G )) ([.ref (gT G t)] : List Value).toArray s 0 0 (va_A (w_Preconditions_checkIndexn G ) s.heap.size)) _
  rw [hQ]
  have hA : ∀ q : Nat, s.heap.size ≤ q → va_A (w_Preconditions_checkIndexn G ) s.heap.size q := fun q h => Or.inr h
  obtain ⟨A, hAe⟩ : ∃ A, va_A (w_Preconditions_checkIndexn G ) s.heap.size = A := ⟨_, rfl⟩
  rw [hAe] at hA hD hAb hQ
  have hS : va_S A s.heap s.heap [] := va_S.rf
  have hl := lv_entry (([.ref (gT G t)] : List Value)) (n := 1) (Nat.le_of_ble_eq_true rfl)
  rw [lg_entry_eq]
  generalize (lg_sl (([.ref (gT G t)] : List Value)) ++ List.replicate (1 - (lg_sl (([.ref (gT G t)] : List Value))).length) Slot.unset).toArray = ls at hl ⊢
  have hl : lv_has ls 1 [(0, .ref (gT G t))] := hl
  unfold f_String_coder at hf
  refine va_gets hx hb (hE.cs hAb) hS hown (hg _ m_23) (fun _ h9 => h9) d_String_coder_0 ?_
  refine lv_if_eq (tgt := 13) hx hb d_String_coder_3 (by decide) (fun c_3 => absurd c_3 (by decide)) (fun _ => ?_)
  refine lv_aload_n hx hb d_String_coder_6 rfl (lv_at hl 0 rfl) ?_
  refine vk_getf hx hb ((hE.vs hAb).1 t hr_t).2.1 hS hown (hg _ m_24) (fun _ h9 => h9) d_String_coder_7 ?_
  refine lv_goto (tgt := 14) hx hb d_String_coder_10 (by decide) ?_
  obtain rfl := Option.some.inj hf
  rw [← hQ]
  exact W.zret (v := (0 : Int32)) hx hb hr rfl (fun t9 ht hW => ⟨⟨(0 : Int32), (), rfl, rfl, ⟨by rw [ht]; exact hP, hD⟩⟩, hS.F ht⟩) hS.2.2 d_String_coder_14
theorem d_String_isLatin1_0 : decode cd_String_isLatin1 0 = .ok (.getstatic 38, 3) := by decide +kernel
theorem d_String_isLatin1_3 : decode cd_String_isLatin1 3 = .ok (.ifCond .eq 14, 3) := by decide +kernel
theorem d_String_isLatin1_6 : decode cd_String_isLatin1 6 = .ok (.aload_n 0, 1) := by decide +kernel
theorem d_String_isLatin1_7 : decode cd_String_isLatin1 7 = .ok (.getfield 15, 3) := by decide +kernel
theorem d_String_isLatin1_10 : decode cd_String_isLatin1 10 = .ok (.ifCond .ne 7, 3) := by decide +kernel
theorem d_String_isLatin1_13 : decode cd_String_isLatin1 13 = .ok (.iconst 1, 1) := by decide +kernel
theorem d_String_isLatin1_14 : decode cd_String_isLatin1 14 = .ok (.goto 4, 3) := by decide +kernel
theorem d_String_isLatin1_17 : decode cd_String_isLatin1 17 = .ok (.iconst 0, 1) := by decide +kernel
theorem d_String_isLatin1_18 : decode cd_String_isLatin1 18 = .ok (.ireturn, 1) := by decide +kernel
def f_String_isLatin1  : Option Int32 :=
  some (1 : Int32)
set_option maxHeartbeats 4000000 in
set_option maxRecDepth 100000 in
theorem c_String_isLatin1 (l : Launch) (G : Gt) (K : Nat) (t : Nat) (sz : Nat) (res : Int32)  (hr_t : t < nS) (hf : f_String_isLatin1  = some res) : Met l y_String_isLatin1 (.code y_String_isLatin1 cd_String_isLatin1 1 (some .boolean) :: gw) { frames := 0, cells := 0, slots := 0, locals := 0 } (PC G ([.ref (gT G t)] : List Value) sz (w_Preconditions_checkIndexn G )) (QZ G res (va_A (w_Preconditions_checkIndexn G ) sz) (w_Preconditions_checkIndexn G )) 0 0 (va_A (w_Preconditions_checkIndexn G ) sz) := by
  refine Met.ofW (cc := cd_String_isLatin1) (maxL := 1) (ret := (some .boolean)) (by decide) rfl ?_
  intro p e s m args below meth c s₁ B hml hv
  obtain ⟨rfl, hsz, hP, hE, hD0⟩ := hv
  have hx := B.exec
  have hb := B.bytes
  have hr := B.returns
  have hts := atoms_spec (ws := (.code y_String_isLatin1 cd_String_isLatin1 1 (some .boolean) :: gw)) B.pre
  have hg : ∀ w ∈ gw, w.before _ s = true := fun w h => hts w (List.mem_cons_of_mem _ h)
  have hown : s.vm.findClass R_String = some m.cls := findClass_of_methodNamed B.named
  have hlocks := B.notSynchronized
  subst hsz
  have hK := hE.K
  have hD := hD0.self (sz := s.heap.size)
  have hAb := hE.ab hD0
  obtain ⟨Q, hQ⟩ : ∃ Q, MQ below (QZ G res (va_A (w_Preconditions_checkIndexn G ) s.heap.size) (w_Preconditions_checkIndexn G )) ([.ref (gT G t)] : List Value).toArray s 0 0 (va_A (w_Preconditions_checkIndexn G ) s.heap.size) = Q := ⟨_, rfl⟩
  show W p l e { frames := 0, cells := 0, slots := 0, locals := 0 } s m ([.ref (gT G t)] : List Value).toArray below meth c s.heap [] 0 0 (MQ below (QZ G res (va_A (w_Preconditions_checkIndexn G ) s.heap.size) (w_Preconditions_checkIndexn G )) ([.ref (gT G t)] : List Value).toArray s 0 0 (va_A (w_Preconditions_checkIndexn G ) s.heap.size)) _
  rw [hQ]
  have hA : ∀ q : Nat, s.heap.size ≤ q → va_A (w_Preconditions_checkIndexn G ) s.heap.size q := fun q h => Or.inr h
  obtain ⟨A, hAe⟩ : ∃ A, va_A (w_Preconditions_checkIndexn G ) s.heap.size = A := ⟨_, rfl⟩
  rw [hAe] at hA hD hAb hQ
  have hS : va_S A s.heap s.heap [] := va_S.rf
  have hl := lv_entry (([.ref (gT G t)] : List Value)) (n := 1) (Nat.le_of_ble_eq_true rfl)
  rw [lg_entry_eq]
  generalize (lg_sl (([.ref (gT G t)] : List Value)) ++ List.replicate (1 - (lg_sl (([.ref (gT G t)] : List Value))).length) Slot.unset).toArray = ls at hl ⊢
  have hl : lv_has ls 1 [(0, .ref (gT G t))] := hl
  unfold f_String_isLatin1 at hf
  refine va_gets hx hb (hE.cs hAb) hS hown (hg _ m_23) (fun _ h9 => h9) d_String_isLatin1_0 ?_
  refine lv_if_eq (tgt := 17) hx hb d_String_isLatin1_3 (by decide) (fun c_3 => absurd c_3 (by decide)) (fun _ => ?_)
  refine lv_aload_n hx hb d_String_isLatin1_6 rfl (lv_at hl 0 rfl) ?_
  refine vk_getf hx hb ((hE.vs hAb).1 t hr_t).2.1 hS hown (hg _ m_24) (fun _ h9 => h9) d_String_isLatin1_7 ?_
  refine lv_if_ne (tgt := 17) hx hb d_String_isLatin1_10 (by decide) (fun c_10 => absurd c_10 (by decide)) (fun _ => ?_)
  refine lv_iconst (v := 1) hx hb d_String_isLatin1_13 (by decide) ?_
  refine lv_goto (tgt := 18) hx hb d_String_isLatin1_14 (by decide) ?_
  obtain rfl := Option.some.inj hf
  rw [← hQ]
  exact W.zret (v := (1 : Int32)) hx hb hr (bl_n bl_1) (fun t9 ht hW => ⟨⟨(1 : Int32), (), rfl, ⟨rfl, bl_1⟩, ⟨by rw [ht]; exact hP, hD⟩⟩, hS.F ht⟩) hS.2.2 d_String_isLatin1_18
theorem d_String_length_0 : decode cd_String_length 0 = .ok (.aload_n 0, 1) := by decide +kernel
theorem d_String_length_1 : decode cd_String_length 1 = .ok (.getfield 9, 3) := by decide +kernel
theorem d_String_length_4 : decode cd_String_length 4 = .ok (.arraylength, 1) := by decide +kernel
theorem d_String_length_5 : decode cd_String_length 5 = .ok (.aload_n 0, 1) := by decide +kernel
theorem d_String_length_6 : decode cd_String_length 6 = .ok (.invokevirtual 335, 3) := by decide +kernel
theorem d_String_length_9 : decode cd_String_length 9 = .ok (.ishr, 1) := by decide +kernel
theorem d_String_length_10 : decode cd_String_length 10 = .ok (.ireturn, 1) := by decide +kernel
theorem m_25 : Cond.fieldLink R_String 9 "java/lang/String" "value" "[B" ∈ gw := gm (i := 1207) (by decide +kernel) (by decide +kernel)
theorem m_26 : Cond.methodLink R_String 335 y_String_coder ∈ gw := gm (i := 486) (by decide +kernel) (by decide +kernel)
theorem m_27 : Cond.instanceMethod y_String_coder ∈ gw := gm (i := 487) (by decide +kernel) (by decide +kernel)
theorem m_28 : Cond.selects R_String y_String_coder y_String_coder ∈ gw := gm (i := 488) (by decide +kernel) (by decide +kernel)
set_option maxRecDepth 100000 in
theorem m_29 : Cond.code y_String_coder cd_String_coder 1 (some .byte) ∈ gw := gm (i := 489) rfl rfl
def f_String_length (t : Nat) : Option Int32 :=
  some ((nI (sLen.getD t 0)) >>> ((0 : Int32) &&& 31))
set_option maxHeartbeats 4000000 in
set_option maxRecDepth 100000 in
theorem c_String_length (l : Launch) (G : Gt) (K : Nat) (t : Nat) (sz : Nat) (res : Int32)  (hr_t : t < nS) (hf : f_String_length t = some res) : Met l y_String_length (.code y_String_length cd_String_length 1 (some .int) :: gw) { frames := 1, cells := 0, slots := 0, locals := 40 } (PC G ([.ref (gT G t)] : List Value) sz (w_Preconditions_checkIndexn G )) (QI G res (va_A (w_Preconditions_checkIndexn G ) sz) (w_Preconditions_checkIndexn G )) 0 0 (va_A (w_Preconditions_checkIndexn G ) sz) := by
  refine Met.ofW (cc := cd_String_length) (maxL := 1) (ret := (some .int)) (by decide) rfl ?_
  intro p e s m args below meth c s₁ B hml hv
  obtain ⟨rfl, hsz, hP, hE, hD0⟩ := hv
  have hx := B.exec
  have hb := B.bytes
  have hr := B.returns
  have hts := atoms_spec (ws := (.code y_String_length cd_String_length 1 (some .int) :: gw)) B.pre
  have hg : ∀ w ∈ gw, w.before _ s = true := fun w h => hts w (List.mem_cons_of_mem _ h)
  have hown : s.vm.findClass R_String = some m.cls := findClass_of_methodNamed B.named
  have hlocks := B.notSynchronized
  subst hsz
  have hK := hE.K
  have hD := hD0.self (sz := s.heap.size)
  have hAb := hE.ab hD0
  obtain ⟨Q, hQ⟩ : ∃ Q, MQ below (QI G res (va_A (w_Preconditions_checkIndexn G ) s.heap.size) (w_Preconditions_checkIndexn G )) ([.ref (gT G t)] : List Value).toArray s 0 0 (va_A (w_Preconditions_checkIndexn G ) s.heap.size) = Q := ⟨_, rfl⟩
  show W p l e { frames := 1, cells := 0, slots := 0, locals := 40 } s m ([.ref (gT G t)] : List Value).toArray below meth c s.heap [] 0 0 (MQ below (QI G res (va_A (w_Preconditions_checkIndexn G ) s.heap.size) (w_Preconditions_checkIndexn G )) ([.ref (gT G t)] : List Value).toArray s 0 0 (va_A (w_Preconditions_checkIndexn G ) s.heap.size)) _
  rw [hQ]
  have hA : ∀ q : Nat, s.heap.size ≤ q → va_A (w_Preconditions_checkIndexn G ) s.heap.size q := fun q h => Or.inr h
  obtain ⟨A, hAe⟩ : ∃ A, va_A (w_Preconditions_checkIndexn G ) s.heap.size = A := ⟨_, rfl⟩
  rw [hAe] at hA hD hAb hQ
  have hS : va_S A s.heap s.heap [] := va_S.rf
  have hl := lv_entry (([.ref (gT G t)] : List Value)) (n := 1) (Nat.le_of_ble_eq_true rfl)
  rw [lg_entry_eq]
  generalize (lg_sl (([.ref (gT G t)] : List Value)) ++ List.replicate (1 - (lg_sl (([.ref (gT G t)] : List Value))).length) Slot.unset).toArray = ls at hl ⊢
  have hl : lv_has ls 1 [(0, .ref (gT G t))] := hl
  unfold f_String_length at hf
  refine lv_aload_n hx hb d_String_length_0 rfl (lv_at hl 0 rfl) ?_
  refine vk_getf hx hb ((hE.vs hAb).1 t hr_t).2.2.1 hS hown (hg _ m_25) (fun _ h9 => h9) d_String_length_1 ?_
  refine va_tlen hx hb ((hE.vs hAb).1 t hr_t).2.2.2 hS (v := nI (sLen.getD t 0)) rfl d_String_length_4 ?_
  refine lv_aload_n hx hb d_String_length_5 rfl (lv_at hl 0 rfl) ?_
  refine CALLWi (va_runV (As := []) (rest := [.int (nI (sLen.getD t 0))]) ⟨hx, hb, hml, hown, hg⟩ (c_String_coder l G K t _ (0 : Int32) hr_t rfl) (cwV 0 hg (gV m_26 m_27 m_28 m_21 m_29) rfl rfl rfl (by decide +kernel) ⟨Nat.le_of_ble_eq_true rfl, Nat.le_of_ble_eq_true rfl⟩) ⟨PC_b, vk_recv (hE.vs hAb) hr_t hS, PC_p hE hS hAb hP hD⟩ rfl rfl hl.1 rfl (lv_room (Nat.le_of_ble_eq_true rfl)) d_String_length_6 ⟨Nat.zero_le _, Nat.zero_le _⟩) hP hD hS hA (fun H locs hP hD hS => ?_)
  have hP : va_P (gD G) vwCl (w_Preconditions_checkIndexn G ) H := hP
  have hD : va_D A (w_Preconditions_checkIndexn G ) := hD
  refine lv_ishr hx hb d_String_length_9 ?_
  obtain rfl := Option.some.inj hf
  rw [← hQ]
  exact W.iret (v := ((nI (sLen.getD t 0)) >>> ((0 : Int32) &&& 31))) hx hb hr (fun t9 ht hW => ⟨⟨((nI (sLen.getD t 0)) >>> ((0 : Int32) &&& 31)), (), rfl, rfl, ⟨by rw [ht]; exact hP, hD⟩⟩, hS.F ht⟩) hS.2.2 d_String_length_10
theorem d_String_charAt_0 : decode cd_String_charAt 0 = .ok (.aload_n 0, 1) := by decide +kernel
theorem d_String_charAt_1 : decode cd_String_charAt 1 = .ok (.invokevirtual 492, 3) := by decide +kernel
theorem d_String_charAt_4 : decode cd_String_charAt 4 = .ok (.ifCond .eq 12, 3) := by decide +kernel
theorem d_String_charAt_7 : decode cd_String_charAt 7 = .ok (.aload_n 0, 1) := by decide +kernel
theorem d_String_charAt_8 : decode cd_String_charAt 8 = .ok (.getfield 9, 3) := by decide +kernel
theorem d_String_charAt_11 : decode cd_String_charAt 11 = .ok (.iload_n 1, 1) := by decide +kernel
theorem d_String_charAt_12 : decode cd_String_charAt 12 = .ok (.invokestatic 495, 3) := by decide +kernel
theorem d_String_charAt_15 : decode cd_String_charAt 15 = .ok (.ireturn, 1) := by decide +kernel
theorem d_String_charAt_16 : decode cd_String_charAt 16 = .ok (.aload_n 0, 1) := by decide +kernel
theorem d_String_charAt_17 : decode cd_String_charAt 17 = .ok (.getfield 9, 3) := by decide +kernel
theorem d_String_charAt_20 : decode cd_String_charAt 20 = .ok (.iload_n 1, 1) := by decide +kernel
theorem d_String_charAt_21 : decode cd_String_charAt 21 = .ok (.invokestatic 498, 3) := by decide +kernel
theorem d_String_charAt_24 : decode cd_String_charAt 24 = .ok (.ireturn, 1) := by decide +kernel
theorem m_30 : Cond.methodLink R_String 492 y_String_isLatin1 ∈ gw := gm (i := 476) (by decide +kernel) (by decide +kernel)
theorem m_31 : Cond.instanceMethod y_String_isLatin1 ∈ gw := gm (i := 477) (by decide +kernel) (by decide +kernel)
theorem m_32 : Cond.selects R_String y_String_isLatin1 y_String_isLatin1 ∈ gw := gm (i := 478) (by decide +kernel) (by decide +kernel)
set_option maxRecDepth 100000 in
theorem m_33 : Cond.code y_String_isLatin1 cd_String_isLatin1 1 (some .boolean) ∈ gw := gm (i := 479) rfl rfl
theorem m_34 : Cond.methodLink R_String 495 y_StringLatin1_charAt ∈ gw := gm (i := 642) (by decide +kernel) (by decide +kernel)
theorem m_35 : Cond.static y_StringLatin1_charAt ∈ gw := gm (i := 643) (by decide +kernel) (by decide +kernel)
set_option maxRecDepth 100000 in
theorem m_36 : Cond.code y_StringLatin1_charAt cd_StringLatin1_charAt 2 (some .char) ∈ gw := gm (i := 644) rfl rfl
def f_String_charAt (t : Nat) (a1 : Int32) : Option Int32 :=
  ((f_StringLatin1_charAt t a1).bind fun u_12 => (if chB u_12 = true then some u_12 else none))
set_option maxHeartbeats 4000000 in
set_option maxRecDepth 100000 in
theorem c_String_charAt (l : Launch) (G : Gt) (K : Nat) (t : Nat) (a1 : Int32) (sz : Nat) (res : Int32)  (hr_t : t < nS) (hf : f_String_charAt t a1 = some res) : Met l y_String_charAt (.code y_String_charAt cd_String_charAt 2 (some .char) :: gw) { frames := 3, cells := 0, slots := 0, locals := 120 } (PC G ([.ref (gT G t), .int a1] : List Value) sz (w_Preconditions_checkIndexn G )) (QI G res (va_A (w_Preconditions_checkIndexn G ) sz) (w_Preconditions_checkIndexn G )) 0 0 (va_A (w_Preconditions_checkIndexn G ) sz) := by
  refine Met.ofW (cc := cd_String_charAt) (maxL := 2) (ret := (some .char)) (by decide) rfl ?_
  intro p e s m args below meth c s₁ B hml hv
  obtain ⟨rfl, hsz, hP, hE, hD0⟩ := hv
  have hx := B.exec
  have hb := B.bytes
  have hr := B.returns
  have hts := atoms_spec (ws := (.code y_String_charAt cd_String_charAt 2 (some .char) :: gw)) B.pre
  have hg : ∀ w ∈ gw, w.before _ s = true := fun w h => hts w (List.mem_cons_of_mem _ h)
  have hown : s.vm.findClass R_String = some m.cls := findClass_of_methodNamed B.named
  have hlocks := B.notSynchronized
  subst hsz
  have hK := hE.K
  have hD := hD0.self (sz := s.heap.size)
  have hAb := hE.ab hD0
  obtain ⟨Q, hQ⟩ : ∃ Q, MQ below (QI G res (va_A (w_Preconditions_checkIndexn G ) s.heap.size) (w_Preconditions_checkIndexn G )) ([.ref (gT G t), .int a1] : List Value).toArray s 0 0 (va_A (w_Preconditions_checkIndexn G ) s.heap.size) = Q := ⟨_, rfl⟩
  show W p l e { frames := 3, cells := 0, slots := 0, locals := 120 } s m ([.ref (gT G t), .int a1] : List Value).toArray below meth c s.heap [] 0 0 (MQ below (QI G res (va_A (w_Preconditions_checkIndexn G ) s.heap.size) (w_Preconditions_checkIndexn G )) ([.ref (gT G t), .int a1] : List Value).toArray s 0 0 (va_A (w_Preconditions_checkIndexn G ) s.heap.size)) _
  rw [hQ]
  have hA : ∀ q : Nat, s.heap.size ≤ q → va_A (w_Preconditions_checkIndexn G ) s.heap.size q := fun q h => Or.inr h
  obtain ⟨A, hAe⟩ : ∃ A, va_A (w_Preconditions_checkIndexn G ) s.heap.size = A := ⟨_, rfl⟩
  rw [hAe] at hA hD hAb hQ
  have hS : va_S A s.heap s.heap [] := va_S.rf
  have hl := lv_entry (([.ref (gT G t), .int a1] : List Value)) (n := 2) (Nat.le_of_ble_eq_true rfl)
  rw [lg_entry_eq]
  generalize (lg_sl (([.ref (gT G t), .int a1] : List Value)) ++ List.replicate (2 - (lg_sl (([.ref (gT G t), .int a1] : List Value))).length) Slot.unset).toArray = ls at hl ⊢
  have hl : lv_has ls 2 [(0, .ref (gT G t)), (1, .int a1)] := hl
  unfold f_String_charAt at hf
  refine lv_aload_n hx hb d_String_charAt_0 rfl (lv_at hl 0 rfl) ?_
  refine CALLWz (va_runV (As := []) (rest := []) ⟨hx, hb, hml, hown, hg⟩ (c_String_isLatin1 l G K t _ (1 : Int32) hr_t rfl) (cwV 0 hg (gV m_30 m_31 m_32 m_21 m_33) rfl rfl rfl (by decide +kernel) ⟨Nat.le_of_ble_eq_true rfl, Nat.le_of_ble_eq_true rfl⟩) ⟨PC_b, vk_recv (hE.vs hAb) hr_t hS, PC_p hE hS hAb hP hD⟩ rfl rfl hl.1 rfl (lv_room (Nat.le_of_ble_eq_true rfl)) d_String_charAt_1 ⟨Nat.zero_le _, Nat.zero_le _⟩) hP hD hS hA (fun bu_1 H locs hP hD hS => ?_)
  have hP : va_P (gD G) vwCl (w_Preconditions_checkIndexn G ) H := hP
  have hD : va_D A (w_Preconditions_checkIndexn G ) := hD
  refine lv_if_eq (tgt := 16) hx hb d_String_charAt_4 (by decide) (fun c_4 => absurd c_4 (by decide)) (fun _ => ?_)
  refine lv_aload_n hx hb d_String_charAt_7 rfl (lv_at hl 0 rfl) ?_
  refine vk_getf hx hb ((hE.vs hAb).1 t hr_t).2.2.1 hS hown (hg _ m_25) (fun _ h9 => h9) d_String_charAt_8 ?_
  refine lv_iload_n hx hb d_String_charAt_11 rfl (lv_at hl 1 rfl) ?_
  obtain ⟨u_12, hu_12, hf⟩ := bd_ hf
  refine CALLWi (va_runS (As := [.ref (gU G t), .int a1]) (rest := []) ⟨hx, hb, hml, hown, hg⟩ (c_StringLatin1_charAt l G K t a1 _ u_12 hr_t hu_12) (va_cwS 2 hg (gS m_34 m_35 m_7 m_36) rfl rfl rfl (by decide +kernel) ⟨Nat.le_of_ble_eq_true rfl, Nat.le_of_ble_eq_true rfl⟩) ⟨PC_b, PC_p hE hS hAb hP hD⟩ rfl rfl hl.1 rfl (lv_room (Nat.le_of_ble_eq_true rfl)) d_String_charAt_12 ⟨Nat.zero_le _, Nat.zero_le _⟩) hP hD hS hA (fun H locs hP hD hS => ?_)
  have hP : va_P (gD G) vwCl (w_Preconditions_checkIndexn G ) H := hP
  have hD : va_D A (w_Preconditions_checkIndexn G ) := hD
  obtain ⟨w_15_1, hf⟩ := gd_ hf
  obtain rfl := Option.some.inj hf
  rw [← hQ]
  exact W.zret (v := u_12) hx hb hr (chB_ w_15_1) (fun t9 ht hW => ⟨⟨u_12, (), rfl, rfl, ⟨by rw [ht]; exact hP, hD⟩⟩, hS.F ht⟩) hS.2.2 d_String_charAt_15
theorem d_String_indexOf_1_0 : decode cd_String_indexOf_1 0 = .ok (.aload_n 0, 1) := by decide +kernel
theorem d_String_indexOf_1_1 : decode cd_String_indexOf_1 1 = .ok (.invokevirtual 492, 3) := by decide +kernel
theorem d_String_indexOf_1_4 : decode cd_String_indexOf_1 4 = .ok (.ifCond .eq 19, 3) := by decide +kernel
theorem d_String_indexOf_1_7 : decode cd_String_indexOf_1 7 = .ok (.aload_n 0, 1) := by decide +kernel
theorem d_String_indexOf_1_8 : decode cd_String_indexOf_1 8 = .ok (.getfield 9, 3) := by decide +kernel
theorem d_String_indexOf_1_11 : decode cd_String_indexOf_1 11 = .ok (.iload_n 1, 1) := by decide +kernel
theorem d_String_indexOf_1_12 : decode cd_String_indexOf_1 12 = .ok (.iload_n 2, 1) := by decide +kernel
theorem d_String_indexOf_1_13 : decode cd_String_indexOf_1 13 = .ok (.aload_n 0, 1) := by decide +kernel
theorem d_String_indexOf_1_14 : decode cd_String_indexOf_1 14 = .ok (.invokevirtual 505, 3) := by decide +kernel
theorem d_String_indexOf_1_17 : decode cd_String_indexOf_1 17 = .ok (.invokestatic 637, 3) := by decide +kernel
theorem d_String_indexOf_1_20 : decode cd_String_indexOf_1 20 = .ok (.goto 16, 3) := by decide +kernel
theorem d_String_indexOf_1_23 : decode cd_String_indexOf_1 23 = .ok (.aload_n 0, 1) := by decide +kernel
theorem d_String_indexOf_1_24 : decode cd_String_indexOf_1 24 = .ok (.getfield 9, 3) := by decide +kernel
theorem d_String_indexOf_1_27 : decode cd_String_indexOf_1 27 = .ok (.iload_n 1, 1) := by decide +kernel
theorem d_String_indexOf_1_28 : decode cd_String_indexOf_1 28 = .ok (.iload_n 2, 1) := by decide +kernel
theorem d_String_indexOf_1_29 : decode cd_String_indexOf_1 29 = .ok (.aload_n 0, 1) := by decide +kernel
theorem d_String_indexOf_1_30 : decode cd_String_indexOf_1 30 = .ok (.invokevirtual 505, 3) := by decide +kernel
theorem d_String_indexOf_1_33 : decode cd_String_indexOf_1 33 = .ok (.invokestatic 640, 3) := by decide +kernel
theorem d_String_indexOf_1_36 : decode cd_String_indexOf_1 36 = .ok (.ireturn, 1) := by decide +kernel
theorem m_37 : Cond.methodLink R_String 505 y_String_length ∈ gw := gm (i := 482) (by decide +kernel) (by decide +kernel)
theorem m_38 : Cond.instanceMethod y_String_length ∈ gw := gm (i := 483) (by decide +kernel) (by decide +kernel)
theorem m_39 : Cond.selects R_String y_String_length y_String_length ∈ gw := gm (i := 484) (by decide +kernel) (by decide +kernel)
set_option maxRecDepth 100000 in
theorem m_40 : Cond.code y_String_length cd_String_length 1 (some .int) ∈ gw := gm (i := 485) rfl rfl
theorem m_41 : Cond.methodLink R_String 637 y_StringLatin1_indexOf ∈ gw := gm (i := 490) (by decide +kernel) (by decide +kernel)
theorem m_42 : Cond.static y_StringLatin1_indexOf ∈ gw := gm (i := 491) (by decide +kernel) (by decide +kernel)
set_option maxRecDepth 100000 in
theorem m_43 : Cond.code y_StringLatin1_indexOf cd_StringLatin1_indexOf 4 (some .int) ∈ gw := gm (i := 492) rfl rfl
def f_String_indexOf_1 (K : Nat) (t : Nat) (a1 : Int32) (a2 : Int32) : Option Int32 :=
  ((f_String_length t).bind fun u_14 => ((f_StringLatin1_indexOf K t a1 a2 u_14).bind fun u_17 => some u_17))
set_option maxHeartbeats 4000000 in
set_option maxRecDepth 100000 in
theorem c_String_indexOf_1 (l : Launch) (G : Gt) (K : Nat) (t : Nat) (a1 : Int32) (a2 : Int32) (sz : Nat) (res : Int32)  (hr_t : t < nS) (hf : f_String_indexOf_1 K t a1 a2 = some res) : Met l y_String_indexOf_1 (.code y_String_indexOf_1 cd_String_indexOf_1 3 (some .int) :: gw) { frames := 2, cells := 0, slots := 0, locals := 80 } (PC G ([.ref (gT G t), .int a1, .int a2] : List Value) sz (w_Preconditions_checkIndexn G )) (QI G res (va_A (w_Preconditions_checkIndexn G ) sz) (w_Preconditions_checkIndexn G )) 0 0 (va_A (w_Preconditions_checkIndexn G ) sz) := by
  refine Met.ofW (cc := cd_String_indexOf_1) (maxL := 3) (ret := (some .int)) (by decide) rfl ?_
  intro p e s m args below meth c s₁ B hml hv
  obtain ⟨rfl, hsz, hP, hE, hD0⟩ := hv
  have hx := B.exec
  have hb := B.bytes
  have hr := B.returns
  have hts := atoms_spec (ws := (.code y_String_indexOf_1 cd_String_indexOf_1 3 (some .int) :: gw)) B.pre
  have hg : ∀ w ∈ gw, w.before _ s = true := fun w h => hts w (List.mem_cons_of_mem _ h)
  have hown : s.vm.findClass R_String = some m.cls := findClass_of_methodNamed B.named
  have hlocks := B.notSynchronized
  subst hsz
  have hK := hE.K
  have hD := hD0.self (sz := s.heap.size)
  have hAb := hE.ab hD0
  obtain ⟨Q, hQ⟩ : ∃ Q, MQ below (QI G res (va_A (w_Preconditions_checkIndexn G ) s.heap.size) (w_Preconditions_checkIndexn G )) ([.ref (gT G t), .int a1, .int a2] : List Value).toArray s 0 0 (va_A (w_Preconditions_checkIndexn G ) s.heap.size) = Q := ⟨_, rfl⟩
  show W p l e { frames := 2, cells := 0, slots := 0, locals := 80 } s m ([.ref (gT G t), .int a1, .int a2] : List Value).toArray below meth c s.heap [] 0 0 (MQ below (QI G res (va_A (w_Preconditions_checkIndexn G ) s.heap.size) (w_Preconditions_checkIndexn G )) ([.ref (gT G t), .int a1, .int a2] : List Value).toArray s 0 0 (va_A (w_Preconditions_checkIndexn G ) s.heap.size)) _
  rw [hQ]
  have hA : ∀ q : Nat, s.heap.size ≤ q → va_A (w_Preconditions_checkIndexn G ) s.heap.size q := fun q h => Or.inr h
  obtain ⟨A, hAe⟩ : ∃ A, va_A (w_Preconditions_checkIndexn G ) s.heap.size = A := ⟨_, rfl⟩
  rw [hAe] at hA hD hAb hQ
  have hS : va_S A s.heap s.heap [] := va_S.rf
  have hl := lv_entry (([.ref (gT G t), .int a1, .int a2] : List Value)) (n := 3) (Nat.le_of_ble_eq_true rfl)
  rw [lg_entry_eq]
  generalize (lg_sl (([.ref (gT G t), .int a1, .int a2] : List Value)) ++ List.replicate (3 - (lg_sl (([.ref (gT G t), .int a1, .int a2] : List Value))).length) Slot.unset).toArray = ls at hl ⊢
  have hl : lv_has ls 3 [(0, .ref (gT G t)), (1, .int a1), (2, .int a2)] := hl
  unfold f_String_indexOf_1 at hf
  refine lv_aload_n hx hb d_String_indexOf_1_0 rfl (lv_at hl 0 rfl) ?_
  refine CALLWz (va_runV (As := []) (rest := []) ⟨hx, hb, hml, hown, hg⟩ (c_String_isLatin1 l G K t _ (1 : Int32) hr_t rfl) (cwV 0 hg (gV m_30 m_31 m_32 m_21 m_33) rfl rfl rfl (by decide +kernel) ⟨Nat.le_of_ble_eq_true rfl, Nat.le_of_ble_eq_true rfl⟩) ⟨PC_b, vk_recv (hE.vs hAb) hr_t hS, PC_p hE hS hAb hP hD⟩ rfl rfl hl.1 rfl (lv_room (Nat.le_of_ble_eq_true rfl)) d_String_indexOf_1_1 ⟨Nat.zero_le _, Nat.zero_le _⟩) hP hD hS hA (fun bu_1 H locs hP hD hS => ?_)
  have hP : va_P (gD G) vwCl (w_Preconditions_checkIndexn G ) H := hP
  have hD : va_D A (w_Preconditions_checkIndexn G ) := hD
  refine lv_if_eq (tgt := 23) hx hb d_String_indexOf_1_4 (by decide) (fun c_4 => absurd c_4 (by decide)) (fun _ => ?_)
  refine lv_aload_n hx hb d_String_indexOf_1_7 rfl (lv_at hl 0 rfl) ?_
  refine vk_getf hx hb ((hE.vs hAb).1 t hr_t).2.2.1 hS hown (hg _ m_25) (fun _ h9 => h9) d_String_indexOf_1_8 ?_
  refine lv_iload_n hx hb d_String_indexOf_1_11 rfl (lv_at hl 1 rfl) ?_
  refine lv_iload_n hx hb d_String_indexOf_1_12 rfl (lv_at hl 2 rfl) ?_
  refine lv_aload_n hx hb d_String_indexOf_1_13 rfl (lv_at hl 0 rfl) ?_
  obtain ⟨u_14, hu_14, hf⟩ := bd_ hf
  refine CALLWi (va_runV (As := []) (rest := [.int a2, .int a1, .ref (gU G t)]) ⟨hx, hb, hml, hown, hg⟩ (c_String_length l G K t _ u_14 hr_t hu_14) (cwV 0 hg (gV m_37 m_38 m_39 m_21 m_40) rfl rfl rfl (by decide +kernel) ⟨Nat.le_of_ble_eq_true rfl, Nat.le_of_ble_eq_true rfl⟩) ⟨PC_b, vk_recv (hE.vs hAb) hr_t hS, PC_p hE hS hAb hP hD⟩ rfl rfl hl.1 rfl (lv_room (Nat.le_of_ble_eq_true rfl)) d_String_indexOf_1_14 ⟨Nat.zero_le _, Nat.zero_le _⟩) hP hD hS hA (fun H locs hP hD hS => ?_)
  have hP : va_P (gD G) vwCl (w_Preconditions_checkIndexn G ) H := hP
  have hD : va_D A (w_Preconditions_checkIndexn G ) := hD
  obtain ⟨u_17, hu_17, hf⟩ := bd_ hf
  refine CALLWi (va_runS (As := [.ref (gU G t), .int a1, .int a2, .int u_14]) (rest := []) ⟨hx, hb, hml, hown, hg⟩ (c_StringLatin1_indexOf l G K t a1 a2 u_14 _ u_17 hr_t hu_17) (va_cwS 4 hg (gS m_41 m_42 m_7 m_43) rfl rfl rfl (by decide +kernel) ⟨Nat.le_of_ble_eq_true rfl, Nat.le_of_ble_eq_true rfl⟩) ⟨PC_b, PC_p hE hS hAb hP hD⟩ rfl rfl hl.1 rfl (lv_room (Nat.le_of_ble_eq_true rfl)) d_String_indexOf_1_17 ⟨Nat.zero_le _, Nat.zero_le _⟩) hP hD hS hA (fun H locs hP hD hS => ?_)
  have hP : va_P (gD G) vwCl (w_Preconditions_checkIndexn G ) H := hP
  have hD : va_D A (w_Preconditions_checkIndexn G ) := hD
  refine lv_goto (tgt := 36) hx hb d_String_indexOf_1_20 (by decide) ?_
  obtain rfl := Option.some.inj hf
  rw [← hQ]
  exact W.iret (v := u_17) hx hb hr (fun t9 ht hW => ⟨⟨u_17, (), rfl, rfl, ⟨by rw [ht]; exact hP, hD⟩⟩, hS.F ht⟩) hS.2.2 d_String_indexOf_1_36
theorem d_String_indexOf_0 : decode cd_String_indexOf 0 = .ok (.aload_n 0, 1) := by decide +kernel
theorem d_String_indexOf_1 : decode cd_String_indexOf 1 = .ok (.iload_n 1, 1) := by decide +kernel
theorem d_String_indexOf_2 : decode cd_String_indexOf 2 = .ok (.iconst 0, 1) := by decide +kernel
theorem d_String_indexOf_3 : decode cd_String_indexOf 3 = .ok (.invokevirtual 633, 3) := by decide +kernel
theorem d_String_indexOf_6 : decode cd_String_indexOf 6 = .ok (.ireturn, 1) := by decide +kernel
theorem m_44 : Cond.methodLink R_String 633 y_String_indexOf_1 ∈ gw := gm (i := 472) (by decide +kernel) (by decide +kernel)
theorem m_45 : Cond.instanceMethod y_String_indexOf_1 ∈ gw := gm (i := 473) (by decide +kernel) (by decide +kernel)
theorem m_46 : Cond.selects R_String y_String_indexOf_1 y_String_indexOf_1 ∈ gw := gm (i := 474) (by decide +kernel) (by decide +kernel)
set_option maxRecDepth 100000 in
theorem m_47 : Cond.code y_String_indexOf_1 cd_String_indexOf_1 3 (some .int) ∈ gw := gm (i := 475) rfl rfl
def f_String_indexOf (K : Nat) (t : Nat) (a1 : Int32) : Option Int32 :=
  ((f_String_indexOf_1 K t a1 (0 : Int32)).bind fun u_3 => some u_3)
set_option maxHeartbeats 4000000 in
set_option maxRecDepth 100000 in
theorem c_String_indexOf (l : Launch) (G : Gt) (K : Nat) (t : Nat) (a1 : Int32) (sz : Nat) (res : Int32)  (hr_t : t < nS) (hf : f_String_indexOf K t a1 = some res) : Met l y_String_indexOf (.code y_String_indexOf cd_String_indexOf 2 (some .int) :: gw) { frames := 3, cells := 0, slots := 0, locals := 120 } (PC G ([.ref (gT G t), .int a1] : List Value) sz (w_Preconditions_checkIndexn G )) (QI G res (va_A (w_Preconditions_checkIndexn G ) sz) (w_Preconditions_checkIndexn G )) 0 0 (va_A (w_Preconditions_checkIndexn G ) sz) := by
  refine Met.ofW (cc := cd_String_indexOf) (maxL := 2) (ret := (some .int)) (by decide) rfl ?_
  intro p e s m args below meth c s₁ B hml hv
  obtain ⟨rfl, hsz, hP, hE, hD0⟩ := hv
  have hx := B.exec
  have hb := B.bytes
  have hr := B.returns
  have hts := atoms_spec (ws := (.code y_String_indexOf cd_String_indexOf 2 (some .int) :: gw)) B.pre
  have hg : ∀ w ∈ gw, w.before _ s = true := fun w h => hts w (List.mem_cons_of_mem _ h)
  have hown : s.vm.findClass R_String = some m.cls := findClass_of_methodNamed B.named
  have hlocks := B.notSynchronized
  subst hsz
  have hK := hE.K
  have hD := hD0.self (sz := s.heap.size)
  have hAb := hE.ab hD0
  obtain ⟨Q, hQ⟩ : ∃ Q, MQ below (QI G res (va_A (w_Preconditions_checkIndexn G ) s.heap.size) (w_Preconditions_checkIndexn G )) ([.ref (gT G t), .int a1] : List Value).toArray s 0 0 (va_A (w_Preconditions_checkIndexn G ) s.heap.size) = Q := ⟨_, rfl⟩
  show W p l e { frames := 3, cells := 0, slots := 0, locals := 120 } s m ([.ref (gT G t), .int a1] : List Value).toArray below meth c s.heap [] 0 0 (MQ below (QI G res (va_A (w_Preconditions_checkIndexn G ) s.heap.size) (w_Preconditions_checkIndexn G )) ([.ref (gT G t), .int a1] : List Value).toArray s 0 0 (va_A (w_Preconditions_checkIndexn G ) s.heap.size)) _
  rw [hQ]
  have hA : ∀ q : Nat, s.heap.size ≤ q → va_A (w_Preconditions_checkIndexn G ) s.heap.size q := fun q h => Or.inr h
  obtain ⟨A, hAe⟩ : ∃ A, va_A (w_Preconditions_checkIndexn G ) s.heap.size = A := ⟨_, rfl⟩
  rw [hAe] at hA hD hAb hQ
  have hS : va_S A s.heap s.heap [] := va_S.rf
  have hl := lv_entry (([.ref (gT G t), .int a1] : List Value)) (n := 2) (Nat.le_of_ble_eq_true rfl)
  rw [lg_entry_eq]
  generalize (lg_sl (([.ref (gT G t), .int a1] : List Value)) ++ List.replicate (2 - (lg_sl (([.ref (gT G t), .int a1] : List Value))).length) Slot.unset).toArray = ls at hl ⊢
  have hl : lv_has ls 2 [(0, .ref (gT G t)), (1, .int a1)] := hl
  unfold f_String_indexOf at hf
  refine lv_aload_n hx hb d_String_indexOf_0 rfl (lv_at hl 0 rfl) ?_
  refine lv_iload_n hx hb d_String_indexOf_1 rfl (lv_at hl 1 rfl) ?_
  refine lv_iconst (v := 0) hx hb d_String_indexOf_2 (by decide) ?_
  obtain ⟨u_3, hu_3, hf⟩ := bd_ hf
  refine CALLWi (va_runV (As := [.int a1, .int (0 : Int32)]) (rest := []) ⟨hx, hb, hml, hown, hg⟩ (c_String_indexOf_1 l G K t a1 (0 : Int32) _ u_3 hr_t hu_3) (cwV 2 hg (gV m_44 m_45 m_46 m_21 m_47) rfl rfl rfl (by decide +kernel) ⟨Nat.le_of_ble_eq_true rfl, Nat.le_of_ble_eq_true rfl⟩) ⟨PC_b, vk_recv (hE.vs hAb) hr_t hS, PC_p hE hS hAb hP hD⟩ rfl rfl hl.1 rfl (lv_room (Nat.le_of_ble_eq_true rfl)) d_String_indexOf_3 ⟨Nat.zero_le _, Nat.zero_le _⟩) hP hD hS hA (fun H locs hP hD hS => ?_)
  have hP : va_P (gD G) vwCl (w_Preconditions_checkIndexn G ) H := hP
  have hD : va_D A (w_Preconditions_checkIndexn G ) := hD
  obtain rfl := Option.some.inj hf
  rw [← hQ]
  exact W.iret (v := u_3) hx hb hr (fun t9 ht hW => ⟨⟨u_3, (), rfl, rfl, ⟨by rw [ht]; exact hP, hD⟩⟩, hS.F ht⟩) hS.2.2 d_String_indexOf_6
theorem d_Arrays_fill_0 : decode cd_Arrays_fill 0 = .ok (.iconst 0, 1) := by decide +kernel
theorem d_Arrays_fill_1 : decode cd_Arrays_fill 1 = .ok (.istore_n 3, 1) := by decide +kernel
theorem d_Arrays_fill_2 : decode cd_Arrays_fill 2 = .ok (.aload_n 0, 1) := by decide +kernel
theorem d_Arrays_fill_3 : decode cd_Arrays_fill 3 = .ok (.arraylength, 1) := by decide +kernel
theorem d_Arrays_fill_4 : decode cd_Arrays_fill 4 = .ok (.istore 4, 2) := by decide +kernel
theorem d_Arrays_fill_6 : decode cd_Arrays_fill 6 = .ok (.iload_n 3, 1) := by decide +kernel
theorem d_Arrays_fill_7 : decode cd_Arrays_fill 7 = .ok (.iload 4, 2) := by decide +kernel
theorem d_Arrays_fill_9 : decode cd_Arrays_fill 9 = .ok (.if_icmp .ge 13, 3) := by decide +kernel
theorem d_Arrays_fill_12 : decode cd_Arrays_fill 12 = .ok (.aload_n 0, 1) := by decide +kernel
theorem d_Arrays_fill_13 : decode cd_Arrays_fill 13 = .ok (.iload_n 3, 1) := by decide +kernel
theorem d_Arrays_fill_14 : decode cd_Arrays_fill 14 = .ok (.lload_n 1, 1) := by decide +kernel
theorem d_Arrays_fill_15 : decode cd_Arrays_fill 15 = .ok (.lastore, 1) := by decide +kernel
theorem d_Arrays_fill_16 : decode cd_Arrays_fill 16 = .ok (.iinc 3 1, 3) := by decide +kernel
theorem d_Arrays_fill_19 : decode cd_Arrays_fill 19 = .ok (.goto (-13), 3) := by decide +kernel
theorem d_Arrays_fill_22 : decode cd_Arrays_fill 22 = .ok (.return_, 1) := by decide +kernel
def b_Arrays_fill_6 (na1 : Nat) (a2 : Int64) (x4 : Int32) (rec_6 : (Int32 × (Nat → Int64)) → Option (Nat → Int64)) (z6 : Int32 × (Nat → Int64)) : Option (Nat → Int64) :=
  (if x4 ≤ z6.1 then some z6.2 else (if inB z6.1 na1 = true then rec_6 ((z6.1 + 1), (vp_updL z6.2 z6.1.toNatClampNeg a2)) else none))
def f_Arrays_fill (K : Nat) (na1 : Nat) (a1 : Nat → Int64) (a2 : Int64) : Option (Nat → Int64) :=
  lp_ (b_Arrays_fill_6 na1 a2 (nI na1)) K ((0 : Int32), a1)
abbrev w_Arrays_fill (G : Gt) (qa1 : Nat) (na1 : Nat) (a1 : Nat → Int64) : va_W := [(qa1, .inl (gC G 2, na1, .inr (.inl a1)))]
set_option maxHeartbeats 4000000 in
set_option maxRecDepth 100000 in
theorem c_Arrays_fill (l : Launch) (G : Gt) (K : Nat) (qa1 : Nat) (na1 : Nat) (a1 : Nat → Int64) (a2 : Int64) (sz : Nat) (res : (Nat → Int64))   (hf : f_Arrays_fill K na1 a1 a2 = some res) : Met l y_Arrays_fill (.code y_Arrays_fill cd_Arrays_fill 5 none :: gw) { frames := 0, cells := 0, slots := 0, locals := 0 } (PC G ([.ref qa1, .long a2] : List Value) sz (w_Arrays_fill G qa1 na1 a1)) (QV G (va_A (w_Arrays_fill G qa1 na1 a1) sz) (w_Arrays_fill G qa1 na1 res)) 0 0 (va_A (w_Arrays_fill G qa1 na1 a1) sz) := by
  refine Met.ofW (cc := cd_Arrays_fill) (maxL := 5) (ret := none) (by decide) rfl ?_
  intro p e s m args below meth c s₁ B hml hv
  obtain ⟨rfl, hsz, hP, hE, hD0⟩ := hv
  have hx := B.exec
  have hb := B.bytes
  have hr := B.returns
  have hts := atoms_spec (ws := (.code y_Arrays_fill cd_Arrays_fill 5 none :: gw)) B.pre
  have hg : ∀ w ∈ gw, w.before _ s = true := fun w h => hts w (List.mem_cons_of_mem _ h)
  have hown : s.vm.findClass R_Arrays = some m.cls := findClass_of_methodNamed B.named
  have hlocks := B.notSynchronized
  subst hsz
  have hK := hE.K
  have hD := hD0.self (sz := s.heap.size)
  have hAb := hE.ab hD0
  obtain ⟨Q, hQ⟩ : ∃ Q, MQ below (QV G (va_A (w_Arrays_fill G qa1 na1 a1) s.heap.size) (w_Arrays_fill G qa1 na1 res)) ([.ref qa1, .long a2] : List Value).toArray s 0 0 (va_A (w_Arrays_fill G qa1 na1 a1) s.heap.size) = Q := ⟨_, rfl⟩
  show W p l e { frames := 0, cells := 0, slots := 0, locals := 0 } s m ([.ref qa1, .long a2] : List Value).toArray below meth c s.heap [] 0 0 (MQ below (QV G (va_A (w_Arrays_fill G qa1 na1 a1) s.heap.size) (w_Arrays_fill G qa1 na1 res)) ([.ref qa1, .long a2] : List Value).toArray s 0 0 (va_A (w_Arrays_fill G qa1 na1 a1) s.heap.size)) _
  rw [hQ]
  have hA : ∀ q : Nat, s.heap.size ≤ q → va_A (w_Arrays_fill G qa1 na1 a1) s.heap.size q := fun q h => Or.inr h
  obtain ⟨A, hAe⟩ : ∃ A, va_A (w_Arrays_fill G qa1 na1 a1) s.heap.size = A := ⟨_, rfl⟩
  rw [hAe] at hA hD hAb hQ
  have hS : va_S A s.heap s.heap [] := va_S.rf
  have hl := lv_entry (([.ref qa1, .long a2] : List Value)) (n := 5) (Nat.le_of_ble_eq_true rfl)
  rw [lg_entry_eq]
  generalize (lg_sl (([.ref qa1, .long a2] : List Value)) ++ List.replicate (5 - (lg_sl (([.ref qa1, .long a2] : List Value))).length) Slot.unset).toArray = ls at hl ⊢
  have hl : lv_has ls 5 [(0, .ref qa1), (1, .long a2)] := hl
  have W_6 : ∀ (x4 : Int32)  (n_6 : Nat) (z6 : Int32 × (Nat → Int64)) , lp_ (b_Arrays_fill_6 na1 a2 x4) n_6 z6 = some res → ∀ (H : Heap) (locs : List Loc) (ls : Array Slot), va_P (gD G) vwCl (w_Arrays_fill G qa1 na1 z6.2) H → va_D A (w_Arrays_fill G qa1 na1 z6.2) → va_S A s.heap H locs → lv_has ls 5 [(0, .ref qa1), (1, .long a2), (3, .int z6.1), (4, .int x4)] → W p l e { frames := 0, cells := 0, slots := 0, locals := 0 } s m ([.ref qa1, .long a2] : List Value).toArray below meth c H locs 0 0 Q (F0 m 6 ls []) := by
    intro x4 n_6
    induction n_6 with
    | zero =>
      intro z6  hf
      cases hf
    | succ n_6 ih_6 =>
      intro z6  hf H locs ls hP hD hS hl
      have hf : b_Arrays_fill_6 na1 a2 x4 (lp_ (b_Arrays_fill_6 na1 a2 x4) n_6) z6 = some res := hf
      generalize lp_ (b_Arrays_fill_6 na1 a2 x4) n_6 = rec_6 at hf ih_6
      unfold b_Arrays_fill_6 at hf
      refine lv_iload_n hx hb d_Arrays_fill_6 rfl (lv_at hl 2 rfl) ?_
      refine lv_iload hx hb d_Arrays_fill_7 (lv_at hl 3 rfl) ?_
      refine lv_icmp_ge (tgt := 22) hx hb d_Arrays_fill_9 (by decide) (fun c_9 => ?_) (fun c_9 => ?_)
      · have hf := ip_ c_9 hf
        obtain rfl := Option.some.inj hf
        rw [← hQ]
        exact W.vret hx hb hr (fun t9 ht hW => ⟨⟨(), rfl, trivial, ⟨by rw [ht]; exact hP, hD⟩⟩, hS.F ht⟩) hS.2.2 d_Arrays_fill_22
      · have hf := in_ c_9 hf
        refine lv_aload_n hx hb d_Arrays_fill_12 rfl (lv_at hl 0 rfl) ?_
        refine lv_iload_n hx hb d_Arrays_fill_13 rfl (lv_at hl 2 rfl) ?_
        refine lv_lload_n hx hb d_Arrays_fill_14 rfl (lv_at hl 1 rfl) ?_
        obtain ⟨g_15, hf⟩ := gd_ hf
        refine va_last hx hb hK hP hD hS 0 2 rfl rfl (inB_in g_15) d_Arrays_fill_15 (fun H locs hP hD hS => ?_)
        have hP : va_P (gD G) vwCl (w_Arrays_fill G qa1 na1 (vp_updL z6.2 z6.1.toNatClampNeg a2)) H := hP
        have hD : va_D A (w_Arrays_fill G qa1 na1 (vp_updL z6.2 z6.1.toNatClampNeg a2)) := hD
        refine lv_iinc (v := (z6.1 + 1)) (lv' := [(3, .int (z6.1 + 1)), (0, .ref qa1), (1, .long a2), (4, .int x4)]) hx hb d_Arrays_fill_16 hl (k := 2) rfl rfl (by decide) rfl (fun ls hl => ?_)
        refine lv_goto (tgt := 6) hx hb d_Arrays_fill_19 (by decide) ?_
        exact ih_6 ((z6.1 + 1), (vp_updL z6.2 z6.1.toNatClampNeg a2))  hf _ _ _ hP hD hS (lv_sub hl [1, 2, 0, 3] rfl)
  unfold f_Arrays_fill at hf
  refine lv_iconst (v := 0) hx hb d_Arrays_fill_0 (by decide) ?_
  refine lv_istore_n (lv' := [(3, .int (0 : Int32)), (0, .ref qa1), (1, .long a2)]) hx hb d_Arrays_fill_1 rfl hl (by decide) rfl (fun ls hl => ?_)
  refine lv_aload_n hx hb d_Arrays_fill_2 rfl (lv_at hl 1 rfl) ?_
  refine va_alen hx hb hK hP 0 2 rfl rfl (v := nI na1) rfl d_Arrays_fill_3 ?_
  refine lv_istore (lv' := [(4, .int (nI na1)), (3, .int (0 : Int32)), (0, .ref qa1), (1, .long a2)]) hx hb d_Arrays_fill_4 hl (by decide) rfl (fun ls hl => ?_)
  exact W_6 (nI na1)  K ((0 : Int32), a1)  hf _ _ _ hP hD hS (lv_sub hl [2, 3, 1, 0] rfl)
theorem d_Arrays_fill_1_0 : decode cd_Arrays_fill_1 0 = .ok (.iconst 0, 1) := by decide +kernel
theorem d_Arrays_fill_1_1 : decode cd_Arrays_fill_1 1 = .ok (.istore_n 2, 1) := by decide +kernel
theorem d_Arrays_fill_1_2 : decode cd_Arrays_fill_1 2 = .ok (.aload_n 0, 1) := by decide +kernel
theorem d_Arrays_fill_1_3 : decode cd_Arrays_fill_1 3 = .ok (.arraylength, 1) := by decide +kernel
theorem d_Arrays_fill_1_4 : decode cd_Arrays_fill_1 4 = .ok (.istore_n 3, 1) := by decide +kernel
theorem d_Arrays_fill_1_5 : decode cd_Arrays_fill_1 5 = .ok (.iload_n 2, 1) := by decide +kernel
theorem d_Arrays_fill_1_6 : decode cd_Arrays_fill_1 6 = .ok (.iload_n 3, 1) := by decide +kernel
theorem d_Arrays_fill_1_7 : decode cd_Arrays_fill_1 7 = .ok (.if_icmp .ge 13, 3) := by decide +kernel
theorem d_Arrays_fill_1_10 : decode cd_Arrays_fill_1 10 = .ok (.aload_n 0, 1) := by decide +kernel
theorem d_Arrays_fill_1_11 : decode cd_Arrays_fill_1 11 = .ok (.iload_n 2, 1) := by decide +kernel
theorem d_Arrays_fill_1_12 : decode cd_Arrays_fill_1 12 = .ok (.iload_n 1, 1) := by decide +kernel
theorem d_Arrays_fill_1_13 : decode cd_Arrays_fill_1 13 = .ok (.iastore, 1) := by decide +kernel
theorem d_Arrays_fill_1_14 : decode cd_Arrays_fill_1 14 = .ok (.iinc 2 1, 3) := by decide +kernel
theorem d_Arrays_fill_1_17 : decode cd_Arrays_fill_1 17 = .ok (.goto (-12), 3) := by decide +kernel
theorem d_Arrays_fill_1_20 : decode cd_Arrays_fill_1 20 = .ok (.return_, 1) := by decide +kernel
def b_Arrays_fill_1_5 (na1 : Nat) (a2 : Int32) (x3 : Int32) (rec_5 : (Int32 × (Nat → Int32)) → Option (Nat → Int32)) (z5 : Int32 × (Nat → Int32)) : Option (Nat → Int32) :=
  (if x3 ≤ z5.1 then some z5.2 else (if inB z5.1 na1 = true then rec_5 ((z5.1 + 1), (upd z5.2 z5.1.toNatClampNeg a2)) else none))
def f_Arrays_fill_1 (K : Nat) (na1 : Nat) (a1 : Nat → Int32) (a2 : Int32) : Option (Nat → Int32) :=
  lp_ (b_Arrays_fill_1_5 na1 a2 (nI na1)) K ((0 : Int32), a1)
abbrev w_Arrays_fill_1 (G : Gt) (qa1 : Nat) (na1 : Nat) (a1 : Nat → Int32) : va_W := [(qa1, .inl (gC G 1, na1, .inl a1))]
set_option maxHeartbeats 4000000 in
set_option maxRecDepth 100000 in
theorem c_Arrays_fill_1 (l : Launch) (G : Gt) (K : Nat) (qa1 : Nat) (na1 : Nat) (a1 : Nat → Int32) (a2 : Int32) (sz : Nat) (res : (Nat → Int32))   (hf : f_Arrays_fill_1 K na1 a1 a2 = some res) : Met l y_Arrays_fill_1 (.code y_Arrays_fill_1 cd_Arrays_fill_1 4 none :: gw) { frames := 0, cells := 0, slots := 0, locals := 0 } (PC G ([.ref qa1, .int a2] : List Value) sz (w_Arrays_fill_1 G qa1 na1 a1)) (QV G (va_A (w_Arrays_fill_1 G qa1 na1 a1) sz) (w_Arrays_fill_1 G qa1 na1 res)) 0 0 (va_A (w_Arrays_fill_1 G qa1 na1 a1) sz) := by
  refine Met.ofW (cc := cd_Arrays_fill_1) (maxL := 4) (ret := none) (by decide) rfl ?_
  intro p e s m args below meth c s₁ B hml hv
  obtain ⟨rfl, hsz, hP, hE, hD0⟩ := hv
  have hx := B.exec
  have hb := B.bytes
  have hr := B.returns
  have hts := atoms_spec (ws := (.code y_Arrays_fill_1 cd_Arrays_fill_1 4 none :: gw)) B.pre
  have hg : ∀ w ∈ gw, w.before _ s = true := fun w h => hts w (List.mem_cons_of_mem _ h)
  have hown : s.vm.findClass R_Arrays = some m.cls := findClass_of_methodNamed B.named
  have hlocks := B.notSynchronized
  subst hsz
  have hK := hE.K
  have hD := hD0.self (sz := s.heap.size)
  have hAb := hE.ab hD0
  obtain ⟨Q, hQ⟩ : ∃ Q, MQ below (QV G (va_A (w_Arrays_fill_1 G qa1 na1 a1) s.heap.size) (w_Arrays_fill_1 G qa1 na1 res)) ([.ref qa1, .int a2] : List Value).toArray s 0 0 (va_A (w_Arrays_fill_1 G qa1 na1 a1) s.heap.size) = Q := ⟨_, rfl⟩
  show W p l e { frames := 0, cells := 0, slots := 0, locals := 0 } s m ([.ref qa1, .int a2] : List Value).toArray below meth c s.heap [] 0 0 (MQ below (QV G (va_A (w_Arrays_fill_1 G qa1 na1 a1) s.heap.size) (w_Arrays_fill_1 G qa1 na1 res)) ([.ref qa1, .int a2] : List Value).toArray s 0 0 (va_A (w_Arrays_fill_1 G qa1 na1 a1) s.heap.size)) _
  rw [hQ]
  have hA : ∀ q : Nat, s.heap.size ≤ q → va_A (w_Arrays_fill_1 G qa1 na1 a1) s.heap.size q := fun q h => Or.inr h
  obtain ⟨A, hAe⟩ : ∃ A, va_A (w_Arrays_fill_1 G qa1 na1 a1) s.heap.size = A := ⟨_, rfl⟩
  rw [hAe] at hA hD hAb hQ
  have hS : va_S A s.heap s.heap [] := va_S.rf
  have hl := lv_entry (([.ref qa1, .int a2] : List Value)) (n := 4) (Nat.le_of_ble_eq_true rfl)
  rw [lg_entry_eq]
  generalize (lg_sl (([.ref qa1, .int a2] : List Value)) ++ List.replicate (4 - (lg_sl (([.ref qa1, .int a2] : List Value))).length) Slot.unset).toArray = ls at hl ⊢
  have hl : lv_has ls 4 [(0, .ref qa1), (1, .int a2)] := hl
  have W_5 : ∀ (x3 : Int32)  (n_5 : Nat) (z5 : Int32 × (Nat → Int32)) , lp_ (b_Arrays_fill_1_5 na1 a2 x3) n_5 z5 = some res → ∀ (H : Heap) (locs : List Loc) (ls : Array Slot), va_P (gD G) vwCl (w_Arrays_fill_1 G qa1 na1 z5.2) H → va_D A (w_Arrays_fill_1 G qa1 na1 z5.2) → va_S A s.heap H locs → lv_has ls 4 [(0, .ref qa1), (1, .int a2), (2, .int z5.1), (3, .int x3)] → W p l e { frames := 0, cells := 0, slots := 0, locals := 0 } s m ([.ref qa1, .int a2] : List Value).toArray below meth c H locs 0 0 Q (F0 m 5 ls []) := by
    intro x3 n_5
    induction n_5 with
    | zero =>
      intro z5  hf
      cases hf
    | succ n_5 ih_5 =>
      intro z5  hf H locs ls hP hD hS hl
      have hf : b_Arrays_fill_1_5 na1 a2 x3 (lp_ (b_Arrays_fill_1_5 na1 a2 x3) n_5) z5 = some res := hf
      generalize lp_ (b_Arrays_fill_1_5 na1 a2 x3) n_5 = rec_5 at hf ih_5
      unfold b_Arrays_fill_1_5 at hf
      refine lv_iload_n hx hb d_Arrays_fill_1_5 rfl (lv_at hl 2 rfl) ?_
      refine lv_iload_n hx hb d_Arrays_fill_1_6 rfl (lv_at hl 3 rfl) ?_
      refine lv_icmp_ge (tgt := 20) hx hb d_Arrays_fill_1_7 (by decide) (fun c_7 => ?_) (fun c_7 => ?_)
      · have hf := ip_ c_7 hf
        obtain rfl := Option.some.inj hf
        rw [← hQ]
        exact W.vret hx hb hr (fun t9 ht hW => ⟨⟨(), rfl, trivial, ⟨by rw [ht]; exact hP, hD⟩⟩, hS.F ht⟩) hS.2.2 d_Arrays_fill_1_20
      · have hf := in_ c_7 hf
        refine lv_aload_n hx hb d_Arrays_fill_1_10 rfl (lv_at hl 0 rfl) ?_
        refine lv_iload_n hx hb d_Arrays_fill_1_11 rfl (lv_at hl 2 rfl) ?_
        refine lv_iload_n hx hb d_Arrays_fill_1_12 rfl (lv_at hl 1 rfl) ?_
        obtain ⟨g_13, hf⟩ := gd_ hf
        refine va_iast hx hb hK hP hD hS 0 1 rfl rfl (inB_in g_13) d_Arrays_fill_1_13 (fun H locs hP hD hS => ?_)
        have hP : va_P (gD G) vwCl (w_Arrays_fill_1 G qa1 na1 (upd z5.2 z5.1.toNatClampNeg a2)) H := hP
        have hD : va_D A (w_Arrays_fill_1 G qa1 na1 (upd z5.2 z5.1.toNatClampNeg a2)) := hD
        refine lv_iinc (v := (z5.1 + 1)) (lv' := [(2, .int (z5.1 + 1)), (0, .ref qa1), (1, .int a2), (3, .int x3)]) hx hb d_Arrays_fill_1_14 hl (k := 2) rfl rfl (by decide) rfl (fun ls hl => ?_)
        refine lv_goto (tgt := 5) hx hb d_Arrays_fill_1_17 (by decide) ?_
        exact ih_5 ((z5.1 + 1), (upd z5.2 z5.1.toNatClampNeg a2))  hf _ _ _ hP hD hS (lv_sub hl [1, 2, 0, 3] rfl)
  unfold f_Arrays_fill_1 at hf
  refine lv_iconst (v := 0) hx hb d_Arrays_fill_1_0 (by decide) ?_
  refine lv_istore_n (lv' := [(2, .int (0 : Int32)), (0, .ref qa1), (1, .int a2)]) hx hb d_Arrays_fill_1_1 rfl hl (by decide) rfl (fun ls hl => ?_)
  refine lv_aload_n hx hb d_Arrays_fill_1_2 rfl (lv_at hl 1 rfl) ?_
  refine va_alen hx hb hK hP 0 1 rfl rfl (v := nI na1) rfl d_Arrays_fill_1_3 ?_
  refine lv_istore_n (lv' := [(3, .int (nI na1)), (2, .int (0 : Int32)), (0, .ref qa1), (1, .int a2)]) hx hb d_Arrays_fill_1_4 rfl hl (by decide) rfl (fun ls hl => ?_)
  exact W_5 (nI na1)  K ((0 : Int32), a1)  hf _ _ _ hP hD hS (lv_sub hl [2, 3, 1, 0] rfl)
theorem d_Enum_ordinal_0 : decode cd_Enum_ordinal 0 = .ok (.aload_n 0, 1) := by decide +kernel
theorem d_Enum_ordinal_1 : decode cd_Enum_ordinal 1 = .ok (.getfield 7, 3) := by decide +kernel
theorem d_Enum_ordinal_4 : decode cd_Enum_ordinal 4 = .ok (.ireturn, 1) := by decide +kernel
theorem m_48 : Cond.fieldLink R_Enum 7 "java/lang/Enum" "ordinal" "I" ∈ gw := gm (i := 1209) (by decide +kernel) (by decide +kernel)
def f_Enum_ordinal (t : Nat) : Option Int32 :=
  some (kOrd t)
set_option maxHeartbeats 4000000 in
set_option maxRecDepth 100000 in
theorem c_Enum_ordinal (l : Launch) (G : Gt) (K : Nat) (t : Nat) (sz : Nat) (res : Int32)  (hr_t : t < 8) (hf : f_Enum_ordinal t = some res) : Met l y_Enum_ordinal (.code y_Enum_ordinal cd_Enum_ordinal 1 (some .int) :: gw) { frames := 0, cells := 0, slots := 0, locals := 0 } (PC G ([.ref (gK G t)] : List Value) sz (w_Preconditions_checkIndexn G )) (QI G res (va_A (w_Preconditions_checkIndexn G ) sz) (w_Preconditions_checkIndexn G )) 0 0 (va_A (w_Preconditions_checkIndexn G ) sz) := by
  refine Met.ofW (cc := cd_Enum_ordinal) (maxL := 1) (ret := (some .int)) (by decide) rfl ?_
  intro p e s m args below meth c s₁ B hml hv
  obtain ⟨rfl, hsz, hP, hE, hD0⟩ := hv
  have hx := B.exec
  have hb := B.bytes
  have hr := B.returns
  have hts := atoms_spec (ws := (.code y_Enum_ordinal cd_Enum_ordinal 1 (some .int) :: gw)) B.pre
  have hg : ∀ w ∈ gw, w.before _ s = true := fun w h => hts w (List.mem_cons_of_mem _ h)
  have hown : s.vm.findClass R_Enum = some m.cls := findClass_of_methodNamed B.named
  have hlocks := B.notSynchronized
  subst hsz
  have hK := hE.K
  have hD := hD0.self (sz := s.heap.size)
  have hAb := hE.ab hD0
  obtain ⟨Q, hQ⟩ : ∃ Q, MQ below (QI G res (va_A (w_Preconditions_checkIndexn G ) s.heap.size) (w_Preconditions_checkIndexn G )) ([.ref (gK G t)] : List Value).toArray s 0 0 (va_A (w_Preconditions_checkIndexn G ) s.heap.size) = Q := ⟨_, rfl⟩
  show W p l e { frames := 0, cells := 0, slots := 0, locals := 0 } s m ([.ref (gK G t)] : List Value).toArray below meth c s.heap [] 0 0 (MQ below (QI G res (va_A (w_Preconditions_checkIndexn G ) s.heap.size) (w_Preconditions_checkIndexn G )) ([.ref (gK G t)] : List Value).toArray s 0 0 (va_A (w_Preconditions_checkIndexn G ) s.heap.size)) _
  rw [hQ]
  have hA : ∀ q : Nat, s.heap.size ≤ q → va_A (w_Preconditions_checkIndexn G ) s.heap.size q := fun q h => Or.inr h
  obtain ⟨A, hAe⟩ : ∃ A, va_A (w_Preconditions_checkIndexn G ) s.heap.size = A := ⟨_, rfl⟩
  rw [hAe] at hA hD hAb hQ
  have hS : va_S A s.heap s.heap [] := va_S.rf
  have hl := lv_entry (([.ref (gK G t)] : List Value)) (n := 1) (Nat.le_of_ble_eq_true rfl)
  rw [lg_entry_eq]
  generalize (lg_sl (([.ref (gK G t)] : List Value)) ++ List.replicate (1 - (lg_sl (([.ref (gK G t)] : List Value))).length) Slot.unset).toArray = ls at hl ⊢
  have hl : lv_has ls 1 [(0, .ref (gK G t))] := hl
  unfold f_Enum_ordinal at hf
  refine lv_aload_n hx hb d_Enum_ordinal_0 rfl (lv_at hl 0 rfl) ?_
  refine va_getE hx hb (hE.en hAb) hr_t hS hown (q := ("java/lang/Enum", "ordinal", "I", [0, 1, 2, 3, 4, 5, 6, 7])) List.mem_cons_self (hg _ m_48) (fun _ h9 => h9) d_Enum_ordinal_1 ?_
  obtain rfl := Option.some.inj hf
  rw [← hQ]
  exact W.iret (v := (kOrd t)) hx hb hr (fun t9 ht hW => ⟨⟨(kOrd t), (), rfl, rfl, ⟨by rw [ht]; exact hP, hD⟩⟩, hS.F ht⟩) hS.2.2 d_Enum_ordinal_4
theorem d_Kind_goesWith_0 : decode cd_Kind_goesWith 0 = .ok (.aload_n 0, 1) := by decide +kernel
theorem d_Kind_goesWith_1 : decode cd_Kind_goesWith 1 = .ok (.getfield 47, 3) := by decide +kernel
theorem d_Kind_goesWith_4 : decode cd_Kind_goesWith 4 = .ok (.iload_n 1, 1) := by decide +kernel
theorem d_Kind_goesWith_5 : decode cd_Kind_goesWith 5 = .ok (.invokevirtual 51, 3) := by decide +kernel
theorem d_Kind_goesWith_8 : decode cd_Kind_goesWith 8 = .ok (.ifCond .lt 7, 3) := by decide +kernel
theorem d_Kind_goesWith_11 : decode cd_Kind_goesWith 11 = .ok (.iconst 1, 1) := by decide +kernel
theorem d_Kind_goesWith_12 : decode cd_Kind_goesWith 12 = .ok (.goto 4, 3) := by decide +kernel
theorem d_Kind_goesWith_15 : decode cd_Kind_goesWith 15 = .ok (.iconst 0, 1) := by decide +kernel
theorem d_Kind_goesWith_16 : decode cd_Kind_goesWith 16 = .ok (.ireturn, 1) := by decide +kernel
theorem m_49 : Cond.fieldLink R_Kind 47 "SpecifierDesk$Kind" "conversions" "Ljava/lang/String;" ∈ gw := gm (i := 1208) (by decide +kernel) (by decide +kernel)
theorem m_50 : Cond.methodLink R_Kind 51 y_String_indexOf ∈ gw := gm (i := 615) (by decide +kernel) (by decide +kernel)
theorem m_51 : Cond.instanceMethod y_String_indexOf ∈ gw := gm (i := 469) (by decide +kernel) (by decide +kernel)
theorem m_52 : Cond.selects R_String y_String_indexOf y_String_indexOf ∈ gw := gm (i := 470) (by decide +kernel) (by decide +kernel)
set_option maxRecDepth 100000 in
theorem m_53 : Cond.code y_String_indexOf cd_String_indexOf 2 (some .int) ∈ gw := gm (i := 471) rfl rfl
def f_Kind_goesWith (K : Nat) (t : Nat) (a1 : Int32) : Option Int32 :=
  ((f_String_indexOf K (kConv t) a1).bind fun u_5 => (if u_5 < 0 then some (0 : Int32) else some (1 : Int32)))
set_option maxHeartbeats 4000000 in
set_option maxRecDepth 100000 in
theorem c_Kind_goesWith (l : Launch) (G : Gt) (K : Nat) (t : Nat) (a1 : Int32) (sz : Nat) (res : Int32)  (hr_t : t < 8) (hf : f_Kind_goesWith K t a1 = some res) : Met l y_Kind_goesWith (.code y_Kind_goesWith cd_Kind_goesWith 2 (some .boolean) :: gw) { frames := 4, cells := 0, slots := 0, locals := 160 } (PC G ([.ref (gK G t), .int a1] : List Value) sz (w_Preconditions_checkIndexn G )) (QZ G res (va_A (w_Preconditions_checkIndexn G ) sz) (w_Preconditions_checkIndexn G )) 0 0 (va_A (w_Preconditions_checkIndexn G ) sz) := by
  refine Met.ofW (cc := cd_Kind_goesWith) (maxL := 2) (ret := (some .boolean)) (by decide) rfl ?_
  intro p e s m args below meth c s₁ B hml hv
  obtain ⟨rfl, hsz, hP, hE, hD0⟩ := hv
  have hx := B.exec
  have hb := B.bytes
  have hr := B.returns
  have hts := atoms_spec (ws := (.code y_Kind_goesWith cd_Kind_goesWith 2 (some .boolean) :: gw)) B.pre
  have hg : ∀ w ∈ gw, w.before _ s = true := fun w h => hts w (List.mem_cons_of_mem _ h)
  have hown : s.vm.findClass R_Kind = some m.cls := findClass_of_methodNamed B.named
  have hlocks := B.notSynchronized
  subst hsz
  have hK := hE.K
  have hD := hD0.self (sz := s.heap.size)
  have hAb := hE.ab hD0
  obtain ⟨Q, hQ⟩ : ∃ Q, MQ below (QZ G res (va_A (w_Preconditions_checkIndexn G ) s.heap.size) (w_Preconditions_checkIndexn G )) ([.ref (gK G t), .int a1] : List Value).toArray s 0 0 (va_A (w_Preconditions_checkIndexn G ) s.heap.size) = Q := ⟨_, rfl⟩
  show W p l e { frames := 4, cells := 0, slots := 0, locals := 160 } s m ([.ref (gK G t), .int a1] : List Value).toArray below meth c s.heap [] 0 0 (MQ below (QZ G res (va_A (w_Preconditions_checkIndexn G ) s.heap.size) (w_Preconditions_checkIndexn G )) ([.ref (gK G t), .int a1] : List Value).toArray s 0 0 (va_A (w_Preconditions_checkIndexn G ) s.heap.size)) _
  rw [hQ]
  have hA : ∀ q : Nat, s.heap.size ≤ q → va_A (w_Preconditions_checkIndexn G ) s.heap.size q := fun q h => Or.inr h
  obtain ⟨A, hAe⟩ : ∃ A, va_A (w_Preconditions_checkIndexn G ) s.heap.size = A := ⟨_, rfl⟩
  rw [hAe] at hA hD hAb hQ
  have hS : va_S A s.heap s.heap [] := va_S.rf
  have hl := lv_entry (([.ref (gK G t), .int a1] : List Value)) (n := 2) (Nat.le_of_ble_eq_true rfl)
  rw [lg_entry_eq]
  generalize (lg_sl (([.ref (gK G t), .int a1] : List Value)) ++ List.replicate (2 - (lg_sl (([.ref (gK G t), .int a1] : List Value))).length) Slot.unset).toArray = ls at hl ⊢
  have hl : lv_has ls 2 [(0, .ref (gK G t)), (1, .int a1)] := hl
  unfold f_Kind_goesWith at hf
  refine lv_aload_n hx hb d_Kind_goesWith_0 rfl (lv_at hl 0 rfl) ?_
  refine vk_getf hx hb (hE.kc hAb t hr_t) hS hown (hg _ m_49) (fun _ h9 => h9) d_Kind_goesWith_1 ?_
  refine lv_iload_n hx hb d_Kind_goesWith_4 rfl (lv_at hl 1 rfl) ?_
  obtain ⟨u_5, hu_5, hf⟩ := bd_ hf
  refine CALLWi (va_runV (As := [.int a1]) (rest := []) ⟨hx, hb, hml, hown, hg⟩ (c_String_indexOf l G K (kConv t) a1 _ u_5 (kConv_lt t) hu_5) (cwV 1 hg (gV m_50 m_51 m_52 m_21 m_53) rfl rfl rfl (by decide +kernel) ⟨Nat.le_of_ble_eq_true rfl, Nat.le_of_ble_eq_true rfl⟩) ⟨PC_b, vk_recv (hE.vs hAb) (kConv_lt t) hS, PC_p hE hS hAb hP hD⟩ rfl rfl hl.1 rfl (lv_room (Nat.le_of_ble_eq_true rfl)) d_Kind_goesWith_5 ⟨Nat.zero_le _, Nat.zero_le _⟩) hP hD hS hA (fun H locs hP hD hS => ?_)
  have hP : va_P (gD G) vwCl (w_Preconditions_checkIndexn G ) H := hP
  have hD : va_D A (w_Preconditions_checkIndexn G ) := hD
  refine lv_if_lt (tgt := 15) hx hb d_Kind_goesWith_8 (by decide) (fun c_8 => ?_) (fun c_8 => ?_)
  · have hf := ip_ c_8 hf
    refine lv_iconst (v := 0) hx hb d_Kind_goesWith_15 (by decide) ?_
    obtain rfl := Option.some.inj hf
    rw [← hQ]
    exact W.zret (v := (0 : Int32)) hx hb hr (bl_n bl_0) (fun t9 ht hW => ⟨⟨(0 : Int32), (), rfl, ⟨rfl, bl_0⟩, ⟨by rw [ht]; exact hP, hD⟩⟩, hS.F ht⟩) hS.2.2 d_Kind_goesWith_16
  · have hf := in_ c_8 hf
    refine lv_iconst (v := 1) hx hb d_Kind_goesWith_11 (by decide) ?_
    refine lv_goto (tgt := 16) hx hb d_Kind_goesWith_12 (by decide) ?_
    obtain rfl := Option.some.inj hf
    rw [← hQ]
    exact W.zret (v := (1 : Int32)) hx hb hr (bl_n bl_1) (fun t9 ht hW => ⟨⟨(1 : Int32), (), rfl, ⟨rfl, bl_1⟩, ⟨by rw [ht]; exact hP, hD⟩⟩, hS.F ht⟩) hS.2.2 d_Kind_goesWith_16
end
section
theorem d_Row_empty_0 : decode cd_Row_empty 0 = .ok (.aload_n 0, 1) := by decide +kernel
theorem d_Row_empty_1 : decode cd_Row_empty 1 = .ok (.iconst 0, 1) := by decide +kernel
theorem d_Row_empty_2 : decode cd_Row_empty 2 = .ok (.putfield 19, 3) := by decide +kernel
theorem d_Row_empty_5 : decode cd_Row_empty 5 = .ok (.aload_n 0, 1) := by decide +kernel
theorem d_Row_empty_6 : decode cd_Row_empty 6 = .ok (.iconst 0, 1) := by decide +kernel
theorem d_Row_empty_7 : decode cd_Row_empty 7 = .ok (.putfield 23, 3) := by decide +kernel
theorem d_Row_empty_10 : decode cd_Row_empty 10 = .ok (.return_, 1) := by decide +kernel
theorem m_54 : Cond.fieldLink R_Row 19 "SpecifierDesk$Row" "used" "I" ∈ gw := gm (i := 118) (by decide +kernel) (by decide +kernel)
theorem m_55 : Cond.fieldLink R_Row 23 "SpecifierDesk$Row" "burst" "Z" ∈ gw := gm (i := 122) (by decide +kernel) (by decide +kernel)
def f_Row_empty  : Option (Int32 × Int32) :=
  some ((0 : Int32), (0 : Int32))
abbrev w_Row_empty (G : Gt) (qt : Nat) (qt_cells : Nat) (nt_cells : Nat) (t_cells : Nat → Int32) (t_used : Int32) (t_burst : Int32) : va_W := [(qt, .inr (4, [.ref qt_cells, .int t_used, .int t_burst])), (qt_cells, .inl (gC G 0, nt_cells, .inl t_cells))]
set_option maxHeartbeats 4000000 in
set_option maxRecDepth 100000 in
theorem c_Row_empty (l : Launch) (G : Gt) (K : Nat) (qt : Nat) (qt_cells : Nat) (nt_cells : Nat) (t_cells : Nat → Int32) (t_used : Int32) (t_burst : Int32) (sz : Nat) (res : Int32 × Int32)   (hf : f_Row_empty  = some res) : Met l y_Row_empty (.code y_Row_empty cd_Row_empty 1 none :: gw) { frames := 0, cells := 0, slots := 0, locals := 0 } (PC G ([.ref qt] : List Value) sz (w_Row_empty G qt qt_cells nt_cells t_cells t_used t_burst)) (QV G (va_A (w_Row_empty G qt qt_cells nt_cells t_cells t_used t_burst) sz) (w_Row_empty G qt qt_cells nt_cells t_cells res.1 res.2)) 0 0 (va_A (w_Row_empty G qt qt_cells nt_cells t_cells t_used t_burst) sz) := by
  refine Met.ofW (cc := cd_Row_empty) (maxL := 1) (ret := none) (by decide) rfl ?_
  intro p e s m args below meth c s₁ B hml hv
  obtain ⟨rfl, hsz, hP, hE, hD0⟩ := hv
  have hx := B.exec
  have hb := B.bytes
  have hr := B.returns
  have hts := atoms_spec (ws := (.code y_Row_empty cd_Row_empty 1 none :: gw)) B.pre
  have hg : ∀ w ∈ gw, w.before _ s = true := fun w h => hts w (List.mem_cons_of_mem _ h)
  have hown : s.vm.findClass R_Row = some m.cls := findClass_of_methodNamed B.named
  have hlocks := B.notSynchronized
  subst hsz
  have hK := hE.K
  have hD := hD0.self (sz := s.heap.size)
  have hAb := hE.ab hD0
  obtain ⟨Q, hQ⟩ : ∃ Q, MQ below (QV G (va_A (w_Row_empty G qt qt_cells nt_cells t_cells t_used t_burst) s.heap.size) (w_Row_empty G qt qt_cells nt_cells t_cells res.1 res.2)) ([.ref qt] : List Value).toArray s 0 0 (va_A (w_Row_empty G qt qt_cells nt_cells t_cells t_used t_burst) s.heap.size) = Q := ⟨_, rfl⟩
  show W p l e { frames := 0, cells := 0, slots := 0, locals := 0 } s m ([.ref qt] : List Value).toArray below meth c s.heap [] 0 0 (MQ below (QV G (va_A (w_Row_empty G qt qt_cells nt_cells t_cells t_used t_burst) s.heap.size) (w_Row_empty G qt qt_cells nt_cells t_cells res.1 res.2)) ([.ref qt] : List Value).toArray s 0 0 (va_A (w_Row_empty G qt qt_cells nt_cells t_cells t_used t_burst) s.heap.size)) _
  rw [hQ]
  have hA : ∀ q : Nat, s.heap.size ≤ q → va_A (w_Row_empty G qt qt_cells nt_cells t_cells t_used t_burst) s.heap.size q := fun q h => Or.inr h
  obtain ⟨A, hAe⟩ : ∃ A, va_A (w_Row_empty G qt qt_cells nt_cells t_cells t_used t_burst) s.heap.size = A := ⟨_, rfl⟩
  rw [hAe] at hA hD hAb hQ
  have hS : va_S A s.heap s.heap [] := va_S.rf
  have hl := lv_entry (([.ref qt] : List Value)) (n := 1) (Nat.le_of_ble_eq_true rfl)
  rw [lg_entry_eq]
  generalize (lg_sl (([.ref qt] : List Value)) ++ List.replicate (1 - (lg_sl (([.ref qt] : List Value))).length) Slot.unset).toArray = ls at hl ⊢
  have hl : lv_has ls 1 [(0, .ref qt)] := hl
  unfold f_Row_empty at hf
  refine lv_aload_n hx hb d_Row_empty_0 rfl (lv_at hl 0 rfl) ?_
  refine lv_iconst (v := 0) hx hb d_Row_empty_1 (by decide) ?_
  refine va_put (D := gD G) (ci := 4) (v := .int (0 : Int32)) (ty := .int) (C := R_Row) (T := F_Row) (N := 3) hx hb hg in_Row t_Row to_Row no_Row hown hK hP hD hS 0 rfl rfl 1 (by decide) (hg _ m_54) (fun _ h9 => h9) rfl (by decide +kernel) rfl rfl (Nat.le_of_ble_eq_true rfl) d_Row_empty_2 (fun H locs hP hD hS => ?_)
  have hP : va_P (gD G) vwCl (w_Row_empty G qt qt_cells nt_cells t_cells (0 : Int32) t_burst) H := hP
  have hD : va_D A (w_Row_empty G qt qt_cells nt_cells t_cells (0 : Int32) t_burst) := hD
  refine lv_aload_n hx hb d_Row_empty_5 rfl (lv_at hl 0 rfl) ?_
  refine lv_iconst (v := 0) hx hb d_Row_empty_6 (by decide) ?_
  refine va_put (D := gD G) (ci := 4) (v := .int (0 : Int32)) (ty := .boolean) (C := R_Row) (T := F_Row) (N := 3) hx hb hg in_Row t_Row to_Row no_Row hown hK hP hD hS 0 rfl rfl 2 (by decide) (hg _ m_55) (fun _ h9 => h9) rfl (by decide +kernel) (bl_n bl_0) (bl_f bl_0) (Nat.le_of_ble_eq_true rfl) d_Row_empty_7 (fun H locs hP hD hS => ?_)
  have hP : va_P (gD G) vwCl (w_Row_empty G qt qt_cells nt_cells t_cells (0 : Int32) (0 : Int32)) H := hP
  have hD : va_D A (w_Row_empty G qt qt_cells nt_cells t_cells (0 : Int32) (0 : Int32)) := hD
  obtain rfl := Option.some.inj hf
  rw [← hQ]
  exact W.vret hx hb hr (fun t9 ht hW => ⟨⟨(), rfl, trivial, ⟨by rw [ht]; exact hP, hD⟩⟩, hS.F ht⟩) hS.2.2 d_Row_empty_10
theorem d_Row_add_0 : decode cd_Row_add 0 = .ok (.aload_n 0, 1) := by decide +kernel
theorem d_Row_add_1 : decode cd_Row_add 1 = .ok (.getfield 19, 3) := by decide +kernel
theorem d_Row_add_4 : decode cd_Row_add 4 = .ok (.ifCond .lt 15, 3) := by decide +kernel
theorem d_Row_add_7 : decode cd_Row_add 7 = .ok (.aload_n 0, 1) := by decide +kernel
theorem d_Row_add_8 : decode cd_Row_add 8 = .ok (.getfield 19, 3) := by decide +kernel
theorem d_Row_add_11 : decode cd_Row_add 11 = .ok (.aload_n 0, 1) := by decide +kernel
theorem d_Row_add_12 : decode cd_Row_add 12 = .ok (.getfield 13, 3) := by decide +kernel
theorem d_Row_add_15 : decode cd_Row_add 15 = .ok (.arraylength, 1) := by decide +kernel
theorem d_Row_add_16 : decode cd_Row_add 16 = .ok (.if_icmp .lt 9, 3) := by decide +kernel
theorem d_Row_add_19 : decode cd_Row_add 19 = .ok (.aload_n 0, 1) := by decide +kernel
theorem d_Row_add_20 : decode cd_Row_add 20 = .ok (.iconst 1, 1) := by decide +kernel
theorem d_Row_add_21 : decode cd_Row_add 21 = .ok (.putfield 23, 3) := by decide +kernel
theorem d_Row_add_24 : decode cd_Row_add 24 = .ok (.return_, 1) := by decide +kernel
theorem d_Row_add_25 : decode cd_Row_add 25 = .ok (.aload_n 0, 1) := by decide +kernel
theorem d_Row_add_26 : decode cd_Row_add 26 = .ok (.getfield 13, 3) := by decide +kernel
theorem d_Row_add_29 : decode cd_Row_add 29 = .ok (.aload_n 0, 1) := by decide +kernel
theorem d_Row_add_30 : decode cd_Row_add 30 = .ok (.getfield 19, 3) := by decide +kernel
theorem d_Row_add_33 : decode cd_Row_add 33 = .ok (.iload_n 1, 1) := by decide +kernel
theorem d_Row_add_34 : decode cd_Row_add 34 = .ok (.i2b, 1) := by decide +kernel
theorem d_Row_add_35 : decode cd_Row_add 35 = .ok (.bastore, 1) := by decide +kernel
theorem d_Row_add_36 : decode cd_Row_add 36 = .ok (.aload_n 0, 1) := by decide +kernel
theorem d_Row_add_37 : decode cd_Row_add 37 = .ok (.dup, 1) := by decide +kernel
theorem d_Row_add_38 : decode cd_Row_add 38 = .ok (.getfield 19, 3) := by decide +kernel
theorem d_Row_add_41 : decode cd_Row_add 41 = .ok (.iconst 1, 1) := by decide +kernel
theorem d_Row_add_42 : decode cd_Row_add 42 = .ok (.iadd, 1) := by decide +kernel
theorem d_Row_add_43 : decode cd_Row_add 43 = .ok (.putfield 19, 3) := by decide +kernel
theorem d_Row_add_46 : decode cd_Row_add 46 = .ok (.return_, 1) := by decide +kernel
theorem m_56 : Cond.fieldLink R_Row 13 "SpecifierDesk$Row" "cells" "[B" ∈ gw := gm (i := 117) (by decide +kernel) (by decide +kernel)
def k_Row_add_19  (t_used : Int32) (t_burst : Int32) (t_cells : (Nat → Int32)) : Option (Int32 × Int32 × (Nat → Int32)) :=
  some (t_used, (1 : Int32), t_cells)
def f_Row_add (nt_cells : Nat) (t_cells : Nat → Int32) (t_used : Int32) (t_burst : Int32) (a1 : Int32) : Option (Int32 × Int32 × (Nat → Int32)) :=
  (if t_used < 0 then k_Row_add_19  t_used t_burst t_cells else (if t_used < (nI nt_cells) then (if inB t_used nt_cells = true then some ((t_used + (1 : Int32)), t_burst, (upd t_cells t_used.toNatClampNeg (vp_nar .byte a1.toInt8.toInt32))) else none) else k_Row_add_19  t_used t_burst t_cells))
set_option maxHeartbeats 4000000 in
set_option maxRecDepth 100000 in
theorem c_Row_add (l : Launch) (G : Gt) (K : Nat) (qt : Nat) (qt_cells : Nat) (nt_cells : Nat) (t_cells : Nat → Int32) (t_used : Int32) (t_burst : Int32) (a1 : Int32) (sz : Nat) (res : Int32 × Int32 × (Nat → Int32))   (hf : f_Row_add nt_cells t_cells t_used t_burst a1 = some res) : Met l y_Row_add (.code y_Row_add cd_Row_add 2 none :: gw) { frames := 0, cells := 0, slots := 0, locals := 0 } (PC G ([.ref qt, .int a1] : List Value) sz (w_Row_empty G qt qt_cells nt_cells t_cells t_used t_burst)) (QV G (va_A (w_Row_empty G qt qt_cells nt_cells t_cells t_used t_burst) sz) (w_Row_empty G qt qt_cells nt_cells res.2.2 res.1 res.2.1)) 0 0 (va_A (w_Row_empty G qt qt_cells nt_cells t_cells t_used t_burst) sz) := by
  refine Met.ofW (cc := cd_Row_add) (maxL := 2) (ret := none) (by decide) rfl ?_
  intro p e s m args below meth c s₁ B hml hv
  obtain ⟨rfl, hsz, hP, hE, hD0⟩ := hv
  have hx := B.exec
  have hb := B.bytes
  have hr := B.returns
  have hts := atoms_spec (ws := (.code y_Row_add cd_Row_add 2 none :: gw)) B.pre
  have hg : ∀ w ∈ gw, w.before _ s = true := fun w h => hts w (List.mem_cons_of_mem _ h)
  have hown : s.vm.findClass R_Row = some m.cls := findClass_of_methodNamed B.named
  have hlocks := B.notSynchronized
  subst hsz
  have hK := hE.K
  have hD := hD0.self (sz := s.heap.size)
  have hAb := hE.ab hD0
  obtain ⟨Q, hQ⟩ : ∃ Q, MQ below (QV G (va_A (w_Row_empty G qt qt_cells nt_cells t_cells t_used t_burst) s.heap.size) (w_Row_empty G qt qt_cells nt_cells res.2.2 res.1 res.2.1)) ([.ref qt, .int a1] : List Value).toArray s 0 0 (va_A (w_Row_empty G qt qt_cells nt_cells t_cells t_used t_burst) s.heap.size) = Q := ⟨_, rfl⟩
  show W p l e { frames := 0, cells := 0, slots := 0, locals := 0 } s m ([.ref qt, .int a1] : List Value).toArray below meth c s.heap [] 0 0 (MQ below (QV G (va_A (w_Row_empty G qt qt_cells nt_cells t_cells t_used t_burst) s.heap.size) (w_Row_empty G qt qt_cells nt_cells res.2.2 res.1 res.2.1)) ([.ref qt, .int a1] : List Value).toArray s 0 0 (va_A (w_Row_empty G qt qt_cells nt_cells t_cells t_used t_burst) s.heap.size)) _
  rw [hQ]
  have hA : ∀ q : Nat, s.heap.size ≤ q → va_A (w_Row_empty G qt qt_cells nt_cells t_cells t_used t_burst) s.heap.size q := fun q h => Or.inr h
  obtain ⟨A, hAe⟩ : ∃ A, va_A (w_Row_empty G qt qt_cells nt_cells t_cells t_used t_burst) s.heap.size = A := ⟨_, rfl⟩
  rw [hAe] at hA hD hAb hQ
  have hS : va_S A s.heap s.heap [] := va_S.rf
  have hl := lv_entry (([.ref qt, .int a1] : List Value)) (n := 2) (Nat.le_of_ble_eq_true rfl)
  rw [lg_entry_eq]
  generalize (lg_sl (([.ref qt, .int a1] : List Value)) ++ List.replicate (2 - (lg_sl (([.ref qt, .int a1] : List Value))).length) Slot.unset).toArray = ls at hl ⊢
  have hl : lv_has ls 2 [(0, .ref qt), (1, .int a1)] := hl
  have W_19 : ∀ (t_used : Int32) (t_burst : Int32) (t_cells : (Nat → Int32)) , k_Row_add_19  t_used t_burst t_cells = some res → ∀ (H : Heap) (locs : List Loc) (ls : Array Slot), va_P (gD G) vwCl (w_Row_empty G qt qt_cells nt_cells t_cells t_used t_burst) H → va_D A (w_Row_empty G qt qt_cells nt_cells t_cells t_used t_burst) → va_S A s.heap H locs → lv_has ls 2 [(0, .ref qt)] → W p l e { frames := 0, cells := 0, slots := 0, locals := 0 } s m ([.ref qt, .int a1] : List Value).toArray below meth c H locs 0 0 Q (F0 m 19 ls []) := by
    intro t_used t_burst t_cells  hf H locs ls hP hD hS hl
    unfold k_Row_add_19 at hf
    refine lv_aload_n hx hb d_Row_add_19 rfl (lv_at hl 0 rfl) ?_
    refine lv_iconst (v := 1) hx hb d_Row_add_20 (by decide) ?_
    refine va_put (D := gD G) (ci := 4) (v := .int (1 : Int32)) (ty := .boolean) (C := R_Row) (T := F_Row) (N := 3) hx hb hg in_Row t_Row to_Row no_Row hown hK hP hD hS 0 rfl rfl 2 (by decide) (hg _ m_55) (fun _ h9 => h9) rfl (by decide +kernel) (bl_n bl_1) (bl_f bl_1) (Nat.le_of_ble_eq_true rfl) d_Row_add_21 (fun H locs hP hD hS => ?_)
    have hP : va_P (gD G) vwCl (w_Row_empty G qt qt_cells nt_cells t_cells t_used (1 : Int32)) H := hP
    have hD : va_D A (w_Row_empty G qt qt_cells nt_cells t_cells t_used (1 : Int32)) := hD
    obtain rfl := Option.some.inj hf
    rw [← hQ]
    exact W.vret hx hb hr (fun t9 ht hW => ⟨⟨(), rfl, trivial, ⟨by rw [ht]; exact hP, hD⟩⟩, hS.F ht⟩) hS.2.2 d_Row_add_24
  unfold f_Row_add at hf
  refine lv_aload_n hx hb d_Row_add_0 rfl (lv_at hl 0 rfl) ?_
  refine va_get (D := gD G) (ci := 4) (v := .int t_used) (C := R_Row) (T := F_Row) (N := 3) hx hb hg in_Row hown hK hP 0 rfl rfl 1 (by decide) (hg _ m_54) (fun _ h9 => h9) rfl d_Row_add_1 ?_
  refine lv_if_lt (tgt := 19) hx hb d_Row_add_4 (by decide) (fun c_4 => ?_) (fun c_4 => ?_)
  · have hf := ip_ c_4 hf
    exact W_19 t_used t_burst t_cells  hf _ _ _ hP hD hS (lv_sub hl [0] rfl)
  · have hf := in_ c_4 hf
    refine lv_aload_n hx hb d_Row_add_7 rfl (lv_at hl 0 rfl) ?_
    refine va_get (D := gD G) (ci := 4) (v := .int t_used) (C := R_Row) (T := F_Row) (N := 3) hx hb hg in_Row hown hK hP 0 rfl rfl 1 (by decide) (hg _ m_54) (fun _ h9 => h9) rfl d_Row_add_8 ?_
    refine lv_aload_n hx hb d_Row_add_11 rfl (lv_at hl 0 rfl) ?_
    refine va_get (D := gD G) (ci := 4) (v := .ref qt_cells) (C := R_Row) (T := F_Row) (N := 3) hx hb hg in_Row hown hK hP 0 rfl rfl 0 (by decide) (hg _ m_56) (fun _ h9 => h9) rfl d_Row_add_12 ?_
    refine va_alen hx hb hK hP 1 0 rfl rfl (v := nI nt_cells) rfl d_Row_add_15 ?_
    refine lv_icmp_lt (tgt := 25) hx hb d_Row_add_16 (by decide) (fun c_16 => ?_) (fun c_16 => ?_)
    · have hf := ip_ c_16 hf
      refine lv_aload_n hx hb d_Row_add_25 rfl (lv_at hl 0 rfl) ?_
      refine va_get (D := gD G) (ci := 4) (v := .ref qt_cells) (C := R_Row) (T := F_Row) (N := 3) hx hb hg in_Row hown hK hP 0 rfl rfl 0 (by decide) (hg _ m_56) (fun _ h9 => h9) rfl d_Row_add_26 ?_
      refine lv_aload_n hx hb d_Row_add_29 rfl (lv_at hl 0 rfl) ?_
      refine va_get (D := gD G) (ci := 4) (v := .int t_used) (C := R_Row) (T := F_Row) (N := 3) hx hb hg in_Row hown hK hP 0 rfl rfl 1 (by decide) (hg _ m_54) (fun _ h9 => h9) rfl d_Row_add_30 ?_
      refine lv_iload_n hx hb d_Row_add_33 rfl (lv_at hl 1 rfl) ?_
      refine lv_i2b (v := a1.toInt8.toInt32) hx hb d_Row_add_34 rfl ?_
      obtain ⟨g_35, hf⟩ := gd_ hf
      refine va_bast hx hb hK hP hD hS 1 0 rfl rfl (inB_in g_35) d_Row_add_35 (fun H locs hP hD hS => ?_)
      have hP : va_P (gD G) vwCl (w_Row_empty G qt qt_cells nt_cells (upd t_cells t_used.toNatClampNeg (vp_nar .byte a1.toInt8.toInt32)) t_used t_burst) H := hP
      have hD : va_D A (w_Row_empty G qt qt_cells nt_cells (upd t_cells t_used.toNatClampNeg (vp_nar .byte a1.toInt8.toInt32)) t_used t_burst) := hD
      refine lv_aload_n hx hb d_Row_add_36 rfl (lv_at hl 0 rfl) ?_
      refine lv_dup hx hb d_Row_add_37 rfl ?_
      refine va_get (D := gD G) (ci := 4) (v := .int t_used) (C := R_Row) (T := F_Row) (N := 3) hx hb hg in_Row hown hK hP 0 rfl rfl 1 (by decide) (hg _ m_54) (fun _ h9 => h9) rfl d_Row_add_38 ?_
      refine lv_iconst (v := 1) hx hb d_Row_add_41 (by decide) ?_
      refine lv_iadd hx hb d_Row_add_42 ?_
      refine va_put (D := gD G) (ci := 4) (v := .int (t_used + (1 : Int32))) (ty := .int) (C := R_Row) (T := F_Row) (N := 3) hx hb hg in_Row t_Row to_Row no_Row hown hK hP hD hS 0 rfl rfl 1 (by decide) (hg _ m_54) (fun _ h9 => h9) rfl (by decide +kernel) rfl rfl (Nat.le_of_ble_eq_true rfl) d_Row_add_43 (fun H locs hP hD hS => ?_)
      have hP : va_P (gD G) vwCl (w_Row_empty G qt qt_cells nt_cells (upd t_cells t_used.toNatClampNeg (vp_nar .byte a1.toInt8.toInt32)) (t_used + (1 : Int32)) t_burst) H := hP
      have hD : va_D A (w_Row_empty G qt qt_cells nt_cells (upd t_cells t_used.toNatClampNeg (vp_nar .byte a1.toInt8.toInt32)) (t_used + (1 : Int32)) t_burst) := hD
      obtain rfl := Option.some.inj hf
      rw [← hQ]
      exact W.vret hx hb hr (fun t9 ht hW => ⟨⟨(), rfl, trivial, ⟨by rw [ht]; exact hP, hD⟩⟩, hS.F ht⟩) hS.2.2 d_Row_add_46
    · have hf := in_ c_16 hf
      exact W_19 t_used t_burst t_cells  hf _ _ _ hP hD hS (lv_sub hl [0] rfl)
theorem d_Row_addMany_0 : decode cd_Row_addMany 0 = .ok (.iconst 0, 1) := by decide +kernel
theorem d_Row_addMany_1 : decode cd_Row_addMany 1 = .ok (.istore_n 3, 1) := by decide +kernel
theorem d_Row_addMany_2 : decode cd_Row_addMany 2 = .ok (.iload_n 3, 1) := by decide +kernel
theorem d_Row_addMany_3 : decode cd_Row_addMany 3 = .ok (.iload_n 2, 1) := by decide +kernel
theorem d_Row_addMany_4 : decode cd_Row_addMany 4 = .ok (.if_icmp .ge 14, 3) := by decide +kernel
theorem d_Row_addMany_7 : decode cd_Row_addMany 7 = .ok (.aload_n 0, 1) := by decide +kernel
theorem d_Row_addMany_8 : decode cd_Row_addMany 8 = .ok (.iload_n 1, 1) := by decide +kernel
theorem d_Row_addMany_9 : decode cd_Row_addMany 9 = .ok (.invokevirtual 27, 3) := by decide +kernel
theorem d_Row_addMany_12 : decode cd_Row_addMany 12 = .ok (.iinc 3 1, 3) := by decide +kernel
theorem d_Row_addMany_15 : decode cd_Row_addMany 15 = .ok (.goto (-13), 3) := by decide +kernel
theorem d_Row_addMany_18 : decode cd_Row_addMany 18 = .ok (.return_, 1) := by decide +kernel
theorem m_57 : Cond.methodLink R_Row 27 y_Row_add ∈ gw := gm (i := 416) (by decide +kernel) (by decide +kernel)
theorem m_58 : Cond.instanceMethod y_Row_add ∈ gw := gm (i := 322) (by decide +kernel) (by decide +kernel)
theorem m_59 : Cond.selects R_Row y_Row_add y_Row_add ∈ gw := gm (i := 323) (by decide +kernel) (by decide +kernel)
theorem m_60 : Cond.initialized R_Row ∈ gw := gm (i := 83) (by decide +kernel) (by decide +kernel)
set_option maxRecDepth 100000 in
theorem m_61 : Cond.code y_Row_add cd_Row_add 2 none ∈ gw := gm (i := 324) rfl rfl
def b_Row_addMany_2 (nt_cells : Nat) (a1 : Int32) (a2 : Int32)  (rec_2 : (Int32 × Int32 × Int32 × (Nat → Int32)) → Option (Int32 × Int32 × (Nat → Int32))) (z2 : Int32 × Int32 × Int32 × (Nat → Int32)) : Option (Int32 × Int32 × (Nat → Int32)) :=
  (if a2 ≤ z2.1 then some (z2.2.1, z2.2.2.1, z2.2.2.2) else ((f_Row_add nt_cells z2.2.2.2 z2.2.1 z2.2.2.1 a1).bind fun u_9 => rec_2 ((z2.1 + 1), u_9.1, u_9.2.1, u_9.2.2)))
def f_Row_addMany (K : Nat) (nt_cells : Nat) (t_cells : Nat → Int32) (t_used : Int32) (t_burst : Int32) (a1 : Int32) (a2 : Int32) : Option (Int32 × Int32 × (Nat → Int32)) :=
  lp_ (b_Row_addMany_2 nt_cells a1 a2 ) K ((0 : Int32), t_used, t_burst, t_cells)
set_option maxHeartbeats 4000000 in
set_option maxRecDepth 100000 in
theorem c_Row_addMany (l : Launch) (G : Gt) (K : Nat) (qt : Nat) (qt_cells : Nat) (nt_cells : Nat) (t_cells : Nat → Int32) (t_used : Int32) (t_burst : Int32) (a1 : Int32) (a2 : Int32) (sz : Nat) (res : Int32 × Int32 × (Nat → Int32))   (hf : f_Row_addMany K nt_cells t_cells t_used t_burst a1 a2 = some res) : Met l y_Row_addMany (.code y_Row_addMany cd_Row_addMany 4 none :: gw) { frames := 1, cells := 0, slots := 0, locals := 40 } (PC G ([.ref qt, .int a1, .int a2] : List Value) sz (w_Row_empty G qt qt_cells nt_cells t_cells t_used t_burst)) (QV G (va_A (w_Row_empty G qt qt_cells nt_cells t_cells t_used t_burst) sz) (w_Row_empty G qt qt_cells nt_cells res.2.2 res.1 res.2.1)) 0 0 (va_A (w_Row_empty G qt qt_cells nt_cells t_cells t_used t_burst) sz) := by
  refine Met.ofW (cc := cd_Row_addMany) (maxL := 4) (ret := none) (by decide) rfl ?_
  intro p e s m args below meth c s₁ B hml hv
  obtain ⟨rfl, hsz, hP, hE, hD0⟩ := hv
  have hx := B.exec
  have hb := B.bytes
  have hr := B.returns
  have hts := atoms_spec (ws := (.code y_Row_addMany cd_Row_addMany 4 none :: gw)) B.pre
  have hg : ∀ w ∈ gw, w.before _ s = true := fun w h => hts w (List.mem_cons_of_mem _ h)
  have hown : s.vm.findClass R_Row = some m.cls := findClass_of_methodNamed B.named
  have hlocks := B.notSynchronized
  subst hsz
  have hK := hE.K
  have hD := hD0.self (sz := s.heap.size)
  have hAb := hE.ab hD0
  obtain ⟨Q, hQ⟩ : ∃ Q, MQ below (QV G (va_A (w_Row_empty G qt qt_cells nt_cells t_cells t_used t_burst) s.heap.size) (w_Row_empty G qt qt_cells nt_cells res.2.2 res.1 res.2.1)) ([.ref qt, .int a1, .int a2] : List Value).toArray s 0 0 (va_A (w_Row_empty G qt qt_cells nt_cells t_cells t_used t_burst) s.heap.size) = Q := ⟨_, rfl⟩
  show W p l e { frames := 1, cells := 0, slots := 0, locals := 40 } s m ([.ref qt, .int a1, .int a2] : List Value).toArray below meth c s.heap [] 0 0 (MQ below (QV G (va_A (w_Row_empty G qt qt_cells nt_cells t_cells t_used t_burst) s.heap.size) (w_Row_empty G qt qt_cells nt_cells res.2.2 res.1 res.2.1)) ([.ref qt, .int a1, .int a2] : List Value).toArray s 0 0 (va_A (w_Row_empty G qt qt_cells nt_cells t_cells t_used t_burst) s.heap.size)) _
  rw [hQ]
  have hA : ∀ q : Nat, s.heap.size ≤ q → va_A (w_Row_empty G qt qt_cells nt_cells t_cells t_used t_burst) s.heap.size q := fun q h => Or.inr h
  obtain ⟨A, hAe⟩ : ∃ A, va_A (w_Row_empty G qt qt_cells nt_cells t_cells t_used t_burst) s.heap.size = A := ⟨_, rfl⟩
  rw [hAe] at hA hD hAb hQ
  have hS : va_S A s.heap s.heap [] := va_S.rf
  have hl := lv_entry (([.ref qt, .int a1, .int a2] : List Value)) (n := 4) (Nat.le_of_ble_eq_true rfl)
  rw [lg_entry_eq]
  generalize (lg_sl (([.ref qt, .int a1, .int a2] : List Value)) ++ List.replicate (4 - (lg_sl (([.ref qt, .int a1, .int a2] : List Value))).length) Slot.unset).toArray = ls at hl ⊢
  have hl : lv_has ls 4 [(0, .ref qt), (1, .int a1), (2, .int a2)] := hl
  have W_2 : ∀   (n_2 : Nat) (z2 : Int32 × Int32 × Int32 × (Nat → Int32)) , lp_ (b_Row_addMany_2 nt_cells a1 a2 ) n_2 z2 = some res → ∀ (H : Heap) (locs : List Loc) (ls : Array Slot), va_P (gD G) vwCl (w_Row_empty G qt qt_cells nt_cells z2.2.2.2 z2.2.1 z2.2.2.1) H → va_D A (w_Row_empty G qt qt_cells nt_cells z2.2.2.2 z2.2.1 z2.2.2.1) → va_S A s.heap H locs → lv_has ls 4 [(0, .ref qt), (1, .int a1), (2, .int a2), (3, .int z2.1)] → W p l e { frames := 1, cells := 0, slots := 0, locals := 40 } s m ([.ref qt, .int a1, .int a2] : List Value).toArray below meth c H locs 0 0 Q (F0 m 2 ls []) := by
    intro  n_2
    induction n_2 with
    | zero =>
      intro z2  hf
      cases hf
    | succ n_2 ih_2 =>
      intro z2  hf H locs ls hP hD hS hl
      have hf : b_Row_addMany_2 nt_cells a1 a2  (lp_ (b_Row_addMany_2 nt_cells a1 a2 ) n_2) z2 = some res := hf
      generalize lp_ (b_Row_addMany_2 nt_cells a1 a2 ) n_2 = rec_2 at hf ih_2
      unfold b_Row_addMany_2 at hf
      refine lv_iload_n hx hb d_Row_addMany_2 rfl (lv_at hl 3 rfl) ?_
      refine lv_iload_n hx hb d_Row_addMany_3 rfl (lv_at hl 2 rfl) ?_
      refine lv_icmp_ge (tgt := 18) hx hb d_Row_addMany_4 (by decide) (fun c_4 => ?_) (fun c_4 => ?_)
      · have hf := ip_ c_4 hf
        obtain rfl := Option.some.inj hf
        rw [← hQ]
        exact W.vret hx hb hr (fun t9 ht hW => ⟨⟨(), rfl, trivial, ⟨by rw [ht]; exact hP, hD⟩⟩, hS.F ht⟩) hS.2.2 d_Row_addMany_18
      · have hf := in_ c_4 hf
        refine lv_aload_n hx hb d_Row_addMany_7 rfl (lv_at hl 0 rfl) ?_
        refine lv_iload_n hx hb d_Row_addMany_8 rfl (lv_at hl 1 rfl) ?_
        obtain ⟨u_9, hu_9, hf⟩ := bd_ hf
        refine CALLWv (va_runV (As := [.int a1]) (rest := []) ⟨hx, hb, hml, hown, hg⟩ (c_Row_add l G K qt qt_cells nt_cells z2.2.2.2 z2.2.1 z2.2.2.1 a1 _ u_9  hu_9) (cwV 1 hg (gV m_57 m_58 m_59 m_60 m_61) rfl rfl rfl (by decide +kernel) ⟨Nat.le_of_ble_eq_true rfl, Nat.le_of_ble_eq_true rfl⟩) ⟨PC_b, va_recv hK hP (ci := 4) (q0 := 0) rfl rfl, PC_p hE hS hAb hP hD⟩ rfl rfl hl.1 rfl (lv_room (Nat.le_of_ble_eq_true rfl)) d_Row_addMany_9 ⟨Nat.zero_le _, Nat.zero_le _⟩) hP hD hS hA (fun H locs hP hD hS => ?_)
        have hP : va_P (gD G) vwCl (w_Row_empty G qt qt_cells nt_cells u_9.2.2 u_9.1 u_9.2.1) H := hP
        have hD : va_D A (w_Row_empty G qt qt_cells nt_cells u_9.2.2 u_9.1 u_9.2.1) := hD
        refine lv_iinc (v := (z2.1 + 1)) (lv' := [(3, .int (z2.1 + 1)), (0, .ref qt), (1, .int a1), (2, .int a2)]) hx hb d_Row_addMany_12 hl (k := 3) rfl rfl (by decide) rfl (fun ls hl => ?_)
        refine lv_goto (tgt := 2) hx hb d_Row_addMany_15 (by decide) ?_
        exact ih_2 ((z2.1 + 1), u_9.1, u_9.2.1, u_9.2.2)  hf _ _ _ hP hD hS (lv_sub hl [1, 2, 3, 0] rfl)
  unfold f_Row_addMany at hf
  refine lv_iconst (v := 0) hx hb d_Row_addMany_0 (by decide) ?_
  refine lv_istore_n (lv' := [(3, .int (0 : Int32)), (0, .ref qt), (1, .int a1), (2, .int a2)]) hx hb d_Row_addMany_1 rfl hl (by decide) rfl (fun ls hl => ?_)
  exact W_2   K ((0 : Int32), t_used, t_burst, t_cells)  hf _ _ _ hP hD hS (lv_sub hl [1, 2, 3, 0] rfl)
theorem d_Row_at_0 : decode cd_Row_at 0 = .ok (.iload_n 1, 1) := by decide +kernel
theorem d_Row_at_1 : decode cd_Row_at 1 = .ok (.ifCond .lt 29, 3) := by decide +kernel
theorem d_Row_at_4 : decode cd_Row_at 4 = .ok (.iload_n 1, 1) := by decide +kernel
theorem d_Row_at_5 : decode cd_Row_at 5 = .ok (.aload_n 0, 1) := by decide +kernel
theorem d_Row_at_6 : decode cd_Row_at 6 = .ok (.getfield 19, 3) := by decide +kernel
theorem d_Row_at_9 : decode cd_Row_at 9 = .ok (.if_icmp .ge 21, 3) := by decide +kernel
theorem d_Row_at_12 : decode cd_Row_at 12 = .ok (.iload_n 1, 1) := by decide +kernel
theorem d_Row_at_13 : decode cd_Row_at 13 = .ok (.aload_n 0, 1) := by decide +kernel
theorem d_Row_at_14 : decode cd_Row_at 14 = .ok (.getfield 13, 3) := by decide +kernel
theorem d_Row_at_17 : decode cd_Row_at 17 = .ok (.arraylength, 1) := by decide +kernel
theorem d_Row_at_18 : decode cd_Row_at 18 = .ok (.if_icmp .ge 12, 3) := by decide +kernel
theorem d_Row_at_21 : decode cd_Row_at 21 = .ok (.aload_n 0, 1) := by decide +kernel
theorem d_Row_at_22 : decode cd_Row_at 22 = .ok (.getfield 13, 3) := by decide +kernel
theorem d_Row_at_25 : decode cd_Row_at 25 = .ok (.iload_n 1, 1) := by decide +kernel
theorem d_Row_at_26 : decode cd_Row_at 26 = .ok (.baload, 1) := by decide +kernel
theorem d_Row_at_27 : decode cd_Row_at 27 = .ok (.goto 4, 3) := by decide +kernel
theorem d_Row_at_30 : decode cd_Row_at 30 = .ok (.iconst (-1), 1) := by decide +kernel
theorem d_Row_at_31 : decode cd_Row_at 31 = .ok (.ireturn, 1) := by decide +kernel
def f_Row_at (nt_cells : Nat) (t_cells : Nat → Int32) (t_used : Int32) (a1 : Int32) : Option Int32 :=
  (if a1 < 0 then some (-1 : Int32) else (if t_used ≤ a1 then some (-1 : Int32) else (if (nI nt_cells) ≤ a1 then some (-1 : Int32) else (if inB a1 nt_cells = true then some (t_cells a1.toNatClampNeg) else none))))
set_option maxHeartbeats 4000000 in
set_option maxRecDepth 100000 in
theorem c_Row_at (l : Launch) (G : Gt) (K : Nat) (qt : Nat) (qt_cells : Nat) (nt_cells : Nat) (t_cells : Nat → Int32) (t_used : Int32) (t_burst : Int32) (a1 : Int32) (sz : Nat) (res : Int32)   (hf : f_Row_at nt_cells t_cells t_used a1 = some res) : Met l y_Row_at (.code y_Row_at cd_Row_at 2 (some .int) :: gw) { frames := 0, cells := 0, slots := 0, locals := 0 } (PC G ([.ref qt, .int a1] : List Value) sz (w_Row_empty G qt qt_cells nt_cells t_cells t_used t_burst)) (QI G res (va_A (w_Row_empty G qt qt_cells nt_cells t_cells t_used t_burst) sz) (w_Row_empty G qt qt_cells nt_cells t_cells t_used t_burst)) 0 0 (va_A (w_Row_empty G qt qt_cells nt_cells t_cells t_used t_burst) sz) := by
  refine Met.ofW (cc := cd_Row_at) (maxL := 2) (ret := (some .int)) (by decide) rfl ?_
  intro p e s m args below meth c s₁ B hml hv
  obtain ⟨rfl, hsz, hP, hE, hD0⟩ := hv
  have hx := B.exec
  have hb := B.bytes
  have hr := B.returns
  have hts := atoms_spec (ws := (.code y_Row_at cd_Row_at 2 (some .int) :: gw)) B.pre
  have hg : ∀ w ∈ gw, w.before _ s = true := fun w h => hts w (List.mem_cons_of_mem _ h)
  have hown : s.vm.findClass R_Row = some m.cls := findClass_of_methodNamed B.named
  have hlocks := B.notSynchronized
  subst hsz
  have hK := hE.K
  have hD := hD0.self (sz := s.heap.size)
  have hAb := hE.ab hD0
  obtain ⟨Q, hQ⟩ : ∃ Q, MQ below (QI G res (va_A (w_Row_empty G qt qt_cells nt_cells t_cells t_used t_burst) s.heap.size) (w_Row_empty G qt qt_cells nt_cells t_cells t_used t_burst)) ([.ref qt, .int a1] : List Value).toArray s 0 0 (va_A (w_Row_empty G qt qt_cells nt_cells t_cells t_used t_burst) s.heap.size) = Q := ⟨_, rfl⟩
  show W p l e { frames := 0, cells := 0, slots := 0, locals := 0 } s m ([.ref qt, .int a1] : List Value).toArray below meth c s.heap [] 0 0 (MQ below (QI G res (va_A (w_Row_empty G qt qt_cells nt_cells t_cells t_used t_burst) s.heap.size) (w_Row_empty G qt qt_cells nt_cells t_cells t_used t_burst)) ([.ref qt, .int a1] : List Value).toArray s 0 0 (va_A (w_Row_empty G qt qt_cells nt_cells t_cells t_used t_burst) s.heap.size)) _
  rw [hQ]
  have hA : ∀ q : Nat, s.heap.size ≤ q → va_A (w_Row_empty G qt qt_cells nt_cells t_cells t_used t_burst) s.heap.size q := fun q h => Or.inr h
  obtain ⟨A, hAe⟩ : ∃ A, va_A (w_Row_empty G qt qt_cells nt_cells t_cells t_used t_burst) s.heap.size = A := ⟨_, rfl⟩
  rw [hAe] at hA hD hAb hQ
  have hS : va_S A s.heap s.heap [] := va_S.rf
  have hl := lv_entry (([.ref qt, .int a1] : List Value)) (n := 2) (Nat.le_of_ble_eq_true rfl)
  rw [lg_entry_eq]
  generalize (lg_sl (([.ref qt, .int a1] : List Value)) ++ List.replicate (2 - (lg_sl (([.ref qt, .int a1] : List Value))).length) Slot.unset).toArray = ls at hl ⊢
  have hl : lv_has ls 2 [(0, .ref qt), (1, .int a1)] := hl
  unfold f_Row_at at hf
  refine lv_iload_n hx hb d_Row_at_0 rfl (lv_at hl 1 rfl) ?_
  refine lv_if_lt (tgt := 30) hx hb d_Row_at_1 (by decide) (fun c_1 => ?_) (fun c_1 => ?_)
  · have hf := ip_ c_1 hf
    refine lv_iconst (v := -1) hx hb d_Row_at_30 (by decide) ?_
    obtain rfl := Option.some.inj hf
    rw [← hQ]
    exact W.iret (v := (-1 : Int32)) hx hb hr (fun t9 ht hW => ⟨⟨(-1 : Int32), (), rfl, rfl, ⟨by rw [ht]; exact hP, hD⟩⟩, hS.F ht⟩) hS.2.2 d_Row_at_31
  · have hf := in_ c_1 hf
    refine lv_iload_n hx hb d_Row_at_4 rfl (lv_at hl 1 rfl) ?_
    refine lv_aload_n hx hb d_Row_at_5 rfl (lv_at hl 0 rfl) ?_
    refine va_get (D := gD G) (ci := 4) (v := .int t_used) (C := R_Row) (T := F_Row) (N := 3) hx hb hg in_Row hown hK hP 0 rfl rfl 1 (by decide) (hg _ m_54) (fun _ h9 => h9) rfl d_Row_at_6 ?_
    refine lv_icmp_ge (tgt := 30) hx hb d_Row_at_9 (by decide) (fun c_9 => ?_) (fun c_9 => ?_)
    · have hf := ip_ c_9 hf
      refine lv_iconst (v := -1) hx hb d_Row_at_30 (by decide) ?_
      obtain rfl := Option.some.inj hf
      rw [← hQ]
      exact W.iret (v := (-1 : Int32)) hx hb hr (fun t9 ht hW => ⟨⟨(-1 : Int32), (), rfl, rfl, ⟨by rw [ht]; exact hP, hD⟩⟩, hS.F ht⟩) hS.2.2 d_Row_at_31
    · have hf := in_ c_9 hf
      refine lv_iload_n hx hb d_Row_at_12 rfl (lv_at hl 1 rfl) ?_
      refine lv_aload_n hx hb d_Row_at_13 rfl (lv_at hl 0 rfl) ?_
      refine va_get (D := gD G) (ci := 4) (v := .ref qt_cells) (C := R_Row) (T := F_Row) (N := 3) hx hb hg in_Row hown hK hP 0 rfl rfl 0 (by decide) (hg _ m_56) (fun _ h9 => h9) rfl d_Row_at_14 ?_
      refine va_alen hx hb hK hP 1 0 rfl rfl (v := nI nt_cells) rfl d_Row_at_17 ?_
      refine lv_icmp_ge (tgt := 30) hx hb d_Row_at_18 (by decide) (fun c_18 => ?_) (fun c_18 => ?_)
      · have hf := ip_ c_18 hf
        refine lv_iconst (v := -1) hx hb d_Row_at_30 (by decide) ?_
        obtain rfl := Option.some.inj hf
        rw [← hQ]
        exact W.iret (v := (-1 : Int32)) hx hb hr (fun t9 ht hW => ⟨⟨(-1 : Int32), (), rfl, rfl, ⟨by rw [ht]; exact hP, hD⟩⟩, hS.F ht⟩) hS.2.2 d_Row_at_31
      · have hf := in_ c_18 hf
        refine lv_aload_n hx hb d_Row_at_21 rfl (lv_at hl 0 rfl) ?_
        refine va_get (D := gD G) (ci := 4) (v := .ref qt_cells) (C := R_Row) (T := F_Row) (N := 3) hx hb hg in_Row hown hK hP 0 rfl rfl 0 (by decide) (hg _ m_56) (fun _ h9 => h9) rfl d_Row_at_22 ?_
        refine lv_iload_n hx hb d_Row_at_25 rfl (lv_at hl 1 rfl) ?_
        obtain ⟨g_26, hf⟩ := gd_ hf
        refine va_bald hx hb hK hP 1 0 rfl rfl (inB_in g_26) d_Row_at_26 ?_
        refine lv_goto (tgt := 31) hx hb d_Row_at_27 (by decide) ?_
        obtain rfl := Option.some.inj hf
        rw [← hQ]
        exact W.iret (v := (t_cells a1.toNatClampNeg)) hx hb hr (fun t9 ht hW => ⟨⟨(t_cells a1.toNatClampNeg), (), rfl, rfl, ⟨by rw [ht]; exact hP, hD⟩⟩, hS.F ht⟩) hS.2.2 d_Row_at_31
theorem d_Row_addRow_0 : decode cd_Row_addRow 0 = .ok (.iconst 0, 1) := by decide +kernel
theorem d_Row_addRow_1 : decode cd_Row_addRow 1 = .ok (.istore_n 2, 1) := by decide +kernel
theorem d_Row_addRow_2 : decode cd_Row_addRow 2 = .ok (.iload_n 2, 1) := by decide +kernel
theorem d_Row_addRow_3 : decode cd_Row_addRow 3 = .ok (.aload_n 1, 1) := by decide +kernel
theorem d_Row_addRow_4 : decode cd_Row_addRow 4 = .ok (.getfield 19, 3) := by decide +kernel
theorem d_Row_addRow_7 : decode cd_Row_addRow 7 = .ok (.if_icmp .ge 18, 3) := by decide +kernel
theorem d_Row_addRow_10 : decode cd_Row_addRow 10 = .ok (.aload_n 0, 1) := by decide +kernel
theorem d_Row_addRow_11 : decode cd_Row_addRow 11 = .ok (.aload_n 1, 1) := by decide +kernel
theorem d_Row_addRow_12 : decode cd_Row_addRow 12 = .ok (.iload_n 2, 1) := by decide +kernel
theorem d_Row_addRow_13 : decode cd_Row_addRow 13 = .ok (.invokevirtual 41, 3) := by decide +kernel
theorem d_Row_addRow_16 : decode cd_Row_addRow 16 = .ok (.invokevirtual 27, 3) := by decide +kernel
theorem d_Row_addRow_19 : decode cd_Row_addRow 19 = .ok (.iinc 2 1, 3) := by decide +kernel
theorem d_Row_addRow_22 : decode cd_Row_addRow 22 = .ok (.goto (-20), 3) := by decide +kernel
theorem d_Row_addRow_25 : decode cd_Row_addRow 25 = .ok (.return_, 1) := by decide +kernel
theorem m_62 : Cond.methodLink R_Row 41 y_Row_at ∈ gw := gm (i := 412) (by decide +kernel) (by decide +kernel)
theorem m_63 : Cond.instanceMethod y_Row_at ∈ gw := gm (i := 413) (by decide +kernel) (by decide +kernel)
theorem m_64 : Cond.selects R_Row y_Row_at y_Row_at ∈ gw := gm (i := 414) (by decide +kernel) (by decide +kernel)
set_option maxRecDepth 100000 in
theorem m_65 : Cond.code y_Row_at cd_Row_at 2 (some .int) ∈ gw := gm (i := 415) rfl rfl
def b_Row_addRow_2 (nt_cells : Nat) (na1_cells : Nat) (a1_cells : Nat → Int32) (a1_used : Int32)  (rec_2 : (Int32 × Int32 × Int32 × (Nat → Int32)) → Option (Int32 × Int32 × (Nat → Int32))) (z2 : Int32 × Int32 × Int32 × (Nat → Int32)) : Option (Int32 × Int32 × (Nat → Int32)) :=
  (if a1_used ≤ z2.1 then some (z2.2.1, z2.2.2.1, z2.2.2.2) else ((f_Row_at na1_cells a1_cells a1_used z2.1).bind fun u_13 => ((f_Row_add nt_cells z2.2.2.2 z2.2.1 z2.2.2.1 u_13).bind fun u_16 => rec_2 ((z2.1 + 1), u_16.1, u_16.2.1, u_16.2.2))))
def f_Row_addRow (K : Nat) (nt_cells : Nat) (t_cells : Nat → Int32) (t_used : Int32) (t_burst : Int32) (na1_cells : Nat) (a1_cells : Nat → Int32) (a1_used : Int32) : Option (Int32 × Int32 × (Nat → Int32)) :=
  lp_ (b_Row_addRow_2 nt_cells na1_cells a1_cells a1_used ) K ((0 : Int32), t_used, t_burst, t_cells)
abbrev w_Row_addRow (G : Gt) (qt : Nat) (qt_cells : Nat) (nt_cells : Nat) (t_cells : Nat → Int32) (t_used : Int32) (t_burst : Int32) (qa1 : Nat) (qa1_cells : Nat) (na1_cells : Nat) (a1_cells : Nat → Int32) (a1_used : Int32) (a1_burst : Int32) : va_W := [(qt, .inr (4, [.ref qt_cells, .int t_used, .int t_burst])), (qt_cells, .inl (gC G 0, nt_cells, .inl t_cells)), (qa1, .inr (4, [.ref qa1_cells, .int a1_used, .int a1_burst])), (qa1_cells, .inl (gC G 0, na1_cells, .inl a1_cells))]
set_option maxHeartbeats 4000000 in
set_option maxRecDepth 100000 in
theorem c_Row_addRow (l : Launch) (G : Gt) (K : Nat) (qt : Nat) (qt_cells : Nat) (nt_cells : Nat) (t_cells : Nat → Int32) (t_used : Int32) (t_burst : Int32) (qa1 : Nat) (qa1_cells : Nat) (na1_cells : Nat) (a1_cells : Nat → Int32) (a1_used : Int32) (a1_burst : Int32) (sz : Nat) (res : Int32 × Int32 × (Nat → Int32))   (hf : f_Row_addRow K nt_cells t_cells t_used t_burst na1_cells a1_cells a1_used = some res) : Met l y_Row_addRow (.code y_Row_addRow cd_Row_addRow 3 none :: gw) { frames := 1, cells := 0, slots := 0, locals := 40 } (PC G ([.ref qt, .ref qa1] : List Value) sz (w_Row_addRow G qt qt_cells nt_cells t_cells t_used t_burst qa1 qa1_cells na1_cells a1_cells a1_used a1_burst)) (QV G (va_A (w_Row_addRow G qt qt_cells nt_cells t_cells t_used t_burst qa1 qa1_cells na1_cells a1_cells a1_used a1_burst) sz) (w_Row_addRow G qt qt_cells nt_cells res.2.2 res.1 res.2.1 qa1 qa1_cells na1_cells a1_cells a1_used a1_burst)) 0 0 (va_A (w_Row_addRow G qt qt_cells nt_cells t_cells t_used t_burst qa1 qa1_cells na1_cells a1_cells a1_used a1_burst) sz) := by
  refine Met.ofW (cc := cd_Row_addRow) (maxL := 3) (ret := none) (by decide) rfl ?_
  intro p e s m args below meth c s₁ B hml hv
  obtain ⟨rfl, hsz, hP, hE, hD0⟩ := hv
  have hx := B.exec
  have hb := B.bytes
  have hr := B.returns
  have hts := atoms_spec (ws := (.code y_Row_addRow cd_Row_addRow 3 none :: gw)) B.pre
  have hg : ∀ w ∈ gw, w.before _ s = true := fun w h => hts w (List.mem_cons_of_mem _ h)
  have hown : s.vm.findClass R_Row = some m.cls := findClass_of_methodNamed B.named
  have hlocks := B.notSynchronized
  subst hsz
  have hK := hE.K
  have hD := hD0.self (sz := s.heap.size)
  have hAb := hE.ab hD0
  obtain ⟨Q, hQ⟩ : ∃ Q, MQ below (QV G (va_A (w_Row_addRow G qt qt_cells nt_cells t_cells t_used t_burst qa1 qa1_cells na1_cells a1_cells a1_used a1_burst) s.heap.size) (w_Row_addRow G qt qt_cells nt_cells res.2.2 res.1 res.2.1 qa1 qa1_cells na1_cells a1_cells a1_used a1_burst)) ([.ref qt, .ref qa1] : List Value).toArray s 0 0 (va_A (w_Row_addRow G qt qt_cells nt_cells t_cells t_used t_burst qa1 qa1_cells na1_cells a1_cells a1_used a1_burst) s.heap.size) = Q := ⟨_, rfl⟩
  show W p l e { frames := 1, cells := 0, slots := 0, locals := 40 } s m ([.ref qt, .ref qa1] : List Value).toArray below meth c s.heap [] 0 0 (MQ below (QV G (va_A (w_Row_addRow G qt qt_cells nt_cells t_cells t_used t_burst qa1 qa1_cells na1_cells a1_cells a1_used a1_burst) s.heap.size) (w_Row_addRow G qt qt_cells nt_cells res.2.2 res.1 res.2.1 qa1 qa1_cells na1_cells a1_cells a1_used a1_burst)) ([.ref qt, .ref qa1] : List Value).toArray s 0 0 (va_A (w_Row_addRow G qt qt_cells nt_cells t_cells t_used t_burst qa1 qa1_cells na1_cells a1_cells a1_used a1_burst) s.heap.size)) _
  rw [hQ]
  have hA : ∀ q : Nat, s.heap.size ≤ q → va_A (w_Row_addRow G qt qt_cells nt_cells t_cells t_used t_burst qa1 qa1_cells na1_cells a1_cells a1_used a1_burst) s.heap.size q := fun q h => Or.inr h
  obtain ⟨A, hAe⟩ : ∃ A, va_A (w_Row_addRow G qt qt_cells nt_cells t_cells t_used t_burst qa1 qa1_cells na1_cells a1_cells a1_used a1_burst) s.heap.size = A := ⟨_, rfl⟩
  rw [hAe] at hA hD hAb hQ
  have hS : va_S A s.heap s.heap [] := va_S.rf
  have hl := lv_entry (([.ref qt, .ref qa1] : List Value)) (n := 3) (Nat.le_of_ble_eq_true rfl)
  rw [lg_entry_eq]
  generalize (lg_sl (([.ref qt, .ref qa1] : List Value)) ++ List.replicate (3 - (lg_sl (([.ref qt, .ref qa1] : List Value))).length) Slot.unset).toArray = ls at hl ⊢
  have hl : lv_has ls 3 [(0, .ref qt), (1, .ref qa1)] := hl
  have W_2 : ∀   (n_2 : Nat) (z2 : Int32 × Int32 × Int32 × (Nat → Int32)) , lp_ (b_Row_addRow_2 nt_cells na1_cells a1_cells a1_used ) n_2 z2 = some res → ∀ (H : Heap) (locs : List Loc) (ls : Array Slot), va_P (gD G) vwCl (w_Row_addRow G qt qt_cells nt_cells z2.2.2.2 z2.2.1 z2.2.2.1 qa1 qa1_cells na1_cells a1_cells a1_used a1_burst) H → va_D A (w_Row_addRow G qt qt_cells nt_cells z2.2.2.2 z2.2.1 z2.2.2.1 qa1 qa1_cells na1_cells a1_cells a1_used a1_burst) → va_S A s.heap H locs → lv_has ls 3 [(0, .ref qt), (1, .ref qa1), (2, .int z2.1)] → W p l e { frames := 1, cells := 0, slots := 0, locals := 40 } s m ([.ref qt, .ref qa1] : List Value).toArray below meth c H locs 0 0 Q (F0 m 2 ls []) := by
    intro  n_2
    induction n_2 with
    | zero =>
      intro z2  hf
      cases hf
    | succ n_2 ih_2 =>
      intro z2  hf H locs ls hP hD hS hl
      have hf : b_Row_addRow_2 nt_cells na1_cells a1_cells a1_used  (lp_ (b_Row_addRow_2 nt_cells na1_cells a1_cells a1_used ) n_2) z2 = some res := hf
      generalize lp_ (b_Row_addRow_2 nt_cells na1_cells a1_cells a1_used ) n_2 = rec_2 at hf ih_2
      unfold b_Row_addRow_2 at hf
      refine lv_iload_n hx hb d_Row_addRow_2 rfl (lv_at hl 2 rfl) ?_
      refine lv_aload_n hx hb d_Row_addRow_3 rfl (lv_at hl 1 rfl) ?_
      refine va_get (D := gD G) (ci := 4) (v := .int a1_used) (C := R_Row) (T := F_Row) (N := 3) hx hb hg in_Row hown hK hP 2 rfl rfl 1 (by decide) (hg _ m_54) (fun _ h9 => h9) rfl d_Row_addRow_4 ?_
      refine lv_icmp_ge (tgt := 25) hx hb d_Row_addRow_7 (by decide) (fun c_7 => ?_) (fun c_7 => ?_)
      · have hf := ip_ c_7 hf
        obtain rfl := Option.some.inj hf
        rw [← hQ]
        exact W.vret hx hb hr (fun t9 ht hW => ⟨⟨(), rfl, trivial, ⟨by rw [ht]; exact hP, hD⟩⟩, hS.F ht⟩) hS.2.2 d_Row_addRow_25
      · have hf := in_ c_7 hf
        refine lv_aload_n hx hb d_Row_addRow_10 rfl (lv_at hl 0 rfl) ?_
        refine lv_aload_n hx hb d_Row_addRow_11 rfl (lv_at hl 1 rfl) ?_
        refine lv_iload_n hx hb d_Row_addRow_12 rfl (lv_at hl 2 rfl) ?_
        obtain ⟨u_13, hu_13, hf⟩ := bd_ hf
        refine CALLi (va_runV (As := [.int z2.1]) (rest := [.ref qt]) ⟨hx, hb, hml, hown, hg⟩ (c_Row_at l G K qa1 qa1_cells na1_cells a1_cells a1_used a1_burst z2.1 _ u_13  hu_13) (cwV 1 hg (gV m_62 m_63 m_64 m_60 m_65) rfl rfl rfl (by decide +kernel) ⟨Nat.le_of_ble_eq_true rfl, Nat.le_of_ble_eq_true rfl⟩) ⟨PC_b, va_recv hK hP (ci := 4) (q0 := 2) rfl rfl, PC_p hE hS hAb (hP.sub [2, 3] rfl) (hD.sub [2, 3] (by decide) rfl)⟩ rfl rfl hl.1 rfl (lv_room (Nat.le_of_ble_eq_true rfl)) d_Row_addRow_13 ⟨Nat.zero_le _, Nat.zero_le _⟩) hP hD hS hA [2, 3] rfl rfl rfl (fun H locs hP hD hS => ?_)
        have hP : va_P (gD G) vwCl (w_Row_addRow G qt qt_cells nt_cells z2.2.2.2 z2.2.1 z2.2.2.1 qa1 qa1_cells na1_cells a1_cells a1_used a1_burst) H := hP
        have hD : va_D A (w_Row_addRow G qt qt_cells nt_cells z2.2.2.2 z2.2.1 z2.2.2.1 qa1 qa1_cells na1_cells a1_cells a1_used a1_burst) := hD
        obtain ⟨u_16, hu_16, hf⟩ := bd_ hf
        refine CALLv (va_runV (As := [.int u_13]) (rest := []) ⟨hx, hb, hml, hown, hg⟩ (c_Row_add l G K qt qt_cells nt_cells z2.2.2.2 z2.2.1 z2.2.2.1 u_13 _ u_16  hu_16) (cwV 1 hg (gV m_57 m_58 m_59 m_60 m_61) rfl rfl rfl (by decide +kernel) ⟨Nat.le_of_ble_eq_true rfl, Nat.le_of_ble_eq_true rfl⟩) ⟨PC_b, va_recv hK hP (ci := 4) (q0 := 0) rfl rfl, PC_p hE hS hAb (hP.sub [0, 1] rfl) (hD.sub [0, 1] (by decide) rfl)⟩ rfl rfl hl.1 rfl (lv_room (Nat.le_of_ble_eq_true rfl)) d_Row_addRow_16 ⟨Nat.zero_le _, Nat.zero_le _⟩) hP hD hS hA [0, 1] rfl rfl rfl (fun H locs hP hD hS => ?_)
        have hP : va_P (gD G) vwCl (w_Row_addRow G qt qt_cells nt_cells u_16.2.2 u_16.1 u_16.2.1 qa1 qa1_cells na1_cells a1_cells a1_used a1_burst) H := hP
        have hD : va_D A (w_Row_addRow G qt qt_cells nt_cells u_16.2.2 u_16.1 u_16.2.1 qa1 qa1_cells na1_cells a1_cells a1_used a1_burst) := hD
        refine lv_iinc (v := (z2.1 + 1)) (lv' := [(2, .int (z2.1 + 1)), (0, .ref qt), (1, .ref qa1)]) hx hb d_Row_addRow_19 hl (k := 2) rfl rfl (by decide) rfl (fun ls hl => ?_)
        refine lv_goto (tgt := 2) hx hb d_Row_addRow_22 (by decide) ?_
        exact ih_2 ((z2.1 + 1), u_16.1, u_16.2.1, u_16.2.2)  hf _ _ _ hP hD hS (lv_sub hl [1, 2, 0] rfl)
  unfold f_Row_addRow at hf
  refine lv_iconst (v := 0) hx hb d_Row_addRow_0 (by decide) ?_
  refine lv_istore_n (lv' := [(2, .int (0 : Int32)), (0, .ref qt), (1, .ref qa1)]) hx hb d_Row_addRow_1 rfl hl (by decide) rfl (fun ls hl => ?_)
  exact W_2   K ((0 : Int32), t_used, t_burst, t_cells)  hf _ _ _ hP hD hS (lv_sub hl [1, 2, 0] rfl)
theorem d_Row_addNumber_0 : decode cd_Row_addNumber 0 = .ok (.iload_n 1, 1) := by decide +kernel
theorem d_Row_addNumber_1 : decode cd_Row_addNumber 1 = .ok (.ifCond .ge 9, 3) := by decide +kernel
theorem d_Row_addNumber_4 : decode cd_Row_addNumber 4 = .ok (.aload_n 0, 1) := by decide +kernel
theorem d_Row_addNumber_5 : decode cd_Row_addNumber 5 = .ok (.bipush 45, 2) := by decide +kernel
theorem d_Row_addNumber_7 : decode cd_Row_addNumber 7 = .ok (.invokevirtual 27, 3) := by decide +kernel
theorem d_Row_addNumber_10 : decode cd_Row_addNumber 10 = .ok (.iload_n 1, 1) := by decide +kernel
theorem d_Row_addNumber_11 : decode cd_Row_addNumber 11 = .ok (.invokestatic 45, 3) := by decide +kernel
theorem d_Row_addNumber_14 : decode cd_Row_addNumber 14 = .ok (.istore_n 3, 1) := by decide +kernel
theorem d_Row_addNumber_15 : decode cd_Row_addNumber 15 = .ok (.iconst 1, 1) := by decide +kernel
theorem d_Row_addNumber_16 : decode cd_Row_addNumber 16 = .ok (.istore 4, 2) := by decide +kernel
theorem d_Row_addNumber_18 : decode cd_Row_addNumber 18 = .ok (.iconst 1, 1) := by decide +kernel
theorem d_Row_addNumber_19 : decode cd_Row_addNumber 19 = .ok (.istore 5, 2) := by decide +kernel
theorem d_Row_addNumber_21 : decode cd_Row_addNumber 21 = .ok (.iload 5, 2) := by decide +kernel
theorem d_Row_addNumber_23 : decode cd_Row_addNumber 23 = .ok (.bipush 9, 2) := by decide +kernel
theorem d_Row_addNumber_25 : decode cd_Row_addNumber 25 = .ok (.if_icmp .ge 31, 3) := by decide +kernel
theorem d_Row_addNumber_28 : decode cd_Row_addNumber 28 = .ok (.iload 5, 2) := by decide +kernel
theorem d_Row_addNumber_30 : decode cd_Row_addNumber 30 = .ok (.iload_n 2, 1) := by decide +kernel
theorem d_Row_addNumber_31 : decode cd_Row_addNumber 31 = .ok (.if_icmp .lt 12, 3) := by decide +kernel
theorem d_Row_addNumber_34 : decode cd_Row_addNumber 34 = .ok (.iload_n 3, 1) := by decide +kernel
theorem d_Row_addNumber_35 : decode cd_Row_addNumber 35 = .ok (.bipush 10, 2) := by decide +kernel
theorem d_Row_addNumber_37 : decode cd_Row_addNumber 37 = .ok (.idiv, 1) := by decide +kernel
theorem d_Row_addNumber_38 : decode cd_Row_addNumber 38 = .ok (.iload 4, 2) := by decide +kernel
theorem d_Row_addNumber_40 : decode cd_Row_addNumber 40 = .ok (.if_icmp .lt 16, 3) := by decide +kernel
theorem d_Row_addNumber_43 : decode cd_Row_addNumber 43 = .ok (.iload 4, 2) := by decide +kernel
theorem d_Row_addNumber_45 : decode cd_Row_addNumber 45 = .ok (.bipush 10, 2) := by decide +kernel
theorem d_Row_addNumber_47 : decode cd_Row_addNumber 47 = .ok (.imul, 1) := by decide +kernel
theorem d_Row_addNumber_48 : decode cd_Row_addNumber 48 = .ok (.istore 4, 2) := by decide +kernel
theorem d_Row_addNumber_50 : decode cd_Row_addNumber 50 = .ok (.iinc 5 1, 3) := by decide +kernel
theorem d_Row_addNumber_53 : decode cd_Row_addNumber 53 = .ok (.goto (-32), 3) := by decide +kernel
theorem d_Row_addNumber_56 : decode cd_Row_addNumber 56 = .ok (.iload 4, 2) := by decide +kernel
theorem d_Row_addNumber_58 : decode cd_Row_addNumber 58 = .ok (.ifCond .le 27, 3) := by decide +kernel
theorem d_Row_addNumber_61 : decode cd_Row_addNumber 61 = .ok (.aload_n 0, 1) := by decide +kernel
theorem d_Row_addNumber_62 : decode cd_Row_addNumber 62 = .ok (.bipush 48, 2) := by decide +kernel
theorem d_Row_addNumber_64 : decode cd_Row_addNumber 64 = .ok (.iload_n 3, 1) := by decide +kernel
theorem d_Row_addNumber_65 : decode cd_Row_addNumber 65 = .ok (.iload 4, 2) := by decide +kernel
theorem d_Row_addNumber_67 : decode cd_Row_addNumber 67 = .ok (.idiv, 1) := by decide +kernel
theorem d_Row_addNumber_68 : decode cd_Row_addNumber 68 = .ok (.bipush 10, 2) := by decide +kernel
theorem d_Row_addNumber_70 : decode cd_Row_addNumber 70 = .ok (.irem, 1) := by decide +kernel
theorem d_Row_addNumber_71 : decode cd_Row_addNumber 71 = .ok (.iadd, 1) := by decide +kernel
theorem d_Row_addNumber_72 : decode cd_Row_addNumber 72 = .ok (.invokevirtual 27, 3) := by decide +kernel
theorem d_Row_addNumber_75 : decode cd_Row_addNumber 75 = .ok (.iload 4, 2) := by decide +kernel
theorem d_Row_addNumber_77 : decode cd_Row_addNumber 77 = .ok (.bipush 10, 2) := by decide +kernel
theorem d_Row_addNumber_79 : decode cd_Row_addNumber 79 = .ok (.idiv, 1) := by decide +kernel
theorem d_Row_addNumber_80 : decode cd_Row_addNumber 80 = .ok (.istore 4, 2) := by decide +kernel
theorem d_Row_addNumber_82 : decode cd_Row_addNumber 82 = .ok (.goto (-26), 3) := by decide +kernel
theorem d_Row_addNumber_85 : decode cd_Row_addNumber 85 = .ok (.return_, 1) := by decide +kernel
theorem m_66 : Cond.methodLink R_Row 45 Lib.Math.abs.name ∈ gw := gm (i := 769) (by decide +kernel) (by decide +kernel)
theorem m_67 : Cond.static Lib.Math.abs.name ∈ gw := gm (i := 770) (by decide +kernel) (by decide +kernel)
set_option maxRecDepth 100000 in
theorem m_68 : Cond.code Lib.Math.abs.name Lib.Math.abs.code 1 (some .int) ∈ gw := gm (i := 771) rfl rfl
def b_Row_addNumber_56 (nt_cells : Nat) (x3 : Int32) (rec_56 : (Int32 × Int32 × Int32 × (Nat → Int32)) → Option (Int32 × Int32 × (Nat → Int32))) (z56 : Int32 × Int32 × Int32 × (Nat → Int32)) : Option (Int32 × Int32 × (Nat → Int32)) :=
  (if z56.1 ≤ 0 then some (z56.2.1, z56.2.2.1, z56.2.2.2) else (if z56.1 = 0 then none else ((f_Row_add nt_cells z56.2.2.2 z56.2.1 z56.2.2.1 ((48 : Int32) + ((x3 / z56.1) - (x3 / z56.1) / (10 : Int32) * (10 : Int32)))).bind fun u_72 => rec_56 ((z56.1 / (10 : Int32)), u_72.1, u_72.2.1, u_72.2.2))))
def k_Row_addNumber_43 (rec_21 : (Int32 × Int32) → Option (Int32 × Int32 × (Nat → Int32))) (x4 : Int32) (x5 : Int32) : Option (Int32 × Int32 × (Nat → Int32)) :=
  rec_21 ((x4 * (10 : Int32)), (x5 + 1))
def b_Row_addNumber_21 (K : Nat) (nt_cells : Nat) (a2 : Int32) (x3 : Int32) (t_used : Int32) (t_burst : Int32) (t_cells : (Nat → Int32)) (rec_21 : (Int32 × Int32) → Option (Int32 × Int32 × (Nat → Int32))) (z21 : Int32 × Int32) : Option (Int32 × Int32 × (Nat → Int32)) :=
  (if (9 : Int32) ≤ z21.2 then lp_ (b_Row_addNumber_56 nt_cells x3) K (z21.1, t_used, t_burst, t_cells) else (if z21.2 < a2 then k_Row_addNumber_43 rec_21 z21.1 z21.2 else (if (x3 / (10 : Int32)) < z21.1 then lp_ (b_Row_addNumber_56 nt_cells x3) K (z21.1, t_used, t_burst, t_cells) else k_Row_addNumber_43 rec_21 z21.1 z21.2)))
def k_Row_addNumber_10 (K : Nat) (nt_cells : Nat) (a1 : Int32) (a2 : Int32) (t_used : Int32) (t_burst : Int32) (t_cells : (Nat → Int32)) : Option (Int32 × Int32 × (Nat → Int32)) :=
  lp_ (b_Row_addNumber_21 K nt_cells a2 (if 0 ≤ a1 then a1 else 0 - a1) t_used t_burst t_cells) K ((1 : Int32), (1 : Int32))
def f_Row_addNumber (K : Nat) (nt_cells : Nat) (t_cells : Nat → Int32) (t_used : Int32) (t_burst : Int32) (a1 : Int32) (a2 : Int32) : Option (Int32 × Int32 × (Nat → Int32)) :=
  (if 0 ≤ a1 then k_Row_addNumber_10 K nt_cells a1 a2 t_used t_burst t_cells else ((f_Row_add nt_cells t_cells t_used t_burst (45 : Int32)).bind fun u_7 => k_Row_addNumber_10 K nt_cells a1 a2 u_7.1 u_7.2.1 u_7.2.2))
set_option maxHeartbeats 4000000 in
set_option maxRecDepth 100000 in
theorem c_Row_addNumber (l : Launch) (G : Gt) (K : Nat) (qt : Nat) (qt_cells : Nat) (nt_cells : Nat) (t_cells : Nat → Int32) (t_used : Int32) (t_burst : Int32) (a1 : Int32) (a2 : Int32) (sz : Nat) (res : Int32 × Int32 × (Nat → Int32))   (hf : f_Row_addNumber K nt_cells t_cells t_used t_burst a1 a2 = some res) : Met l y_Row_addNumber (.code y_Row_addNumber cd_Row_addNumber 6 none :: gw) { frames := 1, cells := 0, slots := 0, locals := 40 } (PC G ([.ref qt, .int a1, .int a2] : List Value) sz (w_Row_empty G qt qt_cells nt_cells t_cells t_used t_burst)) (QV G (va_A (w_Row_empty G qt qt_cells nt_cells t_cells t_used t_burst) sz) (w_Row_empty G qt qt_cells nt_cells res.2.2 res.1 res.2.1)) 0 0 (va_A (w_Row_empty G qt qt_cells nt_cells t_cells t_used t_burst) sz) := by
  refine Met.ofW (cc := cd_Row_addNumber) (maxL := 6) (ret := none) (by decide) rfl ?_
  intro p e s m args below meth c s₁ B hml hv
  obtain ⟨rfl, hsz, hP, hE, hD0⟩ := hv
  have hx := B.exec
  have hb := B.bytes
  have hr := B.returns
  have hts := atoms_spec (ws := (.code y_Row_addNumber cd_Row_addNumber 6 none :: gw)) B.pre
  have hg : ∀ w ∈ gw, w.before _ s = true := fun w h => hts w (List.mem_cons_of_mem _ h)
  have hown : s.vm.findClass R_Row = some m.cls := findClass_of_methodNamed B.named
  have hlocks := B.notSynchronized
  subst hsz
  have hK := hE.K
  have hD := hD0.self (sz := s.heap.size)
  have hAb := hE.ab hD0
  obtain ⟨Q, hQ⟩ : ∃ Q, MQ below (QV G (va_A (w_Row_empty G qt qt_cells nt_cells t_cells t_used t_burst) s.heap.size) (w_Row_empty G qt qt_cells nt_cells res.2.2 res.1 res.2.1)) ([.ref qt, .int a1, .int a2] : List Value).toArray s 0 0 (va_A (w_Row_empty G qt qt_cells nt_cells t_cells t_used t_burst) s.heap.size) = Q := ⟨_, rfl⟩
  show W p l e { frames := 1, cells := 0, slots := 0, locals := 40 } s m ([.ref qt, .int a1, .int a2] : List Value).toArray below meth c s.heap [] 0 0 (MQ below (QV G (va_A (w_Row_empty G qt qt_cells nt_cells t_cells t_used t_burst) s.heap.size) (w_Row_empty G qt qt_cells nt_cells res.2.2 res.1 res.2.1)) ([.ref qt, .int a1, .int a2] : List Value).toArray s 0 0 (va_A (w_Row_empty G qt qt_cells nt_cells t_cells t_used t_burst) s.heap.size)) _
  rw [hQ]
  have hA : ∀ q : Nat, s.heap.size ≤ q → va_A (w_Row_empty G qt qt_cells nt_cells t_cells t_used t_burst) s.heap.size q := fun q h => Or.inr h
  obtain ⟨A, hAe⟩ : ∃ A, va_A (w_Row_empty G qt qt_cells nt_cells t_cells t_used t_burst) s.heap.size = A := ⟨_, rfl⟩
  rw [hAe] at hA hD hAb hQ
  have hS : va_S A s.heap s.heap [] := va_S.rf
  have hl := lv_entry (([.ref qt, .int a1, .int a2] : List Value)) (n := 6) (Nat.le_of_ble_eq_true rfl)
  rw [lg_entry_eq]
  generalize (lg_sl (([.ref qt, .int a1, .int a2] : List Value)) ++ List.replicate (6 - (lg_sl (([.ref qt, .int a1, .int a2] : List Value))).length) Slot.unset).toArray = ls at hl ⊢
  have hl : lv_has ls 6 [(0, .ref qt), (1, .int a1), (2, .int a2)] := hl
  have W_56 : ∀ (x3 : Int32)  (n_56 : Nat) (z56 : Int32 × Int32 × Int32 × (Nat → Int32)) , lp_ (b_Row_addNumber_56 nt_cells x3) n_56 z56 = some res → ∀ (H : Heap) (locs : List Loc) (ls : Array Slot), va_P (gD G) vwCl (w_Row_empty G qt qt_cells nt_cells z56.2.2.2 z56.2.1 z56.2.2.1) H → va_D A (w_Row_empty G qt qt_cells nt_cells z56.2.2.2 z56.2.1 z56.2.2.1) → va_S A s.heap H locs → lv_has ls 6 [(0, .ref qt), (3, .int x3), (4, .int z56.1)] → W p l e { frames := 1, cells := 0, slots := 0, locals := 40 } s m ([.ref qt, .int a1, .int a2] : List Value).toArray below meth c H locs 0 0 Q (F0 m 56 ls []) := by
    intro x3 n_56
    induction n_56 with
    | zero =>
      intro z56  hf
      cases hf
    | succ n_56 ih_56 =>
      intro z56  hf H locs ls hP hD hS hl
      have hf : b_Row_addNumber_56 nt_cells x3 (lp_ (b_Row_addNumber_56 nt_cells x3) n_56) z56 = some res := hf
      generalize lp_ (b_Row_addNumber_56 nt_cells x3) n_56 = rec_56 at hf ih_56
      unfold b_Row_addNumber_56 at hf
      refine lv_iload hx hb d_Row_addNumber_56 (lv_at hl 2 rfl) ?_
      refine lv_if_le (tgt := 85) hx hb d_Row_addNumber_58 (by decide) (fun c_58 => ?_) (fun c_58 => ?_)
      · have hf := ip_ c_58 hf
        obtain rfl := Option.some.inj hf
        rw [← hQ]
        exact W.vret hx hb hr (fun t9 ht hW => ⟨⟨(), rfl, trivial, ⟨by rw [ht]; exact hP, hD⟩⟩, hS.F ht⟩) hS.2.2 d_Row_addNumber_85
      · have hf := in_ c_58 hf
        refine lv_aload_n hx hb d_Row_addNumber_61 rfl (lv_at hl 0 rfl) ?_
        refine lv_bipush (v := 48) hx hb d_Row_addNumber_62 (by decide) ?_
        refine lv_iload_n hx hb d_Row_addNumber_64 rfl (lv_at hl 1 rfl) ?_
        refine lv_iload hx hb d_Row_addNumber_65 (lv_at hl 2 rfl) ?_
        obtain ⟨g_67, hf⟩ := gn_ hf
        refine lv_idiv hx hb d_Row_addNumber_67 g_67 ?_
        refine lv_bipush (v := 10) hx hb d_Row_addNumber_68 (by decide) ?_
        refine lv_irem hx hb d_Row_addNumber_70 (by decide) ?_
        refine lv_iadd hx hb d_Row_addNumber_71 ?_
        obtain ⟨u_72, hu_72, hf⟩ := bd_ hf
        refine CALLWv (va_runV (As := [.int ((48 : Int32) + ((x3 / z56.1) - (x3 / z56.1) / (10 : Int32) * (10 : Int32)))]) (rest := []) ⟨hx, hb, hml, hown, hg⟩ (c_Row_add l G K qt qt_cells nt_cells z56.2.2.2 z56.2.1 z56.2.2.1 ((48 : Int32) + ((x3 / z56.1) - (x3 / z56.1) / (10 : Int32) * (10 : Int32))) _ u_72  hu_72) (cwV 1 hg (gV m_57 m_58 m_59 m_60 m_61) rfl rfl rfl (by decide +kernel) ⟨Nat.le_of_ble_eq_true rfl, Nat.le_of_ble_eq_true rfl⟩) ⟨PC_b, va_recv hK hP (ci := 4) (q0 := 0) rfl rfl, PC_p hE hS hAb hP hD⟩ rfl rfl hl.1 rfl (lv_room (Nat.le_of_ble_eq_true rfl)) d_Row_addNumber_72 ⟨Nat.zero_le _, Nat.zero_le _⟩) hP hD hS hA (fun H locs hP hD hS => ?_)
        have hP : va_P (gD G) vwCl (w_Row_empty G qt qt_cells nt_cells u_72.2.2 u_72.1 u_72.2.1) H := hP
        have hD : va_D A (w_Row_empty G qt qt_cells nt_cells u_72.2.2 u_72.1 u_72.2.1) := hD
        refine lv_iload hx hb d_Row_addNumber_75 (lv_at hl 2 rfl) ?_
        refine lv_bipush (v := 10) hx hb d_Row_addNumber_77 (by decide) ?_
        refine lv_idiv hx hb d_Row_addNumber_79 (by decide) ?_
        refine lv_istore (lv' := [(4, .int (z56.1 / (10 : Int32))), (0, .ref qt), (3, .int x3)]) hx hb d_Row_addNumber_80 hl (by decide) rfl (fun ls hl => ?_)
        refine lv_goto (tgt := 56) hx hb d_Row_addNumber_82 (by decide) ?_
        exact ih_56 ((z56.1 / (10 : Int32)), u_72.1, u_72.2.1, u_72.2.2)  hf _ _ _ hP hD hS (lv_sub hl [1, 2, 0] rfl)
  have W_21 : ∀ (x3 : Int32) (t_used : Int32) (t_burst : Int32) (t_cells : (Nat → Int32))  (n_21 : Nat) (z21 : Int32 × Int32) , lp_ (b_Row_addNumber_21 K nt_cells a2 x3 t_used t_burst t_cells) n_21 z21 = some res → ∀ (H : Heap) (locs : List Loc) (ls : Array Slot), va_P (gD G) vwCl (w_Row_empty G qt qt_cells nt_cells t_cells t_used t_burst) H → va_D A (w_Row_empty G qt qt_cells nt_cells t_cells t_used t_burst) → va_S A s.heap H locs → lv_has ls 6 [(0, .ref qt), (2, .int a2), (3, .int x3), (4, .int z21.1), (5, .int z21.2)] → W p l e { frames := 1, cells := 0, slots := 0, locals := 40 } s m ([.ref qt, .int a1, .int a2] : List Value).toArray below meth c H locs 0 0 Q (F0 m 21 ls []) := by
    intro x3 t_used t_burst t_cells n_21
    induction n_21 with
    | zero =>
      intro z21  hf
      cases hf
    | succ n_21 ih_21 =>
      intro z21  hf H locs ls hP hD hS hl
      have hf : b_Row_addNumber_21 K nt_cells a2 x3 t_used t_burst t_cells (lp_ (b_Row_addNumber_21 K nt_cells a2 x3 t_used t_burst t_cells) n_21) z21 = some res := hf
      generalize lp_ (b_Row_addNumber_21 K nt_cells a2 x3 t_used t_burst t_cells) n_21 = rec_21 at hf ih_21
      have W_43 : ∀ (x4 : Int32) (x5 : Int32) , k_Row_addNumber_43 rec_21 x4 x5 = some res → ∀ (H : Heap) (locs : List Loc) (ls : Array Slot), va_P (gD G) vwCl (w_Row_empty G qt qt_cells nt_cells t_cells t_used t_burst) H → va_D A (w_Row_empty G qt qt_cells nt_cells t_cells t_used t_burst) → va_S A s.heap H locs → lv_has ls 6 [(0, .ref qt), (2, .int a2), (3, .int x3), (4, .int x4), (5, .int x5)] → W p l e { frames := 1, cells := 0, slots := 0, locals := 40 } s m ([.ref qt, .int a1, .int a2] : List Value).toArray below meth c H locs 0 0 Q (F0 m 43 ls []) := by
        intro x4 x5  hf H locs ls hP hD hS hl
        unfold k_Row_addNumber_43 at hf
        refine lv_iload hx hb d_Row_addNumber_43 (lv_at hl 3 rfl) ?_
        refine lv_bipush (v := 10) hx hb d_Row_addNumber_45 (by decide) ?_
        refine lv_imul hx hb d_Row_addNumber_47 ?_
        refine lv_istore (lv' := [(4, .int (x4 * (10 : Int32))), (0, .ref qt), (2, .int a2), (3, .int x3), (5, .int x5)]) hx hb d_Row_addNumber_48 hl (by decide) rfl (fun ls hl => ?_)
        refine lv_iinc (v := (x5 + 1)) (lv' := [(5, .int (x5 + 1)), (4, .int (x4 * (10 : Int32))), (0, .ref qt), (2, .int a2), (3, .int x3)]) hx hb d_Row_addNumber_50 hl (k := 4) rfl rfl (by decide) rfl (fun ls hl => ?_)
        refine lv_goto (tgt := 21) hx hb d_Row_addNumber_53 (by decide) ?_
        exact ih_21 ((x4 * (10 : Int32)), (x5 + 1))  hf _ _ _ hP hD hS (lv_sub hl [2, 3, 4, 1, 0] rfl)
      unfold b_Row_addNumber_21 at hf
      refine lv_iload hx hb d_Row_addNumber_21 (lv_at hl 4 rfl) ?_
      refine lv_bipush (v := 9) hx hb d_Row_addNumber_23 (by decide) ?_
      refine lv_icmp_ge (tgt := 56) hx hb d_Row_addNumber_25 (by decide) (fun c_25 => ?_) (fun c_25 => ?_)
      · have hf := ip_ c_25 hf
        exact W_56 x3  K (z21.1, t_used, t_burst, t_cells)  hf _ _ _ hP hD hS (lv_sub hl [0, 2, 3] rfl)
      · have hf := in_ c_25 hf
        refine lv_iload hx hb d_Row_addNumber_28 (lv_at hl 4 rfl) ?_
        refine lv_iload_n hx hb d_Row_addNumber_30 rfl (lv_at hl 1 rfl) ?_
        refine lv_icmp_lt (tgt := 43) hx hb d_Row_addNumber_31 (by decide) (fun c_31 => ?_) (fun c_31 => ?_)
        · have hf := ip_ c_31 hf
          exact W_43 z21.1 z21.2  hf _ _ _ hP hD hS (lv_sub hl [0, 1, 2, 3, 4] rfl)
        · have hf := in_ c_31 hf
          refine lv_iload_n hx hb d_Row_addNumber_34 rfl (lv_at hl 2 rfl) ?_
          refine lv_bipush (v := 10) hx hb d_Row_addNumber_35 (by decide) ?_
          refine lv_idiv hx hb d_Row_addNumber_37 (by decide) ?_
          refine lv_iload hx hb d_Row_addNumber_38 (lv_at hl 3 rfl) ?_
          refine lv_icmp_lt (tgt := 56) hx hb d_Row_addNumber_40 (by decide) (fun c_40 => ?_) (fun c_40 => ?_)
          · have hf := ip_ c_40 hf
            exact W_56 x3  K (z21.1, t_used, t_burst, t_cells)  hf _ _ _ hP hD hS (lv_sub hl [0, 2, 3] rfl)
          · have hf := in_ c_40 hf
            exact W_43 z21.1 z21.2  hf _ _ _ hP hD hS (lv_sub hl [0, 1, 2, 3, 4] rfl)
  have W_10 : ∀ (t_used : Int32) (t_burst : Int32) (t_cells : (Nat → Int32)) , k_Row_addNumber_10 K nt_cells a1 a2 t_used t_burst t_cells = some res → ∀ (H : Heap) (locs : List Loc) (ls : Array Slot), va_P (gD G) vwCl (w_Row_empty G qt qt_cells nt_cells t_cells t_used t_burst) H → va_D A (w_Row_empty G qt qt_cells nt_cells t_cells t_used t_burst) → va_S A s.heap H locs → lv_has ls 6 [(0, .ref qt), (1, .int a1), (2, .int a2)] → W p l e { frames := 1, cells := 0, slots := 0, locals := 40 } s m ([.ref qt, .int a1, .int a2] : List Value).toArray below meth c H locs 0 0 Q (F0 m 10 ls []) := by
    intro t_used t_burst t_cells  hf H locs ls hP hD hS hl
    unfold k_Row_addNumber_10 at hf
    refine lv_iload_n hx hb d_Row_addNumber_10 rfl (lv_at hl 1 rfl) ?_
    refine va_mabs hx hb (hml.trans hl.1.symm) hown (hg _ m_66) (hg _ m_67) (hg _ m_11) (hg _ m_68) (Nat.le_of_ble_eq_true rfl) (Nat.le_of_ble_eq_true rfl) (Nat.zero_le _) (Nat.zero_le _) d_Row_addNumber_11 ?_
    refine lv_istore_n (lv' := [(3, .int (if 0 ≤ a1 then a1 else 0 - a1)), (0, .ref qt), (1, .int a1), (2, .int a2)]) hx hb d_Row_addNumber_14 rfl hl (by decide) rfl (fun ls hl => ?_)
    refine lv_iconst (v := 1) hx hb d_Row_addNumber_15 (by decide) ?_
    refine lv_istore (lv' := [(4, .int (1 : Int32)), (3, .int (if 0 ≤ a1 then a1 else 0 - a1)), (0, .ref qt), (1, .int a1), (2, .int a2)]) hx hb d_Row_addNumber_16 hl (by decide) rfl (fun ls hl => ?_)
    refine lv_iconst (v := 1) hx hb d_Row_addNumber_18 (by decide) ?_
    refine lv_istore (lv' := [(5, .int (1 : Int32)), (4, .int (1 : Int32)), (3, .int (if 0 ≤ a1 then a1 else 0 - a1)), (0, .ref qt), (1, .int a1), (2, .int a2)]) hx hb d_Row_addNumber_19 hl (by decide) rfl (fun ls hl => ?_)
    exact W_21 (if 0 ≤ a1 then a1 else 0 - a1) t_used t_burst t_cells  K ((1 : Int32), (1 : Int32))  hf _ _ _ hP hD hS (lv_sub hl [3, 5, 2, 1, 0] rfl)
  unfold f_Row_addNumber at hf
  refine lv_iload_n hx hb d_Row_addNumber_0 rfl (lv_at hl 1 rfl) ?_
  refine lv_if_ge (tgt := 10) hx hb d_Row_addNumber_1 (by decide) (fun c_1 => ?_) (fun c_1 => ?_)
  · have hf := ip_ c_1 hf
    exact W_10 t_used t_burst t_cells  hf _ _ _ hP hD hS (lv_sub hl [0, 1, 2] rfl)
  · have hf := in_ c_1 hf
    refine lv_aload_n hx hb d_Row_addNumber_4 rfl (lv_at hl 0 rfl) ?_
    refine lv_bipush (v := 45) hx hb d_Row_addNumber_5 (by decide) ?_
    obtain ⟨u_7, hu_7, hf⟩ := bd_ hf
    refine CALLWv (va_runV (As := [.int (45 : Int32)]) (rest := []) ⟨hx, hb, hml, hown, hg⟩ (c_Row_add l G K qt qt_cells nt_cells t_cells t_used t_burst (45 : Int32) _ u_7  hu_7) (cwV 1 hg (gV m_57 m_58 m_59 m_60 m_61) rfl rfl rfl (by decide +kernel) ⟨Nat.le_of_ble_eq_true rfl, Nat.le_of_ble_eq_true rfl⟩) ⟨PC_b, va_recv hK hP (ci := 4) (q0 := 0) rfl rfl, PC_p hE hS hAb hP hD⟩ rfl rfl hl.1 rfl (lv_room (Nat.le_of_ble_eq_true rfl)) d_Row_addNumber_7 ⟨Nat.zero_le _, Nat.zero_le _⟩) hP hD hS hA (fun H locs hP hD hS => ?_)
    have hP : va_P (gD G) vwCl (w_Row_empty G qt qt_cells nt_cells u_7.2.2 u_7.1 u_7.2.1) H := hP
    have hD : va_D A (w_Row_empty G qt qt_cells nt_cells u_7.2.2 u_7.1 u_7.2.1) := hD
    exact W_10 u_7.1 u_7.2.1 u_7.2.2  hf _ _ _ hP hD hS (lv_sub hl [0, 1, 2] rfl)
theorem d_Row_cutTo_0 : decode cd_Row_cutTo 0 = .ok (.iload_n 1, 1) := by decide +kernel
theorem d_Row_cutTo_1 : decode cd_Row_cutTo 1 = .ok (.ifCond .lt 16, 3) := by decide +kernel
theorem d_Row_cutTo_4 : decode cd_Row_cutTo 4 = .ok (.iload_n 1, 1) := by decide +kernel
theorem d_Row_cutTo_5 : decode cd_Row_cutTo 5 = .ok (.aload_n 0, 1) := by decide +kernel
theorem d_Row_cutTo_6 : decode cd_Row_cutTo 6 = .ok (.getfield 19, 3) := by decide +kernel
theorem d_Row_cutTo_9 : decode cd_Row_cutTo 9 = .ok (.if_icmp .ge 8, 3) := by decide +kernel
theorem d_Row_cutTo_12 : decode cd_Row_cutTo 12 = .ok (.aload_n 0, 1) := by decide +kernel
theorem d_Row_cutTo_13 : decode cd_Row_cutTo 13 = .ok (.iload_n 1, 1) := by decide +kernel
theorem d_Row_cutTo_14 : decode cd_Row_cutTo 14 = .ok (.putfield 19, 3) := by decide +kernel
theorem d_Row_cutTo_17 : decode cd_Row_cutTo 17 = .ok (.return_, 1) := by decide +kernel
def f_Row_cutTo (t_used : Int32) (a1 : Int32) : Option Int32 :=
  (if a1 < 0 then some t_used else (if t_used ≤ a1 then some t_used else some a1))
set_option maxHeartbeats 4000000 in
set_option maxRecDepth 100000 in
theorem c_Row_cutTo (l : Launch) (G : Gt) (K : Nat) (qt : Nat) (qt_cells : Nat) (nt_cells : Nat) (t_cells : Nat → Int32) (t_used : Int32) (t_burst : Int32) (a1 : Int32) (sz : Nat) (res : Int32)   (hf : f_Row_cutTo t_used a1 = some res) : Met l y_Row_cutTo (.code y_Row_cutTo cd_Row_cutTo 2 none :: gw) { frames := 0, cells := 0, slots := 0, locals := 0 } (PC G ([.ref qt, .int a1] : List Value) sz (w_Row_empty G qt qt_cells nt_cells t_cells t_used t_burst)) (QV G (va_A (w_Row_empty G qt qt_cells nt_cells t_cells t_used t_burst) sz) (w_Row_empty G qt qt_cells nt_cells t_cells res t_burst)) 0 0 (va_A (w_Row_empty G qt qt_cells nt_cells t_cells t_used t_burst) sz) := by
  refine Met.ofW (cc := cd_Row_cutTo) (maxL := 2) (ret := none) (by decide) rfl ?_
  intro p e s m args below meth c s₁ B hml hv
  obtain ⟨rfl, hsz, hP, hE, hD0⟩ := hv
  have hx := B.exec
  have hb := B.bytes
  have hr := B.returns
  have hts := atoms_spec (ws := (.code y_Row_cutTo cd_Row_cutTo 2 none :: gw)) B.pre
  have hg : ∀ w ∈ gw, w.before _ s = true := fun w h => hts w (List.mem_cons_of_mem _ h)
  have hown : s.vm.findClass R_Row = some m.cls := findClass_of_methodNamed B.named
  have hlocks := B.notSynchronized
  subst hsz
  have hK := hE.K
  have hD := hD0.self (sz := s.heap.size)
  have hAb := hE.ab hD0
  obtain ⟨Q, hQ⟩ : ∃ Q, MQ below (QV G (va_A (w_Row_empty G qt qt_cells nt_cells t_cells t_used t_burst) s.heap.size) (w_Row_empty G qt qt_cells nt_cells t_cells res t_burst)) ([.ref qt, .int a1] : List Value).toArray s 0 0 (va_A (w_Row_empty G qt qt_cells nt_cells t_cells t_used t_burst) s.heap.size) = Q := ⟨_, rfl⟩
  show W p l e { frames := 0, cells := 0, slots := 0, locals := 0 } s m ([.ref qt, .int a1] : List Value).toArray below meth c s.heap [] 0 0 (MQ below (QV G (va_A (w_Row_empty G qt qt_cells nt_cells t_cells t_used t_burst) s.heap.size) (w_Row_empty G qt qt_cells nt_cells t_cells res t_burst)) ([.ref qt, .int a1] : List Value).toArray s 0 0 (va_A (w_Row_empty G qt qt_cells nt_cells t_cells t_used t_burst) s.heap.size)) _
  rw [hQ]
  have hA : ∀ q : Nat, s.heap.size ≤ q → va_A (w_Row_empty G qt qt_cells nt_cells t_cells t_used t_burst) s.heap.size q := fun q h => Or.inr h
  obtain ⟨A, hAe⟩ : ∃ A, va_A (w_Row_empty G qt qt_cells nt_cells t_cells t_used t_burst) s.heap.size = A := ⟨_, rfl⟩
  rw [hAe] at hA hD hAb hQ
  have hS : va_S A s.heap s.heap [] := va_S.rf
  have hl := lv_entry (([.ref qt, .int a1] : List Value)) (n := 2) (Nat.le_of_ble_eq_true rfl)
  rw [lg_entry_eq]
  generalize (lg_sl (([.ref qt, .int a1] : List Value)) ++ List.replicate (2 - (lg_sl (([.ref qt, .int a1] : List Value))).length) Slot.unset).toArray = ls at hl ⊢
  have hl : lv_has ls 2 [(0, .ref qt), (1, .int a1)] := hl
  unfold f_Row_cutTo at hf
  refine lv_iload_n hx hb d_Row_cutTo_0 rfl (lv_at hl 1 rfl) ?_
  refine lv_if_lt (tgt := 17) hx hb d_Row_cutTo_1 (by decide) (fun c_1 => ?_) (fun c_1 => ?_)
  · have hf := ip_ c_1 hf
    obtain rfl := Option.some.inj hf
    rw [← hQ]
    exact W.vret hx hb hr (fun t9 ht hW => ⟨⟨(), rfl, trivial, ⟨by rw [ht]; exact hP, hD⟩⟩, hS.F ht⟩) hS.2.2 d_Row_cutTo_17
  · have hf := in_ c_1 hf
    refine lv_iload_n hx hb d_Row_cutTo_4 rfl (lv_at hl 1 rfl) ?_
    refine lv_aload_n hx hb d_Row_cutTo_5 rfl (lv_at hl 0 rfl) ?_
    refine va_get (D := gD G) (ci := 4) (v := .int t_used) (C := R_Row) (T := F_Row) (N := 3) hx hb hg in_Row hown hK hP 0 rfl rfl 1 (by decide) (hg _ m_54) (fun _ h9 => h9) rfl d_Row_cutTo_6 ?_
    refine lv_icmp_ge (tgt := 17) hx hb d_Row_cutTo_9 (by decide) (fun c_9 => ?_) (fun c_9 => ?_)
    · have hf := ip_ c_9 hf
      obtain rfl := Option.some.inj hf
      rw [← hQ]
      exact W.vret hx hb hr (fun t9 ht hW => ⟨⟨(), rfl, trivial, ⟨by rw [ht]; exact hP, hD⟩⟩, hS.F ht⟩) hS.2.2 d_Row_cutTo_17
    · have hf := in_ c_9 hf
      refine lv_aload_n hx hb d_Row_cutTo_12 rfl (lv_at hl 0 rfl) ?_
      refine lv_iload_n hx hb d_Row_cutTo_13 rfl (lv_at hl 1 rfl) ?_
      refine va_put (D := gD G) (ci := 4) (v := .int a1) (ty := .int) (C := R_Row) (T := F_Row) (N := 3) hx hb hg in_Row t_Row to_Row no_Row hown hK hP hD hS 0 rfl rfl 1 (by decide) (hg _ m_54) (fun _ h9 => h9) rfl (by decide +kernel) rfl rfl (Nat.le_of_ble_eq_true rfl) d_Row_cutTo_14 (fun H locs hP hD hS => ?_)
      have hP : va_P (gD G) vwCl (w_Row_empty G qt qt_cells nt_cells t_cells a1 t_burst) H := hP
      have hD : va_D A (w_Row_empty G qt qt_cells nt_cells t_cells a1 t_burst) := hD
      obtain rfl := Option.some.inj hf
      rw [← hQ]
      exact W.vret hx hb hr (fun t9 ht hW => ⟨⟨(), rfl, trivial, ⟨by rw [ht]; exact hP, hD⟩⟩, hS.F ht⟩) hS.2.2 d_Row_cutTo_17
theorem d_Row_raiseFrom_0 : decode cd_Row_raiseFrom 0 = .ok (.iconst 0, 1) := by decide +kernel
theorem d_Row_raiseFrom_1 : decode cd_Row_raiseFrom 1 = .ok (.iload_n 1, 1) := by decide +kernel
theorem d_Row_raiseFrom_2 : decode cd_Row_raiseFrom 2 = .ok (.invokestatic 7, 3) := by decide +kernel
theorem d_Row_raiseFrom_5 : decode cd_Row_raiseFrom 5 = .ok (.istore_n 2, 1) := by decide +kernel
theorem d_Row_raiseFrom_6 : decode cd_Row_raiseFrom 6 = .ok (.iload_n 2, 1) := by decide +kernel
theorem d_Row_raiseFrom_7 : decode cd_Row_raiseFrom 7 = .ok (.aload_n 0, 1) := by decide +kernel
theorem d_Row_raiseFrom_8 : decode cd_Row_raiseFrom 8 = .ok (.getfield 19, 3) := by decide +kernel
theorem d_Row_raiseFrom_11 : decode cd_Row_raiseFrom 11 = .ok (.if_icmp .ge 52, 3) := by decide +kernel
theorem d_Row_raiseFrom_14 : decode cd_Row_raiseFrom 14 = .ok (.iload_n 2, 1) := by decide +kernel
theorem d_Row_raiseFrom_15 : decode cd_Row_raiseFrom 15 = .ok (.aload_n 0, 1) := by decide +kernel
theorem d_Row_raiseFrom_16 : decode cd_Row_raiseFrom 16 = .ok (.getfield 13, 3) := by decide +kernel
theorem d_Row_raiseFrom_19 : decode cd_Row_raiseFrom 19 = .ok (.arraylength, 1) := by decide +kernel
theorem d_Row_raiseFrom_20 : decode cd_Row_raiseFrom 20 = .ok (.if_icmp .ge 43, 3) := by decide +kernel
theorem d_Row_raiseFrom_23 : decode cd_Row_raiseFrom 23 = .ok (.aload_n 0, 1) := by decide +kernel
theorem d_Row_raiseFrom_24 : decode cd_Row_raiseFrom 24 = .ok (.getfield 13, 3) := by decide +kernel
theorem d_Row_raiseFrom_27 : decode cd_Row_raiseFrom 27 = .ok (.iload_n 2, 1) := by decide +kernel
theorem d_Row_raiseFrom_28 : decode cd_Row_raiseFrom 28 = .ok (.baload, 1) := by decide +kernel
theorem d_Row_raiseFrom_29 : decode cd_Row_raiseFrom 29 = .ok (.bipush 97, 2) := by decide +kernel
theorem d_Row_raiseFrom_31 : decode cd_Row_raiseFrom 31 = .ok (.if_icmp .lt 26, 3) := by decide +kernel
theorem d_Row_raiseFrom_34 : decode cd_Row_raiseFrom 34 = .ok (.aload_n 0, 1) := by decide +kernel
theorem d_Row_raiseFrom_35 : decode cd_Row_raiseFrom 35 = .ok (.getfield 13, 3) := by decide +kernel
theorem d_Row_raiseFrom_38 : decode cd_Row_raiseFrom 38 = .ok (.iload_n 2, 1) := by decide +kernel
theorem d_Row_raiseFrom_39 : decode cd_Row_raiseFrom 39 = .ok (.baload, 1) := by decide +kernel
theorem d_Row_raiseFrom_40 : decode cd_Row_raiseFrom 40 = .ok (.bipush 122, 2) := by decide +kernel
theorem d_Row_raiseFrom_42 : decode cd_Row_raiseFrom 42 = .ok (.if_icmp .gt 15, 3) := by decide +kernel
theorem d_Row_raiseFrom_45 : decode cd_Row_raiseFrom 45 = .ok (.aload_n 0, 1) := by decide +kernel
theorem d_Row_raiseFrom_46 : decode cd_Row_raiseFrom 46 = .ok (.getfield 13, 3) := by decide +kernel
theorem d_Row_raiseFrom_49 : decode cd_Row_raiseFrom 49 = .ok (.iload_n 2, 1) := by decide +kernel
theorem d_Row_raiseFrom_50 : decode cd_Row_raiseFrom 50 = .ok (.dup2, 1) := by decide +kernel
theorem d_Row_raiseFrom_51 : decode cd_Row_raiseFrom 51 = .ok (.baload, 1) := by decide +kernel
theorem d_Row_raiseFrom_52 : decode cd_Row_raiseFrom 52 = .ok (.bipush 32, 2) := by decide +kernel
theorem d_Row_raiseFrom_54 : decode cd_Row_raiseFrom 54 = .ok (.isub, 1) := by decide +kernel
theorem d_Row_raiseFrom_55 : decode cd_Row_raiseFrom 55 = .ok (.i2b, 1) := by decide +kernel
theorem d_Row_raiseFrom_56 : decode cd_Row_raiseFrom 56 = .ok (.bastore, 1) := by decide +kernel
theorem d_Row_raiseFrom_57 : decode cd_Row_raiseFrom 57 = .ok (.iinc 2 1, 3) := by decide +kernel
theorem d_Row_raiseFrom_60 : decode cd_Row_raiseFrom 60 = .ok (.goto (-54), 3) := by decide +kernel
theorem d_Row_raiseFrom_63 : decode cd_Row_raiseFrom 63 = .ok (.return_, 1) := by decide +kernel
theorem m_69 : Cond.methodLink R_Row 7 Lib.Math.max.name ∈ gw := gm (i := 114) (by decide +kernel) (by decide +kernel)
def k_Row_raiseFrom_57 (rec_6 : (Int32 × (Nat → Int32)) → Option (Nat → Int32)) (x2 : Int32) (t_cells : (Nat → Int32)) : Option (Nat → Int32) :=
  rec_6 ((x2 + 1), t_cells)
def b_Row_raiseFrom_6 (nt_cells : Nat) (t_used : Int32)  (rec_6 : (Int32 × (Nat → Int32)) → Option (Nat → Int32)) (z6 : Int32 × (Nat → Int32)) : Option (Nat → Int32) :=
  (if t_used ≤ z6.1 then some z6.2 else (if (nI nt_cells) ≤ z6.1 then some z6.2 else (if inB z6.1 nt_cells = true then (if (z6.2 z6.1.toNatClampNeg) < (97 : Int32) then k_Row_raiseFrom_57 rec_6 z6.1 z6.2 else (if inB z6.1 nt_cells = true then (if (122 : Int32) < (z6.2 z6.1.toNatClampNeg) then k_Row_raiseFrom_57 rec_6 z6.1 z6.2 else (if inB z6.1 nt_cells = true then (if inB z6.1 nt_cells = true then k_Row_raiseFrom_57 rec_6 z6.1 (upd z6.2 z6.1.toNatClampNeg (vp_nar .byte (((z6.2 z6.1.toNatClampNeg) - (32 : Int32)).toInt8.toInt32))) else none) else none)) else none)) else none)))
def f_Row_raiseFrom (K : Nat) (nt_cells : Nat) (t_cells : Nat → Int32) (t_used : Int32) (a1 : Int32) : Option (Nat → Int32) :=
  lp_ (b_Row_raiseFrom_6 nt_cells t_used ) K ((if (0 : Int32) < a1 then a1 else (0 : Int32)), t_cells)
set_option maxHeartbeats 4000000 in
set_option maxRecDepth 100000 in
theorem c_Row_raiseFrom (l : Launch) (G : Gt) (K : Nat) (qt : Nat) (qt_cells : Nat) (nt_cells : Nat) (t_cells : Nat → Int32) (t_used : Int32) (t_burst : Int32) (a1 : Int32) (sz : Nat) (res : (Nat → Int32))   (hf : f_Row_raiseFrom K nt_cells t_cells t_used a1 = some res) : Met l y_Row_raiseFrom (.code y_Row_raiseFrom cd_Row_raiseFrom 3 none :: gw) { frames := 1, cells := 0, slots := 0, locals := 40 } (PC G ([.ref qt, .int a1] : List Value) sz (w_Row_empty G qt qt_cells nt_cells t_cells t_used t_burst)) (QV G (va_A (w_Row_empty G qt qt_cells nt_cells t_cells t_used t_burst) sz) (w_Row_empty G qt qt_cells nt_cells res t_used t_burst)) 0 0 (va_A (w_Row_empty G qt qt_cells nt_cells t_cells t_used t_burst) sz) := by
  refine Met.ofW (cc := cd_Row_raiseFrom) (maxL := 3) (ret := none) (by decide) rfl ?_
  intro p e s m args below meth c s₁ B hml hv
  obtain ⟨rfl, hsz, hP, hE, hD0⟩ := hv
  have hx := B.exec
  have hb := B.bytes
  have hr := B.returns
  have hts := atoms_spec (ws := (.code y_Row_raiseFrom cd_Row_raiseFrom 3 none :: gw)) B.pre
  have hg : ∀ w ∈ gw, w.before _ s = true := fun w h => hts w (List.mem_cons_of_mem _ h)
  have hown : s.vm.findClass R_Row = some m.cls := findClass_of_methodNamed B.named
  have hlocks := B.notSynchronized
  subst hsz
  have hK := hE.K
  have hD := hD0.self (sz := s.heap.size)
  have hAb := hE.ab hD0
  obtain ⟨Q, hQ⟩ : ∃ Q, MQ below (QV G (va_A (w_Row_empty G qt qt_cells nt_cells t_cells t_used t_burst) s.heap.size) (w_Row_empty G qt qt_cells nt_cells res t_used t_burst)) ([.ref qt, .int a1] : List Value).toArray s 0 0 (va_A (w_Row_empty G qt qt_cells nt_cells t_cells t_used t_burst) s.heap.size) = Q := ⟨_, rfl⟩
  show W p l e { frames := 1, cells := 0, slots := 0, locals := 40 } s m ([.ref qt, .int a1] : List Value).toArray below meth c s.heap [] 0 0 (MQ below (QV G (va_A (w_Row_empty G qt qt_cells nt_cells t_cells t_used t_burst) s.heap.size) (w_Row_empty G qt qt_cells nt_cells res t_used t_burst)) ([.ref qt, .int a1] : List Value).toArray s 0 0 (va_A (w_Row_empty G qt qt_cells nt_cells t_cells t_used t_burst) s.heap.size)) _
  rw [hQ]
  have hA : ∀ q : Nat, s.heap.size ≤ q → va_A (w_Row_empty G qt qt_cells nt_cells t_cells t_used t_burst) s.heap.size q := fun q h => Or.inr h
  obtain ⟨A, hAe⟩ : ∃ A, va_A (w_Row_empty G qt qt_cells nt_cells t_cells t_used t_burst) s.heap.size = A := ⟨_, rfl⟩
  rw [hAe] at hA hD hAb hQ
  have hS : va_S A s.heap s.heap [] := va_S.rf
  have hl := lv_entry (([.ref qt, .int a1] : List Value)) (n := 3) (Nat.le_of_ble_eq_true rfl)
  rw [lg_entry_eq]
  generalize (lg_sl (([.ref qt, .int a1] : List Value)) ++ List.replicate (3 - (lg_sl (([.ref qt, .int a1] : List Value))).length) Slot.unset).toArray = ls at hl ⊢
  have hl : lv_has ls 3 [(0, .ref qt), (1, .int a1)] := hl
  have W_6 : ∀   (n_6 : Nat) (z6 : Int32 × (Nat → Int32)) , lp_ (b_Row_raiseFrom_6 nt_cells t_used ) n_6 z6 = some res → ∀ (H : Heap) (locs : List Loc) (ls : Array Slot), va_P (gD G) vwCl (w_Row_empty G qt qt_cells nt_cells z6.2 t_used t_burst) H → va_D A (w_Row_empty G qt qt_cells nt_cells z6.2 t_used t_burst) → va_S A s.heap H locs → lv_has ls 3 [(0, .ref qt), (2, .int z6.1)] → W p l e { frames := 1, cells := 0, slots := 0, locals := 40 } s m ([.ref qt, .int a1] : List Value).toArray below meth c H locs 0 0 Q (F0 m 6 ls []) := by
    intro  n_6
    induction n_6 with
    | zero =>
      intro z6  hf
      cases hf
    | succ n_6 ih_6 =>
      intro z6  hf H locs ls hP hD hS hl
      have hf : b_Row_raiseFrom_6 nt_cells t_used  (lp_ (b_Row_raiseFrom_6 nt_cells t_used ) n_6) z6 = some res := hf
      generalize lp_ (b_Row_raiseFrom_6 nt_cells t_used ) n_6 = rec_6 at hf ih_6
      have W_57 : ∀ (x2 : Int32) (t_cells : (Nat → Int32)) , k_Row_raiseFrom_57 rec_6 x2 t_cells = some res → ∀ (H : Heap) (locs : List Loc) (ls : Array Slot), va_P (gD G) vwCl (w_Row_empty G qt qt_cells nt_cells t_cells t_used t_burst) H → va_D A (w_Row_empty G qt qt_cells nt_cells t_cells t_used t_burst) → va_S A s.heap H locs → lv_has ls 3 [(0, .ref qt), (2, .int x2)] → W p l e { frames := 1, cells := 0, slots := 0, locals := 40 } s m ([.ref qt, .int a1] : List Value).toArray below meth c H locs 0 0 Q (F0 m 57 ls []) := by
        intro x2 t_cells  hf H locs ls hP hD hS hl
        unfold k_Row_raiseFrom_57 at hf
        refine lv_iinc (v := (x2 + 1)) (lv' := [(2, .int (x2 + 1)), (0, .ref qt)]) hx hb d_Row_raiseFrom_57 hl (k := 1) rfl rfl (by decide) rfl (fun ls hl => ?_)
        refine lv_goto (tgt := 6) hx hb d_Row_raiseFrom_60 (by decide) ?_
        exact ih_6 ((x2 + 1), t_cells)  hf _ _ _ hP hD hS (lv_sub hl [1, 0] rfl)
      unfold b_Row_raiseFrom_6 at hf
      refine lv_iload_n hx hb d_Row_raiseFrom_6 rfl (lv_at hl 1 rfl) ?_
      refine lv_aload_n hx hb d_Row_raiseFrom_7 rfl (lv_at hl 0 rfl) ?_
      refine va_get (D := gD G) (ci := 4) (v := .int t_used) (C := R_Row) (T := F_Row) (N := 3) hx hb hg in_Row hown hK hP 0 rfl rfl 1 (by decide) (hg _ m_54) (fun _ h9 => h9) rfl d_Row_raiseFrom_8 ?_
      refine lv_icmp_ge (tgt := 63) hx hb d_Row_raiseFrom_11 (by decide) (fun c_11 => ?_) (fun c_11 => ?_)
      · have hf := ip_ c_11 hf
        obtain rfl := Option.some.inj hf
        rw [← hQ]
        exact W.vret hx hb hr (fun t9 ht hW => ⟨⟨(), rfl, trivial, ⟨by rw [ht]; exact hP, hD⟩⟩, hS.F ht⟩) hS.2.2 d_Row_raiseFrom_63
      · have hf := in_ c_11 hf
        refine lv_iload_n hx hb d_Row_raiseFrom_14 rfl (lv_at hl 1 rfl) ?_
        refine lv_aload_n hx hb d_Row_raiseFrom_15 rfl (lv_at hl 0 rfl) ?_
        refine va_get (D := gD G) (ci := 4) (v := .ref qt_cells) (C := R_Row) (T := F_Row) (N := 3) hx hb hg in_Row hown hK hP 0 rfl rfl 0 (by decide) (hg _ m_56) (fun _ h9 => h9) rfl d_Row_raiseFrom_16 ?_
        refine va_alen hx hb hK hP 1 0 rfl rfl (v := nI nt_cells) rfl d_Row_raiseFrom_19 ?_
        refine lv_icmp_ge (tgt := 63) hx hb d_Row_raiseFrom_20 (by decide) (fun c_20 => ?_) (fun c_20 => ?_)
        · have hf := ip_ c_20 hf
          obtain rfl := Option.some.inj hf
          rw [← hQ]
          exact W.vret hx hb hr (fun t9 ht hW => ⟨⟨(), rfl, trivial, ⟨by rw [ht]; exact hP, hD⟩⟩, hS.F ht⟩) hS.2.2 d_Row_raiseFrom_63
        · have hf := in_ c_20 hf
          refine lv_aload_n hx hb d_Row_raiseFrom_23 rfl (lv_at hl 0 rfl) ?_
          refine va_get (D := gD G) (ci := 4) (v := .ref qt_cells) (C := R_Row) (T := F_Row) (N := 3) hx hb hg in_Row hown hK hP 0 rfl rfl 0 (by decide) (hg _ m_56) (fun _ h9 => h9) rfl d_Row_raiseFrom_24 ?_
          refine lv_iload_n hx hb d_Row_raiseFrom_27 rfl (lv_at hl 1 rfl) ?_
          obtain ⟨g_28, hf⟩ := gd_ hf
          refine va_bald hx hb hK hP 1 0 rfl rfl (inB_in g_28) d_Row_raiseFrom_28 ?_
          refine lv_bipush (v := 97) hx hb d_Row_raiseFrom_29 (by decide) ?_
          refine lv_icmp_lt (tgt := 57) hx hb d_Row_raiseFrom_31 (by decide) (fun c_31 => ?_) (fun c_31 => ?_)
          · have hf := ip_ c_31 hf
            exact W_57 z6.1 z6.2  hf _ _ _ hP hD hS (lv_sub hl [0, 1] rfl)
          · have hf := in_ c_31 hf
            refine lv_aload_n hx hb d_Row_raiseFrom_34 rfl (lv_at hl 0 rfl) ?_
            refine va_get (D := gD G) (ci := 4) (v := .ref qt_cells) (C := R_Row) (T := F_Row) (N := 3) hx hb hg in_Row hown hK hP 0 rfl rfl 0 (by decide) (hg _ m_56) (fun _ h9 => h9) rfl d_Row_raiseFrom_35 ?_
            refine lv_iload_n hx hb d_Row_raiseFrom_38 rfl (lv_at hl 1 rfl) ?_
            obtain ⟨g_39, hf⟩ := gd_ hf
            refine va_bald hx hb hK hP 1 0 rfl rfl (inB_in g_39) d_Row_raiseFrom_39 ?_
            refine lv_bipush (v := 122) hx hb d_Row_raiseFrom_40 (by decide) ?_
            refine lv_icmp_gt (tgt := 57) hx hb d_Row_raiseFrom_42 (by decide) (fun c_42 => ?_) (fun c_42 => ?_)
            · have hf := ip_ c_42 hf
              exact W_57 z6.1 z6.2  hf _ _ _ hP hD hS (lv_sub hl [0, 1] rfl)
            · have hf := in_ c_42 hf
              refine lv_aload_n hx hb d_Row_raiseFrom_45 rfl (lv_at hl 0 rfl) ?_
              refine va_get (D := gD G) (ci := 4) (v := .ref qt_cells) (C := R_Row) (T := F_Row) (N := 3) hx hb hg in_Row hown hK hP 0 rfl rfl 0 (by decide) (hg _ m_56) (fun _ h9 => h9) rfl d_Row_raiseFrom_46 ?_
              refine lv_iload_n hx hb d_Row_raiseFrom_49 rfl (lv_at hl 1 rfl) ?_
              refine lv_dup2_11 hx hb d_Row_raiseFrom_50 rfl rfl ?_
              obtain ⟨g_51, hf⟩ := gd_ hf
              refine va_bald hx hb hK hP 1 0 rfl rfl (inB_in g_51) d_Row_raiseFrom_51 ?_
              refine lv_bipush (v := 32) hx hb d_Row_raiseFrom_52 (by decide) ?_
              refine lv_isub hx hb d_Row_raiseFrom_54 ?_
              refine lv_i2b (v := ((z6.2 z6.1.toNatClampNeg) - (32 : Int32)).toInt8.toInt32) hx hb d_Row_raiseFrom_55 rfl ?_
              obtain ⟨g_56, hf⟩ := gd_ hf
              refine va_bast hx hb hK hP hD hS 1 0 rfl rfl (inB_in g_56) d_Row_raiseFrom_56 (fun H locs hP hD hS => ?_)
              have hP : va_P (gD G) vwCl (w_Row_empty G qt qt_cells nt_cells (upd z6.2 z6.1.toNatClampNeg (vp_nar .byte (((z6.2 z6.1.toNatClampNeg) - (32 : Int32)).toInt8.toInt32))) t_used t_burst) H := hP
              have hD : va_D A (w_Row_empty G qt qt_cells nt_cells (upd z6.2 z6.1.toNatClampNeg (vp_nar .byte (((z6.2 z6.1.toNatClampNeg) - (32 : Int32)).toInt8.toInt32))) t_used t_burst) := hD
              exact W_57 z6.1 (upd z6.2 z6.1.toNatClampNeg (vp_nar .byte (((z6.2 z6.1.toNatClampNeg) - (32 : Int32)).toInt8.toInt32)))  hf _ _ _ hP hD hS (lv_sub hl [0, 1] rfl)
  unfold f_Row_raiseFrom at hf
  refine lv_iconst (v := 0) hx hb d_Row_raiseFrom_0 (by decide) ?_
  refine lv_iload_n hx hb d_Row_raiseFrom_1 rfl (lv_at hl 1 rfl) ?_
  refine va_mmax hx hb (hml.trans hl.1.symm) hown (hg _ m_69) (hg _ m_10) (hg _ m_11) (hg _ m_12) (Nat.le_of_ble_eq_true rfl) (Nat.le_of_ble_eq_true rfl) (Nat.zero_le _) (Nat.zero_le _) d_Row_raiseFrom_2 ?_
  refine lv_istore_n (lv' := [(2, .int (if (0 : Int32) < a1 then a1 else (0 : Int32))), (0, .ref qt), (1, .int a1)]) hx hb d_Row_raiseFrom_5 rfl hl (by decide) rfl (fun ls hl => ?_)
  exact W_6   K ((if (0 : Int32) < a1 then a1 else (0 : Int32)), t_cells)  hf _ _ _ hP hD hS (lv_sub hl [1, 0] rfl)
theorem d_Row_addWord_0 : decode cd_Row_addWord 0 = .ok (.iconst 0, 1) := by decide +kernel
theorem d_Row_addWord_1 : decode cd_Row_addWord 1 = .ok (.istore_n 2, 1) := by decide +kernel
theorem d_Row_addWord_2 : decode cd_Row_addWord 2 = .ok (.iload_n 2, 1) := by decide +kernel
theorem d_Row_addWord_3 : decode cd_Row_addWord 3 = .ok (.aload_n 1, 1) := by decide +kernel
theorem d_Row_addWord_4 : decode cd_Row_addWord 4 = .ok (.invokevirtual 31, 3) := by decide +kernel
theorem d_Row_addWord_7 : decode cd_Row_addWord 7 = .ok (.if_icmp .ge 18, 3) := by decide +kernel
theorem d_Row_addWord_10 : decode cd_Row_addWord 10 = .ok (.aload_n 0, 1) := by decide +kernel
theorem d_Row_addWord_11 : decode cd_Row_addWord 11 = .ok (.aload_n 1, 1) := by decide +kernel
theorem d_Row_addWord_12 : decode cd_Row_addWord 12 = .ok (.iload_n 2, 1) := by decide +kernel
theorem d_Row_addWord_13 : decode cd_Row_addWord 13 = .ok (.invokevirtual 37, 3) := by decide +kernel
theorem d_Row_addWord_16 : decode cd_Row_addWord 16 = .ok (.invokevirtual 27, 3) := by decide +kernel
theorem d_Row_addWord_19 : decode cd_Row_addWord 19 = .ok (.iinc 2 1, 3) := by decide +kernel
theorem d_Row_addWord_22 : decode cd_Row_addWord 22 = .ok (.goto (-20), 3) := by decide +kernel
theorem d_Row_addWord_25 : decode cd_Row_addWord 25 = .ok (.return_, 1) := by decide +kernel
theorem m_70 : Cond.methodLink R_Row 31 y_String_length ∈ gw := gm (i := 637) (by decide +kernel) (by decide +kernel)
theorem m_71 : Cond.methodLink R_Row 37 y_String_charAt ∈ gw := gm (i := 638) (by decide +kernel) (by decide +kernel)
theorem m_72 : Cond.instanceMethod y_String_charAt ∈ gw := gm (i := 639) (by decide +kernel) (by decide +kernel)
theorem m_73 : Cond.selects R_String y_String_charAt y_String_charAt ∈ gw := gm (i := 640) (by decide +kernel) (by decide +kernel)
set_option maxRecDepth 100000 in
theorem m_74 : Cond.code y_String_charAt cd_String_charAt 2 (some .char) ∈ gw := gm (i := 641) rfl rfl
def b_Row_addWord_2 (nt_cells : Nat) (a1 : Nat)  (rec_2 : (Int32 × Int32 × Int32 × (Nat → Int32)) → Option (Int32 × Int32 × (Nat → Int32))) (z2 : Int32 × Int32 × Int32 × (Nat → Int32)) : Option (Int32 × Int32 × (Nat → Int32)) :=
  ((f_String_length a1).bind fun u_4 => (if u_4 ≤ z2.1 then some (z2.2.1, z2.2.2.1, z2.2.2.2) else ((f_String_charAt a1 z2.1).bind fun u_13 => ((f_Row_add nt_cells z2.2.2.2 z2.2.1 z2.2.2.1 u_13).bind fun u_16 => rec_2 ((z2.1 + 1), u_16.1, u_16.2.1, u_16.2.2)))))
def f_Row_addWord (K : Nat) (nt_cells : Nat) (t_cells : Nat → Int32) (t_used : Int32) (t_burst : Int32) (a1 : Nat) : Option (Int32 × Int32 × (Nat → Int32)) :=
  lp_ (b_Row_addWord_2 nt_cells a1 ) K ((0 : Int32), t_used, t_burst, t_cells)
set_option maxHeartbeats 4000000 in
set_option maxRecDepth 100000 in
theorem c_Row_addWord (l : Launch) (G : Gt) (K : Nat) (qt : Nat) (qt_cells : Nat) (nt_cells : Nat) (t_cells : Nat → Int32) (t_used : Int32) (t_burst : Int32) (a1 : Nat) (sz : Nat) (res : Int32 × Int32 × (Nat → Int32))  (hr_a1 : a1 < nS) (hf : f_Row_addWord K nt_cells t_cells t_used t_burst a1 = some res) : Met l y_Row_addWord (.code y_Row_addWord cd_Row_addWord 3 none :: gw) { frames := 4, cells := 0, slots := 0, locals := 160 } (PC G ([.ref qt, .ref (gT G a1)] : List Value) sz (w_Row_empty G qt qt_cells nt_cells t_cells t_used t_burst)) (QV G (va_A (w_Row_empty G qt qt_cells nt_cells t_cells t_used t_burst) sz) (w_Row_empty G qt qt_cells nt_cells res.2.2 res.1 res.2.1)) 0 0 (va_A (w_Row_empty G qt qt_cells nt_cells t_cells t_used t_burst) sz) := by
  refine Met.ofW (cc := cd_Row_addWord) (maxL := 3) (ret := none) (by decide) rfl ?_
  intro p e s m args below meth c s₁ B hml hv
  obtain ⟨rfl, hsz, hP, hE, hD0⟩ := hv
  have hx := B.exec
  have hb := B.bytes
  have hr := B.returns
  have hts := atoms_spec (ws := (.code y_Row_addWord cd_Row_addWord 3 none :: gw)) B.pre
  have hg : ∀ w ∈ gw, w.before _ s = true := fun w h => hts w (List.mem_cons_of_mem _ h)
  have hown : s.vm.findClass R_Row = some m.cls := findClass_of_methodNamed B.named
  have hlocks := B.notSynchronized
  subst hsz
  have hK := hE.K
  have hD := hD0.self (sz := s.heap.size)
  have hAb := hE.ab hD0
  obtain ⟨Q, hQ⟩ : ∃ Q, MQ below (QV G (va_A (w_Row_empty G qt qt_cells nt_cells t_cells t_used t_burst) s.heap.size) (w_Row_empty G qt qt_cells nt_cells res.2.2 res.1 res.2.1)) ([.ref qt, .ref (gT G a1)] : List Value).toArray s 0 0 (va_A (w_Row_empty G qt qt_cells nt_cells t_cells t_used t_burst) s.heap.size) = Q := ⟨_, rfl⟩
  show W p l e { frames := 4, cells := 0, slots := 0, locals := 160 } s m ([.ref qt, .ref (gT G a1)] : List Value).toArray below meth c s.heap [] 0 0 (MQ below (QV G (va_A (w_Row_empty G qt qt_cells nt_cells t_cells t_used t_burst) s.heap.size) (w_Row_empty G qt qt_cells nt_cells res.2.2 res.1 res.2.1)) ([.ref qt, .ref (gT G a1)] : List Value).toArray s 0 0 (va_A (w_Row_empty G qt qt_cells nt_cells t_cells t_used t_burst) s.heap.size)) _
  rw [hQ]
  have hA : ∀ q : Nat, s.heap.size ≤ q → va_A (w_Row_empty G qt qt_cells nt_cells t_cells t_used t_burst) s.heap.size q := fun q h => Or.inr h
  obtain ⟨A, hAe⟩ : ∃ A, va_A (w_Row_empty G qt qt_cells nt_cells t_cells t_used t_burst) s.heap.size = A := ⟨_, rfl⟩
  rw [hAe] at hA hD hAb hQ
  have hS : va_S A s.heap s.heap [] := va_S.rf
  have hl := lv_entry (([.ref qt, .ref (gT G a1)] : List Value)) (n := 3) (Nat.le_of_ble_eq_true rfl)
  rw [lg_entry_eq]
  generalize (lg_sl (([.ref qt, .ref (gT G a1)] : List Value)) ++ List.replicate (3 - (lg_sl (([.ref qt, .ref (gT G a1)] : List Value))).length) Slot.unset).toArray = ls at hl ⊢
  have hl : lv_has ls 3 [(0, .ref qt), (1, .ref (gT G a1))] := hl
  have W_2 : ∀   (n_2 : Nat) (z2 : Int32 × Int32 × Int32 × (Nat → Int32)) , lp_ (b_Row_addWord_2 nt_cells a1 ) n_2 z2 = some res → ∀ (H : Heap) (locs : List Loc) (ls : Array Slot), va_P (gD G) vwCl (w_Row_empty G qt qt_cells nt_cells z2.2.2.2 z2.2.1 z2.2.2.1) H → va_D A (w_Row_empty G qt qt_cells nt_cells z2.2.2.2 z2.2.1 z2.2.2.1) → va_S A s.heap H locs → lv_has ls 3 [(0, .ref qt), (1, .ref (gT G a1)), (2, .int z2.1)] → W p l e { frames := 4, cells := 0, slots := 0, locals := 160 } s m ([.ref qt, .ref (gT G a1)] : List Value).toArray below meth c H locs 0 0 Q (F0 m 2 ls []) := by
    intro  n_2
    induction n_2 with
    | zero =>
      intro z2  hf
      cases hf
    | succ n_2 ih_2 =>
      intro z2  hf H locs ls hP hD hS hl
      have hf : b_Row_addWord_2 nt_cells a1  (lp_ (b_Row_addWord_2 nt_cells a1 ) n_2) z2 = some res := hf
      generalize lp_ (b_Row_addWord_2 nt_cells a1 ) n_2 = rec_2 at hf ih_2
      unfold b_Row_addWord_2 at hf
      refine lv_iload_n hx hb d_Row_addWord_2 rfl (lv_at hl 2 rfl) ?_
      refine lv_aload_n hx hb d_Row_addWord_3 rfl (lv_at hl 1 rfl) ?_
      obtain ⟨u_4, hu_4, hf⟩ := bd_ hf
      refine CALLi (va_runV (As := []) (rest := [.int z2.1]) ⟨hx, hb, hml, hown, hg⟩ (c_String_length l G K a1 _ u_4 hr_a1 hu_4) (cwV 0 hg (gV m_70 m_38 m_39 m_21 m_40) rfl rfl rfl (by decide +kernel) ⟨Nat.le_of_ble_eq_true rfl, Nat.le_of_ble_eq_true rfl⟩) ⟨PC_b, vk_recv (hE.vs hAb) hr_a1 hS, PC_p hE hS hAb (hP.sub [] rfl) (hD.sub [] (by decide) rfl)⟩ rfl rfl hl.1 rfl (lv_room (Nat.le_of_ble_eq_true rfl)) d_Row_addWord_4 ⟨Nat.zero_le _, Nat.zero_le _⟩) hP hD hS hA [] rfl rfl rfl (fun H locs hP hD hS => ?_)
      have hP : va_P (gD G) vwCl (w_Row_empty G qt qt_cells nt_cells z2.2.2.2 z2.2.1 z2.2.2.1) H := hP
      have hD : va_D A (w_Row_empty G qt qt_cells nt_cells z2.2.2.2 z2.2.1 z2.2.2.1) := hD
      refine lv_icmp_ge (tgt := 25) hx hb d_Row_addWord_7 (by decide) (fun c_7 => ?_) (fun c_7 => ?_)
      · have hf := ip_ c_7 hf
        obtain rfl := Option.some.inj hf
        rw [← hQ]
        exact W.vret hx hb hr (fun t9 ht hW => ⟨⟨(), rfl, trivial, ⟨by rw [ht]; exact hP, hD⟩⟩, hS.F ht⟩) hS.2.2 d_Row_addWord_25
      · have hf := in_ c_7 hf
        refine lv_aload_n hx hb d_Row_addWord_10 rfl (lv_at hl 0 rfl) ?_
        refine lv_aload_n hx hb d_Row_addWord_11 rfl (lv_at hl 1 rfl) ?_
        refine lv_iload_n hx hb d_Row_addWord_12 rfl (lv_at hl 2 rfl) ?_
        obtain ⟨u_13, hu_13, hf⟩ := bd_ hf
        refine CALLi (va_runV (As := [.int z2.1]) (rest := [.ref qt]) ⟨hx, hb, hml, hown, hg⟩ (c_String_charAt l G K a1 z2.1 _ u_13 hr_a1 hu_13) (cwV 1 hg (gV m_71 m_72 m_73 m_21 m_74) rfl rfl rfl (by decide +kernel) ⟨Nat.le_of_ble_eq_true rfl, Nat.le_of_ble_eq_true rfl⟩) ⟨PC_b, vk_recv (hE.vs hAb) hr_a1 hS, PC_p hE hS hAb (hP.sub [] rfl) (hD.sub [] (by decide) rfl)⟩ rfl rfl hl.1 rfl (lv_room (Nat.le_of_ble_eq_true rfl)) d_Row_addWord_13 ⟨Nat.zero_le _, Nat.zero_le _⟩) hP hD hS hA [] rfl rfl rfl (fun H locs hP hD hS => ?_)
        have hP : va_P (gD G) vwCl (w_Row_empty G qt qt_cells nt_cells z2.2.2.2 z2.2.1 z2.2.2.1) H := hP
        have hD : va_D A (w_Row_empty G qt qt_cells nt_cells z2.2.2.2 z2.2.1 z2.2.2.1) := hD
        obtain ⟨u_16, hu_16, hf⟩ := bd_ hf
        refine CALLWv (va_runV (As := [.int u_13]) (rest := []) ⟨hx, hb, hml, hown, hg⟩ (c_Row_add l G K qt qt_cells nt_cells z2.2.2.2 z2.2.1 z2.2.2.1 u_13 _ u_16  hu_16) (cwV 1 hg (gV m_57 m_58 m_59 m_60 m_61) rfl rfl rfl (by decide +kernel) ⟨Nat.le_of_ble_eq_true rfl, Nat.le_of_ble_eq_true rfl⟩) ⟨PC_b, va_recv hK hP (ci := 4) (q0 := 0) rfl rfl, PC_p hE hS hAb hP hD⟩ rfl rfl hl.1 rfl (lv_room (Nat.le_of_ble_eq_true rfl)) d_Row_addWord_16 ⟨Nat.zero_le _, Nat.zero_le _⟩) hP hD hS hA (fun H locs hP hD hS => ?_)
        have hP : va_P (gD G) vwCl (w_Row_empty G qt qt_cells nt_cells u_16.2.2 u_16.1 u_16.2.1) H := hP
        have hD : va_D A (w_Row_empty G qt qt_cells nt_cells u_16.2.2 u_16.1 u_16.2.1) := hD
        refine lv_iinc (v := (z2.1 + 1)) (lv' := [(2, .int (z2.1 + 1)), (0, .ref qt), (1, .ref (gT G a1))]) hx hb d_Row_addWord_19 hl (k := 2) rfl rfl (by decide) rfl (fun ls hl => ?_)
        refine lv_goto (tgt := 2) hx hb d_Row_addWord_22 (by decide) ?_
        exact ih_2 ((z2.1 + 1), u_16.1, u_16.2.1, u_16.2.2)  hf _ _ _ hP hD hS (lv_sub hl [1, 2, 0] rfl)
  unfold f_Row_addWord at hf
  refine lv_iconst (v := 0) hx hb d_Row_addWord_0 (by decide) ?_
  refine lv_istore_n (lv' := [(2, .int (0 : Int32)), (0, .ref qt), (1, .ref (gT G a1))]) hx hb d_Row_addWord_1 rfl hl (by decide) rfl (fun ls hl => ?_)
  exact W_2   K ((0 : Int32), t_used, t_burst, t_cells)  hf _ _ _ hP hD hS (lv_sub hl [1, 2, 0] rfl)
end
section
theorem d_Hex_exponentBits_0 : decode cd_Hex_exponentBits 0 = .ok (.lload_n 0, 1) := by decide +kernel
theorem d_Hex_exponentBits_1 : decode cd_Hex_exponentBits 1 = .ok (.bipush 52, 2) := by decide +kernel
theorem d_Hex_exponentBits_3 : decode cd_Hex_exponentBits 3 = .ok (.lushr, 1) := by decide +kernel
theorem d_Hex_exponentBits_4 : decode cd_Hex_exponentBits 4 = .ok (.l2i, 1) := by decide +kernel
theorem d_Hex_exponentBits_5 : decode cd_Hex_exponentBits 5 = .ok (.sipush 2047, 3) := by decide +kernel
theorem d_Hex_exponentBits_8 : decode cd_Hex_exponentBits 8 = .ok (.iand, 1) := by decide +kernel
theorem d_Hex_exponentBits_9 : decode cd_Hex_exponentBits 9 = .ok (.ireturn, 1) := by decide +kernel
def f_Hex_exponentBits (a1 : Int64) : Option Int32 :=
  some (((a1.toUInt64 >>> ((52 : Int32).toInt64.toUInt64 &&& Int64.toUInt64 63)).toInt64).toInt32 &&& (2047 : Int32))
set_option maxHeartbeats 4000000 in
set_option maxRecDepth 100000 in
theorem c_Hex_exponentBits (l : Launch) (G : Gt) (K : Nat) (a1 : Int64) (sz : Nat) (res : Int32)   (hf : f_Hex_exponentBits a1 = some res) : Met l y_Hex_exponentBits (.code y_Hex_exponentBits cd_Hex_exponentBits 2 (some .int) :: gw) { frames := 0, cells := 0, slots := 0, locals := 0 } (PC G ([.long a1] : List Value) sz (w_Preconditions_checkIndexn G )) (QI G res (va_A (w_Preconditions_checkIndexn G ) sz) (w_Preconditions_checkIndexn G )) 0 0 (va_A (w_Preconditions_checkIndexn G ) sz) := by
  refine Met.ofW (cc := cd_Hex_exponentBits) (maxL := 2) (ret := (some .int)) (by decide) rfl ?_
  intro p e s m args below meth c s₁ B hml hv
  obtain ⟨rfl, hsz, hP, hE, hD0⟩ := hv
  have hx := B.exec
  have hb := B.bytes
  have hr := B.returns
  have hts := atoms_spec (ws := (.code y_Hex_exponentBits cd_Hex_exponentBits 2 (some .int) :: gw)) B.pre
  have hg : ∀ w ∈ gw, w.before _ s = true := fun w h => hts w (List.mem_cons_of_mem _ h)
  have hown : s.vm.findClass R_Hex = some m.cls := findClass_of_methodNamed B.named
  have hlocks := B.notSynchronized
  subst hsz
  have hK := hE.K
  have hD := hD0.self (sz := s.heap.size)
  have hAb := hE.ab hD0
  obtain ⟨Q, hQ⟩ : ∃ Q, MQ below (QI G res (va_A (w_Preconditions_checkIndexn G ) s.heap.size) (w_Preconditions_checkIndexn G )) ([.long a1] : List Value).toArray s 0 0 (va_A (w_Preconditions_checkIndexn G ) s.heap.size) = Q := ⟨_, rfl⟩
  show W p l e { frames := 0, cells := 0, slots := 0, locals := 0 } s m ([.long a1] : List Value).toArray below meth c s.heap [] 0 0 (MQ below (QI G res (va_A (w_Preconditions_checkIndexn G ) s.heap.size) (w_Preconditions_checkIndexn G )) ([.long a1] : List Value).toArray s 0 0 (va_A (w_Preconditions_checkIndexn G ) s.heap.size)) _
  rw [hQ]
  have hA : ∀ q : Nat, s.heap.size ≤ q → va_A (w_Preconditions_checkIndexn G ) s.heap.size q := fun q h => Or.inr h
  obtain ⟨A, hAe⟩ : ∃ A, va_A (w_Preconditions_checkIndexn G ) s.heap.size = A := ⟨_, rfl⟩
  rw [hAe] at hA hD hAb hQ
  have hS : va_S A s.heap s.heap [] := va_S.rf
  have hl := lv_entry (([.long a1] : List Value)) (n := 2) (Nat.le_of_ble_eq_true rfl)
  rw [lg_entry_eq]
  generalize (lg_sl (([.long a1] : List Value)) ++ List.replicate (2 - (lg_sl (([.long a1] : List Value))).length) Slot.unset).toArray = ls at hl ⊢
  have hl : lv_has ls 2 [(0, .long a1)] := hl
  unfold f_Hex_exponentBits at hf
  refine lv_lload_n hx hb d_Hex_exponentBits_0 rfl (lv_at hl 0 rfl) ?_
  refine lv_bipush (v := 52) hx hb d_Hex_exponentBits_1 (by decide) ?_
  refine lv_lushr (v := (a1.toUInt64 >>> ((52 : Int32).toInt64.toUInt64 &&& Int64.toUInt64 63)).toInt64) hx hb d_Hex_exponentBits_3 rfl ?_
  refine lv_l2i (v := ((a1.toUInt64 >>> ((52 : Int32).toInt64.toUInt64 &&& Int64.toUInt64 63)).toInt64).toInt32) hx hb d_Hex_exponentBits_4 rfl ?_
  refine lv_sipush (v := 2047) hx hb d_Hex_exponentBits_5 (by decide) ?_
  refine lv_iand hx hb d_Hex_exponentBits_8 ?_
  obtain rfl := Option.some.inj hf
  rw [← hQ]
  exact W.iret (v := (((a1.toUInt64 >>> ((52 : Int32).toInt64.toUInt64 &&& Int64.toUInt64 63)).toInt64).toInt32 &&& (2047 : Int32))) hx hb hr (fun t9 ht hW => ⟨⟨(((a1.toUInt64 >>> ((52 : Int32).toInt64.toUInt64 &&& Int64.toUInt64 63)).toInt64).toInt32 &&& (2047 : Int32)), (), rfl, rfl, ⟨by rw [ht]; exact hP, hD⟩⟩, hS.F ht⟩) hS.2.2 d_Hex_exponentBits_9
theorem d_Hex_take_0 : decode cd_Hex_take 0 = .ok (.aload_n 0, 1) := by decide +kernel
theorem d_Hex_take_1 : decode cd_Hex_take 1 = .ok (.bipush 13, 2) := by decide +kernel
theorem d_Hex_take_3 : decode cd_Hex_take 3 = .ok (.putfield 9, 3) := by decide +kernel
theorem d_Hex_take_6 : decode cd_Hex_take 6 = .ok (.aload_n 0, 1) := by decide +kernel
theorem d_Hex_take_7 : decode cd_Hex_take 7 = .ok (.iconst 0, 1) := by decide +kernel
theorem d_Hex_take_8 : decode cd_Hex_take 8 = .ok (.putfield 13, 3) := by decide +kernel
theorem d_Hex_take_11 : decode cd_Hex_take 11 = .ok (.aload_n 0, 1) := by decide +kernel
theorem d_Hex_take_12 : decode cd_Hex_take 12 = .ok (.lload_n 1, 1) := by decide +kernel
theorem d_Hex_take_13 : decode cd_Hex_take 13 = .ok (.ldc2_w 16, 3) := by decide +kernel
theorem d_Hex_take_16 : decode cd_Hex_take 16 = .ok (.land, 1) := by decide +kernel
theorem d_Hex_take_17 : decode cd_Hex_take 17 = .ok (.putfield 18, 3) := by decide +kernel
theorem d_Hex_take_20 : decode cd_Hex_take 20 = .ok (.lload_n 1, 1) := by decide +kernel
theorem d_Hex_take_21 : decode cd_Hex_take 21 = .ok (.invokestatic 22, 3) := by decide +kernel
theorem d_Hex_take_24 : decode cd_Hex_take 24 = .ok (.istore_n 3, 1) := by decide +kernel
theorem d_Hex_take_25 : decode cd_Hex_take 25 = .ok (.iload_n 3, 1) := by decide +kernel
theorem d_Hex_take_26 : decode cd_Hex_take 26 = .ok (.ifCond .eq 27, 3) := by decide +kernel
theorem d_Hex_take_29 : decode cd_Hex_take 29 = .ok (.aload_n 0, 1) := by decide +kernel
theorem d_Hex_take_30 : decode cd_Hex_take 30 = .ok (.dup, 1) := by decide +kernel
theorem d_Hex_take_31 : decode cd_Hex_take 31 = .ok (.getfield 18, 3) := by decide +kernel
theorem d_Hex_take_34 : decode cd_Hex_take 34 = .ok (.ldc2_w 26, 3) := by decide +kernel
theorem d_Hex_take_37 : decode cd_Hex_take 37 = .ok (.lor, 1) := by decide +kernel
theorem d_Hex_take_38 : decode cd_Hex_take 38 = .ok (.putfield 18, 3) := by decide +kernel
theorem d_Hex_take_41 : decode cd_Hex_take 41 = .ok (.aload_n 0, 1) := by decide +kernel
theorem d_Hex_take_42 : decode cd_Hex_take 42 = .ok (.iload_n 3, 1) := by decide +kernel
theorem d_Hex_take_43 : decode cd_Hex_take 43 = .ok (.sipush 1023, 3) := by decide +kernel
theorem d_Hex_take_46 : decode cd_Hex_take 46 = .ok (.isub, 1) := by decide +kernel
theorem d_Hex_take_47 : decode cd_Hex_take 47 = .ok (.putfield 13, 3) := by decide +kernel
theorem d_Hex_take_50 : decode cd_Hex_take 50 = .ok (.goto 68, 3) := by decide +kernel
theorem d_Hex_take_53 : decode cd_Hex_take 53 = .ok (.aload_n 0, 1) := by decide +kernel
theorem d_Hex_take_54 : decode cd_Hex_take 54 = .ok (.getfield 18, 3) := by decide +kernel
theorem d_Hex_take_57 : decode cd_Hex_take 57 = .ok (.lconst 0, 1) := by decide +kernel
theorem d_Hex_take_58 : decode cd_Hex_take 58 = .ok (.lcmp, 1) := by decide +kernel
theorem d_Hex_take_59 : decode cd_Hex_take 59 = .ok (.ifCond .eq 59, 3) := by decide +kernel
theorem d_Hex_take_62 : decode cd_Hex_take 62 = .ok (.aload_n 0, 1) := by decide +kernel
theorem d_Hex_take_63 : decode cd_Hex_take 63 = .ok (.sipush (-1022), 3) := by decide +kernel
theorem d_Hex_take_66 : decode cd_Hex_take 66 = .ok (.putfield 13, 3) := by decide +kernel
theorem d_Hex_take_69 : decode cd_Hex_take 69 = .ok (.iconst 0, 1) := by decide +kernel
theorem d_Hex_take_70 : decode cd_Hex_take 70 = .ok (.istore 4, 2) := by decide +kernel
theorem d_Hex_take_72 : decode cd_Hex_take 72 = .ok (.iload 4, 2) := by decide +kernel
theorem d_Hex_take_74 : decode cd_Hex_take 74 = .ok (.bipush 52, 2) := by decide +kernel
theorem d_Hex_take_76 : decode cd_Hex_take 76 = .ok (.if_icmp .ge 42, 3) := by decide +kernel
theorem d_Hex_take_79 : decode cd_Hex_take 79 = .ok (.aload_n 0, 1) := by decide +kernel
theorem d_Hex_take_80 : decode cd_Hex_take 80 = .ok (.getfield 18, 3) := by decide +kernel
theorem d_Hex_take_83 : decode cd_Hex_take 83 = .ok (.ldc2_w 26, 3) := by decide +kernel
theorem d_Hex_take_86 : decode cd_Hex_take 86 = .ok (.land, 1) := by decide +kernel
theorem d_Hex_take_87 : decode cd_Hex_take 87 = .ok (.lconst 0, 1) := by decide +kernel
theorem d_Hex_take_88 : decode cd_Hex_take 88 = .ok (.lcmp, 1) := by decide +kernel
theorem d_Hex_take_89 : decode cd_Hex_take 89 = .ok (.ifCond .ne 29, 3) := by decide +kernel
theorem d_Hex_take_92 : decode cd_Hex_take 92 = .ok (.aload_n 0, 1) := by decide +kernel
theorem d_Hex_take_93 : decode cd_Hex_take 93 = .ok (.dup, 1) := by decide +kernel
theorem d_Hex_take_94 : decode cd_Hex_take 94 = .ok (.getfield 18, 3) := by decide +kernel
theorem d_Hex_take_97 : decode cd_Hex_take 97 = .ok (.iconst 1, 1) := by decide +kernel
theorem d_Hex_take_98 : decode cd_Hex_take 98 = .ok (.lshl, 1) := by decide +kernel
theorem d_Hex_take_99 : decode cd_Hex_take 99 = .ok (.putfield 18, 3) := by decide +kernel
theorem d_Hex_take_102 : decode cd_Hex_take 102 = .ok (.aload_n 0, 1) := by decide +kernel
theorem d_Hex_take_103 : decode cd_Hex_take 103 = .ok (.dup, 1) := by decide +kernel
theorem d_Hex_take_104 : decode cd_Hex_take 104 = .ok (.getfield 13, 3) := by decide +kernel
theorem d_Hex_take_107 : decode cd_Hex_take 107 = .ok (.iconst 1, 1) := by decide +kernel
theorem d_Hex_take_108 : decode cd_Hex_take 108 = .ok (.isub, 1) := by decide +kernel
theorem d_Hex_take_109 : decode cd_Hex_take 109 = .ok (.putfield 13, 3) := by decide +kernel
theorem d_Hex_take_112 : decode cd_Hex_take 112 = .ok (.iinc 4 1, 3) := by decide +kernel
theorem d_Hex_take_115 : decode cd_Hex_take 115 = .ok (.goto (-43), 3) := by decide +kernel
theorem d_Hex_take_118 : decode cd_Hex_take 118 = .ok (.return_, 1) := by decide +kernel
theorem m_75 : Cond.fieldLink R_Hex 9 "SpecifierDesk$Hex" "digits" "I" ∈ gw := gm (i := 213) (by decide +kernel) (by decide +kernel)
theorem m_76 : Cond.fieldLink R_Hex 13 "SpecifierDesk$Hex" "exponent" "I" ∈ gw := gm (i := 211) (by decide +kernel) (by decide +kernel)
theorem m_77 : Cond.constantLong R_Hex 16 4503599627370495 ∈ gw := gm (i := 803) (by decide +kernel) (by decide +kernel)
theorem m_78 : Cond.fieldLink R_Hex 18 "SpecifierDesk$Hex" "mantissa" "J" ∈ gw := gm (i := 210) (by decide +kernel) (by decide +kernel)
theorem m_79 : Cond.methodLink R_Hex 22 y_Hex_exponentBits ∈ gw := gm (i := 804) (by decide +kernel) (by decide +kernel)
theorem m_80 : Cond.static y_Hex_exponentBits ∈ gw := gm (i := 668) (by decide +kernel) (by decide +kernel)
theorem m_81 : Cond.initialized R_Hex ∈ gw := gm (i := 88) (by decide +kernel) (by decide +kernel)
set_option maxRecDepth 100000 in
theorem m_82 : Cond.code y_Hex_exponentBits cd_Hex_exponentBits 2 (some .int) ∈ gw := gm (i := 669) rfl rfl
theorem m_83 : Cond.constantLong R_Hex 26 4503599627370496 ∈ gw := gm (i := 805) (by decide +kernel) (by decide +kernel)
def b_Hex_take_72  (t_digits : Int32) (rec_72 : (Int32 × Int64 × Int32) → Option (Int64 × Int32 × Int32)) (z72 : Int32 × Int64 × Int32) : Option (Int64 × Int32 × Int32) :=
  (if (52 : Int32) ≤ z72.1 then some (z72.2.1, z72.2.2, t_digits) else (if (lg_cmp (z72.2.1 &&& (4503599627370496 : Int64)) (0 : Int64)) = 0 then rec_72 ((z72.1 + 1), (z72.2.1 <<< ((1 : Int32).toInt64 &&& 63)), (z72.2.2 - (1 : Int32))) else some (z72.2.1, z72.2.2, t_digits)))
def f_Hex_take (K : Nat) (a1 : Int64) : Option (Int64 × Int32 × Int32) :=
  ((f_Hex_exponentBits a1).bind fun u_21 => (if u_21 = 0 then (if (lg_cmp (a1 &&& (4503599627370495 : Int64)) (0 : Int64)) = 0 then some ((a1 &&& (4503599627370495 : Int64)), (0 : Int32), (13 : Int32)) else lp_ (b_Hex_take_72  (13 : Int32)) K ((0 : Int32), (a1 &&& (4503599627370495 : Int64)), (-1022 : Int32))) else some (((a1 &&& (4503599627370495 : Int64)) ||| (4503599627370496 : Int64)), (u_21 - (1023 : Int32)), (13 : Int32))))
abbrev w_Hex_take (G : Gt) (qt : Nat) (t_mantissa : Int64) (t_exponent : Int32) (t_digits : Int32) : va_W := [(qt, .inr (3, [.long t_mantissa, .int t_exponent, .int t_digits]))]
set_option maxHeartbeats 4000000 in
set_option maxRecDepth 100000 in
theorem c_Hex_take (l : Launch) (G : Gt) (K : Nat) (qt : Nat) (t_mantissa : Int64) (t_exponent : Int32) (t_digits : Int32) (a1 : Int64) (sz : Nat) (res : Int64 × Int32 × Int32)   (hf : f_Hex_take K a1 = some res) : Met l y_Hex_take (.code y_Hex_take cd_Hex_take 5 none :: gw) { frames := 1, cells := 0, slots := 0, locals := 40 } (PC G ([.ref qt, .long a1] : List Value) sz (w_Hex_take G qt t_mantissa t_exponent t_digits)) (QV G (va_A (w_Hex_take G qt t_mantissa t_exponent t_digits) sz) (w_Hex_take G qt res.1 res.2.1 res.2.2)) 0 0 (va_A (w_Hex_take G qt t_mantissa t_exponent t_digits) sz) := by
  refine Met.ofW (cc := cd_Hex_take) (maxL := 5) (ret := none) (by decide) rfl ?_
  intro p e s m args below meth c s₁ B hml hv
  obtain ⟨rfl, hsz, hP, hE, hD0⟩ := hv
  have hx := B.exec
  have hb := B.bytes
  have hr := B.returns
  have hts := atoms_spec (ws := (.code y_Hex_take cd_Hex_take 5 none :: gw)) B.pre
  have hg : ∀ w ∈ gw, w.before _ s = true := fun w h => hts w (List.mem_cons_of_mem _ h)
  have hown : s.vm.findClass R_Hex = some m.cls := findClass_of_methodNamed B.named
  have hlocks := B.notSynchronized
  subst hsz
  have hK := hE.K
  have hD := hD0.self (sz := s.heap.size)
  have hAb := hE.ab hD0
  obtain ⟨Q, hQ⟩ : ∃ Q, MQ below (QV G (va_A (w_Hex_take G qt t_mantissa t_exponent t_digits) s.heap.size) (w_Hex_take G qt res.1 res.2.1 res.2.2)) ([.ref qt, .long a1] : List Value).toArray s 0 0 (va_A (w_Hex_take G qt t_mantissa t_exponent t_digits) s.heap.size) = Q := ⟨_, rfl⟩
  show W p l e { frames := 1, cells := 0, slots := 0, locals := 40 } s m ([.ref qt, .long a1] : List Value).toArray below meth c s.heap [] 0 0 (MQ below (QV G (va_A (w_Hex_take G qt t_mantissa t_exponent t_digits) s.heap.size) (w_Hex_take G qt res.1 res.2.1 res.2.2)) ([.ref qt, .long a1] : List Value).toArray s 0 0 (va_A (w_Hex_take G qt t_mantissa t_exponent t_digits) s.heap.size)) _
  rw [hQ]
  have hA : ∀ q : Nat, s.heap.size ≤ q → va_A (w_Hex_take G qt t_mantissa t_exponent t_digits) s.heap.size q := fun q h => Or.inr h
  obtain ⟨A, hAe⟩ : ∃ A, va_A (w_Hex_take G qt t_mantissa t_exponent t_digits) s.heap.size = A := ⟨_, rfl⟩
  rw [hAe] at hA hD hAb hQ
  have hS : va_S A s.heap s.heap [] := va_S.rf
  have hl := lv_entry (([.ref qt, .long a1] : List Value)) (n := 5) (Nat.le_of_ble_eq_true rfl)
  rw [lg_entry_eq]
  generalize (lg_sl (([.ref qt, .long a1] : List Value)) ++ List.replicate (5 - (lg_sl (([.ref qt, .long a1] : List Value))).length) Slot.unset).toArray = ls at hl ⊢
  have hl : lv_has ls 5 [(0, .ref qt), (1, .long a1)] := hl
  have W_72 : ∀ (t_digits : Int32)  (n_72 : Nat) (z72 : Int32 × Int64 × Int32) , lp_ (b_Hex_take_72  t_digits) n_72 z72 = some res → ∀ (H : Heap) (locs : List Loc) (ls : Array Slot), va_P (gD G) vwCl (w_Hex_take G qt z72.2.1 z72.2.2 t_digits) H → va_D A (w_Hex_take G qt z72.2.1 z72.2.2 t_digits) → va_S A s.heap H locs → lv_has ls 5 [(0, .ref qt), (4, .int z72.1)] → W p l e { frames := 1, cells := 0, slots := 0, locals := 40 } s m ([.ref qt, .long a1] : List Value).toArray below meth c H locs 0 0 Q (F0 m 72 ls []) := by
    intro t_digits n_72
    induction n_72 with
    | zero =>
      intro z72  hf
      cases hf
    | succ n_72 ih_72 =>
      intro z72  hf H locs ls hP hD hS hl
      have hf : b_Hex_take_72  t_digits (lp_ (b_Hex_take_72  t_digits) n_72) z72 = some res := hf
      generalize lp_ (b_Hex_take_72  t_digits) n_72 = rec_72 at hf ih_72
      unfold b_Hex_take_72 at hf
      refine lv_iload hx hb d_Hex_take_72 (lv_at hl 1 rfl) ?_
      refine lv_bipush (v := 52) hx hb d_Hex_take_74 (by decide) ?_
      refine lv_icmp_ge (tgt := 118) hx hb d_Hex_take_76 (by decide) (fun c_76 => ?_) (fun c_76 => ?_)
      · have hf := ip_ c_76 hf
        obtain rfl := Option.some.inj hf
        rw [← hQ]
        exact W.vret hx hb hr (fun t9 ht hW => ⟨⟨(), rfl, trivial, ⟨by rw [ht]; exact hP, hD⟩⟩, hS.F ht⟩) hS.2.2 d_Hex_take_118
      · have hf := in_ c_76 hf
        refine lv_aload_n hx hb d_Hex_take_79 rfl (lv_at hl 0 rfl) ?_
        refine va_get (D := gD G) (ci := 3) (v := .long z72.2.1) (C := R_Hex) (T := F_Hex) (N := 3) hx hb hg in_Hex hown hK hP 0 rfl rfl 0 (by decide) (hg _ m_78) (fun _ h9 => h9) rfl d_Hex_take_80 ?_
        refine lv_ldc2 (v := 4503599627370496) hx hb hown (hg _ m_83) d_Hex_take_83 ?_
        refine lv_land hx hb d_Hex_take_86 ?_
        refine lv_lconst (v := 0) hx hb d_Hex_take_87 (by decide) ?_
        refine W.lcmp hx hb d_Hex_take_88 ?_
        refine lv_if_ne (tgt := 118) hx hb d_Hex_take_89 (by decide) (fun c_89 => ?_) (fun c_89 => ?_)
        · have hf := in_ c_89 hf
          obtain rfl := Option.some.inj hf
          rw [← hQ]
          exact W.vret hx hb hr (fun t9 ht hW => ⟨⟨(), rfl, trivial, ⟨by rw [ht]; exact hP, hD⟩⟩, hS.F ht⟩) hS.2.2 d_Hex_take_118
        · have hf := ip_ c_89 hf
          refine lv_aload_n hx hb d_Hex_take_92 rfl (lv_at hl 0 rfl) ?_
          refine lv_dup hx hb d_Hex_take_93 rfl ?_
          refine va_get (D := gD G) (ci := 3) (v := .long z72.2.1) (C := R_Hex) (T := F_Hex) (N := 3) hx hb hg in_Hex hown hK hP 0 rfl rfl 0 (by decide) (hg _ m_78) (fun _ h9 => h9) rfl d_Hex_take_94 ?_
          refine lv_iconst (v := 1) hx hb d_Hex_take_97 (by decide) ?_
          refine lv_lshl (v := (z72.2.1 <<< ((1 : Int32).toInt64 &&& 63))) hx hb d_Hex_take_98 rfl ?_
          refine va_put (D := gD G) (ci := 3) (v := .long (z72.2.1 <<< ((1 : Int32).toInt64 &&& 63))) (ty := .long) (C := R_Hex) (T := F_Hex) (N := 3) hx hb hg in_Hex t_Hex to_Hex no_Hex hown hK hP hD hS 0 rfl rfl 0 (by decide) (hg _ m_78) (fun _ h9 => h9) rfl (by decide +kernel) rfl rfl (Nat.le_of_ble_eq_true rfl) d_Hex_take_99 (fun H locs hP hD hS => ?_)
          have hP : va_P (gD G) vwCl (w_Hex_take G qt (z72.2.1 <<< ((1 : Int32).toInt64 &&& 63)) z72.2.2 t_digits) H := hP
          have hD : va_D A (w_Hex_take G qt (z72.2.1 <<< ((1 : Int32).toInt64 &&& 63)) z72.2.2 t_digits) := hD
          refine lv_aload_n hx hb d_Hex_take_102 rfl (lv_at hl 0 rfl) ?_
          refine lv_dup hx hb d_Hex_take_103 rfl ?_
          refine va_get (D := gD G) (ci := 3) (v := .int z72.2.2) (C := R_Hex) (T := F_Hex) (N := 3) hx hb hg in_Hex hown hK hP 0 rfl rfl 1 (by decide) (hg _ m_76) (fun _ h9 => h9) rfl d_Hex_take_104 ?_
          refine lv_iconst (v := 1) hx hb d_Hex_take_107 (by decide) ?_
          refine lv_isub hx hb d_Hex_take_108 ?_
          refine va_put (D := gD G) (ci := 3) (v := .int (z72.2.2 - (1 : Int32))) (ty := .int) (C := R_Hex) (T := F_Hex) (N := 3) hx hb hg in_Hex t_Hex to_Hex no_Hex hown hK hP hD hS 0 rfl rfl 1 (by decide) (hg _ m_76) (fun _ h9 => h9) rfl (by decide +kernel) rfl rfl (Nat.le_of_ble_eq_true rfl) d_Hex_take_109 (fun H locs hP hD hS => ?_)
          have hP : va_P (gD G) vwCl (w_Hex_take G qt (z72.2.1 <<< ((1 : Int32).toInt64 &&& 63)) (z72.2.2 - (1 : Int32)) t_digits) H := hP
          have hD : va_D A (w_Hex_take G qt (z72.2.1 <<< ((1 : Int32).toInt64 &&& 63)) (z72.2.2 - (1 : Int32)) t_digits) := hD
          refine lv_iinc (v := (z72.1 + 1)) (lv' := [(4, .int (z72.1 + 1)), (0, .ref qt)]) hx hb d_Hex_take_112 hl (k := 1) rfl rfl (by decide) rfl (fun ls hl => ?_)
          refine lv_goto (tgt := 72) hx hb d_Hex_take_115 (by decide) ?_
          exact ih_72 ((z72.1 + 1), (z72.2.1 <<< ((1 : Int32).toInt64 &&& 63)), (z72.2.2 - (1 : Int32)))  hf _ _ _ hP hD hS (lv_sub hl [1, 0] rfl)
  unfold f_Hex_take at hf
  refine lv_aload_n hx hb d_Hex_take_0 rfl (lv_at hl 0 rfl) ?_
  refine lv_bipush (v := 13) hx hb d_Hex_take_1 (by decide) ?_
  refine va_put (D := gD G) (ci := 3) (v := .int (13 : Int32)) (ty := .int) (C := R_Hex) (T := F_Hex) (N := 3) hx hb hg in_Hex t_Hex to_Hex no_Hex hown hK hP hD hS 0 rfl rfl 2 (by decide) (hg _ m_75) (fun _ h9 => h9) rfl (by decide +kernel) rfl rfl (Nat.le_of_ble_eq_true rfl) d_Hex_take_3 (fun H locs hP hD hS => ?_)
  have hP : va_P (gD G) vwCl (w_Hex_take G qt t_mantissa t_exponent (13 : Int32)) H := hP
  have hD : va_D A (w_Hex_take G qt t_mantissa t_exponent (13 : Int32)) := hD
  refine lv_aload_n hx hb d_Hex_take_6 rfl (lv_at hl 0 rfl) ?_
  refine lv_iconst (v := 0) hx hb d_Hex_take_7 (by decide) ?_
  refine va_put (D := gD G) (ci := 3) (v := .int (0 : Int32)) (ty := .int) (C := R_Hex) (T := F_Hex) (N := 3) hx hb hg in_Hex t_Hex to_Hex no_Hex hown hK hP hD hS 0 rfl rfl 1 (by decide) (hg _ m_76) (fun _ h9 => h9) rfl (by decide +kernel) rfl rfl (Nat.le_of_ble_eq_true rfl) d_Hex_take_8 (fun H locs hP hD hS => ?_)
  have hP : va_P (gD G) vwCl (w_Hex_take G qt t_mantissa (0 : Int32) (13 : Int32)) H := hP
  have hD : va_D A (w_Hex_take G qt t_mantissa (0 : Int32) (13 : Int32)) := hD
  refine lv_aload_n hx hb d_Hex_take_11 rfl (lv_at hl 0 rfl) ?_
  refine lv_lload_n hx hb d_Hex_take_12 rfl (lv_at hl 1 rfl) ?_
  refine lv_ldc2 (v := 4503599627370495) hx hb hown (hg _ m_77) d_Hex_take_13 ?_
  refine lv_land hx hb d_Hex_take_16 ?_
  refine va_put (D := gD G) (ci := 3) (v := .long (a1 &&& (4503599627370495 : Int64))) (ty := .long) (C := R_Hex) (T := F_Hex) (N := 3) hx hb hg in_Hex t_Hex to_Hex no_Hex hown hK hP hD hS 0 rfl rfl 0 (by decide) (hg _ m_78) (fun _ h9 => h9) rfl (by decide +kernel) rfl rfl (Nat.le_of_ble_eq_true rfl) d_Hex_take_17 (fun H locs hP hD hS => ?_)
  have hP : va_P (gD G) vwCl (w_Hex_take G qt (a1 &&& (4503599627370495 : Int64)) (0 : Int32) (13 : Int32)) H := hP
  have hD : va_D A (w_Hex_take G qt (a1 &&& (4503599627370495 : Int64)) (0 : Int32) (13 : Int32)) := hD
  refine lv_lload_n hx hb d_Hex_take_20 rfl (lv_at hl 1 rfl) ?_
  obtain ⟨u_21, hu_21, hf⟩ := bd_ hf
  refine CALLi (va_runS (As := [.long a1]) (rest := []) ⟨hx, hb, hml, hown, hg⟩ (c_Hex_exponentBits l G K a1 _ u_21  hu_21) (va_cwS 1 hg (gS m_79 m_80 m_81 m_82) rfl rfl rfl (by decide +kernel) ⟨Nat.le_of_ble_eq_true rfl, Nat.le_of_ble_eq_true rfl⟩) ⟨PC_b, PC_p hE hS hAb (hP.sub [] rfl) (hD.sub [] (by decide) rfl)⟩ rfl rfl hl.1 rfl (lv_room (Nat.le_of_ble_eq_true rfl)) d_Hex_take_21 ⟨Nat.zero_le _, Nat.zero_le _⟩) hP hD hS hA [] rfl rfl rfl (fun H locs hP hD hS => ?_)
  have hP : va_P (gD G) vwCl (w_Hex_take G qt (a1 &&& (4503599627370495 : Int64)) (0 : Int32) (13 : Int32)) H := hP
  have hD : va_D A (w_Hex_take G qt (a1 &&& (4503599627370495 : Int64)) (0 : Int32) (13 : Int32)) := hD
  refine lv_istore_n (lv' := [(3, .int u_21), (0, .ref qt), (1, .long a1)]) hx hb d_Hex_take_24 rfl hl (by decide) rfl (fun ls hl => ?_)
  refine lv_iload_n hx hb d_Hex_take_25 rfl (lv_at hl 0 rfl) ?_
  refine lv_if_eq (tgt := 53) hx hb d_Hex_take_26 (by decide) (fun c_26 => ?_) (fun c_26 => ?_)
  · have hf := ip_ c_26 hf
    refine lv_aload_n hx hb d_Hex_take_53 rfl (lv_at hl 1 rfl) ?_
    refine va_get (D := gD G) (ci := 3) (v := .long (a1 &&& (4503599627370495 : Int64))) (C := R_Hex) (T := F_Hex) (N := 3) hx hb hg in_Hex hown hK hP 0 rfl rfl 0 (by decide) (hg _ m_78) (fun _ h9 => h9) rfl d_Hex_take_54 ?_
    refine lv_lconst (v := 0) hx hb d_Hex_take_57 (by decide) ?_
    refine W.lcmp hx hb d_Hex_take_58 ?_
    refine lv_if_eq (tgt := 118) hx hb d_Hex_take_59 (by decide) (fun c_59 => ?_) (fun c_59 => ?_)
    · have hf := ip_ c_59 hf
      obtain rfl := Option.some.inj hf
      rw [← hQ]
      exact W.vret hx hb hr (fun t9 ht hW => ⟨⟨(), rfl, trivial, ⟨by rw [ht]; exact hP, hD⟩⟩, hS.F ht⟩) hS.2.2 d_Hex_take_118
    · have hf := in_ c_59 hf
      refine lv_aload_n hx hb d_Hex_take_62 rfl (lv_at hl 1 rfl) ?_
      refine lv_sipush (v := -1022) hx hb d_Hex_take_63 (by decide) ?_
      refine va_put (D := gD G) (ci := 3) (v := .int (-1022 : Int32)) (ty := .int) (C := R_Hex) (T := F_Hex) (N := 3) hx hb hg in_Hex t_Hex to_Hex no_Hex hown hK hP hD hS 0 rfl rfl 1 (by decide) (hg _ m_76) (fun _ h9 => h9) rfl (by decide +kernel) rfl rfl (Nat.le_of_ble_eq_true rfl) d_Hex_take_66 (fun H locs hP hD hS => ?_)
      have hP : va_P (gD G) vwCl (w_Hex_take G qt (a1 &&& (4503599627370495 : Int64)) (-1022 : Int32) (13 : Int32)) H := hP
      have hD : va_D A (w_Hex_take G qt (a1 &&& (4503599627370495 : Int64)) (-1022 : Int32) (13 : Int32)) := hD
      refine lv_iconst (v := 0) hx hb d_Hex_take_69 (by decide) ?_
      refine lv_istore (lv' := [(4, .int (0 : Int32)), (3, .int u_21), (0, .ref qt), (1, .long a1)]) hx hb d_Hex_take_70 hl (by decide) rfl (fun ls hl => ?_)
      exact W_72 (13 : Int32)  K ((0 : Int32), (a1 &&& (4503599627370495 : Int64)), (-1022 : Int32))  hf _ _ _ hP hD hS (lv_sub hl [2, 0] rfl)
  · have hf := in_ c_26 hf
    refine lv_aload_n hx hb d_Hex_take_29 rfl (lv_at hl 1 rfl) ?_
    refine lv_dup hx hb d_Hex_take_30 rfl ?_
    refine va_get (D := gD G) (ci := 3) (v := .long (a1 &&& (4503599627370495 : Int64))) (C := R_Hex) (T := F_Hex) (N := 3) hx hb hg in_Hex hown hK hP 0 rfl rfl 0 (by decide) (hg _ m_78) (fun _ h9 => h9) rfl d_Hex_take_31 ?_
    refine lv_ldc2 (v := 4503599627370496) hx hb hown (hg _ m_83) d_Hex_take_34 ?_
    refine lv_lor hx hb d_Hex_take_37 ?_
    refine va_put (D := gD G) (ci := 3) (v := .long ((a1 &&& (4503599627370495 : Int64)) ||| (4503599627370496 : Int64))) (ty := .long) (C := R_Hex) (T := F_Hex) (N := 3) hx hb hg in_Hex t_Hex to_Hex no_Hex hown hK hP hD hS 0 rfl rfl 0 (by decide) (hg _ m_78) (fun _ h9 => h9) rfl (by decide +kernel) rfl rfl (Nat.le_of_ble_eq_true rfl) d_Hex_take_38 (fun H locs hP hD hS => ?_)
    have hP : va_P (gD G) vwCl (w_Hex_take G qt ((a1 &&& (4503599627370495 : Int64)) ||| (4503599627370496 : Int64)) (0 : Int32) (13 : Int32)) H := hP
    have hD : va_D A (w_Hex_take G qt ((a1 &&& (4503599627370495 : Int64)) ||| (4503599627370496 : Int64)) (0 : Int32) (13 : Int32)) := hD
    refine lv_aload_n hx hb d_Hex_take_41 rfl (lv_at hl 1 rfl) ?_
    refine lv_iload_n hx hb d_Hex_take_42 rfl (lv_at hl 0 rfl) ?_
    refine lv_sipush (v := 1023) hx hb d_Hex_take_43 (by decide) ?_
    refine lv_isub hx hb d_Hex_take_46 ?_
    refine va_put (D := gD G) (ci := 3) (v := .int (u_21 - (1023 : Int32))) (ty := .int) (C := R_Hex) (T := F_Hex) (N := 3) hx hb hg in_Hex t_Hex to_Hex no_Hex hown hK hP hD hS 0 rfl rfl 1 (by decide) (hg _ m_76) (fun _ h9 => h9) rfl (by decide +kernel) rfl rfl (Nat.le_of_ble_eq_true rfl) d_Hex_take_47 (fun H locs hP hD hS => ?_)
    have hP : va_P (gD G) vwCl (w_Hex_take G qt ((a1 &&& (4503599627370495 : Int64)) ||| (4503599627370496 : Int64)) (u_21 - (1023 : Int32)) (13 : Int32)) H := hP
    have hD : va_D A (w_Hex_take G qt ((a1 &&& (4503599627370495 : Int64)) ||| (4503599627370496 : Int64)) (u_21 - (1023 : Int32)) (13 : Int32)) := hD
    refine lv_goto (tgt := 118) hx hb d_Hex_take_50 (by decide) ?_
    obtain rfl := Option.some.inj hf
    rw [← hQ]
    exact W.vret hx hb hr (fun t9 ht hW => ⟨⟨(), rfl, trivial, ⟨by rw [ht]; exact hP, hD⟩⟩, hS.F ht⟩) hS.2.2 d_Hex_take_118
theorem d_Hex_roundTo_0 : decode cd_Hex_roundTo 0 = .ok (.iload_n 1, 1) := by decide +kernel
theorem d_Hex_roundTo_1 : decode cd_Hex_roundTo 1 = .ok (.iconst 1, 1) := by decide +kernel
theorem d_Hex_roundTo_2 : decode cd_Hex_roundTo 2 = .ok (.if_icmp .lt 11, 3) := by decide +kernel
theorem d_Hex_roundTo_5 : decode cd_Hex_roundTo 5 = .ok (.iload_n 1, 1) := by decide +kernel
theorem d_Hex_roundTo_6 : decode cd_Hex_roundTo 6 = .ok (.aload_n 0, 1) := by decide +kernel
theorem d_Hex_roundTo_7 : decode cd_Hex_roundTo 7 = .ok (.getfield 9, 3) := by decide +kernel
theorem d_Hex_roundTo_10 : decode cd_Hex_roundTo 10 = .ok (.if_icmp .lt 4, 3) := by decide +kernel
theorem d_Hex_roundTo_13 : decode cd_Hex_roundTo 13 = .ok (.return_, 1) := by decide +kernel
theorem d_Hex_roundTo_14 : decode cd_Hex_roundTo 14 = .ok (.iconst 4, 1) := by decide +kernel
theorem d_Hex_roundTo_15 : decode cd_Hex_roundTo 15 = .ok (.aload_n 0, 1) := by decide +kernel
theorem d_Hex_roundTo_16 : decode cd_Hex_roundTo 16 = .ok (.getfield 9, 3) := by decide +kernel
theorem d_Hex_roundTo_19 : decode cd_Hex_roundTo 19 = .ok (.iload_n 1, 1) := by decide +kernel
theorem d_Hex_roundTo_20 : decode cd_Hex_roundTo 20 = .ok (.isub, 1) := by decide +kernel
theorem d_Hex_roundTo_21 : decode cd_Hex_roundTo 21 = .ok (.imul, 1) := by decide +kernel
theorem d_Hex_roundTo_22 : decode cd_Hex_roundTo 22 = .ok (.istore_n 2, 1) := by decide +kernel
theorem d_Hex_roundTo_23 : decode cd_Hex_roundTo 23 = .ok (.lconst 1, 1) := by decide +kernel
theorem d_Hex_roundTo_24 : decode cd_Hex_roundTo 24 = .ok (.iload_n 2, 1) := by decide +kernel
theorem d_Hex_roundTo_25 : decode cd_Hex_roundTo 25 = .ok (.iconst 1, 1) := by decide +kernel
theorem d_Hex_roundTo_26 : decode cd_Hex_roundTo 26 = .ok (.isub, 1) := by decide +kernel
theorem d_Hex_roundTo_27 : decode cd_Hex_roundTo 27 = .ok (.lshl, 1) := by decide +kernel
theorem d_Hex_roundTo_28 : decode cd_Hex_roundTo 28 = .ok (.lstore_n 3, 1) := by decide +kernel
theorem d_Hex_roundTo_29 : decode cd_Hex_roundTo 29 = .ok (.aload_n 0, 1) := by decide +kernel
theorem d_Hex_roundTo_30 : decode cd_Hex_roundTo 30 = .ok (.getfield 18, 3) := by decide +kernel
theorem d_Hex_roundTo_33 : decode cd_Hex_roundTo 33 = .ok (.lconst 1, 1) := by decide +kernel
theorem d_Hex_roundTo_34 : decode cd_Hex_roundTo 34 = .ok (.iload_n 2, 1) := by decide +kernel
theorem d_Hex_roundTo_35 : decode cd_Hex_roundTo 35 = .ok (.lshl, 1) := by decide +kernel
theorem d_Hex_roundTo_36 : decode cd_Hex_roundTo 36 = .ok (.lconst 1, 1) := by decide +kernel
theorem d_Hex_roundTo_37 : decode cd_Hex_roundTo 37 = .ok (.lsub, 1) := by decide +kernel
theorem d_Hex_roundTo_38 : decode cd_Hex_roundTo 38 = .ok (.land, 1) := by decide +kernel
theorem d_Hex_roundTo_39 : decode cd_Hex_roundTo 39 = .ok (.lstore 5, 2) := by decide +kernel
theorem d_Hex_roundTo_41 : decode cd_Hex_roundTo 41 = .ok (.aload_n 0, 1) := by decide +kernel
theorem d_Hex_roundTo_42 : decode cd_Hex_roundTo 42 = .ok (.dup, 1) := by decide +kernel
theorem d_Hex_roundTo_43 : decode cd_Hex_roundTo 43 = .ok (.getfield 18, 3) := by decide +kernel
theorem d_Hex_roundTo_46 : decode cd_Hex_roundTo 46 = .ok (.iload_n 2, 1) := by decide +kernel
theorem d_Hex_roundTo_47 : decode cd_Hex_roundTo 47 = .ok (.lushr, 1) := by decide +kernel
theorem d_Hex_roundTo_48 : decode cd_Hex_roundTo 48 = .ok (.putfield 18, 3) := by decide +kernel
theorem d_Hex_roundTo_51 : decode cd_Hex_roundTo 51 = .ok (.lload 5, 2) := by decide +kernel
theorem d_Hex_roundTo_53 : decode cd_Hex_roundTo 53 = .ok (.lload_n 3, 1) := by decide +kernel
theorem d_Hex_roundTo_54 : decode cd_Hex_roundTo 54 = .ok (.lcmp, 1) := by decide +kernel
theorem d_Hex_roundTo_55 : decode cd_Hex_roundTo 55 = .ok (.ifCond .gt 21, 3) := by decide +kernel
theorem d_Hex_roundTo_58 : decode cd_Hex_roundTo 58 = .ok (.lload 5, 2) := by decide +kernel
theorem d_Hex_roundTo_60 : decode cd_Hex_roundTo 60 = .ok (.lload_n 3, 1) := by decide +kernel
theorem d_Hex_roundTo_61 : decode cd_Hex_roundTo 61 = .ok (.lcmp, 1) := by decide +kernel
theorem d_Hex_roundTo_62 : decode cd_Hex_roundTo 62 = .ok (.ifCond .ne 24, 3) := by decide +kernel
theorem d_Hex_roundTo_65 : decode cd_Hex_roundTo 65 = .ok (.aload_n 0, 1) := by decide +kernel
theorem d_Hex_roundTo_66 : decode cd_Hex_roundTo 66 = .ok (.getfield 18, 3) := by decide +kernel
theorem d_Hex_roundTo_69 : decode cd_Hex_roundTo 69 = .ok (.lconst 1, 1) := by decide +kernel
theorem d_Hex_roundTo_70 : decode cd_Hex_roundTo 70 = .ok (.land, 1) := by decide +kernel
theorem d_Hex_roundTo_71 : decode cd_Hex_roundTo 71 = .ok (.lconst 1, 1) := by decide +kernel
theorem d_Hex_roundTo_72 : decode cd_Hex_roundTo 72 = .ok (.lcmp, 1) := by decide +kernel
theorem d_Hex_roundTo_73 : decode cd_Hex_roundTo 73 = .ok (.ifCond .ne 13, 3) := by decide +kernel
theorem d_Hex_roundTo_76 : decode cd_Hex_roundTo 76 = .ok (.aload_n 0, 1) := by decide +kernel
theorem d_Hex_roundTo_77 : decode cd_Hex_roundTo 77 = .ok (.dup, 1) := by decide +kernel
theorem d_Hex_roundTo_78 : decode cd_Hex_roundTo 78 = .ok (.getfield 18, 3) := by decide +kernel
theorem d_Hex_roundTo_81 : decode cd_Hex_roundTo 81 = .ok (.lconst 1, 1) := by decide +kernel
theorem d_Hex_roundTo_82 : decode cd_Hex_roundTo 82 = .ok (.ladd, 1) := by decide +kernel
theorem d_Hex_roundTo_83 : decode cd_Hex_roundTo 83 = .ok (.putfield 18, 3) := by decide +kernel
theorem d_Hex_roundTo_86 : decode cd_Hex_roundTo 86 = .ok (.aload_n 0, 1) := by decide +kernel
theorem d_Hex_roundTo_87 : decode cd_Hex_roundTo 87 = .ok (.iload_n 1, 1) := by decide +kernel
theorem d_Hex_roundTo_88 : decode cd_Hex_roundTo 88 = .ok (.putfield 9, 3) := by decide +kernel
theorem d_Hex_roundTo_91 : decode cd_Hex_roundTo 91 = .ok (.aload_n 0, 1) := by decide +kernel
theorem d_Hex_roundTo_92 : decode cd_Hex_roundTo 92 = .ok (.getfield 18, 3) := by decide +kernel
theorem d_Hex_roundTo_95 : decode cd_Hex_roundTo 95 = .ok (.iconst 4, 1) := by decide +kernel
theorem d_Hex_roundTo_96 : decode cd_Hex_roundTo 96 = .ok (.aload_n 0, 1) := by decide +kernel
theorem d_Hex_roundTo_97 : decode cd_Hex_roundTo 97 = .ok (.getfield 9, 3) := by decide +kernel
theorem d_Hex_roundTo_100 : decode cd_Hex_roundTo 100 = .ok (.imul, 1) := by decide +kernel
theorem d_Hex_roundTo_101 : decode cd_Hex_roundTo 101 = .ok (.lushr, 1) := by decide +kernel
theorem d_Hex_roundTo_102 : decode cd_Hex_roundTo 102 = .ok (.ldc2_w 28, 3) := by decide +kernel
theorem d_Hex_roundTo_105 : decode cd_Hex_roundTo 105 = .ok (.lcmp, 1) := by decide +kernel
theorem d_Hex_roundTo_106 : decode cd_Hex_roundTo 106 = .ok (.ifCond .ne 23, 3) := by decide +kernel
theorem d_Hex_roundTo_109 : decode cd_Hex_roundTo 109 = .ok (.aload_n 0, 1) := by decide +kernel
theorem d_Hex_roundTo_110 : decode cd_Hex_roundTo 110 = .ok (.dup, 1) := by decide +kernel
theorem d_Hex_roundTo_111 : decode cd_Hex_roundTo 111 = .ok (.getfield 18, 3) := by decide +kernel
theorem d_Hex_roundTo_114 : decode cd_Hex_roundTo 114 = .ok (.iconst 1, 1) := by decide +kernel
theorem d_Hex_roundTo_115 : decode cd_Hex_roundTo 115 = .ok (.lushr, 1) := by decide +kernel
theorem d_Hex_roundTo_116 : decode cd_Hex_roundTo 116 = .ok (.putfield 18, 3) := by decide +kernel
theorem d_Hex_roundTo_119 : decode cd_Hex_roundTo 119 = .ok (.aload_n 0, 1) := by decide +kernel
theorem d_Hex_roundTo_120 : decode cd_Hex_roundTo 120 = .ok (.dup, 1) := by decide +kernel
theorem d_Hex_roundTo_121 : decode cd_Hex_roundTo 121 = .ok (.getfield 13, 3) := by decide +kernel
theorem d_Hex_roundTo_124 : decode cd_Hex_roundTo 124 = .ok (.iconst 1, 1) := by decide +kernel
theorem d_Hex_roundTo_125 : decode cd_Hex_roundTo 125 = .ok (.iadd, 1) := by decide +kernel
theorem d_Hex_roundTo_126 : decode cd_Hex_roundTo 126 = .ok (.putfield 13, 3) := by decide +kernel
theorem d_Hex_roundTo_129 : decode cd_Hex_roundTo 129 = .ok (.return_, 1) := by decide +kernel
theorem m_84 : Cond.constantLong R_Hex 28 2 ∈ gw := gm (i := 815) (by decide +kernel) (by decide +kernel)
def k_Hex_roundTo_86 (a1 : Int32) (t_mantissa : Int64) (t_exponent : Int32) (t_digits : Int32) : Option (Int64 × Int32 × Int32) :=
  (if (lg_cmp ((t_mantissa.toUInt64 >>> (((4 : Int32) * a1).toInt64.toUInt64 &&& Int64.toUInt64 63)).toInt64) (2 : Int64)) = 0 then some ((t_mantissa.toUInt64 >>> ((1 : Int32).toInt64.toUInt64 &&& Int64.toUInt64 63)).toInt64, (t_exponent + (1 : Int32)), a1) else some (t_mantissa, t_exponent, a1))
def k_Hex_roundTo_76 (a1 : Int32) (t_mantissa : Int64) (t_exponent : Int32) (t_digits : Int32) : Option (Int64 × Int32 × Int32) :=
  k_Hex_roundTo_86 a1 (t_mantissa + (1 : Int64)) t_exponent t_digits
def f_Hex_roundTo (t_mantissa : Int64) (t_exponent : Int32) (t_digits : Int32) (a1 : Int32) : Option (Int64 × Int32 × Int32) :=
  (if a1 < (1 : Int32) then some (t_mantissa, t_exponent, t_digits) else (if a1 < t_digits then (if 0 < (lg_cmp (t_mantissa &&& (((1 : Int64) <<< (((4 : Int32) * (t_digits - a1)).toInt64 &&& 63)) - (1 : Int64))) ((1 : Int64) <<< ((((4 : Int32) * (t_digits - a1)) - (1 : Int32)).toInt64 &&& 63))) then k_Hex_roundTo_76 a1 ((t_mantissa.toUInt64 >>> (((4 : Int32) * (t_digits - a1)).toInt64.toUInt64 &&& Int64.toUInt64 63)).toInt64) t_exponent t_digits else (if (lg_cmp (t_mantissa &&& (((1 : Int64) <<< (((4 : Int32) * (t_digits - a1)).toInt64 &&& 63)) - (1 : Int64))) ((1 : Int64) <<< ((((4 : Int32) * (t_digits - a1)) - (1 : Int32)).toInt64 &&& 63))) = 0 then (if (lg_cmp ((t_mantissa.toUInt64 >>> (((4 : Int32) * (t_digits - a1)).toInt64.toUInt64 &&& Int64.toUInt64 63)).toInt64 &&& (1 : Int64)) (1 : Int64)) = 0 then k_Hex_roundTo_76 a1 ((t_mantissa.toUInt64 >>> (((4 : Int32) * (t_digits - a1)).toInt64.toUInt64 &&& Int64.toUInt64 63)).toInt64) t_exponent t_digits else k_Hex_roundTo_86 a1 ((t_mantissa.toUInt64 >>> (((4 : Int32) * (t_digits - a1)).toInt64.toUInt64 &&& Int64.toUInt64 63)).toInt64) t_exponent t_digits) else k_Hex_roundTo_86 a1 ((t_mantissa.toUInt64 >>> (((4 : Int32) * (t_digits - a1)).toInt64.toUInt64 &&& Int64.toUInt64 63)).toInt64) t_exponent t_digits)) else some (t_mantissa, t_exponent, t_digits)))
set_option maxHeartbeats 4000000 in
set_option maxRecDepth 100000 in
theorem c_Hex_roundTo (l : Launch) (G : Gt) (K : Nat) (qt : Nat) (t_mantissa : Int64) (t_exponent : Int32) (t_digits : Int32) (a1 : Int32) (sz : Nat) (res : Int64 × Int32 × Int32)   (hf : f_Hex_roundTo t_mantissa t_exponent t_digits a1 = some res) : Met l y_Hex_roundTo (.code y_Hex_roundTo cd_Hex_roundTo 7 none :: gw) { frames := 0, cells := 0, slots := 0, locals := 0 } (PC G ([.ref qt, .int a1] : List Value) sz (w_Hex_take G qt t_mantissa t_exponent t_digits)) (QV G (va_A (w_Hex_take G qt t_mantissa t_exponent t_digits) sz) (w_Hex_take G qt res.1 res.2.1 res.2.2)) 0 0 (va_A (w_Hex_take G qt t_mantissa t_exponent t_digits) sz) := by
  refine Met.ofW (cc := cd_Hex_roundTo) (maxL := 7) (ret := none) (by decide) rfl ?_
  intro p e s m args below meth c s₁ B hml hv
  obtain ⟨rfl, hsz, hP, hE, hD0⟩ := hv
  have hx := B.exec
  have hb := B.bytes
  have hr := B.returns
  have hts := atoms_spec (ws := (.code y_Hex_roundTo cd_Hex_roundTo 7 none :: gw)) B.pre
  have hg : ∀ w ∈ gw, w.before _ s = true := fun w h => hts w (List.mem_cons_of_mem _ h)
  have hown : s.vm.findClass R_Hex = some m.cls := findClass_of_methodNamed B.named
  have hlocks := B.notSynchronized
  subst hsz
  have hK := hE.K
  have hD := hD0.self (sz := s.heap.size)
  have hAb := hE.ab hD0
  obtain ⟨Q, hQ⟩ : ∃ Q, MQ below (QV G (va_A (w_Hex_take G qt t_mantissa t_exponent t_digits) s.heap.size) (w_Hex_take G qt res.1 res.2.1 res.2.2)) ([.ref qt, .int a1] : List Value).toArray s 0 0 (va_A (w_Hex_take G qt t_mantissa t_exponent t_digits) s.heap.size) = Q := ⟨_, rfl⟩
  show W p l e { frames := 0, cells := 0, slots := 0, locals := 0 } s m ([.ref qt, .int a1] : List Value).toArray below meth c s.heap [] 0 0 (MQ below (QV G (va_A (w_Hex_take G qt t_mantissa t_exponent t_digits) s.heap.size) (w_Hex_take G qt res.1 res.2.1 res.2.2)) ([.ref qt, .int a1] : List Value).toArray s 0 0 (va_A (w_Hex_take G qt t_mantissa t_exponent t_digits) s.heap.size)) _
  rw [hQ]
  have hA : ∀ q : Nat, s.heap.size ≤ q → va_A (w_Hex_take G qt t_mantissa t_exponent t_digits) s.heap.size q := fun q h => Or.inr h
  obtain ⟨A, hAe⟩ : ∃ A, va_A (w_Hex_take G qt t_mantissa t_exponent t_digits) s.heap.size = A := ⟨_, rfl⟩
  rw [hAe] at hA hD hAb hQ
  have hS : va_S A s.heap s.heap [] := va_S.rf
  have hl := lv_entry (([.ref qt, .int a1] : List Value)) (n := 7) (Nat.le_of_ble_eq_true rfl)
  rw [lg_entry_eq]
  generalize (lg_sl (([.ref qt, .int a1] : List Value)) ++ List.replicate (7 - (lg_sl (([.ref qt, .int a1] : List Value))).length) Slot.unset).toArray = ls at hl ⊢
  have hl : lv_has ls 7 [(0, .ref qt), (1, .int a1)] := hl
  have W_86 : ∀ (t_mantissa : Int64) (t_exponent : Int32) (t_digits : Int32) , k_Hex_roundTo_86 a1 t_mantissa t_exponent t_digits = some res → ∀ (H : Heap) (locs : List Loc) (ls : Array Slot), va_P (gD G) vwCl (w_Hex_take G qt t_mantissa t_exponent t_digits) H → va_D A (w_Hex_take G qt t_mantissa t_exponent t_digits) → va_S A s.heap H locs → lv_has ls 7 [(0, .ref qt), (1, .int a1)] → W p l e { frames := 0, cells := 0, slots := 0, locals := 0 } s m ([.ref qt, .int a1] : List Value).toArray below meth c H locs 0 0 Q (F0 m 86 ls []) := by
    intro t_mantissa t_exponent t_digits  hf H locs ls hP hD hS hl
    unfold k_Hex_roundTo_86 at hf
    refine lv_aload_n hx hb d_Hex_roundTo_86 rfl (lv_at hl 0 rfl) ?_
    refine lv_iload_n hx hb d_Hex_roundTo_87 rfl (lv_at hl 1 rfl) ?_
    refine va_put (D := gD G) (ci := 3) (v := .int a1) (ty := .int) (C := R_Hex) (T := F_Hex) (N := 3) hx hb hg in_Hex t_Hex to_Hex no_Hex hown hK hP hD hS 0 rfl rfl 2 (by decide) (hg _ m_75) (fun _ h9 => h9) rfl (by decide +kernel) rfl rfl (Nat.le_of_ble_eq_true rfl) d_Hex_roundTo_88 (fun H locs hP hD hS => ?_)
    have hP : va_P (gD G) vwCl (w_Hex_take G qt t_mantissa t_exponent a1) H := hP
    have hD : va_D A (w_Hex_take G qt t_mantissa t_exponent a1) := hD
    refine lv_aload_n hx hb d_Hex_roundTo_91 rfl (lv_at hl 0 rfl) ?_
    refine va_get (D := gD G) (ci := 3) (v := .long t_mantissa) (C := R_Hex) (T := F_Hex) (N := 3) hx hb hg in_Hex hown hK hP 0 rfl rfl 0 (by decide) (hg _ m_78) (fun _ h9 => h9) rfl d_Hex_roundTo_92 ?_
    refine lv_iconst (v := 4) hx hb d_Hex_roundTo_95 (by decide) ?_
    refine lv_aload_n hx hb d_Hex_roundTo_96 rfl (lv_at hl 0 rfl) ?_
    refine va_get (D := gD G) (ci := 3) (v := .int a1) (C := R_Hex) (T := F_Hex) (N := 3) hx hb hg in_Hex hown hK hP 0 rfl rfl 2 (by decide) (hg _ m_75) (fun _ h9 => h9) rfl d_Hex_roundTo_97 ?_
    refine lv_imul hx hb d_Hex_roundTo_100 ?_
    refine lv_lushr (v := (t_mantissa.toUInt64 >>> (((4 : Int32) * a1).toInt64.toUInt64 &&& Int64.toUInt64 63)).toInt64) hx hb d_Hex_roundTo_101 rfl ?_
    refine lv_ldc2 (v := 2) hx hb hown (hg _ m_84) d_Hex_roundTo_102 ?_
    refine W.lcmp hx hb d_Hex_roundTo_105 ?_
    refine lv_if_ne (tgt := 129) hx hb d_Hex_roundTo_106 (by decide) (fun c_106 => ?_) (fun c_106 => ?_)
    · have hf := in_ c_106 hf
      obtain rfl := Option.some.inj hf
      rw [← hQ]
      exact W.vret hx hb hr (fun t9 ht hW => ⟨⟨(), rfl, trivial, ⟨by rw [ht]; exact hP, hD⟩⟩, hS.F ht⟩) hS.2.2 d_Hex_roundTo_129
    · have hf := ip_ c_106 hf
      refine lv_aload_n hx hb d_Hex_roundTo_109 rfl (lv_at hl 0 rfl) ?_
      refine lv_dup hx hb d_Hex_roundTo_110 rfl ?_
      refine va_get (D := gD G) (ci := 3) (v := .long t_mantissa) (C := R_Hex) (T := F_Hex) (N := 3) hx hb hg in_Hex hown hK hP 0 rfl rfl 0 (by decide) (hg _ m_78) (fun _ h9 => h9) rfl d_Hex_roundTo_111 ?_
      refine lv_iconst (v := 1) hx hb d_Hex_roundTo_114 (by decide) ?_
      refine lv_lushr (v := (t_mantissa.toUInt64 >>> ((1 : Int32).toInt64.toUInt64 &&& Int64.toUInt64 63)).toInt64) hx hb d_Hex_roundTo_115 rfl ?_
      refine va_put (D := gD G) (ci := 3) (v := .long ((t_mantissa.toUInt64 >>> ((1 : Int32).toInt64.toUInt64 &&& Int64.toUInt64 63)).toInt64)) (ty := .long) (C := R_Hex) (T := F_Hex) (N := 3) hx hb hg in_Hex t_Hex to_Hex no_Hex hown hK hP hD hS 0 rfl rfl 0 (by decide) (hg _ m_78) (fun _ h9 => h9) rfl (by decide +kernel) rfl rfl (Nat.le_of_ble_eq_true rfl) d_Hex_roundTo_116 (fun H locs hP hD hS => ?_)
      have hP : va_P (gD G) vwCl (w_Hex_take G qt ((t_mantissa.toUInt64 >>> ((1 : Int32).toInt64.toUInt64 &&& Int64.toUInt64 63)).toInt64) t_exponent a1) H := hP
      have hD : va_D A (w_Hex_take G qt ((t_mantissa.toUInt64 >>> ((1 : Int32).toInt64.toUInt64 &&& Int64.toUInt64 63)).toInt64) t_exponent a1) := hD
      refine lv_aload_n hx hb d_Hex_roundTo_119 rfl (lv_at hl 0 rfl) ?_
      refine lv_dup hx hb d_Hex_roundTo_120 rfl ?_
      refine va_get (D := gD G) (ci := 3) (v := .int t_exponent) (C := R_Hex) (T := F_Hex) (N := 3) hx hb hg in_Hex hown hK hP 0 rfl rfl 1 (by decide) (hg _ m_76) (fun _ h9 => h9) rfl d_Hex_roundTo_121 ?_
      refine lv_iconst (v := 1) hx hb d_Hex_roundTo_124 (by decide) ?_
      refine lv_iadd hx hb d_Hex_roundTo_125 ?_
      refine va_put (D := gD G) (ci := 3) (v := .int (t_exponent + (1 : Int32))) (ty := .int) (C := R_Hex) (T := F_Hex) (N := 3) hx hb hg in_Hex t_Hex to_Hex no_Hex hown hK hP hD hS 0 rfl rfl 1 (by decide) (hg _ m_76) (fun _ h9 => h9) rfl (by decide +kernel) rfl rfl (Nat.le_of_ble_eq_true rfl) d_Hex_roundTo_126 (fun H locs hP hD hS => ?_)
      have hP : va_P (gD G) vwCl (w_Hex_take G qt ((t_mantissa.toUInt64 >>> ((1 : Int32).toInt64.toUInt64 &&& Int64.toUInt64 63)).toInt64) (t_exponent + (1 : Int32)) a1) H := hP
      have hD : va_D A (w_Hex_take G qt ((t_mantissa.toUInt64 >>> ((1 : Int32).toInt64.toUInt64 &&& Int64.toUInt64 63)).toInt64) (t_exponent + (1 : Int32)) a1) := hD
      obtain rfl := Option.some.inj hf
      rw [← hQ]
      exact W.vret hx hb hr (fun t9 ht hW => ⟨⟨(), rfl, trivial, ⟨by rw [ht]; exact hP, hD⟩⟩, hS.F ht⟩) hS.2.2 d_Hex_roundTo_129
  have W_76 : ∀ (t_mantissa : Int64) (t_exponent : Int32) (t_digits : Int32) , k_Hex_roundTo_76 a1 t_mantissa t_exponent t_digits = some res → ∀ (H : Heap) (locs : List Loc) (ls : Array Slot), va_P (gD G) vwCl (w_Hex_take G qt t_mantissa t_exponent t_digits) H → va_D A (w_Hex_take G qt t_mantissa t_exponent t_digits) → va_S A s.heap H locs → lv_has ls 7 [(0, .ref qt), (1, .int a1)] → W p l e { frames := 0, cells := 0, slots := 0, locals := 0 } s m ([.ref qt, .int a1] : List Value).toArray below meth c H locs 0 0 Q (F0 m 76 ls []) := by
    intro t_mantissa t_exponent t_digits  hf H locs ls hP hD hS hl
    unfold k_Hex_roundTo_76 at hf
    refine lv_aload_n hx hb d_Hex_roundTo_76 rfl (lv_at hl 0 rfl) ?_
    refine lv_dup hx hb d_Hex_roundTo_77 rfl ?_
    refine va_get (D := gD G) (ci := 3) (v := .long t_mantissa) (C := R_Hex) (T := F_Hex) (N := 3) hx hb hg in_Hex hown hK hP 0 rfl rfl 0 (by decide) (hg _ m_78) (fun _ h9 => h9) rfl d_Hex_roundTo_78 ?_
    refine lv_lconst (v := 1) hx hb d_Hex_roundTo_81 (by decide) ?_
    refine lv_ladd hx hb d_Hex_roundTo_82 ?_
    refine va_put (D := gD G) (ci := 3) (v := .long (t_mantissa + (1 : Int64))) (ty := .long) (C := R_Hex) (T := F_Hex) (N := 3) hx hb hg in_Hex t_Hex to_Hex no_Hex hown hK hP hD hS 0 rfl rfl 0 (by decide) (hg _ m_78) (fun _ h9 => h9) rfl (by decide +kernel) rfl rfl (Nat.le_of_ble_eq_true rfl) d_Hex_roundTo_83 (fun H locs hP hD hS => ?_)
    have hP : va_P (gD G) vwCl (w_Hex_take G qt (t_mantissa + (1 : Int64)) t_exponent t_digits) H := hP
    have hD : va_D A (w_Hex_take G qt (t_mantissa + (1 : Int64)) t_exponent t_digits) := hD
    exact W_86 (t_mantissa + (1 : Int64)) t_exponent t_digits  hf _ _ _ hP hD hS (lv_sub hl [0, 1] rfl)
  unfold f_Hex_roundTo at hf
  refine lv_iload_n hx hb d_Hex_roundTo_0 rfl (lv_at hl 1 rfl) ?_
  refine lv_iconst (v := 1) hx hb d_Hex_roundTo_1 (by decide) ?_
  refine lv_icmp_lt (tgt := 13) hx hb d_Hex_roundTo_2 (by decide) (fun c_2 => ?_) (fun c_2 => ?_)
  · have hf := ip_ c_2 hf
    obtain rfl := Option.some.inj hf
    rw [← hQ]
    exact W.vret hx hb hr (fun t9 ht hW => ⟨⟨(), rfl, trivial, ⟨by rw [ht]; exact hP, hD⟩⟩, hS.F ht⟩) hS.2.2 d_Hex_roundTo_13
  · have hf := in_ c_2 hf
    refine lv_iload_n hx hb d_Hex_roundTo_5 rfl (lv_at hl 1 rfl) ?_
    refine lv_aload_n hx hb d_Hex_roundTo_6 rfl (lv_at hl 0 rfl) ?_
    refine va_get (D := gD G) (ci := 3) (v := .int t_digits) (C := R_Hex) (T := F_Hex) (N := 3) hx hb hg in_Hex hown hK hP 0 rfl rfl 2 (by decide) (hg _ m_75) (fun _ h9 => h9) rfl d_Hex_roundTo_7 ?_
    refine lv_icmp_lt (tgt := 14) hx hb d_Hex_roundTo_10 (by decide) (fun c_10 => ?_) (fun c_10 => ?_)
    · have hf := ip_ c_10 hf
      refine lv_iconst (v := 4) hx hb d_Hex_roundTo_14 (by decide) ?_
      refine lv_aload_n hx hb d_Hex_roundTo_15 rfl (lv_at hl 0 rfl) ?_
      refine va_get (D := gD G) (ci := 3) (v := .int t_digits) (C := R_Hex) (T := F_Hex) (N := 3) hx hb hg in_Hex hown hK hP 0 rfl rfl 2 (by decide) (hg _ m_75) (fun _ h9 => h9) rfl d_Hex_roundTo_16 ?_
      refine lv_iload_n hx hb d_Hex_roundTo_19 rfl (lv_at hl 1 rfl) ?_
      refine lv_isub hx hb d_Hex_roundTo_20 ?_
      refine lv_imul hx hb d_Hex_roundTo_21 ?_
      refine lv_istore_n (lv' := [(2, .int ((4 : Int32) * (t_digits - a1))), (0, .ref qt), (1, .int a1)]) hx hb d_Hex_roundTo_22 rfl hl (by decide) rfl (fun ls hl => ?_)
      refine lv_lconst (v := 1) hx hb d_Hex_roundTo_23 (by decide) ?_
      refine lv_iload_n hx hb d_Hex_roundTo_24 rfl (lv_at hl 0 rfl) ?_
      refine lv_iconst (v := 1) hx hb d_Hex_roundTo_25 (by decide) ?_
      refine lv_isub hx hb d_Hex_roundTo_26 ?_
      refine lv_lshl (v := ((1 : Int64) <<< ((((4 : Int32) * (t_digits - a1)) - (1 : Int32)).toInt64 &&& 63))) hx hb d_Hex_roundTo_27 rfl ?_
      refine lv_lstore_n (lv' := [(3, .long ((1 : Int64) <<< ((((4 : Int32) * (t_digits - a1)) - (1 : Int32)).toInt64 &&& 63))), (2, .int ((4 : Int32) * (t_digits - a1))), (0, .ref qt), (1, .int a1)]) hx hb d_Hex_roundTo_28 rfl hl (by decide) rfl (fun ls hl => ?_)
      refine lv_aload_n hx hb d_Hex_roundTo_29 rfl (lv_at hl 2 rfl) ?_
      refine va_get (D := gD G) (ci := 3) (v := .long t_mantissa) (C := R_Hex) (T := F_Hex) (N := 3) hx hb hg in_Hex hown hK hP 0 rfl rfl 0 (by decide) (hg _ m_78) (fun _ h9 => h9) rfl d_Hex_roundTo_30 ?_
      refine lv_lconst (v := 1) hx hb d_Hex_roundTo_33 (by decide) ?_
      refine lv_iload_n hx hb d_Hex_roundTo_34 rfl (lv_at hl 1 rfl) ?_
      refine lv_lshl (v := ((1 : Int64) <<< (((4 : Int32) * (t_digits - a1)).toInt64 &&& 63))) hx hb d_Hex_roundTo_35 rfl ?_
      refine lv_lconst (v := 1) hx hb d_Hex_roundTo_36 (by decide) ?_
      refine lv_lsub hx hb d_Hex_roundTo_37 ?_
      refine lv_land hx hb d_Hex_roundTo_38 ?_
      refine lv_lstore (lv' := [(5, .long (t_mantissa &&& (((1 : Int64) <<< (((4 : Int32) * (t_digits - a1)).toInt64 &&& 63)) - (1 : Int64)))), (3, .long ((1 : Int64) <<< ((((4 : Int32) * (t_digits - a1)) - (1 : Int32)).toInt64 &&& 63))), (2, .int ((4 : Int32) * (t_digits - a1))), (0, .ref qt), (1, .int a1)]) hx hb d_Hex_roundTo_39 hl (by decide) rfl (fun ls hl => ?_)
      refine lv_aload_n hx hb d_Hex_roundTo_41 rfl (lv_at hl 3 rfl) ?_
      refine lv_dup hx hb d_Hex_roundTo_42 rfl ?_
      refine va_get (D := gD G) (ci := 3) (v := .long t_mantissa) (C := R_Hex) (T := F_Hex) (N := 3) hx hb hg in_Hex hown hK hP 0 rfl rfl 0 (by decide) (hg _ m_78) (fun _ h9 => h9) rfl d_Hex_roundTo_43 ?_
      refine lv_iload_n hx hb d_Hex_roundTo_46 rfl (lv_at hl 2 rfl) ?_
      refine lv_lushr (v := (t_mantissa.toUInt64 >>> (((4 : Int32) * (t_digits - a1)).toInt64.toUInt64 &&& Int64.toUInt64 63)).toInt64) hx hb d_Hex_roundTo_47 rfl ?_
      refine va_put (D := gD G) (ci := 3) (v := .long ((t_mantissa.toUInt64 >>> (((4 : Int32) * (t_digits - a1)).toInt64.toUInt64 &&& Int64.toUInt64 63)).toInt64)) (ty := .long) (C := R_Hex) (T := F_Hex) (N := 3) hx hb hg in_Hex t_Hex to_Hex no_Hex hown hK hP hD hS 0 rfl rfl 0 (by decide) (hg _ m_78) (fun _ h9 => h9) rfl (by decide +kernel) rfl rfl (Nat.le_of_ble_eq_true rfl) d_Hex_roundTo_48 (fun H locs hP hD hS => ?_)
      have hP : va_P (gD G) vwCl (w_Hex_take G qt ((t_mantissa.toUInt64 >>> (((4 : Int32) * (t_digits - a1)).toInt64.toUInt64 &&& Int64.toUInt64 63)).toInt64) t_exponent t_digits) H := hP
      have hD : va_D A (w_Hex_take G qt ((t_mantissa.toUInt64 >>> (((4 : Int32) * (t_digits - a1)).toInt64.toUInt64 &&& Int64.toUInt64 63)).toInt64) t_exponent t_digits) := hD
      refine lv_lload hx hb d_Hex_roundTo_51 (lv_at hl 0 rfl) ?_
      refine lv_lload_n hx hb d_Hex_roundTo_53 rfl (lv_at hl 1 rfl) ?_
      refine W.lcmp hx hb d_Hex_roundTo_54 ?_
      refine lv_if_gt (tgt := 76) hx hb d_Hex_roundTo_55 (by decide) (fun c_55 => ?_) (fun c_55 => ?_)
      · have hf := ip_ c_55 hf
        exact W_76 ((t_mantissa.toUInt64 >>> (((4 : Int32) * (t_digits - a1)).toInt64.toUInt64 &&& Int64.toUInt64 63)).toInt64) t_exponent t_digits  hf _ _ _ hP hD hS (lv_sub hl [3, 4] rfl)
      · have hf := in_ c_55 hf
        refine lv_lload hx hb d_Hex_roundTo_58 (lv_at hl 0 rfl) ?_
        refine lv_lload_n hx hb d_Hex_roundTo_60 rfl (lv_at hl 1 rfl) ?_
        refine W.lcmp hx hb d_Hex_roundTo_61 ?_
        refine lv_if_ne (tgt := 86) hx hb d_Hex_roundTo_62 (by decide) (fun c_62 => ?_) (fun c_62 => ?_)
        · have hf := in_ c_62 hf
          exact W_86 ((t_mantissa.toUInt64 >>> (((4 : Int32) * (t_digits - a1)).toInt64.toUInt64 &&& Int64.toUInt64 63)).toInt64) t_exponent t_digits  hf _ _ _ hP hD hS (lv_sub hl [3, 4] rfl)
        · have hf := ip_ c_62 hf
          refine lv_aload_n hx hb d_Hex_roundTo_65 rfl (lv_at hl 3 rfl) ?_
          refine va_get (D := gD G) (ci := 3) (v := .long ((t_mantissa.toUInt64 >>> (((4 : Int32) * (t_digits - a1)).toInt64.toUInt64 &&& Int64.toUInt64 63)).toInt64)) (C := R_Hex) (T := F_Hex) (N := 3) hx hb hg in_Hex hown hK hP 0 rfl rfl 0 (by decide) (hg _ m_78) (fun _ h9 => h9) rfl d_Hex_roundTo_66 ?_
          refine lv_lconst (v := 1) hx hb d_Hex_roundTo_69 (by decide) ?_
          refine lv_land hx hb d_Hex_roundTo_70 ?_
          refine lv_lconst (v := 1) hx hb d_Hex_roundTo_71 (by decide) ?_
          refine W.lcmp hx hb d_Hex_roundTo_72 ?_
          refine lv_if_ne (tgt := 86) hx hb d_Hex_roundTo_73 (by decide) (fun c_73 => ?_) (fun c_73 => ?_)
          · have hf := in_ c_73 hf
            exact W_86 ((t_mantissa.toUInt64 >>> (((4 : Int32) * (t_digits - a1)).toInt64.toUInt64 &&& Int64.toUInt64 63)).toInt64) t_exponent t_digits  hf _ _ _ hP hD hS (lv_sub hl [3, 4] rfl)
          · have hf := ip_ c_73 hf
            exact W_76 ((t_mantissa.toUInt64 >>> (((4 : Int32) * (t_digits - a1)).toInt64.toUInt64 &&& Int64.toUInt64 63)).toInt64) t_exponent t_digits  hf _ _ _ hP hD hS (lv_sub hl [3, 4] rfl)
    · have hf := in_ c_10 hf
      obtain rfl := Option.some.inj hf
      rw [← hQ]
      exact W.vret hx hb hr (fun t9 ht hW => ⟨⟨(), rfl, trivial, ⟨by rw [ht]; exact hP, hD⟩⟩, hS.F ht⟩) hS.2.2 d_Hex_roundTo_13
theorem d_Hex_dropZeros_0 : decode cd_Hex_dropZeros 0 = .ok (.aload_n 0, 1) := by decide +kernel
theorem d_Hex_dropZeros_1 : decode cd_Hex_dropZeros 1 = .ok (.getfield 9, 3) := by decide +kernel
theorem d_Hex_dropZeros_4 : decode cd_Hex_dropZeros 4 = .ok (.iconst 1, 1) := by decide +kernel
theorem d_Hex_dropZeros_5 : decode cd_Hex_dropZeros 5 = .ok (.if_icmp .le 39, 3) := by decide +kernel
theorem d_Hex_dropZeros_8 : decode cd_Hex_dropZeros 8 = .ok (.aload_n 0, 1) := by decide +kernel
theorem d_Hex_dropZeros_9 : decode cd_Hex_dropZeros 9 = .ok (.getfield 18, 3) := by decide +kernel
theorem d_Hex_dropZeros_12 : decode cd_Hex_dropZeros 12 = .ok (.ldc2_w 30, 3) := by decide +kernel
theorem d_Hex_dropZeros_15 : decode cd_Hex_dropZeros 15 = .ok (.land, 1) := by decide +kernel
theorem d_Hex_dropZeros_16 : decode cd_Hex_dropZeros 16 = .ok (.lconst 0, 1) := by decide +kernel
theorem d_Hex_dropZeros_17 : decode cd_Hex_dropZeros 17 = .ok (.lcmp, 1) := by decide +kernel
theorem d_Hex_dropZeros_18 : decode cd_Hex_dropZeros 18 = .ok (.ifCond .ne 26, 3) := by decide +kernel
theorem d_Hex_dropZeros_21 : decode cd_Hex_dropZeros 21 = .ok (.aload_n 0, 1) := by decide +kernel
theorem d_Hex_dropZeros_22 : decode cd_Hex_dropZeros 22 = .ok (.dup, 1) := by decide +kernel
theorem d_Hex_dropZeros_23 : decode cd_Hex_dropZeros 23 = .ok (.getfield 18, 3) := by decide +kernel
theorem d_Hex_dropZeros_26 : decode cd_Hex_dropZeros 26 = .ok (.iconst 4, 1) := by decide +kernel
theorem d_Hex_dropZeros_27 : decode cd_Hex_dropZeros 27 = .ok (.lushr, 1) := by decide +kernel
theorem d_Hex_dropZeros_28 : decode cd_Hex_dropZeros 28 = .ok (.putfield 18, 3) := by decide +kernel
theorem d_Hex_dropZeros_31 : decode cd_Hex_dropZeros 31 = .ok (.aload_n 0, 1) := by decide +kernel
theorem d_Hex_dropZeros_32 : decode cd_Hex_dropZeros 32 = .ok (.dup, 1) := by decide +kernel
theorem d_Hex_dropZeros_33 : decode cd_Hex_dropZeros 33 = .ok (.getfield 9, 3) := by decide +kernel
theorem d_Hex_dropZeros_36 : decode cd_Hex_dropZeros 36 = .ok (.iconst 1, 1) := by decide +kernel
theorem d_Hex_dropZeros_37 : decode cd_Hex_dropZeros 37 = .ok (.isub, 1) := by decide +kernel
theorem d_Hex_dropZeros_38 : decode cd_Hex_dropZeros 38 = .ok (.putfield 9, 3) := by decide +kernel
theorem d_Hex_dropZeros_41 : decode cd_Hex_dropZeros 41 = .ok (.goto (-41), 3) := by decide +kernel
theorem d_Hex_dropZeros_44 : decode cd_Hex_dropZeros 44 = .ok (.return_, 1) := by decide +kernel
theorem m_85 : Cond.constantLong R_Hex 30 15 ∈ gw := gm (i := 810) (by decide +kernel) (by decide +kernel)
def b_Hex_dropZeros_0   (rec_0 : (Int64 × Int32) → Option (Int64 × Int32)) (z0 : Int64 × Int32) : Option (Int64 × Int32) :=
  (if z0.2 ≤ (1 : Int32) then some (z0.1, z0.2) else (if (lg_cmp (z0.1 &&& (15 : Int64)) (0 : Int64)) = 0 then rec_0 ((z0.1.toUInt64 >>> ((4 : Int32).toInt64.toUInt64 &&& Int64.toUInt64 63)).toInt64, (z0.2 - (1 : Int32))) else some (z0.1, z0.2)))
def f_Hex_dropZeros (K : Nat) (t_mantissa : Int64) (t_digits : Int32) : Option (Int64 × Int32) :=
  lp_ (b_Hex_dropZeros_0  ) K (t_mantissa, t_digits)
set_option maxHeartbeats 4000000 in
set_option maxRecDepth 100000 in
theorem c_Hex_dropZeros (l : Launch) (G : Gt) (K : Nat) (qt : Nat) (t_mantissa : Int64) (t_exponent : Int32) (t_digits : Int32) (sz : Nat) (res : Int64 × Int32)   (hf : f_Hex_dropZeros K t_mantissa t_digits = some res) : Met l y_Hex_dropZeros (.code y_Hex_dropZeros cd_Hex_dropZeros 1 none :: gw) { frames := 0, cells := 0, slots := 0, locals := 0 } (PC G ([.ref qt] : List Value) sz (w_Hex_take G qt t_mantissa t_exponent t_digits)) (QV G (va_A (w_Hex_take G qt t_mantissa t_exponent t_digits) sz) (w_Hex_take G qt res.1 t_exponent res.2)) 0 0 (va_A (w_Hex_take G qt t_mantissa t_exponent t_digits) sz) := by
  refine Met.ofW (cc := cd_Hex_dropZeros) (maxL := 1) (ret := none) (by decide) rfl ?_
  intro p e s m args below meth c s₁ B hml hv
  obtain ⟨rfl, hsz, hP, hE, hD0⟩ := hv
  have hx := B.exec
  have hb := B.bytes
  have hr := B.returns
  have hts := atoms_spec (ws := (.code y_Hex_dropZeros cd_Hex_dropZeros 1 none :: gw)) B.pre
  have hg : ∀ w ∈ gw, w.before _ s = true := fun w h => hts w (List.mem_cons_of_mem _ h)
  have hown : s.vm.findClass R_Hex = some m.cls := findClass_of_methodNamed B.named
  have hlocks := B.notSynchronized
  subst hsz
  have hK := hE.K
  have hD := hD0.self (sz := s.heap.size)
  have hAb := hE.ab hD0
  obtain ⟨Q, hQ⟩ : ∃ Q, MQ below (QV G (va_A (w_Hex_take G qt t_mantissa t_exponent t_digits) s.heap.size) (w_Hex_take G qt res.1 t_exponent res.2)) ([.ref qt] : List Value).toArray s 0 0 (va_A (w_Hex_take G qt t_mantissa t_exponent t_digits) s.heap.size) = Q := ⟨_, rfl⟩
  show W p l e { frames := 0, cells := 0, slots := 0, locals := 0 } s m ([.ref qt] : List Value).toArray below meth c s.heap [] 0 0 (MQ below (QV G (va_A (w_Hex_take G qt t_mantissa t_exponent t_digits) s.heap.size) (w_Hex_take G qt res.1 t_exponent res.2)) ([.ref qt] : List Value).toArray s 0 0 (va_A (w_Hex_take G qt t_mantissa t_exponent t_digits) s.heap.size)) _
  rw [hQ]
  have hA : ∀ q : Nat, s.heap.size ≤ q → va_A (w_Hex_take G qt t_mantissa t_exponent t_digits) s.heap.size q := fun q h => Or.inr h
  obtain ⟨A, hAe⟩ : ∃ A, va_A (w_Hex_take G qt t_mantissa t_exponent t_digits) s.heap.size = A := ⟨_, rfl⟩
  rw [hAe] at hA hD hAb hQ
  have hS : va_S A s.heap s.heap [] := va_S.rf
  have hl := lv_entry (([.ref qt] : List Value)) (n := 1) (Nat.le_of_ble_eq_true rfl)
  rw [lg_entry_eq]
  generalize (lg_sl (([.ref qt] : List Value)) ++ List.replicate (1 - (lg_sl (([.ref qt] : List Value))).length) Slot.unset).toArray = ls at hl ⊢
  have hl : lv_has ls 1 [(0, .ref qt)] := hl
  have W_0 : ∀   (n_0 : Nat) (z0 : Int64 × Int32) , lp_ (b_Hex_dropZeros_0  ) n_0 z0 = some res → ∀ (H : Heap) (locs : List Loc) (ls : Array Slot), va_P (gD G) vwCl (w_Hex_take G qt z0.1 t_exponent z0.2) H → va_D A (w_Hex_take G qt z0.1 t_exponent z0.2) → va_S A s.heap H locs → lv_has ls 1 [(0, .ref qt)] → W p l e { frames := 0, cells := 0, slots := 0, locals := 0 } s m ([.ref qt] : List Value).toArray below meth c H locs 0 0 Q (F0 m 0 ls []) := by
    intro  n_0
    induction n_0 with
    | zero =>
      intro z0  hf
      cases hf
    | succ n_0 ih_0 =>
      intro z0  hf H locs ls hP hD hS hl
      have hf : b_Hex_dropZeros_0   (lp_ (b_Hex_dropZeros_0  ) n_0) z0 = some res := hf
      generalize lp_ (b_Hex_dropZeros_0  ) n_0 = rec_0 at hf ih_0
      unfold b_Hex_dropZeros_0 at hf
      refine lv_aload_n hx hb d_Hex_dropZeros_0 rfl (lv_at hl 0 rfl) ?_
      refine va_get (D := gD G) (ci := 3) (v := .int z0.2) (C := R_Hex) (T := F_Hex) (N := 3) hx hb hg in_Hex hown hK hP 0 rfl rfl 2 (by decide) (hg _ m_75) (fun _ h9 => h9) rfl d_Hex_dropZeros_1 ?_
      refine lv_iconst (v := 1) hx hb d_Hex_dropZeros_4 (by decide) ?_
      refine lv_icmp_le (tgt := 44) hx hb d_Hex_dropZeros_5 (by decide) (fun c_5 => ?_) (fun c_5 => ?_)
      · have hf := ip_ c_5 hf
        obtain rfl := Option.some.inj hf
        rw [← hQ]
        exact W.vret hx hb hr (fun t9 ht hW => ⟨⟨(), rfl, trivial, ⟨by rw [ht]; exact hP, hD⟩⟩, hS.F ht⟩) hS.2.2 d_Hex_dropZeros_44
      · have hf := in_ c_5 hf
        refine lv_aload_n hx hb d_Hex_dropZeros_8 rfl (lv_at hl 0 rfl) ?_
        refine va_get (D := gD G) (ci := 3) (v := .long z0.1) (C := R_Hex) (T := F_Hex) (N := 3) hx hb hg in_Hex hown hK hP 0 rfl rfl 0 (by decide) (hg _ m_78) (fun _ h9 => h9) rfl d_Hex_dropZeros_9 ?_
        refine lv_ldc2 (v := 15) hx hb hown (hg _ m_85) d_Hex_dropZeros_12 ?_
        refine lv_land hx hb d_Hex_dropZeros_15 ?_
        refine lv_lconst (v := 0) hx hb d_Hex_dropZeros_16 (by decide) ?_
        refine W.lcmp hx hb d_Hex_dropZeros_17 ?_
        refine lv_if_ne (tgt := 44) hx hb d_Hex_dropZeros_18 (by decide) (fun c_18 => ?_) (fun c_18 => ?_)
        · have hf := in_ c_18 hf
          obtain rfl := Option.some.inj hf
          rw [← hQ]
          exact W.vret hx hb hr (fun t9 ht hW => ⟨⟨(), rfl, trivial, ⟨by rw [ht]; exact hP, hD⟩⟩, hS.F ht⟩) hS.2.2 d_Hex_dropZeros_44
        · have hf := ip_ c_18 hf
          refine lv_aload_n hx hb d_Hex_dropZeros_21 rfl (lv_at hl 0 rfl) ?_
          refine lv_dup hx hb d_Hex_dropZeros_22 rfl ?_
          refine va_get (D := gD G) (ci := 3) (v := .long z0.1) (C := R_Hex) (T := F_Hex) (N := 3) hx hb hg in_Hex hown hK hP 0 rfl rfl 0 (by decide) (hg _ m_78) (fun _ h9 => h9) rfl d_Hex_dropZeros_23 ?_
          refine lv_iconst (v := 4) hx hb d_Hex_dropZeros_26 (by decide) ?_
          refine lv_lushr (v := (z0.1.toUInt64 >>> ((4 : Int32).toInt64.toUInt64 &&& Int64.toUInt64 63)).toInt64) hx hb d_Hex_dropZeros_27 rfl ?_
          refine va_put (D := gD G) (ci := 3) (v := .long ((z0.1.toUInt64 >>> ((4 : Int32).toInt64.toUInt64 &&& Int64.toUInt64 63)).toInt64)) (ty := .long) (C := R_Hex) (T := F_Hex) (N := 3) hx hb hg in_Hex t_Hex to_Hex no_Hex hown hK hP hD hS 0 rfl rfl 0 (by decide) (hg _ m_78) (fun _ h9 => h9) rfl (by decide +kernel) rfl rfl (Nat.le_of_ble_eq_true rfl) d_Hex_dropZeros_28 (fun H locs hP hD hS => ?_)
          have hP : va_P (gD G) vwCl (w_Hex_take G qt ((z0.1.toUInt64 >>> ((4 : Int32).toInt64.toUInt64 &&& Int64.toUInt64 63)).toInt64) t_exponent z0.2) H := hP
          have hD : va_D A (w_Hex_take G qt ((z0.1.toUInt64 >>> ((4 : Int32).toInt64.toUInt64 &&& Int64.toUInt64 63)).toInt64) t_exponent z0.2) := hD
          refine lv_aload_n hx hb d_Hex_dropZeros_31 rfl (lv_at hl 0 rfl) ?_
          refine lv_dup hx hb d_Hex_dropZeros_32 rfl ?_
          refine va_get (D := gD G) (ci := 3) (v := .int z0.2) (C := R_Hex) (T := F_Hex) (N := 3) hx hb hg in_Hex hown hK hP 0 rfl rfl 2 (by decide) (hg _ m_75) (fun _ h9 => h9) rfl d_Hex_dropZeros_33 ?_
          refine lv_iconst (v := 1) hx hb d_Hex_dropZeros_36 (by decide) ?_
          refine lv_isub hx hb d_Hex_dropZeros_37 ?_
          refine va_put (D := gD G) (ci := 3) (v := .int (z0.2 - (1 : Int32))) (ty := .int) (C := R_Hex) (T := F_Hex) (N := 3) hx hb hg in_Hex t_Hex to_Hex no_Hex hown hK hP hD hS 0 rfl rfl 2 (by decide) (hg _ m_75) (fun _ h9 => h9) rfl (by decide +kernel) rfl rfl (Nat.le_of_ble_eq_true rfl) d_Hex_dropZeros_38 (fun H locs hP hD hS => ?_)
          have hP : va_P (gD G) vwCl (w_Hex_take G qt ((z0.1.toUInt64 >>> ((4 : Int32).toInt64.toUInt64 &&& Int64.toUInt64 63)).toInt64) t_exponent (z0.2 - (1 : Int32))) H := hP
          have hD : va_D A (w_Hex_take G qt ((z0.1.toUInt64 >>> ((4 : Int32).toInt64.toUInt64 &&& Int64.toUInt64 63)).toInt64) t_exponent (z0.2 - (1 : Int32))) := hD
          refine lv_goto (tgt := 0) hx hb d_Hex_dropZeros_41 (by decide) ?_
          exact ih_0 ((z0.1.toUInt64 >>> ((4 : Int32).toInt64.toUInt64 &&& Int64.toUInt64 63)).toInt64, (z0.2 - (1 : Int32)))  hf _ _ _ hP hD hS (lv_sub hl [0] rfl)
  unfold f_Hex_dropZeros at hf
  exact W_0   K (t_mantissa, t_digits)  hf _ _ _ hP hD hS (lv_sub hl [0] rfl)
theorem d_Hex_at_0 : decode cd_Hex_at 0 = .ok (.iload_n 1, 1) := by decide +kernel
theorem d_Hex_at_1 : decode cd_Hex_at 1 = .ok (.ifCond .lt 31, 3) := by decide +kernel
theorem d_Hex_at_4 : decode cd_Hex_at 4 = .ok (.iload_n 1, 1) := by decide +kernel
theorem d_Hex_at_5 : decode cd_Hex_at 5 = .ok (.aload_n 0, 1) := by decide +kernel
theorem d_Hex_at_6 : decode cd_Hex_at 6 = .ok (.getfield 9, 3) := by decide +kernel
theorem d_Hex_at_9 : decode cd_Hex_at 9 = .ok (.if_icmp .gt 23, 3) := by decide +kernel
theorem d_Hex_at_12 : decode cd_Hex_at 12 = .ok (.aload_n 0, 1) := by decide +kernel
theorem d_Hex_at_13 : decode cd_Hex_at 13 = .ok (.getfield 18, 3) := by decide +kernel
theorem d_Hex_at_16 : decode cd_Hex_at 16 = .ok (.iconst 4, 1) := by decide +kernel
theorem d_Hex_at_17 : decode cd_Hex_at 17 = .ok (.aload_n 0, 1) := by decide +kernel
theorem d_Hex_at_18 : decode cd_Hex_at 18 = .ok (.getfield 9, 3) := by decide +kernel
theorem d_Hex_at_21 : decode cd_Hex_at 21 = .ok (.iload_n 1, 1) := by decide +kernel
theorem d_Hex_at_22 : decode cd_Hex_at 22 = .ok (.isub, 1) := by decide +kernel
theorem d_Hex_at_23 : decode cd_Hex_at 23 = .ok (.imul, 1) := by decide +kernel
theorem d_Hex_at_24 : decode cd_Hex_at 24 = .ok (.lushr, 1) := by decide +kernel
theorem d_Hex_at_25 : decode cd_Hex_at 25 = .ok (.l2i, 1) := by decide +kernel
theorem d_Hex_at_26 : decode cd_Hex_at 26 = .ok (.bipush 15, 2) := by decide +kernel
theorem d_Hex_at_28 : decode cd_Hex_at 28 = .ok (.iand, 1) := by decide +kernel
theorem d_Hex_at_29 : decode cd_Hex_at 29 = .ok (.goto 4, 3) := by decide +kernel
theorem d_Hex_at_32 : decode cd_Hex_at 32 = .ok (.iconst 0, 1) := by decide +kernel
theorem d_Hex_at_33 : decode cd_Hex_at 33 = .ok (.ireturn, 1) := by decide +kernel
def f_Hex_at (t_mantissa : Int64) (t_digits : Int32) (a1 : Int32) : Option Int32 :=
  (if a1 < 0 then some (0 : Int32) else (if t_digits < a1 then some (0 : Int32) else some (((t_mantissa.toUInt64 >>> (((4 : Int32) * (t_digits - a1)).toInt64.toUInt64 &&& Int64.toUInt64 63)).toInt64).toInt32 &&& (15 : Int32))))
set_option maxHeartbeats 4000000 in
set_option maxRecDepth 100000 in
theorem c_Hex_at (l : Launch) (G : Gt) (K : Nat) (qt : Nat) (t_mantissa : Int64) (t_exponent : Int32) (t_digits : Int32) (a1 : Int32) (sz : Nat) (res : Int32)   (hf : f_Hex_at t_mantissa t_digits a1 = some res) : Met l y_Hex_at (.code y_Hex_at cd_Hex_at 2 (some .int) :: gw) { frames := 0, cells := 0, slots := 0, locals := 0 } (PC G ([.ref qt, .int a1] : List Value) sz (w_Hex_take G qt t_mantissa t_exponent t_digits)) (QI G res (va_A (w_Hex_take G qt t_mantissa t_exponent t_digits) sz) (w_Hex_take G qt t_mantissa t_exponent t_digits)) 0 0 (va_A (w_Hex_take G qt t_mantissa t_exponent t_digits) sz) := by
  refine Met.ofW (cc := cd_Hex_at) (maxL := 2) (ret := (some .int)) (by decide) rfl ?_
  intro p e s m args below meth c s₁ B hml hv
  obtain ⟨rfl, hsz, hP, hE, hD0⟩ := hv
  have hx := B.exec
  have hb := B.bytes
  have hr := B.returns
  have hts := atoms_spec (ws := (.code y_Hex_at cd_Hex_at 2 (some .int) :: gw)) B.pre
  have hg : ∀ w ∈ gw, w.before _ s = true := fun w h => hts w (List.mem_cons_of_mem _ h)
  have hown : s.vm.findClass R_Hex = some m.cls := findClass_of_methodNamed B.named
  have hlocks := B.notSynchronized
  subst hsz
  have hK := hE.K
  have hD := hD0.self (sz := s.heap.size)
  have hAb := hE.ab hD0
  obtain ⟨Q, hQ⟩ : ∃ Q, MQ below (QI G res (va_A (w_Hex_take G qt t_mantissa t_exponent t_digits) s.heap.size) (w_Hex_take G qt t_mantissa t_exponent t_digits)) ([.ref qt, .int a1] : List Value).toArray s 0 0 (va_A (w_Hex_take G qt t_mantissa t_exponent t_digits) s.heap.size) = Q := ⟨_, rfl⟩
  show W p l e { frames := 0, cells := 0, slots := 0, locals := 0 } s m ([.ref qt, .int a1] : List Value).toArray below meth c s.heap [] 0 0 (MQ below (QI G res (va_A (w_Hex_take G qt t_mantissa t_exponent t_digits) s.heap.size) (w_Hex_take G qt t_mantissa t_exponent t_digits)) ([.ref qt, .int a1] : List Value).toArray s 0 0 (va_A (w_Hex_take G qt t_mantissa t_exponent t_digits) s.heap.size)) _
  rw [hQ]
  have hA : ∀ q : Nat, s.heap.size ≤ q → va_A (w_Hex_take G qt t_mantissa t_exponent t_digits) s.heap.size q := fun q h => Or.inr h
  obtain ⟨A, hAe⟩ : ∃ A, va_A (w_Hex_take G qt t_mantissa t_exponent t_digits) s.heap.size = A := ⟨_, rfl⟩
  rw [hAe] at hA hD hAb hQ
  have hS : va_S A s.heap s.heap [] := va_S.rf
  have hl := lv_entry (([.ref qt, .int a1] : List Value)) (n := 2) (Nat.le_of_ble_eq_true rfl)
  rw [lg_entry_eq]
  generalize (lg_sl (([.ref qt, .int a1] : List Value)) ++ List.replicate (2 - (lg_sl (([.ref qt, .int a1] : List Value))).length) Slot.unset).toArray = ls at hl ⊢
  have hl : lv_has ls 2 [(0, .ref qt), (1, .int a1)] := hl
  unfold f_Hex_at at hf
  refine lv_iload_n hx hb d_Hex_at_0 rfl (lv_at hl 1 rfl) ?_
  refine lv_if_lt (tgt := 32) hx hb d_Hex_at_1 (by decide) (fun c_1 => ?_) (fun c_1 => ?_)
  · have hf := ip_ c_1 hf
    refine lv_iconst (v := 0) hx hb d_Hex_at_32 (by decide) ?_
    obtain rfl := Option.some.inj hf
    rw [← hQ]
    exact W.iret (v := (0 : Int32)) hx hb hr (fun t9 ht hW => ⟨⟨(0 : Int32), (), rfl, rfl, ⟨by rw [ht]; exact hP, hD⟩⟩, hS.F ht⟩) hS.2.2 d_Hex_at_33
  · have hf := in_ c_1 hf
    refine lv_iload_n hx hb d_Hex_at_4 rfl (lv_at hl 1 rfl) ?_
    refine lv_aload_n hx hb d_Hex_at_5 rfl (lv_at hl 0 rfl) ?_
    refine va_get (D := gD G) (ci := 3) (v := .int t_digits) (C := R_Hex) (T := F_Hex) (N := 3) hx hb hg in_Hex hown hK hP 0 rfl rfl 2 (by decide) (hg _ m_75) (fun _ h9 => h9) rfl d_Hex_at_6 ?_
    refine lv_icmp_gt (tgt := 32) hx hb d_Hex_at_9 (by decide) (fun c_9 => ?_) (fun c_9 => ?_)
    · have hf := ip_ c_9 hf
      refine lv_iconst (v := 0) hx hb d_Hex_at_32 (by decide) ?_
      obtain rfl := Option.some.inj hf
      rw [← hQ]
      exact W.iret (v := (0 : Int32)) hx hb hr (fun t9 ht hW => ⟨⟨(0 : Int32), (), rfl, rfl, ⟨by rw [ht]; exact hP, hD⟩⟩, hS.F ht⟩) hS.2.2 d_Hex_at_33
    · have hf := in_ c_9 hf
      refine lv_aload_n hx hb d_Hex_at_12 rfl (lv_at hl 0 rfl) ?_
      refine va_get (D := gD G) (ci := 3) (v := .long t_mantissa) (C := R_Hex) (T := F_Hex) (N := 3) hx hb hg in_Hex hown hK hP 0 rfl rfl 0 (by decide) (hg _ m_78) (fun _ h9 => h9) rfl d_Hex_at_13 ?_
      refine lv_iconst (v := 4) hx hb d_Hex_at_16 (by decide) ?_
      refine lv_aload_n hx hb d_Hex_at_17 rfl (lv_at hl 0 rfl) ?_
      refine va_get (D := gD G) (ci := 3) (v := .int t_digits) (C := R_Hex) (T := F_Hex) (N := 3) hx hb hg in_Hex hown hK hP 0 rfl rfl 2 (by decide) (hg _ m_75) (fun _ h9 => h9) rfl d_Hex_at_18 ?_
      refine lv_iload_n hx hb d_Hex_at_21 rfl (lv_at hl 1 rfl) ?_
      refine lv_isub hx hb d_Hex_at_22 ?_
      refine lv_imul hx hb d_Hex_at_23 ?_
      refine lv_lushr (v := (t_mantissa.toUInt64 >>> (((4 : Int32) * (t_digits - a1)).toInt64.toUInt64 &&& Int64.toUInt64 63)).toInt64) hx hb d_Hex_at_24 rfl ?_
      refine lv_l2i (v := ((t_mantissa.toUInt64 >>> (((4 : Int32) * (t_digits - a1)).toInt64.toUInt64 &&& Int64.toUInt64 63)).toInt64).toInt32) hx hb d_Hex_at_25 rfl ?_
      refine lv_bipush (v := 15) hx hb d_Hex_at_26 (by decide) ?_
      refine lv_iand hx hb d_Hex_at_28 ?_
      refine lv_goto (tgt := 33) hx hb d_Hex_at_29 (by decide) ?_
      obtain rfl := Option.some.inj hf
      rw [← hQ]
      exact W.iret (v := (((t_mantissa.toUInt64 >>> (((4 : Int32) * (t_digits - a1)).toInt64.toUInt64 &&& Int64.toUInt64 63)).toInt64).toInt32 &&& (15 : Int32))) hx hb hr (fun t9 ht hW => ⟨⟨(((t_mantissa.toUInt64 >>> (((4 : Int32) * (t_digits - a1)).toInt64.toUInt64 &&& Int64.toUInt64 63)).toInt64).toInt32 &&& (15 : Int32)), (), rfl, rfl, ⟨by rw [ht]; exact hP, hD⟩⟩, hS.F ht⟩) hS.2.2 d_Hex_at_33
end
section
theorem d_Argument_become_0 : decode cd_Argument_become 0 = .ok (.aload_n 0, 1) := by decide +kernel
theorem d_Argument_become_1 : decode cd_Argument_become 1 = .ok (.getfield 11, 3) := by decide +kernel
theorem d_Argument_become_4 : decode cd_Argument_become 4 = .ok (.lconst 0, 1) := by decide +kernel
theorem d_Argument_become_5 : decode cd_Argument_become 5 = .ok (.invokestatic 24, 3) := by decide +kernel
theorem d_Argument_become_8 : decode cd_Argument_become 8 = .ok (.aload_n 0, 1) := by decide +kernel
theorem d_Argument_become_9 : decode cd_Argument_become 9 = .ok (.getfield 11, 3) := by decide +kernel
theorem d_Argument_become_12 : decode cd_Argument_become 12 = .ok (.iconst 0, 1) := by decide +kernel
theorem d_Argument_become_13 : decode cd_Argument_become 13 = .ok (.lload_n 3, 1) := by decide +kernel
theorem d_Argument_become_14 : decode cd_Argument_become 14 = .ok (.lastore, 1) := by decide +kernel
theorem d_Argument_become_15 : decode cd_Argument_become 15 = .ok (.aload_n 0, 1) := by decide +kernel
theorem d_Argument_become_16 : decode cd_Argument_become 16 = .ok (.aload_n 1, 1) := by decide +kernel
theorem d_Argument_become_17 : decode cd_Argument_become 17 = .ok (.putfield 21, 3) := by decide +kernel
theorem d_Argument_become_20 : decode cd_Argument_become 20 = .ok (.aload_n 0, 1) := by decide +kernel
theorem d_Argument_become_21 : decode cd_Argument_become 21 = .ok (.iload_n 2, 1) := by decide +kernel
theorem d_Argument_become_22 : decode cd_Argument_become 22 = .ok (.putfield 30, 3) := by decide +kernel
theorem d_Argument_become_25 : decode cd_Argument_become 25 = .ok (.aload_n 0, 1) := by decide +kernel
theorem d_Argument_become_26 : decode cd_Argument_become 26 = .ok (.lconst 0, 1) := by decide +kernel
theorem d_Argument_become_27 : decode cd_Argument_become 27 = .ok (.putfield 34, 3) := by decide +kernel
theorem d_Argument_become_30 : decode cd_Argument_become 30 = .ok (.aload_n 0, 1) := by decide +kernel
theorem d_Argument_become_31 : decode cd_Argument_become 31 = .ok (.iconst 0, 1) := by decide +kernel
theorem d_Argument_become_32 : decode cd_Argument_become 32 = .ok (.putfield 38, 3) := by decide +kernel
theorem d_Argument_become_35 : decode cd_Argument_become 35 = .ok (.aload_n 0, 1) := by decide +kernel
theorem d_Argument_become_36 : decode cd_Argument_become 36 = .ok (.iconst 0, 1) := by decide +kernel
theorem d_Argument_become_37 : decode cd_Argument_become 37 = .ok (.putfield 42, 3) := by decide +kernel
theorem d_Argument_become_40 : decode cd_Argument_become 40 = .ok (.aload_n 0, 1) := by decide +kernel
theorem d_Argument_become_41 : decode cd_Argument_become 41 = .ok (.aconst_null, 1) := by decide +kernel
theorem d_Argument_become_42 : decode cd_Argument_become 42 = .ok (.putfield 45, 3) := by decide +kernel
theorem d_Argument_become_45 : decode cd_Argument_become 45 = .ok (.return_, 1) := by decide +kernel
theorem m_86 : Cond.fieldLink R_Argument 11 "SpecifierDesk$Argument" "words" "[J" ∈ gw := gm (i := 256) (by decide +kernel) (by decide +kernel)
theorem m_87 : Cond.methodLink R_Argument 24 y_Arrays_fill ∈ gw := gm (i := 346) (by decide +kernel) (by decide +kernel)
theorem m_88 : Cond.static y_Arrays_fill ∈ gw := gm (i := 347) (by decide +kernel) (by decide +kernel)
theorem m_89 : Cond.initialized R_Arrays ∈ gw := gm (i := 93) (by decide +kernel) (by decide +kernel)
set_option maxRecDepth 100000 in
theorem m_90 : Cond.code y_Arrays_fill cd_Arrays_fill 5 none ∈ gw := gm (i := 348) rfl rfl
theorem m_91 : Cond.fieldLink R_Argument 21 "SpecifierDesk$Argument" "kind" "LSpecifierDesk$Kind;" ∈ gw := gm (i := 259) (by decide +kernel) (by decide +kernel)
theorem m_92 : Cond.fieldLink R_Argument 30 "SpecifierDesk$Argument" "minus" "Z" ∈ gw := gm (i := 262) (by decide +kernel) (by decide +kernel)
theorem m_93 : Cond.fieldLink R_Argument 34 "SpecifierDesk$Argument" "bits" "J" ∈ gw := gm (i := 264) (by decide +kernel) (by decide +kernel)
theorem m_94 : Cond.fieldLink R_Argument 38 "SpecifierDesk$Argument" "wide" "I" ∈ gw := gm (i := 267) (by decide +kernel) (by decide +kernel)
theorem m_95 : Cond.fieldLink R_Argument 42 "SpecifierDesk$Argument" "lowest" "I" ∈ gw := gm (i := 270) (by decide +kernel) (by decide +kernel)
theorem m_96 : Cond.fieldLink R_Argument 45 "SpecifierDesk$Argument" "letters" "LSpecifierDesk$Row;" ∈ gw := gm (i := 273) (by decide +kernel) (by decide +kernel)
def f_Argument_become (K : Nat) (t_words : Nat → Int64) (a1 : Nat) (a2 : Int32) (a3 : Int64) : Option (Nat × Int32 × Int64 × Int32 × Int32 × (Option Nat) × (Nat → Int64)) :=
  ((f_Arrays_fill K 8 t_words (0 : Int64)).bind fun u_5 => (if inB (0 : Int32) 8 = true then some (a1, a2, (0 : Int64), (0 : Int32), (0 : Int32), none, (vp_updL u_5 (0 : Int32).toNatClampNeg a3)) else none))
abbrev w_Argument_become (G : Gt) (qt : Nat) (qt_words : Nat) (t_words : Nat → Int64) (t_kind : Nat) (t_minus : Int32) (t_bits : Int64) (t_wide : Int32) (t_lowest : Int32) (t_letters : Option Nat) : va_W := [(qt, .inr (0, [.ref qt_words, .ref (gK G t_kind), .int t_minus, .long t_bits, .int t_wide, .int t_lowest, va_rf t_letters])), (qt_words, .inl (gC G 2, 8, .inr (.inl t_words)))]
set_option maxHeartbeats 4000000 in
set_option maxRecDepth 100000 in
theorem c_Argument_become (l : Launch) (G : Gt) (K : Nat) (qt : Nat) (qt_words : Nat) (t_words : Nat → Int64) (t_kind : Nat) (t_minus : Int32) (t_bits : Int64) (t_wide : Int32) (t_lowest : Int32) (t_letters : Option Nat) (a1 : Nat) (a2 : Int32) (a3 : Int64) (sz : Nat) (res : Nat × Int32 × Int64 × Int32 × Int32 × (Option Nat) × (Nat → Int64)) (hb_a2 : bl a2) (hr_t_kind : t_kind < 8) (hr_a1 : a1 < 8) (hf : f_Argument_become K t_words a1 a2 a3 = some res) : Met l y_Argument_become (.code y_Argument_become cd_Argument_become 5 none :: gw) { frames := 1, cells := 0, slots := 0, locals := 40 } (PC G ([.ref qt, .ref (gK G a1), .int a2, .long a3] : List Value) sz (w_Argument_become G qt qt_words t_words t_kind t_minus t_bits t_wide t_lowest t_letters)) (QV G (va_A (w_Argument_become G qt qt_words t_words t_kind t_minus t_bits t_wide t_lowest t_letters) sz) (w_Argument_become G qt qt_words res.2.2.2.2.2.2 res.1 res.2.1 res.2.2.1 res.2.2.2.1 res.2.2.2.2.1 res.2.2.2.2.2.1)) 0 0 (va_A (w_Argument_become G qt qt_words t_words t_kind t_minus t_bits t_wide t_lowest t_letters) sz) := by
  refine Met.ofW (cc := cd_Argument_become) (maxL := 5) (ret := none) (by decide) rfl ?_
  intro p e s m args below meth c s₁ B hml hv
  obtain ⟨rfl, hsz, hP, hE, hD0⟩ := hv
  have hx := B.exec
  have hb := B.bytes
  have hr := B.returns
  have hts := atoms_spec (ws := (.code y_Argument_become cd_Argument_become 5 none :: gw)) B.pre
  have hg : ∀ w ∈ gw, w.before _ s = true := fun w h => hts w (List.mem_cons_of_mem _ h)
  have hown : s.vm.findClass R_Argument = some m.cls := findClass_of_methodNamed B.named
  have hlocks := B.notSynchronized
  subst hsz
  have hK := hE.K
  have hD := hD0.self (sz := s.heap.size)
  have hAb := hE.ab hD0
  obtain ⟨Q, hQ⟩ : ∃ Q, MQ below (QV G (va_A (w_Argument_become G qt qt_words t_words t_kind t_minus t_bits t_wide t_lowest t_letters) s.heap.size) (w_Argument_become G qt qt_words res.2.2.2.2.2.2 res.1 res.2.1 res.2.2.1 res.2.2.2.1 res.2.2.2.2.1 res.2.2.2.2.2.1)) ([.ref qt, .ref (gK G a1), .int a2, .long a3] : List Value).toArray s 0 0 (va_A (w_Argument_become G qt qt_words t_words t_kind t_minus t_bits t_wide t_lowest t_letters) s.heap.size) = Q := ⟨_, rfl⟩
  show W p l e { frames := 1, cells := 0, slots := 0, locals := 40 } s m ([.ref qt, .ref (gK G a1), .int a2, .long a3] : List Value).toArray below meth c s.heap [] 0 0 (MQ below (QV G (va_A (w_Argument_become G qt qt_words t_words t_kind t_minus t_bits t_wide t_lowest t_letters) s.heap.size) (w_Argument_become G qt qt_words res.2.2.2.2.2.2 res.1 res.2.1 res.2.2.1 res.2.2.2.1 res.2.2.2.2.1 res.2.2.2.2.2.1)) ([.ref qt, .ref (gK G a1), .int a2, .long a3] : List Value).toArray s 0 0 (va_A (w_Argument_become G qt qt_words t_words t_kind t_minus t_bits t_wide t_lowest t_letters) s.heap.size)) _
  rw [hQ]
  have hA : ∀ q : Nat, s.heap.size ≤ q → va_A (w_Argument_become G qt qt_words t_words t_kind t_minus t_bits t_wide t_lowest t_letters) s.heap.size q := fun q h => Or.inr h
  obtain ⟨A, hAe⟩ : ∃ A, va_A (w_Argument_become G qt qt_words t_words t_kind t_minus t_bits t_wide t_lowest t_letters) s.heap.size = A := ⟨_, rfl⟩
  rw [hAe] at hA hD hAb hQ
  have hS : va_S A s.heap s.heap [] := va_S.rf
  have hl := lv_entry (([.ref qt, .ref (gK G a1), .int a2, .long a3] : List Value)) (n := 5) (Nat.le_of_ble_eq_true rfl)
  rw [lg_entry_eq]
  generalize (lg_sl (([.ref qt, .ref (gK G a1), .int a2, .long a3] : List Value)) ++ List.replicate (5 - (lg_sl (([.ref qt, .ref (gK G a1), .int a2, .long a3] : List Value))).length) Slot.unset).toArray = ls at hl ⊢
  have hl : lv_has ls 5 [(0, .ref qt), (1, .ref (gK G a1)), (2, .int a2), (3, .long a3)] := hl
  unfold f_Argument_become at hf
  refine lv_aload_n hx hb d_Argument_become_0 rfl (lv_at hl 0 rfl) ?_
  refine va_get (D := gD G) (ci := 0) (v := .ref qt_words) (C := R_Argument) (T := F_Argument) (N := 7) hx hb hg in_Argument hown hK hP 0 rfl rfl 0 (by decide) (hg _ m_86) (fun _ h9 => h9) rfl d_Argument_become_1 ?_
  refine lv_lconst (v := 0) hx hb d_Argument_become_4 (by decide) ?_
  obtain ⟨u_5, hu_5, hf⟩ := bd_ hf
  refine CALLv (va_runS (As := [.ref qt_words, .long (0 : Int64)]) (rest := []) ⟨hx, hb, hml, hown, hg⟩ (c_Arrays_fill l G K qt_words 8 t_words (0 : Int64) _ u_5  hu_5) (va_cwS 2 hg (gS m_87 m_88 m_89 m_90) rfl rfl rfl (by decide +kernel) ⟨Nat.le_of_ble_eq_true rfl, Nat.le_of_ble_eq_true rfl⟩) ⟨PC_b, PC_p hE hS hAb (hP.sub [1] rfl) (hD.sub [1] (by decide) rfl)⟩ rfl rfl hl.1 rfl (lv_room (Nat.le_of_ble_eq_true rfl)) d_Argument_become_5 ⟨Nat.zero_le _, Nat.zero_le _⟩) hP hD hS hA [1] rfl rfl rfl (fun H locs hP hD hS => ?_)
  have hP : va_P (gD G) vwCl (w_Argument_become G qt qt_words u_5 t_kind t_minus t_bits t_wide t_lowest t_letters) H := hP
  have hD : va_D A (w_Argument_become G qt qt_words u_5 t_kind t_minus t_bits t_wide t_lowest t_letters) := hD
  refine lv_aload_n hx hb d_Argument_become_8 rfl (lv_at hl 0 rfl) ?_
  refine va_get (D := gD G) (ci := 0) (v := .ref qt_words) (C := R_Argument) (T := F_Argument) (N := 7) hx hb hg in_Argument hown hK hP 0 rfl rfl 0 (by decide) (hg _ m_86) (fun _ h9 => h9) rfl d_Argument_become_9 ?_
  refine lv_iconst (v := 0) hx hb d_Argument_become_12 (by decide) ?_
  refine lv_lload_n hx hb d_Argument_become_13 rfl (lv_at hl 3 rfl) ?_
  obtain ⟨g_14, hf⟩ := gd_ hf
  refine va_last hx hb hK hP hD hS 1 2 rfl rfl (inB_in g_14) d_Argument_become_14 (fun H locs hP hD hS => ?_)
  have hP : va_P (gD G) vwCl (w_Argument_become G qt qt_words (vp_updL u_5 (0 : Int32).toNatClampNeg a3) t_kind t_minus t_bits t_wide t_lowest t_letters) H := hP
  have hD : va_D A (w_Argument_become G qt qt_words (vp_updL u_5 (0 : Int32).toNatClampNeg a3) t_kind t_minus t_bits t_wide t_lowest t_letters) := hD
  refine lv_aload_n hx hb d_Argument_become_15 rfl (lv_at hl 0 rfl) ?_
  refine lv_aload_n hx hb d_Argument_become_16 rfl (lv_at hl 1 rfl) ?_
  refine va_put (D := gD G) (ci := 0) (v := .ref (gK G a1)) (ty := .object "SpecifierDesk$Kind") (C := R_Argument) (T := F_Argument) (N := 7) hx hb hg in_Argument t_Argument to_Argument no_Argument hown hK hP hD hS 0 rfl rfl 1 (by decide) (hg _ m_91) (fun _ h9 => h9) rfl (by decide +kernel) rfl rfl (Nat.le_of_ble_eq_true rfl) d_Argument_become_17 (fun H locs hP hD hS => ?_)
  have hP : va_P (gD G) vwCl (w_Argument_become G qt qt_words (vp_updL u_5 (0 : Int32).toNatClampNeg a3) a1 t_minus t_bits t_wide t_lowest t_letters) H := hP
  have hD : va_D A (w_Argument_become G qt qt_words (vp_updL u_5 (0 : Int32).toNatClampNeg a3) a1 t_minus t_bits t_wide t_lowest t_letters) := hD
  refine lv_aload_n hx hb d_Argument_become_20 rfl (lv_at hl 0 rfl) ?_
  refine lv_iload_n hx hb d_Argument_become_21 rfl (lv_at hl 2 rfl) ?_
  refine va_put (D := gD G) (ci := 0) (v := .int a2) (ty := .boolean) (C := R_Argument) (T := F_Argument) (N := 7) hx hb hg in_Argument t_Argument to_Argument no_Argument hown hK hP hD hS 0 rfl rfl 2 (by decide) (hg _ m_92) (fun _ h9 => h9) rfl (by decide +kernel) (bl_n hb_a2) (bl_f hb_a2) (Nat.le_of_ble_eq_true rfl) d_Argument_become_22 (fun H locs hP hD hS => ?_)
  have hP : va_P (gD G) vwCl (w_Argument_become G qt qt_words (vp_updL u_5 (0 : Int32).toNatClampNeg a3) a1 a2 t_bits t_wide t_lowest t_letters) H := hP
  have hD : va_D A (w_Argument_become G qt qt_words (vp_updL u_5 (0 : Int32).toNatClampNeg a3) a1 a2 t_bits t_wide t_lowest t_letters) := hD
  refine lv_aload_n hx hb d_Argument_become_25 rfl (lv_at hl 0 rfl) ?_
  refine lv_lconst (v := 0) hx hb d_Argument_become_26 (by decide) ?_
  refine va_put (D := gD G) (ci := 0) (v := .long (0 : Int64)) (ty := .long) (C := R_Argument) (T := F_Argument) (N := 7) hx hb hg in_Argument t_Argument to_Argument no_Argument hown hK hP hD hS 0 rfl rfl 3 (by decide) (hg _ m_93) (fun _ h9 => h9) rfl (by decide +kernel) rfl rfl (Nat.le_of_ble_eq_true rfl) d_Argument_become_27 (fun H locs hP hD hS => ?_)
  have hP : va_P (gD G) vwCl (w_Argument_become G qt qt_words (vp_updL u_5 (0 : Int32).toNatClampNeg a3) a1 a2 (0 : Int64) t_wide t_lowest t_letters) H := hP
  have hD : va_D A (w_Argument_become G qt qt_words (vp_updL u_5 (0 : Int32).toNatClampNeg a3) a1 a2 (0 : Int64) t_wide t_lowest t_letters) := hD
  refine lv_aload_n hx hb d_Argument_become_30 rfl (lv_at hl 0 rfl) ?_
  refine lv_iconst (v := 0) hx hb d_Argument_become_31 (by decide) ?_
  refine va_put (D := gD G) (ci := 0) (v := .int (0 : Int32)) (ty := .int) (C := R_Argument) (T := F_Argument) (N := 7) hx hb hg in_Argument t_Argument to_Argument no_Argument hown hK hP hD hS 0 rfl rfl 4 (by decide) (hg _ m_94) (fun _ h9 => h9) rfl (by decide +kernel) rfl rfl (Nat.le_of_ble_eq_true rfl) d_Argument_become_32 (fun H locs hP hD hS => ?_)
  have hP : va_P (gD G) vwCl (w_Argument_become G qt qt_words (vp_updL u_5 (0 : Int32).toNatClampNeg a3) a1 a2 (0 : Int64) (0 : Int32) t_lowest t_letters) H := hP
  have hD : va_D A (w_Argument_become G qt qt_words (vp_updL u_5 (0 : Int32).toNatClampNeg a3) a1 a2 (0 : Int64) (0 : Int32) t_lowest t_letters) := hD
  refine lv_aload_n hx hb d_Argument_become_35 rfl (lv_at hl 0 rfl) ?_
  refine lv_iconst (v := 0) hx hb d_Argument_become_36 (by decide) ?_
  refine va_put (D := gD G) (ci := 0) (v := .int (0 : Int32)) (ty := .int) (C := R_Argument) (T := F_Argument) (N := 7) hx hb hg in_Argument t_Argument to_Argument no_Argument hown hK hP hD hS 0 rfl rfl 5 (by decide) (hg _ m_95) (fun _ h9 => h9) rfl (by decide +kernel) rfl rfl (Nat.le_of_ble_eq_true rfl) d_Argument_become_37 (fun H locs hP hD hS => ?_)
  have hP : va_P (gD G) vwCl (w_Argument_become G qt qt_words (vp_updL u_5 (0 : Int32).toNatClampNeg a3) a1 a2 (0 : Int64) (0 : Int32) (0 : Int32) t_letters) H := hP
  have hD : va_D A (w_Argument_become G qt qt_words (vp_updL u_5 (0 : Int32).toNatClampNeg a3) a1 a2 (0 : Int64) (0 : Int32) (0 : Int32) t_letters) := hD
  refine lv_aload_n hx hb d_Argument_become_40 rfl (lv_at hl 0 rfl) ?_
  refine lv_null hx hb d_Argument_become_41 ?_
  refine va_put (D := gD G) (ci := 0) (v := .null) (ty := .object "SpecifierDesk$Row") (C := R_Argument) (T := F_Argument) (N := 7) hx hb hg in_Argument t_Argument to_Argument no_Argument hown hK hP hD hS 0 rfl rfl 6 (by decide) (hg _ m_96) (fun _ h9 => h9) rfl (by decide +kernel) rfl rfl (Nat.le_of_ble_eq_true rfl) d_Argument_become_42 (fun H locs hP hD hS => ?_)
  have hP : va_P (gD G) vwCl (w_Argument_become G qt qt_words (vp_updL u_5 (0 : Int32).toNatClampNeg a3) a1 a2 (0 : Int64) (0 : Int32) (0 : Int32) none) H := hP
  have hD : va_D A (w_Argument_become G qt qt_words (vp_updL u_5 (0 : Int32).toNatClampNeg a3) a1 a2 (0 : Int64) (0 : Int32) (0 : Int32) none) := hD
  obtain rfl := Option.some.inj hf
  rw [← hQ]
  exact W.vret hx hb hr (fun t9 ht hW => ⟨⟨(), rfl, trivial, ⟨by rw [ht]; exact hP, hD⟩⟩, hS.F ht⟩) hS.2.2 d_Argument_become_45
theorem d_Argument_growBy_0 : decode cd_Argument_growBy 0 = .ok (.aload_n 0, 1) := by decide +kernel
theorem d_Argument_growBy_1 : decode cd_Argument_growBy 1 = .ok (.getfield 11, 3) := by decide +kernel
theorem d_Argument_growBy_4 : decode cd_Argument_growBy 4 = .ok (.bipush 7, 2) := by decide +kernel
theorem d_Argument_growBy_6 : decode cd_Argument_growBy 6 = .ok (.laload, 1) := by decide +kernel
theorem d_Argument_growBy_7 : decode cd_Argument_growBy 7 = .ok (.lconst 0, 1) := by decide +kernel
theorem d_Argument_growBy_8 : decode cd_Argument_growBy 8 = .ok (.lcmp, 1) := by decide +kernel
theorem d_Argument_growBy_9 : decode cd_Argument_growBy 9 = .ok (.ifCond .eq 5, 3) := by decide +kernel
theorem d_Argument_growBy_12 : decode cd_Argument_growBy 12 = .ok (.iconst 0, 1) := by decide +kernel
theorem d_Argument_growBy_13 : decode cd_Argument_growBy 13 = .ok (.ireturn, 1) := by decide +kernel
theorem d_Argument_growBy_14 : decode cd_Argument_growBy 14 = .ok (.bipush 7, 2) := by decide +kernel
theorem d_Argument_growBy_16 : decode cd_Argument_growBy 16 = .ok (.istore_n 3, 1) := by decide +kernel
theorem d_Argument_growBy_17 : decode cd_Argument_growBy 17 = .ok (.iload_n 3, 1) := by decide +kernel
theorem d_Argument_growBy_18 : decode cd_Argument_growBy 18 = .ok (.ifCond .le 23, 3) := by decide +kernel
theorem d_Argument_growBy_21 : decode cd_Argument_growBy 21 = .ok (.aload_n 0, 1) := by decide +kernel
theorem d_Argument_growBy_22 : decode cd_Argument_growBy 22 = .ok (.getfield 11, 3) := by decide +kernel
theorem d_Argument_growBy_25 : decode cd_Argument_growBy 25 = .ok (.iload_n 3, 1) := by decide +kernel
theorem d_Argument_growBy_26 : decode cd_Argument_growBy 26 = .ok (.aload_n 0, 1) := by decide +kernel
theorem d_Argument_growBy_27 : decode cd_Argument_growBy 27 = .ok (.getfield 11, 3) := by decide +kernel
theorem d_Argument_growBy_30 : decode cd_Argument_growBy 30 = .ok (.iload_n 3, 1) := by decide +kernel
theorem d_Argument_growBy_31 : decode cd_Argument_growBy 31 = .ok (.iconst 1, 1) := by decide +kernel
theorem d_Argument_growBy_32 : decode cd_Argument_growBy 32 = .ok (.isub, 1) := by decide +kernel
theorem d_Argument_growBy_33 : decode cd_Argument_growBy 33 = .ok (.laload, 1) := by decide +kernel
theorem d_Argument_growBy_34 : decode cd_Argument_growBy 34 = .ok (.lastore, 1) := by decide +kernel
theorem d_Argument_growBy_35 : decode cd_Argument_growBy 35 = .ok (.iinc 3 (-1), 3) := by decide +kernel
theorem d_Argument_growBy_38 : decode cd_Argument_growBy 38 = .ok (.goto (-21), 3) := by decide +kernel
theorem d_Argument_growBy_41 : decode cd_Argument_growBy 41 = .ok (.aload_n 0, 1) := by decide +kernel
theorem d_Argument_growBy_42 : decode cd_Argument_growBy 42 = .ok (.getfield 11, 3) := by decide +kernel
theorem d_Argument_growBy_45 : decode cd_Argument_growBy 45 = .ok (.iconst 0, 1) := by decide +kernel
theorem d_Argument_growBy_46 : decode cd_Argument_growBy 46 = .ok (.lload_n 1, 1) := by decide +kernel
theorem d_Argument_growBy_47 : decode cd_Argument_growBy 47 = .ok (.lastore, 1) := by decide +kernel
theorem d_Argument_growBy_48 : decode cd_Argument_growBy 48 = .ok (.iconst 1, 1) := by decide +kernel
theorem d_Argument_growBy_49 : decode cd_Argument_growBy 49 = .ok (.ireturn, 1) := by decide +kernel
def b_Argument_growBy_17 (a1 : Int64)  (rec_17 : (Int32 × (Nat → Int64)) → Option (Int32 × (Nat → Int64))) (z17 : Int32 × (Nat → Int64)) : Option (Int32 × (Nat → Int64)) :=
  (if z17.1 ≤ 0 then (if inB (0 : Int32) 8 = true then some ((1 : Int32), (vp_updL z17.2 (0 : Int32).toNatClampNeg a1)) else none) else (if inB (z17.1 - (1 : Int32)) 8 = true then (if inB z17.1 8 = true then rec_17 ((z17.1 + (-1)), (vp_updL z17.2 z17.1.toNatClampNeg (z17.2 (z17.1 - (1 : Int32)).toNatClampNeg))) else none) else none))
def f_Argument_growBy (K : Nat) (t_words : Nat → Int64) (a1 : Int64) : Option (Int32 × (Nat → Int64)) :=
  (if inB (7 : Int32) 8 = true then (if (lg_cmp (t_words (7 : Int32).toNatClampNeg) (0 : Int64)) = 0 then lp_ (b_Argument_growBy_17 a1 ) K ((7 : Int32), t_words) else some ((0 : Int32), t_words)) else none)
set_option maxHeartbeats 4000000 in
set_option maxRecDepth 100000 in
theorem c_Argument_growBy (l : Launch) (G : Gt) (K : Nat) (qt : Nat) (qt_words : Nat) (t_words : Nat → Int64) (t_kind : Nat) (t_minus : Int32) (t_bits : Int64) (t_wide : Int32) (t_lowest : Int32) (t_letters : Option Nat) (a1 : Int64) (sz : Nat) (res : Int32 × (Nat → Int64))  (hr_t_kind : t_kind < 8) (hf : f_Argument_growBy K t_words a1 = some res) : Met l y_Argument_growBy (.code y_Argument_growBy cd_Argument_growBy 4 (some .boolean) :: gw) { frames := 0, cells := 0, slots := 0, locals := 0 } (PC G ([.ref qt, .long a1] : List Value) sz (w_Argument_become G qt qt_words t_words t_kind t_minus t_bits t_wide t_lowest t_letters)) (QZ G res.1 (va_A (w_Argument_become G qt qt_words t_words t_kind t_minus t_bits t_wide t_lowest t_letters) sz) (w_Argument_become G qt qt_words res.2 t_kind t_minus t_bits t_wide t_lowest t_letters)) 0 0 (va_A (w_Argument_become G qt qt_words t_words t_kind t_minus t_bits t_wide t_lowest t_letters) sz) := by
  refine Met.ofW (cc := cd_Argument_growBy) (maxL := 4) (ret := (some .boolean)) (by decide) rfl ?_
  intro p e s m args below meth c s₁ B hml hv
  obtain ⟨rfl, hsz, hP, hE, hD0⟩ := hv
  have hx := B.exec
  have hb := B.bytes
  have hr := B.returns
  have hts := atoms_spec (ws := (.code y_Argument_growBy cd_Argument_growBy 4 (some .boolean) :: gw)) B.pre
  have hg : ∀ w ∈ gw, w.before _ s = true := fun w h => hts w (List.mem_cons_of_mem _ h)
  have hown : s.vm.findClass R_Argument = some m.cls := findClass_of_methodNamed B.named
  have hlocks := B.notSynchronized
  subst hsz
  have hK := hE.K
  have hD := hD0.self (sz := s.heap.size)
  have hAb := hE.ab hD0
  obtain ⟨Q, hQ⟩ : ∃ Q, MQ below (QZ G res.1 (va_A (w_Argument_become G qt qt_words t_words t_kind t_minus t_bits t_wide t_lowest t_letters) s.heap.size) (w_Argument_become G qt qt_words res.2 t_kind t_minus t_bits t_wide t_lowest t_letters)) ([.ref qt, .long a1] : List Value).toArray s 0 0 (va_A (w_Argument_become G qt qt_words t_words t_kind t_minus t_bits t_wide t_lowest t_letters) s.heap.size) = Q := ⟨_, rfl⟩
  show W p l e { frames := 0, cells := 0, slots := 0, locals := 0 } s m ([.ref qt, .long a1] : List Value).toArray below meth c s.heap [] 0 0 (MQ below (QZ G res.1 (va_A (w_Argument_become G qt qt_words t_words t_kind t_minus t_bits t_wide t_lowest t_letters) s.heap.size) (w_Argument_become G qt qt_words res.2 t_kind t_minus t_bits t_wide t_lowest t_letters)) ([.ref qt, .long a1] : List Value).toArray s 0 0 (va_A (w_Argument_become G qt qt_words t_words t_kind t_minus t_bits t_wide t_lowest t_letters) s.heap.size)) _
  rw [hQ]
  have hA : ∀ q : Nat, s.heap.size ≤ q → va_A (w_Argument_become G qt qt_words t_words t_kind t_minus t_bits t_wide t_lowest t_letters) s.heap.size q := fun q h => Or.inr h
  obtain ⟨A, hAe⟩ : ∃ A, va_A (w_Argument_become G qt qt_words t_words t_kind t_minus t_bits t_wide t_lowest t_letters) s.heap.size = A := ⟨_, rfl⟩
  rw [hAe] at hA hD hAb hQ
  have hS : va_S A s.heap s.heap [] := va_S.rf
  have hl := lv_entry (([.ref qt, .long a1] : List Value)) (n := 4) (Nat.le_of_ble_eq_true rfl)
  rw [lg_entry_eq]
  generalize (lg_sl (([.ref qt, .long a1] : List Value)) ++ List.replicate (4 - (lg_sl (([.ref qt, .long a1] : List Value))).length) Slot.unset).toArray = ls at hl ⊢
  have hl : lv_has ls 4 [(0, .ref qt), (1, .long a1)] := hl
  have W_17 : ∀   (n_17 : Nat) (z17 : Int32 × (Nat → Int64)) , lp_ (b_Argument_growBy_17 a1 ) n_17 z17 = some res → ∀ (H : Heap) (locs : List Loc) (ls : Array Slot), va_P (gD G) vwCl (w_Argument_become G qt qt_words z17.2 t_kind t_minus t_bits t_wide t_lowest t_letters) H → va_D A (w_Argument_become G qt qt_words z17.2 t_kind t_minus t_bits t_wide t_lowest t_letters) → va_S A s.heap H locs → lv_has ls 4 [(0, .ref qt), (1, .long a1), (3, .int z17.1)] → W p l e { frames := 0, cells := 0, slots := 0, locals := 0 } s m ([.ref qt, .long a1] : List Value).toArray below meth c H locs 0 0 Q (F0 m 17 ls []) := by
    intro  n_17
    induction n_17 with
    | zero =>
      intro z17  hf
      cases hf
    | succ n_17 ih_17 =>
      intro z17  hf H locs ls hP hD hS hl
      have hf : b_Argument_growBy_17 a1  (lp_ (b_Argument_growBy_17 a1 ) n_17) z17 = some res := hf
      generalize lp_ (b_Argument_growBy_17 a1 ) n_17 = rec_17 at hf ih_17
      unfold b_Argument_growBy_17 at hf
      refine lv_iload_n hx hb d_Argument_growBy_17 rfl (lv_at hl 2 rfl) ?_
      refine lv_if_le (tgt := 41) hx hb d_Argument_growBy_18 (by decide) (fun c_18 => ?_) (fun c_18 => ?_)
      · have hf := ip_ c_18 hf
        refine lv_aload_n hx hb d_Argument_growBy_41 rfl (lv_at hl 0 rfl) ?_
        refine va_get (D := gD G) (ci := 0) (v := .ref qt_words) (C := R_Argument) (T := F_Argument) (N := 7) hx hb hg in_Argument hown hK hP 0 rfl rfl 0 (by decide) (hg _ m_86) (fun _ h9 => h9) rfl d_Argument_growBy_42 ?_
        refine lv_iconst (v := 0) hx hb d_Argument_growBy_45 (by decide) ?_
        refine lv_lload_n hx hb d_Argument_growBy_46 rfl (lv_at hl 1 rfl) ?_
        obtain ⟨g_47, hf⟩ := gd_ hf
        refine va_last hx hb hK hP hD hS 1 2 rfl rfl (inB_in g_47) d_Argument_growBy_47 (fun H locs hP hD hS => ?_)
        have hP : va_P (gD G) vwCl (w_Argument_become G qt qt_words (vp_updL z17.2 (0 : Int32).toNatClampNeg a1) t_kind t_minus t_bits t_wide t_lowest t_letters) H := hP
        have hD : va_D A (w_Argument_become G qt qt_words (vp_updL z17.2 (0 : Int32).toNatClampNeg a1) t_kind t_minus t_bits t_wide t_lowest t_letters) := hD
        refine lv_iconst (v := 1) hx hb d_Argument_growBy_48 (by decide) ?_
        obtain rfl := Option.some.inj hf
        rw [← hQ]
        exact W.zret (v := (1 : Int32)) hx hb hr (bl_n bl_1) (fun t9 ht hW => ⟨⟨(1 : Int32), (), rfl, ⟨rfl, bl_1⟩, ⟨by rw [ht]; exact hP, hD⟩⟩, hS.F ht⟩) hS.2.2 d_Argument_growBy_49
      · have hf := in_ c_18 hf
        refine lv_aload_n hx hb d_Argument_growBy_21 rfl (lv_at hl 0 rfl) ?_
        refine va_get (D := gD G) (ci := 0) (v := .ref qt_words) (C := R_Argument) (T := F_Argument) (N := 7) hx hb hg in_Argument hown hK hP 0 rfl rfl 0 (by decide) (hg _ m_86) (fun _ h9 => h9) rfl d_Argument_growBy_22 ?_
        refine lv_iload_n hx hb d_Argument_growBy_25 rfl (lv_at hl 2 rfl) ?_
        refine lv_aload_n hx hb d_Argument_growBy_26 rfl (lv_at hl 0 rfl) ?_
        refine va_get (D := gD G) (ci := 0) (v := .ref qt_words) (C := R_Argument) (T := F_Argument) (N := 7) hx hb hg in_Argument hown hK hP 0 rfl rfl 0 (by decide) (hg _ m_86) (fun _ h9 => h9) rfl d_Argument_growBy_27 ?_
        refine lv_iload_n hx hb d_Argument_growBy_30 rfl (lv_at hl 2 rfl) ?_
        refine lv_iconst (v := 1) hx hb d_Argument_growBy_31 (by decide) ?_
        refine lv_isub hx hb d_Argument_growBy_32 ?_
        obtain ⟨g_33, hf⟩ := gd_ hf
        refine va_lald hx hb hK hP 1 2 rfl rfl (inB_in g_33) d_Argument_growBy_33 ?_
        obtain ⟨g_34, hf⟩ := gd_ hf
        refine va_last hx hb hK hP hD hS 1 2 rfl rfl (inB_in g_34) d_Argument_growBy_34 (fun H locs hP hD hS => ?_)
        have hP : va_P (gD G) vwCl (w_Argument_become G qt qt_words (vp_updL z17.2 z17.1.toNatClampNeg (z17.2 (z17.1 - (1 : Int32)).toNatClampNeg)) t_kind t_minus t_bits t_wide t_lowest t_letters) H := hP
        have hD : va_D A (w_Argument_become G qt qt_words (vp_updL z17.2 z17.1.toNatClampNeg (z17.2 (z17.1 - (1 : Int32)).toNatClampNeg)) t_kind t_minus t_bits t_wide t_lowest t_letters) := hD
        refine lv_iinc (v := (z17.1 + (-1))) (lv' := [(3, .int (z17.1 + (-1))), (0, .ref qt), (1, .long a1)]) hx hb d_Argument_growBy_35 hl (k := 2) rfl rfl (by decide) rfl (fun ls hl => ?_)
        refine lv_goto (tgt := 17) hx hb d_Argument_growBy_38 (by decide) ?_
        exact ih_17 ((z17.1 + (-1)), (vp_updL z17.2 z17.1.toNatClampNeg (z17.2 (z17.1 - (1 : Int32)).toNatClampNeg)))  hf _ _ _ hP hD hS (lv_sub hl [1, 2, 0] rfl)
  unfold f_Argument_growBy at hf
  refine lv_aload_n hx hb d_Argument_growBy_0 rfl (lv_at hl 0 rfl) ?_
  refine va_get (D := gD G) (ci := 0) (v := .ref qt_words) (C := R_Argument) (T := F_Argument) (N := 7) hx hb hg in_Argument hown hK hP 0 rfl rfl 0 (by decide) (hg _ m_86) (fun _ h9 => h9) rfl d_Argument_growBy_1 ?_
  refine lv_bipush (v := 7) hx hb d_Argument_growBy_4 (by decide) ?_
  obtain ⟨g_6, hf⟩ := gd_ hf
  refine va_lald hx hb hK hP 1 2 rfl rfl (inB_in g_6) d_Argument_growBy_6 ?_
  refine lv_lconst (v := 0) hx hb d_Argument_growBy_7 (by decide) ?_
  refine W.lcmp hx hb d_Argument_growBy_8 ?_
  refine lv_if_eq (tgt := 14) hx hb d_Argument_growBy_9 (by decide) (fun c_9 => ?_) (fun c_9 => ?_)
  · have hf := ip_ c_9 hf
    refine lv_bipush (v := 7) hx hb d_Argument_growBy_14 (by decide) ?_
    refine lv_istore_n (lv' := [(3, .int (7 : Int32)), (0, .ref qt), (1, .long a1)]) hx hb d_Argument_growBy_16 rfl hl (by decide) rfl (fun ls hl => ?_)
    exact W_17   K ((7 : Int32), t_words)  hf _ _ _ hP hD hS (lv_sub hl [1, 2, 0] rfl)
  · have hf := in_ c_9 hf
    refine lv_iconst (v := 0) hx hb d_Argument_growBy_12 (by decide) ?_
    obtain rfl := Option.some.inj hf
    rw [← hQ]
    exact W.zret (v := (0 : Int32)) hx hb hr (bl_n bl_0) (fun t9 ht hW => ⟨⟨(0 : Int32), (), rfl, ⟨rfl, bl_0⟩, ⟨by rw [ht]; exact hP, hD⟩⟩, hS.F ht⟩) hS.2.2 d_Argument_growBy_13
theorem d_Argument_isSizeZero_0 : decode cd_Argument_isSizeZero 0 = .ok (.iconst 0, 1) := by decide +kernel
theorem d_Argument_isSizeZero_1 : decode cd_Argument_isSizeZero 1 = .ok (.istore_n 1, 1) := by decide +kernel
theorem d_Argument_isSizeZero_2 : decode cd_Argument_isSizeZero 2 = .ok (.iload_n 1, 1) := by decide +kernel
theorem d_Argument_isSizeZero_3 : decode cd_Argument_isSizeZero 3 = .ok (.bipush 8, 2) := by decide +kernel
theorem d_Argument_isSizeZero_5 : decode cd_Argument_isSizeZero 5 = .ok (.if_icmp .ge 22, 3) := by decide +kernel
theorem d_Argument_isSizeZero_8 : decode cd_Argument_isSizeZero 8 = .ok (.aload_n 0, 1) := by decide +kernel
theorem d_Argument_isSizeZero_9 : decode cd_Argument_isSizeZero 9 = .ok (.getfield 11, 3) := by decide +kernel
theorem d_Argument_isSizeZero_12 : decode cd_Argument_isSizeZero 12 = .ok (.iload_n 1, 1) := by decide +kernel
theorem d_Argument_isSizeZero_13 : decode cd_Argument_isSizeZero 13 = .ok (.laload, 1) := by decide +kernel
theorem d_Argument_isSizeZero_14 : decode cd_Argument_isSizeZero 14 = .ok (.lconst 0, 1) := by decide +kernel
theorem d_Argument_isSizeZero_15 : decode cd_Argument_isSizeZero 15 = .ok (.lcmp, 1) := by decide +kernel
theorem d_Argument_isSizeZero_16 : decode cd_Argument_isSizeZero 16 = .ok (.ifCond .eq 5, 3) := by decide +kernel
theorem d_Argument_isSizeZero_19 : decode cd_Argument_isSizeZero 19 = .ok (.iconst 0, 1) := by decide +kernel
theorem d_Argument_isSizeZero_20 : decode cd_Argument_isSizeZero 20 = .ok (.ireturn, 1) := by decide +kernel
theorem d_Argument_isSizeZero_21 : decode cd_Argument_isSizeZero 21 = .ok (.iinc 1 1, 3) := by decide +kernel
theorem d_Argument_isSizeZero_24 : decode cd_Argument_isSizeZero 24 = .ok (.goto (-22), 3) := by decide +kernel
theorem d_Argument_isSizeZero_27 : decode cd_Argument_isSizeZero 27 = .ok (.iconst 1, 1) := by decide +kernel
theorem d_Argument_isSizeZero_28 : decode cd_Argument_isSizeZero 28 = .ok (.ireturn, 1) := by decide +kernel
def b_Argument_isSizeZero_2 (t_words : Nat → Int64)  (rec_2 : Int32 → Option Int32) (z2 : Int32) : Option Int32 :=
  (if (8 : Int32) ≤ z2 then some (1 : Int32) else (if inB z2 8 = true then (if (lg_cmp (t_words z2.toNatClampNeg) (0 : Int64)) = 0 then rec_2 (z2 + 1) else some (0 : Int32)) else none))
def f_Argument_isSizeZero (K : Nat) (t_words : Nat → Int64) : Option Int32 :=
  lp_ (b_Argument_isSizeZero_2 t_words ) K (0 : Int32)
set_option maxHeartbeats 4000000 in
set_option maxRecDepth 100000 in
theorem c_Argument_isSizeZero (l : Launch) (G : Gt) (K : Nat) (qt : Nat) (qt_words : Nat) (t_words : Nat → Int64) (t_kind : Nat) (t_minus : Int32) (t_bits : Int64) (t_wide : Int32) (t_lowest : Int32) (t_letters : Option Nat) (sz : Nat) (res : Int32)  (hr_t_kind : t_kind < 8) (hf : f_Argument_isSizeZero K t_words = some res) : Met l y_Argument_isSizeZero (.code y_Argument_isSizeZero cd_Argument_isSizeZero 2 (some .boolean) :: gw) { frames := 0, cells := 0, slots := 0, locals := 0 } (PC G ([.ref qt] : List Value) sz (w_Argument_become G qt qt_words t_words t_kind t_minus t_bits t_wide t_lowest t_letters)) (QZ G res (va_A (w_Argument_become G qt qt_words t_words t_kind t_minus t_bits t_wide t_lowest t_letters) sz) (w_Argument_become G qt qt_words t_words t_kind t_minus t_bits t_wide t_lowest t_letters)) 0 0 (va_A (w_Argument_become G qt qt_words t_words t_kind t_minus t_bits t_wide t_lowest t_letters) sz) := by
  refine Met.ofW (cc := cd_Argument_isSizeZero) (maxL := 2) (ret := (some .boolean)) (by decide) rfl ?_
  intro p e s m args below meth c s₁ B hml hv
  obtain ⟨rfl, hsz, hP, hE, hD0⟩ := hv
  have hx := B.exec
  have hb := B.bytes
  have hr := B.returns
  have hts := atoms_spec (ws := (.code y_Argument_isSizeZero cd_Argument_isSizeZero 2 (some .boolean) :: gw)) B.pre
  have hg : ∀ w ∈ gw, w.before _ s = true := fun w h => hts w (List.mem_cons_of_mem _ h)
  have hown : s.vm.findClass R_Argument = some m.cls := findClass_of_methodNamed B.named
  have hlocks := B.notSynchronized
  subst hsz
  have hK := hE.K
  have hD := hD0.self (sz := s.heap.size)
  have hAb := hE.ab hD0
  obtain ⟨Q, hQ⟩ : ∃ Q, MQ below (QZ G res (va_A (w_Argument_become G qt qt_words t_words t_kind t_minus t_bits t_wide t_lowest t_letters) s.heap.size) (w_Argument_become G qt qt_words t_words t_kind t_minus t_bits t_wide t_lowest t_letters)) ([.ref qt] : List Value).toArray s 0 0 (va_A (w_Argument_become G qt qt_words t_words t_kind t_minus t_bits t_wide t_lowest t_letters) s.heap.size) = Q := ⟨_, rfl⟩
  show W p l e { frames := 0, cells := 0, slots := 0, locals := 0 } s m ([.ref qt] : List Value).toArray below meth c s.heap [] 0 0 (MQ below (QZ G res (va_A (w_Argument_become G qt qt_words t_words t_kind t_minus t_bits t_wide t_lowest t_letters) s.heap.size) (w_Argument_become G qt qt_words t_words t_kind t_minus t_bits t_wide t_lowest t_letters)) ([.ref qt] : List Value).toArray s 0 0 (va_A (w_Argument_become G qt qt_words t_words t_kind t_minus t_bits t_wide t_lowest t_letters) s.heap.size)) _
  rw [hQ]
  have hA : ∀ q : Nat, s.heap.size ≤ q → va_A (w_Argument_become G qt qt_words t_words t_kind t_minus t_bits t_wide t_lowest t_letters) s.heap.size q := fun q h => Or.inr h
  obtain ⟨A, hAe⟩ : ∃ A, va_A (w_Argument_become G qt qt_words t_words t_kind t_minus t_bits t_wide t_lowest t_letters) s.heap.size = A := ⟨_, rfl⟩
  rw [hAe] at hA hD hAb hQ
  have hS : va_S A s.heap s.heap [] := va_S.rf
  have hl := lv_entry (([.ref qt] : List Value)) (n := 2) (Nat.le_of_ble_eq_true rfl)
  rw [lg_entry_eq]
  generalize (lg_sl (([.ref qt] : List Value)) ++ List.replicate (2 - (lg_sl (([.ref qt] : List Value))).length) Slot.unset).toArray = ls at hl ⊢
  have hl : lv_has ls 2 [(0, .ref qt)] := hl
  have W_2 : ∀   (n_2 : Nat) (z2 : Int32) , lp_ (b_Argument_isSizeZero_2 t_words ) n_2 z2 = some res → ∀ (H : Heap) (locs : List Loc) (ls : Array Slot), va_P (gD G) vwCl (w_Argument_become G qt qt_words t_words t_kind t_minus t_bits t_wide t_lowest t_letters) H → va_D A (w_Argument_become G qt qt_words t_words t_kind t_minus t_bits t_wide t_lowest t_letters) → va_S A s.heap H locs → lv_has ls 2 [(0, .ref qt), (1, .int z2)] → W p l e { frames := 0, cells := 0, slots := 0, locals := 0 } s m ([.ref qt] : List Value).toArray below meth c H locs 0 0 Q (F0 m 2 ls []) := by
    intro  n_2
    induction n_2 with
    | zero =>
      intro z2  hf
      cases hf
    | succ n_2 ih_2 =>
      intro z2  hf H locs ls hP hD hS hl
      have hf : b_Argument_isSizeZero_2 t_words  (lp_ (b_Argument_isSizeZero_2 t_words ) n_2) z2 = some res := hf
      generalize lp_ (b_Argument_isSizeZero_2 t_words ) n_2 = rec_2 at hf ih_2
      unfold b_Argument_isSizeZero_2 at hf
      refine lv_iload_n hx hb d_Argument_isSizeZero_2 rfl (lv_at hl 1 rfl) ?_
      refine lv_bipush (v := 8) hx hb d_Argument_isSizeZero_3 (by decide) ?_
      refine lv_icmp_ge (tgt := 27) hx hb d_Argument_isSizeZero_5 (by decide) (fun c_5 => ?_) (fun c_5 => ?_)
      · have hf := ip_ c_5 hf
        refine lv_iconst (v := 1) hx hb d_Argument_isSizeZero_27 (by decide) ?_
        obtain rfl := Option.some.inj hf
        rw [← hQ]
        exact W.zret (v := (1 : Int32)) hx hb hr (bl_n bl_1) (fun t9 ht hW => ⟨⟨(1 : Int32), (), rfl, ⟨rfl, bl_1⟩, ⟨by rw [ht]; exact hP, hD⟩⟩, hS.F ht⟩) hS.2.2 d_Argument_isSizeZero_28
      · have hf := in_ c_5 hf
        refine lv_aload_n hx hb d_Argument_isSizeZero_8 rfl (lv_at hl 0 rfl) ?_
        refine va_get (D := gD G) (ci := 0) (v := .ref qt_words) (C := R_Argument) (T := F_Argument) (N := 7) hx hb hg in_Argument hown hK hP 0 rfl rfl 0 (by decide) (hg _ m_86) (fun _ h9 => h9) rfl d_Argument_isSizeZero_9 ?_
        refine lv_iload_n hx hb d_Argument_isSizeZero_12 rfl (lv_at hl 1 rfl) ?_
        obtain ⟨g_13, hf⟩ := gd_ hf
        refine va_lald hx hb hK hP 1 2 rfl rfl (inB_in g_13) d_Argument_isSizeZero_13 ?_
        refine lv_lconst (v := 0) hx hb d_Argument_isSizeZero_14 (by decide) ?_
        refine W.lcmp hx hb d_Argument_isSizeZero_15 ?_
        refine lv_if_eq (tgt := 21) hx hb d_Argument_isSizeZero_16 (by decide) (fun c_16 => ?_) (fun c_16 => ?_)
        · have hf := ip_ c_16 hf
          refine lv_iinc (v := (z2 + 1)) (lv' := [(1, .int (z2 + 1)), (0, .ref qt)]) hx hb d_Argument_isSizeZero_21 hl (k := 1) rfl rfl (by decide) rfl (fun ls hl => ?_)
          refine lv_goto (tgt := 2) hx hb d_Argument_isSizeZero_24 (by decide) ?_
          exact ih_2 (z2 + 1)  hf _ _ _ hP hD hS (lv_sub hl [1, 0] rfl)
        · have hf := in_ c_16 hf
          refine lv_iconst (v := 0) hx hb d_Argument_isSizeZero_19 (by decide) ?_
          obtain rfl := Option.some.inj hf
          rw [← hQ]
          exact W.zret (v := (0 : Int32)) hx hb hr (bl_n bl_0) (fun t9 ht hW => ⟨⟨(0 : Int32), (), rfl, ⟨rfl, bl_0⟩, ⟨by rw [ht]; exact hP, hD⟩⟩, hS.F ht⟩) hS.2.2 d_Argument_isSizeZero_20
  unfold f_Argument_isSizeZero at hf
  refine lv_iconst (v := 0) hx hb d_Argument_isSizeZero_0 (by decide) ?_
  refine lv_istore_n (lv' := [(1, .int (0 : Int32)), (0, .ref qt)]) hx hb d_Argument_isSizeZero_1 rfl hl (by decide) rfl (fun ls hl => ?_)
  exact W_2   K (0 : Int32)  hf _ _ _ hP hD hS (lv_sub hl [1, 0] rfl)
theorem d_Argument_isBelowZero_0 : decode cd_Argument_isBelowZero 0 = .ok (.aload_n 0, 1) := by decide +kernel
theorem d_Argument_isBelowZero_1 : decode cd_Argument_isBelowZero 1 = .ok (.getfield 30, 3) := by decide +kernel
theorem d_Argument_isBelowZero_4 : decode cd_Argument_isBelowZero 4 = .ok (.ifCond .eq 24, 3) := by decide +kernel
theorem d_Argument_isBelowZero_7 : decode cd_Argument_isBelowZero 7 = .ok (.aload_n 0, 1) := by decide +kernel
theorem d_Argument_isBelowZero_8 : decode cd_Argument_isBelowZero 8 = .ok (.getfield 21, 3) := by decide +kernel
theorem d_Argument_isBelowZero_11 : decode cd_Argument_isBelowZero 11 = .ok (.getstatic 49, 3) := by decide +kernel
theorem d_Argument_isBelowZero_14 : decode cd_Argument_isBelowZero 14 = .ok (.if_acmp .eq 10, 3) := by decide +kernel
theorem d_Argument_isBelowZero_17 : decode cd_Argument_isBelowZero 17 = .ok (.aload_n 0, 1) := by decide +kernel
theorem d_Argument_isBelowZero_18 : decode cd_Argument_isBelowZero 18 = .ok (.invokevirtual 52, 3) := by decide +kernel
theorem d_Argument_isBelowZero_21 : decode cd_Argument_isBelowZero 21 = .ok (.ifCond .ne 7, 3) := by decide +kernel
theorem d_Argument_isBelowZero_24 : decode cd_Argument_isBelowZero 24 = .ok (.iconst 1, 1) := by decide +kernel
theorem d_Argument_isBelowZero_25 : decode cd_Argument_isBelowZero 25 = .ok (.goto 4, 3) := by decide +kernel
theorem d_Argument_isBelowZero_28 : decode cd_Argument_isBelowZero 28 = .ok (.iconst 0, 1) := by decide +kernel
theorem d_Argument_isBelowZero_29 : decode cd_Argument_isBelowZero 29 = .ok (.ireturn, 1) := by decide +kernel
theorem m_97 : Cond.fieldLink R_Argument 49 "SpecifierDesk$Kind" "FRACTION" "LSpecifierDesk$Kind;" ∈ gw := gm (i := 666) (by decide +kernel) (by decide +kernel)
theorem m_98 : Cond.methodLink R_Argument 52 y_Argument_isSizeZero ∈ gw := gm (i := 732) (by decide +kernel) (by decide +kernel)
theorem m_99 : Cond.instanceMethod y_Argument_isSizeZero ∈ gw := gm (i := 734) (by decide +kernel) (by decide +kernel)
theorem m_100 : Cond.selects R_Argument y_Argument_isSizeZero y_Argument_isSizeZero ∈ gw := gm (i := 27) (by decide +kernel) (by decide +kernel)
theorem m_101 : Cond.initialized R_Argument ∈ gw := gm (i := 89) (by decide +kernel) (by decide +kernel)
set_option maxRecDepth 100000 in
theorem m_102 : Cond.code y_Argument_isSizeZero cd_Argument_isSizeZero 2 (some .boolean) ∈ gw := gm (i := 735) rfl rfl
def f_Argument_isBelowZero (K : Nat) (t_words : Nat → Int64) (t_kind : Nat) (t_minus : Int32) : Option Int32 :=
  (if t_minus = 0 then some (0 : Int32) else (if t_kind = 6 then some (1 : Int32) else ((f_Argument_isSizeZero K t_words).bind fun u_18 => (if u_18 = 0 then some (1 : Int32) else some (0 : Int32)))))
set_option maxHeartbeats 4000000 in
set_option maxRecDepth 100000 in
theorem c_Argument_isBelowZero (l : Launch) (G : Gt) (K : Nat) (qt : Nat) (qt_words : Nat) (t_words : Nat → Int64) (t_kind : Nat) (t_minus : Int32) (t_bits : Int64) (t_wide : Int32) (t_lowest : Int32) (t_letters : Option Nat) (sz : Nat) (res : Int32)  (hr_t_kind : t_kind < 8) (hf : f_Argument_isBelowZero K t_words t_kind t_minus = some res) : Met l y_Argument_isBelowZero (.code y_Argument_isBelowZero cd_Argument_isBelowZero 1 (some .boolean) :: gw) { frames := 1, cells := 0, slots := 0, locals := 40 } (PC G ([.ref qt] : List Value) sz (w_Argument_become G qt qt_words t_words t_kind t_minus t_bits t_wide t_lowest t_letters)) (QZ G res (va_A (w_Argument_become G qt qt_words t_words t_kind t_minus t_bits t_wide t_lowest t_letters) sz) (w_Argument_become G qt qt_words t_words t_kind t_minus t_bits t_wide t_lowest t_letters)) 0 0 (va_A (w_Argument_become G qt qt_words t_words t_kind t_minus t_bits t_wide t_lowest t_letters) sz) := by
  refine Met.ofW (cc := cd_Argument_isBelowZero) (maxL := 1) (ret := (some .boolean)) (by decide) rfl ?_
  intro p e s m args below meth c s₁ B hml hv
  obtain ⟨rfl, hsz, hP, hE, hD0⟩ := hv
  have hx := B.exec
  have hb := B.bytes
  have hr := B.returns
  have hts := atoms_spec (ws := (.code y_Argument_isBelowZero cd_Argument_isBelowZero 1 (some .boolean) :: gw)) B.pre
  have hg : ∀ w ∈ gw, w.before _ s = true := fun w h => hts w (List.mem_cons_of_mem _ h)
  have hown : s.vm.findClass R_Argument = some m.cls := findClass_of_methodNamed B.named
  have hlocks := B.notSynchronized
  subst hsz
  have hK := hE.K
  have hD := hD0.self (sz := s.heap.size)
  have hAb := hE.ab hD0
  obtain ⟨Q, hQ⟩ : ∃ Q, MQ below (QZ G res (va_A (w_Argument_become G qt qt_words t_words t_kind t_minus t_bits t_wide t_lowest t_letters) s.heap.size) (w_Argument_become G qt qt_words t_words t_kind t_minus t_bits t_wide t_lowest t_letters)) ([.ref qt] : List Value).toArray s 0 0 (va_A (w_Argument_become G qt qt_words t_words t_kind t_minus t_bits t_wide t_lowest t_letters) s.heap.size) = Q := ⟨_, rfl⟩
  show W p l e { frames := 1, cells := 0, slots := 0, locals := 40 } s m ([.ref qt] : List Value).toArray below meth c s.heap [] 0 0 (MQ below (QZ G res (va_A (w_Argument_become G qt qt_words t_words t_kind t_minus t_bits t_wide t_lowest t_letters) s.heap.size) (w_Argument_become G qt qt_words t_words t_kind t_minus t_bits t_wide t_lowest t_letters)) ([.ref qt] : List Value).toArray s 0 0 (va_A (w_Argument_become G qt qt_words t_words t_kind t_minus t_bits t_wide t_lowest t_letters) s.heap.size)) _
  rw [hQ]
  have hA : ∀ q : Nat, s.heap.size ≤ q → va_A (w_Argument_become G qt qt_words t_words t_kind t_minus t_bits t_wide t_lowest t_letters) s.heap.size q := fun q h => Or.inr h
  obtain ⟨A, hAe⟩ : ∃ A, va_A (w_Argument_become G qt qt_words t_words t_kind t_minus t_bits t_wide t_lowest t_letters) s.heap.size = A := ⟨_, rfl⟩
  rw [hAe] at hA hD hAb hQ
  have hS : va_S A s.heap s.heap [] := va_S.rf
  have hl := lv_entry (([.ref qt] : List Value)) (n := 1) (Nat.le_of_ble_eq_true rfl)
  rw [lg_entry_eq]
  generalize (lg_sl (([.ref qt] : List Value)) ++ List.replicate (1 - (lg_sl (([.ref qt] : List Value))).length) Slot.unset).toArray = ls at hl ⊢
  have hl : lv_has ls 1 [(0, .ref qt)] := hl
  unfold f_Argument_isBelowZero at hf
  refine lv_aload_n hx hb d_Argument_isBelowZero_0 rfl (lv_at hl 0 rfl) ?_
  refine va_get (D := gD G) (ci := 0) (v := .int t_minus) (C := R_Argument) (T := F_Argument) (N := 7) hx hb hg in_Argument hown hK hP 0 rfl rfl 2 (by decide) (hg _ m_92) (fun _ h9 => h9) rfl d_Argument_isBelowZero_1 ?_
  refine lv_if_eq (tgt := 28) hx hb d_Argument_isBelowZero_4 (by decide) (fun c_4 => ?_) (fun c_4 => ?_)
  · have hf := ip_ c_4 hf
    refine lv_iconst (v := 0) hx hb d_Argument_isBelowZero_28 (by decide) ?_
    obtain rfl := Option.some.inj hf
    rw [← hQ]
    exact W.zret (v := (0 : Int32)) hx hb hr (bl_n bl_0) (fun t9 ht hW => ⟨⟨(0 : Int32), (), rfl, ⟨rfl, bl_0⟩, ⟨by rw [ht]; exact hP, hD⟩⟩, hS.F ht⟩) hS.2.2 d_Argument_isBelowZero_29
  · have hf := in_ c_4 hf
    refine lv_aload_n hx hb d_Argument_isBelowZero_7 rfl (lv_at hl 0 rfl) ?_
    refine va_get (D := gD G) (ci := 0) (v := .ref (gK G t_kind)) (C := R_Argument) (T := F_Argument) (N := 7) hx hb hg in_Argument hown hK hP 0 rfl rfl 1 (by decide) (hg _ m_91) (fun _ h9 => h9) rfl d_Argument_isBelowZero_8 ?_
    refine va_gets hx hb (hE.kz hAb 6 (by decide)) hS hown (hg _ m_97) (fun _ h9 => h9) d_Argument_isBelowZero_11 ?_
    refine ac_eq hE hr_t_kind (by decide) (tgt := 24) hx hb d_Argument_isBelowZero_14 (by decide) (fun c_14 => ?_) (fun c_14 => ?_)
    · have hf := ip_ c_14 hf
      refine lv_iconst (v := 1) hx hb d_Argument_isBelowZero_24 (by decide) ?_
      refine lv_goto (tgt := 29) hx hb d_Argument_isBelowZero_25 (by decide) ?_
      obtain rfl := Option.some.inj hf
      rw [← hQ]
      exact W.zret (v := (1 : Int32)) hx hb hr (bl_n bl_1) (fun t9 ht hW => ⟨⟨(1 : Int32), (), rfl, ⟨rfl, bl_1⟩, ⟨by rw [ht]; exact hP, hD⟩⟩, hS.F ht⟩) hS.2.2 d_Argument_isBelowZero_29
    · have hf := in_ c_14 hf
      refine lv_aload_n hx hb d_Argument_isBelowZero_17 rfl (lv_at hl 0 rfl) ?_
      obtain ⟨u_18, hu_18, hf⟩ := bd_ hf
      refine CALLWz (va_runV (As := []) (rest := []) ⟨hx, hb, hml, hown, hg⟩ (c_Argument_isSizeZero l G K qt qt_words t_words t_kind t_minus t_bits t_wide t_lowest t_letters _ u_18 hr_t_kind hu_18) (cwV 0 hg (gV m_98 m_99 m_100 m_101 m_102) rfl rfl rfl (by decide +kernel) ⟨Nat.le_of_ble_eq_true rfl, Nat.le_of_ble_eq_true rfl⟩) ⟨PC_b, va_recv hK hP (ci := 0) (q0 := 0) rfl rfl, PC_p hE hS hAb hP hD⟩ rfl rfl hl.1 rfl (lv_room (Nat.le_of_ble_eq_true rfl)) d_Argument_isBelowZero_18 ⟨Nat.zero_le _, Nat.zero_le _⟩) hP hD hS hA (fun bu_18 H locs hP hD hS => ?_)
      have hP : va_P (gD G) vwCl (w_Argument_become G qt qt_words t_words t_kind t_minus t_bits t_wide t_lowest t_letters) H := hP
      have hD : va_D A (w_Argument_become G qt qt_words t_words t_kind t_minus t_bits t_wide t_lowest t_letters) := hD
      refine lv_if_ne (tgt := 28) hx hb d_Argument_isBelowZero_21 (by decide) (fun c_21 => ?_) (fun c_21 => ?_)
      · have hf := in_ c_21 hf
        refine lv_iconst (v := 0) hx hb d_Argument_isBelowZero_28 (by decide) ?_
        obtain rfl := Option.some.inj hf
        rw [← hQ]
        exact W.zret (v := (0 : Int32)) hx hb hr (bl_n bl_0) (fun t9 ht hW => ⟨⟨(0 : Int32), (), rfl, ⟨rfl, bl_0⟩, ⟨by rw [ht]; exact hP, hD⟩⟩, hS.F ht⟩) hS.2.2 d_Argument_isBelowZero_29
      · have hf := ip_ c_21 hf
        refine lv_iconst (v := 1) hx hb d_Argument_isBelowZero_24 (by decide) ?_
        refine lv_goto (tgt := 29) hx hb d_Argument_isBelowZero_25 (by decide) ?_
        obtain rfl := Option.some.inj hf
        rw [← hQ]
        exact W.zret (v := (1 : Int32)) hx hb hr (bl_n bl_1) (fun t9 ht hW => ⟨⟨(1 : Int32), (), rfl, ⟨rfl, bl_1⟩, ⟨by rw [ht]; exact hP, hD⟩⟩, hS.F ht⟩) hS.2.2 d_Argument_isBelowZero_29
theorem d_Argument_isCharacterNumber_0 : decode cd_Argument_isCharacterNumber 0 = .ok (.aload_n 0, 1) := by decide +kernel
theorem d_Argument_isCharacterNumber_1 : decode cd_Argument_isCharacterNumber 1 = .ok (.getfield 30, 3) := by decide +kernel
theorem d_Argument_isCharacterNumber_4 : decode cd_Argument_isCharacterNumber 4 = .ok (.ifCond .ne 31, 3) := by decide +kernel
theorem d_Argument_isCharacterNumber_7 : decode cd_Argument_isCharacterNumber 7 = .ok (.aload_n 0, 1) := by decide +kernel
theorem d_Argument_isCharacterNumber_8 : decode cd_Argument_isCharacterNumber 8 = .ok (.getfield 11, 3) := by decide +kernel
theorem d_Argument_isCharacterNumber_11 : decode cd_Argument_isCharacterNumber 11 = .ok (.iconst 0, 1) := by decide +kernel
theorem d_Argument_isCharacterNumber_12 : decode cd_Argument_isCharacterNumber 12 = .ok (.laload, 1) := by decide +kernel
theorem d_Argument_isCharacterNumber_13 : decode cd_Argument_isCharacterNumber 13 = .ok (.lconst 1, 1) := by decide +kernel
theorem d_Argument_isCharacterNumber_14 : decode cd_Argument_isCharacterNumber 14 = .ok (.lcmp, 1) := by decide +kernel
theorem d_Argument_isCharacterNumber_15 : decode cd_Argument_isCharacterNumber 15 = .ok (.ifCond .lt 20, 3) := by decide +kernel
theorem d_Argument_isCharacterNumber_18 : decode cd_Argument_isCharacterNumber 18 = .ok (.aload_n 0, 1) := by decide +kernel
theorem d_Argument_isCharacterNumber_19 : decode cd_Argument_isCharacterNumber 19 = .ok (.getfield 11, 3) := by decide +kernel
theorem d_Argument_isCharacterNumber_22 : decode cd_Argument_isCharacterNumber 22 = .ok (.iconst 0, 1) := by decide +kernel
theorem d_Argument_isCharacterNumber_23 : decode cd_Argument_isCharacterNumber 23 = .ok (.laload, 1) := by decide +kernel
theorem d_Argument_isCharacterNumber_24 : decode cd_Argument_isCharacterNumber 24 = .ok (.ldc2_w 56, 3) := by decide +kernel
theorem d_Argument_isCharacterNumber_27 : decode cd_Argument_isCharacterNumber 27 = .ok (.lcmp, 1) := by decide +kernel
theorem d_Argument_isCharacterNumber_28 : decode cd_Argument_isCharacterNumber 28 = .ok (.ifCond .gt 7, 3) := by decide +kernel
theorem d_Argument_isCharacterNumber_31 : decode cd_Argument_isCharacterNumber 31 = .ok (.iconst 1, 1) := by decide +kernel
theorem d_Argument_isCharacterNumber_32 : decode cd_Argument_isCharacterNumber 32 = .ok (.goto 4, 3) := by decide +kernel
theorem d_Argument_isCharacterNumber_35 : decode cd_Argument_isCharacterNumber 35 = .ok (.iconst 0, 1) := by decide +kernel
theorem d_Argument_isCharacterNumber_36 : decode cd_Argument_isCharacterNumber 36 = .ok (.ireturn, 1) := by decide +kernel
theorem m_103 : Cond.constantLong R_Argument 56 126 ∈ gw := gm (i := 620) (by decide +kernel) (by decide +kernel)
def f_Argument_isCharacterNumber (t_words : Nat → Int64) (t_minus : Int32) : Option Int32 :=
  (if t_minus = 0 then (if inB (0 : Int32) 8 = true then (if (lg_cmp (t_words (0 : Int32).toNatClampNeg) (1 : Int64)) < 0 then some (0 : Int32) else (if inB (0 : Int32) 8 = true then (if 0 < (lg_cmp (t_words (0 : Int32).toNatClampNeg) (126 : Int64)) then some (0 : Int32) else some (1 : Int32)) else none)) else none) else some (0 : Int32))
set_option maxHeartbeats 4000000 in
set_option maxRecDepth 100000 in
theorem c_Argument_isCharacterNumber (l : Launch) (G : Gt) (K : Nat) (qt : Nat) (qt_words : Nat) (t_words : Nat → Int64) (t_kind : Nat) (t_minus : Int32) (t_bits : Int64) (t_wide : Int32) (t_lowest : Int32) (t_letters : Option Nat) (sz : Nat) (res : Int32)  (hr_t_kind : t_kind < 8) (hf : f_Argument_isCharacterNumber t_words t_minus = some res) : Met l y_Argument_isCharacterNumber (.code y_Argument_isCharacterNumber cd_Argument_isCharacterNumber 1 (some .boolean) :: gw) { frames := 0, cells := 0, slots := 0, locals := 0 } (PC G ([.ref qt] : List Value) sz (w_Argument_become G qt qt_words t_words t_kind t_minus t_bits t_wide t_lowest t_letters)) (QZ G res (va_A (w_Argument_become G qt qt_words t_words t_kind t_minus t_bits t_wide t_lowest t_letters) sz) (w_Argument_become G qt qt_words t_words t_kind t_minus t_bits t_wide t_lowest t_letters)) 0 0 (va_A (w_Argument_become G qt qt_words t_words t_kind t_minus t_bits t_wide t_lowest t_letters) sz) := by
  refine Met.ofW (cc := cd_Argument_isCharacterNumber) (maxL := 1) (ret := (some .boolean)) (by decide) rfl ?_
  intro p e s m args below meth c s₁ B hml hv
  obtain ⟨rfl, hsz, hP, hE, hD0⟩ := hv
  have hx := B.exec
  have hb := B.bytes
  have hr := B.returns
  have hts := atoms_spec (ws := (.code y_Argument_isCharacterNumber cd_Argument_isCharacterNumber 1 (some .boolean) :: gw)) B.pre
  have hg : ∀ w ∈ gw, w.before _ s = true := fun w h => hts w (List.mem_cons_of_mem _ h)
  have hown : s.vm.findClass R_Argument = some m.cls := findClass_of_methodNamed B.named
  have hlocks := B.notSynchronized
  subst hsz
  have hK := hE.K
  have hD := hD0.self (sz := s.heap.size)
  have hAb := hE.ab hD0
  obtain ⟨Q, hQ⟩ : ∃ Q, MQ below (QZ G res (va_A (w_Argument_become G qt qt_words t_words t_kind t_minus t_bits t_wide t_lowest t_letters) s.heap.size) (w_Argument_become G qt qt_words t_words t_kind t_minus t_bits t_wide t_lowest t_letters)) ([.ref qt] : List Value).toArray s 0 0 (va_A (w_Argument_become G qt qt_words t_words t_kind t_minus t_bits t_wide t_lowest t_letters) s.heap.size) = Q := ⟨_, rfl⟩
  show W p l e { frames := 0, cells := 0, slots := 0, locals := 0 } s m ([.ref qt] : List Value).toArray below meth c s.heap [] 0 0 (MQ below (QZ G res (va_A (w_Argument_become G qt qt_words t_words t_kind t_minus t_bits t_wide t_lowest t_letters) s.heap.size) (w_Argument_become G qt qt_words t_words t_kind t_minus t_bits t_wide t_lowest t_letters)) ([.ref qt] : List Value).toArray s 0 0 (va_A (w_Argument_become G qt qt_words t_words t_kind t_minus t_bits t_wide t_lowest t_letters) s.heap.size)) _
  rw [hQ]
  have hA : ∀ q : Nat, s.heap.size ≤ q → va_A (w_Argument_become G qt qt_words t_words t_kind t_minus t_bits t_wide t_lowest t_letters) s.heap.size q := fun q h => Or.inr h
  obtain ⟨A, hAe⟩ : ∃ A, va_A (w_Argument_become G qt qt_words t_words t_kind t_minus t_bits t_wide t_lowest t_letters) s.heap.size = A := ⟨_, rfl⟩
  rw [hAe] at hA hD hAb hQ
  have hS : va_S A s.heap s.heap [] := va_S.rf
  have hl := lv_entry (([.ref qt] : List Value)) (n := 1) (Nat.le_of_ble_eq_true rfl)
  rw [lg_entry_eq]
  generalize (lg_sl (([.ref qt] : List Value)) ++ List.replicate (1 - (lg_sl (([.ref qt] : List Value))).length) Slot.unset).toArray = ls at hl ⊢
  have hl : lv_has ls 1 [(0, .ref qt)] := hl
  unfold f_Argument_isCharacterNumber at hf
  refine lv_aload_n hx hb d_Argument_isCharacterNumber_0 rfl (lv_at hl 0 rfl) ?_
  refine va_get (D := gD G) (ci := 0) (v := .int t_minus) (C := R_Argument) (T := F_Argument) (N := 7) hx hb hg in_Argument hown hK hP 0 rfl rfl 2 (by decide) (hg _ m_92) (fun _ h9 => h9) rfl d_Argument_isCharacterNumber_1 ?_
  refine lv_if_ne (tgt := 35) hx hb d_Argument_isCharacterNumber_4 (by decide) (fun c_4 => ?_) (fun c_4 => ?_)
  · have hf := in_ c_4 hf
    refine lv_iconst (v := 0) hx hb d_Argument_isCharacterNumber_35 (by decide) ?_
    obtain rfl := Option.some.inj hf
    rw [← hQ]
    exact W.zret (v := (0 : Int32)) hx hb hr (bl_n bl_0) (fun t9 ht hW => ⟨⟨(0 : Int32), (), rfl, ⟨rfl, bl_0⟩, ⟨by rw [ht]; exact hP, hD⟩⟩, hS.F ht⟩) hS.2.2 d_Argument_isCharacterNumber_36
  · have hf := ip_ c_4 hf
    refine lv_aload_n hx hb d_Argument_isCharacterNumber_7 rfl (lv_at hl 0 rfl) ?_
    refine va_get (D := gD G) (ci := 0) (v := .ref qt_words) (C := R_Argument) (T := F_Argument) (N := 7) hx hb hg in_Argument hown hK hP 0 rfl rfl 0 (by decide) (hg _ m_86) (fun _ h9 => h9) rfl d_Argument_isCharacterNumber_8 ?_
    refine lv_iconst (v := 0) hx hb d_Argument_isCharacterNumber_11 (by decide) ?_
    obtain ⟨g_12, hf⟩ := gd_ hf
    refine va_lald hx hb hK hP 1 2 rfl rfl (inB_in g_12) d_Argument_isCharacterNumber_12 ?_
    refine lv_lconst (v := 1) hx hb d_Argument_isCharacterNumber_13 (by decide) ?_
    refine W.lcmp hx hb d_Argument_isCharacterNumber_14 ?_
    refine lv_if_lt (tgt := 35) hx hb d_Argument_isCharacterNumber_15 (by decide) (fun c_15 => ?_) (fun c_15 => ?_)
    · have hf := ip_ c_15 hf
      refine lv_iconst (v := 0) hx hb d_Argument_isCharacterNumber_35 (by decide) ?_
      obtain rfl := Option.some.inj hf
      rw [← hQ]
      exact W.zret (v := (0 : Int32)) hx hb hr (bl_n bl_0) (fun t9 ht hW => ⟨⟨(0 : Int32), (), rfl, ⟨rfl, bl_0⟩, ⟨by rw [ht]; exact hP, hD⟩⟩, hS.F ht⟩) hS.2.2 d_Argument_isCharacterNumber_36
    · have hf := in_ c_15 hf
      refine lv_aload_n hx hb d_Argument_isCharacterNumber_18 rfl (lv_at hl 0 rfl) ?_
      refine va_get (D := gD G) (ci := 0) (v := .ref qt_words) (C := R_Argument) (T := F_Argument) (N := 7) hx hb hg in_Argument hown hK hP 0 rfl rfl 0 (by decide) (hg _ m_86) (fun _ h9 => h9) rfl d_Argument_isCharacterNumber_19 ?_
      refine lv_iconst (v := 0) hx hb d_Argument_isCharacterNumber_22 (by decide) ?_
      obtain ⟨g_23, hf⟩ := gd_ hf
      refine va_lald hx hb hK hP 1 2 rfl rfl (inB_in g_23) d_Argument_isCharacterNumber_23 ?_
      refine lv_ldc2 (v := 126) hx hb hown (hg _ m_103) d_Argument_isCharacterNumber_24 ?_
      refine W.lcmp hx hb d_Argument_isCharacterNumber_27 ?_
      refine lv_if_gt (tgt := 35) hx hb d_Argument_isCharacterNumber_28 (by decide) (fun c_28 => ?_) (fun c_28 => ?_)
      · have hf := ip_ c_28 hf
        refine lv_iconst (v := 0) hx hb d_Argument_isCharacterNumber_35 (by decide) ?_
        obtain rfl := Option.some.inj hf
        rw [← hQ]
        exact W.zret (v := (0 : Int32)) hx hb hr (bl_n bl_0) (fun t9 ht hW => ⟨⟨(0 : Int32), (), rfl, ⟨rfl, bl_0⟩, ⟨by rw [ht]; exact hP, hD⟩⟩, hS.F ht⟩) hS.2.2 d_Argument_isCharacterNumber_36
      · have hf := in_ c_28 hf
        refine lv_iconst (v := 1) hx hb d_Argument_isCharacterNumber_31 (by decide) ?_
        refine lv_goto (tgt := 36) hx hb d_Argument_isCharacterNumber_32 (by decide) ?_
        obtain rfl := Option.some.inj hf
        rw [← hQ]
        exact W.zret (v := (1 : Int32)) hx hb hr (bl_n bl_1) (fun t9 ht hW => ⟨⟨(1 : Int32), (), rfl, ⟨rfl, bl_1⟩, ⟨by rw [ht]; exact hP, hD⟩⟩, hS.F ht⟩) hS.2.2 d_Argument_isCharacterNumber_36
theorem d_Argument_isBeyondNumbers_0 : decode cd_Argument_isBeyondNumbers 0 = .ok (.aload_n 0, 1) := by decide +kernel
theorem d_Argument_isBeyondNumbers_1 : decode cd_Argument_isBeyondNumbers 1 = .ok (.getfield 21, 3) := by decide +kernel
theorem d_Argument_isBeyondNumbers_4 : decode cd_Argument_isBeyondNumbers 4 = .ok (.getstatic 49, 3) := by decide +kernel
theorem d_Argument_isBeyondNumbers_7 : decode cd_Argument_isBeyondNumbers 7 = .ok (.if_acmp .ne 20, 3) := by decide +kernel
theorem d_Argument_isBeyondNumbers_10 : decode cd_Argument_isBeyondNumbers 10 = .ok (.aload_n 0, 1) := by decide +kernel
theorem d_Argument_isBeyondNumbers_11 : decode cd_Argument_isBeyondNumbers 11 = .ok (.getfield 34, 3) := by decide +kernel
theorem d_Argument_isBeyondNumbers_14 : decode cd_Argument_isBeyondNumbers 14 = .ok (.invokestatic 65, 3) := by decide +kernel
theorem d_Argument_isBeyondNumbers_17 : decode cd_Argument_isBeyondNumbers 17 = .ok (.sipush 2047, 3) := by decide +kernel
theorem d_Argument_isBeyondNumbers_20 : decode cd_Argument_isBeyondNumbers 20 = .ok (.if_icmp .ne 7, 3) := by decide +kernel
theorem d_Argument_isBeyondNumbers_23 : decode cd_Argument_isBeyondNumbers 23 = .ok (.iconst 1, 1) := by decide +kernel
theorem d_Argument_isBeyondNumbers_24 : decode cd_Argument_isBeyondNumbers 24 = .ok (.goto 4, 3) := by decide +kernel
theorem d_Argument_isBeyondNumbers_27 : decode cd_Argument_isBeyondNumbers 27 = .ok (.iconst 0, 1) := by decide +kernel
theorem d_Argument_isBeyondNumbers_28 : decode cd_Argument_isBeyondNumbers 28 = .ok (.ireturn, 1) := by decide +kernel
theorem m_104 : Cond.methodLink R_Argument 65 y_Hex_exponentBits ∈ gw := gm (i := 667) (by decide +kernel) (by decide +kernel)
def f_Argument_isBeyondNumbers (t_kind : Nat) (t_bits : Int64) : Option Int32 :=
  (if t_kind = 6 then ((f_Hex_exponentBits t_bits).bind fun u_14 => (if u_14 = (2047 : Int32) then some (1 : Int32) else some (0 : Int32))) else some (0 : Int32))
set_option maxHeartbeats 4000000 in
set_option maxRecDepth 100000 in
theorem c_Argument_isBeyondNumbers (l : Launch) (G : Gt) (K : Nat) (qt : Nat) (qt_words : Nat) (t_words : Nat → Int64) (t_kind : Nat) (t_minus : Int32) (t_bits : Int64) (t_wide : Int32) (t_lowest : Int32) (t_letters : Option Nat) (sz : Nat) (res : Int32)  (hr_t_kind : t_kind < 8) (hf : f_Argument_isBeyondNumbers t_kind t_bits = some res) : Met l y_Argument_isBeyondNumbers (.code y_Argument_isBeyondNumbers cd_Argument_isBeyondNumbers 1 (some .boolean) :: gw) { frames := 1, cells := 0, slots := 0, locals := 40 } (PC G ([.ref qt] : List Value) sz (w_Argument_become G qt qt_words t_words t_kind t_minus t_bits t_wide t_lowest t_letters)) (QZ G res (va_A (w_Argument_become G qt qt_words t_words t_kind t_minus t_bits t_wide t_lowest t_letters) sz) (w_Argument_become G qt qt_words t_words t_kind t_minus t_bits t_wide t_lowest t_letters)) 0 0 (va_A (w_Argument_become G qt qt_words t_words t_kind t_minus t_bits t_wide t_lowest t_letters) sz) := by
  refine Met.ofW (cc := cd_Argument_isBeyondNumbers) (maxL := 1) (ret := (some .boolean)) (by decide) rfl ?_
  intro p e s m args below meth c s₁ B hml hv
  obtain ⟨rfl, hsz, hP, hE, hD0⟩ := hv
  have hx := B.exec
  have hb := B.bytes
  have hr := B.returns
  have hts := atoms_spec (ws := (.code y_Argument_isBeyondNumbers cd_Argument_isBeyondNumbers 1 (some .boolean) :: gw)) B.pre
  have hg : ∀ w ∈ gw, w.before _ s = true := fun w h => hts w (List.mem_cons_of_mem _ h)
  have hown : s.vm.findClass R_Argument = some m.cls := findClass_of_methodNamed B.named
  have hlocks := B.notSynchronized
  subst hsz
  have hK := hE.K
  have hD := hD0.self (sz := s.heap.size)
  have hAb := hE.ab hD0
  obtain ⟨Q, hQ⟩ : ∃ Q, MQ below (QZ G res (va_A (w_Argument_become G qt qt_words t_words t_kind t_minus t_bits t_wide t_lowest t_letters) s.heap.size) (w_Argument_become G qt qt_words t_words t_kind t_minus t_bits t_wide t_lowest t_letters)) ([.ref qt] : List Value).toArray s 0 0 (va_A (w_Argument_become G qt qt_words t_words t_kind t_minus t_bits t_wide t_lowest t_letters) s.heap.size) = Q := ⟨_, rfl⟩
  show W p l e { frames := 1, cells := 0, slots := 0, locals := 40 } s m ([.ref qt] : List Value).toArray below meth c s.heap [] 0 0 (MQ below (QZ G res (va_A (w_Argument_become G qt qt_words t_words t_kind t_minus t_bits t_wide t_lowest t_letters) s.heap.size) (w_Argument_become G qt qt_words t_words t_kind t_minus t_bits t_wide t_lowest t_letters)) ([.ref qt] : List Value).toArray s 0 0 (va_A (w_Argument_become G qt qt_words t_words t_kind t_minus t_bits t_wide t_lowest t_letters) s.heap.size)) _
  rw [hQ]
  have hA : ∀ q : Nat, s.heap.size ≤ q → va_A (w_Argument_become G qt qt_words t_words t_kind t_minus t_bits t_wide t_lowest t_letters) s.heap.size q := fun q h => Or.inr h
  obtain ⟨A, hAe⟩ : ∃ A, va_A (w_Argument_become G qt qt_words t_words t_kind t_minus t_bits t_wide t_lowest t_letters) s.heap.size = A := ⟨_, rfl⟩
  rw [hAe] at hA hD hAb hQ
  have hS : va_S A s.heap s.heap [] := va_S.rf
  have hl := lv_entry (([.ref qt] : List Value)) (n := 1) (Nat.le_of_ble_eq_true rfl)
  rw [lg_entry_eq]
  generalize (lg_sl (([.ref qt] : List Value)) ++ List.replicate (1 - (lg_sl (([.ref qt] : List Value))).length) Slot.unset).toArray = ls at hl ⊢
  have hl : lv_has ls 1 [(0, .ref qt)] := hl
  unfold f_Argument_isBeyondNumbers at hf
  refine lv_aload_n hx hb d_Argument_isBeyondNumbers_0 rfl (lv_at hl 0 rfl) ?_
  refine va_get (D := gD G) (ci := 0) (v := .ref (gK G t_kind)) (C := R_Argument) (T := F_Argument) (N := 7) hx hb hg in_Argument hown hK hP 0 rfl rfl 1 (by decide) (hg _ m_91) (fun _ h9 => h9) rfl d_Argument_isBeyondNumbers_1 ?_
  refine va_gets hx hb (hE.kz hAb 6 (by decide)) hS hown (hg _ m_97) (fun _ h9 => h9) d_Argument_isBeyondNumbers_4 ?_
  refine ac_ne hE hr_t_kind (by decide) (tgt := 27) hx hb d_Argument_isBeyondNumbers_7 (by decide) (fun c_7 => ?_) (fun c_7 => ?_)
  · have hf := in_ c_7 hf
    refine lv_iconst (v := 0) hx hb d_Argument_isBeyondNumbers_27 (by decide) ?_
    obtain rfl := Option.some.inj hf
    rw [← hQ]
    exact W.zret (v := (0 : Int32)) hx hb hr (bl_n bl_0) (fun t9 ht hW => ⟨⟨(0 : Int32), (), rfl, ⟨rfl, bl_0⟩, ⟨by rw [ht]; exact hP, hD⟩⟩, hS.F ht⟩) hS.2.2 d_Argument_isBeyondNumbers_28
  · have hf := ip_ c_7 hf
    refine lv_aload_n hx hb d_Argument_isBeyondNumbers_10 rfl (lv_at hl 0 rfl) ?_
    refine va_get (D := gD G) (ci := 0) (v := .long t_bits) (C := R_Argument) (T := F_Argument) (N := 7) hx hb hg in_Argument hown hK hP 0 rfl rfl 3 (by decide) (hg _ m_93) (fun _ h9 => h9) rfl d_Argument_isBeyondNumbers_11 ?_
    obtain ⟨u_14, hu_14, hf⟩ := bd_ hf
    refine CALLi (va_runS (As := [.long t_bits]) (rest := []) ⟨hx, hb, hml, hown, hg⟩ (c_Hex_exponentBits l G K t_bits _ u_14  hu_14) (va_cwS 1 hg (gS m_104 m_80 m_81 m_82) rfl rfl rfl (by decide +kernel) ⟨Nat.le_of_ble_eq_true rfl, Nat.le_of_ble_eq_true rfl⟩) ⟨PC_b, PC_p hE hS hAb (hP.sub [] rfl) (hD.sub [] (by decide) rfl)⟩ rfl rfl hl.1 rfl (lv_room (Nat.le_of_ble_eq_true rfl)) d_Argument_isBeyondNumbers_14 ⟨Nat.zero_le _, Nat.zero_le _⟩) hP hD hS hA [] rfl rfl rfl (fun H locs hP hD hS => ?_)
    have hP : va_P (gD G) vwCl (w_Argument_become G qt qt_words t_words t_kind t_minus t_bits t_wide t_lowest t_letters) H := hP
    have hD : va_D A (w_Argument_become G qt qt_words t_words t_kind t_minus t_bits t_wide t_lowest t_letters) := hD
    refine lv_sipush (v := 2047) hx hb d_Argument_isBeyondNumbers_17 (by decide) ?_
    refine lv_icmp_ne (tgt := 27) hx hb d_Argument_isBeyondNumbers_20 (by decide) (fun c_20 => ?_) (fun c_20 => ?_)
    · have hf := in_ c_20 hf
      refine lv_iconst (v := 0) hx hb d_Argument_isBeyondNumbers_27 (by decide) ?_
      obtain rfl := Option.some.inj hf
      rw [← hQ]
      exact W.zret (v := (0 : Int32)) hx hb hr (bl_n bl_0) (fun t9 ht hW => ⟨⟨(0 : Int32), (), rfl, ⟨rfl, bl_0⟩, ⟨by rw [ht]; exact hP, hD⟩⟩, hS.F ht⟩) hS.2.2 d_Argument_isBeyondNumbers_28
    · have hf := ip_ c_20 hf
      refine lv_iconst (v := 1) hx hb d_Argument_isBeyondNumbers_23 (by decide) ?_
      refine lv_goto (tgt := 28) hx hb d_Argument_isBeyondNumbers_24 (by decide) ?_
      obtain rfl := Option.some.inj hf
      rw [← hQ]
      exact W.zret (v := (1 : Int32)) hx hb hr (bl_n bl_1) (fun t9 ht hW => ⟨⟨(1 : Int32), (), rfl, ⟨rfl, bl_1⟩, ⟨by rw [ht]; exact hP, hD⟩⟩, hS.F ht⟩) hS.2.2 d_Argument_isBeyondNumbers_28
theorem d_Argument_isNoNumber_0 : decode cd_Argument_isNoNumber 0 = .ok (.aload_n 0, 1) := by decide +kernel
theorem d_Argument_isNoNumber_1 : decode cd_Argument_isNoNumber 1 = .ok (.invokevirtual 58, 3) := by decide +kernel
theorem d_Argument_isNoNumber_4 : decode cd_Argument_isNoNumber 4 = .ok (.ifCond .eq 20, 3) := by decide +kernel
theorem d_Argument_isNoNumber_7 : decode cd_Argument_isNoNumber 7 = .ok (.aload_n 0, 1) := by decide +kernel
theorem d_Argument_isNoNumber_8 : decode cd_Argument_isNoNumber 8 = .ok (.getfield 34, 3) := by decide +kernel
theorem d_Argument_isNoNumber_11 : decode cd_Argument_isNoNumber 11 = .ok (.ldc2_w 63, 3) := by decide +kernel
theorem d_Argument_isNoNumber_14 : decode cd_Argument_isNoNumber 14 = .ok (.land, 1) := by decide +kernel
theorem d_Argument_isNoNumber_15 : decode cd_Argument_isNoNumber 15 = .ok (.lconst 0, 1) := by decide +kernel
theorem d_Argument_isNoNumber_16 : decode cd_Argument_isNoNumber 16 = .ok (.lcmp, 1) := by decide +kernel
theorem d_Argument_isNoNumber_17 : decode cd_Argument_isNoNumber 17 = .ok (.ifCond .eq 7, 3) := by decide +kernel
theorem d_Argument_isNoNumber_20 : decode cd_Argument_isNoNumber 20 = .ok (.iconst 1, 1) := by decide +kernel
theorem d_Argument_isNoNumber_21 : decode cd_Argument_isNoNumber 21 = .ok (.goto 4, 3) := by decide +kernel
theorem d_Argument_isNoNumber_24 : decode cd_Argument_isNoNumber 24 = .ok (.iconst 0, 1) := by decide +kernel
theorem d_Argument_isNoNumber_25 : decode cd_Argument_isNoNumber 25 = .ok (.ireturn, 1) := by decide +kernel
theorem m_105 : Cond.methodLink R_Argument 58 y_Argument_isBeyondNumbers ∈ gw := gm (i := 662) (by decide +kernel) (by decide +kernel)
theorem m_106 : Cond.instanceMethod y_Argument_isBeyondNumbers ∈ gw := gm (i := 663) (by decide +kernel) (by decide +kernel)
theorem m_107 : Cond.selects R_Argument y_Argument_isBeyondNumbers y_Argument_isBeyondNumbers ∈ gw := gm (i := 664) (by decide +kernel) (by decide +kernel)
set_option maxRecDepth 100000 in
theorem m_108 : Cond.code y_Argument_isBeyondNumbers cd_Argument_isBeyondNumbers 1 (some .boolean) ∈ gw := gm (i := 665) rfl rfl
theorem m_109 : Cond.constantLong R_Argument 63 4503599627370495 ∈ gw := gm (i := 670) (by decide +kernel) (by decide +kernel)
def f_Argument_isNoNumber (t_kind : Nat) (t_bits : Int64) : Option Int32 :=
  ((f_Argument_isBeyondNumbers t_kind t_bits).bind fun u_1 => (if u_1 = 0 then some (0 : Int32) else (if (lg_cmp (t_bits &&& (4503599627370495 : Int64)) (0 : Int64)) = 0 then some (0 : Int32) else some (1 : Int32))))
set_option maxHeartbeats 4000000 in
set_option maxRecDepth 100000 in
theorem c_Argument_isNoNumber (l : Launch) (G : Gt) (K : Nat) (qt : Nat) (qt_words : Nat) (t_words : Nat → Int64) (t_kind : Nat) (t_minus : Int32) (t_bits : Int64) (t_wide : Int32) (t_lowest : Int32) (t_letters : Option Nat) (sz : Nat) (res : Int32)  (hr_t_kind : t_kind < 8) (hf : f_Argument_isNoNumber t_kind t_bits = some res) : Met l y_Argument_isNoNumber (.code y_Argument_isNoNumber cd_Argument_isNoNumber 1 (some .boolean) :: gw) { frames := 2, cells := 0, slots := 0, locals := 80 } (PC G ([.ref qt] : List Value) sz (w_Argument_become G qt qt_words t_words t_kind t_minus t_bits t_wide t_lowest t_letters)) (QZ G res (va_A (w_Argument_become G qt qt_words t_words t_kind t_minus t_bits t_wide t_lowest t_letters) sz) (w_Argument_become G qt qt_words t_words t_kind t_minus t_bits t_wide t_lowest t_letters)) 0 0 (va_A (w_Argument_become G qt qt_words t_words t_kind t_minus t_bits t_wide t_lowest t_letters) sz) := by
  refine Met.ofW (cc := cd_Argument_isNoNumber) (maxL := 1) (ret := (some .boolean)) (by decide) rfl ?_
  intro p e s m args below meth c s₁ B hml hv
  obtain ⟨rfl, hsz, hP, hE, hD0⟩ := hv
  have hx := B.exec
  have hb := B.bytes
  have hr := B.returns
  have hts := atoms_spec (ws := (.code y_Argument_isNoNumber cd_Argument_isNoNumber 1 (some .boolean) :: gw)) B.pre
  have hg : ∀ w ∈ gw, w.before _ s = true := fun w h => hts w (List.mem_cons_of_mem _ h)
  have hown : s.vm.findClass R_Argument = some m.cls := findClass_of_methodNamed B.named
  have hlocks := B.notSynchronized
  subst hsz
  have hK := hE.K
  have hD := hD0.self (sz := s.heap.size)
  have hAb := hE.ab hD0
  obtain ⟨Q, hQ⟩ : ∃ Q, MQ below (QZ G res (va_A (w_Argument_become G qt qt_words t_words t_kind t_minus t_bits t_wide t_lowest t_letters) s.heap.size) (w_Argument_become G qt qt_words t_words t_kind t_minus t_bits t_wide t_lowest t_letters)) ([.ref qt] : List Value).toArray s 0 0 (va_A (w_Argument_become G qt qt_words t_words t_kind t_minus t_bits t_wide t_lowest t_letters) s.heap.size) = Q := ⟨_, rfl⟩
  show W p l e { frames := 2, cells := 0, slots := 0, locals := 80 } s m ([.ref qt] : List Value).toArray below meth c s.heap [] 0 0 (MQ below (QZ G res (va_A (w_Argument_become G qt qt_words t_words t_kind t_minus t_bits t_wide t_lowest t_letters) s.heap.size) (w_Argument_become G qt qt_words t_words t_kind t_minus t_bits t_wide t_lowest t_letters)) ([.ref qt] : List Value).toArray s 0 0 (va_A (w_Argument_become G qt qt_words t_words t_kind t_minus t_bits t_wide t_lowest t_letters) s.heap.size)) _
  rw [hQ]
  have hA : ∀ q : Nat, s.heap.size ≤ q → va_A (w_Argument_become G qt qt_words t_words t_kind t_minus t_bits t_wide t_lowest t_letters) s.heap.size q := fun q h => Or.inr h
  obtain ⟨A, hAe⟩ : ∃ A, va_A (w_Argument_become G qt qt_words t_words t_kind t_minus t_bits t_wide t_lowest t_letters) s.heap.size = A := ⟨_, rfl⟩
  rw [hAe] at hA hD hAb hQ
  have hS : va_S A s.heap s.heap [] := va_S.rf
  have hl := lv_entry (([.ref qt] : List Value)) (n := 1) (Nat.le_of_ble_eq_true rfl)
  rw [lg_entry_eq]
  generalize (lg_sl (([.ref qt] : List Value)) ++ List.replicate (1 - (lg_sl (([.ref qt] : List Value))).length) Slot.unset).toArray = ls at hl ⊢
  have hl : lv_has ls 1 [(0, .ref qt)] := hl
  unfold f_Argument_isNoNumber at hf
  refine lv_aload_n hx hb d_Argument_isNoNumber_0 rfl (lv_at hl 0 rfl) ?_
  obtain ⟨u_1, hu_1, hf⟩ := bd_ hf
  refine CALLWz (va_runV (As := []) (rest := []) ⟨hx, hb, hml, hown, hg⟩ (c_Argument_isBeyondNumbers l G K qt qt_words t_words t_kind t_minus t_bits t_wide t_lowest t_letters _ u_1 hr_t_kind hu_1) (cwV 0 hg (gV m_105 m_106 m_107 m_101 m_108) rfl rfl rfl (by decide +kernel) ⟨Nat.le_of_ble_eq_true rfl, Nat.le_of_ble_eq_true rfl⟩) ⟨PC_b, va_recv hK hP (ci := 0) (q0 := 0) rfl rfl, PC_p hE hS hAb hP hD⟩ rfl rfl hl.1 rfl (lv_room (Nat.le_of_ble_eq_true rfl)) d_Argument_isNoNumber_1 ⟨Nat.zero_le _, Nat.zero_le _⟩) hP hD hS hA (fun bu_1 H locs hP hD hS => ?_)
  have hP : va_P (gD G) vwCl (w_Argument_become G qt qt_words t_words t_kind t_minus t_bits t_wide t_lowest t_letters) H := hP
  have hD : va_D A (w_Argument_become G qt qt_words t_words t_kind t_minus t_bits t_wide t_lowest t_letters) := hD
  refine lv_if_eq (tgt := 24) hx hb d_Argument_isNoNumber_4 (by decide) (fun c_4 => ?_) (fun c_4 => ?_)
  · have hf := ip_ c_4 hf
    refine lv_iconst (v := 0) hx hb d_Argument_isNoNumber_24 (by decide) ?_
    obtain rfl := Option.some.inj hf
    rw [← hQ]
    exact W.zret (v := (0 : Int32)) hx hb hr (bl_n bl_0) (fun t9 ht hW => ⟨⟨(0 : Int32), (), rfl, ⟨rfl, bl_0⟩, ⟨by rw [ht]; exact hP, hD⟩⟩, hS.F ht⟩) hS.2.2 d_Argument_isNoNumber_25
  · have hf := in_ c_4 hf
    refine lv_aload_n hx hb d_Argument_isNoNumber_7 rfl (lv_at hl 0 rfl) ?_
    refine va_get (D := gD G) (ci := 0) (v := .long t_bits) (C := R_Argument) (T := F_Argument) (N := 7) hx hb hg in_Argument hown hK hP 0 rfl rfl 3 (by decide) (hg _ m_93) (fun _ h9 => h9) rfl d_Argument_isNoNumber_8 ?_
    refine lv_ldc2 (v := 4503599627370495) hx hb hown (hg _ m_109) d_Argument_isNoNumber_11 ?_
    refine lv_land hx hb d_Argument_isNoNumber_14 ?_
    refine lv_lconst (v := 0) hx hb d_Argument_isNoNumber_15 (by decide) ?_
    refine W.lcmp hx hb d_Argument_isNoNumber_16 ?_
    refine lv_if_eq (tgt := 24) hx hb d_Argument_isNoNumber_17 (by decide) (fun c_17 => ?_) (fun c_17 => ?_)
    · have hf := ip_ c_17 hf
      refine lv_iconst (v := 0) hx hb d_Argument_isNoNumber_24 (by decide) ?_
      obtain rfl := Option.some.inj hf
      rw [← hQ]
      exact W.zret (v := (0 : Int32)) hx hb hr (bl_n bl_0) (fun t9 ht hW => ⟨⟨(0 : Int32), (), rfl, ⟨rfl, bl_0⟩, ⟨by rw [ht]; exact hP, hD⟩⟩, hS.F ht⟩) hS.2.2 d_Argument_isNoNumber_25
    · have hf := in_ c_17 hf
      refine lv_iconst (v := 1) hx hb d_Argument_isNoNumber_20 (by decide) ?_
      refine lv_goto (tgt := 25) hx hb d_Argument_isNoNumber_21 (by decide) ?_
      obtain rfl := Option.some.inj hf
      rw [← hQ]
      exact W.zret (v := (1 : Int32)) hx hb hr (bl_n bl_1) (fun t9 ht hW => ⟨⟨(1 : Int32), (), rfl, ⟨rfl, bl_1⟩, ⟨by rw [ht]; exact hP, hD⟩⟩, hS.F ht⟩) hS.2.2 d_Argument_isNoNumber_25
end
section
theorem d_Specifier_hasAny_0 : decode cd_Specifier_hasAny 0 = .ok (.aload_n 0, 1) := by decide +kernel
theorem d_Specifier_hasAny_1 : decode cd_Specifier_hasAny 1 = .ok (.getfield 13, 3) := by decide +kernel
theorem d_Specifier_hasAny_4 : decode cd_Specifier_hasAny 4 = .ok (.iload_n 1, 1) := by decide +kernel
theorem d_Specifier_hasAny_5 : decode cd_Specifier_hasAny 5 = .ok (.iand, 1) := by decide +kernel
theorem d_Specifier_hasAny_6 : decode cd_Specifier_hasAny 6 = .ok (.ifCond .eq 7, 3) := by decide +kernel
theorem d_Specifier_hasAny_9 : decode cd_Specifier_hasAny 9 = .ok (.iconst 1, 1) := by decide +kernel
theorem d_Specifier_hasAny_10 : decode cd_Specifier_hasAny 10 = .ok (.goto 4, 3) := by decide +kernel
theorem d_Specifier_hasAny_13 : decode cd_Specifier_hasAny 13 = .ok (.iconst 0, 1) := by decide +kernel
theorem d_Specifier_hasAny_14 : decode cd_Specifier_hasAny 14 = .ok (.ireturn, 1) := by decide +kernel
theorem m_110 : Cond.fieldLink R_Specifier 13 "SpecifierDesk$Specifier" "flags" "I" ∈ gw := gm (i := 140) (by decide +kernel) (by decide +kernel)
def f_Specifier_hasAny (t_flags : Int32) (a1 : Int32) : Option Int32 :=
  (if (t_flags &&& a1) = 0 then some (0 : Int32) else some (1 : Int32))
abbrev w_Specifier_hasAny (G : Gt) (qt : Nat) (t_index : Int32) (t_flags : Int32) (t_width : Int32) (t_precision : Int32) (t_conversion : Int32) (t_great : Int32) (t_known : Int32) (t_cutOff : Int32) (t_flagTwice : Int32) (t_last : Int32) : va_W := [(qt, .inr (5, [.int t_index, .int t_flags, .int t_width, .int t_precision, .int t_conversion, .int t_great, .int t_known, .int t_cutOff, .int t_flagTwice, .int t_last]))]
set_option maxHeartbeats 4000000 in
set_option maxRecDepth 100000 in
theorem c_Specifier_hasAny (l : Launch) (G : Gt) (K : Nat) (qt : Nat) (t_index : Int32) (t_flags : Int32) (t_width : Int32) (t_precision : Int32) (t_conversion : Int32) (t_great : Int32) (t_known : Int32) (t_cutOff : Int32) (t_flagTwice : Int32) (t_last : Int32) (a1 : Int32) (sz : Nat) (res : Int32)   (hf : f_Specifier_hasAny t_flags a1 = some res) : Met l y_Specifier_hasAny (.code y_Specifier_hasAny cd_Specifier_hasAny 2 (some .boolean) :: gw) { frames := 0, cells := 0, slots := 0, locals := 0 } (PC G ([.ref qt, .int a1] : List Value) sz (w_Specifier_hasAny G qt t_index t_flags t_width t_precision t_conversion t_great t_known t_cutOff t_flagTwice t_last)) (QZ G res (va_A (w_Specifier_hasAny G qt t_index t_flags t_width t_precision t_conversion t_great t_known t_cutOff t_flagTwice t_last) sz) (w_Specifier_hasAny G qt t_index t_flags t_width t_precision t_conversion t_great t_known t_cutOff t_flagTwice t_last)) 0 0 (va_A (w_Specifier_hasAny G qt t_index t_flags t_width t_precision t_conversion t_great t_known t_cutOff t_flagTwice t_last) sz) := by
  refine Met.ofW (cc := cd_Specifier_hasAny) (maxL := 2) (ret := (some .boolean)) (by decide) rfl ?_
  intro p e s m args below meth c s₁ B hml hv
  obtain ⟨rfl, hsz, hP, hE, hD0⟩ := hv
  have hx := B.exec
  have hb := B.bytes
  have hr := B.returns
  have hts := atoms_spec (ws := (.code y_Specifier_hasAny cd_Specifier_hasAny 2 (some .boolean) :: gw)) B.pre
  have hg : ∀ w ∈ gw, w.before _ s = true := fun w h => hts w (List.mem_cons_of_mem _ h)
  have hown : s.vm.findClass R_Specifier = some m.cls := findClass_of_methodNamed B.named
  have hlocks := B.notSynchronized
  subst hsz
  have hK := hE.K
  have hD := hD0.self (sz := s.heap.size)
  have hAb := hE.ab hD0
  obtain ⟨Q, hQ⟩ : ∃ Q, MQ below (QZ G res (va_A (w_Specifier_hasAny G qt t_index t_flags t_width t_precision t_conversion t_great t_known t_cutOff t_flagTwice t_last) s.heap.size) (w_Specifier_hasAny G qt t_index t_flags t_width t_precision t_conversion t_great t_known t_cutOff t_flagTwice t_last)) ([.ref qt, .int a1] : List Value).toArray s 0 0 (va_A (w_Specifier_hasAny G qt t_index t_flags t_width t_precision t_conversion t_great t_known t_cutOff t_flagTwice t_last) s.heap.size) = Q := ⟨_, rfl⟩
  show W p l e { frames := 0, cells := 0, slots := 0, locals := 0 } s m ([.ref qt, .int a1] : List Value).toArray below meth c s.heap [] 0 0 (MQ below (QZ G res (va_A (w_Specifier_hasAny G qt t_index t_flags t_width t_precision t_conversion t_great t_known t_cutOff t_flagTwice t_last) s.heap.size) (w_Specifier_hasAny G qt t_index t_flags t_width t_precision t_conversion t_great t_known t_cutOff t_flagTwice t_last)) ([.ref qt, .int a1] : List Value).toArray s 0 0 (va_A (w_Specifier_hasAny G qt t_index t_flags t_width t_precision t_conversion t_great t_known t_cutOff t_flagTwice t_last) s.heap.size)) _
  rw [hQ]
  have hA : ∀ q : Nat, s.heap.size ≤ q → va_A (w_Specifier_hasAny G qt t_index t_flags t_width t_precision t_conversion t_great t_known t_cutOff t_flagTwice t_last) s.heap.size q := fun q h => Or.inr h
  obtain ⟨A, hAe⟩ : ∃ A, va_A (w_Specifier_hasAny G qt t_index t_flags t_width t_precision t_conversion t_great t_known t_cutOff t_flagTwice t_last) s.heap.size = A := ⟨_, rfl⟩
  rw [hAe] at hA hD hAb hQ
  have hS : va_S A s.heap s.heap [] := va_S.rf
  have hl := lv_entry (([.ref qt, .int a1] : List Value)) (n := 2) (Nat.le_of_ble_eq_true rfl)
  rw [lg_entry_eq]
  generalize (lg_sl (([.ref qt, .int a1] : List Value)) ++ List.replicate (2 - (lg_sl (([.ref qt, .int a1] : List Value))).length) Slot.unset).toArray = ls at hl ⊢
  have hl : lv_has ls 2 [(0, .ref qt), (1, .int a1)] := hl
  unfold f_Specifier_hasAny at hf
  refine lv_aload_n hx hb d_Specifier_hasAny_0 rfl (lv_at hl 0 rfl) ?_
  refine va_get (D := gD G) (ci := 5) (v := .int t_flags) (C := R_Specifier) (T := F_Specifier) (N := 10) hx hb hg in_Specifier hown hK hP 0 rfl rfl 1 (by decide) (hg _ m_110) (fun _ h9 => h9) rfl d_Specifier_hasAny_1 ?_
  refine lv_iload_n hx hb d_Specifier_hasAny_4 rfl (lv_at hl 1 rfl) ?_
  refine lv_iand hx hb d_Specifier_hasAny_5 ?_
  refine lv_if_eq (tgt := 13) hx hb d_Specifier_hasAny_6 (by decide) (fun c_6 => ?_) (fun c_6 => ?_)
  · have hf := ip_ c_6 hf
    refine lv_iconst (v := 0) hx hb d_Specifier_hasAny_13 (by decide) ?_
    obtain rfl := Option.some.inj hf
    rw [← hQ]
    exact W.zret (v := (0 : Int32)) hx hb hr (bl_n bl_0) (fun t9 ht hW => ⟨⟨(0 : Int32), (), rfl, ⟨rfl, bl_0⟩, ⟨by rw [ht]; exact hP, hD⟩⟩, hS.F ht⟩) hS.2.2 d_Specifier_hasAny_14
  · have hf := in_ c_6 hf
    refine lv_iconst (v := 1) hx hb d_Specifier_hasAny_9 (by decide) ?_
    refine lv_goto (tgt := 14) hx hb d_Specifier_hasAny_10 (by decide) ?_
    obtain rfl := Option.some.inj hf
    rw [← hQ]
    exact W.zret (v := (1 : Int32)) hx hb hr (bl_n bl_1) (fun t9 ht hW => ⟨⟨(1 : Int32), (), rfl, ⟨rfl, bl_1⟩, ⟨by rw [ht]; exact hP, hD⟩⟩, hS.F ht⟩) hS.2.2 d_Specifier_hasAny_14
theorem d_Specifier_hasBoth_0 : decode cd_Specifier_hasBoth 0 = .ok (.aload_n 0, 1) := by decide +kernel
theorem d_Specifier_hasBoth_1 : decode cd_Specifier_hasBoth 1 = .ok (.iload_n 1, 1) := by decide +kernel
theorem d_Specifier_hasBoth_2 : decode cd_Specifier_hasBoth 2 = .ok (.invokevirtual 56, 3) := by decide +kernel
theorem d_Specifier_hasBoth_5 : decode cd_Specifier_hasBoth 5 = .ok (.ifCond .eq 15, 3) := by decide +kernel
theorem d_Specifier_hasBoth_8 : decode cd_Specifier_hasBoth 8 = .ok (.aload_n 0, 1) := by decide +kernel
theorem d_Specifier_hasBoth_9 : decode cd_Specifier_hasBoth 9 = .ok (.iload_n 2, 1) := by decide +kernel
theorem d_Specifier_hasBoth_10 : decode cd_Specifier_hasBoth 10 = .ok (.invokevirtual 56, 3) := by decide +kernel
theorem d_Specifier_hasBoth_13 : decode cd_Specifier_hasBoth 13 = .ok (.ifCond .eq 7, 3) := by decide +kernel
theorem d_Specifier_hasBoth_16 : decode cd_Specifier_hasBoth 16 = .ok (.iconst 1, 1) := by decide +kernel
theorem d_Specifier_hasBoth_17 : decode cd_Specifier_hasBoth 17 = .ok (.goto 4, 3) := by decide +kernel
theorem d_Specifier_hasBoth_20 : decode cd_Specifier_hasBoth 20 = .ok (.iconst 0, 1) := by decide +kernel
theorem d_Specifier_hasBoth_21 : decode cd_Specifier_hasBoth 21 = .ok (.ireturn, 1) := by decide +kernel
theorem m_111 : Cond.methodLink R_Specifier 56 y_Specifier_hasAny ∈ gw := gm (i := 451) (by decide +kernel) (by decide +kernel)
theorem m_112 : Cond.instanceMethod y_Specifier_hasAny ∈ gw := gm (i := 452) (by decide +kernel) (by decide +kernel)
theorem m_113 : Cond.selects R_Specifier y_Specifier_hasAny y_Specifier_hasAny ∈ gw := gm (i := 453) (by decide +kernel) (by decide +kernel)
theorem m_114 : Cond.initialized R_Specifier ∈ gw := gm (i := 85) (by decide +kernel) (by decide +kernel)
set_option maxRecDepth 100000 in
theorem m_115 : Cond.code y_Specifier_hasAny cd_Specifier_hasAny 2 (some .boolean) ∈ gw := gm (i := 454) rfl rfl
def f_Specifier_hasBoth (t_flags : Int32) (a1 : Int32) (a2 : Int32) : Option Int32 :=
  ((f_Specifier_hasAny t_flags a1).bind fun u_2 => (if u_2 = 0 then some (0 : Int32) else ((f_Specifier_hasAny t_flags a2).bind fun u_10 => (if u_10 = 0 then some (0 : Int32) else some (1 : Int32)))))
set_option maxHeartbeats 4000000 in
set_option maxRecDepth 100000 in
theorem c_Specifier_hasBoth (l : Launch) (G : Gt) (K : Nat) (qt : Nat) (t_index : Int32) (t_flags : Int32) (t_width : Int32) (t_precision : Int32) (t_conversion : Int32) (t_great : Int32) (t_known : Int32) (t_cutOff : Int32) (t_flagTwice : Int32) (t_last : Int32) (a1 : Int32) (a2 : Int32) (sz : Nat) (res : Int32)   (hf : f_Specifier_hasBoth t_flags a1 a2 = some res) : Met l y_Specifier_hasBoth (.code y_Specifier_hasBoth cd_Specifier_hasBoth 3 (some .boolean) :: gw) { frames := 1, cells := 0, slots := 0, locals := 40 } (PC G ([.ref qt, .int a1, .int a2] : List Value) sz (w_Specifier_hasAny G qt t_index t_flags t_width t_precision t_conversion t_great t_known t_cutOff t_flagTwice t_last)) (QZ G res (va_A (w_Specifier_hasAny G qt t_index t_flags t_width t_precision t_conversion t_great t_known t_cutOff t_flagTwice t_last) sz) (w_Specifier_hasAny G qt t_index t_flags t_width t_precision t_conversion t_great t_known t_cutOff t_flagTwice t_last)) 0 0 (va_A (w_Specifier_hasAny G qt t_index t_flags t_width t_precision t_conversion t_great t_known t_cutOff t_flagTwice t_last) sz) := by
  refine Met.ofW (cc := cd_Specifier_hasBoth) (maxL := 3) (ret := (some .boolean)) (by decide) rfl ?_
  intro p e s m args below meth c s₁ B hml hv
  obtain ⟨rfl, hsz, hP, hE, hD0⟩ := hv
  have hx := B.exec
  have hb := B.bytes
  have hr := B.returns
  have hts := atoms_spec (ws := (.code y_Specifier_hasBoth cd_Specifier_hasBoth 3 (some .boolean) :: gw)) B.pre
  have hg : ∀ w ∈ gw, w.before _ s = true := fun w h => hts w (List.mem_cons_of_mem _ h)
  have hown : s.vm.findClass R_Specifier = some m.cls := findClass_of_methodNamed B.named
  have hlocks := B.notSynchronized
  subst hsz
  have hK := hE.K
  have hD := hD0.self (sz := s.heap.size)
  have hAb := hE.ab hD0
  obtain ⟨Q, hQ⟩ : ∃ Q, MQ below (QZ G res (va_A (w_Specifier_hasAny G qt t_index t_flags t_width t_precision t_conversion t_great t_known t_cutOff t_flagTwice t_last) s.heap.size) (w_Specifier_hasAny G qt t_index t_flags t_width t_precision t_conversion t_great t_known t_cutOff t_flagTwice t_last)) ([.ref qt, .int a1, .int a2] : List Value).toArray s 0 0 (va_A (w_Specifier_hasAny G qt t_index t_flags t_width t_precision t_conversion t_great t_known t_cutOff t_flagTwice t_last) s.heap.size) = Q := ⟨_, rfl⟩
  show W p l e { frames := 1, cells := 0, slots := 0, locals := 40 } s m ([.ref qt, .int a1, .int a2] : List Value).toArray below meth c s.heap [] 0 0 (MQ below (QZ G res (va_A (w_Specifier_hasAny G qt t_index t_flags t_width t_precision t_conversion t_great t_known t_cutOff t_flagTwice t_last) s.heap.size) (w_Specifier_hasAny G qt t_index t_flags t_width t_precision t_conversion t_great t_known t_cutOff t_flagTwice t_last)) ([.ref qt, .int a1, .int a2] : List Value).toArray s 0 0 (va_A (w_Specifier_hasAny G qt t_index t_flags t_width t_precision t_conversion t_great t_known t_cutOff t_flagTwice t_last) s.heap.size)) _
  rw [hQ]
  have hA : ∀ q : Nat, s.heap.size ≤ q → va_A (w_Specifier_hasAny G qt t_index t_flags t_width t_precision t_conversion t_great t_known t_cutOff t_flagTwice t_last) s.heap.size q := fun q h => Or.inr h
  obtain ⟨A, hAe⟩ : ∃ A, va_A (w_Specifier_hasAny G qt t_index t_flags t_width t_precision t_conversion t_great t_known t_cutOff t_flagTwice t_last) s.heap.size = A := ⟨_, rfl⟩
  rw [hAe] at hA hD hAb hQ
  have hS : va_S A s.heap s.heap [] := va_S.rf
  have hl := lv_entry (([.ref qt, .int a1, .int a2] : List Value)) (n := 3) (Nat.le_of_ble_eq_true rfl)
  rw [lg_entry_eq]
  generalize (lg_sl (([.ref qt, .int a1, .int a2] : List Value)) ++ List.replicate (3 - (lg_sl (([.ref qt, .int a1, .int a2] : List Value))).length) Slot.unset).toArray = ls at hl ⊢
  have hl : lv_has ls 3 [(0, .ref qt), (1, .int a1), (2, .int a2)] := hl
  unfold f_Specifier_hasBoth at hf
  refine lv_aload_n hx hb d_Specifier_hasBoth_0 rfl (lv_at hl 0 rfl) ?_
  refine lv_iload_n hx hb d_Specifier_hasBoth_1 rfl (lv_at hl 1 rfl) ?_
  obtain ⟨u_2, hu_2, hf⟩ := bd_ hf
  refine CALLWz (va_runV (As := [.int a1]) (rest := []) ⟨hx, hb, hml, hown, hg⟩ (c_Specifier_hasAny l G K qt t_index t_flags t_width t_precision t_conversion t_great t_known t_cutOff t_flagTwice t_last a1 _ u_2  hu_2) (cwV 1 hg (gV m_111 m_112 m_113 m_114 m_115) rfl rfl rfl (by decide +kernel) ⟨Nat.le_of_ble_eq_true rfl, Nat.le_of_ble_eq_true rfl⟩) ⟨PC_b, va_recv hK hP (ci := 5) (q0 := 0) rfl rfl, PC_p hE hS hAb hP hD⟩ rfl rfl hl.1 rfl (lv_room (Nat.le_of_ble_eq_true rfl)) d_Specifier_hasBoth_2 ⟨Nat.zero_le _, Nat.zero_le _⟩) hP hD hS hA (fun bu_2 H locs hP hD hS => ?_)
  have hP : va_P (gD G) vwCl (w_Specifier_hasAny G qt t_index t_flags t_width t_precision t_conversion t_great t_known t_cutOff t_flagTwice t_last) H := hP
  have hD : va_D A (w_Specifier_hasAny G qt t_index t_flags t_width t_precision t_conversion t_great t_known t_cutOff t_flagTwice t_last) := hD
  refine lv_if_eq (tgt := 20) hx hb d_Specifier_hasBoth_5 (by decide) (fun c_5 => ?_) (fun c_5 => ?_)
  · have hf := ip_ c_5 hf
    refine lv_iconst (v := 0) hx hb d_Specifier_hasBoth_20 (by decide) ?_
    obtain rfl := Option.some.inj hf
    rw [← hQ]
    exact W.zret (v := (0 : Int32)) hx hb hr (bl_n bl_0) (fun t9 ht hW => ⟨⟨(0 : Int32), (), rfl, ⟨rfl, bl_0⟩, ⟨by rw [ht]; exact hP, hD⟩⟩, hS.F ht⟩) hS.2.2 d_Specifier_hasBoth_21
  · have hf := in_ c_5 hf
    refine lv_aload_n hx hb d_Specifier_hasBoth_8 rfl (lv_at hl 0 rfl) ?_
    refine lv_iload_n hx hb d_Specifier_hasBoth_9 rfl (lv_at hl 2 rfl) ?_
    obtain ⟨u_10, hu_10, hf⟩ := bd_ hf
    refine CALLWz (va_runV (As := [.int a2]) (rest := []) ⟨hx, hb, hml, hown, hg⟩ (c_Specifier_hasAny l G K qt t_index t_flags t_width t_precision t_conversion t_great t_known t_cutOff t_flagTwice t_last a2 _ u_10  hu_10) (cwV 1 hg (gV m_111 m_112 m_113 m_114 m_115) rfl rfl rfl (by decide +kernel) ⟨Nat.le_of_ble_eq_true rfl, Nat.le_of_ble_eq_true rfl⟩) ⟨PC_b, va_recv hK hP (ci := 5) (q0 := 0) rfl rfl, PC_p hE hS hAb hP hD⟩ rfl rfl hl.1 rfl (lv_room (Nat.le_of_ble_eq_true rfl)) d_Specifier_hasBoth_10 ⟨Nat.zero_le _, Nat.zero_le _⟩) hP hD hS hA (fun bu_10 H locs hP hD hS => ?_)
    have hP : va_P (gD G) vwCl (w_Specifier_hasAny G qt t_index t_flags t_width t_precision t_conversion t_great t_known t_cutOff t_flagTwice t_last) H := hP
    have hD : va_D A (w_Specifier_hasAny G qt t_index t_flags t_width t_precision t_conversion t_great t_known t_cutOff t_flagTwice t_last) := hD
    refine lv_if_eq (tgt := 20) hx hb d_Specifier_hasBoth_13 (by decide) (fun c_13 => ?_) (fun c_13 => ?_)
    · have hf := ip_ c_13 hf
      refine lv_iconst (v := 0) hx hb d_Specifier_hasBoth_20 (by decide) ?_
      obtain rfl := Option.some.inj hf
      rw [← hQ]
      exact W.zret (v := (0 : Int32)) hx hb hr (bl_n bl_0) (fun t9 ht hW => ⟨⟨(0 : Int32), (), rfl, ⟨rfl, bl_0⟩, ⟨by rw [ht]; exact hP, hD⟩⟩, hS.F ht⟩) hS.2.2 d_Specifier_hasBoth_21
    · have hf := in_ c_13 hf
      refine lv_iconst (v := 1) hx hb d_Specifier_hasBoth_16 (by decide) ?_
      refine lv_goto (tgt := 21) hx hb d_Specifier_hasBoth_17 (by decide) ?_
      obtain rfl := Option.some.inj hf
      rw [← hQ]
      exact W.zret (v := (1 : Int32)) hx hb hr (bl_n bl_1) (fun t9 ht hW => ⟨⟨(1 : Int32), (), rfl, ⟨rfl, bl_1⟩, ⟨by rw [ht]; exact hP, hD⟩⟩, hS.F ht⟩) hS.2.2 d_Specifier_hasBoth_21
theorem d_Specifier_faultOfLineEnd_0 : decode cd_Specifier_faultOfLineEnd 0 = .ok (.aload_n 0, 1) := by decide +kernel
theorem d_Specifier_faultOfLineEnd_1 : decode cd_Specifier_faultOfLineEnd 1 = .ok (.getfield 16, 3) := by decide +kernel
theorem d_Specifier_faultOfLineEnd_4 : decode cd_Specifier_faultOfLineEnd 4 = .ok (.iconst (-1), 1) := by decide +kernel
theorem d_Specifier_faultOfLineEnd_5 : decode cd_Specifier_faultOfLineEnd 5 = .ok (.if_icmp .eq 5, 3) := by decide +kernel
theorem d_Specifier_faultOfLineEnd_8 : decode cd_Specifier_faultOfLineEnd 8 = .ok (.iconst 5, 1) := by decide +kernel
theorem d_Specifier_faultOfLineEnd_9 : decode cd_Specifier_faultOfLineEnd 9 = .ok (.ireturn, 1) := by decide +kernel
theorem d_Specifier_faultOfLineEnd_10 : decode cd_Specifier_faultOfLineEnd 10 = .ok (.aload_n 0, 1) := by decide +kernel
theorem d_Specifier_faultOfLineEnd_11 : decode cd_Specifier_faultOfLineEnd 11 = .ok (.getfield 19, 3) := by decide +kernel
theorem d_Specifier_faultOfLineEnd_14 : decode cd_Specifier_faultOfLineEnd 14 = .ok (.iconst (-1), 1) := by decide +kernel
theorem d_Specifier_faultOfLineEnd_15 : decode cd_Specifier_faultOfLineEnd 15 = .ok (.if_icmp .eq 6, 3) := by decide +kernel
theorem d_Specifier_faultOfLineEnd_18 : decode cd_Specifier_faultOfLineEnd 18 = .ok (.bipush 6, 2) := by decide +kernel
theorem d_Specifier_faultOfLineEnd_20 : decode cd_Specifier_faultOfLineEnd 20 = .ok (.ireturn, 1) := by decide +kernel
theorem d_Specifier_faultOfLineEnd_21 : decode cd_Specifier_faultOfLineEnd 21 = .ok (.aload_n 0, 1) := by decide +kernel
theorem d_Specifier_faultOfLineEnd_22 : decode cd_Specifier_faultOfLineEnd 22 = .ok (.getfield 13, 3) := by decide +kernel
theorem d_Specifier_faultOfLineEnd_25 : decode cd_Specifier_faultOfLineEnd 25 = .ok (.ifCond .eq 8, 3) := by decide +kernel
theorem d_Specifier_faultOfLineEnd_28 : decode cd_Specifier_faultOfLineEnd 28 = .ok (.bipush 7, 2) := by decide +kernel
theorem d_Specifier_faultOfLineEnd_30 : decode cd_Specifier_faultOfLineEnd 30 = .ok (.goto 4, 3) := by decide +kernel
theorem d_Specifier_faultOfLineEnd_33 : decode cd_Specifier_faultOfLineEnd 33 = .ok (.iconst 0, 1) := by decide +kernel
theorem d_Specifier_faultOfLineEnd_34 : decode cd_Specifier_faultOfLineEnd 34 = .ok (.ireturn, 1) := by decide +kernel
theorem m_116 : Cond.fieldLink R_Specifier 16 "SpecifierDesk$Specifier" "width" "I" ∈ gw := gm (i := 141) (by decide +kernel) (by decide +kernel)
theorem m_117 : Cond.fieldLink R_Specifier 19 "SpecifierDesk$Specifier" "precision" "I" ∈ gw := gm (i := 143) (by decide +kernel) (by decide +kernel)
def f_Specifier_faultOfLineEnd (t_flags : Int32) (t_width : Int32) (t_precision : Int32) : Option Int32 :=
  (if t_width = (-1 : Int32) then (if t_precision = (-1 : Int32) then (if t_flags = 0 then some (0 : Int32) else some (7 : Int32)) else some (6 : Int32)) else some (5 : Int32))
set_option maxHeartbeats 4000000 in
set_option maxRecDepth 100000 in
theorem c_Specifier_faultOfLineEnd (l : Launch) (G : Gt) (K : Nat) (qt : Nat) (t_index : Int32) (t_flags : Int32) (t_width : Int32) (t_precision : Int32) (t_conversion : Int32) (t_great : Int32) (t_known : Int32) (t_cutOff : Int32) (t_flagTwice : Int32) (t_last : Int32) (sz : Nat) (res : Int32)   (hf : f_Specifier_faultOfLineEnd t_flags t_width t_precision = some res) : Met l y_Specifier_faultOfLineEnd (.code y_Specifier_faultOfLineEnd cd_Specifier_faultOfLineEnd 1 (some .int) :: gw) { frames := 0, cells := 0, slots := 0, locals := 0 } (PC G ([.ref qt] : List Value) sz (w_Specifier_hasAny G qt t_index t_flags t_width t_precision t_conversion t_great t_known t_cutOff t_flagTwice t_last)) (QI G res (va_A (w_Specifier_hasAny G qt t_index t_flags t_width t_precision t_conversion t_great t_known t_cutOff t_flagTwice t_last) sz) (w_Specifier_hasAny G qt t_index t_flags t_width t_precision t_conversion t_great t_known t_cutOff t_flagTwice t_last)) 0 0 (va_A (w_Specifier_hasAny G qt t_index t_flags t_width t_precision t_conversion t_great t_known t_cutOff t_flagTwice t_last) sz) := by
  refine Met.ofW (cc := cd_Specifier_faultOfLineEnd) (maxL := 1) (ret := (some .int)) (by decide) rfl ?_
  intro p e s m args below meth c s₁ B hml hv
  obtain ⟨rfl, hsz, hP, hE, hD0⟩ := hv
  have hx := B.exec
  have hb := B.bytes
  have hr := B.returns
  have hts := atoms_spec (ws := (.code y_Specifier_faultOfLineEnd cd_Specifier_faultOfLineEnd 1 (some .int) :: gw)) B.pre
  have hg : ∀ w ∈ gw, w.before _ s = true := fun w h => hts w (List.mem_cons_of_mem _ h)
  have hown : s.vm.findClass R_Specifier = some m.cls := findClass_of_methodNamed B.named
  have hlocks := B.notSynchronized
  subst hsz
  have hK := hE.K
  have hD := hD0.self (sz := s.heap.size)
  have hAb := hE.ab hD0
  obtain ⟨Q, hQ⟩ : ∃ Q, MQ below (QI G res (va_A (w_Specifier_hasAny G qt t_index t_flags t_width t_precision t_conversion t_great t_known t_cutOff t_flagTwice t_last) s.heap.size) (w_Specifier_hasAny G qt t_index t_flags t_width t_precision t_conversion t_great t_known t_cutOff t_flagTwice t_last)) ([.ref qt] : List Value).toArray s 0 0 (va_A (w_Specifier_hasAny G qt t_index t_flags t_width t_precision t_conversion t_great t_known t_cutOff t_flagTwice t_last) s.heap.size) = Q := ⟨_, rfl⟩
  show W p l e { frames := 0, cells := 0, slots := 0, locals := 0 } s m ([.ref qt] : List Value).toArray below meth c s.heap [] 0 0 (MQ below (QI G res (va_A (w_Specifier_hasAny G qt t_index t_flags t_width t_precision t_conversion t_great t_known t_cutOff t_flagTwice t_last) s.heap.size) (w_Specifier_hasAny G qt t_index t_flags t_width t_precision t_conversion t_great t_known t_cutOff t_flagTwice t_last)) ([.ref qt] : List Value).toArray s 0 0 (va_A (w_Specifier_hasAny G qt t_index t_flags t_width t_precision t_conversion t_great t_known t_cutOff t_flagTwice t_last) s.heap.size)) _
  rw [hQ]
  have hA : ∀ q : Nat, s.heap.size ≤ q → va_A (w_Specifier_hasAny G qt t_index t_flags t_width t_precision t_conversion t_great t_known t_cutOff t_flagTwice t_last) s.heap.size q := fun q h => Or.inr h
  obtain ⟨A, hAe⟩ : ∃ A, va_A (w_Specifier_hasAny G qt t_index t_flags t_width t_precision t_conversion t_great t_known t_cutOff t_flagTwice t_last) s.heap.size = A := ⟨_, rfl⟩
  rw [hAe] at hA hD hAb hQ
  have hS : va_S A s.heap s.heap [] := va_S.rf
  have hl := lv_entry (([.ref qt] : List Value)) (n := 1) (Nat.le_of_ble_eq_true rfl)
  rw [lg_entry_eq]
  generalize (lg_sl (([.ref qt] : List Value)) ++ List.replicate (1 - (lg_sl (([.ref qt] : List Value))).length) Slot.unset).toArray = ls at hl ⊢
  have hl : lv_has ls 1 [(0, .ref qt)] := hl
  unfold f_Specifier_faultOfLineEnd at hf
  refine lv_aload_n hx hb d_Specifier_faultOfLineEnd_0 rfl (lv_at hl 0 rfl) ?_
  refine va_get (D := gD G) (ci := 5) (v := .int t_width) (C := R_Specifier) (T := F_Specifier) (N := 10) hx hb hg in_Specifier hown hK hP 0 rfl rfl 2 (by decide) (hg _ m_116) (fun _ h9 => h9) rfl d_Specifier_faultOfLineEnd_1 ?_
  refine lv_iconst (v := -1) hx hb d_Specifier_faultOfLineEnd_4 (by decide) ?_
  refine lv_icmp_eq (tgt := 10) hx hb d_Specifier_faultOfLineEnd_5 (by decide) (fun c_5 => ?_) (fun c_5 => ?_)
  · have hf := ip_ c_5 hf
    refine lv_aload_n hx hb d_Specifier_faultOfLineEnd_10 rfl (lv_at hl 0 rfl) ?_
    refine va_get (D := gD G) (ci := 5) (v := .int t_precision) (C := R_Specifier) (T := F_Specifier) (N := 10) hx hb hg in_Specifier hown hK hP 0 rfl rfl 3 (by decide) (hg _ m_117) (fun _ h9 => h9) rfl d_Specifier_faultOfLineEnd_11 ?_
    refine lv_iconst (v := -1) hx hb d_Specifier_faultOfLineEnd_14 (by decide) ?_
    refine lv_icmp_eq (tgt := 21) hx hb d_Specifier_faultOfLineEnd_15 (by decide) (fun c_15 => ?_) (fun c_15 => ?_)
    · have hf := ip_ c_15 hf
      refine lv_aload_n hx hb d_Specifier_faultOfLineEnd_21 rfl (lv_at hl 0 rfl) ?_
      refine va_get (D := gD G) (ci := 5) (v := .int t_flags) (C := R_Specifier) (T := F_Specifier) (N := 10) hx hb hg in_Specifier hown hK hP 0 rfl rfl 1 (by decide) (hg _ m_110) (fun _ h9 => h9) rfl d_Specifier_faultOfLineEnd_22 ?_
      refine lv_if_eq (tgt := 33) hx hb d_Specifier_faultOfLineEnd_25 (by decide) (fun c_25 => ?_) (fun c_25 => ?_)
      · have hf := ip_ c_25 hf
        refine lv_iconst (v := 0) hx hb d_Specifier_faultOfLineEnd_33 (by decide) ?_
        obtain rfl := Option.some.inj hf
        rw [← hQ]
        exact W.iret (v := (0 : Int32)) hx hb hr (fun t9 ht hW => ⟨⟨(0 : Int32), (), rfl, rfl, ⟨by rw [ht]; exact hP, hD⟩⟩, hS.F ht⟩) hS.2.2 d_Specifier_faultOfLineEnd_34
      · have hf := in_ c_25 hf
        refine lv_bipush (v := 7) hx hb d_Specifier_faultOfLineEnd_28 (by decide) ?_
        refine lv_goto (tgt := 34) hx hb d_Specifier_faultOfLineEnd_30 (by decide) ?_
        obtain rfl := Option.some.inj hf
        rw [← hQ]
        exact W.iret (v := (7 : Int32)) hx hb hr (fun t9 ht hW => ⟨⟨(7 : Int32), (), rfl, rfl, ⟨by rw [ht]; exact hP, hD⟩⟩, hS.F ht⟩) hS.2.2 d_Specifier_faultOfLineEnd_34
    · have hf := in_ c_15 hf
      refine lv_bipush (v := 6) hx hb d_Specifier_faultOfLineEnd_18 (by decide) ?_
      obtain rfl := Option.some.inj hf
      rw [← hQ]
      exact W.iret (v := (6 : Int32)) hx hb hr (fun t9 ht hW => ⟨⟨(6 : Int32), (), rfl, rfl, ⟨by rw [ht]; exact hP, hD⟩⟩, hS.F ht⟩) hS.2.2 d_Specifier_faultOfLineEnd_20
  · have hf := in_ c_5 hf
    refine lv_iconst (v := 5) hx hb d_Specifier_faultOfLineEnd_8 (by decide) ?_
    obtain rfl := Option.some.inj hf
    rw [← hQ]
    exact W.iret (v := (5 : Int32)) hx hb hr (fun t9 ht hW => ⟨⟨(5 : Int32), (), rfl, rfl, ⟨by rw [ht]; exact hP, hD⟩⟩, hS.F ht⟩) hS.2.2 d_Specifier_faultOfLineEnd_9
theorem d_Specifier_ownFlags_0 : decode cd_Specifier_ownFlags 0 = .ok (.bipush 29, 2) := by decide +kernel
theorem d_Specifier_ownFlags_2 : decode cd_Specifier_ownFlags 2 = .ok (.istore_n 1, 1) := by decide +kernel
theorem d_Specifier_ownFlags_3 : decode cd_Specifier_ownFlags 3 = .ok (.aload_n 0, 1) := by decide +kernel
theorem d_Specifier_ownFlags_4 : decode cd_Specifier_ownFlags 4 = .ok (.getfield 22, 3) := by decide +kernel
theorem d_Specifier_ownFlags_7 : decode cd_Specifier_ownFlags 7 = .ok (.tableswitch 138 97 120 #[134, 138, 138, 109, 117, 124, 109, 138, 138, 138, 138, 138, 138, 138, 117, 138, 138, 138, 138, 138, 138, 138, 138, 117], 109) := by decide +kernel
theorem d_Specifier_ownFlags_116 : decode cd_Specifier_ownFlags 116 = .ok (.iload_n 1, 1) := by decide +kernel
theorem d_Specifier_ownFlags_117 : decode cd_Specifier_ownFlags 117 = .ok (.bipush 32, 2) := by decide +kernel
theorem d_Specifier_ownFlags_119 : decode cd_Specifier_ownFlags 119 = .ok (.ior, 1) := by decide +kernel
theorem d_Specifier_ownFlags_120 : decode cd_Specifier_ownFlags 120 = .ok (.bipush 64, 2) := by decide +kernel
theorem d_Specifier_ownFlags_122 : decode cd_Specifier_ownFlags 122 = .ok (.ior, 1) := by decide +kernel
theorem d_Specifier_ownFlags_123 : decode cd_Specifier_ownFlags 123 = .ok (.ireturn, 1) := by decide +kernel
theorem d_Specifier_ownFlags_124 : decode cd_Specifier_ownFlags 124 = .ok (.iload_n 1, 1) := by decide +kernel
theorem d_Specifier_ownFlags_125 : decode cd_Specifier_ownFlags 125 = .ok (.iconst 2, 1) := by decide +kernel
theorem d_Specifier_ownFlags_126 : decode cd_Specifier_ownFlags 126 = .ok (.ior, 1) := by decide +kernel
theorem d_Specifier_ownFlags_127 : decode cd_Specifier_ownFlags 127 = .ok (.bipush 64, 2) := by decide +kernel
theorem d_Specifier_ownFlags_129 : decode cd_Specifier_ownFlags 129 = .ok (.ior, 1) := by decide +kernel
theorem d_Specifier_ownFlags_130 : decode cd_Specifier_ownFlags 130 = .ok (.ireturn, 1) := by decide +kernel
theorem d_Specifier_ownFlags_131 : decode cd_Specifier_ownFlags 131 = .ok (.iload_n 1, 1) := by decide +kernel
theorem d_Specifier_ownFlags_132 : decode cd_Specifier_ownFlags 132 = .ok (.iconst 2, 1) := by decide +kernel
theorem d_Specifier_ownFlags_133 : decode cd_Specifier_ownFlags 133 = .ok (.ior, 1) := by decide +kernel
theorem d_Specifier_ownFlags_134 : decode cd_Specifier_ownFlags 134 = .ok (.bipush 32, 2) := by decide +kernel
theorem d_Specifier_ownFlags_136 : decode cd_Specifier_ownFlags 136 = .ok (.ior, 1) := by decide +kernel
theorem d_Specifier_ownFlags_137 : decode cd_Specifier_ownFlags 137 = .ok (.bipush 64, 2) := by decide +kernel
theorem d_Specifier_ownFlags_139 : decode cd_Specifier_ownFlags 139 = .ok (.ior, 1) := by decide +kernel
theorem d_Specifier_ownFlags_140 : decode cd_Specifier_ownFlags 140 = .ok (.ireturn, 1) := by decide +kernel
theorem d_Specifier_ownFlags_141 : decode cd_Specifier_ownFlags 141 = .ok (.iload_n 1, 1) := by decide +kernel
theorem d_Specifier_ownFlags_142 : decode cd_Specifier_ownFlags 142 = .ok (.iconst 2, 1) := by decide +kernel
theorem d_Specifier_ownFlags_143 : decode cd_Specifier_ownFlags 143 = .ok (.ior, 1) := by decide +kernel
theorem d_Specifier_ownFlags_144 : decode cd_Specifier_ownFlags 144 = .ok (.ireturn, 1) := by decide +kernel
theorem d_Specifier_ownFlags_145 : decode cd_Specifier_ownFlags 145 = .ok (.iconst 1, 1) := by decide +kernel
theorem d_Specifier_ownFlags_146 : decode cd_Specifier_ownFlags 146 = .ok (.ireturn, 1) := by decide +kernel
theorem m_118 : Cond.fieldLink R_Specifier 22 "SpecifierDesk$Specifier" "conversion" "C" ∈ gw := gm (i := 145) (by decide +kernel) (by decide +kernel)
def k_Specifier_ownFlags_124  (x1 : Int32) : Option Int32 :=
  some ((x1 ||| (2 : Int32)) ||| (64 : Int32))
def k_Specifier_ownFlags_116  (x1 : Int32) : Option Int32 :=
  some ((x1 ||| (32 : Int32)) ||| (64 : Int32))
def f_Specifier_ownFlags (t_conversion : Int32) : Option Int32 :=
  (if t_conversion = 97 then some ((29 : Int32) ||| (2 : Int32)) else (if t_conversion = 100 then k_Specifier_ownFlags_116  (29 : Int32) else (if t_conversion = 101 then k_Specifier_ownFlags_124  (29 : Int32) else (if t_conversion = 102 then some ((((29 : Int32) ||| (2 : Int32)) ||| (32 : Int32)) ||| (64 : Int32)) else (if t_conversion = 103 then k_Specifier_ownFlags_116  (29 : Int32) else (if t_conversion = 111 then k_Specifier_ownFlags_124  (29 : Int32) else (if t_conversion = 120 then k_Specifier_ownFlags_124  (29 : Int32) else some (1 : Int32))))))))
set_option maxHeartbeats 4000000 in
set_option maxRecDepth 100000 in
theorem c_Specifier_ownFlags (l : Launch) (G : Gt) (K : Nat) (qt : Nat) (t_index : Int32) (t_flags : Int32) (t_width : Int32) (t_precision : Int32) (t_conversion : Int32) (t_great : Int32) (t_known : Int32) (t_cutOff : Int32) (t_flagTwice : Int32) (t_last : Int32) (sz : Nat) (res : Int32)   (hf : f_Specifier_ownFlags t_conversion = some res) : Met l y_Specifier_ownFlags (.code y_Specifier_ownFlags cd_Specifier_ownFlags 2 (some .int) :: gw) { frames := 0, cells := 0, slots := 0, locals := 0 } (PC G ([.ref qt] : List Value) sz (w_Specifier_hasAny G qt t_index t_flags t_width t_precision t_conversion t_great t_known t_cutOff t_flagTwice t_last)) (QI G res (va_A (w_Specifier_hasAny G qt t_index t_flags t_width t_precision t_conversion t_great t_known t_cutOff t_flagTwice t_last) sz) (w_Specifier_hasAny G qt t_index t_flags t_width t_precision t_conversion t_great t_known t_cutOff t_flagTwice t_last)) 0 0 (va_A (w_Specifier_hasAny G qt t_index t_flags t_width t_precision t_conversion t_great t_known t_cutOff t_flagTwice t_last) sz) := by
  refine Met.ofW (cc := cd_Specifier_ownFlags) (maxL := 2) (ret := (some .int)) (by decide) rfl ?_
  intro p e s m args below meth c s₁ B hml hv
  obtain ⟨rfl, hsz, hP, hE, hD0⟩ := hv
  have hx := B.exec
  have hb := B.bytes
  have hr := B.returns
  have hts := atoms_spec (ws := (.code y_Specifier_ownFlags cd_Specifier_ownFlags 2 (some .int) :: gw)) B.pre
  have hg : ∀ w ∈ gw, w.before _ s = true := fun w h => hts w (List.mem_cons_of_mem _ h)
  have hown : s.vm.findClass R_Specifier = some m.cls := findClass_of_methodNamed B.named
  have hlocks := B.notSynchronized
  subst hsz
  have hK := hE.K
  have hD := hD0.self (sz := s.heap.size)
  have hAb := hE.ab hD0
  obtain ⟨Q, hQ⟩ : ∃ Q, MQ below (QI G res (va_A (w_Specifier_hasAny G qt t_index t_flags t_width t_precision t_conversion t_great t_known t_cutOff t_flagTwice t_last) s.heap.size) (w_Specifier_hasAny G qt t_index t_flags t_width t_precision t_conversion t_great t_known t_cutOff t_flagTwice t_last)) ([.ref qt] : List Value).toArray s 0 0 (va_A (w_Specifier_hasAny G qt t_index t_flags t_width t_precision t_conversion t_great t_known t_cutOff t_flagTwice t_last) s.heap.size) = Q := ⟨_, rfl⟩
  show W p l e { frames := 0, cells := 0, slots := 0, locals := 0 } s m ([.ref qt] : List Value).toArray below meth c s.heap [] 0 0 (MQ below (QI G res (va_A (w_Specifier_hasAny G qt t_index t_flags t_width t_precision t_conversion t_great t_known t_cutOff t_flagTwice t_last) s.heap.size) (w_Specifier_hasAny G qt t_index t_flags t_width t_precision t_conversion t_great t_known t_cutOff t_flagTwice t_last)) ([.ref qt] : List Value).toArray s 0 0 (va_A (w_Specifier_hasAny G qt t_index t_flags t_width t_precision t_conversion t_great t_known t_cutOff t_flagTwice t_last) s.heap.size)) _
  rw [hQ]
  have hA : ∀ q : Nat, s.heap.size ≤ q → va_A (w_Specifier_hasAny G qt t_index t_flags t_width t_precision t_conversion t_great t_known t_cutOff t_flagTwice t_last) s.heap.size q := fun q h => Or.inr h
  obtain ⟨A, hAe⟩ : ∃ A, va_A (w_Specifier_hasAny G qt t_index t_flags t_width t_precision t_conversion t_great t_known t_cutOff t_flagTwice t_last) s.heap.size = A := ⟨_, rfl⟩
  rw [hAe] at hA hD hAb hQ
  have hS : va_S A s.heap s.heap [] := va_S.rf
  have hl := lv_entry (([.ref qt] : List Value)) (n := 2) (Nat.le_of_ble_eq_true rfl)
  rw [lg_entry_eq]
  generalize (lg_sl (([.ref qt] : List Value)) ++ List.replicate (2 - (lg_sl (([.ref qt] : List Value))).length) Slot.unset).toArray = ls at hl ⊢
  have hl : lv_has ls 2 [(0, .ref qt)] := hl
  have W_124 : ∀ (x1 : Int32) , k_Specifier_ownFlags_124  x1 = some res → ∀ (H : Heap) (locs : List Loc) (ls : Array Slot), va_P (gD G) vwCl (w_Specifier_hasAny G qt t_index t_flags t_width t_precision t_conversion t_great t_known t_cutOff t_flagTwice t_last) H → va_D A (w_Specifier_hasAny G qt t_index t_flags t_width t_precision t_conversion t_great t_known t_cutOff t_flagTwice t_last) → va_S A s.heap H locs → lv_has ls 2 [(1, .int x1)] → W p l e { frames := 0, cells := 0, slots := 0, locals := 0 } s m ([.ref qt] : List Value).toArray below meth c H locs 0 0 Q (F0 m 124 ls []) := by
    intro x1  hf H locs ls hP hD hS hl
    unfold k_Specifier_ownFlags_124 at hf
    refine lv_iload_n hx hb d_Specifier_ownFlags_124 rfl (lv_at hl 0 rfl) ?_
    refine lv_iconst (v := 2) hx hb d_Specifier_ownFlags_125 (by decide) ?_
    refine lv_ior hx hb d_Specifier_ownFlags_126 ?_
    refine lv_bipush (v := 64) hx hb d_Specifier_ownFlags_127 (by decide) ?_
    refine lv_ior hx hb d_Specifier_ownFlags_129 ?_
    obtain rfl := Option.some.inj hf
    rw [← hQ]
    exact W.iret (v := ((x1 ||| (2 : Int32)) ||| (64 : Int32))) hx hb hr (fun t9 ht hW => ⟨⟨((x1 ||| (2 : Int32)) ||| (64 : Int32)), (), rfl, rfl, ⟨by rw [ht]; exact hP, hD⟩⟩, hS.F ht⟩) hS.2.2 d_Specifier_ownFlags_130
  have W_116 : ∀ (x1 : Int32) , k_Specifier_ownFlags_116  x1 = some res → ∀ (H : Heap) (locs : List Loc) (ls : Array Slot), va_P (gD G) vwCl (w_Specifier_hasAny G qt t_index t_flags t_width t_precision t_conversion t_great t_known t_cutOff t_flagTwice t_last) H → va_D A (w_Specifier_hasAny G qt t_index t_flags t_width t_precision t_conversion t_great t_known t_cutOff t_flagTwice t_last) → va_S A s.heap H locs → lv_has ls 2 [(1, .int x1)] → W p l e { frames := 0, cells := 0, slots := 0, locals := 0 } s m ([.ref qt] : List Value).toArray below meth c H locs 0 0 Q (F0 m 116 ls []) := by
    intro x1  hf H locs ls hP hD hS hl
    unfold k_Specifier_ownFlags_116 at hf
    refine lv_iload_n hx hb d_Specifier_ownFlags_116 rfl (lv_at hl 0 rfl) ?_
    refine lv_bipush (v := 32) hx hb d_Specifier_ownFlags_117 (by decide) ?_
    refine lv_ior hx hb d_Specifier_ownFlags_119 ?_
    refine lv_bipush (v := 64) hx hb d_Specifier_ownFlags_120 (by decide) ?_
    refine lv_ior hx hb d_Specifier_ownFlags_122 ?_
    obtain rfl := Option.some.inj hf
    rw [← hQ]
    exact W.iret (v := ((x1 ||| (32 : Int32)) ||| (64 : Int32))) hx hb hr (fun t9 ht hW => ⟨⟨((x1 ||| (32 : Int32)) ||| (64 : Int32)), (), rfl, rfl, ⟨by rw [ht]; exact hP, hD⟩⟩, hS.F ht⟩) hS.2.2 d_Specifier_ownFlags_123
  unfold f_Specifier_ownFlags at hf
  refine lv_bipush (v := 29) hx hb d_Specifier_ownFlags_0 (by decide) ?_
  refine lv_istore_n (lv' := [(1, .int (29 : Int32)), (0, .ref qt)]) hx hb d_Specifier_ownFlags_2 rfl hl (by decide) rfl (fun ls hl => ?_)
  refine lv_aload_n hx hb d_Specifier_ownFlags_3 rfl (lv_at hl 1 rfl) ?_
  refine va_get (D := gD G) (ci := 5) (v := .int t_conversion) (C := R_Specifier) (T := F_Specifier) (N := 10) hx hb hg in_Specifier hown hK hP 0 rfl rfl 4 (by decide) (hg _ m_118) (fun _ h9 => h9) rfl d_Specifier_ownFlags_4 ?_
  by_cases c_7_0 : t_conversion = 97
  · have hf := ip_ c_7_0 hf
    refine lv_tableIn (tgt := 141) hx hb d_Specifier_ownFlags_7 (by rw [c_7_0]; decide) (by rw [c_7_0]; decide) (by rw [c_7_0]; rfl) (by decide) ?_
    refine lv_iload_n hx hb d_Specifier_ownFlags_141 rfl (lv_at hl 0 rfl) ?_
    refine lv_iconst (v := 2) hx hb d_Specifier_ownFlags_142 (by decide) ?_
    refine lv_ior hx hb d_Specifier_ownFlags_143 ?_
    obtain rfl := Option.some.inj hf
    rw [← hQ]
    exact W.iret (v := ((29 : Int32) ||| (2 : Int32))) hx hb hr (fun t9 ht hW => ⟨⟨((29 : Int32) ||| (2 : Int32)), (), rfl, rfl, ⟨by rw [ht]; exact hP, hD⟩⟩, hS.F ht⟩) hS.2.2 d_Specifier_ownFlags_144
  · have hf := in_ c_7_0 hf
    by_cases c_7_1 : t_conversion = 100
    · have hf := ip_ c_7_1 hf
      refine lv_tableIn (tgt := 116) hx hb d_Specifier_ownFlags_7 (by rw [c_7_1]; decide) (by rw [c_7_1]; decide) (by rw [c_7_1]; rfl) (by decide) ?_
      exact W_116 (29 : Int32)  hf _ _ _ hP hD hS (lv_sub hl [0] rfl)
    · have hf := in_ c_7_1 hf
      by_cases c_7_2 : t_conversion = 101
      · have hf := ip_ c_7_2 hf
        refine lv_tableIn (tgt := 124) hx hb d_Specifier_ownFlags_7 (by rw [c_7_2]; decide) (by rw [c_7_2]; decide) (by rw [c_7_2]; rfl) (by decide) ?_
        exact W_124 (29 : Int32)  hf _ _ _ hP hD hS (lv_sub hl [0] rfl)
      · have hf := in_ c_7_2 hf
        by_cases c_7_3 : t_conversion = 102
        · have hf := ip_ c_7_3 hf
          refine lv_tableIn (tgt := 131) hx hb d_Specifier_ownFlags_7 (by rw [c_7_3]; decide) (by rw [c_7_3]; decide) (by rw [c_7_3]; rfl) (by decide) ?_
          refine lv_iload_n hx hb d_Specifier_ownFlags_131 rfl (lv_at hl 0 rfl) ?_
          refine lv_iconst (v := 2) hx hb d_Specifier_ownFlags_132 (by decide) ?_
          refine lv_ior hx hb d_Specifier_ownFlags_133 ?_
          refine lv_bipush (v := 32) hx hb d_Specifier_ownFlags_134 (by decide) ?_
          refine lv_ior hx hb d_Specifier_ownFlags_136 ?_
          refine lv_bipush (v := 64) hx hb d_Specifier_ownFlags_137 (by decide) ?_
          refine lv_ior hx hb d_Specifier_ownFlags_139 ?_
          obtain rfl := Option.some.inj hf
          rw [← hQ]
          exact W.iret (v := ((((29 : Int32) ||| (2 : Int32)) ||| (32 : Int32)) ||| (64 : Int32))) hx hb hr (fun t9 ht hW => ⟨⟨((((29 : Int32) ||| (2 : Int32)) ||| (32 : Int32)) ||| (64 : Int32)), (), rfl, rfl, ⟨by rw [ht]; exact hP, hD⟩⟩, hS.F ht⟩) hS.2.2 d_Specifier_ownFlags_140
        · have hf := in_ c_7_3 hf
          by_cases c_7_4 : t_conversion = 103
          · have hf := ip_ c_7_4 hf
            refine lv_tableIn (tgt := 116) hx hb d_Specifier_ownFlags_7 (by rw [c_7_4]; decide) (by rw [c_7_4]; decide) (by rw [c_7_4]; rfl) (by decide) ?_
            exact W_116 (29 : Int32)  hf _ _ _ hP hD hS (lv_sub hl [0] rfl)
          · have hf := in_ c_7_4 hf
            by_cases c_7_5 : t_conversion = 111
            · have hf := ip_ c_7_5 hf
              refine lv_tableIn (tgt := 124) hx hb d_Specifier_ownFlags_7 (by rw [c_7_5]; decide) (by rw [c_7_5]; decide) (by rw [c_7_5]; rfl) (by decide) ?_
              exact W_124 (29 : Int32)  hf _ _ _ hP hD hS (lv_sub hl [0] rfl)
            · have hf := in_ c_7_5 hf
              by_cases c_7_6 : t_conversion = 120
              · have hf := ip_ c_7_6 hf
                refine lv_tableIn (tgt := 124) hx hb d_Specifier_ownFlags_7 (by rw [c_7_6]; decide) (by rw [c_7_6]; decide) (by rw [c_7_6]; rfl) (by decide) ?_
                exact W_124 (29 : Int32)  hf _ _ _ hP hD hS (lv_sub hl [0] rfl)
              · have hf := in_ c_7_6 hf
                by_cases o_7 : t_conversion.toInt < 97 ∨ 120 < t_conversion.toInt
                · refine lv_tableOut (tgt := 145) hx hb d_Specifier_ownFlags_7 o_7 (by decide) ?_
                  refine lv_iconst (v := 1) hx hb d_Specifier_ownFlags_145 (by decide) ?_
                  obtain rfl := Option.some.inj hf
                  rw [← hQ]
                  exact W.iret (v := (1 : Int32)) hx hb hr (fun t9 ht hW => ⟨⟨(1 : Int32), (), rfl, rfl, ⟨by rw [ht]; exact hP, hD⟩⟩, hS.F ht⟩) hS.2.2 d_Specifier_ownFlags_146
                · have e_7 : t_conversion.toInt = 98 ∨ t_conversion.toInt = 99 ∨ t_conversion.toInt = 104 ∨ t_conversion.toInt = 105 ∨ t_conversion.toInt = 106 ∨ t_conversion.toInt = 107 ∨ t_conversion.toInt = 108 ∨ t_conversion.toInt = 109 ∨ t_conversion.toInt = 110 ∨ t_conversion.toInt = 112 ∨ t_conversion.toInt = 113 ∨ t_conversion.toInt = 114 ∨ t_conversion.toInt = 115 ∨ t_conversion.toInt = 116 ∨ t_conversion.toInt = 117 ∨ t_conversion.toInt = 118 ∨ t_conversion.toInt = 119 := by have n_0 := lv_neT c_7_0 (show (97 : Int32).toInt = 97 from rfl); have n_1 := lv_neT c_7_1 (show (100 : Int32).toInt = 100 from rfl); have n_2 := lv_neT c_7_2 (show (101 : Int32).toInt = 101 from rfl); have n_3 := lv_neT c_7_3 (show (102 : Int32).toInt = 102 from rfl); have n_4 := lv_neT c_7_4 (show (103 : Int32).toInt = 103 from rfl); have n_5 := lv_neT c_7_5 (show (111 : Int32).toInt = 111 from rfl); have n_6 := lv_neT c_7_6 (show (120 : Int32).toInt = 120 from rfl); omega
                  rcases e_7 with e | e | e | e | e | e | e | e | e | e | e | e | e | e | e | e | e
                  · refine lv_tableIn (tgt := 145) hx hb d_Specifier_ownFlags_7 (by rw [e]; decide) (by rw [e]; decide) (by rw [e]; rfl) (by decide) ?_
                    refine lv_iconst (v := 1) hx hb d_Specifier_ownFlags_145 (by decide) ?_
                    obtain rfl := Option.some.inj hf
                    rw [← hQ]
                    exact W.iret (v := (1 : Int32)) hx hb hr (fun t9 ht hW => ⟨⟨(1 : Int32), (), rfl, rfl, ⟨by rw [ht]; exact hP, hD⟩⟩, hS.F ht⟩) hS.2.2 d_Specifier_ownFlags_146
                  · refine lv_tableIn (tgt := 145) hx hb d_Specifier_ownFlags_7 (by rw [e]; decide) (by rw [e]; decide) (by rw [e]; rfl) (by decide) ?_
                    refine lv_iconst (v := 1) hx hb d_Specifier_ownFlags_145 (by decide) ?_
                    obtain rfl := Option.some.inj hf
                    rw [← hQ]
                    exact W.iret (v := (1 : Int32)) hx hb hr (fun t9 ht hW => ⟨⟨(1 : Int32), (), rfl, rfl, ⟨by rw [ht]; exact hP, hD⟩⟩, hS.F ht⟩) hS.2.2 d_Specifier_ownFlags_146
                  · refine lv_tableIn (tgt := 145) hx hb d_Specifier_ownFlags_7 (by rw [e]; decide) (by rw [e]; decide) (by rw [e]; rfl) (by decide) ?_
                    refine lv_iconst (v := 1) hx hb d_Specifier_ownFlags_145 (by decide) ?_
                    obtain rfl := Option.some.inj hf
                    rw [← hQ]
                    exact W.iret (v := (1 : Int32)) hx hb hr (fun t9 ht hW => ⟨⟨(1 : Int32), (), rfl, rfl, ⟨by rw [ht]; exact hP, hD⟩⟩, hS.F ht⟩) hS.2.2 d_Specifier_ownFlags_146
                  · refine lv_tableIn (tgt := 145) hx hb d_Specifier_ownFlags_7 (by rw [e]; decide) (by rw [e]; decide) (by rw [e]; rfl) (by decide) ?_
                    refine lv_iconst (v := 1) hx hb d_Specifier_ownFlags_145 (by decide) ?_
                    obtain rfl := Option.some.inj hf
                    rw [← hQ]
                    exact W.iret (v := (1 : Int32)) hx hb hr (fun t9 ht hW => ⟨⟨(1 : Int32), (), rfl, rfl, ⟨by rw [ht]; exact hP, hD⟩⟩, hS.F ht⟩) hS.2.2 d_Specifier_ownFlags_146
                  · refine lv_tableIn (tgt := 145) hx hb d_Specifier_ownFlags_7 (by rw [e]; decide) (by rw [e]; decide) (by rw [e]; rfl) (by decide) ?_
                    refine lv_iconst (v := 1) hx hb d_Specifier_ownFlags_145 (by decide) ?_
                    obtain rfl := Option.some.inj hf
                    rw [← hQ]
                    exact W.iret (v := (1 : Int32)) hx hb hr (fun t9 ht hW => ⟨⟨(1 : Int32), (), rfl, rfl, ⟨by rw [ht]; exact hP, hD⟩⟩, hS.F ht⟩) hS.2.2 d_Specifier_ownFlags_146
                  · refine lv_tableIn (tgt := 145) hx hb d_Specifier_ownFlags_7 (by rw [e]; decide) (by rw [e]; decide) (by rw [e]; rfl) (by decide) ?_
                    refine lv_iconst (v := 1) hx hb d_Specifier_ownFlags_145 (by decide) ?_
                    obtain rfl := Option.some.inj hf
                    rw [← hQ]
                    exact W.iret (v := (1 : Int32)) hx hb hr (fun t9 ht hW => ⟨⟨(1 : Int32), (), rfl, rfl, ⟨by rw [ht]; exact hP, hD⟩⟩, hS.F ht⟩) hS.2.2 d_Specifier_ownFlags_146
                  · refine lv_tableIn (tgt := 145) hx hb d_Specifier_ownFlags_7 (by rw [e]; decide) (by rw [e]; decide) (by rw [e]; rfl) (by decide) ?_
                    refine lv_iconst (v := 1) hx hb d_Specifier_ownFlags_145 (by decide) ?_
                    obtain rfl := Option.some.inj hf
                    rw [← hQ]
                    exact W.iret (v := (1 : Int32)) hx hb hr (fun t9 ht hW => ⟨⟨(1 : Int32), (), rfl, rfl, ⟨by rw [ht]; exact hP, hD⟩⟩, hS.F ht⟩) hS.2.2 d_Specifier_ownFlags_146
                  · refine lv_tableIn (tgt := 145) hx hb d_Specifier_ownFlags_7 (by rw [e]; decide) (by rw [e]; decide) (by rw [e]; rfl) (by decide) ?_
                    refine lv_iconst (v := 1) hx hb d_Specifier_ownFlags_145 (by decide) ?_
                    obtain rfl := Option.some.inj hf
                    rw [← hQ]
                    exact W.iret (v := (1 : Int32)) hx hb hr (fun t9 ht hW => ⟨⟨(1 : Int32), (), rfl, rfl, ⟨by rw [ht]; exact hP, hD⟩⟩, hS.F ht⟩) hS.2.2 d_Specifier_ownFlags_146
                  · refine lv_tableIn (tgt := 145) hx hb d_Specifier_ownFlags_7 (by rw [e]; decide) (by rw [e]; decide) (by rw [e]; rfl) (by decide) ?_
                    refine lv_iconst (v := 1) hx hb d_Specifier_ownFlags_145 (by decide) ?_
                    obtain rfl := Option.some.inj hf
                    rw [← hQ]
                    exact W.iret (v := (1 : Int32)) hx hb hr (fun t9 ht hW => ⟨⟨(1 : Int32), (), rfl, rfl, ⟨by rw [ht]; exact hP, hD⟩⟩, hS.F ht⟩) hS.2.2 d_Specifier_ownFlags_146
                  · refine lv_tableIn (tgt := 145) hx hb d_Specifier_ownFlags_7 (by rw [e]; decide) (by rw [e]; decide) (by rw [e]; rfl) (by decide) ?_
                    refine lv_iconst (v := 1) hx hb d_Specifier_ownFlags_145 (by decide) ?_
                    obtain rfl := Option.some.inj hf
                    rw [← hQ]
                    exact W.iret (v := (1 : Int32)) hx hb hr (fun t9 ht hW => ⟨⟨(1 : Int32), (), rfl, rfl, ⟨by rw [ht]; exact hP, hD⟩⟩, hS.F ht⟩) hS.2.2 d_Specifier_ownFlags_146
                  · refine lv_tableIn (tgt := 145) hx hb d_Specifier_ownFlags_7 (by rw [e]; decide) (by rw [e]; decide) (by rw [e]; rfl) (by decide) ?_
                    refine lv_iconst (v := 1) hx hb d_Specifier_ownFlags_145 (by decide) ?_
                    obtain rfl := Option.some.inj hf
                    rw [← hQ]
                    exact W.iret (v := (1 : Int32)) hx hb hr (fun t9 ht hW => ⟨⟨(1 : Int32), (), rfl, rfl, ⟨by rw [ht]; exact hP, hD⟩⟩, hS.F ht⟩) hS.2.2 d_Specifier_ownFlags_146
                  · refine lv_tableIn (tgt := 145) hx hb d_Specifier_ownFlags_7 (by rw [e]; decide) (by rw [e]; decide) (by rw [e]; rfl) (by decide) ?_
                    refine lv_iconst (v := 1) hx hb d_Specifier_ownFlags_145 (by decide) ?_
                    obtain rfl := Option.some.inj hf
                    rw [← hQ]
                    exact W.iret (v := (1 : Int32)) hx hb hr (fun t9 ht hW => ⟨⟨(1 : Int32), (), rfl, rfl, ⟨by rw [ht]; exact hP, hD⟩⟩, hS.F ht⟩) hS.2.2 d_Specifier_ownFlags_146
                  · refine lv_tableIn (tgt := 145) hx hb d_Specifier_ownFlags_7 (by rw [e]; decide) (by rw [e]; decide) (by rw [e]; rfl) (by decide) ?_
                    refine lv_iconst (v := 1) hx hb d_Specifier_ownFlags_145 (by decide) ?_
                    obtain rfl := Option.some.inj hf
                    rw [← hQ]
                    exact W.iret (v := (1 : Int32)) hx hb hr (fun t9 ht hW => ⟨⟨(1 : Int32), (), rfl, rfl, ⟨by rw [ht]; exact hP, hD⟩⟩, hS.F ht⟩) hS.2.2 d_Specifier_ownFlags_146
                  · refine lv_tableIn (tgt := 145) hx hb d_Specifier_ownFlags_7 (by rw [e]; decide) (by rw [e]; decide) (by rw [e]; rfl) (by decide) ?_
                    refine lv_iconst (v := 1) hx hb d_Specifier_ownFlags_145 (by decide) ?_
                    obtain rfl := Option.some.inj hf
                    rw [← hQ]
                    exact W.iret (v := (1 : Int32)) hx hb hr (fun t9 ht hW => ⟨⟨(1 : Int32), (), rfl, rfl, ⟨by rw [ht]; exact hP, hD⟩⟩, hS.F ht⟩) hS.2.2 d_Specifier_ownFlags_146
                  · refine lv_tableIn (tgt := 145) hx hb d_Specifier_ownFlags_7 (by rw [e]; decide) (by rw [e]; decide) (by rw [e]; rfl) (by decide) ?_
                    refine lv_iconst (v := 1) hx hb d_Specifier_ownFlags_145 (by decide) ?_
                    obtain rfl := Option.some.inj hf
                    rw [← hQ]
                    exact W.iret (v := (1 : Int32)) hx hb hr (fun t9 ht hW => ⟨⟨(1 : Int32), (), rfl, rfl, ⟨by rw [ht]; exact hP, hD⟩⟩, hS.F ht⟩) hS.2.2 d_Specifier_ownFlags_146
                  · refine lv_tableIn (tgt := 145) hx hb d_Specifier_ownFlags_7 (by rw [e]; decide) (by rw [e]; decide) (by rw [e]; rfl) (by decide) ?_
                    refine lv_iconst (v := 1) hx hb d_Specifier_ownFlags_145 (by decide) ?_
                    obtain rfl := Option.some.inj hf
                    rw [← hQ]
                    exact W.iret (v := (1 : Int32)) hx hb hr (fun t9 ht hW => ⟨⟨(1 : Int32), (), rfl, rfl, ⟨by rw [ht]; exact hP, hD⟩⟩, hS.F ht⟩) hS.2.2 d_Specifier_ownFlags_146
                  · refine lv_tableIn (tgt := 145) hx hb d_Specifier_ownFlags_7 (by rw [e]; decide) (by rw [e]; decide) (by rw [e]; rfl) (by decide) ?_
                    refine lv_iconst (v := 1) hx hb d_Specifier_ownFlags_145 (by decide) ?_
                    obtain rfl := Option.some.inj hf
                    rw [← hQ]
                    exact W.iret (v := (1 : Int32)) hx hb hr (fun t9 ht hW => ⟨⟨(1 : Int32), (), rfl, rfl, ⟨by rw [ht]; exact hP, hD⟩⟩, hS.F ht⟩) hS.2.2 d_Specifier_ownFlags_146
theorem d_Specifier_faultOfParts_0 : decode cd_Specifier_faultOfParts 0 = .ok (.ldc 67, 2) := by decide +kernel
theorem d_Specifier_faultOfParts_2 : decode cd_Specifier_faultOfParts 2 = .ok (.aload_n 0, 1) := by decide +kernel
theorem d_Specifier_faultOfParts_3 : decode cd_Specifier_faultOfParts 3 = .ok (.getfield 22, 3) := by decide +kernel
theorem d_Specifier_faultOfParts_6 : decode cd_Specifier_faultOfParts 6 = .ok (.invokevirtual 69, 3) := by decide +kernel
theorem d_Specifier_faultOfParts_9 : decode cd_Specifier_faultOfParts 9 = .ok (.ifCond .lt 7, 3) := by decide +kernel
theorem d_Specifier_faultOfParts_12 : decode cd_Specifier_faultOfParts 12 = .ok (.iconst 1, 1) := by decide +kernel
theorem d_Specifier_faultOfParts_13 : decode cd_Specifier_faultOfParts 13 = .ok (.goto 4, 3) := by decide +kernel
theorem d_Specifier_faultOfParts_16 : decode cd_Specifier_faultOfParts 16 = .ok (.iconst 0, 1) := by decide +kernel
theorem d_Specifier_faultOfParts_17 : decode cd_Specifier_faultOfParts 17 = .ok (.istore_n 1, 1) := by decide +kernel
theorem d_Specifier_faultOfParts_18 : decode cd_Specifier_faultOfParts 18 = .ok (.aload_n 0, 1) := by decide +kernel
theorem d_Specifier_faultOfParts_19 : decode cd_Specifier_faultOfParts 19 = .ok (.getfield 19, 3) := by decide +kernel
theorem d_Specifier_faultOfParts_22 : decode cd_Specifier_faultOfParts 22 = .ok (.iconst (-1), 1) := by decide +kernel
theorem d_Specifier_faultOfParts_23 : decode cd_Specifier_faultOfParts 23 = .ok (.if_icmp .eq 18, 3) := by decide +kernel
theorem d_Specifier_faultOfParts_26 : decode cd_Specifier_faultOfParts 26 = .ok (.ldc 75, 2) := by decide +kernel
theorem d_Specifier_faultOfParts_28 : decode cd_Specifier_faultOfParts 28 = .ok (.aload_n 0, 1) := by decide +kernel
theorem d_Specifier_faultOfParts_29 : decode cd_Specifier_faultOfParts 29 = .ok (.getfield 22, 3) := by decide +kernel
theorem d_Specifier_faultOfParts_32 : decode cd_Specifier_faultOfParts 32 = .ok (.invokevirtual 69, 3) := by decide +kernel
theorem d_Specifier_faultOfParts_35 : decode cd_Specifier_faultOfParts 35 = .ok (.ifCond .lt 6, 3) := by decide +kernel
theorem d_Specifier_faultOfParts_38 : decode cd_Specifier_faultOfParts 38 = .ok (.bipush 6, 2) := by decide +kernel
theorem d_Specifier_faultOfParts_40 : decode cd_Specifier_faultOfParts 40 = .ok (.ireturn, 1) := by decide +kernel
theorem d_Specifier_faultOfParts_41 : decode cd_Specifier_faultOfParts 41 = .ok (.aload_n 0, 1) := by decide +kernel
theorem d_Specifier_faultOfParts_42 : decode cd_Specifier_faultOfParts 42 = .ok (.getfield 22, 3) := by decide +kernel
theorem d_Specifier_faultOfParts_45 : decode cd_Specifier_faultOfParts 45 = .ok (.bipush 37, 2) := by decide +kernel
theorem d_Specifier_faultOfParts_47 : decode cd_Specifier_faultOfParts 47 = .ok (.if_icmp .ne 15, 3) := by decide +kernel
theorem d_Specifier_faultOfParts_50 : decode cd_Specifier_faultOfParts 50 = .ok (.aload_n 0, 1) := by decide +kernel
theorem d_Specifier_faultOfParts_51 : decode cd_Specifier_faultOfParts 51 = .ok (.bipush (-2), 2) := by decide +kernel
theorem d_Specifier_faultOfParts_53 : decode cd_Specifier_faultOfParts 53 = .ok (.invokevirtual 56, 3) := by decide +kernel
theorem d_Specifier_faultOfParts_56 : decode cd_Specifier_faultOfParts 56 = .ok (.ifCond .eq 6, 3) := by decide +kernel
theorem d_Specifier_faultOfParts_59 : decode cd_Specifier_faultOfParts 59 = .ok (.bipush 7, 2) := by decide +kernel
theorem d_Specifier_faultOfParts_61 : decode cd_Specifier_faultOfParts 61 = .ok (.ireturn, 1) := by decide +kernel
theorem d_Specifier_faultOfParts_62 : decode cd_Specifier_faultOfParts 62 = .ok (.aload_n 0, 1) := by decide +kernel
theorem d_Specifier_faultOfParts_63 : decode cd_Specifier_faultOfParts 63 = .ok (.getfield 16, 3) := by decide +kernel
theorem d_Specifier_faultOfParts_66 : decode cd_Specifier_faultOfParts 66 = .ok (.iconst (-1), 1) := by decide +kernel
theorem d_Specifier_faultOfParts_67 : decode cd_Specifier_faultOfParts 67 = .ok (.if_icmp .ne 23, 3) := by decide +kernel
theorem d_Specifier_faultOfParts_70 : decode cd_Specifier_faultOfParts 70 = .ok (.aload_n 0, 1) := by decide +kernel
theorem d_Specifier_faultOfParts_71 : decode cd_Specifier_faultOfParts 71 = .ok (.iload_n 1, 1) := by decide +kernel
theorem d_Specifier_faultOfParts_72 : decode cd_Specifier_faultOfParts 72 = .ok (.ifCond .eq 8, 3) := by decide +kernel
theorem d_Specifier_faultOfParts_75 : decode cd_Specifier_faultOfParts 75 = .ok (.bipush 17, 2) := by decide +kernel
theorem d_Specifier_faultOfParts_77 : decode cd_Specifier_faultOfParts 77 = .ok (.goto 4, 3) := by decide +kernel
theorem d_Specifier_faultOfParts_80 : decode cd_Specifier_faultOfParts 80 = .ok (.iconst 1, 1) := by decide +kernel
theorem d_Specifier_faultOfParts_81 : decode cd_Specifier_faultOfParts 81 = .ok (.invokevirtual 56, 3) := by decide +kernel
theorem d_Specifier_faultOfParts_84 : decode cd_Specifier_faultOfParts 84 = .ok (.ifCond .eq 6, 3) := by decide +kernel
theorem d_Specifier_faultOfParts_87 : decode cd_Specifier_faultOfParts 87 = .ok (.bipush 8, 2) := by decide +kernel
theorem d_Specifier_faultOfParts_89 : decode cd_Specifier_faultOfParts 89 = .ok (.ireturn, 1) := by decide +kernel
theorem d_Specifier_faultOfParts_90 : decode cd_Specifier_faultOfParts 90 = .ok (.iload_n 1, 1) := by decide +kernel
theorem d_Specifier_faultOfParts_91 : decode cd_Specifier_faultOfParts 91 = .ok (.ifCond .eq 26, 3) := by decide +kernel
theorem d_Specifier_faultOfParts_94 : decode cd_Specifier_faultOfParts 94 = .ok (.aload_n 0, 1) := by decide +kernel
theorem d_Specifier_faultOfParts_95 : decode cd_Specifier_faultOfParts 95 = .ok (.iconst 4, 1) := by decide +kernel
theorem d_Specifier_faultOfParts_96 : decode cd_Specifier_faultOfParts 96 = .ok (.bipush 8, 2) := by decide +kernel
theorem d_Specifier_faultOfParts_98 : decode cd_Specifier_faultOfParts 98 = .ok (.invokevirtual 77, 3) := by decide +kernel
theorem d_Specifier_faultOfParts_101 : decode cd_Specifier_faultOfParts 101 = .ok (.ifCond .ne 13, 3) := by decide +kernel
theorem d_Specifier_faultOfParts_104 : decode cd_Specifier_faultOfParts 104 = .ok (.aload_n 0, 1) := by decide +kernel
theorem d_Specifier_faultOfParts_105 : decode cd_Specifier_faultOfParts 105 = .ok (.iconst 1, 1) := by decide +kernel
theorem d_Specifier_faultOfParts_106 : decode cd_Specifier_faultOfParts 106 = .ok (.bipush 16, 2) := by decide +kernel
theorem d_Specifier_faultOfParts_108 : decode cd_Specifier_faultOfParts 108 = .ok (.invokevirtual 77, 3) := by decide +kernel
theorem d_Specifier_faultOfParts_111 : decode cd_Specifier_faultOfParts 111 = .ok (.ifCond .eq 6, 3) := by decide +kernel
theorem d_Specifier_faultOfParts_114 : decode cd_Specifier_faultOfParts 114 = .ok (.bipush 7, 2) := by decide +kernel
theorem d_Specifier_faultOfParts_116 : decode cd_Specifier_faultOfParts 116 = .ok (.ireturn, 1) := by decide +kernel
theorem d_Specifier_faultOfParts_117 : decode cd_Specifier_faultOfParts 117 = .ok (.aload_n 0, 1) := by decide +kernel
theorem d_Specifier_faultOfParts_118 : decode cd_Specifier_faultOfParts 118 = .ok (.aload_n 0, 1) := by decide +kernel
theorem d_Specifier_faultOfParts_119 : decode cd_Specifier_faultOfParts 119 = .ok (.invokevirtual 81, 3) := by decide +kernel
theorem d_Specifier_faultOfParts_122 : decode cd_Specifier_faultOfParts 122 = .ok (.iconst (-1), 1) := by decide +kernel
theorem d_Specifier_faultOfParts_123 : decode cd_Specifier_faultOfParts 123 = .ok (.ixor, 1) := by decide +kernel
theorem d_Specifier_faultOfParts_124 : decode cd_Specifier_faultOfParts 124 = .ok (.invokevirtual 56, 3) := by decide +kernel
theorem d_Specifier_faultOfParts_127 : decode cd_Specifier_faultOfParts 127 = .ok (.ifCond .eq 8, 3) := by decide +kernel
theorem d_Specifier_faultOfParts_130 : decode cd_Specifier_faultOfParts 130 = .ok (.bipush 9, 2) := by decide +kernel
theorem d_Specifier_faultOfParts_132 : decode cd_Specifier_faultOfParts 132 = .ok (.goto 4, 3) := by decide +kernel
theorem d_Specifier_faultOfParts_135 : decode cd_Specifier_faultOfParts 135 = .ok (.iconst 0, 1) := by decide +kernel
theorem d_Specifier_faultOfParts_136 : decode cd_Specifier_faultOfParts 136 = .ok (.ireturn, 1) := by decide +kernel
theorem m_119 : Cond.methodLink R_Specifier 69 y_String_indexOf ∈ gw := gm (i := 468) (by decide +kernel) (by decide +kernel)
theorem m_120 : Cond.methodLink R_Specifier 77 y_Specifier_hasBoth ∈ gw := gm (i := 565) (by decide +kernel) (by decide +kernel)
theorem m_121 : Cond.instanceMethod y_Specifier_hasBoth ∈ gw := gm (i := 566) (by decide +kernel) (by decide +kernel)
theorem m_122 : Cond.selects R_Specifier y_Specifier_hasBoth y_Specifier_hasBoth ∈ gw := gm (i := 567) (by decide +kernel) (by decide +kernel)
set_option maxRecDepth 100000 in
theorem m_123 : Cond.code y_Specifier_hasBoth cd_Specifier_hasBoth 3 (some .boolean) ∈ gw := gm (i := 568) rfl rfl
theorem m_124 : Cond.methodLink R_Specifier 81 y_Specifier_ownFlags ∈ gw := gm (i := 569) (by decide +kernel) (by decide +kernel)
theorem m_125 : Cond.instanceMethod y_Specifier_ownFlags ∈ gw := gm (i := 571) (by decide +kernel) (by decide +kernel)
theorem m_126 : Cond.selects R_Specifier y_Specifier_ownFlags y_Specifier_ownFlags ∈ gw := gm (i := 11) (by decide +kernel) (by decide +kernel)
set_option maxRecDepth 100000 in
theorem m_127 : Cond.code y_Specifier_ownFlags cd_Specifier_ownFlags 2 (some .int) ∈ gw := gm (i := 572) rfl rfl
def k_Specifier_faultOfParts_117 (t_flags : Int32) (t_conversion : Int32)  : Option Int32 :=
  ((f_Specifier_ownFlags t_conversion).bind fun u_119 => ((f_Specifier_hasAny t_flags (u_119 ^^^ (-1 : Int32))).bind fun u_124 => (if u_124 = 0 then some (0 : Int32) else some (9 : Int32))))
def k_Specifier_faultOfParts_90 (t_flags : Int32) (t_conversion : Int32) (x1 : Int32) : Option Int32 :=
  (if x1 = 0 then k_Specifier_faultOfParts_117 t_flags t_conversion  else ((f_Specifier_hasBoth t_flags (4 : Int32) (8 : Int32)).bind fun u_98 => (if u_98 = 0 then ((f_Specifier_hasBoth t_flags (1 : Int32) (16 : Int32)).bind fun u_108 => (if u_108 = 0 then k_Specifier_faultOfParts_117 t_flags t_conversion  else some (7 : Int32))) else some (7 : Int32))))
def k_Specifier_faultOfParts_81 (t_flags : Int32) (t_conversion : Int32) (x1 : Int32) (k1 : Int32) : Option Int32 :=
  ((f_Specifier_hasAny t_flags k1).bind fun u_81 => (if u_81 = 0 then k_Specifier_faultOfParts_90 t_flags t_conversion x1 else some (8 : Int32)))
def k_Specifier_faultOfParts_62 (t_flags : Int32) (t_width : Int32) (t_conversion : Int32) (x1 : Int32) : Option Int32 :=
  (if t_width = (-1 : Int32) then (if x1 = 0 then k_Specifier_faultOfParts_81 t_flags t_conversion x1 (1 : Int32) else k_Specifier_faultOfParts_81 t_flags t_conversion x1 (17 : Int32)) else k_Specifier_faultOfParts_90 t_flags t_conversion x1)
def k_Specifier_faultOfParts_41 (t_flags : Int32) (t_width : Int32) (t_conversion : Int32) (x1 : Int32) : Option Int32 :=
  (if t_conversion = (37 : Int32) then ((f_Specifier_hasAny t_flags (-2 : Int32)).bind fun u_53 => (if u_53 = 0 then k_Specifier_faultOfParts_62 t_flags t_width t_conversion x1 else some (7 : Int32))) else k_Specifier_faultOfParts_62 t_flags t_width t_conversion x1)
def k_Specifier_faultOfParts_17 (K : Nat) (t_flags : Int32) (t_width : Int32) (t_precision : Int32) (t_conversion : Int32) (k0 : Int32) : Option Int32 :=
  (if t_precision = (-1 : Int32) then k_Specifier_faultOfParts_41 t_flags t_width t_conversion k0 else ((f_String_indexOf K 3 t_conversion).bind fun u_32 => (if u_32 < 0 then k_Specifier_faultOfParts_41 t_flags t_width t_conversion k0 else some (6 : Int32))))
def f_Specifier_faultOfParts (K : Nat) (t_flags : Int32) (t_width : Int32) (t_precision : Int32) (t_conversion : Int32) : Option Int32 :=
  ((f_String_indexOf K 2 t_conversion).bind fun u_6 => (if u_6 < 0 then k_Specifier_faultOfParts_17 K t_flags t_width t_precision t_conversion (0 : Int32) else k_Specifier_faultOfParts_17 K t_flags t_width t_precision t_conversion (1 : Int32)))
set_option maxHeartbeats 4000000 in
set_option maxRecDepth 100000 in
theorem c_Specifier_faultOfParts (l : Launch) (G : Gt) (K : Nat) (qt : Nat) (t_index : Int32) (t_flags : Int32) (t_width : Int32) (t_precision : Int32) (t_conversion : Int32) (t_great : Int32) (t_known : Int32) (t_cutOff : Int32) (t_flagTwice : Int32) (t_last : Int32) (sz : Nat) (res : Int32)   (hf : f_Specifier_faultOfParts K t_flags t_width t_precision t_conversion = some res) : Met l y_Specifier_faultOfParts (.code y_Specifier_faultOfParts cd_Specifier_faultOfParts 2 (some .int) :: gw) { frames := 4, cells := 0, slots := 0, locals := 160 } (PC G ([.ref qt] : List Value) sz (w_Specifier_hasAny G qt t_index t_flags t_width t_precision t_conversion t_great t_known t_cutOff t_flagTwice t_last)) (QI G res (va_A (w_Specifier_hasAny G qt t_index t_flags t_width t_precision t_conversion t_great t_known t_cutOff t_flagTwice t_last) sz) (w_Specifier_hasAny G qt t_index t_flags t_width t_precision t_conversion t_great t_known t_cutOff t_flagTwice t_last)) 0 0 (va_A (w_Specifier_hasAny G qt t_index t_flags t_width t_precision t_conversion t_great t_known t_cutOff t_flagTwice t_last) sz) := by
  refine Met.ofW (cc := cd_Specifier_faultOfParts) (maxL := 2) (ret := (some .int)) (by decide) rfl ?_
  intro p e s m args below meth c s₁ B hml hv
  obtain ⟨rfl, hsz, hP, hE, hD0⟩ := hv
  have hx := B.exec
  have hb := B.bytes
  have hr := B.returns
  have hts := atoms_spec (ws := (.code y_Specifier_faultOfParts cd_Specifier_faultOfParts 2 (some .int) :: gw)) B.pre
  have hg : ∀ w ∈ gw, w.before _ s = true := fun w h => hts w (List.mem_cons_of_mem _ h)
  have hown : s.vm.findClass R_Specifier = some m.cls := findClass_of_methodNamed B.named
  have hlocks := B.notSynchronized
  subst hsz
  have hK := hE.K
  have hD := hD0.self (sz := s.heap.size)
  have hAb := hE.ab hD0
  obtain ⟨Q, hQ⟩ : ∃ Q, MQ below (QI G res (va_A (w_Specifier_hasAny G qt t_index t_flags t_width t_precision t_conversion t_great t_known t_cutOff t_flagTwice t_last) s.heap.size) (w_Specifier_hasAny G qt t_index t_flags t_width t_precision t_conversion t_great t_known t_cutOff t_flagTwice t_last)) ([.ref qt] : List Value).toArray s 0 0 (va_A (w_Specifier_hasAny G qt t_index t_flags t_width t_precision t_conversion t_great t_known t_cutOff t_flagTwice t_last) s.heap.size) = Q := ⟨_, rfl⟩
  show W p l e { frames := 4, cells := 0, slots := 0, locals := 160 } s m ([.ref qt] : List Value).toArray below meth c s.heap [] 0 0 (MQ below (QI G res (va_A (w_Specifier_hasAny G qt t_index t_flags t_width t_precision t_conversion t_great t_known t_cutOff t_flagTwice t_last) s.heap.size) (w_Specifier_hasAny G qt t_index t_flags t_width t_precision t_conversion t_great t_known t_cutOff t_flagTwice t_last)) ([.ref qt] : List Value).toArray s 0 0 (va_A (w_Specifier_hasAny G qt t_index t_flags t_width t_precision t_conversion t_great t_known t_cutOff t_flagTwice t_last) s.heap.size)) _
  rw [hQ]
  have hA : ∀ q : Nat, s.heap.size ≤ q → va_A (w_Specifier_hasAny G qt t_index t_flags t_width t_precision t_conversion t_great t_known t_cutOff t_flagTwice t_last) s.heap.size q := fun q h => Or.inr h
  obtain ⟨A, hAe⟩ : ∃ A, va_A (w_Specifier_hasAny G qt t_index t_flags t_width t_precision t_conversion t_great t_known t_cutOff t_flagTwice t_last) s.heap.size = A := ⟨_, rfl⟩
  rw [hAe] at hA hD hAb hQ
  have hS : va_S A s.heap s.heap [] := va_S.rf
  have hl := lv_entry (([.ref qt] : List Value)) (n := 2) (Nat.le_of_ble_eq_true rfl)
  rw [lg_entry_eq]
  generalize (lg_sl (([.ref qt] : List Value)) ++ List.replicate (2 - (lg_sl (([.ref qt] : List Value))).length) Slot.unset).toArray = ls at hl ⊢
  have hl : lv_has ls 2 [(0, .ref qt)] := hl
  have W_117 : k_Specifier_faultOfParts_117 t_flags t_conversion  = some res → ∀ (H : Heap) (locs : List Loc) (ls : Array Slot), va_P (gD G) vwCl (w_Specifier_hasAny G qt t_index t_flags t_width t_precision t_conversion t_great t_known t_cutOff t_flagTwice t_last) H → va_D A (w_Specifier_hasAny G qt t_index t_flags t_width t_precision t_conversion t_great t_known t_cutOff t_flagTwice t_last) → va_S A s.heap H locs → lv_has ls 2 [(0, .ref qt)] → W p l e { frames := 4, cells := 0, slots := 0, locals := 160 } s m ([.ref qt] : List Value).toArray below meth c H locs 0 0 Q (F0 m 117 ls []) := by
    intro   hf H locs ls hP hD hS hl
    unfold k_Specifier_faultOfParts_117 at hf
    refine lv_aload_n hx hb d_Specifier_faultOfParts_117 rfl (lv_at hl 0 rfl) ?_
    refine lv_aload_n hx hb d_Specifier_faultOfParts_118 rfl (lv_at hl 0 rfl) ?_
    obtain ⟨u_119, hu_119, hf⟩ := bd_ hf
    refine CALLWi (va_runV (As := []) (rest := [.ref qt]) ⟨hx, hb, hml, hown, hg⟩ (c_Specifier_ownFlags l G K qt t_index t_flags t_width t_precision t_conversion t_great t_known t_cutOff t_flagTwice t_last _ u_119  hu_119) (cwV 0 hg (gV m_124 m_125 m_126 m_114 m_127) rfl rfl rfl (by decide +kernel) ⟨Nat.le_of_ble_eq_true rfl, Nat.le_of_ble_eq_true rfl⟩) ⟨PC_b, va_recv hK hP (ci := 5) (q0 := 0) rfl rfl, PC_p hE hS hAb hP hD⟩ rfl rfl hl.1 rfl (lv_room (Nat.le_of_ble_eq_true rfl)) d_Specifier_faultOfParts_119 ⟨Nat.zero_le _, Nat.zero_le _⟩) hP hD hS hA (fun H locs hP hD hS => ?_)
    have hP : va_P (gD G) vwCl (w_Specifier_hasAny G qt t_index t_flags t_width t_precision t_conversion t_great t_known t_cutOff t_flagTwice t_last) H := hP
    have hD : va_D A (w_Specifier_hasAny G qt t_index t_flags t_width t_precision t_conversion t_great t_known t_cutOff t_flagTwice t_last) := hD
    refine lv_iconst (v := -1) hx hb d_Specifier_faultOfParts_122 (by decide) ?_
    refine lv_ixor hx hb d_Specifier_faultOfParts_123 ?_
    obtain ⟨u_124, hu_124, hf⟩ := bd_ hf
    refine CALLWz (va_runV (As := [.int (u_119 ^^^ (-1 : Int32))]) (rest := []) ⟨hx, hb, hml, hown, hg⟩ (c_Specifier_hasAny l G K qt t_index t_flags t_width t_precision t_conversion t_great t_known t_cutOff t_flagTwice t_last (u_119 ^^^ (-1 : Int32)) _ u_124  hu_124) (cwV 1 hg (gV m_111 m_112 m_113 m_114 m_115) rfl rfl rfl (by decide +kernel) ⟨Nat.le_of_ble_eq_true rfl, Nat.le_of_ble_eq_true rfl⟩) ⟨PC_b, va_recv hK hP (ci := 5) (q0 := 0) rfl rfl, PC_p hE hS hAb hP hD⟩ rfl rfl hl.1 rfl (lv_room (Nat.le_of_ble_eq_true rfl)) d_Specifier_faultOfParts_124 ⟨Nat.zero_le _, Nat.zero_le _⟩) hP hD hS hA (fun bu_124 H locs hP hD hS => ?_)
    have hP : va_P (gD G) vwCl (w_Specifier_hasAny G qt t_index t_flags t_width t_precision t_conversion t_great t_known t_cutOff t_flagTwice t_last) H := hP
    have hD : va_D A (w_Specifier_hasAny G qt t_index t_flags t_width t_precision t_conversion t_great t_known t_cutOff t_flagTwice t_last) := hD
    refine lv_if_eq (tgt := 135) hx hb d_Specifier_faultOfParts_127 (by decide) (fun c_127 => ?_) (fun c_127 => ?_)
    · have hf := ip_ c_127 hf
      refine lv_iconst (v := 0) hx hb d_Specifier_faultOfParts_135 (by decide) ?_
      obtain rfl := Option.some.inj hf
      rw [← hQ]
      exact W.iret (v := (0 : Int32)) hx hb hr (fun t9 ht hW => ⟨⟨(0 : Int32), (), rfl, rfl, ⟨by rw [ht]; exact hP, hD⟩⟩, hS.F ht⟩) hS.2.2 d_Specifier_faultOfParts_136
    · have hf := in_ c_127 hf
      refine lv_bipush (v := 9) hx hb d_Specifier_faultOfParts_130 (by decide) ?_
      refine lv_goto (tgt := 136) hx hb d_Specifier_faultOfParts_132 (by decide) ?_
      obtain rfl := Option.some.inj hf
      rw [← hQ]
      exact W.iret (v := (9 : Int32)) hx hb hr (fun t9 ht hW => ⟨⟨(9 : Int32), (), rfl, rfl, ⟨by rw [ht]; exact hP, hD⟩⟩, hS.F ht⟩) hS.2.2 d_Specifier_faultOfParts_136
  have W_90 : ∀ (x1 : Int32) (b_x1 : bl x1), k_Specifier_faultOfParts_90 t_flags t_conversion x1 = some res → ∀ (H : Heap) (locs : List Loc) (ls : Array Slot), va_P (gD G) vwCl (w_Specifier_hasAny G qt t_index t_flags t_width t_precision t_conversion t_great t_known t_cutOff t_flagTwice t_last) H → va_D A (w_Specifier_hasAny G qt t_index t_flags t_width t_precision t_conversion t_great t_known t_cutOff t_flagTwice t_last) → va_S A s.heap H locs → lv_has ls 2 [(0, .ref qt), (1, .int x1)] → W p l e { frames := 4, cells := 0, slots := 0, locals := 160 } s m ([.ref qt] : List Value).toArray below meth c H locs 0 0 Q (F0 m 90 ls []) := by
    intro x1 b_x1 hf H locs ls hP hD hS hl
    unfold k_Specifier_faultOfParts_90 at hf
    refine lv_iload_n hx hb d_Specifier_faultOfParts_90 rfl (lv_at hl 1 rfl) ?_
    refine lv_if_eq (tgt := 117) hx hb d_Specifier_faultOfParts_91 (by decide) (fun c_91 => ?_) (fun c_91 => ?_)
    · have hf := ip_ c_91 hf
      exact W_117   hf _ _ _ hP hD hS (lv_sub hl [0] rfl)
    · have hf := in_ c_91 hf
      refine lv_aload_n hx hb d_Specifier_faultOfParts_94 rfl (lv_at hl 0 rfl) ?_
      refine lv_iconst (v := 4) hx hb d_Specifier_faultOfParts_95 (by decide) ?_
      refine lv_bipush (v := 8) hx hb d_Specifier_faultOfParts_96 (by decide) ?_
      obtain ⟨u_98, hu_98, hf⟩ := bd_ hf
      refine CALLWz (va_runV (As := [.int (4 : Int32), .int (8 : Int32)]) (rest := []) ⟨hx, hb, hml, hown, hg⟩ (c_Specifier_hasBoth l G K qt t_index t_flags t_width t_precision t_conversion t_great t_known t_cutOff t_flagTwice t_last (4 : Int32) (8 : Int32) _ u_98  hu_98) (cwV 2 hg (gV m_120 m_121 m_122 m_114 m_123) rfl rfl rfl (by decide +kernel) ⟨Nat.le_of_ble_eq_true rfl, Nat.le_of_ble_eq_true rfl⟩) ⟨PC_b, va_recv hK hP (ci := 5) (q0 := 0) rfl rfl, PC_p hE hS hAb hP hD⟩ rfl rfl hl.1 rfl (lv_room (Nat.le_of_ble_eq_true rfl)) d_Specifier_faultOfParts_98 ⟨Nat.zero_le _, Nat.zero_le _⟩) hP hD hS hA (fun bu_98 H locs hP hD hS => ?_)
      have hP : va_P (gD G) vwCl (w_Specifier_hasAny G qt t_index t_flags t_width t_precision t_conversion t_great t_known t_cutOff t_flagTwice t_last) H := hP
      have hD : va_D A (w_Specifier_hasAny G qt t_index t_flags t_width t_precision t_conversion t_great t_known t_cutOff t_flagTwice t_last) := hD
      refine lv_if_ne (tgt := 114) hx hb d_Specifier_faultOfParts_101 (by decide) (fun c_101 => ?_) (fun c_101 => ?_)
      · have hf := in_ c_101 hf
        refine lv_bipush (v := 7) hx hb d_Specifier_faultOfParts_114 (by decide) ?_
        obtain rfl := Option.some.inj hf
        rw [← hQ]
        exact W.iret (v := (7 : Int32)) hx hb hr (fun t9 ht hW => ⟨⟨(7 : Int32), (), rfl, rfl, ⟨by rw [ht]; exact hP, hD⟩⟩, hS.F ht⟩) hS.2.2 d_Specifier_faultOfParts_116
      · have hf := ip_ c_101 hf
        refine lv_aload_n hx hb d_Specifier_faultOfParts_104 rfl (lv_at hl 0 rfl) ?_
        refine lv_iconst (v := 1) hx hb d_Specifier_faultOfParts_105 (by decide) ?_
        refine lv_bipush (v := 16) hx hb d_Specifier_faultOfParts_106 (by decide) ?_
        obtain ⟨u_108, hu_108, hf⟩ := bd_ hf
        refine CALLWz (va_runV (As := [.int (1 : Int32), .int (16 : Int32)]) (rest := []) ⟨hx, hb, hml, hown, hg⟩ (c_Specifier_hasBoth l G K qt t_index t_flags t_width t_precision t_conversion t_great t_known t_cutOff t_flagTwice t_last (1 : Int32) (16 : Int32) _ u_108  hu_108) (cwV 2 hg (gV m_120 m_121 m_122 m_114 m_123) rfl rfl rfl (by decide +kernel) ⟨Nat.le_of_ble_eq_true rfl, Nat.le_of_ble_eq_true rfl⟩) ⟨PC_b, va_recv hK hP (ci := 5) (q0 := 0) rfl rfl, PC_p hE hS hAb hP hD⟩ rfl rfl hl.1 rfl (lv_room (Nat.le_of_ble_eq_true rfl)) d_Specifier_faultOfParts_108 ⟨Nat.zero_le _, Nat.zero_le _⟩) hP hD hS hA (fun bu_108 H locs hP hD hS => ?_)
        have hP : va_P (gD G) vwCl (w_Specifier_hasAny G qt t_index t_flags t_width t_precision t_conversion t_great t_known t_cutOff t_flagTwice t_last) H := hP
        have hD : va_D A (w_Specifier_hasAny G qt t_index t_flags t_width t_precision t_conversion t_great t_known t_cutOff t_flagTwice t_last) := hD
        refine lv_if_eq (tgt := 117) hx hb d_Specifier_faultOfParts_111 (by decide) (fun c_111 => ?_) (fun c_111 => ?_)
        · have hf := ip_ c_111 hf
          exact W_117   hf _ _ _ hP hD hS (lv_sub hl [0] rfl)
        · have hf := in_ c_111 hf
          refine lv_bipush (v := 7) hx hb d_Specifier_faultOfParts_114 (by decide) ?_
          obtain rfl := Option.some.inj hf
          rw [← hQ]
          exact W.iret (v := (7 : Int32)) hx hb hr (fun t9 ht hW => ⟨⟨(7 : Int32), (), rfl, rfl, ⟨by rw [ht]; exact hP, hD⟩⟩, hS.F ht⟩) hS.2.2 d_Specifier_faultOfParts_116
  have W_81 : ∀ (x1 : Int32) (k1 : Int32) (b_x1 : bl x1), k_Specifier_faultOfParts_81 t_flags t_conversion x1 k1 = some res → ∀ (H : Heap) (locs : List Loc) (ls : Array Slot), va_P (gD G) vwCl (w_Specifier_hasAny G qt t_index t_flags t_width t_precision t_conversion t_great t_known t_cutOff t_flagTwice t_last) H → va_D A (w_Specifier_hasAny G qt t_index t_flags t_width t_precision t_conversion t_great t_known t_cutOff t_flagTwice t_last) → va_S A s.heap H locs → lv_has ls 2 [(0, .ref qt), (1, .int x1)] → W p l e { frames := 4, cells := 0, slots := 0, locals := 160 } s m ([.ref qt] : List Value).toArray below meth c H locs 0 0 Q (F0 m 81 ls [.int k1, .ref qt]) := by
    intro x1 k1 b_x1 hf H locs ls hP hD hS hl
    unfold k_Specifier_faultOfParts_81 at hf
    obtain ⟨u_81, hu_81, hf⟩ := bd_ hf
    refine CALLWz (va_runV (As := [.int k1]) (rest := []) ⟨hx, hb, hml, hown, hg⟩ (c_Specifier_hasAny l G K qt t_index t_flags t_width t_precision t_conversion t_great t_known t_cutOff t_flagTwice t_last k1 _ u_81  hu_81) (cwV 1 hg (gV m_111 m_112 m_113 m_114 m_115) rfl rfl rfl (by decide +kernel) ⟨Nat.le_of_ble_eq_true rfl, Nat.le_of_ble_eq_true rfl⟩) ⟨PC_b, va_recv hK hP (ci := 5) (q0 := 0) rfl rfl, PC_p hE hS hAb hP hD⟩ rfl rfl hl.1 rfl (lv_room (Nat.le_of_ble_eq_true rfl)) d_Specifier_faultOfParts_81 ⟨Nat.zero_le _, Nat.zero_le _⟩) hP hD hS hA (fun bu_81 H locs hP hD hS => ?_)
    have hP : va_P (gD G) vwCl (w_Specifier_hasAny G qt t_index t_flags t_width t_precision t_conversion t_great t_known t_cutOff t_flagTwice t_last) H := hP
    have hD : va_D A (w_Specifier_hasAny G qt t_index t_flags t_width t_precision t_conversion t_great t_known t_cutOff t_flagTwice t_last) := hD
    refine lv_if_eq (tgt := 90) hx hb d_Specifier_faultOfParts_84 (by decide) (fun c_84 => ?_) (fun c_84 => ?_)
    · have hf := ip_ c_84 hf
      exact W_90 x1 b_x1 hf _ _ _ hP hD hS (lv_sub hl [0, 1] rfl)
    · have hf := in_ c_84 hf
      refine lv_bipush (v := 8) hx hb d_Specifier_faultOfParts_87 (by decide) ?_
      obtain rfl := Option.some.inj hf
      rw [← hQ]
      exact W.iret (v := (8 : Int32)) hx hb hr (fun t9 ht hW => ⟨⟨(8 : Int32), (), rfl, rfl, ⟨by rw [ht]; exact hP, hD⟩⟩, hS.F ht⟩) hS.2.2 d_Specifier_faultOfParts_89
  have W_62 : ∀ (x1 : Int32) (b_x1 : bl x1), k_Specifier_faultOfParts_62 t_flags t_width t_conversion x1 = some res → ∀ (H : Heap) (locs : List Loc) (ls : Array Slot), va_P (gD G) vwCl (w_Specifier_hasAny G qt t_index t_flags t_width t_precision t_conversion t_great t_known t_cutOff t_flagTwice t_last) H → va_D A (w_Specifier_hasAny G qt t_index t_flags t_width t_precision t_conversion t_great t_known t_cutOff t_flagTwice t_last) → va_S A s.heap H locs → lv_has ls 2 [(0, .ref qt), (1, .int x1)] → W p l e { frames := 4, cells := 0, slots := 0, locals := 160 } s m ([.ref qt] : List Value).toArray below meth c H locs 0 0 Q (F0 m 62 ls []) := by
    intro x1 b_x1 hf H locs ls hP hD hS hl
    unfold k_Specifier_faultOfParts_62 at hf
    refine lv_aload_n hx hb d_Specifier_faultOfParts_62 rfl (lv_at hl 0 rfl) ?_
    refine va_get (D := gD G) (ci := 5) (v := .int t_width) (C := R_Specifier) (T := F_Specifier) (N := 10) hx hb hg in_Specifier hown hK hP 0 rfl rfl 2 (by decide) (hg _ m_116) (fun _ h9 => h9) rfl d_Specifier_faultOfParts_63 ?_
    refine lv_iconst (v := -1) hx hb d_Specifier_faultOfParts_66 (by decide) ?_
    refine lv_icmp_ne (tgt := 90) hx hb d_Specifier_faultOfParts_67 (by decide) (fun c_67 => ?_) (fun c_67 => ?_)
    · have hf := in_ c_67 hf
      exact W_90 x1 b_x1 hf _ _ _ hP hD hS (lv_sub hl [0, 1] rfl)
    · have hf := ip_ c_67 hf
      refine lv_aload_n hx hb d_Specifier_faultOfParts_70 rfl (lv_at hl 0 rfl) ?_
      refine lv_iload_n hx hb d_Specifier_faultOfParts_71 rfl (lv_at hl 1 rfl) ?_
      refine lv_if_eq (tgt := 80) hx hb d_Specifier_faultOfParts_72 (by decide) (fun c_72 => ?_) (fun c_72 => ?_)
      · have hf := ip_ c_72 hf
        refine lv_iconst (v := 1) hx hb d_Specifier_faultOfParts_80 (by decide) ?_
        exact W_81 x1 (1 : Int32) b_x1 hf _ _ _ hP hD hS (lv_sub hl [0, 1] rfl)
      · have hf := in_ c_72 hf
        refine lv_bipush (v := 17) hx hb d_Specifier_faultOfParts_75 (by decide) ?_
        refine lv_goto (tgt := 81) hx hb d_Specifier_faultOfParts_77 (by decide) ?_
        exact W_81 x1 (17 : Int32) b_x1 hf _ _ _ hP hD hS (lv_sub hl [0, 1] rfl)
  have W_41 : ∀ (x1 : Int32) (b_x1 : bl x1), k_Specifier_faultOfParts_41 t_flags t_width t_conversion x1 = some res → ∀ (H : Heap) (locs : List Loc) (ls : Array Slot), va_P (gD G) vwCl (w_Specifier_hasAny G qt t_index t_flags t_width t_precision t_conversion t_great t_known t_cutOff t_flagTwice t_last) H → va_D A (w_Specifier_hasAny G qt t_index t_flags t_width t_precision t_conversion t_great t_known t_cutOff t_flagTwice t_last) → va_S A s.heap H locs → lv_has ls 2 [(0, .ref qt), (1, .int x1)] → W p l e { frames := 4, cells := 0, slots := 0, locals := 160 } s m ([.ref qt] : List Value).toArray below meth c H locs 0 0 Q (F0 m 41 ls []) := by
    intro x1 b_x1 hf H locs ls hP hD hS hl
    unfold k_Specifier_faultOfParts_41 at hf
    refine lv_aload_n hx hb d_Specifier_faultOfParts_41 rfl (lv_at hl 0 rfl) ?_
    refine va_get (D := gD G) (ci := 5) (v := .int t_conversion) (C := R_Specifier) (T := F_Specifier) (N := 10) hx hb hg in_Specifier hown hK hP 0 rfl rfl 4 (by decide) (hg _ m_118) (fun _ h9 => h9) rfl d_Specifier_faultOfParts_42 ?_
    refine lv_bipush (v := 37) hx hb d_Specifier_faultOfParts_45 (by decide) ?_
    refine lv_icmp_ne (tgt := 62) hx hb d_Specifier_faultOfParts_47 (by decide) (fun c_47 => ?_) (fun c_47 => ?_)
    · have hf := in_ c_47 hf
      exact W_62 x1 b_x1 hf _ _ _ hP hD hS (lv_sub hl [0, 1] rfl)
    · have hf := ip_ c_47 hf
      refine lv_aload_n hx hb d_Specifier_faultOfParts_50 rfl (lv_at hl 0 rfl) ?_
      refine lv_bipush (v := -2) hx hb d_Specifier_faultOfParts_51 (by decide) ?_
      obtain ⟨u_53, hu_53, hf⟩ := bd_ hf
      refine CALLWz (va_runV (As := [.int (-2 : Int32)]) (rest := []) ⟨hx, hb, hml, hown, hg⟩ (c_Specifier_hasAny l G K qt t_index t_flags t_width t_precision t_conversion t_great t_known t_cutOff t_flagTwice t_last (-2 : Int32) _ u_53  hu_53) (cwV 1 hg (gV m_111 m_112 m_113 m_114 m_115) rfl rfl rfl (by decide +kernel) ⟨Nat.le_of_ble_eq_true rfl, Nat.le_of_ble_eq_true rfl⟩) ⟨PC_b, va_recv hK hP (ci := 5) (q0 := 0) rfl rfl, PC_p hE hS hAb hP hD⟩ rfl rfl hl.1 rfl (lv_room (Nat.le_of_ble_eq_true rfl)) d_Specifier_faultOfParts_53 ⟨Nat.zero_le _, Nat.zero_le _⟩) hP hD hS hA (fun bu_53 H locs hP hD hS => ?_)
      have hP : va_P (gD G) vwCl (w_Specifier_hasAny G qt t_index t_flags t_width t_precision t_conversion t_great t_known t_cutOff t_flagTwice t_last) H := hP
      have hD : va_D A (w_Specifier_hasAny G qt t_index t_flags t_width t_precision t_conversion t_great t_known t_cutOff t_flagTwice t_last) := hD
      refine lv_if_eq (tgt := 62) hx hb d_Specifier_faultOfParts_56 (by decide) (fun c_56 => ?_) (fun c_56 => ?_)
      · have hf := ip_ c_56 hf
        exact W_62 x1 b_x1 hf _ _ _ hP hD hS (lv_sub hl [0, 1] rfl)
      · have hf := in_ c_56 hf
        refine lv_bipush (v := 7) hx hb d_Specifier_faultOfParts_59 (by decide) ?_
        obtain rfl := Option.some.inj hf
        rw [← hQ]
        exact W.iret (v := (7 : Int32)) hx hb hr (fun t9 ht hW => ⟨⟨(7 : Int32), (), rfl, rfl, ⟨by rw [ht]; exact hP, hD⟩⟩, hS.F ht⟩) hS.2.2 d_Specifier_faultOfParts_61
  have W_17 : ∀ (k0 : Int32) (b_k0 : bl k0), k_Specifier_faultOfParts_17 K t_flags t_width t_precision t_conversion k0 = some res → ∀ (H : Heap) (locs : List Loc) (ls : Array Slot), va_P (gD G) vwCl (w_Specifier_hasAny G qt t_index t_flags t_width t_precision t_conversion t_great t_known t_cutOff t_flagTwice t_last) H → va_D A (w_Specifier_hasAny G qt t_index t_flags t_width t_precision t_conversion t_great t_known t_cutOff t_flagTwice t_last) → va_S A s.heap H locs → lv_has ls 2 [(0, .ref qt)] → W p l e { frames := 4, cells := 0, slots := 0, locals := 160 } s m ([.ref qt] : List Value).toArray below meth c H locs 0 0 Q (F0 m 17 ls [.int k0]) := by
    intro k0 b_k0 hf H locs ls hP hD hS hl
    unfold k_Specifier_faultOfParts_17 at hf
    refine lv_istore_n (lv' := [(1, .int k0), (0, .ref qt)]) hx hb d_Specifier_faultOfParts_17 rfl hl (by decide) rfl (fun ls hl => ?_)
    refine lv_aload_n hx hb d_Specifier_faultOfParts_18 rfl (lv_at hl 1 rfl) ?_
    refine va_get (D := gD G) (ci := 5) (v := .int t_precision) (C := R_Specifier) (T := F_Specifier) (N := 10) hx hb hg in_Specifier hown hK hP 0 rfl rfl 3 (by decide) (hg _ m_117) (fun _ h9 => h9) rfl d_Specifier_faultOfParts_19 ?_
    refine lv_iconst (v := -1) hx hb d_Specifier_faultOfParts_22 (by decide) ?_
    refine lv_icmp_eq (tgt := 41) hx hb d_Specifier_faultOfParts_23 (by decide) (fun c_23 => ?_) (fun c_23 => ?_)
    · have hf := ip_ c_23 hf
      exact W_41 k0 b_k0 hf _ _ _ hP hD hS (lv_sub hl [1, 0] rfl)
    · have hf := in_ c_23 hf
      refine va_ldcS (own := R_Specifier) (tx := "%cdox") (q := gT G 3) hx hb hown (hE.sr ("SpecifierDesk$Specifier", 75, "%cdox", 3) (List.mem_of_getElem? (i := 3) rfl)) d_Specifier_faultOfParts_26 ?_
      refine lv_aload_n hx hb d_Specifier_faultOfParts_28 rfl (lv_at hl 1 rfl) ?_
      refine va_get (D := gD G) (ci := 5) (v := .int t_conversion) (C := R_Specifier) (T := F_Specifier) (N := 10) hx hb hg in_Specifier hown hK hP 0 rfl rfl 4 (by decide) (hg _ m_118) (fun _ h9 => h9) rfl d_Specifier_faultOfParts_29 ?_
      obtain ⟨u_32, hu_32, hf⟩ := bd_ hf
      refine CALLi (va_runV (As := [.int t_conversion]) (rest := []) ⟨hx, hb, hml, hown, hg⟩ (c_String_indexOf l G K 3 t_conversion _ u_32 (by decide) hu_32) (cwV 1 hg (gV m_119 m_51 m_52 m_21 m_53) rfl rfl rfl (by decide +kernel) ⟨Nat.le_of_ble_eq_true rfl, Nat.le_of_ble_eq_true rfl⟩) ⟨PC_b, vk_recv (hE.vs hAb) (by decide) hS, PC_p hE hS hAb (hP.sub [] rfl) (hD.sub [] (by decide) rfl)⟩ rfl rfl hl.1 rfl (lv_room (Nat.le_of_ble_eq_true rfl)) d_Specifier_faultOfParts_32 ⟨Nat.zero_le _, Nat.zero_le _⟩) hP hD hS hA [] rfl rfl rfl (fun H locs hP hD hS => ?_)
      have hP : va_P (gD G) vwCl (w_Specifier_hasAny G qt t_index t_flags t_width t_precision t_conversion t_great t_known t_cutOff t_flagTwice t_last) H := hP
      have hD : va_D A (w_Specifier_hasAny G qt t_index t_flags t_width t_precision t_conversion t_great t_known t_cutOff t_flagTwice t_last) := hD
      refine lv_if_lt (tgt := 41) hx hb d_Specifier_faultOfParts_35 (by decide) (fun c_35 => ?_) (fun c_35 => ?_)
      · have hf := ip_ c_35 hf
        exact W_41 k0 b_k0 hf _ _ _ hP hD hS (lv_sub hl [1, 0] rfl)
      · have hf := in_ c_35 hf
        refine lv_bipush (v := 6) hx hb d_Specifier_faultOfParts_38 (by decide) ?_
        obtain rfl := Option.some.inj hf
        rw [← hQ]
        exact W.iret (v := (6 : Int32)) hx hb hr (fun t9 ht hW => ⟨⟨(6 : Int32), (), rfl, rfl, ⟨by rw [ht]; exact hP, hD⟩⟩, hS.F ht⟩) hS.2.2 d_Specifier_faultOfParts_40
  unfold f_Specifier_faultOfParts at hf
  refine va_ldcS (own := R_Specifier) (tx := "doxefga") (q := gT G 2) hx hb hown (hE.sr ("SpecifierDesk$Specifier", 67, "doxefga", 2) (List.mem_of_getElem? (i := 2) rfl)) d_Specifier_faultOfParts_0 ?_
  refine lv_aload_n hx hb d_Specifier_faultOfParts_2 rfl (lv_at hl 0 rfl) ?_
  refine va_get (D := gD G) (ci := 5) (v := .int t_conversion) (C := R_Specifier) (T := F_Specifier) (N := 10) hx hb hg in_Specifier hown hK hP 0 rfl rfl 4 (by decide) (hg _ m_118) (fun _ h9 => h9) rfl d_Specifier_faultOfParts_3 ?_
  obtain ⟨u_6, hu_6, hf⟩ := bd_ hf
  refine CALLi (va_runV (As := [.int t_conversion]) (rest := []) ⟨hx, hb, hml, hown, hg⟩ (c_String_indexOf l G K 2 t_conversion _ u_6 (by decide) hu_6) (cwV 1 hg (gV m_119 m_51 m_52 m_21 m_53) rfl rfl rfl (by decide +kernel) ⟨Nat.le_of_ble_eq_true rfl, Nat.le_of_ble_eq_true rfl⟩) ⟨PC_b, vk_recv (hE.vs hAb) (by decide) hS, PC_p hE hS hAb (hP.sub [] rfl) (hD.sub [] (by decide) rfl)⟩ rfl rfl hl.1 rfl (lv_room (Nat.le_of_ble_eq_true rfl)) d_Specifier_faultOfParts_6 ⟨Nat.zero_le _, Nat.zero_le _⟩) hP hD hS hA [] rfl rfl rfl (fun H locs hP hD hS => ?_)
  have hP : va_P (gD G) vwCl (w_Specifier_hasAny G qt t_index t_flags t_width t_precision t_conversion t_great t_known t_cutOff t_flagTwice t_last) H := hP
  have hD : va_D A (w_Specifier_hasAny G qt t_index t_flags t_width t_precision t_conversion t_great t_known t_cutOff t_flagTwice t_last) := hD
  refine lv_if_lt (tgt := 16) hx hb d_Specifier_faultOfParts_9 (by decide) (fun c_9 => ?_) (fun c_9 => ?_)
  · have hf := ip_ c_9 hf
    refine lv_iconst (v := 0) hx hb d_Specifier_faultOfParts_16 (by decide) ?_
    exact W_17 (0 : Int32) bl_0 hf _ _ _ hP hD hS (lv_sub hl [0] rfl)
  · have hf := in_ c_9 hf
    refine lv_iconst (v := 1) hx hb d_Specifier_faultOfParts_12 (by decide) ?_
    refine lv_goto (tgt := 17) hx hb d_Specifier_faultOfParts_13 (by decide) ?_
    exact W_17 (1 : Int32) bl_1 hf _ _ _ hP hD hS (lv_sub hl [0] rfl)
theorem d_Specifier_fault_0 : decode cd_Specifier_fault 0 = .ok (.aload_n 0, 1) := by decide +kernel
theorem d_Specifier_fault_1 : decode cd_Specifier_fault 1 = .ok (.getfield 33, 3) := by decide +kernel
theorem d_Specifier_fault_4 : decode cd_Specifier_fault 4 = .ok (.ifCond .eq 5, 3) := by decide +kernel
theorem d_Specifier_fault_7 : decode cd_Specifier_fault 7 = .ok (.iconst 1, 1) := by decide +kernel
theorem d_Specifier_fault_8 : decode cd_Specifier_fault 8 = .ok (.ireturn, 1) := by decide +kernel
theorem d_Specifier_fault_9 : decode cd_Specifier_fault 9 = .ok (.aload_n 0, 1) := by decide +kernel
theorem d_Specifier_fault_10 : decode cd_Specifier_fault 10 = .ok (.getfield 9, 3) := by decide +kernel
theorem d_Specifier_fault_13 : decode cd_Specifier_fault 13 = .ok (.sipush 999, 3) := by decide +kernel
theorem d_Specifier_fault_16 : decode cd_Specifier_fault 16 = .ok (.if_icmp .gt 23, 3) := by decide +kernel
theorem d_Specifier_fault_19 : decode cd_Specifier_fault 19 = .ok (.aload_n 0, 1) := by decide +kernel
theorem d_Specifier_fault_20 : decode cd_Specifier_fault 20 = .ok (.getfield 16, 3) := by decide +kernel
theorem d_Specifier_fault_23 : decode cd_Specifier_fault 23 = .ok (.sipush 999, 3) := by decide +kernel
theorem d_Specifier_fault_26 : decode cd_Specifier_fault 26 = .ok (.if_icmp .gt 13, 3) := by decide +kernel
theorem d_Specifier_fault_29 : decode cd_Specifier_fault 29 = .ok (.aload_n 0, 1) := by decide +kernel
theorem d_Specifier_fault_30 : decode cd_Specifier_fault 30 = .ok (.getfield 19, 3) := by decide +kernel
theorem d_Specifier_fault_33 : decode cd_Specifier_fault 33 = .ok (.sipush 999, 3) := by decide +kernel
theorem d_Specifier_fault_36 : decode cd_Specifier_fault 36 = .ok (.if_icmp .le 5, 3) := by decide +kernel
theorem d_Specifier_fault_39 : decode cd_Specifier_fault 39 = .ok (.iconst 2, 1) := by decide +kernel
theorem d_Specifier_fault_40 : decode cd_Specifier_fault 40 = .ok (.ireturn, 1) := by decide +kernel
theorem d_Specifier_fault_41 : decode cd_Specifier_fault 41 = .ok (.aload_n 0, 1) := by decide +kernel
theorem d_Specifier_fault_42 : decode cd_Specifier_fault 42 = .ok (.getfield 36, 3) := by decide +kernel
theorem d_Specifier_fault_45 : decode cd_Specifier_fault 45 = .ok (.ifCond .eq 5, 3) := by decide +kernel
theorem d_Specifier_fault_48 : decode cd_Specifier_fault 48 = .ok (.iconst 3, 1) := by decide +kernel
theorem d_Specifier_fault_49 : decode cd_Specifier_fault 49 = .ok (.ireturn, 1) := by decide +kernel
theorem d_Specifier_fault_50 : decode cd_Specifier_fault 50 = .ok (.aload_n 0, 1) := by decide +kernel
theorem d_Specifier_fault_51 : decode cd_Specifier_fault 51 = .ok (.getfield 30, 3) := by decide +kernel
theorem d_Specifier_fault_54 : decode cd_Specifier_fault 54 = .ok (.ifCond .ne 5, 3) := by decide +kernel
theorem d_Specifier_fault_57 : decode cd_Specifier_fault 57 = .ok (.iconst 4, 1) := by decide +kernel
theorem d_Specifier_fault_58 : decode cd_Specifier_fault 58 = .ok (.ireturn, 1) := by decide +kernel
theorem d_Specifier_fault_59 : decode cd_Specifier_fault 59 = .ok (.aload_n 0, 1) := by decide +kernel
theorem d_Specifier_fault_60 : decode cd_Specifier_fault 60 = .ok (.getfield 22, 3) := by decide +kernel
theorem d_Specifier_fault_63 : decode cd_Specifier_fault 63 = .ok (.bipush 110, 2) := by decide +kernel
theorem d_Specifier_fault_65 : decode cd_Specifier_fault 65 = .ok (.if_icmp .ne 10, 3) := by decide +kernel
theorem d_Specifier_fault_68 : decode cd_Specifier_fault 68 = .ok (.aload_n 0, 1) := by decide +kernel
theorem d_Specifier_fault_69 : decode cd_Specifier_fault 69 = .ok (.invokevirtual 60, 3) := by decide +kernel
theorem d_Specifier_fault_72 : decode cd_Specifier_fault 72 = .ok (.goto 7, 3) := by decide +kernel
theorem d_Specifier_fault_75 : decode cd_Specifier_fault 75 = .ok (.aload_n 0, 1) := by decide +kernel
theorem d_Specifier_fault_76 : decode cd_Specifier_fault 76 = .ok (.invokevirtual 64, 3) := by decide +kernel
theorem d_Specifier_fault_79 : decode cd_Specifier_fault 79 = .ok (.ireturn, 1) := by decide +kernel
theorem m_128 : Cond.fieldLink R_Specifier 33 "SpecifierDesk$Specifier" "cutOff" "Z" ∈ gw := gm (i := 151) (by decide +kernel) (by decide +kernel)
theorem m_129 : Cond.fieldLink R_Specifier 9 "SpecifierDesk$Specifier" "index" "I" ∈ gw := gm (i := 138) (by decide +kernel) (by decide +kernel)
theorem m_130 : Cond.fieldLink R_Specifier 36 "SpecifierDesk$Specifier" "flagTwice" "Z" ∈ gw := gm (i := 152) (by decide +kernel) (by decide +kernel)
theorem m_131 : Cond.fieldLink R_Specifier 30 "SpecifierDesk$Specifier" "known" "Z" ∈ gw := gm (i := 150) (by decide +kernel) (by decide +kernel)
theorem m_132 : Cond.methodLink R_Specifier 64 y_Specifier_faultOfParts ∈ gw := gm (i := 559) (by decide +kernel) (by decide +kernel)
theorem m_133 : Cond.instanceMethod y_Specifier_faultOfParts ∈ gw := gm (i := 561) (by decide +kernel) (by decide +kernel)
theorem m_134 : Cond.selects R_Specifier y_Specifier_faultOfParts y_Specifier_faultOfParts ∈ gw := gm (i := 10) (by decide +kernel) (by decide +kernel)
set_option maxRecDepth 100000 in
theorem m_135 : Cond.code y_Specifier_faultOfParts cd_Specifier_faultOfParts 2 (some .int) ∈ gw := gm (i := 562) rfl rfl
theorem m_136 : Cond.methodLink R_Specifier 60 y_Specifier_faultOfLineEnd ∈ gw := gm (i := 555) (by decide +kernel) (by decide +kernel)
theorem m_137 : Cond.instanceMethod y_Specifier_faultOfLineEnd ∈ gw := gm (i := 557) (by decide +kernel) (by decide +kernel)
theorem m_138 : Cond.selects R_Specifier y_Specifier_faultOfLineEnd y_Specifier_faultOfLineEnd ∈ gw := gm (i := 9) (by decide +kernel) (by decide +kernel)
set_option maxRecDepth 100000 in
theorem m_139 : Cond.code y_Specifier_faultOfLineEnd cd_Specifier_faultOfLineEnd 1 (some .int) ∈ gw := gm (i := 558) rfl rfl
def f_Specifier_fault (K : Nat) (t_index : Int32) (t_flags : Int32) (t_width : Int32) (t_precision : Int32) (t_conversion : Int32) (t_known : Int32) (t_cutOff : Int32) (t_flagTwice : Int32) : Option Int32 :=
  (if t_cutOff = 0 then (if (999 : Int32) < t_index then some (2 : Int32) else (if (999 : Int32) < t_width then some (2 : Int32) else (if t_precision ≤ (999 : Int32) then (if t_flagTwice = 0 then (if t_known = 0 then some (4 : Int32) else (if t_conversion = (110 : Int32) then ((f_Specifier_faultOfLineEnd t_flags t_width t_precision).bind fun u_69 => some u_69) else ((f_Specifier_faultOfParts K t_flags t_width t_precision t_conversion).bind fun u_76 => some u_76))) else some (3 : Int32)) else some (2 : Int32)))) else some (1 : Int32))
set_option maxHeartbeats 4000000 in
set_option maxRecDepth 100000 in
theorem c_Specifier_fault (l : Launch) (G : Gt) (K : Nat) (qt : Nat) (t_index : Int32) (t_flags : Int32) (t_width : Int32) (t_precision : Int32) (t_conversion : Int32) (t_great : Int32) (t_known : Int32) (t_cutOff : Int32) (t_flagTwice : Int32) (t_last : Int32) (sz : Nat) (res : Int32)   (hf : f_Specifier_fault K t_index t_flags t_width t_precision t_conversion t_known t_cutOff t_flagTwice = some res) : Met l y_Specifier_fault (.code y_Specifier_fault cd_Specifier_fault 1 (some .int) :: gw) { frames := 5, cells := 0, slots := 0, locals := 200 } (PC G ([.ref qt] : List Value) sz (w_Specifier_hasAny G qt t_index t_flags t_width t_precision t_conversion t_great t_known t_cutOff t_flagTwice t_last)) (QI G res (va_A (w_Specifier_hasAny G qt t_index t_flags t_width t_precision t_conversion t_great t_known t_cutOff t_flagTwice t_last) sz) (w_Specifier_hasAny G qt t_index t_flags t_width t_precision t_conversion t_great t_known t_cutOff t_flagTwice t_last)) 0 0 (va_A (w_Specifier_hasAny G qt t_index t_flags t_width t_precision t_conversion t_great t_known t_cutOff t_flagTwice t_last) sz) := by
  refine Met.ofW (cc := cd_Specifier_fault) (maxL := 1) (ret := (some .int)) (by decide) rfl ?_
  intro p e s m args below meth c s₁ B hml hv
  obtain ⟨rfl, hsz, hP, hE, hD0⟩ := hv
  have hx := B.exec
  have hb := B.bytes
  have hr := B.returns
  have hts := atoms_spec (ws := (.code y_Specifier_fault cd_Specifier_fault 1 (some .int) :: gw)) B.pre
  have hg : ∀ w ∈ gw, w.before _ s = true := fun w h => hts w (List.mem_cons_of_mem _ h)
  have hown : s.vm.findClass R_Specifier = some m.cls := findClass_of_methodNamed B.named
  have hlocks := B.notSynchronized
  subst hsz
  have hK := hE.K
  have hD := hD0.self (sz := s.heap.size)
  have hAb := hE.ab hD0
  obtain ⟨Q, hQ⟩ : ∃ Q, MQ below (QI G res (va_A (w_Specifier_hasAny G qt t_index t_flags t_width t_precision t_conversion t_great t_known t_cutOff t_flagTwice t_last) s.heap.size) (w_Specifier_hasAny G qt t_index t_flags t_width t_precision t_conversion t_great t_known t_cutOff t_flagTwice t_last)) ([.ref qt] : List Value).toArray s 0 0 (va_A (w_Specifier_hasAny G qt t_index t_flags t_width t_precision t_conversion t_great t_known t_cutOff t_flagTwice t_last) s.heap.size) = Q := ⟨_, rfl⟩
  show W p l e { frames := 5, cells := 0, slots := 0, locals := 200 } s m ([.ref qt] : List Value).toArray below meth c s.heap [] 0 0 (MQ below (QI G res (va_A (w_Specifier_hasAny G qt t_index t_flags t_width t_precision t_conversion t_great t_known t_cutOff t_flagTwice t_last) s.heap.size) (w_Specifier_hasAny G qt t_index t_flags t_width t_precision t_conversion t_great t_known t_cutOff t_flagTwice t_last)) ([.ref qt] : List Value).toArray s 0 0 (va_A (w_Specifier_hasAny G qt t_index t_flags t_width t_precision t_conversion t_great t_known t_cutOff t_flagTwice t_last) s.heap.size)) _
  rw [hQ]
  have hA : ∀ q : Nat, s.heap.size ≤ q → va_A (w_Specifier_hasAny G qt t_index t_flags t_width t_precision t_conversion t_great t_known t_cutOff t_flagTwice t_last) s.heap.size q := fun q h => Or.inr h
  obtain ⟨A, hAe⟩ : ∃ A, va_A (w_Specifier_hasAny G qt t_index t_flags t_width t_precision t_conversion t_great t_known t_cutOff t_flagTwice t_last) s.heap.size = A := ⟨_, rfl⟩
  rw [hAe] at hA hD hAb hQ
  have hS : va_S A s.heap s.heap [] := va_S.rf
  have hl := lv_entry (([.ref qt] : List Value)) (n := 1) (Nat.le_of_ble_eq_true rfl)
  rw [lg_entry_eq]
  generalize (lg_sl (([.ref qt] : List Value)) ++ List.replicate (1 - (lg_sl (([.ref qt] : List Value))).length) Slot.unset).toArray = ls at hl ⊢
  have hl : lv_has ls 1 [(0, .ref qt)] := hl
  unfold f_Specifier_fault at hf
  refine lv_aload_n hx hb d_Specifier_fault_0 rfl (lv_at hl 0 rfl) ?_
  refine va_get (D := gD G) (ci := 5) (v := .int t_cutOff) (C := R_Specifier) (T := F_Specifier) (N := 10) hx hb hg in_Specifier hown hK hP 0 rfl rfl 7 (by decide) (hg _ m_128) (fun _ h9 => h9) rfl d_Specifier_fault_1 ?_
  refine lv_if_eq (tgt := 9) hx hb d_Specifier_fault_4 (by decide) (fun c_4 => ?_) (fun c_4 => ?_)
  · have hf := ip_ c_4 hf
    refine lv_aload_n hx hb d_Specifier_fault_9 rfl (lv_at hl 0 rfl) ?_
    refine va_get (D := gD G) (ci := 5) (v := .int t_index) (C := R_Specifier) (T := F_Specifier) (N := 10) hx hb hg in_Specifier hown hK hP 0 rfl rfl 0 (by decide) (hg _ m_129) (fun _ h9 => h9) rfl d_Specifier_fault_10 ?_
    refine lv_sipush (v := 999) hx hb d_Specifier_fault_13 (by decide) ?_
    refine lv_icmp_gt (tgt := 39) hx hb d_Specifier_fault_16 (by decide) (fun c_16 => ?_) (fun c_16 => ?_)
    · have hf := ip_ c_16 hf
      refine lv_iconst (v := 2) hx hb d_Specifier_fault_39 (by decide) ?_
      obtain rfl := Option.some.inj hf
      rw [← hQ]
      exact W.iret (v := (2 : Int32)) hx hb hr (fun t9 ht hW => ⟨⟨(2 : Int32), (), rfl, rfl, ⟨by rw [ht]; exact hP, hD⟩⟩, hS.F ht⟩) hS.2.2 d_Specifier_fault_40
    · have hf := in_ c_16 hf
      refine lv_aload_n hx hb d_Specifier_fault_19 rfl (lv_at hl 0 rfl) ?_
      refine va_get (D := gD G) (ci := 5) (v := .int t_width) (C := R_Specifier) (T := F_Specifier) (N := 10) hx hb hg in_Specifier hown hK hP 0 rfl rfl 2 (by decide) (hg _ m_116) (fun _ h9 => h9) rfl d_Specifier_fault_20 ?_
      refine lv_sipush (v := 999) hx hb d_Specifier_fault_23 (by decide) ?_
      refine lv_icmp_gt (tgt := 39) hx hb d_Specifier_fault_26 (by decide) (fun c_26 => ?_) (fun c_26 => ?_)
      · have hf := ip_ c_26 hf
        refine lv_iconst (v := 2) hx hb d_Specifier_fault_39 (by decide) ?_
        obtain rfl := Option.some.inj hf
        rw [← hQ]
        exact W.iret (v := (2 : Int32)) hx hb hr (fun t9 ht hW => ⟨⟨(2 : Int32), (), rfl, rfl, ⟨by rw [ht]; exact hP, hD⟩⟩, hS.F ht⟩) hS.2.2 d_Specifier_fault_40
      · have hf := in_ c_26 hf
        refine lv_aload_n hx hb d_Specifier_fault_29 rfl (lv_at hl 0 rfl) ?_
        refine va_get (D := gD G) (ci := 5) (v := .int t_precision) (C := R_Specifier) (T := F_Specifier) (N := 10) hx hb hg in_Specifier hown hK hP 0 rfl rfl 3 (by decide) (hg _ m_117) (fun _ h9 => h9) rfl d_Specifier_fault_30 ?_
        refine lv_sipush (v := 999) hx hb d_Specifier_fault_33 (by decide) ?_
        refine lv_icmp_le (tgt := 41) hx hb d_Specifier_fault_36 (by decide) (fun c_36 => ?_) (fun c_36 => ?_)
        · have hf := ip_ c_36 hf
          refine lv_aload_n hx hb d_Specifier_fault_41 rfl (lv_at hl 0 rfl) ?_
          refine va_get (D := gD G) (ci := 5) (v := .int t_flagTwice) (C := R_Specifier) (T := F_Specifier) (N := 10) hx hb hg in_Specifier hown hK hP 0 rfl rfl 8 (by decide) (hg _ m_130) (fun _ h9 => h9) rfl d_Specifier_fault_42 ?_
          refine lv_if_eq (tgt := 50) hx hb d_Specifier_fault_45 (by decide) (fun c_45 => ?_) (fun c_45 => ?_)
          · have hf := ip_ c_45 hf
            refine lv_aload_n hx hb d_Specifier_fault_50 rfl (lv_at hl 0 rfl) ?_
            refine va_get (D := gD G) (ci := 5) (v := .int t_known) (C := R_Specifier) (T := F_Specifier) (N := 10) hx hb hg in_Specifier hown hK hP 0 rfl rfl 6 (by decide) (hg _ m_131) (fun _ h9 => h9) rfl d_Specifier_fault_51 ?_
            refine lv_if_ne (tgt := 59) hx hb d_Specifier_fault_54 (by decide) (fun c_54 => ?_) (fun c_54 => ?_)
            · have hf := in_ c_54 hf
              refine lv_aload_n hx hb d_Specifier_fault_59 rfl (lv_at hl 0 rfl) ?_
              refine va_get (D := gD G) (ci := 5) (v := .int t_conversion) (C := R_Specifier) (T := F_Specifier) (N := 10) hx hb hg in_Specifier hown hK hP 0 rfl rfl 4 (by decide) (hg _ m_118) (fun _ h9 => h9) rfl d_Specifier_fault_60 ?_
              refine lv_bipush (v := 110) hx hb d_Specifier_fault_63 (by decide) ?_
              refine lv_icmp_ne (tgt := 75) hx hb d_Specifier_fault_65 (by decide) (fun c_65 => ?_) (fun c_65 => ?_)
              · have hf := in_ c_65 hf
                refine lv_aload_n hx hb d_Specifier_fault_75 rfl (lv_at hl 0 rfl) ?_
                obtain ⟨u_76, hu_76, hf⟩ := bd_ hf
                refine CALLWi (va_runV (As := []) (rest := []) ⟨hx, hb, hml, hown, hg⟩ (c_Specifier_faultOfParts l G K qt t_index t_flags t_width t_precision t_conversion t_great t_known t_cutOff t_flagTwice t_last _ u_76  hu_76) (cwV 0 hg (gV m_132 m_133 m_134 m_114 m_135) rfl rfl rfl (by decide +kernel) ⟨Nat.le_of_ble_eq_true rfl, Nat.le_of_ble_eq_true rfl⟩) ⟨PC_b, va_recv hK hP (ci := 5) (q0 := 0) rfl rfl, PC_p hE hS hAb hP hD⟩ rfl rfl hl.1 rfl (lv_room (Nat.le_of_ble_eq_true rfl)) d_Specifier_fault_76 ⟨Nat.zero_le _, Nat.zero_le _⟩) hP hD hS hA (fun H locs hP hD hS => ?_)
                have hP : va_P (gD G) vwCl (w_Specifier_hasAny G qt t_index t_flags t_width t_precision t_conversion t_great t_known t_cutOff t_flagTwice t_last) H := hP
                have hD : va_D A (w_Specifier_hasAny G qt t_index t_flags t_width t_precision t_conversion t_great t_known t_cutOff t_flagTwice t_last) := hD
                obtain rfl := Option.some.inj hf
                rw [← hQ]
                exact W.iret (v := u_76) hx hb hr (fun t9 ht hW => ⟨⟨u_76, (), rfl, rfl, ⟨by rw [ht]; exact hP, hD⟩⟩, hS.F ht⟩) hS.2.2 d_Specifier_fault_79
              · have hf := ip_ c_65 hf
                refine lv_aload_n hx hb d_Specifier_fault_68 rfl (lv_at hl 0 rfl) ?_
                obtain ⟨u_69, hu_69, hf⟩ := bd_ hf
                refine CALLWi (va_runV (As := []) (rest := []) ⟨hx, hb, hml, hown, hg⟩ (c_Specifier_faultOfLineEnd l G K qt t_index t_flags t_width t_precision t_conversion t_great t_known t_cutOff t_flagTwice t_last _ u_69  hu_69) (cwV 0 hg (gV m_136 m_137 m_138 m_114 m_139) rfl rfl rfl (by decide +kernel) ⟨Nat.le_of_ble_eq_true rfl, Nat.le_of_ble_eq_true rfl⟩) ⟨PC_b, va_recv hK hP (ci := 5) (q0 := 0) rfl rfl, PC_p hE hS hAb hP hD⟩ rfl rfl hl.1 rfl (lv_room (Nat.le_of_ble_eq_true rfl)) d_Specifier_fault_69 ⟨Nat.zero_le _, Nat.zero_le _⟩) hP hD hS hA (fun H locs hP hD hS => ?_)
                have hP : va_P (gD G) vwCl (w_Specifier_hasAny G qt t_index t_flags t_width t_precision t_conversion t_great t_known t_cutOff t_flagTwice t_last) H := hP
                have hD : va_D A (w_Specifier_hasAny G qt t_index t_flags t_width t_precision t_conversion t_great t_known t_cutOff t_flagTwice t_last) := hD
                refine lv_goto (tgt := 79) hx hb d_Specifier_fault_72 (by decide) ?_
                obtain rfl := Option.some.inj hf
                rw [← hQ]
                exact W.iret (v := u_69) hx hb hr (fun t9 ht hW => ⟨⟨u_69, (), rfl, rfl, ⟨by rw [ht]; exact hP, hD⟩⟩, hS.F ht⟩) hS.2.2 d_Specifier_fault_79
            · have hf := ip_ c_54 hf
              refine lv_iconst (v := 4) hx hb d_Specifier_fault_57 (by decide) ?_
              obtain rfl := Option.some.inj hf
              rw [← hQ]
              exact W.iret (v := (4 : Int32)) hx hb hr (fun t9 ht hW => ⟨⟨(4 : Int32), (), rfl, rfl, ⟨by rw [ht]; exact hP, hD⟩⟩, hS.F ht⟩) hS.2.2 d_Specifier_fault_58
          · have hf := in_ c_45 hf
            refine lv_iconst (v := 3) hx hb d_Specifier_fault_48 (by decide) ?_
            obtain rfl := Option.some.inj hf
            rw [← hQ]
            exact W.iret (v := (3 : Int32)) hx hb hr (fun t9 ht hW => ⟨⟨(3 : Int32), (), rfl, rfl, ⟨by rw [ht]; exact hP, hD⟩⟩, hS.F ht⟩) hS.2.2 d_Specifier_fault_49
        · have hf := in_ c_36 hf
          refine lv_iconst (v := 2) hx hb d_Specifier_fault_39 (by decide) ?_
          obtain rfl := Option.some.inj hf
          rw [← hQ]
          exact W.iret (v := (2 : Int32)) hx hb hr (fun t9 ht hW => ⟨⟨(2 : Int32), (), rfl, rfl, ⟨by rw [ht]; exact hP, hD⟩⟩, hS.F ht⟩) hS.2.2 d_Specifier_fault_40
  · have hf := in_ c_4 hf
    refine lv_iconst (v := 1) hx hb d_Specifier_fault_7 (by decide) ?_
    obtain rfl := Option.some.inj hf
    rw [← hQ]
    exact W.iret (v := (1 : Int32)) hx hb hr (fun t9 ht hW => ⟨⟨(1 : Int32), (), rfl, rfl, ⟨by rw [ht]; exact hP, hD⟩⟩, hS.F ht⟩) hS.2.2 d_Specifier_fault_8
theorem d_Specifier_flagOf_0 : decode cd_Specifier_flagOf 0 = .ok (.iload_n 0, 1) := by decide +kernel
theorem d_Specifier_flagOf_1 : decode cd_Specifier_flagOf 1 = .ok (.tableswitch 101 32 48 #[89, 101, 101, 85, 101, 101, 101, 101, 98, 101, 101, 87, 95, 83, 101, 101, 92], 83) := by decide +kernel
theorem d_Specifier_flagOf_84 : decode cd_Specifier_flagOf 84 = .ok (.iconst 1, 1) := by decide +kernel
theorem d_Specifier_flagOf_85 : decode cd_Specifier_flagOf 85 = .ok (.ireturn, 1) := by decide +kernel
theorem d_Specifier_flagOf_86 : decode cd_Specifier_flagOf 86 = .ok (.iconst 2, 1) := by decide +kernel
theorem d_Specifier_flagOf_87 : decode cd_Specifier_flagOf 87 = .ok (.ireturn, 1) := by decide +kernel
theorem d_Specifier_flagOf_88 : decode cd_Specifier_flagOf 88 = .ok (.iconst 4, 1) := by decide +kernel
theorem d_Specifier_flagOf_89 : decode cd_Specifier_flagOf 89 = .ok (.ireturn, 1) := by decide +kernel
theorem d_Specifier_flagOf_90 : decode cd_Specifier_flagOf 90 = .ok (.bipush 8, 2) := by decide +kernel
theorem d_Specifier_flagOf_92 : decode cd_Specifier_flagOf 92 = .ok (.ireturn, 1) := by decide +kernel
theorem d_Specifier_flagOf_93 : decode cd_Specifier_flagOf 93 = .ok (.bipush 16, 2) := by decide +kernel
theorem d_Specifier_flagOf_95 : decode cd_Specifier_flagOf 95 = .ok (.ireturn, 1) := by decide +kernel
theorem d_Specifier_flagOf_96 : decode cd_Specifier_flagOf 96 = .ok (.bipush 32, 2) := by decide +kernel
theorem d_Specifier_flagOf_98 : decode cd_Specifier_flagOf 98 = .ok (.ireturn, 1) := by decide +kernel
theorem d_Specifier_flagOf_99 : decode cd_Specifier_flagOf 99 = .ok (.bipush 64, 2) := by decide +kernel
theorem d_Specifier_flagOf_101 : decode cd_Specifier_flagOf 101 = .ok (.ireturn, 1) := by decide +kernel
theorem d_Specifier_flagOf_102 : decode cd_Specifier_flagOf 102 = .ok (.iconst 0, 1) := by decide +kernel
theorem d_Specifier_flagOf_103 : decode cd_Specifier_flagOf 103 = .ok (.ireturn, 1) := by decide +kernel
def f_Specifier_flagOf (a1 : Int32) : Option Int32 :=
  (if a1 = 32 then some (8 : Int32) else (if a1 = 35 then some (2 : Int32) else (if a1 = 40 then some (64 : Int32) else (if a1 = 43 then some (4 : Int32) else (if a1 = 44 then some (32 : Int32) else (if a1 = 45 then some (1 : Int32) else (if a1 = 48 then some (16 : Int32) else some (0 : Int32))))))))
set_option maxHeartbeats 4000000 in
set_option maxRecDepth 100000 in
theorem c_Specifier_flagOf (l : Launch) (G : Gt) (K : Nat) (a1 : Int32) (sz : Nat) (res : Int32)   (hf : f_Specifier_flagOf a1 = some res) : Met l y_Specifier_flagOf (.code y_Specifier_flagOf cd_Specifier_flagOf 1 (some .int) :: gw) { frames := 0, cells := 0, slots := 0, locals := 0 } (PC G ([.int a1] : List Value) sz (w_Preconditions_checkIndexn G )) (QI G res (va_A (w_Preconditions_checkIndexn G ) sz) (w_Preconditions_checkIndexn G )) 0 0 (va_A (w_Preconditions_checkIndexn G ) sz) := by
  refine Met.ofW (cc := cd_Specifier_flagOf) (maxL := 1) (ret := (some .int)) (by decide) rfl ?_
  intro p e s m args below meth c s₁ B hml hv
  obtain ⟨rfl, hsz, hP, hE, hD0⟩ := hv
  have hx := B.exec
  have hb := B.bytes
  have hr := B.returns
  have hts := atoms_spec (ws := (.code y_Specifier_flagOf cd_Specifier_flagOf 1 (some .int) :: gw)) B.pre
  have hg : ∀ w ∈ gw, w.before _ s = true := fun w h => hts w (List.mem_cons_of_mem _ h)
  have hown : s.vm.findClass R_Specifier = some m.cls := findClass_of_methodNamed B.named
  have hlocks := B.notSynchronized
  subst hsz
  have hK := hE.K
  have hD := hD0.self (sz := s.heap.size)
  have hAb := hE.ab hD0
  obtain ⟨Q, hQ⟩ : ∃ Q, MQ below (QI G res (va_A (w_Preconditions_checkIndexn G ) s.heap.size) (w_Preconditions_checkIndexn G )) ([.int a1] : List Value).toArray s 0 0 (va_A (w_Preconditions_checkIndexn G ) s.heap.size) = Q := ⟨_, rfl⟩
  show W p l e { frames := 0, cells := 0, slots := 0, locals := 0 } s m ([.int a1] : List Value).toArray below meth c s.heap [] 0 0 (MQ below (QI G res (va_A (w_Preconditions_checkIndexn G ) s.heap.size) (w_Preconditions_checkIndexn G )) ([.int a1] : List Value).toArray s 0 0 (va_A (w_Preconditions_checkIndexn G ) s.heap.size)) _
  rw [hQ]
  have hA : ∀ q : Nat, s.heap.size ≤ q → va_A (w_Preconditions_checkIndexn G ) s.heap.size q := fun q h => Or.inr h
  obtain ⟨A, hAe⟩ : ∃ A, va_A (w_Preconditions_checkIndexn G ) s.heap.size = A := ⟨_, rfl⟩
  rw [hAe] at hA hD hAb hQ
  have hS : va_S A s.heap s.heap [] := va_S.rf
  have hl := lv_entry (([.int a1] : List Value)) (n := 1) (Nat.le_of_ble_eq_true rfl)
  rw [lg_entry_eq]
  generalize (lg_sl (([.int a1] : List Value)) ++ List.replicate (1 - (lg_sl (([.int a1] : List Value))).length) Slot.unset).toArray = ls at hl ⊢
  have hl : lv_has ls 1 [(0, .int a1)] := hl
  unfold f_Specifier_flagOf at hf
  refine lv_iload_n hx hb d_Specifier_flagOf_0 rfl (lv_at hl 0 rfl) ?_
  by_cases c_1_0 : a1 = 32
  · have hf := ip_ c_1_0 hf
    refine lv_tableIn (tgt := 90) hx hb d_Specifier_flagOf_1 (by rw [c_1_0]; decide) (by rw [c_1_0]; decide) (by rw [c_1_0]; rfl) (by decide) ?_
    refine lv_bipush (v := 8) hx hb d_Specifier_flagOf_90 (by decide) ?_
    obtain rfl := Option.some.inj hf
    rw [← hQ]
    exact W.iret (v := (8 : Int32)) hx hb hr (fun t9 ht hW => ⟨⟨(8 : Int32), (), rfl, rfl, ⟨by rw [ht]; exact hP, hD⟩⟩, hS.F ht⟩) hS.2.2 d_Specifier_flagOf_92
  · have hf := in_ c_1_0 hf
    by_cases c_1_1 : a1 = 35
    · have hf := ip_ c_1_1 hf
      refine lv_tableIn (tgt := 86) hx hb d_Specifier_flagOf_1 (by rw [c_1_1]; decide) (by rw [c_1_1]; decide) (by rw [c_1_1]; rfl) (by decide) ?_
      refine lv_iconst (v := 2) hx hb d_Specifier_flagOf_86 (by decide) ?_
      obtain rfl := Option.some.inj hf
      rw [← hQ]
      exact W.iret (v := (2 : Int32)) hx hb hr (fun t9 ht hW => ⟨⟨(2 : Int32), (), rfl, rfl, ⟨by rw [ht]; exact hP, hD⟩⟩, hS.F ht⟩) hS.2.2 d_Specifier_flagOf_87
    · have hf := in_ c_1_1 hf
      by_cases c_1_2 : a1 = 40
      · have hf := ip_ c_1_2 hf
        refine lv_tableIn (tgt := 99) hx hb d_Specifier_flagOf_1 (by rw [c_1_2]; decide) (by rw [c_1_2]; decide) (by rw [c_1_2]; rfl) (by decide) ?_
        refine lv_bipush (v := 64) hx hb d_Specifier_flagOf_99 (by decide) ?_
        obtain rfl := Option.some.inj hf
        rw [← hQ]
        exact W.iret (v := (64 : Int32)) hx hb hr (fun t9 ht hW => ⟨⟨(64 : Int32), (), rfl, rfl, ⟨by rw [ht]; exact hP, hD⟩⟩, hS.F ht⟩) hS.2.2 d_Specifier_flagOf_101
      · have hf := in_ c_1_2 hf
        by_cases c_1_3 : a1 = 43
        · have hf := ip_ c_1_3 hf
          refine lv_tableIn (tgt := 88) hx hb d_Specifier_flagOf_1 (by rw [c_1_3]; decide) (by rw [c_1_3]; decide) (by rw [c_1_3]; rfl) (by decide) ?_
          refine lv_iconst (v := 4) hx hb d_Specifier_flagOf_88 (by decide) ?_
          obtain rfl := Option.some.inj hf
          rw [← hQ]
          exact W.iret (v := (4 : Int32)) hx hb hr (fun t9 ht hW => ⟨⟨(4 : Int32), (), rfl, rfl, ⟨by rw [ht]; exact hP, hD⟩⟩, hS.F ht⟩) hS.2.2 d_Specifier_flagOf_89
        · have hf := in_ c_1_3 hf
          by_cases c_1_4 : a1 = 44
          · have hf := ip_ c_1_4 hf
            refine lv_tableIn (tgt := 96) hx hb d_Specifier_flagOf_1 (by rw [c_1_4]; decide) (by rw [c_1_4]; decide) (by rw [c_1_4]; rfl) (by decide) ?_
            refine lv_bipush (v := 32) hx hb d_Specifier_flagOf_96 (by decide) ?_
            obtain rfl := Option.some.inj hf
            rw [← hQ]
            exact W.iret (v := (32 : Int32)) hx hb hr (fun t9 ht hW => ⟨⟨(32 : Int32), (), rfl, rfl, ⟨by rw [ht]; exact hP, hD⟩⟩, hS.F ht⟩) hS.2.2 d_Specifier_flagOf_98
          · have hf := in_ c_1_4 hf
            by_cases c_1_5 : a1 = 45
            · have hf := ip_ c_1_5 hf
              refine lv_tableIn (tgt := 84) hx hb d_Specifier_flagOf_1 (by rw [c_1_5]; decide) (by rw [c_1_5]; decide) (by rw [c_1_5]; rfl) (by decide) ?_
              refine lv_iconst (v := 1) hx hb d_Specifier_flagOf_84 (by decide) ?_
              obtain rfl := Option.some.inj hf
              rw [← hQ]
              exact W.iret (v := (1 : Int32)) hx hb hr (fun t9 ht hW => ⟨⟨(1 : Int32), (), rfl, rfl, ⟨by rw [ht]; exact hP, hD⟩⟩, hS.F ht⟩) hS.2.2 d_Specifier_flagOf_85
            · have hf := in_ c_1_5 hf
              by_cases c_1_6 : a1 = 48
              · have hf := ip_ c_1_6 hf
                refine lv_tableIn (tgt := 93) hx hb d_Specifier_flagOf_1 (by rw [c_1_6]; decide) (by rw [c_1_6]; decide) (by rw [c_1_6]; rfl) (by decide) ?_
                refine lv_bipush (v := 16) hx hb d_Specifier_flagOf_93 (by decide) ?_
                obtain rfl := Option.some.inj hf
                rw [← hQ]
                exact W.iret (v := (16 : Int32)) hx hb hr (fun t9 ht hW => ⟨⟨(16 : Int32), (), rfl, rfl, ⟨by rw [ht]; exact hP, hD⟩⟩, hS.F ht⟩) hS.2.2 d_Specifier_flagOf_95
              · have hf := in_ c_1_6 hf
                by_cases o_1 : a1.toInt < 32 ∨ 48 < a1.toInt
                · refine lv_tableOut (tgt := 102) hx hb d_Specifier_flagOf_1 o_1 (by decide) ?_
                  refine lv_iconst (v := 0) hx hb d_Specifier_flagOf_102 (by decide) ?_
                  obtain rfl := Option.some.inj hf
                  rw [← hQ]
                  exact W.iret (v := (0 : Int32)) hx hb hr (fun t9 ht hW => ⟨⟨(0 : Int32), (), rfl, rfl, ⟨by rw [ht]; exact hP, hD⟩⟩, hS.F ht⟩) hS.2.2 d_Specifier_flagOf_103
                · have e_1 : a1.toInt = 33 ∨ a1.toInt = 34 ∨ a1.toInt = 36 ∨ a1.toInt = 37 ∨ a1.toInt = 38 ∨ a1.toInt = 39 ∨ a1.toInt = 41 ∨ a1.toInt = 42 ∨ a1.toInt = 46 ∨ a1.toInt = 47 := by have n_0 := lv_neT c_1_0 (show (32 : Int32).toInt = 32 from rfl); have n_1 := lv_neT c_1_1 (show (35 : Int32).toInt = 35 from rfl); have n_2 := lv_neT c_1_2 (show (40 : Int32).toInt = 40 from rfl); have n_3 := lv_neT c_1_3 (show (43 : Int32).toInt = 43 from rfl); have n_4 := lv_neT c_1_4 (show (44 : Int32).toInt = 44 from rfl); have n_5 := lv_neT c_1_5 (show (45 : Int32).toInt = 45 from rfl); have n_6 := lv_neT c_1_6 (show (48 : Int32).toInt = 48 from rfl); omega
                  rcases e_1 with e | e | e | e | e | e | e | e | e | e
                  · refine lv_tableIn (tgt := 102) hx hb d_Specifier_flagOf_1 (by rw [e]; decide) (by rw [e]; decide) (by rw [e]; rfl) (by decide) ?_
                    refine lv_iconst (v := 0) hx hb d_Specifier_flagOf_102 (by decide) ?_
                    obtain rfl := Option.some.inj hf
                    rw [← hQ]
                    exact W.iret (v := (0 : Int32)) hx hb hr (fun t9 ht hW => ⟨⟨(0 : Int32), (), rfl, rfl, ⟨by rw [ht]; exact hP, hD⟩⟩, hS.F ht⟩) hS.2.2 d_Specifier_flagOf_103
                  · refine lv_tableIn (tgt := 102) hx hb d_Specifier_flagOf_1 (by rw [e]; decide) (by rw [e]; decide) (by rw [e]; rfl) (by decide) ?_
                    refine lv_iconst (v := 0) hx hb d_Specifier_flagOf_102 (by decide) ?_
                    obtain rfl := Option.some.inj hf
                    rw [← hQ]
                    exact W.iret (v := (0 : Int32)) hx hb hr (fun t9 ht hW => ⟨⟨(0 : Int32), (), rfl, rfl, ⟨by rw [ht]; exact hP, hD⟩⟩, hS.F ht⟩) hS.2.2 d_Specifier_flagOf_103
                  · refine lv_tableIn (tgt := 102) hx hb d_Specifier_flagOf_1 (by rw [e]; decide) (by rw [e]; decide) (by rw [e]; rfl) (by decide) ?_
                    refine lv_iconst (v := 0) hx hb d_Specifier_flagOf_102 (by decide) ?_
                    obtain rfl := Option.some.inj hf
                    rw [← hQ]
                    exact W.iret (v := (0 : Int32)) hx hb hr (fun t9 ht hW => ⟨⟨(0 : Int32), (), rfl, rfl, ⟨by rw [ht]; exact hP, hD⟩⟩, hS.F ht⟩) hS.2.2 d_Specifier_flagOf_103
                  · refine lv_tableIn (tgt := 102) hx hb d_Specifier_flagOf_1 (by rw [e]; decide) (by rw [e]; decide) (by rw [e]; rfl) (by decide) ?_
                    refine lv_iconst (v := 0) hx hb d_Specifier_flagOf_102 (by decide) ?_
                    obtain rfl := Option.some.inj hf
                    rw [← hQ]
                    exact W.iret (v := (0 : Int32)) hx hb hr (fun t9 ht hW => ⟨⟨(0 : Int32), (), rfl, rfl, ⟨by rw [ht]; exact hP, hD⟩⟩, hS.F ht⟩) hS.2.2 d_Specifier_flagOf_103
                  · refine lv_tableIn (tgt := 102) hx hb d_Specifier_flagOf_1 (by rw [e]; decide) (by rw [e]; decide) (by rw [e]; rfl) (by decide) ?_
                    refine lv_iconst (v := 0) hx hb d_Specifier_flagOf_102 (by decide) ?_
                    obtain rfl := Option.some.inj hf
                    rw [← hQ]
                    exact W.iret (v := (0 : Int32)) hx hb hr (fun t9 ht hW => ⟨⟨(0 : Int32), (), rfl, rfl, ⟨by rw [ht]; exact hP, hD⟩⟩, hS.F ht⟩) hS.2.2 d_Specifier_flagOf_103
                  · refine lv_tableIn (tgt := 102) hx hb d_Specifier_flagOf_1 (by rw [e]; decide) (by rw [e]; decide) (by rw [e]; rfl) (by decide) ?_
                    refine lv_iconst (v := 0) hx hb d_Specifier_flagOf_102 (by decide) ?_
                    obtain rfl := Option.some.inj hf
                    rw [← hQ]
                    exact W.iret (v := (0 : Int32)) hx hb hr (fun t9 ht hW => ⟨⟨(0 : Int32), (), rfl, rfl, ⟨by rw [ht]; exact hP, hD⟩⟩, hS.F ht⟩) hS.2.2 d_Specifier_flagOf_103
                  · refine lv_tableIn (tgt := 102) hx hb d_Specifier_flagOf_1 (by rw [e]; decide) (by rw [e]; decide) (by rw [e]; rfl) (by decide) ?_
                    refine lv_iconst (v := 0) hx hb d_Specifier_flagOf_102 (by decide) ?_
                    obtain rfl := Option.some.inj hf
                    rw [← hQ]
                    exact W.iret (v := (0 : Int32)) hx hb hr (fun t9 ht hW => ⟨⟨(0 : Int32), (), rfl, rfl, ⟨by rw [ht]; exact hP, hD⟩⟩, hS.F ht⟩) hS.2.2 d_Specifier_flagOf_103
                  · refine lv_tableIn (tgt := 102) hx hb d_Specifier_flagOf_1 (by rw [e]; decide) (by rw [e]; decide) (by rw [e]; rfl) (by decide) ?_
                    refine lv_iconst (v := 0) hx hb d_Specifier_flagOf_102 (by decide) ?_
                    obtain rfl := Option.some.inj hf
                    rw [← hQ]
                    exact W.iret (v := (0 : Int32)) hx hb hr (fun t9 ht hW => ⟨⟨(0 : Int32), (), rfl, rfl, ⟨by rw [ht]; exact hP, hD⟩⟩, hS.F ht⟩) hS.2.2 d_Specifier_flagOf_103
                  · refine lv_tableIn (tgt := 102) hx hb d_Specifier_flagOf_1 (by rw [e]; decide) (by rw [e]; decide) (by rw [e]; rfl) (by decide) ?_
                    refine lv_iconst (v := 0) hx hb d_Specifier_flagOf_102 (by decide) ?_
                    obtain rfl := Option.some.inj hf
                    rw [← hQ]
                    exact W.iret (v := (0 : Int32)) hx hb hr (fun t9 ht hW => ⟨⟨(0 : Int32), (), rfl, rfl, ⟨by rw [ht]; exact hP, hD⟩⟩, hS.F ht⟩) hS.2.2 d_Specifier_flagOf_103
                  · refine lv_tableIn (tgt := 102) hx hb d_Specifier_flagOf_1 (by rw [e]; decide) (by rw [e]; decide) (by rw [e]; rfl) (by decide) ?_
                    refine lv_iconst (v := 0) hx hb d_Specifier_flagOf_102 (by decide) ?_
                    obtain rfl := Option.some.inj hf
                    rw [← hQ]
                    exact W.iret (v := (0 : Int32)) hx hb hr (fun t9 ht hW => ⟨⟨(0 : Int32), (), rfl, rfl, ⟨by rw [ht]; exact hP, hD⟩⟩, hS.F ht⟩) hS.2.2 d_Specifier_flagOf_103
theorem d_Specifier_numberIn_0 : decode cd_Specifier_numberIn 0 = .ok (.iconst 0, 1) := by decide +kernel
theorem d_Specifier_numberIn_1 : decode cd_Specifier_numberIn 1 = .ok (.istore_n 3, 1) := by decide +kernel
theorem d_Specifier_numberIn_2 : decode cd_Specifier_numberIn 2 = .ok (.iload_n 1, 1) := by decide +kernel
theorem d_Specifier_numberIn_3 : decode cd_Specifier_numberIn 3 = .ok (.istore 4, 2) := by decide +kernel
theorem d_Specifier_numberIn_5 : decode cd_Specifier_numberIn 5 = .ok (.iload 4, 2) := by decide +kernel
theorem d_Specifier_numberIn_7 : decode cd_Specifier_numberIn 7 = .ok (.iload_n 2, 1) := by decide +kernel
theorem d_Specifier_numberIn_8 : decode cd_Specifier_numberIn 8 = .ok (.if_icmp .ge 30, 3) := by decide +kernel
theorem d_Specifier_numberIn_11 : decode cd_Specifier_numberIn 11 = .ok (.sipush 1000, 3) := by decide +kernel
theorem d_Specifier_numberIn_14 : decode cd_Specifier_numberIn 14 = .ok (.iload_n 3, 1) := by decide +kernel
theorem d_Specifier_numberIn_15 : decode cd_Specifier_numberIn 15 = .ok (.bipush 10, 2) := by decide +kernel
theorem d_Specifier_numberIn_17 : decode cd_Specifier_numberIn 17 = .ok (.imul, 1) := by decide +kernel
theorem d_Specifier_numberIn_18 : decode cd_Specifier_numberIn 18 = .ok (.aload_n 0, 1) := by decide +kernel
theorem d_Specifier_numberIn_19 : decode cd_Specifier_numberIn 19 = .ok (.iload 4, 2) := by decide +kernel
theorem d_Specifier_numberIn_21 : decode cd_Specifier_numberIn 21 = .ok (.invokevirtual 84, 3) := by decide +kernel
theorem d_Specifier_numberIn_24 : decode cd_Specifier_numberIn 24 = .ok (.iadd, 1) := by decide +kernel
theorem d_Specifier_numberIn_25 : decode cd_Specifier_numberIn 25 = .ok (.bipush 48, 2) := by decide +kernel
theorem d_Specifier_numberIn_27 : decode cd_Specifier_numberIn 27 = .ok (.isub, 1) := by decide +kernel
theorem d_Specifier_numberIn_28 : decode cd_Specifier_numberIn 28 = .ok (.invokestatic 109, 3) := by decide +kernel
theorem d_Specifier_numberIn_31 : decode cd_Specifier_numberIn 31 = .ok (.istore_n 3, 1) := by decide +kernel
theorem d_Specifier_numberIn_32 : decode cd_Specifier_numberIn 32 = .ok (.iinc 4 1, 3) := by decide +kernel
theorem d_Specifier_numberIn_35 : decode cd_Specifier_numberIn 35 = .ok (.goto (-30), 3) := by decide +kernel
theorem d_Specifier_numberIn_38 : decode cd_Specifier_numberIn 38 = .ok (.iload_n 3, 1) := by decide +kernel
theorem d_Specifier_numberIn_39 : decode cd_Specifier_numberIn 39 = .ok (.ireturn, 1) := by decide +kernel
theorem m_140 : Cond.methodLink R_Specifier 84 y_Row_at ∈ gw := gm (i := 434) (by decide +kernel) (by decide +kernel)
theorem m_141 : Cond.methodLink R_Specifier 109 Lib.Math.min.name ∈ gw := gm (i := 441) (by decide +kernel) (by decide +kernel)
def b_Specifier_numberIn_5 (na1_cells : Nat) (a1_cells : Nat → Int32) (a1_used : Int32) (a3 : Int32)  (rec_5 : (Int32 × Int32) → Option Int32) (z5 : Int32 × Int32) : Option Int32 :=
  (if a3 ≤ z5.2 then some z5.1 else ((f_Row_at na1_cells a1_cells a1_used z5.2).bind fun u_21 => rec_5 ((if (((z5.1 * (10 : Int32)) + u_21) - (48 : Int32)) < (1000 : Int32) then (((z5.1 * (10 : Int32)) + u_21) - (48 : Int32)) else (1000 : Int32)), (z5.2 + 1))))
def f_Specifier_numberIn (K : Nat) (na1_cells : Nat) (a1_cells : Nat → Int32) (a1_used : Int32) (a2 : Int32) (a3 : Int32) : Option Int32 :=
  lp_ (b_Specifier_numberIn_5 na1_cells a1_cells a1_used a3 ) K ((0 : Int32), a2)
abbrev w_Specifier_numberIn (G : Gt) (qa1 : Nat) (qa1_cells : Nat) (na1_cells : Nat) (a1_cells : Nat → Int32) (a1_used : Int32) (a1_burst : Int32) : va_W := [(qa1, .inr (4, [.ref qa1_cells, .int a1_used, .int a1_burst])), (qa1_cells, .inl (gC G 0, na1_cells, .inl a1_cells))]
set_option maxHeartbeats 4000000 in
set_option maxRecDepth 100000 in
theorem c_Specifier_numberIn (l : Launch) (G : Gt) (K : Nat) (qa1 : Nat) (qa1_cells : Nat) (na1_cells : Nat) (a1_cells : Nat → Int32) (a1_used : Int32) (a1_burst : Int32) (a2 : Int32) (a3 : Int32) (sz : Nat) (res : Int32)   (hf : f_Specifier_numberIn K na1_cells a1_cells a1_used a2 a3 = some res) : Met l y_Specifier_numberIn (.code y_Specifier_numberIn cd_Specifier_numberIn 5 (some .int) :: gw) { frames := 1, cells := 0, slots := 0, locals := 40 } (PC G ([.ref qa1, .int a2, .int a3] : List Value) sz (w_Specifier_numberIn G qa1 qa1_cells na1_cells a1_cells a1_used a1_burst)) (QI G res (va_A (w_Specifier_numberIn G qa1 qa1_cells na1_cells a1_cells a1_used a1_burst) sz) (w_Specifier_numberIn G qa1 qa1_cells na1_cells a1_cells a1_used a1_burst)) 0 0 (va_A (w_Specifier_numberIn G qa1 qa1_cells na1_cells a1_cells a1_used a1_burst) sz) := by
  refine Met.ofW (cc := cd_Specifier_numberIn) (maxL := 5) (ret := (some .int)) (by decide) rfl ?_
  intro p e s m args below meth c s₁ B hml hv
  obtain ⟨rfl, hsz, hP, hE, hD0⟩ := hv
  have hx := B.exec
  have hb := B.bytes
  have hr := B.returns
  have hts := atoms_spec (ws := (.code y_Specifier_numberIn cd_Specifier_numberIn 5 (some .int) :: gw)) B.pre
  have hg : ∀ w ∈ gw, w.before _ s = true := fun w h => hts w (List.mem_cons_of_mem _ h)
  have hown : s.vm.findClass R_Specifier = some m.cls := findClass_of_methodNamed B.named
  have hlocks := B.notSynchronized
  subst hsz
  have hK := hE.K
  have hD := hD0.self (sz := s.heap.size)
  have hAb := hE.ab hD0
  obtain ⟨Q, hQ⟩ : ∃ Q, MQ below (QI G res (va_A (w_Specifier_numberIn G qa1 qa1_cells na1_cells a1_cells a1_used a1_burst) s.heap.size) (w_Specifier_numberIn G qa1 qa1_cells na1_cells a1_cells a1_used a1_burst)) ([.ref qa1, .int a2, .int a3] : List Value).toArray s 0 0 (va_A (w_Specifier_numberIn G qa1 qa1_cells na1_cells a1_cells a1_used a1_burst) s.heap.size) = Q := ⟨_, rfl⟩
  show W p l e { frames := 1, cells := 0, slots := 0, locals := 40 } s m ([.ref qa1, .int a2, .int a3] : List Value).toArray below meth c s.heap [] 0 0 (MQ below (QI G res (va_A (w_Specifier_numberIn G qa1 qa1_cells na1_cells a1_cells a1_used a1_burst) s.heap.size) (w_Specifier_numberIn G qa1 qa1_cells na1_cells a1_cells a1_used a1_burst)) ([.ref qa1, .int a2, .int a3] : List Value).toArray s 0 0 (va_A (w_Specifier_numberIn G qa1 qa1_cells na1_cells a1_cells a1_used a1_burst) s.heap.size)) _
  rw [hQ]
  have hA : ∀ q : Nat, s.heap.size ≤ q → va_A (w_Specifier_numberIn G qa1 qa1_cells na1_cells a1_cells a1_used a1_burst) s.heap.size q := fun q h => Or.inr h
  obtain ⟨A, hAe⟩ : ∃ A, va_A (w_Specifier_numberIn G qa1 qa1_cells na1_cells a1_cells a1_used a1_burst) s.heap.size = A := ⟨_, rfl⟩
  rw [hAe] at hA hD hAb hQ
  have hS : va_S A s.heap s.heap [] := va_S.rf
  have hl := lv_entry (([.ref qa1, .int a2, .int a3] : List Value)) (n := 5) (Nat.le_of_ble_eq_true rfl)
  rw [lg_entry_eq]
  generalize (lg_sl (([.ref qa1, .int a2, .int a3] : List Value)) ++ List.replicate (5 - (lg_sl (([.ref qa1, .int a2, .int a3] : List Value))).length) Slot.unset).toArray = ls at hl ⊢
  have hl : lv_has ls 5 [(0, .ref qa1), (1, .int a2), (2, .int a3)] := hl
  have W_5 : ∀   (n_5 : Nat) (z5 : Int32 × Int32) , lp_ (b_Specifier_numberIn_5 na1_cells a1_cells a1_used a3 ) n_5 z5 = some res → ∀ (H : Heap) (locs : List Loc) (ls : Array Slot), va_P (gD G) vwCl (w_Specifier_numberIn G qa1 qa1_cells na1_cells a1_cells a1_used a1_burst) H → va_D A (w_Specifier_numberIn G qa1 qa1_cells na1_cells a1_cells a1_used a1_burst) → va_S A s.heap H locs → lv_has ls 5 [(0, .ref qa1), (2, .int a3), (3, .int z5.1), (4, .int z5.2)] → W p l e { frames := 1, cells := 0, slots := 0, locals := 40 } s m ([.ref qa1, .int a2, .int a3] : List Value).toArray below meth c H locs 0 0 Q (F0 m 5 ls []) := by
    intro  n_5
    induction n_5 with
    | zero =>
      intro z5  hf
      cases hf
    | succ n_5 ih_5 =>
      intro z5  hf H locs ls hP hD hS hl
      have hf : b_Specifier_numberIn_5 na1_cells a1_cells a1_used a3  (lp_ (b_Specifier_numberIn_5 na1_cells a1_cells a1_used a3 ) n_5) z5 = some res := hf
      generalize lp_ (b_Specifier_numberIn_5 na1_cells a1_cells a1_used a3 ) n_5 = rec_5 at hf ih_5
      unfold b_Specifier_numberIn_5 at hf
      refine lv_iload hx hb d_Specifier_numberIn_5 (lv_at hl 3 rfl) ?_
      refine lv_iload_n hx hb d_Specifier_numberIn_7 rfl (lv_at hl 1 rfl) ?_
      refine lv_icmp_ge (tgt := 38) hx hb d_Specifier_numberIn_8 (by decide) (fun c_8 => ?_) (fun c_8 => ?_)
      · have hf := ip_ c_8 hf
        refine lv_iload_n hx hb d_Specifier_numberIn_38 rfl (lv_at hl 2 rfl) ?_
        obtain rfl := Option.some.inj hf
        rw [← hQ]
        exact W.iret (v := z5.1) hx hb hr (fun t9 ht hW => ⟨⟨z5.1, (), rfl, rfl, ⟨by rw [ht]; exact hP, hD⟩⟩, hS.F ht⟩) hS.2.2 d_Specifier_numberIn_39
      · have hf := in_ c_8 hf
        refine lv_sipush (v := 1000) hx hb d_Specifier_numberIn_11 (by decide) ?_
        refine lv_iload_n hx hb d_Specifier_numberIn_14 rfl (lv_at hl 2 rfl) ?_
        refine lv_bipush (v := 10) hx hb d_Specifier_numberIn_15 (by decide) ?_
        refine lv_imul hx hb d_Specifier_numberIn_17 ?_
        refine lv_aload_n hx hb d_Specifier_numberIn_18 rfl (lv_at hl 0 rfl) ?_
        refine lv_iload hx hb d_Specifier_numberIn_19 (lv_at hl 3 rfl) ?_
        obtain ⟨u_21, hu_21, hf⟩ := bd_ hf
        refine CALLi (va_runV (As := [.int z5.2]) (rest := [.int (z5.1 * (10 : Int32)), .int (1000 : Int32)]) ⟨hx, hb, hml, hown, hg⟩ (c_Row_at l G K qa1 qa1_cells na1_cells a1_cells a1_used a1_burst z5.2 _ u_21  hu_21) (cwV 1 hg (gV m_140 m_63 m_64 m_60 m_65) rfl rfl rfl (by decide +kernel) ⟨Nat.le_of_ble_eq_true rfl, Nat.le_of_ble_eq_true rfl⟩) ⟨PC_b, va_recv hK hP (ci := 4) (q0 := 0) rfl rfl, PC_p hE hS hAb (hP.sub [0, 1] rfl) (hD.sub [0, 1] (by decide) rfl)⟩ rfl rfl hl.1 rfl (lv_room (Nat.le_of_ble_eq_true rfl)) d_Specifier_numberIn_21 ⟨Nat.zero_le _, Nat.zero_le _⟩) hP hD hS hA [0, 1] rfl rfl rfl (fun H locs hP hD hS => ?_)
        have hP : va_P (gD G) vwCl (w_Specifier_numberIn G qa1 qa1_cells na1_cells a1_cells a1_used a1_burst) H := hP
        have hD : va_D A (w_Specifier_numberIn G qa1 qa1_cells na1_cells a1_cells a1_used a1_burst) := hD
        refine lv_iadd hx hb d_Specifier_numberIn_24 ?_
        refine lv_bipush (v := 48) hx hb d_Specifier_numberIn_25 (by decide) ?_
        refine lv_isub hx hb d_Specifier_numberIn_27 ?_
        refine va_mmin hx hb (hml.trans hl.1.symm) hown (hg _ m_141) (hg _ m_14) (hg _ m_11) (hg _ m_15) (Nat.le_of_ble_eq_true rfl) (Nat.le_of_ble_eq_true rfl) (Nat.zero_le _) (Nat.zero_le _) d_Specifier_numberIn_28 ?_
        refine lv_istore_n (lv' := [(3, .int (if (((z5.1 * (10 : Int32)) + u_21) - (48 : Int32)) < (1000 : Int32) then (((z5.1 * (10 : Int32)) + u_21) - (48 : Int32)) else (1000 : Int32))), (0, .ref qa1), (2, .int a3), (4, .int z5.2)]) hx hb d_Specifier_numberIn_31 rfl hl (by decide) rfl (fun ls hl => ?_)
        refine lv_iinc (v := (z5.2 + 1)) (lv' := [(4, .int (z5.2 + 1)), (3, .int (if (((z5.1 * (10 : Int32)) + u_21) - (48 : Int32)) < (1000 : Int32) then (((z5.1 * (10 : Int32)) + u_21) - (48 : Int32)) else (1000 : Int32))), (0, .ref qa1), (2, .int a3)]) hx hb d_Specifier_numberIn_32 hl (k := 3) rfl rfl (by decide) rfl (fun ls hl => ?_)
        refine lv_goto (tgt := 5) hx hb d_Specifier_numberIn_35 (by decide) ?_
        exact ih_5 ((if (((z5.1 * (10 : Int32)) + u_21) - (48 : Int32)) < (1000 : Int32) then (((z5.1 * (10 : Int32)) + u_21) - (48 : Int32)) else (1000 : Int32)), (z5.2 + 1))  hf _ _ _ hP hD hS (lv_sub hl [2, 3, 1, 0] rfl)
  unfold f_Specifier_numberIn at hf
  refine lv_iconst (v := 0) hx hb d_Specifier_numberIn_0 (by decide) ?_
  refine lv_istore_n (lv' := [(3, .int (0 : Int32)), (0, .ref qa1), (1, .int a2), (2, .int a3)]) hx hb d_Specifier_numberIn_1 rfl hl (by decide) rfl (fun ls hl => ?_)
  refine lv_iload_n hx hb d_Specifier_numberIn_2 rfl (lv_at hl 2 rfl) ?_
  refine lv_istore (lv' := [(4, .int a2), (3, .int (0 : Int32)), (0, .ref qa1), (1, .int a2), (2, .int a3)]) hx hb d_Specifier_numberIn_3 hl (by decide) rfl (fun ls hl => ?_)
  exact W_5   K ((0 : Int32), a2)  hf _ _ _ hP hD hS (lv_sub hl [2, 4, 1, 0] rfl)
theorem d_Specifier_digitsEnd_0 : decode cd_Specifier_digitsEnd 0 = .ok (.iload_n 1, 1) := by decide +kernel
theorem d_Specifier_digitsEnd_1 : decode cd_Specifier_digitsEnd 1 = .ok (.istore_n 2, 1) := by decide +kernel
theorem d_Specifier_digitsEnd_2 : decode cd_Specifier_digitsEnd 2 = .ok (.iload_n 2, 1) := by decide +kernel
theorem d_Specifier_digitsEnd_3 : decode cd_Specifier_digitsEnd 3 = .ok (.aload_n 0, 1) := by decide +kernel
theorem d_Specifier_digitsEnd_4 : decode cd_Specifier_digitsEnd 4 = .ok (.getfield 96, 3) := by decide +kernel
theorem d_Specifier_digitsEnd_7 : decode cd_Specifier_digitsEnd 7 = .ok (.if_icmp .ge 29, 3) := by decide +kernel
theorem d_Specifier_digitsEnd_10 : decode cd_Specifier_digitsEnd 10 = .ok (.aload_n 0, 1) := by decide +kernel
theorem d_Specifier_digitsEnd_11 : decode cd_Specifier_digitsEnd 11 = .ok (.iload_n 2, 1) := by decide +kernel
theorem d_Specifier_digitsEnd_12 : decode cd_Specifier_digitsEnd 12 = .ok (.invokevirtual 84, 3) := by decide +kernel
theorem d_Specifier_digitsEnd_15 : decode cd_Specifier_digitsEnd 15 = .ok (.bipush 48, 2) := by decide +kernel
theorem d_Specifier_digitsEnd_17 : decode cd_Specifier_digitsEnd 17 = .ok (.if_icmp .lt 19, 3) := by decide +kernel
theorem d_Specifier_digitsEnd_20 : decode cd_Specifier_digitsEnd 20 = .ok (.aload_n 0, 1) := by decide +kernel
theorem d_Specifier_digitsEnd_21 : decode cd_Specifier_digitsEnd 21 = .ok (.iload_n 2, 1) := by decide +kernel
theorem d_Specifier_digitsEnd_22 : decode cd_Specifier_digitsEnd 22 = .ok (.invokevirtual 84, 3) := by decide +kernel
theorem d_Specifier_digitsEnd_25 : decode cd_Specifier_digitsEnd 25 = .ok (.bipush 57, 2) := by decide +kernel
theorem d_Specifier_digitsEnd_27 : decode cd_Specifier_digitsEnd 27 = .ok (.if_icmp .gt 9, 3) := by decide +kernel
theorem d_Specifier_digitsEnd_30 : decode cd_Specifier_digitsEnd 30 = .ok (.iinc 2 1, 3) := by decide +kernel
theorem d_Specifier_digitsEnd_33 : decode cd_Specifier_digitsEnd 33 = .ok (.goto (-31), 3) := by decide +kernel
theorem d_Specifier_digitsEnd_36 : decode cd_Specifier_digitsEnd 36 = .ok (.iload_n 2, 1) := by decide +kernel
theorem d_Specifier_digitsEnd_37 : decode cd_Specifier_digitsEnd 37 = .ok (.ireturn, 1) := by decide +kernel
theorem nm_0 : Cond.fieldLinkNest R_Specifier 96 "SpecifierDesk$Row" "used" "I" "SpecifierDesk" ∈ nwL := nwm (i := 121) (by decide +kernel) (by decide +kernel)
def b_Specifier_digitsEnd_2 (na1_cells : Nat) (a1_cells : Nat → Int32) (a1_used : Int32)  (rec_2 : Int32 → Option Int32) (z2 : Int32) : Option Int32 :=
  (if a1_used ≤ z2 then some z2 else ((f_Row_at na1_cells a1_cells a1_used z2).bind fun u_12 => (if u_12 < (48 : Int32) then some z2 else ((f_Row_at na1_cells a1_cells a1_used z2).bind fun u_22 => (if (57 : Int32) < u_22 then some z2 else rec_2 (z2 + 1))))))
def f_Specifier_digitsEnd (K : Nat) (na1_cells : Nat) (a1_cells : Nat → Int32) (a1_used : Int32) (a2 : Int32) : Option Int32 :=
  lp_ (b_Specifier_digitsEnd_2 na1_cells a1_cells a1_used ) K a2
set_option maxHeartbeats 4000000 in
set_option maxRecDepth 100000 in
theorem c_Specifier_digitsEnd (l : Launch) (G : Gt) (K : Nat) (qa1 : Nat) (qa1_cells : Nat) (na1_cells : Nat) (a1_cells : Nat → Int32) (a1_used : Int32) (a1_burst : Int32) (a2 : Int32) (sz : Nat) (res : Int32)   (hf : f_Specifier_digitsEnd K na1_cells a1_cells a1_used a2 = some res) : Met l y_Specifier_digitsEnd (.code y_Specifier_digitsEnd cd_Specifier_digitsEnd 3 (some .int) :: gw) { frames := 1, cells := 0, slots := 0, locals := 40 } (PC G ([.ref qa1, .int a2] : List Value) sz (w_Specifier_numberIn G qa1 qa1_cells na1_cells a1_cells a1_used a1_burst)) (QI G res (va_A (w_Specifier_numberIn G qa1 qa1_cells na1_cells a1_cells a1_used a1_burst) sz) (w_Specifier_numberIn G qa1 qa1_cells na1_cells a1_cells a1_used a1_burst)) 0 0 (va_A (w_Specifier_numberIn G qa1 qa1_cells na1_cells a1_cells a1_used a1_burst) sz) := by
  refine Met.ofW (cc := cd_Specifier_digitsEnd) (maxL := 3) (ret := (some .int)) (by decide) rfl ?_
  intro p e s m args below meth c s₁ B hml hv
  obtain ⟨rfl, hsz, hP, hE, hD0⟩ := hv
  have hx := B.exec
  have hb := B.bytes
  have hr := B.returns
  have hts := atoms_spec (ws := (.code y_Specifier_digitsEnd cd_Specifier_digitsEnd 3 (some .int) :: gw)) B.pre
  have hg : ∀ w ∈ gw, w.before _ s = true := fun w h => hts w (List.mem_cons_of_mem _ h)
  have hown : s.vm.findClass R_Specifier = some m.cls := findClass_of_methodNamed B.named
  have hlocks := B.notSynchronized
  subst hsz
  have hK := hE.K
  have hD := hD0.self (sz := s.heap.size)
  have hAb := hE.ab hD0
  obtain ⟨Q, hQ⟩ : ∃ Q, MQ below (QI G res (va_A (w_Specifier_numberIn G qa1 qa1_cells na1_cells a1_cells a1_used a1_burst) s.heap.size) (w_Specifier_numberIn G qa1 qa1_cells na1_cells a1_cells a1_used a1_burst)) ([.ref qa1, .int a2] : List Value).toArray s 0 0 (va_A (w_Specifier_numberIn G qa1 qa1_cells na1_cells a1_cells a1_used a1_burst) s.heap.size) = Q := ⟨_, rfl⟩
  show W p l e { frames := 1, cells := 0, slots := 0, locals := 40 } s m ([.ref qa1, .int a2] : List Value).toArray below meth c s.heap [] 0 0 (MQ below (QI G res (va_A (w_Specifier_numberIn G qa1 qa1_cells na1_cells a1_cells a1_used a1_burst) s.heap.size) (w_Specifier_numberIn G qa1 qa1_cells na1_cells a1_cells a1_used a1_burst)) ([.ref qa1, .int a2] : List Value).toArray s 0 0 (va_A (w_Specifier_numberIn G qa1 qa1_cells na1_cells a1_cells a1_used a1_burst) s.heap.size)) _
  rw [hQ]
  have hA : ∀ q : Nat, s.heap.size ≤ q → va_A (w_Specifier_numberIn G qa1 qa1_cells na1_cells a1_cells a1_used a1_burst) s.heap.size q := fun q h => Or.inr h
  obtain ⟨A, hAe⟩ : ∃ A, va_A (w_Specifier_numberIn G qa1 qa1_cells na1_cells a1_cells a1_used a1_burst) s.heap.size = A := ⟨_, rfl⟩
  rw [hAe] at hA hD hAb hQ
  have hS : va_S A s.heap s.heap [] := va_S.rf
  have hl := lv_entry (([.ref qa1, .int a2] : List Value)) (n := 3) (Nat.le_of_ble_eq_true rfl)
  rw [lg_entry_eq]
  generalize (lg_sl (([.ref qa1, .int a2] : List Value)) ++ List.replicate (3 - (lg_sl (([.ref qa1, .int a2] : List Value))).length) Slot.unset).toArray = ls at hl ⊢
  have hl : lv_has ls 3 [(0, .ref qa1), (1, .int a2)] := hl
  have W_2 : ∀   (n_2 : Nat) (z2 : Int32) , lp_ (b_Specifier_digitsEnd_2 na1_cells a1_cells a1_used ) n_2 z2 = some res → ∀ (H : Heap) (locs : List Loc) (ls : Array Slot), va_P (gD G) vwCl (w_Specifier_numberIn G qa1 qa1_cells na1_cells a1_cells a1_used a1_burst) H → va_D A (w_Specifier_numberIn G qa1 qa1_cells na1_cells a1_cells a1_used a1_burst) → va_S A s.heap H locs → lv_has ls 3 [(0, .ref qa1), (2, .int z2)] → W p l e { frames := 1, cells := 0, slots := 0, locals := 40 } s m ([.ref qa1, .int a2] : List Value).toArray below meth c H locs 0 0 Q (F0 m 2 ls []) := by
    intro  n_2
    induction n_2 with
    | zero =>
      intro z2  hf
      cases hf
    | succ n_2 ih_2 =>
      intro z2  hf H locs ls hP hD hS hl
      have hf : b_Specifier_digitsEnd_2 na1_cells a1_cells a1_used  (lp_ (b_Specifier_digitsEnd_2 na1_cells a1_cells a1_used ) n_2) z2 = some res := hf
      generalize lp_ (b_Specifier_digitsEnd_2 na1_cells a1_cells a1_used ) n_2 = rec_2 at hf ih_2
      unfold b_Specifier_digitsEnd_2 at hf
      refine lv_iload_n hx hb d_Specifier_digitsEnd_2 rfl (lv_at hl 1 rfl) ?_
      refine lv_aload_n hx hb d_Specifier_digitsEnd_3 rfl (lv_at hl 0 rfl) ?_
      refine va_getN (D := gD G) (ci := 4) (v := .int a1_used) (C := R_Row) (T := F_Row) (N := 3) hx hb hg in_Row hown hK hP 0 rfl rfl 1 (by decide) (va_Nw.use rfl (hE.nw _ nm_0)) (fun _ h9 => h9) rfl d_Specifier_digitsEnd_4 ?_
      refine lv_icmp_ge (tgt := 36) hx hb d_Specifier_digitsEnd_7 (by decide) (fun c_7 => ?_) (fun c_7 => ?_)
      · have hf := ip_ c_7 hf
        refine lv_iload_n hx hb d_Specifier_digitsEnd_36 rfl (lv_at hl 1 rfl) ?_
        obtain rfl := Option.some.inj hf
        rw [← hQ]
        exact W.iret (v := z2) hx hb hr (fun t9 ht hW => ⟨⟨z2, (), rfl, rfl, ⟨by rw [ht]; exact hP, hD⟩⟩, hS.F ht⟩) hS.2.2 d_Specifier_digitsEnd_37
      · have hf := in_ c_7 hf
        refine lv_aload_n hx hb d_Specifier_digitsEnd_10 rfl (lv_at hl 0 rfl) ?_
        refine lv_iload_n hx hb d_Specifier_digitsEnd_11 rfl (lv_at hl 1 rfl) ?_
        obtain ⟨u_12, hu_12, hf⟩ := bd_ hf
        refine CALLi (va_runV (As := [.int z2]) (rest := []) ⟨hx, hb, hml, hown, hg⟩ (c_Row_at l G K qa1 qa1_cells na1_cells a1_cells a1_used a1_burst z2 _ u_12  hu_12) (cwV 1 hg (gV m_140 m_63 m_64 m_60 m_65) rfl rfl rfl (by decide +kernel) ⟨Nat.le_of_ble_eq_true rfl, Nat.le_of_ble_eq_true rfl⟩) ⟨PC_b, va_recv hK hP (ci := 4) (q0 := 0) rfl rfl, PC_p hE hS hAb (hP.sub [0, 1] rfl) (hD.sub [0, 1] (by decide) rfl)⟩ rfl rfl hl.1 rfl (lv_room (Nat.le_of_ble_eq_true rfl)) d_Specifier_digitsEnd_12 ⟨Nat.zero_le _, Nat.zero_le _⟩) hP hD hS hA [0, 1] rfl rfl rfl (fun H locs hP hD hS => ?_)
        have hP : va_P (gD G) vwCl (w_Specifier_numberIn G qa1 qa1_cells na1_cells a1_cells a1_used a1_burst) H := hP
        have hD : va_D A (w_Specifier_numberIn G qa1 qa1_cells na1_cells a1_cells a1_used a1_burst) := hD
        refine lv_bipush (v := 48) hx hb d_Specifier_digitsEnd_15 (by decide) ?_
        refine lv_icmp_lt (tgt := 36) hx hb d_Specifier_digitsEnd_17 (by decide) (fun c_17 => ?_) (fun c_17 => ?_)
        · have hf := ip_ c_17 hf
          refine lv_iload_n hx hb d_Specifier_digitsEnd_36 rfl (lv_at hl 1 rfl) ?_
          obtain rfl := Option.some.inj hf
          rw [← hQ]
          exact W.iret (v := z2) hx hb hr (fun t9 ht hW => ⟨⟨z2, (), rfl, rfl, ⟨by rw [ht]; exact hP, hD⟩⟩, hS.F ht⟩) hS.2.2 d_Specifier_digitsEnd_37
        · have hf := in_ c_17 hf
          refine lv_aload_n hx hb d_Specifier_digitsEnd_20 rfl (lv_at hl 0 rfl) ?_
          refine lv_iload_n hx hb d_Specifier_digitsEnd_21 rfl (lv_at hl 1 rfl) ?_
          obtain ⟨u_22, hu_22, hf⟩ := bd_ hf
          refine CALLi (va_runV (As := [.int z2]) (rest := []) ⟨hx, hb, hml, hown, hg⟩ (c_Row_at l G K qa1 qa1_cells na1_cells a1_cells a1_used a1_burst z2 _ u_22  hu_22) (cwV 1 hg (gV m_140 m_63 m_64 m_60 m_65) rfl rfl rfl (by decide +kernel) ⟨Nat.le_of_ble_eq_true rfl, Nat.le_of_ble_eq_true rfl⟩) ⟨PC_b, va_recv hK hP (ci := 4) (q0 := 0) rfl rfl, PC_p hE hS hAb (hP.sub [0, 1] rfl) (hD.sub [0, 1] (by decide) rfl)⟩ rfl rfl hl.1 rfl (lv_room (Nat.le_of_ble_eq_true rfl)) d_Specifier_digitsEnd_22 ⟨Nat.zero_le _, Nat.zero_le _⟩) hP hD hS hA [0, 1] rfl rfl rfl (fun H locs hP hD hS => ?_)
          have hP : va_P (gD G) vwCl (w_Specifier_numberIn G qa1 qa1_cells na1_cells a1_cells a1_used a1_burst) H := hP
          have hD : va_D A (w_Specifier_numberIn G qa1 qa1_cells na1_cells a1_cells a1_used a1_burst) := hD
          refine lv_bipush (v := 57) hx hb d_Specifier_digitsEnd_25 (by decide) ?_
          refine lv_icmp_gt (tgt := 36) hx hb d_Specifier_digitsEnd_27 (by decide) (fun c_27 => ?_) (fun c_27 => ?_)
          · have hf := ip_ c_27 hf
            refine lv_iload_n hx hb d_Specifier_digitsEnd_36 rfl (lv_at hl 1 rfl) ?_
            obtain rfl := Option.some.inj hf
            rw [← hQ]
            exact W.iret (v := z2) hx hb hr (fun t9 ht hW => ⟨⟨z2, (), rfl, rfl, ⟨by rw [ht]; exact hP, hD⟩⟩, hS.F ht⟩) hS.2.2 d_Specifier_digitsEnd_37
          · have hf := in_ c_27 hf
            refine lv_iinc (v := (z2 + 1)) (lv' := [(2, .int (z2 + 1)), (0, .ref qa1)]) hx hb d_Specifier_digitsEnd_30 hl (k := 1) rfl rfl (by decide) rfl (fun ls hl => ?_)
            refine lv_goto (tgt := 2) hx hb d_Specifier_digitsEnd_33 (by decide) ?_
            exact ih_2 (z2 + 1)  hf _ _ _ hP hD hS (lv_sub hl [1, 0] rfl)
  unfold f_Specifier_digitsEnd at hf
  refine lv_iload_n hx hb d_Specifier_digitsEnd_0 rfl (lv_at hl 1 rfl) ?_
  refine lv_istore_n (lv' := [(2, .int a2), (0, .ref qa1), (1, .int a2)]) hx hb d_Specifier_digitsEnd_1 rfl hl (by decide) rfl (fun ls hl => ?_)
  exact W_2   K a2  hf _ _ _ hP hD hS (lv_sub hl [1, 0] rfl)
theorem d_Specifier_readIndex_0 : decode cd_Specifier_readIndex 0 = .ok (.aload_n 1, 1) := by decide +kernel
theorem d_Specifier_readIndex_1 : decode cd_Specifier_readIndex 1 = .ok (.iload_n 2, 1) := by decide +kernel
theorem d_Specifier_readIndex_2 : decode cd_Specifier_readIndex 2 = .ok (.invokevirtual 84, 3) := by decide +kernel
theorem d_Specifier_readIndex_5 : decode cd_Specifier_readIndex 5 = .ok (.bipush 60, 2) := by decide +kernel
theorem d_Specifier_readIndex_7 : decode cd_Specifier_readIndex 7 = .ok (.if_icmp .ne 13, 3) := by decide +kernel
theorem d_Specifier_readIndex_10 : decode cd_Specifier_readIndex 10 = .ok (.aload_n 0, 1) := by decide +kernel
theorem d_Specifier_readIndex_11 : decode cd_Specifier_readIndex 11 = .ok (.bipush (-2), 2) := by decide +kernel
theorem d_Specifier_readIndex_13 : decode cd_Specifier_readIndex 13 = .ok (.putfield 9, 3) := by decide +kernel
theorem d_Specifier_readIndex_16 : decode cd_Specifier_readIndex 16 = .ok (.iload_n 2, 1) := by decide +kernel
theorem d_Specifier_readIndex_17 : decode cd_Specifier_readIndex 17 = .ok (.iconst 1, 1) := by decide +kernel
theorem d_Specifier_readIndex_18 : decode cd_Specifier_readIndex 18 = .ok (.iadd, 1) := by decide +kernel
theorem d_Specifier_readIndex_19 : decode cd_Specifier_readIndex 19 = .ok (.ireturn, 1) := by decide +kernel
theorem d_Specifier_readIndex_20 : decode cd_Specifier_readIndex 20 = .ok (.aload_n 1, 1) := by decide +kernel
theorem d_Specifier_readIndex_21 : decode cd_Specifier_readIndex 21 = .ok (.iload_n 2, 1) := by decide +kernel
theorem d_Specifier_readIndex_22 : decode cd_Specifier_readIndex 22 = .ok (.invokestatic 89, 3) := by decide +kernel
theorem d_Specifier_readIndex_25 : decode cd_Specifier_readIndex 25 = .ok (.istore_n 3, 1) := by decide +kernel
theorem d_Specifier_readIndex_26 : decode cd_Specifier_readIndex 26 = .ok (.aload_n 1, 1) := by decide +kernel
theorem d_Specifier_readIndex_27 : decode cd_Specifier_readIndex 27 = .ok (.iload_n 2, 1) := by decide +kernel
theorem d_Specifier_readIndex_28 : decode cd_Specifier_readIndex 28 = .ok (.invokevirtual 84, 3) := by decide +kernel
theorem d_Specifier_readIndex_31 : decode cd_Specifier_readIndex 31 = .ok (.bipush 48, 2) := by decide +kernel
theorem d_Specifier_readIndex_33 : decode cd_Specifier_readIndex 33 = .ok (.if_icmp .eq 18, 3) := by decide +kernel
theorem d_Specifier_readIndex_36 : decode cd_Specifier_readIndex 36 = .ok (.iload_n 3, 1) := by decide +kernel
theorem d_Specifier_readIndex_37 : decode cd_Specifier_readIndex 37 = .ok (.iload_n 2, 1) := by decide +kernel
theorem d_Specifier_readIndex_38 : decode cd_Specifier_readIndex 38 = .ok (.if_icmp .eq 13, 3) := by decide +kernel
theorem d_Specifier_readIndex_41 : decode cd_Specifier_readIndex 41 = .ok (.aload_n 1, 1) := by decide +kernel
theorem d_Specifier_readIndex_42 : decode cd_Specifier_readIndex 42 = .ok (.iload_n 3, 1) := by decide +kernel
theorem d_Specifier_readIndex_43 : decode cd_Specifier_readIndex 43 = .ok (.invokevirtual 84, 3) := by decide +kernel
theorem d_Specifier_readIndex_46 : decode cd_Specifier_readIndex 46 = .ok (.bipush 36, 2) := by decide +kernel
theorem d_Specifier_readIndex_48 : decode cd_Specifier_readIndex 48 = .ok (.if_icmp .eq 5, 3) := by decide +kernel
theorem d_Specifier_readIndex_51 : decode cd_Specifier_readIndex 51 = .ok (.iload_n 2, 1) := by decide +kernel
theorem d_Specifier_readIndex_52 : decode cd_Specifier_readIndex 52 = .ok (.ireturn, 1) := by decide +kernel
theorem d_Specifier_readIndex_53 : decode cd_Specifier_readIndex 53 = .ok (.aload_n 0, 1) := by decide +kernel
theorem d_Specifier_readIndex_54 : decode cd_Specifier_readIndex 54 = .ok (.aload_n 1, 1) := by decide +kernel
theorem d_Specifier_readIndex_55 : decode cd_Specifier_readIndex 55 = .ok (.iload_n 2, 1) := by decide +kernel
theorem d_Specifier_readIndex_56 : decode cd_Specifier_readIndex 56 = .ok (.iload_n 3, 1) := by decide +kernel
theorem d_Specifier_readIndex_57 : decode cd_Specifier_readIndex 57 = .ok (.invokestatic 92, 3) := by decide +kernel
theorem d_Specifier_readIndex_60 : decode cd_Specifier_readIndex 60 = .ok (.putfield 9, 3) := by decide +kernel
theorem d_Specifier_readIndex_63 : decode cd_Specifier_readIndex 63 = .ok (.iload_n 3, 1) := by decide +kernel
theorem d_Specifier_readIndex_64 : decode cd_Specifier_readIndex 64 = .ok (.iconst 1, 1) := by decide +kernel
theorem d_Specifier_readIndex_65 : decode cd_Specifier_readIndex 65 = .ok (.iadd, 1) := by decide +kernel
theorem d_Specifier_readIndex_66 : decode cd_Specifier_readIndex 66 = .ok (.ireturn, 1) := by decide +kernel
theorem m_142 : Cond.methodLink R_Specifier 89 y_Specifier_digitsEnd ∈ gw := gm (i := 435) (by decide +kernel) (by decide +kernel)
theorem m_143 : Cond.static y_Specifier_digitsEnd ∈ gw := gm (i := 436) (by decide +kernel) (by decide +kernel)
set_option maxRecDepth 100000 in
theorem m_144 : Cond.code y_Specifier_digitsEnd cd_Specifier_digitsEnd 3 (some .int) ∈ gw := gm (i := 437) rfl rfl
theorem m_145 : Cond.methodLink R_Specifier 92 y_Specifier_numberIn ∈ gw := gm (i := 438) (by decide +kernel) (by decide +kernel)
theorem m_146 : Cond.static y_Specifier_numberIn ∈ gw := gm (i := 439) (by decide +kernel) (by decide +kernel)
set_option maxRecDepth 100000 in
theorem m_147 : Cond.code y_Specifier_numberIn cd_Specifier_numberIn 5 (some .int) ∈ gw := gm (i := 440) rfl rfl
def f_Specifier_readIndex (K : Nat) (t_index : Int32) (na1_cells : Nat) (a1_cells : Nat → Int32) (a1_used : Int32) (a2 : Int32) : Option (Int32 × Int32) :=
  ((f_Row_at na1_cells a1_cells a1_used a2).bind fun u_2 => (if u_2 = (60 : Int32) then some ((a2 + (1 : Int32)), (-2 : Int32)) else ((f_Specifier_digitsEnd K na1_cells a1_cells a1_used a2).bind fun u_22 => ((f_Row_at na1_cells a1_cells a1_used a2).bind fun u_28 => (if u_28 = (48 : Int32) then some (a2, t_index) else (if u_22 = a2 then some (a2, t_index) else ((f_Row_at na1_cells a1_cells a1_used u_22).bind fun u_43 => (if u_43 = (36 : Int32) then ((f_Specifier_numberIn K na1_cells a1_cells a1_used a2 u_22).bind fun u_57 => some ((u_22 + (1 : Int32)), u_57)) else some (a2, t_index)))))))))
abbrev w_Specifier_readIndex (G : Gt) (qt : Nat) (t_index : Int32) (t_flags : Int32) (t_width : Int32) (t_precision : Int32) (t_conversion : Int32) (t_great : Int32) (t_known : Int32) (t_cutOff : Int32) (t_flagTwice : Int32) (t_last : Int32) (qa1 : Nat) (qa1_cells : Nat) (na1_cells : Nat) (a1_cells : Nat → Int32) (a1_used : Int32) (a1_burst : Int32) : va_W := [(qt, .inr (5, [.int t_index, .int t_flags, .int t_width, .int t_precision, .int t_conversion, .int t_great, .int t_known, .int t_cutOff, .int t_flagTwice, .int t_last])), (qa1, .inr (4, [.ref qa1_cells, .int a1_used, .int a1_burst])), (qa1_cells, .inl (gC G 0, na1_cells, .inl a1_cells))]
set_option maxHeartbeats 4000000 in
set_option maxRecDepth 100000 in
theorem c_Specifier_readIndex (l : Launch) (G : Gt) (K : Nat) (qt : Nat) (t_index : Int32) (t_flags : Int32) (t_width : Int32) (t_precision : Int32) (t_conversion : Int32) (t_great : Int32) (t_known : Int32) (t_cutOff : Int32) (t_flagTwice : Int32) (t_last : Int32) (qa1 : Nat) (qa1_cells : Nat) (na1_cells : Nat) (a1_cells : Nat → Int32) (a1_used : Int32) (a1_burst : Int32) (a2 : Int32) (sz : Nat) (res : Int32 × Int32)   (hf : f_Specifier_readIndex K t_index na1_cells a1_cells a1_used a2 = some res) : Met l y_Specifier_readIndex (.code y_Specifier_readIndex cd_Specifier_readIndex 4 (some .int) :: gw) { frames := 2, cells := 0, slots := 0, locals := 80 } (PC G ([.ref qt, .ref qa1, .int a2] : List Value) sz (w_Specifier_readIndex G qt t_index t_flags t_width t_precision t_conversion t_great t_known t_cutOff t_flagTwice t_last qa1 qa1_cells na1_cells a1_cells a1_used a1_burst)) (QI G res.1 (va_A (w_Specifier_readIndex G qt t_index t_flags t_width t_precision t_conversion t_great t_known t_cutOff t_flagTwice t_last qa1 qa1_cells na1_cells a1_cells a1_used a1_burst) sz) (w_Specifier_readIndex G qt res.2 t_flags t_width t_precision t_conversion t_great t_known t_cutOff t_flagTwice t_last qa1 qa1_cells na1_cells a1_cells a1_used a1_burst)) 0 0 (va_A (w_Specifier_readIndex G qt t_index t_flags t_width t_precision t_conversion t_great t_known t_cutOff t_flagTwice t_last qa1 qa1_cells na1_cells a1_cells a1_used a1_burst) sz) := by
  refine Met.ofW (cc := cd_Specifier_readIndex) (maxL := 4) (ret := (some .int)) (by decide) rfl ?_
  intro p e s m args below meth c s₁ B hml hv
  obtain ⟨rfl, hsz, hP, hE, hD0⟩ := hv
  have hx := B.exec
  have hb := B.bytes
  have hr := B.returns
  have hts := atoms_spec (ws := (.code y_Specifier_readIndex cd_Specifier_readIndex 4 (some .int) :: gw)) B.pre
  have hg : ∀ w ∈ gw, w.before _ s = true := fun w h => hts w (List.mem_cons_of_mem _ h)
  have hown : s.vm.findClass R_Specifier = some m.cls := findClass_of_methodNamed B.named
  have hlocks := B.notSynchronized
  subst hsz
  have hK := hE.K
  have hD := hD0.self (sz := s.heap.size)
  have hAb := hE.ab hD0
  obtain ⟨Q, hQ⟩ : ∃ Q, MQ below (QI G res.1 (va_A (w_Specifier_readIndex G qt t_index t_flags t_width t_precision t_conversion t_great t_known t_cutOff t_flagTwice t_last qa1 qa1_cells na1_cells a1_cells a1_used a1_burst) s.heap.size) (w_Specifier_readIndex G qt res.2 t_flags t_width t_precision t_conversion t_great t_known t_cutOff t_flagTwice t_last qa1 qa1_cells na1_cells a1_cells a1_used a1_burst)) ([.ref qt, .ref qa1, .int a2] : List Value).toArray s 0 0 (va_A (w_Specifier_readIndex G qt t_index t_flags t_width t_precision t_conversion t_great t_known t_cutOff t_flagTwice t_last qa1 qa1_cells na1_cells a1_cells a1_used a1_burst) s.heap.size) = Q := ⟨_, rfl⟩
  show W p l e { frames := 2, cells := 0, slots := 0, locals := 80 } s m ([.ref qt, .ref qa1, .int a2] : List Value).toArray below meth c s.heap [] 0 0 (MQ below (QI G res.1 (va_A (w_Specifier_readIndex G qt t_index t_flags t_width t_precision t_conversion t_great t_known t_cutOff t_flagTwice t_last qa1 qa1_cells na1_cells a1_cells a1_used a1_burst) s.heap.size) (w_Specifier_readIndex G qt res.2 t_flags t_width t_precision t_conversion t_great t_known t_cutOff t_flagTwice t_last qa1 qa1_cells na1_cells a1_cells a1_used a1_burst)) ([.ref qt, .ref qa1, .int a2] : List Value).toArray s 0 0 (va_A (w_Specifier_readIndex G qt t_index t_flags t_width t_precision t_conversion t_great t_known t_cutOff t_flagTwice t_last qa1 qa1_cells na1_cells a1_cells a1_used a1_burst) s.heap.size)) _
  rw [hQ]
  have hA : ∀ q : Nat, s.heap.size ≤ q → va_A (w_Specifier_readIndex G qt t_index t_flags t_width t_precision t_conversion t_great t_known t_cutOff t_flagTwice t_last qa1 qa1_cells na1_cells a1_cells a1_used a1_burst) s.heap.size q := fun q h => Or.inr h
  obtain ⟨A, hAe⟩ : ∃ A, va_A (w_Specifier_readIndex G qt t_index t_flags t_width t_precision t_conversion t_great t_known t_cutOff t_flagTwice t_last qa1 qa1_cells na1_cells a1_cells a1_used a1_burst) s.heap.size = A := ⟨_, rfl⟩
  rw [hAe] at hA hD hAb hQ
  have hS : va_S A s.heap s.heap [] := va_S.rf
  have hl := lv_entry (([.ref qt, .ref qa1, .int a2] : List Value)) (n := 4) (Nat.le_of_ble_eq_true rfl)
  rw [lg_entry_eq]
  generalize (lg_sl (([.ref qt, .ref qa1, .int a2] : List Value)) ++ List.replicate (4 - (lg_sl (([.ref qt, .ref qa1, .int a2] : List Value))).length) Slot.unset).toArray = ls at hl ⊢
  have hl : lv_has ls 4 [(0, .ref qt), (1, .ref qa1), (2, .int a2)] := hl
  unfold f_Specifier_readIndex at hf
  refine lv_aload_n hx hb d_Specifier_readIndex_0 rfl (lv_at hl 1 rfl) ?_
  refine lv_iload_n hx hb d_Specifier_readIndex_1 rfl (lv_at hl 2 rfl) ?_
  obtain ⟨u_2, hu_2, hf⟩ := bd_ hf
  refine CALLi (va_runV (As := [.int a2]) (rest := []) ⟨hx, hb, hml, hown, hg⟩ (c_Row_at l G K qa1 qa1_cells na1_cells a1_cells a1_used a1_burst a2 _ u_2  hu_2) (cwV 1 hg (gV m_140 m_63 m_64 m_60 m_65) rfl rfl rfl (by decide +kernel) ⟨Nat.le_of_ble_eq_true rfl, Nat.le_of_ble_eq_true rfl⟩) ⟨PC_b, va_recv hK hP (ci := 4) (q0 := 1) rfl rfl, PC_p hE hS hAb (hP.sub [1, 2] rfl) (hD.sub [1, 2] (by decide) rfl)⟩ rfl rfl hl.1 rfl (lv_room (Nat.le_of_ble_eq_true rfl)) d_Specifier_readIndex_2 ⟨Nat.zero_le _, Nat.zero_le _⟩) hP hD hS hA [1, 2] rfl rfl rfl (fun H locs hP hD hS => ?_)
  have hP : va_P (gD G) vwCl (w_Specifier_readIndex G qt t_index t_flags t_width t_precision t_conversion t_great t_known t_cutOff t_flagTwice t_last qa1 qa1_cells na1_cells a1_cells a1_used a1_burst) H := hP
  have hD : va_D A (w_Specifier_readIndex G qt t_index t_flags t_width t_precision t_conversion t_great t_known t_cutOff t_flagTwice t_last qa1 qa1_cells na1_cells a1_cells a1_used a1_burst) := hD
  refine lv_bipush (v := 60) hx hb d_Specifier_readIndex_5 (by decide) ?_
  refine lv_icmp_ne (tgt := 20) hx hb d_Specifier_readIndex_7 (by decide) (fun c_7 => ?_) (fun c_7 => ?_)
  · have hf := in_ c_7 hf
    refine lv_aload_n hx hb d_Specifier_readIndex_20 rfl (lv_at hl 1 rfl) ?_
    refine lv_iload_n hx hb d_Specifier_readIndex_21 rfl (lv_at hl 2 rfl) ?_
    obtain ⟨u_22, hu_22, hf⟩ := bd_ hf
    refine CALLi (va_runS (As := [.ref qa1, .int a2]) (rest := []) ⟨hx, hb, hml, hown, hg⟩ (c_Specifier_digitsEnd l G K qa1 qa1_cells na1_cells a1_cells a1_used a1_burst a2 _ u_22  hu_22) (va_cwS 2 hg (gS m_142 m_143 m_114 m_144) rfl rfl rfl (by decide +kernel) ⟨Nat.le_of_ble_eq_true rfl, Nat.le_of_ble_eq_true rfl⟩) ⟨PC_b, PC_p hE hS hAb (hP.sub [1, 2] rfl) (hD.sub [1, 2] (by decide) rfl)⟩ rfl rfl hl.1 rfl (lv_room (Nat.le_of_ble_eq_true rfl)) d_Specifier_readIndex_22 ⟨Nat.zero_le _, Nat.zero_le _⟩) hP hD hS hA [1, 2] rfl rfl rfl (fun H locs hP hD hS => ?_)
    have hP : va_P (gD G) vwCl (w_Specifier_readIndex G qt t_index t_flags t_width t_precision t_conversion t_great t_known t_cutOff t_flagTwice t_last qa1 qa1_cells na1_cells a1_cells a1_used a1_burst) H := hP
    have hD : va_D A (w_Specifier_readIndex G qt t_index t_flags t_width t_precision t_conversion t_great t_known t_cutOff t_flagTwice t_last qa1 qa1_cells na1_cells a1_cells a1_used a1_burst) := hD
    refine lv_istore_n (lv' := [(3, .int u_22), (0, .ref qt), (1, .ref qa1), (2, .int a2)]) hx hb d_Specifier_readIndex_25 rfl hl (by decide) rfl (fun ls hl => ?_)
    refine lv_aload_n hx hb d_Specifier_readIndex_26 rfl (lv_at hl 2 rfl) ?_
    refine lv_iload_n hx hb d_Specifier_readIndex_27 rfl (lv_at hl 3 rfl) ?_
    obtain ⟨u_28, hu_28, hf⟩ := bd_ hf
    refine CALLi (va_runV (As := [.int a2]) (rest := []) ⟨hx, hb, hml, hown, hg⟩ (c_Row_at l G K qa1 qa1_cells na1_cells a1_cells a1_used a1_burst a2 _ u_28  hu_28) (cwV 1 hg (gV m_140 m_63 m_64 m_60 m_65) rfl rfl rfl (by decide +kernel) ⟨Nat.le_of_ble_eq_true rfl, Nat.le_of_ble_eq_true rfl⟩) ⟨PC_b, va_recv hK hP (ci := 4) (q0 := 1) rfl rfl, PC_p hE hS hAb (hP.sub [1, 2] rfl) (hD.sub [1, 2] (by decide) rfl)⟩ rfl rfl hl.1 rfl (lv_room (Nat.le_of_ble_eq_true rfl)) d_Specifier_readIndex_28 ⟨Nat.zero_le _, Nat.zero_le _⟩) hP hD hS hA [1, 2] rfl rfl rfl (fun H locs hP hD hS => ?_)
    have hP : va_P (gD G) vwCl (w_Specifier_readIndex G qt t_index t_flags t_width t_precision t_conversion t_great t_known t_cutOff t_flagTwice t_last qa1 qa1_cells na1_cells a1_cells a1_used a1_burst) H := hP
    have hD : va_D A (w_Specifier_readIndex G qt t_index t_flags t_width t_precision t_conversion t_great t_known t_cutOff t_flagTwice t_last qa1 qa1_cells na1_cells a1_cells a1_used a1_burst) := hD
    refine lv_bipush (v := 48) hx hb d_Specifier_readIndex_31 (by decide) ?_
    refine lv_icmp_eq (tgt := 51) hx hb d_Specifier_readIndex_33 (by decide) (fun c_33 => ?_) (fun c_33 => ?_)
    · have hf := ip_ c_33 hf
      refine lv_iload_n hx hb d_Specifier_readIndex_51 rfl (lv_at hl 3 rfl) ?_
      obtain rfl := Option.some.inj hf
      rw [← hQ]
      exact W.iret (v := a2) hx hb hr (fun t9 ht hW => ⟨⟨a2, (), rfl, rfl, ⟨by rw [ht]; exact hP, hD⟩⟩, hS.F ht⟩) hS.2.2 d_Specifier_readIndex_52
    · have hf := in_ c_33 hf
      refine lv_iload_n hx hb d_Specifier_readIndex_36 rfl (lv_at hl 0 rfl) ?_
      refine lv_iload_n hx hb d_Specifier_readIndex_37 rfl (lv_at hl 3 rfl) ?_
      refine lv_icmp_eq (tgt := 51) hx hb d_Specifier_readIndex_38 (by decide) (fun c_38 => ?_) (fun c_38 => ?_)
      · have hf := ip_ c_38 hf
        refine lv_iload_n hx hb d_Specifier_readIndex_51 rfl (lv_at hl 3 rfl) ?_
        obtain rfl := Option.some.inj hf
        rw [← hQ]
        exact W.iret (v := a2) hx hb hr (fun t9 ht hW => ⟨⟨a2, (), rfl, rfl, ⟨by rw [ht]; exact hP, hD⟩⟩, hS.F ht⟩) hS.2.2 d_Specifier_readIndex_52
      · have hf := in_ c_38 hf
        refine lv_aload_n hx hb d_Specifier_readIndex_41 rfl (lv_at hl 2 rfl) ?_
        refine lv_iload_n hx hb d_Specifier_readIndex_42 rfl (lv_at hl 0 rfl) ?_
        obtain ⟨u_43, hu_43, hf⟩ := bd_ hf
        refine CALLi (va_runV (As := [.int u_22]) (rest := []) ⟨hx, hb, hml, hown, hg⟩ (c_Row_at l G K qa1 qa1_cells na1_cells a1_cells a1_used a1_burst u_22 _ u_43  hu_43) (cwV 1 hg (gV m_140 m_63 m_64 m_60 m_65) rfl rfl rfl (by decide +kernel) ⟨Nat.le_of_ble_eq_true rfl, Nat.le_of_ble_eq_true rfl⟩) ⟨PC_b, va_recv hK hP (ci := 4) (q0 := 1) rfl rfl, PC_p hE hS hAb (hP.sub [1, 2] rfl) (hD.sub [1, 2] (by decide) rfl)⟩ rfl rfl hl.1 rfl (lv_room (Nat.le_of_ble_eq_true rfl)) d_Specifier_readIndex_43 ⟨Nat.zero_le _, Nat.zero_le _⟩) hP hD hS hA [1, 2] rfl rfl rfl (fun H locs hP hD hS => ?_)
        have hP : va_P (gD G) vwCl (w_Specifier_readIndex G qt t_index t_flags t_width t_precision t_conversion t_great t_known t_cutOff t_flagTwice t_last qa1 qa1_cells na1_cells a1_cells a1_used a1_burst) H := hP
        have hD : va_D A (w_Specifier_readIndex G qt t_index t_flags t_width t_precision t_conversion t_great t_known t_cutOff t_flagTwice t_last qa1 qa1_cells na1_cells a1_cells a1_used a1_burst) := hD
        refine lv_bipush (v := 36) hx hb d_Specifier_readIndex_46 (by decide) ?_
        refine lv_icmp_eq (tgt := 53) hx hb d_Specifier_readIndex_48 (by decide) (fun c_48 => ?_) (fun c_48 => ?_)
        · have hf := ip_ c_48 hf
          refine lv_aload_n hx hb d_Specifier_readIndex_53 rfl (lv_at hl 1 rfl) ?_
          refine lv_aload_n hx hb d_Specifier_readIndex_54 rfl (lv_at hl 2 rfl) ?_
          refine lv_iload_n hx hb d_Specifier_readIndex_55 rfl (lv_at hl 3 rfl) ?_
          refine lv_iload_n hx hb d_Specifier_readIndex_56 rfl (lv_at hl 0 rfl) ?_
          obtain ⟨u_57, hu_57, hf⟩ := bd_ hf
          refine CALLi (va_runS (As := [.ref qa1, .int a2, .int u_22]) (rest := [.ref qt]) ⟨hx, hb, hml, hown, hg⟩ (c_Specifier_numberIn l G K qa1 qa1_cells na1_cells a1_cells a1_used a1_burst a2 u_22 _ u_57  hu_57) (va_cwS 3 hg (gS m_145 m_146 m_114 m_147) rfl rfl rfl (by decide +kernel) ⟨Nat.le_of_ble_eq_true rfl, Nat.le_of_ble_eq_true rfl⟩) ⟨PC_b, PC_p hE hS hAb (hP.sub [1, 2] rfl) (hD.sub [1, 2] (by decide) rfl)⟩ rfl rfl hl.1 rfl (lv_room (Nat.le_of_ble_eq_true rfl)) d_Specifier_readIndex_57 ⟨Nat.zero_le _, Nat.zero_le _⟩) hP hD hS hA [1, 2] rfl rfl rfl (fun H locs hP hD hS => ?_)
          have hP : va_P (gD G) vwCl (w_Specifier_readIndex G qt t_index t_flags t_width t_precision t_conversion t_great t_known t_cutOff t_flagTwice t_last qa1 qa1_cells na1_cells a1_cells a1_used a1_burst) H := hP
          have hD : va_D A (w_Specifier_readIndex G qt t_index t_flags t_width t_precision t_conversion t_great t_known t_cutOff t_flagTwice t_last qa1 qa1_cells na1_cells a1_cells a1_used a1_burst) := hD
          refine va_put (D := gD G) (ci := 5) (v := .int u_57) (ty := .int) (C := R_Specifier) (T := F_Specifier) (N := 10) hx hb hg in_Specifier t_Specifier to_Specifier no_Specifier hown hK hP hD hS 0 rfl rfl 0 (by decide) (hg _ m_129) (fun _ h9 => h9) rfl (by decide +kernel) rfl rfl (Nat.le_of_ble_eq_true rfl) d_Specifier_readIndex_60 (fun H locs hP hD hS => ?_)
          have hP : va_P (gD G) vwCl (w_Specifier_readIndex G qt u_57 t_flags t_width t_precision t_conversion t_great t_known t_cutOff t_flagTwice t_last qa1 qa1_cells na1_cells a1_cells a1_used a1_burst) H := hP
          have hD : va_D A (w_Specifier_readIndex G qt u_57 t_flags t_width t_precision t_conversion t_great t_known t_cutOff t_flagTwice t_last qa1 qa1_cells na1_cells a1_cells a1_used a1_burst) := hD
          refine lv_iload_n hx hb d_Specifier_readIndex_63 rfl (lv_at hl 0 rfl) ?_
          refine lv_iconst (v := 1) hx hb d_Specifier_readIndex_64 (by decide) ?_
          refine lv_iadd hx hb d_Specifier_readIndex_65 ?_
          obtain rfl := Option.some.inj hf
          rw [← hQ]
          exact W.iret (v := (u_22 + (1 : Int32))) hx hb hr (fun t9 ht hW => ⟨⟨(u_22 + (1 : Int32)), (), rfl, rfl, ⟨by rw [ht]; exact hP, hD⟩⟩, hS.F ht⟩) hS.2.2 d_Specifier_readIndex_66
        · have hf := in_ c_48 hf
          refine lv_iload_n hx hb d_Specifier_readIndex_51 rfl (lv_at hl 3 rfl) ?_
          obtain rfl := Option.some.inj hf
          rw [← hQ]
          exact W.iret (v := a2) hx hb hr (fun t9 ht hW => ⟨⟨a2, (), rfl, rfl, ⟨by rw [ht]; exact hP, hD⟩⟩, hS.F ht⟩) hS.2.2 d_Specifier_readIndex_52
  · have hf := ip_ c_7 hf
    refine lv_aload_n hx hb d_Specifier_readIndex_10 rfl (lv_at hl 0 rfl) ?_
    refine lv_bipush (v := -2) hx hb d_Specifier_readIndex_11 (by decide) ?_
    refine va_put (D := gD G) (ci := 5) (v := .int (-2 : Int32)) (ty := .int) (C := R_Specifier) (T := F_Specifier) (N := 10) hx hb hg in_Specifier t_Specifier to_Specifier no_Specifier hown hK hP hD hS 0 rfl rfl 0 (by decide) (hg _ m_129) (fun _ h9 => h9) rfl (by decide +kernel) rfl rfl (Nat.le_of_ble_eq_true rfl) d_Specifier_readIndex_13 (fun H locs hP hD hS => ?_)
    have hP : va_P (gD G) vwCl (w_Specifier_readIndex G qt (-2 : Int32) t_flags t_width t_precision t_conversion t_great t_known t_cutOff t_flagTwice t_last qa1 qa1_cells na1_cells a1_cells a1_used a1_burst) H := hP
    have hD : va_D A (w_Specifier_readIndex G qt (-2 : Int32) t_flags t_width t_precision t_conversion t_great t_known t_cutOff t_flagTwice t_last qa1 qa1_cells na1_cells a1_cells a1_used a1_burst) := hD
    refine lv_iload_n hx hb d_Specifier_readIndex_16 rfl (lv_at hl 2 rfl) ?_
    refine lv_iconst (v := 1) hx hb d_Specifier_readIndex_17 (by decide) ?_
    refine lv_iadd hx hb d_Specifier_readIndex_18 ?_
    obtain rfl := Option.some.inj hf
    rw [← hQ]
    exact W.iret (v := (a2 + (1 : Int32))) hx hb hr (fun t9 ht hW => ⟨⟨(a2 + (1 : Int32)), (), rfl, rfl, ⟨by rw [ht]; exact hP, hD⟩⟩, hS.F ht⟩) hS.2.2 d_Specifier_readIndex_19
theorem d_Specifier_readFlags_0 : decode cd_Specifier_readFlags 0 = .ok (.iload_n 2, 1) := by decide +kernel
theorem d_Specifier_readFlags_1 : decode cd_Specifier_readFlags 1 = .ok (.istore_n 3, 1) := by decide +kernel
theorem d_Specifier_readFlags_2 : decode cd_Specifier_readFlags 2 = .ok (.iload_n 3, 1) := by decide +kernel
theorem d_Specifier_readFlags_3 : decode cd_Specifier_readFlags 3 = .ok (.aload_n 1, 1) := by decide +kernel
theorem d_Specifier_readFlags_4 : decode cd_Specifier_readFlags 4 = .ok (.getfield 96, 3) := by decide +kernel
theorem d_Specifier_readFlags_7 : decode cd_Specifier_readFlags 7 = .ok (.if_icmp .ge 63, 3) := by decide +kernel
theorem d_Specifier_readFlags_10 : decode cd_Specifier_readFlags 10 = .ok (.aload_n 1, 1) := by decide +kernel
theorem d_Specifier_readFlags_11 : decode cd_Specifier_readFlags 11 = .ok (.iload_n 3, 1) := by decide +kernel
theorem d_Specifier_readFlags_12 : decode cd_Specifier_readFlags 12 = .ok (.invokevirtual 84, 3) := by decide +kernel
theorem d_Specifier_readFlags_15 : decode cd_Specifier_readFlags 15 = .ok (.invokestatic 99, 3) := by decide +kernel
theorem d_Specifier_readFlags_18 : decode cd_Specifier_readFlags 18 = .ok (.istore 4, 2) := by decide +kernel
theorem d_Specifier_readFlags_20 : decode cd_Specifier_readFlags 20 = .ok (.iload 4, 2) := by decide +kernel
theorem d_Specifier_readFlags_22 : decode cd_Specifier_readFlags 22 = .ok (.ifCond .ne 6, 3) := by decide +kernel
theorem d_Specifier_readFlags_25 : decode cd_Specifier_readFlags 25 = .ok (.goto 45, 3) := by decide +kernel
theorem d_Specifier_readFlags_28 : decode cd_Specifier_readFlags 28 = .ok (.aload_n 0, 1) := by decide +kernel
theorem d_Specifier_readFlags_29 : decode cd_Specifier_readFlags 29 = .ok (.aload_n 0, 1) := by decide +kernel
theorem d_Specifier_readFlags_30 : decode cd_Specifier_readFlags 30 = .ok (.getfield 36, 3) := by decide +kernel
theorem d_Specifier_readFlags_33 : decode cd_Specifier_readFlags 33 = .ok (.ifCond .ne 12, 3) := by decide +kernel
theorem d_Specifier_readFlags_36 : decode cd_Specifier_readFlags 36 = .ok (.aload_n 0, 1) := by decide +kernel
theorem d_Specifier_readFlags_37 : decode cd_Specifier_readFlags 37 = .ok (.iload 4, 2) := by decide +kernel
theorem d_Specifier_readFlags_39 : decode cd_Specifier_readFlags 39 = .ok (.invokevirtual 56, 3) := by decide +kernel
theorem d_Specifier_readFlags_42 : decode cd_Specifier_readFlags 42 = .ok (.ifCond .eq 7, 3) := by decide +kernel
theorem d_Specifier_readFlags_45 : decode cd_Specifier_readFlags 45 = .ok (.iconst 1, 1) := by decide +kernel
theorem d_Specifier_readFlags_46 : decode cd_Specifier_readFlags 46 = .ok (.goto 4, 3) := by decide +kernel
theorem d_Specifier_readFlags_49 : decode cd_Specifier_readFlags 49 = .ok (.iconst 0, 1) := by decide +kernel
theorem d_Specifier_readFlags_50 : decode cd_Specifier_readFlags 50 = .ok (.putfield 36, 3) := by decide +kernel
theorem d_Specifier_readFlags_53 : decode cd_Specifier_readFlags 53 = .ok (.aload_n 0, 1) := by decide +kernel
theorem d_Specifier_readFlags_54 : decode cd_Specifier_readFlags 54 = .ok (.dup, 1) := by decide +kernel
theorem d_Specifier_readFlags_55 : decode cd_Specifier_readFlags 55 = .ok (.getfield 13, 3) := by decide +kernel
theorem d_Specifier_readFlags_58 : decode cd_Specifier_readFlags 58 = .ok (.iload 4, 2) := by decide +kernel
theorem d_Specifier_readFlags_60 : decode cd_Specifier_readFlags 60 = .ok (.ior, 1) := by decide +kernel
theorem d_Specifier_readFlags_61 : decode cd_Specifier_readFlags 61 = .ok (.putfield 13, 3) := by decide +kernel
theorem d_Specifier_readFlags_64 : decode cd_Specifier_readFlags 64 = .ok (.iinc 3 1, 3) := by decide +kernel
theorem d_Specifier_readFlags_67 : decode cd_Specifier_readFlags 67 = .ok (.goto (-65), 3) := by decide +kernel
theorem d_Specifier_readFlags_70 : decode cd_Specifier_readFlags 70 = .ok (.iload_n 3, 1) := by decide +kernel
theorem d_Specifier_readFlags_71 : decode cd_Specifier_readFlags 71 = .ok (.ireturn, 1) := by decide +kernel
theorem m_148 : Cond.methodLink R_Specifier 99 y_Specifier_flagOf ∈ gw := gm (i := 448) (by decide +kernel) (by decide +kernel)
theorem m_149 : Cond.static y_Specifier_flagOf ∈ gw := gm (i := 449) (by decide +kernel) (by decide +kernel)
set_option maxRecDepth 100000 in
theorem m_150 : Cond.code y_Specifier_flagOf cd_Specifier_flagOf 1 (some .int) ∈ gw := gm (i := 450) rfl rfl
def k_Specifier_readFlags_50 (rec_2 : (Int32 × Int32 × Int32) → Option (Int32 × Int32 × Int32)) (x3 : Int32) (x4 : Int32) (k1 : Int32) (t_flags : Int32) (t_flagTwice : Int32) : Option (Int32 × Int32 × Int32) :=
  rec_2 ((x3 + 1), (t_flags ||| x4), k1)
def k_Specifier_readFlags_45 (rec_2 : (Int32 × Int32 × Int32) → Option (Int32 × Int32 × Int32)) (x3 : Int32) (x4 : Int32) (t_flags : Int32) (t_flagTwice : Int32) : Option (Int32 × Int32 × Int32) :=
  k_Specifier_readFlags_50 rec_2 x3 x4 (1 : Int32) t_flags t_flagTwice
def b_Specifier_readFlags_2 (na1_cells : Nat) (a1_cells : Nat → Int32) (a1_used : Int32)  (rec_2 : (Int32 × Int32 × Int32) → Option (Int32 × Int32 × Int32)) (z2 : Int32 × Int32 × Int32) : Option (Int32 × Int32 × Int32) :=
  (if a1_used ≤ z2.1 then some (z2.1, z2.2.1, z2.2.2) else ((f_Row_at na1_cells a1_cells a1_used z2.1).bind fun u_12 => ((f_Specifier_flagOf u_12).bind fun u_15 => (if u_15 = 0 then some (z2.1, z2.2.1, z2.2.2) else (if z2.2.2 = 0 then ((f_Specifier_hasAny z2.2.1 u_15).bind fun u_39 => (if u_39 = 0 then k_Specifier_readFlags_50 rec_2 z2.1 u_15 (0 : Int32) z2.2.1 z2.2.2 else k_Specifier_readFlags_45 rec_2 z2.1 u_15 z2.2.1 z2.2.2)) else k_Specifier_readFlags_45 rec_2 z2.1 u_15 z2.2.1 z2.2.2)))))
def f_Specifier_readFlags (K : Nat) (t_flags : Int32) (t_flagTwice : Int32) (na1_cells : Nat) (a1_cells : Nat → Int32) (a1_used : Int32) (a2 : Int32) : Option (Int32 × Int32 × Int32) :=
  lp_ (b_Specifier_readFlags_2 na1_cells a1_cells a1_used ) K (a2, t_flags, t_flagTwice)
set_option maxHeartbeats 4000000 in
set_option maxRecDepth 100000 in
theorem c_Specifier_readFlags (l : Launch) (G : Gt) (K : Nat) (qt : Nat) (t_index : Int32) (t_flags : Int32) (t_width : Int32) (t_precision : Int32) (t_conversion : Int32) (t_great : Int32) (t_known : Int32) (t_cutOff : Int32) (t_flagTwice : Int32) (t_last : Int32) (qa1 : Nat) (qa1_cells : Nat) (na1_cells : Nat) (a1_cells : Nat → Int32) (a1_used : Int32) (a1_burst : Int32) (a2 : Int32) (sz : Nat) (res : Int32 × Int32 × Int32)   (hf : f_Specifier_readFlags K t_flags t_flagTwice na1_cells a1_cells a1_used a2 = some res) : Met l y_Specifier_readFlags (.code y_Specifier_readFlags cd_Specifier_readFlags 5 (some .int) :: gw) { frames := 1, cells := 0, slots := 0, locals := 40 } (PC G ([.ref qt, .ref qa1, .int a2] : List Value) sz (w_Specifier_readIndex G qt t_index t_flags t_width t_precision t_conversion t_great t_known t_cutOff t_flagTwice t_last qa1 qa1_cells na1_cells a1_cells a1_used a1_burst)) (QI G res.1 (va_A (w_Specifier_readIndex G qt t_index t_flags t_width t_precision t_conversion t_great t_known t_cutOff t_flagTwice t_last qa1 qa1_cells na1_cells a1_cells a1_used a1_burst) sz) (w_Specifier_readIndex G qt t_index res.2.1 t_width t_precision t_conversion t_great t_known t_cutOff res.2.2 t_last qa1 qa1_cells na1_cells a1_cells a1_used a1_burst)) 0 0 (va_A (w_Specifier_readIndex G qt t_index t_flags t_width t_precision t_conversion t_great t_known t_cutOff t_flagTwice t_last qa1 qa1_cells na1_cells a1_cells a1_used a1_burst) sz) := by
  refine Met.ofW (cc := cd_Specifier_readFlags) (maxL := 5) (ret := (some .int)) (by decide) rfl ?_
  intro p e s m args below meth c s₁ B hml hv
  obtain ⟨rfl, hsz, hP, hE, hD0⟩ := hv
  have hx := B.exec
  have hb := B.bytes
  have hr := B.returns
  have hts := atoms_spec (ws := (.code y_Specifier_readFlags cd_Specifier_readFlags 5 (some .int) :: gw)) B.pre
  have hg : ∀ w ∈ gw, w.before _ s = true := fun w h => hts w (List.mem_cons_of_mem _ h)
  have hown : s.vm.findClass R_Specifier = some m.cls := findClass_of_methodNamed B.named
  have hlocks := B.notSynchronized
  subst hsz
  have hK := hE.K
  have hD := hD0.self (sz := s.heap.size)
  have hAb := hE.ab hD0
  obtain ⟨Q, hQ⟩ : ∃ Q, MQ below (QI G res.1 (va_A (w_Specifier_readIndex G qt t_index t_flags t_width t_precision t_conversion t_great t_known t_cutOff t_flagTwice t_last qa1 qa1_cells na1_cells a1_cells a1_used a1_burst) s.heap.size) (w_Specifier_readIndex G qt t_index res.2.1 t_width t_precision t_conversion t_great t_known t_cutOff res.2.2 t_last qa1 qa1_cells na1_cells a1_cells a1_used a1_burst)) ([.ref qt, .ref qa1, .int a2] : List Value).toArray s 0 0 (va_A (w_Specifier_readIndex G qt t_index t_flags t_width t_precision t_conversion t_great t_known t_cutOff t_flagTwice t_last qa1 qa1_cells na1_cells a1_cells a1_used a1_burst) s.heap.size) = Q := ⟨_, rfl⟩
  show W p l e { frames := 1, cells := 0, slots := 0, locals := 40 } s m ([.ref qt, .ref qa1, .int a2] : List Value).toArray below meth c s.heap [] 0 0 (MQ below (QI G res.1 (va_A (w_Specifier_readIndex G qt t_index t_flags t_width t_precision t_conversion t_great t_known t_cutOff t_flagTwice t_last qa1 qa1_cells na1_cells a1_cells a1_used a1_burst) s.heap.size) (w_Specifier_readIndex G qt t_index res.2.1 t_width t_precision t_conversion t_great t_known t_cutOff res.2.2 t_last qa1 qa1_cells na1_cells a1_cells a1_used a1_burst)) ([.ref qt, .ref qa1, .int a2] : List Value).toArray s 0 0 (va_A (w_Specifier_readIndex G qt t_index t_flags t_width t_precision t_conversion t_great t_known t_cutOff t_flagTwice t_last qa1 qa1_cells na1_cells a1_cells a1_used a1_burst) s.heap.size)) _
  rw [hQ]
  have hA : ∀ q : Nat, s.heap.size ≤ q → va_A (w_Specifier_readIndex G qt t_index t_flags t_width t_precision t_conversion t_great t_known t_cutOff t_flagTwice t_last qa1 qa1_cells na1_cells a1_cells a1_used a1_burst) s.heap.size q := fun q h => Or.inr h
  obtain ⟨A, hAe⟩ : ∃ A, va_A (w_Specifier_readIndex G qt t_index t_flags t_width t_precision t_conversion t_great t_known t_cutOff t_flagTwice t_last qa1 qa1_cells na1_cells a1_cells a1_used a1_burst) s.heap.size = A := ⟨_, rfl⟩
  rw [hAe] at hA hD hAb hQ
  have hS : va_S A s.heap s.heap [] := va_S.rf
  have hl := lv_entry (([.ref qt, .ref qa1, .int a2] : List Value)) (n := 5) (Nat.le_of_ble_eq_true rfl)
  rw [lg_entry_eq]
  generalize (lg_sl (([.ref qt, .ref qa1, .int a2] : List Value)) ++ List.replicate (5 - (lg_sl (([.ref qt, .ref qa1, .int a2] : List Value))).length) Slot.unset).toArray = ls at hl ⊢
  have hl : lv_has ls 5 [(0, .ref qt), (1, .ref qa1), (2, .int a2)] := hl
  have W_2 : ∀   (n_2 : Nat) (z2 : Int32 × Int32 × Int32) , lp_ (b_Specifier_readFlags_2 na1_cells a1_cells a1_used ) n_2 z2 = some res → ∀ (H : Heap) (locs : List Loc) (ls : Array Slot), va_P (gD G) vwCl (w_Specifier_readIndex G qt t_index z2.2.1 t_width t_precision t_conversion t_great t_known t_cutOff z2.2.2 t_last qa1 qa1_cells na1_cells a1_cells a1_used a1_burst) H → va_D A (w_Specifier_readIndex G qt t_index z2.2.1 t_width t_precision t_conversion t_great t_known t_cutOff z2.2.2 t_last qa1 qa1_cells na1_cells a1_cells a1_used a1_burst) → va_S A s.heap H locs → lv_has ls 5 [(0, .ref qt), (1, .ref qa1), (3, .int z2.1)] → W p l e { frames := 1, cells := 0, slots := 0, locals := 40 } s m ([.ref qt, .ref qa1, .int a2] : List Value).toArray below meth c H locs 0 0 Q (F0 m 2 ls []) := by
    intro  n_2
    induction n_2 with
    | zero =>
      intro z2  hf
      cases hf
    | succ n_2 ih_2 =>
      intro z2  hf H locs ls hP hD hS hl
      have hf : b_Specifier_readFlags_2 na1_cells a1_cells a1_used  (lp_ (b_Specifier_readFlags_2 na1_cells a1_cells a1_used ) n_2) z2 = some res := hf
      generalize lp_ (b_Specifier_readFlags_2 na1_cells a1_cells a1_used ) n_2 = rec_2 at hf ih_2
      have W_50 : ∀ (x3 : Int32) (x4 : Int32) (k1 : Int32) (t_flags : Int32) (t_flagTwice : Int32) (b_k1 : bl k1), k_Specifier_readFlags_50 rec_2 x3 x4 k1 t_flags t_flagTwice = some res → ∀ (H : Heap) (locs : List Loc) (ls : Array Slot), va_P (gD G) vwCl (w_Specifier_readIndex G qt t_index t_flags t_width t_precision t_conversion t_great t_known t_cutOff t_flagTwice t_last qa1 qa1_cells na1_cells a1_cells a1_used a1_burst) H → va_D A (w_Specifier_readIndex G qt t_index t_flags t_width t_precision t_conversion t_great t_known t_cutOff t_flagTwice t_last qa1 qa1_cells na1_cells a1_cells a1_used a1_burst) → va_S A s.heap H locs → lv_has ls 5 [(0, .ref qt), (1, .ref qa1), (3, .int x3), (4, .int x4)] → W p l e { frames := 1, cells := 0, slots := 0, locals := 40 } s m ([.ref qt, .ref qa1, .int a2] : List Value).toArray below meth c H locs 0 0 Q (F0 m 50 ls [.int k1, .ref qt]) := by
        intro x3 x4 k1 t_flags t_flagTwice b_k1 hf H locs ls hP hD hS hl
        unfold k_Specifier_readFlags_50 at hf
        refine va_put (D := gD G) (ci := 5) (v := .int k1) (ty := .boolean) (C := R_Specifier) (T := F_Specifier) (N := 10) hx hb hg in_Specifier t_Specifier to_Specifier no_Specifier hown hK hP hD hS 0 rfl rfl 8 (by decide) (hg _ m_130) (fun _ h9 => h9) rfl (by decide +kernel) (bl_n b_k1) (bl_f b_k1) (Nat.le_of_ble_eq_true rfl) d_Specifier_readFlags_50 (fun H locs hP hD hS => ?_)
        have hP : va_P (gD G) vwCl (w_Specifier_readIndex G qt t_index t_flags t_width t_precision t_conversion t_great t_known t_cutOff k1 t_last qa1 qa1_cells na1_cells a1_cells a1_used a1_burst) H := hP
        have hD : va_D A (w_Specifier_readIndex G qt t_index t_flags t_width t_precision t_conversion t_great t_known t_cutOff k1 t_last qa1 qa1_cells na1_cells a1_cells a1_used a1_burst) := hD
        refine lv_aload_n hx hb d_Specifier_readFlags_53 rfl (lv_at hl 0 rfl) ?_
        refine lv_dup hx hb d_Specifier_readFlags_54 rfl ?_
        refine va_get (D := gD G) (ci := 5) (v := .int t_flags) (C := R_Specifier) (T := F_Specifier) (N := 10) hx hb hg in_Specifier hown hK hP 0 rfl rfl 1 (by decide) (hg _ m_110) (fun _ h9 => h9) rfl d_Specifier_readFlags_55 ?_
        refine lv_iload hx hb d_Specifier_readFlags_58 (lv_at hl 3 rfl) ?_
        refine lv_ior hx hb d_Specifier_readFlags_60 ?_
        refine va_put (D := gD G) (ci := 5) (v := .int (t_flags ||| x4)) (ty := .int) (C := R_Specifier) (T := F_Specifier) (N := 10) hx hb hg in_Specifier t_Specifier to_Specifier no_Specifier hown hK hP hD hS 0 rfl rfl 1 (by decide) (hg _ m_110) (fun _ h9 => h9) rfl (by decide +kernel) rfl rfl (Nat.le_of_ble_eq_true rfl) d_Specifier_readFlags_61 (fun H locs hP hD hS => ?_)
        have hP : va_P (gD G) vwCl (w_Specifier_readIndex G qt t_index (t_flags ||| x4) t_width t_precision t_conversion t_great t_known t_cutOff k1 t_last qa1 qa1_cells na1_cells a1_cells a1_used a1_burst) H := hP
        have hD : va_D A (w_Specifier_readIndex G qt t_index (t_flags ||| x4) t_width t_precision t_conversion t_great t_known t_cutOff k1 t_last qa1 qa1_cells na1_cells a1_cells a1_used a1_burst) := hD
        refine lv_iinc (v := (x3 + 1)) (lv' := [(3, .int (x3 + 1)), (0, .ref qt), (1, .ref qa1), (4, .int x4)]) hx hb d_Specifier_readFlags_64 hl (k := 2) rfl rfl (by decide) rfl (fun ls hl => ?_)
        refine lv_goto (tgt := 2) hx hb d_Specifier_readFlags_67 (by decide) ?_
        exact ih_2 ((x3 + 1), (t_flags ||| x4), k1)  hf _ _ _ hP hD hS (lv_sub hl [1, 2, 0] rfl)
      have W_45 : ∀ (x3 : Int32) (x4 : Int32) (t_flags : Int32) (t_flagTwice : Int32) , k_Specifier_readFlags_45 rec_2 x3 x4 t_flags t_flagTwice = some res → ∀ (H : Heap) (locs : List Loc) (ls : Array Slot), va_P (gD G) vwCl (w_Specifier_readIndex G qt t_index t_flags t_width t_precision t_conversion t_great t_known t_cutOff t_flagTwice t_last qa1 qa1_cells na1_cells a1_cells a1_used a1_burst) H → va_D A (w_Specifier_readIndex G qt t_index t_flags t_width t_precision t_conversion t_great t_known t_cutOff t_flagTwice t_last qa1 qa1_cells na1_cells a1_cells a1_used a1_burst) → va_S A s.heap H locs → lv_has ls 5 [(0, .ref qt), (1, .ref qa1), (3, .int x3), (4, .int x4)] → W p l e { frames := 1, cells := 0, slots := 0, locals := 40 } s m ([.ref qt, .ref qa1, .int a2] : List Value).toArray below meth c H locs 0 0 Q (F0 m 45 ls [.ref qt]) := by
        intro x3 x4 t_flags t_flagTwice  hf H locs ls hP hD hS hl
        unfold k_Specifier_readFlags_45 at hf
        refine lv_iconst (v := 1) hx hb d_Specifier_readFlags_45 (by decide) ?_
        refine lv_goto (tgt := 50) hx hb d_Specifier_readFlags_46 (by decide) ?_
        exact W_50 x3 x4 (1 : Int32) t_flags t_flagTwice bl_1 hf _ _ _ hP hD hS (lv_sub hl [0, 1, 2, 3] rfl)
      unfold b_Specifier_readFlags_2 at hf
      refine lv_iload_n hx hb d_Specifier_readFlags_2 rfl (lv_at hl 2 rfl) ?_
      refine lv_aload_n hx hb d_Specifier_readFlags_3 rfl (lv_at hl 1 rfl) ?_
      refine va_getN (D := gD G) (ci := 4) (v := .int a1_used) (C := R_Row) (T := F_Row) (N := 3) hx hb hg in_Row hown hK hP 1 rfl rfl 1 (by decide) (va_Nw.use rfl (hE.nw _ nm_0)) (fun _ h9 => h9) rfl d_Specifier_readFlags_4 ?_
      refine lv_icmp_ge (tgt := 70) hx hb d_Specifier_readFlags_7 (by decide) (fun c_7 => ?_) (fun c_7 => ?_)
      · have hf := ip_ c_7 hf
        refine lv_iload_n hx hb d_Specifier_readFlags_70 rfl (lv_at hl 2 rfl) ?_
        obtain rfl := Option.some.inj hf
        rw [← hQ]
        exact W.iret (v := z2.1) hx hb hr (fun t9 ht hW => ⟨⟨z2.1, (), rfl, rfl, ⟨by rw [ht]; exact hP, hD⟩⟩, hS.F ht⟩) hS.2.2 d_Specifier_readFlags_71
      · have hf := in_ c_7 hf
        refine lv_aload_n hx hb d_Specifier_readFlags_10 rfl (lv_at hl 1 rfl) ?_
        refine lv_iload_n hx hb d_Specifier_readFlags_11 rfl (lv_at hl 2 rfl) ?_
        obtain ⟨u_12, hu_12, hf⟩ := bd_ hf
        refine CALLi (va_runV (As := [.int z2.1]) (rest := []) ⟨hx, hb, hml, hown, hg⟩ (c_Row_at l G K qa1 qa1_cells na1_cells a1_cells a1_used a1_burst z2.1 _ u_12  hu_12) (cwV 1 hg (gV m_140 m_63 m_64 m_60 m_65) rfl rfl rfl (by decide +kernel) ⟨Nat.le_of_ble_eq_true rfl, Nat.le_of_ble_eq_true rfl⟩) ⟨PC_b, va_recv hK hP (ci := 4) (q0 := 1) rfl rfl, PC_p hE hS hAb (hP.sub [1, 2] rfl) (hD.sub [1, 2] (by decide) rfl)⟩ rfl rfl hl.1 rfl (lv_room (Nat.le_of_ble_eq_true rfl)) d_Specifier_readFlags_12 ⟨Nat.zero_le _, Nat.zero_le _⟩) hP hD hS hA [1, 2] rfl rfl rfl (fun H locs hP hD hS => ?_)
        have hP : va_P (gD G) vwCl (w_Specifier_readIndex G qt t_index z2.2.1 t_width t_precision t_conversion t_great t_known t_cutOff z2.2.2 t_last qa1 qa1_cells na1_cells a1_cells a1_used a1_burst) H := hP
        have hD : va_D A (w_Specifier_readIndex G qt t_index z2.2.1 t_width t_precision t_conversion t_great t_known t_cutOff z2.2.2 t_last qa1 qa1_cells na1_cells a1_cells a1_used a1_burst) := hD
        obtain ⟨u_15, hu_15, hf⟩ := bd_ hf
        refine CALLi (va_runS (As := [.int u_12]) (rest := []) ⟨hx, hb, hml, hown, hg⟩ (c_Specifier_flagOf l G K u_12 _ u_15  hu_15) (va_cwS 1 hg (gS m_148 m_149 m_114 m_150) rfl rfl rfl (by decide +kernel) ⟨Nat.le_of_ble_eq_true rfl, Nat.le_of_ble_eq_true rfl⟩) ⟨PC_b, PC_p hE hS hAb (hP.sub [] rfl) (hD.sub [] (by decide) rfl)⟩ rfl rfl hl.1 rfl (lv_room (Nat.le_of_ble_eq_true rfl)) d_Specifier_readFlags_15 ⟨Nat.zero_le _, Nat.zero_le _⟩) hP hD hS hA [] rfl rfl rfl (fun H locs hP hD hS => ?_)
        have hP : va_P (gD G) vwCl (w_Specifier_readIndex G qt t_index z2.2.1 t_width t_precision t_conversion t_great t_known t_cutOff z2.2.2 t_last qa1 qa1_cells na1_cells a1_cells a1_used a1_burst) H := hP
        have hD : va_D A (w_Specifier_readIndex G qt t_index z2.2.1 t_width t_precision t_conversion t_great t_known t_cutOff z2.2.2 t_last qa1 qa1_cells na1_cells a1_cells a1_used a1_burst) := hD
        refine lv_istore (lv' := [(4, .int u_15), (0, .ref qt), (1, .ref qa1), (3, .int z2.1)]) hx hb d_Specifier_readFlags_18 hl (by decide) rfl (fun ls hl => ?_)
        refine lv_iload hx hb d_Specifier_readFlags_20 (lv_at hl 0 rfl) ?_
        refine lv_if_ne (tgt := 28) hx hb d_Specifier_readFlags_22 (by decide) (fun c_22 => ?_) (fun c_22 => ?_)
        · have hf := in_ c_22 hf
          refine lv_aload_n hx hb d_Specifier_readFlags_28 rfl (lv_at hl 1 rfl) ?_
          refine lv_aload_n hx hb d_Specifier_readFlags_29 rfl (lv_at hl 1 rfl) ?_
          refine va_get (D := gD G) (ci := 5) (v := .int z2.2.2) (C := R_Specifier) (T := F_Specifier) (N := 10) hx hb hg in_Specifier hown hK hP 0 rfl rfl 8 (by decide) (hg _ m_130) (fun _ h9 => h9) rfl d_Specifier_readFlags_30 ?_
          refine lv_if_ne (tgt := 45) hx hb d_Specifier_readFlags_33 (by decide) (fun c_33 => ?_) (fun c_33 => ?_)
          · have hf := in_ c_33 hf
            exact W_45 z2.1 u_15 z2.2.1 z2.2.2  hf _ _ _ hP hD hS (lv_sub hl [1, 2, 3, 0] rfl)
          · have hf := ip_ c_33 hf
            refine lv_aload_n hx hb d_Specifier_readFlags_36 rfl (lv_at hl 1 rfl) ?_
            refine lv_iload hx hb d_Specifier_readFlags_37 (lv_at hl 0 rfl) ?_
            obtain ⟨u_39, hu_39, hf⟩ := bd_ hf
            refine CALLz (va_runV (As := [.int u_15]) (rest := [.ref qt]) ⟨hx, hb, hml, hown, hg⟩ (c_Specifier_hasAny l G K qt t_index z2.2.1 t_width t_precision t_conversion t_great t_known t_cutOff z2.2.2 t_last u_15 _ u_39  hu_39) (cwV 1 hg (gV m_111 m_112 m_113 m_114 m_115) rfl rfl rfl (by decide +kernel) ⟨Nat.le_of_ble_eq_true rfl, Nat.le_of_ble_eq_true rfl⟩) ⟨PC_b, va_recv hK hP (ci := 5) (q0 := 0) rfl rfl, PC_p hE hS hAb (hP.sub [0] rfl) (hD.sub [0] (by decide) rfl)⟩ rfl rfl hl.1 rfl (lv_room (Nat.le_of_ble_eq_true rfl)) d_Specifier_readFlags_39 ⟨Nat.zero_le _, Nat.zero_le _⟩) hP hD hS hA [0] rfl rfl rfl (fun bu_39 H locs hP hD hS => ?_)
            have hP : va_P (gD G) vwCl (w_Specifier_readIndex G qt t_index z2.2.1 t_width t_precision t_conversion t_great t_known t_cutOff z2.2.2 t_last qa1 qa1_cells na1_cells a1_cells a1_used a1_burst) H := hP
            have hD : va_D A (w_Specifier_readIndex G qt t_index z2.2.1 t_width t_precision t_conversion t_great t_known t_cutOff z2.2.2 t_last qa1 qa1_cells na1_cells a1_cells a1_used a1_burst) := hD
            refine lv_if_eq (tgt := 49) hx hb d_Specifier_readFlags_42 (by decide) (fun c_42 => ?_) (fun c_42 => ?_)
            · have hf := ip_ c_42 hf
              refine lv_iconst (v := 0) hx hb d_Specifier_readFlags_49 (by decide) ?_
              exact W_50 z2.1 u_15 (0 : Int32) z2.2.1 z2.2.2 bl_0 hf _ _ _ hP hD hS (lv_sub hl [1, 2, 3, 0] rfl)
            · have hf := in_ c_42 hf
              exact W_45 z2.1 u_15 z2.2.1 z2.2.2  hf _ _ _ hP hD hS (lv_sub hl [1, 2, 3, 0] rfl)
        · have hf := ip_ c_22 hf
          refine lv_goto (tgt := 70) hx hb d_Specifier_readFlags_25 (by decide) ?_
          refine lv_iload_n hx hb d_Specifier_readFlags_70 rfl (lv_at hl 3 rfl) ?_
          obtain rfl := Option.some.inj hf
          rw [← hQ]
          exact W.iret (v := z2.1) hx hb hr (fun t9 ht hW => ⟨⟨z2.1, (), rfl, rfl, ⟨by rw [ht]; exact hP, hD⟩⟩, hS.F ht⟩) hS.2.2 d_Specifier_readFlags_71
  unfold f_Specifier_readFlags at hf
  refine lv_iload_n hx hb d_Specifier_readFlags_0 rfl (lv_at hl 2 rfl) ?_
  refine lv_istore_n (lv' := [(3, .int a2), (0, .ref qt), (1, .ref qa1), (2, .int a2)]) hx hb d_Specifier_readFlags_1 rfl hl (by decide) rfl (fun ls hl => ?_)
  exact W_2   K (a2, t_flags, t_flagTwice)  hf _ _ _ hP hD hS (lv_sub hl [1, 2, 0] rfl)
theorem d_Specifier_readWidth_0 : decode cd_Specifier_readWidth 0 = .ok (.aload_n 1, 1) := by decide +kernel
theorem d_Specifier_readWidth_1 : decode cd_Specifier_readWidth 1 = .ok (.iload_n 2, 1) := by decide +kernel
theorem d_Specifier_readWidth_2 : decode cd_Specifier_readWidth 2 = .ok (.invokestatic 89, 3) := by decide +kernel
theorem d_Specifier_readWidth_5 : decode cd_Specifier_readWidth 5 = .ok (.istore_n 3, 1) := by decide +kernel
theorem d_Specifier_readWidth_6 : decode cd_Specifier_readWidth 6 = .ok (.iload_n 3, 1) := by decide +kernel
theorem d_Specifier_readWidth_7 : decode cd_Specifier_readWidth 7 = .ok (.iload_n 2, 1) := by decide +kernel
theorem d_Specifier_readWidth_8 : decode cd_Specifier_readWidth 8 = .ok (.if_icmp .le 13, 3) := by decide +kernel
theorem d_Specifier_readWidth_11 : decode cd_Specifier_readWidth 11 = .ok (.aload_n 0, 1) := by decide +kernel
theorem d_Specifier_readWidth_12 : decode cd_Specifier_readWidth 12 = .ok (.aload_n 1, 1) := by decide +kernel
theorem d_Specifier_readWidth_13 : decode cd_Specifier_readWidth 13 = .ok (.iload_n 2, 1) := by decide +kernel
theorem d_Specifier_readWidth_14 : decode cd_Specifier_readWidth 14 = .ok (.iload_n 3, 1) := by decide +kernel
theorem d_Specifier_readWidth_15 : decode cd_Specifier_readWidth 15 = .ok (.invokestatic 92, 3) := by decide +kernel
theorem d_Specifier_readWidth_18 : decode cd_Specifier_readWidth 18 = .ok (.putfield 16, 3) := by decide +kernel
theorem d_Specifier_readWidth_21 : decode cd_Specifier_readWidth 21 = .ok (.iload_n 3, 1) := by decide +kernel
theorem d_Specifier_readWidth_22 : decode cd_Specifier_readWidth 22 = .ok (.ireturn, 1) := by decide +kernel
def f_Specifier_readWidth (K : Nat) (t_width : Int32) (na1_cells : Nat) (a1_cells : Nat → Int32) (a1_used : Int32) (a2 : Int32) : Option (Int32 × Int32) :=
  ((f_Specifier_digitsEnd K na1_cells a1_cells a1_used a2).bind fun u_2 => (if u_2 ≤ a2 then some (u_2, t_width) else ((f_Specifier_numberIn K na1_cells a1_cells a1_used a2 u_2).bind fun u_15 => some (u_2, u_15))))
set_option maxHeartbeats 4000000 in
set_option maxRecDepth 100000 in
theorem c_Specifier_readWidth (l : Launch) (G : Gt) (K : Nat) (qt : Nat) (t_index : Int32) (t_flags : Int32) (t_width : Int32) (t_precision : Int32) (t_conversion : Int32) (t_great : Int32) (t_known : Int32) (t_cutOff : Int32) (t_flagTwice : Int32) (t_last : Int32) (qa1 : Nat) (qa1_cells : Nat) (na1_cells : Nat) (a1_cells : Nat → Int32) (a1_used : Int32) (a1_burst : Int32) (a2 : Int32) (sz : Nat) (res : Int32 × Int32)   (hf : f_Specifier_readWidth K t_width na1_cells a1_cells a1_used a2 = some res) : Met l y_Specifier_readWidth (.code y_Specifier_readWidth cd_Specifier_readWidth 4 (some .int) :: gw) { frames := 2, cells := 0, slots := 0, locals := 80 } (PC G ([.ref qt, .ref qa1, .int a2] : List Value) sz (w_Specifier_readIndex G qt t_index t_flags t_width t_precision t_conversion t_great t_known t_cutOff t_flagTwice t_last qa1 qa1_cells na1_cells a1_cells a1_used a1_burst)) (QI G res.1 (va_A (w_Specifier_readIndex G qt t_index t_flags t_width t_precision t_conversion t_great t_known t_cutOff t_flagTwice t_last qa1 qa1_cells na1_cells a1_cells a1_used a1_burst) sz) (w_Specifier_readIndex G qt t_index t_flags res.2 t_precision t_conversion t_great t_known t_cutOff t_flagTwice t_last qa1 qa1_cells na1_cells a1_cells a1_used a1_burst)) 0 0 (va_A (w_Specifier_readIndex G qt t_index t_flags t_width t_precision t_conversion t_great t_known t_cutOff t_flagTwice t_last qa1 qa1_cells na1_cells a1_cells a1_used a1_burst) sz) := by
  refine Met.ofW (cc := cd_Specifier_readWidth) (maxL := 4) (ret := (some .int)) (by decide) rfl ?_
  intro p e s m args below meth c s₁ B hml hv
  obtain ⟨rfl, hsz, hP, hE, hD0⟩ := hv
  have hx := B.exec
  have hb := B.bytes
  have hr := B.returns
  have hts := atoms_spec (ws := (.code y_Specifier_readWidth cd_Specifier_readWidth 4 (some .int) :: gw)) B.pre
  have hg : ∀ w ∈ gw, w.before _ s = true := fun w h => hts w (List.mem_cons_of_mem _ h)
  have hown : s.vm.findClass R_Specifier = some m.cls := findClass_of_methodNamed B.named
  have hlocks := B.notSynchronized
  subst hsz
  have hK := hE.K
  have hD := hD0.self (sz := s.heap.size)
  have hAb := hE.ab hD0
  obtain ⟨Q, hQ⟩ : ∃ Q, MQ below (QI G res.1 (va_A (w_Specifier_readIndex G qt t_index t_flags t_width t_precision t_conversion t_great t_known t_cutOff t_flagTwice t_last qa1 qa1_cells na1_cells a1_cells a1_used a1_burst) s.heap.size) (w_Specifier_readIndex G qt t_index t_flags res.2 t_precision t_conversion t_great t_known t_cutOff t_flagTwice t_last qa1 qa1_cells na1_cells a1_cells a1_used a1_burst)) ([.ref qt, .ref qa1, .int a2] : List Value).toArray s 0 0 (va_A (w_Specifier_readIndex G qt t_index t_flags t_width t_precision t_conversion t_great t_known t_cutOff t_flagTwice t_last qa1 qa1_cells na1_cells a1_cells a1_used a1_burst) s.heap.size) = Q := ⟨_, rfl⟩
  show W p l e { frames := 2, cells := 0, slots := 0, locals := 80 } s m ([.ref qt, .ref qa1, .int a2] : List Value).toArray below meth c s.heap [] 0 0 (MQ below (QI G res.1 (va_A (w_Specifier_readIndex G qt t_index t_flags t_width t_precision t_conversion t_great t_known t_cutOff t_flagTwice t_last qa1 qa1_cells na1_cells a1_cells a1_used a1_burst) s.heap.size) (w_Specifier_readIndex G qt t_index t_flags res.2 t_precision t_conversion t_great t_known t_cutOff t_flagTwice t_last qa1 qa1_cells na1_cells a1_cells a1_used a1_burst)) ([.ref qt, .ref qa1, .int a2] : List Value).toArray s 0 0 (va_A (w_Specifier_readIndex G qt t_index t_flags t_width t_precision t_conversion t_great t_known t_cutOff t_flagTwice t_last qa1 qa1_cells na1_cells a1_cells a1_used a1_burst) s.heap.size)) _
  rw [hQ]
  have hA : ∀ q : Nat, s.heap.size ≤ q → va_A (w_Specifier_readIndex G qt t_index t_flags t_width t_precision t_conversion t_great t_known t_cutOff t_flagTwice t_last qa1 qa1_cells na1_cells a1_cells a1_used a1_burst) s.heap.size q := fun q h => Or.inr h
  obtain ⟨A, hAe⟩ : ∃ A, va_A (w_Specifier_readIndex G qt t_index t_flags t_width t_precision t_conversion t_great t_known t_cutOff t_flagTwice t_last qa1 qa1_cells na1_cells a1_cells a1_used a1_burst) s.heap.size = A := ⟨_, rfl⟩
  rw [hAe] at hA hD hAb hQ
  have hS : va_S A s.heap s.heap [] := va_S.rf
  have hl := lv_entry (([.ref qt, .ref qa1, .int a2] : List Value)) (n := 4) (Nat.le_of_ble_eq_true rfl)
  rw [lg_entry_eq]
  generalize (lg_sl (([.ref qt, .ref qa1, .int a2] : List Value)) ++ List.replicate (4 - (lg_sl (([.ref qt, .ref qa1, .int a2] : List Value))).length) Slot.unset).toArray = ls at hl ⊢
  have hl : lv_has ls 4 [(0, .ref qt), (1, .ref qa1), (2, .int a2)] := hl
  unfold f_Specifier_readWidth at hf
  refine lv_aload_n hx hb d_Specifier_readWidth_0 rfl (lv_at hl 1 rfl) ?_
  refine lv_iload_n hx hb d_Specifier_readWidth_1 rfl (lv_at hl 2 rfl) ?_
  obtain ⟨u_2, hu_2, hf⟩ := bd_ hf
  refine CALLi (va_runS (As := [.ref qa1, .int a2]) (rest := []) ⟨hx, hb, hml, hown, hg⟩ (c_Specifier_digitsEnd l G K qa1 qa1_cells na1_cells a1_cells a1_used a1_burst a2 _ u_2  hu_2) (va_cwS 2 hg (gS m_142 m_143 m_114 m_144) rfl rfl rfl (by decide +kernel) ⟨Nat.le_of_ble_eq_true rfl, Nat.le_of_ble_eq_true rfl⟩) ⟨PC_b, PC_p hE hS hAb (hP.sub [1, 2] rfl) (hD.sub [1, 2] (by decide) rfl)⟩ rfl rfl hl.1 rfl (lv_room (Nat.le_of_ble_eq_true rfl)) d_Specifier_readWidth_2 ⟨Nat.zero_le _, Nat.zero_le _⟩) hP hD hS hA [1, 2] rfl rfl rfl (fun H locs hP hD hS => ?_)
  have hP : va_P (gD G) vwCl (w_Specifier_readIndex G qt t_index t_flags t_width t_precision t_conversion t_great t_known t_cutOff t_flagTwice t_last qa1 qa1_cells na1_cells a1_cells a1_used a1_burst) H := hP
  have hD : va_D A (w_Specifier_readIndex G qt t_index t_flags t_width t_precision t_conversion t_great t_known t_cutOff t_flagTwice t_last qa1 qa1_cells na1_cells a1_cells a1_used a1_burst) := hD
  refine lv_istore_n (lv' := [(3, .int u_2), (0, .ref qt), (1, .ref qa1), (2, .int a2)]) hx hb d_Specifier_readWidth_5 rfl hl (by decide) rfl (fun ls hl => ?_)
  refine lv_iload_n hx hb d_Specifier_readWidth_6 rfl (lv_at hl 0 rfl) ?_
  refine lv_iload_n hx hb d_Specifier_readWidth_7 rfl (lv_at hl 3 rfl) ?_
  refine lv_icmp_le (tgt := 21) hx hb d_Specifier_readWidth_8 (by decide) (fun c_8 => ?_) (fun c_8 => ?_)
  · have hf := ip_ c_8 hf
    refine lv_iload_n hx hb d_Specifier_readWidth_21 rfl (lv_at hl 0 rfl) ?_
    obtain rfl := Option.some.inj hf
    rw [← hQ]
    exact W.iret (v := u_2) hx hb hr (fun t9 ht hW => ⟨⟨u_2, (), rfl, rfl, ⟨by rw [ht]; exact hP, hD⟩⟩, hS.F ht⟩) hS.2.2 d_Specifier_readWidth_22
  · have hf := in_ c_8 hf
    refine lv_aload_n hx hb d_Specifier_readWidth_11 rfl (lv_at hl 1 rfl) ?_
    refine lv_aload_n hx hb d_Specifier_readWidth_12 rfl (lv_at hl 2 rfl) ?_
    refine lv_iload_n hx hb d_Specifier_readWidth_13 rfl (lv_at hl 3 rfl) ?_
    refine lv_iload_n hx hb d_Specifier_readWidth_14 rfl (lv_at hl 0 rfl) ?_
    obtain ⟨u_15, hu_15, hf⟩ := bd_ hf
    refine CALLi (va_runS (As := [.ref qa1, .int a2, .int u_2]) (rest := [.ref qt]) ⟨hx, hb, hml, hown, hg⟩ (c_Specifier_numberIn l G K qa1 qa1_cells na1_cells a1_cells a1_used a1_burst a2 u_2 _ u_15  hu_15) (va_cwS 3 hg (gS m_145 m_146 m_114 m_147) rfl rfl rfl (by decide +kernel) ⟨Nat.le_of_ble_eq_true rfl, Nat.le_of_ble_eq_true rfl⟩) ⟨PC_b, PC_p hE hS hAb (hP.sub [1, 2] rfl) (hD.sub [1, 2] (by decide) rfl)⟩ rfl rfl hl.1 rfl (lv_room (Nat.le_of_ble_eq_true rfl)) d_Specifier_readWidth_15 ⟨Nat.zero_le _, Nat.zero_le _⟩) hP hD hS hA [1, 2] rfl rfl rfl (fun H locs hP hD hS => ?_)
    have hP : va_P (gD G) vwCl (w_Specifier_readIndex G qt t_index t_flags t_width t_precision t_conversion t_great t_known t_cutOff t_flagTwice t_last qa1 qa1_cells na1_cells a1_cells a1_used a1_burst) H := hP
    have hD : va_D A (w_Specifier_readIndex G qt t_index t_flags t_width t_precision t_conversion t_great t_known t_cutOff t_flagTwice t_last qa1 qa1_cells na1_cells a1_cells a1_used a1_burst) := hD
    refine va_put (D := gD G) (ci := 5) (v := .int u_15) (ty := .int) (C := R_Specifier) (T := F_Specifier) (N := 10) hx hb hg in_Specifier t_Specifier to_Specifier no_Specifier hown hK hP hD hS 0 rfl rfl 2 (by decide) (hg _ m_116) (fun _ h9 => h9) rfl (by decide +kernel) rfl rfl (Nat.le_of_ble_eq_true rfl) d_Specifier_readWidth_18 (fun H locs hP hD hS => ?_)
    have hP : va_P (gD G) vwCl (w_Specifier_readIndex G qt t_index t_flags u_15 t_precision t_conversion t_great t_known t_cutOff t_flagTwice t_last qa1 qa1_cells na1_cells a1_cells a1_used a1_burst) H := hP
    have hD : va_D A (w_Specifier_readIndex G qt t_index t_flags u_15 t_precision t_conversion t_great t_known t_cutOff t_flagTwice t_last qa1 qa1_cells na1_cells a1_cells a1_used a1_burst) := hD
    refine lv_iload_n hx hb d_Specifier_readWidth_21 rfl (lv_at hl 0 rfl) ?_
    obtain rfl := Option.some.inj hf
    rw [← hQ]
    exact W.iret (v := u_2) hx hb hr (fun t9 ht hW => ⟨⟨u_2, (), rfl, rfl, ⟨by rw [ht]; exact hP, hD⟩⟩, hS.F ht⟩) hS.2.2 d_Specifier_readWidth_22
theorem d_Specifier_readPrecision_0 : decode cd_Specifier_readPrecision 0 = .ok (.aload_n 1, 1) := by decide +kernel
theorem d_Specifier_readPrecision_1 : decode cd_Specifier_readPrecision 1 = .ok (.iload_n 2, 1) := by decide +kernel
theorem d_Specifier_readPrecision_2 : decode cd_Specifier_readPrecision 2 = .ok (.invokevirtual 84, 3) := by decide +kernel
theorem d_Specifier_readPrecision_5 : decode cd_Specifier_readPrecision 5 = .ok (.bipush 46, 2) := by decide +kernel
theorem d_Specifier_readPrecision_7 : decode cd_Specifier_readPrecision 7 = .ok (.if_icmp .eq 5, 3) := by decide +kernel
theorem d_Specifier_readPrecision_10 : decode cd_Specifier_readPrecision 10 = .ok (.iload_n 2, 1) := by decide +kernel
theorem d_Specifier_readPrecision_11 : decode cd_Specifier_readPrecision 11 = .ok (.ireturn, 1) := by decide +kernel
theorem d_Specifier_readPrecision_12 : decode cd_Specifier_readPrecision 12 = .ok (.aload_n 1, 1) := by decide +kernel
theorem d_Specifier_readPrecision_13 : decode cd_Specifier_readPrecision 13 = .ok (.iload_n 2, 1) := by decide +kernel
theorem d_Specifier_readPrecision_14 : decode cd_Specifier_readPrecision 14 = .ok (.iconst 1, 1) := by decide +kernel
theorem d_Specifier_readPrecision_15 : decode cd_Specifier_readPrecision 15 = .ok (.iadd, 1) := by decide +kernel
theorem d_Specifier_readPrecision_16 : decode cd_Specifier_readPrecision 16 = .ok (.invokestatic 89, 3) := by decide +kernel
theorem d_Specifier_readPrecision_19 : decode cd_Specifier_readPrecision 19 = .ok (.istore_n 3, 1) := by decide +kernel
theorem d_Specifier_readPrecision_20 : decode cd_Specifier_readPrecision 20 = .ok (.iload_n 3, 1) := by decide +kernel
theorem d_Specifier_readPrecision_21 : decode cd_Specifier_readPrecision 21 = .ok (.iload_n 2, 1) := by decide +kernel
theorem d_Specifier_readPrecision_22 : decode cd_Specifier_readPrecision 22 = .ok (.iconst 1, 1) := by decide +kernel
theorem d_Specifier_readPrecision_23 : decode cd_Specifier_readPrecision 23 = .ok (.iadd, 1) := by decide +kernel
theorem d_Specifier_readPrecision_24 : decode cd_Specifier_readPrecision 24 = .ok (.if_icmp .ne 11, 3) := by decide +kernel
theorem d_Specifier_readPrecision_27 : decode cd_Specifier_readPrecision 27 = .ok (.aload_n 0, 1) := by decide +kernel
theorem d_Specifier_readPrecision_28 : decode cd_Specifier_readPrecision 28 = .ok (.iconst 1, 1) := by decide +kernel
theorem d_Specifier_readPrecision_29 : decode cd_Specifier_readPrecision 29 = .ok (.putfield 33, 3) := by decide +kernel
theorem d_Specifier_readPrecision_32 : decode cd_Specifier_readPrecision 32 = .ok (.goto 15, 3) := by decide +kernel
theorem d_Specifier_readPrecision_35 : decode cd_Specifier_readPrecision 35 = .ok (.aload_n 0, 1) := by decide +kernel
theorem d_Specifier_readPrecision_36 : decode cd_Specifier_readPrecision 36 = .ok (.aload_n 1, 1) := by decide +kernel
theorem d_Specifier_readPrecision_37 : decode cd_Specifier_readPrecision 37 = .ok (.iload_n 2, 1) := by decide +kernel
theorem d_Specifier_readPrecision_38 : decode cd_Specifier_readPrecision 38 = .ok (.iconst 1, 1) := by decide +kernel
theorem d_Specifier_readPrecision_39 : decode cd_Specifier_readPrecision 39 = .ok (.iadd, 1) := by decide +kernel
theorem d_Specifier_readPrecision_40 : decode cd_Specifier_readPrecision 40 = .ok (.iload_n 3, 1) := by decide +kernel
theorem d_Specifier_readPrecision_41 : decode cd_Specifier_readPrecision 41 = .ok (.invokestatic 92, 3) := by decide +kernel
theorem d_Specifier_readPrecision_44 : decode cd_Specifier_readPrecision 44 = .ok (.putfield 19, 3) := by decide +kernel
theorem d_Specifier_readPrecision_47 : decode cd_Specifier_readPrecision 47 = .ok (.iload_n 3, 1) := by decide +kernel
theorem d_Specifier_readPrecision_48 : decode cd_Specifier_readPrecision 48 = .ok (.ireturn, 1) := by decide +kernel
def f_Specifier_readPrecision (K : Nat) (t_precision : Int32) (t_cutOff : Int32) (na1_cells : Nat) (a1_cells : Nat → Int32) (a1_used : Int32) (a2 : Int32) : Option (Int32 × Int32 × Int32) :=
  ((f_Row_at na1_cells a1_cells a1_used a2).bind fun u_2 => (if u_2 = (46 : Int32) then ((f_Specifier_digitsEnd K na1_cells a1_cells a1_used (a2 + (1 : Int32))).bind fun u_16 => (if u_16 = (a2 + (1 : Int32)) then some (u_16, t_precision, (1 : Int32)) else ((f_Specifier_numberIn K na1_cells a1_cells a1_used (a2 + (1 : Int32)) u_16).bind fun u_41 => some (u_16, u_41, t_cutOff)))) else some (a2, t_precision, t_cutOff)))
set_option maxHeartbeats 4000000 in
set_option maxRecDepth 100000 in
theorem c_Specifier_readPrecision (l : Launch) (G : Gt) (K : Nat) (qt : Nat) (t_index : Int32) (t_flags : Int32) (t_width : Int32) (t_precision : Int32) (t_conversion : Int32) (t_great : Int32) (t_known : Int32) (t_cutOff : Int32) (t_flagTwice : Int32) (t_last : Int32) (qa1 : Nat) (qa1_cells : Nat) (na1_cells : Nat) (a1_cells : Nat → Int32) (a1_used : Int32) (a1_burst : Int32) (a2 : Int32) (sz : Nat) (res : Int32 × Int32 × Int32)   (hf : f_Specifier_readPrecision K t_precision t_cutOff na1_cells a1_cells a1_used a2 = some res) : Met l y_Specifier_readPrecision (.code y_Specifier_readPrecision cd_Specifier_readPrecision 4 (some .int) :: gw) { frames := 2, cells := 0, slots := 0, locals := 80 } (PC G ([.ref qt, .ref qa1, .int a2] : List Value) sz (w_Specifier_readIndex G qt t_index t_flags t_width t_precision t_conversion t_great t_known t_cutOff t_flagTwice t_last qa1 qa1_cells na1_cells a1_cells a1_used a1_burst)) (QI G res.1 (va_A (w_Specifier_readIndex G qt t_index t_flags t_width t_precision t_conversion t_great t_known t_cutOff t_flagTwice t_last qa1 qa1_cells na1_cells a1_cells a1_used a1_burst) sz) (w_Specifier_readIndex G qt t_index t_flags t_width res.2.1 t_conversion t_great t_known res.2.2 t_flagTwice t_last qa1 qa1_cells na1_cells a1_cells a1_used a1_burst)) 0 0 (va_A (w_Specifier_readIndex G qt t_index t_flags t_width t_precision t_conversion t_great t_known t_cutOff t_flagTwice t_last qa1 qa1_cells na1_cells a1_cells a1_used a1_burst) sz) := by
  refine Met.ofW (cc := cd_Specifier_readPrecision) (maxL := 4) (ret := (some .int)) (by decide) rfl ?_
  intro p e s m args below meth c s₁ B hml hv
  obtain ⟨rfl, hsz, hP, hE, hD0⟩ := hv
  have hx := B.exec
  have hb := B.bytes
  have hr := B.returns
  have hts := atoms_spec (ws := (.code y_Specifier_readPrecision cd_Specifier_readPrecision 4 (some .int) :: gw)) B.pre
  have hg : ∀ w ∈ gw, w.before _ s = true := fun w h => hts w (List.mem_cons_of_mem _ h)
  have hown : s.vm.findClass R_Specifier = some m.cls := findClass_of_methodNamed B.named
  have hlocks := B.notSynchronized
  subst hsz
  have hK := hE.K
  have hD := hD0.self (sz := s.heap.size)
  have hAb := hE.ab hD0
  obtain ⟨Q, hQ⟩ : ∃ Q, MQ below (QI G res.1 (va_A (w_Specifier_readIndex G qt t_index t_flags t_width t_precision t_conversion t_great t_known t_cutOff t_flagTwice t_last qa1 qa1_cells na1_cells a1_cells a1_used a1_burst) s.heap.size) (w_Specifier_readIndex G qt t_index t_flags t_width res.2.1 t_conversion t_great t_known res.2.2 t_flagTwice t_last qa1 qa1_cells na1_cells a1_cells a1_used a1_burst)) ([.ref qt, .ref qa1, .int a2] : List Value).toArray s 0 0 (va_A (w_Specifier_readIndex G qt t_index t_flags t_width t_precision t_conversion t_great t_known t_cutOff t_flagTwice t_last qa1 qa1_cells na1_cells a1_cells a1_used a1_burst) s.heap.size) = Q := ⟨_, rfl⟩
  show W p l e { frames := 2, cells := 0, slots := 0, locals := 80 } s m ([.ref qt, .ref qa1, .int a2] : List Value).toArray below meth c s.heap [] 0 0 (MQ below (QI G res.1 (va_A (w_Specifier_readIndex G qt t_index t_flags t_width t_precision t_conversion t_great t_known t_cutOff t_flagTwice t_last qa1 qa1_cells na1_cells a1_cells a1_used a1_burst) s.heap.size) (w_Specifier_readIndex G qt t_index t_flags t_width res.2.1 t_conversion t_great t_known res.2.2 t_flagTwice t_last qa1 qa1_cells na1_cells a1_cells a1_used a1_burst)) ([.ref qt, .ref qa1, .int a2] : List Value).toArray s 0 0 (va_A (w_Specifier_readIndex G qt t_index t_flags t_width t_precision t_conversion t_great t_known t_cutOff t_flagTwice t_last qa1 qa1_cells na1_cells a1_cells a1_used a1_burst) s.heap.size)) _
  rw [hQ]
  have hA : ∀ q : Nat, s.heap.size ≤ q → va_A (w_Specifier_readIndex G qt t_index t_flags t_width t_precision t_conversion t_great t_known t_cutOff t_flagTwice t_last qa1 qa1_cells na1_cells a1_cells a1_used a1_burst) s.heap.size q := fun q h => Or.inr h
  obtain ⟨A, hAe⟩ : ∃ A, va_A (w_Specifier_readIndex G qt t_index t_flags t_width t_precision t_conversion t_great t_known t_cutOff t_flagTwice t_last qa1 qa1_cells na1_cells a1_cells a1_used a1_burst) s.heap.size = A := ⟨_, rfl⟩
  rw [hAe] at hA hD hAb hQ
  have hS : va_S A s.heap s.heap [] := va_S.rf
  have hl := lv_entry (([.ref qt, .ref qa1, .int a2] : List Value)) (n := 4) (Nat.le_of_ble_eq_true rfl)
  rw [lg_entry_eq]
  generalize (lg_sl (([.ref qt, .ref qa1, .int a2] : List Value)) ++ List.replicate (4 - (lg_sl (([.ref qt, .ref qa1, .int a2] : List Value))).length) Slot.unset).toArray = ls at hl ⊢
  have hl : lv_has ls 4 [(0, .ref qt), (1, .ref qa1), (2, .int a2)] := hl
  unfold f_Specifier_readPrecision at hf
  refine lv_aload_n hx hb d_Specifier_readPrecision_0 rfl (lv_at hl 1 rfl) ?_
  refine lv_iload_n hx hb d_Specifier_readPrecision_1 rfl (lv_at hl 2 rfl) ?_
  obtain ⟨u_2, hu_2, hf⟩ := bd_ hf
  refine CALLi (va_runV (As := [.int a2]) (rest := []) ⟨hx, hb, hml, hown, hg⟩ (c_Row_at l G K qa1 qa1_cells na1_cells a1_cells a1_used a1_burst a2 _ u_2  hu_2) (cwV 1 hg (gV m_140 m_63 m_64 m_60 m_65) rfl rfl rfl (by decide +kernel) ⟨Nat.le_of_ble_eq_true rfl, Nat.le_of_ble_eq_true rfl⟩) ⟨PC_b, va_recv hK hP (ci := 4) (q0 := 1) rfl rfl, PC_p hE hS hAb (hP.sub [1, 2] rfl) (hD.sub [1, 2] (by decide) rfl)⟩ rfl rfl hl.1 rfl (lv_room (Nat.le_of_ble_eq_true rfl)) d_Specifier_readPrecision_2 ⟨Nat.zero_le _, Nat.zero_le _⟩) hP hD hS hA [1, 2] rfl rfl rfl (fun H locs hP hD hS => ?_)
  have hP : va_P (gD G) vwCl (w_Specifier_readIndex G qt t_index t_flags t_width t_precision t_conversion t_great t_known t_cutOff t_flagTwice t_last qa1 qa1_cells na1_cells a1_cells a1_used a1_burst) H := hP
  have hD : va_D A (w_Specifier_readIndex G qt t_index t_flags t_width t_precision t_conversion t_great t_known t_cutOff t_flagTwice t_last qa1 qa1_cells na1_cells a1_cells a1_used a1_burst) := hD
  refine lv_bipush (v := 46) hx hb d_Specifier_readPrecision_5 (by decide) ?_
  refine lv_icmp_eq (tgt := 12) hx hb d_Specifier_readPrecision_7 (by decide) (fun c_7 => ?_) (fun c_7 => ?_)
  · have hf := ip_ c_7 hf
    refine lv_aload_n hx hb d_Specifier_readPrecision_12 rfl (lv_at hl 1 rfl) ?_
    refine lv_iload_n hx hb d_Specifier_readPrecision_13 rfl (lv_at hl 2 rfl) ?_
    refine lv_iconst (v := 1) hx hb d_Specifier_readPrecision_14 (by decide) ?_
    refine lv_iadd hx hb d_Specifier_readPrecision_15 ?_
    obtain ⟨u_16, hu_16, hf⟩ := bd_ hf
    refine CALLi (va_runS (As := [.ref qa1, .int (a2 + (1 : Int32))]) (rest := []) ⟨hx, hb, hml, hown, hg⟩ (c_Specifier_digitsEnd l G K qa1 qa1_cells na1_cells a1_cells a1_used a1_burst (a2 + (1 : Int32)) _ u_16  hu_16) (va_cwS 2 hg (gS m_142 m_143 m_114 m_144) rfl rfl rfl (by decide +kernel) ⟨Nat.le_of_ble_eq_true rfl, Nat.le_of_ble_eq_true rfl⟩) ⟨PC_b, PC_p hE hS hAb (hP.sub [1, 2] rfl) (hD.sub [1, 2] (by decide) rfl)⟩ rfl rfl hl.1 rfl (lv_room (Nat.le_of_ble_eq_true rfl)) d_Specifier_readPrecision_16 ⟨Nat.zero_le _, Nat.zero_le _⟩) hP hD hS hA [1, 2] rfl rfl rfl (fun H locs hP hD hS => ?_)
    have hP : va_P (gD G) vwCl (w_Specifier_readIndex G qt t_index t_flags t_width t_precision t_conversion t_great t_known t_cutOff t_flagTwice t_last qa1 qa1_cells na1_cells a1_cells a1_used a1_burst) H := hP
    have hD : va_D A (w_Specifier_readIndex G qt t_index t_flags t_width t_precision t_conversion t_great t_known t_cutOff t_flagTwice t_last qa1 qa1_cells na1_cells a1_cells a1_used a1_burst) := hD
    refine lv_istore_n (lv' := [(3, .int u_16), (0, .ref qt), (1, .ref qa1), (2, .int a2)]) hx hb d_Specifier_readPrecision_19 rfl hl (by decide) rfl (fun ls hl => ?_)
    refine lv_iload_n hx hb d_Specifier_readPrecision_20 rfl (lv_at hl 0 rfl) ?_
    refine lv_iload_n hx hb d_Specifier_readPrecision_21 rfl (lv_at hl 3 rfl) ?_
    refine lv_iconst (v := 1) hx hb d_Specifier_readPrecision_22 (by decide) ?_
    refine lv_iadd hx hb d_Specifier_readPrecision_23 ?_
    refine lv_icmp_ne (tgt := 35) hx hb d_Specifier_readPrecision_24 (by decide) (fun c_24 => ?_) (fun c_24 => ?_)
    · have hf := in_ c_24 hf
      refine lv_aload_n hx hb d_Specifier_readPrecision_35 rfl (lv_at hl 1 rfl) ?_
      refine lv_aload_n hx hb d_Specifier_readPrecision_36 rfl (lv_at hl 2 rfl) ?_
      refine lv_iload_n hx hb d_Specifier_readPrecision_37 rfl (lv_at hl 3 rfl) ?_
      refine lv_iconst (v := 1) hx hb d_Specifier_readPrecision_38 (by decide) ?_
      refine lv_iadd hx hb d_Specifier_readPrecision_39 ?_
      refine lv_iload_n hx hb d_Specifier_readPrecision_40 rfl (lv_at hl 0 rfl) ?_
      obtain ⟨u_41, hu_41, hf⟩ := bd_ hf
      refine CALLi (va_runS (As := [.ref qa1, .int (a2 + (1 : Int32)), .int u_16]) (rest := [.ref qt]) ⟨hx, hb, hml, hown, hg⟩ (c_Specifier_numberIn l G K qa1 qa1_cells na1_cells a1_cells a1_used a1_burst (a2 + (1 : Int32)) u_16 _ u_41  hu_41) (va_cwS 3 hg (gS m_145 m_146 m_114 m_147) rfl rfl rfl (by decide +kernel) ⟨Nat.le_of_ble_eq_true rfl, Nat.le_of_ble_eq_true rfl⟩) ⟨PC_b, PC_p hE hS hAb (hP.sub [1, 2] rfl) (hD.sub [1, 2] (by decide) rfl)⟩ rfl rfl hl.1 rfl (lv_room (Nat.le_of_ble_eq_true rfl)) d_Specifier_readPrecision_41 ⟨Nat.zero_le _, Nat.zero_le _⟩) hP hD hS hA [1, 2] rfl rfl rfl (fun H locs hP hD hS => ?_)
      have hP : va_P (gD G) vwCl (w_Specifier_readIndex G qt t_index t_flags t_width t_precision t_conversion t_great t_known t_cutOff t_flagTwice t_last qa1 qa1_cells na1_cells a1_cells a1_used a1_burst) H := hP
      have hD : va_D A (w_Specifier_readIndex G qt t_index t_flags t_width t_precision t_conversion t_great t_known t_cutOff t_flagTwice t_last qa1 qa1_cells na1_cells a1_cells a1_used a1_burst) := hD
      refine va_put (D := gD G) (ci := 5) (v := .int u_41) (ty := .int) (C := R_Specifier) (T := F_Specifier) (N := 10) hx hb hg in_Specifier t_Specifier to_Specifier no_Specifier hown hK hP hD hS 0 rfl rfl 3 (by decide) (hg _ m_117) (fun _ h9 => h9) rfl (by decide +kernel) rfl rfl (Nat.le_of_ble_eq_true rfl) d_Specifier_readPrecision_44 (fun H locs hP hD hS => ?_)
      have hP : va_P (gD G) vwCl (w_Specifier_readIndex G qt t_index t_flags t_width u_41 t_conversion t_great t_known t_cutOff t_flagTwice t_last qa1 qa1_cells na1_cells a1_cells a1_used a1_burst) H := hP
      have hD : va_D A (w_Specifier_readIndex G qt t_index t_flags t_width u_41 t_conversion t_great t_known t_cutOff t_flagTwice t_last qa1 qa1_cells na1_cells a1_cells a1_used a1_burst) := hD
      refine lv_iload_n hx hb d_Specifier_readPrecision_47 rfl (lv_at hl 0 rfl) ?_
      obtain rfl := Option.some.inj hf
      rw [← hQ]
      exact W.iret (v := u_16) hx hb hr (fun t9 ht hW => ⟨⟨u_16, (), rfl, rfl, ⟨by rw [ht]; exact hP, hD⟩⟩, hS.F ht⟩) hS.2.2 d_Specifier_readPrecision_48
    · have hf := ip_ c_24 hf
      refine lv_aload_n hx hb d_Specifier_readPrecision_27 rfl (lv_at hl 1 rfl) ?_
      refine lv_iconst (v := 1) hx hb d_Specifier_readPrecision_28 (by decide) ?_
      refine va_put (D := gD G) (ci := 5) (v := .int (1 : Int32)) (ty := .boolean) (C := R_Specifier) (T := F_Specifier) (N := 10) hx hb hg in_Specifier t_Specifier to_Specifier no_Specifier hown hK hP hD hS 0 rfl rfl 7 (by decide) (hg _ m_128) (fun _ h9 => h9) rfl (by decide +kernel) (bl_n bl_1) (bl_f bl_1) (Nat.le_of_ble_eq_true rfl) d_Specifier_readPrecision_29 (fun H locs hP hD hS => ?_)
      have hP : va_P (gD G) vwCl (w_Specifier_readIndex G qt t_index t_flags t_width t_precision t_conversion t_great t_known (1 : Int32) t_flagTwice t_last qa1 qa1_cells na1_cells a1_cells a1_used a1_burst) H := hP
      have hD : va_D A (w_Specifier_readIndex G qt t_index t_flags t_width t_precision t_conversion t_great t_known (1 : Int32) t_flagTwice t_last qa1 qa1_cells na1_cells a1_cells a1_used a1_burst) := hD
      refine lv_goto (tgt := 47) hx hb d_Specifier_readPrecision_32 (by decide) ?_
      refine lv_iload_n hx hb d_Specifier_readPrecision_47 rfl (lv_at hl 0 rfl) ?_
      obtain rfl := Option.some.inj hf
      rw [← hQ]
      exact W.iret (v := u_16) hx hb hr (fun t9 ht hW => ⟨⟨u_16, (), rfl, rfl, ⟨by rw [ht]; exact hP, hD⟩⟩, hS.F ht⟩) hS.2.2 d_Specifier_readPrecision_48
  · have hf := in_ c_7 hf
    refine lv_iload_n hx hb d_Specifier_readPrecision_10 rfl (lv_at hl 2 rfl) ?_
    obtain rfl := Option.some.inj hf
    rw [← hQ]
    exact W.iret (v := a2) hx hb hr (fun t9 ht hW => ⟨⟨a2, (), rfl, rfl, ⟨by rw [ht]; exact hP, hD⟩⟩, hS.F ht⟩) hS.2.2 d_Specifier_readPrecision_11
theorem d_Specifier_readConversion_0 : decode cd_Specifier_readConversion 0 = .ok (.aload_n 0, 1) := by decide +kernel
theorem d_Specifier_readConversion_1 : decode cd_Specifier_readConversion 1 = .ok (.iload_n 2, 1) := by decide +kernel
theorem d_Specifier_readConversion_2 : decode cd_Specifier_readConversion 2 = .ok (.putfield 102, 3) := by decide +kernel
theorem d_Specifier_readConversion_5 : decode cd_Specifier_readConversion 5 = .ok (.aload_n 1, 1) := by decide +kernel
theorem d_Specifier_readConversion_6 : decode cd_Specifier_readConversion 6 = .ok (.iload_n 2, 1) := by decide +kernel
theorem d_Specifier_readConversion_7 : decode cd_Specifier_readConversion 7 = .ok (.invokevirtual 84, 3) := by decide +kernel
theorem d_Specifier_readConversion_10 : decode cd_Specifier_readConversion 10 = .ok (.istore_n 3, 1) := by decide +kernel
theorem d_Specifier_readConversion_11 : decode cd_Specifier_readConversion 11 = .ok (.iload_n 3, 1) := by decide +kernel
theorem d_Specifier_readConversion_12 : decode cd_Specifier_readConversion 12 = .ok (.ifCond .ge 9, 3) := by decide +kernel
theorem d_Specifier_readConversion_15 : decode cd_Specifier_readConversion 15 = .ok (.aload_n 0, 1) := by decide +kernel
theorem d_Specifier_readConversion_16 : decode cd_Specifier_readConversion 16 = .ok (.iconst 1, 1) := by decide +kernel
theorem d_Specifier_readConversion_17 : decode cd_Specifier_readConversion 17 = .ok (.putfield 33, 3) := by decide +kernel
theorem d_Specifier_readConversion_20 : decode cd_Specifier_readConversion 20 = .ok (.return_, 1) := by decide +kernel
theorem d_Specifier_readConversion_21 : decode cd_Specifier_readConversion 21 = .ok (.aload_n 0, 1) := by decide +kernel
theorem d_Specifier_readConversion_22 : decode cd_Specifier_readConversion 22 = .ok (.ldc 105, 2) := by decide +kernel
theorem d_Specifier_readConversion_24 : decode cd_Specifier_readConversion 24 = .ok (.iload_n 3, 1) := by decide +kernel
theorem d_Specifier_readConversion_25 : decode cd_Specifier_readConversion 25 = .ok (.i2c, 1) := by decide +kernel
theorem d_Specifier_readConversion_26 : decode cd_Specifier_readConversion 26 = .ok (.invokevirtual 69, 3) := by decide +kernel
theorem d_Specifier_readConversion_29 : decode cd_Specifier_readConversion 29 = .ok (.ifCond .lt 7, 3) := by decide +kernel
theorem d_Specifier_readConversion_32 : decode cd_Specifier_readConversion 32 = .ok (.iconst 1, 1) := by decide +kernel
theorem d_Specifier_readConversion_33 : decode cd_Specifier_readConversion 33 = .ok (.goto 4, 3) := by decide +kernel
theorem d_Specifier_readConversion_36 : decode cd_Specifier_readConversion 36 = .ok (.iconst 0, 1) := by decide +kernel
theorem d_Specifier_readConversion_37 : decode cd_Specifier_readConversion 37 = .ok (.putfield 26, 3) := by decide +kernel
theorem d_Specifier_readConversion_40 : decode cd_Specifier_readConversion 40 = .ok (.aload_n 0, 1) := by decide +kernel
theorem d_Specifier_readConversion_41 : decode cd_Specifier_readConversion 41 = .ok (.aload_n 0, 1) := by decide +kernel
theorem d_Specifier_readConversion_42 : decode cd_Specifier_readConversion 42 = .ok (.getfield 26, 3) := by decide +kernel
theorem d_Specifier_readConversion_45 : decode cd_Specifier_readConversion 45 = .ok (.ifCond .eq 10, 3) := by decide +kernel
theorem d_Specifier_readConversion_48 : decode cd_Specifier_readConversion 48 = .ok (.iload_n 3, 1) := by decide +kernel
theorem d_Specifier_readConversion_49 : decode cd_Specifier_readConversion 49 = .ok (.bipush 32, 2) := by decide +kernel
theorem d_Specifier_readConversion_51 : decode cd_Specifier_readConversion 51 = .ok (.iadd, 1) := by decide +kernel
theorem d_Specifier_readConversion_52 : decode cd_Specifier_readConversion 52 = .ok (.goto 4, 3) := by decide +kernel
theorem d_Specifier_readConversion_55 : decode cd_Specifier_readConversion 55 = .ok (.iload_n 3, 1) := by decide +kernel
theorem d_Specifier_readConversion_56 : decode cd_Specifier_readConversion 56 = .ok (.i2c, 1) := by decide +kernel
theorem d_Specifier_readConversion_57 : decode cd_Specifier_readConversion 57 = .ok (.putfield 22, 3) := by decide +kernel
theorem d_Specifier_readConversion_60 : decode cd_Specifier_readConversion 60 = .ok (.aload_n 0, 1) := by decide +kernel
theorem d_Specifier_readConversion_61 : decode cd_Specifier_readConversion 61 = .ok (.ldc 107, 2) := by decide +kernel
theorem d_Specifier_readConversion_63 : decode cd_Specifier_readConversion 63 = .ok (.aload_n 0, 1) := by decide +kernel
theorem d_Specifier_readConversion_64 : decode cd_Specifier_readConversion 64 = .ok (.getfield 22, 3) := by decide +kernel
theorem d_Specifier_readConversion_67 : decode cd_Specifier_readConversion 67 = .ok (.invokevirtual 69, 3) := by decide +kernel
theorem d_Specifier_readConversion_70 : decode cd_Specifier_readConversion 70 = .ok (.ifCond .lt 7, 3) := by decide +kernel
theorem d_Specifier_readConversion_73 : decode cd_Specifier_readConversion 73 = .ok (.iconst 1, 1) := by decide +kernel
theorem d_Specifier_readConversion_74 : decode cd_Specifier_readConversion 74 = .ok (.goto 4, 3) := by decide +kernel
theorem d_Specifier_readConversion_77 : decode cd_Specifier_readConversion 77 = .ok (.iconst 0, 1) := by decide +kernel
theorem d_Specifier_readConversion_78 : decode cd_Specifier_readConversion 78 = .ok (.putfield 30, 3) := by decide +kernel
theorem d_Specifier_readConversion_81 : decode cd_Specifier_readConversion 81 = .ok (.return_, 1) := by decide +kernel
theorem m_151 : Cond.fieldLink R_Specifier 102 "SpecifierDesk$Specifier" "last" "I" ∈ gw := gm (i := 153) (by decide +kernel) (by decide +kernel)
theorem m_152 : Cond.fieldLink R_Specifier 26 "SpecifierDesk$Specifier" "great" "Z" ∈ gw := gm (i := 148) (by decide +kernel) (by decide +kernel)
def k_Specifier_readConversion_78  (k1 : Int32) (t_conversion : Int32) (t_great : Int32) (t_known : Int32) (t_cutOff : Int32) (t_last : Int32) : Option (Int32 × Int32 × Int32 × Int32 × Int32) :=
  some (t_conversion, t_great, k1, t_cutOff, t_last)
def k_Specifier_readConversion_56 (K : Nat) (k1 : Int32) (t_conversion : Int32) (t_great : Int32) (t_known : Int32) (t_cutOff : Int32) (t_last : Int32) : Option (Int32 × Int32 × Int32 × Int32 × Int32) :=
  ((f_String_indexOf K 1 ((k1.toUInt32 % 65536).toInt32)).bind fun u_67 => (if u_67 < 0 then k_Specifier_readConversion_78  (0 : Int32) ((k1.toUInt32 % 65536).toInt32) t_great t_known t_cutOff t_last else k_Specifier_readConversion_78  (1 : Int32) ((k1.toUInt32 % 65536).toInt32) t_great t_known t_cutOff t_last))
def k_Specifier_readConversion_37 (K : Nat) (x3 : Int32) (k1 : Int32) (t_conversion : Int32) (t_great : Int32) (t_known : Int32) (t_cutOff : Int32) (t_last : Int32) : Option (Int32 × Int32 × Int32 × Int32 × Int32) :=
  (if k1 = 0 then k_Specifier_readConversion_56 K x3 t_conversion k1 t_known t_cutOff t_last else k_Specifier_readConversion_56 K (x3 + (32 : Int32)) t_conversion k1 t_known t_cutOff t_last)
def f_Specifier_readConversion (K : Nat) (t_conversion : Int32) (t_great : Int32) (t_known : Int32) (t_cutOff : Int32) (na1_cells : Nat) (a1_cells : Nat → Int32) (a1_used : Int32) (a2 : Int32) : Option (Int32 × Int32 × Int32 × Int32 × Int32) :=
  ((f_Row_at na1_cells a1_cells a1_used a2).bind fun u_7 => (if 0 ≤ u_7 then ((f_String_indexOf K 0 ((u_7.toUInt32 % 65536).toInt32)).bind fun u_26 => (if u_26 < 0 then k_Specifier_readConversion_37 K u_7 (0 : Int32) t_conversion t_great t_known t_cutOff a2 else k_Specifier_readConversion_37 K u_7 (1 : Int32) t_conversion t_great t_known t_cutOff a2)) else some (t_conversion, t_great, t_known, (1 : Int32), a2)))
set_option maxHeartbeats 4000000 in
set_option maxRecDepth 100000 in
theorem c_Specifier_readConversion (l : Launch) (G : Gt) (K : Nat) (qt : Nat) (t_index : Int32) (t_flags : Int32) (t_width : Int32) (t_precision : Int32) (t_conversion : Int32) (t_great : Int32) (t_known : Int32) (t_cutOff : Int32) (t_flagTwice : Int32) (t_last : Int32) (qa1 : Nat) (qa1_cells : Nat) (na1_cells : Nat) (a1_cells : Nat → Int32) (a1_used : Int32) (a1_burst : Int32) (a2 : Int32) (sz : Nat) (res : Int32 × Int32 × Int32 × Int32 × Int32)   (hf : f_Specifier_readConversion K t_conversion t_great t_known t_cutOff na1_cells a1_cells a1_used a2 = some res) : Met l y_Specifier_readConversion (.code y_Specifier_readConversion cd_Specifier_readConversion 4 none :: gw) { frames := 4, cells := 0, slots := 0, locals := 160 } (PC G ([.ref qt, .ref qa1, .int a2] : List Value) sz (w_Specifier_readIndex G qt t_index t_flags t_width t_precision t_conversion t_great t_known t_cutOff t_flagTwice t_last qa1 qa1_cells na1_cells a1_cells a1_used a1_burst)) (QV G (va_A (w_Specifier_readIndex G qt t_index t_flags t_width t_precision t_conversion t_great t_known t_cutOff t_flagTwice t_last qa1 qa1_cells na1_cells a1_cells a1_used a1_burst) sz) (w_Specifier_readIndex G qt t_index t_flags t_width t_precision res.1 res.2.1 res.2.2.1 res.2.2.2.1 t_flagTwice res.2.2.2.2 qa1 qa1_cells na1_cells a1_cells a1_used a1_burst)) 0 0 (va_A (w_Specifier_readIndex G qt t_index t_flags t_width t_precision t_conversion t_great t_known t_cutOff t_flagTwice t_last qa1 qa1_cells na1_cells a1_cells a1_used a1_burst) sz) := by
  refine Met.ofW (cc := cd_Specifier_readConversion) (maxL := 4) (ret := none) (by decide) rfl ?_
  intro p e s m args below meth c s₁ B hml hv
  obtain ⟨rfl, hsz, hP, hE, hD0⟩ := hv
  have hx := B.exec
  have hb := B.bytes
  have hr := B.returns
  have hts := atoms_spec (ws := (.code y_Specifier_readConversion cd_Specifier_readConversion 4 none :: gw)) B.pre
  have hg : ∀ w ∈ gw, w.before _ s = true := fun w h => hts w (List.mem_cons_of_mem _ h)
  have hown : s.vm.findClass R_Specifier = some m.cls := findClass_of_methodNamed B.named
  have hlocks := B.notSynchronized
  subst hsz
  have hK := hE.K
  have hD := hD0.self (sz := s.heap.size)
  have hAb := hE.ab hD0
  obtain ⟨Q, hQ⟩ : ∃ Q, MQ below (QV G (va_A (w_Specifier_readIndex G qt t_index t_flags t_width t_precision t_conversion t_great t_known t_cutOff t_flagTwice t_last qa1 qa1_cells na1_cells a1_cells a1_used a1_burst) s.heap.size) (w_Specifier_readIndex G qt t_index t_flags t_width t_precision res.1 res.2.1 res.2.2.1 res.2.2.2.1 t_flagTwice res.2.2.2.2 qa1 qa1_cells na1_cells a1_cells a1_used a1_burst)) ([.ref qt, .ref qa1, .int a2] : List Value).toArray s 0 0 (va_A (w_Specifier_readIndex G qt t_index t_flags t_width t_precision t_conversion t_great t_known t_cutOff t_flagTwice t_last qa1 qa1_cells na1_cells a1_cells a1_used a1_burst) s.heap.size) = Q := ⟨_, rfl⟩
  show W p l e { frames := 4, cells := 0, slots := 0, locals := 160 } s m ([.ref qt, .ref qa1, .int a2] : List Value).toArray below meth c s.heap [] 0 0 (MQ below (QV G (va_A (w_Specifier_readIndex G qt t_index t_flags t_width t_precision t_conversion t_great t_known t_cutOff t_flagTwice t_last qa1 qa1_cells na1_cells a1_cells a1_used a1_burst) s.heap.size) (w_Specifier_readIndex G qt t_index t_flags t_width t_precision res.1 res.2.1 res.2.2.1 res.2.2.2.1 t_flagTwice res.2.2.2.2 qa1 qa1_cells na1_cells a1_cells a1_used a1_burst)) ([.ref qt, .ref qa1, .int a2] : List Value).toArray s 0 0 (va_A (w_Specifier_readIndex G qt t_index t_flags t_width t_precision t_conversion t_great t_known t_cutOff t_flagTwice t_last qa1 qa1_cells na1_cells a1_cells a1_used a1_burst) s.heap.size)) _
  rw [hQ]
  have hA : ∀ q : Nat, s.heap.size ≤ q → va_A (w_Specifier_readIndex G qt t_index t_flags t_width t_precision t_conversion t_great t_known t_cutOff t_flagTwice t_last qa1 qa1_cells na1_cells a1_cells a1_used a1_burst) s.heap.size q := fun q h => Or.inr h
  obtain ⟨A, hAe⟩ : ∃ A, va_A (w_Specifier_readIndex G qt t_index t_flags t_width t_precision t_conversion t_great t_known t_cutOff t_flagTwice t_last qa1 qa1_cells na1_cells a1_cells a1_used a1_burst) s.heap.size = A := ⟨_, rfl⟩
  rw [hAe] at hA hD hAb hQ
  have hS : va_S A s.heap s.heap [] := va_S.rf
  have hl := lv_entry (([.ref qt, .ref qa1, .int a2] : List Value)) (n := 4) (Nat.le_of_ble_eq_true rfl)
  rw [lg_entry_eq]
  generalize (lg_sl (([.ref qt, .ref qa1, .int a2] : List Value)) ++ List.replicate (4 - (lg_sl (([.ref qt, .ref qa1, .int a2] : List Value))).length) Slot.unset).toArray = ls at hl ⊢
  have hl : lv_has ls 4 [(0, .ref qt), (1, .ref qa1), (2, .int a2)] := hl
  have W_78 : ∀ (k1 : Int32) (t_conversion : Int32) (t_great : Int32) (t_known : Int32) (t_cutOff : Int32) (t_last : Int32) (b_k1 : bl k1), k_Specifier_readConversion_78  k1 t_conversion t_great t_known t_cutOff t_last = some res → ∀ (H : Heap) (locs : List Loc) (ls : Array Slot), va_P (gD G) vwCl (w_Specifier_readIndex G qt t_index t_flags t_width t_precision t_conversion t_great t_known t_cutOff t_flagTwice t_last qa1 qa1_cells na1_cells a1_cells a1_used a1_burst) H → va_D A (w_Specifier_readIndex G qt t_index t_flags t_width t_precision t_conversion t_great t_known t_cutOff t_flagTwice t_last qa1 qa1_cells na1_cells a1_cells a1_used a1_burst) → va_S A s.heap H locs → lv_has ls 4 [] → W p l e { frames := 4, cells := 0, slots := 0, locals := 160 } s m ([.ref qt, .ref qa1, .int a2] : List Value).toArray below meth c H locs 0 0 Q (F0 m 78 ls [.int k1, .ref qt]) := by
    intro k1 t_conversion t_great t_known t_cutOff t_last b_k1 hf H locs ls hP hD hS hl
    unfold k_Specifier_readConversion_78 at hf
    refine va_put (D := gD G) (ci := 5) (v := .int k1) (ty := .boolean) (C := R_Specifier) (T := F_Specifier) (N := 10) hx hb hg in_Specifier t_Specifier to_Specifier no_Specifier hown hK hP hD hS 0 rfl rfl 6 (by decide) (hg _ m_131) (fun _ h9 => h9) rfl (by decide +kernel) (bl_n b_k1) (bl_f b_k1) (Nat.le_of_ble_eq_true rfl) d_Specifier_readConversion_78 (fun H locs hP hD hS => ?_)
    have hP : va_P (gD G) vwCl (w_Specifier_readIndex G qt t_index t_flags t_width t_precision t_conversion t_great k1 t_cutOff t_flagTwice t_last qa1 qa1_cells na1_cells a1_cells a1_used a1_burst) H := hP
    have hD : va_D A (w_Specifier_readIndex G qt t_index t_flags t_width t_precision t_conversion t_great k1 t_cutOff t_flagTwice t_last qa1 qa1_cells na1_cells a1_cells a1_used a1_burst) := hD
    obtain rfl := Option.some.inj hf
    rw [← hQ]
    exact W.vret hx hb hr (fun t9 ht hW => ⟨⟨(), rfl, trivial, ⟨by rw [ht]; exact hP, hD⟩⟩, hS.F ht⟩) hS.2.2 d_Specifier_readConversion_81
  have W_56 : ∀ (k1 : Int32) (t_conversion : Int32) (t_great : Int32) (t_known : Int32) (t_cutOff : Int32) (t_last : Int32) , k_Specifier_readConversion_56 K k1 t_conversion t_great t_known t_cutOff t_last = some res → ∀ (H : Heap) (locs : List Loc) (ls : Array Slot), va_P (gD G) vwCl (w_Specifier_readIndex G qt t_index t_flags t_width t_precision t_conversion t_great t_known t_cutOff t_flagTwice t_last qa1 qa1_cells na1_cells a1_cells a1_used a1_burst) H → va_D A (w_Specifier_readIndex G qt t_index t_flags t_width t_precision t_conversion t_great t_known t_cutOff t_flagTwice t_last qa1 qa1_cells na1_cells a1_cells a1_used a1_burst) → va_S A s.heap H locs → lv_has ls 4 [(0, .ref qt)] → W p l e { frames := 4, cells := 0, slots := 0, locals := 160 } s m ([.ref qt, .ref qa1, .int a2] : List Value).toArray below meth c H locs 0 0 Q (F0 m 56 ls [.int k1, .ref qt]) := by
    intro k1 t_conversion t_great t_known t_cutOff t_last  hf H locs ls hP hD hS hl
    unfold k_Specifier_readConversion_56 at hf
    refine lv_i2c (v := (k1.toUInt32 % 65536).toInt32) hx hb d_Specifier_readConversion_56 rfl ?_
    refine va_put (D := gD G) (ci := 5) (v := .int ((k1.toUInt32 % 65536).toInt32)) (ty := .char) (C := R_Specifier) (T := F_Specifier) (N := 10) hx hb hg in_Specifier t_Specifier to_Specifier no_Specifier hown hK hP hD hS 0 rfl rfl 4 (by decide) (hg _ m_118) (fun _ h9 => h9) rfl (by decide +kernel) (pk_nc k1) (pk_fc k1) (Nat.le_of_ble_eq_true rfl) d_Specifier_readConversion_57 (fun H locs hP hD hS => ?_)
    have hP : va_P (gD G) vwCl (w_Specifier_readIndex G qt t_index t_flags t_width t_precision ((k1.toUInt32 % 65536).toInt32) t_great t_known t_cutOff t_flagTwice t_last qa1 qa1_cells na1_cells a1_cells a1_used a1_burst) H := hP
    have hD : va_D A (w_Specifier_readIndex G qt t_index t_flags t_width t_precision ((k1.toUInt32 % 65536).toInt32) t_great t_known t_cutOff t_flagTwice t_last qa1 qa1_cells na1_cells a1_cells a1_used a1_burst) := hD
    refine lv_aload_n hx hb d_Specifier_readConversion_60 rfl (lv_at hl 0 rfl) ?_
    refine va_ldcS (own := R_Specifier) (tx := "bscdoxefga%n") (q := gT G 1) hx hb hown (hE.sr ("SpecifierDesk$Specifier", 107, "bscdoxefga%n", 1) (List.mem_of_getElem? (i := 1) rfl)) d_Specifier_readConversion_61 ?_
    refine lv_aload_n hx hb d_Specifier_readConversion_63 rfl (lv_at hl 0 rfl) ?_
    refine va_get (D := gD G) (ci := 5) (v := .int ((k1.toUInt32 % 65536).toInt32)) (C := R_Specifier) (T := F_Specifier) (N := 10) hx hb hg in_Specifier hown hK hP 0 rfl rfl 4 (by decide) (hg _ m_118) (fun _ h9 => h9) rfl d_Specifier_readConversion_64 ?_
    obtain ⟨u_67, hu_67, hf⟩ := bd_ hf
    refine CALLi (va_runV (As := [.int ((k1.toUInt32 % 65536).toInt32)]) (rest := [.ref qt]) ⟨hx, hb, hml, hown, hg⟩ (c_String_indexOf l G K 1 ((k1.toUInt32 % 65536).toInt32) _ u_67 (by decide) hu_67) (cwV 1 hg (gV m_119 m_51 m_52 m_21 m_53) rfl rfl rfl (by decide +kernel) ⟨Nat.le_of_ble_eq_true rfl, Nat.le_of_ble_eq_true rfl⟩) ⟨PC_b, vk_recv (hE.vs hAb) (by decide) hS, PC_p hE hS hAb (hP.sub [] rfl) (hD.sub [] (by decide) rfl)⟩ rfl rfl hl.1 rfl (lv_room (Nat.le_of_ble_eq_true rfl)) d_Specifier_readConversion_67 ⟨Nat.zero_le _, Nat.zero_le _⟩) hP hD hS hA [] rfl rfl rfl (fun H locs hP hD hS => ?_)
    have hP : va_P (gD G) vwCl (w_Specifier_readIndex G qt t_index t_flags t_width t_precision ((k1.toUInt32 % 65536).toInt32) t_great t_known t_cutOff t_flagTwice t_last qa1 qa1_cells na1_cells a1_cells a1_used a1_burst) H := hP
    have hD : va_D A (w_Specifier_readIndex G qt t_index t_flags t_width t_precision ((k1.toUInt32 % 65536).toInt32) t_great t_known t_cutOff t_flagTwice t_last qa1 qa1_cells na1_cells a1_cells a1_used a1_burst) := hD
    refine lv_if_lt (tgt := 77) hx hb d_Specifier_readConversion_70 (by decide) (fun c_70 => ?_) (fun c_70 => ?_)
    · have hf := ip_ c_70 hf
      refine lv_iconst (v := 0) hx hb d_Specifier_readConversion_77 (by decide) ?_
      exact W_78 (0 : Int32) ((k1.toUInt32 % 65536).toInt32) t_great t_known t_cutOff t_last bl_0 hf _ _ _ hP hD hS (lv_sub hl [] rfl)
    · have hf := in_ c_70 hf
      refine lv_iconst (v := 1) hx hb d_Specifier_readConversion_73 (by decide) ?_
      refine lv_goto (tgt := 78) hx hb d_Specifier_readConversion_74 (by decide) ?_
      exact W_78 (1 : Int32) ((k1.toUInt32 % 65536).toInt32) t_great t_known t_cutOff t_last bl_1 hf _ _ _ hP hD hS (lv_sub hl [] rfl)
  have W_37 : ∀ (x3 : Int32) (k1 : Int32) (t_conversion : Int32) (t_great : Int32) (t_known : Int32) (t_cutOff : Int32) (t_last : Int32) (b_k1 : bl k1), k_Specifier_readConversion_37 K x3 k1 t_conversion t_great t_known t_cutOff t_last = some res → ∀ (H : Heap) (locs : List Loc) (ls : Array Slot), va_P (gD G) vwCl (w_Specifier_readIndex G qt t_index t_flags t_width t_precision t_conversion t_great t_known t_cutOff t_flagTwice t_last qa1 qa1_cells na1_cells a1_cells a1_used a1_burst) H → va_D A (w_Specifier_readIndex G qt t_index t_flags t_width t_precision t_conversion t_great t_known t_cutOff t_flagTwice t_last qa1 qa1_cells na1_cells a1_cells a1_used a1_burst) → va_S A s.heap H locs → lv_has ls 4 [(0, .ref qt), (3, .int x3)] → W p l e { frames := 4, cells := 0, slots := 0, locals := 160 } s m ([.ref qt, .ref qa1, .int a2] : List Value).toArray below meth c H locs 0 0 Q (F0 m 37 ls [.int k1, .ref qt]) := by
    intro x3 k1 t_conversion t_great t_known t_cutOff t_last b_k1 hf H locs ls hP hD hS hl
    unfold k_Specifier_readConversion_37 at hf
    refine va_put (D := gD G) (ci := 5) (v := .int k1) (ty := .boolean) (C := R_Specifier) (T := F_Specifier) (N := 10) hx hb hg in_Specifier t_Specifier to_Specifier no_Specifier hown hK hP hD hS 0 rfl rfl 5 (by decide) (hg _ m_152) (fun _ h9 => h9) rfl (by decide +kernel) (bl_n b_k1) (bl_f b_k1) (Nat.le_of_ble_eq_true rfl) d_Specifier_readConversion_37 (fun H locs hP hD hS => ?_)
    have hP : va_P (gD G) vwCl (w_Specifier_readIndex G qt t_index t_flags t_width t_precision t_conversion k1 t_known t_cutOff t_flagTwice t_last qa1 qa1_cells na1_cells a1_cells a1_used a1_burst) H := hP
    have hD : va_D A (w_Specifier_readIndex G qt t_index t_flags t_width t_precision t_conversion k1 t_known t_cutOff t_flagTwice t_last qa1 qa1_cells na1_cells a1_cells a1_used a1_burst) := hD
    refine lv_aload_n hx hb d_Specifier_readConversion_40 rfl (lv_at hl 0 rfl) ?_
    refine lv_aload_n hx hb d_Specifier_readConversion_41 rfl (lv_at hl 0 rfl) ?_
    refine va_get (D := gD G) (ci := 5) (v := .int k1) (C := R_Specifier) (T := F_Specifier) (N := 10) hx hb hg in_Specifier hown hK hP 0 rfl rfl 5 (by decide) (hg _ m_152) (fun _ h9 => h9) rfl d_Specifier_readConversion_42 ?_
    refine lv_if_eq (tgt := 55) hx hb d_Specifier_readConversion_45 (by decide) (fun c_45 => ?_) (fun c_45 => ?_)
    · have hf := ip_ c_45 hf
      refine lv_iload_n hx hb d_Specifier_readConversion_55 rfl (lv_at hl 1 rfl) ?_
      exact W_56 x3 t_conversion k1 t_known t_cutOff t_last  hf _ _ _ hP hD hS (lv_sub hl [0] rfl)
    · have hf := in_ c_45 hf
      refine lv_iload_n hx hb d_Specifier_readConversion_48 rfl (lv_at hl 1 rfl) ?_
      refine lv_bipush (v := 32) hx hb d_Specifier_readConversion_49 (by decide) ?_
      refine lv_iadd hx hb d_Specifier_readConversion_51 ?_
      refine lv_goto (tgt := 56) hx hb d_Specifier_readConversion_52 (by decide) ?_
      exact W_56 (x3 + (32 : Int32)) t_conversion k1 t_known t_cutOff t_last  hf _ _ _ hP hD hS (lv_sub hl [0] rfl)
  unfold f_Specifier_readConversion at hf
  refine lv_aload_n hx hb d_Specifier_readConversion_0 rfl (lv_at hl 0 rfl) ?_
  refine lv_iload_n hx hb d_Specifier_readConversion_1 rfl (lv_at hl 2 rfl) ?_
  refine va_put (D := gD G) (ci := 5) (v := .int a2) (ty := .int) (C := R_Specifier) (T := F_Specifier) (N := 10) hx hb hg in_Specifier t_Specifier to_Specifier no_Specifier hown hK hP hD hS 0 rfl rfl 9 (by decide) (hg _ m_151) (fun _ h9 => h9) rfl (by decide +kernel) rfl rfl (Nat.le_of_ble_eq_true rfl) d_Specifier_readConversion_2 (fun H locs hP hD hS => ?_)
  have hP : va_P (gD G) vwCl (w_Specifier_readIndex G qt t_index t_flags t_width t_precision t_conversion t_great t_known t_cutOff t_flagTwice a2 qa1 qa1_cells na1_cells a1_cells a1_used a1_burst) H := hP
  have hD : va_D A (w_Specifier_readIndex G qt t_index t_flags t_width t_precision t_conversion t_great t_known t_cutOff t_flagTwice a2 qa1 qa1_cells na1_cells a1_cells a1_used a1_burst) := hD
  refine lv_aload_n hx hb d_Specifier_readConversion_5 rfl (lv_at hl 1 rfl) ?_
  refine lv_iload_n hx hb d_Specifier_readConversion_6 rfl (lv_at hl 2 rfl) ?_
  obtain ⟨u_7, hu_7, hf⟩ := bd_ hf
  refine CALLi (va_runV (As := [.int a2]) (rest := []) ⟨hx, hb, hml, hown, hg⟩ (c_Row_at l G K qa1 qa1_cells na1_cells a1_cells a1_used a1_burst a2 _ u_7  hu_7) (cwV 1 hg (gV m_140 m_63 m_64 m_60 m_65) rfl rfl rfl (by decide +kernel) ⟨Nat.le_of_ble_eq_true rfl, Nat.le_of_ble_eq_true rfl⟩) ⟨PC_b, va_recv hK hP (ci := 4) (q0 := 1) rfl rfl, PC_p hE hS hAb (hP.sub [1, 2] rfl) (hD.sub [1, 2] (by decide) rfl)⟩ rfl rfl hl.1 rfl (lv_room (Nat.le_of_ble_eq_true rfl)) d_Specifier_readConversion_7 ⟨Nat.zero_le _, Nat.zero_le _⟩) hP hD hS hA [1, 2] rfl rfl rfl (fun H locs hP hD hS => ?_)
  have hP : va_P (gD G) vwCl (w_Specifier_readIndex G qt t_index t_flags t_width t_precision t_conversion t_great t_known t_cutOff t_flagTwice a2 qa1 qa1_cells na1_cells a1_cells a1_used a1_burst) H := hP
  have hD : va_D A (w_Specifier_readIndex G qt t_index t_flags t_width t_precision t_conversion t_great t_known t_cutOff t_flagTwice a2 qa1 qa1_cells na1_cells a1_cells a1_used a1_burst) := hD
  refine lv_istore_n (lv' := [(3, .int u_7), (0, .ref qt), (1, .ref qa1), (2, .int a2)]) hx hb d_Specifier_readConversion_10 rfl hl (by decide) rfl (fun ls hl => ?_)
  refine lv_iload_n hx hb d_Specifier_readConversion_11 rfl (lv_at hl 0 rfl) ?_
  refine lv_if_ge (tgt := 21) hx hb d_Specifier_readConversion_12 (by decide) (fun c_12 => ?_) (fun c_12 => ?_)
  · have hf := ip_ c_12 hf
    refine lv_aload_n hx hb d_Specifier_readConversion_21 rfl (lv_at hl 1 rfl) ?_
    refine va_ldcS (own := R_Specifier) (tx := "BSCXEGA") (q := gT G 0) hx hb hown (hE.sr ("SpecifierDesk$Specifier", 105, "BSCXEGA", 0) (List.mem_of_getElem? (i := 0) rfl)) d_Specifier_readConversion_22 ?_
    refine lv_iload_n hx hb d_Specifier_readConversion_24 rfl (lv_at hl 0 rfl) ?_
    refine lv_i2c (v := (u_7.toUInt32 % 65536).toInt32) hx hb d_Specifier_readConversion_25 rfl ?_
    obtain ⟨u_26, hu_26, hf⟩ := bd_ hf
    refine CALLi (va_runV (As := [.int ((u_7.toUInt32 % 65536).toInt32)]) (rest := [.ref qt]) ⟨hx, hb, hml, hown, hg⟩ (c_String_indexOf l G K 0 ((u_7.toUInt32 % 65536).toInt32) _ u_26 (by decide) hu_26) (cwV 1 hg (gV m_119 m_51 m_52 m_21 m_53) rfl rfl rfl (by decide +kernel) ⟨Nat.le_of_ble_eq_true rfl, Nat.le_of_ble_eq_true rfl⟩) ⟨PC_b, vk_recv (hE.vs hAb) (by decide) hS, PC_p hE hS hAb (hP.sub [] rfl) (hD.sub [] (by decide) rfl)⟩ rfl rfl hl.1 rfl (lv_room (Nat.le_of_ble_eq_true rfl)) d_Specifier_readConversion_26 ⟨Nat.zero_le _, Nat.zero_le _⟩) hP hD hS hA [] rfl rfl rfl (fun H locs hP hD hS => ?_)
    have hP : va_P (gD G) vwCl (w_Specifier_readIndex G qt t_index t_flags t_width t_precision t_conversion t_great t_known t_cutOff t_flagTwice a2 qa1 qa1_cells na1_cells a1_cells a1_used a1_burst) H := hP
    have hD : va_D A (w_Specifier_readIndex G qt t_index t_flags t_width t_precision t_conversion t_great t_known t_cutOff t_flagTwice a2 qa1 qa1_cells na1_cells a1_cells a1_used a1_burst) := hD
    refine lv_if_lt (tgt := 36) hx hb d_Specifier_readConversion_29 (by decide) (fun c_29 => ?_) (fun c_29 => ?_)
    · have hf := ip_ c_29 hf
      refine lv_iconst (v := 0) hx hb d_Specifier_readConversion_36 (by decide) ?_
      exact W_37 u_7 (0 : Int32) t_conversion t_great t_known t_cutOff a2 bl_0 hf _ _ _ hP hD hS (lv_sub hl [1, 0] rfl)
    · have hf := in_ c_29 hf
      refine lv_iconst (v := 1) hx hb d_Specifier_readConversion_32 (by decide) ?_
      refine lv_goto (tgt := 37) hx hb d_Specifier_readConversion_33 (by decide) ?_
      exact W_37 u_7 (1 : Int32) t_conversion t_great t_known t_cutOff a2 bl_1 hf _ _ _ hP hD hS (lv_sub hl [1, 0] rfl)
  · have hf := in_ c_12 hf
    refine lv_aload_n hx hb d_Specifier_readConversion_15 rfl (lv_at hl 1 rfl) ?_
    refine lv_iconst (v := 1) hx hb d_Specifier_readConversion_16 (by decide) ?_
    refine va_put (D := gD G) (ci := 5) (v := .int (1 : Int32)) (ty := .boolean) (C := R_Specifier) (T := F_Specifier) (N := 10) hx hb hg in_Specifier t_Specifier to_Specifier no_Specifier hown hK hP hD hS 0 rfl rfl 7 (by decide) (hg _ m_128) (fun _ h9 => h9) rfl (by decide +kernel) (bl_n bl_1) (bl_f bl_1) (Nat.le_of_ble_eq_true rfl) d_Specifier_readConversion_17 (fun H locs hP hD hS => ?_)
    have hP : va_P (gD G) vwCl (w_Specifier_readIndex G qt t_index t_flags t_width t_precision t_conversion t_great t_known (1 : Int32) t_flagTwice a2 qa1 qa1_cells na1_cells a1_cells a1_used a1_burst) H := hP
    have hD : va_D A (w_Specifier_readIndex G qt t_index t_flags t_width t_precision t_conversion t_great t_known (1 : Int32) t_flagTwice a2 qa1 qa1_cells na1_cells a1_cells a1_used a1_burst) := hD
    obtain rfl := Option.some.inj hf
    rw [← hQ]
    exact W.vret hx hb hr (fun t9 ht hW => ⟨⟨(), rfl, trivial, ⟨by rw [ht]; exact hP, hD⟩⟩, hS.F ht⟩) hS.2.2 d_Specifier_readConversion_20
theorem d_Specifier_readFrom_0 : decode cd_Specifier_readFrom 0 = .ok (.aload_n 0, 1) := by decide +kernel
theorem d_Specifier_readFrom_1 : decode cd_Specifier_readFrom 1 = .ok (.iconst (-1), 1) := by decide +kernel
theorem d_Specifier_readFrom_2 : decode cd_Specifier_readFrom 2 = .ok (.putfield 9, 3) := by decide +kernel
theorem d_Specifier_readFrom_5 : decode cd_Specifier_readFrom 5 = .ok (.aload_n 0, 1) := by decide +kernel
theorem d_Specifier_readFrom_6 : decode cd_Specifier_readFrom 6 = .ok (.iconst 0, 1) := by decide +kernel
theorem d_Specifier_readFrom_7 : decode cd_Specifier_readFrom 7 = .ok (.putfield 13, 3) := by decide +kernel
theorem d_Specifier_readFrom_10 : decode cd_Specifier_readFrom 10 = .ok (.aload_n 0, 1) := by decide +kernel
theorem d_Specifier_readFrom_11 : decode cd_Specifier_readFrom 11 = .ok (.iconst (-1), 1) := by decide +kernel
theorem d_Specifier_readFrom_12 : decode cd_Specifier_readFrom 12 = .ok (.putfield 16, 3) := by decide +kernel
theorem d_Specifier_readFrom_15 : decode cd_Specifier_readFrom 15 = .ok (.aload_n 0, 1) := by decide +kernel
theorem d_Specifier_readFrom_16 : decode cd_Specifier_readFrom 16 = .ok (.iconst (-1), 1) := by decide +kernel
theorem d_Specifier_readFrom_17 : decode cd_Specifier_readFrom 17 = .ok (.putfield 19, 3) := by decide +kernel
theorem d_Specifier_readFrom_20 : decode cd_Specifier_readFrom 20 = .ok (.aload_n 0, 1) := by decide +kernel
theorem d_Specifier_readFrom_21 : decode cd_Specifier_readFrom 21 = .ok (.iconst 0, 1) := by decide +kernel
theorem d_Specifier_readFrom_22 : decode cd_Specifier_readFrom 22 = .ok (.putfield 22, 3) := by decide +kernel
theorem d_Specifier_readFrom_25 : decode cd_Specifier_readFrom 25 = .ok (.aload_n 0, 1) := by decide +kernel
theorem d_Specifier_readFrom_26 : decode cd_Specifier_readFrom 26 = .ok (.iconst 0, 1) := by decide +kernel
theorem d_Specifier_readFrom_27 : decode cd_Specifier_readFrom 27 = .ok (.putfield 26, 3) := by decide +kernel
theorem d_Specifier_readFrom_30 : decode cd_Specifier_readFrom 30 = .ok (.aload_n 0, 1) := by decide +kernel
theorem d_Specifier_readFrom_31 : decode cd_Specifier_readFrom 31 = .ok (.iconst 0, 1) := by decide +kernel
theorem d_Specifier_readFrom_32 : decode cd_Specifier_readFrom 32 = .ok (.putfield 30, 3) := by decide +kernel
theorem d_Specifier_readFrom_35 : decode cd_Specifier_readFrom 35 = .ok (.aload_n 0, 1) := by decide +kernel
theorem d_Specifier_readFrom_36 : decode cd_Specifier_readFrom 36 = .ok (.iconst 0, 1) := by decide +kernel
theorem d_Specifier_readFrom_37 : decode cd_Specifier_readFrom 37 = .ok (.putfield 33, 3) := by decide +kernel
theorem d_Specifier_readFrom_40 : decode cd_Specifier_readFrom 40 = .ok (.aload_n 0, 1) := by decide +kernel
theorem d_Specifier_readFrom_41 : decode cd_Specifier_readFrom 41 = .ok (.iconst 0, 1) := by decide +kernel
theorem d_Specifier_readFrom_42 : decode cd_Specifier_readFrom 42 = .ok (.putfield 36, 3) := by decide +kernel
theorem d_Specifier_readFrom_45 : decode cd_Specifier_readFrom 45 = .ok (.aload_n 0, 1) := by decide +kernel
theorem d_Specifier_readFrom_46 : decode cd_Specifier_readFrom 46 = .ok (.aload_n 1, 1) := by decide +kernel
theorem d_Specifier_readFrom_47 : decode cd_Specifier_readFrom 47 = .ok (.iload_n 2, 1) := by decide +kernel
theorem d_Specifier_readFrom_48 : decode cd_Specifier_readFrom 48 = .ok (.iconst 1, 1) := by decide +kernel
theorem d_Specifier_readFrom_49 : decode cd_Specifier_readFrom 49 = .ok (.iadd, 1) := by decide +kernel
theorem d_Specifier_readFrom_50 : decode cd_Specifier_readFrom 50 = .ok (.invokevirtual 39, 3) := by decide +kernel
theorem d_Specifier_readFrom_53 : decode cd_Specifier_readFrom 53 = .ok (.istore_n 3, 1) := by decide +kernel
theorem d_Specifier_readFrom_54 : decode cd_Specifier_readFrom 54 = .ok (.aload_n 0, 1) := by decide +kernel
theorem d_Specifier_readFrom_55 : decode cd_Specifier_readFrom 55 = .ok (.aload_n 1, 1) := by decide +kernel
theorem d_Specifier_readFrom_56 : decode cd_Specifier_readFrom 56 = .ok (.iload_n 3, 1) := by decide +kernel
theorem d_Specifier_readFrom_57 : decode cd_Specifier_readFrom 57 = .ok (.invokevirtual 43, 3) := by decide +kernel
theorem d_Specifier_readFrom_60 : decode cd_Specifier_readFrom 60 = .ok (.istore_n 3, 1) := by decide +kernel
theorem d_Specifier_readFrom_61 : decode cd_Specifier_readFrom 61 = .ok (.aload_n 0, 1) := by decide +kernel
theorem d_Specifier_readFrom_62 : decode cd_Specifier_readFrom 62 = .ok (.aload_n 1, 1) := by decide +kernel
theorem d_Specifier_readFrom_63 : decode cd_Specifier_readFrom 63 = .ok (.iload_n 3, 1) := by decide +kernel
theorem d_Specifier_readFrom_64 : decode cd_Specifier_readFrom 64 = .ok (.invokevirtual 46, 3) := by decide +kernel
theorem d_Specifier_readFrom_67 : decode cd_Specifier_readFrom 67 = .ok (.istore_n 3, 1) := by decide +kernel
theorem d_Specifier_readFrom_68 : decode cd_Specifier_readFrom 68 = .ok (.aload_n 0, 1) := by decide +kernel
theorem d_Specifier_readFrom_69 : decode cd_Specifier_readFrom 69 = .ok (.aload_n 1, 1) := by decide +kernel
theorem d_Specifier_readFrom_70 : decode cd_Specifier_readFrom 70 = .ok (.iload_n 3, 1) := by decide +kernel
theorem d_Specifier_readFrom_71 : decode cd_Specifier_readFrom 71 = .ok (.invokevirtual 49, 3) := by decide +kernel
theorem d_Specifier_readFrom_74 : decode cd_Specifier_readFrom 74 = .ok (.istore_n 3, 1) := by decide +kernel
theorem d_Specifier_readFrom_75 : decode cd_Specifier_readFrom 75 = .ok (.aload_n 0, 1) := by decide +kernel
theorem d_Specifier_readFrom_76 : decode cd_Specifier_readFrom 76 = .ok (.aload_n 1, 1) := by decide +kernel
theorem d_Specifier_readFrom_77 : decode cd_Specifier_readFrom 77 = .ok (.iload_n 3, 1) := by decide +kernel
theorem d_Specifier_readFrom_78 : decode cd_Specifier_readFrom 78 = .ok (.invokevirtual 52, 3) := by decide +kernel
theorem d_Specifier_readFrom_81 : decode cd_Specifier_readFrom 81 = .ok (.return_, 1) := by decide +kernel
theorem m_153 : Cond.methodLink R_Specifier 39 y_Specifier_readIndex ∈ gw := gm (i := 430) (by decide +kernel) (by decide +kernel)
theorem m_154 : Cond.instanceMethod y_Specifier_readIndex ∈ gw := gm (i := 432) (by decide +kernel) (by decide +kernel)
theorem m_155 : Cond.selects R_Specifier y_Specifier_readIndex y_Specifier_readIndex ∈ gw := gm (i := 4) (by decide +kernel) (by decide +kernel)
set_option maxRecDepth 100000 in
theorem m_156 : Cond.code y_Specifier_readIndex cd_Specifier_readIndex 4 (some .int) ∈ gw := gm (i := 433) rfl rfl
theorem m_157 : Cond.methodLink R_Specifier 43 y_Specifier_readFlags ∈ gw := gm (i := 444) (by decide +kernel) (by decide +kernel)
theorem m_158 : Cond.instanceMethod y_Specifier_readFlags ∈ gw := gm (i := 446) (by decide +kernel) (by decide +kernel)
theorem m_159 : Cond.selects R_Specifier y_Specifier_readFlags y_Specifier_readFlags ∈ gw := gm (i := 5) (by decide +kernel) (by decide +kernel)
set_option maxRecDepth 100000 in
theorem m_160 : Cond.code y_Specifier_readFlags cd_Specifier_readFlags 5 (some .int) ∈ gw := gm (i := 447) rfl rfl
theorem m_161 : Cond.methodLink R_Specifier 46 y_Specifier_readWidth ∈ gw := gm (i := 455) (by decide +kernel) (by decide +kernel)
theorem m_162 : Cond.instanceMethod y_Specifier_readWidth ∈ gw := gm (i := 457) (by decide +kernel) (by decide +kernel)
theorem m_163 : Cond.selects R_Specifier y_Specifier_readWidth y_Specifier_readWidth ∈ gw := gm (i := 6) (by decide +kernel) (by decide +kernel)
set_option maxRecDepth 100000 in
theorem m_164 : Cond.code y_Specifier_readWidth cd_Specifier_readWidth 4 (some .int) ∈ gw := gm (i := 458) rfl rfl
theorem m_165 : Cond.methodLink R_Specifier 49 y_Specifier_readPrecision ∈ gw := gm (i := 459) (by decide +kernel) (by decide +kernel)
theorem m_166 : Cond.instanceMethod y_Specifier_readPrecision ∈ gw := gm (i := 461) (by decide +kernel) (by decide +kernel)
theorem m_167 : Cond.selects R_Specifier y_Specifier_readPrecision y_Specifier_readPrecision ∈ gw := gm (i := 7) (by decide +kernel) (by decide +kernel)
set_option maxRecDepth 100000 in
theorem m_168 : Cond.code y_Specifier_readPrecision cd_Specifier_readPrecision 4 (some .int) ∈ gw := gm (i := 462) rfl rfl
theorem m_169 : Cond.methodLink R_Specifier 52 y_Specifier_readConversion ∈ gw := gm (i := 463) (by decide +kernel) (by decide +kernel)
theorem m_170 : Cond.instanceMethod y_Specifier_readConversion ∈ gw := gm (i := 465) (by decide +kernel) (by decide +kernel)
theorem m_171 : Cond.selects R_Specifier y_Specifier_readConversion y_Specifier_readConversion ∈ gw := gm (i := 8) (by decide +kernel) (by decide +kernel)
set_option maxRecDepth 100000 in
theorem m_172 : Cond.code y_Specifier_readConversion cd_Specifier_readConversion 4 none ∈ gw := gm (i := 466) rfl rfl
def f_Specifier_readFrom (K : Nat) (na1_cells : Nat) (a1_cells : Nat → Int32) (a1_used : Int32) (a2 : Int32) : Option (Int32 × Int32 × Int32 × Int32 × Int32 × Int32 × Int32 × Int32 × Int32 × Int32) :=
  ((f_Specifier_readIndex K (-1 : Int32) na1_cells a1_cells a1_used (a2 + (1 : Int32))).bind fun u_50 => ((f_Specifier_readFlags K (0 : Int32) (0 : Int32) na1_cells a1_cells a1_used u_50.1).bind fun u_57 => ((f_Specifier_readWidth K (-1 : Int32) na1_cells a1_cells a1_used u_57.1).bind fun u_64 => ((f_Specifier_readPrecision K (-1 : Int32) (0 : Int32) na1_cells a1_cells a1_used u_64.1).bind fun u_71 => ((f_Specifier_readConversion K (0 : Int32) (0 : Int32) (0 : Int32) u_71.2.2 na1_cells a1_cells a1_used u_71.1).bind fun u_78 => some (u_50.2, u_57.2.1, u_64.2, u_71.2.1, u_78.1, u_78.2.1, u_78.2.2.1, u_78.2.2.2.1, u_57.2.2, u_78.2.2.2.2))))))
set_option maxHeartbeats 4000000 in
set_option maxRecDepth 100000 in
theorem c_Specifier_readFrom (l : Launch) (G : Gt) (K : Nat) (qt : Nat) (t_index : Int32) (t_flags : Int32) (t_width : Int32) (t_precision : Int32) (t_conversion : Int32) (t_great : Int32) (t_known : Int32) (t_cutOff : Int32) (t_flagTwice : Int32) (t_last : Int32) (qa1 : Nat) (qa1_cells : Nat) (na1_cells : Nat) (a1_cells : Nat → Int32) (a1_used : Int32) (a1_burst : Int32) (a2 : Int32) (sz : Nat) (res : Int32 × Int32 × Int32 × Int32 × Int32 × Int32 × Int32 × Int32 × Int32 × Int32)   (hf : f_Specifier_readFrom K na1_cells a1_cells a1_used a2 = some res) : Met l y_Specifier_readFrom (.code y_Specifier_readFrom cd_Specifier_readFrom 4 none :: gw) { frames := 5, cells := 0, slots := 0, locals := 200 } (PC G ([.ref qt, .ref qa1, .int a2] : List Value) sz (w_Specifier_readIndex G qt t_index t_flags t_width t_precision t_conversion t_great t_known t_cutOff t_flagTwice t_last qa1 qa1_cells na1_cells a1_cells a1_used a1_burst)) (QV G (va_A (w_Specifier_readIndex G qt t_index t_flags t_width t_precision t_conversion t_great t_known t_cutOff t_flagTwice t_last qa1 qa1_cells na1_cells a1_cells a1_used a1_burst) sz) (w_Specifier_readIndex G qt res.1 res.2.1 res.2.2.1 res.2.2.2.1 res.2.2.2.2.1 res.2.2.2.2.2.1 res.2.2.2.2.2.2.1 res.2.2.2.2.2.2.2.1 res.2.2.2.2.2.2.2.2.1 res.2.2.2.2.2.2.2.2.2 qa1 qa1_cells na1_cells a1_cells a1_used a1_burst)) 0 0 (va_A (w_Specifier_readIndex G qt t_index t_flags t_width t_precision t_conversion t_great t_known t_cutOff t_flagTwice t_last qa1 qa1_cells na1_cells a1_cells a1_used a1_burst) sz) := by
  refine Met.ofW (cc := cd_Specifier_readFrom) (maxL := 4) (ret := none) (by decide) rfl ?_
  intro p e s m args below meth c s₁ B hml hv
  obtain ⟨rfl, hsz, hP, hE, hD0⟩ := hv
  have hx := B.exec
  have hb := B.bytes
  have hr := B.returns
  have hts := atoms_spec (ws := (.code y_Specifier_readFrom cd_Specifier_readFrom 4 none :: gw)) B.pre
  have hg : ∀ w ∈ gw, w.before _ s = true := fun w h => hts w (List.mem_cons_of_mem _ h)
  have hown : s.vm.findClass R_Specifier = some m.cls := findClass_of_methodNamed B.named
  have hlocks := B.notSynchronized
  subst hsz
  have hK := hE.K
  have hD := hD0.self (sz := s.heap.size)
  have hAb := hE.ab hD0
  obtain ⟨Q, hQ⟩ : ∃ Q, MQ below (QV G (va_A (w_Specifier_readIndex G qt t_index t_flags t_width t_precision t_conversion t_great t_known t_cutOff t_flagTwice t_last qa1 qa1_cells na1_cells a1_cells a1_used a1_burst) s.heap.size) (w_Specifier_readIndex G qt res.1 res.2.1 res.2.2.1 res.2.2.2.1 res.2.2.2.2.1 res.2.2.2.2.2.1 res.2.2.2.2.2.2.1 res.2.2.2.2.2.2.2.1 res.2.2.2.2.2.2.2.2.1 res.2.2.2.2.2.2.2.2.2 qa1 qa1_cells na1_cells a1_cells a1_used a1_burst)) ([.ref qt, .ref qa1, .int a2] : List Value).toArray s 0 0 (va_A (w_Specifier_readIndex G qt t_index t_flags t_width t_precision t_conversion t_great t_known t_cutOff t_flagTwice t_last qa1 qa1_cells na1_cells a1_cells a1_used a1_burst) s.heap.size) = Q := ⟨_, rfl⟩
  show W p l e { frames := 5, cells := 0, slots := 0, locals := 200 } s m ([.ref qt, .ref qa1, .int a2] : List Value).toArray below meth c s.heap [] 0 0 (MQ below (QV G (va_A (w_Specifier_readIndex G qt t_index t_flags t_width t_precision t_conversion t_great t_known t_cutOff t_flagTwice t_last qa1 qa1_cells na1_cells a1_cells a1_used a1_burst) s.heap.size) (w_Specifier_readIndex G qt res.1 res.2.1 res.2.2.1 res.2.2.2.1 res.2.2.2.2.1 res.2.2.2.2.2.1 res.2.2.2.2.2.2.1 res.2.2.2.2.2.2.2.1 res.2.2.2.2.2.2.2.2.1 res.2.2.2.2.2.2.2.2.2 qa1 qa1_cells na1_cells a1_cells a1_used a1_burst)) ([.ref qt, .ref qa1, .int a2] : List Value).toArray s 0 0 (va_A (w_Specifier_readIndex G qt t_index t_flags t_width t_precision t_conversion t_great t_known t_cutOff t_flagTwice t_last qa1 qa1_cells na1_cells a1_cells a1_used a1_burst) s.heap.size)) _
  rw [hQ]
  have hA : ∀ q : Nat, s.heap.size ≤ q → va_A (w_Specifier_readIndex G qt t_index t_flags t_width t_precision t_conversion t_great t_known t_cutOff t_flagTwice t_last qa1 qa1_cells na1_cells a1_cells a1_used a1_burst) s.heap.size q := fun q h => Or.inr h
  obtain ⟨A, hAe⟩ : ∃ A, va_A (w_Specifier_readIndex G qt t_index t_flags t_width t_precision t_conversion t_great t_known t_cutOff t_flagTwice t_last qa1 qa1_cells na1_cells a1_cells a1_used a1_burst) s.heap.size = A := ⟨_, rfl⟩
  rw [hAe] at hA hD hAb hQ
  have hS : va_S A s.heap s.heap [] := va_S.rf
  have hl := lv_entry (([.ref qt, .ref qa1, .int a2] : List Value)) (n := 4) (Nat.le_of_ble_eq_true rfl)
  rw [lg_entry_eq]
  generalize (lg_sl (([.ref qt, .ref qa1, .int a2] : List Value)) ++ List.replicate (4 - (lg_sl (([.ref qt, .ref qa1, .int a2] : List Value))).length) Slot.unset).toArray = ls at hl ⊢
  have hl : lv_has ls 4 [(0, .ref qt), (1, .ref qa1), (2, .int a2)] := hl
  unfold f_Specifier_readFrom at hf
  refine lv_aload_n hx hb d_Specifier_readFrom_0 rfl (lv_at hl 0 rfl) ?_
  refine lv_iconst (v := -1) hx hb d_Specifier_readFrom_1 (by decide) ?_
  refine va_put (D := gD G) (ci := 5) (v := .int (-1 : Int32)) (ty := .int) (C := R_Specifier) (T := F_Specifier) (N := 10) hx hb hg in_Specifier t_Specifier to_Specifier no_Specifier hown hK hP hD hS 0 rfl rfl 0 (by decide) (hg _ m_129) (fun _ h9 => h9) rfl (by decide +kernel) rfl rfl (Nat.le_of_ble_eq_true rfl) d_Specifier_readFrom_2 (fun H locs hP hD hS => ?_)
  have hP : va_P (gD G) vwCl (w_Specifier_readIndex G qt (-1 : Int32) t_flags t_width t_precision t_conversion t_great t_known t_cutOff t_flagTwice t_last qa1 qa1_cells na1_cells a1_cells a1_used a1_burst) H := hP
  have hD : va_D A (w_Specifier_readIndex G qt (-1 : Int32) t_flags t_width t_precision t_conversion t_great t_known t_cutOff t_flagTwice t_last qa1 qa1_cells na1_cells a1_cells a1_used a1_burst) := hD
  refine lv_aload_n hx hb d_Specifier_readFrom_5 rfl (lv_at hl 0 rfl) ?_
  refine lv_iconst (v := 0) hx hb d_Specifier_readFrom_6 (by decide) ?_
  refine va_put (D := gD G) (ci := 5) (v := .int (0 : Int32)) (ty := .int) (C := R_Specifier) (T := F_Specifier) (N := 10) hx hb hg in_Specifier t_Specifier to_Specifier no_Specifier hown hK hP hD hS 0 rfl rfl 1 (by decide) (hg _ m_110) (fun _ h9 => h9) rfl (by decide +kernel) rfl rfl (Nat.le_of_ble_eq_true rfl) d_Specifier_readFrom_7 (fun H locs hP hD hS => ?_)
  have hP : va_P (gD G) vwCl (w_Specifier_readIndex G qt (-1 : Int32) (0 : Int32) t_width t_precision t_conversion t_great t_known t_cutOff t_flagTwice t_last qa1 qa1_cells na1_cells a1_cells a1_used a1_burst) H := hP
  have hD : va_D A (w_Specifier_readIndex G qt (-1 : Int32) (0 : Int32) t_width t_precision t_conversion t_great t_known t_cutOff t_flagTwice t_last qa1 qa1_cells na1_cells a1_cells a1_used a1_burst) := hD
  refine lv_aload_n hx hb d_Specifier_readFrom_10 rfl (lv_at hl 0 rfl) ?_
  refine lv_iconst (v := -1) hx hb d_Specifier_readFrom_11 (by decide) ?_
  refine va_put (D := gD G) (ci := 5) (v := .int (-1 : Int32)) (ty := .int) (C := R_Specifier) (T := F_Specifier) (N := 10) hx hb hg in_Specifier t_Specifier to_Specifier no_Specifier hown hK hP hD hS 0 rfl rfl 2 (by decide) (hg _ m_116) (fun _ h9 => h9) rfl (by decide +kernel) rfl rfl (Nat.le_of_ble_eq_true rfl) d_Specifier_readFrom_12 (fun H locs hP hD hS => ?_)
  have hP : va_P (gD G) vwCl (w_Specifier_readIndex G qt (-1 : Int32) (0 : Int32) (-1 : Int32) t_precision t_conversion t_great t_known t_cutOff t_flagTwice t_last qa1 qa1_cells na1_cells a1_cells a1_used a1_burst) H := hP
  have hD : va_D A (w_Specifier_readIndex G qt (-1 : Int32) (0 : Int32) (-1 : Int32) t_precision t_conversion t_great t_known t_cutOff t_flagTwice t_last qa1 qa1_cells na1_cells a1_cells a1_used a1_burst) := hD
  refine lv_aload_n hx hb d_Specifier_readFrom_15 rfl (lv_at hl 0 rfl) ?_
  refine lv_iconst (v := -1) hx hb d_Specifier_readFrom_16 (by decide) ?_
  refine va_put (D := gD G) (ci := 5) (v := .int (-1 : Int32)) (ty := .int) (C := R_Specifier) (T := F_Specifier) (N := 10) hx hb hg in_Specifier t_Specifier to_Specifier no_Specifier hown hK hP hD hS 0 rfl rfl 3 (by decide) (hg _ m_117) (fun _ h9 => h9) rfl (by decide +kernel) rfl rfl (Nat.le_of_ble_eq_true rfl) d_Specifier_readFrom_17 (fun H locs hP hD hS => ?_)
  have hP : va_P (gD G) vwCl (w_Specifier_readIndex G qt (-1 : Int32) (0 : Int32) (-1 : Int32) (-1 : Int32) t_conversion t_great t_known t_cutOff t_flagTwice t_last qa1 qa1_cells na1_cells a1_cells a1_used a1_burst) H := hP
  have hD : va_D A (w_Specifier_readIndex G qt (-1 : Int32) (0 : Int32) (-1 : Int32) (-1 : Int32) t_conversion t_great t_known t_cutOff t_flagTwice t_last qa1 qa1_cells na1_cells a1_cells a1_used a1_burst) := hD
  refine lv_aload_n hx hb d_Specifier_readFrom_20 rfl (lv_at hl 0 rfl) ?_
  refine lv_iconst (v := 0) hx hb d_Specifier_readFrom_21 (by decide) ?_
  refine va_put (D := gD G) (ci := 5) (v := .int (0 : Int32)) (ty := .char) (C := R_Specifier) (T := F_Specifier) (N := 10) hx hb hg in_Specifier t_Specifier to_Specifier no_Specifier hown hK hP hD hS 0 rfl rfl 4 (by decide) (hg _ m_118) (fun _ h9 => h9) rfl (by decide +kernel) rfl rfl (Nat.le_of_ble_eq_true rfl) d_Specifier_readFrom_22 (fun H locs hP hD hS => ?_)
  have hP : va_P (gD G) vwCl (w_Specifier_readIndex G qt (-1 : Int32) (0 : Int32) (-1 : Int32) (-1 : Int32) (0 : Int32) t_great t_known t_cutOff t_flagTwice t_last qa1 qa1_cells na1_cells a1_cells a1_used a1_burst) H := hP
  have hD : va_D A (w_Specifier_readIndex G qt (-1 : Int32) (0 : Int32) (-1 : Int32) (-1 : Int32) (0 : Int32) t_great t_known t_cutOff t_flagTwice t_last qa1 qa1_cells na1_cells a1_cells a1_used a1_burst) := hD
  refine lv_aload_n hx hb d_Specifier_readFrom_25 rfl (lv_at hl 0 rfl) ?_
  refine lv_iconst (v := 0) hx hb d_Specifier_readFrom_26 (by decide) ?_
  refine va_put (D := gD G) (ci := 5) (v := .int (0 : Int32)) (ty := .boolean) (C := R_Specifier) (T := F_Specifier) (N := 10) hx hb hg in_Specifier t_Specifier to_Specifier no_Specifier hown hK hP hD hS 0 rfl rfl 5 (by decide) (hg _ m_152) (fun _ h9 => h9) rfl (by decide +kernel) (bl_n bl_0) (bl_f bl_0) (Nat.le_of_ble_eq_true rfl) d_Specifier_readFrom_27 (fun H locs hP hD hS => ?_)
  have hP : va_P (gD G) vwCl (w_Specifier_readIndex G qt (-1 : Int32) (0 : Int32) (-1 : Int32) (-1 : Int32) (0 : Int32) (0 : Int32) t_known t_cutOff t_flagTwice t_last qa1 qa1_cells na1_cells a1_cells a1_used a1_burst) H := hP
  have hD : va_D A (w_Specifier_readIndex G qt (-1 : Int32) (0 : Int32) (-1 : Int32) (-1 : Int32) (0 : Int32) (0 : Int32) t_known t_cutOff t_flagTwice t_last qa1 qa1_cells na1_cells a1_cells a1_used a1_burst) := hD
  refine lv_aload_n hx hb d_Specifier_readFrom_30 rfl (lv_at hl 0 rfl) ?_
  refine lv_iconst (v := 0) hx hb d_Specifier_readFrom_31 (by decide) ?_
  refine va_put (D := gD G) (ci := 5) (v := .int (0 : Int32)) (ty := .boolean) (C := R_Specifier) (T := F_Specifier) (N := 10) hx hb hg in_Specifier t_Specifier to_Specifier no_Specifier hown hK hP hD hS 0 rfl rfl 6 (by decide) (hg _ m_131) (fun _ h9 => h9) rfl (by decide +kernel) (bl_n bl_0) (bl_f bl_0) (Nat.le_of_ble_eq_true rfl) d_Specifier_readFrom_32 (fun H locs hP hD hS => ?_)
  have hP : va_P (gD G) vwCl (w_Specifier_readIndex G qt (-1 : Int32) (0 : Int32) (-1 : Int32) (-1 : Int32) (0 : Int32) (0 : Int32) (0 : Int32) t_cutOff t_flagTwice t_last qa1 qa1_cells na1_cells a1_cells a1_used a1_burst) H := hP
  have hD : va_D A (w_Specifier_readIndex G qt (-1 : Int32) (0 : Int32) (-1 : Int32) (-1 : Int32) (0 : Int32) (0 : Int32) (0 : Int32) t_cutOff t_flagTwice t_last qa1 qa1_cells na1_cells a1_cells a1_used a1_burst) := hD
  refine lv_aload_n hx hb d_Specifier_readFrom_35 rfl (lv_at hl 0 rfl) ?_
  refine lv_iconst (v := 0) hx hb d_Specifier_readFrom_36 (by decide) ?_
  refine va_put (D := gD G) (ci := 5) (v := .int (0 : Int32)) (ty := .boolean) (C := R_Specifier) (T := F_Specifier) (N := 10) hx hb hg in_Specifier t_Specifier to_Specifier no_Specifier hown hK hP hD hS 0 rfl rfl 7 (by decide) (hg _ m_128) (fun _ h9 => h9) rfl (by decide +kernel) (bl_n bl_0) (bl_f bl_0) (Nat.le_of_ble_eq_true rfl) d_Specifier_readFrom_37 (fun H locs hP hD hS => ?_)
  have hP : va_P (gD G) vwCl (w_Specifier_readIndex G qt (-1 : Int32) (0 : Int32) (-1 : Int32) (-1 : Int32) (0 : Int32) (0 : Int32) (0 : Int32) (0 : Int32) t_flagTwice t_last qa1 qa1_cells na1_cells a1_cells a1_used a1_burst) H := hP
  have hD : va_D A (w_Specifier_readIndex G qt (-1 : Int32) (0 : Int32) (-1 : Int32) (-1 : Int32) (0 : Int32) (0 : Int32) (0 : Int32) (0 : Int32) t_flagTwice t_last qa1 qa1_cells na1_cells a1_cells a1_used a1_burst) := hD
  refine lv_aload_n hx hb d_Specifier_readFrom_40 rfl (lv_at hl 0 rfl) ?_
  refine lv_iconst (v := 0) hx hb d_Specifier_readFrom_41 (by decide) ?_
  refine va_put (D := gD G) (ci := 5) (v := .int (0 : Int32)) (ty := .boolean) (C := R_Specifier) (T := F_Specifier) (N := 10) hx hb hg in_Specifier t_Specifier to_Specifier no_Specifier hown hK hP hD hS 0 rfl rfl 8 (by decide) (hg _ m_130) (fun _ h9 => h9) rfl (by decide +kernel) (bl_n bl_0) (bl_f bl_0) (Nat.le_of_ble_eq_true rfl) d_Specifier_readFrom_42 (fun H locs hP hD hS => ?_)
  have hP : va_P (gD G) vwCl (w_Specifier_readIndex G qt (-1 : Int32) (0 : Int32) (-1 : Int32) (-1 : Int32) (0 : Int32) (0 : Int32) (0 : Int32) (0 : Int32) (0 : Int32) t_last qa1 qa1_cells na1_cells a1_cells a1_used a1_burst) H := hP
  have hD : va_D A (w_Specifier_readIndex G qt (-1 : Int32) (0 : Int32) (-1 : Int32) (-1 : Int32) (0 : Int32) (0 : Int32) (0 : Int32) (0 : Int32) (0 : Int32) t_last qa1 qa1_cells na1_cells a1_cells a1_used a1_burst) := hD
  refine lv_aload_n hx hb d_Specifier_readFrom_45 rfl (lv_at hl 0 rfl) ?_
  refine lv_aload_n hx hb d_Specifier_readFrom_46 rfl (lv_at hl 1 rfl) ?_
  refine lv_iload_n hx hb d_Specifier_readFrom_47 rfl (lv_at hl 2 rfl) ?_
  refine lv_iconst (v := 1) hx hb d_Specifier_readFrom_48 (by decide) ?_
  refine lv_iadd hx hb d_Specifier_readFrom_49 ?_
  obtain ⟨u_50, hu_50, hf⟩ := bd_ hf
  refine CALLWi (va_runV (As := [.ref qa1, .int (a2 + (1 : Int32))]) (rest := []) ⟨hx, hb, hml, hown, hg⟩ (c_Specifier_readIndex l G K qt (-1 : Int32) (0 : Int32) (-1 : Int32) (-1 : Int32) (0 : Int32) (0 : Int32) (0 : Int32) (0 : Int32) (0 : Int32) t_last qa1 qa1_cells na1_cells a1_cells a1_used a1_burst (a2 + (1 : Int32)) _ u_50  hu_50) (cwV 2 hg (gV m_153 m_154 m_155 m_114 m_156) rfl rfl rfl (by decide +kernel) ⟨Nat.le_of_ble_eq_true rfl, Nat.le_of_ble_eq_true rfl⟩) ⟨PC_b, va_recv hK hP (ci := 5) (q0 := 0) rfl rfl, PC_p hE hS hAb hP hD⟩ rfl rfl hl.1 rfl (lv_room (Nat.le_of_ble_eq_true rfl)) d_Specifier_readFrom_50 ⟨Nat.zero_le _, Nat.zero_le _⟩) hP hD hS hA (fun H locs hP hD hS => ?_)
  have hP : va_P (gD G) vwCl (w_Specifier_readIndex G qt u_50.2 (0 : Int32) (-1 : Int32) (-1 : Int32) (0 : Int32) (0 : Int32) (0 : Int32) (0 : Int32) (0 : Int32) t_last qa1 qa1_cells na1_cells a1_cells a1_used a1_burst) H := hP
  have hD : va_D A (w_Specifier_readIndex G qt u_50.2 (0 : Int32) (-1 : Int32) (-1 : Int32) (0 : Int32) (0 : Int32) (0 : Int32) (0 : Int32) (0 : Int32) t_last qa1 qa1_cells na1_cells a1_cells a1_used a1_burst) := hD
  refine lv_istore_n (lv' := [(3, .int u_50.1), (0, .ref qt), (1, .ref qa1), (2, .int a2)]) hx hb d_Specifier_readFrom_53 rfl hl (by decide) rfl (fun ls hl => ?_)
  refine lv_aload_n hx hb d_Specifier_readFrom_54 rfl (lv_at hl 1 rfl) ?_
  refine lv_aload_n hx hb d_Specifier_readFrom_55 rfl (lv_at hl 2 rfl) ?_
  refine lv_iload_n hx hb d_Specifier_readFrom_56 rfl (lv_at hl 0 rfl) ?_
  obtain ⟨u_57, hu_57, hf⟩ := bd_ hf
  refine CALLWi (va_runV (As := [.ref qa1, .int u_50.1]) (rest := []) ⟨hx, hb, hml, hown, hg⟩ (c_Specifier_readFlags l G K qt u_50.2 (0 : Int32) (-1 : Int32) (-1 : Int32) (0 : Int32) (0 : Int32) (0 : Int32) (0 : Int32) (0 : Int32) t_last qa1 qa1_cells na1_cells a1_cells a1_used a1_burst u_50.1 _ u_57  hu_57) (cwV 2 hg (gV m_157 m_158 m_159 m_114 m_160) rfl rfl rfl (by decide +kernel) ⟨Nat.le_of_ble_eq_true rfl, Nat.le_of_ble_eq_true rfl⟩) ⟨PC_b, va_recv hK hP (ci := 5) (q0 := 0) rfl rfl, PC_p hE hS hAb hP hD⟩ rfl rfl hl.1 rfl (lv_room (Nat.le_of_ble_eq_true rfl)) d_Specifier_readFrom_57 ⟨Nat.zero_le _, Nat.zero_le _⟩) hP hD hS hA (fun H locs hP hD hS => ?_)
  have hP : va_P (gD G) vwCl (w_Specifier_readIndex G qt u_50.2 u_57.2.1 (-1 : Int32) (-1 : Int32) (0 : Int32) (0 : Int32) (0 : Int32) (0 : Int32) u_57.2.2 t_last qa1 qa1_cells na1_cells a1_cells a1_used a1_burst) H := hP
  have hD : va_D A (w_Specifier_readIndex G qt u_50.2 u_57.2.1 (-1 : Int32) (-1 : Int32) (0 : Int32) (0 : Int32) (0 : Int32) (0 : Int32) u_57.2.2 t_last qa1 qa1_cells na1_cells a1_cells a1_used a1_burst) := hD
  refine lv_istore_n (lv' := [(3, .int u_57.1), (0, .ref qt), (1, .ref qa1), (2, .int a2)]) hx hb d_Specifier_readFrom_60 rfl hl (by decide) rfl (fun ls hl => ?_)
  refine lv_aload_n hx hb d_Specifier_readFrom_61 rfl (lv_at hl 1 rfl) ?_
  refine lv_aload_n hx hb d_Specifier_readFrom_62 rfl (lv_at hl 2 rfl) ?_
  refine lv_iload_n hx hb d_Specifier_readFrom_63 rfl (lv_at hl 0 rfl) ?_
  obtain ⟨u_64, hu_64, hf⟩ := bd_ hf
  refine CALLWi (va_runV (As := [.ref qa1, .int u_57.1]) (rest := []) ⟨hx, hb, hml, hown, hg⟩ (c_Specifier_readWidth l G K qt u_50.2 u_57.2.1 (-1 : Int32) (-1 : Int32) (0 : Int32) (0 : Int32) (0 : Int32) (0 : Int32) u_57.2.2 t_last qa1 qa1_cells na1_cells a1_cells a1_used a1_burst u_57.1 _ u_64  hu_64) (cwV 2 hg (gV m_161 m_162 m_163 m_114 m_164) rfl rfl rfl (by decide +kernel) ⟨Nat.le_of_ble_eq_true rfl, Nat.le_of_ble_eq_true rfl⟩) ⟨PC_b, va_recv hK hP (ci := 5) (q0 := 0) rfl rfl, PC_p hE hS hAb hP hD⟩ rfl rfl hl.1 rfl (lv_room (Nat.le_of_ble_eq_true rfl)) d_Specifier_readFrom_64 ⟨Nat.zero_le _, Nat.zero_le _⟩) hP hD hS hA (fun H locs hP hD hS => ?_)
  have hP : va_P (gD G) vwCl (w_Specifier_readIndex G qt u_50.2 u_57.2.1 u_64.2 (-1 : Int32) (0 : Int32) (0 : Int32) (0 : Int32) (0 : Int32) u_57.2.2 t_last qa1 qa1_cells na1_cells a1_cells a1_used a1_burst) H := hP
  have hD : va_D A (w_Specifier_readIndex G qt u_50.2 u_57.2.1 u_64.2 (-1 : Int32) (0 : Int32) (0 : Int32) (0 : Int32) (0 : Int32) u_57.2.2 t_last qa1 qa1_cells na1_cells a1_cells a1_used a1_burst) := hD
  refine lv_istore_n (lv' := [(3, .int u_64.1), (0, .ref qt), (1, .ref qa1), (2, .int a2)]) hx hb d_Specifier_readFrom_67 rfl hl (by decide) rfl (fun ls hl => ?_)
  refine lv_aload_n hx hb d_Specifier_readFrom_68 rfl (lv_at hl 1 rfl) ?_
  refine lv_aload_n hx hb d_Specifier_readFrom_69 rfl (lv_at hl 2 rfl) ?_
  refine lv_iload_n hx hb d_Specifier_readFrom_70 rfl (lv_at hl 0 rfl) ?_
  obtain ⟨u_71, hu_71, hf⟩ := bd_ hf
  refine CALLWi (va_runV (As := [.ref qa1, .int u_64.1]) (rest := []) ⟨hx, hb, hml, hown, hg⟩ (c_Specifier_readPrecision l G K qt u_50.2 u_57.2.1 u_64.2 (-1 : Int32) (0 : Int32) (0 : Int32) (0 : Int32) (0 : Int32) u_57.2.2 t_last qa1 qa1_cells na1_cells a1_cells a1_used a1_burst u_64.1 _ u_71  hu_71) (cwV 2 hg (gV m_165 m_166 m_167 m_114 m_168) rfl rfl rfl (by decide +kernel) ⟨Nat.le_of_ble_eq_true rfl, Nat.le_of_ble_eq_true rfl⟩) ⟨PC_b, va_recv hK hP (ci := 5) (q0 := 0) rfl rfl, PC_p hE hS hAb hP hD⟩ rfl rfl hl.1 rfl (lv_room (Nat.le_of_ble_eq_true rfl)) d_Specifier_readFrom_71 ⟨Nat.zero_le _, Nat.zero_le _⟩) hP hD hS hA (fun H locs hP hD hS => ?_)
  have hP : va_P (gD G) vwCl (w_Specifier_readIndex G qt u_50.2 u_57.2.1 u_64.2 u_71.2.1 (0 : Int32) (0 : Int32) (0 : Int32) u_71.2.2 u_57.2.2 t_last qa1 qa1_cells na1_cells a1_cells a1_used a1_burst) H := hP
  have hD : va_D A (w_Specifier_readIndex G qt u_50.2 u_57.2.1 u_64.2 u_71.2.1 (0 : Int32) (0 : Int32) (0 : Int32) u_71.2.2 u_57.2.2 t_last qa1 qa1_cells na1_cells a1_cells a1_used a1_burst) := hD
  refine lv_istore_n (lv' := [(3, .int u_71.1), (0, .ref qt), (1, .ref qa1), (2, .int a2)]) hx hb d_Specifier_readFrom_74 rfl hl (by decide) rfl (fun ls hl => ?_)
  refine lv_aload_n hx hb d_Specifier_readFrom_75 rfl (lv_at hl 1 rfl) ?_
  refine lv_aload_n hx hb d_Specifier_readFrom_76 rfl (lv_at hl 2 rfl) ?_
  refine lv_iload_n hx hb d_Specifier_readFrom_77 rfl (lv_at hl 0 rfl) ?_
  obtain ⟨u_78, hu_78, hf⟩ := bd_ hf
  refine CALLWv (va_runV (As := [.ref qa1, .int u_71.1]) (rest := []) ⟨hx, hb, hml, hown, hg⟩ (c_Specifier_readConversion l G K qt u_50.2 u_57.2.1 u_64.2 u_71.2.1 (0 : Int32) (0 : Int32) (0 : Int32) u_71.2.2 u_57.2.2 t_last qa1 qa1_cells na1_cells a1_cells a1_used a1_burst u_71.1 _ u_78  hu_78) (cwV 2 hg (gV m_169 m_170 m_171 m_114 m_172) rfl rfl rfl (by decide +kernel) ⟨Nat.le_of_ble_eq_true rfl, Nat.le_of_ble_eq_true rfl⟩) ⟨PC_b, va_recv hK hP (ci := 5) (q0 := 0) rfl rfl, PC_p hE hS hAb hP hD⟩ rfl rfl hl.1 rfl (lv_room (Nat.le_of_ble_eq_true rfl)) d_Specifier_readFrom_78 ⟨Nat.zero_le _, Nat.zero_le _⟩) hP hD hS hA (fun H locs hP hD hS => ?_)
  have hP : va_P (gD G) vwCl (w_Specifier_readIndex G qt u_50.2 u_57.2.1 u_64.2 u_71.2.1 u_78.1 u_78.2.1 u_78.2.2.1 u_78.2.2.2.1 u_57.2.2 u_78.2.2.2.2 qa1 qa1_cells na1_cells a1_cells a1_used a1_burst) H := hP
  have hD : va_D A (w_Specifier_readIndex G qt u_50.2 u_57.2.1 u_64.2 u_71.2.1 u_78.1 u_78.2.1 u_78.2.2.1 u_78.2.2.2.1 u_57.2.2 u_78.2.2.2.2 qa1 qa1_cells na1_cells a1_cells a1_used a1_burst) := hD
  obtain rfl := Option.some.inj hf
  rw [← hQ]
  exact W.vret hx hb hr (fun t9 ht hW => ⟨⟨(), rfl, trivial, ⟨by rw [ht]; exact hP, hD⟩⟩, hS.F ht⟩) hS.2.2 d_Specifier_readFrom_81
end
section
theorem d_Digits_isZero_0 : decode cd_Digits_isZero 0 = .ok (.aload_n 0, 1) := by decide +kernel
theorem d_Digits_isZero_1 : decode cd_Digits_isZero 1 = .ok (.getfield 42, 3) := by decide +kernel
theorem d_Digits_isZero_4 : decode cd_Digits_isZero 4 = .ok (.ifCond .ne 7, 3) := by decide +kernel
theorem d_Digits_isZero_7 : decode cd_Digits_isZero 7 = .ok (.iconst 1, 1) := by decide +kernel
theorem d_Digits_isZero_8 : decode cd_Digits_isZero 8 = .ok (.goto 4, 3) := by decide +kernel
theorem d_Digits_isZero_11 : decode cd_Digits_isZero 11 = .ok (.iconst 0, 1) := by decide +kernel
theorem d_Digits_isZero_12 : decode cd_Digits_isZero 12 = .ok (.ireturn, 1) := by decide +kernel
theorem m_173 : Cond.fieldLink R_Digits 42 "SpecifierDesk$Digits" "used" "I" ∈ gw := gm (i := 192) (by decide +kernel) (by decide +kernel)
def f_Digits_isZero (t_used : Int32) : Option Int32 :=
  (if t_used = 0 then some (1 : Int32) else some (0 : Int32))
abbrev w_Digits_isZero (G : Gt) (qt : Nat) (qt_limbs : Nat) (t_limbs : Nat → Int32) (qt_cells : Nat) (t_cells : Nat → Int32) (t_used : Int32) (t_lowest : Int32) : va_W := [(qt, .inr (2, [.ref qt_limbs, .ref qt_cells, .int t_used, .int t_lowest])), (qt_limbs, .inl (gC G 1, 16, .inl t_limbs)), (qt_cells, .inl (gC G 0, 208, .inl t_cells))]
set_option maxHeartbeats 4000000 in
set_option maxRecDepth 100000 in
theorem c_Digits_isZero (l : Launch) (G : Gt) (K : Nat) (qt : Nat) (qt_limbs : Nat) (t_limbs : Nat → Int32) (qt_cells : Nat) (t_cells : Nat → Int32) (t_used : Int32) (t_lowest : Int32) (sz : Nat) (res : Int32)   (hf : f_Digits_isZero t_used = some res) : Met l y_Digits_isZero (.code y_Digits_isZero cd_Digits_isZero 1 (some .boolean) :: gw) { frames := 0, cells := 0, slots := 0, locals := 0 } (PC G ([.ref qt] : List Value) sz (w_Digits_isZero G qt qt_limbs t_limbs qt_cells t_cells t_used t_lowest)) (QZ G res (va_A (w_Digits_isZero G qt qt_limbs t_limbs qt_cells t_cells t_used t_lowest) sz) (w_Digits_isZero G qt qt_limbs t_limbs qt_cells t_cells t_used t_lowest)) 0 0 (va_A (w_Digits_isZero G qt qt_limbs t_limbs qt_cells t_cells t_used t_lowest) sz) := by
  refine Met.ofW (cc := cd_Digits_isZero) (maxL := 1) (ret := (some .boolean)) (by decide) rfl ?_
  intro p e s m args below meth c s₁ B hml hv
  obtain ⟨rfl, hsz, hP, hE, hD0⟩ := hv
  have hx := B.exec
  have hb := B.bytes
  have hr := B.returns
  have hts := atoms_spec (ws := (.code y_Digits_isZero cd_Digits_isZero 1 (some .boolean) :: gw)) B.pre
  have hg : ∀ w ∈ gw, w.before _ s = true := fun w h => hts w (List.mem_cons_of_mem _ h)
  have hown : s.vm.findClass R_Digits = some m.cls := findClass_of_methodNamed B.named
  have hlocks := B.notSynchronized
  subst hsz
  have hK := hE.K
  have hD := hD0.self (sz := s.heap.size)
  have hAb := hE.ab hD0
  obtain ⟨Q, hQ⟩ : ∃ Q, MQ below (QZ G res (va_A (w_Digits_isZero G qt qt_limbs t_limbs qt_cells t_cells t_used t_lowest) s.heap.size) (w_Digits_isZero G qt qt_limbs t_limbs qt_cells t_cells t_used t_lowest)) ([.ref qt] : List Value).toArray s 0 0 (va_A (w_Digits_isZero G qt qt_limbs t_limbs qt_cells t_cells t_used t_lowest) s.heap.size) = Q := ⟨_, rfl⟩
  show W p l e { frames := 0, cells := 0, slots := 0, locals := 0 } s m ([.ref qt] : List Value).toArray below meth c s.heap [] 0 0 (MQ below (QZ G res (va_A (w_Digits_isZero G qt qt_limbs t_limbs qt_cells t_cells t_used t_lowest) s.heap.size) (w_Digits_isZero G qt qt_limbs t_limbs qt_cells t_cells t_used t_lowest)) ([.ref qt] : List Value).toArray s 0 0 (va_A (w_Digits_isZero G qt qt_limbs t_limbs qt_cells t_cells t_used t_lowest) s.heap.size)) _
  rw [hQ]
  have hA : ∀ q : Nat, s.heap.size ≤ q → va_A (w_Digits_isZero G qt qt_limbs t_limbs qt_cells t_cells t_used t_lowest) s.heap.size q := fun q h => Or.inr h
  obtain ⟨A, hAe⟩ : ∃ A, va_A (w_Digits_isZero G qt qt_limbs t_limbs qt_cells t_cells t_used t_lowest) s.heap.size = A := ⟨_, rfl⟩
  rw [hAe] at hA hD hAb hQ
  have hS : va_S A s.heap s.heap [] := va_S.rf
  have hl := lv_entry (([.ref qt] : List Value)) (n := 1) (Nat.le_of_ble_eq_true rfl)
  rw [lg_entry_eq]
  generalize (lg_sl (([.ref qt] : List Value)) ++ List.replicate (1 - (lg_sl (([.ref qt] : List Value))).length) Slot.unset).toArray = ls at hl ⊢
  have hl : lv_has ls 1 [(0, .ref qt)] := hl
  unfold f_Digits_isZero at hf
  refine lv_aload_n hx hb d_Digits_isZero_0 rfl (lv_at hl 0 rfl) ?_
  refine va_get (D := gD G) (ci := 2) (v := .int t_used) (C := R_Digits) (T := F_Digits) (N := 4) hx hb hg in_Digits hown hK hP 0 rfl rfl 2 (by decide) (hg _ m_173) (fun _ h9 => h9) rfl d_Digits_isZero_1 ?_
  refine lv_if_ne (tgt := 11) hx hb d_Digits_isZero_4 (by decide) (fun c_4 => ?_) (fun c_4 => ?_)
  · have hf := in_ c_4 hf
    refine lv_iconst (v := 0) hx hb d_Digits_isZero_11 (by decide) ?_
    obtain rfl := Option.some.inj hf
    rw [← hQ]
    exact W.zret (v := (0 : Int32)) hx hb hr (bl_n bl_0) (fun t9 ht hW => ⟨⟨(0 : Int32), (), rfl, ⟨rfl, bl_0⟩, ⟨by rw [ht]; exact hP, hD⟩⟩, hS.F ht⟩) hS.2.2 d_Digits_isZero_12
  · have hf := ip_ c_4 hf
    refine lv_iconst (v := 1) hx hb d_Digits_isZero_7 (by decide) ?_
    refine lv_goto (tgt := 12) hx hb d_Digits_isZero_8 (by decide) ?_
    obtain rfl := Option.some.inj hf
    rw [← hQ]
    exact W.zret (v := (1 : Int32)) hx hb hr (bl_n bl_1) (fun t9 ht hW => ⟨⟨(1 : Int32), (), rfl, ⟨rfl, bl_1⟩, ⟨by rw [ht]; exact hP, hD⟩⟩, hS.F ht⟩) hS.2.2 d_Digits_isZero_12
theorem d_Digits_first_0 : decode cd_Digits_first 0 = .ok (.aload_n 0, 1) := by decide +kernel
theorem d_Digits_first_1 : decode cd_Digits_first 1 = .ok (.getfield 42, 3) := by decide +kernel
theorem d_Digits_first_4 : decode cd_Digits_first 4 = .ok (.ifCond .ne 7, 3) := by decide +kernel
theorem d_Digits_first_7 : decode cd_Digits_first 7 = .ok (.iconst 0, 1) := by decide +kernel
theorem d_Digits_first_8 : decode cd_Digits_first 8 = .ok (.goto 14, 3) := by decide +kernel
theorem d_Digits_first_11 : decode cd_Digits_first 11 = .ok (.aload_n 0, 1) := by decide +kernel
theorem d_Digits_first_12 : decode cd_Digits_first 12 = .ok (.getfield 35, 3) := by decide +kernel
theorem d_Digits_first_15 : decode cd_Digits_first 15 = .ok (.aload_n 0, 1) := by decide +kernel
theorem d_Digits_first_16 : decode cd_Digits_first 16 = .ok (.getfield 42, 3) := by decide +kernel
theorem d_Digits_first_19 : decode cd_Digits_first 19 = .ok (.iadd, 1) := by decide +kernel
theorem d_Digits_first_20 : decode cd_Digits_first 20 = .ok (.iconst 1, 1) := by decide +kernel
theorem d_Digits_first_21 : decode cd_Digits_first 21 = .ok (.isub, 1) := by decide +kernel
theorem d_Digits_first_22 : decode cd_Digits_first 22 = .ok (.ireturn, 1) := by decide +kernel
theorem m_174 : Cond.fieldLink R_Digits 35 "SpecifierDesk$Digits" "lowest" "I" ∈ gw := gm (i := 193) (by decide +kernel) (by decide +kernel)
def f_Digits_first (t_used : Int32) (t_lowest : Int32) : Option Int32 :=
  (if t_used = 0 then some (0 : Int32) else some ((t_lowest + t_used) - (1 : Int32)))
set_option maxHeartbeats 4000000 in
set_option maxRecDepth 100000 in
theorem c_Digits_first (l : Launch) (G : Gt) (K : Nat) (qt : Nat) (qt_limbs : Nat) (t_limbs : Nat → Int32) (qt_cells : Nat) (t_cells : Nat → Int32) (t_used : Int32) (t_lowest : Int32) (sz : Nat) (res : Int32)   (hf : f_Digits_first t_used t_lowest = some res) : Met l y_Digits_first (.code y_Digits_first cd_Digits_first 1 (some .int) :: gw) { frames := 0, cells := 0, slots := 0, locals := 0 } (PC G ([.ref qt] : List Value) sz (w_Digits_isZero G qt qt_limbs t_limbs qt_cells t_cells t_used t_lowest)) (QI G res (va_A (w_Digits_isZero G qt qt_limbs t_limbs qt_cells t_cells t_used t_lowest) sz) (w_Digits_isZero G qt qt_limbs t_limbs qt_cells t_cells t_used t_lowest)) 0 0 (va_A (w_Digits_isZero G qt qt_limbs t_limbs qt_cells t_cells t_used t_lowest) sz) := by
  refine Met.ofW (cc := cd_Digits_first) (maxL := 1) (ret := (some .int)) (by decide) rfl ?_
  intro p e s m args below meth c s₁ B hml hv
  obtain ⟨rfl, hsz, hP, hE, hD0⟩ := hv
  have hx := B.exec
  have hb := B.bytes
  have hr := B.returns
  have hts := atoms_spec (ws := (.code y_Digits_first cd_Digits_first 1 (some .int) :: gw)) B.pre
  have hg : ∀ w ∈ gw, w.before _ s = true := fun w h => hts w (List.mem_cons_of_mem _ h)
  have hown : s.vm.findClass R_Digits = some m.cls := findClass_of_methodNamed B.named
  have hlocks := B.notSynchronized
  subst hsz
  have hK := hE.K
  have hD := hD0.self (sz := s.heap.size)
  have hAb := hE.ab hD0
  obtain ⟨Q, hQ⟩ : ∃ Q, MQ below (QI G res (va_A (w_Digits_isZero G qt qt_limbs t_limbs qt_cells t_cells t_used t_lowest) s.heap.size) (w_Digits_isZero G qt qt_limbs t_limbs qt_cells t_cells t_used t_lowest)) ([.ref qt] : List Value).toArray s 0 0 (va_A (w_Digits_isZero G qt qt_limbs t_limbs qt_cells t_cells t_used t_lowest) s.heap.size) = Q := ⟨_, rfl⟩
  show W p l e { frames := 0, cells := 0, slots := 0, locals := 0 } s m ([.ref qt] : List Value).toArray below meth c s.heap [] 0 0 (MQ below (QI G res (va_A (w_Digits_isZero G qt qt_limbs t_limbs qt_cells t_cells t_used t_lowest) s.heap.size) (w_Digits_isZero G qt qt_limbs t_limbs qt_cells t_cells t_used t_lowest)) ([.ref qt] : List Value).toArray s 0 0 (va_A (w_Digits_isZero G qt qt_limbs t_limbs qt_cells t_cells t_used t_lowest) s.heap.size)) _
  rw [hQ]
  have hA : ∀ q : Nat, s.heap.size ≤ q → va_A (w_Digits_isZero G qt qt_limbs t_limbs qt_cells t_cells t_used t_lowest) s.heap.size q := fun q h => Or.inr h
  obtain ⟨A, hAe⟩ : ∃ A, va_A (w_Digits_isZero G qt qt_limbs t_limbs qt_cells t_cells t_used t_lowest) s.heap.size = A := ⟨_, rfl⟩
  rw [hAe] at hA hD hAb hQ
  have hS : va_S A s.heap s.heap [] := va_S.rf
  have hl := lv_entry (([.ref qt] : List Value)) (n := 1) (Nat.le_of_ble_eq_true rfl)
  rw [lg_entry_eq]
  generalize (lg_sl (([.ref qt] : List Value)) ++ List.replicate (1 - (lg_sl (([.ref qt] : List Value))).length) Slot.unset).toArray = ls at hl ⊢
  have hl : lv_has ls 1 [(0, .ref qt)] := hl
  unfold f_Digits_first at hf
  refine lv_aload_n hx hb d_Digits_first_0 rfl (lv_at hl 0 rfl) ?_
  refine va_get (D := gD G) (ci := 2) (v := .int t_used) (C := R_Digits) (T := F_Digits) (N := 4) hx hb hg in_Digits hown hK hP 0 rfl rfl 2 (by decide) (hg _ m_173) (fun _ h9 => h9) rfl d_Digits_first_1 ?_
  refine lv_if_ne (tgt := 11) hx hb d_Digits_first_4 (by decide) (fun c_4 => ?_) (fun c_4 => ?_)
  · have hf := in_ c_4 hf
    refine lv_aload_n hx hb d_Digits_first_11 rfl (lv_at hl 0 rfl) ?_
    refine va_get (D := gD G) (ci := 2) (v := .int t_lowest) (C := R_Digits) (T := F_Digits) (N := 4) hx hb hg in_Digits hown hK hP 0 rfl rfl 3 (by decide) (hg _ m_174) (fun _ h9 => h9) rfl d_Digits_first_12 ?_
    refine lv_aload_n hx hb d_Digits_first_15 rfl (lv_at hl 0 rfl) ?_
    refine va_get (D := gD G) (ci := 2) (v := .int t_used) (C := R_Digits) (T := F_Digits) (N := 4) hx hb hg in_Digits hown hK hP 0 rfl rfl 2 (by decide) (hg _ m_173) (fun _ h9 => h9) rfl d_Digits_first_16 ?_
    refine lv_iadd hx hb d_Digits_first_19 ?_
    refine lv_iconst (v := 1) hx hb d_Digits_first_20 (by decide) ?_
    refine lv_isub hx hb d_Digits_first_21 ?_
    obtain rfl := Option.some.inj hf
    rw [← hQ]
    exact W.iret (v := ((t_lowest + t_used) - (1 : Int32))) hx hb hr (fun t9 ht hW => ⟨⟨((t_lowest + t_used) - (1 : Int32)), (), rfl, rfl, ⟨by rw [ht]; exact hP, hD⟩⟩, hS.F ht⟩) hS.2.2 d_Digits_first_22
  · have hf := ip_ c_4 hf
    refine lv_iconst (v := 0) hx hb d_Digits_first_7 (by decide) ?_
    refine lv_goto (tgt := 22) hx hb d_Digits_first_8 (by decide) ?_
    obtain rfl := Option.some.inj hf
    rw [← hQ]
    exact W.iret (v := (0 : Int32)) hx hb hr (fun t9 ht hW => ⟨⟨(0 : Int32), (), rfl, rfl, ⟨by rw [ht]; exact hP, hD⟩⟩, hS.F ht⟩) hS.2.2 d_Digits_first_22
theorem d_Digits_lastNotZero_0 : decode cd_Digits_lastNotZero 0 = .ok (.iconst 0, 1) := by decide +kernel
theorem d_Digits_lastNotZero_1 : decode cd_Digits_lastNotZero 1 = .ok (.istore_n 1, 1) := by decide +kernel
theorem d_Digits_lastNotZero_2 : decode cd_Digits_lastNotZero 2 = .ok (.iload_n 1, 1) := by decide +kernel
theorem d_Digits_lastNotZero_3 : decode cd_Digits_lastNotZero 3 = .ok (.aload_n 0, 1) := by decide +kernel
theorem d_Digits_lastNotZero_4 : decode cd_Digits_lastNotZero 4 = .ok (.getfield 42, 3) := by decide +kernel
theorem d_Digits_lastNotZero_7 : decode cd_Digits_lastNotZero 7 = .ok (.if_icmp .ge 25, 3) := by decide +kernel
theorem d_Digits_lastNotZero_10 : decode cd_Digits_lastNotZero 10 = .ok (.aload_n 0, 1) := by decide +kernel
theorem d_Digits_lastNotZero_11 : decode cd_Digits_lastNotZero 11 = .ok (.getfield 13, 3) := by decide +kernel
theorem d_Digits_lastNotZero_14 : decode cd_Digits_lastNotZero 14 = .ok (.iload_n 1, 1) := by decide +kernel
theorem d_Digits_lastNotZero_15 : decode cd_Digits_lastNotZero 15 = .ok (.baload, 1) := by decide +kernel
theorem d_Digits_lastNotZero_16 : decode cd_Digits_lastNotZero 16 = .ok (.ifCond .eq 10, 3) := by decide +kernel
theorem d_Digits_lastNotZero_19 : decode cd_Digits_lastNotZero 19 = .ok (.aload_n 0, 1) := by decide +kernel
theorem d_Digits_lastNotZero_20 : decode cd_Digits_lastNotZero 20 = .ok (.getfield 35, 3) := by decide +kernel
theorem d_Digits_lastNotZero_23 : decode cd_Digits_lastNotZero 23 = .ok (.iload_n 1, 1) := by decide +kernel
theorem d_Digits_lastNotZero_24 : decode cd_Digits_lastNotZero 24 = .ok (.iadd, 1) := by decide +kernel
theorem d_Digits_lastNotZero_25 : decode cd_Digits_lastNotZero 25 = .ok (.ireturn, 1) := by decide +kernel
theorem d_Digits_lastNotZero_26 : decode cd_Digits_lastNotZero 26 = .ok (.iinc 1 1, 3) := by decide +kernel
theorem d_Digits_lastNotZero_29 : decode cd_Digits_lastNotZero 29 = .ok (.goto (-27), 3) := by decide +kernel
theorem d_Digits_lastNotZero_32 : decode cd_Digits_lastNotZero 32 = .ok (.iconst 0, 1) := by decide +kernel
theorem d_Digits_lastNotZero_33 : decode cd_Digits_lastNotZero 33 = .ok (.ireturn, 1) := by decide +kernel
theorem m_175 : Cond.fieldLink R_Digits 13 "SpecifierDesk$Digits" "cells" "[B" ∈ gw := gm (i := 191) (by decide +kernel) (by decide +kernel)
def b_Digits_lastNotZero_2 (t_cells : Nat → Int32) (t_used : Int32) (t_lowest : Int32)  (rec_2 : Int32 → Option Int32) (z2 : Int32) : Option Int32 :=
  (if t_used ≤ z2 then some (0 : Int32) else (if inB z2 208 = true then (if (t_cells z2.toNatClampNeg) = 0 then rec_2 (z2 + 1) else some (t_lowest + z2)) else none))
def f_Digits_lastNotZero (K : Nat) (t_cells : Nat → Int32) (t_used : Int32) (t_lowest : Int32) : Option Int32 :=
  lp_ (b_Digits_lastNotZero_2 t_cells t_used t_lowest ) K (0 : Int32)
set_option maxHeartbeats 4000000 in
set_option maxRecDepth 100000 in
theorem c_Digits_lastNotZero (l : Launch) (G : Gt) (K : Nat) (qt : Nat) (qt_limbs : Nat) (t_limbs : Nat → Int32) (qt_cells : Nat) (t_cells : Nat → Int32) (t_used : Int32) (t_lowest : Int32) (sz : Nat) (res : Int32)   (hf : f_Digits_lastNotZero K t_cells t_used t_lowest = some res) : Met l y_Digits_lastNotZero (.code y_Digits_lastNotZero cd_Digits_lastNotZero 2 (some .int) :: gw) { frames := 0, cells := 0, slots := 0, locals := 0 } (PC G ([.ref qt] : List Value) sz (w_Digits_isZero G qt qt_limbs t_limbs qt_cells t_cells t_used t_lowest)) (QI G res (va_A (w_Digits_isZero G qt qt_limbs t_limbs qt_cells t_cells t_used t_lowest) sz) (w_Digits_isZero G qt qt_limbs t_limbs qt_cells t_cells t_used t_lowest)) 0 0 (va_A (w_Digits_isZero G qt qt_limbs t_limbs qt_cells t_cells t_used t_lowest) sz) := by
  refine Met.ofW (cc := cd_Digits_lastNotZero) (maxL := 2) (ret := (some .int)) (by decide) rfl ?_
  intro p e s m args below meth c s₁ B hml hv
  obtain ⟨rfl, hsz, hP, hE, hD0⟩ := hv
  have hx := B.exec
  have hb := B.bytes
  have hr := B.returns
  have hts := atoms_spec (ws := (.code y_Digits_lastNotZero cd_Digits_lastNotZero 2 (some .int) :: gw)) B.pre
  have hg : ∀ w ∈ gw, w.before _ s = true := fun w h => hts w (List.mem_cons_of_mem _ h)
  have hown : s.vm.findClass R_Digits = some m.cls := findClass_of_methodNamed B.named
  have hlocks := B.notSynchronized
  subst hsz
  have hK := hE.K
  have hD := hD0.self (sz := s.heap.size)
  have hAb := hE.ab hD0
  obtain ⟨Q, hQ⟩ : ∃ Q, MQ below (QI G res (va_A (w_Digits_isZero G qt qt_limbs t_limbs qt_cells t_cells t_used t_lowest) s.heap.size) (w_Digits_isZero G qt qt_limbs t_limbs qt_cells t_cells t_used t_lowest)) ([.ref qt] : List Value).toArray s 0 0 (va_A (w_Digits_isZero G qt qt_limbs t_limbs qt_cells t_cells t_used t_lowest) s.heap.size) = Q := ⟨_, rfl⟩
  show W p l e { frames := 0, cells := 0, slots := 0, locals := 0 } s m ([.ref qt] : List Value).toArray below meth c s.heap [] 0 0 (MQ below (QI G res (va_A (w_Digits_isZero G qt qt_limbs t_limbs qt_cells t_cells t_used t_lowest) s.heap.size) (w_Digits_isZero G qt qt_limbs t_limbs qt_cells t_cells t_used t_lowest)) ([.ref qt] : List Value).toArray s 0 0 (va_A (w_Digits_isZero G qt qt_limbs t_limbs qt_cells t_cells t_used t_lowest) s.heap.size)) _
  rw [hQ]
  have hA : ∀ q : Nat, s.heap.size ≤ q → va_A (w_Digits_isZero G qt qt_limbs t_limbs qt_cells t_cells t_used t_lowest) s.heap.size q := fun q h => Or.inr h
  obtain ⟨A, hAe⟩ : ∃ A, va_A (w_Digits_isZero G qt qt_limbs t_limbs qt_cells t_cells t_used t_lowest) s.heap.size = A := ⟨_, rfl⟩
  rw [hAe] at hA hD hAb hQ
  have hS : va_S A s.heap s.heap [] := va_S.rf
  have hl := lv_entry (([.ref qt] : List Value)) (n := 2) (Nat.le_of_ble_eq_true rfl)
  rw [lg_entry_eq]
  generalize (lg_sl (([.ref qt] : List Value)) ++ List.replicate (2 - (lg_sl (([.ref qt] : List Value))).length) Slot.unset).toArray = ls at hl ⊢
  have hl : lv_has ls 2 [(0, .ref qt)] := hl
  have W_2 : ∀   (n_2 : Nat) (z2 : Int32) , lp_ (b_Digits_lastNotZero_2 t_cells t_used t_lowest ) n_2 z2 = some res → ∀ (H : Heap) (locs : List Loc) (ls : Array Slot), va_P (gD G) vwCl (w_Digits_isZero G qt qt_limbs t_limbs qt_cells t_cells t_used t_lowest) H → va_D A (w_Digits_isZero G qt qt_limbs t_limbs qt_cells t_cells t_used t_lowest) → va_S A s.heap H locs → lv_has ls 2 [(0, .ref qt), (1, .int z2)] → W p l e { frames := 0, cells := 0, slots := 0, locals := 0 } s m ([.ref qt] : List Value).toArray below meth c H locs 0 0 Q (F0 m 2 ls []) := by
    intro  n_2
    induction n_2 with
    | zero =>
      intro z2  hf
      cases hf
    | succ n_2 ih_2 =>
      intro z2  hf H locs ls hP hD hS hl
      have hf : b_Digits_lastNotZero_2 t_cells t_used t_lowest  (lp_ (b_Digits_lastNotZero_2 t_cells t_used t_lowest ) n_2) z2 = some res := hf
      generalize lp_ (b_Digits_lastNotZero_2 t_cells t_used t_lowest ) n_2 = rec_2 at hf ih_2
      unfold b_Digits_lastNotZero_2 at hf
      refine lv_iload_n hx hb d_Digits_lastNotZero_2 rfl (lv_at hl 1 rfl) ?_
      refine lv_aload_n hx hb d_Digits_lastNotZero_3 rfl (lv_at hl 0 rfl) ?_
      refine va_get (D := gD G) (ci := 2) (v := .int t_used) (C := R_Digits) (T := F_Digits) (N := 4) hx hb hg in_Digits hown hK hP 0 rfl rfl 2 (by decide) (hg _ m_173) (fun _ h9 => h9) rfl d_Digits_lastNotZero_4 ?_
      refine lv_icmp_ge (tgt := 32) hx hb d_Digits_lastNotZero_7 (by decide) (fun c_7 => ?_) (fun c_7 => ?_)
      · have hf := ip_ c_7 hf
        refine lv_iconst (v := 0) hx hb d_Digits_lastNotZero_32 (by decide) ?_
        obtain rfl := Option.some.inj hf
        rw [← hQ]
        exact W.iret (v := (0 : Int32)) hx hb hr (fun t9 ht hW => ⟨⟨(0 : Int32), (), rfl, rfl, ⟨by rw [ht]; exact hP, hD⟩⟩, hS.F ht⟩) hS.2.2 d_Digits_lastNotZero_33
      · have hf := in_ c_7 hf
        refine lv_aload_n hx hb d_Digits_lastNotZero_10 rfl (lv_at hl 0 rfl) ?_
        refine va_get (D := gD G) (ci := 2) (v := .ref qt_cells) (C := R_Digits) (T := F_Digits) (N := 4) hx hb hg in_Digits hown hK hP 0 rfl rfl 1 (by decide) (hg _ m_175) (fun _ h9 => h9) rfl d_Digits_lastNotZero_11 ?_
        refine lv_iload_n hx hb d_Digits_lastNotZero_14 rfl (lv_at hl 1 rfl) ?_
        obtain ⟨g_15, hf⟩ := gd_ hf
        refine va_bald hx hb hK hP 2 0 rfl rfl (inB_in g_15) d_Digits_lastNotZero_15 ?_
        refine lv_if_eq (tgt := 26) hx hb d_Digits_lastNotZero_16 (by decide) (fun c_16 => ?_) (fun c_16 => ?_)
        · have hf := ip_ c_16 hf
          refine lv_iinc (v := (z2 + 1)) (lv' := [(1, .int (z2 + 1)), (0, .ref qt)]) hx hb d_Digits_lastNotZero_26 hl (k := 1) rfl rfl (by decide) rfl (fun ls hl => ?_)
          refine lv_goto (tgt := 2) hx hb d_Digits_lastNotZero_29 (by decide) ?_
          exact ih_2 (z2 + 1)  hf _ _ _ hP hD hS (lv_sub hl [1, 0] rfl)
        · have hf := in_ c_16 hf
          refine lv_aload_n hx hb d_Digits_lastNotZero_19 rfl (lv_at hl 0 rfl) ?_
          refine va_get (D := gD G) (ci := 2) (v := .int t_lowest) (C := R_Digits) (T := F_Digits) (N := 4) hx hb hg in_Digits hown hK hP 0 rfl rfl 3 (by decide) (hg _ m_174) (fun _ h9 => h9) rfl d_Digits_lastNotZero_20 ?_
          refine lv_iload_n hx hb d_Digits_lastNotZero_23 rfl (lv_at hl 1 rfl) ?_
          refine lv_iadd hx hb d_Digits_lastNotZero_24 ?_
          obtain rfl := Option.some.inj hf
          rw [← hQ]
          exact W.iret (v := (t_lowest + z2)) hx hb hr (fun t9 ht hW => ⟨⟨(t_lowest + z2), (), rfl, rfl, ⟨by rw [ht]; exact hP, hD⟩⟩, hS.F ht⟩) hS.2.2 d_Digits_lastNotZero_25
  unfold f_Digits_lastNotZero at hf
  refine lv_iconst (v := 0) hx hb d_Digits_lastNotZero_0 (by decide) ?_
  refine lv_istore_n (lv' := [(1, .int (0 : Int32)), (0, .ref qt)]) hx hb d_Digits_lastNotZero_1 rfl hl (by decide) rfl (fun ls hl => ?_)
  exact W_2   K (0 : Int32)  hf _ _ _ hP hD hS (lv_sub hl [1, 0] rfl)
theorem d_Digits_at_0 : decode cd_Digits_at 0 = .ok (.iload_n 1, 1) := by decide +kernel
theorem d_Digits_at_1 : decode cd_Digits_at 1 = .ok (.aload_n 0, 1) := by decide +kernel
theorem d_Digits_at_2 : decode cd_Digits_at 2 = .ok (.getfield 35, 3) := by decide +kernel
theorem d_Digits_at_5 : decode cd_Digits_at 5 = .ok (.isub, 1) := by decide +kernel
theorem d_Digits_at_6 : decode cd_Digits_at 6 = .ok (.istore_n 2, 1) := by decide +kernel
theorem d_Digits_at_7 : decode cd_Digits_at 7 = .ok (.iload_n 2, 1) := by decide +kernel
theorem d_Digits_at_8 : decode cd_Digits_at 8 = .ok (.ifCond .lt 27, 3) := by decide +kernel
theorem d_Digits_at_11 : decode cd_Digits_at 11 = .ok (.iload_n 2, 1) := by decide +kernel
theorem d_Digits_at_12 : decode cd_Digits_at 12 = .ok (.aload_n 0, 1) := by decide +kernel
theorem d_Digits_at_13 : decode cd_Digits_at 13 = .ok (.getfield 42, 3) := by decide +kernel
theorem d_Digits_at_16 : decode cd_Digits_at 16 = .ok (.if_icmp .ge 19, 3) := by decide +kernel
theorem d_Digits_at_19 : decode cd_Digits_at 19 = .ok (.iload_n 2, 1) := by decide +kernel
theorem d_Digits_at_20 : decode cd_Digits_at 20 = .ok (.sipush 208, 3) := by decide +kernel
theorem d_Digits_at_23 : decode cd_Digits_at 23 = .ok (.if_icmp .ge 12, 3) := by decide +kernel
theorem d_Digits_at_26 : decode cd_Digits_at 26 = .ok (.aload_n 0, 1) := by decide +kernel
theorem d_Digits_at_27 : decode cd_Digits_at 27 = .ok (.getfield 13, 3) := by decide +kernel
theorem d_Digits_at_30 : decode cd_Digits_at 30 = .ok (.iload_n 2, 1) := by decide +kernel
theorem d_Digits_at_31 : decode cd_Digits_at 31 = .ok (.baload, 1) := by decide +kernel
theorem d_Digits_at_32 : decode cd_Digits_at 32 = .ok (.goto 4, 3) := by decide +kernel
theorem d_Digits_at_35 : decode cd_Digits_at 35 = .ok (.iconst 0, 1) := by decide +kernel
theorem d_Digits_at_36 : decode cd_Digits_at 36 = .ok (.ireturn, 1) := by decide +kernel
def f_Digits_at (t_cells : Nat → Int32) (t_used : Int32) (t_lowest : Int32) (a1 : Int32) : Option Int32 :=
  (if (a1 - t_lowest) < 0 then some (0 : Int32) else (if t_used ≤ (a1 - t_lowest) then some (0 : Int32) else (if (208 : Int32) ≤ (a1 - t_lowest) then some (0 : Int32) else (if inB (a1 - t_lowest) 208 = true then some (t_cells (a1 - t_lowest).toNatClampNeg) else none))))
set_option maxHeartbeats 4000000 in
set_option maxRecDepth 100000 in
theorem c_Digits_at (l : Launch) (G : Gt) (K : Nat) (qt : Nat) (qt_limbs : Nat) (t_limbs : Nat → Int32) (qt_cells : Nat) (t_cells : Nat → Int32) (t_used : Int32) (t_lowest : Int32) (a1 : Int32) (sz : Nat) (res : Int32)   (hf : f_Digits_at t_cells t_used t_lowest a1 = some res) : Met l y_Digits_at (.code y_Digits_at cd_Digits_at 3 (some .int) :: gw) { frames := 0, cells := 0, slots := 0, locals := 0 } (PC G ([.ref qt, .int a1] : List Value) sz (w_Digits_isZero G qt qt_limbs t_limbs qt_cells t_cells t_used t_lowest)) (QI G res (va_A (w_Digits_isZero G qt qt_limbs t_limbs qt_cells t_cells t_used t_lowest) sz) (w_Digits_isZero G qt qt_limbs t_limbs qt_cells t_cells t_used t_lowest)) 0 0 (va_A (w_Digits_isZero G qt qt_limbs t_limbs qt_cells t_cells t_used t_lowest) sz) := by
  refine Met.ofW (cc := cd_Digits_at) (maxL := 3) (ret := (some .int)) (by decide) rfl ?_
  intro p e s m args below meth c s₁ B hml hv
  obtain ⟨rfl, hsz, hP, hE, hD0⟩ := hv
  have hx := B.exec
  have hb := B.bytes
  have hr := B.returns
  have hts := atoms_spec (ws := (.code y_Digits_at cd_Digits_at 3 (some .int) :: gw)) B.pre
  have hg : ∀ w ∈ gw, w.before _ s = true := fun w h => hts w (List.mem_cons_of_mem _ h)
  have hown : s.vm.findClass R_Digits = some m.cls := findClass_of_methodNamed B.named
  have hlocks := B.notSynchronized
  subst hsz
  have hK := hE.K
  have hD := hD0.self (sz := s.heap.size)
  have hAb := hE.ab hD0
  obtain ⟨Q, hQ⟩ : ∃ Q, MQ below (QI G res (va_A (w_Digits_isZero G qt qt_limbs t_limbs qt_cells t_cells t_used t_lowest) s.heap.size) (w_Digits_isZero G qt qt_limbs t_limbs qt_cells t_cells t_used t_lowest)) ([.ref qt, .int a1] : List Value).toArray s 0 0 (va_A (w_Digits_isZero G qt qt_limbs t_limbs qt_cells t_cells t_used t_lowest) s.heap.size) = Q := ⟨_, rfl⟩
  show W p l e { frames := 0, cells := 0, slots := 0, locals := 0 } s m ([.ref qt, .int a1] : List Value).toArray below meth c s.heap [] 0 0 (MQ below (QI G res (va_A (w_Digits_isZero G qt qt_limbs t_limbs qt_cells t_cells t_used t_lowest) s.heap.size) (w_Digits_isZero G qt qt_limbs t_limbs qt_cells t_cells t_used t_lowest)) ([.ref qt, .int a1] : List Value).toArray s 0 0 (va_A (w_Digits_isZero G qt qt_limbs t_limbs qt_cells t_cells t_used t_lowest) s.heap.size)) _
  rw [hQ]
  have hA : ∀ q : Nat, s.heap.size ≤ q → va_A (w_Digits_isZero G qt qt_limbs t_limbs qt_cells t_cells t_used t_lowest) s.heap.size q := fun q h => Or.inr h
  obtain ⟨A, hAe⟩ : ∃ A, va_A (w_Digits_isZero G qt qt_limbs t_limbs qt_cells t_cells t_used t_lowest) s.heap.size = A := ⟨_, rfl⟩
  rw [hAe] at hA hD hAb hQ
  have hS : va_S A s.heap s.heap [] := va_S.rf
  have hl := lv_entry (([.ref qt, .int a1] : List Value)) (n := 3) (Nat.le_of_ble_eq_true rfl)
  rw [lg_entry_eq]
  generalize (lg_sl (([.ref qt, .int a1] : List Value)) ++ List.replicate (3 - (lg_sl (([.ref qt, .int a1] : List Value))).length) Slot.unset).toArray = ls at hl ⊢
  have hl : lv_has ls 3 [(0, .ref qt), (1, .int a1)] := hl
  unfold f_Digits_at at hf
  refine lv_iload_n hx hb d_Digits_at_0 rfl (lv_at hl 1 rfl) ?_
  refine lv_aload_n hx hb d_Digits_at_1 rfl (lv_at hl 0 rfl) ?_
  refine va_get (D := gD G) (ci := 2) (v := .int t_lowest) (C := R_Digits) (T := F_Digits) (N := 4) hx hb hg in_Digits hown hK hP 0 rfl rfl 3 (by decide) (hg _ m_174) (fun _ h9 => h9) rfl d_Digits_at_2 ?_
  refine lv_isub hx hb d_Digits_at_5 ?_
  refine lv_istore_n (lv' := [(2, .int (a1 - t_lowest)), (0, .ref qt), (1, .int a1)]) hx hb d_Digits_at_6 rfl hl (by decide) rfl (fun ls hl => ?_)
  refine lv_iload_n hx hb d_Digits_at_7 rfl (lv_at hl 0 rfl) ?_
  refine lv_if_lt (tgt := 35) hx hb d_Digits_at_8 (by decide) (fun c_8 => ?_) (fun c_8 => ?_)
  · have hf := ip_ c_8 hf
    refine lv_iconst (v := 0) hx hb d_Digits_at_35 (by decide) ?_
    obtain rfl := Option.some.inj hf
    rw [← hQ]
    exact W.iret (v := (0 : Int32)) hx hb hr (fun t9 ht hW => ⟨⟨(0 : Int32), (), rfl, rfl, ⟨by rw [ht]; exact hP, hD⟩⟩, hS.F ht⟩) hS.2.2 d_Digits_at_36
  · have hf := in_ c_8 hf
    refine lv_iload_n hx hb d_Digits_at_11 rfl (lv_at hl 0 rfl) ?_
    refine lv_aload_n hx hb d_Digits_at_12 rfl (lv_at hl 1 rfl) ?_
    refine va_get (D := gD G) (ci := 2) (v := .int t_used) (C := R_Digits) (T := F_Digits) (N := 4) hx hb hg in_Digits hown hK hP 0 rfl rfl 2 (by decide) (hg _ m_173) (fun _ h9 => h9) rfl d_Digits_at_13 ?_
    refine lv_icmp_ge (tgt := 35) hx hb d_Digits_at_16 (by decide) (fun c_16 => ?_) (fun c_16 => ?_)
    · have hf := ip_ c_16 hf
      refine lv_iconst (v := 0) hx hb d_Digits_at_35 (by decide) ?_
      obtain rfl := Option.some.inj hf
      rw [← hQ]
      exact W.iret (v := (0 : Int32)) hx hb hr (fun t9 ht hW => ⟨⟨(0 : Int32), (), rfl, rfl, ⟨by rw [ht]; exact hP, hD⟩⟩, hS.F ht⟩) hS.2.2 d_Digits_at_36
    · have hf := in_ c_16 hf
      refine lv_iload_n hx hb d_Digits_at_19 rfl (lv_at hl 0 rfl) ?_
      refine lv_sipush (v := 208) hx hb d_Digits_at_20 (by decide) ?_
      refine lv_icmp_ge (tgt := 35) hx hb d_Digits_at_23 (by decide) (fun c_23 => ?_) (fun c_23 => ?_)
      · have hf := ip_ c_23 hf
        refine lv_iconst (v := 0) hx hb d_Digits_at_35 (by decide) ?_
        obtain rfl := Option.some.inj hf
        rw [← hQ]
        exact W.iret (v := (0 : Int32)) hx hb hr (fun t9 ht hW => ⟨⟨(0 : Int32), (), rfl, rfl, ⟨by rw [ht]; exact hP, hD⟩⟩, hS.F ht⟩) hS.2.2 d_Digits_at_36
      · have hf := in_ c_23 hf
        refine lv_aload_n hx hb d_Digits_at_26 rfl (lv_at hl 1 rfl) ?_
        refine va_get (D := gD G) (ci := 2) (v := .ref qt_cells) (C := R_Digits) (T := F_Digits) (N := 4) hx hb hg in_Digits hown hK hP 0 rfl rfl 1 (by decide) (hg _ m_175) (fun _ h9 => h9) rfl d_Digits_at_27 ?_
        refine lv_iload_n hx hb d_Digits_at_30 rfl (lv_at hl 0 rfl) ?_
        obtain ⟨g_31, hf⟩ := gd_ hf
        refine va_bald hx hb hK hP 2 0 rfl rfl (inB_in g_31) d_Digits_at_31 ?_
        refine lv_goto (tgt := 36) hx hb d_Digits_at_32 (by decide) ?_
        obtain rfl := Option.some.inj hf
        rw [← hQ]
        exact W.iret (v := (t_cells (a1 - t_lowest).toNatClampNeg)) hx hb hr (fun t9 ht hW => ⟨⟨(t_cells (a1 - t_lowest).toNatClampNeg), (), rfl, rfl, ⟨by rw [ht]; exact hP, hD⟩⟩, hS.F ht⟩) hS.2.2 d_Digits_at_36
theorem d_Digits_trim_0 : decode cd_Digits_trim 0 = .ok (.aload_n 0, 1) := by decide +kernel
theorem d_Digits_trim_1 : decode cd_Digits_trim 1 = .ok (.getfield 42, 3) := by decide +kernel
theorem d_Digits_trim_4 : decode cd_Digits_trim 4 = .ok (.ifCond .le 30, 3) := by decide +kernel
theorem d_Digits_trim_7 : decode cd_Digits_trim 7 = .ok (.aload_n 0, 1) := by decide +kernel
theorem d_Digits_trim_8 : decode cd_Digits_trim 8 = .ok (.getfield 13, 3) := by decide +kernel
theorem d_Digits_trim_11 : decode cd_Digits_trim 11 = .ok (.aload_n 0, 1) := by decide +kernel
theorem d_Digits_trim_12 : decode cd_Digits_trim 12 = .ok (.getfield 42, 3) := by decide +kernel
theorem d_Digits_trim_15 : decode cd_Digits_trim 15 = .ok (.iconst 1, 1) := by decide +kernel
theorem d_Digits_trim_16 : decode cd_Digits_trim 16 = .ok (.isub, 1) := by decide +kernel
theorem d_Digits_trim_17 : decode cd_Digits_trim 17 = .ok (.baload, 1) := by decide +kernel
theorem d_Digits_trim_18 : decode cd_Digits_trim 18 = .ok (.ifCond .ne 16, 3) := by decide +kernel
theorem d_Digits_trim_21 : decode cd_Digits_trim 21 = .ok (.aload_n 0, 1) := by decide +kernel
theorem d_Digits_trim_22 : decode cd_Digits_trim 22 = .ok (.dup, 1) := by decide +kernel
theorem d_Digits_trim_23 : decode cd_Digits_trim 23 = .ok (.getfield 42, 3) := by decide +kernel
theorem d_Digits_trim_26 : decode cd_Digits_trim 26 = .ok (.iconst 1, 1) := by decide +kernel
theorem d_Digits_trim_27 : decode cd_Digits_trim 27 = .ok (.isub, 1) := by decide +kernel
theorem d_Digits_trim_28 : decode cd_Digits_trim 28 = .ok (.putfield 42, 3) := by decide +kernel
theorem d_Digits_trim_31 : decode cd_Digits_trim 31 = .ok (.goto (-31), 3) := by decide +kernel
theorem d_Digits_trim_34 : decode cd_Digits_trim 34 = .ok (.return_, 1) := by decide +kernel
def b_Digits_trim_0 (t_cells : Nat → Int32)  (rec_0 : Int32 → Option Int32) (z0 : Int32) : Option Int32 :=
  (if z0 ≤ 0 then some z0 else (if inB (z0 - (1 : Int32)) 208 = true then (if (t_cells (z0 - (1 : Int32)).toNatClampNeg) = 0 then rec_0 (z0 - (1 : Int32)) else some z0) else none))
def f_Digits_trim (K : Nat) (t_cells : Nat → Int32) (t_used : Int32) : Option Int32 :=
  lp_ (b_Digits_trim_0 t_cells ) K t_used
set_option maxHeartbeats 4000000 in
set_option maxRecDepth 100000 in
theorem c_Digits_trim (l : Launch) (G : Gt) (K : Nat) (qt : Nat) (qt_limbs : Nat) (t_limbs : Nat → Int32) (qt_cells : Nat) (t_cells : Nat → Int32) (t_used : Int32) (t_lowest : Int32) (sz : Nat) (res : Int32)   (hf : f_Digits_trim K t_cells t_used = some res) : Met l y_Digits_trim (.code y_Digits_trim cd_Digits_trim 1 none :: gw) { frames := 0, cells := 0, slots := 0, locals := 0 } (PC G ([.ref qt] : List Value) sz (w_Digits_isZero G qt qt_limbs t_limbs qt_cells t_cells t_used t_lowest)) (QV G (va_A (w_Digits_isZero G qt qt_limbs t_limbs qt_cells t_cells t_used t_lowest) sz) (w_Digits_isZero G qt qt_limbs t_limbs qt_cells t_cells res t_lowest)) 0 0 (va_A (w_Digits_isZero G qt qt_limbs t_limbs qt_cells t_cells t_used t_lowest) sz) := by
  refine Met.ofW (cc := cd_Digits_trim) (maxL := 1) (ret := none) (by decide) rfl ?_
  intro p e s m args below meth c s₁ B hml hv
  obtain ⟨rfl, hsz, hP, hE, hD0⟩ := hv
  have hx := B.exec
  have hb := B.bytes
  have hr := B.returns
  have hts := atoms_spec (ws := (.code y_Digits_trim cd_Digits_trim 1 none :: gw)) B.pre
  have hg : ∀ w ∈ gw, w.before _ s = true := fun w h => hts w (List.mem_cons_of_mem _ h)
  have hown : s.vm.findClass R_Digits = some m.cls := findClass_of_methodNamed B.named
  have hlocks := B.notSynchronized
  subst hsz
  have hK := hE.K
  have hD := hD0.self (sz := s.heap.size)
  have hAb := hE.ab hD0
  obtain ⟨Q, hQ⟩ : ∃ Q, MQ below (QV G (va_A (w_Digits_isZero G qt qt_limbs t_limbs qt_cells t_cells t_used t_lowest) s.heap.size) (w_Digits_isZero G qt qt_limbs t_limbs qt_cells t_cells res t_lowest)) ([.ref qt] : List Value).toArray s 0 0 (va_A (w_Digits_isZero G qt qt_limbs t_limbs qt_cells t_cells t_used t_lowest) s.heap.size) = Q := ⟨_, rfl⟩
  show W p l e { frames := 0, cells := 0, slots := 0, locals := 0 } s m ([.ref qt] : List Value).toArray below meth c s.heap [] 0 0 (MQ below (QV G (va_A (w_Digits_isZero G qt qt_limbs t_limbs qt_cells t_cells t_used t_lowest) s.heap.size) (w_Digits_isZero G qt qt_limbs t_limbs qt_cells t_cells res t_lowest)) ([.ref qt] : List Value).toArray s 0 0 (va_A (w_Digits_isZero G qt qt_limbs t_limbs qt_cells t_cells t_used t_lowest) s.heap.size)) _
  rw [hQ]
  have hA : ∀ q : Nat, s.heap.size ≤ q → va_A (w_Digits_isZero G qt qt_limbs t_limbs qt_cells t_cells t_used t_lowest) s.heap.size q := fun q h => Or.inr h
  obtain ⟨A, hAe⟩ : ∃ A, va_A (w_Digits_isZero G qt qt_limbs t_limbs qt_cells t_cells t_used t_lowest) s.heap.size = A := ⟨_, rfl⟩
  rw [hAe] at hA hD hAb hQ
  have hS : va_S A s.heap s.heap [] := va_S.rf
  have hl := lv_entry (([.ref qt] : List Value)) (n := 1) (Nat.le_of_ble_eq_true rfl)
  rw [lg_entry_eq]
  generalize (lg_sl (([.ref qt] : List Value)) ++ List.replicate (1 - (lg_sl (([.ref qt] : List Value))).length) Slot.unset).toArray = ls at hl ⊢
  have hl : lv_has ls 1 [(0, .ref qt)] := hl
  have W_0 : ∀   (n_0 : Nat) (z0 : Int32) , lp_ (b_Digits_trim_0 t_cells ) n_0 z0 = some res → ∀ (H : Heap) (locs : List Loc) (ls : Array Slot), va_P (gD G) vwCl (w_Digits_isZero G qt qt_limbs t_limbs qt_cells t_cells z0 t_lowest) H → va_D A (w_Digits_isZero G qt qt_limbs t_limbs qt_cells t_cells z0 t_lowest) → va_S A s.heap H locs → lv_has ls 1 [(0, .ref qt)] → W p l e { frames := 0, cells := 0, slots := 0, locals := 0 } s m ([.ref qt] : List Value).toArray below meth c H locs 0 0 Q (F0 m 0 ls []) := by
    intro  n_0
    induction n_0 with
    | zero =>
      intro z0  hf
      cases hf
    | succ n_0 ih_0 =>
      intro z0  hf H locs ls hP hD hS hl
      have hf : b_Digits_trim_0 t_cells  (lp_ (b_Digits_trim_0 t_cells ) n_0) z0 = some res := hf
      generalize lp_ (b_Digits_trim_0 t_cells ) n_0 = rec_0 at hf ih_0
      unfold b_Digits_trim_0 at hf
      refine lv_aload_n hx hb d_Digits_trim_0 rfl (lv_at hl 0 rfl) ?_
      refine va_get (D := gD G) (ci := 2) (v := .int z0) (C := R_Digits) (T := F_Digits) (N := 4) hx hb hg in_Digits hown hK hP 0 rfl rfl 2 (by decide) (hg _ m_173) (fun _ h9 => h9) rfl d_Digits_trim_1 ?_
      refine lv_if_le (tgt := 34) hx hb d_Digits_trim_4 (by decide) (fun c_4 => ?_) (fun c_4 => ?_)
      · have hf := ip_ c_4 hf
        obtain rfl := Option.some.inj hf
        rw [← hQ]
        exact W.vret hx hb hr (fun t9 ht hW => ⟨⟨(), rfl, trivial, ⟨by rw [ht]; exact hP, hD⟩⟩, hS.F ht⟩) hS.2.2 d_Digits_trim_34
      · have hf := in_ c_4 hf
        refine lv_aload_n hx hb d_Digits_trim_7 rfl (lv_at hl 0 rfl) ?_
        refine va_get (D := gD G) (ci := 2) (v := .ref qt_cells) (C := R_Digits) (T := F_Digits) (N := 4) hx hb hg in_Digits hown hK hP 0 rfl rfl 1 (by decide) (hg _ m_175) (fun _ h9 => h9) rfl d_Digits_trim_8 ?_
        refine lv_aload_n hx hb d_Digits_trim_11 rfl (lv_at hl 0 rfl) ?_
        refine va_get (D := gD G) (ci := 2) (v := .int z0) (C := R_Digits) (T := F_Digits) (N := 4) hx hb hg in_Digits hown hK hP 0 rfl rfl 2 (by decide) (hg _ m_173) (fun _ h9 => h9) rfl d_Digits_trim_12 ?_
        refine lv_iconst (v := 1) hx hb d_Digits_trim_15 (by decide) ?_
        refine lv_isub hx hb d_Digits_trim_16 ?_
        obtain ⟨g_17, hf⟩ := gd_ hf
        refine va_bald hx hb hK hP 2 0 rfl rfl (inB_in g_17) d_Digits_trim_17 ?_
        refine lv_if_ne (tgt := 34) hx hb d_Digits_trim_18 (by decide) (fun c_18 => ?_) (fun c_18 => ?_)
        · have hf := in_ c_18 hf
          obtain rfl := Option.some.inj hf
          rw [← hQ]
          exact W.vret hx hb hr (fun t9 ht hW => ⟨⟨(), rfl, trivial, ⟨by rw [ht]; exact hP, hD⟩⟩, hS.F ht⟩) hS.2.2 d_Digits_trim_34
        · have hf := ip_ c_18 hf
          refine lv_aload_n hx hb d_Digits_trim_21 rfl (lv_at hl 0 rfl) ?_
          refine lv_dup hx hb d_Digits_trim_22 rfl ?_
          refine va_get (D := gD G) (ci := 2) (v := .int z0) (C := R_Digits) (T := F_Digits) (N := 4) hx hb hg in_Digits hown hK hP 0 rfl rfl 2 (by decide) (hg _ m_173) (fun _ h9 => h9) rfl d_Digits_trim_23 ?_
          refine lv_iconst (v := 1) hx hb d_Digits_trim_26 (by decide) ?_
          refine lv_isub hx hb d_Digits_trim_27 ?_
          refine va_put (D := gD G) (ci := 2) (v := .int (z0 - (1 : Int32))) (ty := .int) (C := R_Digits) (T := F_Digits) (N := 4) hx hb hg in_Digits t_Digits to_Digits no_Digits hown hK hP hD hS 0 rfl rfl 2 (by decide) (hg _ m_173) (fun _ h9 => h9) rfl (by decide +kernel) rfl rfl (Nat.le_of_ble_eq_true rfl) d_Digits_trim_28 (fun H locs hP hD hS => ?_)
          have hP : va_P (gD G) vwCl (w_Digits_isZero G qt qt_limbs t_limbs qt_cells t_cells (z0 - (1 : Int32)) t_lowest) H := hP
          have hD : va_D A (w_Digits_isZero G qt qt_limbs t_limbs qt_cells t_cells (z0 - (1 : Int32)) t_lowest) := hD
          refine lv_goto (tgt := 0) hx hb d_Digits_trim_31 (by decide) ?_
          exact ih_0 (z0 - (1 : Int32))  hf _ _ _ hP hD hS (lv_sub hl [0] rfl)
  unfold f_Digits_trim at hf
  exact W_0   K t_used  hf _ _ _ hP hD hS (lv_sub hl [0] rfl)
theorem d_Digits_carryInto_0 : decode cd_Digits_carryInto 0 = .ok (.iload_n 1, 1) := by decide +kernel
theorem d_Digits_carryInto_1 : decode cd_Digits_carryInto 1 = .ok (.istore_n 2, 1) := by decide +kernel
theorem d_Digits_carryInto_2 : decode cd_Digits_carryInto 2 = .ok (.iload_n 2, 1) := by decide +kernel
theorem d_Digits_carryInto_3 : decode cd_Digits_carryInto 3 = .ok (.sipush 208, 3) := by decide +kernel
theorem d_Digits_carryInto_6 : decode cd_Digits_carryInto 6 = .ok (.if_icmp .ge 62, 3) := by decide +kernel
theorem d_Digits_carryInto_9 : decode cd_Digits_carryInto 9 = .ok (.iload_n 2, 1) := by decide +kernel
theorem d_Digits_carryInto_10 : decode cd_Digits_carryInto 10 = .ok (.aload_n 0, 1) := by decide +kernel
theorem d_Digits_carryInto_11 : decode cd_Digits_carryInto 11 = .ok (.getfield 42, 3) := by decide +kernel
theorem d_Digits_carryInto_14 : decode cd_Digits_carryInto 14 = .ok (.if_icmp .lt 18, 3) := by decide +kernel
theorem d_Digits_carryInto_17 : decode cd_Digits_carryInto 17 = .ok (.aload_n 0, 1) := by decide +kernel
theorem d_Digits_carryInto_18 : decode cd_Digits_carryInto 18 = .ok (.getfield 13, 3) := by decide +kernel
theorem d_Digits_carryInto_21 : decode cd_Digits_carryInto 21 = .ok (.iload_n 2, 1) := by decide +kernel
theorem d_Digits_carryInto_22 : decode cd_Digits_carryInto 22 = .ok (.iconst 1, 1) := by decide +kernel
theorem d_Digits_carryInto_23 : decode cd_Digits_carryInto 23 = .ok (.bastore, 1) := by decide +kernel
theorem d_Digits_carryInto_24 : decode cd_Digits_carryInto 24 = .ok (.aload_n 0, 1) := by decide +kernel
theorem d_Digits_carryInto_25 : decode cd_Digits_carryInto 25 = .ok (.iload_n 2, 1) := by decide +kernel
theorem d_Digits_carryInto_26 : decode cd_Digits_carryInto 26 = .ok (.iconst 1, 1) := by decide +kernel
theorem d_Digits_carryInto_27 : decode cd_Digits_carryInto 27 = .ok (.iadd, 1) := by decide +kernel
theorem d_Digits_carryInto_28 : decode cd_Digits_carryInto 28 = .ok (.putfield 42, 3) := by decide +kernel
theorem d_Digits_carryInto_31 : decode cd_Digits_carryInto 31 = .ok (.return_, 1) := by decide +kernel
theorem d_Digits_carryInto_32 : decode cd_Digits_carryInto 32 = .ok (.aload_n 0, 1) := by decide +kernel
theorem d_Digits_carryInto_33 : decode cd_Digits_carryInto 33 = .ok (.getfield 13, 3) := by decide +kernel
theorem d_Digits_carryInto_36 : decode cd_Digits_carryInto 36 = .ok (.iload_n 2, 1) := by decide +kernel
theorem d_Digits_carryInto_37 : decode cd_Digits_carryInto 37 = .ok (.baload, 1) := by decide +kernel
theorem d_Digits_carryInto_38 : decode cd_Digits_carryInto 38 = .ok (.bipush 9, 2) := by decide +kernel
theorem d_Digits_carryInto_40 : decode cd_Digits_carryInto 40 = .ok (.if_icmp .ge 15, 3) := by decide +kernel
theorem d_Digits_carryInto_43 : decode cd_Digits_carryInto 43 = .ok (.aload_n 0, 1) := by decide +kernel
theorem d_Digits_carryInto_44 : decode cd_Digits_carryInto 44 = .ok (.getfield 13, 3) := by decide +kernel
theorem d_Digits_carryInto_47 : decode cd_Digits_carryInto 47 = .ok (.iload_n 2, 1) := by decide +kernel
theorem d_Digits_carryInto_48 : decode cd_Digits_carryInto 48 = .ok (.dup2, 1) := by decide +kernel
theorem d_Digits_carryInto_49 : decode cd_Digits_carryInto 49 = .ok (.baload, 1) := by decide +kernel
theorem d_Digits_carryInto_50 : decode cd_Digits_carryInto 50 = .ok (.iconst 1, 1) := by decide +kernel
theorem d_Digits_carryInto_51 : decode cd_Digits_carryInto 51 = .ok (.iadd, 1) := by decide +kernel
theorem d_Digits_carryInto_52 : decode cd_Digits_carryInto 52 = .ok (.i2b, 1) := by decide +kernel
theorem d_Digits_carryInto_53 : decode cd_Digits_carryInto 53 = .ok (.bastore, 1) := by decide +kernel
theorem d_Digits_carryInto_54 : decode cd_Digits_carryInto 54 = .ok (.return_, 1) := by decide +kernel
theorem d_Digits_carryInto_55 : decode cd_Digits_carryInto 55 = .ok (.aload_n 0, 1) := by decide +kernel
theorem d_Digits_carryInto_56 : decode cd_Digits_carryInto 56 = .ok (.getfield 13, 3) := by decide +kernel
theorem d_Digits_carryInto_59 : decode cd_Digits_carryInto 59 = .ok (.iload_n 2, 1) := by decide +kernel
theorem d_Digits_carryInto_60 : decode cd_Digits_carryInto 60 = .ok (.iconst 0, 1) := by decide +kernel
theorem d_Digits_carryInto_61 : decode cd_Digits_carryInto 61 = .ok (.bastore, 1) := by decide +kernel
theorem d_Digits_carryInto_62 : decode cd_Digits_carryInto 62 = .ok (.iinc 2 1, 3) := by decide +kernel
theorem d_Digits_carryInto_65 : decode cd_Digits_carryInto 65 = .ok (.goto (-63), 3) := by decide +kernel
theorem d_Digits_carryInto_68 : decode cd_Digits_carryInto 68 = .ok (.return_, 1) := by decide +kernel
def b_Digits_carryInto_2  (t_used : Int32) (rec_2 : (Int32 × (Nat → Int32)) → Option (Int32 × (Nat → Int32))) (z2 : Int32 × (Nat → Int32)) : Option (Int32 × (Nat → Int32)) :=
  (if (208 : Int32) ≤ z2.1 then some (t_used, z2.2) else (if z2.1 < t_used then (if inB z2.1 208 = true then (if (9 : Int32) ≤ (z2.2 z2.1.toNatClampNeg) then (if inB z2.1 208 = true then rec_2 ((z2.1 + 1), (upd z2.2 z2.1.toNatClampNeg (vp_nar .byte (0 : Int32)))) else none) else (if inB z2.1 208 = true then (if inB z2.1 208 = true then some (t_used, (upd z2.2 z2.1.toNatClampNeg (vp_nar .byte (((z2.2 z2.1.toNatClampNeg) + (1 : Int32)).toInt8.toInt32)))) else none) else none)) else none) else (if inB z2.1 208 = true then some ((z2.1 + (1 : Int32)), (upd z2.2 z2.1.toNatClampNeg (vp_nar .byte (1 : Int32)))) else none)))
def f_Digits_carryInto (K : Nat) (t_cells : Nat → Int32) (t_used : Int32) (a1 : Int32) : Option (Int32 × (Nat → Int32)) :=
  lp_ (b_Digits_carryInto_2  t_used) K (a1, t_cells)
set_option maxHeartbeats 4000000 in
set_option maxRecDepth 100000 in
theorem c_Digits_carryInto (l : Launch) (G : Gt) (K : Nat) (qt : Nat) (qt_limbs : Nat) (t_limbs : Nat → Int32) (qt_cells : Nat) (t_cells : Nat → Int32) (t_used : Int32) (t_lowest : Int32) (a1 : Int32) (sz : Nat) (res : Int32 × (Nat → Int32))   (hf : f_Digits_carryInto K t_cells t_used a1 = some res) : Met l y_Digits_carryInto (.code y_Digits_carryInto cd_Digits_carryInto 3 none :: gw) { frames := 0, cells := 0, slots := 0, locals := 0 } (PC G ([.ref qt, .int a1] : List Value) sz (w_Digits_isZero G qt qt_limbs t_limbs qt_cells t_cells t_used t_lowest)) (QV G (va_A (w_Digits_isZero G qt qt_limbs t_limbs qt_cells t_cells t_used t_lowest) sz) (w_Digits_isZero G qt qt_limbs t_limbs qt_cells res.2 res.1 t_lowest)) 0 0 (va_A (w_Digits_isZero G qt qt_limbs t_limbs qt_cells t_cells t_used t_lowest) sz) := by
  refine Met.ofW (cc := cd_Digits_carryInto) (maxL := 3) (ret := none) (by decide) rfl ?_
  intro p e s m args below meth c s₁ B hml hv
  obtain ⟨rfl, hsz, hP, hE, hD0⟩ := hv
  have hx := B.exec
  have hb := B.bytes
  have hr := B.returns
  have hts := atoms_spec (ws := (.code y_Digits_carryInto cd_Digits_carryInto 3 none :: gw)) B.pre
  have hg : ∀ w ∈ gw, w.before _ s = true := fun w h => hts w (List.mem_cons_of_mem _ h)
  have hown : s.vm.findClass R_Digits = some m.cls := findClass_of_methodNamed B.named
  have hlocks := B.notSynchronized
  subst hsz
  have hK := hE.K
  have hD := hD0.self (sz := s.heap.size)
  have hAb := hE.ab hD0
  obtain ⟨Q, hQ⟩ : ∃ Q, MQ below (QV G (va_A (w_Digits_isZero G qt qt_limbs t_limbs qt_cells t_cells t_used t_lowest) s.heap.size) (w_Digits_isZero G qt qt_limbs t_limbs qt_cells res.2 res.1 t_lowest)) ([.ref qt, .int a1] : List Value).toArray s 0 0 (va_A (w_Digits_isZero G qt qt_limbs t_limbs qt_cells t_cells t_used t_lowest) s.heap.size) = Q := ⟨_, rfl⟩
  show W p l e { frames := 0, cells := 0, slots := 0, locals := 0 } s m ([.ref qt, .int a1] : List Value).toArray below meth c s.heap [] 0 0 (MQ below (QV G (va_A (w_Digits_isZero G qt qt_limbs t_limbs qt_cells t_cells t_used t_lowest) s.heap.size) (w_Digits_isZero G qt qt_limbs t_limbs qt_cells res.2 res.1 t_lowest)) ([.ref qt, .int a1] : List Value).toArray s 0 0 (va_A (w_Digits_isZero G qt qt_limbs t_limbs qt_cells t_cells t_used t_lowest) s.heap.size)) _
  rw [hQ]
  have hA : ∀ q : Nat, s.heap.size ≤ q → va_A (w_Digits_isZero G qt qt_limbs t_limbs qt_cells t_cells t_used t_lowest) s.heap.size q := fun q h => Or.inr h
  obtain ⟨A, hAe⟩ : ∃ A, va_A (w_Digits_isZero G qt qt_limbs t_limbs qt_cells t_cells t_used t_lowest) s.heap.size = A := ⟨_, rfl⟩
  rw [hAe] at hA hD hAb hQ
  have hS : va_S A s.heap s.heap [] := va_S.rf
  have hl := lv_entry (([.ref qt, .int a1] : List Value)) (n := 3) (Nat.le_of_ble_eq_true rfl)
  rw [lg_entry_eq]
  generalize (lg_sl (([.ref qt, .int a1] : List Value)) ++ List.replicate (3 - (lg_sl (([.ref qt, .int a1] : List Value))).length) Slot.unset).toArray = ls at hl ⊢
  have hl : lv_has ls 3 [(0, .ref qt), (1, .int a1)] := hl
  have W_2 : ∀ (t_used : Int32)  (n_2 : Nat) (z2 : Int32 × (Nat → Int32)) , lp_ (b_Digits_carryInto_2  t_used) n_2 z2 = some res → ∀ (H : Heap) (locs : List Loc) (ls : Array Slot), va_P (gD G) vwCl (w_Digits_isZero G qt qt_limbs t_limbs qt_cells z2.2 t_used t_lowest) H → va_D A (w_Digits_isZero G qt qt_limbs t_limbs qt_cells z2.2 t_used t_lowest) → va_S A s.heap H locs → lv_has ls 3 [(0, .ref qt), (2, .int z2.1)] → W p l e { frames := 0, cells := 0, slots := 0, locals := 0 } s m ([.ref qt, .int a1] : List Value).toArray below meth c H locs 0 0 Q (F0 m 2 ls []) := by
    intro t_used n_2
    induction n_2 with
    | zero =>
      intro z2  hf
      cases hf
    | succ n_2 ih_2 =>
      intro z2  hf H locs ls hP hD hS hl
      have hf : b_Digits_carryInto_2  t_used (lp_ (b_Digits_carryInto_2  t_used) n_2) z2 = some res := hf
      generalize lp_ (b_Digits_carryInto_2  t_used) n_2 = rec_2 at hf ih_2
      unfold b_Digits_carryInto_2 at hf
      refine lv_iload_n hx hb d_Digits_carryInto_2 rfl (lv_at hl 1 rfl) ?_
      refine lv_sipush (v := 208) hx hb d_Digits_carryInto_3 (by decide) ?_
      refine lv_icmp_ge (tgt := 68) hx hb d_Digits_carryInto_6 (by decide) (fun c_6 => ?_) (fun c_6 => ?_)
      · have hf := ip_ c_6 hf
        obtain rfl := Option.some.inj hf
        rw [← hQ]
        exact W.vret hx hb hr (fun t9 ht hW => ⟨⟨(), rfl, trivial, ⟨by rw [ht]; exact hP, hD⟩⟩, hS.F ht⟩) hS.2.2 d_Digits_carryInto_68
      · have hf := in_ c_6 hf
        refine lv_iload_n hx hb d_Digits_carryInto_9 rfl (lv_at hl 1 rfl) ?_
        refine lv_aload_n hx hb d_Digits_carryInto_10 rfl (lv_at hl 0 rfl) ?_
        refine va_get (D := gD G) (ci := 2) (v := .int t_used) (C := R_Digits) (T := F_Digits) (N := 4) hx hb hg in_Digits hown hK hP 0 rfl rfl 2 (by decide) (hg _ m_173) (fun _ h9 => h9) rfl d_Digits_carryInto_11 ?_
        refine lv_icmp_lt (tgt := 32) hx hb d_Digits_carryInto_14 (by decide) (fun c_14 => ?_) (fun c_14 => ?_)
        · have hf := ip_ c_14 hf
          refine lv_aload_n hx hb d_Digits_carryInto_32 rfl (lv_at hl 0 rfl) ?_
          refine va_get (D := gD G) (ci := 2) (v := .ref qt_cells) (C := R_Digits) (T := F_Digits) (N := 4) hx hb hg in_Digits hown hK hP 0 rfl rfl 1 (by decide) (hg _ m_175) (fun _ h9 => h9) rfl d_Digits_carryInto_33 ?_
          refine lv_iload_n hx hb d_Digits_carryInto_36 rfl (lv_at hl 1 rfl) ?_
          obtain ⟨g_37, hf⟩ := gd_ hf
          refine va_bald hx hb hK hP 2 0 rfl rfl (inB_in g_37) d_Digits_carryInto_37 ?_
          refine lv_bipush (v := 9) hx hb d_Digits_carryInto_38 (by decide) ?_
          refine lv_icmp_ge (tgt := 55) hx hb d_Digits_carryInto_40 (by decide) (fun c_40 => ?_) (fun c_40 => ?_)
          · have hf := ip_ c_40 hf
            refine lv_aload_n hx hb d_Digits_carryInto_55 rfl (lv_at hl 0 rfl) ?_
            refine va_get (D := gD G) (ci := 2) (v := .ref qt_cells) (C := R_Digits) (T := F_Digits) (N := 4) hx hb hg in_Digits hown hK hP 0 rfl rfl 1 (by decide) (hg _ m_175) (fun _ h9 => h9) rfl d_Digits_carryInto_56 ?_
            refine lv_iload_n hx hb d_Digits_carryInto_59 rfl (lv_at hl 1 rfl) ?_
            refine lv_iconst (v := 0) hx hb d_Digits_carryInto_60 (by decide) ?_
            obtain ⟨g_61, hf⟩ := gd_ hf
            refine va_bast hx hb hK hP hD hS 2 0 rfl rfl (inB_in g_61) d_Digits_carryInto_61 (fun H locs hP hD hS => ?_)
            have hP : va_P (gD G) vwCl (w_Digits_isZero G qt qt_limbs t_limbs qt_cells (upd z2.2 z2.1.toNatClampNeg (vp_nar .byte (0 : Int32))) t_used t_lowest) H := hP
            have hD : va_D A (w_Digits_isZero G qt qt_limbs t_limbs qt_cells (upd z2.2 z2.1.toNatClampNeg (vp_nar .byte (0 : Int32))) t_used t_lowest) := hD
            refine lv_iinc (v := (z2.1 + 1)) (lv' := [(2, .int (z2.1 + 1)), (0, .ref qt)]) hx hb d_Digits_carryInto_62 hl (k := 1) rfl rfl (by decide) rfl (fun ls hl => ?_)
            refine lv_goto (tgt := 2) hx hb d_Digits_carryInto_65 (by decide) ?_
            exact ih_2 ((z2.1 + 1), (upd z2.2 z2.1.toNatClampNeg (vp_nar .byte (0 : Int32))))  hf _ _ _ hP hD hS (lv_sub hl [1, 0] rfl)
          · have hf := in_ c_40 hf
            refine lv_aload_n hx hb d_Digits_carryInto_43 rfl (lv_at hl 0 rfl) ?_
            refine va_get (D := gD G) (ci := 2) (v := .ref qt_cells) (C := R_Digits) (T := F_Digits) (N := 4) hx hb hg in_Digits hown hK hP 0 rfl rfl 1 (by decide) (hg _ m_175) (fun _ h9 => h9) rfl d_Digits_carryInto_44 ?_
            refine lv_iload_n hx hb d_Digits_carryInto_47 rfl (lv_at hl 1 rfl) ?_
            refine lv_dup2_11 hx hb d_Digits_carryInto_48 rfl rfl ?_
            obtain ⟨g_49, hf⟩ := gd_ hf
            refine va_bald hx hb hK hP 2 0 rfl rfl (inB_in g_49) d_Digits_carryInto_49 ?_
            refine lv_iconst (v := 1) hx hb d_Digits_carryInto_50 (by decide) ?_
            refine lv_iadd hx hb d_Digits_carryInto_51 ?_
            refine lv_i2b (v := ((z2.2 z2.1.toNatClampNeg) + (1 : Int32)).toInt8.toInt32) hx hb d_Digits_carryInto_52 rfl ?_
            obtain ⟨g_53, hf⟩ := gd_ hf
            refine va_bast hx hb hK hP hD hS 2 0 rfl rfl (inB_in g_53) d_Digits_carryInto_53 (fun H locs hP hD hS => ?_)
            have hP : va_P (gD G) vwCl (w_Digits_isZero G qt qt_limbs t_limbs qt_cells (upd z2.2 z2.1.toNatClampNeg (vp_nar .byte (((z2.2 z2.1.toNatClampNeg) + (1 : Int32)).toInt8.toInt32))) t_used t_lowest) H := hP
            have hD : va_D A (w_Digits_isZero G qt qt_limbs t_limbs qt_cells (upd z2.2 z2.1.toNatClampNeg (vp_nar .byte (((z2.2 z2.1.toNatClampNeg) + (1 : Int32)).toInt8.toInt32))) t_used t_lowest) := hD
            obtain rfl := Option.some.inj hf
            rw [← hQ]
            exact W.vret hx hb hr (fun t9 ht hW => ⟨⟨(), rfl, trivial, ⟨by rw [ht]; exact hP, hD⟩⟩, hS.F ht⟩) hS.2.2 d_Digits_carryInto_54
        · have hf := in_ c_14 hf
          refine lv_aload_n hx hb d_Digits_carryInto_17 rfl (lv_at hl 0 rfl) ?_
          refine va_get (D := gD G) (ci := 2) (v := .ref qt_cells) (C := R_Digits) (T := F_Digits) (N := 4) hx hb hg in_Digits hown hK hP 0 rfl rfl 1 (by decide) (hg _ m_175) (fun _ h9 => h9) rfl d_Digits_carryInto_18 ?_
          refine lv_iload_n hx hb d_Digits_carryInto_21 rfl (lv_at hl 1 rfl) ?_
          refine lv_iconst (v := 1) hx hb d_Digits_carryInto_22 (by decide) ?_
          obtain ⟨g_23, hf⟩ := gd_ hf
          refine va_bast hx hb hK hP hD hS 2 0 rfl rfl (inB_in g_23) d_Digits_carryInto_23 (fun H locs hP hD hS => ?_)
          have hP : va_P (gD G) vwCl (w_Digits_isZero G qt qt_limbs t_limbs qt_cells (upd z2.2 z2.1.toNatClampNeg (vp_nar .byte (1 : Int32))) t_used t_lowest) H := hP
          have hD : va_D A (w_Digits_isZero G qt qt_limbs t_limbs qt_cells (upd z2.2 z2.1.toNatClampNeg (vp_nar .byte (1 : Int32))) t_used t_lowest) := hD
          refine lv_aload_n hx hb d_Digits_carryInto_24 rfl (lv_at hl 0 rfl) ?_
          refine lv_iload_n hx hb d_Digits_carryInto_25 rfl (lv_at hl 1 rfl) ?_
          refine lv_iconst (v := 1) hx hb d_Digits_carryInto_26 (by decide) ?_
          refine lv_iadd hx hb d_Digits_carryInto_27 ?_
          refine va_put (D := gD G) (ci := 2) (v := .int (z2.1 + (1 : Int32))) (ty := .int) (C := R_Digits) (T := F_Digits) (N := 4) hx hb hg in_Digits t_Digits to_Digits no_Digits hown hK hP hD hS 0 rfl rfl 2 (by decide) (hg _ m_173) (fun _ h9 => h9) rfl (by decide +kernel) rfl rfl (Nat.le_of_ble_eq_true rfl) d_Digits_carryInto_28 (fun H locs hP hD hS => ?_)
          have hP : va_P (gD G) vwCl (w_Digits_isZero G qt qt_limbs t_limbs qt_cells (upd z2.2 z2.1.toNatClampNeg (vp_nar .byte (1 : Int32))) (z2.1 + (1 : Int32)) t_lowest) H := hP
          have hD : va_D A (w_Digits_isZero G qt qt_limbs t_limbs qt_cells (upd z2.2 z2.1.toNatClampNeg (vp_nar .byte (1 : Int32))) (z2.1 + (1 : Int32)) t_lowest) := hD
          obtain rfl := Option.some.inj hf
          rw [← hQ]
          exact W.vret hx hb hr (fun t9 ht hW => ⟨⟨(), rfl, trivial, ⟨by rw [ht]; exact hP, hD⟩⟩, hS.F ht⟩) hS.2.2 d_Digits_carryInto_31
  unfold f_Digits_carryInto at hf
  refine lv_iload_n hx hb d_Digits_carryInto_0 rfl (lv_at hl 1 rfl) ?_
  refine lv_istore_n (lv' := [(2, .int a1), (0, .ref qt), (1, .int a1)]) hx hb d_Digits_carryInto_1 rfl hl (by decide) rfl (fun ls hl => ?_)
  exact W_2 t_used  K (a1, t_cells)  hf _ _ _ hP hD hS (lv_sub hl [1, 0] rfl)
theorem d_Digits_roundTo_0 : decode cd_Digits_roundTo 0 = .ok (.iload_n 1, 1) := by decide +kernel
theorem d_Digits_roundTo_1 : decode cd_Digits_roundTo 1 = .ok (.aload_n 0, 1) := by decide +kernel
theorem d_Digits_roundTo_2 : decode cd_Digits_roundTo 2 = .ok (.getfield 35, 3) := by decide +kernel
theorem d_Digits_roundTo_5 : decode cd_Digits_roundTo 5 = .ok (.isub, 1) := by decide +kernel
theorem d_Digits_roundTo_6 : decode cd_Digits_roundTo 6 = .ok (.istore_n 2, 1) := by decide +kernel
theorem d_Digits_roundTo_7 : decode cd_Digits_roundTo 7 = .ok (.iload_n 2, 1) := by decide +kernel
theorem d_Digits_roundTo_8 : decode cd_Digits_roundTo 8 = .ok (.ifCond .gt 4, 3) := by decide +kernel
theorem d_Digits_roundTo_11 : decode cd_Digits_roundTo 11 = .ok (.return_, 1) := by decide +kernel
theorem d_Digits_roundTo_12 : decode cd_Digits_roundTo 12 = .ok (.iload_n 2, 1) := by decide +kernel
theorem d_Digits_roundTo_13 : decode cd_Digits_roundTo 13 = .ok (.aload_n 0, 1) := by decide +kernel
theorem d_Digits_roundTo_14 : decode cd_Digits_roundTo 14 = .ok (.getfield 42, 3) := by decide +kernel
theorem d_Digits_roundTo_17 : decode cd_Digits_roundTo 17 = .ok (.if_icmp .le 9, 3) := by decide +kernel
theorem d_Digits_roundTo_20 : decode cd_Digits_roundTo 20 = .ok (.aload_n 0, 1) := by decide +kernel
theorem d_Digits_roundTo_21 : decode cd_Digits_roundTo 21 = .ok (.iconst 0, 1) := by decide +kernel
theorem d_Digits_roundTo_22 : decode cd_Digits_roundTo 22 = .ok (.putfield 42, 3) := by decide +kernel
theorem d_Digits_roundTo_25 : decode cd_Digits_roundTo 25 = .ok (.return_, 1) := by decide +kernel
theorem d_Digits_roundTo_26 : decode cd_Digits_roundTo 26 = .ok (.aload_n 0, 1) := by decide +kernel
theorem d_Digits_roundTo_27 : decode cd_Digits_roundTo 27 = .ok (.getfield 13, 3) := by decide +kernel
theorem d_Digits_roundTo_30 : decode cd_Digits_roundTo 30 = .ok (.iload_n 2, 1) := by decide +kernel
theorem d_Digits_roundTo_31 : decode cd_Digits_roundTo 31 = .ok (.iconst 1, 1) := by decide +kernel
theorem d_Digits_roundTo_32 : decode cd_Digits_roundTo 32 = .ok (.isub, 1) := by decide +kernel
theorem d_Digits_roundTo_33 : decode cd_Digits_roundTo 33 = .ok (.baload, 1) := by decide +kernel
theorem d_Digits_roundTo_34 : decode cd_Digits_roundTo 34 = .ok (.iconst 5, 1) := by decide +kernel
theorem d_Digits_roundTo_35 : decode cd_Digits_roundTo 35 = .ok (.if_icmp .lt 7, 3) := by decide +kernel
theorem d_Digits_roundTo_38 : decode cd_Digits_roundTo 38 = .ok (.iconst 1, 1) := by decide +kernel
theorem d_Digits_roundTo_39 : decode cd_Digits_roundTo 39 = .ok (.goto 4, 3) := by decide +kernel
theorem d_Digits_roundTo_42 : decode cd_Digits_roundTo 42 = .ok (.iconst 0, 1) := by decide +kernel
theorem d_Digits_roundTo_43 : decode cd_Digits_roundTo 43 = .ok (.istore_n 3, 1) := by decide +kernel
theorem d_Digits_roundTo_44 : decode cd_Digits_roundTo 44 = .ok (.iconst 0, 1) := by decide +kernel
theorem d_Digits_roundTo_45 : decode cd_Digits_roundTo 45 = .ok (.istore 4, 2) := by decide +kernel
theorem d_Digits_roundTo_47 : decode cd_Digits_roundTo 47 = .ok (.iload 4, 2) := by decide +kernel
theorem d_Digits_roundTo_49 : decode cd_Digits_roundTo 49 = .ok (.iload_n 2, 1) := by decide +kernel
theorem d_Digits_roundTo_50 : decode cd_Digits_roundTo 50 = .ok (.if_icmp .ge 17, 3) := by decide +kernel
theorem d_Digits_roundTo_53 : decode cd_Digits_roundTo 53 = .ok (.aload_n 0, 1) := by decide +kernel
theorem d_Digits_roundTo_54 : decode cd_Digits_roundTo 54 = .ok (.getfield 13, 3) := by decide +kernel
theorem d_Digits_roundTo_57 : decode cd_Digits_roundTo 57 = .ok (.iload 4, 2) := by decide +kernel
theorem d_Digits_roundTo_59 : decode cd_Digits_roundTo 59 = .ok (.iconst 0, 1) := by decide +kernel
theorem d_Digits_roundTo_60 : decode cd_Digits_roundTo 60 = .ok (.bastore, 1) := by decide +kernel
theorem d_Digits_roundTo_61 : decode cd_Digits_roundTo 61 = .ok (.iinc 4 1, 3) := by decide +kernel
theorem d_Digits_roundTo_64 : decode cd_Digits_roundTo 64 = .ok (.goto (-17), 3) := by decide +kernel
theorem d_Digits_roundTo_67 : decode cd_Digits_roundTo 67 = .ok (.iload_n 3, 1) := by decide +kernel
theorem d_Digits_roundTo_68 : decode cd_Digits_roundTo 68 = .ok (.ifCond .eq 8, 3) := by decide +kernel
theorem d_Digits_roundTo_71 : decode cd_Digits_roundTo 71 = .ok (.aload_n 0, 1) := by decide +kernel
theorem d_Digits_roundTo_72 : decode cd_Digits_roundTo 72 = .ok (.iload_n 2, 1) := by decide +kernel
theorem d_Digits_roundTo_73 : decode cd_Digits_roundTo 73 = .ok (.invokevirtual 45, 3) := by decide +kernel
theorem d_Digits_roundTo_76 : decode cd_Digits_roundTo 76 = .ok (.aload_n 0, 1) := by decide +kernel
theorem d_Digits_roundTo_77 : decode cd_Digits_roundTo 77 = .ok (.invokevirtual 48, 3) := by decide +kernel
theorem d_Digits_roundTo_80 : decode cd_Digits_roundTo 80 = .ok (.return_, 1) := by decide +kernel
theorem m_176 : Cond.methodLink R_Digits 45 y_Digits_carryInto ∈ gw := gm (i := 828) (by decide +kernel) (by decide +kernel)
theorem m_177 : Cond.instanceMethod y_Digits_carryInto ∈ gw := gm (i := 830) (by decide +kernel) (by decide +kernel)
theorem m_178 : Cond.selects R_Digits y_Digits_carryInto y_Digits_carryInto ∈ gw := gm (i := 35) (by decide +kernel) (by decide +kernel)
theorem m_179 : Cond.initialized R_Digits ∈ gw := gm (i := 87) (by decide +kernel) (by decide +kernel)
set_option maxRecDepth 100000 in
theorem m_180 : Cond.code y_Digits_carryInto cd_Digits_carryInto 3 none ∈ gw := gm (i := 831) rfl rfl
theorem m_181 : Cond.methodLink R_Digits 48 y_Digits_trim ∈ gw := gm (i := 712) (by decide +kernel) (by decide +kernel)
theorem m_182 : Cond.instanceMethod y_Digits_trim ∈ gw := gm (i := 714) (by decide +kernel) (by decide +kernel)
theorem m_183 : Cond.selects R_Digits y_Digits_trim y_Digits_trim ∈ gw := gm (i := 25) (by decide +kernel) (by decide +kernel)
set_option maxRecDepth 100000 in
theorem m_184 : Cond.code y_Digits_trim cd_Digits_trim 1 none ∈ gw := gm (i := 715) rfl rfl
def k_Digits_roundTo_76 (K : Nat) (t_used : Int32) (t_cells : (Nat → Int32)) : Option (Int32 × (Nat → Int32)) :=
  ((f_Digits_trim K t_cells t_used).bind fun u_77 => some (u_77, t_cells))
def b_Digits_roundTo_47 (K : Nat) (x2 : Int32) (x3 : Int32) (t_used : Int32) (rec_47 : (Int32 × (Nat → Int32)) → Option (Int32 × (Nat → Int32))) (z47 : Int32 × (Nat → Int32)) : Option (Int32 × (Nat → Int32)) :=
  (if x2 ≤ z47.1 then (if x3 = 0 then k_Digits_roundTo_76 K t_used z47.2 else ((f_Digits_carryInto K z47.2 t_used x2).bind fun u_73 => k_Digits_roundTo_76 K u_73.1 u_73.2)) else (if inB z47.1 208 = true then rec_47 ((z47.1 + 1), (upd z47.2 z47.1.toNatClampNeg (vp_nar .byte (0 : Int32)))) else none))
def k_Digits_roundTo_43 (K : Nat) (x2 : Int32) (k0 : Int32) (t_used : Int32) (t_cells : (Nat → Int32)) : Option (Int32 × (Nat → Int32)) :=
  lp_ (b_Digits_roundTo_47 K x2 k0 t_used) K ((0 : Int32), t_cells)
def f_Digits_roundTo (K : Nat) (t_cells : Nat → Int32) (t_used : Int32) (t_lowest : Int32) (a1 : Int32) : Option (Int32 × (Nat → Int32)) :=
  (if 0 < (a1 - t_lowest) then (if (a1 - t_lowest) ≤ t_used then (if inB ((a1 - t_lowest) - (1 : Int32)) 208 = true then (if (t_cells ((a1 - t_lowest) - (1 : Int32)).toNatClampNeg) < (5 : Int32) then k_Digits_roundTo_43 K (a1 - t_lowest) (0 : Int32) t_used t_cells else k_Digits_roundTo_43 K (a1 - t_lowest) (1 : Int32) t_used t_cells) else none) else some ((0 : Int32), t_cells)) else some (t_used, t_cells))
set_option maxHeartbeats 4000000 in
set_option maxRecDepth 100000 in
theorem c_Digits_roundTo (l : Launch) (G : Gt) (K : Nat) (qt : Nat) (qt_limbs : Nat) (t_limbs : Nat → Int32) (qt_cells : Nat) (t_cells : Nat → Int32) (t_used : Int32) (t_lowest : Int32) (a1 : Int32) (sz : Nat) (res : Int32 × (Nat → Int32))   (hf : f_Digits_roundTo K t_cells t_used t_lowest a1 = some res) : Met l y_Digits_roundTo (.code y_Digits_roundTo cd_Digits_roundTo 5 none :: gw) { frames := 1, cells := 0, slots := 0, locals := 40 } (PC G ([.ref qt, .int a1] : List Value) sz (w_Digits_isZero G qt qt_limbs t_limbs qt_cells t_cells t_used t_lowest)) (QV G (va_A (w_Digits_isZero G qt qt_limbs t_limbs qt_cells t_cells t_used t_lowest) sz) (w_Digits_isZero G qt qt_limbs t_limbs qt_cells res.2 res.1 t_lowest)) 0 0 (va_A (w_Digits_isZero G qt qt_limbs t_limbs qt_cells t_cells t_used t_lowest) sz) := by
  refine Met.ofW (cc := cd_Digits_roundTo) (maxL := 5) (ret := none) (by decide) rfl ?_
  intro p e s m args below meth c s₁ B hml hv
  obtain ⟨rfl, hsz, hP, hE, hD0⟩ := hv
  have hx := B.exec
  have hb := B.bytes
  have hr := B.returns
  have hts := atoms_spec (ws := (.code y_Digits_roundTo cd_Digits_roundTo 5 none :: gw)) B.pre
  have hg : ∀ w ∈ gw, w.before _ s = true := fun w h => hts w (List.mem_cons_of_mem _ h)
  have hown : s.vm.findClass R_Digits = some m.cls := findClass_of_methodNamed B.named
  have hlocks := B.notSynchronized
  subst hsz
  have hK := hE.K
  have hD := hD0.self (sz := s.heap.size)
  have hAb := hE.ab hD0
  obtain ⟨Q, hQ⟩ : ∃ Q, MQ below (QV G (va_A (w_Digits_isZero G qt qt_limbs t_limbs qt_cells t_cells t_used t_lowest) s.heap.size) (w_Digits_isZero G qt qt_limbs t_limbs qt_cells res.2 res.1 t_lowest)) ([.ref qt, .int a1] : List Value).toArray s 0 0 (va_A (w_Digits_isZero G qt qt_limbs t_limbs qt_cells t_cells t_used t_lowest) s.heap.size) = Q := ⟨_, rfl⟩
  show W p l e { frames := 1, cells := 0, slots := 0, locals := 40 } s m ([.ref qt, .int a1] : List Value).toArray below meth c s.heap [] 0 0 (MQ below (QV G (va_A (w_Digits_isZero G qt qt_limbs t_limbs qt_cells t_cells t_used t_lowest) s.heap.size) (w_Digits_isZero G qt qt_limbs t_limbs qt_cells res.2 res.1 t_lowest)) ([.ref qt, .int a1] : List Value).toArray s 0 0 (va_A (w_Digits_isZero G qt qt_limbs t_limbs qt_cells t_cells t_used t_lowest) s.heap.size)) _
  rw [hQ]
  have hA : ∀ q : Nat, s.heap.size ≤ q → va_A (w_Digits_isZero G qt qt_limbs t_limbs qt_cells t_cells t_used t_lowest) s.heap.size q := fun q h => Or.inr h
  obtain ⟨A, hAe⟩ : ∃ A, va_A (w_Digits_isZero G qt qt_limbs t_limbs qt_cells t_cells t_used t_lowest) s.heap.size = A := ⟨_, rfl⟩
  rw [hAe] at hA hD hAb hQ
  have hS : va_S A s.heap s.heap [] := va_S.rf
  have hl := lv_entry (([.ref qt, .int a1] : List Value)) (n := 5) (Nat.le_of_ble_eq_true rfl)
  rw [lg_entry_eq]
  generalize (lg_sl (([.ref qt, .int a1] : List Value)) ++ List.replicate (5 - (lg_sl (([.ref qt, .int a1] : List Value))).length) Slot.unset).toArray = ls at hl ⊢
  have hl : lv_has ls 5 [(0, .ref qt), (1, .int a1)] := hl
  have W_76 : ∀ (t_used : Int32) (t_cells : (Nat → Int32)) , k_Digits_roundTo_76 K t_used t_cells = some res → ∀ (H : Heap) (locs : List Loc) (ls : Array Slot), va_P (gD G) vwCl (w_Digits_isZero G qt qt_limbs t_limbs qt_cells t_cells t_used t_lowest) H → va_D A (w_Digits_isZero G qt qt_limbs t_limbs qt_cells t_cells t_used t_lowest) → va_S A s.heap H locs → lv_has ls 5 [(0, .ref qt)] → W p l e { frames := 1, cells := 0, slots := 0, locals := 40 } s m ([.ref qt, .int a1] : List Value).toArray below meth c H locs 0 0 Q (F0 m 76 ls []) := by
    intro t_used t_cells  hf H locs ls hP hD hS hl
    unfold k_Digits_roundTo_76 at hf
    refine lv_aload_n hx hb d_Digits_roundTo_76 rfl (lv_at hl 0 rfl) ?_
    obtain ⟨u_77, hu_77, hf⟩ := bd_ hf
    refine CALLWv (va_runV (As := []) (rest := []) ⟨hx, hb, hml, hown, hg⟩ (c_Digits_trim l G K qt qt_limbs t_limbs qt_cells t_cells t_used t_lowest _ u_77  hu_77) (cwV 0 hg (gV m_181 m_182 m_183 m_179 m_184) rfl rfl rfl (by decide +kernel) ⟨Nat.le_of_ble_eq_true rfl, Nat.le_of_ble_eq_true rfl⟩) ⟨PC_b, va_recv hK hP (ci := 2) (q0 := 0) rfl rfl, PC_p hE hS hAb hP hD⟩ rfl rfl hl.1 rfl (lv_room (Nat.le_of_ble_eq_true rfl)) d_Digits_roundTo_77 ⟨Nat.zero_le _, Nat.zero_le _⟩) hP hD hS hA (fun H locs hP hD hS => ?_)
    have hP : va_P (gD G) vwCl (w_Digits_isZero G qt qt_limbs t_limbs qt_cells t_cells u_77 t_lowest) H := hP
    have hD : va_D A (w_Digits_isZero G qt qt_limbs t_limbs qt_cells t_cells u_77 t_lowest) := hD
    obtain rfl := Option.some.inj hf
    rw [← hQ]
    exact W.vret hx hb hr (fun t9 ht hW => ⟨⟨(), rfl, trivial, ⟨by rw [ht]; exact hP, hD⟩⟩, hS.F ht⟩) hS.2.2 d_Digits_roundTo_80
  have W_47 : ∀ (x2 : Int32) (x3 : Int32) (t_used : Int32) (b_x3 : bl x3) (n_47 : Nat) (z47 : Int32 × (Nat → Int32)) , lp_ (b_Digits_roundTo_47 K x2 x3 t_used) n_47 z47 = some res → ∀ (H : Heap) (locs : List Loc) (ls : Array Slot), va_P (gD G) vwCl (w_Digits_isZero G qt qt_limbs t_limbs qt_cells z47.2 t_used t_lowest) H → va_D A (w_Digits_isZero G qt qt_limbs t_limbs qt_cells z47.2 t_used t_lowest) → va_S A s.heap H locs → lv_has ls 5 [(0, .ref qt), (2, .int x2), (3, .int x3), (4, .int z47.1)] → W p l e { frames := 1, cells := 0, slots := 0, locals := 40 } s m ([.ref qt, .int a1] : List Value).toArray below meth c H locs 0 0 Q (F0 m 47 ls []) := by
    intro x2 x3 t_used b_x3 n_47
    induction n_47 with
    | zero =>
      intro z47  hf
      cases hf
    | succ n_47 ih_47 =>
      intro z47  hf H locs ls hP hD hS hl
      have hf : b_Digits_roundTo_47 K x2 x3 t_used (lp_ (b_Digits_roundTo_47 K x2 x3 t_used) n_47) z47 = some res := hf
      generalize lp_ (b_Digits_roundTo_47 K x2 x3 t_used) n_47 = rec_47 at hf ih_47
      unfold b_Digits_roundTo_47 at hf
      refine lv_iload hx hb d_Digits_roundTo_47 (lv_at hl 3 rfl) ?_
      refine lv_iload_n hx hb d_Digits_roundTo_49 rfl (lv_at hl 1 rfl) ?_
      refine lv_icmp_ge (tgt := 67) hx hb d_Digits_roundTo_50 (by decide) (fun c_50 => ?_) (fun c_50 => ?_)
      · have hf := ip_ c_50 hf
        refine lv_iload_n hx hb d_Digits_roundTo_67 rfl (lv_at hl 2 rfl) ?_
        refine lv_if_eq (tgt := 76) hx hb d_Digits_roundTo_68 (by decide) (fun c_68 => ?_) (fun c_68 => ?_)
        · have hf := ip_ c_68 hf
          exact W_76 t_used z47.2  hf _ _ _ hP hD hS (lv_sub hl [0] rfl)
        · have hf := in_ c_68 hf
          refine lv_aload_n hx hb d_Digits_roundTo_71 rfl (lv_at hl 0 rfl) ?_
          refine lv_iload_n hx hb d_Digits_roundTo_72 rfl (lv_at hl 1 rfl) ?_
          obtain ⟨u_73, hu_73, hf⟩ := bd_ hf
          refine CALLWv (va_runV (As := [.int x2]) (rest := []) ⟨hx, hb, hml, hown, hg⟩ (c_Digits_carryInto l G K qt qt_limbs t_limbs qt_cells z47.2 t_used t_lowest x2 _ u_73  hu_73) (cwV 1 hg (gV m_176 m_177 m_178 m_179 m_180) rfl rfl rfl (by decide +kernel) ⟨Nat.le_of_ble_eq_true rfl, Nat.le_of_ble_eq_true rfl⟩) ⟨PC_b, va_recv hK hP (ci := 2) (q0 := 0) rfl rfl, PC_p hE hS hAb hP hD⟩ rfl rfl hl.1 rfl (lv_room (Nat.le_of_ble_eq_true rfl)) d_Digits_roundTo_73 ⟨Nat.zero_le _, Nat.zero_le _⟩) hP hD hS hA (fun H locs hP hD hS => ?_)
          have hP : va_P (gD G) vwCl (w_Digits_isZero G qt qt_limbs t_limbs qt_cells u_73.2 u_73.1 t_lowest) H := hP
          have hD : va_D A (w_Digits_isZero G qt qt_limbs t_limbs qt_cells u_73.2 u_73.1 t_lowest) := hD
          exact W_76 u_73.1 u_73.2  hf _ _ _ hP hD hS (lv_sub hl [0] rfl)
      · have hf := in_ c_50 hf
        refine lv_aload_n hx hb d_Digits_roundTo_53 rfl (lv_at hl 0 rfl) ?_
        refine va_get (D := gD G) (ci := 2) (v := .ref qt_cells) (C := R_Digits) (T := F_Digits) (N := 4) hx hb hg in_Digits hown hK hP 0 rfl rfl 1 (by decide) (hg _ m_175) (fun _ h9 => h9) rfl d_Digits_roundTo_54 ?_
        refine lv_iload hx hb d_Digits_roundTo_57 (lv_at hl 3 rfl) ?_
        refine lv_iconst (v := 0) hx hb d_Digits_roundTo_59 (by decide) ?_
        obtain ⟨g_60, hf⟩ := gd_ hf
        refine va_bast hx hb hK hP hD hS 2 0 rfl rfl (inB_in g_60) d_Digits_roundTo_60 (fun H locs hP hD hS => ?_)
        have hP : va_P (gD G) vwCl (w_Digits_isZero G qt qt_limbs t_limbs qt_cells (upd z47.2 z47.1.toNatClampNeg (vp_nar .byte (0 : Int32))) t_used t_lowest) H := hP
        have hD : va_D A (w_Digits_isZero G qt qt_limbs t_limbs qt_cells (upd z47.2 z47.1.toNatClampNeg (vp_nar .byte (0 : Int32))) t_used t_lowest) := hD
        refine lv_iinc (v := (z47.1 + 1)) (lv' := [(4, .int (z47.1 + 1)), (0, .ref qt), (2, .int x2), (3, .int x3)]) hx hb d_Digits_roundTo_61 hl (k := 3) rfl rfl (by decide) rfl (fun ls hl => ?_)
        refine lv_goto (tgt := 47) hx hb d_Digits_roundTo_64 (by decide) ?_
        exact ih_47 ((z47.1 + 1), (upd z47.2 z47.1.toNatClampNeg (vp_nar .byte (0 : Int32))))  hf _ _ _ hP hD hS (lv_sub hl [1, 2, 3, 0] rfl)
  have W_43 : ∀ (x2 : Int32) (k0 : Int32) (t_used : Int32) (t_cells : (Nat → Int32)) (b_k0 : bl k0), k_Digits_roundTo_43 K x2 k0 t_used t_cells = some res → ∀ (H : Heap) (locs : List Loc) (ls : Array Slot), va_P (gD G) vwCl (w_Digits_isZero G qt qt_limbs t_limbs qt_cells t_cells t_used t_lowest) H → va_D A (w_Digits_isZero G qt qt_limbs t_limbs qt_cells t_cells t_used t_lowest) → va_S A s.heap H locs → lv_has ls 5 [(0, .ref qt), (2, .int x2)] → W p l e { frames := 1, cells := 0, slots := 0, locals := 40 } s m ([.ref qt, .int a1] : List Value).toArray below meth c H locs 0 0 Q (F0 m 43 ls [.int k0]) := by
    intro x2 k0 t_used t_cells b_k0 hf H locs ls hP hD hS hl
    unfold k_Digits_roundTo_43 at hf
    refine lv_istore_n (lv' := [(3, .int k0), (0, .ref qt), (2, .int x2)]) hx hb d_Digits_roundTo_43 rfl hl (by decide) rfl (fun ls hl => ?_)
    refine lv_iconst (v := 0) hx hb d_Digits_roundTo_44 (by decide) ?_
    refine lv_istore (lv' := [(4, .int (0 : Int32)), (3, .int k0), (0, .ref qt), (2, .int x2)]) hx hb d_Digits_roundTo_45 hl (by decide) rfl (fun ls hl => ?_)
    exact W_47 x2 k0 t_used b_k0 K ((0 : Int32), t_cells)  hf _ _ _ hP hD hS (lv_sub hl [2, 3, 1, 0] rfl)
  unfold f_Digits_roundTo at hf
  refine lv_iload_n hx hb d_Digits_roundTo_0 rfl (lv_at hl 1 rfl) ?_
  refine lv_aload_n hx hb d_Digits_roundTo_1 rfl (lv_at hl 0 rfl) ?_
  refine va_get (D := gD G) (ci := 2) (v := .int t_lowest) (C := R_Digits) (T := F_Digits) (N := 4) hx hb hg in_Digits hown hK hP 0 rfl rfl 3 (by decide) (hg _ m_174) (fun _ h9 => h9) rfl d_Digits_roundTo_2 ?_
  refine lv_isub hx hb d_Digits_roundTo_5 ?_
  refine lv_istore_n (lv' := [(2, .int (a1 - t_lowest)), (0, .ref qt), (1, .int a1)]) hx hb d_Digits_roundTo_6 rfl hl (by decide) rfl (fun ls hl => ?_)
  refine lv_iload_n hx hb d_Digits_roundTo_7 rfl (lv_at hl 0 rfl) ?_
  refine lv_if_gt (tgt := 12) hx hb d_Digits_roundTo_8 (by decide) (fun c_8 => ?_) (fun c_8 => ?_)
  · have hf := ip_ c_8 hf
    refine lv_iload_n hx hb d_Digits_roundTo_12 rfl (lv_at hl 0 rfl) ?_
    refine lv_aload_n hx hb d_Digits_roundTo_13 rfl (lv_at hl 1 rfl) ?_
    refine va_get (D := gD G) (ci := 2) (v := .int t_used) (C := R_Digits) (T := F_Digits) (N := 4) hx hb hg in_Digits hown hK hP 0 rfl rfl 2 (by decide) (hg _ m_173) (fun _ h9 => h9) rfl d_Digits_roundTo_14 ?_
    refine lv_icmp_le (tgt := 26) hx hb d_Digits_roundTo_17 (by decide) (fun c_17 => ?_) (fun c_17 => ?_)
    · have hf := ip_ c_17 hf
      refine lv_aload_n hx hb d_Digits_roundTo_26 rfl (lv_at hl 1 rfl) ?_
      refine va_get (D := gD G) (ci := 2) (v := .ref qt_cells) (C := R_Digits) (T := F_Digits) (N := 4) hx hb hg in_Digits hown hK hP 0 rfl rfl 1 (by decide) (hg _ m_175) (fun _ h9 => h9) rfl d_Digits_roundTo_27 ?_
      refine lv_iload_n hx hb d_Digits_roundTo_30 rfl (lv_at hl 0 rfl) ?_
      refine lv_iconst (v := 1) hx hb d_Digits_roundTo_31 (by decide) ?_
      refine lv_isub hx hb d_Digits_roundTo_32 ?_
      obtain ⟨g_33, hf⟩ := gd_ hf
      refine va_bald hx hb hK hP 2 0 rfl rfl (inB_in g_33) d_Digits_roundTo_33 ?_
      refine lv_iconst (v := 5) hx hb d_Digits_roundTo_34 (by decide) ?_
      refine lv_icmp_lt (tgt := 42) hx hb d_Digits_roundTo_35 (by decide) (fun c_35 => ?_) (fun c_35 => ?_)
      · have hf := ip_ c_35 hf
        refine lv_iconst (v := 0) hx hb d_Digits_roundTo_42 (by decide) ?_
        exact W_43 (a1 - t_lowest) (0 : Int32) t_used t_cells bl_0 hf _ _ _ hP hD hS (lv_sub hl [1, 0] rfl)
      · have hf := in_ c_35 hf
        refine lv_iconst (v := 1) hx hb d_Digits_roundTo_38 (by decide) ?_
        refine lv_goto (tgt := 43) hx hb d_Digits_roundTo_39 (by decide) ?_
        exact W_43 (a1 - t_lowest) (1 : Int32) t_used t_cells bl_1 hf _ _ _ hP hD hS (lv_sub hl [1, 0] rfl)
    · have hf := in_ c_17 hf
      refine lv_aload_n hx hb d_Digits_roundTo_20 rfl (lv_at hl 1 rfl) ?_
      refine lv_iconst (v := 0) hx hb d_Digits_roundTo_21 (by decide) ?_
      refine va_put (D := gD G) (ci := 2) (v := .int (0 : Int32)) (ty := .int) (C := R_Digits) (T := F_Digits) (N := 4) hx hb hg in_Digits t_Digits to_Digits no_Digits hown hK hP hD hS 0 rfl rfl 2 (by decide) (hg _ m_173) (fun _ h9 => h9) rfl (by decide +kernel) rfl rfl (Nat.le_of_ble_eq_true rfl) d_Digits_roundTo_22 (fun H locs hP hD hS => ?_)
      have hP : va_P (gD G) vwCl (w_Digits_isZero G qt qt_limbs t_limbs qt_cells t_cells (0 : Int32) t_lowest) H := hP
      have hD : va_D A (w_Digits_isZero G qt qt_limbs t_limbs qt_cells t_cells (0 : Int32) t_lowest) := hD
      obtain rfl := Option.some.inj hf
      rw [← hQ]
      exact W.vret hx hb hr (fun t9 ht hW => ⟨⟨(), rfl, trivial, ⟨by rw [ht]; exact hP, hD⟩⟩, hS.F ht⟩) hS.2.2 d_Digits_roundTo_25
  · have hf := in_ c_8 hf
    obtain rfl := Option.some.inj hf
    rw [← hQ]
    exact W.vret hx hb hr (fun t9 ht hW => ⟨⟨(), rfl, trivial, ⟨by rw [ht]; exact hP, hD⟩⟩, hS.F ht⟩) hS.2.2 d_Digits_roundTo_11
theorem d_Digits_setLimbs_0 : decode cd_Digits_setLimbs 0 = .ok (.iload_n 1, 1) := by decide +kernel
theorem d_Digits_setLimbs_1 : decode cd_Digits_setLimbs 1 = .ok (.ifCond .lt 34, 3) := by decide +kernel
theorem d_Digits_setLimbs_4 : decode cd_Digits_setLimbs 4 = .ok (.iload_n 1, 1) := by decide +kernel
theorem d_Digits_setLimbs_5 : decode cd_Digits_setLimbs 5 = .ok (.bipush 8, 2) := by decide +kernel
theorem d_Digits_setLimbs_7 : decode cd_Digits_setLimbs 7 = .ok (.if_icmp .ge 28, 3) := by decide +kernel
theorem d_Digits_setLimbs_10 : decode cd_Digits_setLimbs 10 = .ok (.aload_n 0, 1) := by decide +kernel
theorem d_Digits_setLimbs_11 : decode cd_Digits_setLimbs 11 = .ok (.getfield 9, 3) := by decide +kernel
theorem d_Digits_setLimbs_14 : decode cd_Digits_setLimbs 14 = .ok (.iconst 2, 1) := by decide +kernel
theorem d_Digits_setLimbs_15 : decode cd_Digits_setLimbs 15 = .ok (.iload_n 1, 1) := by decide +kernel
theorem d_Digits_setLimbs_16 : decode cd_Digits_setLimbs 16 = .ok (.imul, 1) := by decide +kernel
theorem d_Digits_setLimbs_17 : decode cd_Digits_setLimbs 17 = .ok (.lload_n 2, 1) := by decide +kernel
theorem d_Digits_setLimbs_18 : decode cd_Digits_setLimbs 18 = .ok (.l2i, 1) := by decide +kernel
theorem d_Digits_setLimbs_19 : decode cd_Digits_setLimbs 19 = .ok (.iastore, 1) := by decide +kernel
theorem d_Digits_setLimbs_20 : decode cd_Digits_setLimbs 20 = .ok (.aload_n 0, 1) := by decide +kernel
theorem d_Digits_setLimbs_21 : decode cd_Digits_setLimbs 21 = .ok (.getfield 9, 3) := by decide +kernel
theorem d_Digits_setLimbs_24 : decode cd_Digits_setLimbs 24 = .ok (.iconst 2, 1) := by decide +kernel
theorem d_Digits_setLimbs_25 : decode cd_Digits_setLimbs 25 = .ok (.iload_n 1, 1) := by decide +kernel
theorem d_Digits_setLimbs_26 : decode cd_Digits_setLimbs 26 = .ok (.imul, 1) := by decide +kernel
theorem d_Digits_setLimbs_27 : decode cd_Digits_setLimbs 27 = .ok (.iconst 1, 1) := by decide +kernel
theorem d_Digits_setLimbs_28 : decode cd_Digits_setLimbs 28 = .ok (.iadd, 1) := by decide +kernel
theorem d_Digits_setLimbs_29 : decode cd_Digits_setLimbs 29 = .ok (.lload_n 2, 1) := by decide +kernel
theorem d_Digits_setLimbs_30 : decode cd_Digits_setLimbs 30 = .ok (.bipush 32, 2) := by decide +kernel
theorem d_Digits_setLimbs_32 : decode cd_Digits_setLimbs 32 = .ok (.lushr, 1) := by decide +kernel
theorem d_Digits_setLimbs_33 : decode cd_Digits_setLimbs 33 = .ok (.l2i, 1) := by decide +kernel
theorem d_Digits_setLimbs_34 : decode cd_Digits_setLimbs 34 = .ok (.iastore, 1) := by decide +kernel
theorem d_Digits_setLimbs_35 : decode cd_Digits_setLimbs 35 = .ok (.return_, 1) := by decide +kernel
theorem m_185 : Cond.fieldLink R_Digits 9 "SpecifierDesk$Digits" "limbs" "[I" ∈ gw := gm (i := 190) (by decide +kernel) (by decide +kernel)
def f_Digits_setLimbs (t_limbs : Nat → Int32) (a1 : Int32) (a2 : Int64) : Option (Nat → Int32) :=
  (if a1 < 0 then some t_limbs else (if (8 : Int32) ≤ a1 then some t_limbs else (if inB ((2 : Int32) * a1) 16 = true then (if inB (((2 : Int32) * a1) + (1 : Int32)) 16 = true then some (upd (upd t_limbs ((2 : Int32) * a1).toNatClampNeg a2.toInt32) (((2 : Int32) * a1) + (1 : Int32)).toNatClampNeg (((a2.toUInt64 >>> ((32 : Int32).toInt64.toUInt64 &&& Int64.toUInt64 63)).toInt64).toInt32)) else none) else none)))
set_option maxHeartbeats 4000000 in
set_option maxRecDepth 100000 in
theorem c_Digits_setLimbs (l : Launch) (G : Gt) (K : Nat) (qt : Nat) (qt_limbs : Nat) (t_limbs : Nat → Int32) (qt_cells : Nat) (t_cells : Nat → Int32) (t_used : Int32) (t_lowest : Int32) (a1 : Int32) (a2 : Int64) (sz : Nat) (res : (Nat → Int32))   (hf : f_Digits_setLimbs t_limbs a1 a2 = some res) : Met l y_Digits_setLimbs (.code y_Digits_setLimbs cd_Digits_setLimbs 4 none :: gw) { frames := 0, cells := 0, slots := 0, locals := 0 } (PC G ([.ref qt, .int a1, .long a2] : List Value) sz (w_Digits_isZero G qt qt_limbs t_limbs qt_cells t_cells t_used t_lowest)) (QV G (va_A (w_Digits_isZero G qt qt_limbs t_limbs qt_cells t_cells t_used t_lowest) sz) (w_Digits_isZero G qt qt_limbs res qt_cells t_cells t_used t_lowest)) 0 0 (va_A (w_Digits_isZero G qt qt_limbs t_limbs qt_cells t_cells t_used t_lowest) sz) := by
  refine Met.ofW (cc := cd_Digits_setLimbs) (maxL := 4) (ret := none) (by decide) rfl ?_
  intro p e s m args below meth c s₁ B hml hv
  obtain ⟨rfl, hsz, hP, hE, hD0⟩ := hv
  have hx := B.exec
  have hb := B.bytes
  have hr := B.returns
  have hts := atoms_spec (ws := (.code y_Digits_setLimbs cd_Digits_setLimbs 4 none :: gw)) B.pre
  have hg : ∀ w ∈ gw, w.before _ s = true := fun w h => hts w (List.mem_cons_of_mem _ h)
  have hown : s.vm.findClass R_Digits = some m.cls := findClass_of_methodNamed B.named
  have hlocks := B.notSynchronized
  subst hsz
  have hK := hE.K
  have hD := hD0.self (sz := s.heap.size)
  have hAb := hE.ab hD0
  obtain ⟨Q, hQ⟩ : ∃ Q, MQ below (QV G (va_A (w_Digits_isZero G qt qt_limbs t_limbs qt_cells t_cells t_used t_lowest) s.heap.size) (w_Digits_isZero G qt qt_limbs res qt_cells t_cells t_used t_lowest)) ([.ref qt, .int a1, .long a2] : List Value).toArray s 0 0 (va_A (w_Digits_isZero G qt qt_limbs t_limbs qt_cells t_cells t_used t_lowest) s.heap.size) = Q := ⟨_, rfl⟩
  show W p l e { frames := 0, cells := 0, slots := 0, locals := 0 } s m ([.ref qt, .int a1, .long a2] : List Value).toArray below meth c s.heap [] 0 0 (MQ below (QV G (va_A (w_Digits_isZero G qt qt_limbs t_limbs qt_cells t_cells t_used t_lowest) s.heap.size) (w_Digits_isZero G qt qt_limbs res qt_cells t_cells t_used t_lowest)) ([.ref qt, .int a1, .long a2] : List Value).toArray s 0 0 (va_A (w_Digits_isZero G qt qt_limbs t_limbs qt_cells t_cells t_used t_lowest) s.heap.size)) _
  rw [hQ]
  have hA : ∀ q : Nat, s.heap.size ≤ q → va_A (w_Digits_isZero G qt qt_limbs t_limbs qt_cells t_cells t_used t_lowest) s.heap.size q := fun q h => Or.inr h
  obtain ⟨A, hAe⟩ : ∃ A, va_A (w_Digits_isZero G qt qt_limbs t_limbs qt_cells t_cells t_used t_lowest) s.heap.size = A := ⟨_, rfl⟩
  rw [hAe] at hA hD hAb hQ
  have hS : va_S A s.heap s.heap [] := va_S.rf
  have hl := lv_entry (([.ref qt, .int a1, .long a2] : List Value)) (n := 4) (Nat.le_of_ble_eq_true rfl)
  rw [lg_entry_eq]
  generalize (lg_sl (([.ref qt, .int a1, .long a2] : List Value)) ++ List.replicate (4 - (lg_sl (([.ref qt, .int a1, .long a2] : List Value))).length) Slot.unset).toArray = ls at hl ⊢
  have hl : lv_has ls 4 [(0, .ref qt), (1, .int a1), (2, .long a2)] := hl
  unfold f_Digits_setLimbs at hf
  refine lv_iload_n hx hb d_Digits_setLimbs_0 rfl (lv_at hl 1 rfl) ?_
  refine lv_if_lt (tgt := 35) hx hb d_Digits_setLimbs_1 (by decide) (fun c_1 => ?_) (fun c_1 => ?_)
  · have hf := ip_ c_1 hf
    obtain rfl := Option.some.inj hf
    rw [← hQ]
    exact W.vret hx hb hr (fun t9 ht hW => ⟨⟨(), rfl, trivial, ⟨by rw [ht]; exact hP, hD⟩⟩, hS.F ht⟩) hS.2.2 d_Digits_setLimbs_35
  · have hf := in_ c_1 hf
    refine lv_iload_n hx hb d_Digits_setLimbs_4 rfl (lv_at hl 1 rfl) ?_
    refine lv_bipush (v := 8) hx hb d_Digits_setLimbs_5 (by decide) ?_
    refine lv_icmp_ge (tgt := 35) hx hb d_Digits_setLimbs_7 (by decide) (fun c_7 => ?_) (fun c_7 => ?_)
    · have hf := ip_ c_7 hf
      obtain rfl := Option.some.inj hf
      rw [← hQ]
      exact W.vret hx hb hr (fun t9 ht hW => ⟨⟨(), rfl, trivial, ⟨by rw [ht]; exact hP, hD⟩⟩, hS.F ht⟩) hS.2.2 d_Digits_setLimbs_35
    · have hf := in_ c_7 hf
      refine lv_aload_n hx hb d_Digits_setLimbs_10 rfl (lv_at hl 0 rfl) ?_
      refine va_get (D := gD G) (ci := 2) (v := .ref qt_limbs) (C := R_Digits) (T := F_Digits) (N := 4) hx hb hg in_Digits hown hK hP 0 rfl rfl 0 (by decide) (hg _ m_185) (fun _ h9 => h9) rfl d_Digits_setLimbs_11 ?_
      refine lv_iconst (v := 2) hx hb d_Digits_setLimbs_14 (by decide) ?_
      refine lv_iload_n hx hb d_Digits_setLimbs_15 rfl (lv_at hl 1 rfl) ?_
      refine lv_imul hx hb d_Digits_setLimbs_16 ?_
      refine lv_lload_n hx hb d_Digits_setLimbs_17 rfl (lv_at hl 2 rfl) ?_
      refine lv_l2i (v := a2.toInt32) hx hb d_Digits_setLimbs_18 rfl ?_
      obtain ⟨g_19, hf⟩ := gd_ hf
      refine va_iast hx hb hK hP hD hS 1 1 rfl rfl (inB_in g_19) d_Digits_setLimbs_19 (fun H locs hP hD hS => ?_)
      have hP : va_P (gD G) vwCl (w_Digits_isZero G qt qt_limbs (upd t_limbs ((2 : Int32) * a1).toNatClampNeg a2.toInt32) qt_cells t_cells t_used t_lowest) H := hP
      have hD : va_D A (w_Digits_isZero G qt qt_limbs (upd t_limbs ((2 : Int32) * a1).toNatClampNeg a2.toInt32) qt_cells t_cells t_used t_lowest) := hD
      refine lv_aload_n hx hb d_Digits_setLimbs_20 rfl (lv_at hl 0 rfl) ?_
      refine va_get (D := gD G) (ci := 2) (v := .ref qt_limbs) (C := R_Digits) (T := F_Digits) (N := 4) hx hb hg in_Digits hown hK hP 0 rfl rfl 0 (by decide) (hg _ m_185) (fun _ h9 => h9) rfl d_Digits_setLimbs_21 ?_
      refine lv_iconst (v := 2) hx hb d_Digits_setLimbs_24 (by decide) ?_
      refine lv_iload_n hx hb d_Digits_setLimbs_25 rfl (lv_at hl 1 rfl) ?_
      refine lv_imul hx hb d_Digits_setLimbs_26 ?_
      refine lv_iconst (v := 1) hx hb d_Digits_setLimbs_27 (by decide) ?_
      refine lv_iadd hx hb d_Digits_setLimbs_28 ?_
      refine lv_lload_n hx hb d_Digits_setLimbs_29 rfl (lv_at hl 2 rfl) ?_
      refine lv_bipush (v := 32) hx hb d_Digits_setLimbs_30 (by decide) ?_
      refine lv_lushr (v := (a2.toUInt64 >>> ((32 : Int32).toInt64.toUInt64 &&& Int64.toUInt64 63)).toInt64) hx hb d_Digits_setLimbs_32 rfl ?_
      refine lv_l2i (v := ((a2.toUInt64 >>> ((32 : Int32).toInt64.toUInt64 &&& Int64.toUInt64 63)).toInt64).toInt32) hx hb d_Digits_setLimbs_33 rfl ?_
      obtain ⟨g_34, hf⟩ := gd_ hf
      refine va_iast hx hb hK hP hD hS 1 1 rfl rfl (inB_in g_34) d_Digits_setLimbs_34 (fun H locs hP hD hS => ?_)
      have hP : va_P (gD G) vwCl (w_Digits_isZero G qt qt_limbs (upd (upd t_limbs ((2 : Int32) * a1).toNatClampNeg a2.toInt32) (((2 : Int32) * a1) + (1 : Int32)).toNatClampNeg (((a2.toUInt64 >>> ((32 : Int32).toInt64.toUInt64 &&& Int64.toUInt64 63)).toInt64).toInt32)) qt_cells t_cells t_used t_lowest) H := hP
      have hD : va_D A (w_Digits_isZero G qt qt_limbs (upd (upd t_limbs ((2 : Int32) * a1).toNatClampNeg a2.toInt32) (((2 : Int32) * a1) + (1 : Int32)).toNatClampNeg (((a2.toUInt64 >>> ((32 : Int32).toInt64.toUInt64 &&& Int64.toUInt64 63)).toInt64).toInt32)) qt_cells t_cells t_used t_lowest) := hD
      obtain rfl := Option.some.inj hf
      rw [← hQ]
      exact W.vret hx hb hr (fun t9 ht hW => ⟨⟨(), rfl, trivial, ⟨by rw [ht]; exact hP, hD⟩⟩, hS.F ht⟩) hS.2.2 d_Digits_setLimbs_35
theorem d_Digits_topFrom_0 : decode cd_Digits_topFrom 0 = .ok (.iload_n 1, 1) := by decide +kernel
theorem d_Digits_topFrom_1 : decode cd_Digits_topFrom 1 = .ok (.istore_n 2, 1) := by decide +kernel
theorem d_Digits_topFrom_2 : decode cd_Digits_topFrom 2 = .ok (.iload_n 2, 1) := by decide +kernel
theorem d_Digits_topFrom_3 : decode cd_Digits_topFrom 3 = .ok (.ifCond .le 20, 3) := by decide +kernel
theorem d_Digits_topFrom_6 : decode cd_Digits_topFrom 6 = .ok (.aload_n 0, 1) := by decide +kernel
theorem d_Digits_topFrom_7 : decode cd_Digits_topFrom 7 = .ok (.getfield 9, 3) := by decide +kernel
theorem d_Digits_topFrom_10 : decode cd_Digits_topFrom 10 = .ok (.iload_n 2, 1) := by decide +kernel
theorem d_Digits_topFrom_11 : decode cd_Digits_topFrom 11 = .ok (.iconst 1, 1) := by decide +kernel
theorem d_Digits_topFrom_12 : decode cd_Digits_topFrom 12 = .ok (.isub, 1) := by decide +kernel
theorem d_Digits_topFrom_13 : decode cd_Digits_topFrom 13 = .ok (.iaload, 1) := by decide +kernel
theorem d_Digits_topFrom_14 : decode cd_Digits_topFrom 14 = .ok (.ifCond .ne 9, 3) := by decide +kernel
theorem d_Digits_topFrom_17 : decode cd_Digits_topFrom 17 = .ok (.iinc 2 (-1), 3) := by decide +kernel
theorem d_Digits_topFrom_20 : decode cd_Digits_topFrom 20 = .ok (.goto (-18), 3) := by decide +kernel
theorem d_Digits_topFrom_23 : decode cd_Digits_topFrom 23 = .ok (.iload_n 2, 1) := by decide +kernel
theorem d_Digits_topFrom_24 : decode cd_Digits_topFrom 24 = .ok (.ireturn, 1) := by decide +kernel
def b_Digits_topFrom_2 (t_limbs : Nat → Int32)  (rec_2 : Int32 → Option Int32) (z2 : Int32) : Option Int32 :=
  (if z2 ≤ 0 then some z2 else (if inB (z2 - (1 : Int32)) 16 = true then (if (t_limbs (z2 - (1 : Int32)).toNatClampNeg) = 0 then rec_2 (z2 + (-1)) else some z2) else none))
def f_Digits_topFrom (K : Nat) (t_limbs : Nat → Int32) (a1 : Int32) : Option Int32 :=
  lp_ (b_Digits_topFrom_2 t_limbs ) K a1
set_option maxHeartbeats 4000000 in
set_option maxRecDepth 100000 in
theorem c_Digits_topFrom (l : Launch) (G : Gt) (K : Nat) (qt : Nat) (qt_limbs : Nat) (t_limbs : Nat → Int32) (qt_cells : Nat) (t_cells : Nat → Int32) (t_used : Int32) (t_lowest : Int32) (a1 : Int32) (sz : Nat) (res : Int32)   (hf : f_Digits_topFrom K t_limbs a1 = some res) : Met l y_Digits_topFrom (.code y_Digits_topFrom cd_Digits_topFrom 3 (some .int) :: gw) { frames := 0, cells := 0, slots := 0, locals := 0 } (PC G ([.ref qt, .int a1] : List Value) sz (w_Digits_isZero G qt qt_limbs t_limbs qt_cells t_cells t_used t_lowest)) (QI G res (va_A (w_Digits_isZero G qt qt_limbs t_limbs qt_cells t_cells t_used t_lowest) sz) (w_Digits_isZero G qt qt_limbs t_limbs qt_cells t_cells t_used t_lowest)) 0 0 (va_A (w_Digits_isZero G qt qt_limbs t_limbs qt_cells t_cells t_used t_lowest) sz) := by
  refine Met.ofW (cc := cd_Digits_topFrom) (maxL := 3) (ret := (some .int)) (by decide) rfl ?_
  intro p e s m args below meth c s₁ B hml hv
  obtain ⟨rfl, hsz, hP, hE, hD0⟩ := hv
  have hx := B.exec
  have hb := B.bytes
  have hr := B.returns
  have hts := atoms_spec (ws := (.code y_Digits_topFrom cd_Digits_topFrom 3 (some .int) :: gw)) B.pre
  have hg : ∀ w ∈ gw, w.before _ s = true := fun w h => hts w (List.mem_cons_of_mem _ h)
  have hown : s.vm.findClass R_Digits = some m.cls := findClass_of_methodNamed B.named
  have hlocks := B.notSynchronized
  subst hsz
  have hK := hE.K
  have hD := hD0.self (sz := s.heap.size)
  have hAb := hE.ab hD0
  obtain ⟨Q, hQ⟩ : ∃ Q, MQ below (QI G res (va_A (w_Digits_isZero G qt qt_limbs t_limbs qt_cells t_cells t_used t_lowest) s.heap.size) (w_Digits_isZero G qt qt_limbs t_limbs qt_cells t_cells t_used t_lowest)) ([.ref qt, .int a1] : List Value).toArray s 0 0 (va_A (w_Digits_isZero G qt qt_limbs t_limbs qt_cells t_cells t_used t_lowest) s.heap.size) = Q := ⟨_, rfl⟩
  show W p l e { frames := 0, cells := 0, slots := 0, locals := 0 } s m ([.ref qt, .int a1] : List Value).toArray below meth c s.heap [] 0 0 (MQ below (QI G res (va_A (w_Digits_isZero G qt qt_limbs t_limbs qt_cells t_cells t_used t_lowest) s.heap.size) (w_Digits_isZero G qt qt_limbs t_limbs qt_cells t_cells t_used t_lowest)) ([.ref qt, .int a1] : List Value).toArray s 0 0 (va_A (w_Digits_isZero G qt qt_limbs t_limbs qt_cells t_cells t_used t_lowest) s.heap.size)) _
  rw [hQ]
  have hA : ∀ q : Nat, s.heap.size ≤ q → va_A (w_Digits_isZero G qt qt_limbs t_limbs qt_cells t_cells t_used t_lowest) s.heap.size q := fun q h => Or.inr h
  obtain ⟨A, hAe⟩ : ∃ A, va_A (w_Digits_isZero G qt qt_limbs t_limbs qt_cells t_cells t_used t_lowest) s.heap.size = A := ⟨_, rfl⟩
  rw [hAe] at hA hD hAb hQ
  have hS : va_S A s.heap s.heap [] := va_S.rf
  have hl := lv_entry (([.ref qt, .int a1] : List Value)) (n := 3) (Nat.le_of_ble_eq_true rfl)
  rw [lg_entry_eq]
  generalize (lg_sl (([.ref qt, .int a1] : List Value)) ++ List.replicate (3 - (lg_sl (([.ref qt, .int a1] : List Value))).length) Slot.unset).toArray = ls at hl ⊢
  have hl : lv_has ls 3 [(0, .ref qt), (1, .int a1)] := hl
  have W_2 : ∀   (n_2 : Nat) (z2 : Int32) , lp_ (b_Digits_topFrom_2 t_limbs ) n_2 z2 = some res → ∀ (H : Heap) (locs : List Loc) (ls : Array Slot), va_P (gD G) vwCl (w_Digits_isZero G qt qt_limbs t_limbs qt_cells t_cells t_used t_lowest) H → va_D A (w_Digits_isZero G qt qt_limbs t_limbs qt_cells t_cells t_used t_lowest) → va_S A s.heap H locs → lv_has ls 3 [(0, .ref qt), (2, .int z2)] → W p l e { frames := 0, cells := 0, slots := 0, locals := 0 } s m ([.ref qt, .int a1] : List Value).toArray below meth c H locs 0 0 Q (F0 m 2 ls []) := by
    intro  n_2
    induction n_2 with
    | zero =>
      intro z2  hf
      cases hf
    | succ n_2 ih_2 =>
      intro z2  hf H locs ls hP hD hS hl
      have hf : b_Digits_topFrom_2 t_limbs  (lp_ (b_Digits_topFrom_2 t_limbs ) n_2) z2 = some res := hf
      generalize lp_ (b_Digits_topFrom_2 t_limbs ) n_2 = rec_2 at hf ih_2
      unfold b_Digits_topFrom_2 at hf
      refine lv_iload_n hx hb d_Digits_topFrom_2 rfl (lv_at hl 1 rfl) ?_
      refine lv_if_le (tgt := 23) hx hb d_Digits_topFrom_3 (by decide) (fun c_3 => ?_) (fun c_3 => ?_)
      · have hf := ip_ c_3 hf
        refine lv_iload_n hx hb d_Digits_topFrom_23 rfl (lv_at hl 1 rfl) ?_
        obtain rfl := Option.some.inj hf
        rw [← hQ]
        exact W.iret (v := z2) hx hb hr (fun t9 ht hW => ⟨⟨z2, (), rfl, rfl, ⟨by rw [ht]; exact hP, hD⟩⟩, hS.F ht⟩) hS.2.2 d_Digits_topFrom_24
      · have hf := in_ c_3 hf
        refine lv_aload_n hx hb d_Digits_topFrom_6 rfl (lv_at hl 0 rfl) ?_
        refine va_get (D := gD G) (ci := 2) (v := .ref qt_limbs) (C := R_Digits) (T := F_Digits) (N := 4) hx hb hg in_Digits hown hK hP 0 rfl rfl 0 (by decide) (hg _ m_185) (fun _ h9 => h9) rfl d_Digits_topFrom_7 ?_
        refine lv_iload_n hx hb d_Digits_topFrom_10 rfl (lv_at hl 1 rfl) ?_
        refine lv_iconst (v := 1) hx hb d_Digits_topFrom_11 (by decide) ?_
        refine lv_isub hx hb d_Digits_topFrom_12 ?_
        obtain ⟨g_13, hf⟩ := gd_ hf
        refine va_iald hx hb hK hP 1 1 rfl rfl (inB_in g_13) d_Digits_topFrom_13 ?_
        refine lv_if_ne (tgt := 23) hx hb d_Digits_topFrom_14 (by decide) (fun c_14 => ?_) (fun c_14 => ?_)
        · have hf := in_ c_14 hf
          refine lv_iload_n hx hb d_Digits_topFrom_23 rfl (lv_at hl 1 rfl) ?_
          obtain rfl := Option.some.inj hf
          rw [← hQ]
          exact W.iret (v := z2) hx hb hr (fun t9 ht hW => ⟨⟨z2, (), rfl, rfl, ⟨by rw [ht]; exact hP, hD⟩⟩, hS.F ht⟩) hS.2.2 d_Digits_topFrom_24
        · have hf := ip_ c_14 hf
          refine lv_iinc (v := (z2 + (-1))) (lv' := [(2, .int (z2 + (-1))), (0, .ref qt)]) hx hb d_Digits_topFrom_17 hl (k := 1) rfl rfl (by decide) rfl (fun ls hl => ?_)
          refine lv_goto (tgt := 2) hx hb d_Digits_topFrom_20 (by decide) ?_
          exact ih_2 (z2 + (-1))  hf _ _ _ hP hD hS (lv_sub hl [1, 0] rfl)
  unfold f_Digits_topFrom at hf
  refine lv_iload_n hx hb d_Digits_topFrom_0 rfl (lv_at hl 1 rfl) ?_
  refine lv_istore_n (lv' := [(2, .int a1), (0, .ref qt), (1, .int a1)]) hx hb d_Digits_topFrom_1 rfl hl (by decide) rfl (fun ls hl => ?_)
  exact W_2   K a1  hf _ _ _ hP hD hS (lv_sub hl [1, 0] rfl)
theorem d_Digits_divide_0 : decode cd_Digits_divide 0 = .ok (.lconst 0, 1) := by decide +kernel
theorem d_Digits_divide_1 : decode cd_Digits_divide 1 = .ok (.lstore_n 3, 1) := by decide +kernel
theorem d_Digits_divide_2 : decode cd_Digits_divide 2 = .ok (.iload_n 1, 1) := by decide +kernel
theorem d_Digits_divide_3 : decode cd_Digits_divide 3 = .ok (.iconst 1, 1) := by decide +kernel
theorem d_Digits_divide_4 : decode cd_Digits_divide 4 = .ok (.isub, 1) := by decide +kernel
theorem d_Digits_divide_5 : decode cd_Digits_divide 5 = .ok (.istore 5, 2) := by decide +kernel
theorem d_Digits_divide_7 : decode cd_Digits_divide 7 = .ok (.iload 5, 2) := by decide +kernel
theorem d_Digits_divide_9 : decode cd_Digits_divide 9 = .ok (.ifCond .lt 51, 3) := by decide +kernel
theorem d_Digits_divide_12 : decode cd_Digits_divide 12 = .ok (.iload_n 2, 1) := by decide +kernel
theorem d_Digits_divide_13 : decode cd_Digits_divide 13 = .ok (.ifCond .le 47, 3) := by decide +kernel
theorem d_Digits_divide_16 : decode cd_Digits_divide 16 = .ok (.lload_n 3, 1) := by decide +kernel
theorem d_Digits_divide_17 : decode cd_Digits_divide 17 = .ok (.bipush 32, 2) := by decide +kernel
theorem d_Digits_divide_19 : decode cd_Digits_divide 19 = .ok (.lshl, 1) := by decide +kernel
theorem d_Digits_divide_20 : decode cd_Digits_divide 20 = .ok (.aload_n 0, 1) := by decide +kernel
theorem d_Digits_divide_21 : decode cd_Digits_divide 21 = .ok (.getfield 9, 3) := by decide +kernel
theorem d_Digits_divide_24 : decode cd_Digits_divide 24 = .ok (.iload 5, 2) := by decide +kernel
theorem d_Digits_divide_26 : decode cd_Digits_divide 26 = .ok (.iaload, 1) := by decide +kernel
theorem d_Digits_divide_27 : decode cd_Digits_divide 27 = .ok (.i2l, 1) := by decide +kernel
theorem d_Digits_divide_28 : decode cd_Digits_divide 28 = .ok (.ldc2_w 62, 3) := by decide +kernel
theorem d_Digits_divide_31 : decode cd_Digits_divide 31 = .ok (.land, 1) := by decide +kernel
theorem d_Digits_divide_32 : decode cd_Digits_divide 32 = .ok (.lor, 1) := by decide +kernel
theorem d_Digits_divide_33 : decode cd_Digits_divide 33 = .ok (.lstore 6, 2) := by decide +kernel
theorem d_Digits_divide_35 : decode cd_Digits_divide 35 = .ok (.aload_n 0, 1) := by decide +kernel
theorem d_Digits_divide_36 : decode cd_Digits_divide 36 = .ok (.getfield 9, 3) := by decide +kernel
theorem d_Digits_divide_39 : decode cd_Digits_divide 39 = .ok (.iload 5, 2) := by decide +kernel
theorem d_Digits_divide_41 : decode cd_Digits_divide 41 = .ok (.lload 6, 2) := by decide +kernel
theorem d_Digits_divide_43 : decode cd_Digits_divide 43 = .ok (.iload_n 2, 1) := by decide +kernel
theorem d_Digits_divide_44 : decode cd_Digits_divide 44 = .ok (.i2l, 1) := by decide +kernel
theorem d_Digits_divide_45 : decode cd_Digits_divide 45 = .ok (.ldiv, 1) := by decide +kernel
theorem d_Digits_divide_46 : decode cd_Digits_divide 46 = .ok (.l2i, 1) := by decide +kernel
theorem d_Digits_divide_47 : decode cd_Digits_divide 47 = .ok (.iastore, 1) := by decide +kernel
theorem d_Digits_divide_48 : decode cd_Digits_divide 48 = .ok (.lload 6, 2) := by decide +kernel
theorem d_Digits_divide_50 : decode cd_Digits_divide 50 = .ok (.iload_n 2, 1) := by decide +kernel
theorem d_Digits_divide_51 : decode cd_Digits_divide 51 = .ok (.i2l, 1) := by decide +kernel
theorem d_Digits_divide_52 : decode cd_Digits_divide 52 = .ok (.lrem, 1) := by decide +kernel
theorem d_Digits_divide_53 : decode cd_Digits_divide 53 = .ok (.lstore_n 3, 1) := by decide +kernel
theorem d_Digits_divide_54 : decode cd_Digits_divide 54 = .ok (.iinc 5 (-1), 3) := by decide +kernel
theorem d_Digits_divide_57 : decode cd_Digits_divide 57 = .ok (.goto (-50), 3) := by decide +kernel
theorem d_Digits_divide_60 : decode cd_Digits_divide 60 = .ok (.lload_n 3, 1) := by decide +kernel
theorem d_Digits_divide_61 : decode cd_Digits_divide 61 = .ok (.lreturn, 1) := by decide +kernel
theorem m_186 : Cond.constantLong R_Digits 62 4294967295 ∈ gw := gm (i := 711) (by decide +kernel) (by decide +kernel)
def b_Digits_divide_7 (a2 : Int32)  (rec_7 : (Int64 × Int32 × (Nat → Int32)) → Option (Int64 × (Nat → Int32))) (z7 : Int64 × Int32 × (Nat → Int32)) : Option (Int64 × (Nat → Int32)) :=
  (if z7.2.1 < 0 then some (z7.1, z7.2.2) else (if a2 ≤ 0 then some (z7.1, z7.2.2) else (if inB z7.2.1 16 = true then (if a2.toInt64 = 0 then none else (if inB z7.2.1 16 = true then (if a2.toInt64 = 0 then none else rec_7 ((((z7.1 <<< ((32 : Int32).toInt64 &&& 63)) ||| ((z7.2.2 z7.2.1.toNatClampNeg).toInt64 &&& (4294967295 : Int64))) - ((z7.1 <<< ((32 : Int32).toInt64 &&& 63)) ||| ((z7.2.2 z7.2.1.toNatClampNeg).toInt64 &&& (4294967295 : Int64))) / a2.toInt64 * a2.toInt64), (z7.2.1 + (-1)), (upd z7.2.2 z7.2.1.toNatClampNeg ((((z7.1 <<< ((32 : Int32).toInt64 &&& 63)) ||| ((z7.2.2 z7.2.1.toNatClampNeg).toInt64 &&& (4294967295 : Int64))) / a2.toInt64).toInt32)))) else none)) else none)))
def f_Digits_divide (K : Nat) (t_limbs : Nat → Int32) (a1 : Int32) (a2 : Int32) : Option (Int64 × (Nat → Int32)) :=
  lp_ (b_Digits_divide_7 a2 ) K ((0 : Int64), (a1 - (1 : Int32)), t_limbs)
set_option maxHeartbeats 4000000 in
set_option maxRecDepth 100000 in
theorem c_Digits_divide (l : Launch) (G : Gt) (K : Nat) (qt : Nat) (qt_limbs : Nat) (t_limbs : Nat → Int32) (qt_cells : Nat) (t_cells : Nat → Int32) (t_used : Int32) (t_lowest : Int32) (a1 : Int32) (a2 : Int32) (sz : Nat) (res : Int64 × (Nat → Int32))   (hf : f_Digits_divide K t_limbs a1 a2 = some res) : Met l y_Digits_divide (.code y_Digits_divide cd_Digits_divide 8 (some .long) :: gw) { frames := 0, cells := 0, slots := 0, locals := 0 } (PC G ([.ref qt, .int a1, .int a2] : List Value) sz (w_Digits_isZero G qt qt_limbs t_limbs qt_cells t_cells t_used t_lowest)) (QL G res.1 (va_A (w_Digits_isZero G qt qt_limbs t_limbs qt_cells t_cells t_used t_lowest) sz) (w_Digits_isZero G qt qt_limbs res.2 qt_cells t_cells t_used t_lowest)) 0 0 (va_A (w_Digits_isZero G qt qt_limbs t_limbs qt_cells t_cells t_used t_lowest) sz) := by
  refine Met.ofW (cc := cd_Digits_divide) (maxL := 8) (ret := (some .long)) (by decide) rfl ?_
  intro p e s m args below meth c s₁ B hml hv
  obtain ⟨rfl, hsz, hP, hE, hD0⟩ := hv
  have hx := B.exec
  have hb := B.bytes
  have hr := B.returns
  have hts := atoms_spec (ws := (.code y_Digits_divide cd_Digits_divide 8 (some .long) :: gw)) B.pre
  have hg : ∀ w ∈ gw, w.before _ s = true := fun w h => hts w (List.mem_cons_of_mem _ h)
  have hown : s.vm.findClass R_Digits = some m.cls := findClass_of_methodNamed B.named
  have hlocks := B.notSynchronized
  subst hsz
  have hK := hE.K
  have hD := hD0.self (sz := s.heap.size)
  have hAb := hE.ab hD0
  obtain ⟨Q, hQ⟩ : ∃ Q, MQ below (QL G res.1 (va_A (w_Digits_isZero G qt qt_limbs t_limbs qt_cells t_cells t_used t_lowest) s.heap.size) (w_Digits_isZero G qt qt_limbs res.2 qt_cells t_cells t_used t_lowest)) ([.ref qt, .int a1, .int a2] : List Value).toArray s 0 0 (va_A (w_Digits_isZero G qt qt_limbs t_limbs qt_cells t_cells t_used t_lowest) s.heap.size) = Q := ⟨_, rfl⟩
  show W p l e { frames := 0, cells := 0, slots := 0, locals := 0 } s m ([.ref qt, .int a1, .int a2] : List Value).toArray below meth c s.heap [] 0 0 (MQ below (QL G res.1 (va_A (w_Digits_isZero G qt qt_limbs t_limbs qt_cells t_cells t_used t_lowest) s.heap.size) (w_Digits_isZero G qt qt_limbs res.2 qt_cells t_cells t_used t_lowest)) ([.ref qt, .int a1, .int a2] : List Value).toArray s 0 0 (va_A (w_Digits_isZero G qt qt_limbs t_limbs qt_cells t_cells t_used t_lowest) s.heap.size)) _
  rw [hQ]
  have hA : ∀ q : Nat, s.heap.size ≤ q → va_A (w_Digits_isZero G qt qt_limbs t_limbs qt_cells t_cells t_used t_lowest) s.heap.size q := fun q h => Or.inr h
  obtain ⟨A, hAe⟩ : ∃ A, va_A (w_Digits_isZero G qt qt_limbs t_limbs qt_cells t_cells t_used t_lowest) s.heap.size = A := ⟨_, rfl⟩
  rw [hAe] at hA hD hAb hQ
  have hS : va_S A s.heap s.heap [] := va_S.rf
  have hl := lv_entry (([.ref qt, .int a1, .int a2] : List Value)) (n := 8) (Nat.le_of_ble_eq_true rfl)
  rw [lg_entry_eq]
  generalize (lg_sl (([.ref qt, .int a1, .int a2] : List Value)) ++ List.replicate (8 - (lg_sl (([.ref qt, .int a1, .int a2] : List Value))).length) Slot.unset).toArray = ls at hl ⊢
  have hl : lv_has ls 8 [(0, .ref qt), (1, .int a1), (2, .int a2)] := hl
  have W_7 : ∀   (n_7 : Nat) (z7 : Int64 × Int32 × (Nat → Int32)) , lp_ (b_Digits_divide_7 a2 ) n_7 z7 = some res → ∀ (H : Heap) (locs : List Loc) (ls : Array Slot), va_P (gD G) vwCl (w_Digits_isZero G qt qt_limbs z7.2.2 qt_cells t_cells t_used t_lowest) H → va_D A (w_Digits_isZero G qt qt_limbs z7.2.2 qt_cells t_cells t_used t_lowest) → va_S A s.heap H locs → lv_has ls 8 [(0, .ref qt), (2, .int a2), (3, .long z7.1), (5, .int z7.2.1)] → W p l e { frames := 0, cells := 0, slots := 0, locals := 0 } s m ([.ref qt, .int a1, .int a2] : List Value).toArray below meth c H locs 0 0 Q (F0 m 7 ls []) := by
    intro  n_7
    induction n_7 with
    | zero =>
      intro z7  hf
      cases hf
    | succ n_7 ih_7 =>
      intro z7  hf H locs ls hP hD hS hl
      have hf : b_Digits_divide_7 a2  (lp_ (b_Digits_divide_7 a2 ) n_7) z7 = some res := hf
      generalize lp_ (b_Digits_divide_7 a2 ) n_7 = rec_7 at hf ih_7
      unfold b_Digits_divide_7 at hf
      refine lv_iload hx hb d_Digits_divide_7 (lv_at hl 3 rfl) ?_
      refine lv_if_lt (tgt := 60) hx hb d_Digits_divide_9 (by decide) (fun c_9 => ?_) (fun c_9 => ?_)
      · have hf := ip_ c_9 hf
        refine lv_lload_n hx hb d_Digits_divide_60 rfl (lv_at hl 2 rfl) ?_
        obtain rfl := Option.some.inj hf
        rw [← hQ]
        exact W.lret (v := z7.1) hx hb hr (fun t9 ht hW => ⟨⟨z7.1, (), rfl, rfl, ⟨by rw [ht]; exact hP, hD⟩⟩, hS.F ht⟩) hS.2.2 d_Digits_divide_61
      · have hf := in_ c_9 hf
        refine lv_iload_n hx hb d_Digits_divide_12 rfl (lv_at hl 1 rfl) ?_
        refine lv_if_le (tgt := 60) hx hb d_Digits_divide_13 (by decide) (fun c_13 => ?_) (fun c_13 => ?_)
        · have hf := ip_ c_13 hf
          refine lv_lload_n hx hb d_Digits_divide_60 rfl (lv_at hl 2 rfl) ?_
          obtain rfl := Option.some.inj hf
          rw [← hQ]
          exact W.lret (v := z7.1) hx hb hr (fun t9 ht hW => ⟨⟨z7.1, (), rfl, rfl, ⟨by rw [ht]; exact hP, hD⟩⟩, hS.F ht⟩) hS.2.2 d_Digits_divide_61
        · have hf := in_ c_13 hf
          refine lv_lload_n hx hb d_Digits_divide_16 rfl (lv_at hl 2 rfl) ?_
          refine lv_bipush (v := 32) hx hb d_Digits_divide_17 (by decide) ?_
          refine lv_lshl (v := (z7.1 <<< ((32 : Int32).toInt64 &&& 63))) hx hb d_Digits_divide_19 rfl ?_
          refine lv_aload_n hx hb d_Digits_divide_20 rfl (lv_at hl 0 rfl) ?_
          refine va_get (D := gD G) (ci := 2) (v := .ref qt_limbs) (C := R_Digits) (T := F_Digits) (N := 4) hx hb hg in_Digits hown hK hP 0 rfl rfl 0 (by decide) (hg _ m_185) (fun _ h9 => h9) rfl d_Digits_divide_21 ?_
          refine lv_iload hx hb d_Digits_divide_24 (lv_at hl 3 rfl) ?_
          obtain ⟨g_26, hf⟩ := gd_ hf
          refine va_iald hx hb hK hP 1 1 rfl rfl (inB_in g_26) d_Digits_divide_26 ?_
          refine lv_i2l (v := (z7.2.2 z7.2.1.toNatClampNeg).toInt64) hx hb d_Digits_divide_27 rfl ?_
          refine lv_ldc2 (v := 4294967295) hx hb hown (hg _ m_186) d_Digits_divide_28 ?_
          refine lv_land hx hb d_Digits_divide_31 ?_
          refine lv_lor hx hb d_Digits_divide_32 ?_
          refine lv_lstore (lv' := [(6, .long ((z7.1 <<< ((32 : Int32).toInt64 &&& 63)) ||| ((z7.2.2 z7.2.1.toNatClampNeg).toInt64 &&& (4294967295 : Int64)))), (0, .ref qt), (2, .int a2), (3, .long z7.1), (5, .int z7.2.1)]) hx hb d_Digits_divide_33 hl (by decide) rfl (fun ls hl => ?_)
          refine lv_aload_n hx hb d_Digits_divide_35 rfl (lv_at hl 1 rfl) ?_
          refine va_get (D := gD G) (ci := 2) (v := .ref qt_limbs) (C := R_Digits) (T := F_Digits) (N := 4) hx hb hg in_Digits hown hK hP 0 rfl rfl 0 (by decide) (hg _ m_185) (fun _ h9 => h9) rfl d_Digits_divide_36 ?_
          refine lv_iload hx hb d_Digits_divide_39 (lv_at hl 4 rfl) ?_
          refine lv_lload hx hb d_Digits_divide_41 (lv_at hl 0 rfl) ?_
          refine lv_iload_n hx hb d_Digits_divide_43 rfl (lv_at hl 2 rfl) ?_
          refine lv_i2l (v := a2.toInt64) hx hb d_Digits_divide_44 rfl ?_
          obtain ⟨g_45, hf⟩ := gn_ hf
          refine lv_ldiv hx hb d_Digits_divide_45 g_45 ?_
          refine lv_l2i (v := (((z7.1 <<< ((32 : Int32).toInt64 &&& 63)) ||| ((z7.2.2 z7.2.1.toNatClampNeg).toInt64 &&& (4294967295 : Int64))) / a2.toInt64).toInt32) hx hb d_Digits_divide_46 rfl ?_
          obtain ⟨g_47, hf⟩ := gd_ hf
          refine va_iast hx hb hK hP hD hS 1 1 rfl rfl (inB_in g_47) d_Digits_divide_47 (fun H locs hP hD hS => ?_)
          have hP : va_P (gD G) vwCl (w_Digits_isZero G qt qt_limbs (upd z7.2.2 z7.2.1.toNatClampNeg ((((z7.1 <<< ((32 : Int32).toInt64 &&& 63)) ||| ((z7.2.2 z7.2.1.toNatClampNeg).toInt64 &&& (4294967295 : Int64))) / a2.toInt64).toInt32)) qt_cells t_cells t_used t_lowest) H := hP
          have hD : va_D A (w_Digits_isZero G qt qt_limbs (upd z7.2.2 z7.2.1.toNatClampNeg ((((z7.1 <<< ((32 : Int32).toInt64 &&& 63)) ||| ((z7.2.2 z7.2.1.toNatClampNeg).toInt64 &&& (4294967295 : Int64))) / a2.toInt64).toInt32)) qt_cells t_cells t_used t_lowest) := hD
          refine lv_lload hx hb d_Digits_divide_48 (lv_at hl 0 rfl) ?_
          refine lv_iload_n hx hb d_Digits_divide_50 rfl (lv_at hl 2 rfl) ?_
          refine lv_i2l (v := a2.toInt64) hx hb d_Digits_divide_51 rfl ?_
          obtain ⟨g_52, hf⟩ := gn_ hf
          refine lv_lrem hx hb d_Digits_divide_52 g_52 ?_
          refine lv_lstore_n (lv' := [(3, .long (((z7.1 <<< ((32 : Int32).toInt64 &&& 63)) ||| ((z7.2.2 z7.2.1.toNatClampNeg).toInt64 &&& (4294967295 : Int64))) - ((z7.1 <<< ((32 : Int32).toInt64 &&& 63)) ||| ((z7.2.2 z7.2.1.toNatClampNeg).toInt64 &&& (4294967295 : Int64))) / a2.toInt64 * a2.toInt64)), (6, .long ((z7.1 <<< ((32 : Int32).toInt64 &&& 63)) ||| ((z7.2.2 z7.2.1.toNatClampNeg).toInt64 &&& (4294967295 : Int64)))), (0, .ref qt), (2, .int a2), (5, .int z7.2.1)]) hx hb d_Digits_divide_53 rfl hl (by decide) rfl (fun ls hl => ?_)
          refine lv_iinc (v := (z7.2.1 + (-1))) (lv' := [(5, .int (z7.2.1 + (-1))), (3, .long (((z7.1 <<< ((32 : Int32).toInt64 &&& 63)) ||| ((z7.2.2 z7.2.1.toNatClampNeg).toInt64 &&& (4294967295 : Int64))) - ((z7.1 <<< ((32 : Int32).toInt64 &&& 63)) ||| ((z7.2.2 z7.2.1.toNatClampNeg).toInt64 &&& (4294967295 : Int64))) / a2.toInt64 * a2.toInt64)), (6, .long ((z7.1 <<< ((32 : Int32).toInt64 &&& 63)) ||| ((z7.2.2 z7.2.1.toNatClampNeg).toInt64 &&& (4294967295 : Int64)))), (0, .ref qt), (2, .int a2)]) hx hb d_Digits_divide_54 hl (k := 4) rfl rfl (by decide) rfl (fun ls hl => ?_)
          refine lv_goto (tgt := 7) hx hb d_Digits_divide_57 (by decide) ?_
          exact ih_7 ((((z7.1 <<< ((32 : Int32).toInt64 &&& 63)) ||| ((z7.2.2 z7.2.1.toNatClampNeg).toInt64 &&& (4294967295 : Int64))) - ((z7.1 <<< ((32 : Int32).toInt64 &&& 63)) ||| ((z7.2.2 z7.2.1.toNatClampNeg).toInt64 &&& (4294967295 : Int64))) / a2.toInt64 * a2.toInt64), (z7.2.1 + (-1)), (upd z7.2.2 z7.2.1.toNatClampNeg ((((z7.1 <<< ((32 : Int32).toInt64 &&& 63)) ||| ((z7.2.2 z7.2.1.toNatClampNeg).toInt64 &&& (4294967295 : Int64))) / a2.toInt64).toInt32)))  hf _ _ _ hP hD hS (lv_sub hl [3, 4, 1, 0] rfl)
  unfold f_Digits_divide at hf
  refine lv_lconst (v := 0) hx hb d_Digits_divide_0 (by decide) ?_
  refine lv_lstore_n (lv' := [(3, .long (0 : Int64)), (0, .ref qt), (1, .int a1), (2, .int a2)]) hx hb d_Digits_divide_1 rfl hl (by decide) rfl (fun ls hl => ?_)
  refine lv_iload_n hx hb d_Digits_divide_2 rfl (lv_at hl 2 rfl) ?_
  refine lv_iconst (v := 1) hx hb d_Digits_divide_3 (by decide) ?_
  refine lv_isub hx hb d_Digits_divide_4 ?_
  refine lv_istore (lv' := [(5, .int (a1 - (1 : Int32))), (3, .long (0 : Int64)), (0, .ref qt), (1, .int a1), (2, .int a2)]) hx hb d_Digits_divide_5 hl (by decide) rfl (fun ls hl => ?_)
  exact W_7   K ((0 : Int64), (a1 - (1 : Int32)), t_limbs)  hf _ _ _ hP hD hS (lv_sub hl [2, 4, 1, 0] rfl)
theorem d_Digits_spell_0 : decode cd_Digits_spell 0 = .ok (.iload_n 1, 1) := by decide +kernel
theorem d_Digits_spell_1 : decode cd_Digits_spell 1 = .ok (.bipush 10, 2) := by decide +kernel
theorem d_Digits_spell_3 : decode cd_Digits_spell 3 = .ok (.if_icmp .ne 8, 3) := by decide +kernel
theorem d_Digits_spell_6 : decode cd_Digits_spell 6 = .ok (.bipush 9, 2) := by decide +kernel
theorem d_Digits_spell_8 : decode cd_Digits_spell 8 = .ok (.goto 16, 3) := by decide +kernel
theorem d_Digits_spell_11 : decode cd_Digits_spell 11 = .ok (.iload_n 1, 1) := by decide +kernel
theorem d_Digits_spell_12 : decode cd_Digits_spell 12 = .ok (.bipush 16, 2) := by decide +kernel
theorem d_Digits_spell_14 : decode cd_Digits_spell 14 = .ok (.if_icmp .ne 8, 3) := by decide +kernel
theorem d_Digits_spell_17 : decode cd_Digits_spell 17 = .ok (.bipush 7, 2) := by decide +kernel
theorem d_Digits_spell_19 : decode cd_Digits_spell 19 = .ok (.goto 5, 3) := by decide +kernel
theorem d_Digits_spell_22 : decode cd_Digits_spell 22 = .ok (.bipush 10, 2) := by decide +kernel
theorem d_Digits_spell_24 : decode cd_Digits_spell 24 = .ok (.istore_n 2, 1) := by decide +kernel
theorem d_Digits_spell_25 : decode cd_Digits_spell 25 = .ok (.iload_n 1, 1) := by decide +kernel
theorem d_Digits_spell_26 : decode cd_Digits_spell 26 = .ok (.bipush 10, 2) := by decide +kernel
theorem d_Digits_spell_28 : decode cd_Digits_spell 28 = .ok (.if_icmp .ne 8, 3) := by decide +kernel
theorem d_Digits_spell_31 : decode cd_Digits_spell 31 = .ok (.ldc 51, 2) := by decide +kernel
theorem d_Digits_spell_33 : decode cd_Digits_spell 33 = .ok (.goto 16, 3) := by decide +kernel
theorem d_Digits_spell_36 : decode cd_Digits_spell 36 = .ok (.iload_n 1, 1) := by decide +kernel
theorem d_Digits_spell_37 : decode cd_Digits_spell 37 = .ok (.bipush 16, 2) := by decide +kernel
theorem d_Digits_spell_39 : decode cd_Digits_spell 39 = .ok (.if_icmp .ne 8, 3) := by decide +kernel
theorem d_Digits_spell_42 : decode cd_Digits_spell 42 = .ok (.ldc 52, 2) := by decide +kernel
theorem d_Digits_spell_44 : decode cd_Digits_spell 44 = .ok (.goto 5, 3) := by decide +kernel
theorem d_Digits_spell_47 : decode cd_Digits_spell 47 = .ok (.ldc 53, 2) := by decide +kernel
theorem d_Digits_spell_49 : decode cd_Digits_spell 49 = .ok (.istore_n 3, 1) := by decide +kernel
theorem d_Digits_spell_50 : decode cd_Digits_spell 50 = .ok (.aload_n 0, 1) := by decide +kernel
theorem d_Digits_spell_51 : decode cd_Digits_spell 51 = .ok (.iconst 0, 1) := by decide +kernel
theorem d_Digits_spell_52 : decode cd_Digits_spell 52 = .ok (.putfield 42, 3) := by decide +kernel
theorem d_Digits_spell_55 : decode cd_Digits_spell 55 = .ok (.aload_n 0, 1) := by decide +kernel
theorem d_Digits_spell_56 : decode cd_Digits_spell 56 = .ok (.bipush 16, 2) := by decide +kernel
theorem d_Digits_spell_58 : decode cd_Digits_spell 58 = .ok (.invokevirtual 54, 3) := by decide +kernel
theorem d_Digits_spell_61 : decode cd_Digits_spell 61 = .ok (.istore 4, 2) := by decide +kernel
theorem d_Digits_spell_63 : decode cd_Digits_spell 63 = .ok (.iconst 0, 1) := by decide +kernel
theorem d_Digits_spell_64 : decode cd_Digits_spell 64 = .ok (.istore 5, 2) := by decide +kernel
theorem d_Digits_spell_66 : decode cd_Digits_spell 66 = .ok (.iload 5, 2) := by decide +kernel
theorem d_Digits_spell_68 : decode cd_Digits_spell 68 = .ok (.bipush 20, 2) := by decide +kernel
theorem d_Digits_spell_70 : decode cd_Digits_spell 70 = .ok (.if_icmp .ge 93, 3) := by decide +kernel
theorem d_Digits_spell_73 : decode cd_Digits_spell 73 = .ok (.iload 4, 2) := by decide +kernel
theorem d_Digits_spell_75 : decode cd_Digits_spell 75 = .ok (.ifCond .le 88, 3) := by decide +kernel
theorem d_Digits_spell_78 : decode cd_Digits_spell 78 = .ok (.aload_n 0, 1) := by decide +kernel
theorem d_Digits_spell_79 : decode cd_Digits_spell 79 = .ok (.iload 4, 2) := by decide +kernel
theorem d_Digits_spell_81 : decode cd_Digits_spell 81 = .ok (.iload_n 3, 1) := by decide +kernel
theorem d_Digits_spell_82 : decode cd_Digits_spell 82 = .ok (.invokevirtual 58, 3) := by decide +kernel
theorem d_Digits_spell_85 : decode cd_Digits_spell 85 = .ok (.lstore 6, 2) := by decide +kernel
theorem d_Digits_spell_87 : decode cd_Digits_spell 87 = .ok (.iconst 0, 1) := by decide +kernel
theorem d_Digits_spell_88 : decode cd_Digits_spell 88 = .ok (.istore 8, 2) := by decide +kernel
theorem d_Digits_spell_90 : decode cd_Digits_spell 90 = .ok (.iload 8, 2) := by decide +kernel
theorem d_Digits_spell_92 : decode cd_Digits_spell 92 = .ok (.iload_n 2, 1) := by decide +kernel
theorem d_Digits_spell_93 : decode cd_Digits_spell 93 = .ok (.if_icmp .ge 56, 3) := by decide +kernel
theorem d_Digits_spell_96 : decode cd_Digits_spell 96 = .ok (.aload_n 0, 1) := by decide +kernel
theorem d_Digits_spell_97 : decode cd_Digits_spell 97 = .ok (.getfield 42, 3) := by decide +kernel
theorem d_Digits_spell_100 : decode cd_Digits_spell 100 = .ok (.sipush 208, 3) := by decide +kernel
theorem d_Digits_spell_103 : decode cd_Digits_spell 103 = .ok (.if_icmp .ge 46, 3) := by decide +kernel
theorem d_Digits_spell_106 : decode cd_Digits_spell 106 = .ok (.iload_n 1, 1) := by decide +kernel
theorem d_Digits_spell_107 : decode cd_Digits_spell 107 = .ok (.ifCond .le 42, 3) := by decide +kernel
theorem d_Digits_spell_110 : decode cd_Digits_spell 110 = .ok (.aload_n 0, 1) := by decide +kernel
theorem d_Digits_spell_111 : decode cd_Digits_spell 111 = .ok (.getfield 13, 3) := by decide +kernel
theorem d_Digits_spell_114 : decode cd_Digits_spell 114 = .ok (.aload_n 0, 1) := by decide +kernel
theorem d_Digits_spell_115 : decode cd_Digits_spell 115 = .ok (.getfield 42, 3) := by decide +kernel
theorem d_Digits_spell_118 : decode cd_Digits_spell 118 = .ok (.lload 6, 2) := by decide +kernel
theorem d_Digits_spell_120 : decode cd_Digits_spell 120 = .ok (.iload_n 1, 1) := by decide +kernel
theorem d_Digits_spell_121 : decode cd_Digits_spell 121 = .ok (.i2l, 1) := by decide +kernel
theorem d_Digits_spell_122 : decode cd_Digits_spell 122 = .ok (.lrem, 1) := by decide +kernel
theorem d_Digits_spell_123 : decode cd_Digits_spell 123 = .ok (.l2i, 1) := by decide +kernel
theorem d_Digits_spell_124 : decode cd_Digits_spell 124 = .ok (.i2b, 1) := by decide +kernel
theorem d_Digits_spell_125 : decode cd_Digits_spell 125 = .ok (.bastore, 1) := by decide +kernel
theorem d_Digits_spell_126 : decode cd_Digits_spell 126 = .ok (.aload_n 0, 1) := by decide +kernel
theorem d_Digits_spell_127 : decode cd_Digits_spell 127 = .ok (.dup, 1) := by decide +kernel
theorem d_Digits_spell_128 : decode cd_Digits_spell 128 = .ok (.getfield 42, 3) := by decide +kernel
theorem d_Digits_spell_131 : decode cd_Digits_spell 131 = .ok (.iconst 1, 1) := by decide +kernel
theorem d_Digits_spell_132 : decode cd_Digits_spell 132 = .ok (.iadd, 1) := by decide +kernel
theorem d_Digits_spell_133 : decode cd_Digits_spell 133 = .ok (.putfield 42, 3) := by decide +kernel
theorem d_Digits_spell_136 : decode cd_Digits_spell 136 = .ok (.lload 6, 2) := by decide +kernel
theorem d_Digits_spell_138 : decode cd_Digits_spell 138 = .ok (.iload_n 1, 1) := by decide +kernel
theorem d_Digits_spell_139 : decode cd_Digits_spell 139 = .ok (.i2l, 1) := by decide +kernel
theorem d_Digits_spell_140 : decode cd_Digits_spell 140 = .ok (.ldiv, 1) := by decide +kernel
theorem d_Digits_spell_141 : decode cd_Digits_spell 141 = .ok (.lstore 6, 2) := by decide +kernel
theorem d_Digits_spell_143 : decode cd_Digits_spell 143 = .ok (.iinc 8 1, 3) := by decide +kernel
theorem d_Digits_spell_146 : decode cd_Digits_spell 146 = .ok (.goto (-56), 3) := by decide +kernel
theorem d_Digits_spell_149 : decode cd_Digits_spell 149 = .ok (.aload_n 0, 1) := by decide +kernel
theorem d_Digits_spell_150 : decode cd_Digits_spell 150 = .ok (.iload 4, 2) := by decide +kernel
theorem d_Digits_spell_152 : decode cd_Digits_spell 152 = .ok (.invokevirtual 54, 3) := by decide +kernel
theorem d_Digits_spell_155 : decode cd_Digits_spell 155 = .ok (.istore 4, 2) := by decide +kernel
theorem d_Digits_spell_157 : decode cd_Digits_spell 157 = .ok (.iinc 5 1, 3) := by decide +kernel
theorem d_Digits_spell_160 : decode cd_Digits_spell 160 = .ok (.goto (-94), 3) := by decide +kernel
theorem d_Digits_spell_163 : decode cd_Digits_spell 163 = .ok (.aload_n 0, 1) := by decide +kernel
theorem d_Digits_spell_164 : decode cd_Digits_spell 164 = .ok (.invokevirtual 48, 3) := by decide +kernel
theorem d_Digits_spell_167 : decode cd_Digits_spell 167 = .ok (.return_, 1) := by decide +kernel
theorem m_187 : Cond.constant R_Digits 53 1073741824 ∈ gw := gm (i := 702) (by decide +kernel) (by decide +kernel)
theorem m_188 : Cond.constant R_Digits 52 268435456 ∈ gw := gm (i := 701) (by decide +kernel) (by decide +kernel)
theorem m_189 : Cond.constant R_Digits 51 1000000000 ∈ gw := gm (i := 700) (by decide +kernel) (by decide +kernel)
theorem m_190 : Cond.methodLink R_Digits 54 y_Digits_topFrom ∈ gw := gm (i := 703) (by decide +kernel) (by decide +kernel)
theorem m_191 : Cond.instanceMethod y_Digits_topFrom ∈ gw := gm (i := 705) (by decide +kernel) (by decide +kernel)
theorem m_192 : Cond.selects R_Digits y_Digits_topFrom y_Digits_topFrom ∈ gw := gm (i := 23) (by decide +kernel) (by decide +kernel)
set_option maxRecDepth 100000 in
theorem m_193 : Cond.code y_Digits_topFrom cd_Digits_topFrom 3 (some .int) ∈ gw := gm (i := 706) rfl rfl
theorem m_194 : Cond.methodLink R_Digits 58 y_Digits_divide ∈ gw := gm (i := 707) (by decide +kernel) (by decide +kernel)
theorem m_195 : Cond.instanceMethod y_Digits_divide ∈ gw := gm (i := 709) (by decide +kernel) (by decide +kernel)
theorem m_196 : Cond.selects R_Digits y_Digits_divide y_Digits_divide ∈ gw := gm (i := 24) (by decide +kernel) (by decide +kernel)
set_option maxRecDepth 100000 in
theorem m_197 : Cond.code y_Digits_divide cd_Digits_divide 8 (some .long) ∈ gw := gm (i := 710) rfl rfl
def k_Digits_spell_163 (K : Nat) (t_used : Int32) (t_limbs : (Nat → Int32)) (t_cells : (Nat → Int32)) : Option (Int32 × (Nat → Int32) × (Nat → Int32)) :=
  ((f_Digits_trim K t_cells t_used).bind fun u_164 => some (u_164, t_limbs, t_cells))
def k_Digits_spell_149 (K : Nat) (rec_66 : (Int32 × Int32 × Int32 × (Nat → Int32) × (Nat → Int32)) → Option (Int32 × (Nat → Int32) × (Nat → Int32))) (x4 : Int32) (x5 : Int32) (t_used : Int32) (t_limbs : (Nat → Int32)) (t_cells : (Nat → Int32)) : Option (Int32 × (Nat → Int32) × (Nat → Int32)) :=
  ((f_Digits_topFrom K t_limbs x4).bind fun u_152 => rec_66 (u_152, (x5 + 1), t_used, t_limbs, t_cells))
def b_Digits_spell_90 (K : Nat) (a1 : Int32) (x2 : Int32) (rec_66 : (Int32 × Int32 × Int32 × (Nat → Int32) × (Nat → Int32)) → Option (Int32 × (Nat → Int32) × (Nat → Int32))) (x4 : Int32) (x5 : Int32) (t_limbs : (Nat → Int32)) (rec_90 : (Int64 × Int32 × Int32 × (Nat → Int32)) → Option (Int32 × (Nat → Int32) × (Nat → Int32))) (z90 : Int64 × Int32 × Int32 × (Nat → Int32)) : Option (Int32 × (Nat → Int32) × (Nat → Int32)) :=
  (if x2 ≤ z90.2.1 then k_Digits_spell_149 K rec_66 x4 x5 z90.2.2.1 t_limbs z90.2.2.2 else (if (208 : Int32) ≤ z90.2.2.1 then k_Digits_spell_149 K rec_66 x4 x5 z90.2.2.1 t_limbs z90.2.2.2 else (if a1 ≤ 0 then k_Digits_spell_149 K rec_66 x4 x5 z90.2.2.1 t_limbs z90.2.2.2 else (if a1.toInt64 = 0 then none else (if inB z90.2.2.1 208 = true then (if a1.toInt64 = 0 then none else rec_90 ((z90.1 / a1.toInt64), (z90.2.1 + 1), (z90.2.2.1 + (1 : Int32)), (upd z90.2.2.2 z90.2.2.1.toNatClampNeg (vp_nar .byte (((z90.1 - z90.1 / a1.toInt64 * a1.toInt64).toInt32).toInt8.toInt32))))) else none)))))
def b_Digits_spell_66 (K : Nat) (a1 : Int32) (x2 : Int32) (x3 : Int32) (rec_66 : (Int32 × Int32 × Int32 × (Nat → Int32) × (Nat → Int32)) → Option (Int32 × (Nat → Int32) × (Nat → Int32))) (z66 : Int32 × Int32 × Int32 × (Nat → Int32) × (Nat → Int32)) : Option (Int32 × (Nat → Int32) × (Nat → Int32)) :=
  (if (20 : Int32) ≤ z66.2.1 then k_Digits_spell_163 K z66.2.2.1 z66.2.2.2.1 z66.2.2.2.2 else (if z66.1 ≤ 0 then k_Digits_spell_163 K z66.2.2.1 z66.2.2.2.1 z66.2.2.2.2 else ((f_Digits_divide K z66.2.2.2.1 z66.1 x3).bind fun u_82 => lp_ (b_Digits_spell_90 K a1 x2 rec_66 z66.1 z66.2.1 u_82.2) K (u_82.1, (0 : Int32), z66.2.2.1, z66.2.2.2.2))))
def k_Digits_spell_49 (K : Nat) (a1 : Int32) (x2 : Int32) (k0 : Int32) (t_used : Int32) (t_limbs : (Nat → Int32)) (t_cells : (Nat → Int32)) : Option (Int32 × (Nat → Int32) × (Nat → Int32)) :=
  ((f_Digits_topFrom K t_limbs (16 : Int32)).bind fun u_58 => lp_ (b_Digits_spell_66 K a1 x2 k0) K (u_58, (0 : Int32), (0 : Int32), t_limbs, t_cells))
def k_Digits_spell_24 (K : Nat) (a1 : Int32) (k0 : Int32) (t_used : Int32) (t_limbs : (Nat → Int32)) (t_cells : (Nat → Int32)) : Option (Int32 × (Nat → Int32) × (Nat → Int32)) :=
  (if a1 = (10 : Int32) then k_Digits_spell_49 K a1 k0 (1000000000 : Int32) t_used t_limbs t_cells else (if a1 = (16 : Int32) then k_Digits_spell_49 K a1 k0 (268435456 : Int32) t_used t_limbs t_cells else k_Digits_spell_49 K a1 k0 (1073741824 : Int32) t_used t_limbs t_cells))
def f_Digits_spell (K : Nat) (t_limbs : Nat → Int32) (t_cells : Nat → Int32) (t_used : Int32) (a1 : Int32) : Option (Int32 × (Nat → Int32) × (Nat → Int32)) :=
  (if a1 = (10 : Int32) then k_Digits_spell_24 K a1 (9 : Int32) t_used t_limbs t_cells else (if a1 = (16 : Int32) then k_Digits_spell_24 K a1 (7 : Int32) t_used t_limbs t_cells else k_Digits_spell_24 K a1 (10 : Int32) t_used t_limbs t_cells))
set_option maxHeartbeats 4000000 in
set_option maxRecDepth 100000 in
theorem c_Digits_spell (l : Launch) (G : Gt) (K : Nat) (qt : Nat) (qt_limbs : Nat) (t_limbs : Nat → Int32) (qt_cells : Nat) (t_cells : Nat → Int32) (t_used : Int32) (t_lowest : Int32) (a1 : Int32) (sz : Nat) (res : Int32 × (Nat → Int32) × (Nat → Int32))   (hf : f_Digits_spell K t_limbs t_cells t_used a1 = some res) : Met l y_Digits_spell (.code y_Digits_spell cd_Digits_spell 9 none :: gw) { frames := 1, cells := 0, slots := 0, locals := 40 } (PC G ([.ref qt, .int a1] : List Value) sz (w_Digits_isZero G qt qt_limbs t_limbs qt_cells t_cells t_used t_lowest)) (QV G (va_A (w_Digits_isZero G qt qt_limbs t_limbs qt_cells t_cells t_used t_lowest) sz) (w_Digits_isZero G qt qt_limbs res.2.1 qt_cells res.2.2 res.1 t_lowest)) 0 0 (va_A (w_Digits_isZero G qt qt_limbs t_limbs qt_cells t_cells t_used t_lowest) sz) := by
  refine Met.ofW (cc := cd_Digits_spell) (maxL := 9) (ret := none) (by decide) rfl ?_
  intro p e s m args below meth c s₁ B hml hv
  obtain ⟨rfl, hsz, hP, hE, hD0⟩ := hv
  have hx := B.exec
  have hb := B.bytes
  have hr := B.returns
  have hts := atoms_spec (ws := (.code y_Digits_spell cd_Digits_spell 9 none :: gw)) B.pre
  have hg : ∀ w ∈ gw, w.before _ s = true := fun w h => hts w (List.mem_cons_of_mem _ h)
  have hown : s.vm.findClass R_Digits = some m.cls := findClass_of_methodNamed B.named
  have hlocks := B.notSynchronized
  subst hsz
  have hK := hE.K
  have hD := hD0.self (sz := s.heap.size)
  have hAb := hE.ab hD0
  obtain ⟨Q, hQ⟩ : ∃ Q, MQ below (QV G (va_A (w_Digits_isZero G qt qt_limbs t_limbs qt_cells t_cells t_used t_lowest) s.heap.size) (w_Digits_isZero G qt qt_limbs res.2.1 qt_cells res.2.2 res.1 t_lowest)) ([.ref qt, .int a1] : List Value).toArray s 0 0 (va_A (w_Digits_isZero G qt qt_limbs t_limbs qt_cells t_cells t_used t_lowest) s.heap.size) = Q := ⟨_, rfl⟩
  show W p l e { frames := 1, cells := 0, slots := 0, locals := 40 } s m ([.ref qt, .int a1] : List Value).toArray below meth c s.heap [] 0 0 (MQ below (QV G (va_A (w_Digits_isZero G qt qt_limbs t_limbs qt_cells t_cells t_used t_lowest) s.heap.size) (w_Digits_isZero G qt qt_limbs res.2.1 qt_cells res.2.2 res.1 t_lowest)) ([.ref qt, .int a1] : List Value).toArray s 0 0 (va_A (w_Digits_isZero G qt qt_limbs t_limbs qt_cells t_cells t_used t_lowest) s.heap.size)) _
  rw [hQ]
  have hA : ∀ q : Nat, s.heap.size ≤ q → va_A (w_Digits_isZero G qt qt_limbs t_limbs qt_cells t_cells t_used t_lowest) s.heap.size q := fun q h => Or.inr h
  obtain ⟨A, hAe⟩ : ∃ A, va_A (w_Digits_isZero G qt qt_limbs t_limbs qt_cells t_cells t_used t_lowest) s.heap.size = A := ⟨_, rfl⟩
  rw [hAe] at hA hD hAb hQ
  have hS : va_S A s.heap s.heap [] := va_S.rf
  have hl := lv_entry (([.ref qt, .int a1] : List Value)) (n := 9) (Nat.le_of_ble_eq_true rfl)
  rw [lg_entry_eq]
  generalize (lg_sl (([.ref qt, .int a1] : List Value)) ++ List.replicate (9 - (lg_sl (([.ref qt, .int a1] : List Value))).length) Slot.unset).toArray = ls at hl ⊢
  have hl : lv_has ls 9 [(0, .ref qt), (1, .int a1)] := hl
  have W_163 : ∀ (t_used : Int32) (t_limbs : (Nat → Int32)) (t_cells : (Nat → Int32)) , k_Digits_spell_163 K t_used t_limbs t_cells = some res → ∀ (H : Heap) (locs : List Loc) (ls : Array Slot), va_P (gD G) vwCl (w_Digits_isZero G qt qt_limbs t_limbs qt_cells t_cells t_used t_lowest) H → va_D A (w_Digits_isZero G qt qt_limbs t_limbs qt_cells t_cells t_used t_lowest) → va_S A s.heap H locs → lv_has ls 9 [(0, .ref qt)] → W p l e { frames := 1, cells := 0, slots := 0, locals := 40 } s m ([.ref qt, .int a1] : List Value).toArray below meth c H locs 0 0 Q (F0 m 163 ls []) := by
    intro t_used t_limbs t_cells  hf H locs ls hP hD hS hl
    unfold k_Digits_spell_163 at hf
    refine lv_aload_n hx hb d_Digits_spell_163 rfl (lv_at hl 0 rfl) ?_
    obtain ⟨u_164, hu_164, hf⟩ := bd_ hf
    refine CALLWv (va_runV (As := []) (rest := []) ⟨hx, hb, hml, hown, hg⟩ (c_Digits_trim l G K qt qt_limbs t_limbs qt_cells t_cells t_used t_lowest _ u_164  hu_164) (cwV 0 hg (gV m_181 m_182 m_183 m_179 m_184) rfl rfl rfl (by decide +kernel) ⟨Nat.le_of_ble_eq_true rfl, Nat.le_of_ble_eq_true rfl⟩) ⟨PC_b, va_recv hK hP (ci := 2) (q0 := 0) rfl rfl, PC_p hE hS hAb hP hD⟩ rfl rfl hl.1 rfl (lv_room (Nat.le_of_ble_eq_true rfl)) d_Digits_spell_164 ⟨Nat.zero_le _, Nat.zero_le _⟩) hP hD hS hA (fun H locs hP hD hS => ?_)
    have hP : va_P (gD G) vwCl (w_Digits_isZero G qt qt_limbs t_limbs qt_cells t_cells u_164 t_lowest) H := hP
    have hD : va_D A (w_Digits_isZero G qt qt_limbs t_limbs qt_cells t_cells u_164 t_lowest) := hD
    obtain rfl := Option.some.inj hf
    rw [← hQ]
    exact W.vret hx hb hr (fun t9 ht hW => ⟨⟨(), rfl, trivial, ⟨by rw [ht]; exact hP, hD⟩⟩, hS.F ht⟩) hS.2.2 d_Digits_spell_167
  have W_66 : ∀ (x2 : Int32) (x3 : Int32)  (n_66 : Nat) (z66 : Int32 × Int32 × Int32 × (Nat → Int32) × (Nat → Int32)) , lp_ (b_Digits_spell_66 K a1 x2 x3) n_66 z66 = some res → ∀ (H : Heap) (locs : List Loc) (ls : Array Slot), va_P (gD G) vwCl (w_Digits_isZero G qt qt_limbs z66.2.2.2.1 qt_cells z66.2.2.2.2 z66.2.2.1 t_lowest) H → va_D A (w_Digits_isZero G qt qt_limbs z66.2.2.2.1 qt_cells z66.2.2.2.2 z66.2.2.1 t_lowest) → va_S A s.heap H locs → lv_has ls 9 [(0, .ref qt), (1, .int a1), (2, .int x2), (3, .int x3), (4, .int z66.1), (5, .int z66.2.1)] → W p l e { frames := 1, cells := 0, slots := 0, locals := 40 } s m ([.ref qt, .int a1] : List Value).toArray below meth c H locs 0 0 Q (F0 m 66 ls []) := by
    intro x2 x3 n_66
    induction n_66 with
    | zero =>
      intro z66  hf
      cases hf
    | succ n_66 ih_66 =>
      intro z66  hf H locs ls hP hD hS hl
      have hf : b_Digits_spell_66 K a1 x2 x3 (lp_ (b_Digits_spell_66 K a1 x2 x3) n_66) z66 = some res := hf
      generalize lp_ (b_Digits_spell_66 K a1 x2 x3) n_66 = rec_66 at hf ih_66
      have W_149 : ∀ (x4 : Int32) (x5 : Int32) (t_used : Int32) (t_limbs : (Nat → Int32)) (t_cells : (Nat → Int32)) , k_Digits_spell_149 K rec_66 x4 x5 t_used t_limbs t_cells = some res → ∀ (H : Heap) (locs : List Loc) (ls : Array Slot), va_P (gD G) vwCl (w_Digits_isZero G qt qt_limbs t_limbs qt_cells t_cells t_used t_lowest) H → va_D A (w_Digits_isZero G qt qt_limbs t_limbs qt_cells t_cells t_used t_lowest) → va_S A s.heap H locs → lv_has ls 9 [(0, .ref qt), (1, .int a1), (2, .int x2), (3, .int x3), (4, .int x4), (5, .int x5)] → W p l e { frames := 1, cells := 0, slots := 0, locals := 40 } s m ([.ref qt, .int a1] : List Value).toArray below meth c H locs 0 0 Q (F0 m 149 ls []) := by
        intro x4 x5 t_used t_limbs t_cells  hf H locs ls hP hD hS hl
        unfold k_Digits_spell_149 at hf
        refine lv_aload_n hx hb d_Digits_spell_149 rfl (lv_at hl 0 rfl) ?_
        refine lv_iload hx hb d_Digits_spell_150 (lv_at hl 4 rfl) ?_
        obtain ⟨u_152, hu_152, hf⟩ := bd_ hf
        refine CALLWi (va_runV (As := [.int x4]) (rest := []) ⟨hx, hb, hml, hown, hg⟩ (c_Digits_topFrom l G K qt qt_limbs t_limbs qt_cells t_cells t_used t_lowest x4 _ u_152  hu_152) (cwV 1 hg (gV m_190 m_191 m_192 m_179 m_193) rfl rfl rfl (by decide +kernel) ⟨Nat.le_of_ble_eq_true rfl, Nat.le_of_ble_eq_true rfl⟩) ⟨PC_b, va_recv hK hP (ci := 2) (q0 := 0) rfl rfl, PC_p hE hS hAb hP hD⟩ rfl rfl hl.1 rfl (lv_room (Nat.le_of_ble_eq_true rfl)) d_Digits_spell_152 ⟨Nat.zero_le _, Nat.zero_le _⟩) hP hD hS hA (fun H locs hP hD hS => ?_)
        have hP : va_P (gD G) vwCl (w_Digits_isZero G qt qt_limbs t_limbs qt_cells t_cells t_used t_lowest) H := hP
        have hD : va_D A (w_Digits_isZero G qt qt_limbs t_limbs qt_cells t_cells t_used t_lowest) := hD
        refine lv_istore (lv' := [(4, .int u_152), (0, .ref qt), (1, .int a1), (2, .int x2), (3, .int x3), (5, .int x5)]) hx hb d_Digits_spell_155 hl (by decide) rfl (fun ls hl => ?_)
        refine lv_iinc (v := (x5 + 1)) (lv' := [(5, .int (x5 + 1)), (4, .int u_152), (0, .ref qt), (1, .int a1), (2, .int x2), (3, .int x3)]) hx hb d_Digits_spell_157 hl (k := 5) rfl rfl (by decide) rfl (fun ls hl => ?_)
        refine lv_goto (tgt := 66) hx hb d_Digits_spell_160 (by decide) ?_
        exact ih_66 (u_152, (x5 + 1), t_used, t_limbs, t_cells)  hf _ _ _ hP hD hS (lv_sub hl [2, 3, 4, 5, 1, 0] rfl)
      have W_90 : ∀ (x4 : Int32) (x5 : Int32) (t_limbs : (Nat → Int32))  (n_90 : Nat) (z90 : Int64 × Int32 × Int32 × (Nat → Int32)) , lp_ (b_Digits_spell_90 K a1 x2 rec_66 x4 x5 t_limbs) n_90 z90 = some res → ∀ (H : Heap) (locs : List Loc) (ls : Array Slot), va_P (gD G) vwCl (w_Digits_isZero G qt qt_limbs t_limbs qt_cells z90.2.2.2 z90.2.2.1 t_lowest) H → va_D A (w_Digits_isZero G qt qt_limbs t_limbs qt_cells z90.2.2.2 z90.2.2.1 t_lowest) → va_S A s.heap H locs → lv_has ls 9 [(0, .ref qt), (1, .int a1), (2, .int x2), (3, .int x3), (4, .int x4), (5, .int x5), (6, .long z90.1), (8, .int z90.2.1)] → W p l e { frames := 1, cells := 0, slots := 0, locals := 40 } s m ([.ref qt, .int a1] : List Value).toArray below meth c H locs 0 0 Q (F0 m 90 ls []) := by
        intro x4 x5 t_limbs n_90
        induction n_90 with
        | zero =>
          intro z90  hf
          cases hf
        | succ n_90 ih_90 =>
          intro z90  hf H locs ls hP hD hS hl
          have hf : b_Digits_spell_90 K a1 x2 rec_66 x4 x5 t_limbs (lp_ (b_Digits_spell_90 K a1 x2 rec_66 x4 x5 t_limbs) n_90) z90 = some res := hf
          generalize lp_ (b_Digits_spell_90 K a1 x2 rec_66 x4 x5 t_limbs) n_90 = rec_90 at hf ih_90
          unfold b_Digits_spell_90 at hf
          refine lv_iload hx hb d_Digits_spell_90 (lv_at hl 7 rfl) ?_
          refine lv_iload_n hx hb d_Digits_spell_92 rfl (lv_at hl 2 rfl) ?_
          refine lv_icmp_ge (tgt := 149) hx hb d_Digits_spell_93 (by decide) (fun c_93 => ?_) (fun c_93 => ?_)
          · have hf := ip_ c_93 hf
            exact W_149 x4 x5 z90.2.2.1 t_limbs z90.2.2.2  hf _ _ _ hP hD hS (lv_sub hl [0, 1, 2, 3, 4, 5] rfl)
          · have hf := in_ c_93 hf
            refine lv_aload_n hx hb d_Digits_spell_96 rfl (lv_at hl 0 rfl) ?_
            refine va_get (D := gD G) (ci := 2) (v := .int z90.2.2.1) (C := R_Digits) (T := F_Digits) (N := 4) hx hb hg in_Digits hown hK hP 0 rfl rfl 2 (by decide) (hg _ m_173) (fun _ h9 => h9) rfl d_Digits_spell_97 ?_
            refine lv_sipush (v := 208) hx hb d_Digits_spell_100 (by decide) ?_
            refine lv_icmp_ge (tgt := 149) hx hb d_Digits_spell_103 (by decide) (fun c_103 => ?_) (fun c_103 => ?_)
            · have hf := ip_ c_103 hf
              exact W_149 x4 x5 z90.2.2.1 t_limbs z90.2.2.2  hf _ _ _ hP hD hS (lv_sub hl [0, 1, 2, 3, 4, 5] rfl)
            · have hf := in_ c_103 hf
              refine lv_iload_n hx hb d_Digits_spell_106 rfl (lv_at hl 1 rfl) ?_
              refine lv_if_le (tgt := 149) hx hb d_Digits_spell_107 (by decide) (fun c_107 => ?_) (fun c_107 => ?_)
              · have hf := ip_ c_107 hf
                exact W_149 x4 x5 z90.2.2.1 t_limbs z90.2.2.2  hf _ _ _ hP hD hS (lv_sub hl [0, 1, 2, 3, 4, 5] rfl)
              · have hf := in_ c_107 hf
                refine lv_aload_n hx hb d_Digits_spell_110 rfl (lv_at hl 0 rfl) ?_
                refine va_get (D := gD G) (ci := 2) (v := .ref qt_cells) (C := R_Digits) (T := F_Digits) (N := 4) hx hb hg in_Digits hown hK hP 0 rfl rfl 1 (by decide) (hg _ m_175) (fun _ h9 => h9) rfl d_Digits_spell_111 ?_
                refine lv_aload_n hx hb d_Digits_spell_114 rfl (lv_at hl 0 rfl) ?_
                refine va_get (D := gD G) (ci := 2) (v := .int z90.2.2.1) (C := R_Digits) (T := F_Digits) (N := 4) hx hb hg in_Digits hown hK hP 0 rfl rfl 2 (by decide) (hg _ m_173) (fun _ h9 => h9) rfl d_Digits_spell_115 ?_
                refine lv_lload hx hb d_Digits_spell_118 (lv_at hl 6 rfl) ?_
                refine lv_iload_n hx hb d_Digits_spell_120 rfl (lv_at hl 1 rfl) ?_
                refine lv_i2l (v := a1.toInt64) hx hb d_Digits_spell_121 rfl ?_
                obtain ⟨g_122, hf⟩ := gn_ hf
                refine lv_lrem hx hb d_Digits_spell_122 g_122 ?_
                refine lv_l2i (v := (z90.1 - z90.1 / a1.toInt64 * a1.toInt64).toInt32) hx hb d_Digits_spell_123 rfl ?_
                refine lv_i2b (v := ((z90.1 - z90.1 / a1.toInt64 * a1.toInt64).toInt32).toInt8.toInt32) hx hb d_Digits_spell_124 rfl ?_
                obtain ⟨g_125, hf⟩ := gd_ hf
                refine va_bast hx hb hK hP hD hS 2 0 rfl rfl (inB_in g_125) d_Digits_spell_125 (fun H locs hP hD hS => ?_)
                have hP : va_P (gD G) vwCl (w_Digits_isZero G qt qt_limbs t_limbs qt_cells (upd z90.2.2.2 z90.2.2.1.toNatClampNeg (vp_nar .byte (((z90.1 - z90.1 / a1.toInt64 * a1.toInt64).toInt32).toInt8.toInt32))) z90.2.2.1 t_lowest) H := hP
                have hD : va_D A (w_Digits_isZero G qt qt_limbs t_limbs qt_cells (upd z90.2.2.2 z90.2.2.1.toNatClampNeg (vp_nar .byte (((z90.1 - z90.1 / a1.toInt64 * a1.toInt64).toInt32).toInt8.toInt32))) z90.2.2.1 t_lowest) := hD
                refine lv_aload_n hx hb d_Digits_spell_126 rfl (lv_at hl 0 rfl) ?_
                refine lv_dup hx hb d_Digits_spell_127 rfl ?_
                refine va_get (D := gD G) (ci := 2) (v := .int z90.2.2.1) (C := R_Digits) (T := F_Digits) (N := 4) hx hb hg in_Digits hown hK hP 0 rfl rfl 2 (by decide) (hg _ m_173) (fun _ h9 => h9) rfl d_Digits_spell_128 ?_
                refine lv_iconst (v := 1) hx hb d_Digits_spell_131 (by decide) ?_
                refine lv_iadd hx hb d_Digits_spell_132 ?_
                refine va_put (D := gD G) (ci := 2) (v := .int (z90.2.2.1 + (1 : Int32))) (ty := .int) (C := R_Digits) (T := F_Digits) (N := 4) hx hb hg in_Digits t_Digits to_Digits no_Digits hown hK hP hD hS 0 rfl rfl 2 (by decide) (hg _ m_173) (fun _ h9 => h9) rfl (by decide +kernel) rfl rfl (Nat.le_of_ble_eq_true rfl) d_Digits_spell_133 (fun H locs hP hD hS => ?_)
                have hP : va_P (gD G) vwCl (w_Digits_isZero G qt qt_limbs t_limbs qt_cells (upd z90.2.2.2 z90.2.2.1.toNatClampNeg (vp_nar .byte (((z90.1 - z90.1 / a1.toInt64 * a1.toInt64).toInt32).toInt8.toInt32))) (z90.2.2.1 + (1 : Int32)) t_lowest) H := hP
                have hD : va_D A (w_Digits_isZero G qt qt_limbs t_limbs qt_cells (upd z90.2.2.2 z90.2.2.1.toNatClampNeg (vp_nar .byte (((z90.1 - z90.1 / a1.toInt64 * a1.toInt64).toInt32).toInt8.toInt32))) (z90.2.2.1 + (1 : Int32)) t_lowest) := hD
                refine lv_lload hx hb d_Digits_spell_136 (lv_at hl 6 rfl) ?_
                refine lv_iload_n hx hb d_Digits_spell_138 rfl (lv_at hl 1 rfl) ?_
                refine lv_i2l (v := a1.toInt64) hx hb d_Digits_spell_139 rfl ?_
                obtain ⟨g_140, hf⟩ := gn_ hf
                refine lv_ldiv hx hb d_Digits_spell_140 g_140 ?_
                refine lv_lstore (lv' := [(6, .long (z90.1 / a1.toInt64)), (0, .ref qt), (1, .int a1), (2, .int x2), (3, .int x3), (4, .int x4), (5, .int x5), (8, .int z90.2.1)]) hx hb d_Digits_spell_141 hl (by decide) rfl (fun ls hl => ?_)
                refine lv_iinc (v := (z90.2.1 + 1)) (lv' := [(8, .int (z90.2.1 + 1)), (6, .long (z90.1 / a1.toInt64)), (0, .ref qt), (1, .int a1), (2, .int x2), (3, .int x3), (4, .int x4), (5, .int x5)]) hx hb d_Digits_spell_143 hl (k := 7) rfl rfl (by decide) rfl (fun ls hl => ?_)
                refine lv_goto (tgt := 90) hx hb d_Digits_spell_146 (by decide) ?_
                exact ih_90 ((z90.1 / a1.toInt64), (z90.2.1 + 1), (z90.2.2.1 + (1 : Int32)), (upd z90.2.2.2 z90.2.2.1.toNatClampNeg (vp_nar .byte (((z90.1 - z90.1 / a1.toInt64 * a1.toInt64).toInt32).toInt8.toInt32))))  hf _ _ _ hP hD hS (lv_sub hl [2, 3, 4, 5, 6, 7, 1, 0] rfl)
      unfold b_Digits_spell_66 at hf
      refine lv_iload hx hb d_Digits_spell_66 (lv_at hl 5 rfl) ?_
      refine lv_bipush (v := 20) hx hb d_Digits_spell_68 (by decide) ?_
      refine lv_icmp_ge (tgt := 163) hx hb d_Digits_spell_70 (by decide) (fun c_70 => ?_) (fun c_70 => ?_)
      · have hf := ip_ c_70 hf
        exact W_163 z66.2.2.1 z66.2.2.2.1 z66.2.2.2.2  hf _ _ _ hP hD hS (lv_sub hl [0] rfl)
      · have hf := in_ c_70 hf
        refine lv_iload hx hb d_Digits_spell_73 (lv_at hl 4 rfl) ?_
        refine lv_if_le (tgt := 163) hx hb d_Digits_spell_75 (by decide) (fun c_75 => ?_) (fun c_75 => ?_)
        · have hf := ip_ c_75 hf
          exact W_163 z66.2.2.1 z66.2.2.2.1 z66.2.2.2.2  hf _ _ _ hP hD hS (lv_sub hl [0] rfl)
        · have hf := in_ c_75 hf
          refine lv_aload_n hx hb d_Digits_spell_78 rfl (lv_at hl 0 rfl) ?_
          refine lv_iload hx hb d_Digits_spell_79 (lv_at hl 4 rfl) ?_
          refine lv_iload_n hx hb d_Digits_spell_81 rfl (lv_at hl 3 rfl) ?_
          obtain ⟨u_82, hu_82, hf⟩ := bd_ hf
          refine CALLWl (va_runV (As := [.int z66.1, .int x3]) (rest := []) ⟨hx, hb, hml, hown, hg⟩ (c_Digits_divide l G K qt qt_limbs z66.2.2.2.1 qt_cells z66.2.2.2.2 z66.2.2.1 t_lowest z66.1 x3 _ u_82  hu_82) (cwV 2 hg (gV m_194 m_195 m_196 m_179 m_197) rfl rfl rfl (by decide +kernel) ⟨Nat.le_of_ble_eq_true rfl, Nat.le_of_ble_eq_true rfl⟩) ⟨PC_b, va_recv hK hP (ci := 2) (q0 := 0) rfl rfl, PC_p hE hS hAb hP hD⟩ rfl rfl hl.1 rfl (lv_room (Nat.le_of_ble_eq_true rfl)) d_Digits_spell_82 ⟨Nat.zero_le _, Nat.zero_le _⟩) hP hD hS hA (fun H locs hP hD hS => ?_)
          have hP : va_P (gD G) vwCl (w_Digits_isZero G qt qt_limbs u_82.2 qt_cells z66.2.2.2.2 z66.2.2.1 t_lowest) H := hP
          have hD : va_D A (w_Digits_isZero G qt qt_limbs u_82.2 qt_cells z66.2.2.2.2 z66.2.2.1 t_lowest) := hD
          refine lv_lstore (lv' := [(6, .long u_82.1), (0, .ref qt), (1, .int a1), (2, .int x2), (3, .int x3), (4, .int z66.1), (5, .int z66.2.1)]) hx hb d_Digits_spell_85 hl (by decide) rfl (fun ls hl => ?_)
          refine lv_iconst (v := 0) hx hb d_Digits_spell_87 (by decide) ?_
          refine lv_istore (lv' := [(8, .int (0 : Int32)), (6, .long u_82.1), (0, .ref qt), (1, .int a1), (2, .int x2), (3, .int x3), (4, .int z66.1), (5, .int z66.2.1)]) hx hb d_Digits_spell_88 hl (by decide) rfl (fun ls hl => ?_)
          exact W_90 z66.1 z66.2.1 u_82.2  K (u_82.1, (0 : Int32), z66.2.2.1, z66.2.2.2.2)  hf _ _ _ hP hD hS (lv_sub hl [2, 3, 4, 5, 6, 7, 1, 0] rfl)
  have W_49 : ∀ (x2 : Int32) (k0 : Int32) (t_used : Int32) (t_limbs : (Nat → Int32)) (t_cells : (Nat → Int32)) , k_Digits_spell_49 K a1 x2 k0 t_used t_limbs t_cells = some res → ∀ (H : Heap) (locs : List Loc) (ls : Array Slot), va_P (gD G) vwCl (w_Digits_isZero G qt qt_limbs t_limbs qt_cells t_cells t_used t_lowest) H → va_D A (w_Digits_isZero G qt qt_limbs t_limbs qt_cells t_cells t_used t_lowest) → va_S A s.heap H locs → lv_has ls 9 [(0, .ref qt), (1, .int a1), (2, .int x2)] → W p l e { frames := 1, cells := 0, slots := 0, locals := 40 } s m ([.ref qt, .int a1] : List Value).toArray below meth c H locs 0 0 Q (F0 m 49 ls [.int k0]) := by
    intro x2 k0 t_used t_limbs t_cells  hf H locs ls hP hD hS hl
    unfold k_Digits_spell_49 at hf
    refine lv_istore_n (lv' := [(3, .int k0), (0, .ref qt), (1, .int a1), (2, .int x2)]) hx hb d_Digits_spell_49 rfl hl (by decide) rfl (fun ls hl => ?_)
    refine lv_aload_n hx hb d_Digits_spell_50 rfl (lv_at hl 1 rfl) ?_
    refine lv_iconst (v := 0) hx hb d_Digits_spell_51 (by decide) ?_
    refine va_put (D := gD G) (ci := 2) (v := .int (0 : Int32)) (ty := .int) (C := R_Digits) (T := F_Digits) (N := 4) hx hb hg in_Digits t_Digits to_Digits no_Digits hown hK hP hD hS 0 rfl rfl 2 (by decide) (hg _ m_173) (fun _ h9 => h9) rfl (by decide +kernel) rfl rfl (Nat.le_of_ble_eq_true rfl) d_Digits_spell_52 (fun H locs hP hD hS => ?_)
    have hP : va_P (gD G) vwCl (w_Digits_isZero G qt qt_limbs t_limbs qt_cells t_cells (0 : Int32) t_lowest) H := hP
    have hD : va_D A (w_Digits_isZero G qt qt_limbs t_limbs qt_cells t_cells (0 : Int32) t_lowest) := hD
    refine lv_aload_n hx hb d_Digits_spell_55 rfl (lv_at hl 1 rfl) ?_
    refine lv_bipush (v := 16) hx hb d_Digits_spell_56 (by decide) ?_
    obtain ⟨u_58, hu_58, hf⟩ := bd_ hf
    refine CALLWi (va_runV (As := [.int (16 : Int32)]) (rest := []) ⟨hx, hb, hml, hown, hg⟩ (c_Digits_topFrom l G K qt qt_limbs t_limbs qt_cells t_cells (0 : Int32) t_lowest (16 : Int32) _ u_58  hu_58) (cwV 1 hg (gV m_190 m_191 m_192 m_179 m_193) rfl rfl rfl (by decide +kernel) ⟨Nat.le_of_ble_eq_true rfl, Nat.le_of_ble_eq_true rfl⟩) ⟨PC_b, va_recv hK hP (ci := 2) (q0 := 0) rfl rfl, PC_p hE hS hAb hP hD⟩ rfl rfl hl.1 rfl (lv_room (Nat.le_of_ble_eq_true rfl)) d_Digits_spell_58 ⟨Nat.zero_le _, Nat.zero_le _⟩) hP hD hS hA (fun H locs hP hD hS => ?_)
    have hP : va_P (gD G) vwCl (w_Digits_isZero G qt qt_limbs t_limbs qt_cells t_cells (0 : Int32) t_lowest) H := hP
    have hD : va_D A (w_Digits_isZero G qt qt_limbs t_limbs qt_cells t_cells (0 : Int32) t_lowest) := hD
    refine lv_istore (lv' := [(4, .int u_58), (3, .int k0), (0, .ref qt), (1, .int a1), (2, .int x2)]) hx hb d_Digits_spell_61 hl (by decide) rfl (fun ls hl => ?_)
    refine lv_iconst (v := 0) hx hb d_Digits_spell_63 (by decide) ?_
    refine lv_istore (lv' := [(5, .int (0 : Int32)), (4, .int u_58), (3, .int k0), (0, .ref qt), (1, .int a1), (2, .int x2)]) hx hb d_Digits_spell_64 hl (by decide) rfl (fun ls hl => ?_)
    exact W_66 x2 k0  K (u_58, (0 : Int32), (0 : Int32), t_limbs, t_cells)  hf _ _ _ hP hD hS (lv_sub hl [3, 4, 5, 2, 1, 0] rfl)
  have W_24 : ∀ (k0 : Int32) (t_used : Int32) (t_limbs : (Nat → Int32)) (t_cells : (Nat → Int32)) , k_Digits_spell_24 K a1 k0 t_used t_limbs t_cells = some res → ∀ (H : Heap) (locs : List Loc) (ls : Array Slot), va_P (gD G) vwCl (w_Digits_isZero G qt qt_limbs t_limbs qt_cells t_cells t_used t_lowest) H → va_D A (w_Digits_isZero G qt qt_limbs t_limbs qt_cells t_cells t_used t_lowest) → va_S A s.heap H locs → lv_has ls 9 [(0, .ref qt), (1, .int a1)] → W p l e { frames := 1, cells := 0, slots := 0, locals := 40 } s m ([.ref qt, .int a1] : List Value).toArray below meth c H locs 0 0 Q (F0 m 24 ls [.int k0]) := by
    intro k0 t_used t_limbs t_cells  hf H locs ls hP hD hS hl
    unfold k_Digits_spell_24 at hf
    refine lv_istore_n (lv' := [(2, .int k0), (0, .ref qt), (1, .int a1)]) hx hb d_Digits_spell_24 rfl hl (by decide) rfl (fun ls hl => ?_)
    refine lv_iload_n hx hb d_Digits_spell_25 rfl (lv_at hl 2 rfl) ?_
    refine lv_bipush (v := 10) hx hb d_Digits_spell_26 (by decide) ?_
    refine lv_icmp_ne (tgt := 36) hx hb d_Digits_spell_28 (by decide) (fun c_28 => ?_) (fun c_28 => ?_)
    · have hf := in_ c_28 hf
      refine lv_iload_n hx hb d_Digits_spell_36 rfl (lv_at hl 2 rfl) ?_
      refine lv_bipush (v := 16) hx hb d_Digits_spell_37 (by decide) ?_
      refine lv_icmp_ne (tgt := 47) hx hb d_Digits_spell_39 (by decide) (fun c_39 => ?_) (fun c_39 => ?_)
      · have hf := in_ c_39 hf
        refine lv_ldc (v := 1073741824) hx hb hown (hg _ m_187) d_Digits_spell_47 ?_
        exact W_49 k0 (1073741824 : Int32) t_used t_limbs t_cells  hf _ _ _ hP hD hS (lv_sub hl [1, 2, 0] rfl)
      · have hf := ip_ c_39 hf
        refine lv_ldc (v := 268435456) hx hb hown (hg _ m_188) d_Digits_spell_42 ?_
        refine lv_goto (tgt := 49) hx hb d_Digits_spell_44 (by decide) ?_
        exact W_49 k0 (268435456 : Int32) t_used t_limbs t_cells  hf _ _ _ hP hD hS (lv_sub hl [1, 2, 0] rfl)
    · have hf := ip_ c_28 hf
      refine lv_ldc (v := 1000000000) hx hb hown (hg _ m_189) d_Digits_spell_31 ?_
      refine lv_goto (tgt := 49) hx hb d_Digits_spell_33 (by decide) ?_
      exact W_49 k0 (1000000000 : Int32) t_used t_limbs t_cells  hf _ _ _ hP hD hS (lv_sub hl [1, 2, 0] rfl)
  unfold f_Digits_spell at hf
  refine lv_iload_n hx hb d_Digits_spell_0 rfl (lv_at hl 1 rfl) ?_
  refine lv_bipush (v := 10) hx hb d_Digits_spell_1 (by decide) ?_
  refine lv_icmp_ne (tgt := 11) hx hb d_Digits_spell_3 (by decide) (fun c_3 => ?_) (fun c_3 => ?_)
  · have hf := in_ c_3 hf
    refine lv_iload_n hx hb d_Digits_spell_11 rfl (lv_at hl 1 rfl) ?_
    refine lv_bipush (v := 16) hx hb d_Digits_spell_12 (by decide) ?_
    refine lv_icmp_ne (tgt := 22) hx hb d_Digits_spell_14 (by decide) (fun c_14 => ?_) (fun c_14 => ?_)
    · have hf := in_ c_14 hf
      refine lv_bipush (v := 10) hx hb d_Digits_spell_22 (by decide) ?_
      exact W_24 (10 : Int32) t_used t_limbs t_cells  hf _ _ _ hP hD hS (lv_sub hl [0, 1] rfl)
    · have hf := ip_ c_14 hf
      refine lv_bipush (v := 7) hx hb d_Digits_spell_17 (by decide) ?_
      refine lv_goto (tgt := 24) hx hb d_Digits_spell_19 (by decide) ?_
      exact W_24 (7 : Int32) t_used t_limbs t_cells  hf _ _ _ hP hD hS (lv_sub hl [0, 1] rfl)
  · have hf := ip_ c_3 hf
    refine lv_bipush (v := 9) hx hb d_Digits_spell_6 (by decide) ?_
    refine lv_goto (tgt := 24) hx hb d_Digits_spell_8 (by decide) ?_
    exact W_24 (9 : Int32) t_used t_limbs t_cells  hf _ _ _ hP hD hS (lv_sub hl [0, 1] rfl)
theorem d_Digits_take_0 : decode cd_Digits_take 0 = .ok (.iconst 0, 1) := by decide +kernel
theorem d_Digits_take_1 : decode cd_Digits_take 1 = .ok (.istore_n 3, 1) := by decide +kernel
theorem d_Digits_take_2 : decode cd_Digits_take 2 = .ok (.iload_n 3, 1) := by decide +kernel
theorem d_Digits_take_3 : decode cd_Digits_take 3 = .ok (.bipush 8, 2) := by decide +kernel
theorem d_Digits_take_5 : decode cd_Digits_take 5 = .ok (.if_icmp .ge 20, 3) := by decide +kernel
theorem d_Digits_take_8 : decode cd_Digits_take 8 = .ok (.aload_n 0, 1) := by decide +kernel
theorem d_Digits_take_9 : decode cd_Digits_take 9 = .ok (.iload_n 3, 1) := by decide +kernel
theorem d_Digits_take_10 : decode cd_Digits_take 10 = .ok (.aload_n 1, 1) := by decide +kernel
theorem d_Digits_take_11 : decode cd_Digits_take 11 = .ok (.getfield 19, 3) := by decide +kernel
theorem d_Digits_take_14 : decode cd_Digits_take 14 = .ok (.iload_n 3, 1) := by decide +kernel
theorem d_Digits_take_15 : decode cd_Digits_take 15 = .ok (.laload, 1) := by decide +kernel
theorem d_Digits_take_16 : decode cd_Digits_take 16 = .ok (.invokevirtual 23, 3) := by decide +kernel
theorem d_Digits_take_19 : decode cd_Digits_take 19 = .ok (.iinc 3 1, 3) := by decide +kernel
theorem d_Digits_take_22 : decode cd_Digits_take 22 = .ok (.goto (-20), 3) := by decide +kernel
theorem d_Digits_take_25 : decode cd_Digits_take 25 = .ok (.aload_n 0, 1) := by decide +kernel
theorem d_Digits_take_26 : decode cd_Digits_take 26 = .ok (.iload_n 2, 1) := by decide +kernel
theorem d_Digits_take_27 : decode cd_Digits_take 27 = .ok (.invokevirtual 27, 3) := by decide +kernel
theorem d_Digits_take_30 : decode cd_Digits_take 30 = .ok (.aload_n 0, 1) := by decide +kernel
theorem d_Digits_take_31 : decode cd_Digits_take 31 = .ok (.aload_n 1, 1) := by decide +kernel
theorem d_Digits_take_32 : decode cd_Digits_take 32 = .ok (.getfield 31, 3) := by decide +kernel
theorem d_Digits_take_35 : decode cd_Digits_take 35 = .ok (.putfield 35, 3) := by decide +kernel
theorem d_Digits_take_38 : decode cd_Digits_take 38 = .ok (.return_, 1) := by decide +kernel
theorem m_198 : Cond.methodLink R_Digits 27 y_Digits_spell ∈ gw := gm (i := 696) (by decide +kernel) (by decide +kernel)
theorem m_199 : Cond.instanceMethod y_Digits_spell ∈ gw := gm (i := 698) (by decide +kernel) (by decide +kernel)
theorem m_200 : Cond.selects R_Digits y_Digits_spell y_Digits_spell ∈ gw := gm (i := 22) (by decide +kernel) (by decide +kernel)
set_option maxRecDepth 100000 in
theorem m_201 : Cond.code y_Digits_spell cd_Digits_spell 9 none ∈ gw := gm (i := 699) rfl rfl
theorem nm_1 : Cond.fieldLinkNest R_Digits 31 "SpecifierDesk$Argument" "lowest" "I" "SpecifierDesk" ∈ nwL := nwm (i := 269) (by decide +kernel) (by decide +kernel)
theorem nm_2 : Cond.fieldLinkNest R_Digits 19 "SpecifierDesk$Argument" "words" "[J" "SpecifierDesk" ∈ nwL := nwm (i := 257) (by decide +kernel) (by decide +kernel)
theorem m_202 : Cond.methodLink R_Digits 23 y_Digits_setLimbs ∈ gw := gm (i := 692) (by decide +kernel) (by decide +kernel)
theorem m_203 : Cond.instanceMethod y_Digits_setLimbs ∈ gw := gm (i := 694) (by decide +kernel) (by decide +kernel)
theorem m_204 : Cond.selects R_Digits y_Digits_setLimbs y_Digits_setLimbs ∈ gw := gm (i := 21) (by decide +kernel) (by decide +kernel)
set_option maxRecDepth 100000 in
theorem m_205 : Cond.code y_Digits_setLimbs cd_Digits_setLimbs 4 none ∈ gw := gm (i := 695) rfl rfl
def b_Digits_take_2 (K : Nat) (a1_words : Nat → Int64) (a1_lowest : Int32) (a2 : Int32) (t_used : Int32) (t_lowest : Int32) (t_cells : (Nat → Int32)) (rec_2 : (Int32 × (Nat → Int32)) → Option (Int32 × Int32 × (Nat → Int32) × (Nat → Int32))) (z2 : Int32 × (Nat → Int32)) : Option (Int32 × Int32 × (Nat → Int32) × (Nat → Int32)) :=
  (if (8 : Int32) ≤ z2.1 then ((f_Digits_spell K z2.2 t_cells t_used a2).bind fun u_27 => some (u_27.1, a1_lowest, u_27.2.1, u_27.2.2)) else (if inB z2.1 8 = true then ((f_Digits_setLimbs z2.2 z2.1 (a1_words z2.1.toNatClampNeg)).bind fun u_16 => rec_2 ((z2.1 + 1), u_16)) else none))
def f_Digits_take (K : Nat) (t_limbs : Nat → Int32) (t_cells : Nat → Int32) (t_used : Int32) (t_lowest : Int32) (a1_words : Nat → Int64) (a1_lowest : Int32) (a2 : Int32) : Option (Int32 × Int32 × (Nat → Int32) × (Nat → Int32)) :=
  lp_ (b_Digits_take_2 K a1_words a1_lowest a2 t_used t_lowest t_cells) K ((0 : Int32), t_limbs)
abbrev w_Digits_take (G : Gt) (qt : Nat) (qt_limbs : Nat) (t_limbs : Nat → Int32) (qt_cells : Nat) (t_cells : Nat → Int32) (t_used : Int32) (t_lowest : Int32) (qa1 : Nat) (qa1_words : Nat) (a1_words : Nat → Int64) (a1_kind : Nat) (a1_minus : Int32) (a1_bits : Int64) (a1_wide : Int32) (a1_lowest : Int32) (a1_letters : Option Nat) : va_W := [(qt, .inr (2, [.ref qt_limbs, .ref qt_cells, .int t_used, .int t_lowest])), (qt_limbs, .inl (gC G 1, 16, .inl t_limbs)), (qt_cells, .inl (gC G 0, 208, .inl t_cells)), (qa1, .inr (0, [.ref qa1_words, .ref (gK G a1_kind), .int a1_minus, .long a1_bits, .int a1_wide, .int a1_lowest, va_rf a1_letters])), (qa1_words, .inl (gC G 2, 8, .inr (.inl a1_words)))]
set_option maxHeartbeats 4000000 in
set_option maxRecDepth 100000 in
theorem c_Digits_take (l : Launch) (G : Gt) (K : Nat) (qt : Nat) (qt_limbs : Nat) (t_limbs : Nat → Int32) (qt_cells : Nat) (t_cells : Nat → Int32) (t_used : Int32) (t_lowest : Int32) (qa1 : Nat) (qa1_words : Nat) (a1_words : Nat → Int64) (a1_kind : Nat) (a1_minus : Int32) (a1_bits : Int64) (a1_wide : Int32) (a1_lowest : Int32) (a1_letters : Option Nat) (a2 : Int32) (sz : Nat) (res : Int32 × Int32 × (Nat → Int32) × (Nat → Int32))  (hr_a1_kind : a1_kind < 8) (hf : f_Digits_take K t_limbs t_cells t_used t_lowest a1_words a1_lowest a2 = some res) : Met l y_Digits_take (.code y_Digits_take cd_Digits_take 4 none :: gw) { frames := 2, cells := 0, slots := 0, locals := 80 } (PC G ([.ref qt, .ref qa1, .int a2] : List Value) sz (w_Digits_take G qt qt_limbs t_limbs qt_cells t_cells t_used t_lowest qa1 qa1_words a1_words a1_kind a1_minus a1_bits a1_wide a1_lowest a1_letters)) (QV G (va_A (w_Digits_take G qt qt_limbs t_limbs qt_cells t_cells t_used t_lowest qa1 qa1_words a1_words a1_kind a1_minus a1_bits a1_wide a1_lowest a1_letters) sz) (w_Digits_take G qt qt_limbs res.2.2.1 qt_cells res.2.2.2 res.1 res.2.1 qa1 qa1_words a1_words a1_kind a1_minus a1_bits a1_wide a1_lowest a1_letters)) 0 0 (va_A (w_Digits_take G qt qt_limbs t_limbs qt_cells t_cells t_used t_lowest qa1 qa1_words a1_words a1_kind a1_minus a1_bits a1_wide a1_lowest a1_letters) sz) := by
  refine Met.ofW (cc := cd_Digits_take) (maxL := 4) (ret := none) (by decide) rfl ?_
  intro p e s m args below meth c s₁ B hml hv
  obtain ⟨rfl, hsz, hP, hE, hD0⟩ := hv
  have hx := B.exec
  have hb := B.bytes
  have hr := B.returns
  have hts := atoms_spec (ws := (.code y_Digits_take cd_Digits_take 4 none :: gw)) B.pre
  have hg : ∀ w ∈ gw, w.before _ s = true := fun w h => hts w (List.mem_cons_of_mem _ h)
  have hown : s.vm.findClass R_Digits = some m.cls := findClass_of_methodNamed B.named
  have hlocks := B.notSynchronized
  subst hsz
  have hK := hE.K
  have hD := hD0.self (sz := s.heap.size)
  have hAb := hE.ab hD0
  obtain ⟨Q, hQ⟩ : ∃ Q, MQ below (QV G (va_A (w_Digits_take G qt qt_limbs t_limbs qt_cells t_cells t_used t_lowest qa1 qa1_words a1_words a1_kind a1_minus a1_bits a1_wide a1_lowest a1_letters) s.heap.size) (w_Digits_take G qt qt_limbs res.2.2.1 qt_cells res.2.2.2 res.1 res.2.1 qa1 qa1_words a1_words a1_kind a1_minus a1_bits a1_wide a1_lowest a1_letters)) ([.ref qt, .ref qa1, .int a2] : List Value).toArray s 0 0 (va_A (w_Digits_take G qt qt_limbs t_limbs qt_cells t_cells t_used t_lowest qa1 qa1_words a1_words a1_kind a1_minus a1_bits a1_wide a1_lowest a1_letters) s.heap.size) = Q := ⟨_, rfl⟩
  show W p l e { frames := 2, cells := 0, slots := 0, locals := 80 } s m ([.ref qt, .ref qa1, .int a2] : List Value).toArray below meth c s.heap [] 0 0 (MQ below (QV G (va_A (w_Digits_take G qt qt_limbs t_limbs qt_cells t_cells t_used t_lowest qa1 qa1_words a1_words a1_kind a1_minus a1_bits a1_wide a1_lowest a1_letters) s.heap.size) (w_Digits_take G qt qt_limbs res.2.2.1 qt_cells res.2.2.2 res.1 res.2.1 qa1 qa1_words a1_words a1_kind a1_minus a1_bits a1_wide a1_lowest a1_letters)) ([.ref qt, .ref qa1, .int a2] : List Value).toArray s 0 0 (va_A (w_Digits_take G qt qt_limbs t_limbs qt_cells t_cells t_used t_lowest qa1 qa1_words a1_words a1_kind a1_minus a1_bits a1_wide a1_lowest a1_letters) s.heap.size)) _
  rw [hQ]
  have hA : ∀ q : Nat, s.heap.size ≤ q → va_A (w_Digits_take G qt qt_limbs t_limbs qt_cells t_cells t_used t_lowest qa1 qa1_words a1_words a1_kind a1_minus a1_bits a1_wide a1_lowest a1_letters) s.heap.size q := fun q h => Or.inr h
  obtain ⟨A, hAe⟩ : ∃ A, va_A (w_Digits_take G qt qt_limbs t_limbs qt_cells t_cells t_used t_lowest qa1 qa1_words a1_words a1_kind a1_minus a1_bits a1_wide a1_lowest a1_letters) s.heap.size = A := ⟨_, rfl⟩
  rw [hAe] at hA hD hAb hQ
  have hS : va_S A s.heap s.heap [] := va_S.rf
  have hl := lv_entry (([.ref qt, .ref qa1, .int a2] : List Value)) (n := 4) (Nat.le_of_ble_eq_true rfl)
  rw [lg_entry_eq]
  generalize (lg_sl (([.ref qt, .ref qa1, .int a2] : List Value)) ++ List.replicate (4 - (lg_sl (([.ref qt, .ref qa1, .int a2] : List Value))).length) Slot.unset).toArray = ls at hl ⊢
  have hl : lv_has ls 4 [(0, .ref qt), (1, .ref qa1), (2, .int a2)] := hl
  have W_2 : ∀ (t_used : Int32) (t_lowest : Int32) (t_cells : (Nat → Int32))  (n_2 : Nat) (z2 : Int32 × (Nat → Int32)) , lp_ (b_Digits_take_2 K a1_words a1_lowest a2 t_used t_lowest t_cells) n_2 z2 = some res → ∀ (H : Heap) (locs : List Loc) (ls : Array Slot), va_P (gD G) vwCl (w_Digits_take G qt qt_limbs z2.2 qt_cells t_cells t_used t_lowest qa1 qa1_words a1_words a1_kind a1_minus a1_bits a1_wide a1_lowest a1_letters) H → va_D A (w_Digits_take G qt qt_limbs z2.2 qt_cells t_cells t_used t_lowest qa1 qa1_words a1_words a1_kind a1_minus a1_bits a1_wide a1_lowest a1_letters) → va_S A s.heap H locs → lv_has ls 4 [(0, .ref qt), (1, .ref qa1), (2, .int a2), (3, .int z2.1)] → W p l e { frames := 2, cells := 0, slots := 0, locals := 80 } s m ([.ref qt, .ref qa1, .int a2] : List Value).toArray below meth c H locs 0 0 Q (F0 m 2 ls []) := by
    intro t_used t_lowest t_cells n_2
    induction n_2 with
    | zero =>
      intro z2  hf
      cases hf
    | succ n_2 ih_2 =>
      intro z2  hf H locs ls hP hD hS hl
      have hf : b_Digits_take_2 K a1_words a1_lowest a2 t_used t_lowest t_cells (lp_ (b_Digits_take_2 K a1_words a1_lowest a2 t_used t_lowest t_cells) n_2) z2 = some res := hf
      generalize lp_ (b_Digits_take_2 K a1_words a1_lowest a2 t_used t_lowest t_cells) n_2 = rec_2 at hf ih_2
      unfold b_Digits_take_2 at hf
      refine lv_iload_n hx hb d_Digits_take_2 rfl (lv_at hl 3 rfl) ?_
      refine lv_bipush (v := 8) hx hb d_Digits_take_3 (by decide) ?_
      refine lv_icmp_ge (tgt := 25) hx hb d_Digits_take_5 (by decide) (fun c_5 => ?_) (fun c_5 => ?_)
      · have hf := ip_ c_5 hf
        refine lv_aload_n hx hb d_Digits_take_25 rfl (lv_at hl 0 rfl) ?_
        refine lv_iload_n hx hb d_Digits_take_26 rfl (lv_at hl 2 rfl) ?_
        obtain ⟨u_27, hu_27, hf⟩ := bd_ hf
        refine CALLv (va_runV (As := [.int a2]) (rest := []) ⟨hx, hb, hml, hown, hg⟩ (c_Digits_spell l G K qt qt_limbs z2.2 qt_cells t_cells t_used t_lowest a2 _ u_27  hu_27) (cwV 1 hg (gV m_198 m_199 m_200 m_179 m_201) rfl rfl rfl (by decide +kernel) ⟨Nat.le_of_ble_eq_true rfl, Nat.le_of_ble_eq_true rfl⟩) ⟨PC_b, va_recv hK hP (ci := 2) (q0 := 0) rfl rfl, PC_p hE hS hAb (hP.sub [0, 1, 2] rfl) (hD.sub [0, 1, 2] (by decide) rfl)⟩ rfl rfl hl.1 rfl (lv_room (Nat.le_of_ble_eq_true rfl)) d_Digits_take_27 ⟨Nat.zero_le _, Nat.zero_le _⟩) hP hD hS hA [0, 1, 2] rfl rfl rfl (fun H locs hP hD hS => ?_)
        have hP : va_P (gD G) vwCl (w_Digits_take G qt qt_limbs u_27.2.1 qt_cells u_27.2.2 u_27.1 t_lowest qa1 qa1_words a1_words a1_kind a1_minus a1_bits a1_wide a1_lowest a1_letters) H := hP
        have hD : va_D A (w_Digits_take G qt qt_limbs u_27.2.1 qt_cells u_27.2.2 u_27.1 t_lowest qa1 qa1_words a1_words a1_kind a1_minus a1_bits a1_wide a1_lowest a1_letters) := hD
        refine lv_aload_n hx hb d_Digits_take_30 rfl (lv_at hl 0 rfl) ?_
        refine lv_aload_n hx hb d_Digits_take_31 rfl (lv_at hl 1 rfl) ?_
        refine va_getN (D := gD G) (ci := 0) (v := .int a1_lowest) (C := R_Argument) (T := F_Argument) (N := 7) hx hb hg in_Argument hown hK hP 3 rfl rfl 5 (by decide) (va_Nw.use rfl (hE.nw _ nm_1)) (fun _ h9 => h9) rfl d_Digits_take_32 ?_
        refine va_put (D := gD G) (ci := 2) (v := .int a1_lowest) (ty := .int) (C := R_Digits) (T := F_Digits) (N := 4) hx hb hg in_Digits t_Digits to_Digits no_Digits hown hK hP hD hS 0 rfl rfl 3 (by decide) (hg _ m_174) (fun _ h9 => h9) rfl (by decide +kernel) rfl rfl (Nat.le_of_ble_eq_true rfl) d_Digits_take_35 (fun H locs hP hD hS => ?_)
        have hP : va_P (gD G) vwCl (w_Digits_take G qt qt_limbs u_27.2.1 qt_cells u_27.2.2 u_27.1 a1_lowest qa1 qa1_words a1_words a1_kind a1_minus a1_bits a1_wide a1_lowest a1_letters) H := hP
        have hD : va_D A (w_Digits_take G qt qt_limbs u_27.2.1 qt_cells u_27.2.2 u_27.1 a1_lowest qa1 qa1_words a1_words a1_kind a1_minus a1_bits a1_wide a1_lowest a1_letters) := hD
        obtain rfl := Option.some.inj hf
        rw [← hQ]
        exact W.vret hx hb hr (fun t9 ht hW => ⟨⟨(), rfl, trivial, ⟨by rw [ht]; exact hP, hD⟩⟩, hS.F ht⟩) hS.2.2 d_Digits_take_38
      · have hf := in_ c_5 hf
        refine lv_aload_n hx hb d_Digits_take_8 rfl (lv_at hl 0 rfl) ?_
        refine lv_iload_n hx hb d_Digits_take_9 rfl (lv_at hl 3 rfl) ?_
        refine lv_aload_n hx hb d_Digits_take_10 rfl (lv_at hl 1 rfl) ?_
        refine va_getN (D := gD G) (ci := 0) (v := .ref qa1_words) (C := R_Argument) (T := F_Argument) (N := 7) hx hb hg in_Argument hown hK hP 3 rfl rfl 0 (by decide) (va_Nw.use rfl (hE.nw _ nm_2)) (fun _ h9 => h9) rfl d_Digits_take_11 ?_
        refine lv_iload_n hx hb d_Digits_take_14 rfl (lv_at hl 3 rfl) ?_
        obtain ⟨g_15, hf⟩ := gd_ hf
        refine va_lald hx hb hK hP 4 2 rfl rfl (inB_in g_15) d_Digits_take_15 ?_
        obtain ⟨u_16, hu_16, hf⟩ := bd_ hf
        refine CALLv (va_runV (As := [.int z2.1, .long (a1_words z2.1.toNatClampNeg)]) (rest := []) ⟨hx, hb, hml, hown, hg⟩ (c_Digits_setLimbs l G K qt qt_limbs z2.2 qt_cells t_cells t_used t_lowest z2.1 (a1_words z2.1.toNatClampNeg) _ u_16  hu_16) (cwV 2 hg (gV m_202 m_203 m_204 m_179 m_205) rfl rfl rfl (by decide +kernel) ⟨Nat.le_of_ble_eq_true rfl, Nat.le_of_ble_eq_true rfl⟩) ⟨PC_b, va_recv hK hP (ci := 2) (q0 := 0) rfl rfl, PC_p hE hS hAb (hP.sub [0, 1, 2] rfl) (hD.sub [0, 1, 2] (by decide) rfl)⟩ rfl rfl hl.1 rfl (lv_room (Nat.le_of_ble_eq_true rfl)) d_Digits_take_16 ⟨Nat.zero_le _, Nat.zero_le _⟩) hP hD hS hA [0, 1, 2] rfl rfl rfl (fun H locs hP hD hS => ?_)
        have hP : va_P (gD G) vwCl (w_Digits_take G qt qt_limbs u_16 qt_cells t_cells t_used t_lowest qa1 qa1_words a1_words a1_kind a1_minus a1_bits a1_wide a1_lowest a1_letters) H := hP
        have hD : va_D A (w_Digits_take G qt qt_limbs u_16 qt_cells t_cells t_used t_lowest qa1 qa1_words a1_words a1_kind a1_minus a1_bits a1_wide a1_lowest a1_letters) := hD
        refine lv_iinc (v := (z2.1 + 1)) (lv' := [(3, .int (z2.1 + 1)), (0, .ref qt), (1, .ref qa1), (2, .int a2)]) hx hb d_Digits_take_19 hl (k := 3) rfl rfl (by decide) rfl (fun ls hl => ?_)
        refine lv_goto (tgt := 2) hx hb d_Digits_take_22 (by decide) ?_
        exact ih_2 ((z2.1 + 1), u_16)  hf _ _ _ hP hD hS (lv_sub hl [1, 2, 3, 0] rfl)
  unfold f_Digits_take at hf
  refine lv_iconst (v := 0) hx hb d_Digits_take_0 (by decide) ?_
  refine lv_istore_n (lv' := [(3, .int (0 : Int32)), (0, .ref qt), (1, .ref qa1), (2, .int a2)]) hx hb d_Digits_take_1 rfl hl (by decide) rfl (fun ls hl => ?_)
  exact W_2 t_used t_lowest t_cells  K ((0 : Int32), t_limbs)  hf _ _ _ hP hD hS (lv_sub hl [1, 2, 3, 0] rfl)
theorem d_Digits_takeBits_0 : decode cd_Digits_takeBits 0 = .ok (.aload_n 0, 1) := by decide +kernel
theorem d_Digits_takeBits_1 : decode cd_Digits_takeBits 1 = .ok (.getfield 9, 3) := by decide +kernel
theorem d_Digits_takeBits_4 : decode cd_Digits_takeBits 4 = .ok (.iconst 0, 1) := by decide +kernel
theorem d_Digits_takeBits_5 : decode cd_Digits_takeBits 5 = .ok (.invokestatic 36, 3) := by decide +kernel
theorem d_Digits_takeBits_8 : decode cd_Digits_takeBits 8 = .ok (.aload_n 0, 1) := by decide +kernel
theorem d_Digits_takeBits_9 : decode cd_Digits_takeBits 9 = .ok (.iconst 0, 1) := by decide +kernel
theorem d_Digits_takeBits_10 : decode cd_Digits_takeBits 10 = .ok (.lload_n 1, 1) := by decide +kernel
theorem d_Digits_takeBits_11 : decode cd_Digits_takeBits 11 = .ok (.invokevirtual 23, 3) := by decide +kernel
theorem d_Digits_takeBits_14 : decode cd_Digits_takeBits 14 = .ok (.aload_n 0, 1) := by decide +kernel
theorem d_Digits_takeBits_15 : decode cd_Digits_takeBits 15 = .ok (.iload_n 3, 1) := by decide +kernel
theorem d_Digits_takeBits_16 : decode cd_Digits_takeBits 16 = .ok (.invokevirtual 27, 3) := by decide +kernel
theorem d_Digits_takeBits_19 : decode cd_Digits_takeBits 19 = .ok (.aload_n 0, 1) := by decide +kernel
theorem d_Digits_takeBits_20 : decode cd_Digits_takeBits 20 = .ok (.iconst 0, 1) := by decide +kernel
theorem d_Digits_takeBits_21 : decode cd_Digits_takeBits 21 = .ok (.putfield 35, 3) := by decide +kernel
theorem d_Digits_takeBits_24 : decode cd_Digits_takeBits 24 = .ok (.return_, 1) := by decide +kernel
theorem m_206 : Cond.methodLink R_Digits 36 y_Arrays_fill_1 ∈ gw := gm (i := 790) (by decide +kernel) (by decide +kernel)
theorem m_207 : Cond.static y_Arrays_fill_1 ∈ gw := gm (i := 791) (by decide +kernel) (by decide +kernel)
set_option maxRecDepth 100000 in
theorem m_208 : Cond.code y_Arrays_fill_1 cd_Arrays_fill_1 4 none ∈ gw := gm (i := 792) rfl rfl
def f_Digits_takeBits (K : Nat) (t_limbs : Nat → Int32) (t_cells : Nat → Int32) (t_used : Int32) (a1 : Int64) (a2 : Int32) : Option (Int32 × Int32 × (Nat → Int32) × (Nat → Int32)) :=
  ((f_Arrays_fill_1 K 16 t_limbs (0 : Int32)).bind fun u_5 => ((f_Digits_setLimbs u_5 (0 : Int32) a1).bind fun u_11 => ((f_Digits_spell K u_11 t_cells t_used a2).bind fun u_16 => some (u_16.1, (0 : Int32), u_16.2.1, u_16.2.2))))
set_option maxHeartbeats 4000000 in
set_option maxRecDepth 100000 in
theorem c_Digits_takeBits (l : Launch) (G : Gt) (K : Nat) (qt : Nat) (qt_limbs : Nat) (t_limbs : Nat → Int32) (qt_cells : Nat) (t_cells : Nat → Int32) (t_used : Int32) (t_lowest : Int32) (a1 : Int64) (a2 : Int32) (sz : Nat) (res : Int32 × Int32 × (Nat → Int32) × (Nat → Int32))   (hf : f_Digits_takeBits K t_limbs t_cells t_used a1 a2 = some res) : Met l y_Digits_takeBits (.code y_Digits_takeBits cd_Digits_takeBits 4 none :: gw) { frames := 2, cells := 0, slots := 0, locals := 80 } (PC G ([.ref qt, .long a1, .int a2] : List Value) sz (w_Digits_isZero G qt qt_limbs t_limbs qt_cells t_cells t_used t_lowest)) (QV G (va_A (w_Digits_isZero G qt qt_limbs t_limbs qt_cells t_cells t_used t_lowest) sz) (w_Digits_isZero G qt qt_limbs res.2.2.1 qt_cells res.2.2.2 res.1 res.2.1)) 0 0 (va_A (w_Digits_isZero G qt qt_limbs t_limbs qt_cells t_cells t_used t_lowest) sz) := by
  refine Met.ofW (cc := cd_Digits_takeBits) (maxL := 4) (ret := none) (by decide) rfl ?_
  intro p e s m args below meth c s₁ B hml hv
  obtain ⟨rfl, hsz, hP, hE, hD0⟩ := hv
  have hx := B.exec
  have hb := B.bytes
  have hr := B.returns
  have hts := atoms_spec (ws := (.code y_Digits_takeBits cd_Digits_takeBits 4 none :: gw)) B.pre
  have hg : ∀ w ∈ gw, w.before _ s = true := fun w h => hts w (List.mem_cons_of_mem _ h)
  have hown : s.vm.findClass R_Digits = some m.cls := findClass_of_methodNamed B.named
  have hlocks := B.notSynchronized
  subst hsz
  have hK := hE.K
  have hD := hD0.self (sz := s.heap.size)
  have hAb := hE.ab hD0
  obtain ⟨Q, hQ⟩ : ∃ Q, MQ below (QV G (va_A (w_Digits_isZero G qt qt_limbs t_limbs qt_cells t_cells t_used t_lowest) s.heap.size) (w_Digits_isZero G qt qt_limbs res.2.2.1 qt_cells res.2.2.2 res.1 res.2.1)) ([.ref qt, .long a1, .int a2] : List Value).toArray s 0 0 (va_A (w_Digits_isZero G qt qt_limbs t_limbs qt_cells t_cells t_used t_lowest) s.heap.size) = Q := ⟨_, rfl⟩
  show W p l e { frames := 2, cells := 0, slots := 0, locals := 80 } s m ([.ref qt, .long a1, .int a2] : List Value).toArray below meth c s.heap [] 0 0 (MQ below (QV G (va_A (w_Digits_isZero G qt qt_limbs t_limbs qt_cells t_cells t_used t_lowest) s.heap.size) (w_Digits_isZero G qt qt_limbs res.2.2.1 qt_cells res.2.2.2 res.1 res.2.1)) ([.ref qt, .long a1, .int a2] : List Value).toArray s 0 0 (va_A (w_Digits_isZero G qt qt_limbs t_limbs qt_cells t_cells t_used t_lowest) s.heap.size)) _
  rw [hQ]
  have hA : ∀ q : Nat, s.heap.size ≤ q → va_A (w_Digits_isZero G qt qt_limbs t_limbs qt_cells t_cells t_used t_lowest) s.heap.size q := fun q h => Or.inr h
  obtain ⟨A, hAe⟩ : ∃ A, va_A (w_Digits_isZero G qt qt_limbs t_limbs qt_cells t_cells t_used t_lowest) s.heap.size = A := ⟨_, rfl⟩
  rw [hAe] at hA hD hAb hQ
  have hS : va_S A s.heap s.heap [] := va_S.rf
  have hl := lv_entry (([.ref qt, .long a1, .int a2] : List Value)) (n := 4) (Nat.le_of_ble_eq_true rfl)
  rw [lg_entry_eq]
  generalize (lg_sl (([.ref qt, .long a1, .int a2] : List Value)) ++ List.replicate (4 - (lg_sl (([.ref qt, .long a1, .int a2] : List Value))).length) Slot.unset).toArray = ls at hl ⊢
  have hl : lv_has ls 4 [(0, .ref qt), (1, .long a1), (3, .int a2)] := hl
  unfold f_Digits_takeBits at hf
  refine lv_aload_n hx hb d_Digits_takeBits_0 rfl (lv_at hl 0 rfl) ?_
  refine va_get (D := gD G) (ci := 2) (v := .ref qt_limbs) (C := R_Digits) (T := F_Digits) (N := 4) hx hb hg in_Digits hown hK hP 0 rfl rfl 0 (by decide) (hg _ m_185) (fun _ h9 => h9) rfl d_Digits_takeBits_1 ?_
  refine lv_iconst (v := 0) hx hb d_Digits_takeBits_4 (by decide) ?_
  obtain ⟨u_5, hu_5, hf⟩ := bd_ hf
  refine CALLv (va_runS (As := [.ref qt_limbs, .int (0 : Int32)]) (rest := []) ⟨hx, hb, hml, hown, hg⟩ (c_Arrays_fill_1 l G K qt_limbs 16 t_limbs (0 : Int32) _ u_5  hu_5) (va_cwS 2 hg (gS m_206 m_207 m_89 m_208) rfl rfl rfl (by decide +kernel) ⟨Nat.le_of_ble_eq_true rfl, Nat.le_of_ble_eq_true rfl⟩) ⟨PC_b, PC_p hE hS hAb (hP.sub [1] rfl) (hD.sub [1] (by decide) rfl)⟩ rfl rfl hl.1 rfl (lv_room (Nat.le_of_ble_eq_true rfl)) d_Digits_takeBits_5 ⟨Nat.zero_le _, Nat.zero_le _⟩) hP hD hS hA [1] rfl rfl rfl (fun H locs hP hD hS => ?_)
  have hP : va_P (gD G) vwCl (w_Digits_isZero G qt qt_limbs u_5 qt_cells t_cells t_used t_lowest) H := hP
  have hD : va_D A (w_Digits_isZero G qt qt_limbs u_5 qt_cells t_cells t_used t_lowest) := hD
  refine lv_aload_n hx hb d_Digits_takeBits_8 rfl (lv_at hl 0 rfl) ?_
  refine lv_iconst (v := 0) hx hb d_Digits_takeBits_9 (by decide) ?_
  refine lv_lload_n hx hb d_Digits_takeBits_10 rfl (lv_at hl 1 rfl) ?_
  obtain ⟨u_11, hu_11, hf⟩ := bd_ hf
  refine CALLWv (va_runV (As := [.int (0 : Int32), .long a1]) (rest := []) ⟨hx, hb, hml, hown, hg⟩ (c_Digits_setLimbs l G K qt qt_limbs u_5 qt_cells t_cells t_used t_lowest (0 : Int32) a1 _ u_11  hu_11) (cwV 2 hg (gV m_202 m_203 m_204 m_179 m_205) rfl rfl rfl (by decide +kernel) ⟨Nat.le_of_ble_eq_true rfl, Nat.le_of_ble_eq_true rfl⟩) ⟨PC_b, va_recv hK hP (ci := 2) (q0 := 0) rfl rfl, PC_p hE hS hAb hP hD⟩ rfl rfl hl.1 rfl (lv_room (Nat.le_of_ble_eq_true rfl)) d_Digits_takeBits_11 ⟨Nat.zero_le _, Nat.zero_le _⟩) hP hD hS hA (fun H locs hP hD hS => ?_)
  have hP : va_P (gD G) vwCl (w_Digits_isZero G qt qt_limbs u_11 qt_cells t_cells t_used t_lowest) H := hP
  have hD : va_D A (w_Digits_isZero G qt qt_limbs u_11 qt_cells t_cells t_used t_lowest) := hD
  refine lv_aload_n hx hb d_Digits_takeBits_14 rfl (lv_at hl 0 rfl) ?_
  refine lv_iload_n hx hb d_Digits_takeBits_15 rfl (lv_at hl 2 rfl) ?_
  obtain ⟨u_16, hu_16, hf⟩ := bd_ hf
  refine CALLWv (va_runV (As := [.int a2]) (rest := []) ⟨hx, hb, hml, hown, hg⟩ (c_Digits_spell l G K qt qt_limbs u_11 qt_cells t_cells t_used t_lowest a2 _ u_16  hu_16) (cwV 1 hg (gV m_198 m_199 m_200 m_179 m_201) rfl rfl rfl (by decide +kernel) ⟨Nat.le_of_ble_eq_true rfl, Nat.le_of_ble_eq_true rfl⟩) ⟨PC_b, va_recv hK hP (ci := 2) (q0 := 0) rfl rfl, PC_p hE hS hAb hP hD⟩ rfl rfl hl.1 rfl (lv_room (Nat.le_of_ble_eq_true rfl)) d_Digits_takeBits_16 ⟨Nat.zero_le _, Nat.zero_le _⟩) hP hD hS hA (fun H locs hP hD hS => ?_)
  have hP : va_P (gD G) vwCl (w_Digits_isZero G qt qt_limbs u_16.2.1 qt_cells u_16.2.2 u_16.1 t_lowest) H := hP
  have hD : va_D A (w_Digits_isZero G qt qt_limbs u_16.2.1 qt_cells u_16.2.2 u_16.1 t_lowest) := hD
  refine lv_aload_n hx hb d_Digits_takeBits_19 rfl (lv_at hl 0 rfl) ?_
  refine lv_iconst (v := 0) hx hb d_Digits_takeBits_20 (by decide) ?_
  refine va_put (D := gD G) (ci := 2) (v := .int (0 : Int32)) (ty := .int) (C := R_Digits) (T := F_Digits) (N := 4) hx hb hg in_Digits t_Digits to_Digits no_Digits hown hK hP hD hS 0 rfl rfl 3 (by decide) (hg _ m_174) (fun _ h9 => h9) rfl (by decide +kernel) rfl rfl (Nat.le_of_ble_eq_true rfl) d_Digits_takeBits_21 (fun H locs hP hD hS => ?_)
  have hP : va_P (gD G) vwCl (w_Digits_isZero G qt qt_limbs u_16.2.1 qt_cells u_16.2.2 u_16.1 (0 : Int32)) H := hP
  have hD : va_D A (w_Digits_isZero G qt qt_limbs u_16.2.1 qt_cells u_16.2.2 u_16.1 (0 : Int32)) := hD
  obtain rfl := Option.some.inj hf
  rw [← hQ]
  exact W.vret hx hb hr (fun t9 ht hW => ⟨⟨(), rfl, trivial, ⟨by rw [ht]; exact hP, hD⟩⟩, hS.F ht⟩) hS.2.2 d_Digits_takeBits_24
end
