def es_F : List Cond := flatC (Cond.and given_1 narrow_1)
def es_tm (i : Nat) : Term := .string (sRef.getD i ("", 0, "", 0)).1 (sRef.getD i ("", 0, "", 0)).2.1
def es_kd (i : Nat) : Term := .static "SpecifierDesk$Kind" (kNm.getD i "") "LSpecifierDesk$Kind;"
def es_vl (i : Nat) : Term := .field (es_tm i) "java/lang/String" "value" "[B"
def es_sw : Term := .static "SpecifierDesk$1" "$SwitchMap$SpecifierDesk$Kind" "[I"
set_option maxRecDepth 100000 in
theorem es_ex : ∀ i, i < 22 → es_F[([72, 83, 100, 113, 125, 138, 151, 164, 183, 199, 214, 229, 245, 263, 281, 301, 330, 352, 376, 404, 432, 461] : List Nat).getD i 0]? = some (Cond.exactly (es_tm i) "java/lang/String") := by decide +kernel
set_option maxRecDepth 100000 in
theorem es_co : ∀ i, i < 22 → es_F[([73, 84, 101, 114, 126, 139, 152, 165, 184, 200, 215, 230, 246, 264, 282, 302, 331, 353, 377, 405, 433, 462] : List Nat).getD i 0]? = some (Cond.eq (.field (es_tm i) "java/lang/String" "coder" "B") (.int 0)) := by decide +kernel
set_option maxRecDepth 100000 in
theorem es_ar : ∀ i, i < 22 → es_F[([74, 85, 102, 115, 127, 140, 153, 166, 185, 201, 216, 231, 247, 265, 283, 303, 332, 354, 378, 406, 434, 463] : List Nat).getD i 0]? = some (Cond.arrayOf (es_vl i) .byte) := by decide +kernel
set_option maxRecDepth 100000 in
theorem es_le : ∀ i, i < 22 → es_F[([75, 86, 103, 116, 128, 141, 154, 167, 186, 202, 217, 232, 248, 266, 284, 304, 333, 355, 379, 407, 435, 464] : List Nat).getD i 0]? = some (Cond.eq (.length (es_vl i)) (.int (Int32.ofNat (sLen.getD i 0)))) := by decide +kernel
set_option maxRecDepth 100000 in
theorem es_el : ∀ i, i < 22 → ∀ j, j < sLen.getD i 0 → es_F[(([[76, 77, 78, 79, 80, 81, 82], [87, 88, 89, 90, 91, 92, 93, 94, 95, 96, 97, 98], [104, 105, 106, 107, 108, 109, 110], [117, 118, 119, 120, 121], [129, 130, 131, 132, 133], [142, 143, 144, 145], [155, 156, 157], [168, 169, 170, 171, 172, 173, 174, 175], [187, 188, 189, 190], [203, 204], [218], [233], [249, 250], [267], [285, 286], [305, 306, 307, 308, 309, 310, 311, 312, 313, 314], [334, 335], [356, 357, 358], [380, 381, 382, 383, 384, 385], [408, 409, 410, 411, 412], [436, 437, 438, 439, 440], [465, 466, 467, 468, 469, 470]] : List (List Nat)).getD i []).getD j 0]? = some (Cond.eq (.elem (es_vl i) (.int (Int32.ofNat j))) (.int ((sByt.getD i []).getD j 0))) := by decide +kernel
set_option maxRecDepth 100000 in
theorem es_ne : ∀ i, i < 22 → ∀ j, j < 22 → i < j → es_F[(([[0, 99, 111, 122, 134, 146, 158, 176, 191, 205, 219, 234, 251, 268, 287, 315, 336, 359, 386, 413, 441, 471], [0, 0, 112, 123, 135, 147, 159, 177, 192, 206, 220, 235, 252, 269, 288, 316, 337, 360, 387, 414, 442, 472], [0, 0, 0, 124, 136, 148, 160, 178, 193, 207, 221, 236, 253, 270, 289, 317, 338, 361, 388, 415, 443, 473], [0, 0, 0, 0, 137, 149, 161, 179, 194, 208, 222, 237, 254, 271, 290, 318, 339, 362, 389, 416, 444, 474], [0, 0, 0, 0, 0, 150, 162, 180, 195, 209, 223, 238, 255, 272, 291, 319, 340, 363, 390, 417, 445, 475], [0, 0, 0, 0, 0, 0, 163, 181, 196, 210, 224, 239, 256, 273, 292, 320, 341, 364, 391, 418, 446, 476], [0, 0, 0, 0, 0, 0, 0, 182, 197, 211, 225, 240, 257, 274, 293, 321, 342, 365, 392, 419, 447, 477], [0, 0, 0, 0, 0, 0, 0, 0, 198, 212, 226, 241, 258, 275, 294, 322, 343, 366, 393, 420, 448, 478], [0, 0, 0, 0, 0, 0, 0, 0, 0, 213, 227, 242, 259, 276, 295, 323, 344, 367, 394, 421, 449, 479], [0, 0, 0, 0, 0, 0, 0, 0, 0, 0, 228, 243, 260, 277, 296, 324, 345, 368, 395, 422, 450, 480], [0, 0, 0, 0, 0, 0, 0, 0, 0, 0, 0, 244, 261, 278, 297, 325, 346, 369, 396, 423, 451, 481], [0, 0, 0, 0, 0, 0, 0, 0, 0, 0, 0, 0, 262, 279, 298, 326, 347, 370, 397, 424, 452, 482], [0, 0, 0, 0, 0, 0, 0, 0, 0, 0, 0, 0, 0, 280, 299, 327, 348, 371, 398, 425, 453, 483], [0, 0, 0, 0, 0, 0, 0, 0, 0, 0, 0, 0, 0, 0, 300, 328, 349, 372, 399, 426, 454, 484], [0, 0, 0, 0, 0, 0, 0, 0, 0, 0, 0, 0, 0, 0, 0, 329, 350, 373, 400, 427, 455, 485], [0, 0, 0, 0, 0, 0, 0, 0, 0, 0, 0, 0, 0, 0, 0, 0, 351, 374, 401, 428, 456, 486], [0, 0, 0, 0, 0, 0, 0, 0, 0, 0, 0, 0, 0, 0, 0, 0, 0, 375, 402, 429, 457, 487], [0, 0, 0, 0, 0, 0, 0, 0, 0, 0, 0, 0, 0, 0, 0, 0, 0, 0, 403, 430, 458, 488], [0, 0, 0, 0, 0, 0, 0, 0, 0, 0, 0, 0, 0, 0, 0, 0, 0, 0, 0, 431, 459, 489], [0, 0, 0, 0, 0, 0, 0, 0, 0, 0, 0, 0, 0, 0, 0, 0, 0, 0, 0, 0, 460, 490], [0, 0, 0, 0, 0, 0, 0, 0, 0, 0, 0, 0, 0, 0, 0, 0, 0, 0, 0, 0, 0, 491], [0, 0, 0, 0, 0, 0, 0, 0, 0, 0, 0, 0, 0, 0, 0, 0, 0, 0, 0, 0, 0, 0]] : List (List Nat)).getD i []).getD j 0]? = some (Cond.not (Cond.eq (es_tm i) (es_tm j))) := by decide +kernel
set_option maxRecDepth 100000 in
theorem es_kx : ∀ i, i < 8 → es_F[([4, 7, 11, 16, 22, 29, 37, 46] : List Nat).getD i 0]? = some (Cond.exactly (es_kd i) "SpecifierDesk$Kind") := by decide +kernel
set_option maxRecDepth 100000 in
theorem es_ko : ∀ i, i < 8 → es_F[([5, 8, 12, 17, 23, 30, 38, 47] : List Nat).getD i 0]? = some (Cond.eq (.field (es_kd i) "java/lang/Enum" "ordinal" "I") (.int (([0, 1, 2, 3, 4, 5, 6, 7] : List Int32).getD i 0))) := by decide +kernel
set_option maxRecDepth 100000 in
theorem es_kn : ∀ i, i < 8 → ∀ j, j < 8 → i < j → es_F[(([[0, 10, 14, 19, 25, 32, 40, 49], [0, 0, 15, 20, 26, 33, 41, 50], [0, 0, 0, 21, 27, 34, 42, 51], [0, 0, 0, 0, 28, 35, 43, 52], [0, 0, 0, 0, 0, 36, 44, 53], [0, 0, 0, 0, 0, 0, 45, 54], [0, 0, 0, 0, 0, 0, 0, 55], [0, 0, 0, 0, 0, 0, 0, 0]] : List (List Nat)).getD i []).getD j 0]? = some (Cond.not (Cond.eq (es_kd i) (es_kd j))) := by decide +kernel
set_option maxRecDepth 100000 in
theorem es_kc : ∀ i, i < 8 → es_F[([6, 9, 13, 18, 24, 31, 39, 48] : List Nat).getD i 0]? = some (Cond.eq (.field (es_kd i) "SpecifierDesk$Kind" "conversions" "Ljava/lang/String;") (es_tm (kConv i))) := by decide +kernel
theorem es_cs : es_F[56]? = some (Cond.eq (.static "java/lang/String" "COMPACT_STRINGS" "Z") (.int 1)) := by decide +kernel
theorem es_ff : es_F[57]? = some (Cond.isRef (.static "jdk/internal/util/Preconditions" "SIOOBE_FORMATTER" "Ljava/util/function/BiFunction;")) := by decide +kernel
theorem es_sa : es_F[62]? = some (Cond.arrayOf es_sw .int) := by decide +kernel
theorem es_sl : es_F[63]? = some (Cond.eq (.length es_sw) (.int 8)) := by decide +kernel
set_option maxRecDepth 100000 in
theorem es_se : ∀ i, i < 8 → es_F[([64, 65, 66, 67, 68, 69, 70, 71] : List Nat).getD i 0]? = some (Cond.eq (.elem es_sw (.int (Int32.ofNat i))) (.int (swm i))) := by decide +kernel
set_option maxRecDepth 100000 in
theorem es_sr : ∀ i, i < 22 → lw_tbl[([467, 550, 563, 564, 627, 628, 671, 677, 683, 763, 764, 793, 794, 840, 841, 1210, 1211, 1212, 1213, 1214, 1215, 1216] : List Nat).getD i 0]? = some (Cond.stringRef (sRef.getD i ("", 0, "", 0)).1 (sRef.getD i ("", 0, "", 0)).2.1 (sRef.getD i ("", 0, "", 0)).2.2.1) := by decide +kernel
theorem es_sj : ∀ i, i < 22 → (sRef.getD i ("", 0, "", 0)).2.2.2 = i := by decide +kernel
set_option maxRecDepth 100000 in
theorem es_kl : ∀ i, i < 8 → lw_tbl[([255, 354, 360, 366, 372, 386, 401, 407] : List Nat).getD i 0]? = some (Cond.laysStatic "SpecifierDesk$Kind" (kNm.getD i "") "LSpecifierDesk$Kind;") := by decide +kernel
theorem es_l1 : Cond.laysStatic "java/lang/String" "COMPACT_STRINGS" "Z" ∈ lw_tbl := List.mem_of_getElem? (i := 481) (by decide +kernel)
theorem es_l2 : Cond.laysStatic "jdk/internal/util/Preconditions" "SIOOBE_FORMATTER" "Ljava/util/function/BiFunction;" ∈ lw_tbl := List.mem_of_getElem? (i := 520) (by decide +kernel)
theorem es_l3 : Cond.laysStatic "SpecifierDesk$1" "$SwitchMap$SpecifierDesk$Kind" "[I" ∈ lw_tbl := List.mem_of_getElem? (i := 717) (by decide +kernel)
theorem es_n0 : Cond.initialized "SpecifierDesk$Kind" ∈ lw_tbl := List.mem_of_getElem? (i := 91) (by decide +kernel)
theorem es_n1 : Cond.initialized "java/lang/String" ∈ lw_tbl := List.mem_of_getElem? (i := 94) (by decide +kernel)
theorem es_n2 : Cond.initialized "jdk/internal/util/Preconditions" ∈ lw_tbl := List.mem_of_getElem? (i := 97) (by decide +kernel)
theorem es_n3 : Cond.initialized "SpecifierDesk$1" ∈ lw_tbl := List.mem_of_getElem? (i := 99) (by decide +kernel)
theorem es_i0 : Cond.instantiable R_Argument 7 ∈ lw_tbl := List.mem_of_getElem? (i := 249) (by decide +kernel)
theorem es_i1 : Cond.instantiable R_Composer 8 ∈ lw_tbl := List.mem_of_getElem? (i := 177) (by decide +kernel)
theorem es_i2 : Cond.instantiable R_Digits 4 ∈ lw_tbl := List.mem_of_getElem? (i := 185) (by decide +kernel)
theorem es_i3 : Cond.instantiable R_Hex 3 ∈ lw_tbl := List.mem_of_getElem? (i := 205) (by decide +kernel)
theorem es_i4 : Cond.instantiable R_Row 3 ∈ lw_tbl := List.mem_of_getElem? (i := 109) (by decide +kernel)
theorem es_i5 : Cond.instantiable R_Specifier 10 ∈ lw_tbl := List.mem_of_getElem? (i := 133) (by decide +kernel)
theorem es_i6 : Cond.instantiable R_Desk 8 ∈ lw_tbl := List.mem_of_getElem? (i := 101) (by decide +kernel)
theorem es_i7 : Cond.instantiable R_Model 29 ∈ lw_tbl := List.mem_of_getElem? (i := 855) (by decide +kernel)
theorem es_a0 : Cond.arrayClass .byte ∈ lw_tbl := List.mem_of_getElem? (i := 131) (by decide +kernel)
theorem es_a1 : Cond.arrayClass .int ∈ lw_tbl := List.mem_of_getElem? (i := 203) (by decide +kernel)
theorem es_a2 : Cond.arrayClass .long ∈ lw_tbl := List.mem_of_getElem? (i := 291) (by decide +kernel)
theorem es_a3 : Cond.arrayClass .boolean ∈ lw_tbl := List.mem_of_getElem? (i := 948) (by decide +kernel)
theorem es_ao : Cond.arrayOver (.object "SpecifierDesk$Argument") ∈ lw_tbl := List.mem_of_getElem? (i := 248) (by decide +kernel)
theorem es_arr {args : Array Value} {s : State} {ty : FieldType} (h : (Cond.arrayClass ty).before args s = true) : ∃ cA : ClassId, ArrOfT s cA ty ∧ s.vm.findClass ("[" ++ ty.toString) = some cA := by
  obtain ⟨cA, kA, comp, f1, f2, f3⟩ := Cond.arrayClass_spec h
  exact ⟨cA, fun n z => ⟨fun k h => (by cases h), kA, f2, comp, f3⟩, f1⟩
def pick {α : Type} (d : α) : List α → Nat → α
  | [], _ => d
  | x :: _, 0 => x
  | _ :: xs, n + 1 => pick d xs n
set_option maxRecDepth 100000 in
theorem est {args : Array Value} {s : State} (hts : ∀ w ∈ lw_tbl, w.before args s = true) (hgv : (Cond.and given_1 narrow_1).before args s = true) : ∃ G : Gt, gb G = s.heap.size ∧ EV G s ∧ va_AO "SpecifierDesk$Argument" s := by
  have hf : ∀ w ∈ es_F, w.before args s = true := flat_of_before _ hgv
  have hfm : ∀ (i : Nat) (w : Cond), es_F[i]? = some w → w.before args s = true := fun i w h => hf w (List.mem_of_getElem? h)
  have htm : ∀ (i : Nat) (w : Cond), lw_tbl[i]? = some w → w.before args s = true := fun i w h => hts w (List.mem_of_getElem? h)
  have hg : ∀ w ∈ gw, w.before args s = true := fun w hw => hts w (List.mem_filter.mp hw).1
  have hA : ∀ a : Nat, a < s.heap.size → ¬ s.heap.size ≤ a := fun a h => Nat.not_le.mpr h
  obtain ⟨c0, j0, K0⟩ := u_known (C := R_Argument) (T := F_Argument) (N := 7) (n := 7) hg in_Argument (hts _ es_i0)
  obtain ⟨c1, j1, K1⟩ := u_known (C := R_Composer) (T := F_Composer) (N := 8) (n := 8) hg in_Composer (hts _ es_i1)
  obtain ⟨c2, j2, K2⟩ := u_known (C := R_Digits) (T := F_Digits) (N := 4) (n := 4) hg in_Digits (hts _ es_i2)
  obtain ⟨c3, j3, K3⟩ := u_known (C := R_Hex) (T := F_Hex) (N := 3) (n := 3) hg in_Hex (hts _ es_i3)
  obtain ⟨c4, j4, K4⟩ := u_known (C := R_Row) (T := F_Row) (N := 3) (n := 3) hg in_Row (hts _ es_i4)
  obtain ⟨c5, j5, K5⟩ := u_known (C := R_Specifier) (T := F_Specifier) (N := 10) (n := 10) hg in_Specifier (hts _ es_i5)
  obtain ⟨c6, j6, K6⟩ := u_known (C := R_Desk) (T := F_Desk) (N := 8) (n := 8) hg in_Desk (hts _ es_i6)
  obtain ⟨c7, j7, K7⟩ := u_known (C := R_Model) (T := F_Model) (N := 29) (n := 29) hg in_Model (hts _ es_i7)
  obtain ⟨a0, A0, B0⟩ := es_arr (hts _ es_a0)
  obtain ⟨a1, A1, B1⟩ := es_arr (hts _ es_a1)
  obtain ⟨a2, A2, B2⟩ := es_arr (hts _ es_a2)
  obtain ⟨a3, A3, B3⟩ := es_arr (hts _ es_a3)
  obtain ⟨comp, a4, k4, f1, f2, f3, f4, f5⟩ := Cond.arrayOver_spec (hts _ es_ao)
  obtain ⟨tK, tV, hS, hSe⟩ := vk_Sof (args := args) (s := s) (N := 22) (tm := es_tm) (len := sLen) (byt := sByt) (A := fun q => s.heap.size ≤ q) (by decide +kernel) (fun i hi => hfm _ _ (es_ex i hi)) (fun i hi => hfm _ _ (es_co i hi)) (fun i hi => hfm _ _ (es_ar i hi)) (fun i hi => hfm _ _ (es_le i hi)) (fun i hi j hj => hfm _ _ (es_el i hi j hj))
    (fun i j hi hj hij => by
      rcases Nat.lt_or_gt_of_ne hij with h | h
      · exact Or.inl (hfm _ _ (es_ne i hi j hj h))
      · exact Or.inr (hfm _ _ (es_ne j hj i hi h))) hA
  obtain ⟨kA, hE1, hE2⟩ := va_Enof2 (args := args) (s := s) (E := "SpecifierDesk$Kind") (d := "LSpecifierDesk$Kind;") (nm := kNm) (F := kF) (A := fun q => s.heap.size ≤ q) (fun i hi => htm _ _ (es_kl i hi)) (hts _ es_n0) (fun i hi => hfm _ _ (es_kx i hi))
    (fun q hq i hi => by
      obtain rfl := List.mem_singleton.mp hq
      exact hfm _ _ (es_ko i hi))
    (fun i j hi hj hij => by
      rcases Nat.lt_or_gt_of_ne hij with h | h
      · exact Or.inl (hfm _ _ (es_kn i hi j hj h))
      · exact Or.inr (hfm _ _ (es_kn j hj i hi h))) hA
  obtain ⟨tS, hTe, hT⟩ := va_Tof (args := args) (s := s) (tm := es_sw) (ty := .int) (N := 8) (f := fun j => .int (swm j)) (A := fun q => s.heap.size ≤ q) (by decide) (hfm _ _ es_sa) (va_eqt (hfm _ _ es_sl)) (fun j hj => va_eqt (hfm _ _ (es_se j hj))) hA
  have hZs := va_Zref (A := fun q => s.heap.size ≤ q) (hts _ es_l3) (hts _ es_n3) hTe hA
  have hZc := va_Zof (A := fun q => s.heap.size ≤ q) (hts _ es_l1) (hts _ es_n1) (va_eqi (hfm _ _ es_cs)) hA
  obtain ⟨fF, hZf⟩ : ∃ fF : Option Nat, va_Z "jdk/internal/util/Preconditions" "SIOOBE_FORMATTER" "Ljava/util/function/BiFunction;" (va_rf fF) (fun q => s.heap.size ≤ q) s s.heap := by
    rcases va_Zqof (A := fun q => s.heap.size ≤ q) (hts _ es_l2) (hts _ es_n2) (hfm _ _ es_ff) hA with h | ⟨t, h⟩
    · exact ⟨none, h⟩
    · exact ⟨some t, h⟩
  refine ⟨((pick c0 [c0, c1, c2, c3, c4, c5, c6, c7], pick j0 [j0, j1, j2, j3, j4, j5, j6, j7]), pick a0 [a0, a1, a2, a3, a4], s.heap.size, kA, tK, tV, tS, fF), rfl, ⟨Nat.le_refl _, ⟨?_, ?_⟩, ?_, ⟨hE1, ?_, hS, hZc, hZs, hT, hZf⟩, ?_⟩, va_AO.of (hts _ es_ao)⟩
  · intro k q hq
    match k, hq with
    | 0, hq => cases hq; exact K0
    | 1, hq => cases hq; exact K1
    | 2, hq => cases hq; exact K2
    | 3, hq => cases hq; exact K3
    | 4, hq => cases hq; exact K4
    | 5, hq => cases hq; exact K5
    | 6, hq => cases hq; exact K6
    | 7, hq => cases hq; exact K7
    | k + 8, hq => simp [vwCl] at hq
  · intro k q hq
    match k, hq with
    | 0, hq => cases hq; exact ⟨A0, B0⟩
    | 1, hq => cases hq; exact ⟨A1, B1⟩
    | 2, hq => cases hq; exact ⟨A2, B2⟩
    | 3, hq => cases hq; exact ⟨A3, B3⟩
    | 4, hq => cases hq; exact ⟨fun n z => ⟨fun k h => (by cases h), k4, f3, comp, f4⟩, k4, comp, f3, f4, f1, f5⟩
    | k + 5, hq => simp [TYS] at hq
  · intro w hw
    refine va_Nw.of ?_ (hts w (List.mem_filter.mp hw).1)
    have h1 := (List.mem_filter.mp hw).2
    cases w <;> first | rfl | cases h1
  · intro i hi
    have hc : kConv i < 22 := by
      have key : ∀ i, i < 8 → kConv i < 22 := by decide
      exact key i hi
    exact vk_OFof (hE2 i hi) (va_eqv (hfm _ _ (es_kc i hi)) (hSe (kConv i) hc)) hA
  · intro e he
    obtain ⟨j, hj⟩ := List.getElem?_of_mem he
    have hjl : j < 22 := (List.getElem?_eq_some_iff.mp hj).1
    have e1 : sRef.getD j ("", 0, "", 0) = e := by rw [List.getD_eq_getElem?_getD, hj]; rfl
    have h1 := htm _ _ (es_sr j hjl)
    have h2 := hSe j hjl
    have h3 := es_sj j hjl
    unfold es_tm at h2
    rw [e1] at h1 h2 h3
    rw [h3]
    exact vk_R.of h1 h2
