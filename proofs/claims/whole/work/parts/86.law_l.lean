set_option maxRecDepth 100000 in
set_option maxHeartbeats 1000000 in
theorem law_loop {p : Program} {l : Launch} {e : Env} {s : State} {m : MethodId} {below : List Frame} {meth : Method} {c : Code} {b0 L : Nat} {xs : Nat → Int32} {G : Gt} (C0 : LC p s m c b0 L xs G) (hr : meth.sig.returnType = ret) (hlocks : meth.locks = false) (hL : L ≤ 3072) (a : QD) (b : QM) : ∀ (N t : Nat) (d : DN) (mm : MN) (H : Heap) (locs : List Loc) (ls : Array Slot), RL d mm → L < 6 * (t + N) → t ≤ 513 → lv_has ls 4 [(3, .int (nI (6 * t))), (2, .ref b.1), (1, .ref a.1), (0, .ref b0)] → va_P (gD G) vwCl (wD G a d ++ wM G b mm) H → va_D (fun q => s.heap.size ≤ q) (wD G a d ++ wM G b mm) → va_S (fun q => s.heap.size ≤ q) s.heap H locs → W p l e room_1 s m #[Value.ref b0] below meth c H locs (100 + 2 * t) (40000 + 403 * t) (lw_Z below #[Value.ref b0] s) (F0 m 18 ls []) := by
  obtain ⟨hx, hb, hml, hown, hg, hX, hbl, hE, hgb⟩ := id C0
  have hbA : ¬ (fun q : Nat => s.heap.size ≤ q) b0 := Nat.not_le.mpr hbl
  have stop : ∀ (t : Nat) (d : DN) (mm : MN) (H : Heap) (locs : List Loc) (ls : Array Slot), t ≤ 513 → va_S (fun q => s.heap.size ≤ q) s.heap H locs → W p l e room_1 s m #[Value.ref b0] below meth c H locs (100 + 2 * t) (40000 + 403 * t) (lw_Z below #[Value.ref b0] s) (F0 m 632 ls []) := by
    intro t d mm H locs ls ht hS
    refine lv_iconst (v := 1) hx hb d_law_632 (by decide) ?_
    refine va_forget hS.2.2 ?_
    refine W.widen (k := 600000) (n := 7302250) (by omega) (by omega) ?_
    exact lw_ret hx hb hr hlocks d_law_633
  intro N
  induction N with
  | zero =>
    intro t d mm H locs ls h hN ht hl hP hD hS
    refine lv_iload_n hx hb d_law_18 rfl (lv_at hl 0 rfl) ?_
    refine lv_aload_n hx hb d_law_19 rfl (lv_at hl 3 rfl) ?_
    refine va_slen hx hb hX hbl hbA hS d_law_20 ?_
    refine lv_bipush (v := 6) hx hb d_law_21 (by decide) ?_
    refine lv_isub hx hb d_law_23 ?_
    refine lv_icmp_gt (tgt := 632) hx hb d_law_24 (by decide) (fun _ => ?_) (fun c9 => absurd ?_ c9)
    · exact stop t d mm H locs ls ht hS
    · show nI L - (6 : Int32) < nI (6 * t)
      rw [← iI_nat, ← iI_nat, show (6 : Int32) = iI 6 from rfl, iI_sub]
      exact ilt ((L : Int) - 6) ((6 * t : Nat) : Int) (by omega)
  | succ N ih =>
    intro t d mm H locs ls h hN ht hl hP hD hS
    refine lv_iload_n hx hb d_law_18 rfl (lv_at hl 0 rfl) ?_
    refine lv_aload_n hx hb d_law_19 rfl (lv_at hl 3 rfl) ?_
    refine va_slen hx hb hX hbl hbA hS d_law_20 ?_
    refine lv_bipush (v := 6) hx hb d_law_21 (by decide) ?_
    refine lv_isub hx hb d_law_23 ?_
    by_cases hi : 6 * t + 6 ≤ L
    · refine lv_icmp_gt (tgt := 632) hx hb d_law_24 (by decide) (fun c9 => absurd c9 ?_) (fun _ => ?_)
      · show ¬ nI L - (6 : Int32) < nI (6 * t)
        rw [← iI_nat, ← iI_nat, show (6 : Int32) = iI 6 from rfl, iI_sub]
        exact inlt ((L : Int) - 6) ((6 * t : Nat) : Int) (by omega)
      have hin_0 : vp_in (nI (6 * t)) L := pk_in (6 * t) L (by omega)
      refine lv_aload_n hx hb d_law_27 rfl (lv_at hl 3 rfl) ?_
      refine lv_iload_n hx hb d_law_28 rfl (lv_at hl 0 rfl) ?_
      refine va_sld hx hb hX hbl hbA hS hin_0 d_law_29 ?_
      refine lv_bipush (v := 15) hx hb d_law_30 (by decide) ?_
      refine lv_iand hx hb d_law_32 ?_
      have next : ∀ (d' : DN) (m' : MN) (H1 : Heap) (locs1 : List Loc), RL d' m' → va_P (gD G) vwCl (wD G a d' ++ wM G b m') H1 → va_D (fun q => s.heap.size ≤ q) (wD G a d' ++ wM G b m') → va_S (fun q => s.heap.size ≤ q) s.heap H1 locs1 → W p l e room_1 s m #[Value.ref b0] below meth c H1 locs1 (100 + 2 * t + 2) (40000 + 403 * t + 403) (lw_Z below #[Value.ref b0] s) (F0 m 626 ls []) := by
        intro d' m' H1 locs1 h' hP' hD' hS'
        refine lv_iinc (v := nI (6 * (t + 1))) (lv' := [(3, .int (nI (6 * (t + 1)))), (2, .ref b.1), (1, .ref a.1), (0, .ref b0)]) hx hb d_law_626 hl (k := 0) rfl (nI_add (6 * t) 6) (by decide) rfl (fun ls hl => ?_)
        refine lv_goto (tgt := 18) hx hb d_law_629 (by decide) ?_
        exact ih (t + 1) d' m' H1 locs1 ls h' (by omega) (by omega) hl hP' hD' hS'
      by_cases c_0 : (xs (nI (6 * t)).toNatClampNeg &&& (15 : Int32)) = 0
      · refine lv_tableIn (tgt := 104) hx hb d_law_33 (by rw [c_0]; decide) (by rw [c_0]; decide) (by rw [c_0]; rfl) (by decide) ?_
        exact arm_write C0 h hi hL hl hP hD hS (by omega) (by omega) next
      by_cases c_1 : (xs (nI (6 * t)).toNatClampNeg &&& (15 : Int32)) = 1
      · refine lv_tableIn (tgt := 157) hx hb d_law_33 (by rw [c_1]; decide) (by rw [c_1]; decide) (by rw [c_1]; rfl) (by decide) ?_
        exact arm_clear C0 h hi hL hl hP hD hS (by omega) (by omega) next
      by_cases c_2 : (xs (nI (6 * t)).toNatClampNeg &&& (15 : Int32)) = 2
      · refine lv_tableIn (tgt := 168) hx hb d_law_33 (by rw [c_2]; decide) (by rw [c_2]; decide) (by rw [c_2]; rfl) (by decide) ?_
        exact arm_nothing C0 h hi hL hl hP hD hS (by omega) (by omega) next
      by_cases c_3 : (xs (nI (6 * t)).toNatClampNeg &&& (15 : Int32)) = 3
      · refine lv_tableIn (tgt := 181) hx hb d_law_33 (by rw [c_3]; decide) (by rw [c_3]; decide) (by rw [c_3]; rfl) (by decide) ?_
        exact arm_truth C0 h hi hL hl hP hD hS (by omega) (by omega) next
      by_cases c_4 : (xs (nI (6 * t)).toNatClampNeg &&& (15 : Int32)) = 4
      · refine lv_tableIn (tgt := 220) hx hb d_law_33 (by rw [c_4]; decide) (by rw [c_4]; decide) (by rw [c_4]; rfl) (by decide) ?_
        exact arm_character C0 h hi hL hl hP hD hS (by omega) (by omega) next
      by_cases c_5 : (xs (nI (6 * t)).toNatClampNeg &&& (15 : Int32)) = 5
      · refine lv_tableIn (tgt := 243) hx hb d_law_33 (by rw [c_5]; decide) (by rw [c_5]; decide) (by rw [c_5]; rfl) (by decide) ?_
        exact arm_whole C0 h hi hL hl hP hD hS (by omega) (by omega) next
      by_cases c_6 : (xs (nI (6 * t)).toNatClampNeg &&& (15 : Int32)) = 6
      · refine lv_tableIn (tgt := 306) hx hb d_law_33 (by rw [c_6]; decide) (by rw [c_6]; decide) (by rw [c_6]; rfl) (by decide) ?_
        exact arm_size C0 h hi hL hl hP hD hS (by omega) (by omega) next
      by_cases c_7 : (xs (nI (6 * t)).toNatClampNeg &&& (15 : Int32)) = 7
      · refine lv_tableIn (tgt := 385) hx hb d_law_33 (by rw [c_7]; decide) (by rw [c_7]; decide) (by rw [c_7]; rfl) (by decide) ?_
        exact arm_more C0 h hi hL hl hP hD hS (by omega) (by omega) next
      by_cases c_8 : (xs (nI (6 * t)).toNatClampNeg &&& (15 : Int32)) = 8
      · refine lv_tableIn (tgt := 438) hx hb d_law_33 (by rw [c_8]; decide) (by rw [c_8]; decide) (by rw [c_8]; rfl) (by decide) ?_
        exact arm_scale C0 h hi hL hl hP hD hS (by omega) (by omega) next
      by_cases c_9 : (xs (nI (6 * t)).toNatClampNeg &&& (15 : Int32)) = 9
      · refine lv_tableIn (tgt := 461) hx hb d_law_33 (by rw [c_9]; decide) (by rw [c_9]; decide) (by rw [c_9]; rfl) (by decide) ?_
        exact arm_fraction C0 h hi hL hl hP hD hS (by omega) (by omega) next
      by_cases c_10 : (xs (nI (6 * t)).toNatClampNeg &&& (15 : Int32)) = 10
      · refine lv_tableIn (tgt := 564) hx hb d_law_33 (by rw [c_10]; decide) (by rw [c_10]; decide) (by rw [c_10]; rfl) (by decide) ?_
        exact arm_text C0 h hi hL hl hP hD hS (by omega) (by omega) next
      by_cases c_11 : (xs (nI (6 * t)).toNatClampNeg &&& (15 : Int32)) = 11
      · refine lv_tableIn (tgt := 577) hx hb d_law_33 (by rw [c_11]; decide) (by rw [c_11]; decide) (by rw [c_11]; rfl) (by decide) ?_
        exact arm_layOut C0 h hi hL hl hP hD hS (by omega) (by omega) next
      by_cases c_12 : (xs (nI (6 * t)).toNatClampNeg &&& (15 : Int32)) = 12
      · refine lv_tableIn (tgt := 590) hx hb d_law_33 (by rw [c_12]; decide) (by rw [c_12]; decide) (by rw [c_12]; rfl) (by decide) ?_
        exact arm_length C0 h hi hL hl hP hD hS (by omega) (by omega) next
      by_cases c_13 : (xs (nI (6 * t)).toNatClampNeg &&& (15 : Int32)) = 13
      · refine lv_tableIn (tgt := 603) hx hb d_law_33 (by rw [c_13]; decide) (by rw [c_13]; decide) (by rw [c_13]; rfl) (by decide) ?_
        exact arm_characterAt C0 h hi hL hl hP hD hS (by omega) (by omega) next
      by_cases o_ : (xs (nI (6 * t)).toNatClampNeg &&& (15 : Int32)).toInt < 0 ∨ 13 < (xs (nI (6 * t)).toNatClampNeg &&& (15 : Int32)).toInt
      · refine lv_tableOut (tgt := 626) hx hb d_law_33 o_ (by decide) ?_
        exact W.widen (by omega) (by omega) (next d mm H locs h hP hD hS)
      · exact absurd o_ (fun o => by have n_0 := lv_neT c_0 (show (0 : Int32).toInt = 0 from rfl); have n_1 := lv_neT c_1 (show (1 : Int32).toInt = 1 from rfl); have n_2 := lv_neT c_2 (show (2 : Int32).toInt = 2 from rfl); have n_3 := lv_neT c_3 (show (3 : Int32).toInt = 3 from rfl); have n_4 := lv_neT c_4 (show (4 : Int32).toInt = 4 from rfl); have n_5 := lv_neT c_5 (show (5 : Int32).toInt = 5 from rfl); have n_6 := lv_neT c_6 (show (6 : Int32).toInt = 6 from rfl); have n_7 := lv_neT c_7 (show (7 : Int32).toInt = 7 from rfl); have n_8 := lv_neT c_8 (show (8 : Int32).toInt = 8 from rfl); have n_9 := lv_neT c_9 (show (9 : Int32).toInt = 9 from rfl); have n_10 := lv_neT c_10 (show (10 : Int32).toInt = 10 from rfl); have n_11 := lv_neT c_11 (show (11 : Int32).toInt = 11 from rfl); have n_12 := lv_neT c_12 (show (12 : Int32).toInt = 12 from rfl); have n_13 := lv_neT c_13 (show (13 : Int32).toInt = 13 from rfl); omega)
    · refine lv_icmp_gt (tgt := 632) hx hb d_law_24 (by decide) (fun _ => ?_) (fun c9 => absurd ?_ c9)
      · exact stop t d mm H locs ls ht hS
      · show nI L - (6 : Int32) < nI (6 * t)
        rw [← iI_nat, ← iI_nat, show (6 : Int32) = iI 6 from rfl, iI_sub]
        exact ilt ((L : Int) - 6) ((6 * t : Nat) : Int) (by omega)
