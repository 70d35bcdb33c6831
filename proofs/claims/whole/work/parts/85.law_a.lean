set_option maxRecDepth 100000 in
set_option maxHeartbeats 1000000 in
theorem arm_write {p : Program} {l : Launch} {e : Env} {s : State} {m : MethodId} {below : List Frame} {meth : Method} {c : Code} {b0 L : Nat} {xs : Nat → Int32} {G : Gt} (C0 : LC p s m c b0 L xs G) {a : QD} {b : QM} {d : DN} {mm : MN} (h : RL d mm) {i : Nat} (hi : i + 6 ≤ L) (hL : L ≤ 3072) {H : Heap} {locs : List Loc} {cells slots : Nat} {Q : State → Prop} {ls : Array Slot} (hl : lv_has ls 4 [(3, .int (nI i)), (2, .ref b.1), (1, .ref a.1), (0, .ref b0)]) (hP : va_P (gD G) vwCl (wD G a d ++ wM G b mm) H) (hD : va_D (fun q => s.heap.size ≤ q) (wD G a d ++ wM G b mm)) (hS : va_S (fun q => s.heap.size ≤ q) s.heap H locs) (hc : cells ≤ 500000) (hs : slots ≤ 7000000)
    (kk : ∀ (d' : DN) (m' : MN) (H1 : Heap) (locs1 : List Loc), RL d' m' → va_P (gD G) vwCl (wD G a d' ++ wM G b m') H1 → va_D (fun q => s.heap.size ≤ q) (wD G a d' ++ wM G b m') → va_S (fun q => s.heap.size ≤ q) s.heap H1 locs1 → W p l e room_1 s m #[Value.ref b0] below meth c H1 locs1 (cells + 2) (slots + 403) Q (F0 m 626 ls [])) : W p l e room_1 s m #[Value.ref b0] below meth c H locs cells slots Q (F0 m 104 ls []) := by
  obtain ⟨hx, hb, hml, hown, hg, hX, hbl, hE, hgb⟩ := C0
  have hbA : ¬ (fun q : Nat => s.heap.size ≤ q) b0 := Nat.not_le.mpr hbl
  have hin_1 : vp_in (nI i + (1 : Int32)) L := pk_in (i + 1) L (by omega) (nI_add i 1)
  have hin_2 : vp_in (nI i + (2 : Int32)) L := pk_in (i + 2) L (by omega) (nI_add i 2)
  have hin_3 : vp_in (nI i + (3 : Int32)) L := pk_in (i + 3) L (by omega) (nI_add i 3)
  have hin_4 : vp_in (nI i + (4 : Int32)) L := pk_in (i + 4) L (by omega) (nI_add i 4)
  have hin_5 : vp_in (nI i + (5 : Int32)) L := pk_in (i + 5) L (by omega) (nI_add i 5)
  obtain ⟨mc, ms, v, m', hmc, hms, hM1, hM2⟩ := q_write l G a b (((xs (nI i + (1 : Int32)).toNatClampNeg).toInt64 <<< ((32 : Int32).toInt64 &&& 63)) ||| ((xs (nI i + (2 : Int32)).toNatClampNeg).toInt64 &&& (4294967295 : Int64))) h
  refine lv_aload_n hx hb d_law_104 rfl (lv_at hl 2 rfl) ?_
  refine lv_aload_n hx hb d_law_105 rfl (lv_at hl 3 rfl) ?_
  refine lv_iload_n hx hb d_law_106 rfl (lv_at hl 0 rfl) ?_
  refine lv_iconst (v := 1) hx hb d_law_107 (by decide) ?_
  refine lv_iadd hx hb d_law_108 ?_
  refine va_sld hx hb hX hbl hbA hS hin_1 d_law_109 ?_
  refine lv_i2l (v := (xs (nI i + (1 : Int32)).toNatClampNeg).toInt64) hx hb d_law_110 rfl ?_
  refine lv_bipush (v := 32) hx hb d_law_111 (by decide) ?_
  refine lv_lshl (v := ((xs (nI i + (1 : Int32)).toNatClampNeg).toInt64 <<< ((32 : Int32).toInt64 &&& 63))) hx hb d_law_113 rfl ?_
  refine lv_aload_n hx hb d_law_114 rfl (lv_at hl 3 rfl) ?_
  refine lv_iload_n hx hb d_law_115 rfl (lv_at hl 0 rfl) ?_
  refine lv_iconst (v := 2) hx hb d_law_116 (by decide) ?_
  refine lv_iadd hx hb d_law_117 ?_
  refine va_sld hx hb hX hbl hbA hS hin_2 d_law_118 ?_
  refine lv_i2l (v := (xs (nI i + (2 : Int32)).toNatClampNeg).toInt64) hx hb d_law_119 rfl ?_
  refine lv_ldc2 (v := 4294967295) hx hb hown (hg _ lm_120) d_law_120 ?_
  refine lv_land hx hb d_law_123 ?_
  refine lv_lor hx hb d_law_124 ?_
  refine LCALL (n := 1) hx hb hml hown hg hE hgb lm_8 lm_9 lm_11 lm_2 lm_10 (by decide +kernel) (by decide) (w := wD G a d) (wr := wM G b mm) (ci := 6) rfl rfl rfl (As := [.long (((xs (nI i + (1 : Int32)).toNatClampNeg).toInt64 <<< ((32 : Int32).toInt64 &&& 63)) ||| ((xs (nI i + (2 : Int32)).toNatClampNeg).toInt64 &&& (4294967295 : Int64)))]) (rest := []) rfl (Nat.le_of_ble_eq_true rfl) hM1 (List.Perm.refl _) hP hD hS hl.1 d_law_125 (by omega) (by omega) rfl (fun w9 H locs hw9 hP hD hS => ?_)
  obtain ⟨d', rfl, hrl⟩ := hw9
  refine lv_aload_n hx hb d_law_128 rfl (lv_at hl 1 rfl) ?_
  refine lv_aload_n hx hb d_law_129 rfl (lv_at hl 3 rfl) ?_
  refine lv_iload_n hx hb d_law_130 rfl (lv_at hl 0 rfl) ?_
  refine lv_iconst (v := 1) hx hb d_law_131 (by decide) ?_
  refine lv_iadd hx hb d_law_132 ?_
  refine va_sld hx hb hX hbl hbA hS hin_1 d_law_133 ?_
  refine lv_i2l (v := (xs (nI i + (1 : Int32)).toNatClampNeg).toInt64) hx hb d_law_134 rfl ?_
  refine lv_bipush (v := 32) hx hb d_law_135 (by decide) ?_
  refine lv_lshl (v := ((xs (nI i + (1 : Int32)).toNatClampNeg).toInt64 <<< ((32 : Int32).toInt64 &&& 63))) hx hb d_law_137 rfl ?_
  refine lv_aload_n hx hb d_law_138 rfl (lv_at hl 3 rfl) ?_
  refine lv_iload_n hx hb d_law_139 rfl (lv_at hl 0 rfl) ?_
  refine lv_iconst (v := 2) hx hb d_law_140 (by decide) ?_
  refine lv_iadd hx hb d_law_141 ?_
  refine va_sld hx hb hX hbl hbA hS hin_2 d_law_142 ?_
  refine lv_i2l (v := (xs (nI i + (2 : Int32)).toNatClampNeg).toInt64) hx hb d_law_143 rfl ?_
  refine lv_ldc2 (v := 4294967295) hx hb hown (hg _ lm_120) d_law_144 ?_
  refine lv_land hx hb d_law_147 ?_
  refine lv_lor hx hb d_law_148 ?_
  refine LCALL (n := 1) hx hb hml hown hg hE hgb lm_12 lm_13 lm_15 lm_6 lm_14 (by decide +kernel) (by decide) (w := wM G b mm) (wr := wD G a d') (ci := 7) rfl rfl rfl (As := [.long (((xs (nI i + (1 : Int32)).toNatClampNeg).toInt64 <<< ((32 : Int32).toInt64 &&& 63)) ||| ((xs (nI i + (2 : Int32)).toNatClampNeg).toInt64 &&& (4294967295 : Int64)))]) (rest := [.int v]) rfl (Nat.le_of_ble_eq_true rfl) hM2 List.perm_append_comm hP hD hS hl.1 d_law_149 (by omega) (by omega) rfl (fun w9 H locs hw9 hP hD hS => ?_)
  have hw9 : w9 = wM G b m' := hw9
  subst hw9
  refine lv_icmp_eq (tgt := 626) hx hb d_law_152 (by decide) (fun _ => ?_) (fun c9 => absurd rfl c9)
  exact W.widen (by omega) (by omega) (kk d' m' H locs hrl (hP.perm List.perm_append_comm) (hD.perm List.perm_append_comm) hS)
set_option maxRecDepth 100000 in
set_option maxHeartbeats 1000000 in
theorem arm_clear {p : Program} {l : Launch} {e : Env} {s : State} {m : MethodId} {below : List Frame} {meth : Method} {c : Code} {b0 L : Nat} {xs : Nat → Int32} {G : Gt} (C0 : LC p s m c b0 L xs G) {a : QD} {b : QM} {d : DN} {mm : MN} (h : RL d mm) {i : Nat} (hi : i + 6 ≤ L) (hL : L ≤ 3072) {H : Heap} {locs : List Loc} {cells slots : Nat} {Q : State → Prop} {ls : Array Slot} (hl : lv_has ls 4 [(3, .int (nI i)), (2, .ref b.1), (1, .ref a.1), (0, .ref b0)]) (hP : va_P (gD G) vwCl (wD G a d ++ wM G b mm) H) (hD : va_D (fun q => s.heap.size ≤ q) (wD G a d ++ wM G b mm)) (hS : va_S (fun q => s.heap.size ≤ q) s.heap H locs) (hc : cells ≤ 500000) (hs : slots ≤ 7000000)
    (kk : ∀ (d' : DN) (m' : MN) (H1 : Heap) (locs1 : List Loc), RL d' m' → va_P (gD G) vwCl (wD G a d' ++ wM G b m') H1 → va_D (fun q => s.heap.size ≤ q) (wD G a d' ++ wM G b m') → va_S (fun q => s.heap.size ≤ q) s.heap H1 locs1 → W p l e room_1 s m #[Value.ref b0] below meth c H1 locs1 (cells + 2) (slots + 403) Q (F0 m 626 ls [])) : W p l e room_1 s m #[Value.ref b0] below meth c H locs cells slots Q (F0 m 157 ls []) := by
  obtain ⟨hx, hb, hml, hown, hg, hX, hbl, hE, hgb⟩ := C0
  have hbA : ¬ (fun q : Nat => s.heap.size ≤ q) b0 := Nat.not_le.mpr hbl
  have hin_1 : vp_in (nI i + (1 : Int32)) L := pk_in (i + 1) L (by omega) (nI_add i 1)
  have hin_2 : vp_in (nI i + (2 : Int32)) L := pk_in (i + 2) L (by omega) (nI_add i 2)
  have hin_3 : vp_in (nI i + (3 : Int32)) L := pk_in (i + 3) L (by omega) (nI_add i 3)
  have hin_4 : vp_in (nI i + (4 : Int32)) L := pk_in (i + 4) L (by omega) (nI_add i 4)
  have hin_5 : vp_in (nI i + (5 : Int32)) L := pk_in (i + 5) L (by omega) (nI_add i 5)
  obtain ⟨d', m', hrl, hM1, hM2⟩ := q_clear l G a b h
  refine lv_aload_n hx hb d_law_157 rfl (lv_at hl 2 rfl) ?_
  refine LCALLv (n := 0) hx hb hml hown hg hE hgb lm_16 lm_17 lm_19 lm_2 lm_18 (by decide +kernel) (by decide) (w := wD G a d) (wr := wM G b mm) (ci := 6) rfl rfl rfl (As := []) (rest := []) rfl (Nat.le_of_ble_eq_true rfl) hM1 (List.Perm.refl _) hP hD hS hl.1 d_law_158 (by omega) (by omega) rfl (fun H locs hP hD hS => ?_)
  refine lv_aload_n hx hb d_law_161 rfl (lv_at hl 1 rfl) ?_
  refine LCALLv (n := 0) hx hb hml hown hg hE hgb lm_20 lm_21 lm_23 lm_6 lm_22 (by decide +kernel) (by decide) (w := wM G b mm) (wr := wD G a d') (ci := 7) rfl rfl rfl (As := []) (rest := []) rfl (Nat.le_of_ble_eq_true rfl) hM2 List.perm_append_comm hP hD hS hl.1 d_law_162 (by omega) (by omega) rfl (fun H locs hP hD hS => ?_)
  refine lv_goto (tgt := 626) hx hb d_law_165 (by decide) ?_
  exact W.widen (by omega) (by omega) (kk d' m' H locs hrl (hP.perm List.perm_append_comm) (hD.perm List.perm_append_comm) hS)
set_option maxRecDepth 100000 in
set_option maxHeartbeats 1000000 in
theorem arm_nothing {p : Program} {l : Launch} {e : Env} {s : State} {m : MethodId} {below : List Frame} {meth : Method} {c : Code} {b0 L : Nat} {xs : Nat → Int32} {G : Gt} (C0 : LC p s m c b0 L xs G) {a : QD} {b : QM} {d : DN} {mm : MN} (h : RL d mm) {i : Nat} (hi : i + 6 ≤ L) (hL : L ≤ 3072) {H : Heap} {locs : List Loc} {cells slots : Nat} {Q : State → Prop} {ls : Array Slot} (hl : lv_has ls 4 [(3, .int (nI i)), (2, .ref b.1), (1, .ref a.1), (0, .ref b0)]) (hP : va_P (gD G) vwCl (wD G a d ++ wM G b mm) H) (hD : va_D (fun q => s.heap.size ≤ q) (wD G a d ++ wM G b mm)) (hS : va_S (fun q => s.heap.size ≤ q) s.heap H locs) (hc : cells ≤ 500000) (hs : slots ≤ 7000000)
    (kk : ∀ (d' : DN) (m' : MN) (H1 : Heap) (locs1 : List Loc), RL d' m' → va_P (gD G) vwCl (wD G a d' ++ wM G b m') H1 → va_D (fun q => s.heap.size ≤ q) (wD G a d' ++ wM G b m') → va_S (fun q => s.heap.size ≤ q) s.heap H1 locs1 → W p l e room_1 s m #[Value.ref b0] below meth c H1 locs1 (cells + 2) (slots + 403) Q (F0 m 626 ls [])) : W p l e room_1 s m #[Value.ref b0] below meth c H locs cells slots Q (F0 m 168 ls []) := by
  obtain ⟨hx, hb, hml, hown, hg, hX, hbl, hE, hgb⟩ := C0
  have hbA : ¬ (fun q : Nat => s.heap.size ≤ q) b0 := Nat.not_le.mpr hbl
  have hin_1 : vp_in (nI i + (1 : Int32)) L := pk_in (i + 1) L (by omega) (nI_add i 1)
  have hin_2 : vp_in (nI i + (2 : Int32)) L := pk_in (i + 2) L (by omega) (nI_add i 2)
  have hin_3 : vp_in (nI i + (3 : Int32)) L := pk_in (i + 3) L (by omega) (nI_add i 3)
  have hin_4 : vp_in (nI i + (4 : Int32)) L := pk_in (i + 4) L (by omega) (nI_add i 4)
  have hin_5 : vp_in (nI i + (5 : Int32)) L := pk_in (i + 5) L (by omega) (nI_add i 5)
  obtain ⟨mc, ms, v, m', hmc, hms, hM1, hM2⟩ := q_nothing l G a b  h
  refine lv_aload_n hx hb d_law_168 rfl (lv_at hl 2 rfl) ?_
  refine LCALL (n := 0) hx hb hml hown hg hE hgb lm_24 lm_25 lm_27 lm_2 lm_26 (by decide +kernel) (by decide) (w := wD G a d) (wr := wM G b mm) (ci := 6) rfl rfl rfl (As := []) (rest := []) rfl (Nat.le_of_ble_eq_true rfl) hM1 (List.Perm.refl _) hP hD hS hl.1 d_law_169 (by omega) (by omega) rfl (fun w9 H locs hw9 hP hD hS => ?_)
  obtain ⟨d', rfl, hrl⟩ := hw9
  refine lv_aload_n hx hb d_law_172 rfl (lv_at hl 1 rfl) ?_
  refine LCALL (n := 0) hx hb hml hown hg hE hgb lm_28 lm_29 lm_31 lm_6 lm_30 (by decide +kernel) (by decide) (w := wM G b mm) (wr := wD G a d') (ci := 7) rfl rfl rfl (As := []) (rest := [.int v]) rfl (Nat.le_of_ble_eq_true rfl) hM2 List.perm_append_comm hP hD hS hl.1 d_law_173 (by omega) (by omega) rfl (fun w9 H locs hw9 hP hD hS => ?_)
  have hw9 : w9 = wM G b m' := hw9
  subst hw9
  refine lv_icmp_eq (tgt := 626) hx hb d_law_176 (by decide) (fun _ => ?_) (fun c9 => absurd rfl c9)
  exact W.widen (by omega) (by omega) (kk d' m' H locs hrl (hP.perm List.perm_append_comm) (hD.perm List.perm_append_comm) hS)
set_option maxRecDepth 100000 in
set_option maxHeartbeats 1000000 in
theorem arm_truth {p : Program} {l : Launch} {e : Env} {s : State} {m : MethodId} {below : List Frame} {meth : Method} {c : Code} {b0 L : Nat} {xs : Nat → Int32} {G : Gt} (C0 : LC p s m c b0 L xs G) {a : QD} {b : QM} {d : DN} {mm : MN} (h : RL d mm) {i : Nat} (hi : i + 6 ≤ L) (hL : L ≤ 3072) {H : Heap} {locs : List Loc} {cells slots : Nat} {Q : State → Prop} {ls : Array Slot} (hl : lv_has ls 4 [(3, .int (nI i)), (2, .ref b.1), (1, .ref a.1), (0, .ref b0)]) (hP : va_P (gD G) vwCl (wD G a d ++ wM G b mm) H) (hD : va_D (fun q => s.heap.size ≤ q) (wD G a d ++ wM G b mm)) (hS : va_S (fun q => s.heap.size ≤ q) s.heap H locs) (hc : cells ≤ 500000) (hs : slots ≤ 7000000)
    (kk : ∀ (d' : DN) (m' : MN) (H1 : Heap) (locs1 : List Loc), RL d' m' → va_P (gD G) vwCl (wD G a d' ++ wM G b m') H1 → va_D (fun q => s.heap.size ≤ q) (wD G a d' ++ wM G b m') → va_S (fun q => s.heap.size ≤ q) s.heap H1 locs1 → W p l e room_1 s m #[Value.ref b0] below meth c H1 locs1 (cells + 2) (slots + 403) Q (F0 m 626 ls [])) : W p l e room_1 s m #[Value.ref b0] below meth c H locs cells slots Q (F0 m 181 ls []) := by
  obtain ⟨hx, hb, hml, hown, hg, hX, hbl, hE, hgb⟩ := C0
  have hbA : ¬ (fun q : Nat => s.heap.size ≤ q) b0 := Nat.not_le.mpr hbl
  have hin_1 : vp_in (nI i + (1 : Int32)) L := pk_in (i + 1) L (by omega) (nI_add i 1)
  have hin_2 : vp_in (nI i + (2 : Int32)) L := pk_in (i + 2) L (by omega) (nI_add i 2)
  have hin_3 : vp_in (nI i + (3 : Int32)) L := pk_in (i + 3) L (by omega) (nI_add i 3)
  have hin_4 : vp_in (nI i + (4 : Int32)) L := pk_in (i + 4) L (by omega) (nI_add i 4)
  have hin_5 : vp_in (nI i + (5 : Int32)) L := pk_in (i + 5) L (by omega) (nI_add i 5)
  by_cases hz : (xs (nI i + (1 : Int32)).toNatClampNeg) = 0
  · obtain ⟨mc, ms, v, m', hmc, hms, hM1, hM2⟩ := q_truth l G a b false h
    refine lv_aload_n hx hb d_law_181 rfl (lv_at hl 2 rfl) ?_
    refine lv_aload_n hx hb d_law_182 rfl (lv_at hl 3 rfl) ?_
    refine lv_iload_n hx hb d_law_183 rfl (lv_at hl 0 rfl) ?_
    refine lv_iconst (v := 1) hx hb d_law_184 (by decide) ?_
    refine lv_iadd hx hb d_law_185 ?_
    refine va_sld hx hb hX hbl hbA hS hin_1 d_law_186 ?_
    refine lv_if_eq (tgt := 194) hx hb d_law_187 (by decide) (fun _ => ?_) (fun c9 => absurd hz c9)
    refine lv_iconst (v := 0) hx hb d_law_194 (by decide) ?_
    refine LCALL (n := 1) hx hb hml hown hg hE hgb lm_32 lm_33 lm_35 lm_2 lm_34 (by decide +kernel) (by decide) (w := wD G a d) (wr := wM G b mm) (ci := 6) rfl rfl rfl (As := [.int (0 : Int32)]) (rest := []) rfl (Nat.le_of_ble_eq_true rfl) hM1 (List.Perm.refl _) hP hD hS hl.1 d_law_195 (by omega) (by omega) rfl (fun w9 H locs hw9 hP hD hS => ?_)
    obtain ⟨d', rfl, hrl⟩ := hw9
    refine lv_aload_n hx hb d_law_198 rfl (lv_at hl 1 rfl) ?_
    refine lv_aload_n hx hb d_law_199 rfl (lv_at hl 3 rfl) ?_
    refine lv_iload_n hx hb d_law_200 rfl (lv_at hl 0 rfl) ?_
    refine lv_iconst (v := 1) hx hb d_law_201 (by decide) ?_
    refine lv_iadd hx hb d_law_202 ?_
    refine va_sld hx hb hX hbl hbA hS hin_1 d_law_203 ?_
    refine lv_if_eq (tgt := 211) hx hb d_law_204 (by decide) (fun _ => ?_) (fun c9 => absurd hz c9)
    refine lv_iconst (v := 0) hx hb d_law_211 (by decide) ?_
    refine LCALL (n := 1) hx hb hml hown hg hE hgb lm_36 lm_37 lm_39 lm_6 lm_38 (by decide +kernel) (by decide) (w := wM G b mm) (wr := wD G a d') (ci := 7) rfl rfl rfl (As := [.int (0 : Int32)]) (rest := [.int v]) rfl (Nat.le_of_ble_eq_true rfl) hM2 List.perm_append_comm hP hD hS hl.1 d_law_212 (by omega) (by omega) rfl (fun w9 H locs hw9 hP hD hS => ?_)
    have hw9 : w9 = wM G b m' := hw9
    subst hw9
    refine lv_icmp_eq (tgt := 626) hx hb d_law_215 (by decide) (fun _ => ?_) (fun c9 => absurd rfl c9)
    exact W.widen (by omega) (by omega) (kk d' m' H locs hrl (hP.perm List.perm_append_comm) (hD.perm List.perm_append_comm) hS)
  · obtain ⟨mc, ms, v, m', hmc, hms, hM1, hM2⟩ := q_truth l G a b true h
    refine lv_aload_n hx hb d_law_181 rfl (lv_at hl 2 rfl) ?_
    refine lv_aload_n hx hb d_law_182 rfl (lv_at hl 3 rfl) ?_
    refine lv_iload_n hx hb d_law_183 rfl (lv_at hl 0 rfl) ?_
    refine lv_iconst (v := 1) hx hb d_law_184 (by decide) ?_
    refine lv_iadd hx hb d_law_185 ?_
    refine va_sld hx hb hX hbl hbA hS hin_1 d_law_186 ?_
    refine lv_if_eq (tgt := 194) hx hb d_law_187 (by decide) (fun c9 => absurd c9 hz) (fun _ => ?_)
    refine lv_iconst (v := 1) hx hb d_law_190 (by decide) ?_
    refine lv_goto (tgt := 195) hx hb d_law_191 (by decide) ?_
    refine LCALL (n := 1) hx hb hml hown hg hE hgb lm_32 lm_33 lm_35 lm_2 lm_34 (by decide +kernel) (by decide) (w := wD G a d) (wr := wM G b mm) (ci := 6) rfl rfl rfl (As := [.int (1 : Int32)]) (rest := []) rfl (Nat.le_of_ble_eq_true rfl) hM1 (List.Perm.refl _) hP hD hS hl.1 d_law_195 (by omega) (by omega) rfl (fun w9 H locs hw9 hP hD hS => ?_)
    obtain ⟨d', rfl, hrl⟩ := hw9
    refine lv_aload_n hx hb d_law_198 rfl (lv_at hl 1 rfl) ?_
    refine lv_aload_n hx hb d_law_199 rfl (lv_at hl 3 rfl) ?_
    refine lv_iload_n hx hb d_law_200 rfl (lv_at hl 0 rfl) ?_
    refine lv_iconst (v := 1) hx hb d_law_201 (by decide) ?_
    refine lv_iadd hx hb d_law_202 ?_
    refine va_sld hx hb hX hbl hbA hS hin_1 d_law_203 ?_
    refine lv_if_eq (tgt := 211) hx hb d_law_204 (by decide) (fun c9 => absurd c9 hz) (fun _ => ?_)
    refine lv_iconst (v := 1) hx hb d_law_207 (by decide) ?_
    refine lv_goto (tgt := 212) hx hb d_law_208 (by decide) ?_
    refine LCALL (n := 1) hx hb hml hown hg hE hgb lm_36 lm_37 lm_39 lm_6 lm_38 (by decide +kernel) (by decide) (w := wM G b mm) (wr := wD G a d') (ci := 7) rfl rfl rfl (As := [.int (1 : Int32)]) (rest := [.int v]) rfl (Nat.le_of_ble_eq_true rfl) hM2 List.perm_append_comm hP hD hS hl.1 d_law_212 (by omega) (by omega) rfl (fun w9 H locs hw9 hP hD hS => ?_)
    have hw9 : w9 = wM G b m' := hw9
    subst hw9
    refine lv_icmp_eq (tgt := 626) hx hb d_law_215 (by decide) (fun _ => ?_) (fun c9 => absurd rfl c9)
    exact W.widen (by omega) (by omega) (kk d' m' H locs hrl (hP.perm List.perm_append_comm) (hD.perm List.perm_append_comm) hS)
set_option maxRecDepth 100000 in
set_option maxHeartbeats 1000000 in
theorem arm_character {p : Program} {l : Launch} {e : Env} {s : State} {m : MethodId} {below : List Frame} {meth : Method} {c : Code} {b0 L : Nat} {xs : Nat → Int32} {G : Gt} (C0 : LC p s m c b0 L xs G) {a : QD} {b : QM} {d : DN} {mm : MN} (h : RL d mm) {i : Nat} (hi : i + 6 ≤ L) (hL : L ≤ 3072) {H : Heap} {locs : List Loc} {cells slots : Nat} {Q : State → Prop} {ls : Array Slot} (hl : lv_has ls 4 [(3, .int (nI i)), (2, .ref b.1), (1, .ref a.1), (0, .ref b0)]) (hP : va_P (gD G) vwCl (wD G a d ++ wM G b mm) H) (hD : va_D (fun q => s.heap.size ≤ q) (wD G a d ++ wM G b mm)) (hS : va_S (fun q => s.heap.size ≤ q) s.heap H locs) (hc : cells ≤ 500000) (hs : slots ≤ 7000000)
    (kk : ∀ (d' : DN) (m' : MN) (H1 : Heap) (locs1 : List Loc), RL d' m' → va_P (gD G) vwCl (wD G a d' ++ wM G b m') H1 → va_D (fun q => s.heap.size ≤ q) (wD G a d' ++ wM G b m') → va_S (fun q => s.heap.size ≤ q) s.heap H1 locs1 → W p l e room_1 s m #[Value.ref b0] below meth c H1 locs1 (cells + 2) (slots + 403) Q (F0 m 626 ls [])) : W p l e room_1 s m #[Value.ref b0] below meth c H locs cells slots Q (F0 m 220 ls []) := by
  obtain ⟨hx, hb, hml, hown, hg, hX, hbl, hE, hgb⟩ := C0
  have hbA : ¬ (fun q : Nat => s.heap.size ≤ q) b0 := Nat.not_le.mpr hbl
  have hin_1 : vp_in (nI i + (1 : Int32)) L := pk_in (i + 1) L (by omega) (nI_add i 1)
  have hin_2 : vp_in (nI i + (2 : Int32)) L := pk_in (i + 2) L (by omega) (nI_add i 2)
  have hin_3 : vp_in (nI i + (3 : Int32)) L := pk_in (i + 3) L (by omega) (nI_add i 3)
  have hin_4 : vp_in (nI i + (4 : Int32)) L := pk_in (i + 4) L (by omega) (nI_add i 4)
  have hin_5 : vp_in (nI i + (5 : Int32)) L := pk_in (i + 5) L (by omega) (nI_add i 5)
  obtain ⟨mc, ms, v, m', hmc, hms, hM1, hM2⟩ := q_character l G a b (xs (nI i + (1 : Int32)).toNatClampNeg) h
  refine lv_aload_n hx hb d_law_220 rfl (lv_at hl 2 rfl) ?_
  refine lv_aload_n hx hb d_law_221 rfl (lv_at hl 3 rfl) ?_
  refine lv_iload_n hx hb d_law_222 rfl (lv_at hl 0 rfl) ?_
  refine lv_iconst (v := 1) hx hb d_law_223 (by decide) ?_
  refine lv_iadd hx hb d_law_224 ?_
  refine va_sld hx hb hX hbl hbA hS hin_1 d_law_225 ?_
  refine LCALL (n := 1) hx hb hml hown hg hE hgb lm_40 lm_41 lm_43 lm_2 lm_42 (by decide +kernel) (by decide) (w := wD G a d) (wr := wM G b mm) (ci := 6) rfl rfl rfl (As := [.int (xs (nI i + (1 : Int32)).toNatClampNeg)]) (rest := []) rfl (Nat.le_of_ble_eq_true rfl) hM1 (List.Perm.refl _) hP hD hS hl.1 d_law_226 (by omega) (by omega) rfl (fun w9 H locs hw9 hP hD hS => ?_)
  obtain ⟨d', rfl, hrl⟩ := hw9
  refine lv_aload_n hx hb d_law_229 rfl (lv_at hl 1 rfl) ?_
  refine lv_aload_n hx hb d_law_230 rfl (lv_at hl 3 rfl) ?_
  refine lv_iload_n hx hb d_law_231 rfl (lv_at hl 0 rfl) ?_
  refine lv_iconst (v := 1) hx hb d_law_232 (by decide) ?_
  refine lv_iadd hx hb d_law_233 ?_
  refine va_sld hx hb hX hbl hbA hS hin_1 d_law_234 ?_
  refine LCALL (n := 1) hx hb hml hown hg hE hgb lm_44 lm_45 lm_47 lm_6 lm_46 (by decide +kernel) (by decide) (w := wM G b mm) (wr := wD G a d') (ci := 7) rfl rfl rfl (As := [.int (xs (nI i + (1 : Int32)).toNatClampNeg)]) (rest := [.int v]) rfl (Nat.le_of_ble_eq_true rfl) hM2 List.perm_append_comm hP hD hS hl.1 d_law_235 (by omega) (by omega) rfl (fun w9 H locs hw9 hP hD hS => ?_)
  have hw9 : w9 = wM G b m' := hw9
  subst hw9
  refine lv_icmp_eq (tgt := 626) hx hb d_law_238 (by decide) (fun _ => ?_) (fun c9 => absurd rfl c9)
  exact W.widen (by omega) (by omega) (kk d' m' H locs hrl (hP.perm List.perm_append_comm) (hD.perm List.perm_append_comm) hS)
set_option maxRecDepth 100000 in
set_option maxHeartbeats 1000000 in
theorem arm_whole {p : Program} {l : Launch} {e : Env} {s : State} {m : MethodId} {below : List Frame} {meth : Method} {c : Code} {b0 L : Nat} {xs : Nat → Int32} {G : Gt} (C0 : LC p s m c b0 L xs G) {a : QD} {b : QM} {d : DN} {mm : MN} (h : RL d mm) {i : Nat} (hi : i + 6 ≤ L) (hL : L ≤ 3072) {H : Heap} {locs : List Loc} {cells slots : Nat} {Q : State → Prop} {ls : Array Slot} (hl : lv_has ls 4 [(3, .int (nI i)), (2, .ref b.1), (1, .ref a.1), (0, .ref b0)]) (hP : va_P (gD G) vwCl (wD G a d ++ wM G b mm) H) (hD : va_D (fun q => s.heap.size ≤ q) (wD G a d ++ wM G b mm)) (hS : va_S (fun q => s.heap.size ≤ q) s.heap H locs) (hc : cells ≤ 500000) (hs : slots ≤ 7000000)
    (kk : ∀ (d' : DN) (m' : MN) (H1 : Heap) (locs1 : List Loc), RL d' m' → va_P (gD G) vwCl (wD G a d' ++ wM G b m') H1 → va_D (fun q => s.heap.size ≤ q) (wD G a d' ++ wM G b m') → va_S (fun q => s.heap.size ≤ q) s.heap H1 locs1 → W p l e room_1 s m #[Value.ref b0] below meth c H1 locs1 (cells + 2) (slots + 403) Q (F0 m 626 ls [])) : W p l e room_1 s m #[Value.ref b0] below meth c H locs cells slots Q (F0 m 243 ls []) := by
  obtain ⟨hx, hb, hml, hown, hg, hX, hbl, hE, hgb⟩ := C0
  have hbA : ¬ (fun q : Nat => s.heap.size ≤ q) b0 := Nat.not_le.mpr hbl
  have hin_1 : vp_in (nI i + (1 : Int32)) L := pk_in (i + 1) L (by omega) (nI_add i 1)
  have hin_2 : vp_in (nI i + (2 : Int32)) L := pk_in (i + 2) L (by omega) (nI_add i 2)
  have hin_3 : vp_in (nI i + (3 : Int32)) L := pk_in (i + 3) L (by omega) (nI_add i 3)
  have hin_4 : vp_in (nI i + (4 : Int32)) L := pk_in (i + 4) L (by omega) (nI_add i 4)
  have hin_5 : vp_in (nI i + (5 : Int32)) L := pk_in (i + 5) L (by omega) (nI_add i 5)
  obtain ⟨mc, ms, v, m', hmc, hms, hM1, hM2⟩ := q_whole l G a b (((xs (nI i + (1 : Int32)).toNatClampNeg).toInt64 <<< ((32 : Int32).toInt64 &&& 63)) ||| ((xs (nI i + (2 : Int32)).toNatClampNeg).toInt64 &&& (4294967295 : Int64))) (xs (nI i + (3 : Int32)).toNatClampNeg) h
  refine lv_aload_n hx hb d_law_243 rfl (lv_at hl 2 rfl) ?_
  refine lv_aload_n hx hb d_law_244 rfl (lv_at hl 3 rfl) ?_
  refine lv_iload_n hx hb d_law_245 rfl (lv_at hl 0 rfl) ?_
  refine lv_iconst (v := 1) hx hb d_law_246 (by decide) ?_
  refine lv_iadd hx hb d_law_247 ?_
  refine va_sld hx hb hX hbl hbA hS hin_1 d_law_248 ?_
  refine lv_i2l (v := (xs (nI i + (1 : Int32)).toNatClampNeg).toInt64) hx hb d_law_249 rfl ?_
  refine lv_bipush (v := 32) hx hb d_law_250 (by decide) ?_
  refine lv_lshl (v := ((xs (nI i + (1 : Int32)).toNatClampNeg).toInt64 <<< ((32 : Int32).toInt64 &&& 63))) hx hb d_law_252 rfl ?_
  refine lv_aload_n hx hb d_law_253 rfl (lv_at hl 3 rfl) ?_
  refine lv_iload_n hx hb d_law_254 rfl (lv_at hl 0 rfl) ?_
  refine lv_iconst (v := 2) hx hb d_law_255 (by decide) ?_
  refine lv_iadd hx hb d_law_256 ?_
  refine va_sld hx hb hX hbl hbA hS hin_2 d_law_257 ?_
  refine lv_i2l (v := (xs (nI i + (2 : Int32)).toNatClampNeg).toInt64) hx hb d_law_258 rfl ?_
  refine lv_ldc2 (v := 4294967295) hx hb hown (hg _ lm_120) d_law_259 ?_
  refine lv_land hx hb d_law_262 ?_
  refine lv_lor hx hb d_law_263 ?_
  refine lv_aload_n hx hb d_law_264 rfl (lv_at hl 3 rfl) ?_
  refine lv_iload_n hx hb d_law_265 rfl (lv_at hl 0 rfl) ?_
  refine lv_iconst (v := 3) hx hb d_law_266 (by decide) ?_
  refine lv_iadd hx hb d_law_267 ?_
  refine va_sld hx hb hX hbl hbA hS hin_3 d_law_268 ?_
  refine LCALL (n := 2) hx hb hml hown hg hE hgb lm_48 lm_49 lm_51 lm_2 lm_50 (by decide +kernel) (by decide) (w := wD G a d) (wr := wM G b mm) (ci := 6) rfl rfl rfl (As := [.long (((xs (nI i + (1 : Int32)).toNatClampNeg).toInt64 <<< ((32 : Int32).toInt64 &&& 63)) ||| ((xs (nI i + (2 : Int32)).toNatClampNeg).toInt64 &&& (4294967295 : Int64))), .int (xs (nI i + (3 : Int32)).toNatClampNeg)]) (rest := []) rfl (Nat.le_of_ble_eq_true rfl) hM1 (List.Perm.refl _) hP hD hS hl.1 d_law_269 (by omega) (by omega) rfl (fun w9 H locs hw9 hP hD hS => ?_)
  obtain ⟨d', rfl, hrl⟩ := hw9
  refine lv_aload_n hx hb d_law_272 rfl (lv_at hl 1 rfl) ?_
  refine lv_aload_n hx hb d_law_273 rfl (lv_at hl 3 rfl) ?_
  refine lv_iload_n hx hb d_law_274 rfl (lv_at hl 0 rfl) ?_
  refine lv_iconst (v := 1) hx hb d_law_275 (by decide) ?_
  refine lv_iadd hx hb d_law_276 ?_
  refine va_sld hx hb hX hbl hbA hS hin_1 d_law_277 ?_
  refine lv_i2l (v := (xs (nI i + (1 : Int32)).toNatClampNeg).toInt64) hx hb d_law_278 rfl ?_
  refine lv_bipush (v := 32) hx hb d_law_279 (by decide) ?_
  refine lv_lshl (v := ((xs (nI i + (1 : Int32)).toNatClampNeg).toInt64 <<< ((32 : Int32).toInt64 &&& 63))) hx hb d_law_281 rfl ?_
  refine lv_aload_n hx hb d_law_282 rfl (lv_at hl 3 rfl) ?_
  refine lv_iload_n hx hb d_law_283 rfl (lv_at hl 0 rfl) ?_
  refine lv_iconst (v := 2) hx hb d_law_284 (by decide) ?_
  refine lv_iadd hx hb d_law_285 ?_
  refine va_sld hx hb hX hbl hbA hS hin_2 d_law_286 ?_
  refine lv_i2l (v := (xs (nI i + (2 : Int32)).toNatClampNeg).toInt64) hx hb d_law_287 rfl ?_
  refine lv_ldc2 (v := 4294967295) hx hb hown (hg _ lm_120) d_law_288 ?_
  refine lv_land hx hb d_law_291 ?_
  refine lv_lor hx hb d_law_292 ?_
  refine lv_aload_n hx hb d_law_293 rfl (lv_at hl 3 rfl) ?_
  refine lv_iload_n hx hb d_law_294 rfl (lv_at hl 0 rfl) ?_
  refine lv_iconst (v := 3) hx hb d_law_295 (by decide) ?_
  refine lv_iadd hx hb d_law_296 ?_
  refine va_sld hx hb hX hbl hbA hS hin_3 d_law_297 ?_
  refine LCALL (n := 2) hx hb hml hown hg hE hgb lm_52 lm_53 lm_55 lm_6 lm_54 (by decide +kernel) (by decide) (w := wM G b mm) (wr := wD G a d') (ci := 7) rfl rfl rfl (As := [.long (((xs (nI i + (1 : Int32)).toNatClampNeg).toInt64 <<< ((32 : Int32).toInt64 &&& 63)) ||| ((xs (nI i + (2 : Int32)).toNatClampNeg).toInt64 &&& (4294967295 : Int64))), .int (xs (nI i + (3 : Int32)).toNatClampNeg)]) (rest := [.int v]) rfl (Nat.le_of_ble_eq_true rfl) hM2 List.perm_append_comm hP hD hS hl.1 d_law_298 (by omega) (by omega) rfl (fun w9 H locs hw9 hP hD hS => ?_)
  have hw9 : w9 = wM G b m' := hw9
  subst hw9
  refine lv_icmp_eq (tgt := 626) hx hb d_law_301 (by decide) (fun _ => ?_) (fun c9 => absurd rfl c9)
  exact W.widen (by omega) (by omega) (kk d' m' H locs hrl (hP.perm List.perm_append_comm) (hD.perm List.perm_append_comm) hS)
set_option maxRecDepth 100000 in
set_option maxHeartbeats 1000000 in
theorem arm_size {p : Program} {l : Launch} {e : Env} {s : State} {m : MethodId} {below : List Frame} {meth : Method} {c : Code} {b0 L : Nat} {xs : Nat → Int32} {G : Gt} (C0 : LC p s m c b0 L xs G) {a : QD} {b : QM} {d : DN} {mm : MN} (h : RL d mm) {i : Nat} (hi : i + 6 ≤ L) (hL : L ≤ 3072) {H : Heap} {locs : List Loc} {cells slots : Nat} {Q : State → Prop} {ls : Array Slot} (hl : lv_has ls 4 [(3, .int (nI i)), (2, .ref b.1), (1, .ref a.1), (0, .ref b0)]) (hP : va_P (gD G) vwCl (wD G a d ++ wM G b mm) H) (hD : va_D (fun q => s.heap.size ≤ q) (wD G a d ++ wM G b mm)) (hS : va_S (fun q => s.heap.size ≤ q) s.heap H locs) (hc : cells ≤ 500000) (hs : slots ≤ 7000000)
    (kk : ∀ (d' : DN) (m' : MN) (H1 : Heap) (locs1 : List Loc), RL d' m' → va_P (gD G) vwCl (wD G a d' ++ wM G b m') H1 → va_D (fun q => s.heap.size ≤ q) (wD G a d' ++ wM G b m') → va_S (fun q => s.heap.size ≤ q) s.heap H1 locs1 → W p l e room_1 s m #[Value.ref b0] below meth c H1 locs1 (cells + 2) (slots + 403) Q (F0 m 626 ls [])) : W p l e room_1 s m #[Value.ref b0] below meth c H locs cells slots Q (F0 m 306 ls []) := by
  obtain ⟨hx, hb, hml, hown, hg, hX, hbl, hE, hgb⟩ := C0
  have hbA : ¬ (fun q : Nat => s.heap.size ≤ q) b0 := Nat.not_le.mpr hbl
  have hin_1 : vp_in (nI i + (1 : Int32)) L := pk_in (i + 1) L (by omega) (nI_add i 1)
  have hin_2 : vp_in (nI i + (2 : Int32)) L := pk_in (i + 2) L (by omega) (nI_add i 2)
  have hin_3 : vp_in (nI i + (3 : Int32)) L := pk_in (i + 3) L (by omega) (nI_add i 3)
  have hin_4 : vp_in (nI i + (4 : Int32)) L := pk_in (i + 4) L (by omega) (nI_add i 4)
  have hin_5 : vp_in (nI i + (5 : Int32)) L := pk_in (i + 5) L (by omega) (nI_add i 5)
  by_cases hz : (xs (nI i + (1 : Int32)).toNatClampNeg) = 0
  · obtain ⟨mc, ms, v, m', hmc, hms, hM1, hM2⟩ := q_size l G a b false (((xs (nI i + (2 : Int32)).toNatClampNeg).toInt64 <<< ((32 : Int32).toInt64 &&& 63)) ||| ((xs (nI i + (3 : Int32)).toNatClampNeg).toInt64 &&& (4294967295 : Int64))) h
    refine lv_aload_n hx hb d_law_306 rfl (lv_at hl 2 rfl) ?_
    refine lv_aload_n hx hb d_law_307 rfl (lv_at hl 3 rfl) ?_
    refine lv_iload_n hx hb d_law_308 rfl (lv_at hl 0 rfl) ?_
    refine lv_iconst (v := 1) hx hb d_law_309 (by decide) ?_
    refine lv_iadd hx hb d_law_310 ?_
    refine va_sld hx hb hX hbl hbA hS hin_1 d_law_311 ?_
    refine lv_if_eq (tgt := 319) hx hb d_law_312 (by decide) (fun _ => ?_) (fun c9 => absurd hz c9)
    refine lv_iconst (v := 0) hx hb d_law_319 (by decide) ?_
    refine lv_aload_n hx hb d_law_320 rfl (lv_at hl 3 rfl) ?_
    refine lv_iload_n hx hb d_law_321 rfl (lv_at hl 0 rfl) ?_
    refine lv_iconst (v := 2) hx hb d_law_322 (by decide) ?_
    refine lv_iadd hx hb d_law_323 ?_
    refine va_sld hx hb hX hbl hbA hS hin_2 d_law_324 ?_
    refine lv_i2l (v := (xs (nI i + (2 : Int32)).toNatClampNeg).toInt64) hx hb d_law_325 rfl ?_
    refine lv_bipush (v := 32) hx hb d_law_326 (by decide) ?_
    refine lv_lshl (v := ((xs (nI i + (2 : Int32)).toNatClampNeg).toInt64 <<< ((32 : Int32).toInt64 &&& 63))) hx hb d_law_328 rfl ?_
    refine lv_aload_n hx hb d_law_329 rfl (lv_at hl 3 rfl) ?_
    refine lv_iload_n hx hb d_law_330 rfl (lv_at hl 0 rfl) ?_
    refine lv_iconst (v := 3) hx hb d_law_331 (by decide) ?_
    refine lv_iadd hx hb d_law_332 ?_
    refine va_sld hx hb hX hbl hbA hS hin_3 d_law_333 ?_
    refine lv_i2l (v := (xs (nI i + (3 : Int32)).toNatClampNeg).toInt64) hx hb d_law_334 rfl ?_
    refine lv_ldc2 (v := 4294967295) hx hb hown (hg _ lm_120) d_law_335 ?_
    refine lv_land hx hb d_law_338 ?_
    refine lv_lor hx hb d_law_339 ?_
    refine LCALL (n := 2) hx hb hml hown hg hE hgb lm_56 lm_57 lm_59 lm_2 lm_58 (by decide +kernel) (by decide) (w := wD G a d) (wr := wM G b mm) (ci := 6) rfl rfl rfl (As := [.int (0 : Int32), .long (((xs (nI i + (2 : Int32)).toNatClampNeg).toInt64 <<< ((32 : Int32).toInt64 &&& 63)) ||| ((xs (nI i + (3 : Int32)).toNatClampNeg).toInt64 &&& (4294967295 : Int64)))]) (rest := []) rfl (Nat.le_of_ble_eq_true rfl) hM1 (List.Perm.refl _) hP hD hS hl.1 d_law_340 (by omega) (by omega) rfl (fun w9 H locs hw9 hP hD hS => ?_)
    obtain ⟨d', rfl, hrl⟩ := hw9
    refine lv_aload_n hx hb d_law_343 rfl (lv_at hl 1 rfl) ?_
    refine lv_aload_n hx hb d_law_344 rfl (lv_at hl 3 rfl) ?_
    refine lv_iload_n hx hb d_law_345 rfl (lv_at hl 0 rfl) ?_
    refine lv_iconst (v := 1) hx hb d_law_346 (by decide) ?_
    refine lv_iadd hx hb d_law_347 ?_
    refine va_sld hx hb hX hbl hbA hS hin_1 d_law_348 ?_
    refine lv_if_eq (tgt := 356) hx hb d_law_349 (by decide) (fun _ => ?_) (fun c9 => absurd hz c9)
    refine lv_iconst (v := 0) hx hb d_law_356 (by decide) ?_
    refine lv_aload_n hx hb d_law_357 rfl (lv_at hl 3 rfl) ?_
    refine lv_iload_n hx hb d_law_358 rfl (lv_at hl 0 rfl) ?_
    refine lv_iconst (v := 2) hx hb d_law_359 (by decide) ?_
    refine lv_iadd hx hb d_law_360 ?_
    refine va_sld hx hb hX hbl hbA hS hin_2 d_law_361 ?_
    refine lv_i2l (v := (xs (nI i + (2 : Int32)).toNatClampNeg).toInt64) hx hb d_law_362 rfl ?_
    refine lv_bipush (v := 32) hx hb d_law_363 (by decide) ?_
    refine lv_lshl (v := ((xs (nI i + (2 : Int32)).toNatClampNeg).toInt64 <<< ((32 : Int32).toInt64 &&& 63))) hx hb d_law_365 rfl ?_
    refine lv_aload_n hx hb d_law_366 rfl (lv_at hl 3 rfl) ?_
    refine lv_iload_n hx hb d_law_367 rfl (lv_at hl 0 rfl) ?_
    refine lv_iconst (v := 3) hx hb d_law_368 (by decide) ?_
    refine lv_iadd hx hb d_law_369 ?_
    refine va_sld hx hb hX hbl hbA hS hin_3 d_law_370 ?_
    refine lv_i2l (v := (xs (nI i + (3 : Int32)).toNatClampNeg).toInt64) hx hb d_law_371 rfl ?_
    refine lv_ldc2 (v := 4294967295) hx hb hown (hg _ lm_120) d_law_372 ?_
    refine lv_land hx hb d_law_375 ?_
    refine lv_lor hx hb d_law_376 ?_
    refine LCALL (n := 2) hx hb hml hown hg hE hgb lm_60 lm_61 lm_63 lm_6 lm_62 (by decide +kernel) (by decide) (w := wM G b mm) (wr := wD G a d') (ci := 7) rfl rfl rfl (As := [.int (0 : Int32), .long (((xs (nI i + (2 : Int32)).toNatClampNeg).toInt64 <<< ((32 : Int32).toInt64 &&& 63)) ||| ((xs (nI i + (3 : Int32)).toNatClampNeg).toInt64 &&& (4294967295 : Int64)))]) (rest := [.int v]) rfl (Nat.le_of_ble_eq_true rfl) hM2 List.perm_append_comm hP hD hS hl.1 d_law_377 (by omega) (by omega) rfl (fun w9 H locs hw9 hP hD hS => ?_)
    have hw9 : w9 = wM G b m' := hw9
    subst hw9
    refine lv_icmp_eq (tgt := 626) hx hb d_law_380 (by decide) (fun _ => ?_) (fun c9 => absurd rfl c9)
    exact W.widen (by omega) (by omega) (kk d' m' H locs hrl (hP.perm List.perm_append_comm) (hD.perm List.perm_append_comm) hS)
  · obtain ⟨mc, ms, v, m', hmc, hms, hM1, hM2⟩ := q_size l G a b true (((xs (nI i + (2 : Int32)).toNatClampNeg).toInt64 <<< ((32 : Int32).toInt64 &&& 63)) ||| ((xs (nI i + (3 : Int32)).toNatClampNeg).toInt64 &&& (4294967295 : Int64))) h
    refine lv_aload_n hx hb d_law_306 rfl (lv_at hl 2 rfl) ?_
    refine lv_aload_n hx hb d_law_307 rfl (lv_at hl 3 rfl) ?_
    refine lv_iload_n hx hb d_law_308 rfl (lv_at hl 0 rfl) ?_
    refine lv_iconst (v := 1) hx hb d_law_309 (by decide) ?_
    refine lv_iadd hx hb d_law_310 ?_
    refine va_sld hx hb hX hbl hbA hS hin_1 d_law_311 ?_
    refine lv_if_eq (tgt := 319) hx hb d_law_312 (by decide) (fun c9 => absurd c9 hz) (fun _ => ?_)
    refine lv_iconst (v := 1) hx hb d_law_315 (by decide) ?_
    refine lv_goto (tgt := 320) hx hb d_law_316 (by decide) ?_
    refine lv_aload_n hx hb d_law_320 rfl (lv_at hl 3 rfl) ?_
    refine lv_iload_n hx hb d_law_321 rfl (lv_at hl 0 rfl) ?_
    refine lv_iconst (v := 2) hx hb d_law_322 (by decide) ?_
    refine lv_iadd hx hb d_law_323 ?_
    refine va_sld hx hb hX hbl hbA hS hin_2 d_law_324 ?_
    refine lv_i2l (v := (xs (nI i + (2 : Int32)).toNatClampNeg).toInt64) hx hb d_law_325 rfl ?_
    refine lv_bipush (v := 32) hx hb d_law_326 (by decide) ?_
    refine lv_lshl (v := ((xs (nI i + (2 : Int32)).toNatClampNeg).toInt64 <<< ((32 : Int32).toInt64 &&& 63))) hx hb d_law_328 rfl ?_
    refine lv_aload_n hx hb d_law_329 rfl (lv_at hl 3 rfl) ?_
    refine lv_iload_n hx hb d_law_330 rfl (lv_at hl 0 rfl) ?_
    refine lv_iconst (v := 3) hx hb d_law_331 (by decide) ?_
    refine lv_iadd hx hb d_law_332 ?_
    refine va_sld hx hb hX hbl hbA hS hin_3 d_law_333 ?_
    refine lv_i2l (v := (xs (nI i + (3 : Int32)).toNatClampNeg).toInt64) hx hb d_law_334 rfl ?_
    refine lv_ldc2 (v := 4294967295) hx hb hown (hg _ lm_120) d_law_335 ?_
    refine lv_land hx hb d_law_338 ?_
    refine lv_lor hx hb d_law_339 ?_
    refine LCALL (n := 2) hx hb hml hown hg hE hgb lm_56 lm_57 lm_59 lm_2 lm_58 (by decide +kernel) (by decide) (w := wD G a d) (wr := wM G b mm) (ci := 6) rfl rfl rfl (As := [.int (1 : Int32), .long (((xs (nI i + (2 : Int32)).toNatClampNeg).toInt64 <<< ((32 : Int32).toInt64 &&& 63)) ||| ((xs (nI i + (3 : Int32)).toNatClampNeg).toInt64 &&& (4294967295 : Int64)))]) (rest := []) rfl (Nat.le_of_ble_eq_true rfl) hM1 (List.Perm.refl _) hP hD hS hl.1 d_law_340 (by omega) (by omega) rfl (fun w9 H locs hw9 hP hD hS => ?_)
    obtain ⟨d', rfl, hrl⟩ := hw9
    refine lv_aload_n hx hb d_law_343 rfl (lv_at hl 1 rfl) ?_
    refine lv_aload_n hx hb d_law_344 rfl (lv_at hl 3 rfl) ?_
    refine lv_iload_n hx hb d_law_345 rfl (lv_at hl 0 rfl) ?_
    refine lv_iconst (v := 1) hx hb d_law_346 (by decide) ?_
    refine lv_iadd hx hb d_law_347 ?_
    refine va_sld hx hb hX hbl hbA hS hin_1 d_law_348 ?_
    refine lv_if_eq (tgt := 356) hx hb d_law_349 (by decide) (fun c9 => absurd c9 hz) (fun _ => ?_)
    refine lv_iconst (v := 1) hx hb d_law_352 (by decide) ?_
    refine lv_goto (tgt := 357) hx hb d_law_353 (by decide) ?_
    refine lv_aload_n hx hb d_law_357 rfl (lv_at hl 3 rfl) ?_
    refine lv_iload_n hx hb d_law_358 rfl (lv_at hl 0 rfl) ?_
    refine lv_iconst (v := 2) hx hb d_law_359 (by decide) ?_
    refine lv_iadd hx hb d_law_360 ?_
    refine va_sld hx hb hX hbl hbA hS hin_2 d_law_361 ?_
    refine lv_i2l (v := (xs (nI i + (2 : Int32)).toNatClampNeg).toInt64) hx hb d_law_362 rfl ?_
    refine lv_bipush (v := 32) hx hb d_law_363 (by decide) ?_
    refine lv_lshl (v := ((xs (nI i + (2 : Int32)).toNatClampNeg).toInt64 <<< ((32 : Int32).toInt64 &&& 63))) hx hb d_law_365 rfl ?_
    refine lv_aload_n hx hb d_law_366 rfl (lv_at hl 3 rfl) ?_
    refine lv_iload_n hx hb d_law_367 rfl (lv_at hl 0 rfl) ?_
    refine lv_iconst (v := 3) hx hb d_law_368 (by decide) ?_
    refine lv_iadd hx hb d_law_369 ?_
    refine va_sld hx hb hX hbl hbA hS hin_3 d_law_370 ?_
    refine lv_i2l (v := (xs (nI i + (3 : Int32)).toNatClampNeg).toInt64) hx hb d_law_371 rfl ?_
    refine lv_ldc2 (v := 4294967295) hx hb hown (hg _ lm_120) d_law_372 ?_
    refine lv_land hx hb d_law_375 ?_
    refine lv_lor hx hb d_law_376 ?_
    refine LCALL (n := 2) hx hb hml hown hg hE hgb lm_60 lm_61 lm_63 lm_6 lm_62 (by decide +kernel) (by decide) (w := wM G b mm) (wr := wD G a d') (ci := 7) rfl rfl rfl (As := [.int (1 : Int32), .long (((xs (nI i + (2 : Int32)).toNatClampNeg).toInt64 <<< ((32 : Int32).toInt64 &&& 63)) ||| ((xs (nI i + (3 : Int32)).toNatClampNeg).toInt64 &&& (4294967295 : Int64)))]) (rest := [.int v]) rfl (Nat.le_of_ble_eq_true rfl) hM2 List.perm_append_comm hP hD hS hl.1 d_law_377 (by omega) (by omega) rfl (fun w9 H locs hw9 hP hD hS => ?_)
    have hw9 : w9 = wM G b m' := hw9
    subst hw9
    refine lv_icmp_eq (tgt := 626) hx hb d_law_380 (by decide) (fun _ => ?_) (fun c9 => absurd rfl c9)
    exact W.widen (by omega) (by omega) (kk d' m' H locs hrl (hP.perm List.perm_append_comm) (hD.perm List.perm_append_comm) hS)
set_option maxRecDepth 100000 in
set_option maxHeartbeats 1000000 in
theorem arm_more {p : Program} {l : Launch} {e : Env} {s : State} {m : MethodId} {below : List Frame} {meth : Method} {c : Code} {b0 L : Nat} {xs : Nat → Int32} {G : Gt} (C0 : LC p s m c b0 L xs G) {a : QD} {b : QM} {d : DN} {mm : MN} (h : RL d mm) {i : Nat} (hi : i + 6 ≤ L) (hL : L ≤ 3072) {H : Heap} {locs : List Loc} {cells slots : Nat} {Q : State → Prop} {ls : Array Slot} (hl : lv_has ls 4 [(3, .int (nI i)), (2, .ref b.1), (1, .ref a.1), (0, .ref b0)]) (hP : va_P (gD G) vwCl (wD G a d ++ wM G b mm) H) (hD : va_D (fun q => s.heap.size ≤ q) (wD G a d ++ wM G b mm)) (hS : va_S (fun q => s.heap.size ≤ q) s.heap H locs) (hc : cells ≤ 500000) (hs : slots ≤ 7000000)
    (kk : ∀ (d' : DN) (m' : MN) (H1 : Heap) (locs1 : List Loc), RL d' m' → va_P (gD G) vwCl (wD G a d' ++ wM G b m') H1 → va_D (fun q => s.heap.size ≤ q) (wD G a d' ++ wM G b m') → va_S (fun q => s.heap.size ≤ q) s.heap H1 locs1 → W p l e room_1 s m #[Value.ref b0] below meth c H1 locs1 (cells + 2) (slots + 403) Q (F0 m 626 ls [])) : W p l e room_1 s m #[Value.ref b0] below meth c H locs cells slots Q (F0 m 385 ls []) := by
  obtain ⟨hx, hb, hml, hown, hg, hX, hbl, hE, hgb⟩ := C0
  have hbA : ¬ (fun q : Nat => s.heap.size ≤ q) b0 := Nat.not_le.mpr hbl
  have hin_1 : vp_in (nI i + (1 : Int32)) L := pk_in (i + 1) L (by omega) (nI_add i 1)
  have hin_2 : vp_in (nI i + (2 : Int32)) L := pk_in (i + 2) L (by omega) (nI_add i 2)
  have hin_3 : vp_in (nI i + (3 : Int32)) L := pk_in (i + 3) L (by omega) (nI_add i 3)
  have hin_4 : vp_in (nI i + (4 : Int32)) L := pk_in (i + 4) L (by omega) (nI_add i 4)
  have hin_5 : vp_in (nI i + (5 : Int32)) L := pk_in (i + 5) L (by omega) (nI_add i 5)
  obtain ⟨mc, ms, v, m', hmc, hms, hM1, hM2⟩ := q_more l G a b (((xs (nI i + (1 : Int32)).toNatClampNeg).toInt64 <<< ((32 : Int32).toInt64 &&& 63)) ||| ((xs (nI i + (2 : Int32)).toNatClampNeg).toInt64 &&& (4294967295 : Int64))) h
  refine lv_aload_n hx hb d_law_385 rfl (lv_at hl 2 rfl) ?_
  refine lv_aload_n hx hb d_law_386 rfl (lv_at hl 3 rfl) ?_
  refine lv_iload_n hx hb d_law_387 rfl (lv_at hl 0 rfl) ?_
  refine lv_iconst (v := 1) hx hb d_law_388 (by decide) ?_
  refine lv_iadd hx hb d_law_389 ?_
  refine va_sld hx hb hX hbl hbA hS hin_1 d_law_390 ?_
  refine lv_i2l (v := (xs (nI i + (1 : Int32)).toNatClampNeg).toInt64) hx hb d_law_391 rfl ?_
  refine lv_bipush (v := 32) hx hb d_law_392 (by decide) ?_
  refine lv_lshl (v := ((xs (nI i + (1 : Int32)).toNatClampNeg).toInt64 <<< ((32 : Int32).toInt64 &&& 63))) hx hb d_law_394 rfl ?_
  refine lv_aload_n hx hb d_law_395 rfl (lv_at hl 3 rfl) ?_
  refine lv_iload_n hx hb d_law_396 rfl (lv_at hl 0 rfl) ?_
  refine lv_iconst (v := 2) hx hb d_law_397 (by decide) ?_
  refine lv_iadd hx hb d_law_398 ?_
  refine va_sld hx hb hX hbl hbA hS hin_2 d_law_399 ?_
  refine lv_i2l (v := (xs (nI i + (2 : Int32)).toNatClampNeg).toInt64) hx hb d_law_400 rfl ?_
  refine lv_ldc2 (v := 4294967295) hx hb hown (hg _ lm_120) d_law_401 ?_
  refine lv_land hx hb d_law_404 ?_
  refine lv_lor hx hb d_law_405 ?_
  refine LCALL (n := 1) hx hb hml hown hg hE hgb lm_64 lm_65 lm_67 lm_2 lm_66 (by decide +kernel) (by decide) (w := wD G a d) (wr := wM G b mm) (ci := 6) rfl rfl rfl (As := [.long (((xs (nI i + (1 : Int32)).toNatClampNeg).toInt64 <<< ((32 : Int32).toInt64 &&& 63)) ||| ((xs (nI i + (2 : Int32)).toNatClampNeg).toInt64 &&& (4294967295 : Int64)))]) (rest := []) rfl (Nat.le_of_ble_eq_true rfl) hM1 (List.Perm.refl _) hP hD hS hl.1 d_law_406 (by omega) (by omega) rfl (fun w9 H locs hw9 hP hD hS => ?_)
  obtain ⟨d', rfl, hrl⟩ := hw9
  refine lv_aload_n hx hb d_law_409 rfl (lv_at hl 1 rfl) ?_
  refine lv_aload_n hx hb d_law_410 rfl (lv_at hl 3 rfl) ?_
  refine lv_iload_n hx hb d_law_411 rfl (lv_at hl 0 rfl) ?_
  refine lv_iconst (v := 1) hx hb d_law_412 (by decide) ?_
  refine lv_iadd hx hb d_law_413 ?_
  refine va_sld hx hb hX hbl hbA hS hin_1 d_law_414 ?_
  refine lv_i2l (v := (xs (nI i + (1 : Int32)).toNatClampNeg).toInt64) hx hb d_law_415 rfl ?_
  refine lv_bipush (v := 32) hx hb d_law_416 (by decide) ?_
  refine lv_lshl (v := ((xs (nI i + (1 : Int32)).toNatClampNeg).toInt64 <<< ((32 : Int32).toInt64 &&& 63))) hx hb d_law_418 rfl ?_
  refine lv_aload_n hx hb d_law_419 rfl (lv_at hl 3 rfl) ?_
  refine lv_iload_n hx hb d_law_420 rfl (lv_at hl 0 rfl) ?_
  refine lv_iconst (v := 2) hx hb d_law_421 (by decide) ?_
  refine lv_iadd hx hb d_law_422 ?_
  refine va_sld hx hb hX hbl hbA hS hin_2 d_law_423 ?_
  refine lv_i2l (v := (xs (nI i + (2 : Int32)).toNatClampNeg).toInt64) hx hb d_law_424 rfl ?_
  refine lv_ldc2 (v := 4294967295) hx hb hown (hg _ lm_120) d_law_425 ?_
  refine lv_land hx hb d_law_428 ?_
  refine lv_lor hx hb d_law_429 ?_
  refine LCALL (n := 1) hx hb hml hown hg hE hgb lm_68 lm_69 lm_71 lm_6 lm_70 (by decide +kernel) (by decide) (w := wM G b mm) (wr := wD G a d') (ci := 7) rfl rfl rfl (As := [.long (((xs (nI i + (1 : Int32)).toNatClampNeg).toInt64 <<< ((32 : Int32).toInt64 &&& 63)) ||| ((xs (nI i + (2 : Int32)).toNatClampNeg).toInt64 &&& (4294967295 : Int64)))]) (rest := [.int v]) rfl (Nat.le_of_ble_eq_true rfl) hM2 List.perm_append_comm hP hD hS hl.1 d_law_430 (by omega) (by omega) rfl (fun w9 H locs hw9 hP hD hS => ?_)
  have hw9 : w9 = wM G b m' := hw9
  subst hw9
  refine lv_icmp_eq (tgt := 626) hx hb d_law_433 (by decide) (fun _ => ?_) (fun c9 => absurd rfl c9)
  exact W.widen (by omega) (by omega) (kk d' m' H locs hrl (hP.perm List.perm_append_comm) (hD.perm List.perm_append_comm) hS)
set_option maxRecDepth 100000 in
set_option maxHeartbeats 1000000 in
theorem arm_scale {p : Program} {l : Launch} {e : Env} {s : State} {m : MethodId} {below : List Frame} {meth : Method} {c : Code} {b0 L : Nat} {xs : Nat → Int32} {G : Gt} (C0 : LC p s m c b0 L xs G) {a : QD} {b : QM} {d : DN} {mm : MN} (h : RL d mm) {i : Nat} (hi : i + 6 ≤ L) (hL : L ≤ 3072) {H : Heap} {locs : List Loc} {cells slots : Nat} {Q : State → Prop} {ls : Array Slot} (hl : lv_has ls 4 [(3, .int (nI i)), (2, .ref b.1), (1, .ref a.1), (0, .ref b0)]) (hP : va_P (gD G) vwCl (wD G a d ++ wM G b mm) H) (hD : va_D (fun q => s.heap.size ≤ q) (wD G a d ++ wM G b mm)) (hS : va_S (fun q => s.heap.size ≤ q) s.heap H locs) (hc : cells ≤ 500000) (hs : slots ≤ 7000000)
    (kk : ∀ (d' : DN) (m' : MN) (H1 : Heap) (locs1 : List Loc), RL d' m' → va_P (gD G) vwCl (wD G a d' ++ wM G b m') H1 → va_D (fun q => s.heap.size ≤ q) (wD G a d' ++ wM G b m') → va_S (fun q => s.heap.size ≤ q) s.heap H1 locs1 → W p l e room_1 s m #[Value.ref b0] below meth c H1 locs1 (cells + 2) (slots + 403) Q (F0 m 626 ls [])) : W p l e room_1 s m #[Value.ref b0] below meth c H locs cells slots Q (F0 m 438 ls []) := by
  obtain ⟨hx, hb, hml, hown, hg, hX, hbl, hE, hgb⟩ := C0
  have hbA : ¬ (fun q : Nat => s.heap.size ≤ q) b0 := Nat.not_le.mpr hbl
  have hin_1 : vp_in (nI i + (1 : Int32)) L := pk_in (i + 1) L (by omega) (nI_add i 1)
  have hin_2 : vp_in (nI i + (2 : Int32)) L := pk_in (i + 2) L (by omega) (nI_add i 2)
  have hin_3 : vp_in (nI i + (3 : Int32)) L := pk_in (i + 3) L (by omega) (nI_add i 3)
  have hin_4 : vp_in (nI i + (4 : Int32)) L := pk_in (i + 4) L (by omega) (nI_add i 4)
  have hin_5 : vp_in (nI i + (5 : Int32)) L := pk_in (i + 5) L (by omega) (nI_add i 5)
  obtain ⟨mc, ms, v, m', hmc, hms, hM1, hM2⟩ := q_scale l G a b (xs (nI i + (1 : Int32)).toNatClampNeg) h
  refine lv_aload_n hx hb d_law_438 rfl (lv_at hl 2 rfl) ?_
  refine lv_aload_n hx hb d_law_439 rfl (lv_at hl 3 rfl) ?_
  refine lv_iload_n hx hb d_law_440 rfl (lv_at hl 0 rfl) ?_
  refine lv_iconst (v := 1) hx hb d_law_441 (by decide) ?_
  refine lv_iadd hx hb d_law_442 ?_
  refine va_sld hx hb hX hbl hbA hS hin_1 d_law_443 ?_
  refine LCALL (n := 1) hx hb hml hown hg hE hgb lm_72 lm_73 lm_75 lm_2 lm_74 (by decide +kernel) (by decide) (w := wD G a d) (wr := wM G b mm) (ci := 6) rfl rfl rfl (As := [.int (xs (nI i + (1 : Int32)).toNatClampNeg)]) (rest := []) rfl (Nat.le_of_ble_eq_true rfl) hM1 (List.Perm.refl _) hP hD hS hl.1 d_law_444 (by omega) (by omega) rfl (fun w9 H locs hw9 hP hD hS => ?_)
  obtain ⟨d', rfl, hrl⟩ := hw9
  refine lv_aload_n hx hb d_law_447 rfl (lv_at hl 1 rfl) ?_
  refine lv_aload_n hx hb d_law_448 rfl (lv_at hl 3 rfl) ?_
  refine lv_iload_n hx hb d_law_449 rfl (lv_at hl 0 rfl) ?_
  refine lv_iconst (v := 1) hx hb d_law_450 (by decide) ?_
  refine lv_iadd hx hb d_law_451 ?_
  refine va_sld hx hb hX hbl hbA hS hin_1 d_law_452 ?_
  refine LCALL (n := 1) hx hb hml hown hg hE hgb lm_76 lm_77 lm_79 lm_6 lm_78 (by decide +kernel) (by decide) (w := wM G b mm) (wr := wD G a d') (ci := 7) rfl rfl rfl (As := [.int (xs (nI i + (1 : Int32)).toNatClampNeg)]) (rest := [.int v]) rfl (Nat.le_of_ble_eq_true rfl) hM2 List.perm_append_comm hP hD hS hl.1 d_law_453 (by omega) (by omega) rfl (fun w9 H locs hw9 hP hD hS => ?_)
  have hw9 : w9 = wM G b m' := hw9
  subst hw9
  refine lv_icmp_eq (tgt := 626) hx hb d_law_456 (by decide) (fun _ => ?_) (fun c9 => absurd rfl c9)
  exact W.widen (by omega) (by omega) (kk d' m' H locs hrl (hP.perm List.perm_append_comm) (hD.perm List.perm_append_comm) hS)
set_option maxRecDepth 100000 in
set_option maxHeartbeats 1000000 in
theorem arm_fraction {p : Program} {l : Launch} {e : Env} {s : State} {m : MethodId} {below : List Frame} {meth : Method} {c : Code} {b0 L : Nat} {xs : Nat → Int32} {G : Gt} (C0 : LC p s m c b0 L xs G) {a : QD} {b : QM} {d : DN} {mm : MN} (h : RL d mm) {i : Nat} (hi : i + 6 ≤ L) (hL : L ≤ 3072) {H : Heap} {locs : List Loc} {cells slots : Nat} {Q : State → Prop} {ls : Array Slot} (hl : lv_has ls 4 [(3, .int (nI i)), (2, .ref b.1), (1, .ref a.1), (0, .ref b0)]) (hP : va_P (gD G) vwCl (wD G a d ++ wM G b mm) H) (hD : va_D (fun q => s.heap.size ≤ q) (wD G a d ++ wM G b mm)) (hS : va_S (fun q => s.heap.size ≤ q) s.heap H locs) (hc : cells ≤ 500000) (hs : slots ≤ 7000000)
    (kk : ∀ (d' : DN) (m' : MN) (H1 : Heap) (locs1 : List Loc), RL d' m' → va_P (gD G) vwCl (wD G a d' ++ wM G b m') H1 → va_D (fun q => s.heap.size ≤ q) (wD G a d' ++ wM G b m') → va_S (fun q => s.heap.size ≤ q) s.heap H1 locs1 → W p l e room_1 s m #[Value.ref b0] below meth c H1 locs1 (cells + 2) (slots + 403) Q (F0 m 626 ls [])) : W p l e room_1 s m #[Value.ref b0] below meth c H locs cells slots Q (F0 m 461 ls []) := by
  obtain ⟨hx, hb, hml, hown, hg, hX, hbl, hE, hgb⟩ := C0
  have hbA : ¬ (fun q : Nat => s.heap.size ≤ q) b0 := Nat.not_le.mpr hbl
  have hin_1 : vp_in (nI i + (1 : Int32)) L := pk_in (i + 1) L (by omega) (nI_add i 1)
  have hin_2 : vp_in (nI i + (2 : Int32)) L := pk_in (i + 2) L (by omega) (nI_add i 2)
  have hin_3 : vp_in (nI i + (3 : Int32)) L := pk_in (i + 3) L (by omega) (nI_add i 3)
  have hin_4 : vp_in (nI i + (4 : Int32)) L := pk_in (i + 4) L (by omega) (nI_add i 4)
  have hin_5 : vp_in (nI i + (5 : Int32)) L := pk_in (i + 5) L (by omega) (nI_add i 5)
  obtain ⟨mc, ms, v, m', hmc, hms, hM1, hM2⟩ := q_fraction l G a b (((xs (nI i + (1 : Int32)).toNatClampNeg).toInt64 <<< ((32 : Int32).toInt64 &&& 63)) ||| ((xs (nI i + (2 : Int32)).toNatClampNeg).toInt64 &&& (4294967295 : Int64))) (((xs (nI i + (3 : Int32)).toNatClampNeg).toInt64 <<< ((32 : Int32).toInt64 &&& 63)) ||| ((xs (nI i + (4 : Int32)).toNatClampNeg).toInt64 &&& (4294967295 : Int64))) (xs (nI i + (5 : Int32)).toNatClampNeg) h
  refine lv_aload_n hx hb d_law_461 rfl (lv_at hl 2 rfl) ?_
  refine lv_aload_n hx hb d_law_462 rfl (lv_at hl 3 rfl) ?_
  refine lv_iload_n hx hb d_law_463 rfl (lv_at hl 0 rfl) ?_
  refine lv_iconst (v := 1) hx hb d_law_464 (by decide) ?_
  refine lv_iadd hx hb d_law_465 ?_
  refine va_sld hx hb hX hbl hbA hS hin_1 d_law_466 ?_
  refine lv_i2l (v := (xs (nI i + (1 : Int32)).toNatClampNeg).toInt64) hx hb d_law_467 rfl ?_
  refine lv_bipush (v := 32) hx hb d_law_468 (by decide) ?_
  refine lv_lshl (v := ((xs (nI i + (1 : Int32)).toNatClampNeg).toInt64 <<< ((32 : Int32).toInt64 &&& 63))) hx hb d_law_470 rfl ?_
  refine lv_aload_n hx hb d_law_471 rfl (lv_at hl 3 rfl) ?_
  refine lv_iload_n hx hb d_law_472 rfl (lv_at hl 0 rfl) ?_
  refine lv_iconst (v := 2) hx hb d_law_473 (by decide) ?_
  refine lv_iadd hx hb d_law_474 ?_
  refine va_sld hx hb hX hbl hbA hS hin_2 d_law_475 ?_
  refine lv_i2l (v := (xs (nI i + (2 : Int32)).toNatClampNeg).toInt64) hx hb d_law_476 rfl ?_
  refine lv_ldc2 (v := 4294967295) hx hb hown (hg _ lm_120) d_law_477 ?_
  refine lv_land hx hb d_law_480 ?_
  refine lv_lor hx hb d_law_481 ?_
  refine lv_aload_n hx hb d_law_482 rfl (lv_at hl 3 rfl) ?_
  refine lv_iload_n hx hb d_law_483 rfl (lv_at hl 0 rfl) ?_
  refine lv_iconst (v := 3) hx hb d_law_484 (by decide) ?_
  refine lv_iadd hx hb d_law_485 ?_
  refine va_sld hx hb hX hbl hbA hS hin_3 d_law_486 ?_
  refine lv_i2l (v := (xs (nI i + (3 : Int32)).toNatClampNeg).toInt64) hx hb d_law_487 rfl ?_
  refine lv_bipush (v := 32) hx hb d_law_488 (by decide) ?_
  refine lv_lshl (v := ((xs (nI i + (3 : Int32)).toNatClampNeg).toInt64 <<< ((32 : Int32).toInt64 &&& 63))) hx hb d_law_490 rfl ?_
  refine lv_aload_n hx hb d_law_491 rfl (lv_at hl 3 rfl) ?_
  refine lv_iload_n hx hb d_law_492 rfl (lv_at hl 0 rfl) ?_
  refine lv_iconst (v := 4) hx hb d_law_493 (by decide) ?_
  refine lv_iadd hx hb d_law_494 ?_
  refine va_sld hx hb hX hbl hbA hS hin_4 d_law_495 ?_
  refine lv_i2l (v := (xs (nI i + (4 : Int32)).toNatClampNeg).toInt64) hx hb d_law_496 rfl ?_
  refine lv_ldc2 (v := 4294967295) hx hb hown (hg _ lm_120) d_law_497 ?_
  refine lv_land hx hb d_law_500 ?_
  refine lv_lor hx hb d_law_501 ?_
  refine lv_aload_n hx hb d_law_502 rfl (lv_at hl 3 rfl) ?_
  refine lv_iload_n hx hb d_law_503 rfl (lv_at hl 0 rfl) ?_
  refine lv_iconst (v := 5) hx hb d_law_504 (by decide) ?_
  refine lv_iadd hx hb d_law_505 ?_
  refine va_sld hx hb hX hbl hbA hS hin_5 d_law_506 ?_
  refine LCALL (n := 3) hx hb hml hown hg hE hgb lm_80 lm_81 lm_83 lm_2 lm_82 (by decide +kernel) (by decide) (w := wD G a d) (wr := wM G b mm) (ci := 6) rfl rfl rfl (As := [.long (((xs (nI i + (1 : Int32)).toNatClampNeg).toInt64 <<< ((32 : Int32).toInt64 &&& 63)) ||| ((xs (nI i + (2 : Int32)).toNatClampNeg).toInt64 &&& (4294967295 : Int64))), .long (((xs (nI i + (3 : Int32)).toNatClampNeg).toInt64 <<< ((32 : Int32).toInt64 &&& 63)) ||| ((xs (nI i + (4 : Int32)).toNatClampNeg).toInt64 &&& (4294967295 : Int64))), .int (xs (nI i + (5 : Int32)).toNatClampNeg)]) (rest := []) rfl (Nat.le_of_ble_eq_true rfl) hM1 (List.Perm.refl _) hP hD hS hl.1 d_law_507 (by omega) (by omega) rfl (fun w9 H locs hw9 hP hD hS => ?_)
  obtain ⟨d', rfl, hrl⟩ := hw9
  refine lv_aload_n hx hb d_law_510 rfl (lv_at hl 1 rfl) ?_
  refine lv_aload_n hx hb d_law_511 rfl (lv_at hl 3 rfl) ?_
  refine lv_iload_n hx hb d_law_512 rfl (lv_at hl 0 rfl) ?_
  refine lv_iconst (v := 1) hx hb d_law_513 (by decide) ?_
  refine lv_iadd hx hb d_law_514 ?_
  refine va_sld hx hb hX hbl hbA hS hin_1 d_law_515 ?_
  refine lv_i2l (v := (xs (nI i + (1 : Int32)).toNatClampNeg).toInt64) hx hb d_law_516 rfl ?_
  refine lv_bipush (v := 32) hx hb d_law_517 (by decide) ?_
  refine lv_lshl (v := ((xs (nI i + (1 : Int32)).toNatClampNeg).toInt64 <<< ((32 : Int32).toInt64 &&& 63))) hx hb d_law_519 rfl ?_
  refine lv_aload_n hx hb d_law_520 rfl (lv_at hl 3 rfl) ?_
  refine lv_iload_n hx hb d_law_521 rfl (lv_at hl 0 rfl) ?_
  refine lv_iconst (v := 2) hx hb d_law_522 (by decide) ?_
  refine lv_iadd hx hb d_law_523 ?_
  refine va_sld hx hb hX hbl hbA hS hin_2 d_law_524 ?_
  refine lv_i2l (v := (xs (nI i + (2 : Int32)).toNatClampNeg).toInt64) hx hb d_law_525 rfl ?_
  refine lv_ldc2 (v := 4294967295) hx hb hown (hg _ lm_120) d_law_526 ?_
  refine lv_land hx hb d_law_529 ?_
  refine lv_lor hx hb d_law_530 ?_
  refine lv_aload_n hx hb d_law_531 rfl (lv_at hl 3 rfl) ?_
  refine lv_iload_n hx hb d_law_532 rfl (lv_at hl 0 rfl) ?_
  refine lv_iconst (v := 3) hx hb d_law_533 (by decide) ?_
  refine lv_iadd hx hb d_law_534 ?_
  refine va_sld hx hb hX hbl hbA hS hin_3 d_law_535 ?_
  refine lv_i2l (v := (xs (nI i + (3 : Int32)).toNatClampNeg).toInt64) hx hb d_law_536 rfl ?_
  refine lv_bipush (v := 32) hx hb d_law_537 (by decide) ?_
  refine lv_lshl (v := ((xs (nI i + (3 : Int32)).toNatClampNeg).toInt64 <<< ((32 : Int32).toInt64 &&& 63))) hx hb d_law_539 rfl ?_
  refine lv_aload_n hx hb d_law_540 rfl (lv_at hl 3 rfl) ?_
  refine lv_iload_n hx hb d_law_541 rfl (lv_at hl 0 rfl) ?_
  refine lv_iconst (v := 4) hx hb d_law_542 (by decide) ?_
  refine lv_iadd hx hb d_law_543 ?_
  refine va_sld hx hb hX hbl hbA hS hin_4 d_law_544 ?_
  refine lv_i2l (v := (xs (nI i + (4 : Int32)).toNatClampNeg).toInt64) hx hb d_law_545 rfl ?_
  refine lv_ldc2 (v := 4294967295) hx hb hown (hg _ lm_120) d_law_546 ?_
  refine lv_land hx hb d_law_549 ?_
  refine lv_lor hx hb d_law_550 ?_
  refine lv_aload_n hx hb d_law_551 rfl (lv_at hl 3 rfl) ?_
  refine lv_iload_n hx hb d_law_552 rfl (lv_at hl 0 rfl) ?_
  refine lv_iconst (v := 5) hx hb d_law_553 (by decide) ?_
  refine lv_iadd hx hb d_law_554 ?_
  refine va_sld hx hb hX hbl hbA hS hin_5 d_law_555 ?_
  refine LCALL (n := 3) hx hb hml hown hg hE hgb lm_84 lm_85 lm_87 lm_6 lm_86 (by decide +kernel) (by decide) (w := wM G b mm) (wr := wD G a d') (ci := 7) rfl rfl rfl (As := [.long (((xs (nI i + (1 : Int32)).toNatClampNeg).toInt64 <<< ((32 : Int32).toInt64 &&& 63)) ||| ((xs (nI i + (2 : Int32)).toNatClampNeg).toInt64 &&& (4294967295 : Int64))), .long (((xs (nI i + (3 : Int32)).toNatClampNeg).toInt64 <<< ((32 : Int32).toInt64 &&& 63)) ||| ((xs (nI i + (4 : Int32)).toNatClampNeg).toInt64 &&& (4294967295 : Int64))), .int (xs (nI i + (5 : Int32)).toNatClampNeg)]) (rest := [.int v]) rfl (Nat.le_of_ble_eq_true rfl) hM2 List.perm_append_comm hP hD hS hl.1 d_law_556 (by omega) (by omega) rfl (fun w9 H locs hw9 hP hD hS => ?_)
  have hw9 : w9 = wM G b m' := hw9
  subst hw9
  refine lv_icmp_eq (tgt := 626) hx hb d_law_559 (by decide) (fun _ => ?_) (fun c9 => absurd rfl c9)
  exact W.widen (by omega) (by omega) (kk d' m' H locs hrl (hP.perm List.perm_append_comm) (hD.perm List.perm_append_comm) hS)
set_option maxRecDepth 100000 in
set_option maxHeartbeats 1000000 in
theorem arm_text {p : Program} {l : Launch} {e : Env} {s : State} {m : MethodId} {below : List Frame} {meth : Method} {c : Code} {b0 L : Nat} {xs : Nat → Int32} {G : Gt} (C0 : LC p s m c b0 L xs G) {a : QD} {b : QM} {d : DN} {mm : MN} (h : RL d mm) {i : Nat} (hi : i + 6 ≤ L) (hL : L ≤ 3072) {H : Heap} {locs : List Loc} {cells slots : Nat} {Q : State → Prop} {ls : Array Slot} (hl : lv_has ls 4 [(3, .int (nI i)), (2, .ref b.1), (1, .ref a.1), (0, .ref b0)]) (hP : va_P (gD G) vwCl (wD G a d ++ wM G b mm) H) (hD : va_D (fun q => s.heap.size ≤ q) (wD G a d ++ wM G b mm)) (hS : va_S (fun q => s.heap.size ≤ q) s.heap H locs) (hc : cells ≤ 500000) (hs : slots ≤ 7000000)
    (kk : ∀ (d' : DN) (m' : MN) (H1 : Heap) (locs1 : List Loc), RL d' m' → va_P (gD G) vwCl (wD G a d' ++ wM G b m') H1 → va_D (fun q => s.heap.size ≤ q) (wD G a d' ++ wM G b m') → va_S (fun q => s.heap.size ≤ q) s.heap H1 locs1 → W p l e room_1 s m #[Value.ref b0] below meth c H1 locs1 (cells + 2) (slots + 403) Q (F0 m 626 ls [])) : W p l e room_1 s m #[Value.ref b0] below meth c H locs cells slots Q (F0 m 564 ls []) := by
  obtain ⟨hx, hb, hml, hown, hg, hX, hbl, hE, hgb⟩ := C0
  have hbA : ¬ (fun q : Nat => s.heap.size ≤ q) b0 := Nat.not_le.mpr hbl
  have hin_1 : vp_in (nI i + (1 : Int32)) L := pk_in (i + 1) L (by omega) (nI_add i 1)
  have hin_2 : vp_in (nI i + (2 : Int32)) L := pk_in (i + 2) L (by omega) (nI_add i 2)
  have hin_3 : vp_in (nI i + (3 : Int32)) L := pk_in (i + 3) L (by omega) (nI_add i 3)
  have hin_4 : vp_in (nI i + (4 : Int32)) L := pk_in (i + 4) L (by omega) (nI_add i 4)
  have hin_5 : vp_in (nI i + (5 : Int32)) L := pk_in (i + 5) L (by omega) (nI_add i 5)
  obtain ⟨mc, ms, v, m', hmc, hms, hM1, hM2⟩ := q_text l G a b  h
  refine lv_aload_n hx hb d_law_564 rfl (lv_at hl 2 rfl) ?_
  refine LCALL (n := 0) hx hb hml hown hg hE hgb lm_88 lm_89 lm_91 lm_2 lm_90 (by decide +kernel) (by decide) (w := wD G a d) (wr := wM G b mm) (ci := 6) rfl rfl rfl (As := []) (rest := []) rfl (Nat.le_of_ble_eq_true rfl) hM1 (List.Perm.refl _) hP hD hS hl.1 d_law_565 (by omega) (by omega) rfl (fun w9 H locs hw9 hP hD hS => ?_)
  obtain ⟨d', rfl, hrl⟩ := hw9
  refine lv_aload_n hx hb d_law_568 rfl (lv_at hl 1 rfl) ?_
  refine LCALL (n := 0) hx hb hml hown hg hE hgb lm_92 lm_93 lm_95 lm_6 lm_94 (by decide +kernel) (by decide) (w := wM G b mm) (wr := wD G a d') (ci := 7) rfl rfl rfl (As := []) (rest := [.int v]) rfl (Nat.le_of_ble_eq_true rfl) hM2 List.perm_append_comm hP hD hS hl.1 d_law_569 (by omega) (by omega) rfl (fun w9 H locs hw9 hP hD hS => ?_)
  have hw9 : w9 = wM G b m' := hw9
  subst hw9
  refine lv_icmp_eq (tgt := 626) hx hb d_law_572 (by decide) (fun _ => ?_) (fun c9 => absurd rfl c9)
  exact W.widen (by omega) (by omega) (kk d' m' H locs hrl (hP.perm List.perm_append_comm) (hD.perm List.perm_append_comm) hS)
set_option maxRecDepth 100000 in
set_option maxHeartbeats 1000000 in
theorem arm_layOut {p : Program} {l : Launch} {e : Env} {s : State} {m : MethodId} {below : List Frame} {meth : Method} {c : Code} {b0 L : Nat} {xs : Nat → Int32} {G : Gt} (C0 : LC p s m c b0 L xs G) {a : QD} {b : QM} {d : DN} {mm : MN} (h : RL d mm) {i : Nat} (hi : i + 6 ≤ L) (hL : L ≤ 3072) {H : Heap} {locs : List Loc} {cells slots : Nat} {Q : State → Prop} {ls : Array Slot} (hl : lv_has ls 4 [(3, .int (nI i)), (2, .ref b.1), (1, .ref a.1), (0, .ref b0)]) (hP : va_P (gD G) vwCl (wD G a d ++ wM G b mm) H) (hD : va_D (fun q => s.heap.size ≤ q) (wD G a d ++ wM G b mm)) (hS : va_S (fun q => s.heap.size ≤ q) s.heap H locs) (hc : cells ≤ 500000) (hs : slots ≤ 7000000)
    (kk : ∀ (d' : DN) (m' : MN) (H1 : Heap) (locs1 : List Loc), RL d' m' → va_P (gD G) vwCl (wD G a d' ++ wM G b m') H1 → va_D (fun q => s.heap.size ≤ q) (wD G a d' ++ wM G b m') → va_S (fun q => s.heap.size ≤ q) s.heap H1 locs1 → W p l e room_1 s m #[Value.ref b0] below meth c H1 locs1 (cells + 2) (slots + 403) Q (F0 m 626 ls [])) : W p l e room_1 s m #[Value.ref b0] below meth c H locs cells slots Q (F0 m 577 ls []) := by
  obtain ⟨hx, hb, hml, hown, hg, hX, hbl, hE, hgb⟩ := C0
  have hbA : ¬ (fun q : Nat => s.heap.size ≤ q) b0 := Nat.not_le.mpr hbl
  have hin_1 : vp_in (nI i + (1 : Int32)) L := pk_in (i + 1) L (by omega) (nI_add i 1)
  have hin_2 : vp_in (nI i + (2 : Int32)) L := pk_in (i + 2) L (by omega) (nI_add i 2)
  have hin_3 : vp_in (nI i + (3 : Int32)) L := pk_in (i + 3) L (by omega) (nI_add i 3)
  have hin_4 : vp_in (nI i + (4 : Int32)) L := pk_in (i + 4) L (by omega) (nI_add i 4)
  have hin_5 : vp_in (nI i + (5 : Int32)) L := pk_in (i + 5) L (by omega) (nI_add i 5)
  obtain ⟨mc, ms, v, m', hmc, hms, hM1, hM2⟩ := q_layOut l G a b  h
  refine lv_aload_n hx hb d_law_577 rfl (lv_at hl 2 rfl) ?_
  refine LCALL (n := 0) hx hb hml hown hg hE hgb lm_96 lm_97 lm_99 lm_2 lm_98 (by decide +kernel) (by decide) (w := wD G a d) (wr := wM G b mm) (ci := 6) rfl rfl rfl (As := []) (rest := []) rfl (Nat.le_of_ble_eq_true rfl) hM1 (List.Perm.refl _) hP hD hS hl.1 d_law_578 (by omega) (by omega) rfl (fun w9 H locs hw9 hP hD hS => ?_)
  obtain ⟨d', rfl, hrl⟩ := hw9
  refine lv_aload_n hx hb d_law_581 rfl (lv_at hl 1 rfl) ?_
  refine LCALL (n := 0) hx hb hml hown hg hE hgb lm_100 lm_101 lm_103 lm_6 lm_102 (by decide +kernel) (by decide) (w := wM G b mm) (wr := wD G a d') (ci := 7) rfl rfl rfl (As := []) (rest := [.int v]) rfl (Nat.le_of_ble_eq_true rfl) hM2 List.perm_append_comm hP hD hS hl.1 d_law_582 (by omega) (by omega) rfl (fun w9 H locs hw9 hP hD hS => ?_)
  have hw9 : w9 = wM G b m' := hw9
  subst hw9
  refine lv_icmp_eq (tgt := 626) hx hb d_law_585 (by decide) (fun _ => ?_) (fun c9 => absurd rfl c9)
  exact W.widen (by omega) (by omega) (kk d' m' H locs hrl (hP.perm List.perm_append_comm) (hD.perm List.perm_append_comm) hS)
set_option maxRecDepth 100000 in
set_option maxHeartbeats 1000000 in
theorem arm_length {p : Program} {l : Launch} {e : Env} {s : State} {m : MethodId} {below : List Frame} {meth : Method} {c : Code} {b0 L : Nat} {xs : Nat → Int32} {G : Gt} (C0 : LC p s m c b0 L xs G) {a : QD} {b : QM} {d : DN} {mm : MN} (h : RL d mm) {i : Nat} (hi : i + 6 ≤ L) (hL : L ≤ 3072) {H : Heap} {locs : List Loc} {cells slots : Nat} {Q : State → Prop} {ls : Array Slot} (hl : lv_has ls 4 [(3, .int (nI i)), (2, .ref b.1), (1, .ref a.1), (0, .ref b0)]) (hP : va_P (gD G) vwCl (wD G a d ++ wM G b mm) H) (hD : va_D (fun q => s.heap.size ≤ q) (wD G a d ++ wM G b mm)) (hS : va_S (fun q => s.heap.size ≤ q) s.heap H locs) (hc : cells ≤ 500000) (hs : slots ≤ 7000000)
    (kk : ∀ (d' : DN) (m' : MN) (H1 : Heap) (locs1 : List Loc), RL d' m' → va_P (gD G) vwCl (wD G a d' ++ wM G b m') H1 → va_D (fun q => s.heap.size ≤ q) (wD G a d' ++ wM G b m') → va_S (fun q => s.heap.size ≤ q) s.heap H1 locs1 → W p l e room_1 s m #[Value.ref b0] below meth c H1 locs1 (cells + 2) (slots + 403) Q (F0 m 626 ls [])) : W p l e room_1 s m #[Value.ref b0] below meth c H locs cells slots Q (F0 m 590 ls []) := by
  obtain ⟨hx, hb, hml, hown, hg, hX, hbl, hE, hgb⟩ := C0
  have hbA : ¬ (fun q : Nat => s.heap.size ≤ q) b0 := Nat.not_le.mpr hbl
  have hin_1 : vp_in (nI i + (1 : Int32)) L := pk_in (i + 1) L (by omega) (nI_add i 1)
  have hin_2 : vp_in (nI i + (2 : Int32)) L := pk_in (i + 2) L (by omega) (nI_add i 2)
  have hin_3 : vp_in (nI i + (3 : Int32)) L := pk_in (i + 3) L (by omega) (nI_add i 3)
  have hin_4 : vp_in (nI i + (4 : Int32)) L := pk_in (i + 4) L (by omega) (nI_add i 4)
  have hin_5 : vp_in (nI i + (5 : Int32)) L := pk_in (i + 5) L (by omega) (nI_add i 5)
  obtain ⟨mc, ms, v, m', hmc, hms, hM1, hM2⟩ := q_length l G a b  h
  refine lv_aload_n hx hb d_law_590 rfl (lv_at hl 2 rfl) ?_
  refine LCALL (n := 0) hx hb hml hown hg hE hgb lm_104 lm_105 lm_107 lm_2 lm_106 (by decide +kernel) (by decide) (w := wD G a d) (wr := wM G b mm) (ci := 6) rfl rfl rfl (As := []) (rest := []) rfl (Nat.le_of_ble_eq_true rfl) hM1 (List.Perm.refl _) hP hD hS hl.1 d_law_591 (by omega) (by omega) rfl (fun w9 H locs hw9 hP hD hS => ?_)
  obtain ⟨d', rfl, hrl⟩ := hw9
  refine lv_aload_n hx hb d_law_594 rfl (lv_at hl 1 rfl) ?_
  refine LCALL (n := 0) hx hb hml hown hg hE hgb lm_108 lm_109 lm_111 lm_6 lm_110 (by decide +kernel) (by decide) (w := wM G b mm) (wr := wD G a d') (ci := 7) rfl rfl rfl (As := []) (rest := [.int v]) rfl (Nat.le_of_ble_eq_true rfl) hM2 List.perm_append_comm hP hD hS hl.1 d_law_595 (by omega) (by omega) rfl (fun w9 H locs hw9 hP hD hS => ?_)
  have hw9 : w9 = wM G b m' := hw9
  subst hw9
  refine lv_icmp_eq (tgt := 626) hx hb d_law_598 (by decide) (fun _ => ?_) (fun c9 => absurd rfl c9)
  exact W.widen (by omega) (by omega) (kk d' m' H locs hrl (hP.perm List.perm_append_comm) (hD.perm List.perm_append_comm) hS)
set_option maxRecDepth 100000 in
set_option maxHeartbeats 1000000 in
theorem arm_characterAt {p : Program} {l : Launch} {e : Env} {s : State} {m : MethodId} {below : List Frame} {meth : Method} {c : Code} {b0 L : Nat} {xs : Nat → Int32} {G : Gt} (C0 : LC p s m c b0 L xs G) {a : QD} {b : QM} {d : DN} {mm : MN} (h : RL d mm) {i : Nat} (hi : i + 6 ≤ L) (hL : L ≤ 3072) {H : Heap} {locs : List Loc} {cells slots : Nat} {Q : State → Prop} {ls : Array Slot} (hl : lv_has ls 4 [(3, .int (nI i)), (2, .ref b.1), (1, .ref a.1), (0, .ref b0)]) (hP : va_P (gD G) vwCl (wD G a d ++ wM G b mm) H) (hD : va_D (fun q => s.heap.size ≤ q) (wD G a d ++ wM G b mm)) (hS : va_S (fun q => s.heap.size ≤ q) s.heap H locs) (hc : cells ≤ 500000) (hs : slots ≤ 7000000)
    (kk : ∀ (d' : DN) (m' : MN) (H1 : Heap) (locs1 : List Loc), RL d' m' → va_P (gD G) vwCl (wD G a d' ++ wM G b m') H1 → va_D (fun q => s.heap.size ≤ q) (wD G a d' ++ wM G b m') → va_S (fun q => s.heap.size ≤ q) s.heap H1 locs1 → W p l e room_1 s m #[Value.ref b0] below meth c H1 locs1 (cells + 2) (slots + 403) Q (F0 m 626 ls [])) : W p l e room_1 s m #[Value.ref b0] below meth c H locs cells slots Q (F0 m 603 ls []) := by
  obtain ⟨hx, hb, hml, hown, hg, hX, hbl, hE, hgb⟩ := C0
  have hbA : ¬ (fun q : Nat => s.heap.size ≤ q) b0 := Nat.not_le.mpr hbl
  have hin_1 : vp_in (nI i + (1 : Int32)) L := pk_in (i + 1) L (by omega) (nI_add i 1)
  have hin_2 : vp_in (nI i + (2 : Int32)) L := pk_in (i + 2) L (by omega) (nI_add i 2)
  have hin_3 : vp_in (nI i + (3 : Int32)) L := pk_in (i + 3) L (by omega) (nI_add i 3)
  have hin_4 : vp_in (nI i + (4 : Int32)) L := pk_in (i + 4) L (by omega) (nI_add i 4)
  have hin_5 : vp_in (nI i + (5 : Int32)) L := pk_in (i + 5) L (by omega) (nI_add i 5)
  obtain ⟨mc, ms, v, m', hmc, hms, hM1, hM2⟩ := q_characterAt l G a b (xs (nI i + (1 : Int32)).toNatClampNeg) h
  refine lv_aload_n hx hb d_law_603 rfl (lv_at hl 2 rfl) ?_
  refine lv_aload_n hx hb d_law_604 rfl (lv_at hl 3 rfl) ?_
  refine lv_iload_n hx hb d_law_605 rfl (lv_at hl 0 rfl) ?_
  refine lv_iconst (v := 1) hx hb d_law_606 (by decide) ?_
  refine lv_iadd hx hb d_law_607 ?_
  refine va_sld hx hb hX hbl hbA hS hin_1 d_law_608 ?_
  refine LCALL (n := 1) hx hb hml hown hg hE hgb lm_112 lm_113 lm_115 lm_2 lm_114 (by decide +kernel) (by decide) (w := wD G a d) (wr := wM G b mm) (ci := 6) rfl rfl rfl (As := [.int (xs (nI i + (1 : Int32)).toNatClampNeg)]) (rest := []) rfl (Nat.le_of_ble_eq_true rfl) hM1 (List.Perm.refl _) hP hD hS hl.1 d_law_609 (by omega) (by omega) rfl (fun w9 H locs hw9 hP hD hS => ?_)
  obtain ⟨d', rfl, hrl⟩ := hw9
  refine lv_aload_n hx hb d_law_612 rfl (lv_at hl 1 rfl) ?_
  refine lv_aload_n hx hb d_law_613 rfl (lv_at hl 3 rfl) ?_
  refine lv_iload_n hx hb d_law_614 rfl (lv_at hl 0 rfl) ?_
  refine lv_iconst (v := 1) hx hb d_law_615 (by decide) ?_
  refine lv_iadd hx hb d_law_616 ?_
  refine va_sld hx hb hX hbl hbA hS hin_1 d_law_617 ?_
  refine LCALL (n := 1) hx hb hml hown hg hE hgb lm_116 lm_117 lm_119 lm_6 lm_118 (by decide +kernel) (by decide) (w := wM G b mm) (wr := wD G a d') (ci := 7) rfl rfl rfl (As := [.int (xs (nI i + (1 : Int32)).toNatClampNeg)]) (rest := [.int v]) rfl (Nat.le_of_ble_eq_true rfl) hM2 List.perm_append_comm hP hD hS hl.1 d_law_618 (by omega) (by omega) rfl (fun w9 H locs hw9 hP hD hS => ?_)
  have hw9 : w9 = wM G b m' := hw9
  subst hw9
  refine lv_icmp_eq (tgt := 626) hx hb d_law_621 (by decide) (fun _ => ?_) (fun c9 => absurd rfl c9)
  exact W.widen (by omega) (by omega) (kk d' m' H locs hrl (hP.perm List.perm_append_comm) (hD.perm List.perm_append_comm) hS)
