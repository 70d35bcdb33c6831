abbrev LY : Type := Int32 × Int32 × Int32 × Int32 × (Nat → Int32) × Int32 × Int32 × (Nat → Int32) × Int32 × Int32 × (Nat → Int32) × Int32 × Int32 × (Nat → Int32) × (Nat → Int32) × Int64 × Int32 × Int32
def lyD (o : Option LY) (Lr Q : List Nat) (Rb : Int32) : Prop := ∃ s : LY, o = some s ∧ rsD (s.2.2.1, s.2.2.2.1, s.2.2.2.2.1) Lr Q Rb
def upG (g : Bool) (L : List Nat) : List Nat := if g = true then L.map upc else L
def ctL (t : Bool) (pz : Int) (L : List Nat) : List Nat := if t = true ∧ 0 ≤ pz then L.take pz.toNat else L
theorem row_take {n : Nat} {f : Nat → Int32} {u : Int32} {L : List Nat} (h : rowOK n f u L) (k : Nat) : rowOK n f (nI (L.take k).length) (L.take k) := by
  obtain ⟨h1, h2, h3, h4, h5⟩ := h
  have hl : (L.take k).length ≤ L.length := by rw [List.length_take]; omega
  refine ⟨rfl, by omega, h3, fun c hc => h4 c (List.mem_of_mem_take hc), fun j hj => ?_⟩
  rw [h5 j (by omega)]
  congr 1
  have hk : j < k := by rw [List.length_take] at hj; omega
  rw [List.getD_eq_getElem?_getD, List.getD_eq_getElem?_getD, List.getElem?_take_of_lt hk]
theorem ro_cut {n : Nat} {f : Nat → Int32} {u : Int32} {L : List Nat} (h : rowOK n f u L) {pz : Int} (hp : -1 ≤ pz ∧ pz ≤ 1000) : ∃ u', f_Row_cutTo u (iI pz) = some u' ∧ rowOK n f u' (ctL true pz L) := by
  have hu := h.1
  have hn : L.length < 2 ^ 31 := by have := h.2.1; have := h.2.2.1; omega
  unfold f_Row_cutTo
  by_cases h0 : 0 ≤ pz
  · rw [show ctL true pz L = L.take pz.toNat from if_pos ⟨rfl, h0⟩]
    by_cases hl : L.length ≤ pz.toNat
    · refine ⟨u, ifn (inlt pz 0 h0) (ifp ?_ rfl), ?_⟩
      · rw [hu, ← iI_nat]
        exact ile (L.length : Int) pz (by omega)
      · rw [List.take_of_length_le hl]
        exact h
    · have e : (L.take pz.toNat).length = pz.toNat := by rw [List.length_take]; omega
      refine ⟨nI (L.take pz.toNat).length, ifn (inlt pz 0 h0) (ifn ?_ ?_), row_take h _⟩
      · rw [hu, ← iI_nat]
        exact inle (L.length : Int) pz (by omega)
      · rw [e, ← iI_nat, show ((pz.toNat : Nat) : Int) = pz by omega]
  · rw [show ctL true pz L = L from if_neg (fun z => h0 z.2)]
    exact ⟨u, ifp (ilt pz 0 (by omega)) rfl, h⟩
def dsk (fl : Int32) (wz pz : Int) (great t : Bool) (Ru Rb : Int32) (Rc : Nat → Int32) (o : Option LY) (hd bd : List Nat) (cl zf : Bool) : Prop :=
  ∃ (Hc Bc lim dc : Nat → Int32) (Hu hb Bu bb du dlo xe xd : Int32) (xm : Int64), o = k_Composer_layArgumentn_259 5000 fl (iI wz) (iI pz) (bI great) 4000 4 1800 (bI t) (bI cl) (bI zf) Ru Rb Rc Hu hb Hc Bu bb Bc du dlo lim dc xm xe xd ∧ rowOK 4 Hc Hu hd ∧ rowOK 1800 Bc Bu bd
theorem dsk_lyD {fl : Int32} {wz pz : Int} {great t : Bool} {Ru Rb : Int32} {Rc : Nat → Int32} {o : Option LY} {hd bd : List Nat} {cl zf : Bool} (h : dsk fl wz pz great t Ru Rb Rc o hd bd cl zf) {Lr : List Nat} (hR : rowOK 4000 Rc Ru Lr) (hw : -1 ≤ wz ∧ wz ≤ 1000) (hp : -1 ≤ pz ∧ pz ≤ 1000) : lyD o Lr (upG great (layL hd (ctL t pz bd) cl zf (hA fl 1) wz.toNat)) Rb := by
  obtain ⟨Hc, Bc, lim, dc, Hu, hb, Bu, bb, du, dlo, xe, xd, xm, e, hH, hB⟩ := h
  have key : ∀ (Bu' : Int32) (bd' : List Nat), rowOK 1800 Bc Bu' bd' → lyD (k_Composer_layArgumentn_277 5000 fl (iI wz) (bI great) 4000 4 1800 (bI cl) (bI zf) Ru Rb Rc Hu hb Hc Bu' bb Bc du dlo lim dc xm xe xd) Lr (upG great (layL hd bd' cl zf (hA fl 1) wz.toNat)) Rb := by
    intro Bu' bd' hB'
    obtain ⟨s, s1, s2⟩ := cp_put (b0 := Rb) hR hH hB' hH.2.1 hB'.2.1 cl zf fl great hw
    unfold k_Composer_layArgumentn_277
    exact ⟨_, bnd s1 rfl, s2⟩
  rw [e]
  cases t with
  | false =>
    obtain ⟨s, s1, s2⟩ := key Bu bd hB
    unfold k_Composer_layArgumentn_259
    exact ⟨s, ifp rfl s1, by rw [show ctL false pz bd = bd from if_neg (fun z => by cases z.1)]; exact s2⟩
  | true =>
    obtain ⟨u', c1, c2⟩ := ro_cut hB hp
    obtain ⟨s, s1, s2⟩ := key u' _ c2
    unfold k_Composer_layArgumentn_259
    exact ⟨s, ifn (by decide) (bnd c1 s1), s2⟩
def asT (s : Nat) : Bool := decide (s = 98 ∨ s = 115)
theorem cp_start (fl : Int32) : f_Composer_start fl = some (0, bI (hA fl 16), 0, 0, 0, 0) := by
  unfold f_Composer_start
  exact bnd (u := ((0 : Int32), (0 : Int32))) rfl (bnd (u := ((0 : Int32), (0 : Int32))) rfl (bnd (sp_any fl 16) rfl))
theorem de_enter {s : Nat} (hs : s < 128) (fl w p g : Int32) (Ru Rb : Int32) (Rc Hc Bc lim dc : Nat → Int32) (du dlo xe xd : Int32) (xm : Int64) (ws : Nat → Int64) (k : Nat) (mi : Int32) (bits : Int64) (lo : Int32) : f_Composer_layArgumentn 5000 fl w p (nI s) g 4000 Rc Ru Rb 4 Hc 1800 Bc lim dc du dlo xm xe xd ws k mi bits lo = k_Composer_layArgumentn_29 5000 fl w p (nI s) g 4000 4 1800 ws k mi bits lo (nI s) (bI (asT s)) 0 (bI (hA fl 16)) Ru Rb Rc 0 0 Hc 0 0 Bc du dlo lim dc xm xe xd := by
  unfold f_Composer_layArgumentn asT
  refine bnd (cp_start fl) ?_
  by_cases h1 : s = 98
  · rw [show decide (s = 98 ∨ s = 115) = true from decide_eq_true (Or.inl h1)]
    exact ifp (qeq 98 h1) rfl
  · by_cases h2 : s = 115
    · rw [show decide (s = 98 ∨ s = 115) = true from decide_eq_true (Or.inr h2)]
      exact ifn (qne 98 h1) (ifp (qeq 115 h2) rfl)
    · rw [show decide (s = 98 ∨ s = 115) = false from decide_eq_false (by omega)]
      exact ifn (qne 98 h1) (ifn (qne 115 h2) rfl)
theorem de_go {k V : Nat} (hk : k ≠ 0) (hV : V < 2 ^ 64) {t : Bool} (ht : t = true ∨ ¬ (k = 6 ∧ V / 2 ^ 52 % 2048 = 2047)) (fl w p cv g : Int32) (Ru Rb : Int32) (Rc Hc Bc lim dc : Nat → Int32) (du dlo xe xd : Int32) (xm : Int64) (ws : Nat → Int64) (mi lo x2 BO ZF Hu hb Bu bb : Int32) : k_Composer_layArgumentn_29 5000 fl w p cv g 4000 4 1800 ws k mi (lN V) lo x2 (bI t) BO ZF Ru Rb Rc Hu hb Hc Bu bb Bc du dlo lim dc xm xe xd = k_Composer_layArgumentn_108 5000 fl w p cv g 4000 4 1800 ws k mi (lN V) lo x2 (bI t) BO ZF Ru Rb Rc Hu hb Hc Bu bb Bc du dlo lim dc xm xe xd := by
  have h80 : k_Composer_layArgumentn_80 5000 fl w p cv g 4000 4 1800 ws k mi (lN V) lo x2 (bI t) BO ZF Ru Rb Rc Hu hb Hc Bu bb Bc du dlo lim dc xm xe xd = k_Composer_layArgumentn_108 5000 fl w p cv g 4000 4 1800 ws k mi (lN V) lo x2 (bI t) BO ZF Ru Rb Rc Hu hb Hc Bu bb Bc du dlo lim dc xm xe xd := by
    unfold k_Composer_layArgumentn_80
    refine bnd (ar_beyond hV k) ?_
    by_cases hb : k = 6 ∧ V / 2 ^ 52 % 2048 = 2047
    · rw [decide_eq_true hb.1, decide_eq_true hb.2]
      rcases ht with ht | ht
      · subst ht
        exact ifn (by decide) (ifn (by decide) rfl)
      · exact absurd hb ht
    · have e : (decide (k = 6) && decide (V / 2 ^ 52 % 2048 = 2047)) = false := by
        by_cases h6 : k = 6
        · rw [decide_eq_false (fun z => hb ⟨h6, z⟩), Bool.and_false]
        · rw [decide_eq_false h6, Bool.false_and]
      rw [e]
      exact ifp rfl rfl
  unfold k_Composer_layArgumentn_29
  refine ifn hk (bnd (ar_none hV k) ?_)
  by_cases hb : k = 6 ∧ V / 2 ^ 52 % 2048 = 2047
  · rcases ht with ht | ht
    · subst ht
      cases ((decide (k = 6) && decide (V / 2 ^ 52 % 2048 = 2047)) && !decide (V % 2 ^ 52 = 0)) with
      | false => exact ifp rfl h80
      | true => exact ifn (by decide) (ifn (by decide) h80)
    · exact absurd hb ht
  · have e : (decide (k = 6) && decide (V / 2 ^ 52 % 2048 = 2047)) = false := by
      by_cases h6 : k = 6
      · rw [decide_eq_false (fun z => hb ⟨h6, z⟩), Bool.and_false]
      · rw [decide_eq_false h6, Bool.false_and]
    rw [e, Bool.false_and]
    exact ifp rfl h80
theorem wrd_5 : wrd 5 = [110, 117, 108, 108] := by decide +kernel
theorem wrd_6 : wrd 6 = [78, 97, 78] := by decide +kernel
theorem wrd_7 : wrd 7 = [73, 110, 102, 105, 110, 105, 116, 121] := by decide +kernel
theorem rowH (f : Nat → Int32) : rowOK 4 f 0 [] := row0 (by omega) f
theorem rowB (f : Nat → Int32) : rowOK 1800 f 0 [] := row0 (by omega) f
theorem de_nothing {s : Nat} (hs : s < 128) (fl : Int32) (wz pz : Int) (great : Bool) (Ru Rb : Int32) (Rc Hc Bc lim dc : Nat → Int32) (du dlo xe xd : Int32) (xm : Int64) (ws : Nat → Int64) (mi : Int32) (bits : Int64) (lo : Int32) : dsk fl wz pz great (asT s) Ru Rb Rc (f_Composer_layArgumentn 5000 fl (iI wz) (iI pz) (nI s) (bI great) 4000 Rc Ru Rb 4 Hc 1800 Bc lim dc du dlo xm xe xd ws 0 mi bits lo) [] (if s = 98 then [102, 97, 108, 115, 101] else [110, 117, 108, 108]) false false := by
  by_cases h : s = 98
  · rw [if_pos h]
    obtain ⟨r, r1, r2⟩ := ro_word (t := 4) 0 (rowB Bc) (by decide) (by rw [wrd_4]; decide)
    rw [wrd_4] at r2
    refine ⟨Hc, r.2.2, lim, dc, 0, 0, r.1, r.2.1, du, dlo, xe, xd, xm, ?_, rowH Hc, r2⟩
    rw [de_enter hs]
    unfold k_Composer_layArgumentn_29 k_Composer_layArgumentn_54 f_Composer_setUnfilled
    exact ifp rfl (ifp (qeq 98 h) (bnd (bnd r1 rfl) rfl))
  · rw [if_neg h]
    obtain ⟨r, r1, r2⟩ := ro_word (t := 5) 0 (rowB Bc) (by decide) (by rw [wrd_5]; decide)
    rw [wrd_5] at r2
    refine ⟨Hc, r.2.2, lim, dc, 0, 0, r.1, r.2.1, du, dlo, xe, xd, xm, ?_, rowH Hc, r2⟩
    rw [de_enter hs]
    unfold k_Composer_layArgumentn_29 k_Composer_layArgumentn_54 f_Composer_setUnfilled
    exact ifp rfl (ifn (qne 98 h) (bnd (bnd r1 rfl) rfl))
theorem de_b {k V : Nat} (hk : k ≠ 0) (hV : V < 2 ^ 64) (fl : Int32) (wz pz : Int) (great : Bool) (Ru Rb : Int32) (Rc Hc Bc lim dc : Nat → Int32) (du dlo xe xd : Int32) (xm : Int64) (ws : Nat → Int64) (mi lo : Int32) {is : Bool} (h1 : k = 1 → ws 0 = lN (if is = true then 1 else 0)) : dsk fl wz pz great true Ru Rb Rc (f_Composer_layArgumentn 5000 fl (iI wz) (iI pz) (nI 98) (bI great) 4000 Rc Ru Rb 4 Hc 1800 Bc lim dc du dlo xm xe xd ws k mi (lN V) lo) [] (trL (!decide (k = 1) || is)) false (hA fl 16) := by
  obtain ⟨r, r1, r2⟩ := cp_truth (!decide (k = 1) || is) 0 (rowB Bc) (by decide)
  refine ⟨Hc, r.2.2, lim, dc, 0, 0, r.1, r.2.1, du, dlo, xe, xd, xm, ?_, rowH Hc, r2⟩
  rw [de_enter (by omega), show asT 98 = true from rfl, de_go hk hV (Or.inl rfl)]
  unfold k_Composer_layArgumentn_108
  refine ifn (by decide) (ifp (by decide) ?_)
  have fin : k_Composer_layArgumentn_195 5000 fl (iI wz) (iI pz) (bI great) 4000 4 1800 (bI true) (bI (!decide (k = 1) || is)) 0 (bI (hA fl 16)) Ru Rb Rc 0 0 Hc 0 0 Bc du dlo lim dc xm xe xd = k_Composer_layArgumentn_259 5000 fl (iI wz) (iI pz) (bI great) 4000 4 1800 (bI true) (bI false) (bI (hA fl 16)) Ru Rb Rc 0 0 Hc r.1 r.2.1 r.2.2 du dlo lim dc xm xe xd := by
    unfold k_Composer_layArgumentn_195
    exact bnd r1 rfl
  by_cases h : k = 1
  · rw [decide_eq_true h, Bool.not_true, Bool.false_or] at fin
    refine ifp h (ifp (by decide) ?_)
    rw [show ((0 : Int32).toNatClampNeg) = 0 from rfl, h1 h]
    cases is with
    | true => exact ifn (by decide) fin
    | false => exact ifp (by decide) fin
  · rw [decide_eq_false h, Bool.not_false, Bool.true_or] at fin
    exact ifn h fin
theorem de_c {k V c : Nat} (hk : k ≠ 0) (hk6 : k ≠ 6) (hV : V < 2 ^ 64) (hc : c < 128) (fl : Int32) (wz pz : Int) (great : Bool) (Ru Rb : Int32) (Rc Hc Bc lim dc : Nat → Int32) (du dlo xe xd : Int32) (xm : Int64) (ws : Nat → Int64) (mi lo : Int32) (h1 : ws 0 = lN c) : dsk fl wz pz great false Ru Rb Rc (f_Composer_layArgumentn 5000 fl (iI wz) (iI pz) (nI 99) (bI great) 4000 Rc Ru Rb 4 Hc 1800 Bc lim dc du dlo xm xe xd ws k mi (lN V) lo) [] [c] false (hA fl 16) := by
  obtain ⟨r, r1, r2⟩ := ro_add 0 (rowB Bc) hc (by decide)
  refine ⟨Hc, r.2.2, lim, dc, 0, 0, r.1, r.2.1, du, dlo, xe, xd, xm, ?_, rowH Hc, r2⟩
  rw [de_enter (by omega), show asT 99 = false from rfl, de_go hk hV (Or.inr (fun z => hk6 z.1))]
  unfold k_Composer_layArgumentn_108
  refine ifn (by decide) (ifn (by decide) (ifp (by decide) (ifp (by decide) ?_)))
  rw [show ((0 : Int32).toNatClampNeg) = 0 from rfl, h1, lN_i]
  exact bnd r1 rfl
theorem cp_dec_entry {s : Nat} (hs : s = 100 ∨ s = 101 ∨ s = 102 ∨ s = 103) {k V : Nat} (hk : k ≠ 0) (hV : V < 2 ^ 64) (hfin : ¬ (k = 6 ∧ V / 2 ^ 52 % 2048 = 2047)) (fl : Int32) (wz pz : Int) (great : Bool) (Ru Rb : Int32) (Rc Hc Bc lim dc : Nat → Int32) (du dlo xe xd : Int32) (xm : Int64) (ws : Nat → Int64) (mi lo : Int32) {X : Option LY} (h : ((f_Composer_setDecimal 5000 0 fl (iI pz) (nI s) 4 Hc 0 0 1800 Bc 0 0 lim dc du dlo ws k mi lo).bind fun u_256 => k_Composer_layArgumentn_259 5000 fl (iI wz) (iI pz) (bI great) 4000 4 1800 (bI false) u_256.1 (bI (hA fl 16)) Ru Rb Rc u_256.2.1 u_256.2.2.1 u_256.2.2.2.1 u_256.2.2.2.2.1 u_256.2.2.2.2.2.1 u_256.2.2.2.2.2.2.1 u_256.2.2.2.2.2.2.2.1 u_256.2.2.2.2.2.2.2.2.1 u_256.2.2.2.2.2.2.2.2.2.1 u_256.2.2.2.2.2.2.2.2.2.2 xm xe xd) = X) : (f_Composer_layArgumentn 5000 fl (iI wz) (iI pz) (nI s) (bI great) 4000 Rc Ru Rb 4 Hc 1800 Bc lim dc du dlo xm xe xd ws k mi (lN V) lo) = X := by
  rw [de_enter (by omega), show asT s = false from decide_eq_false (by omega), de_go hk hV (Or.inr hfin)]
  unfold k_Composer_layArgumentn_108
  exact ifn (qne 97 (by omega)) (ifn (qne 98 (by omega)) (ifn (qne 99 (by omega)) (ifn (qne 111 (by omega)) (ifn (qne 115 (by omega)) (ifn (qne 120 (by omega)) h)))))
theorem nd_sz (ws : Nat → Int64) : nd 10 (SZ ws) < 160 := by
  have h : SZ ws < (2 ^ 64) ^ 8 := vl_lt (by decide) (fun i _ => wN_lt ws i)
  have h2 : (2 ^ 64) ^ 8 ≤ 10 ^ 159 := by decide +kernel
  have := nd_le (b := 10) (n := 159) (by omega) (Nat.lt_of_lt_of_le h h2)
  omega
theorem cp_d {N : Nat} {u' : Int32} {f' : Nat → Int32} (t2 : dgOK 10 f' u' N) (fl BO s2 s3 : Int32) (s4 Bc lim' : Nat → Int32) : ∃ r : Int32 × Int32 × (Nat → Int32), (∀ x : Int32, k_Composer_setDecimal_41 5000 fl (nI 100) 1800 x BO s2 s3 s4 0 0 Bc u' 0 lim' f' = some (BO, s2, s3, s4, r.1, r.2.1, r.2.2, u', 0, lim', f')) ∧ rowOK 1800 r.2.2 r.1 (whL 10 N (hA fl 32)) := by
  have hnd := t2.2.1
  have hE : (frs 10 N 0).toNat ≤ 208 := by rw [frs_nn (by omega)]; omega
  obtain ⟨r, r1, r2⟩ := cp_whole (lo := 0) (n := 1800) (by omega) t2 (by omega) (hA fl 32) 0 (rowB Bc) (by show 0 + _ + 1 + _ ≤ 1800; omega)
  refine ⟨r, fun x => ?_, r2⟩
  unfold k_Composer_setDecimal_41
  exact ifp (by decide) (bnd (sp_any fl 32) (bnd r1 rfl))
theorem de_d {k V : Nat} (hk : k ≠ 0) (hk6 : k ≠ 6) (hV : V < 2 ^ 64) (fl : Int32) (wz pz : Int) (great : Bool) (Ru Rb : Int32) (Rc Hc Bc lim dc : Nat → Int32) (du dlo xe xd : Int32) (xm : Int64) (ws : Nat → Int64) {mi : Int32} {below : Bool} (hbz : f_Argument_isBelowZero 5000 ws k mi = some (bI below)) : dsk fl wz pz great false Ru Rb Rc (f_Composer_layArgumentn 5000 fl (iI wz) (iI pz) (nI 100) (bI great) 4000 Rc Ru Rb 4 Hc 1800 Bc lim dc du dlo xm xe xd ws k mi (lN V) 0) (sgn below fl) (whL 10 (SZ ws) (hA fl 32)) (below && hA fl 64) (hA fl 16) := by
  obtain ⟨⟨s1, s2, s3, s4⟩, e0, e1, e2⟩ := cp_sign (n := 4) (by omega) below fl 0 (rowH Hc)
  have e1 : s1 = bI (below && hA fl 64) := e1
  subst e1
  obtain ⟨u', lim', f', t1, t2⟩ := dg_take (b := 10) (A := 9) (Or.inl ⟨rfl, rfl⟩) lim dc du dlo ws 0
  obtain ⟨r, k41, r2⟩ := cp_d t2 fl (bI (below && hA fl 64)) s2 s3 s4 Bc lim'
  have sd : f_Composer_setDecimal 5000 0 fl (iI pz) (nI 100) 4 Hc 0 0 1800 Bc 0 0 lim dc du dlo ws k mi 0 = some (bI (below && hA fl 64), s2, s3, s4, r.1, r.2.1, r.2.2, u', 0, lim', f') := by
    unfold f_Composer_setDecimal
    refine bnd hbz (bnd e0 (bnd t1 ?_))
    by_cases h : pz = -1
    · exact ifp (ieq pz (-1) h) (k41 _)
    · by_cases h2 : iI pz = -1
      · exact ifp h2 (k41 _)
      · exact ifn h2 (k41 _)
  exact ⟨s4, r.2.2, lim', f', s2, s3, r.1, r.2.1, u', 0, xe, xd, xm, cp_dec_entry (Or.inl rfl) hk hV (fun z => hk6 z.1) fl wz pz great Ru Rb Rc Hc Bc lim dc du dlo xe xd xm ws mi 0 (bnd sd rfl), e2, r2⟩
theorem de_efg {s : Nat} (hs : s = 101 ∨ s = 102 ∨ s = 103) {k V : Nat} (hk : k ≠ 0) (hV : V < 2 ^ 64) (hfin : ¬ (k = 6 ∧ V / 2 ^ 52 % 2048 = 2047)) (fl : Int32) (wz pz : Int) (great : Bool) (Ru Rb : Int32) (Rc Hc Bc lim dc : Nat → Int32) (du dlo xe xd : Int32) (xm : Int64) (ws : Nat → Int64) {mi : Int32} {below : Bool} (hbz : f_Argument_isBelowZero 5000 ws k mi = some (bI below)) {lo : Int} (hlo : -400 ≤ lo ∧ lo ≤ 400) (hpz : -1 ≤ pz ∧ pz ≤ 999) : dsk fl wz pz great false Ru Rb Rc (f_Composer_layArgumentn 5000 fl (iI wz) (iI pz) (nI s) (bI great) 4000 Rc Ru Rb 4 Hc 1800 Bc lim dc du dlo xm xe xd ws k mi (lN V) (iI lo)) (sgn below fl) (deL s (SZ ws) lo (if pz = -1 then 6 else pz.toNat) fl) (below && hA fl 64) (hA fl 16) := by
  obtain ⟨⟨s1, s2, s3, s4⟩, e0, e1, e2⟩ := cp_sign (n := 4) (by omega) below fl 0 (rowH Hc)
  have e1 : s1 = bI (below && hA fl 64) := e1
  subst e1
  obtain ⟨u', lim', f', t1, t2⟩ := dg_take (b := 10) (A := 9) (Or.inl ⟨rfl, rfl⟩) lim dc du dlo ws (iI lo)
  obtain ⟨⟨x1, x2, x3, x4, x5, x6, x7, x8, x9, x10, x11⟩, c0, c1, c2, c3, c4⟩ := cp_dec (s := s) hs t2 (nd_sz ws) hlo (p := if pz = -1 then 6 else pz.toNat) (by by_cases h : pz = -1 <;> simp [h] <;> omega) fl (bI (below && hA fl 64)) s2 s3 0 s4 Bc
  have c1 : x1 = bI (below && hA fl 64) := c1
  have c2 : x2 = s2 := c2
  have c3 : x4 = s4 := c3
  subst c1 c2 c3
  refine ⟨x4, x7, x10, x11, x2, x3, x5, x6, x8, x9, xe, xd, xm, cp_dec_entry (Or.inr hs) hk hV hfin fl wz pz great Ru Rb Rc Hc Bc lim dc du dlo xe xd xm ws mi (iI lo) ?_, e2, c4⟩
  have sd : f_Composer_setDecimal 5000 0 fl (iI pz) (nI s) 4 Hc 0 0 1800 Bc 0 0 lim dc du dlo ws k mi (iI lo) = some (bI (below && hA fl 64), x2, x3, x4, x5, x6, x7, x8, x9, x10, x11) := by
    unfold f_Composer_setDecimal
    refine bnd hbz (bnd e0 (bnd t1 ?_))
    by_cases h : pz = -1
    · rw [if_pos h] at c0
      exact ifp (ieq pz (-1) h) c0
    · rw [if_neg h, show nI pz.toNat = iI pz from by rw [← iI_nat, show ((pz.toNat : Nat) : Int) = pz by omega]] at c0
      exact ifn (fun z => h ((iI_eq (by omega) (by omega) (by omega) (by omega)).mp (show iI pz = iI (-1) from z))) c0
  exact bnd sd rfl
