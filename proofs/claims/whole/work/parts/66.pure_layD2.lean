theorem de_to108 {s k V : Nat} (hs : s < 128) (hk : k ≠ 0) (hV : V < 2 ^ 64) (ht : asT s = true ∨ ¬ (k = 6 ∧ V / 2 ^ 52 % 2048 = 2047)) (fl : Int32) (wz pz : Int) (great : Bool) (Ru Rb : Int32) (Rc Hc Bc lim dc : Nat → Int32) (du dlo xe xd : Int32) (xm : Int64) (ws : Nat → Int64) (mi lo : Int32) {X : Option LY} (h : k_Composer_layArgumentn_108 5000 fl (iI wz) (iI pz) (nI s) (bI great) 4000 4 1800 ws k mi (lN V) lo (nI s) (bI (asT s)) 0 (bI (hA fl 16)) Ru Rb Rc 0 0 Hc 0 0 Bc du dlo lim dc xm xe xd = X) : (f_Composer_layArgumentn 5000 fl (iI wz) (iI pz) (nI s) (bI great) 4000 Rc Ru Rb 4 Hc 1800 Bc lim dc du dlo xm xe xd ws k mi (lN V) lo) = X := by
  rw [de_enter hs, de_go hk hV ht]
  exact h
theorem de_ox3 {b s V : Nat} (hbs : (b = 8 ∧ s = 111) ∨ (b = 16 ∧ s = 120)) (hV : V < 2 ^ 64) (fl : Int32) (wz pz : Int) (great : Bool) (Ru Rb : Int32) (Rc Hc Bc lim dc : Nat → Int32) (du dlo xe xd : Int32) (xm : Int64) (ws : Nat → Int64) (mi lo : Int32) : dsk fl wz pz great false Ru Rb Rc (f_Composer_layArgumentn 5000 fl (iI wz) (iI pz) (nI s) (bI great) 4000 Rc Ru Rb 4 Hc 1800 Bc lim dc du dlo xm xe xd ws 3 mi (lN V) lo) (preL fl b) (whL b V false) false (hA fl 16) := by
  obtain ⟨⟨x1, x2, x3, x4, x5, x6, x7, x8, x9, x10, x11⟩, c0, c1, c2, c3⟩ := cp_based_s (b := b) (by omega) hV fl Hc Bc lim dc 0 0 du dlo mi lo ws
  have c1 : x1 = 0 := c1
  subst c1
  refine ⟨x4, x7, x10, x11, x2, x3, x5, x6, x8, x9, xe, xd, xm, de_to108 (by omega) (by omega) hV (Or.inr (by omega)) fl wz pz great Ru Rb Rc Hc Bc lim dc du dlo xe xd xm ws mi lo ?_, c2, c3⟩
  unfold k_Composer_layArgumentn_108
  rcases hbs with ⟨rfl, rfl⟩ | ⟨rfl, rfl⟩
  · exact ifn (by decide) (ifn (by decide) (ifn (by decide) (ifp (by decide) (bnd c0 rfl))))
  · exact ifn (by decide) (ifn (by decide) (ifn (by decide) (ifn (by decide) (ifn (by decide) (ifp (by decide) (bnd c0 rfl))))))
theorem de_ox4 {b s k V : Nat} (hbs : (b = 8 ∧ s = 111) ∨ (b = 16 ∧ s = 120)) (hk : k = 4) (hV : V < 2 ^ 64) (fl : Int32) (wz pz : Int) (great : Bool) (Ru Rb : Int32) (Rc Hc Bc lim dc : Nat → Int32) (du dlo xe xd : Int32) (xm : Int64) (ws : Nat → Int64) {mi : Int32} {below : Bool} (hbz : f_Argument_isBelowZero 5000 ws k mi = some (bI below)) : dsk fl wz pz great false Ru Rb Rc (f_Composer_layArgumentn 5000 fl (iI wz) (iI pz) (nI s) (bI great) 4000 Rc Ru Rb 4 Hc 1800 Bc lim dc du dlo xm xe xd ws k mi (lN V) 0) (sgn below fl ++ preL fl b) (whL b (SZ ws) false) (below && hA fl 64) (hA fl 16) := by
  obtain ⟨⟨x1, x2, x3, x4, x5, x6, x7, x8, x9, x10, x11⟩, c0, c1, c2, c3⟩ := cp_based_l (b := b) (by omega) fl Hc Bc lim dc 0 0 du dlo ws (k := k) (by omega) hbz (lN V)
  have c1 : x1 = bI (below && hA fl 64) := c1
  subst c1
  refine ⟨x4, x7, x10, x11, x2, x3, x5, x6, x8, x9, xe, xd, xm, de_to108 (by omega) (by omega) hV (Or.inr (by omega)) fl wz pz great Ru Rb Rc Hc Bc lim dc du dlo xe xd xm ws mi 0 ?_, c2, c3⟩
  unfold k_Composer_layArgumentn_108
  rcases hbs with ⟨rfl, rfl⟩ | ⟨rfl, rfl⟩
  · exact ifn (by decide) (ifn (by decide) (ifn (by decide) (ifp (by decide) (bnd c0 rfl))))
  · exact ifn (by decide) (ifn (by decide) (ifn (by decide) (ifn (by decide) (ifn (by decide) (ifp (by decide) (bnd c0 rfl))))))
theorem de_a {V : Nat} (hV : V < 2 ^ 64) (hfin : ¬ V / 2 ^ 52 % 2048 = 2047) (fl : Int32) (wz pz : Int) (great : Bool) (Ru Rb : Int32) (Rc Hc Bc lim dc : Nat → Int32) (du dlo xe xd : Int32) (xm : Int64) (ws : Nat → Int64) (hpz : -1 ≤ pz ∧ pz ≤ 1000) {mi lo : Int32} {below : Bool} (hbz : f_Argument_isBelowZero 5000 ws 6 mi = some (bI below)) : ∃ (ld F F' n : Nat) (x x' : Int), hxS V ld F x ∧ hexP F x pz F' x' n ∧ dsk fl wz pz great false Ru Rb Rc (f_Composer_layArgumentn 5000 fl (iI wz) (iI pz) (nI 97) (bI great) 4000 Rc Ru Rb 4 Hc 1800 Bc lim dc du dlo xm xe xd ws 6 mi (lN V) lo) (sgn below fl ++ [48, 120]) (hexL ld F' x' n) (below && hA fl 64) (hA fl 16) := by
  obtain ⟨ld, F, F', n, x, x', ⟨x1, x2, x3, x4, x5, x6, x7, x8, x9, x10⟩, h1, h2, c0, c1, c2, c3⟩ := cp_hex hV hpz fl hbz 0 0 (rowH Hc) (rowB Bc)
  have c1 : x1 = bI (below && hA fl 64) := c1
  subst c1
  refine ⟨ld, F, F', n, x, x', h1, h2, x4, x7, lim, dc, x2, x3, x5, x6, du, dlo, x9, x10, x8, de_to108 (by omega) (by omega) hV (Or.inr (fun z => hfin z.2)) fl wz pz great Ru Rb Rc Hc Bc lim dc du dlo xe xd xm ws mi lo ?_, c2, c3⟩
  unfold k_Composer_layArgumentn_108
  exact ifp (by decide) (bnd c0 rfl)
theorem de_nan {s V : Nat} (hs : s < 128) (ht : asT s = false) (hV : V < 2 ^ 64) (h1 : V / 2 ^ 52 % 2048 = 2047) (h2 : ¬ V % 2 ^ 52 = 0) (fl : Int32) (wz pz : Int) (great : Bool) (Ru Rb : Int32) (Rc Hc Bc lim dc : Nat → Int32) (du dlo xe xd : Int32) (xm : Int64) (ws : Nat → Int64) (mi lo : Int32) : dsk fl wz pz great false Ru Rb Rc (f_Composer_layArgumentn 5000 fl (iI wz) (iI pz) (nI s) (bI great) 4000 Rc Ru Rb 4 Hc 1800 Bc lim dc du dlo xm xe xd ws 6 mi (lN V) lo) [] [78, 97, 78] false false := by
  obtain ⟨r, r1, r2⟩ := ro_word (t := 6) 0 (rowB Bc) (by decide) (by rw [wrd_6]; decide)
  rw [wrd_6] at r2
  refine ⟨Hc, r.2.2, lim, dc, 0, 0, r.1, r.2.1, du, dlo, xe, xd, xm, ?_, rowH Hc, r2⟩
  rw [de_enter hs, ht]
  unfold k_Composer_layArgumentn_29
  have e := ar_none hV 6
  rw [decide_eq_true h1, decide_eq_false h2] at e
  have su : f_Composer_setUnfilled 5000 1800 Bc 0 0 6 = some (0, r.1, r.2.1, r.2.2) := by
    unfold f_Composer_setUnfilled
    exact bnd r1 rfl
  exact ifn (by omega) (bnd e (ifn (by decide) (ifp rfl (bnd su rfl))))
theorem de_inf {s V : Nat} (hs : s < 128) (ht : asT s = false) (hV : V < 2 ^ 64) (h1 : V / 2 ^ 52 % 2048 = 2047) (h2 : V % 2 ^ 52 = 0) (fl : Int32) (wz pz : Int) (great : Bool) (Ru Rb : Int32) (Rc Hc Bc lim dc : Nat → Int32) (du dlo xe xd : Int32) (xm : Int64) (ws : Nat → Int64) (mb : Bool) (lo : Int32) : dsk fl wz pz great false Ru Rb Rc (f_Composer_layArgumentn 5000 fl (iI wz) (iI pz) (nI s) (bI great) 4000 Rc Ru Rb 4 Hc 1800 Bc lim dc du dlo xm xe xd ws 6 (bI mb) (lN V) lo) (sgn mb fl) [73, 110, 102, 105, 110, 105, 116, 121] (mb && hA fl 64) false := by
  obtain ⟨⟨s1, s2, s3, s4⟩, e0, e1, e2⟩ := cp_sign (n := 4) (by omega) mb fl 0 (rowH Hc)
  have e1 : s1 = bI (mb && hA fl 64) := e1
  subst e1
  obtain ⟨r, r1, r2⟩ := ro_word (t := 7) 0 (rowB Bc) (by decide) (by rw [wrd_7]; decide)
  rw [wrd_7] at r2
  refine ⟨s4, r.2.2, lim, dc, s2, s3, r.1, r.2.1, du, dlo, xe, xd, xm, ?_, e2, r2⟩
  rw [de_enter hs, ht]
  unfold k_Composer_layArgumentn_29 k_Composer_layArgumentn_80
  have a1 := ar_none hV 6
  have a2 := ar_beyond hV 6
  rw [decide_eq_true h1, decide_eq_true h2] at a1
  rw [decide_eq_true h1] at a2
  have su : f_Composer_setUnfilled 5000 1800 Bc 0 0 7 = some (0, r.1, r.2.1, r.2.2) := by
    unfold f_Composer_setUnfilled
    exact bnd r1 rfl
  have hbl : blB (bI mb) = true := by cases mb <;> decide
  exact ifn (by omega) (bnd a1 (ifp (by decide) (bnd a2 (ifn (by decide) (ifp rfl (bnd e0 (ifp hbl (bnd su rfl))))))))
abbrev TY : Type := Int32 × Int32 × (Nat → Int32) × Int32 × Int32 × (Nat → Int32) × (Nat → Int32)
theorem de_s {k V : Nat} (hk : k ≠ 0) (hV : V < 2 ^ 64) (fl : Int32) (wz pz : Int) (great : Bool) (Ru Rb : Int32) (Rc Hc Bc lim dc : Nat → Int32) (du dlo xe xd : Int32) (xm : Int64) (ws : Nat → Int64) (mi lo : Int32) {L : List Nat} (h : ∃ r : TY, f_Composer_setTextn 5000 1800 Bc 0 0 lim dc du dlo ws k mi (lN V) lo = some r ∧ rowOK 1800 r.2.2.1 r.1 L) : dsk fl wz pz great true Ru Rb Rc (f_Composer_layArgumentn 5000 fl (iI wz) (iI pz) (nI 115) (bI great) 4000 Rc Ru Rb 4 Hc 1800 Bc lim dc du dlo xm xe xd ws k mi (lN V) lo) [] L false (hA fl 16) := by
  obtain ⟨r, r1, r2⟩ := h
  refine ⟨Hc, r.2.2.1, r.2.2.2.2.2.1, r.2.2.2.2.2.2, 0, 0, r.1, r.2.1, r.2.2.2.1, r.2.2.2.2.1, xe, xd, xm, de_to108 (by omega) hk hV (Or.inl rfl) fl wz pz great Ru Rb Rc Hc Bc lim dc du dlo xe xd xm ws mi lo ?_, rowH Hc, r2⟩
  unfold k_Composer_layArgumentn_108
  exact ifn (by decide) (ifn (by decide) (ifn (by decide) (ifn (by decide) (ifp (by decide) (bnd r1 rfl)))))
theorem dg10 (lim dc : Nat → Int32) (du dlo : Int32) (ws : Nat → Int64) (lo : Int32) : ∃ (u' : Int32) (lim' f' : Nat → Int32), f_Digits_take 5000 lim dc du dlo ws lo 10 = some (u', lo, lim', f') ∧ dgOK 10 f' u' (SZ ws) := dg_take (b := 10) (A := 9) (Or.inl ⟨rfl, rfl⟩) lim dc du dlo ws lo
theorem st_truth (is : Bool) (lim dc Bc : Nat → Int32) (du dlo mi lo : Int32) (bits : Int64) {ws : Nat → Int64} (h1 : ws 0 = lN (if is = true then 1 else 0)) : ∃ r : TY, f_Composer_setTextn 5000 1800 Bc 0 0 lim dc du dlo ws 1 mi bits lo = some r ∧ rowOK 1800 r.2.2.1 r.1 (trL is) := by
  obtain ⟨u', lim', f', t1, t2⟩ := dg10 lim dc du dlo ws lo
  obtain ⟨r, r1, r2⟩ := cp_truth is 0 (rowB Bc) (by decide)
  refine ⟨(r.1, r.2.1, r.2.2, u', lo, lim', f'), ?_, r2⟩
  unfold f_Composer_setTextn
  refine bnd t1 (bnd (u := (1 : Int32)) rfl (ifp (by decide) (ifp (by decide) (ifp (by decide) ?_))))
  rw [show ((0 : Int32).toNatClampNeg) = 0 from rfl, h1]
  unfold k_Composer_setTextn_73
  cases is with
  | true => exact ifn (by decide) (bnd r1 rfl)
  | false => exact ifp (by decide) (bnd r1 rfl)
theorem st_char {c : Nat} (hc : c < 128) (lim dc Bc : Nat → Int32) (du dlo mi lo : Int32) (bits : Int64) {ws : Nat → Int64} (h1 : ws 0 = lN c) : ∃ r : TY, f_Composer_setTextn 5000 1800 Bc 0 0 lim dc du dlo ws 2 mi bits lo = some r ∧ rowOK 1800 r.2.2.1 r.1 [c] := by
  obtain ⟨u', lim', f', t1, t2⟩ := dg10 lim dc du dlo ws lo
  obtain ⟨r, r1, r2⟩ := ro_add 0 (rowB Bc) hc (by decide)
  refine ⟨(r.1, r.2.1, r.2.2, u', lo, lim', f'), ?_, r2⟩
  unfold f_Composer_setTextn
  refine bnd t1 (bnd (u := (2 : Int32)) rfl (ifp (by decide) (ifn (by decide) (ifp (by decide) (ifp (by decide) ?_)))))
  rw [show ((0 : Int32).toNatClampNeg) = 0 from rfl, h1, lN_i]
  exact bnd r1 rfl
def mnL (below : Bool) : List Nat := if below = true then [45] else []
theorem mnL_len (b : Bool) : (mnL b).length ≤ 1 := by cases b <;> decide
theorem st_whole {k : Nat} (hk : k = 3 ∨ k = 4) (lim dc Bc : Nat → Int32) (du dlo : Int32) (bits : Int64) {ws : Nat → Int64} {mi : Int32} {below : Bool} (hbz : f_Argument_isBelowZero 5000 ws k mi = some (bI below)) : ∃ r : TY, f_Composer_setTextn 5000 1800 Bc 0 0 lim dc du dlo ws k mi bits 0 = some r ∧ rowOK 1800 r.2.2.1 r.1 (mnL below ++ whL 10 (SZ ws) false) := by
  obtain ⟨u', lim', f', t1, t2⟩ := dg10 lim dc du dlo ws 0
  obtain ⟨q, q1, q2⟩ := cp_minus (n := 1800) below 0 (rowB Bc) (by decide)
  have q2 : rowOK 1800 q.2.2 q.1 (mnL below) := q2
  have hm := mnL_len below
  have hnd := t2.2.1
  have hE : (frs 10 (SZ ws) 0).toNat ≤ 208 := by rw [frs_nn (by omega)]; omega
  obtain ⟨r, r1, r2⟩ := cp_whole (lo := 0) (n := 1800) (by omega) t2 (by omega) false q.2.1 q2 (by omega)
  have r1 : f_Composer_addWhole 5000 1800 q.2.2 q.1 q.2.1 f' u' 0 0 = some r := r1
  refine ⟨(r.1, r.2.1, r.2.2, u', 0, lim', f'), ?_, r2⟩
  unfold f_Composer_setTextn
  rcases hk with rfl | rfl
  · exact bnd t1 (bnd (u := (3 : Int32)) rfl (ifp (by decide) (ifn (by decide) (ifn (by decide) (ifn (by decide) (ifn (by decide) (ifn (by decide) (bnd hbz (bnd q1 (bnd r1 rfl))))))))))
  · exact bnd t1 (bnd (u := (4 : Int32)) rfl (ifp (by decide) (ifn (by decide) (ifn (by decide) (ifn (by decide) (ifn (by decide) (ifn (by decide) (bnd hbz (bnd q1 (bnd r1 rfl))))))))))
theorem st_dec {lo : Int} (hlo : -400 ≤ lo ∧ lo ≤ 400) (lim dc Bc : Nat → Int32) (du dlo : Int32) (bits : Int64) {ws : Nat → Int64} {mi : Int32} {below : Bool} (hbz : f_Argument_isBelowZero 5000 ws 5 mi = some (bI below)) : ∃ r : TY, f_Composer_setTextn 5000 1800 Bc 0 0 lim dc du dlo ws 5 mi bits (iI lo) = some r ∧ rowOK 1800 r.2.2.1 r.1 (mnL below ++ dtL (SZ ws) lo) := by
  obtain ⟨u', lim', f', t1, t2⟩ := dg10 lim dc du dlo ws (iI lo)
  obtain ⟨q, q1, q2⟩ := cp_minus (n := 1800) below 0 (rowB Bc) (by decide)
  have q2 : rowOK 1800 q.2.2 q.1 (mnL below) := q2
  have hm := mnL_len below
  have hnd := nd_sz ws
  obtain ⟨r, r1, r2⟩ := cp_dtext t2 (by omega) hlo q.2.1 q2 (by omega)
  refine ⟨(r.1, r.2.1, r.2.2, u', iI lo, lim', f'), ?_, r2⟩
  have sd : f_Composer_setDecimalText 5000 1800 Bc 0 0 f' u' (iI lo) ws 5 mi (iI lo) = some r := by
    unfold f_Composer_setDecimalText
    refine bnd hbz (bnd q1 (bnd (dg_isZero (by omega) t2) ?_))
    by_cases h0 : SZ ws = 0
    · rw [if_pos h0] at r1
      rw [if_pos h0]
      exact ifn (by decide) r1
    · rw [if_neg h0] at r1
      rw [if_neg h0]
      exact ifp rfl (bnd (dg_first (by omega) t2) r1)
  unfold f_Composer_setTextn
  exact bnd t1 (bnd (u := (5 : Int32)) rfl (ifp (by decide) (ifn (by decide) (ifn (by decide) (ifp (by decide) (bnd sd rfl))))))
def frL (V N : Nat) (lo : Int) (z : Nat) (mb : Bool) : List Nat := if V / 2 ^ 52 % 2048 = 2047 then (if V % 2 ^ 52 = 0 then mnL mb ++ [73, 110, 102, 105, 110, 105, 116, 121] else [78, 97, 78]) else mnL mb ++ ftL N lo z
theorem st_fr {lo : Int} (hlo : -400 ≤ lo ∧ lo ≤ 400) {V : Nat} (hV : V < 2 ^ 64) (lim dc Bc : Nat → Int32) (du dlo : Int32) (ws : Nat → Int64) (mb : Bool) : ∃ (z : Nat) (r : TY), (SZ ws ≠ 0 → tzP (SZ ws) z) ∧ f_Composer_setTextn 5000 1800 Bc 0 0 lim dc du dlo ws 6 (bI mb) (lN V) (iI lo) = some r ∧ rowOK 1800 r.2.2.1 r.1 (frL V (SZ ws) lo z mb) := by
  obtain ⟨u', lim', f', t1, t2⟩ := dg10 lim dc du dlo ws (iI lo)
  obtain ⟨q, q1, q2⟩ := cp_minus (n := 1800) mb 0 (rowB Bc) (by decide)
  have q2 : rowOK 1800 q.2.2 q.1 (mnL mb) := q2
  have hm := mnL_len mb
  have hnd := nd_sz ws
  obtain ⟨z, r, hz, r1, r2⟩ := cp_ftext t2 (by omega) hlo q.2.1 q2 (by omega)
  have hbl : blB (bI mb) = true := by cases mb <;> decide
  have a1 := ar_none hV 6
  have a2 := ar_beyond hV 6
  have key : ∀ (r : Int32 × Int32 × (Nat → Int32)), f_Composer_setFractionText 5000 1800 Bc 0 0 f' u' (iI lo) 6 (bI mb) (lN V) = some r → rowOK 1800 r.2.2 r.1 (frL V (SZ ws) lo z mb) → ∃ (z : Nat) (r : TY), (SZ ws ≠ 0 → tzP (SZ ws) z) ∧ f_Composer_setTextn 5000 1800 Bc 0 0 lim dc du dlo ws 6 (bI mb) (lN V) (iI lo) = some r ∧ rowOK 1800 r.2.2.1 r.1 (frL V (SZ ws) lo z mb) := by
    intro r h1 h2
    refine ⟨z, (r.1, r.2.1, r.2.2, u', iI lo, lim', f'), hz, ?_, h2⟩
    unfold f_Composer_setTextn
    exact bnd t1 (bnd (u := (6 : Int32)) rfl (ifp (by decide) (ifn (by decide) (ifn (by decide) (ifn (by decide) (ifp (by decide) (bnd h1 rfl)))))))
  by_cases h1 : V / 2 ^ 52 % 2048 = 2047
  · rw [decide_eq_true h1] at a1 a2
    by_cases h2 : V % 2 ^ 52 = 0
    · rw [decide_eq_true h2] at a1
      obtain ⟨y, y1, y2⟩ := ro_word (t := 7) q.2.1 q2 (by decide) (by rw [wrd_7]; show _ + 8 ≤ 1800; omega)
      rw [wrd_7] at y2
      refine key y ?_ (by unfold frL; rw [if_pos h1, if_pos h2]; exact y2)
      · unfold f_Composer_setFractionText
        exact bnd a1 (ifp rfl (bnd q1 (ifp hbl (bnd a2 (ifn (by decide) (bnd y1 rfl))))))
    · rw [decide_eq_false h2] at a1
      obtain ⟨y, y1, y2⟩ := ro_word (t := 6) 0 (rowB Bc) (by decide) (by rw [wrd_6]; decide)
      rw [wrd_6] at y2
      refine key y ?_ (by unfold frL; rw [if_pos h1, if_neg h2]; exact y2)
      · unfold f_Composer_setFractionText
        exact bnd a1 (ifn (by decide) (bnd y1 rfl))
  · rw [decide_eq_false h1] at a1 a2
    refine key r ?_ (by unfold frL; rw [if_neg h1]; exact r2)
    · unfold f_Composer_setFractionText
      exact bnd a1 (ifp rfl (bnd q1 (ifp hbl (bnd a2 (ifp rfl r1)))))
theorem de_7b {V : Nat} (fl : Int32) (wz pz : Int) (great : Bool) (Ru Rb : Int32) (Rc Hc Bc lim dc : Nat → Int32) (du dlo xe xd : Int32) (xm : Int64) (ws : Nat → Int64) (hV : V < 2 ^ 64) (mi lo uu : Int32) (nn : Nat) (ff : Nat → Int32) : dsk fl wz pz great true Ru Rb Rc (f_Composer_layArgumentr 5000 fl (iI wz) (iI pz) (nI 98) (bI great) 4000 Rc Ru Rb 4 Hc 1800 Bc lim dc du dlo xm xe xd ws 7 mi (lN V) lo nn ff uu) [] (trL true) false (hA fl 16) := by
  obtain ⟨r, r1, r2⟩ := cp_truth true 0 (rowB Bc) (by decide)
  refine ⟨Hc, r.2.2, lim, dc, 0, 0, r.1, r.2.1, du, dlo, xe, xd, xm, ?_, rowH Hc, r2⟩
  have a1 := ar_none hV 7
  have a2 := ar_beyond hV 7
  unfold f_Composer_layArgumentr k_Composer_layArgumentr_24 k_Composer_layArgumentr_29 k_Composer_layArgumentr_80 k_Composer_layArgumentr_108 k_Composer_layArgumentr_190 k_Composer_layArgumentr_195
  exact bnd (cp_start fl) (ifp (by decide) (ifn (by omega) (bnd a1 (ifp rfl (bnd a2 (ifp rfl (ifn (by decide) (ifp (by decide) (ifn (by omega) (bnd r1 rfl))))))))))
theorem de_7s {V : Nat} (fl : Int32) (wz pz : Int) (great : Bool) (Ru Rb : Int32) (Rc Hc Bc lim dc : Nat → Int32) (du dlo xe xd : Int32) (xm : Int64) (ws : Nat → Int64) (hV : V < 2 ^ 64) (mi lo uu : Int32) (nn : Nat) (ff : Nat → Int32) {L : List Nat} (hL : rowOK nn ff uu L) (h4 : L.length ≤ 400) : dsk fl wz pz great true Ru Rb Rc (f_Composer_layArgumentr 5000 fl (iI wz) (iI pz) (nI 115) (bI great) 4000 Rc Ru Rb 4 Hc 1800 Bc lim dc du dlo xm xe xd ws 7 mi (lN V) lo nn ff uu) [] L false (hA fl 16) := by
  obtain ⟨u', lim', f', t1, t2⟩ := dg10 lim dc du dlo ws lo
  obtain ⟨r, r1, r2⟩ := ro_row 0 (rowB Bc) hL (by omega) (by show 0 + L.length ≤ 1800; omega)
  refine ⟨Hc, r.2.2, lim', f', 0, 0, r.1, r.2.1, u', lo, xe, xd, xm, ?_, rowH Hc, r2⟩
  have a1 := ar_none hV 7
  have a2 := ar_beyond hV 7
  have st : f_Composer_setTextr 5000 1800 Bc 0 0 lim dc du dlo ws 7 mi (lN V) lo nn ff uu = some (r.1, r.2.1, r.2.2, u', lo, lim', f') := by
    unfold f_Composer_setTextr
    exact bnd t1 (bnd (u := (7 : Int32)) rfl (ifp (by decide) (ifn (by decide) (ifn (by decide) (ifn (by decide) (ifn (by decide) (ifp (by decide) (bnd r1 rfl))))))))
  unfold f_Composer_layArgumentr k_Composer_layArgumentr_24 k_Composer_layArgumentr_29 k_Composer_layArgumentr_80 k_Composer_layArgumentr_108
  exact bnd (cp_start fl) (ifn (by decide) (ifp (by decide) (ifn (by omega) (bnd a1 (ifp rfl (bnd a2 (ifp rfl (ifn (by decide) (ifn (by decide) (ifn (by decide) (ifn (by decide) (ifp (by decide) (bnd st rfl)))))))))))))
