abbrev LSt : Type := Int32 × Int32 × Int32 × Int32 × Int32 × (Nat → Int32) × Int32 × Int32 × Int32 × Int32 × (Nat → Int32) × Int32 × Int32 × (Nat → Int32) × Int32 × Int32 × (Nat → Int32) × (Nat → Int32) × Int64 × Int32 × Int32
abbrev mkL (x N B u b : Int32) (c : Nat → Int32) (q : CP) : LSt := (x, N, B, u, b, c, q.1, q.2.1, q.2.2.1, q.2.2.2.1, q.2.2.2.2.1, q.2.2.2.2.2.1, q.2.2.2.2.2.2.1, q.2.2.2.2.2.2.2.1, q.2.2.2.2.2.2.2.2.1, q.2.2.2.2.2.2.2.2.2.1, q.2.2.2.2.2.2.2.2.2.2.1, q.2.2.2.2.2.2.2.2.2.2.2.1, q.2.2.2.2.2.2.2.2.2.2.2.2.1, q.2.2.2.2.2.2.2.2.2.2.2.2.2.1, q.2.2.2.2.2.2.2.2.2.2.2.2.2.2)
def mkr (s : Nat) : Nat := if s = 110 then 10 else 37
theorem ls_mark {s : Nat} (hs : s = 37 ∨ s = 110) (ARGS : Nat → Option Nat) (ar : Nat → AR) (AC N B Ru Rb ix fl p : Int32) (Rc : Nat → Int32) {wz : Int} (hw : -1 ≤ wz ∧ wz ≤ 1000) (great : Bool) (q : CP) (h16 : hA fl 16 = false) {Lr : List Nat} (hR : rowOK 4000 Rc Ru Lr) : ∃ (t : Int32 × Int32 × (Nat → Int32)) (q' : CP), (f_Desk_LS 5000 ARGS AC N B 4000 Rc Ru Rb ix fl (iI wz) p (nI s) (bI great) q.1 q.2.1 4 q.2.2.2.2.1 q.2.2.1 q.2.2.2.1 1800 q.2.2.2.2.2.2.2.1 q.2.2.2.2.2.1 q.2.2.2.2.2.2.1 q.2.2.2.2.2.2.2.2.2.2.1 q.2.2.2.2.2.2.2.2.2.2.2.1 q.2.2.2.2.2.2.2.2.1 q.2.2.2.2.2.2.2.2.2.1 q.2.2.2.2.2.2.2.2.2.2.2.2.1 q.2.2.2.2.2.2.2.2.2.2.2.2.2.1 q.2.2.2.2.2.2.2.2.2.2.2.2.2.2 ar) = some (mkL 0 N B t.1 t.2.1 t.2.2 q') ∧ rsD t Lr (upG great (layL [] [mkr s] false false (hA fl 1) wz.toNat)) Rb := by
  have hmk : mkr s < 128 := by
    unfold mkr
    by_cases h : s = 110
    · rw [if_pos h]; decide
    · rw [if_neg h]; decide
  obtain ⟨r, r1, r2⟩ := ro_add 0 (rowB q.2.2.2.2.2.2.2.1) hmk (by decide)
  obtain ⟨t, t1, t2⟩ := cp_put (b0 := Rb) hR (rowH q.2.2.2.2.1) r2 (by decide) (by show 1 ≤ 1800; omega) false false fl great hw
  have hm : f_Composer_layMark 5000 fl (iI wz) (bI great) 4000 Rc Ru Rb 4 q.2.2.2.2.1 1800 q.2.2.2.2.2.2.2.1 (nI (mkr s)) = some (0, 0, t.1, t.2.1, t.2.2, 0, 0, r.1, r.2.1, r.2.2) := by
    unfold f_Composer_layMark
    have st := cp_start fl
    rw [h16] at st
    exact bnd st (bnd r1 (bnd t1 rfl))
  have hn : f_Desk_layOutSpecifiern 5000 AC N B 4000 Rc Ru Rb ix fl (iI wz) (nI s) (bI great) q.1 q.2.1 4 q.2.2.2.2.1 q.2.2.1 q.2.2.2.1 1800 q.2.2.2.2.2.2.2.1 q.2.2.2.2.2.1 q.2.2.2.2.2.2.1 = some (0, N, t.1, t.2.1, t.2.2, 0, 0, 0, 0, r.1, r.2.1, r.2.2) := by
    unfold f_Desk_layOutSpecifiern k_Desk_layOutSpecifiern_24 k_Desk_layOutSpecifiern_47
    rcases hs with rfl | rfl
    · exact ifp (by decide) (ifn (by decide) (bnd hm rfl))
    · exact ifn (by decide) (ifp (by decide) (ifp (by decide) (bnd hm rfl)))
  refine ⟨t, (0, 0, 0, 0, q.2.2.2.2.1, r.1, r.2.1, r.2.2, q.2.2.2.2.2.2.2.2.1, q.2.2.2.2.2.2.2.2.2.1, q.2.2.2.2.2.2.2.2.2.2.1, q.2.2.2.2.2.2.2.2.2.2.2.1, q.2.2.2.2.2.2.2.2.2.2.2.2.1, q.2.2.2.2.2.2.2.2.2.2.2.2.2.1, q.2.2.2.2.2.2.2.2.2.2.2.2.2.2), ?_, t2⟩
  unfold f_Desk_LS
  rw [hn]
def cnum (ix nx nb : Nat) : Nat := if ix = 0 then nx + 1 else if ix = 1 then nb else ix - 2
def cnx (ix nx : Nat) : Nat := if ix = 0 then nx + 1 else nx
theorem ch_num {ix nx nb : Nat} (hix : ix ≤ 1001) (hnx : nx ≤ 500) (hnb : nb ≤ 1100) : f_Desk_chosenNumber (nI (nx + 1)) (nI nb) (dI ix) = some (nI (cnum ix nx nb), nI (cnx ix nx + 1)) ∧ cnum ix nx nb ≤ 1100 := by
  unfold f_Desk_chosenNumber cnum cnx dI
  by_cases h0 : ix = 0
  · rw [if_pos h0, if_pos h0, if_pos h0]
    refine ⟨ifn (by decide) (ifp rfl ?_), by omega⟩
    rw [nI_1 (nx + 1), show nI (nx + 1 + 1) - (1 : Int32) = nI (nx + 1) from nI_pred _]
  · rw [if_neg h0, if_neg h0, if_neg h0]
    by_cases h1 : ix = 1
    · rw [if_pos h1, if_pos h1]
      exact ⟨ifp rfl rfl, hnb⟩
    · rw [if_neg h1, if_neg h1]
      refine ⟨ifn ?_ (ifn ?_ rfl), by omega⟩
      · rw [← iI_nat]
        exact ine ((ix - 2 : Nat) : Int) (-2) (by omega)
      · rw [← iI_nat]
        exact ine ((ix - 2 : Nat) : Int) (-1) (by omega)
theorem ls_10 {s n ix nx nb : Nat} (h37 : s ≠ 37) (h110 : s ≠ 110) (hs : s < 128) (hix : ix ≤ 1001) (hnx : nx ≤ 500) (hnb : nb ≤ 1100) (hn : n ≤ 12) (hno : ¬ (1 ≤ cnum ix nx nb ∧ cnum ix nx nb ≤ n)) (ARGS : Nat → Option Nat) (ar : Nat → AR) (Ru Rb fl w p g : Int32) (Rc : Nat → Int32) (q : CP) : (f_Desk_LS 5000 ARGS (nI n) (nI (nx + 1)) (nI nb) 4000 Rc Ru Rb (dI ix) fl w p (nI s) g q.1 q.2.1 4 q.2.2.2.2.1 q.2.2.1 q.2.2.2.1 1800 q.2.2.2.2.2.2.2.1 q.2.2.2.2.2.1 q.2.2.2.2.2.2.1 q.2.2.2.2.2.2.2.2.2.2.1 q.2.2.2.2.2.2.2.2.2.2.2.1 q.2.2.2.2.2.2.2.2.1 q.2.2.2.2.2.2.2.2.2.1 q.2.2.2.2.2.2.2.2.2.2.2.2.1 q.2.2.2.2.2.2.2.2.2.2.2.2.2.1 q.2.2.2.2.2.2.2.2.2.2.2.2.2.2 ar) = some (mkL 10 (nI (cnx ix nx + 1)) (nI nb) Ru Rb Rc q) := by
  obtain ⟨hc, hc2⟩ := ch_num (nx := nx) (nb := nb) hix hnx hnb
  have ha : f_Desk_argumentOfn (nI n) (nI (cnum ix nx nb)) = some () := by
    unfold f_Desk_argumentOfn
    by_cases h1 : 1 ≤ cnum ix nx nb
    · exact ifn (qnlt 1 h1) (ifp (nI_lt (by omega) (by omega)) rfl)
    · exact ifp (qlt 1 (by omega)) rfl
  have hn2 : f_Desk_layOutSpecifiern 5000 (nI n) (nI (nx + 1)) (nI nb) 4000 Rc Ru Rb (dI ix) fl w (nI s) g q.1 q.2.1 4 q.2.2.2.2.1 q.2.2.1 q.2.2.2.1 1800 q.2.2.2.2.2.2.2.1 q.2.2.2.2.2.1 q.2.2.2.2.2.2.1 = some (10, nI (cnx ix nx + 1), Ru, Rb, Rc, q.1, q.2.1, q.2.2.1, q.2.2.2.1, q.2.2.2.2.2.1, q.2.2.2.2.2.2.1, q.2.2.2.2.2.2.2.1) := by
    unfold f_Desk_layOutSpecifiern
    exact ifn (qne 37 h37) (ifn (qne 110 h110) (bnd hc (bnd ha rfl)))
  unfold f_Desk_LS
  rw [hn2]
theorem ls_arg {s n ix nx nb : Nat} (h37 : s ≠ 37) (h110 : s ≠ 110) (hs : s < 128) (hix : ix ≤ 1001) (hnx : nx ≤ 500) (hnb : nb ≤ 1100) (hn : n ≤ 12) (hno : 1 ≤ cnum ix nx nb ∧ cnum ix nx nb ≤ n) {ARGS : Nat → Option Nat} {ar : Nat → AR} {q0 qw k : Nat} {ws : Nat → Int64} {mi wd lo : Int32} {bits : Int64} {lt : Option LT} (hA : ar (cnum ix nx nb - 1) = (q0, qw, ws, k, mi, bits, wd, lo, lt)) (hq : ARGS (cnum ix nx nb - 1) = some q0) (Ru Rb fl w p g : Int32) (Rc : Nat → Int32) (q : CP) : (f_Desk_LS 5000 ARGS (nI n) (nI (nx + 1)) (nI nb) 4000 Rc Ru Rb (dI ix) fl w p (nI s) g q.1 q.2.1 4 q.2.2.2.2.1 q.2.2.1 q.2.2.2.1 1800 q.2.2.2.2.2.2.2.1 q.2.2.2.2.2.1 q.2.2.2.2.2.2.1 q.2.2.2.2.2.2.2.2.2.2.1 q.2.2.2.2.2.2.2.2.2.2.2.1 q.2.2.2.2.2.2.2.2.1 q.2.2.2.2.2.2.2.2.2.1 q.2.2.2.2.2.2.2.2.2.2.2.2.1 q.2.2.2.2.2.2.2.2.2.2.2.2.2.1 q.2.2.2.2.2.2.2.2.2.2.2.2.2.2 ar) = ((f_Desk_faultOf 5000 fl (nI s) ws k mi wd).bind fun u_77 => (if u_77 = 0 then ((layA fl w p (nI s) g Ru Rb Rc q.2.2.2.2.1 q.2.2.2.2.2.2.2.1 q.2.2.2.2.2.2.2.2.2.2.1 q.2.2.2.2.2.2.2.2.2.2.2.1 q.2.2.2.2.2.2.2.2.1 q.2.2.2.2.2.2.2.2.2.1 q.2.2.2.2.2.2.2.2.2.2.2.2.2.1 q.2.2.2.2.2.2.2.2.2.2.2.2.2.2 q.2.2.2.2.2.2.2.2.2.2.2.2.1 ws k mi bits lo lt).bind fun u_90 => some (u_77, nI (cnx ix nx + 1), nI (cnum ix nx nb), u_90.2.2.1, u_90.2.2.2.1, u_90.2.2.2.2.1, u_90.1, u_90.2.1, u_90.2.2.2.2.2.1, u_90.2.2.2.2.2.2.1, u_90.2.2.2.2.2.2.2.1, u_90.2.2.2.2.2.2.2.2.1, u_90.2.2.2.2.2.2.2.2.2.1, u_90.2.2.2.2.2.2.2.2.2.2.1, u_90.2.2.2.2.2.2.2.2.2.2.2.1, u_90.2.2.2.2.2.2.2.2.2.2.2.2.1, u_90.2.2.2.2.2.2.2.2.2.2.2.2.2.1, u_90.2.2.2.2.2.2.2.2.2.2.2.2.2.2.1, u_90.2.2.2.2.2.2.2.2.2.2.2.2.2.2.2.1, u_90.2.2.2.2.2.2.2.2.2.2.2.2.2.2.2.2.1, u_90.2.2.2.2.2.2.2.2.2.2.2.2.2.2.2.2.2)) else some (mkL u_77 (nI (cnx ix nx + 1)) (nI (cnum ix nx nb)) Ru Rb Rc q))) := by
  obtain ⟨hc, hc2⟩ := ch_num (nx := nx) (nb := nb) hix hnx hnb
  obtain ⟨i, hi⟩ : ∃ i, cnum ix nx nb = i + 1 := ⟨cnum ix nx nb - 1, by omega⟩
  rw [hi] at hno hA hq hc ⊢
  rw [show i + 1 - 1 = i from rfl] at hA hq
  have hp : nI (i + 1) - (1 : Int32) = nI i := nI_pred i
  have ha : f_Desk_argumentOfn (nI n) (nI (i + 1)) = none := by
    unfold f_Desk_argumentOfn
    exact ifn (qnlt 1 (by omega)) (ifn (nI_nlt (by omega) (by omega)) (ifp (nI_le (by omega) (by omega)) rfl))
  have hay : f_Desk_argumentOfy ARGS (nI n) q0 (nI (i + 1)) = some () := by
    unfold f_Desk_argumentOfy
    rw [hp, nI_clamp (by omega)]
    exact ifn (qnlt 1 (by omega)) (ifn (nI_nlt (by omega) (by omega)) (ifp (nI_le (by omega) (by omega)) (ifp (inB_n (by omega)) (ifp hq rfl))))
  have hn2 : f_Desk_layOutSpecifiern 5000 (nI n) (nI (nx + 1)) (nI nb) 4000 Rc Ru Rb (dI ix) fl w (nI s) g q.1 q.2.1 4 q.2.2.2.2.1 q.2.2.1 q.2.2.2.1 1800 q.2.2.2.2.2.2.2.1 q.2.2.2.2.2.1 q.2.2.2.2.2.2.1 = none := by
    unfold f_Desk_layOutSpecifiern
    refine ifn (qne 37 h37) (ifn (qne 110 h110) (bnd hc ?_))
    show (f_Desk_argumentOfn (nI n) (nI (i + 1))).bind _ = none
    rw [ha]
    rfl
  unfold f_Desk_LS
  rw [hn2, hc]
  show (if (nI (i + 1) - 1).toNatClampNeg < 12 then _ else none) = _
  rw [hp, nI_clamp (by omega), hA]
  refine ifp (by omega) ?_
  cases lt with
  | none =>
    show f_Desk_layOutSpecifieryn 5000 ARGS (nI n) (nI (nx + 1)) (nI nb) 4000 Rc Ru Rb (dI ix) fl w p (nI s) g _ _ 4 _ _ _ 1800 _ _ _ _ _ _ _ _ _ _ q0 ws k mi bits wd lo = _
    unfold f_Desk_layOutSpecifieryn
    exact ifn (qne 37 h37) (ifn (qne 110 h110) (bnd hc (bnd hay rfl)))
  | some e =>
    obtain ⟨ql, qc, nn, ff, uu, zz⟩ := e
    show f_Desk_layOutSpecifieryr 5000 ARGS (nI n) (nI (nx + 1)) (nI nb) 4000 Rc Ru Rb (dI ix) fl w p (nI s) g _ _ 4 _ _ _ 1800 _ _ _ _ _ _ _ _ _ _ q0 ws k mi bits wd lo nn ff uu = _
    unfold f_Desk_layOutSpecifieryr
    exact ifn (qne 37 h37) (ifn (qne 110 h110) (bnd hc (bnd hay rfl)))
