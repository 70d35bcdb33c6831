theorem sh16 : ∀ k, k < 4 → (((((16 : Int32) * nI k).toInt64 &&& 63)).toBitVec.smod 64).toNat = 16 * k := by decide +kernel
theorem mo_sizeOf {a A : Nat} (ha : a < 12) (hA : A < 2 ^ 64) (S : Nat → Int32) : ∃ S', f_Model_sizeOf 5000 S (nI a) (lN A) = some S' ∧ ∀ j, S' j = if 32 * a ≤ j ∧ j < 32 * a + 4 then nI (A / 2 ^ (16 * (j - 32 * a)) % 2 ^ 16) else S j := by
  have run : ∀ (d i m : Nat) (T : Nat → Int32), i + d = 4 → d < m → (∀ j, T j = if 32 * a ≤ j ∧ j < 32 * a + i then nI (A / 2 ^ (16 * (j - 32 * a)) % 2 ^ 16) else S j) → ∃ S', lp_ (b_Model_sizeOf_3 (nI a) (lN A)) m (nI i, T) = some S' ∧ ∀ j, S' j = if 32 * a ≤ j ∧ j < 32 * a + 4 then nI (A / 2 ^ (16 * (j - 32 * a)) % 2 ^ 16) else S j := by
    intro d
    induction d with
    | zero =>
      intro i m T hi hm h
      obtain ⟨m, rfl⟩ : ∃ j, m = j + 1 := ⟨m - 1, by omega⟩
      refine ⟨T, ?_, fun j => by rw [h j, show i = 4 by omega]⟩
      show b_Model_sizeOf_3 (nI a) (lN A) (lp_ (b_Model_sizeOf_3 (nI a) (lN A)) m) _ = _
      rw [e_Model_sizeOf_3]
      exact ifp (rle 4 (by omega)) rfl
    | succ d ih =>
      intro i m T hi hm h
      obtain ⟨m, rfl⟩ : ∃ j, m = j + 1 := ⟨m - 1, by omega⟩
      obtain ⟨S', z1, z2⟩ := ih (i + 1) m (upd T (32 * a + i) (nI (A / 2 ^ (16 * i) % 2 ^ 16))) (by omega) (by omega) (fun j => by
        by_cases e : j = 32 * a + i
        · subst e
          rw [pk_us, if_pos (by omega), show 32 * a + i - 32 * a = i by omega]
        · rw [pk_un e, h j]
          by_cases e2 : 32 * a ≤ j ∧ j < 32 * a + i
          · rw [if_pos e2, if_pos (by omega)]
          · rw [if_neg e2, if_neg (by omega)])
      refine ⟨S', ?_, z2⟩
      rw [← z1]
      show b_Model_sizeOf_3 (nI a) (lN A) (lp_ (b_Model_sizeOf_3 (nI a) (lN A)) m) _ = _
      generalize lp_ (b_Model_sizeOf_3 (nI a) (lN A)) m = rc
      rw [e_Model_sizeOf_3]
      rw [show (32 : Int32) * nI a + nI i = nI (32 * a + i) from by rw [show (32 : Int32) * nI a = nI (32 * a) from pk_mul 32 a, nI_add], nI_1, sar_mask (s := 16 * i) (k := 16) (sh16 i (by omega)) (by decide) (by omega) hA, lN_i]
      refine ifn (rnle 4 (by omega)) (ifp (inB_n (by omega)) ?_)
      rw [nI_clamp (by omega)]
  exact run 4 0 5000 S (by omega) (by omega) (fun j => by rw [if_neg (by omega)])
theorem vl_low4 {A : Nat} (hA : A < 2 ^ 64) {g g' : Nat → Nat} (h0 : ∀ k, k < 4 → g' k = A / 2 ^ (16 * k) % 2 ^ 16) (h1 : ∀ k, g' (4 + k) = g k) (n : Nat) : vl B16 g' (4 + n) = A + 2 ^ 64 * vl B16 g n := by
  rw [vl_app, show B16 ^ 4 = 2 ^ 64 from by decide]
  have e1 : vl B16 (fun j => g' (4 + j)) n = vl B16 g n := vl_congr (fun i _ => h1 i)
  have e2 : vl B16 g' 4 = A := by
    show 0 + g' 0 * B16 ^ 0 + g' 1 * B16 ^ 1 + g' 2 * B16 ^ 2 + g' 3 * B16 ^ 3 = A
    rw [h0 0 (by omega), h0 1 (by omega), h0 2 (by omega), h0 3 (by omega)]
    show 0 + A / 2 ^ 0 % 2 ^ 16 * 1 + A / 2 ^ 16 % 2 ^ 16 * 65536 + A / 2 ^ 32 % 2 ^ 16 * 4294967296 + A / 2 ^ 48 % 2 ^ 16 * 281474976710656 = A
    omega
  rw [e1, e2]
theorem size_both {n : Nat} {ARGS : Nat → Option Nat} {ar : Nat → AR} {KI WI BE S SC TX LE : Nat → Int32} {VAL PA : Nat → Int64} (h : agOK n ARGS ar KI WI BE S SC TX LE VAL PA) (mb : Bool) (v : Int64) : (n = 12 ∧ f_Desk_sizen (nI n) = some (-1) ∧ f_Model_size 5000 (nI n) KI VAL BE S (bI mb) v = some (-1, nI n, KI, VAL, BE, S)) ∨
    (n < 12 ∧ ∃ ws' S', f_Desk_sizey 5000 ARGS (nI n) (ar n).1 (ar n).2.2.1 (bI mb) v = some (nI (n + 1), nI (n + 1), 4, bI mb, 0, 0, 0, none, ws') ∧ f_Model_size 5000 (nI n) KI VAL BE S (bI mb) v = some (nI (n + 1), nI (n + 1), upd KI n 4, vp_updL VAL n 0, upd BE n (bI mb), S') ∧ agOK (n + 1) ARGS (va_up ar n ((ar n).1, (ar n).2.1, ws', 4, bI mb, 0, 0, 0, none)) (upd KI n 4) WI (upd BE n (bI mb)) S' SC TX LE (vp_updL VAL n 0) PA) := by
  by_cases hn : n < 12
  · right
    obtain ⟨A, hA, rfl⟩ := wb_of v
    obtain ⟨ws', a1, a2, a3⟩ := de_take hn (h.2.1 n hn) (ar n).2.2.1 4 (bI mb) (lN A)
    obtain ⟨S1, b1, b2⟩ := mo_arg hn KI BE S VAL 4 0 mb
    obtain ⟨S', c1, c2⟩ := mo_sizeOf hn hA S1
    refine ⟨hn, ws', S', ?_, ?_, ?_⟩
    · unfold f_Desk_sizey
      exact bnd a1 rfl
    · unfold f_Model_size
      refine bnd b1 ?_
      show (if nI (n + 1) ≤ 0 then _ else ((f_Model_sizeOf 5000 S1 (nI (n + 1) - (1 : Int32)) (lN A)).bind fun u_20 => some (nI (n + 1), nI (n + 1), upd KI n 4, vp_updL VAL n 0, upd BE n (bI mb), u_20))) = _
      rw [show nI (n + 1) - (1 : Int32) = nI n from nI_pred n]
      exact ifn (nI_nle (by omega) (by omega)) (bnd c1 rfl)
    · refine ag_push h hn rfl (show 4 < 8 by omega) ?_ updN (fun _ _ => rfl) updN (fun _ _ => rfl) (fun _ _ => rfl) updLN (fun _ _ => rfl) (fun j hj => by rw [c2 j, if_neg (by omega), b2 j, if_neg (by omega)]) (fun _ _ => rfl)
      refine ⟨show 4 < 8 by omega, pk_us, mb, rfl, pk_us, fun _ => rfl, fun hk => absurd hk (by show ¬ (4 : Nat) = 1; decide), fun hk => absurd hk (by show ¬ (4 : Nat) = 2; decide), fun hk => absurd hk (by show ¬ (4 : Nat) = 3; decide), fun _ => rfl, fun _ => ?_, fun hk => absurd hk (by show ¬ ((4 : Nat) = 5 ∨ (4 : Nat) = 6); decide), fun hk => absurd hk (by show ¬ (4 : Nat) = 6; decide), fun hk => absurd hk (by show ¬ (4 : Nat) = 7; decide)⟩
      refine ⟨fun k => if k < 4 then A / 2 ^ (16 * k) % 2 ^ 16 else 0, fun k hk => ?_, ?_⟩
      · show S' (32 * n + k) = nI (if k < 4 then A / 2 ^ (16 * k) % 2 ^ 16 else 0) ∧ (if k < 4 then A / 2 ^ (16 * k) % 2 ^ 16 else 0) < B16
        rw [c2]
        by_cases h4 : k < 4
        · rw [if_pos (by omega), show 32 * n + k - 32 * n = k by omega, if_pos h4]
          exact ⟨rfl, Nat.mod_lt _ (by decide)⟩
        · rw [if_neg (by omega), b2, if_pos (by omega), if_neg h4]
          exact ⟨rfl, by decide⟩
      · have e := vl_low4 hA (g := fun _ => 0) (g' := fun k => if k < 4 then A / 2 ^ (16 * k) % 2 ^ 16 else 0) (fun k hk => if_pos hk) (fun k => if_neg (by omega)) 28
        rw [vl_low0 28 (fun _ _ => rfl), Nat.mul_zero, Nat.add_zero] at e
        rw [show (32 : Nat) = 4 + 28 from rfl, e]
        exact (sz_one hA a2 a3).symm
  · left
    have e : n = 12 := by have := h.1; omega
    subst e
    refine ⟨rfl, ?_, ?_⟩
    · unfold f_Desk_sizen
      exact bnd de_taken rfl
    · unfold f_Model_size
      exact bnd (mo_argn _ _ _ _ _ _ _) (ifp (show (-1 : Int32) ≤ 0 by decide) rfl)
theorem ag_set {n : Nat} {ARGS : Nat → Option Nat} {ar : Nat → AR} {KI WI BE S SC TX LE KI' S' SC' : Nat → Int32} {VAL PA : Nat → Int64} (h : agOK (n + 1) ARGS ar KI WI BE S SC TX LE VAL PA) {A : AR} (hA : A.1 = (ar n).1) (hk : A.2.2.2.1 < 8) (hnew : arOK A KI' WI BE S' SC' TX LE VAL PA n) (h1 : ∀ a, a < n → KI' a = KI a) (h4 : ∀ a, a < n → SC' a = SC a) (h8 : ∀ j, j < 32 * n → S' j = S j) : agOK (n + 1) ARGS (va_up ar n A) KI' WI BE S' SC' TX LE VAL PA := by
  have h0 : agOK n ARGS ar KI WI BE S SC TX LE VAL PA := ⟨by have := h.1; omega, h.2.1, h.2.2.1, fun i hi => h.2.2.2 i (by omega)⟩
  exact ag_push h0 (by have := h.1; omega) hA hk hnew h1 (fun _ _ => rfl) (fun _ _ => rfl) h4 (fun _ _ => rfl) (fun _ _ => rfl) (fun _ _ => rfl) h8 (fun _ _ => rfl)
theorem de_latest {ARGS : Nat → Option Nat} {n q : Nat} (hn : n < 12) (hq : ARGS n = some q) : f_Desk_latestArgumenty ARGS (nI (n + 1)) q = some () := by
  unfold f_Desk_latestArgumenty f_Desk_argumentOfy
  rw [show nI (n + 1) - (1 : Int32) = nI n from nI_pred n, nI_clamp (by omega)]
  refine bnd (ifn (qnlt 1 (by omega)) (ifn (nI_nlt (Nat.le_refl _) (by omega)) (ifp (nI_le (by omega) (by omega)) (ifp (inB_n hn) (ifp hq rfl))))) rfl
theorem de_latest0 : f_Desk_latestArgumentn (nI 0) = some () := by
  unfold f_Desk_latestArgumentn f_Desk_argumentOfn
  exact bnd (ifp (by decide) rfl) rfl
theorem scale_both {n : Nat} {ARGS : Nat → Option Nat} {ar : Nat → AR} {KI WI BE S SC TX LE : Nat → Int32} {VAL PA : Nat → Int64} (h : agOK (n + 1) ARGS ar KI WI BE S SC TX LE VAL PA) (x : Int32) : ∃ (o : Int32) (k' : Nat) (lo' : Int32) (KI' SC' : Nat → Int32), f_Desk_scaley ARGS (nI (n + 1)) (ar n).1 (ar n).2.2.2.1 (ar n).2.2.2.2.2.2.2.1 x = some (o, k', lo') ∧ f_Model_scale (nI (n + 1)) KI SC x = some (o, KI', SC') ∧ agOK (n + 1) ARGS (va_up ar n ((ar n).1, (ar n).2.1, (ar n).2.2.1, k', (ar n).2.2.2.2.1, (ar n).2.2.2.2.2.1, (ar n).2.2.2.2.2.2.1, lo', (ar n).2.2.2.2.2.2.2.2)) KI' WI BE S SC' TX LE VAL PA := by
  have hn : n < 12 := by have := h.1; omega
  have ha := h.2.2.2 n (by omega)
  have hk8 := ha.1
  have hKI := ha.2.1
  have same : ∀ A : AR, A = ar n → agOK (n + 1) ARGS (va_up ar n A) KI WI BE S SC TX LE VAL PA := fun A e => by rw [e, va_up_id]; exact h
  have e1 : nI (n + 1) - (1 : Int32) = nI n := nI_pred n
  unfold f_Desk_scaley f_Model_scale
  rw [e1, nI_clamp (by omega), hKI]
  have h12 : inB (nI n) 12 = true := inB_n hn
  by_cases h4 : (ar n).2.2.2.1 = 4
  · by_cases x1 : x < -400
    · exact ⟨-1, _, _, KI, SC, bnd (de_latest hn (h.2.1 n hn)) (ifp h4 (ifp x1 rfl)), ifn (nI_pos (by omega)) (ifp h12 (ifp (qeq 4 h4) (ifp x1 rfl))), same _ rfl⟩
    · by_cases x2 : x ≤ 400
      · obtain ⟨z, hz, rfl⟩ : ∃ z : Int, (-400 ≤ z ∧ z ≤ 400) ∧ x = iI z := by
          refine ⟨x.toInt, ?_, ?_⟩
          · rw [Int32.lt_iff_toInt_lt] at x1
            rw [Int32.le_iff_toInt_le] at x2
            have q1 : (-400 : Int32).toInt = -400 := by decide
            have q2 : (400 : Int32).toInt = 400 := by decide
            omega
          · exact (Int32.ofInt_toInt x).symm
        refine ⟨nI (n + 1), 5, iI (-z), upd KI n 5, upd SC n (iI z), ?_, ifn (nI_pos (by omega)) (ifp h12 (ifp (qeq 4 h4) (ifn x1 (ifp x2 (ifp h12 (ifp h12 rfl)))))), ?_⟩
        · rw [← iI_neg]
          exact bnd (de_latest hn (h.2.1 n hn)) (ifp h4 (ifn x1 (ifp x2 rfl)))
        · obtain ⟨g0, g1, mb, g2, g3, g4, g5, g6, g7, g8, g9, g10, g11, g12⟩ := ha
          refine ag_set h rfl (show 5 < 8 by omega) ?_ updN updN (fun _ _ => rfl)
          refine ⟨show 5 < 8 by omega, pk_us, mb, g2, g3, fun _ => g4 (by omega), fun hk => absurd hk (by show ¬ (5 : Nat) = 1; decide), fun hk => absurd hk (by show ¬ (5 : Nat) = 2; decide), fun hk => absurd hk (by show ¬ (5 : Nat) = 3; decide), fun hk => absurd hk (by show ¬ (5 : Nat) = 4; decide), fun _ => g9 (Or.inl h4), fun _ => ⟨-z, by omega, by omega, rfl, ?_⟩, fun hk => absurd hk (by show ¬ (5 : Nat) = 6; decide), fun hk => absurd hk (by show ¬ (5 : Nat) = 7; decide)⟩
          rw [pk_us, Int.neg_neg]
      · exact ⟨-1, _, _, KI, SC, bnd (de_latest hn (h.2.1 n hn)) (ifp h4 (ifn x1 (ifn x2 rfl))), ifn (nI_pos (by omega)) (ifp h12 (ifp (qeq 4 h4) (ifn x1 (ifn x2 rfl)))), same _ rfl⟩
  · exact ⟨-1, _, _, KI, SC, bnd (de_latest hn (h.2.1 n hn)) (ifn h4 rfl), ifn (nI_pos (by omega)) (ifp h12 (ifn (qne 4 h4) rfl)), same _ rfl⟩
theorem fraction_both {n : Nat} {ARGS : Nat → Option Nat} {ar : Nat → AR} {KI WI BE S SC TX LE : Nat → Int32} {VAL PA : Nat → Int64} (h : agOK n ARGS ar KI WI BE S SC TX LE VAL PA) (v d : Int64) (t : Int32) (lt : Option Nat) : (f_Desk_fractionn (nI n) v d t = some (-1) ∧ f_Model_fraction 5000 (nI n) KI VAL BE S SC PA v d t = some (-1, nI n, KI, VAL, BE, S, SC, PA)) ∨
    (n < 12 ∧ ∃ mi ws' BE' S' SC' PA', f_Desk_fractiony 5000 ARGS (nI n) (ar n).1 (ar n).2.2.1 (ar n).2.2.2.1 (ar n).2.2.2.2.1 (ar n).2.2.2.2.2.1 (ar n).2.2.2.2.2.2.1 (ar n).2.2.2.2.2.2.2.1 lt v d t = some (nI (n + 1), nI (n + 1), 6, mi, v, 0, t, none, ws') ∧ bl mi ∧ f_Model_fraction 5000 (nI n) KI VAL BE S SC PA v d t = some (nI (n + 1), nI (n + 1), upd KI n 6, vp_updL VAL n v, BE', S', SC', PA') ∧ agOK (n + 1) ARGS (va_up ar n ((ar n).1, (ar n).2.1, ws', 6, mi, v, 0, t, none)) (upd KI n 6) WI BE' S' SC' TX LE (vp_updL VAL n v) PA') := by
  unfold f_Desk_fractionn f_Model_fraction f_Desk_fractiony
  by_cases x1 : lg_cmp d 0 < 0
  · exact Or.inl ⟨ifp x1 rfl, ifp x1 rfl⟩
  by_cases x2 : 0 < lg_cmp d 99999999999999999
  · exact Or.inl ⟨ifn x1 (ifp x2 rfl), ifn x1 (ifp x2 rfl)⟩
  by_cases x3 : t < -400
  · exact Or.inl ⟨ifn x1 (ifn x2 (ifp x3 rfl)), ifn x1 (ifn x2 (ifp x3 rfl))⟩
  by_cases x4 : t ≤ 400
  · obtain ⟨V, hV, rfl⟩ := wb_of v
    obtain ⟨dn, hdn, rfl⟩ := pk_lOf (x := d) (fun z => x1 ((lg_cmp_lt _ _).mpr z))
    have hd17 : dn < 10 ^ 17 := by
      rw [lg_cmp_gt, show (99999999999999999 : Int64) = lN 99999999999999999 from rfl, pk_lLT (by omega) (by omega)] at x2
      omega
    obtain ⟨z, hz, rfl⟩ : ∃ z : Int, (-400 ≤ z ∧ z ≤ 400) ∧ t = iI z := by
      refine ⟨t.toInt, ?_, ?_⟩
      · rw [Int32.lt_iff_toInt_lt] at x3
        rw [Int32.le_iff_toInt_le] at x4
        have q1 : (-400 : Int32).toInt = -400 := by decide
        have q2 : (400 : Int32).toInt = 400 := by decide
        omega
      · exact (Int32.ofInt_toInt t).symm
    have hneg := lN_neg hV
    have hge : 0 ≤ lg_cmp (lN V) 0 ↔ V < 2 ^ 63 := by
      rw [lg_cmp_ge]
      constructor
      · intro z
        by_cases q : V < 2 ^ 63
        · exact q
        · exfalso
          have := hneg.mpr (by omega)
          rw [Int64.lt_iff_toInt_lt] at this
          rw [Int64.le_iff_toInt_le] at z
          omega
      · intro z
        have : ¬ lN V < 0 := fun y => by have := hneg.mp y; omega
        rw [Int64.lt_iff_toInt_lt] at this
        rw [Int64.le_iff_toInt_le]
        omega
    by_cases hn : n < 12
    · right
      obtain ⟨ws', a1, a2, a3⟩ := de_take hn (h.2.1 n hn) (ar n).2.2.1 6 (bI (decide (2 ^ 63 ≤ V))) (lN dn)
      obtain ⟨S', b1, b2⟩ := mo_arg hn KI BE S VAL 6 (lN V) (decide (2 ^ 63 ≤ V))
      refine ⟨hn, bI (decide (2 ^ 63 ≤ V)), ws', upd BE n (bI (decide (2 ^ 63 ≤ V))), S', upd SC n (-(iI z)), vp_updL PA n (lN dn), ?_, ?_, ?_, ?_⟩
      · refine ifn x1 (ifn x2 (ifn x3 (ifp x4 ?_)))
        unfold k_Desk_fractiony_47
        try dsimp only
        by_cases hp : V < 2 ^ 63
        · rw [show decide (2 ^ 63 ≤ V) = false from decide_eq_false (by omega)] at a1 ⊢
          exact ifp (hge.mpr hp) (bnd a1 (ifp (h.2.2.1 n hn) rfl))
        · rw [show decide (2 ^ 63 ≤ V) = true from decide_eq_true (by omega)] at a1 ⊢
          exact ifn (fun y => hp (hge.mp y)) (bnd a1 (ifp (h.2.2.1 n hn) rfl))
      · cases decide (2 ^ 63 ≤ V) with
        | true => exact bl_1
        | false => exact bl_0
      · refine ifn x1 (ifn x2 (ifn x3 (ifp x4 ?_)))
        unfold k_Model_fraction_47
        try dsimp only
        have fin : ∀ X, X = bI (decide (2 ^ 63 ≤ V)) → ((f_Model_argument 5000 (nI n) KI VAL BE S 6 (lN V) X).bind fun u_47 => (if 0 ≤ u_47.1 then (if inB (u_47.1 - (1 : Int32)) 12 = true then (if inB (u_47.1 - (1 : Int32)) 12 = true then some (u_47.1, u_47.2.1, u_47.2.2.1, u_47.2.2.2.1, u_47.2.2.2.2.1, u_47.2.2.2.2.2, (upd SC (u_47.1 - (1 : Int32)).toNatClampNeg (-(iI z))), (vp_updL PA (u_47.1 - (1 : Int32)).toNatClampNeg (lN dn))) else none) else none) else some ((-1 : Int32), u_47.2.1, u_47.2.2.1, u_47.2.2.2.1, u_47.2.2.2.2.1, u_47.2.2.2.2.2, SC, PA))) = some (nI (n + 1), nI (n + 1), upd KI n 6, vp_updL VAL n (lN V), upd BE n (bI (decide (2 ^ 63 ≤ V))), S', upd SC n (-(iI z)), vp_updL PA n (lN dn)) := by
          intro X hX
          rw [hX]
          refine bnd b1 ?_
          show (if 0 ≤ nI (n + 1) then (if inB (nI (n + 1) - (1 : Int32)) 12 = true then (if inB (nI (n + 1) - (1 : Int32)) 12 = true then some (nI (n + 1), nI (n + 1), upd KI n 6, vp_updL VAL n (lN V), upd BE n (bI (decide (2 ^ 63 ≤ V))), S', (upd SC (nI (n + 1) - (1 : Int32)).toNatClampNeg (-(iI z))), (vp_updL PA (nI (n + 1) - (1 : Int32)).toNatClampNeg (lN dn))) else none) else none) else _) = _
          rw [show nI (n + 1) - (1 : Int32) = nI n from nI_pred n, nI_clamp (by omega)]
          exact ifp (nI_pos' (by omega)) (ifp (inB_n hn) (ifp (inB_n hn) rfl))
        by_cases hp : V < 2 ^ 63
        · exact ifp (hge.mpr hp) (fin 0 (by rw [show decide (2 ^ 63 ≤ V) = false from decide_eq_false (by omega)]; rfl))
        · exact ifn (fun y => hp (hge.mp y)) (fin 1 (by rw [show decide (2 ^ 63 ≤ V) = true from decide_eq_true (by omega)]; rfl))
      · refine ag_push h hn rfl (show 6 < 8 by omega) ?_ updN (fun _ _ => rfl) updN updN (fun _ _ => rfl) updLN updLN (fun j hj => by rw [b2 j, if_neg (by omega)]) (fun _ _ => rfl)
        refine ⟨show 6 < 8 by omega, pk_us, decide (2 ^ 63 ≤ V), rfl, pk_us, fun _ => rfl, fun hk => absurd hk (by show ¬ (6 : Nat) = 1; decide), fun hk => absurd hk (by show ¬ (6 : Nat) = 2; decide), fun hk => absurd hk (by show ¬ (6 : Nat) = 3; decide), fun hk => absurd hk (by show ¬ (6 : Nat) = 4; decide), fun hk => absurd hk (by show ¬ ((6 : Nat) = 4 ∨ (6 : Nat) = 5); decide), fun _ => ⟨z, hz.1, hz.2, rfl, by rw [pk_us, iI_neg]⟩, fun _ => ⟨V, dn, hV, pk_uLs, rfl, rfl, hd17, pk_uLs, a2, a3⟩, fun hk => absurd hk (by show ¬ (6 : Nat) = 7; decide)⟩
    · left
      have e : n = 12 := by have := h.1; omega
      subst e
      refine ⟨ifn x1 (ifn x2 (ifn x3 (ifp x4 ?_))), ifn x1 (ifn x2 (ifn x3 (ifp x4 ?_)))⟩
      · unfold k_Desk_fractionn_47
        try dsimp only
        rw [ite_self]
        exact bnd de_taken rfl
      · unfold k_Model_fraction_47
        try dsimp only
        by_cases hp : 0 ≤ lg_cmp (lN V) 0
        · exact ifp hp (bnd (mo_argn _ _ _ _ _ _ _) (ifn (show ¬ (0 : Int32) ≤ -1 by decide) rfl))
        · exact ifn hp (bnd (mo_argn _ _ _ _ _ _ _) (ifn (show ¬ (0 : Int32) ≤ -1 by decide) rfl))
  · exact Or.inl ⟨ifn x1 (ifn x2 (ifn x3 (ifn x4 rfl))), ifn x1 (ifn x2 (ifn x3 (ifn x4 rfl)))⟩
