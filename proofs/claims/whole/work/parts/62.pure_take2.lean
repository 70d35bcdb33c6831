theorem character_both {n : Nat} {ARGS : Nat → Option Nat} {ar : Nat → AR} {KI WI BE S SC TX LE : Nat → Int32} {VAL PA : Nat → Int64} (h : agOK n ARGS ar KI WI BE S SC TX LE VAL PA) (x : Int32) (lt : Option Nat) : (f_Desk_charactern (nI n) x = some (-1) ∧ f_Model_character 5000 (nI n) KI VAL BE S x = some (-1, nI n, KI, VAL, BE, S)) ∨
    (n < 12 ∧ ∃ ws' S', f_Desk_charactery 5000 ARGS (nI n) (ar n).1 (ar n).2.2.1 (ar n).2.2.2.1 (ar n).2.2.2.2.1 (ar n).2.2.2.2.2.1 (ar n).2.2.2.2.2.2.1 (ar n).2.2.2.2.2.2.2.1 lt x = some (nI (n + 1), nI (n + 1), 2, 0, 0, 0, 0, none, ws') ∧ f_Model_character 5000 (nI n) KI VAL BE S x = some (nI (n + 1), nI (n + 1), upd KI n 2, vp_updL VAL n x.toInt64, upd BE n 0, S') ∧ agOK (n + 1) ARGS (va_up ar n ((ar n).1, (ar n).2.1, ws', 2, 0, 0, 0, 0, none)) (upd KI n 2) WI (upd BE n 0) S' SC TX LE (vp_updL VAL n x.toInt64) PA) := by
  unfold f_Desk_charactern f_Model_character f_Desk_charactery
  by_cases h1 : x < 1
  · exact Or.inl ⟨ifp h1 rfl, ifp h1 rfl⟩
  · by_cases h2 : x ≤ 126
    · obtain ⟨c, hc, rfl⟩ : ∃ c : Nat, c ≤ 126 ∧ x = nI c := nI_of2 (M := 126) (n := 126) (by decide) (fun z => h1 (by
        rw [Int32.lt_iff_toInt_lt] at z ⊢
        have : (0 : Int32).toInt = 0 := by decide
        have : (1 : Int32).toInt = 1 := by decide
        omega)) h2
      have hc1 : 1 ≤ c := by
        by_cases e : 1 ≤ c
        · exact e
        · exfalso
          have : c = 0 := by omega
          subst this
          exact h1 (by decide)
      by_cases hn : n < 12
      · right
        obtain ⟨ws', a1, a2, a3⟩ := de_take hn (h.2.1 n hn) (ar n).2.2.1 2 0 (nI c).toInt64
        obtain ⟨S', b1, b2⟩ := mo_arg hn KI BE S VAL 2 (nI c).toInt64 false
        exact ⟨hn, ws', S', ifn h1 (ifp h2 (bnd a1 rfl)), ifn h1 (ifp h2 (bnd b1 rfl)), tk_plain h hn (kd := 2) (by omega) (fun z => by omega) (fun _ => ⟨c, hc1, hc, nI_l (by omega)⟩) a2 b2⟩
      · left
        have e : n = 12 := by have := h.1; omega
        subst e
        exact ⟨ifn h1 (ifp h2 (bnd de_taken rfl)), ifn h1 (ifp h2 (bnd (mo_argn _ _ _ _ _ _ _) rfl))⟩
    · exact Or.inl ⟨ifn h1 (ifn h2 rfl), ifn h1 (ifn h2 rfl)⟩
theorem wh_sign {A wd : Nat} (hA : A < 2 ^ 64) (hw : wd = 8 ∨ wd = 16 ∨ wd = 32 ∨ wd = 64) : ∃ V, shOK V wd ∧ (lN A <<< (((64 : Int32) - nI wd).toInt64 &&& 63)) >>> (((64 : Int32) - nI wd).toInt64 &&& 63) = lN V ∧ ((lN A <<< (((64 : Int32) - nI wd).toInt64 &&& 63)).toUInt64 >>> (((64 : Int32) - nI wd).toInt64.toUInt64 &&& Int64.toUInt64 63)).toInt64 = lN (V % 2 ^ wd) := by
  have es : (64 : Int32) - nI wd = nI (64 - wd) := pk_sub (a := 64) (by omega)
  rw [es]
  have e1 : lN A <<< ((nI (64 - wd)).toInt64 &&& 63) = lN (A % 2 ^ wd * 2 ^ (64 - wd)) := by
    rw [wb_shl A (by omega), wb_mod]
    congr 1
    rcases hw with rfl | rfl | rfl | rfl
    · show A * 2 ^ 56 % 2 ^ 64 = A % 2 ^ 8 * 2 ^ 56; omega
    · show A * 2 ^ 48 % 2 ^ 64 = A % 2 ^ 16 * 2 ^ 48; omega
    · show A * 2 ^ 32 % 2 ^ 64 = A % 2 ^ 32 * 2 ^ 32; omega
    · show A * 2 ^ 0 % 2 ^ 64 = A % 2 ^ 64 * 2 ^ 0; omega
  have hX : A % 2 ^ wd < 2 ^ wd := Nat.mod_lt _ (pw_pos (by omega) wd)
  generalize A % 2 ^ wd = X at e1 hX
  have hXs : X * 2 ^ (64 - wd) < 2 ^ 64 := by
    rcases hw with rfl | rfl | rfl | rfl
    · show X * 2 ^ 56 < 2 ^ 64; omega
    · show X * 2 ^ 48 < 2 ^ 64; omega
    · show X * 2 ^ 32 < 2 ^ 64; omega
    · show X * 2 ^ 0 < 2 ^ 64; omega
  have hmod : ∀ V, V = (if X < 2 ^ (wd - 1) then X else X + 2 ^ 64 - 2 ^ wd) → shOK V wd ∧ V % 2 ^ wd = X := by
    intro V hV
    have hlt : V < 2 ^ 64 ∧ (V < 2 ^ (wd - 1) ∨ 2 ^ 64 - 2 ^ (wd - 1) ≤ V) ∧ V % 2 ^ wd = X := by
      by_cases hx : X < 2 ^ (wd - 1)
      · rw [if_pos hx] at hV
        subst hV
        rcases hw with rfl | rfl | rfl | rfl <;> omega
      · rw [if_neg hx] at hV
        subst hV
        rcases hw with rfl | rfl | rfl | rfl <;> omega
    exact ⟨⟨hlt.1, hw, hlt.2.1⟩, hlt.2.2⟩
  obtain ⟨h1, h2⟩ := hmod _ rfl
  refine ⟨_, h1, ?_, ?_⟩
  · rw [e1]
    apply Int64.toInt_inj.mp
    have hS : (((nI (64 - wd)).toInt64 &&& 63).toBitVec.smod 64).toNat = 64 - wd := by
      rw [wb_c _ (by omega), wb_tb, wb_sm _ (by omega), BitVec.toNat_ofNat]
      omega
    have e2 : (lN (X * 2 ^ (64 - wd)) >>> ((nI (64 - wd)).toInt64 &&& 63)).toInt = (lN (X * 2 ^ (64 - wd))).toInt >>> (64 - wd) := by
      have h : ∀ (x S : Int64) (t : Nat), (S.toBitVec.smod 64).toNat = t → (x >>> S).toInt = x.toInt >>> t := by
        intro x S t hS
        subst hS
        exact BitVec.toInt_sshiftRight
      exact h _ _ _ hS
    have ti : ∀ y : Nat, y < 2 ^ 64 → (lN y).toInt = if 2 * y < 2 ^ 64 then (y : Int) else (y : Int) - (2 ^ 64 : Nat) := by
      intro y hy
      have := BitVec.toInt_eq_toNat_cond (lN y).toBitVec
      rw [wb_tn hy] at this
      exact this
    rw [e2, ti _ hXs, ti _ h1.1, Int.shiftRight_eq_div_pow]
    rcases hw with rfl | rfl | rfl | rfl
    · by_cases hx : X < 2 ^ 7
      · rw [if_pos (show X < 2 ^ (8 - 1) from hx), if_pos (show 2 * (X * 2 ^ (64 - 8)) < 2 ^ 64 by show 2 * (X * 2 ^ 56) < 2 ^ 64; omega), if_pos (by omega)]
        show ((X * 2 ^ 56 : Nat) : Int) / ((2 ^ 56 : Nat) : Int) = (X : Int)
        omega
      · rw [if_neg (show ¬ X < 2 ^ (8 - 1) from hx), if_neg (show ¬ 2 * (X * 2 ^ (64 - 8)) < 2 ^ 64 by show ¬ 2 * (X * 2 ^ 56) < 2 ^ 64; omega), if_neg (by omega)]
        show (((X * 2 ^ 56 : Nat) : Int) - ((2 ^ 64 : Nat) : Int)) / ((2 ^ 56 : Nat) : Int) = ((X + 2 ^ 64 - 2 ^ 8 : Nat) : Int) - ((2 ^ 64 : Nat) : Int)
        omega
    · by_cases hx : X < 2 ^ 15
      · rw [if_pos (show X < 2 ^ (16 - 1) from hx), if_pos (show 2 * (X * 2 ^ (64 - 16)) < 2 ^ 64 by show 2 * (X * 2 ^ 48) < 2 ^ 64; omega), if_pos (by omega)]
        show ((X * 2 ^ 48 : Nat) : Int) / ((2 ^ 48 : Nat) : Int) = (X : Int)
        omega
      · rw [if_neg (show ¬ X < 2 ^ (16 - 1) from hx), if_neg (show ¬ 2 * (X * 2 ^ (64 - 16)) < 2 ^ 64 by show ¬ 2 * (X * 2 ^ 48) < 2 ^ 64; omega), if_neg (by omega)]
        show (((X * 2 ^ 48 : Nat) : Int) - ((2 ^ 64 : Nat) : Int)) / ((2 ^ 48 : Nat) : Int) = ((X + 2 ^ 64 - 2 ^ 16 : Nat) : Int) - ((2 ^ 64 : Nat) : Int)
        omega
    · by_cases hx : X < 2 ^ 31
      · rw [if_pos (show X < 2 ^ (32 - 1) from hx), if_pos (show 2 * (X * 2 ^ (64 - 32)) < 2 ^ 64 by show 2 * (X * 2 ^ 32) < 2 ^ 64; omega), if_pos (by omega)]
        show ((X * 2 ^ 32 : Nat) : Int) / ((2 ^ 32 : Nat) : Int) = (X : Int)
        omega
      · rw [if_neg (show ¬ X < 2 ^ (32 - 1) from hx), if_neg (show ¬ 2 * (X * 2 ^ (64 - 32)) < 2 ^ 64 by show ¬ 2 * (X * 2 ^ 32) < 2 ^ 64; omega), if_neg (by omega)]
        show (((X * 2 ^ 32 : Nat) : Int) - ((2 ^ 64 : Nat) : Int)) / ((2 ^ 32 : Nat) : Int) = ((X + 2 ^ 64 - 2 ^ 32 : Nat) : Int) - ((2 ^ 64 : Nat) : Int)
        omega
    · by_cases hx : X < 2 ^ 63
      · rw [if_pos (show X < 2 ^ (64 - 1) from hx), if_pos (show 2 * (X * 2 ^ (64 - 64)) < 2 ^ 64 by show 2 * (X * 2 ^ 0) < 2 ^ 64; omega), if_pos (by omega)]
        show ((X * 2 ^ 0 : Nat) : Int) / ((2 ^ 0 : Nat) : Int) = (X : Int)
        omega
      · rw [if_neg (show ¬ X < 2 ^ (64 - 1) from hx), if_neg (show ¬ 2 * (X * 2 ^ (64 - 64)) < 2 ^ 64 by show ¬ 2 * (X * 2 ^ 0) < 2 ^ 64; omega), if_neg (by omega)]
        show (((X * 2 ^ 0 : Nat) : Int) - ((2 ^ 64 : Nat) : Int)) / ((2 ^ 0 : Nat) : Int) = ((X + 2 ^ 64 - 2 ^ 64 : Nat) : Int) - ((2 ^ 64 : Nat) : Int)
        omega
  · rw [e1, wb_shr hXs (by omega), Nat.mul_div_cancel _ (pw_pos (by omega) _), h2]
theorem whole_both {n : Nat} {ARGS : Nat → Option Nat} {ar : Nat → AR} {KI WI BE S SC TX LE : Nat → Int32} {VAL PA : Nat → Int64} (h : agOK n ARGS ar KI WI BE S SC TX LE VAL PA) (v : Int64) (x : Int32) (lt : Option Nat) : (f_Desk_wholen (nI n) v x = some (-1) ∧ f_Model_whole 5000 (nI n) KI VAL WI BE S v x = some (-1, nI n, KI, VAL, WI, BE, S)) ∨
    (n < 12 ∧ ∃ mi bits ws' V BE' S', f_Desk_wholey 5000 ARGS (nI n) (ar n).1 (ar n).2.2.1 (ar n).2.2.2.1 (ar n).2.2.2.2.1 (ar n).2.2.2.2.2.1 (ar n).2.2.2.2.2.2.1 (ar n).2.2.2.2.2.2.2.1 lt v x = some (nI (n + 1), nI (n + 1), 3, mi, bits, x, 0, none, ws') ∧ bl mi ∧ f_Model_whole 5000 (nI n) KI VAL WI BE S v x = some (nI (n + 1), nI (n + 1), upd KI n 3, vp_updL VAL n V, upd WI n x, BE', S') ∧ agOK (n + 1) ARGS (va_up ar n ((ar n).1, (ar n).2.1, ws', 3, mi, bits, x, 0, none)) (upd KI n 3) (upd WI n x) BE' S' SC TX LE (vp_updL VAL n V) PA) := by
  by_cases hx : x = 8 ∨ x = 16 ∨ x = 32 ∨ x = 64
  · have sel : ∀ {α : Type} (X Y : α), (if x = (8 : Int32) then X else (if x = (16 : Int32) then X else (if x = (32 : Int32) then X else (if x = (64 : Int32) then X else Y)))) = X := by
      intro α X Y
      rcases hx with rfl | rfl | rfl | rfl
      · exact ifp rfl rfl
      · exact ifn (by decide) (ifp rfl rfl)
      · exact ifn (by decide) (ifn (by decide) (ifp rfl rfl))
      · exact ifn (by decide) (ifn (by decide) (ifn (by decide) (ifp rfl rfl)))
    obtain ⟨wd, hwd, rfl⟩ : ∃ wd : Nat, (wd = 8 ∨ wd = 16 ∨ wd = 32 ∨ wd = 64) ∧ x = nI wd := by
      rcases hx with rfl | rfl | rfl | rfl
      · exact ⟨8, Or.inl rfl, rfl⟩
      · exact ⟨16, Or.inr (Or.inl rfl), rfl⟩
      · exact ⟨32, Or.inr (Or.inr (Or.inl rfl)), rfl⟩
      · exact ⟨64, Or.inr (Or.inr (Or.inr rfl)), rfl⟩
    obtain ⟨A, hA, rfl⟩ := wb_of v
    obtain ⟨V, hV, e1, e2⟩ := wh_sign hA hwd
    have hneg := lN_neg hV.1
    have hab := lN_abs hV.1
    have hge : 0 ≤ lg_cmp (lN V) 0 ↔ V < 2 ^ 63 := by
      rw [lg_cmp_ge]
      constructor
      · intro z
        by_cases q : V < 2 ^ 63
        · exact q
        · exfalso
          have := hneg.mpr (by omega)
          rw [Int64.lt_iff_toInt_lt] at this
          rw [Int64.le_iff_toInt_le] at z
          omega
      · intro z
        have : ¬ lN V < 0 := fun y => by have := hneg.mp y; omega
        rw [Int64.lt_iff_toInt_lt] at this
        rw [Int64.le_iff_toInt_le]
        omega
    by_cases hn : n < 12
    · right
      obtain ⟨ws', a1, a2, a3⟩ := de_take hn (h.2.1 n hn) (ar n).2.2.1 3 (bI (decide (2 ^ 63 ≤ V))) (lN (shN V))
      obtain ⟨S', b1, b2⟩ := mo_arg hn KI BE S VAL 3 (lN V) (decide (2 ^ 63 ≤ V))
      refine ⟨hn, bI (decide (2 ^ 63 ≤ V)), lN (V % 2 ^ wd), ws', lN V, upd BE n (bI (decide (2 ^ 63 ≤ V))), S', ?_, ?_, ?_, ?_⟩
      · unfold f_Desk_wholey
        rw [sel]
        unfold k_Desk_wholey_26 k_Desk_wholey_57 k_Desk_wholey_72
        try dsimp only
        rw [e1, e2]
        by_cases hp : V < 2 ^ 63
        · rw [decide_eq_false (by omega)] at a1 ⊢
          rw [hab.1 (hge.mpr hp)]
          rw [← hab.1 (hge.mpr hp)]
          refine ifp (hge.mpr hp) (ifp (hge.mpr hp) ?_)
          rw [← hab.1 (hge.mpr hp)] at a1
          exact bnd a1 (ifp (h.2.2.1 n hn) rfl)
        · have hng : ¬ 0 ≤ lg_cmp (lN V) 0 := fun z => hp (hge.mp z)
          rw [decide_eq_true (by omega)] at a1 ⊢
          refine ifn hng (ifn hng ?_)
          rw [← hab.2 hng] at a1
          exact bnd a1 (ifp (h.2.2.1 n hn) rfl)
      · cases decide (2 ^ 63 ≤ V) with
        | true => exact bl_1
        | false => exact bl_0
      · unfold f_Model_whole
        rw [sel]
        unfold k_Model_whole_26 k_Model_whole_55
        try dsimp only
        rw [e1]
        have fin : ((f_Model_argument 5000 (nI n) KI VAL BE S 3 (lN V) (bI (decide (2 ^ 63 ≤ V)))).bind fun u_55 => (if u_55.1 ≤ 0 then some (u_55.1, u_55.2.1, u_55.2.2.1, u_55.2.2.2.1, WI, u_55.2.2.2.2.1, u_55.2.2.2.2.2) else (if inB (u_55.1 - (1 : Int32)) 12 = true then some (u_55.1, u_55.2.1, u_55.2.2.1, u_55.2.2.2.1, (upd WI (u_55.1 - (1 : Int32)).toNatClampNeg (nI wd)), u_55.2.2.2.2.1, u_55.2.2.2.2.2) else none))) = some (nI (n + 1), nI (n + 1), upd KI n 3, vp_updL VAL n (lN V), upd WI n (nI wd), upd BE n (bI (decide (2 ^ 63 ≤ V))), S') := by
          refine bnd b1 ?_
          show (if nI (n + 1) ≤ 0 then _ else (if inB (nI (n + 1) - (1 : Int32)) 12 = true then some (nI (n + 1), nI (n + 1), upd KI n 3, vp_updL VAL n (lN V), upd WI (nI (n + 1) - (1 : Int32)).toNatClampNeg (nI wd), upd BE n (bI (decide (2 ^ 63 ≤ V))), S') else none)) = _
          rw [show nI (n + 1) - (1 : Int32) = nI n from nI_pred n, nI_clamp (by omega)]
          exact ifn (nI_nle (by omega) (by omega)) (ifp (inB_n hn) rfl)
        by_cases hp : V < 2 ^ 63
        · refine ifp (hge.mpr hp) ?_
          rw [show decide (2 ^ 63 ≤ V) = false from decide_eq_false (by omega)] at fin
          rw [show decide (2 ^ 63 ≤ V) = false from decide_eq_false (by omega)]
          exact fin
        · refine ifn (fun z => hp (hge.mp z)) ?_
          rw [show decide (2 ^ 63 ≤ V) = true from decide_eq_true (by omega)] at fin
          rw [show decide (2 ^ 63 ≤ V) = true from decide_eq_true (by omega)]
          exact fin
      · refine ag_push h hn rfl (show 3 < 8 by omega) ?_ updN updN updN (fun _ _ => rfl) (fun _ _ => rfl) updLN (fun _ _ => rfl) (fun j hj => by rw [b2 j, if_neg (by omega)]) (fun _ _ => rfl)
        refine ⟨show 3 < 8 by omega, pk_us, decide (2 ^ 63 ≤ V), rfl, pk_us, fun _ => rfl, fun hk => ?_, fun hk => ?_, fun _ => ⟨V, wd, hV, pk_uLs, pk_us, rfl, rfl, a2, a3, rfl, rfl⟩, fun hk => ?_, fun hk => ?_, fun hk => ?_, fun hk => ?_, fun hk => ?_⟩
        · exact absurd hk (show ¬ (3 : Nat) = 1 by decide)
        · exact absurd hk (show ¬ (3 : Nat) = 2 by decide)
        · exact absurd hk (show ¬ (3 : Nat) = 4 by decide)
        · exact absurd hk (show ¬ ((3 : Nat) = 4 ∨ (3 : Nat) = 5) by decide)
        · exact absurd hk (show ¬ ((3 : Nat) = 5 ∨ (3 : Nat) = 6) by decide)
        · exact absurd hk (show ¬ (3 : Nat) = 6 by decide)
        · exact absurd hk (show ¬ (3 : Nat) = 7 by decide)
    · left
      have e : n = 12 := by have := h.1; omega
      subst e
      refine ⟨?_, ?_⟩
      · unfold f_Desk_wholen
        rw [sel]
        unfold k_Desk_wholen_26 k_Desk_wholen_57 k_Desk_wholen_72
        try dsimp only
        rw [ite_self, ite_self]
        exact bnd de_taken rfl
      · unfold f_Model_whole
        rw [sel]
        unfold k_Model_whole_26 k_Model_whole_55
        try dsimp only
        by_cases hp : 0 ≤ lg_cmp ((lN A <<< (((64 : Int32) - nI wd).toInt64 &&& 63)) >>> (((64 : Int32) - nI wd).toInt64 &&& 63)) 0
        · exact ifp hp (bnd (mo_argn _ _ _ _ _ _ _) (ifp (show (-1 : Int32) ≤ 0 by decide) rfl))
        · exact ifn hp (bnd (mo_argn _ _ _ _ _ _ _) (ifp (show (-1 : Int32) ≤ 0 by decide) rfl))
  · left
    have h1 : ¬ x = 8 := fun z => hx (Or.inl z)
    have h2 : ¬ x = 16 := fun z => hx (Or.inr (Or.inl z))
    have h3 : ¬ x = 32 := fun z => hx (Or.inr (Or.inr (Or.inl z)))
    have h4 : ¬ x = 64 := fun z => hx (Or.inr (Or.inr (Or.inr z)))
    unfold f_Desk_wholen f_Model_whole
    exact ⟨ifn h1 (ifn h2 (ifn h3 (ifn h4 rfl))), ifn h1 (ifn h2 (ifn h3 (ifn h4 rfl)))⟩
