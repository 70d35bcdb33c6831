theorem nI_m1 (k : Nat) : nI (k + 1) + (-1 : Int32) = nI k := by
  rw [← iI_nat, ← iI_nat, show (-1 : Int32) = iI (-1) from rfl, iI_add, show ((k + 1 : Nat) : Int) + -1 = (k : Int) by omega]
theorem nI_m4 (k : Nat) : nI (k + 4) - (4 : Int32) = nI k := by
  rw [← iI_nat, ← iI_nat, show (4 : Int32) = iI 4 from rfl, iI_sub, show ((k + 4 : Nat) : Int) - 4 = (k : Int) by omega]
theorem de_grow {w : Nat → Int64} (v : Int64) (h7 : w 7 = 0) : ∃ w', f_Argument_growBy 5000 w v = some (1, w') ∧ w' 0 = v ∧ ∀ j, 0 < j → j < 8 → w' j = w (j - 1) := by
  have run : ∀ (i m : Nat) (W : Nat → Int64), i ≤ 7 → i < m → (∀ j, j < 8 → W j = if i < j then w (j - 1) else w j) → ∃ w', lp_ (b_Argument_growBy_17 v) m (nI i, W) = some (1, w') ∧ w' 0 = v ∧ ∀ j, 0 < j → j < 8 → w' j = w (j - 1) := by
    intro i
    induction i with
    | zero =>
      intro m W hi hm h
      obtain ⟨m, rfl⟩ : ∃ j, m = j + 1 := ⟨m - 1, by omega⟩
      refine ⟨vp_updL W 0 v, ?_, pk_uLs, fun j h1 h2 => ?_⟩
      · show b_Argument_growBy_17 v (lp_ (b_Argument_growBy_17 v) m) _ = _
        rw [e_Argument_growBy_17]
        exact ifp (by decide) (ifp (by decide) rfl)
      · rw [pk_uLn (by omega), h j h2, if_pos h1]
    | succ i ih =>
      intro m W hi hm h
      obtain ⟨m, rfl⟩ : ∃ j, m = j + 1 := ⟨m - 1, by omega⟩
      obtain ⟨w', z1, z2, z3⟩ := ih m (vp_updL W (i + 1) (W i)) (by omega) (by omega) (fun j hj => by
        by_cases e : j = i + 1
        · subst e
          rw [pk_uLs, if_pos (by omega), h i (by omega), if_neg (by omega)]
          rfl
        · rw [pk_uLn e, h j hj]
          by_cases e2 : i + 1 < j
          · rw [if_pos e2, if_pos (by omega)]
          · rw [if_neg e2, if_neg (by omega)])
      refine ⟨w', ?_, z2, z3⟩
      rw [← z1]
      show b_Argument_growBy_17 v (lp_ (b_Argument_growBy_17 v) m) _ = _
      generalize lp_ (b_Argument_growBy_17 v) m = rc
      rw [e_Argument_growBy_17]
      rw [show nI (i + 1) - (1 : Int32) = nI i from nI_pred i, nI_m1 i]
      refine ifn (nI_nle (by omega) (by omega)) (ifp (inB_n (by omega)) (ifp (inB_n (by omega)) ?_))
      rw [nI_clamp (by omega), nI_clamp (by omega)]
  obtain ⟨w', z1, z2, z3⟩ := run 7 5000 w (by omega) (by omega) (fun j hj => by rw [if_neg (by omega)])
  refine ⟨w', ?_, z2, z3⟩
  unfold f_Argument_growBy
  refine ifp (by decide) (ifp ((lg_cmp_eq _ _).mpr h7) z1)
theorem de_grown {w : Nat → Int64} (v : Int64) (h7 : ¬ w 7 = 0) : f_Argument_growBy 5000 w v = some (0, w) := by
  unfold f_Argument_growBy
  exact ifp (by decide) (ifn (fun z => h7 ((lg_cmp_eq _ _).mp z)) rfl)
theorem mo_more1 {a A : Nat} (ha : a < 12) (hA : A < 2 ^ 64) (S : Nat → Int32) (x : Int32) : ∃ S', lp_ (b_Model_more_71 5000 x (lN A) (nI a)) 5000 (31, S) = some (x, S') ∧ ∀ j, S' j = if 32 * a ≤ j ∧ j < 32 * a + 4 then nI (A / 2 ^ (16 * (j - 32 * a)) % 2 ^ 16) else if 32 * a + 3 < j ∧ j < 32 * a + 32 then S (j - 4) else S j := by
  have run : ∀ (d m : Nat) (T : Nat → Int32), d ≤ 28 → d < m → (∀ j, T j = if 32 * a + (d + 3) < j ∧ j < 32 * a + 32 then S (j - 4) else S j) → ∃ S', lp_ (b_Model_more_71 5000 x (lN A) (nI a)) m (nI (d + 3), T) = some (x, S') ∧ ∀ j, S' j = if 32 * a ≤ j ∧ j < 32 * a + 4 then nI (A / 2 ^ (16 * (j - 32 * a)) % 2 ^ 16) else if 32 * a + 3 < j ∧ j < 32 * a + 32 then S (j - 4) else S j := by
    intro d
    induction d with
    | zero =>
      intro m T hd hm h
      obtain ⟨m, rfl⟩ : ∃ j, m = j + 1 := ⟨m - 1, by omega⟩
      obtain ⟨S', c1, c2⟩ := mo_sizeOf ha hA T
      refine ⟨S', ?_, fun j => ?_⟩
      · show b_Model_more_71 5000 x (lN A) (nI a) (lp_ (b_Model_more_71 5000 x (lN A) (nI a)) m) _ = _
        rw [e_Model_more_71]
        exact ifp (by decide) (bnd c1 rfl)
      · rw [c2 j, h j]
    | succ d ih =>
      intro m T hd hm h
      obtain ⟨m, rfl⟩ : ∃ j, m = j + 1 := ⟨m - 1, by omega⟩
      obtain ⟨S', z1, z2⟩ := ih m (upd T (32 * a + (d + 1 + 3)) (T (32 * a + d))) (by omega) (by omega) (fun j => by
        by_cases e : j = 32 * a + (d + 1 + 3)
        · subst e
          rw [pk_us, if_pos (by omega), h (32 * a + d), if_neg (by omega)]
          rfl
        · rw [pk_un e, h j]
          by_cases e2 : 32 * a + (d + 1 + 3) < j ∧ j < 32 * a + 32
          · rw [if_pos e2, if_pos (by omega)]
          · rw [if_neg e2, if_neg (by omega)])
      refine ⟨S', ?_, z2⟩
      rw [← z1]
      show b_Model_more_71 5000 x (lN A) (nI a) (lp_ (b_Model_more_71 5000 x (lN A) (nI a)) m) _ = _
      generalize lp_ (b_Model_more_71 5000 x (lN A) (nI a)) m = rc
      rw [e_Model_more_71]
      rw [show (32 : Int32) * nI a + nI (d + 1 + 3) = nI (32 * a + (d + 1 + 3)) from by rw [show (32 : Int32) * nI a = nI (32 * a) from pk_mul 32 a, nI_add]]
      rw [show nI (32 * a + (d + 1 + 3)) - (4 : Int32) = nI (32 * a + d) from nI_m4 (32 * a + d), show nI (d + 1 + 3) + (-1 : Int32) = nI (d + 3) from nI_m1 (d + 3)]
      refine ifn (qnle 3 (by omega)) (ifp (inB_n (by omega)) (ifp (inB_n (by omega)) ?_))
      rw [nI_clamp (by omega), nI_clamp (by omega)]
  exact run 28 5000 S (by omega) (by omega) (fun j => by rw [if_neg (by omega)])
theorem mo_more0 {S : Nat → Int32} {a : Nat} (ha : a < 12) {g : Nat → Nat} (hS : szOK S a g) (x : Int32) (v : Int64) : k_Model_more_33 5000 x v (nI a) S = if g 28 = 0 ∧ g 29 = 0 ∧ g 30 = 0 ∧ g 31 = 0 then lp_ (b_Model_more_71 5000 x v (nI a)) 5000 (31, S) else some (-1, S) := by
  have run : ∀ (d i m : Nat), i + d = 32 → d ≤ 4 → d < m → (∀ j, 28 ≤ j → j < i → g j = 0) → lp_ (b_Model_more_37 5000 x v (nI a) S) m (nI i) = if g 28 = 0 ∧ g 29 = 0 ∧ g 30 = 0 ∧ g 31 = 0 then lp_ (b_Model_more_71 5000 x v (nI a)) 5000 (31, S) else some (-1, S) := by
    intro d
    induction d with
    | zero =>
      intro i m hi hd hm h
      obtain ⟨m, rfl⟩ : ∃ j, m = j + 1 := ⟨m - 1, by omega⟩
      rw [if_pos ⟨h 28 (by omega) (by omega), h 29 (by omega) (by omega), h 30 (by omega) (by omega), h 31 (by omega) (by omega)⟩]
      show b_Model_more_37 5000 x v (nI a) S (lp_ (b_Model_more_37 5000 x v (nI a) S) m) _ = _
      rw [e_Model_more_37]
      exact ifp (rle 32 (by omega)) rfl
    | succ d ih =>
      intro i m hi hd hm h
      obtain ⟨m, rfl⟩ : ∃ j, m = j + 1 := ⟨m - 1, by omega⟩
      have hg := hS i (by omega)
      have hlt : g i < 65536 := hg.2
      show b_Model_more_37 5000 x v (nI a) S (lp_ (b_Model_more_37 5000 x v (nI a) S) m) _ = _
      by_cases h0 : g i = 0
      · have hi2 := ih (i + 1) m (by omega) (by omega) (by omega) (fun j h1 h2 => by
          by_cases e : j = i
          · rw [e]; exact h0
          · exact h j h1 (by omega))
        generalize lp_ (b_Model_more_37 5000 x v (nI a) S) m = rc at hi2 ⊢
        rw [e_Model_more_37]
        rw [show (32 : Int32) * nI a + nI i = nI (32 * a + i) from by rw [show (32 : Int32) * nI a = nI (32 * a) from pk_mul 32 a, nI_add], nI_1 i, nI_clamp (by omega), hg.1]
        exact ifn (rnle 32 (by omega)) (ifp (inB_n (by omega)) (ifp (qeq 0 h0) hi2))
      · rw [if_neg (show ¬ (g 28 = 0 ∧ g 29 = 0 ∧ g 30 = 0 ∧ g 31 = 0) from fun z => h0 (by
          obtain ⟨z1, z2, z3, z4⟩ := z
          have : i = 28 ∨ i = 29 ∨ i = 30 ∨ i = 31 := by omega
          rcases this with e | e | e | e <;> (subst e; assumption)))]
        rw [e_Model_more_37]
        rw [show (32 : Int32) * nI a + nI i = nI (32 * a + i) from by rw [show (32 : Int32) * nI a = nI (32 * a) from pk_mul 32 a, nI_add], nI_clamp (by omega), hg.1]
        exact ifn (rnle 32 (by omega)) (ifp (inB_n (by omega)) (ifn (qne 0 h0) rfl))
  exact run 4 28 5000 (by omega) (by omega) (by omega) (fun j h1 h2 => by omega)
theorem top_word {ws : Nat → Int64} {g : Nat → Nat} (hg : ∀ k, k < 32 → g k < B16) (hv : vl B16 g 32 = SZ ws) : (ws 7 = 0 ↔ (g 28 = 0 ∧ g 29 = 0 ∧ g 30 = 0 ∧ g 31 = 0)) ∧ (ws 7 = 0 → vl B16 g 28 = vl (2 ^ 64) (wN ws) 7) := by
  have e1 : vl B16 g 32 = vl B16 g 28 + B16 ^ 28 * vl B16 (fun j => g (28 + j)) 4 := vl_app 4
  have e2 : SZ ws = vl (2 ^ 64) (wN ws) 7 + wN ws 7 * (2 ^ 64) ^ 7 := rfl
  have l1 : vl B16 g 28 < B16 ^ 28 := vl_lt (by decide) (fun i hi => hg i (by omega))
  have l2 : vl (2 ^ 64) (wN ws) 7 < (2 ^ 64) ^ 7 := vl_lt (by decide) (fun i _ => wN_lt ws i)
  have ep : B16 ^ 28 = (2 ^ 64) ^ 7 := by decide +kernel
  have hz := vl_eq0 (b := B16) (by decide) (g := fun j => g (28 + j)) 4
  rw [ep] at e1 l1
  generalize vl B16 (fun j => g (28 + j)) 4 = H at e1 hz
  generalize vl B16 g 28 = L1 at e1 l1 ⊢
  generalize vl (2 ^ 64) (wN ws) 7 = L2 at e2 l2 ⊢
  have hP : 0 < (2 ^ 64) ^ 7 := by decide +kernel
  generalize (2 ^ 64) ^ 7 = P at e1 e2 l1 l2 hP
  have key : L1 + P * H = L2 + wN ws 7 * P := by omega
  have hH : H = wN ws 7 := by
    have d1 : (L1 + P * H) / P = H := by rw [Nat.add_mul_div_left _ _ hP, Nat.div_eq_of_lt l1, Nat.zero_add]
    have d2 : (L2 + wN ws 7 * P) / P = wN ws 7 := by rw [Nat.add_mul_div_right _ _ hP, Nat.div_eq_of_lt l2, Nat.zero_add]
    rw [← d1, key, d2]
  have hL : L1 = L2 := by
    rw [hH, Nat.mul_comm] at key
    omega
  refine ⟨?_, fun _ => hL⟩
  rw [wN_0, ← hH, hz]
  constructor
  · intro z
    exact ⟨z 0 (by omega), z 1 (by omega), z 2 (by omega), z 3 (by omega)⟩
  · intro ⟨z1, z2, z3, z4⟩ i hi
    have : i = 0 ∨ i = 1 ∨ i = 2 ∨ i = 3 := by omega
    rcases this with e | e | e | e <;> (subst e; assumption)
theorem more_both {n : Nat} {ARGS : Nat → Option Nat} {ar : Nat → AR} {KI WI BE S SC TX LE : Nat → Int32} {VAL PA : Nat → Int64} (h : agOK (n + 1) ARGS ar KI WI BE S SC TX LE VAL PA) (v : Int64) : ∃ (o : Int32) (ws' : Nat → Int64) (S' : Nat → Int32), f_Desk_morey 5000 ARGS (nI (n + 1)) (ar n).1 (ar n).2.2.1 (ar n).2.2.2.1 v = some (o, ws') ∧ f_Model_more 5000 (nI (n + 1)) KI S v = some (o, S') ∧ agOK (n + 1) ARGS (va_up ar n ((ar n).1, (ar n).2.1, ws', (ar n).2.2.2)) KI WI BE S' SC TX LE VAL PA := by
  have hn : n < 12 := by have := h.1; omega
  have ha := h.2.2.2 n (by omega)
  have hk8 := ha.1
  have hKI := ha.2.1
  have same : ∀ A : AR, A = ar n → agOK (n + 1) ARGS (va_up ar n A) KI WI BE S SC TX LE VAL PA := fun A e => by rw [e, va_up_id]; exact h
  have e1 : nI (n + 1) - (1 : Int32) = nI n := nI_pred n
  have h12 : inB (nI n) 12 = true := inB_n hn
  by_cases h45 : (ar n).2.2.2.1 = 4 ∨ (ar n).2.2.2.1 = 5
  · have deY : ∀ X, k_Desk_morey_31 5000 (nI (n + 1)) v (ar n).2.2.1 = X → f_Desk_morey 5000 ARGS (nI (n + 1)) (ar n).1 (ar n).2.2.1 (ar n).2.2.2.1 v = X := by
      intro X hX
      unfold f_Desk_morey
      refine bnd (de_latest hn (h.2.1 n hn)) ?_
      by_cases h4 : (ar n).2.2.2.1 = 4
      · exact ifp h4 hX
      · exact ifn h4 (ifp (by omega) hX)
    have moY : ∀ X, k_Model_more_33 5000 (nI (n + 1)) v (nI n) S = X → f_Model_more 5000 (nI (n + 1)) KI S v = X := by
      intro X hX
      unfold f_Model_more
      rw [e1, nI_clamp (by omega), hKI]
      refine ifn (nI_pos (by omega)) (ifp h12 ?_)
      by_cases h4 : (ar n).2.2.2.1 = 4
      · exact ifp (qeq 4 h4) hX
      · exact ifn (qne 4 h4) (ifp h12 (ifp (qeq 5 (by omega)) hX))
    obtain ⟨g0, g1, mb, g2, g3, g4, g5, g6, g7, g8, g9, g10, g11, g12⟩ := ha
    obtain ⟨g, q1, q2⟩ := g9 h45
    obtain ⟨t1, t2⟩ := top_word (fun k hk => (q1 k hk).2) q2
    by_cases h7 : (ar n).2.2.1 7 = 0
    · obtain ⟨A, hA, rfl⟩ := wb_of v
      obtain ⟨ws', a1, a2, a3⟩ := de_grow (lN A) h7
      obtain ⟨S', b1, b2⟩ := mo_more1 hn hA S (nI (n + 1))
      refine ⟨nI (n + 1), ws', S', deY _ ?_, moY _ ?_, ?_⟩
      · unfold k_Desk_morey_31
        exact bnd a1 (ifn (show ¬ (1 : Int32) = 0 by decide) rfl)
      · rw [mo_more0 hn q1, if_pos (t1.mp h7)]
        exact b1
      · refine ag_set h rfl g0 ?_ (fun _ _ => rfl) (fun _ _ => rfl) (fun j hj => by rw [b2 j, if_neg (by omega), if_neg (by omega)])
        refine ⟨g0, g1, mb, g2, g3, g4, fun hk => ?_, fun hk => ?_, fun hk => ?_, g8, fun _ => ?_, g10, fun hk => ?_, g12⟩
        · exact absurd hk (by show ¬ (ar n).2.2.2.1 = 1; rcases h45 with e | e <;> (rw [e]; decide))
        · exact absurd hk (by show ¬ (ar n).2.2.2.1 = 2; rcases h45 with e | e <;> (rw [e]; decide))
        · exact absurd hk (by show ¬ (ar n).2.2.2.1 = 3; rcases h45 with e | e <;> (rw [e]; decide))
        · refine ⟨fun k => if k < 4 then A / 2 ^ (16 * k) % 2 ^ 16 else g (k - 4), fun k hk => ?_, ?_⟩
          · show S' (32 * n + k) = nI (if k < 4 then A / 2 ^ (16 * k) % 2 ^ 16 else g (k - 4)) ∧ (if k < 4 then A / 2 ^ (16 * k) % 2 ^ 16 else g (k - 4)) < B16
            rw [b2]
            by_cases h4 : k < 4
            · rw [if_pos (by omega), show 32 * n + k - 32 * n = k by omega, if_pos h4]
              exact ⟨rfl, Nat.mod_lt _ (by decide)⟩
            · rw [if_neg (by omega), if_pos (by omega), if_neg h4, show 32 * n + k - 4 = 32 * n + (k - 4) by omega]
              exact q1 (k - 4) (by omega)
          · have e := vl_low4 hA (g := g) (g' := fun k => if k < 4 then A / 2 ^ (16 * k) % 2 ^ 16 else g (k - 4)) (fun k hk => if_pos hk) (fun k => by show (if 4 + k < 4 then _ else _) = _; rw [if_neg (by omega), show 4 + k - 4 = k by omega]) 28
            rw [show (32 : Nat) = 4 + 28 from rfl, e, t2 h7]
            show _ = SZ ws'
            have e3 : SZ ws' = vl (2 ^ 64) (wN ws') 1 + (2 ^ 64) ^ 1 * vl (2 ^ 64) (fun j => wN ws' (1 + j)) 7 := vl_app (n := 1) 7
            have e4 : vl (2 ^ 64) (fun j => wN ws' (1 + j)) 7 = vl (2 ^ 64) (wN (ar n).2.2.1) 7 := vl_congr (fun i hi => by
              unfold wN
              rw [a3 (1 + i) (by omega) (by omega), show 1 + i - 1 = i by omega])
            have e5 : vl (2 ^ 64) (wN ws') 1 = A := by
              show 0 + wN ws' 0 * (2 ^ 64) ^ 0 = A
              rw [Nat.pow_zero, Nat.mul_one, Nat.zero_add]
              unfold wN
              rw [a2, wb_tn hA]
            rw [e3, e4, e5, Nat.pow_one]
        · exact absurd hk (by show ¬ (ar n).2.2.2.1 = 6; rcases h45 with e | e <;> (rw [e]; decide))
    · refine ⟨-1, (ar n).2.2.1, S, deY _ ?_, moY _ ?_, same _ rfl⟩
      · unfold k_Desk_morey_31
        exact bnd (de_grown v h7) (ifp rfl rfl)
      · rw [mo_more0 hn q1, if_neg (fun z => h7 (t1.mpr z))]
  · refine ⟨-1, (ar n).2.2.1, S, ?_, ?_, same _ rfl⟩
    · unfold f_Desk_morey
      exact bnd (de_latest hn (h.2.1 n hn)) (ifn (by omega) (ifn (by omega) rfl))
    · unfold f_Model_more
      rw [e1, nI_clamp (by omega), hKI]
      exact ifn (nI_pos (by omega)) (ifp h12 (ifn (qne 4 (by omega)) (ifp h12 (ifn (qne 5 (by omega)) rfl))))
theorem more_none (KI S : Nat → Int32) (v : Int64) : f_Desk_moren (nI 0) = some (-1) ∧ f_Model_more 5000 (nI 0) KI S v = some (-1, S) := by
  unfold f_Desk_moren f_Model_more
  exact ⟨bnd de_latest0 rfl, ifp (by decide) rfl⟩
theorem scale_none (KI SC : Nat → Int32) (x : Int32) : f_Desk_scalen (nI 0) = some (-1) ∧ f_Model_scale (nI 0) KI SC x = some (-1, KI, SC) := by
  unfold f_Desk_scalen f_Model_scale
  exact ⟨bnd de_latest0 rfl, ifp (by decide) rfl⟩
theorem mo_text1 {a : Nat} (ha : a < 12) {md : Nat → Int32} {D : List Nat} (hD : dfOK md (nI D.length) D) (x : Int32) (KI BE S TX LE : Nat → Int32) (VAL : Nat → Int64) : ∃ TX', lp_ (b_Model_text_17 md (nI (a + 1)) (nI D.length) x KI VAL BE S LE) 5000 (0, TX) = some (nI (a + 1), 0, x, KI, VAL, BE, S, TX', upd LE a (nI D.length)) ∧ (∀ j, j < D.length → TX' (400 * a + j) = nI (lk D j)) ∧ ∀ j, j < 400 * a → TX' j = TX j := by
  have h400 := hD.2.1
  have run : ∀ (d i m : Nat) (T : Nat → Int32), i + d = D.length → d < m → (∀ j, j < i → T (400 * a + j) = nI (lk D j)) → (∀ j, j < 400 * a → T j = TX j) → ∃ TX', lp_ (b_Model_text_17 md (nI (a + 1)) (nI D.length) x KI VAL BE S LE) m (nI i, T) = some (nI (a + 1), 0, x, KI, VAL, BE, S, TX', upd LE a (nI D.length)) ∧ (∀ j, j < D.length → TX' (400 * a + j) = nI (lk D j)) ∧ ∀ j, j < 400 * a → TX' j = TX j := by
    intro d
    induction d with
    | zero =>
      intro i m T hi hm h1 h2
      obtain ⟨m, rfl⟩ : ∃ j, m = j + 1 := ⟨m - 1, by omega⟩
      refine ⟨T, ?_, fun j hj => h1 j (by omega), h2⟩
      show b_Model_text_17 md (nI (a + 1)) (nI D.length) x KI VAL BE S LE (lp_ (b_Model_text_17 md (nI (a + 1)) (nI D.length) x KI VAL BE S LE) m) _ = _
      rw [e_Model_text_17]
      rw [show nI (a + 1) - (1 : Int32) = nI a from nI_pred a, nI_clamp (by omega)]
      exact ifp (nI_le (by omega) (by omega)) (ifp (inB_n ha) rfl)
    | succ d ih =>
      intro i m T hi hm h1 h2
      obtain ⟨m, rfl⟩ : ∃ j, m = j + 1 := ⟨m - 1, by omega⟩
      obtain ⟨TX', z1, z2, z3⟩ := ih (i + 1) m (upd T (400 * a + i) (nI (lk D i))) (by omega) (by omega) (fun j hj => by
        by_cases e : j = i
        · subst e
          exact pk_us
        · rw [pk_un (by omega)]
          exact h1 j (by omega)) (fun j hj => by rw [pk_un (by omega)]; exact h2 j hj)
      refine ⟨TX', ?_, z2, z3⟩
      rw [← z1]
      show b_Model_text_17 md (nI (a + 1)) (nI D.length) x KI VAL BE S LE (lp_ (b_Model_text_17 md (nI (a + 1)) (nI D.length) x KI VAL BE S LE) m) _ = _
      generalize lp_ (b_Model_text_17 md (nI (a + 1)) (nI D.length) x KI VAL BE S LE) m = rc
      rw [e_Model_text_17]
      rw [show nI (a + 1) - (1 : Int32) = nI a from nI_pred a]
      rw [show (400 : Int32) * nI a + nI i = nI (400 * a + i) from by rw [show (400 : Int32) * nI a = nI (400 * a) from pk_mul 400 a, nI_add], nI_1 i]
      refine ifn (nI_ge (by omega) (by omega)) (ifp (inB_n (by omega)) (ifp (inB_n (by omega)) ?_))
      rw [nI_clamp (by omega), nI_clamp (by omega), hD.2.2 i (by omega)]
  exact run D.length 0 5000 TX (by omega) (by omega) (fun j hj => by omega) (fun j _ => rfl)
theorem clampL {D : List Nat} (h : D.length ≤ 400) : (if (0 : Int32) < nI D.length then nI D.length else (0 : Int32)).toNatClampNeg = D.length := by
  by_cases h0 : 0 < D.length
  · rw [if_pos (rlt 0 h0), nI_clamp (by omega)]
  · rw [if_neg (rnlt 0 (by omega)), show D.length = 0 by omega]
    rfl
theorem text_both {n : Nat} {ARGS : Nat → Option Nat} {ar : Nat → AR} {KI WI BE S SC TX LE : Nat → Int32} {VAL PA : Nat → Int64} (h : agOK n ARGS ar KI WI BE S SC TX LE VAL PA) {dc md : Nat → Int32} {du mu : Int32} {D : List Nat} (h1 : rowOK 400 dc du D) (h2 : dfOK md mu D) : (n = 12 ∧ f_Desk_textn (nI n) = some (-1) ∧ f_Model_text 5000 md mu (nI n) KI VAL BE S TX LE = some (-1, mu, nI n, KI, VAL, BE, S, TX, LE)) ∨
    (n < 12 ∧ ∃ ws' S' TX' uu zz ff, f_Desk_texty 5000 ARGS (nI n) 400 dc du (ar n).1 (ar n).2.2.1 = some (nI (n + 1), nI (n + 1), 0, 0, 7, 0, 0, 0, 0, ws', uu, zz, ff) ∧ f_Model_text 5000 md mu (nI n) KI VAL BE S TX LE = some (nI (n + 1), 0, nI (n + 1), upd KI n 7, vp_updL VAL n 0, upd BE n 0, S', TX', upd LE n mu) ∧ (if (0 : Int32) < du then du else (0 : Int32)).toNatClampNeg = D.length ∧ ∀ ql qc : Nat, agOK (n + 1) ARGS (va_up ar n ((ar n).1, (ar n).2.1, ws', 7, 0, 0, 0, 0, some (ql, qc, D.length, ff, uu, zz))) (upd KI n 7) WI (upd BE n 0) S' SC TX' (upd LE n mu) (vp_updL VAL n 0) PA) := by
  have hd := h1.1
  have hm := h2.1
  subst hd
  subst hm
  have h400 := h2.2.1
  by_cases hn : n < 12
  · right
    obtain ⟨ws', a1, a2, a3⟩ := de_take hn (h.2.1 n hn) (ar n).2.2.1 7 0 0
    obtain ⟨S', b1, b2⟩ := mo_arg hn KI BE S VAL 7 0 false
    obtain ⟨TX', c1, c2, c3⟩ := mo_text1 hn h2 (nI (n + 1)) (upd KI n 7) (upd BE n 0) S' TX LE (vp_updL VAL n 0)
    obtain ⟨ff, r1, r2⟩ := row_row (n := D.length) (K := 5000) (f := fun _ => (0 : Int32)) (u := 0) (b := 0) (L := []) h1 (by omega) ⟨rfl, by simp, by omega, fun c hc => absurd hc (by simp), fun j hj => absurd hj (by simp)⟩
    have er : rput D.length [] D = D := by
      unfold rput
      rw [List.nil_append, List.take_length]
    rw [er] at r1 r2
    refine ⟨hn, ws', S', TX', nI D.length, rbst D.length [] D 0, ff, ?_, ?_, clampL h400, fun ql qc => ?_⟩
    · unfold f_Desk_texty
      rw [clampL h400]
      have ri : f_Row_init (nI D.length) = some () := by
        unfold f_Row_init
        rw [clampL h400]
        refine ifn ?_ (ifp (by omega) rfl)
        by_cases h0 : 0 < D.length
        · rw [if_pos (rlt 0 h0)]
          exact nI_pos (by omega)
        · rw [if_neg (rnlt 0 (by omega))]
          decide
      exact bnd a1 (bnd ri (bnd r1 (bnd (u := ((0 : Int32), (0 : Int32))) rfl rfl)))
    · unfold f_Model_text
      exact bnd b1 (ifp (nI_pos' (by omega)) c1)
    · refine ag_push h hn rfl (show 7 < 8 by omega) ?_ updN (fun _ _ => rfl) updN (fun _ _ => rfl) updN updLN (fun _ _ => rfl) (fun j hj => by rw [b2 j, if_neg (by omega)]) c3
      refine ⟨show 7 < 8 by omega, pk_us, false, rfl, pk_us, fun hk => absurd rfl hk, fun hk => absurd hk (by show ¬ (7 : Nat) = 1; decide), fun hk => absurd hk (by show ¬ (7 : Nat) = 2; decide), fun hk => absurd hk (by show ¬ (7 : Nat) = 3; decide), fun hk => absurd hk (by show ¬ (7 : Nat) = 4; decide), fun hk => absurd hk (by show ¬ ((7 : Nat) = 4 ∨ (7 : Nat) = 5); decide), fun hk => absurd hk (by show ¬ ((7 : Nat) = 5 ∨ (7 : Nat) = 6); decide), fun hk => absurd hk (by show ¬ (7 : Nat) = 6; decide), fun _ => ?_⟩
      exact ⟨D, ql, qc, D.length, ff, nI D.length, _, rfl, r2, h400, pk_us, c2⟩
  · left
    have e : n = 12 := by have := h.1; omega
    subst e
    refine ⟨rfl, ?_, ?_⟩
    · unfold f_Desk_textn
      exact bnd de_taken rfl
    · unfold f_Model_text
      exact bnd (mo_argn _ _ _ _ _ _ _) (ifn (show ¬ (0 : Int32) ≤ -1 by decide) rfl)
