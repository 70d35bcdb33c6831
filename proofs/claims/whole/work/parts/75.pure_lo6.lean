theorem fl_16 {s : Nat} {w p fl : Int32} (h : t1 s w p fl = 0) (hs : s = 110 ∨ s = 37 ∨ s = 98 ∨ s = 115 ∨ s = 99) : hA fl 16 = false := by
  unfold t1 at h
  by_cases h110 : s = 110
  · rw [if_pos h110] at h
    by_cases h1 : w = -1
    · rw [if_pos h1] at h
      by_cases h2 : p = -1
      · rw [if_pos h2] at h
        by_cases h3 : fl = 0
        · rw [h3]; rfl
        · rw [if_neg h3] at h; exact absurd h (by decide)
      · rw [if_neg h2] at h; exact absurd h (by decide)
    · rw [if_neg h1] at h; exact absurd h (by decide)
  · rw [if_neg h110] at h
    by_cases h1 : ¬ p = -1 ∧ npB s = true
    · rw [if_pos h1] at h; exact absurd h (by decide)
    rw [if_neg h1] at h
    unfold t2 at h
    by_cases h2 : s = 37 ∧ ¬ fl &&& (-2) = 0
    · rw [if_pos h2] at h; exact absurd h (by decide)
    rw [if_neg h2] at h
    by_cases h37 : s = 37
    · have h3 : fl &&& (-2) = 0 := Decidable.byContradiction (fun z => h2 ⟨h37, z⟩)
      exact hA_f (and_sub (b := 16) h3 (by decide))
    unfold t3 at h
    by_cases h3 : w = -1 ∧ (¬ fl &&& 1 = 0 ∨ (numB s = true ∧ ¬ fl &&& 16 = 0))
    · rw [if_pos h3] at h; exact absurd h (by decide)
    rw [if_neg h3] at h
    unfold t4 at h
    by_cases h4 : numB s = true ∧ ((¬ fl &&& 4 = 0 ∧ ¬ fl &&& 8 = 0) ∨ (¬ fl &&& 1 = 0 ∧ ¬ fl &&& 16 = 0))
    · rw [if_pos h4] at h; exact absurd h (by decide)
    rw [if_neg h4] at h
    unfold t5 at h
    by_cases h5 : s ≠ 37 ∧ ¬ fl &&& (owI s ^^^ (-1)) = 0
    · rw [if_pos h5] at h; exact absurd h (by decide)
    have h6 : fl &&& (owI s ^^^ (-1)) = 0 := Decidable.byContradiction (fun z => h5 ⟨h37, z⟩)
    have h7 : owI s ^^^ (-1) = -2 := by
      rcases hs with rfl | rfl | rfl | rfl | rfl
      · exact absurd rfl h110
      · exact absurd rfl h37
      all_goals decide +kernel
    rw [h7] at h6
    exact hA_f (and_sub (b := 16) h6 (by decide))
theorem nm_pos (D : List Nat) : ∀ (n a v : Nat), (∀ j, j < n → 48 ≤ lk D (a + j)) → 1 ≤ v → 1 ≤ nm D n a v
  | 0, _, _, _, h => h
  | n + 1, a, v, hd, h => by
    refine nm_pos D n (a + 1) _ (fun j hj => ?_) ?_
    · have := hd (j + 1) (by omega)
      rw [show a + 1 + j = a + (j + 1) by omega]
      exact this
    · have := hd 0 (by omega)
      rw [Nat.add_zero] at this
      omega
theorem dgB_ge {c : Nat} (h : dgB c = true) : 48 ≤ c := by
  unfold dgB at h
  rw [Bool.and_eq_true] at h
  exact of_decide_eq_true h.1
theorem nmE_pos {D : List Nat} {k : Nat} (h : dgB (lk D k) = true) (h0 : lk D k ≠ 48) : 1 ≤ nmE D k := by
  have hg := dE_gt h
  rw [dE_eq] at hg
  have h48 := dgB_ge h
  unfold nmE
  obtain ⟨n, hn⟩ : ∃ n, dRun (D.drop k) = n + 1 := ⟨dRun (D.drop k) - 1, by omega⟩
  rw [hn]
  show 1 ≤ nm D n (k + 1) (min 1000 (0 * 10 + lk D k - 48))
  refine nm_pos D n (k + 1) _ (fun j hj => ?_) (by omega)
  exact dgB_ge (dE_dig (D := D) (k := k) (by omega) (by rw [dE_eq]; omega))
theorem IX_3 (D : List Nat) (a : Nat) : 2 ≤ IX D a → 3 ≤ IX D a := by
  unfold IX ixS
  by_cases h1 : lk D (a + 1) = 60
  · rw [if_pos h1]; show 2 ≤ 1 → _; omega
  · rw [if_neg h1]
    by_cases h2 : dgB (lk D (a + 1)) = true ∧ lk D (a + 1) ≠ 48 ∧ lk D (dE D (a + 1)) = 36
    · rw [if_pos h2]
      intro _
      have := nmE_pos h2.1 h2.2.1
      show 3 ≤ nmE D (a + 1) + 2
      omega
    · rw [if_neg h2]; show 2 ≤ 0 → _; omega
theorem oN_z {w : Int32} (h : oN w) (h9 : ¬ (999 : Int32) < w) : ∃ wz : Int, (-1 ≤ wz ∧ wz ≤ 999) ∧ w = iI wz := by
  rcases h with rfl | ⟨n, hn, rfl⟩
  · exact ⟨-1, by omega, rfl⟩
  · refine ⟨(n : Int), ⟨by omega, ?_⟩, rfl⟩
    by_cases hh : n ≤ 999
    · omega
    · exact absurd (rlt 999 (by omega)) h9
theorem kn_cv : ∀ s, s < 128 → knB s = true → s = 37 ∨ s = 110 ∨ cvB s = true := by decide +kernel
theorem gr_mark : ∀ c, c < 128 → smN c = 37 ∨ smN c = 110 → grB c = false := by decide +kernel
theorem smN_lt : ∀ c, c < 127 → smN c < 128 := by decide +kernel
theorem mo_sel {rc2 : MT → Option RM} {ix nx nb n : Nat} (hix : ix ≤ 1001) (h3 : 2 ≤ ix → 3 ≤ ix) (KI WI BE S SC TX LE : Nat → Int32) (VAL PA : Nat → Int64) (x4 x5 len e0 fl tw w p c0 b0 put hd cn ex : Int32) (R P T W : Nat → Int32) :
    (if 0 ≤ mI ix then k_Model_layOut_218 5000 (nI n) KI VAL WI BE S SC PA TX LE rc2 (iI ((nb : Int) - 1)) x4 x5 (nI nx) len e0 (mI ix) fl tw w p c0 b0 put hd cn ex R P T W else k_Model_layOut_218 5000 (nI n) KI VAL WI BE S SC PA TX LE rc2 (iI ((nb : Int) - 1)) x4 x5 (nI nx + 1) len e0 (mI ix) fl tw w p c0 b0 put hd cn ex R P T W) = k_Model_layOut_249 5000 (nI n) KI VAL WI BE S SC PA TX LE rc2 (nI (cnx ix nx)) x4 x5 (iI ((cnum ix nx nb : Int) - 1)) len e0 (mI ix) fl tw w p c0 b0 put hd cn ex R P T W := by
  unfold k_Model_layOut_218
  by_cases h0 : ix = 0
  · subst h0
    rw [show cnx 0 nx = nx + 1 from rfl, show cnum 0 nx nb = nx + 1 from rfl, nI_1, mo_idx, show nI (nx + 1) - (1 : Int32) = nI nx from nI_pred _]
    exact ifn (by decide) (ifn (by decide) rfl)
  · by_cases h1 : ix = 1
    · subst h1
      exact ifp (by decide) (ifp (by decide) (ifp (by decide) rfl))
    · have h3' := h3 (by omega)
      have em : mI ix = nI (ix - 2) := by
        unfold mI
        rw [if_neg h0, if_neg h1]
      have ec : cnum ix nx nb = ix - 2 := by
        unfold cnum
        rw [if_neg h0, if_neg h1]
      have ex2 : cnx ix nx = nx := if_neg h0
      rw [em, ec, ex2]
      obtain ⟨j, hj⟩ : ∃ j, ix - 2 = j + 1 := ⟨ix - 3, by omega⟩
      rw [hj, mo_idx, show nI (j + 1) - (1 : Int32) = nI j from nI_pred _]
      exact ifp (nI_pos' (by omega)) (ifp (nI_pos' (by omega)) (ifn (qne 0 (by omega)) rfl))
theorem lo_main {D : List Nat} {dc md : Nat → Int32} {du mu : Int32} (h1 : rowOK 400 dc du D) (h2 : dfOK md mu D) (hD : chOK D) {n : Nat} {ARGS : Nat → Option Nat} {ar : Nat → AR} {KI WI BE S SC TX LE : Nat → Int32} {VAL PA : Nat → Int64} (hag : agOK n ARGS ar KI WI BE S SC TX LE VAL PA) : ∀ (d a m1 m2 : Nat), D.length ≤ a + d → a ≤ 401 → d < m1 → d < m2 → ft D d a = 0 → GO (lp_ (b_Desk_layOut_30 5000 ARGS (nI n) 400 dc du 4000 4 1800 ar) m1) (lp_ (b_Model_layOut_67 5000 md mu (nI n) KI VAL WI BE S SC PA TX LE) m2) a := by
  have hlen := hD.1
  have hu1 := h1.1
  have hu2 := h2.1
  have stop : ∀ (a m1 m2 : Nat), D.length ≤ a → a ≤ 401 → GO (lp_ (b_Desk_layOut_30 5000 ARGS (nI n) 400 dc du 4000 4 1800 ar) (m1 + 1)) (lp_ (b_Model_layOut_67 5000 md mu (nI n) KI VAL WI BE S SC PA TX LE) (m2 + 1)) a := by
    intro a m1 m2 hle ha nx nb Lr Ru len Rc R s q sm put hd cn ex P T W hnx hnb hR1 hR2
    refine ⟨(0, nI (nx + 1), nI nb, Ru, 0, Rc, s.1, s.2.1, s.2.2.1, s.2.2.2.1, s.2.2.2.2.1, s.2.2.2.2.2.1, s.2.2.2.2.2.2.1, s.2.2.2.2.2.2.2.1, s.2.2.2.2.2.2.2.2.1, s.2.2.2.2.2.2.2.2.2, q.1, q.2.1, q.2.2.1, q.2.2.2.1, q.2.2.2.2.1, q.2.2.2.2.2.1, q.2.2.2.2.2.2.1, q.2.2.2.2.2.2.2.1, q.2.2.2.2.2.2.2.2.1, q.2.2.2.2.2.2.2.2.2.1, q.2.2.2.2.2.2.2.2.2.2.1, q.2.2.2.2.2.2.2.2.2.2.2.1, q.2.2.2.2.2.2.2.2.2.2.2.2.1, q.2.2.2.2.2.2.2.2.2.2.2.2.2.1, q.2.2.2.2.2.2.2.2.2.2.2.2.2.2), (0, len, sm.1, sm.2.1, sm.2.2.1, sm.2.2.2.1, sm.2.2.2.2.1, sm.2.2.2.2.2.1, sm.2.2.2.2.2.2.1, sm.2.2.2.2.2.2.2, put, hd, cn, ex, R, P, T, W), ?_, ?_, rfl, Lr, hR1, hR2⟩
    · show b_Desk_layOut_30 5000 ARGS (nI n) 400 dc du 4000 4 1800 ar (lp_ (b_Desk_layOut_30 5000 ARGS (nI n) 400 dc du 4000 4 1800 ar) m1) _ = _
      rw [e_Desk_layOut_30, hu1]
      refine ifp (nI_le hle (by omega)) ?_
      unfold k_Desk_layOut_123
      exact ifp rfl rfl
    · show b_Model_layOut_67 5000 md mu (nI n) KI VAL WI BE S SC PA TX LE (lp_ (b_Model_layOut_67 5000 md mu (nI n) KI VAL WI BE S SC PA TX LE) m2) _ = _
      rw [e_Model_layOut_67, hu2]
      refine ifp (nI_le hle (by omega)) ?_
      unfold k_Model_layOut_323 k_Model_layOut_336
      exact ifp (by decide) rfl
  intro d
  induction d with
  | zero =>
    intro a m1 m2 hd0 ha hm1 hm2 hft
    obtain ⟨m1, rfl⟩ : ∃ j, m1 = j + 1 := ⟨m1 - 1, by omega⟩
    obtain ⟨m2, rfl⟩ : ∃ j, m2 = j + 1 := ⟨m2 - 1, by omega⟩
    exact stop a m1 m2 (by omega) ha
  | succ d ih =>
    intro a m1 m2 hd0 ha hm1 hm2 hft
    obtain ⟨m1, rfl⟩ : ∃ j, m1 = j + 1 := ⟨m1 - 1, by omega⟩
    obtain ⟨m2, rfl⟩ : ∃ j, m2 = j + 1 := ⟨m2 - 1, by omega⟩
    by_cases hle : D.length ≤ a
    · exact stop a m1 m2 hle ha
    have hal : a < D.length := by omega
    have hft : (if D.length ≤ a then 0 else if lk D a = 37 then (if FT D a = 0 then ft D d (r4 D a + 1) else FT D a) else ft D d (a + 1)) = 0 := hft
    rw [if_neg hle] at hft
    have ih2 := fun a (h1 : D.length ≤ a + d) (h2 : a ≤ 401) (h3 : ft D d a = 0) => ih a m1 m2 h1 h2 (by omega) (by omega) h3
    have gf := gf_all ARGS (nI n) dc du ar md mu (nI n) KI VAL WI BE S SC PA TX LE (m1 := m1) (m2 := m2) (by omega) (by omega)
    intro nx nb Lr Ru len Rc R s q sm put hd cn ex P T W hnx hnb hR1 hR2
    have hn1 : ¬ du ≤ nI a := by rw [hu1]; exact nI_ge hal (by omega)
    have hn2 : ¬ mu ≤ nI a := by rw [hu2]; exact nI_ge hal (by omega)
    have hlt := lk_lt hD a
    have hdc : md (nI a).toNatClampNeg = nI (lk D a) := by rw [nI_clamp (by omega)]; exact h2.2.2 a hal
    have h400 : inB (nI a) 400 = true := inB_n (by omega)
    show FIN (b_Desk_layOut_30 5000 ARGS (nI n) 400 dc du 4000 4 1800 ar (lp_ (b_Desk_layOut_30 5000 ARGS (nI n) 400 dc du 4000 4 1800 ar) m1) _) (b_Model_layOut_67 5000 md mu (nI n) KI VAL WI BE S SC PA TX LE (lp_ (b_Model_layOut_67 5000 md mu (nI n) KI VAL WI BE S SC PA TX LE) m2) _)
    generalize lp_ (b_Desk_layOut_30 5000 ARGS (nI n) 400 dc du 4000 4 1800 ar) m1 = rc1 at ih2 gf ⊢
    generalize lp_ (b_Model_layOut_67 5000 md mu (nI n) KI VAL WI BE S SC PA TX LE) m2 = rc2 at ih2 gf ⊢
    rw [e_Desk_layOut_30, e_Model_layOut_67, hdc]
    refine FIN_d (ifn hn1 (ifp rfl rfl)) (FIN_m (ifn hn2 (ifp rfl (ifp h400 rfl))) ?_)
    refine FIN_b (row_lk h1 hal) ?_
    by_cases h37 : lk D a = 37
    · rw [if_pos h37] at hft
      by_cases h0 : FT D a = 0
      · rw [if_pos h0] at hft
        obtain ⟨b0, b1, b2, b3, b4, b5, b6, b7⟩ := FT_0 h0
        have hr4 := r4_gt (D := D) (a := a)
        have hcl := lk_lt hD (r4 D a)
        have go := ih2 (r4 D a + 1) (by omega) (by omega) hft
        obtain ⟨wz, hwz, ew⟩ := oN_z (oN_w D (r2 D a)) b3
        obtain ⟨pz, hpz, ep⟩ := oN_z (oN_p D (r3 D a)) (fun z => by
          rw [Int32.lt_iff_toInt_lt] at z
          rw [Int32.le_iff_toInt_le] at b4
          omega)
        have rD := sp_readFrom h1 hD hal
        have rM := mo_goOver h2 hD sm.1 sm.2.2.2.2.2.2.1 hal
        rw [if_neg (show ¬ brS D (r3 D a) = true by rw [b0]; decide), if_pos b1, if_pos b1, if_pos b1, if_pos b1, if_neg (show ¬ brS D (r3 D a) = true by rw [b0]; decide), ew, ep] at rD
        rw [if_neg (show ¬ brS D (r3 D a) = true by rw [b0]; decide), if_pos b1, ew, ep] at rM
        have hsm := smN_lt (lk D (r4 D a)) hcl
        have hsl := mo_small (lk D (r4 D a)) (by omega)
        refine FIN_d (ifp (qeq 37 h37) rfl) (FIN_m (ifp (qeq 37 h37) rfl) ?_)
        refine FIN_b rD ?_
        refine FIN_m (bnd rM (bnd hsl rfl)) ?_
        show FIN (Option.bind _ fun (u_85 : LSt) => k_Desk_layOut_100 rc1 u_85.1 (if nI a < nI (r4 D a) then nI (r4 D a) else nI a) u_85.2.1 u_85.2.2.1 u_85.2.2.2.1 u_85.2.2.2.2.1 u_85.2.2.2.2.2.1 (dI (IX D a)) (FL D a) (iI wz) (iI pz) (nI (smN (lk D (r4 D a)))) _ _ _ (TW D a) (nI (r4 D a)) u_85.2.2.2.2.2.2.1 u_85.2.2.2.2.2.2.2.1 u_85.2.2.2.2.2.2.2.2.1 u_85.2.2.2.2.2.2.2.2.2.1 u_85.2.2.2.2.2.2.2.2.2.2.1 u_85.2.2.2.2.2.2.2.2.2.2.2.1 u_85.2.2.2.2.2.2.2.2.2.2.2.2.1 u_85.2.2.2.2.2.2.2.2.2.2.2.2.2.1 u_85.2.2.2.2.2.2.2.2.2.2.2.2.2.2.1 u_85.2.2.2.2.2.2.2.2.2.2.2.2.2.2.2.1 u_85.2.2.2.2.2.2.2.2.2.2.2.2.2.2.2.2.1 u_85.2.2.2.2.2.2.2.2.2.2.2.2.2.2.2.2.2.1 u_85.2.2.2.2.2.2.2.2.2.2.2.2.2.2.2.2.2.2.1 u_85.2.2.2.2.2.2.2.2.2.2.2.2.2.2.2.2.2.2.2.1 u_85.2.2.2.2.2.2.2.2.2.2.2.2.2.2.2.2.2.2.2.2) _
        rw [max_r4 (by omega)]
        rw [show nI (r4 D a + 1) - (1 : Int32) = nI (r4 D a) from nI_pred _]
        rcases kn_cv _ hsm b6 with hs | hs | hcv
        · have hgr := gr_mark (lk D (r4 D a)) (by omega) (Or.inl hs)
          refine FIN_m (ifp (qeq 37 hs) rfl) ?_
          rw [hgr]
          exact sp_mark go gf (by omega) (by omega) hnb hR1 hR2 (nI_1 _) hwz hpz (Or.inl hs) (fl_16 b7 (Or.inr (Or.inl hs))) ARGS ar (nI n) _ _ (dI (IX D a), FL D a, iI wz, iI pz, nI (smN (lk D (r4 D a))), _, _, _, TW D a, nI (r4 D a)) q _ _ _ _ _ _ _ _ _ _ _ _ _
        · have hgr := gr_mark (lk D (r4 D a)) (by omega) (Or.inr hs)
          refine FIN_m (ifn (qne 37 (by omega)) (ifp (qeq 110 hs) rfl)) ?_
          rw [hgr]
          exact sp_mark go gf (by omega) (by omega) hnb hR1 hR2 (nI_1 _) hwz hpz (Or.inr hs) (fl_16 b7 (Or.inl hs)) ARGS ar (nI n) _ _ (dI (IX D a), FL D a, iI wz, iI pz, nI (smN (lk D (r4 D a))), _, _, _, TW D a, nI (r4 D a)) q _ _ _ _ _ _ _ _ _ _ _ _ _
        · have n37 : smN (lk D (r4 D a)) ≠ 37 := fun z => by rw [z] at hcv; exact absurd hcv (by decide)
          have n110 : smN (lk D (r4 D a)) ≠ 110 := fun z => by rw [z] at hcv; exact absurd hcv (by decide)
          refine FIN_m (ifn (qne 37 n37) (ifn (qne 110 n110) (mo_sel b2 (IX_3 D a) KI WI BE S SC TX LE VAL PA _ _ _ _ _ _ _ _ _ _ _ _ _ _ _ _ _ _))) ?_
          exact sp_arg go gf (by omega) (by omega) hnb hR1 hR2 (nI_1 _) hwz hpz hsm hcv (by omega) b2 (fun z => fl_16 b7 (by omega)) hag (dI (IX D a), FL D a, iI wz, iI pz, nI (smN (lk D (r4 D a))), _, _, _, TW D a, nI (r4 D a)) q _ _ _ 0 0 _ _ _ _ _ _ _ _
      · rw [if_neg h0] at hft
        exact absurd hft h0
    · rw [if_neg h37] at hft
      have go := ih2 (a + 1) (by omega) (by omega) hft
      have hn37 : ¬ nI (lk D a) = 37 := qne 37 h37
      obtain ⟨f', e1, e2⟩ := row_one (b := 0) hR1 (show lk D a < 128 by omega)
      obtain ⟨y, y1, y2⟩ := mo_add (pc0 P) (lk D a) (by decide)
      refine FIN_d (ifn hn37 rfl) (FIN_m (ifn hn37 (ifp h400 (bnd y1 rfl))) ?_)
      refine FIN_b e1 ?_
      have em : ((f_Model_append 5000 R len sm.2.2.1 (-1) y.2 y.1).bind fun u => (if u.1 = 0 then rc2 (mkM (nI nx) (iI ((nb : Int) - 1)) 14 (nI a + 1) u.2.1 (sm.1, sm.2.1, sm.2.2.1, sm.2.2.2.1, -1, sm.2.2.2.2.2.1, sm.2.2.2.2.2.2.1, sm.2.2.2.2.2.2.2) y.1 hd cn ex u.2.2 y.2 T W) else rc2 (mkM (nI nx) (iI ((nb : Int) - 1)) 0 (nI a + 1) u.2.1 (sm.1, sm.2.1, sm.2.2.1, sm.2.2.2.1, -1, sm.2.2.2.2.2.1, sm.2.2.2.2.2.2.1, sm.2.2.2.2.2.2.2) y.1 hd cn ex u.2.2 y.2 T W))) = ((f_Model_append 5000 R len sm.2.2.1 (iI (-1)) y.2 y.1).bind fun u => (if u.1 = 0 then rc2 (mkM (nI nx) (iI ((nb : Int) - 1)) 14 (nI (a + 1)) u.2.1 (sm.1, sm.2.1, sm.2.2.1, sm.2.2.2.1, -1, sm.2.2.2.2.2.1, sm.2.2.2.2.2.2.1, sm.2.2.2.2.2.2.2) y.1 hd cn ex u.2.2 y.2 T W) else rc2 (mkM (nI nx) (iI ((nb : Int) - 1)) 0 (nI (a + 1)) u.2.1 (sm.1, sm.2.1, sm.2.2.1, sm.2.2.2.1, -1, sm.2.2.2.2.2.1, sm.2.2.2.2.2.2.1, sm.2.2.2.2.2.2.2) y.1 hd cn ex u.2.2 y.2 T W))) := by
        rw [nI_1 a]
        rfl
      refine FIN_m em ?_
      exact put_step (t := (nI (rput 4000 Lr [lk D a]).length, rbst 4000 Lr [lk D a] 0, f')) go gf (nx := nx) (nb := nb) (by omega) hnb ⟨rfl, e2⟩ hR2 y2 (fl := sm.2.2.1) (wz := -1) (by omega) (apL_0 _ _) (nI_1 a) s q (sm.1, sm.2.1, sm.2.2.1, sm.2.2.2.1, -1, sm.2.2.2.2.2.1, sm.2.2.2.2.2.2.1, sm.2.2.2.2.2.2.2) y.1 hd cn ex y.2 T W
theorem layOut_both {D : List Nat} {dc md : Nat → Int32} {du mu : Int32} (h1 : rowOK 400 dc du D) (h2 : dfOK md mu D) (hD : chOK D) {n : Nat} {ARGS : Nat → Option Nat} {ar : Nat → AR} {KI WI BE S SC TX LE : Nat → Int32} {VAL PA : Nat → Int64} (hag : agOK n ARGS ar KI WI BE S SC TX LE VAL PA) {Lr : List Nat} {Ru len : Int32} {Rc R : Nat → Int32} (hR1 : rowOK 4000 Rc Ru Lr) (hR2 : rsM R len Lr) (N B Rb : Int32) (s : SP) (q : CP) (sm : SM) (put hd cn ex : Int32) (P T W : Nat → Int32) :
    FIN (f_Desk_layOut 5000 ARGS (nI n) N B 400 dc du 4000 Rc Ru Rb s.1 s.2.1 s.2.2.1 s.2.2.2.1 s.2.2.2.2.1 s.2.2.2.2.2.1 s.2.2.2.2.2.2.1 s.2.2.2.2.2.2.2.1 s.2.2.2.2.2.2.2.2.1 s.2.2.2.2.2.2.2.2.2 q.1 q.2.1 4 q.2.2.2.2.1 q.2.2.1 q.2.2.2.1 1800 q.2.2.2.2.2.2.2.1 q.2.2.2.2.2.1 q.2.2.2.2.2.2.1 q.2.2.2.2.2.2.2.2.2.2.1 q.2.2.2.2.2.2.2.2.2.2.2.1 q.2.2.2.2.2.2.2.2.1 q.2.2.2.2.2.2.2.2.2.1 q.2.2.2.2.2.2.2.2.2.2.2.2.1 q.2.2.2.2.2.2.2.2.2.2.2.2.2.1 q.2.2.2.2.2.2.2.2.2.2.2.2.2.2 ar) (f_Model_layOut 5000 md mu R len (nI n) KI VAL WI BE S SC PA TX LE sm.1 sm.2.1 sm.2.2.1 sm.2.2.2.1 sm.2.2.2.2.1 sm.2.2.2.2.2.1 sm.2.2.2.2.2.2.1 sm.2.2.2.2.2.2.2 P put hd T cn ex W) := by
  have hlen := hD.1
  obtain ⟨s', e1⟩ := rd_desk h1 hD 401 0 5000 s (by omega) (by omega) (by omega)
  obtain ⟨i1, i2⟩ := rd_model h2 hD (nI n) KI VAL WI BE S SC PA TX LE len put hd cn ex R P T W 401 0 5000 sm (by omega) (by omega) (by omega)
  unfold f_Desk_layOut f_Model_layOut f_Desk_readAll
  refine FIN_b e1 ?_
  by_cases h0 : ft D 401 0 = 0
  · obtain ⟨sm', e2⟩ := i1 h0
    refine FIN_m e2 (FIN_d (ifp h0 (bnd (u := ((0 : Int32), (0 : Int32))) rfl rfl)) ?_)
    show FIN (lp_ _ 5000 (mkD (ft D 401 0) 0 1 0 0 0 Rc s' q)) _
    rw [h0]
    exact lo_main h1 h2 hD hag 401 0 5000 5000 (by omega) (by omega) (by omega) (by omega) h0 0 0 [] 0 0 Rc R s' q sm' put hd cn ex P T W (by omega) (by omega) (row0 (by omega) Rc) (rs0 R)
  · obtain ⟨sm', e2⟩ := i2 h0
    refine FIN_m e2 (FIN_d (ifn h0 rfl) ?_)
    exact ⟨_, _, rfl, rfl, rfl, Lr, hR1, hR2⟩
