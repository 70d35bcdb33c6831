def goB (k s : Nat) : Bool := (([[98, 115, 99, 100, 111, 120, 101, 102, 103, 97], [98, 115], [98, 115, 99], [98, 115, 99, 100, 111, 120], [98, 115, 100, 111, 120], [98, 115, 101, 102, 103], [98, 115, 101, 102, 103, 97], [98, 115]] : List (List Nat)).getD k []).contains s
set_option maxRecDepth 100000 in
theorem kd_go : ∀ k, k < 8 → ∀ s, s < 128 → f_Kind_goesWith 5000 k (nI s) = some (bI (goB k s)) := by decide +kernel
def cvB (s : Nat) : Bool := [98, 115, 99, 100, 111, 120, 101, 102, 103, 97].contains s
theorem cv_list : ∀ s, s < 128 → cvB s = true → s = 98 ∨ s = 115 ∨ s = 99 ∨ s = 100 ∨ s = 111 ∨ s = 120 ∨ s = 101 ∨ s = 102 ∨ s = 103 ∨ s = 97 := by decide +kernel
def fltA (k s wd V : Nat) (fl : Int32) : Int32 := if goB k s = true then (if k = 3 then (if s = 99 then (if wd ≤ 32 then (if 1 ≤ V ∧ V ≤ 126 then 0 else 12) else 11) else if s = 111 ∨ s = 120 then (if fl &&& 76 = 0 then 0 else 13) else 0) else 0) else 11
theorem de_charnum {V : Nat} (hV : V < 2 ^ 64) {ws : Nat → Int64} (h0 : ws 0 = lN (shN V)) : f_Argument_isCharacterNumber ws (bI (decide (2 ^ 63 ≤ V))) = some (bI (decide (1 ≤ V ∧ V ≤ 126))) := by
  unfold f_Argument_isCharacterNumber
  rw [show ((0 : Int32).toNatClampNeg) = 0 from rfl, h0]
  by_cases hp : 2 ^ 63 ≤ V
  · rw [decide_eq_true hp, decide_eq_false (by omega)]
    exact ifn (by decide) rfl
  · rw [decide_eq_false hp]
    unfold shN
    rw [if_neg hp]
    refine ifp rfl (ifp (by decide) ?_)
    by_cases h1 : 1 ≤ V
    · by_cases h2 : V ≤ 126
      · rw [decide_eq_true ⟨h1, h2⟩]
        refine ifn ?_ (ifp (by decide) (ifn ?_ rfl))
        · rw [lg_cmp_lt, show (1 : Int64) = lN 1 from rfl, pk_lLT (by omega) (by omega)]
          omega
        · rw [lg_cmp_gt, show (126 : Int64) = lN 126 from rfl, pk_lLT (by omega) (by omega)]
          omega
      · rw [decide_eq_false (by omega)]
        refine ifn ?_ (ifp (by decide) (ifp ?_ rfl))
        · rw [lg_cmp_lt, show (1 : Int64) = lN 1 from rfl, pk_lLT (by omega) (by omega)]
          omega
        · rw [lg_cmp_gt, show (126 : Int64) = lN 126 from rfl, pk_lLT (by omega) (by omega)]
          omega
    · rw [decide_eq_false (by omega)]
      refine ifp ?_ rfl
      rw [lg_cmp_lt, show (1 : Int64) = lN 1 from rfl, pk_lLT (by omega) (by omega)]
      omega
theorem de_flt {k s wd V : Nat} (hk : k < 8) (hs : s < 128) (fl : Int32) {ws : Nat → Int64} {mi wI : Int32} (h3 : k = 3 → V < 2 ^ 64 ∧ (wd = 8 ∨ wd = 16 ∨ wd = 32 ∨ wd = 64) ∧ ws 0 = lN (shN V) ∧ mi = bI (decide (2 ^ 63 ≤ V)) ∧ wI = nI wd) : f_Desk_faultOf 5000 fl (nI s) ws k mi wI = some (fltA k s wd V fl) := by
  unfold f_Desk_faultOf fltA
  refine bnd (kd_go k hk s hs) ?_
  cases goB k s with
  | false => exact ifp rfl rfl
  | true =>
    refine ifn (by decide) ?_
    refine sifp rfl ?_
    by_cases hk3 : k = 3
    · obtain ⟨hV, hwd, h0, hm, hw⟩ := h3 hk3
      subst hm hw
      refine sifp hk3 ?_
      refine ifp hk3 ?_
      by_cases h99 : s = 99
      · refine sifp h99 ?_
        refine ifp (qeq 99 h99) ?_
        by_cases h32 : wd ≤ 32
        · refine sifp h32 ?_
          refine ifp (qle 32 h32) (bnd (de_charnum hV h0) ?_)
          by_cases hc : 1 ≤ V ∧ V ≤ 126
          · rw [decide_eq_true hc]
            exact ifn (by decide) (sifp hc rfl)
          · rw [decide_eq_false hc]
            exact ifp rfl (sifn hc rfl)
        · exact sifn h32 (ifn (qnle 32 (by omega)) rfl)
      · refine sifn h99 (ifn (qne 99 h99) ?_)
        have hox : k_Desk_faultOf_80 fl = some (if fl &&& 76 = 0 then 0 else 13) := by
          unfold k_Desk_faultOf_80
          refine bnd (sp_any fl 76) ?_
          unfold hA
          by_cases h76 : fl &&& 76 = 0
          · rw [decide_eq_true h76]
            exact ifp rfl (sifp h76 rfl)
          · rw [decide_eq_false h76]
            exact ifn (by decide) (sifn h76 rfl)
        by_cases h111 : s = 111
        · exact sifp (Or.inl h111) (ifp (qeq 111 h111) hox)
        · refine ifn (qne 111 h111) ?_
          by_cases h120 : s = 120
          · exact sifp (Or.inr h120) (ifp (qeq 120 h120) hox)
          · exact sifn (by omega) (ifn (qne 120 h120) rfl)
    · exact sifn hk3 (ifn hk3 rfl)
theorem go_tab : ∀ k, k < 8 → ∀ s, s < 128 → cvB s = true → goB k s = (decide (k = 0) || decide (s = 98) || decide (s = 115) || (decide (s = 99) && (decide (k = 2) || decide (k = 3))) || ((decide (s = 100) || decide (s = 111) || decide (s = 120)) && (decide (k = 3) || decide (k = 4))) || (decide (s = 97) && decide (k = 6)) || ((decide (s = 101) || decide (s = 102) || decide (s = 103)) && (decide (k = 5) || decide (k = 6)))) := by decide +kernel
theorem mo_flt {KI WI : Nat → Int32} {VAL : Nat → Int64} {a k s wd V : Nat} (ha : a < 12) (hk : k < 8) (hs : s < 128) (hcv : cvB s = true) (fl : Int32) (hK : KI a = nI k) (h3 : k = 3 → V < 2 ^ 64 ∧ (wd = 8 ∨ wd = 16 ∨ wd = 32 ∨ wd = 64) ∧ VAL a = lN V ∧ WI a = nI wd) : f_Model_argumentFault KI VAL WI fl (nI a) (nI s) = some (fltA k s wd V fl) := by
  have h12 : inB (nI a) 12 = true := inB_n ha
  have hg := go_tab k hk s hs hcv
  have h197 : k_Model_argumentFault_197 fl = some (if fl &&& 76 = 0 then 0 else 13) := by
    unfold k_Model_argumentFault_197
    by_cases h76 : fl &&& 76 = 0
    · exact sifp h76 (ifp h76 rfl)
    · exact sifn h76 (ifn h76 rfl)
  have k0 : k_Model_argumentFault_132 VAL fl (nI a) (nI s) (nI k) 0 = some 11 := by
    unfold k_Model_argumentFault_132
    exact ifp rfl rfl
  have h180 : (s = 99 → k = 3 → False) → k_Model_argumentFault_180 fl (nI s) (nI k) = some (if k = 3 then (if s = 99 then (if wd ≤ 32 then (if 1 ≤ V ∧ V ≤ 126 then 0 else 12) else 11) else if s = 111 ∨ s = 120 then (if fl &&& 76 = 0 then 0 else 13) else 0) else 0) := by
    intro hx
    unfold k_Model_argumentFault_180
    by_cases hk3 : k = 3
    · refine sifp hk3 (sifn (fun z => hx z hk3) (ifp (qeq 3 hk3) ?_))
      by_cases h111 : s = 111
      · exact sifp (Or.inl h111) (ifp (qeq 111 h111) h197)
      · refine ifn (qne 111 h111) ?_
        by_cases h120 : s = 120
        · exact sifp (Or.inr h120) (ifp (qeq 120 h120) h197)
        · exact sifn (by omega) (ifn (qne 120 h120) rfl)
    · exact sifn hk3 (ifn (qne 3 hk3) rfl)
  have k1 : (s = 99 → k = 3 → wd ≤ 32) → k_Model_argumentFault_132 VAL fl (nI a) (nI s) (nI k) 1 = some (if k = 3 then (if s = 99 then (if wd ≤ 32 then (if 1 ≤ V ∧ V ≤ 126 then 0 else 12) else 11) else if s = 111 ∨ s = 120 then (if fl &&& 76 = 0 then 0 else 13) else 0) else 0) := by
    intro hx
    unfold k_Model_argumentFault_132
    refine ifn (by decide) ?_
    by_cases h99 : s = 99
    · refine ifp (qeq 99 h99) ?_
      by_cases hk3 : k = 3
      · obtain ⟨hV, hwd, hVA, hw⟩ := h3 hk3
        refine sifp hk3 (sifp h99 (sifp (hx h99 hk3) ?_))
        rw [nI_clamp (by omega), hVA]
        refine ifp (qeq 3 hk3) (ifp h12 ?_)
        by_cases hc : 1 ≤ V ∧ V ≤ 126
        · refine sifp hc (ifn ?_ (ifp h12 (ifp ?_ ?_)))
          · rw [lg_cmp_lt, show (1 : Int64) = lN 1 from rfl, pk_lLT (by omega) (by omega)]
            omega
          · rw [lg_cmp_le, show (126 : Int64) = lN 126 from rfl, pk_lLE (by omega) (by omega)]
            omega
          · unfold k_Model_argumentFault_180
            exact ifp (qeq 3 hk3) (ifn (qne 111 (by omega)) (ifn (qne 120 (by omega)) rfl))
        · refine sifn hc ?_
          by_cases hp : 2 ^ 63 ≤ V
          · refine ifp ?_ rfl
            rw [lg_cmp_lt]
            have := (lN_neg hV).mpr hp
            rw [Int64.lt_iff_toInt_lt] at this ⊢
            have q1 : (0 : Int64).toInt = 0 := by decide
            have q2 : (1 : Int64).toInt = 1 := by decide
            omega
          · by_cases h1 : 1 ≤ V
            · refine ifn ?_ (ifp h12 (ifn ?_ rfl))
              · rw [lg_cmp_lt, show (1 : Int64) = lN 1 from rfl, pk_lLT (by omega) (by omega)]
                omega
              · rw [lg_cmp_le, show (126 : Int64) = lN 126 from rfl, pk_lLE (by omega) (by omega)]
                omega
            · refine ifp ?_ rfl
              rw [lg_cmp_lt, show (1 : Int64) = lN 1 from rfl, pk_lLT (by omega) (by omega)]
              omega
      · exact ifn (qne 3 hk3) (h180 (fun _ z => hk3 z))
    · exact ifn (qne 99 h99) (h180 (fun z _ => h99 z))
  unfold f_Model_argumentFault
  rw [nI_clamp (by omega), hK]
  refine ifp h12 ?_
  unfold k_Model_argumentFault_52 k_Model_argumentFault_56 k_Model_argumentFault_78 k_Model_argumentFault_88 k_Model_argumentFault_127 fltA
  by_cases hk0 : k = 0
  · subst hk0
    rw [hg]
    exact ifp rfl rfl
  refine ifn (qne 0 hk0) ?_
  rcases cv_list s hs hcv with rfl | rfl | rfl | rfl | rfl | rfl | rfl | rfl | rfl | rfl
  · refine sifp (by rw [hg]; simp) (ifp (by decide) ?_)
    by_cases hk3 : k = 3
    · exact sifp hk3 (sifn (by decide) (sifn (by decide) rfl))
    · exact sifn hk3 rfl
  · refine sifp (by rw [hg]; simp) (ifn (by decide) (ifp (by decide) ?_))
    by_cases hk3 : k = 3
    · exact sifp hk3 (sifn (by decide) (sifn (by decide) rfl))
    · exact sifn hk3 rfl
  · refine ifn (by decide) (ifn (by decide) (ifp (by decide) ?_))
    by_cases hk2 : k = 2
    · have e : goB k 99 = true := by rw [hk2]; rfl
      refine sifp e ?_
      exact ifp (qeq 2 hk2) (k1 (fun _ z => by omega))
    · refine ifn (qne 2 hk2) ?_
      by_cases hk3 : k = 3
      · have e : goB k 99 = true := by rw [hk3]; rfl
        refine sifp e ?_
        obtain ⟨hV, hwd, hVA, hw⟩ := h3 hk3
        rw [hw]
        refine ifp (qeq 3 hk3) (ifp h12 ?_)
        by_cases h64 : wd = 64
        · exact sifp hk3 (sifp rfl (sifn (by omega) (ifp (rle 64 (by omega)) k0)))
        · exact ifn (rnle 64 (by omega)) (k1 (fun _ _ => by omega))
      · have e : goB k 99 = false := by rw [hg]; simp [hk0, hk2, hk3]
        refine sifn (by rw [e]; decide) ?_
        exact ifn (qne 3 hk3) k0
  · refine ifn (by decide) (ifn (by decide) (ifn (by decide) (ifp (by decide) ?_)))
    by_cases hk3 : k = 3
    · have e : goB k 100 = true := by rw [hk3]; rfl
      refine sifp e ?_
      exact ifp (qeq 3 hk3) (k1 (fun z => by omega))
    · refine ifn (qne 3 hk3) ?_
      by_cases hk4 : k = 4
      · have e : goB k 100 = true := by rw [hk4]; rfl
        refine sifp e ?_
        exact ifp (qeq 4 hk4) (k1 (fun z => by omega))
      · have e : goB k 100 = false := by rw [hg]; simp [hk0, hk3, hk4]
        refine sifn (by rw [e]; decide) ?_
        exact ifn (qne 4 hk4) k0
  · refine ifn (by decide) (ifn (by decide) (ifn (by decide) (ifn (by decide) (ifp (by decide) ?_))))
    by_cases hk3 : k = 3
    · have e : goB k 111 = true := by rw [hk3]; rfl
      refine sifp e ?_
      exact ifp (qeq 3 hk3) (k1 (fun z => by omega))
    · refine ifn (qne 3 hk3) ?_
      by_cases hk4 : k = 4
      · have e : goB k 111 = true := by rw [hk4]; rfl
        refine sifp e ?_
        exact ifp (qeq 4 hk4) (k1 (fun z => by omega))
      · have e : goB k 111 = false := by rw [hg]; simp [hk0, hk3, hk4]
        refine sifn (by rw [e]; decide) ?_
        exact ifn (qne 4 hk4) k0
  · refine ifn (by decide) (ifn (by decide) (ifn (by decide) (ifn (by decide) (ifn (by decide) (ifp (by decide) ?_)))))
    by_cases hk3 : k = 3
    · have e : goB k 120 = true := by rw [hk3]; rfl
      refine sifp e ?_
      exact ifp (qeq 3 hk3) (k1 (fun z => by omega))
    · refine ifn (qne 3 hk3) ?_
      by_cases hk4 : k = 4
      · have e : goB k 120 = true := by rw [hk4]; rfl
        refine sifp e ?_
        exact ifp (qeq 4 hk4) (k1 (fun z => by omega))
      · have e : goB k 120 = false := by rw [hg]; simp [hk0, hk3, hk4]
        refine sifn (by rw [e]; decide) ?_
        exact ifn (qne 4 hk4) k0
  · refine ifn (by decide) (ifn (by decide) (ifn (by decide) (ifn (by decide) (ifn (by decide) (ifn (by decide) (ifn (by decide) ?_))))))
    by_cases hk5 : k = 5
    · have e : goB k 101 = true := by rw [hk5]; rfl
      refine sifp e ?_
      exact ifp (qeq 5 hk5) (k1 (fun z => by omega))
    · refine ifn (qne 5 hk5) ?_
      by_cases hk6 : k = 6
      · have e : goB k 101 = true := by rw [hk6]; rfl
        refine sifp e ?_
        exact ifp (qeq 6 hk6) (k1 (fun z => by omega))
      · have e : goB k 101 = false := by rw [hg]; simp [hk0, hk5, hk6]
        refine sifn (by rw [e]; decide) ?_
        exact ifn (qne 6 hk6) k0
  · refine ifn (by decide) (ifn (by decide) (ifn (by decide) (ifn (by decide) (ifn (by decide) (ifn (by decide) (ifn (by decide) ?_))))))
    by_cases hk5 : k = 5
    · have e : goB k 102 = true := by rw [hk5]; rfl
      refine sifp e ?_
      exact ifp (qeq 5 hk5) (k1 (fun z => by omega))
    · refine ifn (qne 5 hk5) ?_
      by_cases hk6 : k = 6
      · have e : goB k 102 = true := by rw [hk6]; rfl
        refine sifp e ?_
        exact ifp (qeq 6 hk6) (k1 (fun z => by omega))
      · have e : goB k 102 = false := by rw [hg]; simp [hk0, hk5, hk6]
        refine sifn (by rw [e]; decide) ?_
        exact ifn (qne 6 hk6) k0
  · refine ifn (by decide) (ifn (by decide) (ifn (by decide) (ifn (by decide) (ifn (by decide) (ifn (by decide) (ifn (by decide) ?_))))))
    by_cases hk5 : k = 5
    · have e : goB k 103 = true := by rw [hk5]; rfl
      refine sifp e ?_
      exact ifp (qeq 5 hk5) (k1 (fun z => by omega))
    · refine ifn (qne 5 hk5) ?_
      by_cases hk6 : k = 6
      · have e : goB k 103 = true := by rw [hk6]; rfl
        refine sifp e ?_
        exact ifp (qeq 6 hk6) (k1 (fun z => by omega))
      · have e : goB k 103 = false := by rw [hg]; simp [hk0, hk5, hk6]
        refine sifn (by rw [e]; decide) ?_
        exact ifn (qne 6 hk6) k0
  · refine ifn (by decide) (ifn (by decide) (ifn (by decide) (ifn (by decide) (ifn (by decide) (ifn (by decide) (ifp (by decide) ?_))))))
    by_cases hk6 : k = 6
    · have e : goB k 97 = true := by rw [hk6]; rfl
      refine sifp e ?_
      exact ifp (qeq 6 hk6) (k1 (fun z => by omega))
    · have e : goB k 97 = false := by rw [hg]; simp [hk0, hk6]
      refine sifn (by rw [e]; decide) ?_
      exact ifn (qne 6 hk6) k0
theorem fltA_r (k s wd V : Nat) (fl : Int32) : (fltA k s wd V fl = 0 ∧ goB k s = true ∧ (k = 3 → s = 99 → 1 ≤ V ∧ V ≤ 126) ∧ (k = 3 → s = 111 ∨ s = 120 → fl &&& 76 = 0)) ∨ fltA k s wd V fl = 11 ∨ fltA k s wd V fl = 12 ∨ fltA k s wd V fl = 13 := by
  unfold fltA
  by_cases hg : goB k s = true
  · rw [if_pos hg]
    by_cases hk3 : k = 3
    · rw [if_pos hk3]
      by_cases h99 : s = 99
      · rw [if_pos h99]
        by_cases h32 : wd ≤ 32
        · rw [if_pos h32]
          by_cases hc : 1 ≤ V ∧ V ≤ 126
          · rw [if_pos hc]
            exact Or.inl ⟨rfl, hg, fun _ _ => hc, fun _ z => by omega⟩
          · rw [if_neg hc]
            exact Or.inr (Or.inr (Or.inl rfl))
        · rw [if_neg h32]
          exact Or.inr (Or.inl rfl)
      · rw [if_neg h99]
        by_cases hox : s = 111 ∨ s = 120
        · rw [if_pos hox]
          by_cases h76 : fl &&& 76 = 0
          · rw [if_pos h76]
            exact Or.inl ⟨rfl, hg, fun _ z => absurd z h99, fun _ _ => h76⟩
          · rw [if_neg h76]
            exact Or.inr (Or.inr (Or.inr rfl))
        · rw [if_neg hox]
          exact Or.inl ⟨rfl, hg, fun _ z => absurd z h99, fun _ z => absurd z hox⟩
    · rw [if_neg hk3]
      exact Or.inl ⟨rfl, hg, fun z => absurd z hk3, fun z => absurd z hk3⟩
  · rw [if_neg hg]
    exact Or.inr (Or.inl rfl)
