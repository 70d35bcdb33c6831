abbrev IX (D : List Nat) (a : Nat) : Nat := (ixS D (a + 1)).1
abbrev FL (D : List Nat) (a : Nat) : Int32 := (flS (D.drop (r1 D a)) 0 0).2.1
abbrev TW (D : List Nat) (a : Nat) : Int32 := (flS (D.drop (r1 D a)) 0 0).2.2
def FT (D : List Nat) (a : Nat) : Int32 := if brS D (r3 D a) = true then 1 else if r4 D a < D.length then fltS (IX D a) (FL D a) (TW D a) (wS D (r2 D a)) (pS D (r3 D a)) (lk D (r4 D a)) else 1
theorem IX_le (D : List Nat) (a : Nat) : IX D a ≤ 1002 := by
  unfold IX ixS
  by_cases h1 : lk D (a + 1) = 60
  · rw [if_pos h1]; show 1 ≤ 1002; omega
  · rw [if_neg h1]
    by_cases h2 : dgB (lk D (a + 1)) = true ∧ lk D (a + 1) ≠ 48 ∧ lk D (dE D (a + 1)) = 36
    · rw [if_pos h2]
      have := nmE_le D (a + 1)
      show nmE D (a + 1) + 2 ≤ 1002
      omega
    · rw [if_neg h2]; show 0 ≤ 1002; omega
theorem oN_w (D : List Nat) (k : Nat) : oN (wS D k) := by
  unfold wS
  by_cases h : dgB (lk D k) = true
  · rw [if_pos h]
    exact Or.inr ⟨_, nmE_le D k, rfl⟩
  · rw [if_neg h]
    exact Or.inl rfl
theorem oN_p (D : List Nat) (k : Nat) : oN (pS D k) := by
  unfold pS
  by_cases h : lk D k = 46
  · rw [if_pos h]
    exact Or.inr ⟨_, nmE_le D (k + 1), rfl⟩
  · rw [if_neg h]
    exact Or.inl rfl
theorem t5_p (s : Nat) (fl : Int32) : t5 s fl = 0 ∨ ¬ t5 s fl ≤ 0 := by
  unfold t5
  by_cases h : s ≠ 37 ∧ ¬ fl &&& (owI s ^^^ (-1)) = 0
  · rw [if_pos h]; exact Or.inr (by decide)
  · rw [if_neg h]; exact Or.inl rfl
theorem t4_p (s : Nat) (fl : Int32) : t4 s fl = 0 ∨ ¬ t4 s fl ≤ 0 := by
  unfold t4
  by_cases h : numB s = true ∧ ((¬ fl &&& 4 = 0 ∧ ¬ fl &&& 8 = 0) ∨ (¬ fl &&& 1 = 0 ∧ ¬ fl &&& 16 = 0))
  · rw [if_pos h]; exact Or.inr (by decide)
  · rw [if_neg h]; exact t5_p s fl
theorem t3_p (s : Nat) (w fl : Int32) : t3 s w fl = 0 ∨ ¬ t3 s w fl ≤ 0 := by
  unfold t3
  by_cases h : w = -1 ∧ (¬ fl &&& 1 = 0 ∨ (numB s = true ∧ ¬ fl &&& 16 = 0))
  · rw [if_pos h]; exact Or.inr (by decide)
  · rw [if_neg h]; exact t4_p s fl
theorem t2_p (s : Nat) (w fl : Int32) : t2 s w fl = 0 ∨ ¬ t2 s w fl ≤ 0 := by
  unfold t2
  by_cases h : s = 37 ∧ ¬ fl &&& (-2) = 0
  · rw [if_pos h]; exact Or.inr (by decide)
  · rw [if_neg h]; exact t3_p s w fl
theorem t1_p (s : Nat) (w p fl : Int32) : t1 s w p fl = 0 ∨ ¬ t1 s w p fl ≤ 0 := by
  unfold t1
  by_cases h : s = 110
  · rw [if_pos h]
    by_cases h1 : w = -1
    · rw [if_pos h1]
      by_cases h2 : p = -1
      · rw [if_pos h2]
        by_cases h3 : fl = 0
        · rw [if_pos h3]; exact Or.inl rfl
        · rw [if_neg h3]; exact Or.inr (by decide)
      · rw [if_neg h2]; exact Or.inr (by decide)
    · rw [if_neg h1]; exact Or.inr (by decide)
  · rw [if_neg h]
    by_cases h1 : ¬ p = -1 ∧ npB s = true
    · rw [if_pos h1]; exact Or.inr (by decide)
    · rw [if_neg h1]; exact t2_p s w fl
theorem FT_p (D : List Nat) (a : Nat) : FT D a = 0 ∨ ¬ FT D a ≤ 0 := by
  unfold FT fltS
  by_cases h0 : brS D (r3 D a) = true
  · rw [if_pos h0]; exact Or.inr (by decide)
  rw [if_neg h0]
  by_cases h1 : r4 D a < D.length
  · rw [if_pos h1]
    by_cases h2 : 1001 < IX D a
    · rw [if_pos h2]; exact Or.inr (by decide)
    rw [if_neg h2]
    by_cases h3 : (999 : Int32) < wS D (r2 D a)
    · rw [if_pos h3]; exact Or.inr (by decide)
    rw [if_neg h3]
    by_cases h4 : pS D (r3 D a) ≤ 999
    · rw [if_pos h4]
      by_cases h5 : TW D a = 0
      · rw [if_pos h5]
        by_cases h6 : knB (smN (lk D (r4 D a))) = true
        · rw [if_pos h6]; exact t1_p _ _ _ _
        · rw [if_neg h6]; exact Or.inr (by decide)
      · rw [if_neg h5]; exact Or.inr (by decide)
    · rw [if_neg h4]; exact Or.inr (by decide)
  · rw [if_neg h1]; exact Or.inr (by decide)
theorem FT_0 {D : List Nat} {a : Nat} (h : FT D a = 0) : brS D (r3 D a) = false ∧ r4 D a < D.length ∧ IX D a ≤ 1001 ∧ ¬ (999 : Int32) < wS D (r2 D a) ∧ pS D (r3 D a) ≤ 999 ∧ TW D a = 0 ∧ knB (smN (lk D (r4 D a))) = true ∧ t1 (smN (lk D (r4 D a))) (wS D (r2 D a)) (pS D (r3 D a)) (FL D a) = 0 := by
  unfold FT fltS at h
  by_cases h0 : brS D (r3 D a) = true
  · rw [if_pos h0] at h
    exact absurd h (by decide)
  rw [if_neg h0] at h
  by_cases h1 : r4 D a < D.length
  · rw [if_pos h1] at h
    by_cases h2 : 1001 < IX D a
    · rw [if_pos h2] at h
      exact absurd h (by decide)
    rw [if_neg h2] at h
    by_cases h3 : (999 : Int32) < wS D (r2 D a)
    · rw [if_pos h3] at h
      exact absurd h (by decide)
    rw [if_neg h3] at h
    by_cases h4 : pS D (r3 D a) ≤ 999
    · rw [if_pos h4] at h
      by_cases h5 : TW D a = 0
      · rw [if_pos h5] at h
        by_cases h6 : knB (smN (lk D (r4 D a))) = true
        · rw [if_pos h6] at h
          exact ⟨Bool.eq_false_iff.mpr h0, h1, by omega, h3, h4, h5, h6, h⟩
        · rw [if_neg h6] at h
          exact absurd h (by decide)
      · rw [if_neg h5] at h
        exact absurd h (by decide)
    · rw [if_neg h4] at h
      exact absurd h (by decide)
  · rw [if_neg h1] at h
    exact absurd h (by decide)
theorem de_FT {D : List Nat} (hD : chOK D) {a : Nat} (ha : a < D.length) : f_Specifier_fault 5000 (dI (IX D a)) (FL D a) (wS D (r2 D a)) (if brS D (r3 D a) = true then -1 else pS D (r3 D a)) (if r4 D a < D.length then nI (smN (lk D (r4 D a))) else 0) (if r4 D a < D.length then (if knB (smN (lk D (r4 D a))) = true then 1 else 0) else 0) (if r4 D a < D.length then (if brS D (r3 D a) = true then 1 else 0) else 1) (TW D a) = some (FT D a) := by
  have one : ∀ (i fl w p cv kn tw : Int32), f_Specifier_fault 5000 i fl w p cv kn 1 tw = some 1 := by
    intro i fl w p cv kn tw
    unfold f_Specifier_fault
    exact ifn (by decide) rfl
  unfold FT
  by_cases h1 : r4 D a < D.length
  · rw [if_pos h1, if_pos h1, if_pos h1]
    by_cases h0 : brS D (r3 D a) = true
    · rw [if_pos h0, if_pos h0, if_pos h0]
      exact one _ _ _ _ _ _ _
    · rw [if_neg h0, if_neg h0, if_neg h0]
      exact sifp h1 (sp_fault (IX_le D a) (by have := lk_lt hD (r4 D a); omega))
  · rw [if_neg h1, if_neg h1, if_neg h1]
    by_cases h0 : brS D (r3 D a) = true
    · exact sifp h0 (one _ _ _ _ _ _ _)
    · exact sifn h0 (sifn h1 (one _ _ _ _ _ _ _))
theorem mo_FT {D : List Nat} (hD : chOK D) {a : Nat} (ha : a < D.length) : f_Model_faultOf 5000 (mI (IX D a)) (FL D a) (TW D a) (wS D (r2 D a)) (pS D (r3 D a)) (nI (lk D (r4 D a))) (if brS D (r3 D a) = true then 1 else if r4 D a < D.length then 0 else 1) = some (FT D a) := by
  have hc : lk D (r4 D a) < 128 := by have := lk_lt hD (r4 D a); omega
  have one : ∀ (i fl w p tw : Int32), f_Model_faultOf 5000 i fl tw w p (nI (lk D (r4 D a))) 1 = some 1 := by
    intro i fl w p tw
    unfold f_Model_faultOf
    exact bnd (mo_small _ hc) (ifn (by decide) rfl)
  unfold FT
  by_cases h0 : brS D (r3 D a) = true
  · rw [if_pos h0]
    exact sifp h0 (one _ _ _ _ _)
  · rw [if_neg h0]
    refine sifn h0 ?_
    by_cases h1 : r4 D a < D.length
    · rw [if_pos h1]
      exact sifp h1 (mo_faultOf (IX_le D a) hc (oN_w D _) (oN_p D _))
    · rw [if_neg h1]
      exact sifn h1 (one _ _ _ _ _)
def ft (D : List Nat) : Nat → Nat → Int32
  | 0, _ => 0
  | n + 1, a => if D.length ≤ a then 0 else if lk D a = 37 then (if FT D a = 0 then ft D n (r4 D a + 1) else FT D a) else ft D n (a + 1)
abbrev SP : Type := Int32 × Int32 × Int32 × Int32 × Int32 × Int32 × Int32 × Int32 × Int32 × Int32
theorem max_r4 {D : List Nat} {a : Nat} (h : r4 D a ≤ 400) : (if nI a < nI (r4 D a) then nI (r4 D a) else nI a) = nI (r4 D a) := if_pos (nI_lt r4_gt (by omega))
theorem rd_desk {dc : Nat → Int32} {du : Int32} {D : List Nat} (h : rowOK 400 dc du D) (hD : chOK D) : ∀ (d a m : Nat) (s : SP), D.length ≤ a + d → a ≤ 401 → d < m → ∃ s' : SP, lp_ (b_Desk_readAll_2 5000 400 dc du) m (nI a, s) = some (ft D d a, s') := by
  have hlen := hD.1
  intro d
  induction d with
  | zero =>
    intro a m s hd ha hm
    obtain ⟨m, rfl⟩ : ∃ j, m = j + 1 := ⟨m - 1, by omega⟩
    obtain ⟨s1, s2, s3, s4, s5, s6, s7, s8, s9, s10⟩ := s
    refine ⟨(s1, s2, s3, s4, s5, s6, s7, s8, s9, s10), ?_⟩
    show b_Desk_readAll_2 5000 400 dc du (lp_ (b_Desk_readAll_2 5000 400 dc du) m) _ = _
    rw [e_Desk_readAll_2, h.1]
    exact ifp (nI_le (by omega) (by omega)) rfl
  | succ d ih =>
    intro a m s hd ha hm
    obtain ⟨m, rfl⟩ : ∃ j, m = j + 1 := ⟨m - 1, by omega⟩
    obtain ⟨s1, s2, s3, s4, s5, s6, s7, s8, s9, s10⟩ := s
    have hu := h.1
    have ih2 := fun a s (h1 : D.length ≤ a + d) (h2 : a ≤ 401) => ih a m s h1 h2 (by omega)
    show ∃ s' : SP, b_Desk_readAll_2 5000 400 dc du (lp_ (b_Desk_readAll_2 5000 400 dc du) m) _ = some (ft D (d + 1) a, s')
    generalize lp_ (b_Desk_readAll_2 5000 400 dc du) m = rc at ih2 ⊢
    show ∃ s' : SP, b_Desk_readAll_2 5000 400 dc du rc _ = some ((if D.length ≤ a then 0 else if lk D a = 37 then (if FT D a = 0 then ft D d (r4 D a + 1) else FT D a) else ft D d (a + 1)), s')
    rw [e_Desk_readAll_2]
    by_cases hle : D.length ≤ a
    · rw [if_pos hle]
      refine ⟨(s1, s2, s3, s4, s5, s6, s7, s8, s9, s10), ifp ?_ rfl⟩
      rw [hu]
      exact nI_le hle (by omega)
    · rw [if_neg hle]
      have hal : a < D.length := by omega
      have hnle : ¬ du ≤ nI a := by rw [hu]; exact nI_ge hal (by omega)
      have hlt := lk_lt hD a
      by_cases h37 : lk D a = 37
      · rw [if_pos h37]
        have hr := sp_readFrom h hD hal
        have hf := de_FT hD hal
        have hr4 := r4_le hal
        by_cases h0 : FT D a = 0
        · rw [if_pos h0]
          have hr5 := (FT_0 h0).2.1
          obtain ⟨s', e⟩ := ih2 (r4 D a + 1) (dI (IX D a), FL D a, wS D (r2 D a), (if brS D (r3 D a) = true then -1 else pS D (r3 D a)), (if r4 D a < D.length then nI (smN (lk D (r4 D a))) else 0), (if r4 D a < D.length then (if grB (lk D (r4 D a)) = true then 1 else 0) else 0), (if r4 D a < D.length then (if knB (smN (lk D (r4 D a))) = true then 1 else 0) else 0), (if r4 D a < D.length then (if brS D (r3 D a) = true then 1 else 0) else 1), TW D a, nI (r4 D a)) (by have := r4_gt (D := D) (a := a); omega) (by omega)
          refine ⟨s', ifn hnle (bnd (row_lk h hal) (ifp (qeq 37 h37) (bnd hr (bnd hf (ifp h0 ?_)))))⟩
          unfold k_Desk_readAll_64
          rw [show (if nI a < nI (r4 D a) then nI (r4 D a) else nI a) = nI (r4 D a) from max_r4 (by omega), nI_1]
          exact e
        · rw [if_neg h0]
          exact ⟨_, ifn hnle (bnd (row_lk h hal) (ifp (qeq 37 h37) (bnd hr (bnd hf (ifn h0 rfl)))))⟩
      · rw [if_neg h37]
        obtain ⟨s', e⟩ := ih2 (a + 1) (s1, s2, s3, s4, s5, s6, s7, s8, s9, s10) (by omega) (by omega)
        refine ⟨s', ifn hnle (bnd (row_lk h hal) (ifn (qne 37 h37) ?_))⟩
        unfold k_Desk_readAll_64
        rw [nI_1]
        exact e
