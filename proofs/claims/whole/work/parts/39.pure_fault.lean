def numB (s : Nat) : Bool := [100, 111, 120, 101, 102, 103, 97].contains s
def npB (s : Nat) : Bool := [37, 99, 100, 111, 120].contains s
def owI (s : Nat) : Int32 := (f_Specifier_ownFlags (nI s)).getD 0
theorem ix_num : ∀ s, s < 128 → (f_String_indexOf 5000 2 (nI s)).map (fun x => decide (x < 0)) = some (!numB s) := by decide +kernel
theorem ix_np : ∀ s, s < 128 → (f_String_indexOf 5000 3 (nI s)).map (fun x => decide (x < 0)) = some (!npB s) := by decide +kernel
theorem sp_own : ∀ s, s < 128 → f_Specifier_ownFlags (nI s) = some (owI s) := by decide +kernel
theorem mo_isGreat : ∀ c, c < 128 → f_Model_isGreat 5000 (nI c) = some (if grB c = true then 1 else 0) := by decide +kernel
theorem mo_small : ∀ c, c < 128 → f_Model_small 5000 (nI c) = some (nI (smN c)) := by decide +kernel
theorem mo_isNumber : ∀ c, c < 128 → f_Model_isNumber 5000 (nI c) = some (if numB (smN c) = true then 1 else 0) := by decide +kernel
theorem mo_allowed : ∀ c, c < 128 → knB (smN c) = true → smN c ≠ 37 → smN c ≠ 110 → f_Model_allowed 5000 (nI c) = some (owI (smN c)) := by decide +kernel
theorem kn_known : ∀ s, s < 128 → (knB s = true ↔ numB s = true ∨ s = 98 ∨ s = 115 ∨ s = 99 ∨ s = 37 ∨ s = 110) := by decide +kernel
theorem ow_37 : owI 37 ^^^ (-1) = -2 := by decide +kernel
theorem sp_hasBoth (fl a b : Int32) : f_Specifier_hasBoth fl a b = some (if ¬ fl &&& a = 0 ∧ ¬ fl &&& b = 0 then 1 else 0) := by
  unfold f_Specifier_hasBoth
  refine bnd (sp_hasAny _ _) ?_
  by_cases h1 : fl &&& a = 0
  · rw [if_pos h1]
    exact sifn (fun z => z.1 h1) (ifp rfl rfl)
  · rw [if_neg h1]
    refine ifn (by decide) (bnd (sp_hasAny _ _) ?_)
    by_cases h2 : fl &&& b = 0
    · rw [if_pos h2]
      exact sifn (fun z => z.2 h2) (ifp rfl rfl)
    · rw [if_neg h2]
      exact sifp ⟨h1, h2⟩ (ifn (by decide) rfl)
theorem mo_has (fl x : Int32) : f_Model_has fl x = some (if fl &&& x = 0 then 0 else 1) := by
  unfold f_Model_has
  by_cases h : fl &&& x = 0
  · rw [if_pos h, if_pos h]
  · rw [if_neg h, if_neg h]
def t5 (s : Nat) (fl : Int32) : Int32 := if s ≠ 37 ∧ ¬ fl &&& (owI s ^^^ (-1)) = 0 then 9 else 0
def t4 (s : Nat) (fl : Int32) : Int32 := if numB s = true ∧ ((¬ fl &&& 4 = 0 ∧ ¬ fl &&& 8 = 0) ∨ (¬ fl &&& 1 = 0 ∧ ¬ fl &&& 16 = 0)) then 7 else t5 s fl
def t3 (s : Nat) (w : Int32) (fl : Int32) : Int32 := if w = -1 ∧ (¬ fl &&& 1 = 0 ∨ (numB s = true ∧ ¬ fl &&& 16 = 0)) then 8 else t4 s fl
def t2 (s : Nat) (w : Int32) (fl : Int32) : Int32 := if s = 37 ∧ ¬ fl &&& (-2) = 0 then 7 else t3 s w fl
def t1 (s : Nat) (w p : Int32) (fl : Int32) : Int32 := if s = 110 then (if w = -1 then (if p = -1 then (if fl = 0 then 0 else 7) else 6) else 5) else if ¬ p = -1 ∧ npB s = true then 6 else t2 s w fl
theorem d5 {s : Nat} {fl : Int32} (hs : s < 128) (h37 : s = 37 → fl &&& (-2) = 0) : k_Specifier_faultOfParts_117 fl (nI s) = some (t5 s fl) := by
  unfold k_Specifier_faultOfParts_117 t5
  refine bnd (sp_own s hs) (bnd (sp_hasAny _ _) ?_)
  by_cases h1 : fl &&& (owI s ^^^ (-1)) = 0
  · rw [if_pos h1]
    exact sifn (fun z => z.2 h1) (ifp rfl rfl)
  · rw [if_neg h1]
    have : s ≠ 37 := fun e => h1 (by rw [e, ow_37]; exact h37 e)
    exact sifp ⟨this, h1⟩ (ifn (by decide) rfl)
theorem m5 {c : Nat} {fl : Int32} (hc : c < 128) (hk : knB (smN c) = true) (hn : smN c ≠ 110) : k_Model_faultOf_274 5000 fl (nI c) (nI (smN c)) = some (t5 (smN c) fl) := by
  have hs := sm_lt c hc
  unfold k_Model_faultOf_274 t5
  by_cases h : smN c = 37
  · exact sifn (fun z => z.1 h) (ifp (qeq 37 h) rfl)
  · refine ifn (qne 37 h) (bnd (mo_allowed c hc hk h hn) ?_)
    by_cases h1 : fl &&& (owI (smN c) ^^^ (-1)) = 0
    · exact sifn (fun z => z.2 h1) (ifp h1 rfl)
    · exact sifp ⟨h, h1⟩ (ifn h1 rfl)
theorem d4 {s : Nat} {fl : Int32} (hs : s < 128) (h37 : s = 37 → fl &&& (-2) = 0) : k_Specifier_faultOfParts_90 fl (nI s) (if numB s = true then 1 else 0) = some (t4 s fl) := by
  unfold k_Specifier_faultOfParts_90 t4
  have e5 := d5 hs h37
  by_cases hn : numB s = true
  · rw [if_pos hn]
    refine ifn (by decide) (bnd (sp_hasBoth _ _ _) ?_)
    by_cases h1 : ¬ fl &&& 4 = 0 ∧ ¬ fl &&& 8 = 0
    · rw [if_pos h1]
      exact sifp ⟨hn, Or.inl h1⟩ (ifn (by decide) rfl)
    · rw [if_neg h1]
      refine ifp rfl (bnd (sp_hasBoth _ _ _) ?_)
      by_cases h2 : ¬ fl &&& 1 = 0 ∧ ¬ fl &&& 16 = 0
      · rw [if_pos h2]
        exact sifp ⟨hn, Or.inr h2⟩ (ifn (by decide) rfl)
      · rw [if_neg h2]
        exact sifn (fun z => z.2.elim h1 h2) (ifp rfl e5)
  · rw [if_neg hn]
    exact sifn (fun z => hn z.1) (ifp rfl e5)
theorem m4 {c : Nat} {fl : Int32} (hc : c < 128) (hk : knB (smN c) = true) (hn : smN c ≠ 110) : k_Model_faultOf_230 5000 fl (nI c) (nI (smN c)) = some (t4 (smN c) fl) := by
  have e5 := m5 (fl := fl) hc hk hn
  unfold k_Model_faultOf_230 t4
  refine bnd (mo_isNumber c hc) ?_
  by_cases hn : numB (smN c) = true
  · rw [if_pos hn]
    refine ifn (by decide) (bnd (mo_has _ _) ?_)
    have e254 : ¬ (¬ fl &&& 4 = 0 ∧ ¬ fl &&& 8 = 0) → k_Model_faultOf_254 5000 fl (nI c) (nI (smN c)) = some (if numB (smN c) = true ∧ ((¬ fl &&& 4 = 0 ∧ ¬ fl &&& 8 = 0) ∨ (¬ fl &&& 1 = 0 ∧ ¬ fl &&& 16 = 0)) then 7 else t5 (smN c) fl) := by
      intro h1
      unfold k_Model_faultOf_254
      refine bnd (mo_has _ _) ?_
      by_cases h2 : fl &&& 1 = 0
      · rw [if_pos h2]
        exact sifn (fun z => z.2.elim h1 (fun y => y.1 h2)) (ifp rfl e5)
      · rw [if_neg h2]
        refine ifn (by decide) (bnd (mo_has _ _) ?_)
        by_cases h3 : fl &&& 16 = 0
        · rw [if_pos h3]
          exact sifn (fun z => z.2.elim h1 (fun y => y.2 h3)) (ifp rfl e5)
        · rw [if_neg h3]
          exact sifp ⟨hn, Or.inr ⟨h2, h3⟩⟩ (ifn (by decide) rfl)
    by_cases h4 : fl &&& 4 = 0
    · rw [if_pos h4]
      exact ifp rfl (e254 (fun z => z.1 h4))
    · rw [if_neg h4]
      refine ifn (by decide) (bnd (mo_has _ _) ?_)
      by_cases h8 : fl &&& 8 = 0
      · rw [if_pos h8]
        exact ifp rfl (e254 (fun z => z.2 h8))
      · rw [if_neg h8]
        exact sifp ⟨hn, Or.inl ⟨h4, h8⟩⟩ (ifn (by decide) rfl)
  · rw [if_neg hn]
    exact sifn (fun z => hn z.1) (ifp rfl e5)
theorem and17 (fl : Int32) : fl &&& 17 = 0 ↔ fl &&& 1 = 0 ∧ fl &&& 16 = 0 := by
  have e1 : ∀ x : Int32, fl &&& x = 0 ↔ ∀ i, i < 32 → (fl.toBitVec.getLsbD i && x.toBitVec.getLsbD i) = false := by
    intro x
    rw [← Int32.toBitVec_inj, Int32.toBitVec_and]
    constructor
    · intro h i _
      have := congrArg (fun b => b.getLsbD i) h
      simpa using this
    · intro h
      apply BitVec.eq_of_getLsbD_eq
      intro i hi
      rw [BitVec.getLsbD_and, h i hi]
      simp
  have b17 : ∀ i, i < 32 → (17 : Int32).toBitVec.getLsbD i = ((1 : Int32).toBitVec.getLsbD i || (16 : Int32).toBitVec.getLsbD i) := by decide +kernel
  rw [e1, e1, e1]
  constructor
  · intro h
    refine ⟨fun i hi => ?_, fun i hi => ?_⟩
    · have := h i hi
      rw [b17 i hi] at this
      cases hh : fl.toBitVec.getLsbD i
      · rfl
      · rw [hh] at this
        exact (Bool.or_eq_false_iff.mp this).1
    · have := h i hi
      rw [b17 i hi] at this
      cases hh : fl.toBitVec.getLsbD i
      · rfl
      · rw [hh] at this
        exact (Bool.or_eq_false_iff.mp this).2
  · intro h i hi
    rw [b17 i hi]
    have h1 := h.1 i hi
    have h2 := h.2 i hi
    cases hh : fl.toBitVec.getLsbD i
    · rfl
    · rw [hh] at h1 h2
      exact Bool.or_eq_false_iff.mpr ⟨h1, h2⟩
theorem d3 {s : Nat} {w fl : Int32} (hs : s < 128) (h37 : s = 37 → fl &&& (-2) = 0) : k_Specifier_faultOfParts_62 fl w (nI s) (if numB s = true then 1 else 0) = some (t3 s w fl) := by
  have e4 := d4 hs h37
  unfold k_Specifier_faultOfParts_62 t3 k_Specifier_faultOfParts_81
  by_cases hw : w = -1
  · refine ifp hw ?_
    by_cases hn : numB s = true
    · rw [if_pos hn] at e4 ⊢
      refine ifn (by decide) (bnd (sp_hasAny _ _) ?_)
      by_cases h1 : fl &&& 17 = 0
      · obtain ⟨g1, g2⟩ := (and17 fl).mp h1
        rw [if_pos h1]
        exact sifn (fun z => z.2.elim (fun y => y g1) (fun y => y.2 g2)) (ifp rfl e4)
      · rw [if_neg h1]
        refine sifp ⟨hw, ?_⟩ (ifn (by decide) rfl)
        by_cases g1 : fl &&& 1 = 0
        · exact Or.inr ⟨hn, fun g2 => h1 ((and17 fl).mpr ⟨g1, g2⟩)⟩
        · exact Or.inl g1
    · rw [if_neg hn] at e4 ⊢
      refine ifp rfl (bnd (sp_hasAny _ _) ?_)
      by_cases h1 : fl &&& 1 = 0
      · rw [if_pos h1]
        exact sifn (fun z => z.2.elim (fun y => y h1) (fun y => hn y.1)) (ifp rfl e4)
      · rw [if_neg h1]
        exact sifp ⟨hw, Or.inl h1⟩ (ifn (by decide) rfl)
  · exact sifn (fun z => hw z.1) (ifn hw e4)
def oN (w : Int32) : Prop := w = -1 ∨ ∃ n, n ≤ 1000 ∧ w = nI n
theorem oN_neg {w : Int32} (h : oN w) : w < 0 ↔ w = -1 := by
  rcases h with rfl | ⟨n, hn, rfl⟩
  · exact ⟨fun _ => rfl, fun _ => by decide⟩
  · constructor
    · intro z
      exact absurd z (nI_pos (by omega))
    · intro z
      exfalso
      have := congrArg Int32.toInt z
      rw [nI_toInt (by omega)] at this
      have e : (-1 : Int32).toInt = -1 := by decide
      omega
theorem oN_pos {w : Int32} (h : oN w) : 0 ≤ w ↔ ¬ w = -1 := by
  rw [← oN_neg h, Int32.le_iff_toInt_le, Int32.lt_iff_toInt_lt]
  omega
theorem m3 {c : Nat} {w fl : Int32} (hc : c < 128) (hk : knB (smN c) = true) (hn : smN c ≠ 110) (hw : oN w) : k_Model_faultOf_196 5000 fl w (nI c) (nI (smN c)) = some (t3 (smN c) w fl) := by
  have e4 := m4 (fl := fl) hc hk hn
  unfold k_Model_faultOf_196 t3
  by_cases h : w = -1
  · refine ifn (by rw [oN_pos hw]; exact fun z => z h) (bnd (mo_has _ _) ?_)
    by_cases h1 : fl &&& 1 = 0
    · rw [if_pos h1]
      refine ifp rfl (bnd (mo_isNumber c hc) ?_)
      by_cases hn : numB (smN c) = true
      · rw [if_pos hn]
        refine ifn (by decide) (bnd (mo_has _ _) ?_)
        by_cases h2 : fl &&& 16 = 0
        · rw [if_pos h2]
          exact sifn (fun z => z.2.elim (fun y => y h1) (fun y => y.2 h2)) (ifp rfl e4)
        · rw [if_neg h2]
          exact sifp ⟨h, Or.inr ⟨hn, h2⟩⟩ (ifn (by decide) rfl)
      · rw [if_neg hn]
        exact sifn (fun z => z.2.elim (fun y => y h1) (fun y => hn y.1)) (ifp rfl e4)
    · rw [if_neg h1]
      exact sifp ⟨h, Or.inl h1⟩ (ifn (by decide) rfl)
  · exact sifn (fun z => h z.1) (ifp ((oN_pos hw).mpr h) e4)
theorem d2 {s : Nat} {w fl : Int32} (hs : s < 128) : k_Specifier_faultOfParts_41 fl w (nI s) (if numB s = true then 1 else 0) = some (t2 s w fl) := by
  unfold k_Specifier_faultOfParts_41 t2
  by_cases h : s = 37
  · refine ifp (qeq 37 h) (bnd (sp_hasAny _ _) ?_)
    by_cases h1 : fl &&& (-2) = 0
    · rw [if_pos h1]
      exact sifn (fun z => z.2 h1) (ifp rfl (d3 hs (fun _ => h1)))
    · rw [if_neg h1]
      exact sifp ⟨h, h1⟩ (ifn (by decide) rfl)
  · exact sifn (fun z => h z.1) (ifn (qne 37 h) (d3 hs (fun z => absurd z h)))
theorem m2 {c : Nat} {w fl : Int32} (hc : c < 128) (hk : knB (smN c) = true) (hn : smN c ≠ 110) (hw : oN w) : k_Model_faultOf_177 5000 fl w (nI c) (nI (smN c)) = some (t2 (smN c) w fl) := by
  have hs := sm_lt c hc
  have e3 := m3 (fl := fl) hc hk hn hw
  unfold k_Model_faultOf_177 t2
  by_cases h : smN c = 37
  · refine ifp (qeq 37 h) ?_
    by_cases h1 : fl &&& (-2) = 0
    · exact sifn (fun z => z.2 h1) (ifp h1 e3)
    · exact sifp ⟨h, h1⟩ (ifn h1 rfl)
  · exact sifn (fun z => h z.1) (ifn (qne 37 h) e3)
theorem d1 {s : Nat} {w p fl : Int32} (hs : s < 128) (hn : s ≠ 110) : f_Specifier_faultOfParts 5000 fl w p (nI s) = some (t1 s w p fl) := by
  unfold f_Specifier_faultOfParts t1
  rw [if_neg hn]
  obtain ⟨j, e, h1, h2⟩ := ixf_get (ix_num s hs)
  refine bnd e ?_
  have e2 := d2 (w := w) (fl := fl) hs
  have fin : k_Specifier_faultOfParts_17 5000 fl w p (nI s) (if numB s = true then 1 else 0) = some (if ¬ p = -1 ∧ npB s = true then 6 else t2 s w fl) := by
    unfold k_Specifier_faultOfParts_17
    by_cases hp : p = -1
    · exact sifn (fun z => z.1 hp) (ifp hp e2)
    · obtain ⟨j2, e3, g1, g2⟩ := ixf_get (ix_np s hs)
      refine ifn hp (bnd e3 ?_)
      by_cases hb : npB s = true
      · exact sifp ⟨hp, hb⟩ (ifn (g1 hb) rfl)
      · exact sifn (fun z => hb z.2) (ifp (g2 (Bool.eq_false_iff.mpr hb)) e2)
  by_cases hb : numB s = true
  · rw [if_pos hb] at fin
    exact ifn (h1 hb) fin
  · rw [if_neg hb] at fin
    exact ifp (h2 (Bool.eq_false_iff.mpr hb)) fin
theorem np_list : ∀ s, s < 128 → (npB s = true ↔ s = 37 ∨ s = 99 ∨ s = 100 ∨ s = 111 ∨ s = 120) := by decide +kernel
theorem m1 {c : Nat} {w p fl : Int32} (hc : c < 128) (hk : knB (smN c) = true) (hw : oN w) (hp : oN p) : k_Model_faultOf_94 5000 fl w p (nI c) (nI (smN c)) = some (t1 (smN c) w p fl) := by
  have hs := sm_lt c hc
  unfold k_Model_faultOf_94 t1
  by_cases h : smN c = 110
  · rw [if_pos h]
    refine ifp (qeq 110 h) ?_
    by_cases h1 : w = -1
    · rw [if_pos h1]
      refine ifp ((oN_neg hw).mpr h1) ?_
      by_cases h2 : p = -1
      · rw [if_pos h2]
        refine ifp ((oN_neg hp).mpr h2) ?_
        by_cases h3 : fl = 0
        · exact sifp h3 (ifp h3 rfl)
        · exact sifn h3 (ifn h3 rfl)
      · rw [if_neg h2]
        exact ifn (by rw [oN_neg hp]; exact h2) rfl
    · rw [if_neg h1]
      exact ifn (by rw [oN_neg hw]; exact h1) rfl
  · rw [if_neg h]
    refine ifn (qne 110 h) ?_
    have e2 := m2 (fl := fl) hc hk h hw
    by_cases h2 : p = -1
    · exact sifn (fun z => z.1 h2) (ifp ((oN_neg hp).mpr h2) e2)
    · refine ifn (by rw [oN_neg hp]; exact h2) ?_
      by_cases hb : npB (smN c) = true
      · refine sifp ⟨h2, hb⟩ ?_
        have hl := (np_list _ hs).mp hb
        generalize smN c = s at hs hl ⊢
        by_cases q1 : s = 37
        · exact ifp (qeq 37 q1) rfl
        · refine ifn (qne 37 q1) ?_
          by_cases q2 : s = 99
          · exact ifp (qeq 99 q2) rfl
          · refine ifn (qne 99 q2) ?_
            by_cases q3 : s = 100
            · exact ifp (qeq 100 q3) rfl
            · refine ifn (qne 100 q3) ?_
              by_cases q4 : s = 111
              · exact ifp (qeq 111 q4) rfl
              · exact ifn (qne 111 q4) (ifp (qeq 120 (by omega)) rfl)
      · refine sifn (fun z => hb z.2) ?_
        have hl : ¬ (smN c = 37 ∨ smN c = 99 ∨ smN c = 100 ∨ smN c = 111 ∨ smN c = 120) := fun z => hb ((np_list _ hs).mpr z)
        exact ifn (qne 37 (by omega)) (ifn (qne 99 (by omega)) (ifn (qne 100 (by omega)) (ifn (qne 111 (by omega)) (ifn (qne 120 (by omega)) e2))))
def fltS (ix : Nat) (fl tw w p : Int32) (c : Nat) : Int32 := if 1001 < ix then 2 else if (999 : Int32) < w then 2 else if p ≤ 999 then (if tw = 0 then (if knB (smN c) = true then t1 (smN c) w p fl else 4) else 3) else 2
theorem dI_999 {ix : Nat} (h : ix ≤ 1002) : (999 : Int32) < dI ix ↔ 1001 < ix := by
  have key : ∀ ix, ix < 1003 → ((999 : Int32) < dI ix ↔ 1001 < ix) := by decide +kernel
  exact key ix (by omega)
theorem mI_999 {ix : Nat} (h : ix ≤ 1002) : (999 : Int32) < mI ix ↔ 1001 < ix := by
  have key : ∀ ix, ix < 1003 → ((999 : Int32) < mI ix ↔ 1001 < ix) := by decide +kernel
  exact key ix (by omega)
theorem sp_fault {ix c : Nat} {fl tw w p : Int32} (hix : ix ≤ 1002) (hc : c < 128) : f_Specifier_fault 5000 (dI ix) fl w p (nI (smN c)) (if knB (smN c) = true then 1 else 0) 0 tw = some (fltS ix fl tw w p c) := by
  have hs := sm_lt c hc
  unfold f_Specifier_fault fltS
  refine ifp rfl ?_
  by_cases h1 : 1001 < ix
  · rw [if_pos h1]
    exact ifp ((dI_999 hix).mpr h1) rfl
  · rw [if_neg h1]
    refine ifn (fun z => h1 ((dI_999 hix).mp z)) ?_
    by_cases h2 : (999 : Int32) < w
    · exact sifp h2 (ifp h2 rfl)
    · refine sifn h2 (ifn h2 ?_)
      by_cases h3 : p ≤ 999
      · refine sifp h3 (ifp h3 ?_)
        by_cases h4 : tw = 0
        · refine sifp h4 (ifp h4 ?_)
          by_cases h5 : knB (smN c) = true
          · rw [if_pos h5, if_pos h5]
            refine ifn (by decide) ?_
            by_cases h6 : smN c = 110
            · refine ifp (qeq 110 h6) ?_
              unfold t1 f_Specifier_faultOfLineEnd
              rw [if_pos h6]
              by_cases g1 : w = -1
              · rw [if_pos g1, if_pos g1]
                by_cases g2 : p = -1
                · rw [if_pos g2, if_pos g2]
                  by_cases g3 : fl = 0
                  · rw [if_pos g3, if_pos g3]
                    rfl
                  · rw [if_neg g3, if_neg g3]
                    rfl
                · rw [if_neg g2, if_neg g2]
                  rfl
              · rw [if_neg g1, if_neg g1]
                rfl
            · exact ifn (qne 110 h6) (bnd (d1 hs h6) rfl)
          · rw [if_neg h5, if_neg h5]
            exact ifp rfl rfl
        · exact sifn h4 (ifn h4 rfl)
      · exact sifn h3 (ifn h3 rfl)
theorem mo_faultOf {ix c : Nat} {fl tw w p : Int32} (hix : ix ≤ 1002) (hc : c < 128) (hw : oN w) (hp : oN p) : f_Model_faultOf 5000 (mI ix) fl tw w p (nI c) 0 = some (fltS ix fl tw w p c) := by
  have hs := sm_lt c hc
  unfold f_Model_faultOf fltS
  refine bnd (mo_small c hc) (ifp rfl ?_)
  by_cases h1 : 1001 < ix
  · rw [if_pos h1]
    exact ifp ((mI_999 hix).mpr h1) rfl
  · rw [if_neg h1]
    refine ifn (fun z => h1 ((mI_999 hix).mp z)) ?_
    by_cases h2 : (999 : Int32) < w
    · exact sifp h2 (ifp h2 rfl)
    · refine sifn h2 (ifn h2 ?_)
      by_cases h3 : p ≤ 999
      · refine sifp h3 (ifp h3 ?_)
        by_cases h4 : tw = 0
        · refine sifp h4 (ifp h4 (bnd (mo_isNumber c hc) ?_))
          have hkn := kn_known _ hs
          by_cases h5 : knB (smN c) = true
          · rw [if_pos h5]
            have e1 := m1 (fl := fl) hc h5 hw hp
            by_cases h6 : numB (smN c) = true
            · rw [if_pos h6]
              exact ifn (by decide) e1
            · rw [if_neg h6]
              refine ifp rfl ?_
              have hl : smN c = 98 ∨ smN c = 115 ∨ smN c = 99 ∨ smN c = 37 ∨ smN c = 110 := (hkn.mp h5).resolve_left h6
              by_cases q1 : smN c = 98
              · exact ifp (qeq 98 q1) e1
              · refine ifn (qne 98 q1) ?_
                by_cases q2 : smN c = 115
                · exact ifp (qeq 115 q2) e1
                · refine ifn (qne 115 q2) ?_
                  by_cases q3 : smN c = 99
                  · exact ifp (qeq 99 q3) e1
                  · refine ifn (qne 99 q3) ?_
                    by_cases q4 : smN c = 37
                    · exact ifp (qeq 37 q4) e1
                    · exact ifn (qne 37 q4) (ifp (qeq 110 (by omega)) e1)
          · refine sifn h5 ?_
            have hl : ¬ (numB (smN c) = true ∨ smN c = 98 ∨ smN c = 115 ∨ smN c = 99 ∨ smN c = 37 ∨ smN c = 110) := fun z => h5 (hkn.mpr z)
            have hnum : ¬ numB (smN c) = true := fun z => hl (Or.inl z)
            have hl2 : ¬ (smN c = 98 ∨ smN c = 115 ∨ smN c = 99 ∨ smN c = 37 ∨ smN c = 110) := fun z => hl (Or.inr z)
            rw [if_neg hnum]
            exact ifp rfl (ifn (qne 98 (by omega)) (ifn (qne 115 (by omega)) (ifn (qne 99 (by omega)) (ifn (qne 37 (by omega)) (ifn (qne 110 (by omega)) rfl)))))
        · exact sifn h4 (ifn h4 rfl)
      · exact sifn h3 (ifn h3 rfl)
