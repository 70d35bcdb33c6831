def fg (c : Nat) : Int32 := (f_Specifier_flagOf (nI c)).getD 0
theorem sp_flagOf {c : Nat} (h : c < 128) : f_Specifier_flagOf (nI c) = some (fg c) := by
  have key : ∀ c, c < 128 → f_Specifier_flagOf (nI c) = some (fg c) := by decide +kernel
  exact key c h
theorem mo_flagOf {c : Nat} (h : c < 128) : f_Model_flagOf (nI c) = some (fg c) := by
  have key : ∀ c, c < 128 → f_Model_flagOf (nI c) = some (fg c) := by decide +kernel
  exact key c h
theorem fg_0 : fg 0 = 0 := by decide +kernel
def tw1 (fl tw x : Int32) : Int32 := if tw = 0 then (if fl &&& x = 0 then 0 else 1) else 1
def flS : List Nat → Int32 → Int32 → Nat × Int32 × Int32
  | [], fl, tw => (0, fl, tw)
  | c :: cs, fl, tw => if fg c = 0 then (0, fl, tw) else ((flS cs (fl ||| fg c) (tw1 fl tw (fg c))).1 + 1, (flS cs (fl ||| fg c) (tw1 fl tw (fg c))).2)
theorem flS_len : ∀ (L : List Nat) (fl tw : Int32), (flS L fl tw).1 ≤ L.length
  | [], _, _ => Nat.le_refl _
  | c :: cs, fl, tw => by
    unfold flS
    by_cases h : fg c = 0
    · rw [if_pos h]
      exact Nat.zero_le _
    · rw [if_neg h]
      have := flS_len cs (fl ||| fg c) (tw1 fl tw (fg c))
      show _ + 1 ≤ cs.length + 1
      omega
theorem flS_stop {D : List Nat} {k : Nat} {fl tw : Int32} (h : fg (lk D k) = 0) : flS (D.drop k) fl tw = (0, fl, tw) := by
  by_cases hk : k < D.length
  · rw [lk_drop hk]
    unfold flS
    rw [if_pos h]
  · rw [drop_out (by omega)]
    rfl
theorem fg_in {D : List Nat} {k : Nat} (h : ¬ fg (lk D k) = 0) : k < D.length := by
  by_cases hk : k < D.length
  · exact hk
  · rw [lk_out (by omega)] at h
    exact absurd fg_0 h
theorem flS_step {D : List Nat} {k : Nat} {fl tw : Int32} (h : ¬ fg (lk D k) = 0) : flS (D.drop k) fl tw = ((flS (D.drop (k + 1)) (fl ||| fg (lk D k)) (tw1 fl tw (fg (lk D k)))).1 + 1, (flS (D.drop (k + 1)) (fl ||| fg (lk D k)) (tw1 fl tw (fg (lk D k)))).2) := by
  rw [lk_drop (fg_in h)]
  conv => lhs; unfold flS
  rw [if_neg h]
theorem sp_hasAny (fl x : Int32) : f_Specifier_hasAny fl x = some (if fl &&& x = 0 then 0 else 1) := by
  unfold f_Specifier_hasAny
  by_cases h : fl &&& x = 0
  · rw [if_pos h, if_pos h]
  · rw [if_neg h, if_neg h]
theorem sp_readFlags_l {n : Nat} {f : Nat → Int32} {u : Int32} {D : List Nat} (h : rowOK n f u D) (hD : chOK D) : ∀ (d k m : Nat) (fl tw : Int32), D.length - k = d → d < m → k < 2 ^ 30 → lp_ (b_Specifier_readFlags_2 n f u) m (nI k, fl, tw) = some (nI (k + (flS (D.drop k) fl tw).1), (flS (D.drop k) fl tw).2) := by
  have hu := h.1
  intro d
  induction d with
  | zero =>
    intro k m fl tw hk hm hb
    obtain ⟨m, rfl⟩ : ∃ j, m = j + 1 := ⟨m - 1, by omega⟩
    show b_Specifier_readFlags_2 n f u (lp_ (b_Specifier_readFlags_2 n f u) m) _ = _
    unfold b_Specifier_readFlags_2
    rw [drop_out (by omega)]
    exact ifp (rle _ (by omega) hu) rfl
  | succ d ih =>
    intro k m fl tw hk hm hb
    obtain ⟨m, rfl⟩ : ∃ j, m = j + 1 := ⟨m - 1, by omega⟩
    have hl : k < D.length := by omega
    have hc := lk_lt hD k
    have hi := ih (k + 1) m (fl ||| fg (lk D k)) (tw1 fl tw (fg (lk D k))) (by omega) (by omega) (by have := hD.1; omega)
    show b_Specifier_readFlags_2 n f u (lp_ (b_Specifier_readFlags_2 n f u) m) _ = _
    generalize lp_ (b_Specifier_readFlags_2 n f u) m = rc at hi ⊢
    unfold b_Specifier_readFlags_2
    refine ifn (rnle _ hl hu (by have := hD.1; omega)) (bnd (row_lk h hl) (bnd (sp_flagOf (by omega)) ?_))
    by_cases hz : fg (lk D k) = 0
    · rw [flS_stop hz]
      exact ifp hz rfl
    · rw [flS_step hz]
      refine ifn hz ?_
      rw [show k + ((flS (D.drop (k + 1)) (fl ||| fg (lk D k)) (tw1 fl tw (fg (lk D k)))).1 + 1) = k + 1 + (flS (D.drop (k + 1)) (fl ||| fg (lk D k)) (tw1 fl tw (fg (lk D k)))).1 by omega, ← hi, ← nI_1]
      unfold tw1
      by_cases ht : tw = 0
      · refine ifp ht (bnd (sp_hasAny _ _) ?_)
        rw [if_pos ht]
        by_cases hf : fl &&& fg (lk D k) = 0
        · rw [if_pos hf]
          exact ifp rfl rfl
        · rw [if_neg hf]
          exact ifn (by decide) rfl
      · refine ifn ht ?_
        rw [if_neg ht]
        rfl
theorem sp_readFlags {n : Nat} {f : Nat → Int32} {u : Int32} {D : List Nat} (h : rowOK n f u D) (hD : chOK D) {k : Nat} (hk : k < 2 ^ 30) : f_Specifier_readFlags 5000 0 0 n f u (nI k) = some (nI (k + (flS (D.drop k) 0 0).1), (flS (D.drop k) 0 0).2) :=
  sp_readFlags_l h hD _ k 5000 0 0 rfl (by have := hD.1; omega) hk
def ixS (D : List Nat) (k : Nat) : Nat × Nat := if lk D k = 60 then (1, k + 1) else if dgB (lk D k) = true ∧ lk D k ≠ 48 ∧ lk D (dE D k) = 36 then (nmE D k + 2, dE D k + 1) else (0, k)
def dI (i : Nat) : Int32 := if i = 0 then -1 else if i = 1 then -2 else nI (i - 2)
def mI (i : Nat) : Int32 := if i = 0 then -1 else if i = 1 then 0 else nI (i - 2)
def wS (D : List Nat) (k : Nat) : Int32 := if dgB (lk D k) = true then nI (nmE D k) else -1
def brS (D : List Nat) (k : Nat) : Bool := decide (lk D k = 46) && !dgB (lk D (k + 1))
def pS (D : List Nat) (k : Nat) : Int32 := if lk D k = 46 then nI (nmE D (k + 1)) else -1
def pE (D : List Nat) (k : Nat) : Nat := if lk D k = 46 then dE D (k + 1) else k
def r1 (D : List Nat) (a : Nat) : Nat := (ixS D (a + 1)).2
def r2 (D : List Nat) (a : Nat) : Nat := r1 D a + (flS (D.drop (r1 D a)) 0 0).1
def r3 (D : List Nat) (a : Nat) : Nat := dE D (r2 D a)
def r4 (D : List Nat) (a : Nat) : Nat := pE D (r3 D a)
theorem r1_gt (D : List Nat) (a : Nat) : a < r1 D a := by
  unfold r1 ixS
  by_cases h1 : lk D (a + 1) = 60
  · rw [if_pos h1]
    show a < a + 1 + 1
    omega
  · rw [if_neg h1]
    by_cases h2 : dgB (lk D (a + 1)) = true ∧ lk D (a + 1) ≠ 48 ∧ lk D (dE D (a + 1)) = 36
    · rw [if_pos h2]
      have := dE_ge D (a + 1)
      show a < dE D (a + 1) + 1
      omega
    · rw [if_neg h2]
      show a < a + 1
      omega
theorem lk_ne_in {D : List Nat} {k : Nat} (h : lk D k ≠ 0) : k < D.length := by
  by_cases hk : k < D.length
  · exact hk
  · exact absurd (lk_out (by omega)) h
theorem r1_le {D : List Nat} {a : Nat} (ha : a < D.length) : r1 D a ≤ D.length := by
  unfold r1 ixS
  by_cases h1 : lk D (a + 1) = 60
  · rw [if_pos h1]
    exact lk_ne_in (k := a + 1) (by omega)
  · rw [if_neg h1]
    by_cases h2 : dgB (lk D (a + 1)) = true ∧ lk D (a + 1) ≠ 48 ∧ lk D (dE D (a + 1)) = 36
    · rw [if_pos h2]
      exact lk_ne_in (k := dE D (a + 1)) (by omega)
    · rw [if_neg h2]
      exact ha
theorem r2_ge (D : List Nat) (a : Nat) : r1 D a ≤ r2 D a := Nat.le_add_right _ _
theorem r2_le {D : List Nat} {a : Nat} (ha : a < D.length) : r2 D a ≤ D.length := by
  have h1 := r1_le ha
  have h2 := flS_len (D.drop (r1 D a)) 0 0
  rw [List.length_drop] at h2
  unfold r2
  omega
theorem dE_lel {D : List Nat} {k : Nat} (h : k ≤ D.length) : dE D k ≤ D.length := by
  rcases dE_le (D := D) (k := k) with h1 | h1
  · exact h1
  · omega
theorem r3_le {D : List Nat} {a : Nat} (ha : a < D.length) : r3 D a ≤ D.length := dE_lel (r2_le ha)
theorem r4_le {D : List Nat} {a : Nat} (ha : a < D.length) : r4 D a ≤ D.length := by
  unfold r4 pE
  by_cases h : lk D (r3 D a) = 46
  · rw [if_pos h]
    exact dE_lel (lk_ne_in (by omega))
  · rw [if_neg h]
    exact r3_le ha
theorem r4_gt {D : List Nat} {a : Nat} : a < r4 D a := by
  have h1 := r1_gt D a
  have h2 := r2_ge D a
  have h3 := dE_ge D (r2 D a)
  have h4 : r3 D a ≤ r4 D a := by
    unfold r4 pE
    by_cases h : lk D (r3 D a) = 46
    · rw [if_pos h]
      have := dE_ge D (r3 D a + 1)
      omega
    · rw [if_neg h]
      exact Nat.le_refl _
  unfold r3 at h4
  omega
theorem sp_readIndex {n : Nat} {f : Nat → Int32} {u : Int32} {D : List Nat} (h : rowOK n f u D) (hD : chOK D) {k : Nat} (hk : k < 2 ^ 28) : f_Specifier_readIndex 5000 (-1) n f u (nI k) = some (nI (ixS D k).2, dI (ixS D k).1) := by
  have hlen := hD.1
  unfold f_Specifier_readIndex
  have ix1 : lk D k = 60 → ixS D k = (1, k + 1) := fun h1 => by unfold ixS; rw [if_pos h1]
  have ix2 : ¬ lk D k = 60 → ¬ (dgB (lk D k) = true ∧ lk D k ≠ 48 ∧ lk D (dE D k) = 36) → ixS D k = (0, k) := fun h1 h2 => by unfold ixS; rw [if_neg h1, if_neg h2]
  have ix3 : ¬ lk D k = 60 → (dgB (lk D k) = true ∧ lk D k ≠ 48 ∧ lk D (dE D k) = 36) → ixS D k = (nmE D k + 2, dE D k + 1) := fun h1 h2 => by unfold ixS; rw [if_neg h1, if_pos h2]
  by_cases hl : k < D.length
  · have hc := lk_lt hD k
    refine bnd (row_lk h hl) ?_
    by_cases h1 : lk D k = 60
    · rw [ix1 h1]
      refine ifp (qeq 60 h1) ?_
      rw [show nI k + (1 : Int32) = nI (k + 1) from nI_1 k]
      rfl
    · refine ifn (qne 60 h1) (bnd (sp_digitsEnd h hD (by omega)) (bnd (row_lk h hl) ?_))
      by_cases h2 : lk D k = 48
      · rw [ix2 h1 (fun z => z.2.1 h2)]
        exact ifp (qeq 48 h2) rfl
      · refine ifn (qne 48 h2) ?_
        by_cases hd : dgB (lk D k) = true
        · have hg := dE_gt hd
          have hle : dE D k ≤ D.length := dE_lel (by omega)
          refine ifn (qne k (by omega) rfl (by omega) (by omega)) ?_
          by_cases h3 : lk D (dE D k) = 36
          · rw [ix3 h1 ⟨hd, h2, h3⟩]
            have h4 : dE D k < D.length := lk_ne_in (by omega)
            refine bnd (row_lk h h4) (ifp (qeq 36 h3) (bnd (sp_numberIn h hD (by omega)) ?_))
            rw [show nI (dE D k) + (1 : Int32) = nI (dE D k + 1) from nI_1 _]
            rfl
          · rw [ix2 h1 (fun z => h3 z.2.2)]
            by_cases h4 : dE D k < D.length
            · have hc2 := lk_lt hD (dE D k)
              exact bnd (row_lk h h4) (ifn (qne 36 h3) rfl)
            · exact bnd (row_out h (by omega) (by omega)) (ifn (by decide) rfl)
        · rw [ix2 h1 (fun z => hd z.1), dE_stop hd]
          exact ifp rfl rfl
  · have h0 : lk D k = 0 := lk_out (by omega)
    have hd : ¬ dgB (lk D k) = true := fun z => hl (dg_in z)
    refine bnd (row_out h (by omega) (by omega)) (ifn (by decide) (bnd (sp_digitsEnd h hD (by omega)) (bnd (row_out h (by omega) (by omega)) (ifn (by decide) ?_))))
    rw [ix2 (by omega) (fun z => hd z.1), dE_stop hd]
    exact ifp rfl rfl
theorem sp_readWidth {n : Nat} {f : Nat → Int32} {u : Int32} {D : List Nat} (h : rowOK n f u D) (hD : chOK D) {k : Nat} (hk : k < 2 ^ 28) : f_Specifier_readWidth 5000 (-1) n f u (nI k) = some (nI (dE D k), wS D k) := by
  have hlen := hD.1
  have hle := dE_le (D := D) (k := k)
  unfold f_Specifier_readWidth wS
  refine bnd (sp_digitsEnd h hD (by omega)) ?_
  by_cases hd : dgB (lk D k) = true
  · rw [if_pos hd]
    have hg := dE_gt hd
    exact ifn (nI_ge hg (by omega)) (bnd (sp_numberIn h hD (by omega)) rfl)
  · rw [if_neg hd, dE_stop hd]
    exact ifp (nI_le (Nat.le_refl _) (by omega)) rfl
theorem sp_readPrecision {n : Nat} {f : Nat → Int32} {u : Int32} {D : List Nat} (h : rowOK n f u D) (hD : chOK D) {k : Nat} (hk : k < 2 ^ 28) : f_Specifier_readPrecision 5000 (-1) 0 n f u (nI k) = some (nI (pE D k), (if brS D k = true then -1 else pS D k), (if brS D k = true then 1 else 0)) := by
  have hlen := hD.1
  have hle := dE_le (D := D) (k := k + 1)
  unfold f_Specifier_readPrecision
  by_cases hl : lk D k = 46
  · have h1 : k < D.length := lk_ne_in (by omega)
    refine bnd (row_lk h h1) (ifp (qeq 46 hl) ?_)
    rw [show nI k + (1 : Int32) = nI (k + 1) from nI_1 k]
    refine bnd (sp_digitsEnd h hD (by omega)) ?_
    unfold brS pE pS
    rw [if_pos hl, if_pos hl, decide_eq_true hl]
    by_cases hd : dgB (lk D (k + 1)) = true
    · have hg := dE_gt hd
      rw [hd]
      refine ifn (qne (k + 1) (by omega) rfl (by omega) (by omega)) (bnd (sp_numberIn h hD (by omega)) ?_)
      rfl
    · rw [dE_stop hd, Bool.eq_false_iff.mpr hd]
      exact ifp rfl rfl
  · have e : brS D k = false := by
      unfold brS
      rw [decide_eq_false hl]
      rfl
    unfold pE pS
    rw [e, if_neg hl, if_neg hl]
    by_cases h1 : k < D.length
    · have hc := lk_lt hD k
      exact bnd (row_lk h h1) (ifn (qne 46 hl) rfl)
    · exact bnd (row_out h (by omega) (by omega)) (ifn (by decide) rfl)
def grB (c : Nat) : Bool := [66, 83, 67, 88, 69, 71, 65].contains c
def smN (c : Nat) : Nat := if grB c = true then c + 32 else c
def knB (s : Nat) : Bool := [98, 115, 99, 100, 111, 120, 101, 102, 103, 97, 37, 110].contains s
theorem ixf_get {o : Option Int32} {b : Bool} (h : o.map (fun x => decide (x < 0)) = some (!b)) : ∃ j, o = some j ∧ (b = true → ¬ j < 0) ∧ (b = false → j < 0) := by
  cases o with
  | none => cases h
  | some j =>
    refine ⟨j, rfl, fun hb => ?_, fun hb => ?_⟩
    · rw [hb] at h
      exact of_decide_eq_false (Option.some.inj h)
    · rw [hb] at h
      exact of_decide_eq_true (Option.some.inj h)
theorem ch_small : ∀ c, c < 256 → ((nI c).toUInt32 % 65536).toInt32 = nI c := by decide +kernel
theorem ix_great : ∀ c, c < 160 → (f_String_indexOf 5000 0 (nI c)).map (fun x => decide (x < 0)) = some (!grB c) := by decide +kernel
theorem ix_small : ∀ c, c < 160 → (f_String_indexOf 5000 1 (nI c)).map (fun x => decide (x < 0)) = some (!knB c) := by decide +kernel
theorem sm_lt : ∀ c, c < 128 → smN c < 128 := by decide +kernel
theorem sp_readConversion {n : Nat} {f : Nat → Int32} {u : Int32} {D : List Nat} (h : rowOK n f u D) (hD : chOK D) {k : Nat} (hk : k < D.length) (z : Int32) : f_Specifier_readConversion 5000 0 0 0 z n f u (nI k) = some (nI (smN (lk D k)), (if grB (lk D k) = true then 1 else 0), (if knB (smN (lk D k)) = true then 1 else 0), z, nI k) := by
  have hc := lk_lt hD k
  unfold f_Specifier_readConversion
  refine bnd (row_lk h hk) (ifp (nI_pos' (by omega)) ?_)
  generalize lk D k = c at hc
  rw [ch_small c (by omega)]
  obtain ⟨j, e, h1, h2⟩ := ixf_get (ix_great c (by omega))
  refine bnd e ?_
  have hs := sm_lt c (by omega)
  obtain ⟨j2, e2, h3, h4⟩ := ixf_get (ix_small (smN c) (by omega))
  have fin : k_Specifier_readConversion_56 5000 (nI (smN c)) 0 (if grB c = true then 1 else 0) 0 z (nI k) = some (nI (smN c), (if grB c = true then 1 else 0), (if knB (smN c) = true then 1 else 0), z, nI k) := by
    unfold k_Specifier_readConversion_56
    rw [ch_small (smN c) (by omega)]
    refine bnd e2 ?_
    by_cases hb : knB (smN c) = true
    · rw [if_pos hb]
      exact ifn (h3 hb) rfl
    · rw [if_neg hb]
      exact ifp (h4 (Bool.eq_false_iff.mpr hb)) rfl
  by_cases hb : grB c = true
  · refine ifn (h1 hb) ?_
    unfold k_Specifier_readConversion_37
    refine ifn (by decide) ?_
    have e3 : nI c + (32 : Int32) = nI (smN c) := by
      unfold smN
      rw [if_pos hb]
      exact nI_add c 32
    rw [e3]
    rw [if_pos hb] at fin ⊢
    exact fin
  · refine ifp (h2 (Bool.eq_false_iff.mpr hb)) ?_
    unfold k_Specifier_readConversion_37
    refine ifp rfl ?_
    have e3 : nI c = nI (smN c) := by
      unfold smN
      rw [if_neg hb]
    rw [if_neg hb] at fin ⊢
    rw [← e3] at fin ⊢
    exact fin
theorem sp_readConversion_out {n : Nat} {f : Nat → Int32} {u : Int32} {D : List Nat} (h : rowOK n f u D) {k : Nat} (hk : D.length ≤ k) (hk2 : k < 2 ^ 31) (z : Int32) : f_Specifier_readConversion 5000 0 0 0 z n f u (nI k) = some (0, 0, 0, 1, nI k) := by
  unfold f_Specifier_readConversion
  exact bnd (row_out h hk hk2) (ifn (by decide) rfl)
theorem sp_readFrom {n : Nat} {f : Nat → Int32} {u : Int32} {D : List Nat} (h : rowOK n f u D) (hD : chOK D) {a : Nat} (ha : a < D.length) : f_Specifier_readFrom 5000 n f u (nI a) = some (dI (ixS D (a + 1)).1, (flS (D.drop (r1 D a)) 0 0).2.1, wS D (r2 D a), (if brS D (r3 D a) = true then -1 else pS D (r3 D a)),
    (if r4 D a < D.length then nI (smN (lk D (r4 D a))) else 0), (if r4 D a < D.length then (if grB (lk D (r4 D a)) = true then 1 else 0) else 0), (if r4 D a < D.length then (if knB (smN (lk D (r4 D a))) = true then 1 else 0) else 0), (if r4 D a < D.length then (if brS D (r3 D a) = true then 1 else 0) else 1), (flS (D.drop (r1 D a)) 0 0).2.2, nI (r4 D a)) := by
  have hlen := hD.1
  have g1 := r1_le ha
  have g2 := r2_le ha
  have g3 := r3_le ha
  have g4 := r4_le ha
  unfold f_Specifier_readFrom
  rw [show nI a + (1 : Int32) = nI (a + 1) from nI_1 a]
  refine bnd (sp_readIndex h hD (by omega)) (bnd (sp_readFlags h hD (k := r1 D a) (by omega)) (bnd (sp_readWidth h hD (k := r2 D a) (by omega)) (bnd (sp_readPrecision h hD (k := r3 D a) (by omega)) ?_)))
  by_cases h4 : r4 D a < D.length
  · rw [if_pos h4, if_pos h4, if_pos h4, if_pos h4]
    exact bnd (sp_readConversion h hD h4 _) rfl
  · rw [if_neg h4, if_neg h4, if_neg h4, if_neg h4]
    exact bnd (sp_readConversion_out h (k := r4 D a) (by omega) (by omega) _) rfl
theorem mo_tail {f : Nat → Int32} {u : Int32} {D : List Nat} (h : dfOK f u D) (hD : chOK D) {k : Nat} (hk : k < 2 ^ 28) (e0 ix fl tw w p c0 : Int32) (b : Bool) : k_Model_goOver_267 f u (nI k) e0 ix fl tw w p c0 (if b = true then 1 else 0) = some (nI (k + 1), ix, fl, tw, w, p, nI (lk D k), (if b = true then 1 else if k < D.length then 0 else 1)) := by
  have hlen := hD.1
  unfold k_Model_goOver_267 k_Model_goOver_283 k_Model_goOver_288
  rw [show nI k + (1 : Int32) = nI (k + 1) from nI_1 k]
  cases b with
  | true => exact ifn (by decide) (bnd (mo_look h (by omega)) rfl)
  | false =>
    refine ifp rfl ?_
    by_cases h1 : k < D.length
    · refine ifp (by rw [h.1]; exact nI_lt h1 (by omega)) (bnd (mo_look h (by omega)) ?_)
      rw [if_pos h1]
      rfl
    · refine ifn (by rw [h.1]; exact nI_nlt (by omega) (by omega)) (bnd (mo_look h (by omega)) ?_)
      rw [if_neg h1]
      rfl
theorem mo_point {f : Nat → Int32} {u : Int32} {D : List Nat} (h : dfOK f u D) (hD : chOK D) {k : Nat} (hk : k < 2 ^ 27) (e0 ix fl tw w c0 : Int32) : k_Model_goOver_209 5000 f u (nI k) e0 ix fl tw w (-1) c0 0 = some (nI (pE D k + 1), ix, fl, tw, w, pS D k, nI (lk D (pE D k)), (if brS D k = true then 1 else if pE D k < D.length then 0 else 1)) := by
  have hlen := hD.1
  have hle := dE_le (D := D) (k := k + 1)
  have hc := lk_lt hD k
  unfold k_Model_goOver_209
  refine bnd (mo_look h (by omega)) ?_
  by_cases hl : lk D k = 46
  · refine ifp (qeq 46 hl) ?_
    rw [show nI k + (1 : Int32) = nI (k + 1) from nI_1 k]
    have hc2 := lk_lt hD (k + 1)
    have t := mo_tail h hD (k := dE D (k + 1)) (by omega) e0 ix fl tw w (nI (nmE D (k + 1))) c0 (brS D k)
    unfold pE pS
    rw [if_pos hl, if_pos hl, ← t]
    refine bnd (mo_look h (by omega)) (bnd (mo_isDigit (by omega)) ?_)
    have fin : ∀ b : Int32, k_Model_goOver_238 5000 f u (nI k) b e0 ix fl tw w (-1) c0 0 = k_Model_goOver_267 f u (nI (dE D (k + 1))) e0 ix fl tw w (nI (nmE D (k + 1))) c0 b := by
      intro b
      unfold k_Model_goOver_238
      rw [show nI k + (1 : Int32) = nI (k + 1) from nI_1 k]
      exact bnd (mo_digitsEnd h hD (by omega)) (bnd (mo_said h hD (by omega)) (bnd (mo_digitsEnd h hD (by omega)) rfl))
    unfold brS
    rw [decide_eq_true hl]
    by_cases hd : dgB (lk D (k + 1)) = true
    · rw [hd]
      exact ifn (by decide) (fin 0)
    · rw [Bool.eq_false_iff.mpr hd]
      exact ifp rfl (fin 1)
  · refine ifn (qne 46 hl) ?_
    have t := mo_tail h hD (k := k) (by omega) e0 ix fl tw w (-1) c0 false
    have e : brS D k = false := by
      unfold brS
      rw [decide_eq_false hl]
      rfl
    unfold pE pS
    rw [e, if_neg hl, if_neg hl]
    exact t
theorem mo_flags {f : Nat → Int32} {u : Int32} {D : List Nat} (h : dfOK f u D) (hD : chOK D) (e0 ix c0 : Int32) : ∀ (d k m : Nat) (fl tw : Int32), D.length - k = d → d < m → k < 2 ^ 20 →
    lp_ (b_Model_goOver_112 5000 f u e0 ix (-1) (-1) c0 0) m (nI k, fl, tw) = some (nI (pE D (dE D (k + (flS (D.drop k) fl tw).1)) + 1), ix, (flS (D.drop k) fl tw).2.1, (flS (D.drop k) fl tw).2.2, wS D (k + (flS (D.drop k) fl tw).1), pS D (dE D (k + (flS (D.drop k) fl tw).1)), nI (lk D (pE D (dE D (k + (flS (D.drop k) fl tw).1)))),
      (if brS D (dE D (k + (flS (D.drop k) fl tw).1)) = true then 1 else if pE D (dE D (k + (flS (D.drop k) fl tw).1)) < D.length then 0 else 1)) := by
  have hlen := hD.1
  have stop : ∀ (k m : Nat) (fl tw : Int32), k < 2 ^ 20 → fg (lk D k) = 0 → lp_ (b_Model_goOver_112 5000 f u e0 ix (-1) (-1) c0 0) (m + 1) (nI k, fl, tw) = some (nI (pE D (dE D k) + 1), ix, fl, tw, wS D k, pS D (dE D k), nI (lk D (pE D (dE D k))), (if brS D (dE D k) = true then 1 else if pE D (dE D k) < D.length then 0 else 1)) := by
    intro k m fl tw hb hz
    have hc := lk_lt hD k
    have hle := dE_le (D := D) (k := k)
    show b_Model_goOver_112 5000 f u e0 ix (-1) (-1) c0 0 (lp_ (b_Model_goOver_112 5000 f u e0 ix (-1) (-1) c0 0) m) _ = _
    generalize lp_ (b_Model_goOver_112 5000 f u e0 ix (-1) (-1) c0 0) m = rc
    unfold b_Model_goOver_112
    refine bnd (mo_look h (by omega)) (bnd (mo_flagOf (by omega)) (ifp hz (bnd (mo_look h (by omega)) (bnd (mo_isDigit (by omega)) ?_))))
    by_cases hd : dgB (lk D k) = true
    · rw [if_pos hd]
      refine ifn (by decide) (bnd (mo_digitsEnd h hD (by omega)) (bnd (mo_said h hD (by omega)) (bnd (mo_digitsEnd h hD (by omega)) ?_)))
      have e : wS D k = nI (nmE D k) := if_pos hd
      rw [e]
      exact mo_point h hD (by omega) e0 ix fl tw _ c0
    · rw [if_neg hd]
      refine ifp rfl ?_
      have e : wS D k = -1 := if_neg hd
      rw [e, dE_stop hd]
      exact mo_point h hD (by omega) e0 ix fl tw _ c0
  intro d
  induction d with
  | zero =>
    intro k m fl tw hk hm hb
    obtain ⟨m, rfl⟩ : ∃ j, m = j + 1 := ⟨m - 1, by omega⟩
    have hz : fg (lk D k) = 0 := by rw [lk_out (by omega)]; exact fg_0
    rw [flS_stop hz]
    exact stop k m fl tw hb hz
  | succ d ih =>
    intro k m fl tw hk hm hb
    obtain ⟨m, rfl⟩ : ∃ j, m = j + 1 := ⟨m - 1, by omega⟩
    by_cases hz : fg (lk D k) = 0
    · rw [flS_stop hz]
      exact stop k m fl tw hb hz
    · have hc := lk_lt hD k
      have hi := ih (k + 1) m (fl ||| fg (lk D k)) (tw1 fl tw (fg (lk D k))) (by omega) (by omega) (by omega)
      rw [flS_step hz, show k + ((flS (D.drop (k + 1)) (fl ||| fg (lk D k)) (tw1 fl tw (fg (lk D k)))).1 + 1) = k + 1 + (flS (D.drop (k + 1)) (fl ||| fg (lk D k)) (tw1 fl tw (fg (lk D k)))).1 by omega]
      refine Eq.trans ?_ hi
      show b_Model_goOver_112 5000 f u e0 ix (-1) (-1) c0 0 (lp_ (b_Model_goOver_112 5000 f u e0 ix (-1) (-1) c0 0) m) _ = _
      generalize lp_ (b_Model_goOver_112 5000 f u e0 ix (-1) (-1) c0 0) m = rc
      unfold b_Model_goOver_112
      refine bnd (mo_look h (by omega)) (bnd (mo_flagOf (by omega)) (ifn hz ?_))
      unfold tw1
      have fin : ∀ b : Int32, k_Model_goOver_152 f u rc (nI k) b fl tw = rc (nI (k + 1), fl ||| fg (lk D k), b) := by
        intro b
        unfold k_Model_goOver_152
        refine bnd (mo_look h (by omega)) (bnd (mo_flagOf (by omega)) ?_)
        rw [nI_1]
      by_cases ht : tw = 0
      · refine ifp ht (bnd (mo_look h (by omega)) (bnd (mo_flagOf (by omega)) ?_))
        rw [if_pos ht]
        by_cases hf : fl &&& fg (lk D k) = 0
        · rw [if_pos hf, if_pos hf]
          exact fin 0
        · rw [if_neg hf, if_neg hf]
          exact fin 1
      · refine ifn ht ?_
        rw [if_neg ht]
        exact fin 1
theorem mo_goOver {f : Nat → Int32} {u : Int32} {D : List Nat} (h : dfOK f u D) (hD : chOK D) (e0 c0 : Int32) {a : Nat} (ha : a < D.length) : f_Model_goOver 5000 f u e0 c0 (nI a) = some (nI (r4 D a + 1), mI (ixS D (a + 1)).1, (flS (D.drop (r1 D a)) 0 0).2.1, (flS (D.drop (r1 D a)) 0 0).2.2, wS D (r2 D a), pS D (r3 D a), nI (lk D (r4 D a)), (if brS D (r3 D a) = true then 1 else if r4 D a < D.length then 0 else 1)) := by
  have hlen := hD.1
  have hc := lk_lt hD (a + 1)
  have hle := dE_le (D := D) (k := a + 1)
  have g1 := r1_le ha
  have fin : ∀ ix k, k = r1 D a → lp_ (b_Model_goOver_112 5000 f u e0 ix (-1) (-1) c0 0) 5000 (nI k, 0, 0) = some (nI (r4 D a + 1), ix, (flS (D.drop (r1 D a)) 0 0).2.1, (flS (D.drop (r1 D a)) 0 0).2.2, wS D (r2 D a), pS D (r3 D a), nI (lk D (r4 D a)), (if brS D (r3 D a) = true then 1 else if r4 D a < D.length then 0 else 1)) := by
    intro ix k hk
    subst hk
    exact mo_flags h hD e0 ix c0 _ (r1 D a) 5000 0 0 rfl (by omega) (by omega)
  unfold f_Model_goOver
  rw [show nI a + (1 : Int32) = nI (a + 1) from nI_1 a]
  refine bnd (mo_look h (by omega)) ?_
  by_cases h1 : lk D (a + 1) = 60
  · have e : ixS D (a + 1) = (1, a + 1 + 1) := by unfold ixS; rw [if_pos h1]
    refine ifp (qeq 60 h1) ?_
    rw [show nI (a + 1) + (1 : Int32) = nI (a + 1 + 1) from nI_1 _, fin 0 (a + 1 + 1) (by unfold r1; rw [e]), e]
    rfl
  · refine ifn (qne 60 h1) (bnd (mo_look h (by omega)) (bnd (mo_isDigit (by omega)) ?_))
    have none_ : ¬ (dgB (lk D (a + 1)) = true ∧ lk D (a + 1) ≠ 48 ∧ lk D (dE D (a + 1)) = 36) → lp_ (b_Model_goOver_112 5000 f u e0 (-1) (-1) (-1) c0 0) 5000 (nI (a + 1), 0, 0) = some (nI (r4 D a + 1), mI (ixS D (a + 1)).1, (flS (D.drop (r1 D a)) 0 0).2.1, (flS (D.drop (r1 D a)) 0 0).2.2, wS D (r2 D a), pS D (r3 D a), nI (lk D (r4 D a)), (if brS D (r3 D a) = true then 1 else if r4 D a < D.length then 0 else 1)) := by
      intro hn
      have e : ixS D (a + 1) = (0, a + 1) := by unfold ixS; rw [if_neg h1, if_neg hn]
      rw [fin (-1) (a + 1) (by unfold r1; rw [e]), e]
      rfl
    by_cases hd : dgB (lk D (a + 1)) = true
    · rw [if_pos hd]
      refine ifn (by decide) (bnd (mo_look h (by omega)) ?_)
      by_cases h2 : lk D (a + 1) = 48
      · exact ifp (qeq 48 h2) (none_ (fun z => z.2.1 h2))
      · have hc2 := lk_lt hD (dE D (a + 1))
        refine ifn (qne 48 h2) (bnd (mo_digitsEnd h hD (by omega)) (bnd (mo_look h (by omega)) ?_))
        by_cases h3 : lk D (dE D (a + 1)) = 36
        · have e : ixS D (a + 1) = (nmE D (a + 1) + 2, dE D (a + 1) + 1) := by unfold ixS; rw [if_neg h1, if_pos ⟨hd, h2, h3⟩]
          refine ifp (qeq 36 h3) (bnd (mo_digitsEnd h hD (by omega)) (bnd (mo_said h hD (by omega)) (bnd (mo_digitsEnd h hD (by omega)) ?_)))
          rw [show nI (dE D (a + 1)) + (1 : Int32) = nI (dE D (a + 1) + 1) from nI_1 _, fin _ (dE D (a + 1) + 1) (by unfold r1; rw [e]), e]
          rfl
        · exact ifn (qne 36 h3) (none_ (fun z => h3 z.2.2))
    · rw [if_neg hd]
      exact ifp rfl (none_ (fun z => hd z.1))
