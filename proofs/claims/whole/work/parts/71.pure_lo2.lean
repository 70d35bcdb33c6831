abbrev SM : Type := Int32 × Int32 × Int32 × Int32 × Int32 × Int32 × Int32 × Int32
theorem rd_model {md : Nat → Int32} {mu : Int32} {D : List Nat} (h : dfOK md mu D) (hD : chOK D) (A : Int32) (KI : Nat → Int32) (VAL : Nat → Int64) (WI BE S SC : Nat → Int32) (PA : Nat → Int64) (TX LE : Nat → Int32) (Lm put hd cn ex : Int32) (R P T W : Nat → Int32) : ∀ (d a m : Nat) (s : SM), D.length ≤ a + d → a ≤ 401 → d < m →
    (ft D d a = 0 → ∃ s' : SM, lp_ (b_Model_layOut_2 5000 md mu A KI VAL WI BE S SC PA TX LE Lm put hd cn ex R P T W) m (nI a, s) = lp_ (b_Model_layOut_67 5000 md mu A KI VAL WI BE S SC PA TX LE) 5000 (0, -1, 0, 0, 0, s'.1, s'.2.1, s'.2.2.1, s'.2.2.2.1, s'.2.2.2.2.1, s'.2.2.2.2.2.1, s'.2.2.2.2.2.2.1, s'.2.2.2.2.2.2.2, put, hd, cn, ex, R, P, T, W)) ∧
    (¬ ft D d a = 0 → ∃ s' : SM, lp_ (b_Model_layOut_2 5000 md mu A KI VAL WI BE S SC PA TX LE Lm put hd cn ex R P T W) m (nI a, s) = some (ft D d a, Lm, s'.1, s'.2.1, s'.2.2.1, s'.2.2.2.1, s'.2.2.2.2.1, s'.2.2.2.2.2.1, s'.2.2.2.2.2.2.1, s'.2.2.2.2.2.2.2, put, hd, cn, ex, R, P, T, W)) := by
  have hlen := hD.1
  have hu := h.1
  intro d
  induction d with
  | zero =>
    intro a m s hd0 ha hm
    obtain ⟨m, rfl⟩ : ∃ j, m = j + 1 := ⟨m - 1, by omega⟩
    obtain ⟨s1, s2, s3, s4, s5, s6, s7, s8⟩ := s
    refine ⟨fun _ => ⟨(s1, s2, s3, s4, s5, s6, s7, s8), ?_⟩, fun z => absurd rfl z⟩
    show b_Model_layOut_2 5000 md mu A KI VAL WI BE S SC PA TX LE Lm put hd cn ex R P T W (lp_ (b_Model_layOut_2 5000 md mu A KI VAL WI BE S SC PA TX LE Lm put hd cn ex R P T W) m) _ = _
    rw [e_Model_layOut_2, hu]
    exact ifp (nI_le (by omega) (by omega)) rfl
  | succ d ih =>
    intro a m s hd0 ha hm
    obtain ⟨m, rfl⟩ : ∃ j, m = j + 1 := ⟨m - 1, by omega⟩
    obtain ⟨s1, s2, s3, s4, s5, s6, s7, s8⟩ := s
    have ih2 := fun a s (h1 : D.length ≤ a + d) (h2 : a ≤ 401) => ih a m s h1 h2 (by omega)
    show (ft D (d + 1) a = 0 → ∃ s' : SM, b_Model_layOut_2 5000 md mu A KI VAL WI BE S SC PA TX LE Lm put hd cn ex R P T W (lp_ (b_Model_layOut_2 5000 md mu A KI VAL WI BE S SC PA TX LE Lm put hd cn ex R P T W) m) _ = _) ∧ (¬ ft D (d + 1) a = 0 → ∃ s' : SM, b_Model_layOut_2 5000 md mu A KI VAL WI BE S SC PA TX LE Lm put hd cn ex R P T W (lp_ (b_Model_layOut_2 5000 md mu A KI VAL WI BE S SC PA TX LE Lm put hd cn ex R P T W) m) _ = _)
    generalize lp_ (b_Model_layOut_2 5000 md mu A KI VAL WI BE S SC PA TX LE Lm put hd cn ex R P T W) m = rc at ih2 ⊢
    rw [e_Model_layOut_2]
    have hft : ft D (d + 1) a = (if D.length ≤ a then 0 else if lk D a = 37 then (if FT D a = 0 then ft D d (r4 D a + 1) else FT D a) else ft D d (a + 1)) := rfl
    by_cases hle : D.length ≤ a
    · rw [if_pos hle] at hft
      refine ⟨fun _ => ⟨(s1, s2, s3, s4, s5, s6, s7, s8), ifp ?_ rfl⟩, fun z => absurd hft z⟩
      rw [hu]
      exact nI_le hle (by omega)
    · rw [if_neg hle] at hft
      have hal : a < D.length := by omega
      have hnle : ¬ mu ≤ nI a := by rw [hu]; exact nI_ge hal (by omega)
      have hlt := lk_lt hD a
      have hdc : md (nI a).toNatClampNeg = nI (lk D a) := by rw [nI_clamp (by omega)]; exact h.2.2 a hal
      have h400 : inB (nI a) 400 = true := inB_n (by omega)
      rw [hdc]
      by_cases h37 : lk D a = 37
      · rw [if_pos h37] at hft
        have hr := mo_goOver h hD s1 s7 hal
        have hf := mo_FT hD hal
        have hr4 := r4_le hal
        rcases FT_p D a with h0 | h0
        · rw [if_pos h0] at hft
          have hr5 := (FT_0 h0).2.1
          obtain ⟨i1, i2⟩ := ih2 (r4 D a + 1) (nI (r4 D a + 1), mI (IX D a), FL D a, TW D a, wS D (r2 D a), pS D (r3 D a), nI (lk D (r4 D a)), (if brS D (r3 D a) = true then 1 else if r4 D a < D.length then 0 else 1)) (by have := r4_gt (D := D) (a := a); omega) (by omega)
          rw [hft]
          have step : ∀ X, rc (nI (r4 D a + 1), nI (r4 D a + 1), mI (IX D a), FL D a, TW D a, wS D (r2 D a), pS D (r3 D a), nI (lk D (r4 D a)), (if brS D (r3 D a) = true then 1 else if r4 D a < D.length then 0 else 1)) = X → k_Model_layOut_47 rc (nI (r4 D a + 1) - 1) (nI (r4 D a + 1)) (mI (IX D a)) (FL D a) (TW D a) (wS D (r2 D a)) (pS D (r3 D a)) (nI (lk D (r4 D a))) (if brS D (r3 D a) = true then 1 else if r4 D a < D.length then 0 else 1) = X := by
            intro X hX
            unfold k_Model_layOut_47
            rw [show nI (r4 D a + 1) - (1 : Int32) = nI (r4 D a) from nI_pred _, nI_1 (r4 D a)]
            exact hX
          refine ⟨fun z => ?_, fun z => ?_⟩
          · obtain ⟨s', e⟩ := i1 z
            exact ⟨s', ifn hnle (ifp h400 (ifp (qeq 37 h37) (bnd hr (bnd hf (ifp (by rw [h0]; decide) (step _ e))))))⟩
          · obtain ⟨s', e⟩ := i2 z
            exact ⟨s', ifn hnle (ifp h400 (ifp (qeq 37 h37) (bnd hr (bnd hf (ifp (by rw [h0]; decide) (step _ e))))))⟩
        · have hne : ¬ FT D a = 0 := fun z => h0 (by rw [z]; decide)
          rw [if_neg hne] at hft
          rw [hft]
          refine ⟨fun z => absurd z hne, fun _ => ⟨(nI (r4 D a + 1), mI (IX D a), FL D a, TW D a, wS D (r2 D a), pS D (r3 D a), nI (lk D (r4 D a)), (if brS D (r3 D a) = true then 1 else if r4 D a < D.length then 0 else 1)), ?_⟩⟩
          exact ifn hnle (ifp h400 (ifp (qeq 37 h37) (bnd hr (bnd hf (ifn h0 rfl)))))
      · rw [if_neg h37] at hft
        obtain ⟨i1, i2⟩ := ih2 (a + 1) (s1, s2, s3, s4, s5, s6, s7, s8) (by omega) (by omega)
        rw [hft]
        refine ⟨fun z => ?_, fun z => ?_⟩
        · obtain ⟨s', e⟩ := i1 z
          refine ⟨s', ifn hnle (ifp h400 (ifn (qne 37 h37) ?_))⟩
          unfold k_Model_layOut_47
          rw [nI_1 a]
          exact e
        · obtain ⟨s', e⟩ := i2 z
          refine ⟨s', ifn hnle (ifp h400 (ifn (qne 37 h37) ?_))⟩
          unfold k_Model_layOut_47
          rw [nI_1 a]
          exact e
