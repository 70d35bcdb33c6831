theorem nI_eq32 {a b : Nat} (ha : a < 2 ^ 32) (hb : b < 2 ^ 32) : nI a = nI b ↔ a = b := by
  constructor
  · intro h
    have := congrArg (fun x : Int32 => x.toBitVec.toNat) h
    rw [pk_tn ha, pk_tn hb] at this
    exact this
  · intro h
    rw [h]
theorem nI_mod (n : Nat) : nI n = nI (n % 2 ^ 32) := by
  apply Int32.toBitVec_inj.mp
  apply BitVec.eq_of_toNat_eq
  show n % 2 ^ 32 = n % 2 ^ 32 % 2 ^ 32
  rw [Nat.mod_mod]
theorem mask32 (x : Int32) : x.toInt64 &&& 4294967295 = lN x.toBitVec.toNat := by
  apply wb_inj
  rw [Int64.toBitVec_and, wb_tb]
  apply BitVec.eq_of_toNat_eq
  rw [BitVec.toNat_and, show (4294967295 : Int64).toBitVec.toNat = 2 ^ 32 - 1 from by decide, Nat.and_two_pow_sub_one_eq_mod, BitVec.toNat_ofNat]
  have e : x.toInt64.toBitVec = x.toBitVec.signExtend 64 := rfl
  have hx := x.toBitVec.isLt
  rw [e, BitVec.toNat_signExtend, BitVec.toNat_setWidth]
  by_cases hm : x.toBitVec.msb = true
  · rw [if_pos hm]
    omega
  · rw [if_neg hm]
    omega
theorem vl_zeros {b : Nat} {g : Nat → Nat} {t : Nat} : ∀ (n : Nat), t ≤ n → (∀ j, t ≤ j → j < n → g j = 0) → vl b g n = vl b g t
  | 0, h, _ => by
    obtain rfl : t = 0 := by omega
    rfl
  | n + 1, h, hz => by
    by_cases e : t = n + 1
    · subst e
      rfl
    · show vl b g n + g n * b ^ n = _
      rw [hz n (by omega) (by omega), Nat.zero_mul, Nat.add_zero]
      exact vl_zeros n (by omega) (fun j h1 h2 => hz j h1 (by omega))
abbrev B32 : Nat := 2 ^ 32
theorem dg_topFrom {f : Nat → Int32} {G : Nat → Nat} (h : clOK B32 f 16 G) : ∀ (n m : Nat), n ≤ 16 → n < m → (∀ j, n ≤ j → j < 16 → G j = 0) → ∃ t : Nat, t ≤ n ∧ lp_ (b_Digits_topFrom_2 f) m (nI n) = some (nI t) ∧ (∀ j, t ≤ j → j < 16 → G j = 0) := by
  intro n
  induction n with
  | zero =>
    intro m _ hm hz
    obtain ⟨m, rfl⟩ : ∃ j, m = j + 1 := ⟨m - 1, by omega⟩
    refine ⟨0, Nat.le_refl _, ?_, hz⟩
    show b_Digits_topFrom_2 f (lp_ (b_Digits_topFrom_2 f) m) _ = _
    rw [e_Digits_topFrom_2]
    exact ifp (by decide) rfl
  | succ n ih =>
    intro m hn hm hz
    obtain ⟨m, rfl⟩ : ∃ j, m = j + 1 := ⟨m - 1, by omega⟩
    have hg := h n (by omega)
    by_cases h0 : G n = 0
    · obtain ⟨t, h1, h2, h3⟩ := ih m (by omega) (by omega) (fun j g1 g2 => by
        by_cases e : j = n
        · subst e; exact h0
        · exact hz j (by omega) g2)
      refine ⟨t, by omega, ?_, h3⟩
      rw [← h2]
      show b_Digits_topFrom_2 f (lp_ (b_Digits_topFrom_2 f) m) _ = _
      generalize lp_ (b_Digits_topFrom_2 f) m = rc
      rw [e_Digits_topFrom_2]
      rw [show nI (n + 1) - (1 : Int32) = nI n from nI_pred n, nI_clamp (by omega), pk_m1, hg.1, h0]
      exact ifn (nI_nle (by omega) (by omega)) (ifp (inB_n (by omega)) (ifp rfl rfl))
    · refine ⟨n + 1, Nat.le_refl _, ?_, hz⟩
      show b_Digits_topFrom_2 f (lp_ (b_Digits_topFrom_2 f) m) _ = _
      generalize lp_ (b_Digits_topFrom_2 f) m = rc
      rw [e_Digits_topFrom_2]
      rw [show nI (n + 1) - (1 : Int32) = nI n from nI_pred n, nI_clamp (by omega), hg.1]
      refine ifn (nI_nle (by omega) (by omega)) (ifp (inB_n (by omega)) (ifn ?_ rfl))
      intro z
      exact h0 ((nI_eq32 hg.2 (by omega : 0 < 2 ^ 32)).mp z)
theorem dg_part {r g D : Nat} (hD : D < 2 ^ 31) (h0 : 0 < D) (hr : r < D) (hg : g < 2 ^ 32) : ((lN r <<< ((32 : Int32).toInt64 &&& 63)) ||| ((nI g).toInt64 &&& (4294967295 : Int64))) = lN (r * 2 ^ 32 + g) := by
  have e1 : lN r <<< ((32 : Int32).toInt64 &&& 63) = lN (r * 2 ^ 32) := wb_shl r (k := 32) (by omega)
  rw [e1, mask32, pk_tn hg]
  exact g_or (k := 32) rfl hg (by omega)
theorem dg_divide {D : Nat} (hD : D < 2 ^ 31) (h0 : 0 < D) : ∀ (i m r : Nat) (f : Nat → Int32) (G : Nat → Nat), i ≤ 16 → i < m → r < D → clOK B32 f 16 G → ∃ (f' : Nat → Int32) (G' : Nat → Nat), lp_ (b_Digits_divide_7 (nI D)) m (lN r, iI ((i : Int) - 1), f) = some (lN ((r * B32 ^ i + vl B32 G i) % D), f') ∧ clOK B32 f' 16 G' ∧ vl B32 G' i = (r * B32 ^ i + vl B32 G i) / D ∧ (∀ j, i ≤ j → G' j = G j) := by
  intro i
  induction i with
  | zero =>
    intro m r f G _ hm hr h
    obtain ⟨m, rfl⟩ : ∃ j, m = j + 1 := ⟨m - 1, by omega⟩
    have e : r * B32 ^ 0 + vl B32 G 0 = r := by
      show r * B32 ^ 0 + 0 = r
      rw [Nat.pow_zero, Nat.mul_one, Nat.add_zero]
    rw [e, Nat.mod_eq_of_lt hr, Nat.div_eq_of_lt hr]
    refine ⟨f, G, ?_, h, rfl, fun _ _ => rfl⟩
    show b_Digits_divide_7 (nI D) (lp_ (b_Digits_divide_7 (nI D)) m) _ = _
    rw [e_Digits_divide_7]
    exact ifp (by decide) rfl
  | succ i ih =>
    intro m r f G hi hm hr h
    obtain ⟨m, rfl⟩ : ∃ j, m = j + 1 := ⟨m - 1, by omega⟩
    have hg := h i (by omega)
    have hg2 : G i < 2 ^ 32 := hg.2
    have hq : (r * 2 ^ 32 + G i) / D < 2 ^ 32 := by
      rw [Nat.div_lt_iff_lt_mul h0]
      have : (r + 1) * 2 ^ 32 ≤ D * 2 ^ 32 := Nat.mul_le_mul_right _ hr
      omega
    have hmod : (r * 2 ^ 32 + G i) % D < D := Nat.mod_lt _ h0
    obtain ⟨f', G', h1, h2, h3, h4⟩ := ih m ((r * 2 ^ 32 + G i) % D) (upd f i (nI ((r * 2 ^ 32 + G i) / D))) (gup G i ((r * 2 ^ 32 + G i) / D)) (by omega) (by omega) hmod (clOK_upd h hq)
    have ev : vl B32 (gup G i ((r * 2 ^ 32 + G i) / D)) i = vl B32 G i := vl_congr (fun j hj => gup_n (by omega))
    rw [ev] at h1 h3
    have e4 : G' i = (r * 2 ^ 32 + G i) / D := by rw [h4 i (Nat.le_refl _)]; exact gup_s
    have tot : r * B32 ^ (i + 1) + vl B32 G (i + 1) = D * ((r * 2 ^ 32 + G i) / D * B32 ^ i) + ((r * 2 ^ 32 + G i) % D * B32 ^ i + vl B32 G i) := by
      show r * B32 ^ (i + 1) + (vl B32 G i + G i * B32 ^ i) = _
      have a1 := Nat.div_add_mod (r * 2 ^ 32 + G i) D
      have a2 : (D * ((r * 2 ^ 32 + G i) / D) + (r * 2 ^ 32 + G i) % D) * B32 ^ i = (r * 2 ^ 32 + G i) * B32 ^ i := by rw [a1]
      rw [Nat.add_mul, Nat.add_mul, Nat.mul_assoc, Nat.mul_assoc] at a2
      have a3 : r * B32 ^ (i + 1) = r * (2 ^ 32 * B32 ^ i) := by rw [Nat.pow_succ, Nat.mul_comm (B32 ^ i)]
      omega
    refine ⟨f', G', ?_, h2, ?_, fun j hj => ?_⟩
    · rw [tot, Nat.mul_add_mod, ← h1]
      show b_Digits_divide_7 (nI D) (lp_ (b_Digits_divide_7 (nI D)) m) _ = _
      generalize lp_ (b_Digits_divide_7 (nI D)) m = rc
      rw [e_Digits_divide_7]
      have ei : iI (((i + 1 : Nat) : Int) - 1) = nI i := by
        rw [← iI_nat]
        congr 1
        omega
      have hne : ¬ (nI D).toInt64 = 0 := by
        rw [nI_l hD]
        intro z
        have := (pk_lEQ (a := D) (b := 0) (by omega) (by omega)).mp z
        omega
      rw [ei]
      refine ifn (nI_pos (by omega)) (ifn (nI_nle h0 hD) (ifp (inB_n (by omega)) (ifn hne (ifp (inB_n (by omega)) (ifn hne ?_)))))
      rw [nI_clamp (by omega), hg.1, dg_part hD h0 hr hg2, nI_l hD, pk_lRem (by omega) h0 (by omega), pk_lDiv (by omega) h0 (by omega), lN_i]
      rw [show nI i + (-1 : Int32) = iI ((i : Int) - 1) from by rw [← iI_nat, show (-1 : Int32) = iI (-1) from rfl, iI_add]; rfl]
    · show vl B32 G' i + G' i * B32 ^ i = _
      rw [h3, e4, tot, Nat.mul_add_div h0]
      omega
    · rw [h4 j (by omega)]
      exact gup_n (by omega)
theorem dg_chunk {b A : Nat} (hb : 2 ≤ b) (hb2 : b ≤ 16) (hA : A ≤ 10) (rc : (Int32 × Int32 × Int32 × (Nat → Int32) × (Nat → Int32)) → Option (Int32 × (Nat → Int32) × (Nat → Int32))) (x4 x5 : Int32) (lim : Nat → Int32) : ∀ (d i m r u : Nat) (f : Nat → Int32) (g : Nat → Nat), i + d = A → d < m → u + d ≤ 208 → r < 2 ^ 62 → clOK b f u g →
    ∃ (f' : Nat → Int32) (g' : Nat → Nat), lp_ (b_Digits_spell_90 5000 (nI b) (nI A) rc x4 x5 lim) m (lN r, nI i, nI u, f) = k_Digits_spell_149 5000 rc x4 x5 (nI (u + d)) lim f' ∧ clOK b f' (u + d) g' ∧ vl b g' (u + d) = vl b g u + b ^ u * (r % b ^ d) := by
  intro d
  induction d with
  | zero =>
    intro i m r u f g hi hm hu hr h
    obtain ⟨m, rfl⟩ : ∃ j, m = j + 1 := ⟨m - 1, by omega⟩
    refine ⟨f, g, ?_, h, ?_⟩
    · show b_Digits_spell_90 5000 (nI b) (nI A) rc x4 x5 lim (lp_ (b_Digits_spell_90 5000 (nI b) (nI A) rc x4 x5 lim) m) _ = _
      rw [e_Digits_spell_90]
      exact ifp (nI_le (by omega) (by omega)) rfl
    · rw [Nat.pow_zero, Nat.mod_one, Nat.mul_zero]
      rfl
  | succ d ih =>
    intro i m r u f g hi hm hu hr h
    obtain ⟨m, rfl⟩ : ∃ j, m = j + 1 := ⟨m - 1, by omega⟩
    have hmod : r % b < b := Nat.mod_lt _ (by omega)
    have h1 : clOK b (upd f u (nI (r % b))) (u + 1) (gup g u (r % b)) := by
      intro j hj
      by_cases e : j = u
      · subst e
        rw [pk_us]
        exact ⟨by rw [gup_s], by rw [gup_s]; exact hmod⟩
      · rw [pk_un e]
        exact ⟨by rw [gup_n e]; exact (h j (by omega)).1, by rw [gup_n e]; exact (h j (by omega)).2⟩
    obtain ⟨f', g', k1, k2, k3⟩ := ih (i + 1) m (r / b) (u + 1) _ _ (by omega) (by omega) (by omega) (Nat.lt_of_le_of_lt (Nat.div_le_self _ _) hr) h1
    refine ⟨f', g', ?_, by rw [show u + (d + 1) = u + 1 + d by omega]; exact k2, ?_⟩
    · rw [show u + (d + 1) = u + 1 + d by omega, ← k1]
      show b_Digits_spell_90 5000 (nI b) (nI A) rc x4 x5 lim (lp_ (b_Digits_spell_90 5000 (nI b) (nI A) rc x4 x5 lim) m) _ = _
      generalize lp_ (b_Digits_spell_90 5000 (nI b) (nI A) rc x4 x5 lim) m = r2
      rw [e_Digits_spell_90]
      have hne : ¬ (nI b).toInt64 = 0 := by
        rw [nI_l (by omega)]
        intro z
        have := (pk_lEQ (a := b) (b := 0) (by omega) (by omega)).mp z
        omega
      refine ifn (nI_ge (by omega) (by omega)) (ifn (rnle 208 (by omega)) (ifn (nI_nle (by omega) (by omega)) (ifn hne (ifp (inB_n (by omega)) (ifn hne ?_)))))
      rw [nI_clamp (by omega), nI_l (by omega), pk_lRem (by omega) (by omega) (by omega), pk_lDiv (by omega) (by omega) (by omega), lN_i, narB (by omega), nI_1, show nI u + (1 : Int32) = nI (u + 1) from nI_1 u]
    · rw [show u + (d + 1) = u + 1 + d by omega, k3]
      show vl b (gup g u (r % b)) u + gup g u (r % b) u * b ^ u + b ^ (u + 1) * (r / b % b ^ d) = _
      rw [gup_s, vl_congr (h := g) (fun j hj => gup_n (by omega)), Nat.pow_succ' (n := d), Nat.mod_mul, Nat.pow_succ, Nat.mul_add, Nat.mul_assoc, Nat.mul_comm (r % b)]
      omega
theorem dg_rounds {b A : Nat} (hb : 2 ≤ b) (hb2 : b ≤ 16) (hA0 : 0 < A) (hA : A ≤ 10) (hD : b ^ A < 2 ^ 31) : ∀ (d r m t : Nat) (lim : Nat → Int32) (G : Nat → Nat) (f : Nat → Int32) (g : Nat → Nat), r + d = 20 → d < m → t ≤ 16 → clOK B32 lim 16 G → (∀ j, t ≤ j → j < 16 → G j = 0) → clOK b f (r * A) g → vl B32 G 16 < (b ^ A) ^ d →
    ∃ (u' : Int32) (lim' f' : Nat → Int32), lp_ (b_Digits_spell_66 5000 (nI b) (nI A) (nI (b ^ A))) m (nI t, nI r, nI (r * A), lim, f) = some (u', lim', f') ∧ dgOK b f' u' (vl b g (r * A) + b ^ (r * A) * vl B32 G 16) := by
  have hDp : 0 < b ^ A := pw_pos (by omega) A
  have stop : ∀ (r m t : Nat) (lim : Nat → Int32) (G : Nat → Nat) (f : Nat → Int32) (g : Nat → Nat), r ≤ 20 → (r = 20 ∨ t = 0) → t ≤ 16 → vl B32 G 16 = 0 → clOK b f (r * A) g → ∃ (u' : Int32) (lim' f' : Nat → Int32), lp_ (b_Digits_spell_66 5000 (nI b) (nI A) (nI (b ^ A))) (m + 1) (nI t, nI r, nI (r * A), lim, f) = some (u', lim', f') ∧ dgOK b f' u' (vl b g (r * A) + b ^ (r * A) * vl B32 G 16) := by
    intro r m t lim G f g hr h ht hv hc
    have h20 : r * A ≤ 20 * 10 := Nat.mul_le_mul hr hA
    have tr := dg_trim hb (by omega) (by omega) hc
    rw [hv, Nat.mul_zero, Nat.add_zero]
    have fin : k_Digits_spell_163 5000 (nI (r * A)) lim f = some (nI (nd b (vl b g (r * A))), lim, f) := by
      unfold k_Digits_spell_163
      try dsimp only
      exact bnd tr.1 rfl
    refine ⟨_, lim, f, ?_, tr.2⟩
    show b_Digits_spell_66 5000 (nI b) (nI A) (nI (b ^ A)) (lp_ (b_Digits_spell_66 5000 (nI b) (nI A) (nI (b ^ A))) m) _ = _
    generalize lp_ (b_Digits_spell_66 5000 (nI b) (nI A) (nI (b ^ A))) m = rc
    rw [e_Digits_spell_66]
    by_cases e : r = 20
    · exact ifp (rle 20 (by omega)) fin
    · refine ifn (rnle 20 (by omega)) ?_
      have e0 : t = 0 := by omega
      subst e0
      exact ifp (by decide) fin
  intro d
  induction d with
  | zero =>
    intro r m t lim G f g hr hm ht h1 hz h2 hv
    obtain ⟨m, rfl⟩ : ∃ j, m = j + 1 := ⟨m - 1, by omega⟩
    rw [Nat.pow_zero] at hv
    exact stop r m t lim G f g (by omega) (Or.inl (by omega)) ht (by omega) h2
  | succ d ih =>
    intro r m t lim G f g hr hm ht h1 hz h2 hv
    obtain ⟨m, rfl⟩ : ∃ j, m = j + 1 := ⟨m - 1, by omega⟩
    have ev : vl B32 G 16 = vl B32 G t := vl_zeros 16 ht hz
    by_cases h0 : t = 0
    · refine stop r m t lim G f g (by omega) (Or.inr h0) ht ?_ h2
      rw [ev, h0]
      rfl
    · obtain ⟨lim', G', q1, q2, q3, q4⟩ := dg_divide hD hDp t 5000 0 lim G ht (by omega) hDp h1
      rw [Nat.zero_mul, Nat.zero_add, ← ev] at q1 q3
      have hz' : ∀ j, t ≤ j → j < 16 → G' j = 0 := fun j g1 g2 => by rw [q4 j g1]; exact hz j g1 g2
      have ev' : vl B32 G' 16 = vl B32 G 16 / b ^ A := by rw [vl_zeros 16 ht hz', q3]
      have hrest : vl B32 G 16 % b ^ A < b ^ A := Nat.mod_lt _ hDp
      have h20 : (r + 1) * A ≤ 20 * 10 := Nat.mul_le_mul (by omega) hA
      have hsm : r * A + A = (r + 1) * A := (Nat.succ_mul r A).symm
      obtain ⟨t', w1, w2, w3⟩ := dg_topFrom q2 t 5000 ht (by omega) hz'
      obtain ⟨rc, hrc⟩ : ∃ rc, lp_ (b_Digits_spell_66 5000 (nI b) (nI A) (nI (b ^ A))) m = rc := ⟨_, rfl⟩
      obtain ⟨f1, g1, s1, s2, s3⟩ := dg_chunk hb hb2 hA rc (nI t) (nI r) lim' A 0 5000 (vl B32 G 16 % b ^ A) (r * A) f g (by omega) (by omega) (by omega) (by omega) h2
      rw [hsm] at s1 s2 s3
      rw [Nat.mod_eq_of_lt hrest] at s3
      obtain ⟨u', lim2, f2, y1, y2⟩ := ih (r + 1) m t' lim' G' f1 g1 (by omega) (by omega) (by omega) q2 w3 s2 (by
        rw [ev']
        apply Nat.div_lt_of_lt_mul
        rw [← Nat.pow_succ']
        exact hv)
      refine ⟨u', lim2, f2, ?_, ?_⟩
      · rw [← y1, hrc]
        show b_Digits_spell_66 5000 (nI b) (nI A) (nI (b ^ A)) (lp_ (b_Digits_spell_66 5000 (nI b) (nI A) (nI (b ^ A))) m) _ = _
        rw [hrc]
        rw [e_Digits_spell_66]
        refine ifn (rnle 20 (by omega)) (ifn (nI_nle (by omega) (by omega)) ?_)
        have q1' : f_Digits_divide 5000 lim (nI t) (nI (b ^ A)) = some (lN (vl B32 G 16 % b ^ A), lim') := by
          unfold f_Digits_divide
          rw [show nI t - (1 : Int32) = iI ((t : Int) - 1) from by rw [← iI_nat, show (1 : Int32) = iI 1 from rfl, iI_sub]]
          exact q1
        refine bnd q1' (Eq.trans s1 ?_)
        unfold k_Digits_spell_149 f_Digits_topFrom
        try dsimp only
        refine bnd w2 ?_
        rw [nI_1]
      · have e : vl b g1 ((r + 1) * A) + b ^ ((r + 1) * A) * vl B32 G' 16 = vl b g (r * A) + b ^ (r * A) * vl B32 G 16 := by
          rw [s3, ev', ← hsm, Nat.pow_add, Nat.add_assoc, Nat.mul_assoc, ← Nat.mul_add, Nat.mod_add_div]
        rw [← e]
        exact y2
theorem dg_spell {b A : Nat} (hbA : (b = 10 ∧ A = 9) ∨ (b = 16 ∧ A = 7) ∨ (b = 8 ∧ A = 10)) {lim f : Nat → Int32} {G : Nat → Nat} (h : clOK B32 lim 16 G) (u : Int32) : ∃ (u' : Int32) (lim' f' : Nat → Int32), f_Digits_spell 5000 lim f u (nI b) = some (u', lim', f') ∧ dgOK b f' u' (vl B32 G 16) := by
  have hv : vl B32 G 16 < B32 ^ 16 := vl_lt (by decide) (fun i hi => (h i hi).2)
  obtain ⟨t, w1, w2, w3⟩ := dg_topFrom h 16 5000 (Nat.le_refl _) (by omega) (fun j h1 h2 => by omega)
  have c0 : ∀ b, clOK b f 0 (fun _ => 0) := fun b i hi => absurd hi (Nat.not_lt_zero i)
  have main : ∀ (b A : Nat), 2 ≤ b → b ≤ 16 → 0 < A → A ≤ 10 → b ^ A < 2 ^ 31 → B32 ^ 16 ≤ (b ^ A) ^ 20 → ∃ (u' : Int32) (lim' f' : Nat → Int32), k_Digits_spell_49 5000 (nI b) (nI A) (nI (b ^ A)) u lim f = some (u', lim', f') ∧ dgOK b f' u' (vl B32 G 16) := by
    intro b A h1 h2 h3 h4 h5 h6
    obtain ⟨u', lim', f', y1, y2⟩ := dg_rounds h1 h2 h3 h4 h5 20 0 5000 t lim G f (fun _ => 0) rfl (by omega) (by omega) h w3 (by rw [Nat.zero_mul]; exact c0 b) (by omega)
    rw [Nat.zero_mul] at y1 y2
    rw [show vl b (fun _ => 0) 0 + b ^ 0 * vl B32 G 16 = vl B32 G 16 from by rw [Nat.pow_zero, Nat.one_mul]; exact Nat.zero_add _] at y2
    refine ⟨u', lim', f', ?_, y2⟩
    unfold k_Digits_spell_49 f_Digits_topFrom
    try dsimp only
    exact bnd w2 y1
  unfold f_Digits_spell k_Digits_spell_24
  try dsimp only
  rcases hbA with ⟨rfl, rfl⟩ | ⟨rfl, rfl⟩ | ⟨rfl, rfl⟩
  · obtain ⟨u', lim', f', y1, y2⟩ := main 10 9 (by omega) (by omega) (by omega) (by omega) (by decide) (by decide +kernel)
    exact ⟨u', lim', f', ifp rfl (ifp rfl y1), y2⟩
  · obtain ⟨u', lim', f', y1, y2⟩ := main 16 7 (by omega) (by omega) (by omega) (by omega) (by decide) (by decide +kernel)
    exact ⟨u', lim', f', ifn (by decide) (ifp rfl (ifn (by decide) (ifp rfl y1))), y2⟩
  · obtain ⟨u', lim', f', y1, y2⟩ := main 8 10 (by omega) (by omega) (by omega) (by omega) (by decide) (by decide +kernel)
    exact ⟨u', lim', f', ifn (by decide) (ifn (by decide) (ifn (by decide) (ifn (by decide) y1))), y2⟩
def wN (ws : Nat → Int64) (i : Nat) : Nat := (ws i).toBitVec.toNat
def SZ (ws : Nat → Int64) : Nat := vl (2 ^ 64) (wN ws) 8
theorem wN_lt (ws : Nat → Int64) (i : Nat) : wN ws i < 2 ^ 64 := (ws i).toBitVec.isLt
theorem wN_eq (ws : Nat → Int64) (i : Nat) : ws i = lN (wN ws i) := wb_inj (by rw [wb_tb]; unfold wN; simp)
theorem vl_half {G w : Nat → Nat} (h0 : ∀ i, G (2 * i) = w i % 2 ^ 32) (h1 : ∀ i, G (2 * i + 1) = w i / 2 ^ 32) : ∀ n, vl B32 G (2 * n) = vl (2 ^ 64) w n
  | 0 => rfl
  | n + 1 => by
    show vl B32 G (2 * n) + G (2 * n) * B32 ^ (2 * n) + G (2 * n + 1) * B32 ^ (2 * n + 1) = vl (2 ^ 64) w n + w n * (2 ^ 64) ^ n
    have e5 : B32 ^ (2 * n) = (2 ^ 64) ^ n := by rw [Nat.pow_mul, show B32 ^ 2 = 2 ^ 64 from by decide]
    have e4 : B32 ^ (2 * n + 1) = (2 ^ 64) ^ n * B32 := by rw [← e5]; rfl
    rw [vl_half h0 h1 n, h0, h1, e4, e5]
    have e := Nat.mod_add_div (w n) (2 ^ 32)
    have e2 : (w n % 2 ^ 32 + 2 ^ 32 * (w n / 2 ^ 32)) * (2 ^ 64) ^ n = w n * (2 ^ 64) ^ n := by rw [e]
    rw [Nat.add_mul] at e2
    have e3 : w n / 2 ^ 32 * ((2 ^ 64) ^ n * B32) = 2 ^ 32 * (w n / 2 ^ 32) * (2 ^ 64) ^ n := by
      rw [Nat.mul_comm ((2 ^ 64) ^ n), ← Nat.mul_assoc, Nat.mul_comm (w n / 2 ^ 32)]
    rw [e3, Nat.add_assoc, e2]
def hf (w : Nat → Nat) (j : Nat) : Nat := if j % 2 = 0 then w (j / 2) % 2 ^ 32 else w (j / 2) / 2 ^ 32
theorem hf_0 (w : Nat → Nat) (i : Nat) : hf w (2 * i) = w i % 2 ^ 32 := by
  unfold hf
  rw [if_pos (by omega), show 2 * i / 2 = i by omega]
theorem hf_1 (w : Nat → Nat) (i : Nat) : hf w (2 * i + 1) = w i / 2 ^ 32 := by
  unfold hf
  rw [if_neg (by omega), show (2 * i + 1) / 2 = i by omega]
theorem hf_lt {w : Nat → Nat} (hw : ∀ i, w i < 2 ^ 64) (j : Nat) : hf w j < B32 := by
  unfold hf
  by_cases h : j % 2 = 0
  · rw [if_pos h]
    exact Nat.mod_lt _ (by decide)
  · rw [if_neg h]
    have := hw (j / 2)
    show _ < 2 ^ 32
    omega
theorem dg_setLimbs {lim : Nat → Int32} {i n : Nat} (hi : i < 8) (hn : n < 2 ^ 64) : f_Digits_setLimbs lim (nI i) (lN n) = some (upd (upd lim (2 * i) (nI (n % 2 ^ 32))) (2 * i + 1) (nI (n / 2 ^ 32))) := by
  unfold f_Digits_setLimbs
  have e1 : (2 : Int32) * nI i = nI (2 * i) := pk_mul 2 i
  have e2 : nI (2 * i) + (1 : Int32) = nI (2 * i + 1) := nI_1 _
  have e3 : ((lN n).toUInt64 >>> ((32 : Int32).toInt64.toUInt64 &&& Int64.toUInt64 63)).toInt64 = lN (n / 2 ^ 32) := wb_shr (k := 32) hn (by omega)
  rw [e1, e2, e3]
  refine ifn (nI_pos (by omega)) (ifn (rnle 8 hi) (ifp (inB_n (by omega)) (ifp (inB_n (by omega)) ?_)))
  rw [nI_clamp (by omega), nI_clamp (by omega), lN_i, lN_i, ← nI_mod]
theorem dg_take_l {b : Nat} {ws : Nat → Int64} {lo u l0 : Int32} {cells : Nat → Int32} : ∀ (d i m : Nat) (lim : Nat → Int32), i + d = 8 → d < m → ∃ lim' : Nat → Int32, lp_ (b_Digits_take_2 5000 ws lo (nI b) u l0 cells) m (nI i, lim) = ((f_Digits_spell 5000 lim' cells u (nI b)).bind fun u_27 => some (u_27.1, lo, u_27.2.1, u_27.2.2)) ∧ ∀ j, j < 16 → (2 * i ≤ j → lim' j = nI (hf (wN ws) j)) ∧ (j < 2 * i → lim' j = lim j) := by
  intro d
  induction d with
  | zero =>
    intro i m lim hi hm
    obtain ⟨m, rfl⟩ : ∃ j, m = j + 1 := ⟨m - 1, by omega⟩
    refine ⟨lim, ?_, fun j hj => ⟨fun h => by omega, fun _ => rfl⟩⟩
    show b_Digits_take_2 5000 ws lo (nI b) u l0 cells (lp_ (b_Digits_take_2 5000 ws lo (nI b) u l0 cells) m) _ = _
    rw [e_Digits_take_2]
    exact ifp (rle 8 (by omega)) rfl
  | succ d ih =>
    intro i m lim hi hm
    obtain ⟨m, rfl⟩ : ∃ j, m = j + 1 := ⟨m - 1, by omega⟩
    obtain ⟨lim', h1, h2⟩ := ih (i + 1) m (upd (upd lim (2 * i) (nI (wN ws i % 2 ^ 32))) (2 * i + 1) (nI (wN ws i / 2 ^ 32))) (by omega) (by omega)
    refine ⟨lim', ?_, fun j hj => ⟨fun h => ?_, fun h => ?_⟩⟩
    · rw [← h1]
      show b_Digits_take_2 5000 ws lo (nI b) u l0 cells (lp_ (b_Digits_take_2 5000 ws lo (nI b) u l0 cells) m) _ = _
      generalize lp_ (b_Digits_take_2 5000 ws lo (nI b) u l0 cells) m = rc
      rw [e_Digits_take_2]
      refine ifn (rnle 8 (by omega)) (ifp (inB_n (by omega)) ?_)
      rw [nI_clamp (by omega), wN_eq ws i]
      refine bnd (dg_setLimbs (by omega) (wN_lt ws i)) ?_
      rw [nI_1]
    · by_cases h3 : 2 * (i + 1) ≤ j
      · exact (h2 j hj).1 h3
      · rw [(h2 j hj).2 (by omega)]
        by_cases e : j = 2 * i + 1
        · subst e
          rw [pk_us, hf_1]
        · have e3 : j = 2 * i := by omega
          subst e3
          rw [pk_un (by omega), pk_us, hf_0]
    · rw [(h2 j hj).2 (by omega), pk_un (by omega), pk_un (by omega)]
theorem dg_take {b A : Nat} (hbA : (b = 10 ∧ A = 9) ∨ (b = 16 ∧ A = 7) ∨ (b = 8 ∧ A = 10)) (lim cells : Nat → Int32) (u l0 : Int32) (ws : Nat → Int64) (lo : Int32) : ∃ (u' : Int32) (lim' f' : Nat → Int32), f_Digits_take 5000 lim cells u l0 ws lo (nI b) = some (u', lo, lim', f') ∧ dgOK b f' u' (SZ ws) := by
  obtain ⟨lim1, h1, h2⟩ := dg_take_l (b := b) (ws := ws) (lo := lo) (u := u) (l0 := l0) (cells := cells) 8 0 5000 lim (by omega) (by omega)
  obtain ⟨u', lim', f', y1, y2⟩ := dg_spell hbA (lim := lim1) (f := cells) (G := hf (wN ws)) (fun i hi => ⟨(h2 i hi).1 (by omega), hf_lt (wN_lt ws) i⟩) u
  refine ⟨u', lim', f', Eq.trans h1 (bnd y1 rfl), ?_⟩
  have e : vl B32 (hf (wN ws)) 16 = SZ ws := vl_half (hf_0 _) (hf_1 _) 8
  rw [← e]
  exact y2
theorem ar_fill {n : Nat} (hn : n < 4000) (x : Int32) : ∀ (d i m : Nat) (f : Nat → Int32), i + d = n → d < m → ∃ f' : Nat → Int32, lp_ (b_Arrays_fill_1_5 n x (nI n)) m (nI i, f) = some f' ∧ ∀ j, (i ≤ j → j < n → f' j = x) ∧ (j < i → f' j = f j) := by
  intro d
  induction d with
  | zero =>
    intro i m f hi hm
    obtain ⟨m, rfl⟩ : ∃ j, m = j + 1 := ⟨m - 1, by omega⟩
    refine ⟨f, ?_, fun j => ⟨fun h1 h2 => by omega, fun _ => rfl⟩⟩
    show b_Arrays_fill_1_5 n x (nI n) (lp_ (b_Arrays_fill_1_5 n x (nI n)) m) _ = _
    rw [e_Arrays_fill_1_5]
    exact ifp (nI_le (by omega) (by omega)) rfl
  | succ d ih =>
    intro i m f hi hm
    obtain ⟨m, rfl⟩ : ∃ j, m = j + 1 := ⟨m - 1, by omega⟩
    obtain ⟨f', h1, h2⟩ := ih (i + 1) m (upd f i x) (by omega) (by omega)
    refine ⟨f', ?_, fun j => ⟨fun g1 g2 => ?_, fun g1 => ?_⟩⟩
    · rw [← h1]
      show b_Arrays_fill_1_5 n x (nI n) (lp_ (b_Arrays_fill_1_5 n x (nI n)) m) _ = _
      generalize lp_ (b_Arrays_fill_1_5 n x (nI n)) m = rc
      rw [e_Arrays_fill_1_5]
      refine ifn (nI_ge (by omega) (by omega)) (ifp (inB_n (by omega)) ?_)
      rw [nI_clamp (by omega), nI_1]
    · by_cases e : j = i
      · subst e
        rw [(h2 j).2 (by omega), pk_us]
      · exact (h2 j).1 (by omega) g2
    · rw [(h2 j).2 (by omega), pk_un (by omega)]
def at0 (n i : Nat) : Nat := if i = 0 then n else 0
theorem dg_takeBits {b A : Nat} (hbA : (b = 10 ∧ A = 9) ∨ (b = 16 ∧ A = 7) ∨ (b = 8 ∧ A = 10)) (lim cells : Nat → Int32) (u : Int32) {n : Nat} (hn : n < 2 ^ 64) : ∃ (u' : Int32) (lim' f' : Nat → Int32), f_Digits_takeBits 5000 lim cells u (lN n) (nI b) = some (u', 0, lim', f') ∧ dgOK b f' u' n := by
  obtain ⟨l1, h1, h2⟩ := ar_fill (n := 16) (by omega) 0 16 0 5000 lim (by omega) (by omega)
  have s1 : f_Digits_setLimbs l1 (0 : Int32) (lN n) = some (upd (upd l1 0 (nI (n % 2 ^ 32))) 1 (nI (n / 2 ^ 32))) := dg_setLimbs (i := 0) (by omega) hn
  obtain ⟨u', lim', f', y1, y2⟩ := dg_spell hbA (lim := upd (upd l1 0 (nI (n % 2 ^ 32))) 1 (nI (n / 2 ^ 32))) (f := cells) (G := hf (at0 n)) (fun i hi => ⟨by
    by_cases e1 : i = 1
    · subst e1
      rw [pk_us]
      exact congrArg nI (hf_1 (at0 n) 0).symm
    · by_cases e0 : i = 0
      · subst e0
        rw [pk_un (by omega), pk_us]
        exact congrArg nI (hf_0 (at0 n) 0).symm
      · rw [pk_un e1, pk_un e0, (h2 i).1 (by omega) hi]
        have hz : at0 n (i / 2) = 0 := if_neg (by omega)
        unfold hf
        rw [hz]
        by_cases h : i % 2 = 0
        · rw [if_pos h]; rfl
        · rw [if_neg h]; rfl, hf_lt (fun j => by
    unfold at0
    by_cases e : j = 0
    · rw [if_pos e]; exact hn
    · rw [if_neg e]; decide) i⟩) u
  refine ⟨u', lim', f', ?_, ?_⟩
  · unfold f_Digits_takeBits
    exact bnd h1 (bnd s1 (bnd y1 rfl))
  · have e : vl B32 (hf (at0 n)) 16 = vl (2 ^ 64) (at0 n) 8 := vl_half (hf_0 _) (hf_1 _) 8
    have e2 : vl (2 ^ 64) (at0 n) 8 = n := by
      rw [vl_zeros (g := at0 n) (t := 1) 8 (by omega) (fun j h1 _ => if_neg (by omega))]
      show 0 + at0 n 0 * (2 ^ 64) ^ 0 = n
      rw [show at0 n 0 = n from if_pos rfl, Nat.pow_zero, Nat.mul_one, Nat.zero_add]
    rw [e, e2] at y2
    exact y2
