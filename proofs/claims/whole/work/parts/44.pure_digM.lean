def mdOK (b : Nat) (T : Nat → Int32) (c : Int32) (N : Nat) : Prop := c = nI (nd b N) ∧ nd b N ≤ 600 ∧ ∀ k, k < nd b N → T k = nI (N / b ^ (nd b N - 1 - k) % b)
abbrev B16 : Nat := 65536
theorem mo_copy {n : Nat} (hn : n ≤ 600) (x : Int32) (wk T0 : Nat → Int32) : ∀ (d k m : Nat) (T : Nat → Int32), k + d = n → d < m → (∀ j, T j = if j < k then T0 (1200 - n + j) else T0 j) → ∃ T' : Nat → Int32, lp_ (b_Model_spell_147 (nI n) x wk) m (nI k, T) = some (x, T', wk) ∧ ∀ j, j < n → T' j = T0 (1200 - n + j) := by
  intro d
  induction d with
  | zero =>
    intro k m T hk hm h
    obtain ⟨m, rfl⟩ : ∃ j, m = j + 1 := ⟨m - 1, by omega⟩
    refine ⟨T, ?_, fun j hj => by rw [h j, if_pos (by omega)]⟩
    show b_Model_spell_147 (nI n) x wk (lp_ (b_Model_spell_147 (nI n) x wk) m) _ = _
    rw [e_Model_spell_147]
    exact ifp (nI_le (by omega) (by omega)) rfl
  | succ d ih =>
    intro k m T hk hm h
    obtain ⟨m, rfl⟩ : ∃ j, m = j + 1 := ⟨m - 1, by omega⟩
    obtain ⟨T', h1, h2⟩ := ih (k + 1) m (upd T k (T (1200 - n + k))) (by omega) (by omega) (fun j => by
      by_cases e : j = k
      · subst e
        rw [pk_us, if_pos (by omega), h (1200 - n + j), if_neg (by omega)]
      · rw [pk_un e, h j]
        by_cases e2 : j < k
        · rw [if_pos e2, if_pos (by omega)]
        · rw [if_neg e2, if_neg (by omega)])
    refine ⟨T', ?_, h2⟩
    rw [← h1]
    show b_Model_spell_147 (nI n) x wk (lp_ (b_Model_spell_147 (nI n) x wk) m) _ = _
    generalize lp_ (b_Model_spell_147 (nI n) x wk) m = rc
    rw [e_Model_spell_147]
    have e1 : ((1200 : Int32) - nI n) + nI k = nI (1200 - n + k) := by
      rw [show (1200 : Int32) - nI n = nI (1200 - n) from pk_sub (a := 1200) (by omega), nI_add]
    rw [e1]
    refine ifn (nI_ge (by omega) (by omega)) (ifp (inB_n (by omega)) (ifp (inB_n (by omega)) ?_))
    rw [nI_clamp (by omega), nI_clamp (by omega), nI_1]
theorem mo_div {b : Nat} (hb : 2 ≤ b) (hb2 : b ≤ 16) (rc : (Int32 × Int32 × (Nat → Int32) × (Nat → Int32)) → Option (Int32 × (Nat → Int32) × (Nat → Int32))) (x3 : Int32) (T : Nat → Int32) : ∀ (i m r : Nat) (o : Bool) (f : Nat → Int32) (g : Nat → Nat), i ≤ 32 → i < m → r < b → clOK B16 f 32 g →
    ∃ (f' : Nat → Int32) (g' : Nat → Nat), lp_ (b_Model_spell_51 (nI b) rc x3 T) m ((if o = true then 1 else 0), nI r, iI ((i : Int) - 1), f) = (if o = true ∨ vl B16 g i ≠ 0 then (if inB ((1199 : Int32) - x3) 1200 = true then rc (x3 + 1, 1, upd T ((1199 : Int32) - x3).toNatClampNeg (nI ((r * B16 ^ i + vl B16 g i) % b)), f') else none) else rc (x3, 0, T, f')) ∧ clOK B16 f' 32 g' ∧ vl B16 g' i = (r * B16 ^ i + vl B16 g i) / b ∧ (∀ j, i ≤ j → g' j = g j) := by
  intro i
  induction i with
  | zero =>
    intro m r o f g _ hm hr h
    obtain ⟨m, rfl⟩ : ∃ j, m = j + 1 := ⟨m - 1, by omega⟩
    have e : r * B16 ^ 0 + vl B16 g 0 = r := by
      show r * B16 ^ 0 + 0 = r
      rw [Nat.pow_zero, Nat.mul_one, Nat.add_zero]
    rw [e, Nat.mod_eq_of_lt hr, Nat.div_eq_of_lt hr]
    refine ⟨f, g, ?_, h, rfl, fun _ _ => rfl⟩
    show b_Model_spell_51 (nI b) rc x3 T (lp_ (b_Model_spell_51 (nI b) rc x3 T) m) _ = _
    rw [e_Model_spell_51]
    unfold k_Model_spell_136
    refine ifp (by decide) ?_
    cases o with
    | true =>
      rw [if_pos rfl, if_pos (Or.inl rfl)]
      exact ifn (by decide) rfl
    | false =>
      have en : ¬ (false = true ∨ vl B16 g 0 ≠ 0) := fun z => z.elim (fun y => by cases y) (fun y => y rfl)
      rw [if_neg en, if_neg (show ¬ false = true by decide)]
      exact ifp rfl rfl
  | succ i ih =>
    intro m r o f g hi hm hr h
    obtain ⟨m, rfl⟩ : ∃ j, m = j + 1 := ⟨m - 1, by omega⟩
    have hg := h i (by omega)
    have hg2 : g i < 65536 := hg.2
    have h0 : 0 < b := by omega
    have hq : (r * 65536 + g i) / b < 65536 := by
      rw [Nat.div_lt_iff_lt_mul h0]
      have : (r + 1) * 65536 ≤ b * 65536 := Nat.mul_le_mul_right _ hr
      omega
    have hmod : (r * 65536 + g i) % b < b := Nat.mod_lt _ h0
    obtain ⟨f', g', h1, h2, h3, h4⟩ := ih m ((r * 65536 + g i) % b) (o || decide (g i ≠ 0)) (upd f i (nI ((r * 65536 + g i) / b))) (gup g i ((r * 65536 + g i) / b)) (by omega) (by omega) hmod (clOK_upd h hq)
    have ev : vl B16 (gup g i ((r * 65536 + g i) / b)) i = vl B16 g i := vl_congr (fun j hj => gup_n (by omega))
    rw [ev] at h1 h3
    have e4 : g' i = (r * 65536 + g i) / b := by rw [h4 i (Nat.le_refl _)]; exact gup_s
    have tot : r * B16 ^ (i + 1) + vl B16 g (i + 1) = b * ((r * 65536 + g i) / b * B16 ^ i) + ((r * 65536 + g i) % b * B16 ^ i + vl B16 g i) := by
      show r * B16 ^ (i + 1) + (vl B16 g i + g i * B16 ^ i) = _
      have a1 := Nat.div_add_mod (r * 65536 + g i) b
      have a2 : (b * ((r * 65536 + g i) / b) + (r * 65536 + g i) % b) * B16 ^ i = (r * 65536 + g i) * B16 ^ i := by rw [a1]
      rw [Nat.add_mul, Nat.add_mul, Nat.mul_assoc, Nat.mul_assoc] at a2
      have a3 : r * B16 ^ (i + 1) = r * (65536 * B16 ^ i) := by rw [Nat.pow_succ, Nat.mul_comm (B16 ^ i)]
      omega
    have hcond : (o = true ∨ vl B16 g (i + 1) ≠ 0) ↔ ((o || decide (g i ≠ 0)) = true ∨ vl B16 g i ≠ 0) := by
      show (o = true ∨ vl B16 g i + g i * B16 ^ i ≠ 0) ↔ _
      have hp : 0 < B16 ^ i := pw_pos (by decide) i
      rw [Bool.or_eq_true, decide_eq_true_eq]
      constructor
      · rintro (q | q)
        · exact Or.inl (Or.inl q)
        · by_cases z : g i = 0
          · right
            rw [z, Nat.zero_mul, Nat.add_zero] at q
            exact q
          · exact Or.inl (Or.inr z)
      · rintro ((q | q) | q)
        · exact Or.inl q
        · right
          have := Nat.mul_pos (Nat.pos_of_ne_zero q) hp
          omega
        · right
          omega
    refine ⟨f', g', ?_, h2, ?_, fun j hj => ?_⟩
    · rw [tot, Nat.mul_add_mod, ifc hcond, ← h1]
      show b_Model_spell_51 (nI b) rc x3 T (lp_ (b_Model_spell_51 (nI b) rc x3 T) m) _ = _
      generalize lp_ (b_Model_spell_51 (nI b) rc x3 T) m = r2
      have ei : iI (((i + 1 : Nat) : Int) - 1) = nI i := by
        rw [← iI_nat]
        congr 1
        omega
      have hne : ¬ nI b = 0 := qne 0 (by omega)
      have es : nI r <<< ((16 : Int32) &&& 31) = nI (r * 2 ^ 16) := pk_shlN ((16 : Int32) &&& 31) 16 (by decide) (by omega)
      have fin : ∀ y : Int32, k_Model_spell_76 (nI b) r2 (nI r) (nI i) y f = r2 (y, nI ((r * 65536 + g i) % b), iI ((i : Int) - 1), upd f i (nI ((r * 65536 + g i) / b))) := by
        intro y
        unfold k_Model_spell_76
        try dsimp only
        refine ifp (inB_n (by omega)) (ifn hne (ifp (inB_n (by omega)) (ifn hne ?_)))
        rw [nI_clamp (by omega), hg.1, es, n_or (k := 16) hg2 (by omega), pk_rem (by omega) h0 (by omega), pk_div (by omega) h0 (by omega)]
        rw [show nI i + (-1 : Int32) = iI ((i : Int) - 1) from by rw [← iI_nat, show (-1 : Int32) = iI (-1) from rfl, iI_add]; rfl]
      rw [e_Model_spell_51]
      rw [ei]
      refine ifn (nI_pos (by omega)) ?_
      cases o with
      | true =>
        rw [if_pos rfl]
        refine ifn (by decide) ?_
        unfold k_Model_spell_71
        try dsimp only
        exact fin 1
      | false =>
        rw [if_neg (show ¬ false = true by decide)]
        refine ifp rfl (ifp (inB_n (by omega)) ?_)
        rw [nI_clamp (by omega), hg.1]
        by_cases z : g i = 0
        · rw [z] at fin ⊢
          rw [decide_eq_false (fun y => y rfl)]
          exact ifp rfl (fin 0)
        · rw [decide_eq_true z]
          refine ifn (qne 0 z) ?_
          unfold k_Model_spell_71
          try dsimp only
          exact fin 1
    · show vl B16 g' i + g' i * B16 ^ i = _
      rw [h3, e4, tot, Nat.mul_add_div h0]
      omega
    · rw [h4 j (by omega)]
      exact gup_n (by omega)
theorem nd_div_s {b N n : Nat} : N / b ^ n / b = N / b ^ (n + 1) := by rw [Nat.pow_succ, Nat.div_div_eq_div_mul]
theorem mo_end {b N n : Nat} (hb : 2 ≤ b) (hn : n = nd b N) (h6 : nd b N ≤ 600) {T T' : Nat → Int32} (h1 : ∀ j, j < n → T (1199 - j) = nI (N / b ^ j % b)) (h2 : ∀ j, j < n → T' j = T (1200 - n + j)) : mdOK b T' (nI n) N := by
  subst hn
  refine ⟨rfl, h6, fun k hk => ?_⟩
  rw [h2 k hk, show 1200 - nd b N + k = 1199 - (nd b N - 1 - k) by omega, h1 _ (by omega)]
set_option maxRecDepth 100000 in
theorem mo_rounds {b N : Nat} (hb : 2 ≤ b) (hb2 : b ≤ 16) (h6 : nd b N ≤ 600) (c0 : Int32) : ∀ (d n m : Nat) (T f : Nat → Int32) (g : Nat → Nat), n + d = nd b N → d + 1 < m → (∀ j, j < n → T (1199 - j) = nI (N / b ^ j % b)) → clOK B16 f 32 g → vl B16 g 32 = N / b ^ n →
    ∃ (c : Int32) (T' f' : Nat → Int32), lp_ (b_Model_spell_36 5000 (nI b) c0) m (nI n, 1, T, f) = some (c, T', f') ∧ mdOK b T' c N := by
  intro d
  induction d with
  | zero =>
    intro n m T f g hn hm hT h hv
    obtain ⟨m, rfl⟩ : ∃ j, m = j + 1 + 1 := ⟨m - 2, by omega⟩
    have hv0 : vl B16 g 32 = 0 := by rw [hv]; exact nd_div0 hb (by omega)
    obtain ⟨rc, hrc⟩ : ∃ rc, lp_ (b_Model_spell_36 5000 (nI b) c0) (m + 1) = rc := ⟨_, rfl⟩
    obtain ⟨f', g', q1, q2, q3, q4⟩ := mo_div hb hb2 rc (nI n) T 32 5000 0 false f g (Nat.le_refl _) (by omega) (by omega) h
    rw [show iI (((32 : Nat) : Int) - 1) = (31 : Int32) from by decide, if_neg (show ¬ false = true by decide), show nI 0 = (0 : Int32) from rfl] at q1
    rw [if_neg (show ¬ (false = true ∨ vl B16 g 32 ≠ 0) from fun z => z.elim (fun y => by cases y) (fun y => y hv0))] at q1
    obtain ⟨T', c1, c2⟩ := mo_copy (n := n) (by omega) (nI n) f' T n 0 5000 T (by omega) (by omega) (fun j => by rw [if_neg (by omega)])
    refine ⟨nI n, T', f', ?_, mo_end hb (by omega) h6 hT c2⟩
    show b_Model_spell_36 5000 (nI b) c0 (lp_ (b_Model_spell_36 5000 (nI b) c0) (m + 1)) _ = _
    rw [hrc]
    rw [e_Model_spell_36]
    refine ifn (by decide) (Eq.trans q1 ?_)
    rw [← hrc]
    show b_Model_spell_36 5000 (nI b) c0 (lp_ (b_Model_spell_36 5000 (nI b) c0) m) _ = _
    rw [e_Model_spell_36]
    exact ifp rfl c1
  | succ d ih =>
    intro n m T f g hn hm hT h hv
    obtain ⟨m, rfl⟩ : ∃ j, m = j + 1 := ⟨m - 1, by omega⟩
    have hv0 : vl B16 g 32 ≠ 0 := by rw [hv]; exact nd_div1 hb (by omega)
    obtain ⟨rc, hrc⟩ : ∃ rc, lp_ (b_Model_spell_36 5000 (nI b) c0) m = rc := ⟨_, rfl⟩
    obtain ⟨f', g', q1, q2, q3, q4⟩ := mo_div hb hb2 rc (nI n) T 32 5000 0 false f g (Nat.le_refl _) (by omega) (by omega) h
    rw [show iI (((32 : Nat) : Int) - 1) = (31 : Int32) from by decide, if_neg (show ¬ false = true by decide), show nI 0 = (0 : Int32) from rfl] at q1
    rw [if_pos (show false = true ∨ vl B16 g 32 ≠ 0 from Or.inr hv0), Nat.zero_mul, Nat.zero_add, hv, show (1199 : Int32) - nI n = nI (1199 - n) from pk_sub (a := 1199) (by omega), if_pos (inB_n (by omega)), nI_clamp (by omega), nI_1] at q1
    rw [Nat.zero_mul, Nat.zero_add, hv, nd_div_s] at q3
    obtain ⟨c, T', f2, y1, y2⟩ := ih (n + 1) m (upd T (1199 - n) (nI (N / b ^ n % b))) f' g' (by omega) (by omega) (fun j hj => by
      by_cases e : j = n
      · subst e
        rw [pk_us]
      · rw [pk_un (by omega), hT j (by omega)]) q2 q3
    refine ⟨c, T', f2, ?_, y2⟩
    show b_Model_spell_36 5000 (nI b) c0 (lp_ (b_Model_spell_36 5000 (nI b) c0) m) _ = _
    rw [hrc]
    rw [e_Model_spell_36]
    refine ifn (by decide) (Eq.trans q1 ?_)
    rw [← hrc]
    exact y1
def szOK (S : Nat → Int32) (a : Nat) (g : Nat → Nat) : Prop := ∀ k, k < 32 → S (32 * a + k) = nI (g k) ∧ g k < B16
theorem mo_load {b : Nat} {S T : Nat → Int32} {a : Nat} (ha : a < 12) {g : Nat → Nat} (hS : szOK S a g) (c0 : Int32) : ∀ (d k m : Nat) (W : Nat → Int32), k + d = 32 → d < m → (∀ j, j < k → W j = nI (g j)) → ∃ W' : Nat → Int32, lp_ (b_Model_spell_2 5000 S (nI a) (nI b) c0 T) m (nI k, W) = lp_ (b_Model_spell_36 5000 (nI b) c0) 5000 (0, 1, T, W') ∧ clOK B16 W' 32 g := by
  intro d
  induction d with
  | zero =>
    intro k m W hk hm h
    obtain ⟨m, rfl⟩ : ∃ j, m = j + 1 := ⟨m - 1, by omega⟩
    refine ⟨W, ?_, fun j hj => ⟨h j (by omega), (hS j hj).2⟩⟩
    show b_Model_spell_2 5000 S (nI a) (nI b) c0 T (lp_ (b_Model_spell_2 5000 S (nI a) (nI b) c0 T) m) _ = _
    rw [e_Model_spell_2]
    exact ifp (rle 32 (by omega)) rfl
  | succ d ih =>
    intro k m W hk hm h
    obtain ⟨m, rfl⟩ : ∃ j, m = j + 1 := ⟨m - 1, by omega⟩
    obtain ⟨W', h1, h2⟩ := ih (k + 1) m (upd W k (nI (g k))) (by omega) (by omega) (fun j hj => by
      by_cases e : j = k
      · subst e
        rw [pk_us]
      · rw [pk_un e, h j (by omega)])
    refine ⟨W', ?_, h2⟩
    rw [← h1]
    show b_Model_spell_2 5000 S (nI a) (nI b) c0 T (lp_ (b_Model_spell_2 5000 S (nI a) (nI b) c0 T) m) _ = _
    generalize lp_ (b_Model_spell_2 5000 S (nI a) (nI b) c0 T) m = rc
    rw [e_Model_spell_2]
    have e1 : (32 : Int32) * nI a + nI k = nI (32 * a + k) := by rw [show (32 : Int32) * nI a = nI (32 * a) from pk_mul 32 a, nI_add]
    rw [e1]
    refine ifn (rnle 32 (by omega)) (ifp (inB_n (by omega)) (ifp (inB_n (by omega)) ?_))
    rw [nI_clamp (by omega), nI_clamp (by omega), (hS k (by omega)).1, nI_1]
theorem mo_spell {b : Nat} (hb : 2 ≤ b) (hb2 : b ≤ 16) {S T W : Nat → Int32} {a : Nat} (ha : a < 12) {g : Nat → Nat} (hS : szOK S a g) (c0 : Int32) : ∃ (c : Int32) (T' W' : Nat → Int32), f_Model_spell 5000 S T c0 W (nI a) (nI b) = some (c, T', W') ∧ mdOK b T' c (vl B16 g 32) := by
  obtain ⟨W1, h1, h2⟩ := mo_load (b := b) (T := T) ha hS c0 32 0 5000 W (by omega) (by omega) (fun j hj => by omega)
  have hv : vl B16 g 32 < B16 ^ 32 := vl_lt (by decide) (fun i hi => (hS i hi).2)
  have h6 : nd b (vl B16 g 32) ≤ 600 := by
    refine Nat.le_trans (nd_le hb (n := 512) (Nat.lt_of_lt_of_le hv ?_)) (by omega)
    exact Nat.le_trans (show B16 ^ 32 ≤ 2 ^ 512 by decide +kernel) (Nat.pow_le_pow_left hb 512)
  obtain ⟨c, T', f', y1, y2⟩ := mo_rounds hb hb2 h6 c0 (nd b (vl B16 g 32)) 0 5000 T W1 g (by omega) (by omega) (fun j hj => by omega) h2 (by rw [Nat.pow_zero, Nat.div_one])
  exact ⟨c, T', f', Eq.trans h1 y1, y2⟩
theorem mo_copyL {n : Nat} (hn : n ≤ 600) (x : Int32) (T0 : Nat → Int32) : ∀ (d k m : Nat) (T : Nat → Int32), k + d = n → d < m → (∀ j, T j = if j < k then T0 (1200 - n + j) else T0 j) → ∃ T' : Nat → Int32, lp_ (b_Model_spellLong_98 (nI n) x) m (nI k, T) = some (x, T') ∧ ∀ j, j < n → T' j = T0 (1200 - n + j) := by
  intro d
  induction d with
  | zero =>
    intro k m T hk hm h
    obtain ⟨m, rfl⟩ : ∃ j, m = j + 1 := ⟨m - 1, by omega⟩
    refine ⟨T, ?_, fun j hj => by rw [h j, if_pos (by omega)]⟩
    show b_Model_spellLong_98 (nI n) x (lp_ (b_Model_spellLong_98 (nI n) x) m) _ = _
    rw [e_Model_spellLong_98]
    exact ifp (nI_le (by omega) (by omega)) rfl
  | succ d ih =>
    intro k m T hk hm h
    obtain ⟨m, rfl⟩ : ∃ j, m = j + 1 := ⟨m - 1, by omega⟩
    obtain ⟨T', h1, h2⟩ := ih (k + 1) m (upd T k (T (1200 - n + k))) (by omega) (by omega) (fun j => by
      by_cases e : j = k
      · subst e
        rw [pk_us, if_pos (by omega), h (1200 - n + j), if_neg (by omega)]
      · rw [pk_un e, h j]
        by_cases e2 : j < k
        · rw [if_pos e2, if_pos (by omega)]
        · rw [if_neg e2, if_neg (by omega)])
    refine ⟨T', ?_, h2⟩
    rw [← h1]
    show b_Model_spellLong_98 (nI n) x (lp_ (b_Model_spellLong_98 (nI n) x) m) _ = _
    generalize lp_ (b_Model_spellLong_98 (nI n) x) m = rc
    rw [e_Model_spellLong_98]
    have e1 : ((1200 : Int32) - nI n) + nI k = nI (1200 - n + k) := by
      rw [show (1200 : Int32) - nI n = nI (1200 - n) from pk_sub (a := 1200) (by omega), nI_add]
    rw [e1]
    refine ifn (nI_ge (by omega) (by omega)) (ifp (inB_n (by omega)) (ifp (inB_n (by omega)) ?_))
    rw [nI_clamp (by omega), nI_clamp (by omega), nI_1]
theorem mo_long {b N : Nat} (hb : 2 ≤ b) (hb2 : b ≤ 16) (h6 : nd b N ≤ 600) (hN : N < 2 ^ 64) (c0 : Int32) : ∀ (d n m : Nat) (T : Nat → Int32), n + d = nd b N → d < m → (∀ j, j < n → T (1199 - j) = nI (N / b ^ j % b)) →
    ∃ (c : Int32) (T' : Nat → Int32), lp_ (b_Model_spellLong_6 5000 (nI b) c0) m (lN (N / b ^ n), nI n, T) = some (c, T') ∧ mdOK b T' c N := by
  intro d
  induction d with
  | zero =>
    intro n m T hn hm hT
    obtain ⟨m, rfl⟩ : ∃ j, m = j + 1 := ⟨m - 1, by omega⟩
    obtain ⟨T', c1, c2⟩ := mo_copyL (n := n) (by omega) (nI n) T n 0 5000 T (by omega) (by omega) (fun j => by rw [if_neg (by omega)])
    refine ⟨nI n, T', ?_, mo_end hb (by omega) h6 hT c2⟩
    rw [nd_div0 hb (by omega)]
    show b_Model_spellLong_6 5000 (nI b) c0 (lp_ (b_Model_spellLong_6 5000 (nI b) c0) m) _ = _
    generalize lp_ (b_Model_spellLong_6 5000 (nI b) c0) m = rc
    rw [e_Model_spellLong_6]
    exact ifp (by decide) c1
  | succ d ih =>
    intro n m T hn hm hT
    obtain ⟨m, rfl⟩ : ∃ j, m = j + 1 := ⟨m - 1, by omega⟩
    have hv0 : N / b ^ n ≠ 0 := nd_div1 hb (by omega)
    have hV : N / b ^ n < 2 ^ 64 := Nat.lt_of_le_of_lt (Nat.div_le_self _ _) hN
    obtain ⟨c, T', y1, y2⟩ := ih (n + 1) m (upd T (1199 - n) (nI (N / b ^ n % b))) (by omega) (by omega) (fun j hj => by
      by_cases e : j = n
      · subst e
        rw [pk_us]
      · rw [pk_un (by omega), hT j (by omega)])
    refine ⟨c, T', ?_, y2⟩
    rw [← y1, ← nd_div_s]
    generalize N / b ^ n = V at hv0 hV
    show b_Model_spellLong_6 5000 (nI b) c0 (lp_ (b_Model_spellLong_6 5000 (nI b) c0) m) _ = _
    generalize lp_ (b_Model_spellLong_6 5000 (nI b) c0) m = rc
    rw [e_Model_spellLong_6]
    have h0 : 0 < b := by omega
    have hne : ¬ (nI b).toInt64 = 0 := by
      rw [nI_l (by omega)]
      intro z
      have := (pk_lEQ (a := b) (b := 0) (by omega) (by omega)).mp z
      omega
    have eh : (lN V >>> ((1 : Int32).toInt64 &&& 63)) &&& (9223372036854775807 : Int64) = lN (V / 2) := by
      have := sar_mask (V := V) (s := 1) (k := 63) (S := (1 : Int32).toInt64 &&& 63) (M := 9223372036854775807) (by decide) (by decide) (by omega) hV
      rw [this]
      congr 1
      rw [Nat.pow_one]
      exact Nat.mod_eq_of_lt (by omega)
    have eq2 : lN (V / 2 / b) * (2 : Int64) = lN (V / 2 / b * 2) := lN_mul _ 2
    have hdm := Nat.div_add_mod (V / 2) b
    have hml := Nat.mod_lt (V / 2) h0
    have hqb : V / 2 / b * 2 * b ≤ V := by
      have e : V / 2 / b * 2 * b = 2 * (b * (V / 2 / b)) := by
        rw [Nat.mul_comm b, ← Nat.mul_assoc, Nat.mul_comm 2, Nat.mul_right_comm]
      omega
    have hleft : V - V / 2 / b * 2 * b < 2 * b := by
      have e : V / 2 / b * 2 * b = 2 * (b * (V / 2 / b)) := by
        rw [Nat.mul_comm b, ← Nat.mul_assoc, Nat.mul_comm 2, Nat.mul_right_comm]
      omega
    have hVs : b * (V / 2 / b * 2) + (V - V / 2 / b * 2 * b) = V := by
      rw [Nat.mul_comm b]
      omega
    rw [eh, nI_l (by omega), pk_lDiv (by omega) h0 (by omega), eq2, lN_mul, lN_sub hqb]
    refine ifn (fun z => ?_) (ifn (fun z => hne (by rw [nI_l (by omega)]; exact z)) ?_)
    · rw [lg_cmp_eq] at z
      exact hv0 ((lN_eq64 hV (by decide : 0 < 2 ^ 64)).mp z)
    · generalize hL : V - V / 2 / b * 2 * b = L at hleft hVs
      generalize hQ : V / 2 / b * 2 = Q at hVs
      have fin : ∀ q l : Nat, q = V / b → l = V % b → k_Model_spellLong_65 rc (nI n) (lN q) (lN l) T = rc (lN (V / b), nI (n + 1), upd T (1199 - n) (nI (V % b))) := by
        intro q l h1 h2
        subst h1 h2
        unfold k_Model_spellLong_65
        try dsimp only
        rw [show (1199 : Int32) - nI n = nI (1199 - n) from pk_sub (a := 1199) (by omega)]
        refine ifp (inB_n (by omega)) ?_
        rw [nI_clamp (by omega), lN_i, nI_1]
      by_cases hlt : L < b
      · refine ifp ((lg_cmp_lt _ _).mpr ((pk_lLT (by omega) (by omega)).mpr hlt)) (fin Q L ?_ ?_)
        · rw [← hVs, Nat.mul_add_div h0, Nat.div_eq_of_lt hlt, Nat.add_zero]
        · rw [← hVs, Nat.mul_add_mod, Nat.mod_eq_of_lt hlt]
      · refine ifn (fun z => hlt ((pk_lLT (by omega) (by omega)).mp ((lg_cmp_lt _ _).mp z))) ?_
        rw [lN_sub (by omega), lN_1]
        have hVs2 : b * (Q + 1) + (L - b) = V := by
          rw [Nat.mul_add, Nat.mul_one]
          omega
        refine fin (Q + 1) (L - b) ?_ ?_
        · rw [← hVs2, Nat.mul_add_div h0, Nat.div_eq_of_lt (by omega), Nat.add_zero]
        · rw [← hVs2, Nat.mul_add_mod, Nat.mod_eq_of_lt (by omega)]
theorem mo_spellLong {b N : Nat} (hb : 2 ≤ b) (hb2 : b ≤ 16) (hN : N < 2 ^ 64) (T : Nat → Int32) (c0 : Int32) : ∃ (c : Int32) (T' : Nat → Int32), f_Model_spellLong 5000 T c0 (lN N) (nI b) = some (c, T') ∧ mdOK b T' c N := by
  have h6 : nd b N ≤ 64 := nd_le hb (Nat.lt_of_lt_of_le hN (Nat.pow_le_pow_left hb 64))
  have := mo_long hb hb2 (by omega) hN c0 (nd b N) 0 5000 T (by omega) (by omega) (fun j hj => by omega)
  rw [Nat.pow_zero, Nat.div_one] at this
  exact this
