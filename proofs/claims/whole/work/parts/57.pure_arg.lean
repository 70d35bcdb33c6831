theorem vl_eq0 {b : Nat} (hb : 0 < b) {g : Nat → Nat} : ∀ (n : Nat), vl b g n = 0 ↔ ∀ i, i < n → g i = 0
  | 0 => ⟨fun _ i hi => absurd hi (Nat.not_lt_zero i), fun _ => rfl⟩
  | n + 1 => by
    show vl b g n + g n * b ^ n = 0 ↔ _
    have hp := pw_pos hb n
    constructor
    · intro h
      have h1 : vl b g n = 0 := by omega
      have h2 : g n * b ^ n = 0 := by omega
      have h3 : g n = 0 := by
        rcases Nat.mul_eq_zero.mp h2 with h | h
        · exact h
        · omega
      intro i hi
      by_cases e : i = n
      · rw [e]; exact h3
      · exact (vl_eq0 hb n).mp h1 i (by omega)
    · intro h
      rw [(vl_eq0 hb n).mpr (fun i hi => h i (by omega)), h n (by omega), Nat.zero_mul]
theorem wN_0 {ws : Nat → Int64} {i : Nat} : ws i = 0 ↔ wN ws i = 0 := by
  constructor
  · intro h
    unfold wN
    rw [h]
    rfl
  · intro h
    rw [wN_eq ws i, h]
    rfl
theorem ar_isSizeZero (ws : Nat → Int64) : f_Argument_isSizeZero 5000 ws = some (bI (decide (SZ ws = 0))) := by
  have run : ∀ (d i m : Nat), i + d = 8 → d < m → (∀ j, j < i → wN ws j = 0) → lp_ (b_Argument_isSizeZero_2 ws) m (nI i) = some (bI (decide (SZ ws = 0))) := by
    intro d
    induction d with
    | zero =>
      intro i m hi hm h
      obtain ⟨m, rfl⟩ : ∃ j, m = j + 1 := ⟨m - 1, by omega⟩
      have : SZ ws = 0 := (vl_eq0 (by decide) 8).mpr (fun j hj => h j (by omega))
      rw [decide_eq_true this]
      show b_Argument_isSizeZero_2 ws (lp_ (b_Argument_isSizeZero_2 ws) m) _ = _
      rw [e_Argument_isSizeZero_2]
      exact ifp (rle 8 (by omega)) rfl
    | succ d ih =>
      intro i m hi hm h
      obtain ⟨m, rfl⟩ : ∃ j, m = j + 1 := ⟨m - 1, by omega⟩
      show b_Argument_isSizeZero_2 ws (lp_ (b_Argument_isSizeZero_2 ws) m) _ = _
      by_cases h0 : wN ws i = 0
      · have hi2 := ih (i + 1) m (by omega) (by omega) (fun j hj => by
          by_cases e : j = i
          · rw [e]; exact h0
          · exact h j (by omega))
        generalize lp_ (b_Argument_isSizeZero_2 ws) m = rc at hi2 ⊢
        rw [e_Argument_isSizeZero_2]
        rw [nI_1, nI_clamp (by omega)]
        exact ifn (rnle 8 (by omega)) (ifp (inB_n (by omega)) (ifp ((lg_cmp_eq _ _).mpr (wN_0.mpr h0)) hi2))
      · have hne : ¬ SZ ws = 0 := fun e => h0 ((vl_eq0 (by decide) 8).mp e i (by omega))
        rw [decide_eq_false hne]
        rw [e_Argument_isSizeZero_2]
        rw [nI_clamp (by omega)]
        exact ifn (rnle 8 (by omega)) (ifp (inB_n (by omega)) (ifn (fun z => h0 (wN_0.mp ((lg_cmp_eq _ _).mp z))) rfl))
  exact run 8 0 5000 (by omega) (by omega) (fun j hj => by omega)
theorem ar_below (ws : Nat → Int64) (k : Nat) (mb : Bool) : f_Argument_isBelowZero 5000 ws k (bI mb) = some (bI (mb && (decide (k = 6) || !decide (SZ ws = 0)))) := by
  unfold f_Argument_isBelowZero
  cases mb with
  | false => exact ifp rfl rfl
  | true =>
    refine ifn (by decide) ?_
    by_cases h6 : k = 6
    · rw [decide_eq_true h6]
      exact ifp h6 rfl
    · rw [decide_eq_false h6]
      refine ifn h6 (bnd (ar_isSizeZero ws) ?_)
      cases decide (SZ ws = 0) with
      | true => exact ifn (by decide) rfl
      | false => exact ifp rfl rfl
theorem ar_beyond {V : Nat} (hV : V < 2 ^ 64) (k : Nat) : f_Argument_isBeyondNumbers k (lN V) = some (bI (decide (k = 6) && decide (V / 2 ^ 52 % 2048 = 2047))) := by
  have hl := Nat.mod_lt (V / 2 ^ 52) (show 0 < 2048 by decide)
  unfold f_Argument_isBeyondNumbers
  by_cases h6 : k = 6
  · rw [decide_eq_true h6]
    refine ifp h6 (bnd (hx_exp hV) ?_)
    by_cases h : V / 2 ^ 52 % 2048 = 2047
    · rw [decide_eq_true h]
      exact ifp (qeq 2047 h) rfl
    · rw [decide_eq_false h]
      exact ifn (qne 2047 h) rfl
  · rw [decide_eq_false h6]
    exact ifn h6 rfl
theorem ar_none {V : Nat} (hV : V < 2 ^ 64) (k : Nat) : f_Argument_isNoNumber k (lN V) = some (bI ((decide (k = 6) && decide (V / 2 ^ 52 % 2048 = 2047)) && !decide (V % 2 ^ 52 = 0))) := by
  have em : lN V &&& (4503599627370495 : Int64) = lN (V % 2 ^ 52) := by rw [c52]; exact wb_mask hV (by omega)
  have hm := Nat.mod_lt V (show 0 < 2 ^ 52 by decide)
  unfold f_Argument_isNoNumber
  rw [em]
  refine bnd (ar_beyond hV k) ?_
  cases (decide (k = 6) && decide (V / 2 ^ 52 % 2048 = 2047)) with
  | false => exact ifp rfl rfl
  | true =>
    refine ifn (by decide) ?_
    by_cases h : V % 2 ^ 52 = 0
    · rw [decide_eq_true h, h]
      exact ifp (by decide) rfl
    · rw [decide_eq_false h]
      exact ifn (fun z => h ((lN_eq64 (by omega) (by decide : 0 < 2 ^ 64)).mp ((lg_cmp_eq _ _).mp z))) rfl
theorem mo_isZeroSize {S : Nat → Int32} {a : Nat} (ha : a < 12) {g : Nat → Nat} (hS : szOK S a g) : f_Model_isZeroSize 5000 S (nI a) = some (bI (decide (vl B16 g 32 = 0))) := by
  have run : ∀ (d i m : Nat) (o : Bool), i + d = 32 → d < m → (o = true ↔ ∀ j, j < i → g j = 0) → lp_ (b_Model_isZeroSize_4 S (nI a)) m (bI o, nI i) = some (bI (decide (vl B16 g 32 = 0))) := by
    intro d
    induction d with
    | zero =>
      intro i m o hi hm h
      obtain ⟨m, rfl⟩ : ∃ j, m = j + 1 := ⟨m - 1, by omega⟩
      have e : decide (vl B16 g 32 = 0) = o := by
        have hv := vl_eq0 (b := B16) (by decide) (g := g) 32
        cases o with
        | true => exact decide_eq_true (hv.mpr (fun j hj => h.mp rfl j (by omega)))
        | false => exact decide_eq_false (fun z => by
            have := h.mpr (fun j hj => hv.mp z j (by omega))
            cases this)
      rw [e]
      show b_Model_isZeroSize_4 S (nI a) (lp_ (b_Model_isZeroSize_4 S (nI a)) m) _ = _
      rw [e_Model_isZeroSize_4]
      exact ifp (rle 32 (by omega)) rfl
    | succ d ih =>
      intro i m o hi hm h
      obtain ⟨m, rfl⟩ : ∃ j, m = j + 1 := ⟨m - 1, by omega⟩
      have hg := hS i (by omega)
      have e1 : (32 : Int32) * nI a + nI i = nI (32 * a + i) := by rw [show (32 : Int32) * nI a = nI (32 * a) from pk_mul 32 a, nI_add]
      have hi2 := fun o2 ho2 => ih (i + 1) m o2 (by omega) (by omega) ho2
      show b_Model_isZeroSize_4 S (nI a) (lp_ (b_Model_isZeroSize_4 S (nI a)) m) _ = _
      generalize lp_ (b_Model_isZeroSize_4 S (nI a)) m = rc at hi2 ⊢
      rw [e_Model_isZeroSize_4]
      unfold k_Model_isZeroSize_32 k_Model_isZeroSize_33
      rw [nI_1, e1, nI_clamp (by omega), hg.1]
      have hlt : g i < 65536 := hg.2
      refine ifn (rnle 32 (by omega)) ?_
      cases o with
      | false =>
        exact ifp rfl (hi2 false ⟨fun z => (by cases z), fun z => h.mpr (fun j hj => z j (by omega))⟩)
      | true =>
        refine ifn (by decide) (ifp (inB_n (by omega)) ?_)
        have hall := h.mp rfl
        by_cases h0 : g i = 0
        · refine ifp (qeq 0 h0) (hi2 true ⟨fun _ j hj => ?_, fun _ => rfl⟩)
          by_cases e : j = i
          · rw [e]; exact h0
          · exact hall j (by omega)
        · exact ifn (qne 0 h0) (hi2 false ⟨fun z => (by cases z), fun z => absurd (z i (by omega)) h0⟩)
  exact run 32 0 5000 true (by omega) (by omega) ⟨fun _ j hj => by omega, fun _ => rfl⟩
theorem mo_isLast {KI : Nat → Int32} {VAL : Nat → Int64} {a k V : Nat} (ha : a < 12) (hk : k < 8) (hK : KI a = nI k) (hV : k = 6 → V < 2 ^ 64 ∧ VAL a = lN V) : f_Model_isLast KI VAL (nI a) = some (bI (decide (k = 6) && decide (V / 2 ^ 52 % 2048 = 2047))) := by
  unfold f_Model_isLast
  rw [nI_clamp (by omega), hK]
  refine ifp (inB_n (by omega)) ?_
  by_cases h6 : k = 6
  · obtain ⟨h1, h2⟩ := hV h6
    have hl := Nat.mod_lt (V / 2 ^ 52) (show 0 < 2048 by decide)
    rw [decide_eq_true h6, h2, sar_mask (s := 52) (k := 11) (by decide) (by decide) (by omega) h1]
    refine ifp (qeq 6 h6) (ifp (inB_n (by omega)) ?_)
    by_cases h : V / 2 ^ 52 % 2048 = 2047
    · rw [decide_eq_true h]
      refine ifp ((lg_cmp_eq _ _).mpr ?_) rfl
      rw [show (2 : Nat) ^ 11 = 2048 from rfl, h]
      rfl
    · rw [decide_eq_false h]
      refine ifn (fun z => h ?_) rfl
      exact (lN_eq64 (b := 2047) (by omega) (by omega)).mp ((lg_cmp_eq _ _).mp z)
  · rw [decide_eq_false h6]
    exact ifn (qne 6 h6) rfl
theorem mo_isNone {KI : Nat → Int32} {VAL : Nat → Int64} {a k V : Nat} (ha : a < 12) (hk : k < 8) (hK : KI a = nI k) (hV : k = 6 → V < 2 ^ 64 ∧ VAL a = lN V) : f_Model_isNone KI VAL (nI a) = some (bI ((decide (k = 6) && decide (V / 2 ^ 52 % 2048 = 2047)) && !decide (V % 2 ^ 52 = 0))) := by
  unfold f_Model_isNone
  refine bnd (mo_isLast ha hk hK hV) ?_
  rw [nI_clamp (by omega)]
  by_cases h6 : k = 6
  · obtain ⟨h1, h2⟩ := hV h6
    have em : lN V &&& (4503599627370495 : Int64) = lN (V % 2 ^ 52) := by rw [c52]; exact wb_mask h1 (by omega)
    have hm := Nat.mod_lt V (show 0 < 2 ^ 52 by decide)
    rw [h2, em]
    cases (decide (k = 6) && decide (V / 2 ^ 52 % 2048 = 2047)) with
    | false => exact ifp rfl rfl
    | true =>
      refine ifn (by decide) (ifp (inB_n (by omega)) ?_)
      by_cases h : V % 2 ^ 52 = 0
      · rw [decide_eq_true h, h]
        exact ifp (by decide) rfl
      · rw [decide_eq_false h]
        exact ifn (fun z => h ((lN_eq64 (by omega) (by decide : 0 < 2 ^ 64)).mp ((lg_cmp_eq _ _).mp z))) rfl
  · rw [decide_eq_false h6]
    exact ifp rfl rfl
theorem mo_isBelow {KI BE S : Nat → Int32} {a k : Nat} (ha : a < 12) (hk : k < 8) (hK : KI a = nI k) {mb : Bool} (hB : BE a = bI mb) {g : Nat → Nat} (hS : k ≠ 6 → szOK S a g) : f_Model_isBelow 5000 KI BE S (nI a) = some (bI (mb && (decide (k = 6) || !decide (vl B16 g 32 = 0)))) := by
  unfold f_Model_isBelow
  rw [nI_clamp (by omega), hK, hB]
  refine ifp (inB_n (by omega)) ?_
  by_cases h6 : k = 6
  · rw [decide_eq_true h6, Bool.true_or, Bool.and_true]
    refine ifp (qeq 6 h6) (ifp (inB_n (by omega)) (ifp ?_ rfl))
    cases mb <;> decide
  · rw [decide_eq_false h6]
    refine ifn (qne 6 h6) (ifp (inB_n (by omega)) ?_)
    cases mb with
    | false => exact ifp rfl rfl
    | true =>
      refine ifn (by decide) (bnd (mo_isZeroSize ha (hS h6)) ?_)
      cases decide (vl B16 g 32 = 0) with
      | true => exact ifn (by decide) rfl
      | false => exact ifp rfl rfl
def shOK (V wd : Nat) : Prop := V < 2 ^ 64 ∧ (wd = 8 ∨ wd = 16 ∨ wd = 32 ∨ wd = 64) ∧ (V < 2 ^ (wd - 1) ∨ 2 ^ 64 - 2 ^ (wd - 1) ≤ V)
def shN (V : Nat) : Nat := if 2 ^ 63 ≤ V then 2 ^ 64 - V else V
def arOK (A : AR) (KI WI BE S SC TX LE : Nat → Int32) (VAL PA : Nat → Int64) (a : Nat) : Prop :=
  A.2.2.2.1 < 8 ∧ KI a = nI A.2.2.2.1 ∧ (∃ mb : Bool, A.2.2.2.2.1 = bI mb ∧ BE a = bI mb ∧ (A.2.2.2.1 ≠ 7 → A.2.2.2.2.2.2.2.2 = none) ∧
  (A.2.2.2.1 = 1 → ∃ is : Bool, A.2.2.1 0 = lN (if is = true then 1 else 0) ∧ VAL a = lN (if is = true then 1 else 0)) ∧
  (A.2.2.2.1 = 2 → ∃ c : Nat, 1 ≤ c ∧ c ≤ 126 ∧ A.2.2.1 0 = lN c ∧ VAL a = lN c) ∧
  (A.2.2.2.1 = 3 → ∃ V wd : Nat, shOK V wd ∧ VAL a = lN V ∧ WI a = nI wd ∧ A.2.2.2.2.2.2.1 = nI wd ∧ A.2.2.2.2.2.1 = lN (V % 2 ^ wd) ∧ A.2.2.1 0 = lN (shN V) ∧ (∀ i, 0 < i → i < 8 → A.2.2.1 i = 0) ∧ mb = decide (2 ^ 63 ≤ V) ∧ A.2.2.2.2.2.2.2.1 = 0) ∧
  (A.2.2.2.1 = 4 → A.2.2.2.2.2.2.2.1 = 0) ∧
  ((A.2.2.2.1 = 4 ∨ A.2.2.2.1 = 5) → ∃ g, szOK S a g ∧ vl B16 g 32 = SZ A.2.2.1) ∧
  ((A.2.2.2.1 = 5 ∨ A.2.2.2.1 = 6) → ∃ lo : Int, -400 ≤ lo ∧ lo ≤ 400 ∧ A.2.2.2.2.2.2.2.1 = iI lo ∧ SC a = iI (-lo)) ∧
  (A.2.2.2.1 = 6 → ∃ V d : Nat, V < 2 ^ 64 ∧ VAL a = lN V ∧ A.2.2.2.2.2.1 = lN V ∧ mb = decide (2 ^ 63 ≤ V) ∧ d < 10 ^ 17 ∧ PA a = lN d ∧ A.2.2.1 0 = lN d ∧ ∀ i, 0 < i → i < 8 → A.2.2.1 i = 0) ∧
  (A.2.2.2.1 = 7 → ∃ (L : List Nat) (ql qc nn : Nat) (ff : Nat → Int32) (uu zz : Int32), A.2.2.2.2.2.2.2.2 = some (ql, qc, nn, ff, uu, zz) ∧ rowOK nn ff uu L ∧ L.length ≤ 400 ∧ LE a = nI L.length ∧ ∀ j, j < L.length → TX (400 * a + j) = nI (lk L j)))
theorem sz_one {ws : Nat → Int64} {n : Nat} (hn : n < 2 ^ 64) (h0 : ws 0 = lN n) (h1 : ∀ i, 0 < i → i < 8 → ws i = 0) : SZ ws = n := by
  unfold SZ
  rw [vl_zeros (t := 1) 8 (by omega) (fun j g1 g2 => wN_0.mp (h1 j (by omega) g2))]
  show 0 + wN ws 0 * (2 ^ 64) ^ 0 = n
  rw [Nat.pow_zero, Nat.mul_one, Nat.zero_add]
  unfold wN
  rw [h0, wb_tn hn]
