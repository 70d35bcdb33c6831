def pcOK (P : Nat → Int32) (p : Int32) (L : List Nat) : Prop := p = nI L.length ∧ L.length ≤ 4000 ∧ ∀ j, j < L.length → P j = nI (lk L j)
theorem lk_app1 {L M : List Nat} {j : Nat} (h : j < L.length) : lk (L ++ M) j = lk L j := by
  unfold lk
  rw [List.getD_eq_getElem?_getD, List.getD_eq_getElem?_getD, List.getElem?_append_left h]
theorem lk_app2 {L M : List Nat} {j : Nat} (h : L.length ≤ j) : lk (L ++ M) j = lk M (j - L.length) := by
  unfold lk
  rw [List.getD_eq_getElem?_getD, List.getD_eq_getElem?_getD, List.getElem?_append_right h]
theorem mo_add {P : Nat → Int32} {p : Int32} {L : List Nat} (h : pcOK P p L) (c : Nat) (hl : L.length < 4000) : ∃ s : Int32 × (Nat → Int32), f_Model_add P p (nI c) = some s ∧ pcOK s.2 s.1 (L ++ [c]) := by
  obtain ⟨rfl, h1, h2⟩ := h
  refine ⟨(nI (L.length + 1), upd P L.length (nI c)), ?_, ?_, ?_, fun j hj => ?_⟩
  · unfold f_Model_add
    refine ifp (inB_n hl) ?_
    rw [nI_clamp (by omega), show nI L.length + (1 : Int32) = nI (L.length + 1) from nI_1 _]
  · rw [List.length_append]
    rfl
  · rw [List.length_append]
    exact hl
  · rw [List.length_append] at hj
    show upd P L.length (nI c) j = _
    by_cases e : j = L.length
    · subst e
      rw [pk_us, lk_app2 (Nat.le_refl _), Nat.sub_self]
      rfl
    · have hj2 : j < L.length := by
        have : j < L.length + 1 := hj
        omega
      rw [pk_un e, lk_app1 hj2, h2 j hj2]
theorem mo_addDigit {P : Nat → Int32} {p : Int32} {L : List Nat} (h : pcOK P p L) {d : Nat} (hd : d < 16) (hl : L.length < 4000) : ∃ s : Int32 × (Nat → Int32), f_Model_addDigit P p (nI d) = some s ∧ pcOK s.2 s.1 (L ++ [lett d]) := by
  obtain ⟨s, y1, y2⟩ := mo_add h (lett d) hl
  refine ⟨s, ?_, y2⟩
  unfold f_Model_addDigit k_Model_addDigit_21
  try dsimp only
  by_cases h10 : 10 ≤ d
  · refine ifp (rle 10 h10) ?_
    have e : ((97 : Int32) + nI d) - (10 : Int32) = nI (lett d) := by
      have key : ∀ d, d < 16 → 10 ≤ d → ((97 : Int32) + nI d) - (10 : Int32) = nI (lett d) := by decide +kernel
      exact key d hd h10
    rw [e]
    exact bnd y1 rfl
  · refine ifn (rnle 10 (by omega)) ?_
    have e : (48 : Int32) + nI d = nI (lett d) := by
      have key : ∀ d, d < 10 → (48 : Int32) + nI d = nI (lett d) := by decide +kernel
      exact key d (by omega)
    rw [e]
    exact bnd y1 rfl
def byL (a : Nat) : Nat → List Nat
  | 0 => []
  | k + 1 => (if a / 2 ^ (8 * k) % 2 ^ 8 = 0 then [] else [a / 2 ^ (8 * k) % 2 ^ 8]) ++ byL a k
theorem byL_len (a : Nat) : ∀ k, (byL a k).length ≤ k
  | 0 => Nat.le_refl _
  | k + 1 => by
    have := byL_len a k
    show ((if a / 2 ^ (8 * k) % 2 ^ 8 = 0 then [] else [a / 2 ^ (8 * k) % 2 ^ 8]) ++ byL a k).length ≤ k + 1
    rw [List.length_append]
    by_cases h : a / 2 ^ (8 * k) % 2 ^ 8 = 0
    · rw [if_pos h]
      show 0 + _ ≤ _
      omega
    · rw [if_neg h]
      show 1 + _ ≤ _
      omega
theorem sh8 : ∀ k, k < 8 → (((((8 : Int32) * nI k).toInt64 &&& 63)).toBitVec.smod 64).toNat = 8 * k := by decide +kernel
theorem by_k {a k : Nat} (ha : a < 2 ^ 64) (hk : k < 8) : (lN a >>> (((8 : Int32) * nI k).toInt64 &&& 63)) &&& (255 : Int64) = lN (a / 2 ^ (8 * k) % 2 ^ 8) := sar_mask (s := 8 * k) (k := 8) (sh8 k hk) (by decide) (by omega) ha
theorem mo_word_b {a : Nat} (ha : a < 2 ^ 64) : ∀ (k m : Nat) (P : Nat → Int32) (p : Int32) (L : List Nat), k ≤ 8 → k < m → L.length + k ≤ 4000 → pcOK P p L → ∃ s : Int32 × (Nat → Int32), lp_ (b_Model_addWord_51 (lN a)) m (iI ((k : Int) - 1), p, P) = some s ∧ pcOK s.2 s.1 (L ++ byL a k) := by
  intro k
  induction k with
  | zero =>
    intro m P p L hk hm hl h
    obtain ⟨m, rfl⟩ : ∃ j, m = j + 1 := ⟨m - 1, by omega⟩
    refine ⟨(p, P), ?_, ?_⟩
    · show b_Model_addWord_51 (lN a) (lp_ (b_Model_addWord_51 (lN a)) m) _ = _
      rw [e_Model_addWord_51]
      exact ifp (by decide) rfl
    · show pcOK P p (L ++ [])
      rw [List.append_nil]
      exact h
  | succ k ih =>
    intro m P p L hk hm hl h
    obtain ⟨m, rfl⟩ : ∃ j, m = j + 1 := ⟨m - 1, by omega⟩
    have ei : iI (((k + 1 : Nat) : Int) - 1) = nI k := by
      rw [← iI_nat]
      congr 1
      omega
    have e1 : nI k + (-1 : Int32) = iI ((k : Int) - 1) := by rw [← iI_nat, show (-1 : Int32) = iI (-1) from rfl, iI_add]; rfl
    have hb : a / 2 ^ (8 * k) % 2 ^ 8 < 2 ^ 8 := Nat.mod_lt _ (by decide)
    show ∃ s : Int32 × (Nat → Int32), b_Model_addWord_51 (lN a) (lp_ (b_Model_addWord_51 (lN a)) m) (iI (((k + 1 : Nat) : Int) - 1), p, P) = some s ∧ pcOK s.2 s.1 (L ++ ((if a / 2 ^ (8 * k) % 2 ^ 8 = 0 then [] else [a / 2 ^ (8 * k) % 2 ^ 8]) ++ byL a k))
    rw [ei]
    by_cases h0 : a / 2 ^ (8 * k) % 2 ^ 8 = 0
    · obtain ⟨s, z1, z2⟩ := ih m P p L (by omega) (by omega) (by omega) h
      refine ⟨s, ?_, ?_⟩
      · generalize lp_ (b_Model_addWord_51 (lN a)) m = rc at z1 ⊢
        rw [e_Model_addWord_51]
        unfold k_Model_addWord_88
        rw [by_k ha (by omega), h0, e1]
        exact ifn (nI_pos (by omega)) (ifp (by decide) z1)
      · rw [if_pos h0]
        exact z2
    · obtain ⟨s1, y1, y2⟩ := mo_add h (a / 2 ^ (8 * k) % 2 ^ 8) (by omega)
      obtain ⟨s, z1, z2⟩ := ih m s1.2 s1.1 _ (by omega) (by omega) (by rw [List.length_append]; show L.length + 1 + k ≤ 4000; omega) y2
      refine ⟨s, ?_, ?_⟩
      · generalize lp_ (b_Model_addWord_51 (lN a)) m = rc at z1 ⊢
        rw [e_Model_addWord_51]
        unfold k_Model_addWord_88
        rw [by_k ha (by omega), lN_i, e1]
        refine ifn (nI_pos (by omega)) (ifn (fun z => ?_) (bnd y1 z1))
        rw [lg_cmp_eq] at z
        exact h0 ((lN_eq64 (by omega) (by decide : 0 < 2 ^ 64)).mp z)
      · rw [if_neg h0]
        rw [List.append_assoc] at z2
        exact z2
theorem mo_word_a {a : Nat} (ha : a < 2 ^ 64) : ∀ (k m : Nat) (P : Nat → Int32) (p : Int32) (L : List Nat), k ≤ 8 → k < m → L.length + k + 8 ≤ 4000 → pcOK P p L → ∃ s : Int32 × (Nat → Int32), lp_ (b_Model_addWord_4 5000 (lN a) 0) m (iI ((k : Int) - 1), p, P) = some s ∧ pcOK s.2 s.1 (L ++ byL a k) := by
  intro k
  induction k with
  | zero =>
    intro m P p L hk hm hl h
    obtain ⟨m, rfl⟩ : ∃ j, m = j + 1 := ⟨m - 1, by omega⟩
    obtain ⟨s, z1, z2⟩ := mo_word_b (a := 0) (by decide) 8 5000 P p L (by omega) (by omega) (by omega) h
    refine ⟨s, ?_, z2⟩
    show b_Model_addWord_4 5000 (lN a) 0 (lp_ (b_Model_addWord_4 5000 (lN a) 0) m) _ = _
    rw [e_Model_addWord_4]
    exact ifp (by decide) z1
  | succ k ih =>
    intro m P p L hk hm hl h
    obtain ⟨m, rfl⟩ : ∃ j, m = j + 1 := ⟨m - 1, by omega⟩
    have ei : iI (((k + 1 : Nat) : Int) - 1) = nI k := by
      rw [← iI_nat]
      congr 1
      omega
    have e1 : nI k + (-1 : Int32) = iI ((k : Int) - 1) := by rw [← iI_nat, show (-1 : Int32) = iI (-1) from rfl, iI_add]; rfl
    have hb : a / 2 ^ (8 * k) % 2 ^ 8 < 2 ^ 8 := Nat.mod_lt _ (by decide)
    show ∃ s : Int32 × (Nat → Int32), b_Model_addWord_4 5000 (lN a) 0 (lp_ (b_Model_addWord_4 5000 (lN a) 0) m) (iI (((k + 1 : Nat) : Int) - 1), p, P) = some s ∧ pcOK s.2 s.1 (L ++ ((if a / 2 ^ (8 * k) % 2 ^ 8 = 0 then [] else [a / 2 ^ (8 * k) % 2 ^ 8]) ++ byL a k))
    rw [ei]
    by_cases h0 : a / 2 ^ (8 * k) % 2 ^ 8 = 0
    · obtain ⟨s, z1, z2⟩ := ih m P p L (by omega) (by omega) (by omega) h
      refine ⟨s, ?_, ?_⟩
      · generalize lp_ (b_Model_addWord_4 5000 (lN a) 0) m = rc at z1 ⊢
        rw [e_Model_addWord_4]
        unfold k_Model_addWord_41
        rw [by_k ha (by omega), h0, e1]
        exact ifn (nI_pos (by omega)) (ifp (by decide) z1)
      · rw [if_pos h0]
        exact z2
    · obtain ⟨s1, y1, y2⟩ := mo_add h (a / 2 ^ (8 * k) % 2 ^ 8) (by omega)
      obtain ⟨s, z1, z2⟩ := ih m s1.2 s1.1 _ (by omega) (by omega) (by rw [List.length_append]; show L.length + 1 + k + 8 ≤ 4000; omega) y2
      refine ⟨s, ?_, ?_⟩
      · generalize lp_ (b_Model_addWord_4 5000 (lN a) 0) m = rc at z1 ⊢
        rw [e_Model_addWord_4]
        unfold k_Model_addWord_41
        rw [by_k ha (by omega), lN_i, e1]
        refine ifn (nI_pos (by omega)) (ifn (fun z => ?_) (bnd y1 z1))
        rw [lg_cmp_eq] at z
        exact h0 ((lN_eq64 (by omega) (by decide : 0 < 2 ^ 64)).mp z)
      · rw [if_neg h0]
        rw [List.append_assoc] at z2
        exact z2
theorem mo_addWord {a : Nat} {w : List Nat} (ha : a < 2 ^ 64) (hw : byL a 8 = w) {P : Nat → Int32} {p : Int32} {L : List Nat} (h : pcOK P p L) (hl : L.length + 16 ≤ 4000) : ∃ s : Int32 × (Nat → Int32), f_Model_addWord 5000 P p (lN a) 0 = some s ∧ pcOK s.2 s.1 (L ++ w) := by
  subst hw
  exact mo_word_a ha 8 5000 P p L (by omega) (by omega) (by omega) h
theorem mn_digits {s : Nat} (hs : s < 10000) : ∀ (j m : Nat) (P : Nat → Int32) (p : Int32) (L : List Nat), j ≤ 3 → j + 1 < m → L.length + j + 1 ≤ 4000 → pcOK P p L →
    ∃ z : Int32 × (Nat → Int32), lp_ (b_Model_addNumber_47 (nI s)) m (nI (10 ^ j), p, P) = some z ∧ pcOK z.2 z.1 (L ++ pl s j) := by
  intro j
  induction j with
  | zero =>
    intro m P p L hj hm hl h
    obtain ⟨m, rfl⟩ : ∃ j, m = j + 1 + 1 := ⟨m - 2, by omega⟩
    obtain ⟨s1, y1, y2⟩ := mo_add h (48 + s % 10) (by omega)
    refine ⟨s1, ?_, y2⟩
    have stop : lp_ (b_Model_addNumber_47 (nI s)) (m + 1) (nI (10 ^ 0) / (10 : Int32), s1.1, s1.2) = some s1 := by
      show b_Model_addNumber_47 (nI s) (lp_ (b_Model_addNumber_47 (nI s)) m) _ = _
      rw [e_Model_addNumber_47]
      exact ifp (by decide) rfl
    show b_Model_addNumber_47 (nI s) (lp_ (b_Model_addNumber_47 (nI s)) (m + 1)) _ = _
    generalize lp_ (b_Model_addNumber_47 (nI s)) (m + 1) = rc at stop ⊢
    rw [e_Model_addNumber_47]
    have e : (48 : Int32) + ((nI s / nI (10 ^ 0)) - (nI s / nI (10 ^ 0)) / (10 : Int32) * (10 : Int32)) = nI (48 + s % 10) := by
      rw [pk_div (by omega) (by decide) (by decide), Nat.pow_zero, Nat.div_one, show (10 : Int32) = nI 10 from rfl, pk_rem (by omega) (by omega) (by omega)]
      exact nI_add 48 _
    rw [e]
    exact ifn (by decide) (ifn (by decide) (bnd y1 stop))
  | succ j ih =>
    intro m P p L hj hm hl h
    obtain ⟨m, rfl⟩ : ∃ j, m = j + 1 := ⟨m - 1, by omega⟩
    have hp : 10 ^ (j + 1) < 2 ^ 31 := Nat.lt_of_le_of_lt (pw_le (b := 10) (by omega) (show j + 1 ≤ 3 by omega)) (by decide)
    have hp0 := pw_pos (b := 10) (by omega) (j + 1)
    obtain ⟨s1, y1, y2⟩ := mo_add h (48 + s / 10 ^ (j + 1) % 10) (by omega)
    obtain ⟨s2, z1, z2⟩ := ih m s1.2 s1.1 _ (by omega) (by omega) (by rw [List.length_append]; show L.length + 1 + j + 1 ≤ 4000; omega) y2
    refine ⟨s2, ?_, ?_⟩
    · show b_Model_addNumber_47 (nI s) (lp_ (b_Model_addNumber_47 (nI s)) m) _ = _
      generalize lp_ (b_Model_addNumber_47 (nI s)) m = rc at z1 ⊢
      rw [e_Model_addNumber_47]
      have e : (48 : Int32) + ((nI s / nI (10 ^ (j + 1))) - (nI s / nI (10 ^ (j + 1))) / (10 : Int32) * (10 : Int32)) = nI (48 + s / 10 ^ (j + 1) % 10) := by
        have hdl : s / 10 ^ (j + 1) ≤ s := Nat.div_le_self _ _
        rw [pk_div (by omega) hp0 hp, show (10 : Int32) = nI 10 from rfl, pk_rem (by omega) (by omega) (by omega)]
        exact nI_add 48 _
      have e2 : nI (10 ^ (j + 1)) / (10 : Int32) = nI (10 ^ j) := by
        rw [show (10 : Int32) = nI 10 from rfl, pk_div hp (by omega) (by omega), Nat.pow_succ, Nat.mul_div_cancel _ (by omega)]
      rw [e, e2]
      exact ifn (nI_nle hp0 hp) (ifn (qne 0 (by omega)) (bnd y1 z1))
    · rw [List.append_assoc] at z2
      exact z2
theorem mn_unit {s least : Nat} (hs : s < 10000) (hl : least = 1 ∨ least = 2) (P : Nat → Int32) (p : Int32) : k_Model_addNumber_10 5000 (nI least) (nI s) p P = lp_ (b_Model_addNumber_47 (nI s)) 5000 (nI (10 ^ jj s least), p, P) := by
  have step : ∀ (m q : Nat), 0 < q → q < 100000 → 9 < s / q → lp_ (b_Model_addNumber_24 5000 (nI s) p P) (m + 1) (nI q) = lp_ (b_Model_addNumber_24 5000 (nI s) p P) m (nI (10 * q)) := by
    intro m q hq hq2 h
    have hle := Nat.div_le_self s q
    show b_Model_addNumber_24 5000 (nI s) p P (lp_ (b_Model_addNumber_24 5000 (nI s) p P) m) _ = _
    generalize lp_ (b_Model_addNumber_24 5000 (nI s) p P) m = rc
    rw [e_Model_addNumber_24]
    rw [pk_div (by omega) hq (by omega), show (10 : Int32) * nI q = nI (10 * q) from pk_mul 10 q]
    exact ifn (qne 0 (by omega)) (ifn (qnle 9 h) rfl)
  have stop : ∀ (m q : Nat), 0 < q → q < 100000 → s / q ≤ 9 → lp_ (b_Model_addNumber_24 5000 (nI s) p P) (m + 1) (nI q) = lp_ (b_Model_addNumber_47 (nI s)) 5000 (nI q, p, P) := by
    intro m q hq hq2 h
    show b_Model_addNumber_24 5000 (nI s) p P (lp_ (b_Model_addNumber_24 5000 (nI s) p P) m) _ = _
    generalize lp_ (b_Model_addNumber_24 5000 (nI s) p P) m = rc
    rw [e_Model_addNumber_24]
    rw [pk_div (by omega) hq (by omega)]
    exact ifn (qne 0 (by omega)) (ifp (qle 9 h) rfl)
  have from10 : ∀ m, ¬ (s < 10 ∧ least = 1) → lp_ (b_Model_addNumber_24 5000 (nI s) p P) (m + 3) (nI 10) = lp_ (b_Model_addNumber_47 (nI s)) 5000 (nI (10 ^ jj s least), p, P) := by
    intro m c1
    unfold jj
    rw [if_neg c1]
    by_cases c2 : s < 100
    · rw [if_pos c2]
      exact stop (m + 2) 10 (by omega) (by omega) (by omega)
    · rw [if_neg c2]
      refine Eq.trans (step (m + 2) 10 (by omega) (by omega) (by omega)) ?_
      by_cases c3 : s < 1000
      · rw [if_pos c3]
        exact stop (m + 1) 100 (by omega) (by omega) (by omega)
      · rw [if_neg c3]
        refine Eq.trans (step (m + 1) 100 (by omega) (by omega) (by omega)) ?_
        exact stop m 1000 (by omega) (by omega) (by omega)
  unfold k_Model_addNumber_10 k_Model_addNumber_22
  try dsimp only
  rcases hl with rfl | rfl
  · refine ifp (by decide) ?_
    by_cases c1 : s < 10 ∧ (1 : Nat) = 1
    · unfold jj
      rw [if_pos c1]
      exact stop 4999 1 (by omega) (by omega) (by omega)
    · refine Eq.trans (step 4999 1 (by omega) (by omega) (by omega)) ?_
      exact from10 4996 c1
  · refine ifn (by decide) ?_
    exact from10 4997 (by omega)
theorem mo_number {z : Int} {least : Nat} (hz : -10000 < z ∧ z < 10000) (hle : least = 1 ∨ least = 2) {P : Nat → Int32} {p : Int32} {L : List Nat} (h : pcOK P p L) (hl : L.length + 4 ≤ 4000) : ∃ s : Int32 × (Nat → Int32), f_Model_addNumber 5000 P p (iI z) (nI least) = some s ∧ pcOK s.2 s.1 (L ++ pl z.natAbs (jj z.natAbs least)) := by
  have hj := jj_le z.natAbs least
  obtain ⟨s, y1, y2⟩ := mn_digits (s := z.natAbs) (by omega) (jj z.natAbs least) 5000 P p L hj (by omega) (by omega) h
  refine ⟨s, ?_, y2⟩
  rw [← mn_unit (by omega) hle] at y1
  unfold f_Model_addNumber
  by_cases hn : z < 0
  · refine ifn (inle 0 z hn) ?_
    rw [iI_neg, show iI (-z) = nI z.natAbs from by rw [← iI_nat]; congr 1; omega]
    exact y1
  · refine ifp (ile 0 z (by omega)) ?_
    rw [show iI z = nI z.natAbs from by rw [← iI_nat]; congr 1; omega]
    exact y1
theorem mo_group {fl : Int32} {P : Nat → Int32} {p : Int32} {L : List Nat} {k n : Nat} (hk : k < n) (hn : n < 3000) (h : pcOK P p L) (hl : L.length < 4000) : ∃ s : Int32 × (Nat → Int32), f_Model_group fl P p (nI k) (nI n) = some s ∧ pcOK s.2 s.1 (L ++ (if hA fl 32 = true ∧ 0 < n - 1 - k ∧ (n - 1 - k) % 3 = 0 then [44] else [])) := by
  have nil : pcOK P p (L ++ []) := by rw [List.append_nil]; exact h
  unfold f_Model_group
  have e1 : nI n - (1 : Int32) = nI (n - 1) := pk_sub (b := 1) (by omega)
  rw [e1, pk_sub (show k ≤ n - 1 by omega), show (3 : Int32) = nI 3 from rfl, pk_rem (by omega) (by omega) (by omega)]
  cases hb : hA fl 32 with
  | false =>
    rw [if_neg (show ¬ (false = true ∧ 0 < n - 1 - k ∧ (n - 1 - k) % 3 = 0) from fun z => by cases z.1)]
    exact ⟨(p, P), bnd (mo_anyT hb) (ifp rfl rfl), nil⟩
  | true =>
    by_cases h1 : 0 < n - 1 - k
    · by_cases h2 : (n - 1 - k) % 3 = 0
      · rw [if_pos (show true = true ∧ 0 < n - 1 - k ∧ (n - 1 - k) % 3 = 0 from ⟨rfl, h1, h2⟩)]
        obtain ⟨s1, y1, y2⟩ := mo_add h 44 hl
        exact ⟨s1, bnd (mo_anyT hb) (ifn (by decide) (ifn (nI_ge (by omega) (by omega)) (ifp (qeq 0 h2) (bnd y1 rfl)))), y2⟩
      · rw [if_neg (show ¬ (true = true ∧ 0 < n - 1 - k ∧ (n - 1 - k) % 3 = 0) from fun z => h2 z.2.2)]
        exact ⟨(p, P), bnd (mo_anyT hb) (ifn (by decide) (ifn (nI_ge (by omega) (by omega)) (ifn (qne 0 h2) rfl))), nil⟩
    · rw [if_neg (show ¬ (true = true ∧ 0 < n - 1 - k ∧ (n - 1 - k) % 3 = 0) from fun z => h1 z.2.1)]
      exact ⟨(p, P), bnd (mo_anyT hb) (ifn (by decide) (ifp (nI_le (by omega) (by omega)) rfl)), nil⟩
theorem mo_begin (fl : Int32) (P : Nat → Int32) (hd : Int32) (below : Bool) : ∃ s : Int32 × Int32 × (Nat → Int32), f_Model_begin fl P hd (bI below) = some s ∧ pcOK s.2.2 s.1 (sgn below fl) ∧ s.2.1 = nI (sgn below fl).length := by
  have h0 : pcOK P 0 [] := ⟨rfl, by show 0 ≤ 4000; omega, fun j hj => absurd hj (Nat.not_lt_zero j)⟩
  have one : ∀ c : Nat, ∃ s : Int32 × Int32 × (Nat → Int32), ((f_Model_add P 0 (nI c)).bind fun u_26 => k_Model_begin_64 u_26.1 hd u_26.2) = some s ∧ pcOK s.2.2 s.1 [c] ∧ s.2.1 = nI 1 := by
    intro c
    obtain ⟨s1, y1, y2⟩ := mo_add h0 c (by show 0 < 4000; omega)
    exact ⟨(s1.1, s1.1, s1.2), bnd y1 rfl, y2, y2.1⟩
  unfold f_Model_begin k_Model_begin_26 sgn
  try dsimp only
  cases below with
  | true =>
    rw [if_pos rfl]
    cases hb : hA fl 64 with
    | true =>
      obtain ⟨s, q1, q2⟩ := one 40
      exact ⟨s, ifn (by decide) (bnd (mo_anyT hb) (ifn (by decide) q1)), q2⟩
    | false =>
      obtain ⟨s, q1, q2⟩ := one 45
      exact ⟨s, ifn (by decide) (bnd (mo_anyT hb) (ifp rfl q1)), q2⟩
  | false =>
    rw [if_neg (show ¬ false = true by decide)]
    cases h4 : hA fl 4 with
    | true =>
      rw [if_pos rfl]
      obtain ⟨s, q1, q2⟩ := one 43
      exact ⟨s, ifp rfl (bnd (mo_anyT h4) (ifn (by decide) q1)), q2⟩
    | false =>
      rw [if_neg (show ¬ false = true by decide)]
      cases h8 : hA fl 8 with
      | true =>
        rw [if_pos rfl]
        obtain ⟨s, q1, q2⟩ := one 32
        exact ⟨s, ifp rfl (bnd (mo_anyT h4) (ifp rfl (bnd (mo_anyT h8) (ifn (by decide) q1)))), q2⟩
      | false =>
        rw [if_neg (show ¬ false = true by decide)]
        exact ⟨(0, 0, P), ifp rfl (bnd (mo_anyT h4) (ifp rfl (bnd (mo_anyT h8) (ifp rfl rfl)))), h0, rfl⟩
