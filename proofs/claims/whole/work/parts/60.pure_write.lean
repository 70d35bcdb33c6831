theorem and255 (n : Nat) : nI n &&& 255 = nI (n % 2 ^ 8) := by
  rw [pk_and (nI n) (m := 255) 8 (by decide)]
  congr 1
  show n % 2 ^ 32 % 2 ^ 8 = n % 2 ^ 8
  omega
def gdB (V : Nat) : Nat → Bool
  | 0 => true
  | k + 1 => decide (V / 2 ^ (8 * k) % 2 ^ 8 ≤ 126) && gdB V k
theorem by_sh {V k : Nat} (hV : V < 2 ^ 64) (hk : k < 8) : ((((lN V).toUInt64 >>> ((nI (8 * k)).toInt64.toUInt64 &&& Int64.toUInt64 63)).toInt64).toInt32 &&& (255 : Int32)) = nI (V / 2 ^ (8 * k) % 2 ^ 8) := by
  rw [wb_shr hV (by omega), lN_i, and255]
theorem byL_ch {V : Nat} : ∀ (k : Nat), gdB V k = true → ∀ c ∈ byL V k, 0 < c ∧ c < 127
  | 0, _, c, hc => by cases hc
  | k + 1, h, c, hc => by
    obtain ⟨h1, h2⟩ := (Bool.and_eq_true _ _).mp h
    have h1 := of_decide_eq_true h1
    have hc : c ∈ (if V / 2 ^ (8 * k) % 2 ^ 8 = 0 then [] else [V / 2 ^ (8 * k) % 2 ^ 8]) ++ byL V k := hc
    rcases List.mem_append.mp hc with hc | hc
    · by_cases h0 : V / 2 ^ (8 * k) % 2 ^ 8 = 0
      · rw [if_pos h0] at hc
        cases hc
      · rw [if_neg h0] at hc
        rw [List.mem_singleton.mp hc]
        omega
    · exact byL_ch k h2 c hc
theorem de_wr1 {V : Nat} (hV : V < 2 ^ 64) {n : Nat} (u b : Int32) (f : Nat → Int32) : ∀ (k m acc : Nat), k ≤ 8 → k < m → lp_ (b_Desk_write_6 5000 n (lN V) u b f) m (nI acc, iI (8 * (k : Int) - 8)) = (if gdB V k = true then (if u + nI (acc + (byL V k).length) ≤ 400 then lp_ (b_Desk_write_71 n (lN V)) 5000 (56, u, b, f) else some (0, u, b, f)) else some (0, u, b, f)) := by
  intro k
  induction k with
  | zero =>
    intro m acc hk hm
    obtain ⟨m, rfl⟩ : ∃ j, m = j + 1 := ⟨m - 1, by omega⟩
    show b_Desk_write_6 5000 n (lN V) u b f (lp_ (b_Desk_write_6 5000 n (lN V) u b f) m) _ = _
    rw [e_Desk_write_6]
    rw [if_pos (show gdB V 0 = true from rfl)]
    exact ifp (by decide) rfl
  | succ k ih =>
    intro m acc hk hm
    obtain ⟨m, rfl⟩ : ∃ j, m = j + 1 := ⟨m - 1, by omega⟩
    have hi := fun a => ih m a (by omega) (by omega)
    have hb : V / 2 ^ (8 * k) % 2 ^ 8 < 2 ^ 8 := Nat.mod_lt _ (by decide)
    have es : iI (8 * ((k + 1 : Nat) : Int) - 8) = nI (8 * k) := by
      rw [← iI_nat]
      congr 1
      omega
    have en : nI (8 * k) + (-8 : Int32) = iI (8 * (k : Int) - 8) := by
      rw [← iI_nat, show (-8 : Int32) = iI (-8) from rfl, iI_add]
      congr 1
    have eg : gdB V (k + 1) = (decide (V / 2 ^ (8 * k) % 2 ^ 8 ≤ 126) && gdB V k) := rfl
    have el : (byL V (k + 1)).length = (if V / 2 ^ (8 * k) % 2 ^ 8 = 0 then 0 else 1) + (byL V k).length := by
      show ((if V / 2 ^ (8 * k) % 2 ^ 8 = 0 then [] else [V / 2 ^ (8 * k) % 2 ^ 8]) ++ byL V k).length = _
      rw [List.length_append]
      by_cases h : V / 2 ^ (8 * k) % 2 ^ 8 = 0
      · rw [if_pos h, if_pos h]; rfl
      · rw [if_neg h, if_neg h]; rfl
    show b_Desk_write_6 5000 n (lN V) u b f (lp_ (b_Desk_write_6 5000 n (lN V) u b f) m) _ = _
    generalize lp_ (b_Desk_write_6 5000 n (lN V) u b f) m = rc at hi ⊢
    rw [e_Desk_write_6]
    unfold k_Desk_write_42
    rw [es, by_sh hV (by omega), en, eg, el]
    refine ifn (nI_pos (by omega)) ?_
    by_cases h1 : V / 2 ^ (8 * k) % 2 ^ 8 ≤ 126
    · rw [decide_eq_true h1, Bool.true_and]
      refine ifp (qle 126 h1) ?_
      by_cases h0 : V / 2 ^ (8 * k) % 2 ^ 8 = 0
      · rw [if_pos h0, Nat.zero_add]
        refine ifp (qeq 0 h0) ?_
        rw [show nI acc + (0 : Int32) = nI acc from nI_add acc 0]
        exact hi acc
      · rw [if_neg h0, ← Nat.add_assoc]
        refine ifn (qne 0 h0) ?_
        rw [show nI acc + (1 : Int32) = nI (acc + 1) from nI_1 acc]
        exact hi (acc + 1)
    · rw [decide_eq_false h1, Bool.false_and, if_neg (show ¬ false = true by decide)]
      exact ifn (qnle 126 (by omega)) rfl
theorem de_wr2 {V : Nat} (hV : V < 2 ^ 64) (hg : gdB V 8 = true) : ∀ (k m : Nat) (f : Nat → Int32) (u b : Int32) (D : List Nat), k ≤ 8 → k < m → D.length + (byL V k).length ≤ 400 → rowOK 400 f u D → gdB V k = true → ∃ s : Int32 × Int32 × (Nat → Int32), lp_ (b_Desk_write_71 400 (lN V)) m (iI (8 * (k : Int) - 8), u, b, f) = some (1, s.1, s.2.1, s.2.2) ∧ rowOK 400 s.2.2 s.1 (D ++ byL V k) := by
  intro k
  induction k with
  | zero =>
    intro m f u b D hk hm hl h _
    obtain ⟨m, rfl⟩ : ∃ j, m = j + 1 := ⟨m - 1, by omega⟩
    refine ⟨(u, b, f), ?_, ?_⟩
    · show b_Desk_write_71 400 (lN V) (lp_ (b_Desk_write_71 400 (lN V)) m) _ = _
      rw [e_Desk_write_71]
      exact ifp (by decide) rfl
    · show rowOK 400 f u (D ++ [])
      rw [List.append_nil]
      exact h
  | succ k ih =>
    intro m f u b D hk hm hl h hgk
    obtain ⟨m, rfl⟩ : ∃ j, m = j + 1 := ⟨m - 1, by omega⟩
    obtain ⟨g1, g2⟩ := (Bool.and_eq_true _ _).mp hgk
    have g1 := of_decide_eq_true g1
    have es : iI (8 * ((k + 1 : Nat) : Int) - 8) = nI (8 * k) := by
      rw [← iI_nat]
      congr 1
      omega
    have en : nI (8 * k) + (-8 : Int32) = iI (8 * (k : Int) - 8) := by
      rw [← iI_nat, show (-8 : Int32) = iI (-8) from rfl, iI_add]
      congr 1
    have hl2 : D.length + ((if V / 2 ^ (8 * k) % 2 ^ 8 = 0 then [] else [V / 2 ^ (8 * k) % 2 ^ 8]).length + (byL V k).length) ≤ 400 := by rw [← List.length_append]; exact hl
    show ∃ s : Int32 × Int32 × (Nat → Int32), b_Desk_write_71 400 (lN V) (lp_ (b_Desk_write_71 400 (lN V)) m) (iI (8 * ((k + 1 : Nat) : Int) - 8), u, b, f) = some (1, s.1, s.2.1, s.2.2) ∧ rowOK 400 s.2.2 s.1 (D ++ ((if V / 2 ^ (8 * k) % 2 ^ 8 = 0 then [] else [V / 2 ^ (8 * k) % 2 ^ 8]) ++ byL V k))
    rw [es]
    by_cases h0 : V / 2 ^ (8 * k) % 2 ^ 8 = 0
    · rw [if_pos h0] at hl2
      obtain ⟨s, z1, z2⟩ := ih m f u b D (by omega) (by omega) (by have : D.length + (0 + (byL V k).length) ≤ 400 := hl2; omega) h g2
      refine ⟨s, ?_, ?_⟩
      · generalize lp_ (b_Desk_write_71 400 (lN V)) m = rc at z1 ⊢
        rw [e_Desk_write_71]
        unfold k_Desk_write_101
        rw [by_sh hV (by omega), en]
        exact ifn (nI_pos (by omega)) (ifp (qeq 0 h0) z1)
      · rw [if_pos h0]
        exact z2
    · rw [if_neg h0] at hl2
      have hl3 : D.length + (1 + (byL V k).length) ≤ 400 := hl2
      obtain ⟨s1, y1, y2⟩ := ro_add (c := V / 2 ^ (8 * k) % 2 ^ 8) b h (by omega) (by omega)
      obtain ⟨s, z1, z2⟩ := ih m s1.2.2 s1.1 s1.2.1 _ (by omega) (by omega) (by rw [List.length_append]; show D.length + 1 + _ ≤ 400; omega) y2 g2
      refine ⟨s, ?_, ?_⟩
      · generalize lp_ (b_Desk_write_71 400 (lN V)) m = rc at z1 ⊢
        rw [e_Desk_write_71]
        unfold k_Desk_write_101
        rw [by_sh hV (by omega), en]
        exact ifn (nI_pos (by omega)) (ifn (qne 0 h0) (bnd y1 z1))
      · rw [if_neg h0]
        rw [List.append_assoc] at z2
        exact z2
theorem mo_wr1 {V : Nat} (hV : V < 2 ^ 64) (u : Int32) (f : Nat → Int32) : ∀ (d k m : Nat), k + d = 8 → d < m → lp_ (b_Model_write_8 5000 (lN V) u f) m (nI (byL V k).length, bI (gdB V k), nI k) = (if gdB V 8 = true then (if u + nI (byL V 8).length ≤ 400 then lp_ (b_Model_write_90 (lN V)) 5000 (7, u, f) else some (0, u, f)) else some (0, u, f)) := by
  intro d
  induction d with
  | zero =>
    intro k m hk hm
    obtain ⟨m, rfl⟩ : ∃ j, m = j + 1 := ⟨m - 1, by omega⟩
    obtain rfl : k = 8 := by omega
    show b_Model_write_8 5000 (lN V) u f (lp_ (b_Model_write_8 5000 (lN V) u f) m) _ = _
    rw [e_Model_write_8]
    refine ifp (by decide) ?_
    cases gdB V 8 with
    | true =>
      rw [if_pos rfl]
      exact ifn (by decide) rfl
    | false =>
      rw [if_neg (show ¬ false = true by decide)]
      exact ifp rfl rfl
  | succ d ih =>
    intro k m hk hm
    obtain ⟨m, rfl⟩ : ∃ j, m = j + 1 := ⟨m - 1, by omega⟩
    have hi := ih (k + 1) m (by omega) (by omega)
    have hb : V / 2 ^ (8 * k) % 2 ^ 8 < 2 ^ 8 := Nat.mod_lt _ (by decide)
    have eg : gdB V (k + 1) = (decide (V / 2 ^ (8 * k) % 2 ^ 8 ≤ 126) && gdB V k) := rfl
    have el : nI (byL V (k + 1)).length = (if V / 2 ^ (8 * k) % 2 ^ 8 = 0 then nI (byL V k).length + 0 else nI (byL V k).length + 1) := by
      show nI ((if V / 2 ^ (8 * k) % 2 ^ 8 = 0 then [] else [V / 2 ^ (8 * k) % 2 ^ 8]) ++ byL V k).length = _
      rw [List.length_append]
      by_cases h : V / 2 ^ (8 * k) % 2 ^ 8 = 0
      · rw [if_pos h, if_pos h, show nI (byL V k).length + (0 : Int32) = nI (byL V k).length from nI_add _ 0]
        congr 1
        exact Nat.zero_add _
      · rw [if_neg h, if_neg h, nI_1]
        congr 1
        exact Nat.add_comm _ _
    rw [← hi]
    show b_Model_write_8 5000 (lN V) u f (lp_ (b_Model_write_8 5000 (lN V) u f) m) _ = _
    generalize lp_ (b_Model_write_8 5000 (lN V) u f) m = rc
    have fin : ∀ y : Int32, y = bI (gdB V (k + 1)) → k_Model_write_46 rc (nI (byL V k).length) (nI k) (nI (V / 2 ^ (8 * k) % 2 ^ 8)) y = rc (nI (byL V (k + 1)).length, bI (gdB V (k + 1)), nI (k + 1)) := by
      intro y hy
      unfold k_Model_write_46 k_Model_write_59
      try dsimp only
      rw [nI_1, hy, el]
      by_cases h0 : V / 2 ^ (8 * k) % 2 ^ 8 = 0
      · rw [if_pos h0]
        exact ifp (qle 0 (by omega)) rfl
      · rw [if_neg h0]
        exact ifn (qnle 0 (by omega)) rfl
    rw [e_Model_write_8]
    unfold k_Model_write_45
    rw [by_k hV (by omega), lN_i]
    refine ifn (rnle 8 (by omega)) ?_
    cases hg : gdB V k with
    | false =>
      refine ifp rfl (fin 0 ?_)
      rw [eg, hg, Bool.and_false]
      rfl
    | true =>
      refine ifn (by decide) ?_
      by_cases h1 : V / 2 ^ (8 * k) % 2 ^ 8 ≤ 126
      · refine ifn (rnle 127 (by omega)) (fin 1 ?_)
        rw [eg, hg, decide_eq_true h1]
        rfl
      · refine ifp (rle 127 (by omega)) (fin 0 ?_)
        rw [eg, decide_eq_false h1]
        rfl
theorem mo_wr2 {V : Nat} (hV : V < 2 ^ 64) : ∀ (k m : Nat) (f : Nat → Int32) (u : Int32) (D : List Nat), k ≤ 8 → k < m → D.length + (byL V k).length ≤ 400 → dfOK f u D → ∃ s : Int32 × (Nat → Int32), lp_ (b_Model_write_90 (lN V)) m (iI ((k : Int) - 1), u, f) = some (1, s.1, s.2) ∧ dfOK s.2 s.1 (D ++ byL V k) := by
  intro k
  induction k with
  | zero =>
    intro m f u D hk hm hl h
    obtain ⟨m, rfl⟩ : ∃ j, m = j + 1 := ⟨m - 1, by omega⟩
    refine ⟨(u, f), ?_, ?_⟩
    · show b_Model_write_90 (lN V) (lp_ (b_Model_write_90 (lN V)) m) _ = _
      rw [e_Model_write_90]
      exact ifp (by decide) rfl
    · show dfOK f u (D ++ [])
      rw [List.append_nil]
      exact h
  | succ k ih =>
    intro m f u D hk hm hl h
    obtain ⟨m, rfl⟩ : ∃ j, m = j + 1 := ⟨m - 1, by omega⟩
    obtain ⟨hu, h1, h2⟩ := id h
    have ei : iI (((k + 1 : Nat) : Int) - 1) = nI k := by
      rw [← iI_nat]
      congr 1
      omega
    have e1 : nI k + (-1 : Int32) = iI ((k : Int) - 1) := by rw [← iI_nat, show (-1 : Int32) = iI (-1) from rfl, iI_add]; rfl
    have hb : V / 2 ^ (8 * k) % 2 ^ 8 < 2 ^ 8 := Nat.mod_lt _ (by decide)
    have hl2 : D.length + ((if V / 2 ^ (8 * k) % 2 ^ 8 = 0 then [] else [V / 2 ^ (8 * k) % 2 ^ 8]).length + (byL V k).length) ≤ 400 := by rw [← List.length_append]; exact hl
    show ∃ s : Int32 × (Nat → Int32), b_Model_write_90 (lN V) (lp_ (b_Model_write_90 (lN V)) m) (iI (((k + 1 : Nat) : Int) - 1), u, f) = some (1, s.1, s.2) ∧ dfOK s.2 s.1 (D ++ ((if V / 2 ^ (8 * k) % 2 ^ 8 = 0 then [] else [V / 2 ^ (8 * k) % 2 ^ 8]) ++ byL V k))
    rw [ei]
    by_cases h0 : V / 2 ^ (8 * k) % 2 ^ 8 = 0
    · rw [if_pos h0] at hl2
      obtain ⟨s, z1, z2⟩ := ih m f u D (by omega) (by omega) (by have : D.length + (0 + (byL V k).length) ≤ 400 := hl2; omega) h
      refine ⟨s, ?_, ?_⟩
      · generalize lp_ (b_Model_write_90 (lN V)) m = rc at z1 ⊢
        rw [e_Model_write_90]
        unfold k_Model_write_138
        rw [by_k hV (by omega), lN_i, e1]
        exact ifn (nI_pos (by omega)) (ifp (qeq 0 h0) z1)
      · rw [if_pos h0]
        exact z2
    · rw [if_neg h0] at hl2
      have hl3 : D.length + (1 + (byL V k).length) ≤ 400 := hl2
      have hl4 : (D ++ [V / 2 ^ (8 * k) % 2 ^ 8]).length = D.length + 1 := by rw [List.length_append]; rfl
      have hnew : dfOK (upd f D.length (nI (V / 2 ^ (8 * k) % 2 ^ 8))) (nI (D.length + 1)) (D ++ [V / 2 ^ (8 * k) % 2 ^ 8]) := by
        refine ⟨by rw [hl4], by rw [hl4]; omega, fun j hj => ?_⟩
        rw [hl4] at hj
        by_cases e : j = D.length
        · subst e
          rw [pk_us, lk_app2 (Nat.le_refl _), Nat.sub_self]
          rfl
        · rw [pk_un e, lk_app1 (by omega), h2 j (by omega)]
      obtain ⟨s, z1, z2⟩ := ih m _ _ _ (by omega) (by omega) (by rw [hl4]; omega) hnew
      refine ⟨s, ?_, ?_⟩
      · generalize lp_ (b_Model_write_90 (lN V)) m = rc at z1 ⊢
        rw [e_Model_write_90]
        unfold k_Model_write_138
        rw [by_k hV (by omega), lN_i, e1, hu]
        refine ifn (nI_pos (by omega)) (ifn (qne 0 h0) (ifp (inB_n (by omega)) ?_))
        rw [nI_clamp (by omega), show nI D.length + (1 : Int32) = nI (D.length + 1) from nI_1 _]
        exact z1
      · rw [if_neg h0]
        rw [List.append_assoc] at z2
        exact z2
theorem wr_both {V : Nat} (hV : V < 2 ^ 64) {dc md : Nat → Int32} {du db mu : Int32} {D : List Nat} (h1 : rowOK 400 dc du D) (h2 : dfOK md mu D) (hc : chOK D) : ∃ (o : Int32) (D' : List Nat) (s : Int32 × Int32 × (Nat → Int32)) (t : Int32 × (Nat → Int32)), f_Desk_write 5000 400 dc du db (lN V) = some (o, s.1, s.2.1, s.2.2) ∧ f_Model_write 5000 md mu (lN V) = some (o, t.1, t.2) ∧ rowOK 400 s.2.2 s.1 D' ∧ dfOK t.2 t.1 D' ∧ chOK D' := by
  have hlen := byL_len V 8
  have hD := hc.1
  have e1 := de_wr1 hV (n := 400) du db dc 8 5000 0 (by omega) (by omega)
  rw [show iI (8 * ((8 : Nat) : Int) - 8) = (56 : Int32) from rfl, Nat.zero_add] at e1
  have e2 := mo_wr1 hV mu md 8 0 5000 (by omega) (by omega)
  have no : (f_Desk_write 5000 400 dc du db (lN V) = some (0, du, db, dc)) → (f_Model_write 5000 md mu (lN V) = some (0, mu, md)) → ∃ (o : Int32) (D' : List Nat) (s : Int32 × Int32 × (Nat → Int32)) (t : Int32 × (Nat → Int32)), f_Desk_write 5000 400 dc du db (lN V) = some (o, s.1, s.2.1, s.2.2) ∧ f_Model_write 5000 md mu (lN V) = some (o, t.1, t.2) ∧ rowOK 400 s.2.2 s.1 D' ∧ dfOK t.2 t.1 D' ∧ chOK D' := fun a b => ⟨0, D, (du, db, dc), (mu, md), a, b, h1, h2, hc⟩
  cases hg : gdB V 8 with
  | false =>
    rw [hg, if_neg (show ¬ false = true by decide)] at e1 e2
    exact no e1 e2
  | true =>
    rw [hg, if_pos rfl, h1.1, nI_add] at e1
    rw [hg, if_pos rfl, h2.1, nI_add] at e2
    by_cases hfit : D.length + (byL V 8).length ≤ 400
    · rw [if_pos (show nI (D.length + (byL V 8).length) ≤ 400 from qle 400 hfit)] at e1 e2
      obtain ⟨s, a1, a2⟩ := de_wr2 hV hg 8 5000 dc du db D (by omega) (by omega) hfit h1 hg
      obtain ⟨t, b1, b2⟩ := mo_wr2 hV 8 5000 md mu D (by omega) (by omega) hfit h2
      refine ⟨1, D ++ byL V 8, s, t, ?_, ?_, a2, b2, ?_, ?_⟩
      · rw [← h1.1] at e1
        exact Eq.trans e1 a1
      · rw [← h2.1] at e2
        exact Eq.trans e2 b1
      · rw [List.length_append]
        exact hfit
      · intro c hcm
        rcases List.mem_append.mp hcm with q | q
        · exact hc.2 c q
        · exact byL_ch 8 hg c q
    · rw [if_neg (show ¬ nI (D.length + (byL V 8).length) ≤ 400 from qnle 400 (by omega))] at e1 e2
      rw [← h1.1] at e1
      rw [← h2.1] at e2
      exact no e1 e2
