def lk (D : List Nat) (k : Nat) : Nat := D.getD k 0
def dgB (c : Nat) : Bool := decide (48 ≤ c) && decide (c ≤ 57)
theorem dg_iff {c : Nat} : dgB c = true ↔ 48 ≤ c ∧ c ≤ 57 := by
  unfold dgB
  rw [Bool.and_eq_true, decide_eq_true_eq, decide_eq_true_eq]
def dRun : List Nat → Nat
  | [] => 0
  | c :: cs => if dgB c = true then dRun cs + 1 else 0
def dE (D : List Nat) (k : Nat) : Nat := k + dRun (D.drop k)
theorem lk_out {D : List Nat} {k : Nat} (h : D.length ≤ k) : lk D k = 0 := by
  unfold lk
  rw [List.getD_eq_getElem?_getD, List.getElem?_eq_none h]
  rfl
theorem lk_in {D : List Nat} {k : Nat} (h : k < D.length) : lk D k = D[k] := by
  unfold lk
  rw [List.getD_eq_getElem?_getD, List.getElem?_eq_getElem h]
  rfl
theorem lk_mem {D : List Nat} {k : Nat} (h : k < D.length) : lk D k ∈ D := by
  rw [lk_in h]
  exact List.getElem_mem h
theorem lk_drop {D : List Nat} {k : Nat} (h : k < D.length) : D.drop k = lk D k :: D.drop (k + 1) := by
  rw [lk_in h]
  exact List.drop_eq_getElem_cons h
theorem drop_out {D : List Nat} {k : Nat} (h : D.length ≤ k) : D.drop k = [] := List.drop_eq_nil_iff.mpr h
theorem dg_in {D : List Nat} {k : Nat} (h : dgB (lk D k) = true) : k < D.length := by
  by_cases hk : k < D.length
  · exact hk
  · rw [lk_out (by omega)] at h
    cases h
theorem dE_step {D : List Nat} {k : Nat} (h : dgB (lk D k) = true) : dE D k = dE D (k + 1) := by
  unfold dE
  rw [lk_drop (dg_in h)]
  show k + (if dgB (lk D k) = true then dRun (D.drop (k + 1)) + 1 else 0) = _
  rw [if_pos h]
  omega
theorem dE_stop {D : List Nat} {k : Nat} (h : ¬ dgB (lk D k) = true) : dE D k = k := by
  unfold dE
  by_cases hk : k < D.length
  · rw [lk_drop hk]
    show k + (if dgB (lk D k) = true then dRun (D.drop (k + 1)) + 1 else 0) = _
    rw [if_neg h]
    rfl
  · rw [drop_out (by omega)]
    rfl
theorem dE_ge (D : List Nat) (k : Nat) : k ≤ dE D k := Nat.le_add_right _ _
theorem dE_eq {D : List Nat} {k : Nat} : dE D k = k + dRun (D.drop k) := rfl
theorem dE_gt {D : List Nat} {k : Nat} (h : dgB (lk D k) = true) : k < dE D k := by
  rw [dE_step h]
  exact dE_ge D (k + 1)
theorem dE_all {D : List Nat} : ∀ (d k : Nat), D.length - k = d → (∀ j, k ≤ j → j < dE D k → dgB (lk D j) = true) ∧ (dE D k ≤ D.length ∨ dE D k = k) := by
  intro d
  induction d with
  | zero =>
    intro k hk
    have e : dE D k = k := by
      unfold dE
      rw [drop_out (by omega)]
      rfl
    rw [e]
    exact ⟨fun j h1 h2 => by omega, Or.inr rfl⟩
  | succ d ih =>
    intro k hk
    by_cases h : dgB (lk D k) = true
    · obtain ⟨h1, h2⟩ := ih (k + 1) (by omega)
      rw [dE_step h]
      refine ⟨fun j g1 g2 => ?_, ?_⟩
      · by_cases hj : j = k
        · subst hj
          exact h
        · exact h1 j (by omega) g2
      · rcases h2 with h2 | h2
        · exact Or.inl h2
        · exact Or.inl (by rw [h2]; have := dg_in h; omega)
    · rw [dE_stop h]
      exact ⟨fun j h1 h2 => by omega, Or.inr rfl⟩
theorem dE_dig {D : List Nat} {k j : Nat} (h1 : k ≤ j) (h2 : j < dE D k) : dgB (lk D j) = true := (dE_all _ k rfl).1 j h1 h2
theorem dE_le {D : List Nat} {k : Nat} : dE D k ≤ D.length ∨ dE D k = k := (dE_all _ k rfl).2
def nm (D : List Nat) : Nat → Nat → Nat → Nat
  | 0, _, v => v
  | n + 1, a, v => nm D n (a + 1) (min 1000 (v * 10 + lk D a - 48))
theorem nm_le (D : List Nat) : ∀ (n a v : Nat), v ≤ 1000 → nm D n a v ≤ 1000
  | 0, _, _, h => h
  | n + 1, a, v, h => nm_le D n (a + 1) _ (Nat.min_le_left _ _)
def nmE (D : List Nat) (k : Nat) : Nat := nm D (dRun (D.drop k)) k 0
theorem nmE_le (D : List Nat) (k : Nat) : nmE D k ≤ 1000 := nm_le D _ _ _ (by omega)
def chOK (D : List Nat) : Prop := D.length ≤ 400 ∧ ∀ c ∈ D, 0 < c ∧ c < 127
theorem lk_lt {D : List Nat} (h : chOK D) (k : Nat) : lk D k < 127 := by
  by_cases hk : k < D.length
  · exact (h.2 _ (lk_mem hk)).2
  · rw [lk_out (by omega)]
    omega
theorem lk_pos {D : List Nat} (h : chOK D) {k : Nat} (hk : k < D.length) : 0 < lk D k := (h.2 _ (lk_mem hk)).1
def dfOK (f : Nat → Int32) (u : Int32) (D : List Nat) : Prop := u = nI D.length ∧ D.length ≤ 400 ∧ ∀ j, j < D.length → f j = nI (lk D j)
theorem row_out {n : Nat} {f : Nat → Int32} {L : List Nat} {u : Int32} {j : Nat} (h : rowOK n f u L) (hj : L.length ≤ j) (hj2 : j < 2 ^ 31) : f_Row_at n f u (nI j) = some (-1) := by
  obtain ⟨rfl, h1, h2, h3, h4⟩ := h
  unfold f_Row_at
  exact ifn (nI_pos hj2) (ifp (nI_le hj hj2) rfl)
theorem row_lk {n : Nat} {f : Nat → Int32} {L : List Nat} {u : Int32} {j : Nat} (h : rowOK n f u L) (hj : j < L.length) : f_Row_at n f u (nI j) = some (nI (lk L j)) := row_at h hj
theorem mo_look {f : Nat → Int32} {u : Int32} {D : List Nat} {k : Nat} (h : dfOK f u D) (hk : k < 2 ^ 31) : f_Model_look f u (nI k) = some (nI (lk D k)) := by
  obtain ⟨rfl, h1, h2⟩ := h
  unfold f_Model_look
  by_cases h3 : k < D.length
  · refine ifn (nI_ge h3 (by omega)) (ifp (inB_n (by omega)) ?_)
    rw [nI_clamp hk, h2 k h3]
  · refine ifp (nI_le (by omega) hk) ?_
    rw [lk_out (by omega)]
    rfl
theorem mo_isDigit {c : Nat} (h : c < 128) : f_Model_isDigit (nI c) = some (if dgB c = true then 1 else 0) := by
  have key : ∀ c, c < 128 → f_Model_isDigit (nI c) = some (if dgB c = true then 1 else 0) := by decide +kernel
  exact key c h
theorem sp_digitsEnd_l {n : Nat} {f : Nat → Int32} {u : Int32} {D : List Nat} (h : rowOK n f u D) (hD : chOK D) : ∀ (d k m : Nat), D.length - k = d → d < m → k < 2 ^ 30 → lp_ (b_Specifier_digitsEnd_2 n f u) m (nI k) = some (nI (dE D k)) := by
  have hu := h.1
  have hn := h.2.2.1
  intro d
  induction d with
  | zero =>
    intro k m hk hm hb
    obtain ⟨m, rfl⟩ : ∃ j, m = j + 1 := ⟨m - 1, by omega⟩
    show b_Specifier_digitsEnd_2 n f u (lp_ (b_Specifier_digitsEnd_2 n f u) m) _ = _
    unfold b_Specifier_digitsEnd_2
    rw [dE_stop (fun z => by have := dg_in z; omega)]
    exact ifp (rle _ (by omega) hu) rfl
  | succ d ih =>
    intro k m hk hm hb
    obtain ⟨m, rfl⟩ : ∃ j, m = j + 1 := ⟨m - 1, by omega⟩
    have hi := ih (k + 1) m (by omega) (by omega) (by have := hD.1; omega)
    show b_Specifier_digitsEnd_2 n f u (lp_ (b_Specifier_digitsEnd_2 n f u) m) _ = _
    generalize lp_ (b_Specifier_digitsEnd_2 n f u) m = rc at hi ⊢
    unfold b_Specifier_digitsEnd_2
    have hl : k < D.length := by omega
    have hc := lk_lt hD k
    refine ifn (rnle _ hl hu (by have := hD.1; omega)) (bnd (row_lk h hl) ?_)
    by_cases hd : dgB (lk D k) = true
    · rw [dE_step hd]
      have := dg_iff.mp hd
      refine ifn (qnlt 48 (by omega)) (bnd (row_lk h hl) (ifn (rnlt 57 (by omega)) ?_))
      rw [nI_1]
      exact hi
    · rw [dE_stop hd]
      have hd2 : ¬ (48 ≤ lk D k ∧ lk D k ≤ 57) := fun z => hd (dg_iff.mpr z)
      by_cases h48 : lk D k < 48
      · exact ifp (qlt 48 h48) rfl
      · exact ifn (qnlt 48 (by omega)) (bnd (row_lk h hl) (ifp (rlt 57 (by omega)) rfl))
theorem sp_digitsEnd {n : Nat} {f : Nat → Int32} {u : Int32} {D : List Nat} (h : rowOK n f u D) (hD : chOK D) {k : Nat} (hk : k < 2 ^ 30) : f_Specifier_digitsEnd 5000 n f u (nI k) = some (nI (dE D k)) :=
  sp_digitsEnd_l h hD _ k 5000 rfl (by have := hD.1; omega) hk
theorem mo_digitsEnd_l {f : Nat → Int32} {u : Int32} {D : List Nat} (h : dfOK f u D) (hD : chOK D) : ∀ (d k m : Nat), D.length - k = d → d < m → k < 2 ^ 30 → lp_ (b_Model_digitsEnd_2 f u) m (nI k) = some (nI (dE D k)) := by
  intro d
  induction d with
  | zero =>
    intro k m hk hm hb
    obtain ⟨m, rfl⟩ : ∃ j, m = j + 1 := ⟨m - 1, by omega⟩
    show b_Model_digitsEnd_2 f u (lp_ (b_Model_digitsEnd_2 f u) m) _ = _
    unfold b_Model_digitsEnd_2
    have hd : ¬ dgB (lk D k) = true := fun z => by have := dg_in z; omega
    rw [dE_stop hd]
    refine bnd (mo_look h (by omega)) (bnd (mo_isDigit (by have := lk_lt hD k; omega)) ?_)
    rw [if_neg hd]
    exact ifp rfl rfl
  | succ d ih =>
    intro k m hk hm hb
    obtain ⟨m, rfl⟩ : ∃ j, m = j + 1 := ⟨m - 1, by omega⟩
    have hi := ih (k + 1) m (by omega) (by omega) (by have := hD.1; omega)
    show b_Model_digitsEnd_2 f u (lp_ (b_Model_digitsEnd_2 f u) m) _ = _
    generalize lp_ (b_Model_digitsEnd_2 f u) m = rc at hi ⊢
    unfold b_Model_digitsEnd_2
    refine bnd (mo_look h (by omega)) (bnd (mo_isDigit (by have := lk_lt hD k; omega)) ?_)
    by_cases hd : dgB (lk D k) = true
    · rw [dE_step hd, if_pos hd]
      refine ifn (by decide) ?_
      rw [nI_1]
      exact hi
    · rw [dE_stop hd, if_neg hd]
      exact ifp rfl rfl
theorem mo_digitsEnd {f : Nat → Int32} {u : Int32} {D : List Nat} (h : dfOK f u D) (hD : chOK D) {k : Nat} (hk : k < 2 ^ 30) : f_Model_digitsEnd 5000 f u (nI k) = some (nI (dE D k)) :=
  mo_digitsEnd_l h hD _ k 5000 rfl (by have := hD.1; omega) hk
theorem nm_val {v c : Nat} (hc : 48 ≤ c) : (nI v * (10 : Int32) + nI c) - (48 : Int32) = nI (v * 10 + c - 48) := by
  have e1 : nI v * (10 : Int32) = nI (v * 10) := pk_mul v 10
  rw [e1, nI_add]
  exact pk_sub (b := 48) (by omega)
theorem nm_val2 {v c : Nat} (hc : 48 ≤ c) : ((10 : Int32) * nI v + nI c) - (48 : Int32) = nI (v * 10 + c - 48) := by
  have e1 : (10 : Int32) * nI v = nI (v * 10) := by rw [Nat.mul_comm]; exact pk_mul 10 v
  rw [e1, nI_add]
  exact pk_sub (b := 48) (by omega)
theorem sp_numberIn_l {n : Nat} {f : Nat → Int32} {u : Int32} {D : List Nat} (h : rowOK n f u D) (hD : chOK D) {E : Nat} (hE : E < 2 ^ 30) : ∀ (d a v m : Nat), a + d = E → d < m → v ≤ 1000 → (∀ j, a ≤ j → j < E → dgB (lk D j) = true) → lp_ (b_Specifier_numberIn_5 n f u (nI E)) m (nI v, nI a) = some (nI (nm D d a v)) := by
  intro d
  induction d with
  | zero =>
    intro a v m ha hm hv hdig
    obtain ⟨m, rfl⟩ : ∃ j, m = j + 1 := ⟨m - 1, by omega⟩
    show b_Specifier_numberIn_5 n f u (nI E) (lp_ (b_Specifier_numberIn_5 n f u (nI E)) m) _ = _
    unfold b_Specifier_numberIn_5
    exact ifp (nI_le (by omega) (by omega)) rfl
  | succ d ih =>
    intro a v m ha hm hv hdig
    obtain ⟨m, rfl⟩ : ∃ j, m = j + 1 := ⟨m - 1, by omega⟩
    have hi := ih (a + 1) (min 1000 (v * 10 + lk D a - 48)) m (by omega) (by omega) (Nat.min_le_left _ _) (fun j h1 h2 => hdig j (by omega) h2)
    have hd := hdig a (by omega) (by omega)
    have hc := dg_iff.mp hd
    show b_Specifier_numberIn_5 n f u (nI E) (lp_ (b_Specifier_numberIn_5 n f u (nI E)) m) _ = _
    generalize lp_ (b_Specifier_numberIn_5 n f u (nI E)) m = rc at hi ⊢
    unfold b_Specifier_numberIn_5
    refine ifn (nI_ge (by omega) (by omega)) (bnd (row_lk h (dg_in hd)) ?_)
    show rc ((if (nI v * (10 : Int32) + nI (lk D a)) - (48 : Int32) < (1000 : Int32) then (nI v * (10 : Int32) + nI (lk D a)) - (48 : Int32) else (1000 : Int32)), nI a + 1) = _
    rw [nm_val hc.1, nI_1]
    have e : (if nI (v * 10 + lk D a - 48) < (1000 : Int32) then nI (v * 10 + lk D a - 48) else (1000 : Int32)) = nI (min 1000 (v * 10 + lk D a - 48)) := by
      by_cases h1 : v * 10 + lk D a - 48 < 1000
      · rw [Nat.min_eq_right (by omega)]
        exact ifp (qlt 1000 h1) rfl
      · rw [Nat.min_eq_left (by omega)]
        exact ifn (qnlt 1000 (by omega) rfl (by omega)) rfl
    rw [e]
    exact hi
theorem sp_numberIn {n : Nat} {f : Nat → Int32} {u : Int32} {D : List Nat} (h : rowOK n f u D) (hD : chOK D) {k : Nat} (hk : k < 2 ^ 29) : f_Specifier_numberIn 5000 n f u (nI k) (nI (dE D k)) = some (nI (nmE D k)) := by
  have h1 := hD.1
  have h2 := dE_le (D := D) (k := k)
  exact sp_numberIn_l h hD (E := dE D k) (by omega) (dRun (D.drop k)) k 0 5000 rfl (by have : dE D k = k + dRun (D.drop k) := rfl; omega) (by omega) (fun j g1 g2 => dE_dig g1 g2)
theorem mo_said_l {f : Nat → Int32} {u : Int32} {D : List Nat} (h : dfOK f u D) (hD : chOK D) {E : Nat} (hE : E < 2 ^ 30) : ∀ (d a v m : Nat), a + d = E → d < m → v ≤ 1000 → (∀ j, a ≤ j → j < E → dgB (lk D j) = true) → lp_ (b_Model_said_5 f u (nI E)) m (nI v, nI a) = some (nI (nm D d a v)) := by
  intro d
  induction d with
  | zero =>
    intro a v m ha hm hv hdig
    obtain ⟨m, rfl⟩ : ∃ j, m = j + 1 := ⟨m - 1, by omega⟩
    show b_Model_said_5 f u (nI E) (lp_ (b_Model_said_5 f u (nI E)) m) _ = _
    unfold b_Model_said_5
    exact ifp (nI_le (by omega) (by omega)) rfl
  | succ d ih =>
    intro a v m ha hm hv hdig
    obtain ⟨m, rfl⟩ : ∃ j, m = j + 1 := ⟨m - 1, by omega⟩
    have hi := ih (a + 1) (min 1000 (v * 10 + lk D a - 48)) m (by omega) (by omega) (Nat.min_le_left _ _) (fun j h1 h2 => hdig j (by omega) h2)
    have hd := hdig a (by omega) (by omega)
    have hc := dg_iff.mp hd
    show b_Model_said_5 f u (nI E) (lp_ (b_Model_said_5 f u (nI E)) m) _ = _
    generalize lp_ (b_Model_said_5 f u (nI E)) m = rc at hi ⊢
    unfold b_Model_said_5
    refine ifn (nI_ge (by omega) (by omega)) (bnd (mo_look h (by omega)) ?_)
    show (if ((10 : Int32) * nI v + nI (lk D a)) - (48 : Int32) ≤ (1000 : Int32) then k_Model_said_40 rc (nI a) (((10 : Int32) * nI v + nI (lk D a)) - (48 : Int32)) else k_Model_said_40 rc (nI a) (1000 : Int32)) = _
    rw [nm_val2 hc.1]
    unfold k_Model_said_40
    rw [nI_1]
    rw [show nm D (d + 1) a v = nm D d (a + 1) (min 1000 (v * 10 + lk D a - 48)) from rfl]
    by_cases h1 : v * 10 + lk D a - 48 ≤ 1000
    · rw [Nat.min_eq_right h1] at hi ⊢
      exact ifp (qle 1000 h1) hi
    · rw [Nat.min_eq_left (by omega)] at hi ⊢
      exact ifn (qnle 1000 (by omega) rfl (by omega)) hi
theorem mo_said {f : Nat → Int32} {u : Int32} {D : List Nat} (h : dfOK f u D) (hD : chOK D) {k : Nat} (hk : k < 2 ^ 29) : f_Model_said 5000 f u (nI k) (nI (dE D k)) = some (nI (nmE D k)) := by
  have h1 := hD.1
  have h2 := dE_le (D := D) (k := k)
  exact mo_said_l h hD (E := dE D k) (by omega) (dRun (D.drop k)) k 0 5000 rfl (by have : dE D k = k + dRun (D.drop k) := rfl; omega) (by omega) (fun j g1 g2 => dE_dig g1 g2)
