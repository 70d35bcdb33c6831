def rowOK (n : Nat) (f : Nat → Int32) (u : Int32) (L : List Nat) : Prop := u = nI L.length ∧ L.length ≤ n ∧ n < 2 ^ 31 ∧ (∀ c ∈ L, c < 128) ∧ ∀ j, j < L.length → f j = nI (L.getD j 0)
theorem narB {c : Nat} (h : c < 128) : vp_nar .byte (nI c).toInt8.toInt32 = nI c := by
  have key : ∀ c, c < 128 → vp_nar .byte (nI c).toInt8.toInt32 = nI c := by decide +kernel
  exact key c h
theorem inB_nI {i n : Nat} (h : i < n) (hn : n < 2 ^ 31) : inB (nI i) n = true := in_inB (vp_in_nI h hn)
theorem row_add {n : Nat} {f : Nat → Int32} {u b : Int32} {L : List Nat} {c : Nat} (h : rowOK n f u L) (hc : c < 128) (hl : L.length < n) : ∃ f', f_Row_add n f u b (nI c) = some (nI (L.length + 1), b, f') ∧ rowOK n f' (nI (L.length + 1)) (L ++ [c]) := by
  obtain ⟨rfl, h1, h2, h3, h4⟩ := h
  refine ⟨upd f L.length (nI c), ?_, ?_⟩
  · unfold f_Row_add
    rw [if_neg (nI_pos (by omega)), if_pos (nI_lt hl h2), if_pos (inB_nI hl h2), nI_clamp (by omega), narB hc]
    rw [show nI L.length + (1 : Int32) = nI (L.length + 1) from nI_1 _]
  · refine ⟨by rw [List.length_append]; rfl, by rw [List.length_append]; exact hl, h2, fun x hx => ?_, fun j hj => ?_⟩
    · rcases List.mem_append.mp hx with hx | hx
      · exact h3 x hx
      · rw [List.mem_singleton.mp hx]; exact hc
    · rw [List.length_append, List.length_singleton] at hj
      by_cases hjl : j = L.length
      · subst hjl
        rw [pk_us]
        simp
      · rw [pk_un hjl, h4 j (by omega)]
        rw [List.getD_eq_getElem?_getD, List.getD_eq_getElem?_getD, List.getElem?_append_left (by omega)]
theorem row_full {n : Nat} {f : Nat → Int32} {u b : Int32} {L : List Nat} {c : Int32} (h : rowOK n f u L) (hl : L.length = n) : f_Row_add n f u b c = some (u, 1, f) := by
  obtain ⟨rfl, h1, h2, h3, h4⟩ := h
  unfold f_Row_add
  rw [if_neg (nI_pos (by omega)), if_neg (nI_nlt (by omega) (by omega))]
  rfl
theorem row_at {n : Nat} {f : Nat → Int32} {L : List Nat} {u : Int32} {j : Nat} (h : rowOK n f u L) (hj : j < L.length) : f_Row_at n f u (nI j) = some (nI (L.getD j 0)) := by
  obtain ⟨rfl, h1, h2, h3, h4⟩ := h
  unfold f_Row_at
  rw [if_neg (nI_pos (by omega)), if_neg (by rw [nI_leI (by omega) (by omega)]; omega), if_neg (by rw [nI_leI (by omega) (by omega)]; omega), if_pos (inB_nI (by omega) h2), nI_clamp (by omega), h4 j hj]
def rput (n : Nat) (L cs : List Nat) : List Nat := (L ++ cs).take n
def rbst (n : Nat) (L cs : List Nat) (b : Int32) : Int32 := if L.length + cs.length ≤ n then b else 1
theorem row_one {n : Nat} {f : Nat → Int32} {u b : Int32} {L : List Nat} {c : Nat} (h : rowOK n f u L) (hc : c < 128) : ∃ f', f_Row_add n f u b (nI c) = some (nI (rput n L [c]).length, rbst n L [c] b, f') ∧ rowOK n f' (nI (rput n L [c]).length) (rput n L [c]) := by
  have hL := h.2.1
  by_cases hl : L.length < n
  · obtain ⟨f', h1, h2⟩ := row_add (b := b) h hc hl
    have e : rput n L [c] = L ++ [c] := List.take_of_length_le (by rw [List.length_append]; exact hl)
    have e2 : (rput n L [c]).length = L.length + 1 := by rw [e, List.length_append]; rfl
    have e3 : rbst n L [c] b = b := if_pos hl
    rw [e2, e3]
    exact ⟨f', h1, by rw [e]; exact h2⟩
  · have hn : L.length = n := by omega
    have e : rput n L [c] = L := by
      unfold rput
      rw [← hn, List.take_left']
      rfl
    have e3 : rbst n L [c] b = 1 := if_neg (by simp; omega)
    rw [e, e3]
    refine ⟨f, ?_, ?_⟩
    · rw [row_full h hn, h.1]
    · rw [← h.1]; exact h
theorem rput_nil {n : Nat} {L : List Nat} (h : L.length ≤ n) : rput n L [] = L := by
  unfold rput
  rw [List.append_nil]
  exact List.take_of_length_le h
theorem rput_app {n : Nat} {L a b : List Nat} (h : L.length ≤ n) : rput n (rput n L a) b = rput n L (a ++ b) := by
  unfold rput
  rw [← List.append_assoc]
  by_cases hl : (L ++ a).length ≤ n
  · rw [List.take_of_length_le hl]
  · have h1 : n ≤ (L ++ a).length := by omega
    have h2 : ((L ++ a).take n).length = n := List.length_take_of_le h1
    rw [List.take_append_of_le_length (l₂ := b) h1]
    rw [List.take_append_of_le_length (l₂ := b) (by omega), List.take_take, Nat.min_self]
theorem rput_len {n : Nat} {L a : List Nat} : (rput n L a).length = min n (L.length + a.length) := by
  unfold rput
  rw [List.length_take, List.length_append]
theorem rbst_app {n : Nat} {L a b : List Nat} {z : Int32} (h : L.length ≤ n) : rbst n (rput n L a) b (rbst n L a z) = rbst n L (a ++ b) z := by
  unfold rbst
  rw [rput_len, List.length_append]
  by_cases h1 : L.length + a.length ≤ n
  · rw [if_pos h1]
    by_cases h2 : L.length + (a.length + b.length) ≤ n
    · rw [if_pos h2, if_pos (by omega)]
    · rw [if_neg h2, if_neg (by omega)]
  · rw [if_neg h1, if_neg (show ¬ L.length + (a.length + b.length) ≤ n by omega)]
    by_cases h3 : min n (L.length + a.length) + b.length ≤ n
    · rw [if_pos h3]
    · rw [if_neg h3]
theorem rput_ok {n : Nat} {L a : List Nat} (h : L.length ≤ n) : (rput n L a).length ≤ n := by rw [rput_len]; omega
theorem row_many_loop {n : Nat} {c t : Nat} (hc : c < 128) (ht : t < 2 ^ 31) : ∀ (d i : Nat) (k : Nat) (f : Nat → Int32) (u b : Int32) (L : List Nat), i + d = t → d < k → rowOK n f u L →
    ∃ f', lp_ (b_Row_addMany_2 n (nI c) (nI t)) k (nI i, u, b, f) = some (nI (rput n L (List.replicate d c)).length, rbst n L (List.replicate d c) b, f') ∧ rowOK n f' (nI (rput n L (List.replicate d c)).length) (rput n L (List.replicate d c)) := by
  intro d
  induction d with
  | zero =>
    intro i k f u b L hi hk h
    obtain ⟨k, rfl⟩ : ∃ j, k = j + 1 := ⟨k - 1, by omega⟩
    have e : rput n L (List.replicate 0 c) = L := rput_nil h.2.1
    have e2 : rbst n L (List.replicate 0 c) b = b := if_pos (by simpa using h.2.1)
    rw [e, e2, ← h.1]
    refine ⟨f, ?_, h⟩
    show b_Row_addMany_2 n (nI c) (nI t) _ _ = _
    unfold b_Row_addMany_2
    rw [if_pos (show nI t ≤ nI i from nI_le (by omega) (by omega))]
  | succ d ih =>
    intro i k f u b L hi hk h
    obtain ⟨k, rfl⟩ : ∃ j, k = j + 1 := ⟨k - 1, by omega⟩
    obtain ⟨f1, h1, h2⟩ := row_one (b := b) h hc
    obtain ⟨f2, h3, h4⟩ := ih (i + 1) k f1 _ (rbst n L [c] b) _ (by omega) (by omega) h2
    rw [rput_app h.2.1] at h3 h4
    rw [rbst_app h.2.1] at h3
    refine ⟨f2, ?_, h4⟩
    show b_Row_addMany_2 n (nI c) (nI t) _ _ = _
    unfold b_Row_addMany_2
    rw [if_neg (show ¬ nI t ≤ nI i from nI_ge (by omega) (by omega)), h1]
    show lp_ _ k (nI i + 1, _, _, _) = _
    rw [nI_1]
    exact h3
theorem row_many {n : Nat} {c t K : Nat} {f : Nat → Int32} {u b : Int32} {L : List Nat} (hc : c < 128) (ht : t < 2 ^ 31) (hK : t < K) (h : rowOK n f u L) : ∃ f', f_Row_addMany K n f u b (nI c) (nI t) = some (nI (rput n L (List.replicate t c)).length, rbst n L (List.replicate t c) b, f') ∧ rowOK n f' (nI (rput n L (List.replicate t c)).length) (rput n L (List.replicate t c)) :=
  row_many_loop hc ht t 0 K f u b L (by omega) hK h
theorem row_row_loop {n n2 : Nat} {f2 : Nat → Int32} {u2 : Int32} {M : List Nat} (h2 : rowOK n2 f2 u2 M) : ∀ (d i : Nat) (k : Nat) (f : Nat → Int32) (u b : Int32) (L : List Nat), i + d = M.length → d < k → rowOK n f u L →
    ∃ f', lp_ (b_Row_addRow_2 n n2 f2 u2) k (nI i, u, b, f) = some (nI (rput n L (M.drop i)).length, rbst n L (M.drop i) b, f') ∧ rowOK n f' (nI (rput n L (M.drop i)).length) (rput n L (M.drop i)) := by
  obtain ⟨e2, g1, g2, g3, g4⟩ := id h2
  intro d
  induction d with
  | zero =>
    intro i k f u b L hi hk h
    obtain ⟨k, rfl⟩ : ∃ j, k = j + 1 := ⟨k - 1, by omega⟩
    have e0 : M.drop i = [] := List.drop_eq_nil_iff.mpr (by omega)
    have e : rput n L [] = L := rput_nil h.2.1
    have e3 : rbst n L [] b = b := if_pos (by simpa using h.2.1)
    rw [e0, e, e3, ← h.1]
    refine ⟨f, ?_, h⟩
    show b_Row_addRow_2 n n2 f2 u2 _ _ = _
    unfold b_Row_addRow_2
    rw [if_pos (show u2 ≤ nI i by rw [e2]; exact nI_le (by omega) (by omega))]
  | succ d ih =>
    intro i k f u b L hi hk h
    obtain ⟨k, rfl⟩ : ∃ j, k = j + 1 := ⟨k - 1, by omega⟩
    have hiM : i < M.length := by omega
    have e0 : M.drop i = [M.getD i 0] ++ M.drop (i + 1) := by
      rw [List.getD_eq_getElem?_getD, List.getElem?_eq_getElem hiM]
      exact List.drop_eq_getElem_cons hiM
    have hc : M.getD i 0 < 128 := by
      rw [List.getD_eq_getElem?_getD, List.getElem?_eq_getElem hiM]
      exact g3 _ (List.getElem_mem hiM)
    obtain ⟨f1, h1, h3⟩ := row_one (b := b) h hc
    obtain ⟨f5, h5, h6⟩ := ih (i + 1) k f1 _ (rbst n L [M.getD i 0] b) _ (by omega) (by omega) h3
    rw [rput_app h.2.1, ← e0] at h5 h6
    rw [rbst_app h.2.1, ← e0] at h5
    refine ⟨f5, ?_, h6⟩
    show b_Row_addRow_2 n n2 f2 u2 _ _ = _
    unfold b_Row_addRow_2
    rw [if_neg (show ¬ u2 ≤ nI i by rw [e2]; exact nI_ge (by omega) (by omega)), row_at h2 hiM]
    show (f_Row_add n f u b (nI (M.getD i 0))).bind _ = _
    rw [h1]
    show lp_ _ k (nI i + 1, _, _, _) = _
    rw [nI_1]
    exact h5
theorem row_row {n n2 K : Nat} {f f2 : Nat → Int32} {u b u2 : Int32} {L M : List Nat} (h2 : rowOK n2 f2 u2 M) (hK : M.length < K) (h : rowOK n f u L) : ∃ f', f_Row_addRow K n f u b n2 f2 u2 = some (nI (rput n L M).length, rbst n L M b, f') ∧ rowOK n f' (nI (rput n L M).length) (rput n L M) := by
  have := row_row_loop h2 M.length 0 K f u b L (by omega) hK h
  rw [List.drop_zero] at this
  exact this
def wrd (t : Nat) : List Nat := (sByt.getD t []).map (fun x => x.toNatClampNeg)
theorem wrd_len : ∀ t, t < nS → f_String_length t = some (nI (wrd t).length) := by decide +kernel
theorem wrd_at : ∀ t, t < nS → ∀ i, i < (wrd t).length → f_String_charAt t (nI i) = some (nI ((wrd t).getD i 0)) := by decide +kernel
theorem wrd_small : ∀ t, t < nS → (wrd t).length < 20 ∧ ∀ i, i < (wrd t).length → (wrd t).getD i 0 < 128 := by decide +kernel
theorem row_word_loop {n t : Nat} (ht : t < nS) : ∀ (d i : Nat) (k : Nat) (f : Nat → Int32) (u b : Int32) (L : List Nat), i + d = (wrd t).length → d < k → rowOK n f u L →
    ∃ f', lp_ (b_Row_addWord_2 n t) k (nI i, u, b, f) = some (nI (rput n L ((wrd t).drop i)).length, rbst n L ((wrd t).drop i) b, f') ∧ rowOK n f' (nI (rput n L ((wrd t).drop i)).length) (rput n L ((wrd t).drop i)) := by
  have hs := wrd_small t ht
  have hlen := wrd_len t ht
  have hat := wrd_at t ht
  generalize wrd t = M at hs hlen hat
  intro d
  induction d with
  | zero =>
    intro i k f u b L hi hk h
    obtain ⟨k, rfl⟩ : ∃ j, k = j + 1 := ⟨k - 1, by omega⟩
    have e0 : M.drop i = [] := List.drop_eq_nil_iff.mpr (by omega)
    have e : rput n L [] = L := rput_nil h.2.1
    have e3 : rbst n L [] b = b := if_pos (by simpa using h.2.1)
    rw [e0, e, e3, ← h.1]
    refine ⟨f, ?_, h⟩
    show b_Row_addWord_2 n t _ _ = _
    unfold b_Row_addWord_2
    rw [hlen]
    show (if nI M.length ≤ nI i then _ else _) = _
    rw [if_pos (nI_le (by omega) (by omega))]
  | succ d ih =>
    intro i k f u b L hi hk h
    obtain ⟨k, rfl⟩ : ∃ j, k = j + 1 := ⟨k - 1, by omega⟩
    have hiM : i < M.length := by omega
    have e0 : M.drop i = [M.getD i 0] ++ M.drop (i + 1) := by
      rw [List.getD_eq_getElem?_getD, List.getElem?_eq_getElem hiM]
      exact List.drop_eq_getElem_cons hiM
    obtain ⟨f1, h1, h3⟩ := row_one (b := b) h (hs.2 i hiM)
    obtain ⟨f5, h5, h6⟩ := ih (i + 1) k f1 _ (rbst n L [M.getD i 0] b) _ (by omega) (by omega) h3
    rw [rput_app h.2.1, ← e0] at h5 h6
    rw [rbst_app h.2.1, ← e0] at h5
    refine ⟨f5, ?_, h6⟩
    show b_Row_addWord_2 n t (lp_ (b_Row_addWord_2 n t) k) _ = _
    generalize lp_ (b_Row_addWord_2 n t) k = rc at h5 ⊢
    unfold b_Row_addWord_2
    rw [hlen]
    show (if nI M.length ≤ nI i then _ else _) = _
    rw [if_neg (nI_ge (by omega) (by omega)), hat i hiM]
    show (f_Row_add n f u b (nI (M.getD i 0))).bind _ = _
    rw [h1]
    show rc (nI i + 1, _, _, _) = _
    rw [nI_1]
    exact h5
theorem row_word {n t K : Nat} {f : Nat → Int32} {u b : Int32} {L : List Nat} (ht : t < nS) (hK : 20 < K) (h : rowOK n f u L) : ∃ f', f_Row_addWord K n f u b t = some (nI (rput n L (wrd t)).length, rbst n L (wrd t) b, f') ∧ rowOK n f' (nI (rput n L (wrd t)).length) (rput n L (wrd t)) := by
  have hs := (wrd_small t ht).1
  have := row_word_loop (n := n) ht (wrd t).length 0 K f u b L (by omega) (by omega) h
  rw [List.drop_zero] at this
  exact this
