/-! PURE PART, rows: a row of characters as a list -/
/-- the first places of f hold the characters of L, u is how many -/
def rowOK (n : Nat) (f : Nat → Int32) (u : Int32) (L : List Nat) : Prop := u = nI L.length ∧ L.length ≤ n ∧ n < 2 ^ 31 ∧ (∀ c ∈ L, c < 128) ∧ ∀ j, j < L.length → f j = nI (L.getD j 0)
theorem narB {c : Nat} (h : c < 128) : vp_nar .byte (nI c).toInt8.toInt32 = nI c := by
  have key : ∀ c, c < 128 → vp_nar .byte (nI c).toInt8.toInt32 = nI c := by decide +kernel
  exact key c h
theorem inB_nI {i n : Nat} (h : i < n) (hn : n < 2 ^ 31) : inB (nI i) n = true := in_inB (vp_in_nI h hn)
theorem row_add {n : Nat} {f : Nat → Int32} {u b : Int32} {L : List Nat} {c : Nat} (h : rowOK n f u L) (hc : c < 128) (hl : L.length < n) : ∃ f', f_Row_add n f u b (nI c) = some (nI (L.length + 1), b, f') ∧ rowOK n f' (nI (L.length + 1)) (L ++ [c]) := by
  obtain ⟨rfl, h1, h2, h3, h4⟩ := h
  refine ⟨upd f L.length (nI c), ?_, ?_⟩
  · unfold f_Row_add
    rw [if_neg (nI_pos (by omega)), if_pos (nI_lt hl h2), if_pos (inB_nI hl h2), nI_clamp (by omega), narB hc]
    rw [show nI L.length + (1 : Int32) = nI (L.length + 1) from nI_1 _]
  · refine ⟨by rw [List.length_append]; rfl, by rw [List.length_append]; exact hl, h2, fun x hx => ?_, fun j hj => ?_⟩
    · rcases List.mem_append.mp hx with hx | hx
      · exact h3 x hx
      · rw [List.mem_singleton.mp hx]; exact hc
    · rw [List.length_append, List.length_singleton] at hj
      by_cases hjl : j = L.length
      · subst hjl
        rw [pk_us]
        simp
      · rw [pk_un hjl, h4 j (by omega)]
        rw [List.getD_eq_getElem?_getD, List.getD_eq_getElem?_getD, List.getElem?_append_left (by omega)]
theorem row_full {n : Nat} {f : Nat → Int32} {u b : Int32} {L : List Nat} {c : Int32} (h : rowOK n f u L) (hl : L.length = n) : f_Row_add n f u b c = some (u, 1, f) := by
  obtain ⟨rfl, h1, h2, h3, h4⟩ := h
  unfold f_Row_add
  rw [if_neg (nI_pos (by omega)), if_neg (nI_nlt (by omega) (by omega))]
  rfl
theorem row_at {n : Nat} {f : Nat → Int32} {L : List Nat} {u : Int32} {j : Nat} (h : rowOK n f u L) (hj : j < L.length) : f_Row_at n f u (nI j) = some (nI (L.getD j 0)) := by
  obtain ⟨rfl, h1, h2, h3, h4⟩ := h
  unfold f_Row_at
  rw [if_neg (nI_pos (by omega)), if_neg (by rw [nI_leI (by omega) (by omega)]; omega), if_neg (by rw [nI_leI (by omega) (by omega)]; omega), if_pos (inB_nI (by omega) h2), nI_clamp (by omega), h4 j hj]
/-- what a row of room n becomes when cs come behind L -/
def rput (n : Nat) (L cs : List Nat) : List Nat := (L ++ cs).take n
def rbst (n : Nat) (L cs : List Nat) (b : Int32) : Int32 := if L.length + cs.length ≤ n then b else 1
/-- one character more, with or without room -/
theorem row_one {n : Nat} {f : Nat → Int32} {u b : Int32} {L : List Nat} {c : Nat} (h : rowOK n f u L) (hc : c < 128) : ∃ f', f_Row_add n f u b (nI c) = some (nI (rput n L [c]).length, rbst n L [c] b, f') ∧ rowOK n f' (nI (rput n L [c]).length) (rput n L [c]) := by
  have hL := h.2.1
  by_cases hl : L.length < n
  · obtain ⟨f', h1, h2⟩ := row_add (b := b) h hc hl
    have e : rput n L [c] = L ++ [c] := List.take_of_length_le (by rw [List.length_append]; exact hl)
    have e2 : (rput n L [c]).length = L.length + 1 := by rw [e, List.length_append]; rfl
    have e3 : rbst n L [c] b = b := if_pos hl
    rw [e2, e3]
    exact ⟨f', h1, by rw [e]; exact h2⟩
  · have hn : L.length = n := by omega
    have e : rput n L [c] = L := by
      unfold rput
      rw [← hn, List.take_left']
      rfl
    have e3 : rbst n L [c] b = 1 := if_neg (by simp; omega)
    rw [e, e3]
    refine ⟨f, ?_, ?_⟩
    · rw [row_full h hn, h.1]
    · rw [← h.1]; exact h

