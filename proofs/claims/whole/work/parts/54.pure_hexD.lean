theorem wrd_12 : wrd 12 = [48, 120] := by decide +kernel
theorem wrd_11 : wrd 11 = [48] := by decide +kernel
theorem cp_hex47 {ld F' d M n : Nat} {x' : Int} (hM : hxM ld F' d M) (hx : -1200 ≤ x' ∧ x' ≤ 1200) (hn : 1 ≤ n ∧ n ≤ 1000) {hd : List Nat} (hhd : hd.length ≤ 2) {Hc Bc : Nat → Int32} {Hu : Int32} (hb bb BO x2 : Int32) (hx2 : (if (1 : Int32) < x2 then x2 else (1 : Int32)) = nI n) (hH : rowOK 4 Hc Hu hd) (hB : rowOK 1800 Bc 0 []) {m0 : Int64} {e0 d0 : Int32} (hr : f_Hex_roundTo m0 e0 d0 (nI n) = some (lN M, iI x', nI d)) :
    ∃ r : Int32 × Int32 × Int32 × (Nat → Int32) × Int32 × Int32 × (Nat → Int32) × Int64 × Int32 × Int32, k_Composer_setHex_47 5000 4 1800 x2 BO Hu hb Hc 0 bb Bc m0 e0 d0 = some r ∧ r.1 = BO ∧ rowOK 4 r.2.2.2.1 r.2.1 (hd ++ [48, 120]) ∧ rowOK 1800 r.2.2.2.2.2.2.1 r.2.2.2.2.1 (hexL ld F' x' n) := by
  have hld := hM.2.2.1
  obtain ⟨s1, a1, a2⟩ := ro_word (t := 12) hb hH (by decide) (by rw [wrd_12]; show hd.length + 2 ≤ 4; omega)
  rw [wrd_12] at a2
  have h0 := hx_at hM (k := 0) (by omega)
  rw [if_pos rfl] at h0
  obtain ⟨s2, b1, b2⟩ := ro_add (c := 48 + ld) bb hB (by omega) (by show 0 < 1800; omega)
  obtain ⟨s3, c1, c2⟩ := ro_add (c := 46) s2.2.1 b2 (by omega) (by show 1 < 1800; omega)
  obtain ⟨s4, e1, e2⟩ := cp_hexdigs hM hx BO s1.1 s1.2.1 s1.2.2 hn.2 n 1 5000 s3.2.2 s3.1 s3.2.1 _ (by omega) (by omega) (by omega) (by show 2 + n + 6 ≤ 1800; omega) c2
  refine ⟨(BO, s1.1, s1.2.1, s1.2.2, s4.1, s4.2.1, s4.2.2, lN M, iI x', nI d), ?_, ?_, ?_, ?_⟩
  · unfold k_Composer_setHex_47
    try dsimp only
    rw [hx2]
    refine bnd hr (bnd a1 (bnd h0 (bnd ?_ (bnd c1 e1))))
    rw [show (48 : Int32) + nI ld = nI (48 + ld) from nI_add 48 ld]
    exact b1
  · rfl
  · exact a2
  · exact e2
theorem cp_hex {V : Nat} (hV : V < 2 ^ 64) {pz : Int} (hpz : -1 ≤ pz ∧ pz ≤ 1000) (fl : Int32) {below : Bool} {ws : Nat → Int64} {kd : Nat} {mi : Int32} (hbz : f_Argument_isBelowZero 5000 ws kd mi = some (bI below)) {Hc Bc : Nat → Int32} (hb bb : Int32) (hH : rowOK 4 Hc 0 []) (hB : rowOK 1800 Bc 0 []) :
    ∃ (ld F F' n : Nat) (x x' : Int) (r : Int32 × Int32 × Int32 × (Nat → Int32) × Int32 × Int32 × (Nat → Int32) × Int64 × Int32 × Int32), hxS V ld F x ∧ hexP F x pz F' x' n ∧ f_Composer_setHex 5000 0 fl (iI pz) 4 Hc 0 hb 1800 Bc 0 bb ws kd mi (lN V) = some r ∧ r.1 = bI (below && hA fl 64) ∧ rowOK 4 r.2.2.2.1 r.2.1 (sgn below fl ++ [48, 120]) ∧ rowOK 1800 r.2.2.2.2.2.2.1 r.2.2.2.2.1 (hexL ld F' x' n) := by
  obtain ⟨ld, F, x, hS, ht⟩ := hx_take hV
  obtain ⟨hF, hld, hx1, hx2, h0⟩ := hxS_lt hS
  obtain ⟨s1, y1, y2, y3⟩ := cp_sign (n := 4) (by omega) below fl hb hH
  have hsl := sgn_len below fl
  have full : hxM ld F 13 (ld * 2 ^ 52 + F) := ⟨by omega, by omega, hld, F, hF, by rw [Nat.sub_self, Nat.pow_zero, Nat.mul_one], rfl⟩
  by_cases hp : pz = -1
  · subst hp
    obtain ⟨n, M, q1, q2, q3⟩ := hx_drop (ld := ld) hF hld 13 5000 (by omega) (by omega) (by omega) (by rw [Nat.sub_self, Nat.pow_zero, Nat.mod_one])
    rw [Nat.sub_self, Nat.pow_zero, Nat.div_one] at q1
    have hn1 := q2.1
    have hn2 := q2.2.1
    have hr : f_Hex_roundTo (lN M) (iI x) (nI n) (nI n) = some (lN M, iI x, nI n) := by
      unfold f_Hex_roundTo
      exact ifn (qnlt 1 (by omega)) (ifn (nI_nlt (Nat.le_refl _) (by omega)) rfl)
    have hx2' : (if (1 : Int32) < nI n then nI n else (1 : Int32)) = nI n := by
      by_cases h : 1 < n
      · exact ifp (rlt 1 h) rfl
      · have : n = 1 := by omega
        subst this
        exact ifn (by decide) rfl
    obtain ⟨r, r1, r2, r3, r4⟩ := cp_hex47 q3 (by omega) (show 1 ≤ n ∧ n ≤ 1000 by omega) (by omega) s1.2.2.1 bb s1.1 (nI n) hx2' y3 hB hr
    refine ⟨ld, F, F, n, x, x, r, hS, Or.inl ⟨rfl, q2, rfl, rfl⟩, ?_, by rw [r2, y2], r3, r4⟩
    have hdz : f_Hex_dropZeros 5000 (lN (ld * 2 ^ 52 + F)) 13 = some (lN M, nI n) := by
      unfold f_Hex_dropZeros
      exact q1
    unfold f_Composer_setHex
    exact bnd ht (bnd hbz (bnd y1 (ifp rfl (bnd hdz r1))))
  · obtain ⟨p, hpp⟩ : ∃ p : Nat, pz = (p : Int) := ⟨pz.toNat, by omega⟩
    subst hpp
    have hx2' : (if (1 : Int32) < iI (p : Int) then iI (p : Int) else (1 : Int32)) = nI (max 1 p) := by
      by_cases h : 1 < p
      · rw [Nat.max_eq_right (by omega)]
        exact ifp (rlt 1 h) rfl
      · rw [Nat.max_eq_left (by omega)]
        exact ifn (rnlt 1 (by omega)) rfl
    have fin : ∀ (M d F' : Nat) (x' : Int), hxM ld F' d M → -1200 ≤ x' ∧ x' ≤ 1200 → f_Hex_roundTo (lN (ld * 2 ^ 52 + F)) (iI x) 13 (nI (max 1 p)) = some (lN M, iI x', nI d) → hexP F x (p : Int) F' x' (max 1 p) → ∃ (ld F F' n : Nat) (x x' : Int) (r : Int32 × Int32 × Int32 × (Nat → Int32) × Int32 × Int32 × (Nat → Int32) × Int64 × Int32 × Int32), hxS V ld F x ∧ hexP F x (p : Int) F' x' n ∧ f_Composer_setHex 5000 0 fl (iI (p : Int)) 4 Hc 0 hb 1800 Bc 0 bb ws kd mi (lN V) = some r ∧ r.1 = bI (below && hA fl 64) ∧ rowOK 4 r.2.2.2.1 r.2.1 (sgn below fl ++ [48, 120]) ∧ rowOK 1800 r.2.2.2.2.2.2.1 r.2.2.2.2.1 (hexL ld F' x' n) := by
      intro M d F' x' g1 g2 g3 g4
      obtain ⟨r, r1, r2, r3, r4⟩ := cp_hex47 g1 g2 (show 1 ≤ max 1 p ∧ max 1 p ≤ 1000 by omega) (by omega) s1.2.2.1 bb s1.1 (iI (p : Int)) hx2' y3 hB g3
      refine ⟨ld, F, F', max 1 p, x, x', r, hS, g4, ?_, by rw [r2, y2], r3, r4⟩
      unfold f_Composer_setHex
      exact bnd ht (bnd hbz (bnd y1 (ifn (ine (p : Int) (-1) (by omega)) r1)))
    by_cases h13 : max 1 p < 13
    · obtain ⟨M, m1, m2⟩ := hx_round hF hld h0 (show -1100 ≤ x ∧ x ≤ 1100 by omega) (show 1 ≤ max 1 p by omega) h13
      have hr := hxX_r (F := F) (q := max 1 p) (x := x)
      exact fin M (max 1 p) _ _ m2 (by omega) m1 (Or.inr ⟨by omega, by rw [Int.toNat_natCast], Or.inl ⟨h13, rfl, rfl⟩⟩)
    · refine fin (ld * 2 ^ 52 + F) 13 F x full (by omega) ?_ (Or.inr ⟨by omega, by rw [Int.toNat_natCast], Or.inr ⟨by omega, rfl, rfl⟩⟩)
      unfold f_Hex_roundTo
      exact ifn (qnlt 1 (by omega)) (ifn (qnlt 13 (by omega)) rfl)
