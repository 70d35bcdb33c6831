theorem and15 (n : Nat) : nI n &&& 15 = nI (n % 16) := by
  rw [pk_and (nI n) (m := 15) 4 (by decide)]
  congr 1
  show n % 2 ^ 32 % 2 ^ 4 = n % 16
  omega
theorem c52 : (4503599627370495 : Int64) = lN (2 ^ 52 - 1) := by decide +kernel
theorem c53 : (4503599627370496 : Int64) = lN (2 ^ 52) := by decide +kernel
theorem hx_exp {V : Nat} (h : V < 2 ^ 64) : f_Hex_exponentBits (lN V) = some (nI (V / 2 ^ 52 % 2048)) := by
  unfold f_Hex_exponentBits
  have e1 : ((lN V).toUInt64 >>> ((52 : Int32).toInt64.toUInt64 &&& Int64.toUInt64 63)).toInt64 = lN (V / 2 ^ 52) := wb_shr (k := 52) h (by omega)
  rw [e1, lN_i, pk_andN (by omega) (m := 2047) 11 (by decide)]
theorem and_bit52 {y : Nat} (h : y < 2 ^ 53) : lN y &&& 4503599627370496 = lN (if 2 ^ 52 ≤ y then 2 ^ 52 else 0) := by
  rw [c53, wb_and (by omega) (by decide)]
  congr 1
  apply Nat.eq_of_testBit_eq
  intro i
  rw [Nat.testBit_and, Nat.testBit_two_pow]
  by_cases h1 : 2 ^ 52 ≤ y
  · rw [if_pos h1, Nat.testBit_two_pow]
    by_cases e : 52 = i
    · subst e
      have : y.testBit 52 = true := by
        rw [Nat.testBit_eq_decide_div_mod_eq]
        exact decide_eq_true (by omega)
      rw [this]
      rfl
    · simp [e]
  · rw [if_neg h1]
    by_cases e : 52 = i
    · subst e
      rw [Nat.testBit_lt_two_pow (show y < 2 ^ 52 by omega)]
      simp
    · simp [e]
def hxS (V : Nat) (ld F : Nat) (x : Int) : Prop :=
  (V / 2 ^ 52 % 2048 ≠ 0 ∧ ld = 1 ∧ F = V % 2 ^ 52 ∧ x = (V / 2 ^ 52 % 2048 : Nat) - 1023) ∨
  (V / 2 ^ 52 % 2048 = 0 ∧ V % 2 ^ 52 = 0 ∧ ld = 0 ∧ F = 0 ∧ x = 0) ∨
  (V / 2 ^ 52 % 2048 = 0 ∧ V % 2 ^ 52 ≠ 0 ∧ ld = 1 ∧ ∃ s : Nat, s ≤ 52 ∧ V % 2 ^ 52 * 2 ^ s = 2 ^ 52 + F ∧ F < 2 ^ 52 ∧ x = -1022 - (s : Int))
theorem hx_shift {y : Nat} (h0 : y ≠ 0) (h1 : y < 2 ^ 52) : ∃ s F : Nat, s ≤ 52 ∧ 0 < s ∧ y * 2 ^ s = 2 ^ 52 + F ∧ F < 2 ^ 52 ∧ ∀ i, i < s → y * 2 ^ i < 2 ^ 52 := by
  obtain ⟨s, hs, hmin⟩ := pk_least (fun s => 2 ^ 52 ≤ y * 2 ^ s) ⟨52, by
    have : 1 * 2 ^ 52 ≤ y * 2 ^ 52 := Nat.mul_le_mul_right _ (by omega)
    omega⟩
  have hs52 : s ≤ 52 := by
    by_cases h : s ≤ 52
    · exact h
    · exfalso
      refine hmin 52 (by omega) ?_
      have : 1 * 2 ^ 52 ≤ y * 2 ^ 52 := Nat.mul_le_mul_right _ (by omega)
      omega
  have hs0 : 0 < s := by
    by_cases h : 0 < s
    · exact h
    · have e : s = 0 := by omega
      subst e
      rw [Nat.pow_zero, Nat.mul_one] at hs
      omega
  have hlt : y * 2 ^ (s - 1) < 2 ^ 52 := by
    have := hmin (s - 1) (by omega)
    omega
  have e2 : y * 2 ^ s = 2 * (y * 2 ^ (s - 1)) := by
    rw [show s = (s - 1) + 1 by omega, Nat.pow_succ, Nat.add_sub_cancel, ← Nat.mul_assoc, Nat.mul_comm]
  refine ⟨s, y * 2 ^ s - 2 ^ 52, hs52, hs0, by omega, by omega, fun i hi => ?_⟩
  have := hmin i hi
  omega
theorem hxS_ex (V : Nat) : ∃ (ld F : Nat) (x : Int), hxS V ld F x := by
  by_cases h : V / 2 ^ 52 % 2048 = 0
  · by_cases h0 : V % 2 ^ 52 = 0
    · exact ⟨0, 0, 0, Or.inr (Or.inl ⟨h, h0, rfl, rfl, rfl⟩)⟩
    · obtain ⟨s, F, h1, _, h2, h3, _⟩ := hx_shift h0 (Nat.mod_lt _ (by decide))
      exact ⟨1, F, _, Or.inr (Or.inr ⟨h, h0, rfl, s, h1, h2, h3, rfl⟩)⟩
  · exact ⟨1, _, _, Or.inl ⟨h, rfl, rfl, rfl⟩⟩
theorem hxS_lt {V ld F : Nat} {x : Int} (h : hxS V ld F x) : F < 2 ^ 52 ∧ ld ≤ 1 ∧ -1100 ≤ x ∧ x ≤ 1100 ∧ (ld = 0 → F = 0) := by
  rcases h with ⟨h1, h2, h3, h4⟩ | ⟨h1, h2, h3, h4, h5⟩ | ⟨h1, h2, h3, s, h4, h5, h6, h7⟩
  · have := Nat.mod_lt V (show 0 < 2 ^ 52 by decide)
    have := Nat.mod_lt (V / 2 ^ 52) (show 0 < 2048 by decide)
    omega
  · omega
  · omega
theorem hx_take_l {y s F : Nat} (hF : F < 2 ^ 52) (hs : s ≤ 52) (hy : y * 2 ^ s = 2 ^ 52 + F) (hmin : ∀ i, i < s → y * 2 ^ i < 2 ^ 52) : ∀ (d i m : Nat), i + d = s → d < m → lp_ (b_Hex_take_72 13) m (nI i, lN (y * 2 ^ i), iI (-1022 - (i : Int))) = some (lN (2 ^ 52 + F), iI (-1022 - (s : Int)), 13) := by
  intro d
  induction d with
  | zero =>
    intro i m hi hm
    obtain ⟨m, rfl⟩ : ∃ j, m = j + 1 := ⟨m - 1, by omega⟩
    obtain rfl : i = s := by omega
    rw [hy]
    show b_Hex_take_72 13 (lp_ (b_Hex_take_72 13) m) _ = _
    rw [e_Hex_take_72]
    rw [and_bit52 (by omega), if_pos (show 2 ^ 52 ≤ 2 ^ 52 + F by omega)]
    by_cases h52 : 52 ≤ i
    · exact ifp (rle 52 h52) rfl
    · exact ifn (rnle 52 (by omega)) (ifn (by decide) rfl)
  | succ d ih =>
    intro i m hi hm
    obtain ⟨m, rfl⟩ : ∃ j, m = j + 1 := ⟨m - 1, by omega⟩
    have hlt := hmin i (by omega)
    rw [← ih (i + 1) m (by omega) (by omega)]
    show b_Hex_take_72 13 (lp_ (b_Hex_take_72 13) m) _ = _
    generalize lp_ (b_Hex_take_72 13) m = rc
    rw [e_Hex_take_72]
    rw [and_bit52 (by omega), if_neg (show ¬ 2 ^ 52 ≤ y * 2 ^ i by omega), nI_1, show lN (y * 2 ^ i) <<< ((1 : Int32).toInt64 &&& 63) = lN (y * 2 ^ i * 2 ^ 1) from wb_shl _ (k := 1) (by omega), show y * 2 ^ i * 2 ^ 1 = y * 2 ^ (i + 1) by rw [Nat.pow_one, Nat.pow_succ, Nat.mul_assoc], show (1 : Int32) = iI 1 from rfl, iI_sub, show -1022 - (i : Int) - 1 = -1022 - ((i + 1 : Nat) : Int) by omega]
    exact ifn (rnle 52 (by omega)) (ifp (by decide) rfl)
theorem hx_take {V : Nat} (hV : V < 2 ^ 64) : ∃ (ld F : Nat) (x : Int), hxS V ld F x ∧ f_Hex_take 5000 (lN V) = some (lN (ld * 2 ^ 52 + F), iI x, 13) := by
  have em : lN V &&& (4503599627370495 : Int64) = lN (V % 2 ^ 52) := by rw [c52]; exact wb_mask hV (by omega)
  have hm := Nat.mod_lt V (show 0 < 2 ^ 52 by decide)
  have he := Nat.mod_lt (V / 2 ^ 52) (show 0 < 2048 by decide)
  unfold f_Hex_take
  rw [em]
  by_cases h : V / 2 ^ 52 % 2048 = 0
  · by_cases h0 : V % 2 ^ 52 = 0
    · refine ⟨0, 0, 0, Or.inr (Or.inl ⟨h, h0, rfl, rfl, rfl⟩), bnd (hx_exp hV) (ifp (qeq 0 h) ?_)⟩
      rw [h0]
      exact ifp (by decide) rfl
    · obtain ⟨s, F, h1, h1p, h2, h3, h4⟩ := hx_shift h0 hm
      refine ⟨1, F, _, Or.inr (Or.inr ⟨h, h0, rfl, s, h1, h2, h3, rfl⟩), bnd (hx_exp hV) (ifp (qeq 0 h) (ifn (fun z => ?_) ?_))⟩
      · rw [lg_cmp_eq] at z
        exact h0 ((lN_eq64 (by omega) (by decide : 0 < 2 ^ 64)).mp z)
      · have := hx_take_l h3 h1 h2 h4 s 0 5000 (by omega) (by omega)
        rw [Nat.pow_zero, Nat.mul_one] at this
        rw [Nat.one_mul]
        exact this
  · refine ⟨1, V % 2 ^ 52, _, Or.inl ⟨h, rfl, rfl, rfl⟩, bnd (hx_exp hV) (ifn (qne 0 h) ?_)⟩
    rw [show (4503599627370496 : Int64) = lN (1 * 2 ^ 52) from by decide +kernel, g_or' (k := 52) rfl hm (by omega), Nat.add_comm, ← iI_nat, show (1023 : Int32) = iI 1023 from rfl, iI_sub]
def hxM (ld F d M : Nat) : Prop := 1 ≤ d ∧ d ≤ 13 ∧ ld ≤ 1 ∧ ∃ G, G < 16 ^ d ∧ F = G * 16 ^ (13 - d) ∧ M = ld * 16 ^ d + G
def hxd (F k : Nat) : Nat := if k ≤ 13 then F / 16 ^ (13 - k) % 16 else 0
theorem hxM_lt {ld F d M : Nat} (h : hxM ld F d M) : M < 2 ^ 53 := by
  obtain ⟨h1, h2, h3, G, h4, h5, h6⟩ := h
  have h7 : 16 ^ d ≤ 16 ^ 13 := pw_le (by omega) h2
  have h8 : ld * 16 ^ d ≤ 1 * 16 ^ d := Nat.mul_le_mul_right _ h3
  have h9 : (16 : Nat) ^ 13 = 2 ^ 52 := by decide
  omega
theorem pw16 (k : Nat) : 2 ^ (4 * k) = 16 ^ k := by rw [Nat.pow_mul]
theorem hx_at {ld F d M k : Nat} (h : hxM ld F d M) (hk : k < 2000) : f_Hex_at (lN M) (nI d) (nI k) = some (nI (if k = 0 then ld else hxd F k)) := by
  have hM := hxM_lt h
  obtain ⟨h1, h2, h3, G, h4, h5, h6⟩ := h
  unfold f_Hex_at
  refine ifn (nI_pos (by omega)) ?_
  by_cases hd : d < k
  · refine ifp (nI_lt hd (by omega)) ?_
    rw [if_neg (by omega)]
    unfold hxd
    by_cases h13 : k ≤ 13
    · rw [if_pos h13]
      have e : F = (G * 16 ^ (k - d - 1) * 16) * 16 ^ (13 - k) := by
        rw [h5, Nat.mul_assoc, Nat.mul_assoc, ← Nat.pow_succ', ← Nat.pow_add]
        congr 2
        omega
      rw [e, Nat.mul_div_cancel _ (pw_pos (by omega) _), Nat.mul_mod_left]
      rfl
    · rw [if_neg h13]
      rfl
  · refine ifn (nI_nlt (by omega) (by omega)) ?_
    have e1 : (4 : Int32) * (nI d - nI k) = nI (4 * (d - k)) := by rw [pk_sub (by omega)]; exact pk_mul 4 (d - k)
    rw [e1, wb_shr (by omega) (by omega), lN_i, and15, pw16]
    congr 2
    by_cases hk0 : k = 0
    · subst hk0
      rw [if_pos rfl, Nat.sub_zero, h6, Nat.mul_comm, Nat.mul_add_div (pw_pos (by omega) d), Nat.div_eq_of_lt h4, Nat.add_zero]
      exact Nat.mod_eq_of_lt (by omega)
    · rw [if_neg hk0]
      unfold hxd
      rw [if_pos (by omega), h6, h5]
      have e2 : ld * 16 ^ d = (16 * (ld * 16 ^ (k - 1))) * 16 ^ (d - k) := by
        rw [Nat.mul_comm 16, Nat.mul_assoc, Nat.mul_assoc, ← Nat.pow_succ', ← Nat.pow_add]
        congr 2
        omega
      have e3 : G * 16 ^ (13 - d) / 16 ^ (13 - k) = G / 16 ^ (d - k) := by
        rw [show 13 - k = (13 - d) + (d - k) by omega, Nat.pow_add, ← Nat.div_div_eq_div_mul, Nat.mul_div_cancel _ (pw_pos (by omega) _)]
      rw [e2, Nat.add_comm, Nat.add_mul_div_right _ _ (pw_pos (by omega) _), Nat.add_mul_mod_self_left, e3]
def hxG (F q : Nat) : Nat := F / 16 ^ (13 - q) + (if 16 ^ (13 - q) < 2 * (F % 16 ^ (13 - q)) ∨ (2 * (F % 16 ^ (13 - q)) = 16 ^ (13 - q) ∧ F / 16 ^ (13 - q) % 2 = 1) then 1 else 0)
def hxF (F q : Nat) : Nat := if hxG F q = 16 ^ q then 0 else hxG F q * 16 ^ (13 - q)
def hxX (F q : Nat) (x : Int) : Int := if hxG F q = 16 ^ q then x + 1 else x
theorem hxG_le {F q : Nat} (hF : F < 2 ^ 52) (hq : q ≤ 13) : hxG F q ≤ 16 ^ q := by
  have h1 : F / 16 ^ (13 - q) < 16 ^ q := by
    rw [Nat.div_lt_iff_lt_mul (pw_pos (by omega) _), ← Nat.pow_add, show q + (13 - q) = 13 by omega]
    exact hF
  unfold hxG
  by_cases h : 16 ^ (13 - q) < 2 * (F % 16 ^ (13 - q)) ∨ (2 * (F % 16 ^ (13 - q)) = 16 ^ (13 - q) ∧ F / 16 ^ (13 - q) % 2 = 1)
  · rw [if_pos h]; omega
  · rw [if_neg h]; omega
theorem hx_round {ld F q : Nat} {x : Int} (hF : F < 2 ^ 52) (hld : ld ≤ 1) (h0 : ld = 0 → F = 0) (hx : -1100 ≤ x ∧ x ≤ 1100) (hq1 : 1 ≤ q) (hq : q < 13) : ∃ M, f_Hex_roundTo (lN (ld * 2 ^ 52 + F)) (iI x) (nI 13) (nI q) = some (lN M, iI (hxX F q x), nI q) ∧ hxM ld (hxF F q) q M := by
  have hp16 : 0 < 16 ^ (13 - q) := pw_pos (by omega) _
  have eU : (2 : Nat) ^ (4 * (13 - q)) = 16 ^ (13 - q) := pw16 _
  have hUle : 16 ^ (13 - q) ≤ 16 ^ 12 := pw_le (by omega) (by omega)
  have e52 : (2 : Nat) ^ 52 = 16 ^ q * 16 ^ (13 - q) := by rw [← Nat.pow_add, show q + (13 - q) = 13 by omega]
  have hV : ld * 2 ^ 52 + F < 2 ^ 53 := by
    have : ld * 2 ^ 52 ≤ 1 * 2 ^ 52 := Nat.mul_le_mul_right _ hld
    omega
  have eD : (4 : Int32) * (nI 13 - nI q) = nI (4 * (13 - q)) := by rw [pk_sub (by omega)]; exact pk_mul 4 (13 - q)
  have e1 : (1 : Int64) <<< ((nI (4 * (13 - q))).toInt64 &&& 63) = lN (16 ^ (13 - q)) := by
    have := wb_shl 1 (k := 4 * (13 - q)) (by omega)
    rw [Nat.one_mul, eU] at this
    exact this
  have eM : lN (ld * 2 ^ 52 + F) &&& (lN (16 ^ (13 - q)) - (1 : Int64)) = lN (F % 16 ^ (13 - q)) := by
    rw [show (1 : Int64) = lN 1 from rfl, lN_sub (by omega), ← eU, wb_mask (by omega) (by omega), eU, e52, ← Nat.mul_assoc, Nat.add_comm, Nat.add_mul_mod_self_right]
  have eH : (1 : Int64) <<< ((nI (4 * (13 - q)) - (1 : Int32)).toInt64 &&& 63) = lN (16 ^ (13 - q) / 2) := by
    rw [show nI (4 * (13 - q)) - (1 : Int32) = nI (4 * (13 - q) - 1) from pk_sub (b := 1) (by omega)]
    have := wb_shl 1 (k := 4 * (13 - q) - 1) (by omega)
    rw [Nat.one_mul] at this
    rw [← eU, show (2 : Nat) ^ (4 * (13 - q)) / 2 = 2 ^ (4 * (13 - q) - 1) by
      rw [show 4 * (13 - q) = (4 * (13 - q) - 1) + 1 by omega, Nat.pow_succ, Nat.mul_div_cancel _ (by omega), Nat.add_sub_cancel]]
    exact this
  have eS : ((lN (ld * 2 ^ 52 + F)).toUInt64 >>> ((nI (4 * (13 - q))).toInt64.toUInt64 &&& Int64.toUInt64 63)).toInt64 = lN (ld * 16 ^ q + F / 16 ^ (13 - q)) := by
    rw [wb_shr (by omega) (by omega), eU, e52, ← Nat.mul_assoc, Nat.add_comm, Nat.add_mul_div_right _ _ hp16, Nat.add_comm]
  have hGlt : F / 16 ^ (13 - q) < 16 ^ q := by
    rw [Nat.div_lt_iff_lt_mul hp16, ← e52]
    exact hF
  have hq16 : 16 ^ q ≤ 16 ^ 12 := pw_le (by omega) (by omega)
  have hq16' : 16 ^ 1 ≤ 16 ^ q := pw_le (by omega) hq1
  have hldq : ld * 16 ^ q ≤ 16 ^ q := by
    have : ld * 16 ^ q ≤ 1 * 16 ^ q := Nat.mul_le_mul_right _ hld
    omega
  have hev : ld * 16 ^ q % 2 = 0 := by
    rw [show q = (q - 1) + 1 by omega, Nat.pow_succ, ← Nat.mul_assoc]
    omega
  have hU2 : 2 * (16 ^ (13 - q) / 2) = 16 ^ (13 - q) := by
    rw [show 13 - q = (13 - q - 1) + 1 by omega, Nat.pow_succ]
    omega
  have hmodlt : F % 16 ^ (13 - q) < 16 ^ (13 - q) := Nat.mod_lt _ hp16
  have fin : ∀ g : Nat, g = hxG F q → ∃ M, k_Hex_roundTo_86 (nI q) (lN (ld * 16 ^ q + g)) (iI x) (nI 13) = some (lN M, iI (hxX F q x), nI q) ∧ hxM ld (hxF F q) q M := by
    intro g hg
    have hgle := hxG_le hF (show q ≤ 13 by omega)
    rw [← hg] at hgle
    unfold k_Hex_roundTo_86 hxX hxF
    try dsimp only
    rw [← hg]
    have e4 : (4 : Int32) * nI q = nI (4 * q) := pk_mul 4 q
    rw [e4, wb_shr (by omega) (by omega), pw16]
    by_cases hov : g = 16 ^ q
    · rw [if_pos hov, if_pos hov]
      have hld1 : ld = 1 := by
        by_cases h : ld = 0
        · exfalso
          have hF0 := h0 h
          rw [hg, hF0] at hov
          unfold hxG at hov
          rw [Nat.zero_div, Nat.zero_mod, if_neg (fun z => by omega)] at hov
          omega
        · omega
      subst hld1
      refine ⟨16 ^ q, ifp ?_ ?_, hq1, by omega, by omega, 0, by omega, by rw [Nat.zero_mul], by rw [Nat.one_mul, Nat.add_zero]⟩
      · rw [lg_cmp_eq, hov, Nat.one_mul, ← Nat.two_mul, Nat.mul_div_cancel _ (by omega)]
        rfl
      · have e5 : ((lN (1 * 16 ^ q + g)).toUInt64 >>> ((1 : Int32).toInt64.toUInt64 &&& Int64.toUInt64 63)).toInt64 = lN ((1 * 16 ^ q + g) / 2 ^ 1) := wb_shr (k := 1) (by omega) (by omega)
        rw [e5, show (1 : Int32) = iI 1 from rfl, iI_add, hov, Nat.one_mul, ← Nat.two_mul, Nat.pow_one, Nat.mul_div_cancel_left _ (by omega)]
    · rw [if_neg hov, if_neg hov]
      refine ⟨ld * 16 ^ q + g, ifn (fun z => ?_) rfl, hq1, by omega, hld, g, by omega, rfl, rfl⟩
      rw [lg_cmp_eq, show (2 : Int64) = lN 2 from rfl, Nat.mul_comm, Nat.mul_add_div (by omega), Nat.div_eq_of_lt (show g < 16 ^ q by omega), lN_eq64 (by omega) (by omega)] at z
      omega
  unfold f_Hex_roundTo
  rw [eD, e1, eM, eH, eS]
  unfold k_Hex_roundTo_76
  have pre : ∀ {M : Nat} {X : Option (Int64 × Int32 × Int32)} {Y : Option (Int64 × Int32 × Int32)}, X = Y → (if nI q < (1 : Int32) then some (lN (ld * 2 ^ 52 + F), iI x, nI 13) else (if nI q < nI 13 then X else some (lN (ld * 2 ^ 52 + F), iI x, nI 13))) = Y := fun h => ifn (qnlt 1 hq1) (ifp (nI_lt hq (by omega)) h)
  by_cases c1 : 16 ^ (13 - q) < 2 * (F % 16 ^ (13 - q))
  · obtain ⟨M, q1, q2⟩ := fin (F / 16 ^ (13 - q) + 1) (by unfold hxG; rw [if_pos (Or.inl c1)])
    refine ⟨M, pre (M := M) (ifp ?_ ?_), q2⟩
    · rw [lg_cmp_gt]
      exact (pk_lLT (by omega) (by omega)).mpr (by omega)
    · rw [lN_1, Nat.add_assoc]
      exact q1
  · have cneg : ¬ 0 < lg_cmp (lN (F % 16 ^ (13 - q))) (lN (16 ^ (13 - q) / 2)) := by
      rw [lg_cmp_gt, pk_lLT (by omega) (by omega)]
      omega
    by_cases c2 : 2 * (F % 16 ^ (13 - q)) = 16 ^ (13 - q)
    · have c2' : lg_cmp (lN (F % 16 ^ (13 - q))) (lN (16 ^ (13 - q) / 2)) = 0 := by
        rw [lg_cmp_eq]
        congr 1
        omega
      rw [show (lN (ld * 16 ^ q + F / 16 ^ (13 - q)) &&& (1 : Int64)) = lN ((ld * 16 ^ q + F / 16 ^ (13 - q)) % 2) from wb_a1 (by omega)]
      by_cases c3 : F / 16 ^ (13 - q) % 2 = 1
      · obtain ⟨M, q1, q2⟩ := fin (F / 16 ^ (13 - q) + 1) (by unfold hxG; rw [if_pos (Or.inr ⟨c2, c3⟩)])
        refine ⟨M, pre (M := M) (ifn cneg (ifp c2' (ifp ?_ ?_))), q2⟩
        · rw [lg_cmp_eq, show (ld * 16 ^ q + F / 16 ^ (13 - q)) % 2 = 1 by omega]
          rfl
        · rw [lN_1, Nat.add_assoc]
          exact q1
      · obtain ⟨M, q1, q2⟩ := fin (F / 16 ^ (13 - q)) (by unfold hxG; rw [if_neg (fun z => z.elim c1 (fun y => c3 y.2))]; rfl)
        refine ⟨M, pre (M := M) (ifn cneg (ifp c2' (ifn ?_ q1))), q2⟩
        rw [lg_cmp_eq, show (ld * 16 ^ q + F / 16 ^ (13 - q)) % 2 = 0 by omega]
        decide
    · obtain ⟨M, q1, q2⟩ := fin (F / 16 ^ (13 - q)) (by unfold hxG; rw [if_neg (fun z => z.elim c1 (fun y => c2 y.1))]; rfl)
      refine ⟨M, pre (M := M) (ifn cneg (ifn (fun z => ?_) q1)), q2⟩
      rw [lg_cmp_eq, lN_eq64 (by omega) (by omega)] at z
      omega
def hxN (F n : Nat) : Prop := 1 ≤ n ∧ n ≤ 13 ∧ F % 16 ^ (13 - n) = 0 ∧ (n = 1 ∨ F / 16 ^ (13 - n) % 16 ≠ 0)
theorem hx_drop {ld F : Nat} (hF : F < 2 ^ 52) (hld : ld ≤ 1) : ∀ (d m : Nat), 1 ≤ d → d ≤ 13 → d < m → F % 16 ^ (13 - d) = 0 → ∃ n M, lp_ b_Hex_dropZeros_0 m (lN (ld * 16 ^ d + F / 16 ^ (13 - d)), nI d) = some (lN M, nI n) ∧ hxN F n ∧ hxM ld F n M := by
  intro d
  induction d with
  | zero => intro m h; omega
  | succ d ih =>
    intro m _ hd hm hz
    obtain ⟨m, rfl⟩ : ∃ j, m = j + 1 := ⟨m - 1, by omega⟩
    have hp := pw_pos (b := 16) (by omega) (13 - (d + 1))
    have hG : F / 16 ^ (13 - (d + 1)) < 16 ^ (d + 1) := by
      rw [Nat.div_lt_iff_lt_mul hp, ← Nat.pow_add, show d + 1 + (13 - (d + 1)) = 13 by omega]
      exact hF
    have hFe : F = F / 16 ^ (13 - (d + 1)) * 16 ^ (13 - (d + 1)) := by
      have := Nat.div_add_mod F (16 ^ (13 - (d + 1)))
      rw [hz, Nat.add_zero, Nat.mul_comm] at this
      exact this.symm
    have hxm : hxM ld F (d + 1) (ld * 16 ^ (d + 1) + F / 16 ^ (13 - (d + 1))) := ⟨by omega, hd, hld, _, hG, hFe, rfl⟩
    have hM := hxM_lt hxm
    have stop : (d + 1 = 1 ∨ F / 16 ^ (13 - (d + 1)) % 16 ≠ 0) → hxN F (d + 1) := fun h => ⟨by omega, hd, hz, h⟩
    by_cases h1 : d = 0
    · subst h1
      refine ⟨1, _, ?_, stop (Or.inl rfl), hxm⟩
      show b_Hex_dropZeros_0 (lp_ b_Hex_dropZeros_0 m) _ = _
      rw [e_Hex_dropZeros_0]
      exact ifp (by decide) rfl
    · have ea : lN (ld * 16 ^ (d + 1) + F / 16 ^ (13 - (d + 1))) &&& (15 : Int64) = lN (F / 16 ^ (13 - (d + 1)) % 16) := by
        rw [show (15 : Int64) = lN (2 ^ 4 - 1) from by decide, wb_mask (by omega) (by omega)]
        congr 1
        rw [Nat.pow_succ, ← Nat.mul_assoc]
        omega
      by_cases h2 : F / 16 ^ (13 - (d + 1)) % 16 = 0
      · have e5 : 13 - d = (13 - (d + 1)) + 1 := by omega
        have hz' : F % 16 ^ (13 - d) = 0 := by rw [e5, Nat.pow_succ, Nat.mod_mul, hz, h2, Nat.mul_zero]
        have e6 : (ld * 16 ^ (d + 1) + F / 16 ^ (13 - (d + 1))) / 2 ^ 4 = ld * 16 ^ d + F / 16 ^ (13 - d) := by
          rw [e5, Nat.pow_succ 16 d, Nat.pow_succ 16 (13 - (d + 1)), ← Nat.mul_assoc, ← Nat.div_div_eq_div_mul]
          generalize F / 16 ^ (13 - (d + 1)) = X
          generalize ld * 16 ^ d = Y
          omega
        obtain ⟨n, M, q1, q2, q3⟩ := ih m (by omega) (by omega) (by omega) hz'
        refine ⟨n, M, ?_, q2, q3⟩
        rw [← q1]
        show b_Hex_dropZeros_0 (lp_ b_Hex_dropZeros_0 m) _ = _
        generalize lp_ b_Hex_dropZeros_0 m = rc
        rw [e_Hex_dropZeros_0]
        have e7 : ((lN (ld * 16 ^ (d + 1) + F / 16 ^ (13 - (d + 1)))).toUInt64 >>> ((4 : Int32).toInt64.toUInt64 &&& Int64.toUInt64 63)).toInt64 = lN ((ld * 16 ^ (d + 1) + F / 16 ^ (13 - (d + 1))) / 2 ^ 4) := wb_shr (k := 4) (by omega) (by omega)
        rw [ea, h2, e7, e6, show nI (d + 1) - (1 : Int32) = nI d from nI_pred d]
        exact ifn (qnle 1 (by omega)) (ifp (by decide) rfl)
      · refine ⟨d + 1, _, ?_, stop (Or.inr h2), hxm⟩
        show b_Hex_dropZeros_0 (lp_ b_Hex_dropZeros_0 m) _ = _
        rw [e_Hex_dropZeros_0]
        rw [ea]
        refine ifn (qnle 1 (by omega)) (ifn (fun z => ?_) rfl)
        rw [lg_cmp_eq] at z
        have hlt : F / 16 ^ (13 - (d + 1)) % 16 < 16 := Nat.mod_lt _ (by omega)
        exact h2 ((lN_eq64 (by omega) (by decide : 0 < 2 ^ 64)).mp z)
def hxDs (F : Nat) (k : Nat) : Nat → List Nat
  | 0 => []
  | n + 1 => lett (hxd F k) :: hxDs F (k + 1) n
theorem hxDs_len (F : Nat) : ∀ (n k : Nat), (hxDs F k n).length = n
  | 0, _ => rfl
  | n + 1, k => by
    show (hxDs F (k + 1) n).length + 1 = n + 1
    rw [hxDs_len F n]
def hexL (ld F : Nat) (x : Int) (n : Nat) : List Nat := [48 + ld] ++ ([46] ++ (hxDs F 1 n ++ ([112] ++ nmL x 1)))
theorem hxd_lt (F k : Nat) : hxd F k < 16 := by
  unfold hxd
  by_cases h : k ≤ 13
  · rw [if_pos h]
    exact Nat.mod_lt _ (by omega)
  · rw [if_neg h]
    omega
theorem cp_hexdigs {ld F d M : Nat} {x : Int} (h : hxM ld F d M) (hx : -1200 ≤ x ∧ x ≤ 1200) {nb : Nat} (BO Hu Hb : Int32) (Hc : Nat → Int32) {n : Nat} (hn : n ≤ 1000) : ∀ (r k m : Nat) (f : Nat → Int32) (u bu : Int32) (L : List Nat), k + r = n + 1 → 0 < k → r < m → L.length + r + 6 ≤ nb → rowOK nb f u L →
    ∃ s : Int32 × Int32 × (Nat → Int32), lp_ (b_Composer_setHex_99 5000 nb (nI n) BO Hu Hb Hc (lN M) (iI x) (nI d)) m (nI k, u, bu, f) = some (BO, Hu, Hb, Hc, s.1, s.2.1, s.2.2, lN M, iI x, nI d) ∧ rowOK nb s.2.2 s.1 (L ++ (hxDs F k r ++ ([112] ++ nmL x 1))) := by
  intro r
  induction r with
  | zero =>
    intro k m f u bu L hk hk0 hm hl hr
    obtain ⟨m, rfl⟩ : ∃ j, m = j + 1 := ⟨m - 1, by omega⟩
    obtain ⟨s1, y1, y2⟩ := ro_add (c := 112) bu hr (by omega) (by omega)
    obtain ⟨s2, z1, z2⟩ := ro_number (z := x) (least := 1) (by omega) (Or.inl rfl) s1.2.1 y2 (by rw [List.length_append]; show L.length + 1 + 5 ≤ nb; omega)
    refine ⟨s2, ?_, ?_⟩
    · show b_Composer_setHex_99 5000 nb (nI n) BO Hu Hb Hc (lN M) (iI x) (nI d) (lp_ (b_Composer_setHex_99 5000 nb (nI n) BO Hu Hb Hc (lN M) (iI x) (nI d)) m) _ = _
      rw [e_Composer_setHex_99]
      exact ifp (nI_lt (by omega) (by omega)) (bnd y1 (bnd z1 rfl))
    · rw [List.append_assoc] at z2
      exact z2
  | succ r ih =>
    intro k m f u bu L hk hk0 hm hl hr
    obtain ⟨m, rfl⟩ : ∃ j, m = j + 1 := ⟨m - 1, by omega⟩
    have hd16 := hxd_lt F k
    have ha := hx_at h (k := k) (by omega)
    rw [if_neg (by omega)] at ha
    obtain ⟨s1, y1, y2⟩ := ro_add bu hr (lett_lt _ hd16) (by omega)
    obtain ⟨s2, z1, z2⟩ := ih (k + 1) m s1.2.2 s1.1 s1.2.1 _ (by omega) (by omega) (by omega) (by rw [List.length_append]; show L.length + 1 + r + 6 ≤ nb; omega) y2
    refine ⟨s2, ?_, ?_⟩
    · rw [← z1]
      show b_Composer_setHex_99 5000 nb (nI n) BO Hu Hb Hc (lN M) (iI x) (nI d) (lp_ (b_Composer_setHex_99 5000 nb (nI n) BO Hu Hb Hc (lN M) (iI x) (nI d)) m) _ = _
      generalize lp_ (b_Composer_setHex_99 5000 nb (nI n) BO Hu Hb Hc (lN M) (iI x) (nI d)) m = rc
      rw [e_Composer_setHex_99]
      rw [nI_1]
      exact ifn (nI_nlt (by omega) (by omega)) (bnd ha (bnd (cp_letter _ hd16) (bnd y1 rfl)))
    · rw [List.append_assoc] at z2
      exact z2
