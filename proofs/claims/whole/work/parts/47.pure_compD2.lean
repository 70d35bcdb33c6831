theorem sp_anyT {fl x : Int32} {b : Bool} (h : hA fl x = b) : f_Specifier_hasAny fl x = some (bI b) := by rw [sp_any, h]
theorem mo_anyT {fl x : Int32} {b : Bool} (h : hA fl x = b) : f_Model_has fl x = some (bI b) := by rw [mo_any, h]
theorem rnd_0 (c : Nat) : rnd 0 c = 0 := by
  cases c with
  | zero => rfl
  | succ c =>
    show (0 / 10 ^ c + 5) / 10 * 10 ^ (c + 1) = 0
    rw [Nat.zero_div, show (0 + 5) / 10 = 0 from rfl, Nat.zero_mul]
theorem rnd_mul {H c : Nat} : rnd (H * 10 ^ c) c = H * 10 ^ c := by
  cases c with
  | zero => rfl
  | succ c =>
    show (H * 10 ^ (c + 1) / 10 ^ c + 5) / 10 * 10 ^ (c + 1) = _
    rw [show H * 10 ^ (c + 1) / 10 ^ c = H * 10 by rw [Nat.pow_succ, Nat.mul_comm (10 ^ c), ← Nat.mul_assoc, Nat.mul_div_cancel _ (pw_pos (by omega) c)]]
    congr 1
    omega
theorem rnd_nd {N c : Nat} (h0 : N ≠ 0) (hc : c < nd 10 N) : rnd N c ≠ 0 ∧ ((nd 10 (rnd N c) = nd 10 N ∧ ∃ H, rnd N c = H * 10 ^ c) ∨ rnd N c = 10 ^ nd 10 N) := by
  cases c with
  | zero => exact ⟨h0, Or.inl ⟨rfl, N, by rw [Nat.pow_zero, Nat.mul_one]; rfl⟩⟩
  | succ c =>
    have h1 := nd_lt (b := 10) (by omega) N
    have h2 := nd_ge (b := 10) (by omega) N h0
    show (N / 10 ^ c + 5) / 10 * 10 ^ (c + 1) ≠ 0 ∧ _
    obtain ⟨k, hk⟩ : ∃ k, nd 10 N = (k + 1) + (c + 1) := ⟨nd 10 N - c - 2, by omega⟩
    have hX1 : 10 ^ (k + 1) ≤ N / 10 ^ c := by
      rw [Nat.le_div_iff_mul_le (pw_pos (by omega) c), ← Nat.pow_add, show k + 1 + c = nd 10 N - 1 by omega]
      exact h2
    have hX2 : N / 10 ^ c < 10 ^ (k + 2) := by
      rw [Nat.div_lt_iff_lt_mul (pw_pos (by omega) c), ← Nat.pow_add, show k + 2 + c = nd 10 N by omega]
      exact h1
    have e1 : 10 ^ (k + 1) = 10 ^ k * 10 := Nat.pow_succ 10 k
    have e2 : 10 ^ (k + 2) = 10 ^ k * 10 * 10 := by rw [Nat.pow_succ, Nat.pow_succ]
    have hp := pw_pos (b := 10) (by omega) k
    have er : rnd N (c + 1) = (N / 10 ^ c + 5) / 10 * 10 ^ (c + 1) := rfl
    rw [er]
    have hM1 : 10 ^ k ≤ (N / 10 ^ c + 5) / 10 := by omega
    have hM2 : (N / 10 ^ c + 5) / 10 ≤ 10 ^ (k + 1) := by omega
    generalize (N / 10 ^ c + 5) / 10 = M at hM1 hM2
    have hM0 : M ≠ 0 := by omega
    refine ⟨Nat.ne_of_gt (Nat.mul_pos (by omega) (pw_pos (by omega) _)), ?_⟩
    by_cases hM : M = 10 ^ (k + 1)
    · right
      rw [hM, hk, ← Nat.pow_add]
    · left
      refine ⟨?_, M, rfl⟩
      rw [nd_mul10 hM0, nd_eq (b := 10) (m := k) (by omega) hM1 (by omega)]
      omega
theorem rnd_idem {N q : Nat} (h0 : N ≠ 0) : rnd N (nd 10 N - 1 - q) ≠ 0 ∧ rnd (rnd N (nd 10 N - 1 - q)) (nd 10 (rnd N (nd 10 N - 1 - q)) - 1 - q) = rnd N (nd 10 N - 1 - q) := by
  have hp := nd_pos (b := 10) (by omega) h0
  obtain ⟨h1, h2⟩ := rnd_nd h0 (show nd 10 N - 1 - q < nd 10 N by omega)
  refine ⟨h1, ?_⟩
  rcases h2 with ⟨h2, H, h3⟩ | h2
  · rw [h2, h3]
    exact rnd_mul
  · have e := nd_eq (b := 10) (N := 10 ^ nd 10 N) (m := nd 10 N) (by omega) (Nat.le_refl _) (Nat.pow_lt_pow_right (by omega) (by omega))
    rw [h2, e]
    rw [show 10 ^ nd 10 N = 10 ^ (nd 10 N - (nd 10 N + 1 - 1 - q)) * 10 ^ (nd 10 N + 1 - 1 - q) by rw [← Nat.pow_add]; congr 1; omega]
    exact rnd_mul
theorem rnd_ndle {N c : Nat} : nd 10 (rnd N c) ≤ nd 10 N + 1 := by
  by_cases h0 : N = 0
  · rw [h0, rnd_0, nd_0]
    omega
  · by_cases hc : c < nd 10 N
    · rcases (rnd_nd h0 hc).2 with ⟨h, _⟩ | h
      · rw [h]
        omega
      · rw [h, nd_eq (b := 10) (N := 10 ^ nd 10 N) (m := nd 10 N) (by omega) (Nat.le_refl _) (Nat.pow_lt_pow_right (by omega) (by omega))]
        omega
    · by_cases hc2 : nd 10 N < c
      · rw [rnd_big hc2, nd_0]
        omega
      · have hc3 : c = nd 10 N := by omega
        subst hc3
        have hp := nd_pos (b := 10) (by omega) h0
        obtain ⟨c, hcc⟩ : ∃ c, nd 10 N = c + 1 := ⟨nd 10 N - 1, by omega⟩
        rw [hcc]
        refine nd_le (by omega) ?_
        show (N / 10 ^ c + 5) / 10 * 10 ^ (c + 1) < _
        have h1 : N / 10 ^ c < 10 := by
          rw [Nat.div_lt_iff_lt_mul (pw_pos (by omega) c), Nat.mul_comm, ← Nat.pow_succ, Nat.succ_eq_add_one, ← hcc]
          exact nd_lt (by omega) N
        have h2 : (N / 10 ^ c + 5) / 10 * 10 ^ (c + 1) ≤ 1 * 10 ^ (c + 1) := Nat.mul_le_mul_right _ (by omega)
        have h3 : 10 ^ (c + 1) < 10 ^ (c + 1 + 1) := Nat.pow_lt_pow_right (by omega) (by omega)
        omega
theorem dg_round {f : Nat → Int32} {u : Int32} {N : Nat} {x lo : Int32} {z : Int} (h : dgOK 10 f u N) (hN : nd 10 N < 208) (hx : x - lo = iI z) (hz : -100000 ≤ z ∧ z ≤ 100000) : ∃ (u' : Int32) (f' : Nat → Int32), f_Digits_roundTo 5000 f u lo x = some (u', f') ∧ dgOK 10 f' u' (rnd N z.toNat) := by
  by_cases hp : 0 ≤ z
  · exact dg_roundTo h hN (c := z.toNat) (by rw [hx, ← iI_nat]; congr 1; omega) (by omega)
  · refine ⟨u, f, dg_roundTo_neg (by rw [hx]; exact inlt 0 z (by omega)), ?_⟩
    rw [show z.toNat = 0 by omega]
    exact h
theorem frs_range {N : Nat} {lo : Int} (hN : nd 10 N < 208) (hlo : -401 ≤ lo ∧ lo ≤ 401) : -402 ≤ frs 10 N lo ∧ frs 10 N lo ≤ 608 := by
  unfold frs
  by_cases h0 : N = 0
  · rw [if_pos h0]; omega
  · rw [if_neg h0]
    have := nd_pos (b := 10) (by omega) h0
    omega
def fixL (N : Nat) (lo p : Int) (fl : Int32) : List Nat := wlN (fun e => dl 10 N lo e) (hA fl 32) (frs 10 N lo).toNat ++ bp (dl 10 N lo) (-1) (-p) (hA fl 2)
theorem cp_fixed {N n : Nat} {dc : Nat → Int32} {du : Int32} {lo p : Int} (hd : dgOK 10 dc du N) (hN : nd 10 N < 208) (hlo : -401 ≤ lo ∧ lo ≤ 401) (hp : 0 ≤ p ∧ p ≤ 2000) (fl : Int32) {f : Nat → Int32} {u : Int32} (bu : Int32) {L : List Nat} (h : rowOK n f u L)
    (hl : L.length + (frs 10 (rnd N (-p - lo).toNat) lo).toNat + 1 + (frs 10 (rnd N (-p - lo).toNat) lo).toNat / 3 + 1 + p.toNat ≤ n) :
    ∃ r : Int32 × Int32 × (Nat → Int32) × Int32 × (Nat → Int32), f_Composer_setFixed 5000 fl n f u bu dc du (iI lo) (iI p) = some r ∧ rowOK n r.2.2.1 r.1 (L ++ fixL (rnd N (-p - lo).toNat) lo p fl) := by
  have hx : -(iI p) - iI lo = iI (-p - lo) := by rw [iI_neg, iI_sub]
  obtain ⟨u1, f1, a1, a2⟩ := dg_round hd hN hx (by omega)
  obtain ⟨s1, b1, b2⟩ := cp_whole (b := 10) (lo := lo) (by omega) a2 (by omega) (hA fl 32) bu h (by omega)
  have hlen := wlN_len (fun e => dl 10 (rnd N (-p - lo).toNat) lo e) (hA fl 32) (frs 10 (rnd N (-p - lo).toNat) lo).toNat
  obtain ⟨s2, c1, c2⟩ := cp_behind (b := 10) (lo := lo) (a := -1) (last := -p) (by omega) a2 (by omega) (by omega) (by omega) s1.2.1 b2 (by omega) (by rw [List.length_append]; omega) (hA fl 2)
  refine ⟨(s2.1, s2.2.1, s2.2.2, u1, f1), ?_, ?_⟩
  · unfold f_Composer_setFixed
    refine bnd a1 (bnd (sp_any _ _) (bnd b1 (bnd (sp_any _ _) (bnd ?_ rfl))))
    rw [iI_neg]
    exact c1
  · unfold fixL
    rw [← List.append_assoc]
    exact c2
theorem wrd_13 : wrd 13 = [101] := by decide +kernel
theorem wrd_14 : wrd 14 = [101, 43] := by decide +kernel
def sciL (N : Nat) (lo p : Int) (fl : Int32) : List Nat := [dl 10 N lo (frs 10 N lo)] ++ (bp (dl 10 N lo) (frs 10 N lo - 1) (frs 10 N lo - p) (hA fl 2) ++ ((if frs 10 N lo < 0 then [101] else [101, 43]) ++ nmL (frs 10 N lo) 2))
theorem bp_len (F : Int → Nat) (a last : Int) (pa : Bool) : (bp F a last pa).length ≤ 1 + (a - last + 1).toNat := by
  unfold bp
  rw [List.length_append, dnI_len]
  by_cases h : last ≤ a ∨ pa = true
  · rw [if_pos h]
    show 1 + _ ≤ _
    omega
  · rw [if_neg h]
    show 0 + _ ≤ _
    omega
theorem cp_sci {N n : Nat} {dc : Nat → Int32} {du : Int32} {lo p : Int} (hd : dgOK 10 dc du N) (hN : nd 10 N < 207) (hlo : -401 ≤ lo ∧ lo ≤ 401) (hp : 0 ≤ p ∧ p ≤ 2000) (fl : Int32) {f : Nat → Int32} {u : Int32} (bu : Int32) {L : List Nat} (h : rowOK n f u L) (hl : L.length + 9 + p.toNat ≤ n) :
    ∃ r : Int32 × Int32 × (Nat → Int32) × Int32 × (Nat → Int32), f_Composer_setScientific 5000 fl n f u bu dc du (iI lo) (iI p) = some r ∧ rowOK n r.2.2.1 r.1 (L ++ sciL (rnd N (frs 10 N lo - p - lo).toNat) lo p fl) := by
  have hf0 := frs_range (N := N) (lo := lo) (by omega) hlo
  have hx : (iI (frs 10 N lo) - iI p) - iI lo = iI (frs 10 N lo - p - lo) := by rw [iI_sub, iI_sub]
  obtain ⟨u1, f1, a1, a2⟩ := dg_round hd (by omega) hx (by omega)
  have hnd := rnd_ndle (N := N) (c := (frs 10 N lo - p - lo).toNat)
  generalize rnd N (frs 10 N lo - p - lo).toNat = M at a2 hnd
  have hf := frs_range (N := M) (lo := lo) (by omega) hlo
  obtain ⟨x, x1, x2, x3⟩ := cp_dl (b := 10) (lo := lo) (e := frs 10 M lo) (by omega) a2 (by omega) (by omega)
  obtain ⟨s1, y1, y2⟩ := ro_add bu h x3 (by omega)
  have l1 : (L ++ [dl 10 M lo (frs 10 M lo)]).length = L.length + 1 := by rw [List.length_append]; rfl
  obtain ⟨s2, c1, c2⟩ := cp_behind (b := 10) (lo := lo) (a := frs 10 M lo - 1) (last := frs 10 M lo - p) (by omega) a2 (by omega) (by omega) (by omega) s1.2.1 y2 (by omega) (by rw [l1]; omega) (hA fl 2)
  have l2 : (L ++ [dl 10 M lo (frs 10 M lo)] ++ bp (dl 10 M lo) (frs 10 M lo - 1) (frs 10 M lo - p) (hA fl 2)).length ≤ L.length + 2 + p.toNat := by
    have := bp_len (dl 10 M lo) (frs 10 M lo - 1) (frs 10 M lo - p) (hA fl 2)
    rw [List.length_append, l1]
    omega
  unfold f_Composer_setScientific sciL
  have fin : ∀ (t : Nat) (w : List Nat), t < nS → wrd t = w → w.length ≤ 2 → ∃ r : Int32 × Int32 × (Nat → Int32) × Int32 × (Nat → Int32), k_Composer_setScientific_77 5000 n (iI (frs 10 M lo)) t s2.1 s2.2.1 s2.2.2 u1 f1 = some r ∧ rowOK n r.2.2.1 r.1 (L ++ ([dl 10 M lo (frs 10 M lo)] ++ (bp (dl 10 M lo) (frs 10 M lo - 1) (frs 10 M lo - p) (hA fl 2) ++ (w ++ nmL (frs 10 M lo) 2)))) := by
    intro t w ht hw hwl
    obtain ⟨s3, d1, d2⟩ := ro_word s2.2.1 c2 ht (by rw [hw]; omega)
    rw [hw] at d2
    obtain ⟨s4, e1, e2⟩ := ro_number (z := frs 10 M lo) (least := 2) (by omega) (Or.inr rfl) s3.2.1 d2 (by rw [List.length_append]; omega)
    refine ⟨(s4.1, s4.2.1, s4.2.2, u1, f1), ?_, ?_⟩
    · unfold k_Composer_setScientific_77
      try dsimp only
      exact bnd d1 (bnd e1 rfl)
    · rw [← List.append_assoc, ← List.append_assoc, ← List.append_assoc]
      exact e2
  by_cases hn : frs 10 M lo < 0
  · rw [if_pos hn]
    obtain ⟨r, r1, r2⟩ := fin 13 [101] (by decide) wrd_13 (by decide)
    refine ⟨r, bnd (dg_first (by omega) hd) (bnd a1 (bnd (dg_first (by omega) a2) (bnd x1 (bnd x2 (bnd y1 (bnd (sp_any _ _) (bnd ?_ (ifn (inle 0 _ hn) r1)))))))), r2⟩
    rw [show (1 : Int32) = iI 1 from rfl, iI_sub, iI_sub]
    exact c1
  · rw [if_neg hn]
    obtain ⟨r, r1, r2⟩ := fin 14 [101, 43] (by decide) wrd_14 (by decide)
    refine ⟨r, bnd (dg_first (by omega) hd) (bnd a1 (bnd (dg_first (by omega) a2) (bnd x1 (bnd x2 (bnd y1 (bnd (sp_any _ _) (bnd ?_ (ifp (ile 0 (frs 10 M lo) (by omega)) r1)))))))), r2⟩
    rw [show (1 : Int32) = iI 1 from rfl, iI_sub, iI_sub]
    exact c1
def sgn (below : Bool) (fl : Int32) : List Nat := if below = true then [if hA fl 64 = true then 40 else 45] else if hA fl 4 = true then [43] else if hA fl 8 = true then [32] else []
theorem sgn_len (below : Bool) (fl : Int32) : (sgn below fl).length ≤ 1 := by
  unfold sgn
  by_cases h1 : below = true
  · rw [if_pos h1]
    exact Nat.le_refl _
  · rw [if_neg h1]
    by_cases h2 : hA fl 4 = true
    · rw [if_pos h2]
      exact Nat.le_refl _
    · rw [if_neg h2]
      by_cases h3 : hA fl 8 = true
      · rw [if_pos h3]
        exact Nat.le_refl _
      · rw [if_neg h3]
        exact Nat.zero_le _
theorem cp_sign {n : Nat} (hn : 0 < n) (below : Bool) (fl : Int32) {f : Nat → Int32} (hu : Int32) (h : rowOK n f 0 []) : ∃ s : Int32 × Int32 × Int32 × (Nat → Int32), f_Composer_setSign 0 fl n f 0 hu (bI below) = some s ∧ s.1 = bI (below && hA fl 64) ∧ rowOK n s.2.2.2 s.2.1 (sgn below fl) := by
  have one : ∀ (x : Int32) (c : Nat), c < 128 → ∃ s : Int32 × Int32 × Int32 × (Nat → Int32), ((f_Row_add n f 0 hu (nI c)).bind fun u_35 => some (x, u_35.1, u_35.2.1, u_35.2.2)) = some s ∧ s.1 = x ∧ rowOK n s.2.2.2 s.2.1 [c] := by
    intro x c hc
    obtain ⟨s1, y1, y2⟩ := ro_add hu h hc hn
    exact ⟨_, bnd y1 rfl, rfl, y2⟩
  unfold f_Composer_setSign k_Composer_setSign_35 sgn
  try dsimp only
  cases below with
  | true =>
    rw [if_pos rfl]
    cases hb : hA fl 64 with
    | true =>
      obtain ⟨s, q1, q2, q3⟩ := one 1 40 (by omega)
      refine ⟨s, ifn (by decide) (bnd (sp_anyT hb) (ifn (by decide) q1)), q2, q3⟩
    | false =>
      obtain ⟨s, q1, q2, q3⟩ := one 0 45 (by omega)
      refine ⟨s, ifn (by decide) (bnd (sp_anyT hb) (ifp rfl q1)), q2, q3⟩
  | false =>
    rw [if_neg (show ¬ false = true by decide)]
    cases h4 : hA fl 4 with
    | true =>
      rw [if_pos rfl]
      obtain ⟨s, q1, q2, q3⟩ := one 0 43 (by omega)
      refine ⟨s, ifp rfl (bnd (sp_anyT h4) (ifn (by decide) q1)), q2, q3⟩
    | false =>
      rw [if_neg (show ¬ false = true by decide)]
      cases h8 : hA fl 8 with
      | true =>
        rw [if_pos rfl]
        obtain ⟨s, q1, q2, q3⟩ := one 0 32 (by omega)
        refine ⟨s, ifp rfl (bnd (sp_anyT h4) (ifp rfl (bnd (sp_anyT h8) (ifn (by decide) q1)))), q2, q3⟩
      | false =>
        rw [if_neg (show ¬ false = true by decide)]
        exact ⟨(0, 0, hu, f), ifp rfl (bnd (sp_anyT h4) (ifp rfl (bnd (sp_anyT h8) (ifp rfl rfl)))), rfl, h⟩
theorem cp_minus {n : Nat} (below : Bool) {f : Nat → Int32} {u : Int32} (bu : Int32) {L : List Nat} (h : rowOK n f u L) (hl : L.length < n) : ∃ s : Int32 × Int32 × (Nat → Int32), f_Composer_addMinus n f u bu (bI below) = some s ∧ rowOK n s.2.2 s.1 (L ++ (if below = true then [45] else [])) := by
  unfold f_Composer_addMinus
  cases below with
  | true =>
    obtain ⟨s1, y1, y2⟩ := ro_add (c := 45) bu h (by omega) hl
    exact ⟨s1, ifn (by decide) (bnd y1 rfl), y2⟩
  | false =>
    refine ⟨(u, bu, f), ifp rfl rfl, ?_⟩
    show rowOK n f u (L ++ [])
    rw [List.append_nil]
    exact h
def trL (is : Bool) : List Nat := if is = true then [116, 114, 117, 101] else [102, 97, 108, 115, 101]
theorem wrd_4 : wrd 4 = [102, 97, 108, 115, 101] := by decide +kernel
theorem wrd_8 : wrd 8 = [116, 114, 117, 101] := by decide +kernel
theorem cp_truth {n : Nat} (is : Bool) {f : Nat → Int32} {u : Int32} (bu : Int32) {L : List Nat} (h : rowOK n f u L) (hl : L.length + 5 ≤ n) : ∃ s : Int32 × Int32 × (Nat → Int32), f_Composer_addTruth 5000 n f u bu (bI is) = some s ∧ rowOK n s.2.2 s.1 (L ++ trL is) := by
  unfold f_Composer_addTruth k_Composer_addTruth_16
  try dsimp only
  cases is with
  | true =>
    obtain ⟨s1, y1, y2⟩ := ro_word (t := 8) bu h (by decide) (by rw [wrd_8]; show L.length + 4 ≤ n; omega)
    rw [wrd_8] at y2
    exact ⟨s1, ifn (by decide) (bnd y1 rfl), y2⟩
  | false =>
    obtain ⟨s1, y1, y2⟩ := ro_word (t := 4) bu h (by decide) (by rw [wrd_4]; exact hl)
    rw [wrd_4] at y2
    exact ⟨s1, ifp rfl (bnd y1 rfl), y2⟩
theorem wrd_9 : wrd 9 = [69, 43] := by decide +kernel
theorem wrd_10 : wrd 10 = [69] := by decide +kernel
def dtL (N : Nat) (lo : Int) : List Nat :=
  if lo ≤ 0 ∧ -6 ≤ (if N = 0 then lo else frs 10 N lo) then wlN (fun e => dl 10 N lo e) false (frs 10 N lo).toNat ++ bp (dl 10 N lo) (-1) lo false
  else [dl 10 N lo (if N = 0 then lo else frs 10 N lo)] ++ (bp (dl 10 N lo) ((if N = 0 then lo else frs 10 N lo) - 1) lo false ++ (if (if N = 0 then lo else frs 10 N lo) = 0 then [] else (if 0 < (if N = 0 then lo else frs 10 N lo) then [69, 43] else [69]) ++ nmL (if N = 0 then lo else frs 10 N lo) 1))
theorem cp_dtext {N n : Nat} {dc : Nat → Int32} {du : Int32} {lo : Int} (hd : dgOK 10 dc du N) (hN : nd 10 N < 207) (hlo : -400 ≤ lo ∧ lo ≤ 400) {f : Nat → Int32} {u : Int32} (bu : Int32) {L : List Nat} (h : rowOK n f u L) (hl : L.length + 1600 ≤ n) :
    ∃ s : Int32 × Int32 × (Nat → Int32), k_Composer_setDecimalText_34 5000 n dc du (iI lo) (iI lo) (iI (if N = 0 then lo else frs 10 N lo)) u bu f = some s ∧ rowOK n s.2.2 s.1 (L ++ dtL N lo) := by
  have hfr := frs_range (N := N) (lo := lo) (by omega) (by omega)
  have hge : N ≠ 0 → frs 10 N lo ≥ lo ∧ frs 10 N lo ≤ lo + 207 := by
    intro h0
    unfold frs
    rw [if_neg h0]
    have := nd_pos (b := 10) (by omega) h0
    omega
  have hF : lo ≤ (if N = 0 then lo else frs 10 N lo) ∧ (if N = 0 then lo else frs 10 N lo) ≤ lo + 207 := by
    by_cases h0 : N = 0
    · rw [if_pos h0]; omega
    · rw [if_neg h0]; exact hge h0
  unfold dtL k_Composer_setDecimalText_34
  try dsimp only
  by_cases hc : lo ≤ 0 ∧ -6 ≤ (if N = 0 then lo else frs 10 N lo)
  · rw [if_pos hc]
    generalize (if N = 0 then lo else frs 10 N lo) = F at hF hc
    obtain ⟨s1, b1, b2⟩ := cp_whole (b := 10) (lo := lo) (by omega) hd (by omega) false bu h (by omega)
    have hlen := wlN_len (fun e => dl 10 N lo e) false (frs 10 N lo).toNat
    obtain ⟨s2, c1, c2⟩ := cp_behind (b := 10) (lo := lo) (a := -1) (last := lo) (by omega) hd (by omega) (by omega) (by omega) s1.2.1 b2 (by omega) (by rw [List.length_append]; omega) false
    refine ⟨s2, ifn (inlt 0 lo (by omega)) (ifn (inlt F (-6) (by omega)) (bnd b1 (bnd c1 rfl))), ?_⟩
    rw [← List.append_assoc]
    exact c2
  · rw [if_neg hc]
    generalize hFe : (if N = 0 then lo else frs 10 N lo) = F at hF hc
    obtain ⟨x, x1, x2, x3⟩ := cp_dl (b := 10) (lo := lo) (e := F) (by omega) hd (by omega) (by omega)
    obtain ⟨s1, y1, y2⟩ := ro_add bu h x3 (by omega)
    have l1 : (L ++ [dl 10 N lo F]).length = L.length + 1 := by rw [List.length_append]; rfl
    obtain ⟨s2, c1, c2⟩ := cp_behind (b := 10) (lo := lo) (a := F - 1) (last := lo) (by omega) hd (by omega) (by omega) (by omega) s1.2.1 y2 (by omega) (by rw [l1]; omega) false
    have l2 : (L ++ [dl 10 N lo F] ++ bp (dl 10 N lo) (F - 1) lo false).length ≤ L.length + 300 := by
      have := bp_len (dl 10 N lo) (F - 1) lo false
      rw [List.length_append, l1]
      omega
    have fin : ∃ s : Int32 × Int32 × (Nat → Int32), k_Composer_setDecimalText_58 5000 n dc du (iI lo) (iI lo) (iI F) u bu f = some s ∧ rowOK n s.2.2 s.1 (L ++ ([dl 10 N lo F] ++ (bp (dl 10 N lo) (F - 1) lo false ++ (if F = 0 then [] else (if 0 < F then [69, 43] else [69]) ++ nmL F 1)))) := by
      unfold k_Composer_setDecimalText_58
      try dsimp only
      have e1 : f_Composer_addBehindPoint 5000 n s1.2.2 s1.1 s1.2.1 dc du (iI lo) (iI F - (1 : Int32)) (iI lo) (0 : Int32) = some s2 := by
        rw [show (1 : Int32) = iI 1 from rfl, iI_sub]
        exact c1
      by_cases h0 : F = 0
      · rw [if_pos h0]
        refine ⟨s2, bnd x1 (bnd x2 (bnd y1 (bnd e1 (ifp (ieq F 0 h0) rfl)))), ?_⟩
        rw [List.append_nil, ← List.append_assoc]
        exact c2
      · rw [if_neg h0]
        have fin2 : ∀ (t : Nat) (w : List Nat), t < nS → wrd t = w → w.length ≤ 2 → ∃ s : Int32 × Int32 × (Nat → Int32), k_Composer_setDecimalText_104 5000 n (iI F) t s2.1 s2.2.1 s2.2.2 = some s ∧ rowOK n s.2.2 s.1 (L ++ ([dl 10 N lo F] ++ (bp (dl 10 N lo) (F - 1) lo false ++ (w ++ nmL F 1)))) := by
          intro t w ht hw hwl
          obtain ⟨s3, d1, d2⟩ := ro_word s2.2.1 c2 ht (by rw [hw]; omega)
          rw [hw] at d2
          obtain ⟨s4, e1, e2⟩ := ro_number (z := F) (least := 1) (by omega) (Or.inl rfl) s3.2.1 d2 (by rw [List.length_append]; omega)
          refine ⟨(s4.1, s4.2.1, s4.2.2), ?_, ?_⟩
          · unfold k_Composer_setDecimalText_104
            try dsimp only
            exact bnd d1 (bnd e1 rfl)
          · rw [← List.append_assoc, ← List.append_assoc, ← List.append_assoc]
            exact e2
        by_cases hp : 0 < F
        · rw [if_pos hp]
          obtain ⟨s3, g1, g2⟩ := fin2 9 [69, 43] (by decide) wrd_9 (by decide)
          exact ⟨s3, bnd x1 (bnd x2 (bnd y1 (bnd e1 (ifn (ine F 0 h0) (ifn (inle F 0 hp) g1))))), g2⟩
        · rw [if_neg hp]
          obtain ⟨s3, g1, g2⟩ := fin2 10 [69] (by decide) wrd_10 (by decide)
          exact ⟨s3, bnd x1 (bnd x2 (bnd y1 (bnd e1 (ifn (ine F 0 h0) (ifp (ile F 0 (by omega)) g1))))), g2⟩
    obtain ⟨s, q1, q2⟩ := fin
    refine ⟨s, ?_, q2⟩
    by_cases hp : 0 < lo
    · exact ifp (ilt 0 lo hp) q1
    · exact ifn (inlt 0 lo (by omega)) (ifp (ilt F (-6) (by omega)) q1)
def tzP (N z : Nat) : Prop := z < nd 10 N ∧ N / 10 ^ z % 10 ≠ 0 ∧ ∀ i, i < z → N / 10 ^ i % 10 = 0
def ftL (N : Nat) (lo : Int) (z : Nat) : List Nat :=
  if -3 ≤ frs 10 N lo ∧ frs 10 N lo ≤ 6 then wlN (fun e => dl 10 N lo e) false (frs 10 N lo).toNat ++ bp (dl 10 N lo) (-1) (if (if N = 0 then 0 else lo + z) < -1 then (if N = 0 then 0 else lo + z) else -1) false
  else [dl 10 N lo (frs 10 N lo)] ++ (bp (dl 10 N lo) (frs 10 N lo - 1) (if (if N = 0 then 0 else lo + z) < frs 10 N lo - 1 then (if N = 0 then 0 else lo + z) else frs 10 N lo - 1) false ++ ([69] ++ nmL (frs 10 N lo) 1))
theorem cp_ftext {N n : Nat} {dc : Nat → Int32} {du : Int32} {lo : Int} (hd : dgOK 10 dc du N) (hN : nd 10 N < 207) (hlo : -400 ≤ lo ∧ lo ≤ 400) {f : Nat → Int32} {u : Int32} (bu : Int32) {L : List Nat} (h : rowOK n f u L) (hl : L.length + 1600 ≤ n) :
    ∃ (z : Nat) (s : Int32 × Int32 × (Nat → Int32)), (N ≠ 0 → tzP N z) ∧ ((f_Digits_first du (iI lo)).bind fun u_46 => ((f_Digits_lastNotZero 5000 dc du (iI lo)).bind fun u_54 => (if u_46 < (-3 : Int32) then k_Composer_setFractionText_87 5000 n dc du (iI lo) u_46 u_54 u bu f else (if (6 : Int32) < u_46 then k_Composer_setFractionText_87 5000 n dc du (iI lo) u_46 u_54 u bu f else ((f_Composer_addWhole 5000 n f u bu dc du (iI lo) (0 : Int32)).bind fun u_72 => ((f_Composer_addBehindPoint 5000 n u_72.2.2 u_72.1 u_72.2.1 dc du (iI lo) (-1 : Int32) (if u_54 < (-1 : Int32) then u_54 else (-1 : Int32)) (0 : Int32)).bind fun u_83 => some (u_83.1, u_83.2.1, u_83.2.2))))))) = some s ∧ rowOK n s.2.2 s.1 (L ++ ftL N lo z) := by
  have hfr := frs_range (N := N) (lo := lo) (by omega) (by omega)
  obtain ⟨z, hz, elast⟩ : ∃ z : Nat, (N ≠ 0 → tzP N z) ∧ f_Digits_lastNotZero 5000 dc du (iI lo) = some (iI (if N = 0 then 0 else lo + z)) := by
    by_cases h0 : N = 0
    · refine ⟨0, fun y => absurd h0 y, ?_⟩
      rw [if_pos h0]
      rw [h0] at hd
      exact dg_last0 hd
    · obtain ⟨z, z1, z2⟩ := dg_last hd h0
      refine ⟨z, fun _ => z2, ?_⟩
      rw [if_neg h0]
      exact z1
  have hlast : -400 ≤ (if N = 0 then 0 else lo + (z : Int)) ∧ (if N = 0 then 0 else lo + (z : Int)) ≤ 700 := by
    by_cases h0 : N = 0
    · rw [if_pos h0]; omega
    · rw [if_neg h0]
      have := (hz h0).1
      omega
  refine ⟨z, ?_⟩
  unfold ftL
  generalize (if N = 0 then 0 else lo + (z : Int)) = K at elast hlast
  have emin : ∀ a : Int, -5000 ≤ a → a ≤ 5000 → (if iI K < iI a then iI K else iI a) = iI (if K < a then K else a) := by
    intro a h1 h2
    by_cases hk : K < a
    · rw [if_pos hk]
      exact ifp (ilt K a hk) rfl
    · rw [if_neg hk]
      exact ifn (inlt K a (by omega)) rfl
  have hsplit : ∀ a : Int, (if K < a then K else a) ≤ a ∧ (-400 ≤ (if K < a then K else a) ∨ (if K < a then K else a) = a) := by
    intro a
    by_cases hk : K < a
    · rw [if_pos hk]; omega
    · rw [if_neg hk]; omega
  by_cases hc : -3 ≤ frs 10 N lo ∧ frs 10 N lo ≤ 6
  · rw [if_pos hc]
    have hs := hsplit (-1)
    obtain ⟨s1, b1, b2⟩ := cp_whole (b := 10) (lo := lo) (by omega) hd (by omega) false bu h (by omega)
    have hlen := wlN_len (fun e => dl 10 N lo e) false (frs 10 N lo).toNat
    obtain ⟨s2, c1, c2⟩ := cp_behind (b := 10) (lo := lo) (a := -1) (last := if K < -1 then K else -1) (by omega) hd (by omega) (by omega) (by omega) s1.2.1 b2 (by omega) (by rw [List.length_append]; omega) false
    refine ⟨s2, hz, bnd (dg_first (by omega) hd) (bnd elast (ifn (inlt (frs 10 N lo) (-3) (by omega)) (ifn (inlt 6 (frs 10 N lo) (by omega)) (bnd b1 (bnd ?_ rfl))))), ?_⟩
    · have := emin (-1) (by omega) (by omega)
      rw [show (-1 : Int32) = iI (-1) from rfl, this]
      exact c1
    · rw [← List.append_assoc]
      exact c2
  · rw [if_neg hc]
    have hs := hsplit (frs 10 N lo - 1)
    obtain ⟨x, x1, x2, x3⟩ := cp_dl (b := 10) (lo := lo) (e := frs 10 N lo) (by omega) hd (by omega) (by omega)
    obtain ⟨s1, y1, y2⟩ := ro_add bu h x3 (by omega)
    have l1 : (L ++ [dl 10 N lo (frs 10 N lo)]).length = L.length + 1 := by rw [List.length_append]; rfl
    obtain ⟨s2, c1, c2⟩ := cp_behind (b := 10) (lo := lo) (a := frs 10 N lo - 1) (last := if K < frs 10 N lo - 1 then K else frs 10 N lo - 1) (by omega) hd (by omega) (by omega) (by omega) s1.2.1 y2 (by omega) (by rw [l1]; omega) false
    have l2 : (L ++ [dl 10 N lo (frs 10 N lo)] ++ bp (dl 10 N lo) (frs 10 N lo - 1) (if K < frs 10 N lo - 1 then K else frs 10 N lo - 1) false).length ≤ L.length + 1100 := by
      have := bp_len (dl 10 N lo) (frs 10 N lo - 1) (if K < frs 10 N lo - 1 then K else frs 10 N lo - 1) false
      rw [List.length_append, l1]
      omega
    obtain ⟨s3, d1, d2⟩ := ro_add (c := 69) s2.2.1 c2 (by omega) (by omega)
    obtain ⟨s4, e1, e2⟩ := ro_number (z := frs 10 N lo) (least := 1) (by omega) (Or.inl rfl) s3.2.1 d2 (by rw [List.length_append]; show _ + 1 + 5 ≤ n; omega)
    have fin : k_Composer_setFractionText_87 5000 n dc du (iI lo) (iI (frs 10 N lo)) (iI K) u bu f = some s4 := by
      unfold k_Composer_setFractionText_87
      try dsimp only
      refine bnd x1 (bnd x2 (bnd y1 (bnd ?_ (bnd d1 (bnd e1 rfl)))))
      rw [show (1 : Int32) = iI 1 from rfl, iI_sub, emin _ (by omega) (by omega)]
      exact c1
    refine ⟨s4, hz, bnd (dg_first (by omega) hd) (bnd elast ?_), ?_⟩
    · by_cases h3 : frs 10 N lo < -3
      · exact ifp (ilt _ (-3) h3) fin
      · exact ifn (inlt (frs 10 N lo) (-3) (by omega)) (ifp (ilt 6 (frs 10 N lo) (by omega)) fin)
    · rw [← List.append_assoc, ← List.append_assoc, ← List.append_assoc]
      exact e2
