def mdR (T : Nat → Int32) (c ex : Int32) (N : Nat) (lo : Int) : Prop := (N = 0 ∧ c = 0) ∨ (N ≠ 0 ∧ ∃ n : Nat, 0 < n ∧ n ≤ 600 ∧ c = nI n ∧ ex = iI (lo + (nd 10 N : Int) - 1) ∧ (∀ k, k < n → T k = nI (dgh N k)) ∧ ∀ k, n ≤ k → dgh N k = 0)
theorem mdR_of {T : Nat → Int32} {c : Int32} {N : Nat} (h : mdOK 10 T c N) (lo : Int) : mdR T c (iI (lo + (nd 10 N : Int) - 1)) N lo := by
  obtain ⟨rfl, h1, h2⟩ := h
  by_cases h0 : N = 0
  · refine Or.inl ⟨h0, ?_⟩
    rw [h0, nd_0]
    rfl
  · refine Or.inr ⟨h0, nd 10 N, nd_pos (by omega) h0, h1, rfl, rfl, fun k hk => ?_, fun k hk => ?_⟩
    · rw [h2 k hk]
      unfold dgh
      rw [if_pos hk]
    · unfold dgh
      rw [if_neg (by omega)]
theorem nd_mul10 {H c : Nat} (h : H ≠ 0) : nd 10 (H * 10 ^ c) = nd 10 H + c := by
  have h1 := nd_ge (b := 10) (by omega) H h
  have h2 := nd_lt (b := 10) (by omega) H
  have hp := nd_pos (b := 10) (by omega) h
  have e : nd 10 H + c = (nd 10 H - 1 + c) + 1 := by omega
  rw [e]
  refine nd_eq (by omega) ?_ ?_
  · rw [Nat.pow_add]
    exact Nat.mul_le_mul_right _ h1
  · rw [← e, Nat.pow_add]
    exact Nat.mul_lt_mul_of_pos_right h2 (pw_pos (by omega) c)
theorem dgh_mul10 {H c : Nat} (h : H ≠ 0) (k : Nat) : dgh (H * 10 ^ c) k = dgh H k := by
  unfold dgh
  rw [nd_mul10 h]
  by_cases h1 : k < nd 10 H
  · rw [if_pos h1, if_pos (by omega), show nd 10 H + c - 1 - k = c + (nd 10 H - 1 - k) by omega, Nat.pow_add, ← Nat.div_div_eq_div_mul, Nat.mul_div_cancel _ (pw_pos (by omega) c)]
  · rw [if_neg h1]
    by_cases h2 : k < nd 10 H + c
    · rw [if_pos h2]
      have e : H * 10 ^ c = (H * 10 ^ (c - (nd 10 H + c - 1 - k) - 1) * 10) * 10 ^ (nd 10 H + c - 1 - k) := by
        rw [Nat.mul_assoc, Nat.mul_assoc, ← Nat.pow_succ', ← Nat.pow_add]
        congr 2
        omega
      rw [e, Nat.mul_div_cancel _ (pw_pos (by omega) _), Nat.mul_mod_left]
    · rw [if_neg h2]
theorem dgh_pow (m k : Nat) : dgh (10 ^ m) k = if k = 0 then 1 else 0 := by
  have e := nd_eq (b := 10) (N := 10 ^ m) (m := m) (by omega) (Nat.le_refl _) (Nat.pow_lt_pow_right (by omega) (by omega))
  unfold dgh
  rw [e]
  by_cases h : k = 0
  · rw [if_pos h, if_pos (by omega), h, show m + 1 - 1 - 0 = m by omega, Nat.div_self (pw_pos (by omega) m)]
  · rw [if_neg h]
    by_cases h2 : k < m + 1
    · rw [if_pos h2]
      have e2 : 10 ^ m = (10 ^ (k - 1) * 10) * 10 ^ (m + 1 - 1 - k) := by
        rw [← Nat.pow_succ, ← Nat.pow_add]
        congr 1
        omega
      rw [e2, Nat.mul_div_cancel _ (pw_pos (by omega) _), Nat.mul_mod_left]
    · rw [if_neg h2]
theorem mo_digit {T : Nat → Int32} {c ex : Int32} {N : Nat} {lo : Int} (h : mdR T c ex N lo) {z : Int} (hz : -100000 ≤ z ∧ z ≤ 100000) : f_Model_digit T c (iI z) = some (nI (if z < 0 then 0 else dgh N z.toNat)) := by
  unfold f_Model_digit
  by_cases h1 : z < 0
  · rw [if_pos h1]
    exact ifp (ilt z 0 h1) rfl
  · rw [if_neg h1]
    obtain ⟨k, hk⟩ : ∃ k : Nat, z = (k : Int) := ⟨z.toNat, by omega⟩
    subst hk
    rw [iI_nat, Int.toNat_natCast]
    refine ifn (nI_pos (by omega)) ?_
    rcases h with ⟨h0, hc⟩ | ⟨h0, n, g1, g2, hc, hex, g3, g4⟩
    · subst hc
      have e : dgh N k = 0 := by
        unfold dgh
        rw [h0, nd_0, if_neg (by omega)]
      rw [e]
      exact ifp (rle 0 (by omega)) rfl
    · subst hc
      by_cases h2 : k < n
      · refine ifn (nI_ge h2 (by omega)) (ifp (inB_n (by omega)) ?_)
        rw [nI_clamp (by omega), g3 k h2]
      · rw [g4 k (by omega)]
        exact ifp (nI_le (by omega) (by omega)) rfl
theorem mo_keep_z {c : Nat} (hc : c ≤ 600) (ex : Int32) : ∀ (d j m : Nat) (T : Nat → Int32), 0 < j → j ≤ 601 → (j + d = c ∨ (d = 0 ∧ c ≤ j)) → d < m → ∃ T' : Nat → Int32, lp_ (b_Model_keep_118 (nI c) ex) m (nI j, T) = some (nI (if c = 0 then 1 else c), ex + 1, T') ∧ ∀ i, T' i = if j ≤ i ∧ i < c then 0 else T i := by
  intro d
  induction d with
  | zero =>
    intro j m T hj hj6 hd hm
    obtain ⟨m, rfl⟩ : ∃ j, m = j + 1 := ⟨m - 1, by omega⟩
    refine ⟨T, ?_, fun i => by rw [if_neg (by omega)]⟩
    show b_Model_keep_118 (nI c) ex (lp_ (b_Model_keep_118 (nI c) ex) m) _ = _
    rw [e_Model_keep_118]
    unfold k_Model_keep_157
    refine ifp (nI_le (by omega) (by omega)) ?_
    by_cases h0 : c = 0
    · rw [if_pos h0]
      exact ifp (qeq 0 h0) rfl
    · rw [if_neg h0]
      exact ifn (qne 0 h0) rfl
  | succ d ih =>
    intro j m T hj hj6 hd hm
    obtain ⟨m, rfl⟩ : ∃ j, m = j + 1 := ⟨m - 1, by omega⟩
    obtain ⟨T', h1, h2⟩ := ih (j + 1) m (upd T j 0) (by omega) (by omega) (by omega) (by omega)
    refine ⟨T', ?_, fun i => ?_⟩
    · rw [← h1]
      show b_Model_keep_118 (nI c) ex (lp_ (b_Model_keep_118 (nI c) ex) m) _ = _
      generalize lp_ (b_Model_keep_118 (nI c) ex) m = rc
      rw [e_Model_keep_118]
      refine ifn (nI_ge (by omega) (by omega)) (ifp (inB_n (by omega)) ?_)
      rw [nI_clamp (by omega), nI_1]
    · rw [h2 i]
      by_cases e : i = j
      · subst e
        rw [if_neg (by omega), pk_us, if_pos (by omega)]
      · rw [pk_un e]
        by_cases e2 : j + 1 ≤ i ∧ i < c
        · rw [if_pos e2, if_pos (by omega)]
        · rw [if_neg e2, if_neg (by omega)]
theorem nines {H e : Nat} (h : H % 10 ^ e = 10 ^ e - 1) : H + 1 = (H / 10 ^ e + 1) * 10 ^ e := by
  have h1 := Nat.div_add_mod H (10 ^ e)
  have h2 := pw_pos (b := 10) (by omega) e
  rw [Nat.succ_mul, Nat.mul_comm]
  omega
theorem mo_carry {m H : Nat} (hm : m ≤ 600) (ex : Int32) : ∀ (i k : Nat) (T : Nat → Int32), i ≤ m → i < k → (∀ j, j < i → T j = nI (H / 10 ^ (m - 1 - j) % 10)) → (∀ j, i ≤ j → j < m → T j = 0) → H % 10 ^ (m - i) = 10 ^ (m - i) - 1 → H < 10 ^ m →
    ∃ (c : Nat) (x : Int32) (T' : Nat → Int32), lp_ (b_Model_keep_56 5000 1 (nI m) ex) k (iI ((i : Int) - 1), T) = some (nI c, x, T') ∧ ((H + 1 < 10 ^ m ∧ c = m ∧ x = ex ∧ 0 < m ∧ ∀ j, j < m → T' j = nI ((H + 1) / 10 ^ (m - 1 - j) % 10)) ∨ (H + 1 = 10 ^ m ∧ c = (if m = 0 then 1 else m) ∧ x = ex + 1 ∧ T' 0 = 1 ∧ ∀ j, 0 < j → j < c → T' j = 0)) := by
  intro i
  induction i with
  | zero =>
    intro k T hi hk hT hz h9 hH
    obtain ⟨k, rfl⟩ : ∃ j, k = j + 1 := ⟨k - 1, by omega⟩
    rw [Nat.sub_zero] at h9
    have hall : H + 1 = 10 ^ m := by
      rw [Nat.mod_eq_of_lt hH] at h9
      have := pw_pos (b := 10) (by omega) m
      omega
    obtain ⟨T', q1, q2⟩ := mo_keep_z hm ex (m - 1) 1 5000 (upd T 0 1) (by omega) (by omega) (by omega) (by omega)
    refine ⟨_, _, T', ?_, Or.inr ⟨hall, rfl, rfl, ?_, fun j hj hc => ?_⟩⟩
    · show b_Model_keep_56 5000 1 (nI m) ex (lp_ (b_Model_keep_56 5000 1 (nI m) ex) k) _ = _
      generalize lp_ (b_Model_keep_56 5000 1 (nI m) ex) k = rc
      rw [e_Model_keep_56]
      unfold k_Model_keep_88
      refine ifn (by decide) (ifp (by decide) (ifn (by decide) (ifp (by decide) (ifp (by decide) ?_))))
      exact q1
    · rw [q2 0, if_neg (by omega), pk_us]
    · rw [q2 j]
      by_cases e : j < m
      · rw [if_pos (by omega)]
      · exfalso
        by_cases h0 : m = 0
        · rw [if_pos h0] at hc
          omega
        · rw [if_neg h0] at hc
          omega
  | succ i ih =>
    intro k T hi hk hT hz h9 hH
    obtain ⟨k, rfl⟩ : ∃ j, k = j + 1 := ⟨k - 1, by omega⟩
    have ei : iI (((i + 1 : Nat) : Int) - 1) = nI i := by
      rw [← iI_nat]
      congr 1
      omega
    have hd := hT i (by omega)
    have hdl : H / 10 ^ (m - 1 - i) % 10 < 10 := Nat.mod_lt _ (by omega)
    have em : m - (i + 1) = m - 1 - i := by omega
    rw [em] at h9
    by_cases h : H / 10 ^ (m - 1 - i) % 10 = 9
    · have h9' : H % 10 ^ (m - i) = 10 ^ (m - i) - 1 := by
        rw [show m - i = (m - 1 - i) + 1 by omega, Nat.pow_succ, Nat.mod_mul, h9, h]
        have := pw_pos (b := 10) (by omega) (m - 1 - i)
        omega
      obtain ⟨c, x, T', q1, q2⟩ := ih k (upd T i 0) (by omega) (by omega) (fun j hj => by rw [pk_un (by omega)]; exact hT j (by omega)) (fun j h1 h2 => by
        by_cases e : j = i
        · subst e
          rw [pk_us]
        · rw [pk_un e]
          exact hz j (by omega) h2) h9' hH
      refine ⟨c, x, T', ?_, q2⟩
      rw [← q1, ei]
      show b_Model_keep_56 5000 1 (nI m) ex (lp_ (b_Model_keep_56 5000 1 (nI m) ex) k) _ = _
      generalize lp_ (b_Model_keep_56 5000 1 (nI m) ex) k = rc
      rw [e_Model_keep_56]
      refine ifn (by decide) (ifn (nI_pos (by omega)) (ifp (inB_n (by omega)) ?_))
      rw [nI_clamp (by omega), hd, h, show nI i + (-1 : Int32) = iI ((i : Int) - 1) from by rw [← iI_nat, show (-1 : Int32) = iI (-1) from rfl, iI_add]; rfl]
      exact ifp rfl (ifp (inB_n (by omega)) rfl)
    · have hn := nines h9
      generalize hx : H / 10 ^ (m - 1 - i) = X at h hd hdl hn
      refine ⟨m, ex, upd T i (nI (X % 10 + 1)), ?_, Or.inl ⟨?_, rfl, rfl, by omega, fun j hj => ?_⟩⟩
      · rw [ei]
        show b_Model_keep_56 5000 1 (nI m) ex (lp_ (b_Model_keep_56 5000 1 (nI m) ex) k) _ = _
        generalize lp_ (b_Model_keep_56 5000 1 (nI m) ex) k = rc
        rw [e_Model_keep_56]
        unfold k_Model_keep_88
        refine ifn (by decide) (ifn (nI_pos (by omega)) (ifp (inB_n (by omega)) ?_))
        rw [nI_clamp (by omega), hd]
        refine ifn (qne 9 h) (ifn (by decide) (ifn (nI_pos (by omega)) (ifp (inB_n (by omega)) (ifp (inB_n (by omega)) ?_))))
        rw [show nI (X % 10) + (1 : Int32) = nI (X % 10 + 1) from nI_1 _]
      · by_cases hne : H + 1 = 10 ^ m
        · exfalso
          have e9 : 10 ^ m = 10 ^ (i + 1) * 10 ^ (m - 1 - i) := by
            rw [← Nat.pow_add]
            congr 1
            omega
          rw [hn, e9] at hne
          have hne2 := Nat.eq_of_mul_eq_mul_right (pw_pos (b := 10) (by omega) (m - 1 - i)) hne
          rw [Nat.pow_succ] at hne2
          omega
        · omega
      · rw [hn]
        by_cases e : j = i
        · subst e
          rw [pk_us, Nat.mul_div_cancel _ (pw_pos (by omega) _)]
          congr 1
          omega
        · rw [pk_un e]
          by_cases e2 : j < i
          · rw [hT j (by omega), show m - 1 - j = (m - 1 - i) + 1 + (i - j - 1) by omega, Nat.pow_add, Nat.pow_succ, ← Nat.div_div_eq_div_mul, ← Nat.div_div_eq_div_mul, ← Nat.div_div_eq_div_mul, ← Nat.div_div_eq_div_mul, hx, Nat.mul_div_cancel _ (pw_pos (by omega) _)]
            congr 3
            omega
          · rw [hz j (by omega) (by omega)]
            have e3 : (X + 1) * 10 ^ (m - 1 - i) = ((X + 1) * 10 ^ (m - 1 - i - (m - 1 - j) - 1) * 10) * 10 ^ (m - 1 - j) := by
              rw [Nat.mul_assoc, Nat.mul_assoc, ← Nat.pow_succ', ← Nat.pow_add]
              congr 2
              omega
            rw [e3, Nat.mul_div_cancel _ (pw_pos (by omega) _), Nat.mul_mod_left]
            rfl
theorem mo_keep {T : Nat → Int32} {c : Int32} {N : Nat} (h : mdOK 10 T c N) (h599 : nd 10 N < 600) (lo mz : Int) (hmz : -100000 ≤ mz ∧ mz ≤ 100000) : ∃ (c' ex' : Int32) (T' : Nat → Int32), f_Model_keep 5000 T c (iI (lo + (nd 10 N : Int) - 1)) (iI mz) = some (c', ex', T') ∧ mdR T' c' ex' (rnd N ((nd 10 N : Int) - mz).toNat) lo := by
  have hR := mdR_of h lo
  obtain ⟨rfl, g1, g2⟩ := id h
  unfold f_Model_keep
  by_cases h0 : N = 0
  · refine ⟨0, iI (lo + (nd 10 N : Int) - 1), T, ?_, ?_⟩
    · rw [h0, nd_0]
      exact ifp rfl rfl
    · refine Or.inl ⟨?_, rfl⟩
      rw [h0]
      cases ((nd 10 0 : Int) - mz).toNat with
      | zero => rfl
      | succ c =>
        show (0 / 10 ^ c + 5) / 10 * 10 ^ (c + 1) = 0
        rw [Nat.zero_div, show (0 + 5) / 10 = 0 from rfl, Nat.zero_mul]
  · have hp := nd_pos (b := 10) (by omega) h0
    have hNlt := nd_lt (b := 10) (by omega) N
    have hNge := nd_ge (b := 10) (by omega) N h0
    generalize hn : nd 10 N = n at *
    by_cases hge : (n : Int) ≤ mz
    · refine ⟨_, _, T, ifn (qne 0 (by omega)) (ifn (inlt mz n hge rfl (iI_nat n).symm) rfl), ?_⟩
      rw [show ((n : Int) - mz).toNat = 0 by omega]
      exact hR
    · by_cases hneg : mz < 0
      · refine ⟨0, iI (lo + (n : Int) - 1), T, ?_, Or.inl ⟨rnd_big (by omega), rfl⟩⟩
        refine ifn (qne 0 (by omega)) (ifp (ilt mz n (by omega) rfl (iI_nat n).symm) (ifp (ilt mz 0 hneg) ?_))
        unfold k_Model_keep_34 k_Model_keep_35 k_Model_keep_46
        try dsimp only
        refine ifn (inle 0 mz hneg) ?_
        show b_Model_keep_56 5000 0 0 _ (lp_ (b_Model_keep_56 5000 0 0 _) 4999) _ = _
        rw [e_Model_keep_56]
        unfold k_Model_keep_88
        exact ifp rfl (ifp rfl rfl)
      · obtain ⟨m, hm⟩ : ∃ m : Nat, mz = (m : Int) := ⟨mz.toNat, by omega⟩
        subst hm
        have hmn : m < n := by omega
        obtain ⟨c, hc⟩ : ∃ c, ((n : Int) - (m : Int)).toNat = c + 1 := ⟨n - m - 1, by omega⟩
        rw [hc, iI_nat]
        have ec : n = m + (c + 1) := by omega
        have hdig : T m = nI (N / 10 ^ c % 10) := by
          rw [g2 m hmn]
          congr 3
          congr 1
          omega
        have hdl : N / 10 ^ c % 10 < 10 := Nat.mod_lt _ (by omega)
        have hH : N / 10 ^ (c + 1) = N / 10 ^ c / 10 := by rw [Nat.pow_succ, Nat.div_div_eq_div_mul]
        have hHlt : N / 10 ^ (c + 1) < 10 ^ m := by
          rw [Nat.div_lt_iff_lt_mul (pw_pos (by omega) _), ← Nat.pow_add, ← ec]
          exact hNlt
        have hHge : 0 < m → 10 ^ (m - 1) ≤ N / 10 ^ (c + 1) := by
          intro hm0
          rw [Nat.le_div_iff_mul_le (pw_pos (by omega) _), ← Nat.pow_add, show m - 1 + (c + 1) = n - 1 by omega]
          exact hNge
        have hTd : ∀ j, j < m → T j = nI (N / 10 ^ (c + 1) / 10 ^ (m - 1 - j) % 10) := by
          intro j hj
          rw [g2 j (by omega), Nat.div_div_eq_div_mul, ← Nat.pow_add]
          congr 3
          congr 1
          omega
        by_cases h5 : N / 10 ^ c % 10 < 5
        · have er : rnd N (c + 1) = N / 10 ^ (c + 1) * 10 ^ (c + 1) := by
            show (N / 10 ^ c + 5) / 10 * 10 ^ (c + 1) = _
            rw [hH]
            congr 1
            omega
          rw [er]
          refine ⟨nI m, iI (lo + (n : Int) - 1), T, ?_, ?_⟩
          · refine ifn (qne 0 (by omega)) (ifp (nI_lt hmn (by omega)) (ifn (nI_pos (by omega)) (ifp (inB_n (by omega)) ?_)))
            rw [nI_clamp (by omega), hdig]
            refine ifp (qlt 5 h5) ?_
            unfold k_Model_keep_34 k_Model_keep_35 k_Model_keep_46
            try dsimp only
            refine ifp (nI_pos' (by omega)) ?_
            show b_Model_keep_56 5000 0 (nI m) _ (lp_ (b_Model_keep_56 5000 0 (nI m) _) 4999) _ = _
            rw [e_Model_keep_56]
            unfold k_Model_keep_88
            exact ifp rfl (ifp rfl rfl)
          · by_cases hm0 : m = 0
            · left
              rw [hm0, Nat.pow_zero] at hHlt
              refine ⟨by rw [Nat.lt_one_iff.mp hHlt, Nat.zero_mul], ?_⟩
              rw [hm0]
              rfl
            · have hg := hHge (by omega)
              have hH0 : N / 10 ^ (c + 1) ≠ 0 := by
                have := pw_pos (b := 10) (by omega) (m - 1)
                omega
              have hnd : nd 10 (N / 10 ^ (c + 1)) = m := by
                have := nd_eq (b := 10) (N := N / 10 ^ (c + 1)) (m := m - 1) (by omega) hg (by rw [show m - 1 + 1 = m by omega]; exact hHlt)
                omega
              right
              refine ⟨Nat.ne_of_gt (Nat.mul_pos (Nat.pos_of_ne_zero hH0) (pw_pos (by omega) _)), m, by omega, by omega, rfl, ?_, fun k hk => ?_, fun k hk => ?_⟩
              · rw [nd_mul10 hH0, hnd, ec]
              · rw [dgh_mul10 hH0, hTd k hk]
                unfold dgh
                rw [hnd, if_pos hk]
              · rw [dgh_mul10 hH0]
                unfold dgh
                rw [hnd, if_neg (by omega)]
        · have er : rnd N (c + 1) = (N / 10 ^ (c + 1) + 1) * 10 ^ (c + 1) := by
            show (N / 10 ^ c + 5) / 10 * 10 ^ (c + 1) = _
            rw [hH]
            congr 1
            omega
          rw [er]
          obtain ⟨c', x, T', q1, q2⟩ := mo_carry (m := m) (H := N / 10 ^ (c + 1)) (by omega) (iI (lo + (n : Int) - 1)) m 5000 T (Nat.le_refl _) (by omega) hTd (fun j h1 h2 => by omega) (by rw [Nat.sub_self, Nat.pow_zero, Nat.mod_one]) hHlt
          refine ⟨nI c', x, T', ?_, ?_⟩
          · refine ifn (qne 0 (by omega)) (ifp (nI_lt hmn (by omega)) (ifn (nI_pos (by omega)) (ifp (inB_n (by omega)) ?_)))
            rw [nI_clamp (by omega), hdig]
            refine ifn (qnlt 5 (by omega)) ?_
            unfold k_Model_keep_35 k_Model_keep_46
            try dsimp only
            refine ifp (nI_pos' (by omega)) ?_
            rw [show nI m - (1 : Int32) = iI ((m : Int) - 1) from by rw [← iI_nat, show (1 : Int32) = iI 1 from rfl, iI_sub]]
            exact q1
          · have hH1 : N / 10 ^ (c + 1) + 1 ≠ 0 := Nat.succ_ne_zero _
            right
            refine ⟨Nat.ne_of_gt (Nat.mul_pos (Nat.succ_pos _) (pw_pos (by omega) _)), ?_⟩
            rcases q2 with ⟨a1, a2, a3, a4, a5⟩ | ⟨a1, a2, a3, a4, a5⟩
            · have hg := hHge a4
              have hnd : nd 10 (N / 10 ^ (c + 1) + 1) = m := by
                have := nd_eq (b := 10) (N := N / 10 ^ (c + 1) + 1) (m := m - 1) (by omega) (by omega) (by rw [show m - 1 + 1 = m by omega]; exact a1)
                omega
              refine ⟨m, a4, by omega, by rw [a2], ?_, fun k hk => ?_, fun k hk => ?_⟩
              · rw [nd_mul10 hH1, hnd, ← ec]
                exact a3
              · rw [dgh_mul10 hH1, a5 k hk]
                unfold dgh
                rw [hnd, if_pos hk]
              · rw [dgh_mul10 hH1]
                unfold dgh
                rw [hnd, if_neg (by omega)]
            · have hnd : nd 10 (N / 10 ^ (c + 1) + 1) = m + 1 := by
                rw [a1]
                exact nd_eq (by omega) (Nat.le_refl _) (Nat.pow_lt_pow_right (by omega) (by omega))
              have hc'0 : 0 < c' := by
                rw [a2]
                by_cases h : m = 0
                · rw [if_pos h]; omega
                · rw [if_neg h]; omega
              have hc'6 : c' ≤ 600 := by
                rw [a2]
                by_cases h : m = 0
                · rw [if_pos h]; omega
                · rw [if_neg h]; omega
              refine ⟨c', hc'0, hc'6, rfl, ?_, fun k hk => ?_, fun k hk => ?_⟩
              · rw [nd_mul10 hH1, hnd, a3, show (1 : Int32) = iI 1 from rfl, iI_add]
                congr 1
                omega
              · rw [dgh_mul10 hH1, a1, dgh_pow]
                by_cases e : k = 0
                · rw [if_pos e, e, a4]
                  rfl
                · rw [if_neg e, a5 k (by omega) hk]
                  rfl
              · rw [dgh_mul10 hH1, a1, dgh_pow, if_neg (by omega)]
