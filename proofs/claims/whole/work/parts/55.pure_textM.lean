theorem dat_nn {b N e : Nat} : dat b N 0 (e : Int) = N / b ^ e % b := by
  unfold dat
  rw [if_pos (by omega), show ((e : Int) - 0).toNat = e by omega]
theorem frs_nn {b N : Nat} (hb : 2 ≤ b) : (frs b N 0).toNat = nd b N - 1 := by
  unfold frs
  by_cases h0 : N = 0
  · rw [if_pos h0, h0, nd_0]
    rfl
  · rw [if_neg h0]
    have := nd_pos hb h0
    omega
theorem mo_addDigits {b N : Nat} (hb : 2 ≤ b ∧ b ≤ 16) {T : Nat → Int32} {c : Int32} (h : mdOK b T c N) {P : Nat → Int32} {p : Int32} {L : List Nat} (hp : pcOK P p L) (hl : L.length ≤ 3000) : ∃ s : Int32 × (Nat → Int32), f_Model_addDigits 5000 P p T c = some s ∧ pcOK s.2 s.1 (L ++ wlN (fun e => dl b N 0 e) false (frs b N 0).toNat) := by
  obtain ⟨rfl, h1, h2⟩ := h
  rw [frs_nn hb.1]
  by_cases h0 : N = 0
  · subst h0
    rw [nd_0]
    obtain ⟨s, y1, y2⟩ := mo_add hp 48 (by omega)
    refine ⟨s, ?_, ?_⟩
    · unfold f_Model_addDigits
      show b_Model_addDigits_2 T (nI 0) (lp_ (b_Model_addDigits_2 T (nI 0)) 4999) _ = _
      rw [e_Model_addDigits_2]
      exact ifp (by decide) (ifp rfl (bnd y1 rfl))
    · show pcOK s.2 s.1 (L ++ [lett (dat b 0 0 0)])
      rw [dat_0]
      exact y2
  · have hpos := nd_pos hb.1 h0
    have run : ∀ (e k m : Nat) (P : Nat → Int32) (p : Int32) (L : List Nat), k + e + 1 = nd b N → e + 1 < m → L.length + e + 1 ≤ 4000 → pcOK P p L → ∃ s : Int32 × (Nat → Int32), lp_ (b_Model_addDigits_2 T (nI (nd b N))) m (nI k, p, P) = some s ∧ pcOK s.2 s.1 (L ++ wlN (fun e => dl b N 0 e) false e) := by
      have dig : ∀ (e k m : Nat) (P : Nat → Int32) (p : Int32) (L : List Nat), k + e + 1 = nd b N → L.length + 1 ≤ 4000 → pcOK P p L → ∃ s : Int32 × (Nat → Int32), lp_ (b_Model_addDigits_2 T (nI (nd b N))) (m + 1) (nI k, p, P) = lp_ (b_Model_addDigits_2 T (nI (nd b N))) m (nI (k + 1), s.1, s.2) ∧ pcOK s.2 s.1 (L ++ [dl b N 0 e]) := by
        intro e k m P p L hk hl hp
        have hd : dat b N 0 (e : Int) < 16 := dat_16 hb
        obtain ⟨s1, y1, y2⟩ := mo_addDigit hp hd (by omega)
        refine ⟨s1, ?_, y2⟩
        show b_Model_addDigits_2 T (nI (nd b N)) (lp_ (b_Model_addDigits_2 T (nI (nd b N))) m) _ = _
        generalize lp_ (b_Model_addDigits_2 T (nI (nd b N))) m = rc
        rw [e_Model_addDigits_2]
        refine ifn (nI_ge (by omega) (by omega)) (ifp (inB_n (by omega)) ?_)
        rw [nI_clamp (by omega), h2 k (by omega), show nd b N - 1 - k = e by omega, ← dat_nn, nI_1]
        exact bnd y1 rfl
      intro e
      induction e with
      | zero =>
        intro k m P p L hk hm hl hp
        obtain ⟨m, rfl⟩ : ∃ j, m = j + 1 + 1 := ⟨m - 2, by omega⟩
        obtain ⟨s, q1, q2⟩ := dig 0 k (m + 1) P p L hk (by omega) hp
        refine ⟨s, Eq.trans q1 ?_, q2⟩
        show b_Model_addDigits_2 T (nI (nd b N)) (lp_ (b_Model_addDigits_2 T (nI (nd b N))) m) _ = _
        rw [e_Model_addDigits_2]
        exact ifp (nI_le (by omega) (by omega)) (ifn (qne 0 (by omega)) rfl)
      | succ e ih =>
        intro k m P p L hk hm hl hp
        obtain ⟨m, rfl⟩ : ∃ j, m = j + 1 := ⟨m - 1, by omega⟩
        obtain ⟨s1, q1, q2⟩ := dig (e + 1) k m P p L (by omega) (by omega) hp
        obtain ⟨s, z1, z2⟩ := ih (k + 1) m s1.2 s1.1 _ (by omega) (by omega) (by rw [List.length_append]; show L.length + 1 + e + 1 ≤ 4000; omega) q2
        refine ⟨s, Eq.trans q1 z1, ?_⟩
        show pcOK s.2 s.1 (L ++ (dl b N 0 ((e + 1 : Nat) : Int) :: ((if false = true ∧ (e + 1) % 3 = 0 then [44] else []) ++ wlN (fun e => dl b N 0 e) false e)))
        rw [if_neg (fun z => by cases z.1)]
        rw [List.append_assoc] at z2
        exact z2
    exact run (nd b N - 1) 0 5000 P p L (by omega) (by omega) (by omega) hp
def LT2 (F : Int → Nat) (pt : Int) : Nat → Int → List Nat
  | 0, _ => []
  | r + 1, e => F e :: ((if e = pt then [46] else []) ++ LT2 F pt r (e - 1))
theorem LT2_len (F : Int → Nat) (pt : Int) : ∀ (r : Nat) (e : Int), (LT2 F pt r e).length ≤ 2 * r
  | 0, _ => Nat.le_refl _
  | r + 1, e => by
    have := LT2_len F pt r (e - 1)
    show ((if e = pt then [46] else []) ++ LT2 F pt r (e - 1)).length + 1 ≤ _
    rw [List.length_append]
    by_cases h : e = pt
    · rw [if_pos h]
      show 1 + _ + 1 ≤ _
      omega
    · rw [if_neg h]
      show 0 + _ + 1 ≤ _
      omega
theorem LT2_below (F : Int → Nat) (pt : Int) : ∀ (r : Nat) (e : Int), e < pt → LT2 F pt r e = dnI F e r
  | 0, _, _ => rfl
  | r + 1, e, h => by
    show F e :: ((if e = pt then [46] else []) ++ LT2 F pt r (e - 1)) = F e :: dnI F (e - 1) r
    rw [if_neg (by omega), LT2_below F pt r (e - 1) (by omega)]
    rfl
theorem LT2_whole (F : Int → Nat) : ∀ (E r : Nat), LT2 F 0 (E + 1 + r) (E : Int) = wlN (fun e => F e) false E ++ ([46] ++ dnI F (-1) r)
  | 0, r => by
    rw [show 0 + 1 + r = r + 1 by omega]
    show F 0 :: ((if (0 : Int) = 0 then [46] else []) ++ LT2 F 0 r (0 - 1)) = _
    rw [if_pos rfl, LT2_below F 0 r _ (by omega)]
    rfl
  | E + 1, r => by
    rw [show E + 1 + 1 + r = (E + 1 + r) + 1 by omega]
    show F ((E + 1 : Nat) : Int) :: ((if ((E + 1 : Nat) : Int) = 0 then [46] else []) ++ LT2 F 0 (E + 1 + r) (((E + 1 : Nat) : Int) - 1)) = (F ((E + 1 : Nat) : Int) :: ((if false = true ∧ (E + 1) % 3 = 0 then [44] else []) ++ wlN (fun e => F e) false E)) ++ _
    rw [if_neg (by omega), if_neg (fun z => by cases z.1), show ((E + 1 : Nat) : Int) - 1 = (E : Int) by omega, LT2_whole F E r]
    rfl
theorem LT2_plain (F : Int → Nat) {pt : Int} (hpt : 100000 < pt) : ∀ (E : Nat), E < 100000 → LT2 F pt (E + 1) (E : Int) = wlN (fun e => F e) false E
  | 0, _ => by
    show F 0 :: ((if (0 : Int) = pt then [46] else []) ++ []) = [F 0]
    rw [if_neg (by omega)]
    rfl
  | E + 1, h => by
    show F ((E + 1 : Nat) : Int) :: ((if ((E + 1 : Nat) : Int) = pt then [46] else []) ++ LT2 F pt (E + 1) (((E + 1 : Nat) : Int) - 1)) = F ((E + 1 : Nat) : Int) :: ((if false = true ∧ (E + 1) % 3 = 0 then [44] else []) ++ wlN (fun e => F e) false E)
    rw [if_neg (by omega), if_neg (fun z => by cases z.1), show ((E + 1 : Nat) : Int) - 1 = (E : Int) by omega, LT2_plain F hpt E (by omega)]
theorem mo_dt_plain {T : Nat → Int32} {c ex : Int32} {N : Nat} {lo F : Int} (h : mdR T c ex N lo) (hF : N ≠ 0 → F = frs 10 N lo) {n : Nat} (hn : F - ((n : Int) - 1) = lo) (hr : -1000 ≤ F ∧ F ≤ 1000 ∧ n ≤ 1000) (hlo : -1000 ≤ lo ∧ lo ≤ 0) (Wk : Nat → Int32) {pt : Int} (hpt : (lo < 0 ∧ pt = 0) ∨ (lo = 0 ∧ 100000 < pt)) : ∀ (r m : Nat) (e : Int) (P : Nat → Int32) (p : Int32) (L : List Nat), (r : Int) = e - lo + 1 → -1500 ≤ e ∧ e ≤ 1000 → r < m → L.length + 2 * r ≤ 4000 → pcOK P p L →
    ∃ s : Int32 × (Nat → Int32), lp_ (b_Model_decimalText_67 (iI (-lo)) (nI n) (iI ((n : Int) + lo)) c ex T Wk) m (iI (F - e), p, P) = some (s.1, c, ex, s.2, T, Wk) ∧ pcOK s.2 s.1 (L ++ LT2 (dl 10 N lo) pt r e) := by
  intro r
  induction r with
  | zero =>
    intro m e P p L he her hm hl hp
    obtain ⟨m, rfl⟩ : ∃ j, m = j + 1 := ⟨m - 1, by omega⟩
    refine ⟨(p, P), ?_, ?_⟩
    · show b_Model_decimalText_67 (iI (-lo)) (nI n) (iI ((n : Int) + lo)) c ex T Wk (lp_ (b_Model_decimalText_67 (iI (-lo)) (nI n) (iI ((n : Int) + lo)) c ex T Wk) m) _ = _
      rw [e_Model_decimalText_67]
      exact ifp (ile (n : Int) (F - e) (by omega) (iI_nat n).symm) rfl
    · show pcOK P p (L ++ [])
      rw [List.append_nil]
      exact hp
  | succ r ih =>
    intro m e P p L he her hm hl hp
    obtain ⟨m, rfl⟩ : ∃ j, m = j + 1 := ⟨m - 1, by omega⟩
    have hd : dat 10 N lo e < 16 := dat_16 (by omega)
    obtain ⟨s1, y1, y2⟩ := mo_addDigit hp hd (by omega)
    have l1 : (L ++ [lett (dat 10 N lo e)]).length = L.length + 1 := by rw [List.length_append]; rfl
    have dg : f_Model_digit T c (iI (F - e)) = some (nI (dat 10 N lo e)) := mo_dig h (fun h0 => by
      rw [hF h0]
      unfold frs
      rw [if_neg h0]) (by omega)
    have enext : iI (F - e) + 1 = iI (F - (e - 1)) := by
      rw [show (1 : Int32) = iI 1 from rfl, iI_add]
      congr 1
      omega
    have epk : iI ((n : Int) + lo) - (1 : Int32) = iI ((n : Int) + lo - 1) := by rw [show (1 : Int32) = iI 1 from rfl, iI_sub]
    have ew : ∀ (A B : Option (Int32 × Int32 × Int32 × (Nat → Int32) × (Nat → Int32) × (Nat → Int32))), A = B → (if (1 : Int32) ≤ iI ((n : Int) + lo) then A else A) = B := fun A B hAB => by rw [hAB]; exact ite_self _
    show ∃ s : Int32 × (Nat → Int32), b_Model_decimalText_67 (iI (-lo)) (nI n) (iI ((n : Int) + lo)) c ex T Wk (lp_ (b_Model_decimalText_67 (iI (-lo)) (nI n) (iI ((n : Int) + lo)) c ex T Wk) m) (iI (F - e), p, P) = some (s.1, c, ex, s.2, T, Wk) ∧ pcOK s.2 s.1 (L ++ (dl 10 N lo e :: ((if e = pt then [46] else []) ++ LT2 (dl 10 N lo) pt r (e - 1))))
    by_cases hpo : e = pt
    · rw [if_pos hpo]
      obtain ⟨s2, w1, w2⟩ := mo_add y2 46 (by omega)
      obtain ⟨s, z1, z2⟩ := ih m (e - 1) s2.2 s2.1 _ (by omega) (by omega) (by omega) (by rw [List.length_append, l1]; show L.length + 1 + 1 + 2 * r ≤ 4000; omega) w2
      refine ⟨s, ?_, ?_⟩
      · generalize lp_ (b_Model_decimalText_67 (iI (-lo)) (nI n) (iI ((n : Int) + lo)) c ex T Wk) m = rc at z1 ⊢
        rw [e_Model_decimalText_67]
        unfold k_Model_decimalText_106 k_Model_decimalText_115
        rw [enext, epk]
        refine ifn (inle (n : Int) (F - e) (by omega) (iI_nat n).symm) (bnd dg (bnd y1 (ifn (inle (-lo) 0 (by omega)) (ew _ _ (ifp (ieq (F - e) ((n : Int) + lo - 1) (by omega)) (bnd w1 z1))))))
      · rw [List.append_assoc, List.append_assoc] at z2
        exact z2
    · rw [if_neg hpo]
      obtain ⟨s, z1, z2⟩ := ih m (e - 1) s1.2 s1.1 _ (by omega) (by omega) (by omega) (by rw [l1]; omega) y2
      refine ⟨s, ?_, ?_⟩
      · generalize lp_ (b_Model_decimalText_67 (iI (-lo)) (nI n) (iI ((n : Int) + lo)) c ex T Wk) m = rc at z1 ⊢
        rw [e_Model_decimalText_67]
        unfold k_Model_decimalText_106 k_Model_decimalText_115
        rw [enext, epk]
        refine ifn (inle (n : Int) (F - e) (by omega) (iI_nat n).symm) (bnd dg (bnd y1 ?_))
        by_cases hl0 : lo = 0
        · exact ifp (ile (-lo) 0 (by omega)) z1
        · exact ifn (inle (-lo) 0 (by omega)) (ew _ _ (ifn (ine (F - e) ((n : Int) + lo - 1) (by omega)) z1))
      · rw [List.append_assoc] at z2
        exact z2
theorem mo_dt_sci {T : Nat → Int32} {c ex : Int32} {N : Nat} {lo F : Int} (h : mdR T c ex N lo) (hF : N ≠ 0 → F = frs 10 N lo) {n : Nat} (hr : -1000 ≤ F ∧ F ≤ 1000 ∧ n ≤ 1000) (Wk : Nat → Int32) : ∀ (r k m : Nat) (P : Nat → Int32) (p : Int32) (L : List Nat), k + r = n → r < m → L.length + r + 8 ≤ 4000 → pcOK P p L →
    ∃ s : Int32 × (Nat → Int32), lp_ (b_Model_decimalText_145 5000 (nI n) (iI F) c ex T Wk) m (nI k, p, P) = some (s.1, c, ex, s.2, T, Wk) ∧ pcOK s.2 s.1 (L ++ (dnI (dl 10 N lo) (F - (k : Int)) r ++ (if F = 0 then [] else (if 0 < F then [69, 43] else [69]) ++ nmL F 1))) := by
  intro r
  induction r with
  | zero =>
    intro k m P p L hk hm hl hp
    obtain ⟨m, rfl⟩ : ∃ j, m = j + 1 := ⟨m - 1, by omega⟩
    show ∃ s : Int32 × (Nat → Int32), b_Model_decimalText_145 5000 (nI n) (iI F) c ex T Wk (lp_ (b_Model_decimalText_145 5000 (nI n) (iI F) c ex T Wk) m) (nI k, p, P) = some (s.1, c, ex, s.2, T, Wk) ∧ pcOK s.2 s.1 (L ++ ([] ++ (if F = 0 then [] else (if 0 < F then [69, 43] else [69]) ++ nmL F 1)))
    rw [e_Model_decimalText_145]
    unfold k_Model_decimalText_192
    rw [List.nil_append]
    by_cases h0 : F = 0
    · rw [if_pos h0]
      refine ⟨(p, P), ifp (nI_le (by omega) (by omega)) (ifp (ieq F 0 h0) rfl), ?_⟩
      rw [List.append_nil]
      exact hp
    · rw [if_neg h0]
      obtain ⟨s1, y1, y2⟩ := mo_add hp 69 (by omega)
      have l1 : (L ++ [69]).length = L.length + 1 := by rw [List.length_append]; rfl
      unfold nmL
      by_cases hpo : 0 < F
      · rw [if_pos hpo, if_neg (show ¬ F < 0 by omega)]
        obtain ⟨s2, w1, w2⟩ := mo_add y2 43 (by omega)
        obtain ⟨s3, z1, z2⟩ := mo_number (z := F) (least := 1) (by omega) (Or.inl rfl) w2 (by rw [List.length_append, l1]; show L.length + 1 + 1 + 4 ≤ 4000; omega)
        refine ⟨s3, ifp (nI_le (by omega) (by omega)) (ifn (ine F 0 h0) (bnd y1 (ifp (ile 0 F (by omega)) (bnd w1 (bnd z1 rfl))))), ?_⟩
        rw [List.append_assoc, List.append_assoc] at z2
        exact z2
      · rw [if_neg hpo, if_pos (show F < 0 by omega)]
        obtain ⟨s2, w1, w2⟩ := mo_add y2 45 (by omega)
        obtain ⟨s3, z1, z2⟩ := mo_number (z := F) (least := 1) (by omega) (Or.inl rfl) w2 (by rw [List.length_append, l1]; show L.length + 1 + 1 + 4 ≤ 4000; omega)
        refine ⟨s3, ifp (nI_le (by omega) (by omega)) (ifn (ine F 0 h0) (bnd y1 (ifn (inle 0 F (by omega)) (bnd w1 (bnd z1 rfl))))), ?_⟩
        rw [List.append_assoc, List.append_assoc] at z2
        exact z2
  | succ r ih =>
    intro k m P p L hk hm hl hp
    obtain ⟨m, rfl⟩ : ∃ j, m = j + 1 := ⟨m - 1, by omega⟩
    have hd : dat 10 N lo (F - (k : Int)) < 16 := dat_16 (by omega)
    obtain ⟨s1, y1, y2⟩ := mo_addDigit hp hd (by omega)
    obtain ⟨s, z1, z2⟩ := ih (k + 1) m s1.2 s1.1 _ (by omega) (by omega) (by rw [List.length_append]; show L.length + 1 + r + 8 ≤ 4000; omega) y2
    refine ⟨s, ?_, ?_⟩
    · show b_Model_decimalText_145 5000 (nI n) (iI F) c ex T Wk (lp_ (b_Model_decimalText_145 5000 (nI n) (iI F) c ex T Wk) m) _ = _
      generalize lp_ (b_Model_decimalText_145 5000 (nI n) (iI F) c ex T Wk) m = rc at z1 ⊢
      rw [e_Model_decimalText_145]
      rw [nI_1]
      refine ifn (nI_ge (by omega) (by omega)) ?_
      rw [← iI_nat k]
      refine bnd (mo_dig h (e := F - (k : Int)) (fun h0 => ?_) (by omega)) (bnd y1 z1)
      rw [hF h0]
      unfold frs
      rw [if_neg h0]
      omega
    · show pcOK s.2 s.1 (L ++ ((dl 10 N lo (F - (k : Int)) :: dnI (dl 10 N lo) (F - (k : Int) - 1) r) ++ (if F = 0 then [] else (if 0 < F then [69, 43] else [69]) ++ nmL F 1)))
      rw [List.append_assoc] at z2
      rw [show F - (k : Int) - 1 = F - ((k + 1 : Nat) : Int) by omega]
      exact z2
theorem mo_dtext {T : Nat → Int32} {c ex : Int32} {N : Nat} {lo : Int} (h : mdR T c ex N lo) (hN : nd 10 N < 207) (hlo : -400 ≤ lo ∧ lo ≤ 400) {n : Nat} (hn : n = if N = 0 then 1 else nd 10 N) (Wk : Nat → Int32) {P : Nat → Int32} {p : Int32} {L : List Nat} (hp : pcOK P p L) (hl : L.length ≤ 10) :
    ∃ s : Int32 × (Nat → Int32), k_Model_decimalText_27 5000 (iI (-lo)) (nI n) p c ex P T Wk = some (s.1, c, ex, s.2, T, Wk) ∧ pcOK s.2 s.1 (L ++ dtL N lo) := by
  obtain ⟨F, hFe⟩ : ∃ F : Int, F = (if N = 0 then lo else frs 10 N lo) := ⟨_, rfl⟩
  have hF : N ≠ 0 → F = frs 10 N lo := fun h0 => by rw [hFe, if_neg h0]
  have hFn : F = (n : Int) - 1 + lo := by
    rw [hFe, hn]
    by_cases h0 : N = 0
    · rw [if_pos h0, if_pos h0]
      omega
    · rw [if_neg h0, if_neg h0]
      unfold frs
      rw [if_neg h0]
      omega
  have hn1 : 1 ≤ n ∧ n ≤ 210 := by
    rw [hn]
    by_cases h0 : N = 0
    · rw [if_pos h0]; omega
    · rw [if_neg h0]
      have := nd_pos (b := 10) (by omega) h0
      omega
  have hE : (frs 10 N lo).toNat = F.toNat ∨ (N = 0 ∧ (frs 10 N lo).toNat = 0) := by
    by_cases h0 : N = 0
    · right
      refine ⟨h0, ?_⟩
      unfold frs
      rw [if_pos h0]
      rfl
    · left
      rw [hF h0]
  unfold k_Model_decimalText_27 dtL
  try dsimp only
  rw [← hFe]
  have ex4 : (nI n - (1 : Int32)) - iI (-lo) = iI F := by
    rw [← iI_nat, show (1 : Int32) = iI 1 from rfl, iI_sub, iI_sub, hFn]
    congr 1
    omega
  have ex5 : nI n - iI (-lo) = iI ((n : Int) + lo) := by
    rw [← iI_nat, iI_sub]
    congr 1
    omega
  rw [ex4, ex5]
  by_cases hc : lo ≤ 0 ∧ -6 ≤ F
  · rw [if_pos hc]
    obtain ⟨pt, hpt⟩ : ∃ pt : Int, (lo < 0 ∧ pt = 0) ∨ (lo = 0 ∧ 100000 < pt) := by
      by_cases hl0 : lo = 0
      · exact ⟨100001, Or.inr ⟨hl0, by omega⟩⟩
      · exact ⟨0, Or.inl ⟨by omega, rfl⟩⟩
    obtain ⟨E, hEE⟩ : ∃ E : Nat, E = (frs 10 N lo).toNat := ⟨_, rfl⟩
    have hEr : (E : Int) = F ∧ 0 ≤ F ∨ E = 0 ∧ F ≤ 0 := by
      rcases hE with h1 | ⟨h1, h2⟩
      · omega
      · have : F = lo := by rw [hFe, if_pos h1]
        omega
    obtain ⟨s, q1, q2⟩ := mo_dt_plain h hF (n := n) (by omega) (by omega) (by omega) Wk hpt ((E : Int) - lo + 1).toNat 5000 (E : Int) P p L (by omega) (by omega) (by omega) (by omega) hp
    refine ⟨s, ?_, ?_⟩
    · unfold k_Model_decimalText_65
      try dsimp only
      refine ifn (inlt (-lo) 0 (by omega)) (ifn (inlt F (-6) (by omega)) ?_)
      by_cases hw : 1 ≤ (n : Int) + lo
      · rw [show F - (E : Int) = 0 by omega] at q1
        exact ifp (ile 1 _ hw) q1
      · refine ifn (inle 1 ((n : Int) + lo) (by omega)) ?_
        rw [show F - (E : Int) = (n : Int) + lo - 1 by omega] at q1
        rw [show (1 : Int32) = iI 1 from rfl, iI_sub]
        exact q1
    · rw [← hEE]
      have e : LT2 (dl 10 N lo) pt ((E : Int) - lo + 1).toNat (E : Int) = wlN (fun e => dl 10 N lo e) false E ++ bp (dl 10 N lo) (-1) lo false := by
        unfold bp
        rcases hpt with ⟨h1, rfl⟩ | ⟨h1, h2⟩
        · rw [if_pos (Or.inl (by omega)), show ((E : Int) - lo + 1).toNat = E + 1 + (-1 - lo + 1).toNat by omega]
          exact LT2_whole (dl 10 N lo) E _
        · rw [if_neg (show ¬ (_ ∨ false = true) from fun z => z.elim (fun y => by omega) (fun y => by cases y)), show ((E : Int) - lo + 1).toNat = E + 1 by omega, show (-1 - lo + 1).toNat = 0 by omega]
          rw [LT2_plain (dl 10 N lo) h2 E (by omega)]
          show _ = _ ++ ([] ++ [])
          rw [List.append_nil, List.append_nil]
      rw [e] at q2
      exact q2
  · rw [if_neg hc]
    have hd : dat 10 N lo F < 16 := dat_16 (by omega)
    obtain ⟨s1, y1, y2⟩ := mo_addDigit hp hd (by omega)
    have l1 : (L ++ [lett (dat 10 N lo F)]).length = L.length + 1 := by rw [List.length_append]; rfl
    have d0 : f_Model_digit T c 0 = some (nI (dat 10 N lo F)) := mo_dig h (z := 0) (fun h0 => by
      rw [hF h0]
      unfold frs
      rw [if_neg h0]
      omega) (by omega)
    have fin : ∃ s : Int32 × (Nat → Int32), k_Model_decimalText_122 5000 (nI n) (iI F) p c ex P T Wk = some (s.1, c, ex, s.2, T, Wk) ∧ pcOK s.2 s.1 (L ++ ([dl 10 N lo F] ++ (bp (dl 10 N lo) (F - 1) lo false ++ (if F = 0 then [] else (if 0 < F then [69, 43] else [69]) ++ nmL F 1)))) := by
      unfold k_Model_decimalText_122 k_Model_decimalText_142 bp
      try dsimp only
      by_cases hn2 : n ≤ 1
      · have hn3 : n = 1 := by omega
        subst hn3
        rw [if_neg (show ¬ (_ ∨ false = true) from fun z => z.elim (fun y => by omega) (fun y => by cases y)), show (F - 1 - lo + 1).toNat = 0 by omega]
        obtain ⟨s, z1, z2⟩ := mo_dt_sci h hF (n := 1) (by omega) Wk 0 1 5000 s1.2 s1.1 _ (by omega) (by omega) (by rw [l1]; omega) y2
        refine ⟨s, bnd d0 (bnd y1 (ifp (by decide) z1)), ?_⟩
        rw [List.append_assoc] at z2
        exact z2
      · rw [if_pos (Or.inl (by omega)), show (F - 1 - lo + 1).toNat = n - 1 by omega]
        obtain ⟨s2, w1, w2⟩ := mo_add y2 46 (by omega)
        obtain ⟨s, z1, z2⟩ := mo_dt_sci h hF (n := n) (by omega) Wk (n - 1) 1 5000 s2.2 s2.1 _ (by omega) (by omega) (by rw [List.length_append, l1]; show L.length + 1 + 1 + (n - 1) + 8 ≤ 4000; omega) w2
        refine ⟨s, bnd d0 (bnd y1 (ifn (qnle 1 (by omega)) (bnd w1 z1))), ?_⟩
        rw [List.append_assoc, List.append_assoc] at z2
        exact z2
    obtain ⟨s, q1, q2⟩ := fin
    refine ⟨s, ?_, q2⟩
    by_cases hl0 : 0 < lo
    · exact ifp (ilt (-lo) 0 (by omega)) q1
    · exact ifn (inlt (-lo) 0 (by omega)) (ifp (ilt F (-6) (by omega)) q1)
