theorem tz_uniq {N z1 z2 : Nat} (h1 : tzP N z1) (h2 : tzP N z2) : z1 = z2 := by
  rcases Nat.lt_trichotomy z1 z2 with h | h | h
  · exact absurd (h2.2.2 z1 h) h1.2.1
  · exact h
  · exact absurd (h1.2.2 z2 h) h2.2.1
theorem mo_strip {T : Nat → Int32} {N : Nat} {z : Nat} (hz : tzP N z) (h6 : nd 10 N ≤ 600) (hT : ∀ k, k < nd 10 N → T k = nI (N / 10 ^ (nd 10 N - 1 - k) % 10)) (p ex : Int32) (P Wk : Nat → Int32) : ∀ (d i m : Nat), i + d = z → d < m → lp_ (b_Model_fractionText_5 5000 p ex P T Wk) m (nI (nd 10 N - i)) = k_Model_fractionText_39 5000 p (nI (nd 10 N - z)) ex P T Wk := by
  intro d
  have hzl := hz.1
  have hlt : ∀ i, N / 10 ^ i % 10 < 10 := fun i => Nat.mod_lt _ (by omega)
  induction d with
  | zero =>
    intro i m hi hm
    obtain ⟨m, rfl⟩ : ∃ j, m = j + 1 := ⟨m - 1, by omega⟩
    obtain rfl : i = z := by omega
    show b_Model_fractionText_5 5000 p ex P T Wk (lp_ (b_Model_fractionText_5 5000 p ex P T Wk) m) _ = _
    rw [e_Model_fractionText_5]
    have := hlt i
    rw [show nI (nd 10 N - i) - (1 : Int32) = nI (nd 10 N - i - 1) from pk_sub (b := 1) (by omega), nI_clamp (by omega), hT _ (by omega), show nd 10 N - 1 - (nd 10 N - i - 1) = i by omega]
    exact ifn (nI_nle (by omega) (by omega)) (ifp (inB_n (by omega)) (ifn (qne 0 hz.2.1) rfl))
  | succ d ih =>
    intro i m hi hm
    obtain ⟨m, rfl⟩ : ∃ j, m = j + 1 := ⟨m - 1, by omega⟩
    rw [← ih (i + 1) m (by omega) (by omega)]
    show b_Model_fractionText_5 5000 p ex P T Wk (lp_ (b_Model_fractionText_5 5000 p ex P T Wk) m) _ = _
    generalize lp_ (b_Model_fractionText_5 5000 p ex P T Wk) m = rc
    rw [e_Model_fractionText_5]
    rw [show nI (nd 10 N - i) - (1 : Int32) = nI (nd 10 N - i - 1) from pk_sub (b := 1) (by omega), nI_clamp (by omega), hT _ (by omega), show nd 10 N - 1 - (nd 10 N - i - 1) = i by omega, show nd 10 N - (i + 1) = nd 10 N - i - 1 by omega]
    exact ifn (nI_nle (by omega) (by omega)) (ifp (inB_n (by omega)) (ifp (qeq 0 (hz.2.2 i (by omega))) rfl))
theorem mdR_strip {T : Nat → Int32} {N z : Nat} {lo : Int} (h0 : N ≠ 0) (hz : tzP N z) (h6 : nd 10 N ≤ 600) (hT : ∀ k, k < nd 10 N → T k = nI (N / 10 ^ (nd 10 N - 1 - k) % 10)) : mdR T (nI (nd 10 N - z)) (iI (frs 10 N lo)) N lo := by
  have hzl := hz.1
  refine Or.inr ⟨h0, nd 10 N - z, by omega, by omega, rfl, ?_, fun k hk => ?_, fun k hk => ?_⟩
  · unfold frs
    rw [if_neg h0]
  · rw [hT k (by omega)]
    unfold dgh
    rw [if_pos (by omega)]
  · unfold dgh
    by_cases h : k < nd 10 N
    · rw [if_pos h]
      exact hz.2.2 _ (by omega)
    · rw [if_neg h]
theorem mo_ft_l {T : Nat → Int32} {c ex : Int32} {N : Nat} {lo F : Int} (h : mdR T c ex N lo) (h0 : N ≠ 0) (hF : F = frs 10 N lo) (hex : ex = iI F) (hr : -1000 ≤ F ∧ F ≤ 1000) (pl : Bool) (hpl : pl = true ↔ (-3 ≤ F ∧ F ≤ 6)) (Wk : Nat → Int32) {to pt : Int} (hto : -1000 ≤ to ∧ to ≤ 1000) {x3 x4 : Int32} (hx3 : pl = true → F < 0 → x3 = iI (F - pt)) (hx4 : ¬ (pl = true ∧ F < 0) → x4 = iI (F - pt)) (hpt : -2000 ≤ pt ∧ pt ≤ 2000) : ∀ (r m : Nat) (e : Int) (P : Nat → Int32) (p : Int32) (L : List Nat), (r : Int) = e - (F - to) + 1 → -2500 ≤ e ∧ e ≤ 2000 → r < m → L.length + 2 * r + 8 ≤ 4000 → pcOK P p L →
    ∃ s : Int32 × (Nat → Int32), lp_ (b_Model_fractionText_163 5000 (bI pl) x3 x4 (iI to) c ex T Wk) m (iI (F - e), p, P) = some (s.1, c, ex, s.2, T, Wk) ∧ pcOK s.2 s.1 (L ++ (LT2 (dl 10 N lo) pt r e ++ (if pl = true then [] else [69] ++ nmL F 1))) := by
  intro r
  induction r with
  | zero =>
    intro m e P p L he her hm hl hp
    obtain ⟨m, rfl⟩ : ∃ j, m = j + 1 := ⟨m - 1, by omega⟩
    show ∃ s : Int32 × (Nat → Int32), b_Model_fractionText_163 5000 (bI pl) x3 x4 (iI to) c ex T Wk (lp_ (b_Model_fractionText_163 5000 (bI pl) x3 x4 (iI to) c ex T Wk) m) (iI (F - e), p, P) = some (s.1, c, ex, s.2, T, Wk) ∧ pcOK s.2 s.1 (L ++ ([] ++ (if pl = true then [] else [69] ++ nmL F 1)))
    rw [e_Model_fractionText_163]
    unfold k_Model_fractionText_238
    rw [List.nil_append]
    cases pl with
    | true =>
      rw [if_pos rfl]
      refine ⟨(p, P), ifp (ilt to (F - e) (by omega)) (ifn (by decide) rfl), ?_⟩
      rw [List.append_nil]
      exact hp
    | false =>
      rw [if_neg (show ¬ false = true by decide)]
      obtain ⟨s1, y1, y2⟩ := mo_add hp 69 (by omega)
      have l1 : (L ++ [69]).length = L.length + 1 := by rw [List.length_append]; rfl
      unfold nmL
      by_cases hneg : F < 0
      · rw [if_pos hneg]
        obtain ⟨s2, w1, w2⟩ := mo_add y2 45 (by omega)
        obtain ⟨s3, z1, z2⟩ := mo_number (z := F) (least := 1) (by omega) (Or.inl rfl) w2 (by rw [List.length_append, l1]; show L.length + 1 + 1 + 4 ≤ 4000; omega)
        refine ⟨s3, ?_, ?_⟩
        · rw [hex]
          exact ifp (ilt to (F - e) (by omega)) (ifp rfl (bnd y1 (ifn (inle 0 F hneg) (bnd w1 (bnd z1 rfl)))))
        · rw [List.append_assoc, List.append_assoc] at z2
          exact z2
      · rw [if_neg hneg]
        obtain ⟨s3, z1, z2⟩ := mo_number (z := F) (least := 1) (by omega) (Or.inl rfl) y2 (by rw [l1]; omega)
        refine ⟨s3, ?_, ?_⟩
        · rw [hex]
          exact ifp (ilt to (F - e) (by omega)) (ifp rfl (bnd y1 (ifp (ile 0 F (by omega)) (bnd z1 rfl))))
        · rw [List.append_assoc] at z2
          exact z2
  | succ r ih =>
    intro m e P p L he her hm hl hp
    obtain ⟨m, rfl⟩ : ∃ j, m = j + 1 := ⟨m - 1, by omega⟩
    have hd : dat 10 N lo e < 16 := dat_16 (by omega)
    obtain ⟨s1, y1, y2⟩ := mo_addDigit hp hd (by omega)
    have l1 : (L ++ [lett (dat 10 N lo e)]).length = L.length + 1 := by rw [List.length_append]; rfl
    have dg : f_Model_digit T c (iI (F - e)) = some (nI (dat 10 N lo e)) := mo_dig h (fun h0 => by
      rw [hF]
      unfold frs
      rw [if_neg h0]) (by omega)
    have enext : iI (F - e) + 1 = iI (F - (e - 1)) := by
      rw [show (1 : Int32) = iI 1 from rfl, iI_add]
      congr 1
      omega
    show ∃ s : Int32 × (Nat → Int32), b_Model_fractionText_163 5000 (bI pl) x3 x4 (iI to) c ex T Wk (lp_ (b_Model_fractionText_163 5000 (bI pl) x3 x4 (iI to) c ex T Wk) m) (iI (F - e), p, P) = some (s.1, c, ex, s.2, T, Wk) ∧ pcOK s.2 s.1 (L ++ ((dl 10 N lo e :: ((if e = pt then [46] else []) ++ LT2 (dl 10 N lo) pt r (e - 1))) ++ (if pl = true then [] else [69] ++ nmL F 1)))
    have sel : ∀ (rc : (Int32 × Int32 × (Nat → Int32)) → Option (Int32 × Int32 × Int32 × (Nat → Int32) × (Nat → Int32) × (Nat → Int32))) (X : Option (Int32 × Int32 × Int32 × (Nat → Int32) × (Nat → Int32) × (Nat → Int32))), k_Model_fractionText_199 rc (iI (F - e)) (iI (F - e)) (iI (F - pt)) s1.1 s1.2 = X → (if bI pl = 0 then k_Model_fractionText_197 x4 rc (iI (F - e)) (iI (F - e)) s1.1 s1.2 else (if 0 ≤ ex then k_Model_fractionText_197 x4 rc (iI (F - e)) (iI (F - e)) s1.1 s1.2 else k_Model_fractionText_199 rc (iI (F - e)) (iI (F - e)) x3 s1.1 s1.2)) = X := by
      intro rc X hX
      unfold k_Model_fractionText_197
      try dsimp only
      rw [hex]
      cases hb : pl with
      | false =>
        rw [hx4 (fun z => by rw [hb] at z; cases z.1)]
        exact ifp rfl hX
      | true =>
        by_cases hneg : F < 0
        · rw [hx3 hb hneg]
          exact ifn (by decide) (ifn (inle 0 F hneg) hX)
        · rw [hx4 (fun z => hneg z.2)]
          exact ifn (by decide) (ifp (ile 0 F (by omega)) hX)
    by_cases hpo : e = pt
    · rw [if_pos hpo]
      obtain ⟨s2, w1, w2⟩ := mo_add y2 46 (by omega)
      obtain ⟨s, z1, z2⟩ := ih m (e - 1) s2.2 s2.1 _ (by omega) (by omega) (by omega) (by rw [List.length_append, l1]; show L.length + 1 + 1 + 2 * r + 8 ≤ 4000; omega) w2
      refine ⟨s, ?_, ?_⟩
      · generalize lp_ (b_Model_fractionText_163 5000 (bI pl) x3 x4 (iI to) c ex T Wk) m = rc at z1 ⊢
        rw [e_Model_fractionText_163]
        refine ifn (inlt to (F - e) (by omega)) (bnd dg (bnd y1 (sel rc _ ?_)))
        unfold k_Model_fractionText_199 k_Model_fractionText_208
        try dsimp only
        rw [enext]
        exact ifp (ieq (F - e) (F - pt) (by omega)) (bnd w1 z1)
      · rw [List.append_assoc, List.append_assoc] at z2
        exact z2
    · rw [if_neg hpo]
      obtain ⟨s, z1, z2⟩ := ih m (e - 1) s1.2 s1.1 _ (by omega) (by omega) (by omega) (by rw [l1]; omega) y2
      refine ⟨s, ?_, ?_⟩
      · generalize lp_ (b_Model_fractionText_163 5000 (bI pl) x3 x4 (iI to) c ex T Wk) m = rc at z1 ⊢
        rw [e_Model_fractionText_163]
        refine ifn (inlt to (F - e) (by omega)) (bnd dg (bnd y1 (sel rc _ ?_)))
        unfold k_Model_fractionText_199 k_Model_fractionText_208
        try dsimp only
        rw [enext]
        exact ifn (ine (F - e) (F - pt) (by omega)) z1
      · rw [List.append_assoc] at z2
        exact z2
theorem LT2_first (F : Int → Nat) (e : Int) (r : Nat) : LT2 F e (r + 1) e = [F e] ++ ([46] ++ dnI F (e - 1) r) := by
  show F e :: ((if e = e then [46] else []) ++ LT2 F e r (e - 1)) = _
  rw [if_pos rfl, LT2_below F e r (e - 1) (by omega)]
  rfl
theorem by_00 : byL 3157552 8 = [48, 46, 48] := by decide +kernel
theorem mo_ftext {T : Nat → Int32} {N : Nat} {lo : Int} (hmd : mdOK 10 T (nI (nd 10 N)) N) (hN : nd 10 N < 207) (hlo : -400 ≤ lo ∧ lo ≤ 400) {z : Nat} (hz : N ≠ 0 → tzP N z) (Wk : Nat → Int32) {P : Nat → Int32} {p : Int32} {L : List Nat} (hp : pcOK P p L) (hl : L.length ≤ 10) :
    ∃ (s : Int32 × (Nat → Int32)) (c x : Int32), lp_ (b_Model_fractionText_5 5000 p (iI (lo + (nd 10 N : Int) - 1)) P T Wk) 5000 (nI (nd 10 N)) = some (s.1, c, x, s.2, T, Wk) ∧ pcOK s.2 s.1 (L ++ ftL N lo z) := by
  by_cases h0 : N = 0
  · subst h0
    rw [nd_0]
    obtain ⟨s, y1, y2⟩ := mo_addWord (a := 3157552) (by decide) by_00 hp (by omega)
    refine ⟨s, 0, iI (lo + 0 - 1), ?_, ?_⟩
    · show b_Model_fractionText_5 5000 p (iI (lo + ((0 : Nat) : Int) - 1)) P T Wk (lp_ (b_Model_fractionText_5 5000 p (iI (lo + ((0 : Nat) : Int) - 1)) P T Wk) 4999) _ = _
      rw [e_Model_fractionText_5]
      unfold k_Model_fractionText_39
      exact ifp (by decide) (ifp rfl (bnd y1 rfl))
    · have e : ftL 0 lo z = [48, 46, 48] := by
        have hF0 : frs 10 0 lo = 0 := if_pos rfl
        unfold ftL
        rw [hF0, if_pos (show -3 ≤ (0 : Int) ∧ (0 : Int) ≤ 6 by omega), if_pos (show (0 : Nat) = 0 from rfl), if_neg (show ¬ (0 : Int) < -1 by omega)]
        unfold bp
        rw [if_pos (show (-1 : Int) ≤ -1 ∨ false = true from Or.inl (by omega)), show ((-1 : Int) - -1 + 1).toNat = 1 by omega]
        show [lett (dat 10 0 lo ((0 : Nat) : Int))] ++ ([46] ++ [lett (dat 10 0 lo (-1))]) = _
        rw [dat_0, dat_0]
        rfl
      rw [e]
      exact y2
  · have hzP := hz h0
    have hzl := hzP.1
    obtain ⟨_, h6, hT⟩ := hmd
    have hex : iI (lo + (nd 10 N : Int) - 1) = iI (frs 10 N lo) := by
      unfold frs
      rw [if_neg h0]
    rw [hex]
    have hR := mdR_strip (lo := lo) h0 hzP h6 hT
    have hst := mo_strip hzP h6 hT p (iI (frs 10 N lo)) P Wk z 0 5000 (by omega) (by omega)
    rw [Nat.sub_zero] at hst
    have hfr := frs_range (N := N) (lo := lo) (by omega) (by omega)
    have hfe : frs 10 N lo = lo + (nd 10 N : Int) - 1 := by
      unfold frs
      rw [if_neg h0]
    obtain ⟨n, hn⟩ : ∃ n : Nat, n = nd 10 N - z := ⟨_, rfl⟩
    rw [← hn] at hst hR
    have hlast : frs 10 N lo - ((n : Int) - 1) = lo + z := by omega
    obtain ⟨F, hFe⟩ : ∃ F : Int, F = frs 10 N lo := ⟨_, rfl⟩
    rw [← hFe] at hst hR hfr hfe hlast ⊢
    have en1 : nI n - (1 : Int32) = iI ((n : Int) - 1) := by rw [← iI_nat, show (1 : Int32) = iI 1 from rfl, iI_sub]
    have run : ∀ (pl : Bool) (first point to e0 pt : Int), (pl = true ↔ (-3 ≤ F ∧ F ≤ 6)) → -1000 ≤ to ∧ to ≤ 1000 → (pl = true → F < 0 → first = F - pt) → (¬ (pl = true ∧ F < 0) → point = F - pt) → -700 ≤ pt ∧ pt ≤ 700 → first = F - e0 → F - to ≤ e0 + 1 → -700 ≤ e0 ∧ e0 ≤ 700 → e0 - (F - to) + 1 ≤ 1500 → ∃ s : Int32 × (Nat → Int32), k_Model_fractionText_160 5000 (bI pl) (iI first) (iI point) (iI to) p (nI n) (iI F) P T Wk = some (s.1, nI n, iI F, s.2, T, Wk) ∧ pcOK s.2 s.1 (L ++ (LT2 (dl 10 N lo) pt (e0 - (F - to) + 1).toNat e0 ++ (if pl = true then [] else [69] ++ nmL F 1))) := by
      intro pl first point to e0 pt g1 g2 g3 g4 g5 g6 g7 g8 g9
      unfold k_Model_fractionText_160
      try dsimp only
      have := mo_ft_l hR h0 hFe rfl (by omega) pl g1 Wk g2 (x3 := iI first) (x4 := iI point) (pt := pt) (fun a b => by rw [g3 a b]) (fun a => by rw [g4 a]) (by omega) (e0 - (F - to) + 1).toNat 5000 e0 P p L (by omega) (by omega) (by omega) (by omega) hp
      rw [show iI (F - e0) = iI first from by rw [g6]] at this
      exact this
    have main : ∃ s : Int32 × (Nat → Int32), k_Model_fractionText_39 5000 p (nI n) (iI F) P T Wk = some (s.1, nI n, iI F, s.2, T, Wk) ∧ pcOK s.2 s.1 (L ++ ftL N lo z) := by
      unfold ftL
      rw [← hFe, if_neg h0]
      unfold k_Model_fractionText_39 k_Model_fractionText_77
      try dsimp only
      by_cases hpl : -3 ≤ F ∧ F ≤ 6
      · rw [if_pos hpl]
        by_cases hneg : F < 0
        · -- 0.0ddd
          obtain ⟨s, q1, q2⟩ := run true F F ((n : Int) - 1) 0 0 ⟨fun _ => hpl, fun _ => rfl⟩ (by omega) (fun _ _ => by omega) (fun a => absurd ⟨rfl, hneg⟩ a) (by omega) (by omega) (by omega) (by omega) (by omega)
          refine ⟨s, ?_, ?_⟩
          · refine ifn (qne 0 (by omega)) (ifn (inlt F (-3) (by omega)) (ifn (inlt 6 F (by omega)) ?_))
            unfold k_Model_fractionText_78 k_Model_fractionText_98 k_Model_fractionText_111 k_Model_fractionText_139
            try dsimp only
            rw [en1, show (1 : Int32) = iI 1 from rfl, iI_add]
            refine ifn (by decide) (ifn (inle 0 F hneg) (ifn (by decide) ?_))
            by_cases ht : (n : Int) - 1 ≤ F + 1
            · exact ifp (ile _ _ ht) (ifn (by decide) (ifn (inle 0 F hneg) q1))
            · exact ifn (inle ((n : Int) - 1) (F + 1) (by omega)) (ifn (by decide) (ifn (inle 0 F hneg) q1))
          · rw [if_pos rfl, List.append_nil] at q2
            have e : LT2 (dl 10 N lo) 0 (0 - (F - ((n : Int) - 1)) + 1).toNat 0 = wlN (fun e => dl 10 N lo e) false F.toNat ++ bp (dl 10 N lo) (-1) (if lo + (z : Int) < -1 then lo + (z : Int) else -1) false := by
              have emin : (if lo + (z : Int) < -1 then lo + (z : Int) else -1) = lo + z := by
                by_cases h : lo + (z : Int) < -1
                · rw [if_pos h]
                · rw [if_neg h]; omega
              rw [emin, show F.toNat = 0 by omega]
              unfold bp
              rw [if_pos (Or.inl (by omega)), show (0 - (F - ((n : Int) - 1)) + 1).toNat = 0 + 1 + (-1 - (lo + (z : Int)) + 1).toNat by omega]
              exact LT2_whole (dl 10 N lo) 0 _
            rw [e] at q2
            exact q2
        · -- ddd.ddd
          obtain ⟨to, hto⟩ : ∃ to : Int, to = (if (n : Int) - 1 ≤ F + 1 then F + 1 else (n : Int) - 1) := ⟨_, rfl⟩
          have hto2 : (to = F + 1 ∧ (n : Int) - 1 ≤ F + 1) ∨ (to = (n : Int) - 1 ∧ F + 1 < (n : Int) - 1) := by
            rw [hto]
            by_cases h : (n : Int) - 1 ≤ F + 1
            · rw [if_pos h]; exact Or.inl ⟨rfl, h⟩
            · rw [if_neg h]; exact Or.inr ⟨rfl, by omega⟩
          obtain ⟨s, q1, q2⟩ := run true 0 F to F 0 ⟨fun _ => hpl, fun _ => rfl⟩ (by omega) (fun _ b => absurd b hneg) (fun _ => by omega) (by omega) (by omega) (by omega) (by omega) (by omega)
          refine ⟨s, ?_, ?_⟩
          · refine ifn (qne 0 (by omega)) (ifn (inlt F (-3) (by omega)) (ifn (inlt 6 F (by omega)) ?_))
            unfold k_Model_fractionText_78 k_Model_fractionText_97 k_Model_fractionText_98 k_Model_fractionText_111 k_Model_fractionText_139
            try dsimp only
            rw [en1, show (1 : Int32) = iI 1 from rfl, iI_add]
            refine ifn (by decide) (ifp (ile 0 F (by omega)) (ifn (by decide) ?_))
            rcases hto2 with ⟨t1, t2⟩ | ⟨t1, t2⟩
            · rw [t1] at q1
              exact ifp (ile _ _ t2) (ifn (by decide) (ifp (ile 0 F (by omega)) q1))
            · rw [t1] at q1
              exact ifn (inle _ _ t2) (ifn (by decide) (ifp (ile 0 F (by omega)) q1))
          · rw [if_pos rfl, List.append_nil] at q2
            obtain ⟨E, hE⟩ : ∃ E : Nat, F = (E : Int) := ⟨F.toNat, by omega⟩
            have e : LT2 (dl 10 N lo) 0 (F - (F - to) + 1).toNat F = wlN (fun e => dl 10 N lo e) false F.toNat ++ bp (dl 10 N lo) (-1) (if lo + (z : Int) < -1 then lo + (z : Int) else -1) false := by
              have emin : (if lo + (z : Int) < -1 then lo + (z : Int) else -1) = F - to := by
                by_cases h : lo + (z : Int) < -1
                · rw [if_pos h]; omega
                · rw [if_neg h]; omega
              rw [emin]
              unfold bp
              rw [if_pos (Or.inl (by omega)), show F.toNat = E by omega, show (F - (F - to) + 1).toNat = E + 1 + (-1 - (F - to) + 1).toNat by omega, hE]
              exact LT2_whole (dl 10 N lo) E _
            rw [e] at q2
            exact q2
      · rw [if_neg hpl]
        obtain ⟨to, hto⟩ : ∃ to : Int, to = (if (n : Int) - 1 ≤ 1 then 1 else (n : Int) - 1) := ⟨_, rfl⟩
        have hto2 : (to = 1 ∧ (n : Int) - 1 ≤ 1) ∨ (to = (n : Int) - 1 ∧ 1 < (n : Int) - 1) := by
          rw [hto]
          by_cases h : (n : Int) - 1 ≤ 1
          · rw [if_pos h]; exact Or.inl ⟨rfl, h⟩
          · rw [if_neg h]; exact Or.inr ⟨rfl, by omega⟩
        obtain ⟨s, q1, q2⟩ := run false 0 0 to F F ⟨fun a => (by cases a), fun a => absurd a hpl⟩ (by omega) (fun a => by cases a) (fun _ => by omega) (by omega) (by omega) (by omega) (by omega) (by omega)
        have fin : k_Model_fractionText_78 5000 (0 : Int32) p (nI n) (iI F) P T Wk = some (s.1, nI n, iI F, s.2, T, Wk) := by
          unfold k_Model_fractionText_78 k_Model_fractionText_97 k_Model_fractionText_98 k_Model_fractionText_111 k_Model_fractionText_139
          try dsimp only
          rw [en1]
          refine ifp rfl (ifp rfl ?_)
          rcases hto2 with ⟨t1, t2⟩ | ⟨t1, t2⟩
          · rw [t1] at q1
            exact ifp (ile _ 1 t2) (ifp rfl q1)
          · rw [t1] at q1
            exact ifn (inle _ 1 t2) (ifp rfl q1)
        refine ⟨s, ?_, ?_⟩
        · refine ifn (qne 0 (by omega)) ?_
          by_cases h3 : F < -3
          · exact ifp (ilt F (-3) h3) fin
          · exact ifn (inlt F (-3) (by omega)) (ifp (ilt 6 F (by omega)) fin)
        · rw [if_neg (show ¬ false = true by decide)] at q2
          have e : LT2 (dl 10 N lo) F (F - (F - to) + 1).toNat F = [dl 10 N lo F] ++ bp (dl 10 N lo) (F - 1) (if lo + (z : Int) < F - 1 then lo + (z : Int) else F - 1) false := by
            have emin : (if lo + (z : Int) < F - 1 then lo + (z : Int) else F - 1) = F - to := by
              by_cases h : lo + (z : Int) < F - 1
              · rw [if_pos h]; omega
              · rw [if_neg h]; omega
            rw [emin]
            unfold bp
            rw [if_pos (Or.inl (by omega)), show (F - (F - to) + 1).toNat = (F - 1 - (F - to) + 1).toNat + 1 by omega]
            exact LT2_first (dl 10 N lo) F _
          rw [e, List.append_assoc] at q2
          exact q2
    obtain ⟨s, q1, q2⟩ := main
    exact ⟨s, nI n, iI F, Eq.trans hst q1, q2⟩
