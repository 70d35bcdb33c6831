def whL (b N : Nat) (g : Bool) : List Nat := wlN (fun e => dl b N 0 e) g (frs b N 0).toNat
def preL (fl : Int32) (b : Nat) : List Nat := if hA fl 2 = true then (if b = 8 then [48] else [48, 120]) else []
theorem row0 {n : Nat} (hn : n < 2 ^ 31) (f : Nat → Int32) : rowOK n f 0 [] := ⟨rfl, Nat.zero_le _, hn, fun c hc => (by cases hc), fun j hj => absurd hj (Nat.not_lt_zero j)⟩
theorem cp_based42 {b N : Nat} (hb : b = 8 ∨ b = 16) (fl : Int32) {hd : List Nat} (hhd : hd.length ≤ 1) {Hc Bc : Nat → Int32} {Hu : Int32} (BO hb0 bb : Int32) (hH : rowOK 4 Hc Hu hd) {du : Int32} {lim dc : Nat → Int32} (hd0 : dgOK b dc du N) :
    ∃ r : Int32 × Int32 × Int32 × (Nat → Int32) × Int32 × Int32 × (Nat → Int32) × Int32 × Int32 × (Nat → Int32) × (Nat → Int32), k_Composer_setBased_42 5000 fl 4 1800 (nI b) BO Hu hb0 Hc 0 bb Bc du 0 lim dc = some r ∧ r.1 = BO ∧ rowOK 4 r.2.2.2.1 r.2.1 (hd ++ preL fl b) ∧ rowOK 1800 r.2.2.2.2.2.2.1 r.2.2.2.2.1 (whL b N false) := by
  have hb2 : 2 ≤ b ∧ b ≤ 16 := by omega
  have hnd := hd0.2.1
  have hE : (frs b N 0).toNat ≤ 208 := by rw [frs_nn hb2.1]; omega
  obtain ⟨s1, y1, y2⟩ := cp_whole (lo := 0) hb2 hd0 (by omega) false bb (row0 (n := 1800) (by omega) Bc) (by show 0 + _ + 1 + _ ≤ 1800; omega)
  have fin : ∀ (Hu' hb' : Int32) (Hc' : Nat → Int32), k_Composer_setBased_73 5000 1800 BO Hu' hb' Hc' 0 bb Bc du 0 lim dc = some (BO, Hu', hb', Hc', s1.1, s1.2.1, s1.2.2, du, 0, lim, dc) := by
    intro Hu' hb' Hc'
    unfold k_Composer_setBased_73
    try dsimp only
    exact bnd y1 rfl
  unfold k_Composer_setBased_42 preL
  try dsimp only
  cases hf : hA fl 2 with
  | false =>
    rw [if_neg (show ¬ false = true by decide), List.append_nil]
    exact ⟨_, bnd (sp_anyT hf) (ifp rfl (fin _ _ _)), rfl, hH, y2⟩
  | true =>
    rw [if_pos rfl]
    unfold k_Composer_setBased_70
    try dsimp only
    rcases hb with rfl | rfl
    · rw [if_pos rfl]
      obtain ⟨s2, w1, w2⟩ := ro_word (t := 11) hb0 hH (by decide) (by rw [wrd_11]; show hd.length + 1 ≤ 4; omega)
      rw [wrd_11] at w2
      exact ⟨_, bnd (sp_anyT hf) (ifn (by decide) (ifp rfl (bnd w1 (fin _ _ _)))), rfl, w2, y2⟩
    · rw [if_neg (show ¬ (16 : Nat) = 8 by decide)]
      obtain ⟨s2, w1, w2⟩ := ro_word (t := 12) hb0 hH (by decide) (by rw [wrd_12]; show hd.length + 2 ≤ 4; omega)
      rw [wrd_12] at w2
      exact ⟨_, bnd (sp_anyT hf) (ifn (by decide) (ifn (by decide) (bnd w1 (fin _ _ _)))), rfl, w2, y2⟩
theorem cp_based_s {b N : Nat} (hb : b = 8 ∨ b = 16) (hN : N < 2 ^ 64) (fl : Int32) (Hc Bc lim dc : Nat → Int32) (hb0 bb du dl0 mi lo : Int32) (ws : Nat → Int64) :
    ∃ r : Int32 × Int32 × Int32 × (Nat → Int32) × Int32 × Int32 × (Nat → Int32) × Int32 × Int32 × (Nat → Int32) × (Nat → Int32), f_Composer_setBased 5000 0 fl 4 Hc 0 hb0 1800 Bc 0 bb lim dc du dl0 ws 3 mi (lN N) lo (nI b) = some r ∧ r.1 = 0 ∧ rowOK 4 r.2.2.2.1 r.2.1 (preL fl b) ∧ rowOK 1800 r.2.2.2.2.2.2.1 r.2.2.2.2.1 (whL b N false) := by
  have hbA : ∃ A, (b = 10 ∧ A = 9) ∨ (b = 16 ∧ A = 7) ∨ (b = 8 ∧ A = 10) := by
    rcases hb with rfl | rfl
    · exact ⟨10, Or.inr (Or.inr ⟨rfl, rfl⟩)⟩
    · exact ⟨7, Or.inr (Or.inl ⟨rfl, rfl⟩)⟩
  obtain ⟨A, hbA⟩ := hbA
  obtain ⟨u', lim', f', y1, y2⟩ := dg_takeBits hbA lim dc du hN
  obtain ⟨r, r1, r2, r3, r4⟩ := cp_based42 (Bc := Bc) (lim := lim') hb fl (hd := []) (by show 0 ≤ 1; omega) 0 hb0 bb (row0 (n := 4) (by omega) Hc) y2
  refine ⟨r, ?_, r2, r3, r4⟩
  unfold f_Composer_setBased
  exact ifp rfl (bnd y1 r1)
theorem cp_based_l {b : Nat} (hb : b = 8 ∨ b = 16) (fl : Int32) (Hc Bc lim dc : Nat → Int32) (hb0 bb du dl0 : Int32) (ws : Nat → Int64) {k : Nat} (hk : k ≠ 3) {mi : Int32} {below : Bool} (hbz : f_Argument_isBelowZero 5000 ws k mi = some (bI below)) (bits : Int64) :
    ∃ r : Int32 × Int32 × Int32 × (Nat → Int32) × Int32 × Int32 × (Nat → Int32) × Int32 × Int32 × (Nat → Int32) × (Nat → Int32), f_Composer_setBased 5000 0 fl 4 Hc 0 hb0 1800 Bc 0 bb lim dc du dl0 ws k mi bits 0 (nI b) = some r ∧ r.1 = bI (below && hA fl 64) ∧ rowOK 4 r.2.2.2.1 r.2.1 (sgn below fl ++ preL fl b) ∧ rowOK 1800 r.2.2.2.2.2.2.1 r.2.2.2.2.1 (whL b (SZ ws) false) := by
  have hbA : ∃ A, (b = 10 ∧ A = 9) ∨ (b = 16 ∧ A = 7) ∨ (b = 8 ∧ A = 10) := by
    rcases hb with rfl | rfl
    · exact ⟨10, Or.inr (Or.inr ⟨rfl, rfl⟩)⟩
    · exact ⟨7, Or.inr (Or.inl ⟨rfl, rfl⟩)⟩
  obtain ⟨A, hbA⟩ := hbA
  obtain ⟨s1, z1, z2, z3⟩ := cp_sign (n := 4) (by omega) below fl hb0 (row0 (by omega) Hc)
  obtain ⟨u', lim', f', y1, y2⟩ := dg_take hbA lim dc du dl0 ws 0
  obtain ⟨r, r1, r2, r3, r4⟩ := cp_based42 (Bc := Bc) (lim := lim') hb fl (hd := sgn below fl) (sgn_len below fl) s1.1 s1.2.2.1 bb z3 y2
  refine ⟨r, ?_, by rw [r2, z2], r3, r4⟩
  unfold f_Composer_setBased
  exact ifn hk (bnd hbz (bnd z1 (bnd y1 r1)))
def deL (s N : Nat) (lo : Int) (p : Nat) (fl : Int32) : List Nat :=
  if s = 102 then fixL (rnd N (-(p : Int) - lo).toNat) lo p fl
  else if s = 101 then sciL (rnd N (frs 10 N lo - p - lo).toNat) lo p fl
  else if -4 ≤ frs 10 (rnd N (frs 10 N lo - ((max 1 p - 1 : Nat) : Int) - lo).toNat) lo ∧ frs 10 (rnd N (frs 10 N lo - ((max 1 p - 1 : Nat) : Int) - lo).toNat) lo ≤ ((max 1 p - 1 : Nat) : Int)
  then fixL (rnd N (frs 10 N lo - ((max 1 p - 1 : Nat) : Int) - lo).toNat) lo (((max 1 p - 1 : Nat) : Int) - frs 10 (rnd N (frs 10 N lo - ((max 1 p - 1 : Nat) : Int) - lo).toNat) lo) fl
  else sciL (rnd N (frs 10 N lo - ((max 1 p - 1 : Nat) : Int) - lo).toNat) lo ((max 1 p - 1 : Nat) : Int) fl
theorem frs_cut {N : Nat} {lo : Int} {q : Nat} (h0 : N ≠ 0) : (frs 10 N lo - (q : Int) - lo).toNat = nd 10 N - 1 - q := by
  have hp := nd_pos (b := 10) (by omega) h0
  unfold frs
  rw [if_neg h0]
  omega
theorem rnd_again {N : Nat} {lo : Int} {q : Nat} : rnd (rnd N (frs 10 N lo - (q : Int) - lo).toNat) (frs 10 (rnd N (frs 10 N lo - (q : Int) - lo).toNat) lo - (q : Int) - lo).toNat = rnd N (frs 10 N lo - (q : Int) - lo).toNat := by
  by_cases h0 : N = 0
  · subst h0
    rw [rnd_0, rnd_0]
  · rw [frs_cut h0]
    obtain ⟨h1, h2⟩ := rnd_idem (q := q) h0
    rw [frs_cut h1]
    exact h2
theorem cp_dec169 {N : Nat} {dc lim : Nat → Int32} {du : Int32} {lo : Int} (hd : dgOK 10 dc du N) (hN : nd 10 N < 207) (hlo : -401 ≤ lo ∧ lo ≤ 401) {p : Int} (hp : 0 ≤ p ∧ p ≤ 1010) (fl : Int32) (fx : Bool) (BO Hu hb bb : Int32) (Hc Bc : Nat → Int32) {X : List Nat} (hX : X = (if fx = true then fixL (rnd N (-p - lo).toNat) lo p fl else sciL (rnd N (frs 10 N lo - p - lo).toNat) lo p fl)) (hfit : fx = true → (frs 10 (rnd N (-p - lo).toNat) lo).toNat + 1 + (frs 10 (rnd N (-p - lo).toNat) lo).toNat / 3 + 1 + p.toNat ≤ 1800) :
    ∃ r : Int32 × Int32 × Int32 × (Nat → Int32) × Int32 × Int32 × (Nat → Int32) × Int32 × Int32 × (Nat → Int32) × (Nat → Int32), k_Composer_setDecimal_169 5000 fl 1800 (iI p) (bI fx) BO Hu hb Hc 0 bb Bc du (iI lo) lim dc = some r ∧ r.1 = BO ∧ r.2.1 = Hu ∧ r.2.2.2.1 = Hc ∧ rowOK 1800 r.2.2.2.2.2.2.1 r.2.2.2.2.1 X := by
  unfold k_Composer_setDecimal_169
  try dsimp only
  cases fx with
  | true =>
    rw [if_pos rfl] at hX
    obtain ⟨r, r1, r2⟩ := cp_fixed (n := 1800) hd (by omega) hlo (show 0 ≤ p ∧ p ≤ 2000 by omega) fl bb (row0 (by omega) Bc) (by have := hfit rfl; show 0 + _ + 1 + _ + 1 + _ ≤ 1800; omega)
    rw [List.nil_append, ← hX] at r2
    exact ⟨_, ifn (by decide) (bnd r1 rfl), rfl, rfl, rfl, r2⟩
  | false =>
    rw [if_neg (show ¬ false = true by decide)] at hX
    obtain ⟨r, r1, r2⟩ := cp_sci (n := 1800) hd hN hlo (show 0 ≤ p ∧ p ≤ 2000 by omega) fl bb (row0 (by omega) Bc) (by show 0 + 9 + _ ≤ 1800; omega)
    rw [List.nil_append, ← hX] at r2
    exact ⟨_, ifp rfl (bnd r1 rfl), rfl, rfl, rfl, r2⟩
theorem frs_rnd {N c : Nat} {lo : Int} (hN : nd 10 N < 160) (hlo : -400 ≤ lo ∧ lo ≤ 400) : frs 10 (rnd N c) lo ≤ 560 ∧ -401 ≤ frs 10 (rnd N c) lo := by
  have h := rnd_ndle (N := N) (c := c)
  unfold frs
  by_cases h0 : rnd N c = 0
  · rw [if_pos h0]; omega
  · rw [if_neg h0]
    have := nd_pos (b := 10) (by omega) h0
    omega
theorem cp_dec {s N : Nat} (hs : s = 101 ∨ s = 102 ∨ s = 103) {dc lim : Nat → Int32} {du : Int32} {lo : Int} (hd : dgOK 10 dc du N) (hN : nd 10 N < 160) (hlo : -400 ≤ lo ∧ lo ≤ 400) {p : Nat} (hp : p ≤ 999) (fl : Int32) (BO Hu hb bb : Int32) (Hc Bc : Nat → Int32) :
    ∃ r : Int32 × Int32 × Int32 × (Nat → Int32) × Int32 × Int32 × (Nat → Int32) × Int32 × Int32 × (Nat → Int32) × (Nat → Int32), k_Composer_setDecimal_41 5000 fl (nI s) 1800 (nI p) BO Hu hb Hc 0 bb Bc du (iI lo) lim dc = some r ∧ r.1 = BO ∧ r.2.1 = Hu ∧ r.2.2.2.1 = Hc ∧ rowOK 1800 r.2.2.2.2.2.2.1 r.2.2.2.2.1 (deL s N lo p fl) := by
  have frL := fun c => frs_rnd (N := N) (c := c) (lo := lo) hN hlo
  unfold k_Composer_setDecimal_41
  try dsimp only
  rcases hs with rfl | rfl | rfl
  · obtain ⟨r, r1, r2⟩ := cp_dec169 (lo := lo) (lim := lim) hd (by omega) (by omega) (p := (p : Int)) (by omega) fl false BO Hu hb bb Hc Bc (X := deL 101 N lo p fl) (by unfold deL; rw [if_neg (show ¬ (101 : Nat) = 102 by decide), if_pos rfl]; rfl) (fun z => by cases z)
    refine ⟨r, ifn (by decide) (ifn (by decide) ?_), r2⟩
    unfold k_Composer_setDecimal_85
    try dsimp only
    exact ifn (by decide) r1
  · obtain ⟨r, r1, r2⟩ := cp_dec169 (lo := lo) (lim := lim) hd (by omega) (by omega) (p := (p : Int)) (by omega) fl true BO Hu hb bb Hc Bc (X := deL 102 N lo p fl) (by unfold deL; rw [if_pos rfl]; rfl) (fun _ => by have := frL (-(p : Int) - lo).toNat; omega)
    refine ⟨r, ifn (by decide) (ifp rfl ?_), r2⟩
    unfold k_Composer_setDecimal_85
    try dsimp only
    exact ifn (by decide) r1
  · -- g
    obtain ⟨q, hq⟩ : ∃ q : Nat, q = max 1 p - 1 := ⟨_, rfl⟩
    have hfr := frs_range (N := N) (lo := lo) (by omega) (by omega)
    have eq0 : (if (1 : Int32) < nI p then nI p else (1 : Int32)) - (1 : Int32) = iI (q : Int) := by
      by_cases h1 : 1 < p
      · rw [if_pos (show (1 : Int32) < nI p from rlt 1 h1), show nI p - (1 : Int32) = nI (p - 1) from pk_sub (b := 1) (by omega), iI_nat]
        congr 1
        omega
      · rw [if_neg (show ¬ (1 : Int32) < nI p from rnlt 1 (by omega))]
        rw [show q = 0 by omega]
        rfl
    have hx : (iI (frs 10 N lo) - iI (q : Int)) - iI lo = iI (frs 10 N lo - (q : Int) - lo) := by rw [iI_sub, iI_sub]
    obtain ⟨u1, f1, a1, a2⟩ := dg_round hd (by omega) hx (by omega)
    have hag := rnd_again (N := N) (lo := lo) (q := q)
    have hnd := rnd_ndle (N := N) (c := (frs 10 N lo - (q : Int) - lo).toNat)
    have hF := frL (frs 10 N lo - (q : Int) - lo).toNat
    have ede : deL 103 N lo p fl = (if -4 ≤ frs 10 (rnd N (frs 10 N lo - (q : Int) - lo).toNat) lo ∧ frs 10 (rnd N (frs 10 N lo - (q : Int) - lo).toNat) lo ≤ (q : Int) then fixL (rnd N (frs 10 N lo - (q : Int) - lo).toNat) lo ((q : Int) - frs 10 (rnd N (frs 10 N lo - (q : Int) - lo).toNat) lo) fl else sciL (rnd N (frs 10 N lo - (q : Int) - lo).toNat) lo (q : Int) fl) := by
      unfold deL
      rw [if_neg (show ¬ (103 : Nat) = 102 by decide), if_neg (show ¬ (103 : Nat) = 101 by decide), ← hq]
    rw [ede]
    generalize rnd N (frs 10 N lo - (q : Int) - lo).toNat = M at a2 hag hnd hF
    unfold k_Composer_setDecimal_85 k_Composer_setDecimal_149 k_Composer_setDecimal_150 k_Composer_setDecimal_167
    try dsimp only
    rw [eq0]
    have d1 := dg_first (by omega) hd (lo := lo)
    have d2 := dg_first (by omega) a2 (lo := lo)
    by_cases hc : -4 ≤ frs 10 M lo ∧ frs 10 M lo ≤ (q : Int)
    · rw [if_pos hc]
      have e1 : (-((q : Int) - frs 10 M lo) - lo).toNat = (frs 10 M lo - (q : Int) - lo).toNat := by congr 1; omega
      obtain ⟨r, r1, r2⟩ := cp_dec169 (lo := lo) (lim := lim) a2 (by omega) (by omega) (p := (q : Int) - frs 10 M lo) (by omega) fl true BO Hu hb bb Hc Bc (X := fixL M lo ((q : Int) - frs 10 M lo) fl) (by rw [if_pos rfl, e1, hag]) (fun _ => by rw [e1, hag]; omega)
      refine ⟨r, ifn (by decide) (ifn (by decide) (ifp rfl (bnd d1 (bnd a1 (bnd d2 (ifn (inlt (frs 10 M lo) (-4) (by omega)) (bnd d2 (ifn (inlt (q : Int) (frs 10 M lo) (by omega)) (ifn (by decide) (bnd d2 ?_)))))))))), r2⟩
      rw [iI_sub]
      exact r1
    · rw [if_neg hc]
      obtain ⟨r, r1, r2⟩ := cp_dec169 (lo := lo) (lim := lim) a2 (by omega) (by omega) (p := (q : Int)) (by omega) fl false BO Hu hb bb Hc Bc (X := sciL M lo (q : Int) fl) (by rw [if_neg (show ¬ false = true by decide), hag]) (fun z => by cases z)
      have e0 : iI (q : Int) - (0 : Int32) = iI (q : Int) := by rw [show (0 : Int32) = iI 0 from rfl, iI_sub, Int.sub_zero]
      refine ⟨r, ifn (by decide) (ifn (by decide) (ifp rfl (bnd d1 (bnd a1 (bnd d2 ?_))))), r2⟩
      by_cases h4 : frs 10 M lo < -4
      · refine ifp (ilt _ (-4) h4) (ifp rfl ?_)
        rw [e0]
        exact r1
      · refine ifn (inlt (frs 10 M lo) (-4) (by omega)) (bnd d2 (ifp (ilt (q : Int) (frs 10 M lo) (by omega)) (ifp rfl ?_)))
        rw [e0]
        exact r1
