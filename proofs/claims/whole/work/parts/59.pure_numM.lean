theorem mo_wh_end {BE S : Nat → Int32} {fl : Int32} {wz : Int} {a : Nat} (ha : a < 12) (sh mb z0 : Bool) (hB : BE a = bI mb) (hz : sh = false → f_Model_isZeroSize 5000 S (nI a) = some (bI z0)) (hw : -1 ≤ wz ∧ wz ≤ 1000) {hd bd : List Nat} (hl : hd.length + bd.length < 3000) {P : Nat → Int32} {p : Int32} (hp : pcOK P p (hd ++ bd)) (c : Int32) (T W : Nat → Int32) :
    ∃ s : Int32 × (Nat → Int32), k_Model_wholes_151 5000 BE S fl (iI wz) (nI a) (bI sh) p (nI hd.length) c P T W = some (s.1, nI hd.length, c, s.2, T, W) ∧ pcOK s.2 s.1 (finL hd bd ((mb && (sh || !z0)) && hA fl 64) (hA fl 16) wz.toNat) := by
  have fin : ∀ B : Bool, ∃ s : Int32 × (Nat → Int32), k_Model_wholes_178 5000 fl (iI wz) (bI B) p (nI hd.length) c P T W = some (s.1, nI hd.length, c, s.2, T, W) ∧ pcOK s.2 s.1 (finL hd bd (B && hA fl 64) (hA fl 16) wz.toNat) := by
    intro B
    obtain ⟨s, q1, q2⟩ := mo_finish hp (by omega) B true fl hw
    refine ⟨s, ?_, q2⟩
    unfold k_Model_wholes_178
    try dsimp only
    exact bnd q1 rfl
  unfold k_Model_wholes_151 k_Model_wholes_177 k_Model_wholes_173
  try dsimp only
  rw [nI_clamp (by omega), hB]
  cases mb with
  | false =>
    obtain ⟨s, q1, q2⟩ := fin false
    exact ⟨s, ifp (inB_n (by omega)) (ifp rfl q1), q2⟩
  | true =>
    cases sh with
    | true =>
      obtain ⟨s, q1, q2⟩ := fin true
      exact ⟨s, ifp (inB_n (by omega)) (ifn (by decide) (ifn (by decide) q1)), q2⟩
    | false =>
      cases hz0 : z0 with
      | true =>
        obtain ⟨s, q1, q2⟩ := fin false
        exact ⟨s, ifp (inB_n (by omega)) (ifn (by decide) (ifp rfl (bnd (hz rfl) (by rw [hz0]; exact ifn (by decide) q1)))), q2⟩
      | false =>
        obtain ⟨s, q1, q2⟩ := fin true
        exact ⟨s, ifp (inB_n (by omega)) (ifn (by decide) (ifp rfl (bnd (hz rfl) (by rw [hz0]; exact ifp rfl q1)))), q2⟩
theorem mo_wh_digits {BE S : Nat → Int32} {fl wid x3 hdI : Int32} {a1 : Int32} {N : Nat} {T W : Nat → Int32} {c : Int32} (h : mdOK 10 T c N) {P : Nat → Int32} {p : Int32} {L : List Nat} (hp : pcOK P p L) (hl : L.length ≤ 10) :
    ∃ s : Int32 × (Nat → Int32), k_Model_wholes_99 5000 BE S fl wid a1 x3 p hdI c P T W = k_Model_wholes_151 5000 BE S fl wid a1 x3 s.1 hdI c s.2 T W ∧ pcOK s.2 s.1 (L ++ whL 10 N (hA fl 32)) := by
  obtain ⟨rfl, h1, h2⟩ := h
  unfold whL k_Model_wholes_99
  try dsimp only
  rw [frs_nn (by omega)]
  by_cases h0 : N = 0
  · subst h0
    rw [nd_0]
    obtain ⟨s, y1, y2⟩ := mo_add hp 48 (by omega)
    refine ⟨s, ?_, ?_⟩
    · show b_Model_wholes_108 5000 BE S fl wid a1 x3 (nI 0) hdI (nI 0) T W (lp_ (b_Model_wholes_108 5000 BE S fl wid a1 x3 (nI 0) hdI (nI 0) T W) 4999) _ = _
      rw [e_Model_wholes_108]
      exact ifp (by decide) (ifp rfl (bnd y1 rfl))
    · show pcOK s.2 s.1 (L ++ [lett (dat 10 0 0 0)])
      rw [dat_0]
      exact y2
  · have hpos := nd_pos (b := 10) (by omega) h0
    have run : ∀ (e k m : Nat) (P : Nat → Int32) (p : Int32) (L : List Nat), k + e + 1 = nd 10 N → e + 1 < m → L.length + 2 * e + 2 ≤ 4000 → pcOK P p L → ∃ s : Int32 × (Nat → Int32), lp_ (b_Model_wholes_108 5000 BE S fl wid a1 x3 (nI (nd 10 N)) hdI (nI (nd 10 N)) T W) m (nI k, p, P) = k_Model_wholes_151 5000 BE S fl wid a1 x3 s.1 hdI (nI (nd 10 N)) s.2 T W ∧ pcOK s.2 s.1 (L ++ wlN (fun e => dl 10 N 0 e) (hA fl 32) e) := by
      have dig : ∀ (e k m : Nat) (P : Nat → Int32) (p : Int32) (L : List Nat), k + e + 1 = nd 10 N → L.length + 2 ≤ 4000 → pcOK P p L → ∃ s : Int32 × (Nat → Int32), lp_ (b_Model_wholes_108 5000 BE S fl wid a1 x3 (nI (nd 10 N)) hdI (nI (nd 10 N)) T W) (m + 1) (nI k, p, P) = lp_ (b_Model_wholes_108 5000 BE S fl wid a1 x3 (nI (nd 10 N)) hdI (nI (nd 10 N)) T W) m (nI (k + 1), s.1, s.2) ∧ pcOK s.2 s.1 (L ++ ([dl 10 N 0 e] ++ (if hA fl 32 = true ∧ 0 < e ∧ e % 3 = 0 then [44] else []))) := by
        intro e k m P p L hk hl hp
        have hd : dat 10 N 0 (e : Int) < 16 := dat_16 (by omega)
        obtain ⟨s1, y1, y2⟩ := mo_addDigit hp hd (by omega)
        obtain ⟨s2, w1, w2⟩ := mo_group (fl := fl) (k := k) (n := nd 10 N) (by omega) (by omega) y2 (by rw [List.length_append]; show L.length + 1 < 4000; omega)
        rw [show nd 10 N - 1 - k = e by omega, List.append_assoc] at w2
        refine ⟨s2, ?_, w2⟩
        show b_Model_wholes_108 5000 BE S fl wid a1 x3 (nI (nd 10 N)) hdI (nI (nd 10 N)) T W (lp_ (b_Model_wholes_108 5000 BE S fl wid a1 x3 (nI (nd 10 N)) hdI (nI (nd 10 N)) T W) m) _ = _
        generalize lp_ (b_Model_wholes_108 5000 BE S fl wid a1 x3 (nI (nd 10 N)) hdI (nI (nd 10 N)) T W) m = rc
        rw [e_Model_wholes_108]
        refine ifn (nI_ge (by omega) (by omega)) (ifp (inB_n (by omega)) ?_)
        rw [nI_clamp (by omega), h2 k (by omega), show nd 10 N - 1 - k = e by omega, ← dat_nn, nI_1]
        exact bnd y1 (bnd w1 rfl)
      intro e
      induction e with
      | zero =>
        intro k m P p L hk hm hl hp
        obtain ⟨m, rfl⟩ : ∃ j, m = j + 1 + 1 := ⟨m - 2, by omega⟩
        obtain ⟨s, q1, q2⟩ := dig 0 k (m + 1) P p L hk (by omega) hp
        rw [if_neg (fun z => absurd z.2.1 (Nat.lt_irrefl 0))] at q2
        refine ⟨s, Eq.trans q1 ?_, q2⟩
        show b_Model_wholes_108 5000 BE S fl wid a1 x3 (nI (nd 10 N)) hdI (nI (nd 10 N)) T W (lp_ (b_Model_wholes_108 5000 BE S fl wid a1 x3 (nI (nd 10 N)) hdI (nI (nd 10 N)) T W) m) _ = _
        rw [e_Model_wholes_108]
        exact ifp (nI_le (by omega) (by omega)) (ifn (qne 0 (by omega)) rfl)
      | succ e ih =>
        intro k m P p L hk hm hl hp
        obtain ⟨m, rfl⟩ : ∃ j, m = j + 1 := ⟨m - 1, by omega⟩
        obtain ⟨s1, q1, q2⟩ := dig (e + 1) k m P p L (by omega) (by omega) hp
        have hlen : (L ++ ([dl 10 N 0 ((e + 1 : Nat) : Int)] ++ (if hA fl 32 = true ∧ 0 < e + 1 ∧ (e + 1) % 3 = 0 then [44] else []))).length ≤ L.length + 2 := by
          rw [List.length_append, List.length_append]
          by_cases hg : hA fl 32 = true ∧ 0 < e + 1 ∧ (e + 1) % 3 = 0
          · rw [if_pos hg]
            show L.length + (1 + 1) ≤ _
            omega
          · rw [if_neg hg]
            show L.length + (1 + 0) ≤ _
            omega
        obtain ⟨s, z1, z2⟩ := ih (k + 1) m s1.2 s1.1 _ (by omega) (by omega) (by omega) q2
        refine ⟨s, Eq.trans q1 z1, ?_⟩
        show pcOK s.2 s.1 (L ++ (dl 10 N 0 ((e + 1 : Nat) : Int) :: ((if hA fl 32 = true ∧ (e + 1) % 3 = 0 then [44] else []) ++ wlN (fun e => dl 10 N 0 e) (hA fl 32) e)))
        rw [List.append_assoc, List.append_assoc] at z2
        have e3 : (if hA fl 32 = true ∧ 0 < e + 1 ∧ (e + 1) % 3 = 0 then [44] else []) = (if hA fl 32 = true ∧ (e + 1) % 3 = 0 then [44] else []) := ifc ⟨fun z => ⟨z.1, z.2.2⟩, fun z => ⟨z.1, by omega, z.2⟩⟩
        rw [e3] at z2
        exact z2
    exact run (nd 10 N - 1) 0 5000 P p L (by omega) (by omega) (by omega) hp
theorem whL_len {b N : Nat} (hb : 2 ≤ b) (g : Bool) (h : nd b N ≤ 600) : (whL b N g).length ≤ 900 := by
  unfold whL
  have := wlN_len (fun e => dl b N 0 e) g (frs b N 0).toNat
  rw [frs_nn hb] at *
  omega
theorem lN_abs {V : Nat} (hV : V < 2 ^ 64) : (0 ≤ lg_cmp (lN V) 0 → lN V = lN (shN V)) ∧ (¬ 0 ≤ lg_cmp (lN V) 0 → -(lN V) = lN (shN V)) := by
  have hn := lN_neg hV
  rw [lg_cmp_ge]
  unfold shN
  constructor
  · intro h
    have h2 : ¬ lN V < 0 := by
      rw [Int64.le_iff_toInt_le] at h
      rw [Int64.lt_iff_toInt_lt]
      omega
    rw [if_neg (fun z => h2 (hn.mpr z))]
  · intro h
    have h2 : lN V < 0 := by
      rw [Int64.le_iff_toInt_le] at h
      rw [Int64.lt_iff_toInt_lt]
      omega
    have h3 := hn.mp h2
    rw [if_pos h3]
    have e : -(lN V) = 0 - lN V := by
      apply Int64.toBitVec_inj.mp
      rw [Int64.toBitVec_neg, Int64.toBitVec_sub]
      simp
    rw [e, show (0 : Int64) = lN 0 from rfl, lN_sub64 (by decide) hV]
    congr 1
    omega
theorem mo_whole_d {KI WI BE S : Nat → Int32} {VAL : Nat → Int64} {fl : Int32} {wz : Int} {a k : Nat} (ha : a < 12) (hk : k = 3 ∨ k = 4) (hK : KI a = nI k) {mb : Bool} (hB : BE a = bI mb) {g : Nat → Nat} (hS : k = 4 → szOK S a g) {V : Nat} (hV : k = 3 → V < 2 ^ 64 ∧ VAL a = lN V) (hw : -1 ≤ wz ∧ wz ≤ 1000) (P T W : Nat → Int32) (p0 hd0 c0 : Int32) {N : Nat} (hN : N = if k = 3 then shN V else vl B16 g 32) {below : Bool} (hbe : below = (mb && (decide (k = 3) || !decide (vl B16 g 32 = 0)))) :
    ∃ r : Int32 × Int32 × Int32 × (Nat → Int32) × (Nat → Int32) × (Nat → Int32), f_Model_wholes 5000 KI VAL WI BE S fl (iI wz) P p0 hd0 T c0 W (nI a) (nI 100) = some r ∧ pcOK r.2.2.2.1 r.1 (finL (sgn below fl) (whL 10 N (hA fl 32)) (below && hA fl 64) (hA fl 16) wz.toNat) := by
  have hsl := sgn_len below fl
  obtain ⟨s1, y1, y2, y3⟩ := mo_begin fl P hd0 below
  have h12 : inB (nI a) 12 = true := inB_n (by omega)
  rcases hk with rfl | rfl
  · -- short
    obtain ⟨hV1, hV2⟩ := hV rfl
    rw [if_pos rfl] at hN
    rw [decide_eq_true (show (3 : Nat) = 3 from rfl), Bool.true_or, Bool.and_true] at hbe
    subst hbe
    have hNlt : N < 2 ^ 64 := by
      rw [hN]
      unfold shN
      by_cases h : 2 ^ 63 ≤ V
      · rw [if_pos h]; omega
      · rw [if_neg h]; exact hV1
    obtain ⟨c, T', z1, z2⟩ := mo_spellLong (b := 10) (by omega) (by omega) hNlt T c0
    have hnd := z2.2.1
    obtain ⟨s2, w1, w2⟩ := mo_wh_digits (BE := BE) (S := S) (fl := fl) (wid := iI wz) (x3 := bI true) (hdI := s1.2.1) (a1 := nI a) (W := W) z2 y2 (by omega)
    have hwl := whL_len (b := 10) (by omega) (hA fl 32) hnd
    obtain ⟨s3, v1, v2⟩ := mo_wh_end (S := S) (fl := fl) ha true below false hB (fun z => by cases z) hw (hd := sgn below fl) (bd := whL 10 N (hA fl 32)) (by omega) w2 c T' W
    rw [← y3] at v1
    have k84 : ∀ x : Int64, x = lN N → k_Model_wholes_84 5000 BE S fl (iI wz) (nI a) (bI true) x s1.1 s1.2.1 c0 s1.2.2 T W = some (s3.1, s1.2.1, c, s3.2, T', W) := by
      intro x hx
      subst hx
      unfold k_Model_wholes_84
      try dsimp only
      exact bnd z1 (Eq.trans w1 v1)
    have k49 : k_Model_wholes_49 5000 VAL BE S fl (iI wz) (nI a) (bI true) (bI below) p0 hd0 c0 P T W = some (s3.1, s1.2.1, c, s3.2, T', W) := by
      unfold k_Model_wholes_49
      try dsimp only
      rw [nI_clamp (by omega), hV2]
      have hab := lN_abs hV1
      refine bnd y1 (ifn (by decide) (ifp h12 ?_))
      by_cases hge : 0 ≤ lg_cmp (lN V) 0
      · exact ifp hge (ifp h12 (k84 _ (by rw [hab.1 hge, hN])))
      · exact ifn hge (ifp h12 (k84 _ (by rw [hab.2 hge, hN])))
    refine ⟨(s3.1, s1.2.1, c, s3.2, T', W), ?_, ?_⟩
    · unfold f_Model_wholes k_Model_wholes_15 k_Model_wholes_48 k_Model_wholes_44
      try dsimp only
      rw [nI_clamp (by omega), hK, hB]
      refine ifp h12 (ifp rfl (ifp rfl (ifp h12 ?_)))
      cases below with
      | false => exact ifp rfl k49
      | true => exact ifn (by decide) (ifn (by decide) k49)
    · rw [Bool.true_or, Bool.and_true] at v2
      exact v2
  · -- long
    have hS4 := hS rfl
    rw [if_neg (by decide)] at hN
    rw [decide_eq_false (show ¬ (4 : Nat) = 3 by decide), Bool.false_or] at hbe
    obtain ⟨c, T', W', z1, z2⟩ := mo_spell (b := 10) (T := T) (W := W) (by omega) (by omega) ha hS4 c0
    rw [← hN] at z2
    have hnd := z2.2.1
    have hzs := mo_isZeroSize ha hS4
    obtain ⟨s2, w1, w2⟩ := mo_wh_digits (BE := BE) (S := S) (fl := fl) (wid := iI wz) (x3 := bI false) (hdI := s1.2.1) (a1 := nI a) (W := W') z2 y2 (by omega)
    have hwl := whL_len (b := 10) (by omega) (hA fl 32) hnd
    obtain ⟨s3, v1, v2⟩ := mo_wh_end (S := S) (fl := fl) ha false mb (decide (vl B16 g 32 = 0)) hB (fun _ => hzs) hw (hd := sgn below fl) (bd := whL 10 N (hA fl 32)) (by omega) w2 c T' W'
    rw [← y3] at v1
    rw [Bool.false_or, ← hbe] at v2
    have k49 : k_Model_wholes_49 5000 VAL BE S fl (iI wz) (nI a) (bI false) (bI below) p0 hd0 c0 P T W = some (s3.1, s1.2.1, c, s3.2, T', W') := by
      unfold k_Model_wholes_49
      try dsimp only
      exact bnd y1 (ifp rfl (bnd z1 (Eq.trans w1 v1)))
    refine ⟨(s3.1, s1.2.1, c, s3.2, T', W'), ?_, v2⟩
    unfold f_Model_wholes k_Model_wholes_15 k_Model_wholes_48 k_Model_wholes_44
    try dsimp only
    rw [nI_clamp (by omega), hK, hB]
    refine ifp h12 (ifn (by decide) (ifp rfl (ifp h12 ?_)))
    cases hm : mb with
    | false =>
      rw [hm, Bool.false_and] at hbe
      rw [hbe] at k49
      exact ifp rfl k49
    | true =>
      rw [hm, Bool.true_and] at hbe
      refine ifn (by decide) (ifp rfl (bnd hzs ?_))
      cases hz : decide (vl B16 g 32 = 0) with
      | true =>
        rw [hz] at hbe
        rw [hbe] at k49
        exact ifn (by decide) k49
      | false =>
        rw [hz] at hbe
        rw [hbe] at k49
        exact ifp rfl k49
theorem mo_whole_b {KI WI BE S : Nat → Int32} {VAL : Nat → Int64} {fl : Int32} {wz : Int} {a k b s : Nat} (ha : a < 12) (hk : k = 3 ∨ k = 4) (hbs : (b = 8 ∧ s = 111) ∨ (b = 16 ∧ s = 120)) (hK : KI a = nI k) {mb : Bool} (hB : BE a = bI mb) {g : Nat → Nat} (hS : k = 4 → szOK S a g) {V wd : Nat} (hV : k = 3 → shOK V wd ∧ VAL a = lN V ∧ WI a = nI wd) (hw : -1 ≤ wz ∧ wz ≤ 1000) (P T W : Nat → Int32) (p0 hd0 c0 : Int32) {N : Nat} (hN : N = if k = 3 then V % 2 ^ wd else vl B16 g 32) {below : Bool} (hbe : below = (decide (k = 4) && (mb && !decide (vl B16 g 32 = 0)))) :
    ∃ r : Int32 × Int32 × Int32 × (Nat → Int32) × (Nat → Int32) × (Nat → Int32), f_Model_wholes 5000 KI VAL WI BE S fl (iI wz) P p0 hd0 T c0 W (nI a) (nI s) = some r ∧ pcOK r.2.2.2.1 r.1 (finL (sgn below fl ++ preL fl b) (whL b N false) (below && hA fl 64) (hA fl 16) wz.toNat) := by
  have hsl := sgn_len below fl
  have hb2 : 2 ≤ b ∧ b ≤ 16 := by omega
  obtain ⟨s1, y1, y2, y3⟩ := mo_begin fl P hd0 below
  have h12 : inB (nI a) 12 = true := inB_n (by omega)
  have tail : ∀ (T' W' : Nat → Int32) (c p : Int32) (P' : Nat → Int32), mdOK b T' c N → pcOK P' p (sgn below fl ++ preL fl b) → ∃ r : Int32 × Int32 × Int32 × (Nat → Int32) × (Nat → Int32) × (Nat → Int32), k_Model_wholes_328 5000 fl (iI wz) (bI below) p p c P' T' W' = some r ∧ pcOK r.2.2.2.1 r.1 (finL (sgn below fl ++ preL fl b) (whL b N false) (below && hA fl 64) (hA fl 16) wz.toNat) := by
    intro T' W' c p P' hm hp
    have hpl : (preL fl b).length ≤ 2 := by
      unfold preL
      cases hA fl 2 with
      | false => exact Nat.zero_le _
      | true =>
        rw [if_pos rfl]
        by_cases h8 : b = 8
        · rw [if_pos h8]; show 1 ≤ 2; omega
        · rw [if_neg h8]; exact Nat.le_refl _
    have hlp : (sgn below fl ++ preL fl b).length ≤ 3 := by rw [List.length_append]; omega
    obtain ⟨s2, w1, w2⟩ := mo_addDigits hb2 hm hp (by omega)
    have hwl := whL_len hb2.1 false hm.2.1
    obtain ⟨s3, v1, v2⟩ := mo_finish (hd := sgn below fl ++ preL fl b) (bd := whL b N false) w2 (by omega) below true fl hw
    refine ⟨(s3.1, p, c, s3.2, T', W'), ?_, v2⟩
    unfold k_Model_wholes_328
    try dsimp only
    refine bnd w1 (bnd ?_ rfl)
    rw [hp.1]
    exact v1
  have num : ∀ (p : Int32) (P' : Nat → Int32), pcOK P' p (sgn below fl ++ preL fl b) → ∃ r : Int32 × Int32 × Int32 × (Nat → Int32) × (Nat → Int32) × (Nat → Int32), k_Model_wholes_272 5000 VAL WI S fl (iI wz) (nI a) (bI (decide (k = 3))) (bI below) (nI b) p p c0 P' T W = some r ∧ pcOK r.2.2.2.1 r.1 (finL (sgn below fl ++ preL fl b) (whL b N false) (below && hA fl 64) (hA fl 16) wz.toNat) := by
    intro p P' hp
    unfold k_Model_wholes_272
    try dsimp only
    rcases hk with rfl | rfl
    · obtain ⟨⟨hV1, hV2, hV3⟩, hV4, hV5⟩ := hV rfl
      rw [if_pos rfl] at hN
      have hNlt : N < 2 ^ 64 := by
        rw [hN]
        exact Nat.lt_of_le_of_lt (Nat.mod_le _ _) hV1
      obtain ⟨c, T', z1, z2⟩ := mo_spellLong hb2.1 hb2.2 hNlt T c0
      obtain ⟨r, r1, r2⟩ := tail T' W c p P' z2 hp
      refine ⟨r, ?_, r2⟩
      rw [nI_clamp (by omega), hV4, hV5]
      unfold k_Model_wholes_312
      try dsimp only
      refine ifn (by decide) (ifp h12 (ifp h12 ?_))
      by_cases h64 : wd = 64
      · subst h64
        refine ifp rfl ?_
        rw [show lN V &&& (-1 : Int64) = lN N from by
          rw [hN, Nat.mod_eq_of_lt hV1]
          apply wb_inj
          rw [Int64.toBitVec_and, show (-1 : Int64).toBitVec = BitVec.allOnes 64 from by decide, BitVec.and_allOnes]]
        exact bnd z1 r1
      · refine ifn (qne 64 h64) (ifp h12 ?_)
        have e1 : (1 : Int64) <<< ((nI wd).toInt64 &&& 63) = lN (2 ^ wd) := by
          have := wb_shl 1 (k := wd) (by omega)
          rw [Nat.one_mul] at this
          exact this
        rw [e1, show lN (2 ^ wd) - (1 : Int64) = lN (2 ^ wd - 1) from lN_sub (b := 1) (pw_pos (by omega) wd), wb_mask hV1 (by omega), ← hN]
        exact bnd z1 r1
    · rw [if_neg (by decide)] at hN
      obtain ⟨c, T', W', z1, z2⟩ := mo_spell (T := T) (W := W) hb2.1 hb2.2 ha (hS rfl) c0
      rw [← hN] at z2
      obtain ⟨r, r1, r2⟩ := tail T' W' c p P' z2 hp
      exact ⟨r, ifp rfl (bnd z1 r1), r2⟩
  have pre : ∃ r : Int32 × Int32 × Int32 × (Nat → Int32) × (Nat → Int32) × (Nat → Int32), k_Model_wholes_209 5000 VAL WI S fl (iI wz) (nI a) (nI s) (bI (decide (k = 3))) (bI below) p0 hd0 c0 P T W = some r ∧ pcOK r.2.2.2.1 r.1 (finL (sgn below fl ++ preL fl b) (whL b N false) (below && hA fl 64) (hA fl 16) wz.toNat) := by
    have k251 : ∀ (p h : Int32) (P' : Nat → Int32), pcOK P' p (sgn below fl ++ preL fl b) → ∃ r : Int32 × Int32 × Int32 × (Nat → Int32) × (Nat → Int32) × (Nat → Int32), k_Model_wholes_251 5000 VAL WI S fl (iI wz) (nI a) (nI s) (bI (decide (k = 3))) (bI below) p h c0 P' T W = some r ∧ pcOK r.2.2.2.1 r.1 (finL (sgn below fl ++ preL fl b) (whL b N false) (below && hA fl 64) (hA fl 16) wz.toNat) := by
      intro p h P' hp
      obtain ⟨r, r1, r2⟩ := num p P' hp
      refine ⟨r, ?_, r2⟩
      unfold k_Model_wholes_251
      try dsimp only
      rcases hbs with ⟨rfl, rfl⟩ | ⟨rfl, rfl⟩
      · exact ifn (by decide) r1
      · exact ifp rfl r1
    unfold k_Model_wholes_209 k_Model_wholes_231
    try dsimp only
    cases hf : hA fl 2 with
    | false =>
      have e : preL fl b = [] := by unfold preL; rw [if_neg (by rw [hf]; decide)]
      obtain ⟨r, r1, r2⟩ := k251 s1.1 s1.2.1 s1.2.2 (by rw [e, List.append_nil]; exact y2)
      exact ⟨r, bnd y1 (bnd (mo_anyT hf) (ifp rfl (bnd (mo_anyT hf) (ifp rfl r1)))), r2⟩
    | true =>
      obtain ⟨s2, w1, w2⟩ := mo_add y2 48 (by omega)
      rcases id hbs with ⟨hb8, hs8⟩ | ⟨hb8, hs8⟩
      · have e : preL fl b = [48] := by unfold preL; rw [if_pos hf, if_pos hb8]
        obtain ⟨r, r1, r2⟩ := k251 s2.1 s1.2.1 s2.2 (by rw [e]; exact w2)
        exact ⟨r, bnd y1 (bnd (mo_anyT hf) (ifn (by decide) (bnd w1 (bnd (mo_anyT hf) (ifn (by decide) (ifn (qne 120 (by omega)) r1)))))), r2⟩
      · have e : preL fl b = [48, 120] := by unfold preL; rw [if_pos hf, if_neg (by omega)]
        obtain ⟨s3, v1, v2⟩ := mo_add w2 120 (by rw [List.length_append]; show _ + 1 < 4000; omega)
        rw [List.append_assoc] at v2
        obtain ⟨r, r1, r2⟩ := k251 s3.1 s1.2.1 s3.2 (by rw [e]; exact v2)
        exact ⟨r, bnd y1 (bnd (mo_anyT hf) (ifn (by decide) (bnd w1 (bnd (mo_anyT hf) (ifn (by decide) (ifp (qeq 120 hs8) (bnd v1 r1))))))), r2⟩
  obtain ⟨r, r1, r2⟩ := pre
  refine ⟨r, ?_, r2⟩
  unfold f_Model_wholes k_Model_wholes_15 k_Model_wholes_208
  try dsimp only
  rw [nI_clamp (by omega), hK, hB]
  have hs100 : ¬ nI s = 100 := qne 100 (by omega)
  rcases hk with rfl | rfl
  · rw [decide_eq_false (show ¬ (3 : Nat) = 4 by decide), Bool.false_and] at hbe
    rw [hbe] at r1
    exact ifp h12 (ifp rfl (ifn hs100 (ifn (by decide) r1)))
  · rw [decide_eq_true (show (4 : Nat) = 4 from rfl), Bool.true_and] at hbe
    refine ifp h12 (ifn (by decide) (ifn hs100 (ifp rfl (ifp h12 ?_))))
    have hzs := mo_isZeroSize ha (hS rfl)
    cases hm : mb with
    | false =>
      rw [hm, Bool.false_and] at hbe
      rw [hbe] at r1
      exact ifp rfl r1
    | true =>
      rw [hm, Bool.true_and] at hbe
      refine ifn (by decide) (bnd hzs ?_)
      cases hz : decide (vl B16 g 32 = 0) with
      | true =>
        rw [hz] at hbe
        rw [hbe] at r1
        exact ifn (by decide) r1
      | false =>
        rw [hz] at hbe
        rw [hbe] at r1
        exact ifp rfl r1
theorem mo_take {KI S SC : Nat → Int32} {PA : Nat → Int64} {a k : Nat} (ha : a < 12) (hk : k = 5 ∨ k = 6) (hK : KI a = nI k) {lo : Int} (hlo : SC a = iI (-lo)) {g : Nat → Nat} (hS : k = 5 → szOK S a g) {d : Nat} (hd : k = 6 → d < 2 ^ 64 ∧ PA a = lN d) {N : Nat} (hN : N = if k = 5 then vl B16 g 32 else d) (T W : Nat → Int32) (c0 e0 : Int32) :
    ∃ (T' W' : Nat → Int32), f_Model_take 5000 KI S SC PA T c0 e0 W (nI a) = some (nI (nd 10 N), iI (lo + (nd 10 N : Int) - 1), T', W') ∧ mdOK 10 T' (nI (nd 10 N)) N := by
  have h12 : inB (nI a) 12 = true := inB_n (by omega)
  have fin : ∀ (c : Int32) (T' W' : Nat → Int32), c = nI (nd 10 N) → k_Model_take_32 SC (nI a) c e0 T' W' = some (nI (nd 10 N), iI (lo + (nd 10 N : Int) - 1), T', W') := by
    intro c T' W' hc
    subst hc
    unfold k_Model_take_32
    try dsimp only
    refine ifp h12 ?_
    rw [nI_clamp (by omega), hlo, ← iI_nat, show (1 : Int32) = iI 1 from rfl, iI_sub, iI_sub]
    rw [show (nd 10 N : Int) - 1 - -lo = lo + (nd 10 N : Int) - 1 by omega]
  unfold f_Model_take
  rw [nI_clamp (by omega), hK]
  rcases hk with rfl | rfl
  · rw [if_pos rfl] at hN
    obtain ⟨c, T', W', z1, z2⟩ := mo_spell (b := 10) (T := T) (W := W) (by omega) (by omega) ha (hS rfl) c0
    rw [← hN] at z2
    refine ⟨T', W', ifp h12 (ifp rfl (bnd z1 (fin c T' W' z2.1))), ?_⟩
    rw [← z2.1]
    exact z2
  · rw [if_neg (by decide)] at hN
    obtain ⟨h1, h2⟩ := hd rfl
    subst hN
    obtain ⟨c, T', z1, z2⟩ := mo_spellLong (b := 10) (by omega) (by omega) h1 T c0
    refine ⟨T', W, ifp h12 (ifn (by decide) (ifp h12 ?_)), ?_⟩
    · rw [h2]
      exact bnd z1 (fin c T' W z2.1)
    · rw [← z2.1]
      exact z2
set_option maxHeartbeats 8000000 in
theorem mo_floating {KI BE S SC : Nat → Int32} {PA : Nat → Int64} {fl : Int32} {wz pz : Int} {a k s : Nat} (ha : a < 12) (hk : k = 5 ∨ k = 6) (hs : s = 101 ∨ s = 102 ∨ s = 103) (hK : KI a = nI k) {lo : Int} (hlo : -400 ≤ lo ∧ lo ≤ 400 ∧ SC a = iI (-lo)) {mb : Bool} (hB : BE a = bI mb) {g : Nat → Nat} (hS : k = 5 → szOK S a g) {d : Nat} (hd : k = 6 → d < 2 ^ 64 ∧ PA a = lN d) {N : Nat} (hN : N = if k = 5 then vl B16 g 32 else d) (hn160 : nd 10 N < 160) (hw : -1 ≤ wz ∧ wz ≤ 1000) (hpz : -1 ≤ pz ∧ pz ≤ 999) (P T W : Nat → Int32) (hd0 c0 e0 : Int32) {below : Bool} (hbe : f_Model_isBelow 5000 KI BE S (nI a) = some (bI below)) {q : Nat} (hq : q = if pz = -1 then 6 else pz.toNat) :
    ∃ r : Int32 × Int32 × Int32 × Int32 × (Nat → Int32) × (Nat → Int32) × (Nat → Int32), f_Model_floating 5000 KI BE S SC PA fl (iI wz) (iI pz) P hd0 T c0 e0 W (nI a) (nI s) = some r ∧ pcOK r.2.2.2.2.1 r.1 (finL (sgn below fl) (deL s N lo q fl) (below && hA fl 64) (hA fl 16) wz.toNat) := by
  have hsl := sgn_len below fl
  obtain ⟨s1, y1, y2, y3⟩ := mo_begin fl P hd0 below
  obtain ⟨T1, W1, t1, t2⟩ := mo_take (S := S) ha hk hK hlo.2.2 hS hd hN T W c0 e0
  have hq9 : q ≤ 999 := by
    rw [hq]
    by_cases h : pz = -1
    · rw [if_pos h]; omega
    · rw [if_neg h]; omega
  have frL := fun c => frs_rnd (N := N) (c := c) (lo := lo) hn160 (by omega)
  have tail : ∀ (bd : List Nat) (s2 : Int32 × (Nat → Int32)) (c ex : Int32) (T' : Nat → Int32), pcOK s2.2 s2.1 (sgn below fl ++ bd) → bd.length ≤ 2500 → ∃ r : Int32 × Int32 × Int32 × Int32 × (Nat → Int32) × (Nat → Int32) × (Nat → Int32), k_Model_floating_162 5000 KI BE S fl (iI wz) (nI a) s2.1 s1.2.1 c ex s2.2 T' W1 = some r ∧ pcOK r.2.2.2.2.1 r.1 (finL (sgn below fl) bd (below && hA fl 64) (hA fl 16) wz.toNat) := by
    intro bd s2 c ex T' hp hl
    obtain ⟨s3, v1, v2⟩ := mo_finish hp (by omega) below true fl hw
    refine ⟨(s3.1, s1.2.1, c, ex, s3.2, T', W1), ?_, v2⟩
    unfold k_Model_floating_162
    try dsimp only
    refine bnd hbe (bnd ?_ rfl)
    rw [y3]
    exact v1
  have keepN : ∀ mz : Int, -100000 ≤ mz ∧ mz ≤ 100000 → ∃ (c' ex' : Int32) (T' : Nat → Int32), f_Model_keep 5000 T1 (nI (nd 10 N)) (iI (lo + (nd 10 N : Int) - 1)) (iI mz) = some (c', ex', T') ∧ mdR T' c' ex' (rnd N ((nd 10 N : Int) - mz).toNat) lo := fun mz hmz => mo_keep t2 (by omega) lo mz hmz
  have fixLen : ∀ (M : Nat) (p : Int), frs 10 M lo ≤ 560 → p ≤ 1100 → (fixL M lo p fl).length ≤ 2500 := by
    intro M p h1 h2
    unfold fixL
    rw [List.length_append]
    have a1 := wlN_len (fun e => dl 10 M lo e) (hA fl 32) (frs 10 M lo).toNat
    have a2 := bp_len (dl 10 M lo) (-1) (-p) (hA fl 2)
    omega
  have nmLen : ∀ z : Int, (nmL z 2).length ≤ 5 := by
    intro z
    unfold nmL
    rw [List.length_append, pl_len]
    have := jj_le z.natAbs 2
    by_cases h : z < 0
    · rw [if_pos h]; show 1 + _ ≤ 5; omega
    · rw [if_neg h]; show 0 + _ ≤ 5; omega
  have sciLen : ∀ (M : Nat) (p : Int), p ≤ 1100 → (sciL M lo p fl).length ≤ 2500 := by
    intro M p h2
    unfold sciL
    have a2 := bp_len (dl 10 M lo) (frs 10 M lo - 1) (frs 10 M lo - p) (hA fl 2)
    have a3 := nmLen (frs 10 M lo)
    rw [List.length_append, List.length_append, List.length_append]
    by_cases h : frs 10 M lo < 0
    · rw [if_pos h]; show 1 + (_ + (1 + _)) ≤ 2500; omega
    · rw [if_neg h]; show 1 + (_ + (2 + _)) ≤ 2500; omega
  have main : ∃ r : Int32 × Int32 × Int32 × Int32 × (Nat → Int32) × (Nat → Int32) × (Nat → Int32), k_Model_floating_30 5000 KI BE S fl (iI wz) (nI a) (nI s) (nI q) s1.1 s1.2.1 (nI (nd 10 N)) (iI (lo + (nd 10 N : Int) - 1)) s1.2.2 T1 W1 = some r ∧ pcOK r.2.2.2.2.1 r.1 (finL (sgn below fl) (deL s N lo q fl) (below && hA fl 64) (hA fl 16) wz.toNat) := by
    unfold k_Model_floating_30
    try dsimp only
    rcases hs with rfl | rfl | rfl
    · -- e
      obtain ⟨c', ex', T', k1, k2⟩ := keepN ((q : Int) + 1) (by omega)
      have er : rnd N ((nd 10 N : Int) - ((q : Int) + 1)).toNat = rnd N (frs 10 N lo - (q : Int) - lo).toNat := by
        by_cases h0 : N = 0
        · rw [h0, rnd_0, rnd_0]
        · rw [frs_cut h0]
          congr 1
          omega
      rw [er] at k2
      have hF := frL (frs 10 N lo - (q : Int) - lo).toNat
      obtain ⟨s2, v1, v2⟩ := mo_exponential k2 (by omega) fl (q := q) (by omega) y2 (by omega)
      obtain ⟨r, r1, r2⟩ := tail _ s2 c' ex' T' v2 (sciLen _ _ (by omega))
      have ek : nI q + (1 : Int32) = iI ((q : Int) + 1) := by rw [← iI_nat, show (1 : Int32) = iI 1 from rfl, iI_add]
      rw [← ek] at k1
      refine ⟨r, ifp rfl (bnd k1 (bnd v1 r1)), ?_⟩
      · unfold deL
        rw [if_neg (show ¬ (101 : Nat) = 102 by decide), if_pos rfl]
        exact r2
    · -- f
      obtain ⟨c', ex', T', k1, k2⟩ := keepN (lo + (nd 10 N : Int) - 1 + 1 + (q : Int)) (by omega)
      have er : ((nd 10 N : Int) - (lo + (nd 10 N : Int) - 1 + 1 + (q : Int))).toNat = (-(q : Int) - lo).toNat := by congr 1; omega
      rw [er] at k2
      have hF := frL (-(q : Int) - lo).toNat
      obtain ⟨s2, v1, v2⟩ := mo_fixed k2 (by omega) fl (q := q) (by omega) y2 (by omega)
      obtain ⟨r, r1, r2⟩ := tail _ s2 c' ex' T' v2 (fixLen _ _ (by omega) (by omega))
      have ek : (iI (lo + (nd 10 N : Int) - 1) + (1 : Int32)) + nI q = iI (lo + (nd 10 N : Int) - 1 + 1 + (q : Int)) := by rw [← iI_nat q, show (1 : Int32) = iI 1 from rfl, iI_add, iI_add]
      rw [← ek] at k1
      refine ⟨r, ifn (by decide) (ifp rfl (bnd k1 (bnd v1 r1))), ?_⟩
      · unfold deL
        rw [if_pos rfl]
        exact r2
    · -- g
      obtain ⟨p, hp⟩ : ∃ p : Nat, p = max 1 q - 1 := ⟨_, rfl⟩
      obtain ⟨c', ex', T', k1, k2⟩ := keepN ((p : Int) + 1) (by omega)
      have er : rnd N ((nd 10 N : Int) - ((p : Int) + 1)).toNat = rnd N (frs 10 N lo - (p : Int) - lo).toNat := by
        by_cases h0 : N = 0
        · rw [h0, rnd_0, rnd_0]
        · rw [frs_cut h0]
          congr 1
          omega
      rw [er] at k2
      have hF := frL (frs 10 N lo - (p : Int) - lo).toNat
      have ede : deL 103 N lo q fl = (if -4 ≤ frs 10 (rnd N (frs 10 N lo - (p : Int) - lo).toNat) lo ∧ frs 10 (rnd N (frs 10 N lo - (p : Int) - lo).toNat) lo ≤ (p : Int) then fixL (rnd N (frs 10 N lo - (p : Int) - lo).toNat) lo ((p : Int) - frs 10 (rnd N (frs 10 N lo - (p : Int) - lo).toNat) lo) fl else sciL (rnd N (frs 10 N lo - (p : Int) - lo).toNat) lo (p : Int) fl) := by
        unfold deL
        rw [if_neg (show ¬ (103 : Nat) = 102 by decide), if_neg (show ¬ (103 : Nat) = 101 by decide), ← hp]
      rw [ede]
      generalize rnd N (frs 10 N lo - (p : Int) - lo).toNat = M at k2 hF
      have hfr0 : M = 0 → frs 10 M lo = 0 := fun h => if_pos h
      have k87 : ∃ r : Int32 × Int32 × Int32 × Int32 × (Nat → Int32) × (Nat → Int32) × (Nat → Int32), k_Model_floating_87 5000 KI BE S fl (iI wz) (nI a) (iI ((p : Int) + 1)) s1.1 s1.2.1 (nI (nd 10 N)) (iI (lo + (nd 10 N : Int) - 1)) s1.2.2 T1 W1 = some r ∧ pcOK r.2.2.2.2.1 r.1 (finL (sgn below fl) (if -4 ≤ frs 10 M lo ∧ frs 10 M lo ≤ (p : Int) then fixL M lo ((p : Int) - frs 10 M lo) fl else sciL M lo (p : Int) fl) (below && hA fl 64) (hA fl 16) wz.toNat) := by
        have ep : iI ((p : Int) + 1) - (1 : Int32) = iI (p : Int) := by
          rw [show (1 : Int32) = iI 1 from rfl, iI_sub]
          congr 1
          omega
        unfold k_Model_floating_87 k_Model_floating_117 k_Model_floating_121 k_Model_floating_122 k_Model_floating_148
        try dsimp only
        rw [ep]
        by_cases hc : -4 ≤ frs 10 M lo ∧ frs 10 M lo ≤ (p : Int)
        · rw [if_pos hc]
          obtain ⟨n, hn⟩ : ∃ n : Nat, (p : Int) - frs 10 M lo = (n : Int) := ⟨((p : Int) - frs 10 M lo).toNat, by omega⟩
          rw [hn]
          obtain ⟨s2, v1, v2⟩ := mo_fixed k2 (by omega) fl (q := n) (by omega) y2 (by omega)
          obtain ⟨r, r1, r2⟩ := tail _ s2 c' ex' T' v2 (fixLen _ _ (by omega) (by omega))
          refine ⟨r, bnd k1 ?_, r2⟩
          by_cases h0 : M = 0
          · have hc0 : c' = 0 := (mdR_c0 k2).mpr h0
            have e0 : iI (p : Int) - (0 : Int32) = nI n := by
              rw [show (0 : Int32) = iI 0 from rfl, iI_sub, ← iI_nat]
              congr 1
              have := hfr0 h0
              omega
            refine ifp hc0 (ifn (by decide) (ifp hc0 ?_))
            rw [e0]
            exact bnd v1 r1
          · have hc0 : ¬ c' = 0 := fun z => h0 ((mdR_c0 k2).mp z)
            have hex := mdR_ex k2 h0
            have e0 : iI (p : Int) - ex' = nI n := by
              rw [hex, iI_sub, hn, iI_nat]
            refine ifn hc0 (ifn ?_ (ifn ?_ (ifn (by decide) (ifn hc0 ?_))))
            · show ¬ ex' < (-4 : Int32)
              rw [hex]
              exact inlt (frs 10 M lo) (-4) (by omega)
            · show ¬ iI ((p : Int) + 1) ≤ ex'
              rw [hex]
              exact inle ((p : Int) + 1) (frs 10 M lo) (by omega)
            · rw [e0]
              exact bnd v1 r1
        · rw [if_neg hc]
          have h0 : M ≠ 0 := fun z => by
            have := hfr0 z
            omega
          have hc0 : ¬ c' = 0 := fun z => h0 ((mdR_c0 k2).mp z)
          have hex := mdR_ex k2 h0
          obtain ⟨s2, v1, v2⟩ := mo_exponential k2 (by omega) fl (q := p) (by omega) y2 (by omega)
          obtain ⟨r, r1, r2⟩ := tail _ s2 c' ex' T' v2 (sciLen _ _ (by omega))
          refine ⟨r, bnd k1 (ifn hc0 ?_), r2⟩
          show (if ex' < (-4 : Int32) then _ else _) = _
          rw [iI_nat]
          by_cases h4 : frs 10 M lo < -4
          · refine ifp ?_ (ifp rfl (bnd v1 r1))
            rw [hex]
            exact ilt _ (-4) h4
          · refine ifn ?_ (ifp ?_ (ifp rfl (bnd v1 r1)))
            · rw [hex]
              exact inlt (frs 10 M lo) (-4) (by omega)
            · show iI ((p : Int) + 1) ≤ ex'
              rw [hex]
              exact ile ((p : Int) + 1) (frs 10 M lo) (by omega)
      obtain ⟨r, r1, r2⟩ := k87
      refine ⟨r, ifn (by decide) (ifn (by decide) ?_), r2⟩
      by_cases hq0 : q = 0
      · rw [show (p : Int) + 1 = 1 by omega] at r1
        exact ifp (qeq 0 hq0) r1
      · rw [show (p : Int) + 1 = (q : Int) by omega, iI_nat] at r1
        exact ifn (qne 0 hq0) r1
  obtain ⟨r, r1, r2⟩ := main
  refine ⟨r, ?_, r2⟩
  unfold f_Model_floating
  refine bnd hbe (bnd y1 (bnd t1 ?_))
  by_cases h : pz = -1
  · rw [if_pos h] at hq
    subst hq
    exact ifn (inle 0 pz (by omega)) r1
  · rw [if_neg h] at hq
    refine ifp (ile 0 pz (by omega)) ?_
    rw [show iI pz = nI q from by rw [hq, ← iI_nat]; congr 1; omega]
    exact r1
