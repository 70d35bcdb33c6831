theorem dgh_dat {N : Nat} {lo e z : Int} (h0 : N ≠ 0) (hz : z = lo + (nd 10 N : Int) - 1 - e) : (if z < 0 then 0 else dgh N z.toNat) = dat 10 N lo e := by
  have hp := nd_pos (b := 10) (by omega) h0
  unfold dat dgh
  by_cases h1 : z < 0
  · rw [if_pos h1, if_pos (by omega), nd_div0 (by omega) (by omega), Nat.zero_mod]
  · rw [if_neg h1]
    by_cases h2 : lo ≤ e
    · rw [if_pos h2, if_pos (by omega), show nd 10 N - 1 - z.toNat = (e - lo).toNat by omega]
    · rw [if_neg h2, if_neg (by omega)]
theorem dat_0 (b : Nat) (lo e : Int) : dat b 0 lo e = 0 := by
  unfold dat
  by_cases h : lo ≤ e
  · rw [if_pos h, Nat.zero_div, Nat.zero_mod]
  · rw [if_neg h]
theorem mo_dig {T : Nat → Int32} {c ex : Int32} {N : Nat} {lo e z : Int} (h : mdR T c ex N lo) (hz : N ≠ 0 → z = lo + (nd 10 N : Int) - 1 - e) (hr : -100000 ≤ z ∧ z ≤ 100000) : f_Model_digit T c (iI z) = some (nI (dat 10 N lo e)) := by
  rw [mo_digit h hr]
  by_cases h0 : N = 0
  · rw [h0, dat_0]
    unfold dgh
    rw [nd_0]
    by_cases h1 : z < 0
    · rw [if_pos h1]
    · rw [if_neg h1, if_neg (by omega)]
  · rw [dgh_dat h0 (hz h0)]
theorem mdR_c0 {T : Nat → Int32} {c ex : Int32} {N : Nat} {lo : Int} (h : mdR T c ex N lo) : c = 0 ↔ N = 0 := by
  rcases h with ⟨h0, hc⟩ | ⟨h0, n, g1, g2, hc, _⟩
  · exact ⟨fun _ => h0, fun _ => hc⟩
  · constructor
    · intro e
      rw [hc] at e
      exact absurd e (qne 0 (by omega))
    · intro e
      exact absurd e h0
theorem mdR_ex {T : Nat → Int32} {c ex : Int32} {N : Nat} {lo : Int} (h : mdR T c ex N lo) (h0 : N ≠ 0) : ex = iI (frs 10 N lo) := by
  rcases h with ⟨h1, _⟩ | ⟨_, n, _, _, _, hex, _⟩
  · exact absurd h1 h0
  · rw [hex]
    unfold frs
    rw [if_neg h0]
theorem dat_hi {N : Nat} {lo e : Int} (h : N = 0 ∨ frs 10 N lo < e) : dat 10 N lo e = 0 := by
  by_cases h0 : N = 0
  · rw [h0, dat_0]
  · have h1 := h.resolve_left h0
    unfold frs at h1
    rw [if_neg h0] at h1
    have hp := nd_pos (b := 10) (by omega) h0
    unfold dat
    rw [if_pos (by omega), nd_div0 (by omega) (by omega), Nat.zero_mod]
theorem mo_fix_b {T : Nat → Int32} {c ex : Int32} {N : Nat} {lo : Int} (h : mdR T c ex N lo) (hf : -3000 ≤ frs 10 N lo ∧ frs 10 N lo ≤ 3000) {q : Nat} (hq : q ≤ 2000) : ∀ (d k m : Nat) (P : Nat → Int32) (p : Int32) (L : List Nat), k + d = q → d < m → L.length + d ≤ 4000 → pcOK P p L →
    ∃ s : Int32 × (Nat → Int32), lp_ (b_Model_fixed_91 T c ex (nI q)) m (nI k, p, P) = some s ∧ pcOK s.2 s.1 (L ++ dnI (dl 10 N lo) (-1 - (k : Int)) d) := by
  intro d
  induction d with
  | zero =>
    intro k m P p L hk hm hl hp
    obtain ⟨m, rfl⟩ : ∃ j, m = j + 1 := ⟨m - 1, by omega⟩
    refine ⟨(p, P), ?_, ?_⟩
    · show b_Model_fixed_91 T c ex (nI q) (lp_ (b_Model_fixed_91 T c ex (nI q)) m) _ = _
      rw [e_Model_fixed_91]
      exact ifp (nI_le (by omega) (by omega)) rfl
    · show pcOK P p (L ++ [])
      rw [List.append_nil]
      exact hp
  | succ d ih =>
    intro k m P p L hk hm hl hp
    obtain ⟨m, rfl⟩ : ∃ j, m = j + 1 := ⟨m - 1, by omega⟩
    have hdt : dat 10 N lo (-1 - (k : Int)) < 16 := dat_16 (by omega)
    obtain ⟨s1, y1, y2⟩ := mo_addDigit hp hdt (by omega)
    obtain ⟨s, z1, z2⟩ := ih (k + 1) m s1.2 s1.1 _ (by omega) (by omega) (by rw [List.length_append]; show L.length + 1 + d ≤ 4000; omega) y2
    refine ⟨s, ?_, ?_⟩
    · show b_Model_fixed_91 T c ex (nI q) (lp_ (b_Model_fixed_91 T c ex (nI q)) m) _ = _
      generalize lp_ (b_Model_fixed_91 T c ex (nI q)) m = rc at z1 ⊢
      rw [e_Model_fixed_91]
      unfold k_Model_fixed_120
      rw [nI_1]
      refine ifn (nI_ge (by omega) (by omega)) ?_
      by_cases h0 : N = 0
      · refine ifp ((mdR_c0 h).mpr h0) ?_
        rw [h0, dat_0] at y1
        exact bnd y1 z1
      · refine ifn (fun z => h0 ((mdR_c0 h).mp z)) ?_
        rw [mdR_ex h h0, show (1 : Int32) = iI 1 from rfl, ← iI_nat k, iI_add, iI_add]
        refine bnd (mo_dig h (e := -1 - (k : Int)) (fun _ => ?_) (by omega)) (bnd y1 z1)
        unfold frs
        rw [if_neg h0]
        omega
    · show pcOK s.2 s.1 (L ++ (dl 10 N lo (-1 - (k : Int)) :: dnI (dl 10 N lo) (-1 - (k : Int) - 1) d))
      rw [List.append_assoc] at z2
      rw [show -1 - (k : Int) - 1 = -1 - ((k + 1 : Nat) : Int) by omega]
      exact z2
theorem mo_fix_w {T : Nat → Int32} {c ex : Int32} {N : Nat} {lo : Int} (h : mdR T c ex N lo) (hf : -3000 ≤ frs 10 N lo ∧ frs 10 N lo ≤ 2000) (fl a1 : Int32) : ∀ (e k m : Nat) (P : Nat → Int32) (p : Int32) (L : List Nat), k + e = (frs 10 N lo).toNat → e + 1 < m → L.length + 2 * e + 2 ≤ 4000 → pcOK P p L →
    ∃ s : Int32 × (Nat → Int32), lp_ (b_Model_fixed_27 5000 fl T c ex a1 (nI ((frs 10 N lo).toNat + 1))) m (nI k, p, P) = (if 0 < a1 then k_Model_fixed_83 5000 T c ex a1 s.1 s.2 else ((f_Model_has fl (2 : Int32)).bind fun u_77 => (if u_77 = 0 then k_Model_fixed_89 5000 T c ex a1 s.1 s.2 else k_Model_fixed_83 5000 T c ex a1 s.1 s.2))) ∧ pcOK s.2 s.1 (L ++ wlN (fun e => dl 10 N lo e) (hA fl 32) e) := by
  have dig : ∀ (e k m : Nat) (P : Nat → Int32) (p : Int32) (L : List Nat), k + e = (frs 10 N lo).toNat → L.length + 2 ≤ 4000 → pcOK P p L → ∃ s : Int32 × (Nat → Int32), lp_ (b_Model_fixed_27 5000 fl T c ex a1 (nI ((frs 10 N lo).toNat + 1))) (m + 1) (nI k, p, P) = lp_ (b_Model_fixed_27 5000 fl T c ex a1 (nI ((frs 10 N lo).toNat + 1))) m (nI (k + 1), s.1, s.2) ∧ pcOK s.2 s.1 (L ++ ([dl 10 N lo (e : Int)] ++ (if hA fl 32 = true ∧ 0 < e ∧ e % 3 = 0 then [44] else []))) := by
    intro e k m P p L hk hl hp
    have hdt : dat 10 N lo (e : Int) < 16 := dat_16 (by omega)
    obtain ⟨s1, y1, y2⟩ := mo_addDigit hp hdt (by omega)
    obtain ⟨s2, w1, w2⟩ := mo_group (fl := fl) (k := k) (n := (frs 10 N lo).toNat + 1) (by omega) (by omega) y2 (by rw [List.length_append]; show L.length + 1 < 4000; omega)
    rw [show (frs 10 N lo).toNat + 1 - 1 - k = e by omega, List.append_assoc] at w2
    refine ⟨s2, ?_, w2⟩
    show b_Model_fixed_27 5000 fl T c ex a1 (nI ((frs 10 N lo).toNat + 1)) (lp_ (b_Model_fixed_27 5000 fl T c ex a1 (nI ((frs 10 N lo).toNat + 1))) m) _ = _
    generalize lp_ (b_Model_fixed_27 5000 fl T c ex a1 (nI ((frs 10 N lo).toNat + 1))) m = rc
    rw [e_Model_fixed_27]
    unfold k_Model_fixed_47 k_Model_fixed_56
    rw [nI_1]
    refine ifn (nI_ge (by omega) (by omega)) ?_
    by_cases h0 : N = 0
    · refine ifp ((mdR_c0 h).mpr h0) ?_
      rw [h0, dat_0] at y1
      exact bnd y1 (bnd w1 rfl)
    · refine ifn (fun z => h0 ((mdR_c0 h).mp z)) ?_
      rw [mdR_ex h h0]
      by_cases hn : 0 ≤ frs 10 N lo
      · refine ifp (ile 0 _ hn) ?_
        rw [← iI_nat k]
        refine bnd (mo_dig h (e := (e : Int)) (fun _ => ?_) (by omega)) (bnd y1 ?_)
        · have : frs 10 N lo = lo + (nd 10 N : Int) - 1 := by unfold frs; rw [if_neg h0]
          omega
        · rw [iI_nat k]
          exact bnd w1 rfl
      · refine ifn (inle 0 (frs 10 N lo) (by omega)) ?_
        rw [dat_hi (Or.inr (by omega))] at y1
        exact bnd y1 (bnd w1 rfl)
  intro e
  induction e with
  | zero =>
    intro k m P p L hk hm hl hp
    obtain ⟨m, rfl⟩ : ∃ j, m = j + 1 + 1 := ⟨m - 2, by omega⟩
    obtain ⟨s, q1, q2⟩ := dig 0 k (m + 1) P p L hk (by omega) hp
    rw [if_neg (fun z => absurd z.2.1 (Nat.lt_irrefl 0))] at q2
    refine ⟨s, Eq.trans q1 ?_, ?_⟩
    · show b_Model_fixed_27 5000 fl T c ex a1 (nI ((frs 10 N lo).toNat + 1)) (lp_ (b_Model_fixed_27 5000 fl T c ex a1 (nI ((frs 10 N lo).toNat + 1))) m) _ = _
      rw [e_Model_fixed_27]
      exact ifp (nI_le (by omega) (by omega)) rfl
    · exact q2
  | succ e ih =>
    intro k m P p L hk hm hl hp
    obtain ⟨m, rfl⟩ : ∃ j, m = j + 1 := ⟨m - 1, by omega⟩
    obtain ⟨s1, q1, q2⟩ := dig (e + 1) k m P p L hk (by omega) hp
    have hlen : (L ++ ([dl 10 N lo ((e + 1 : Nat) : Int)] ++ (if hA fl 32 = true ∧ 0 < e + 1 ∧ (e + 1) % 3 = 0 then [44] else []))).length ≤ L.length + 2 := by
      rw [List.length_append, List.length_append]
      by_cases hg : hA fl 32 = true ∧ 0 < e + 1 ∧ (e + 1) % 3 = 0
      · rw [if_pos hg]
        show L.length + (1 + 1) ≤ _
        omega
      · rw [if_neg hg]
        show L.length + (1 + 0) ≤ _
        omega
    obtain ⟨s, z1, z2⟩ := ih (k + 1) m s1.2 s1.1 _ (by omega) (by omega) (by omega) q2
    refine ⟨s, Eq.trans q1 z1, ?_⟩
    show pcOK s.2 s.1 (L ++ (dl 10 N lo ((e + 1 : Nat) : Int) :: ((if hA fl 32 = true ∧ (e + 1) % 3 = 0 then [44] else []) ++ wlN (fun e => dl 10 N lo e) (hA fl 32) e)))
    rw [List.append_assoc, List.append_assoc] at z2
    have e3 : (if hA fl 32 = true ∧ 0 < e + 1 ∧ (e + 1) % 3 = 0 then [44] else []) = (if hA fl 32 = true ∧ (e + 1) % 3 = 0 then [44] else []) := ifc ⟨fun z => ⟨z.1, z.2.2⟩, fun z => ⟨z.1, by omega, z.2⟩⟩
    rw [e3] at z2
    exact z2
theorem mo_fixed {T : Nat → Int32} {c ex : Int32} {N : Nat} {lo : Int} (h : mdR T c ex N lo) (hf : -3000 ≤ frs 10 N lo ∧ frs 10 N lo ≤ 700) (fl : Int32) {q : Nat} (hq : q ≤ 2000) {P : Nat → Int32} {p : Int32} {L : List Nat} (hp : pcOK P p L) (hl : L.length ≤ 10) :
    ∃ s : Int32 × (Nat → Int32), f_Model_fixed 5000 fl P p T c ex (nI q) = some s ∧ pcOK s.2 s.1 (L ++ fixL N lo (q : Int) fl) := by
  obtain ⟨s1, w1, w2⟩ := mo_fix_w h (by omega) fl (nI q) (frs 10 N lo).toNat 0 5000 P p L (by omega) (by omega) (by omega) hp
  have hlen := wlN_len (fun e => dl 10 N lo e) (hA fl 32) (frs 10 N lo).toNat
  have hlen2 : (L ++ wlN (fun e => dl 10 N lo e) (hA fl 32) (frs 10 N lo).toNat).length ≤ 1000 := by
    rw [List.length_append]
    omega
  have noP : ∃ s : Int32 × (Nat → Int32), k_Model_fixed_89 5000 T c ex (nI q) s1.1 s1.2 = some s ∧ pcOK s.2 s.1 (L ++ wlN (fun e => dl 10 N lo e) (hA fl 32) (frs 10 N lo).toNat ++ dnI (dl 10 N lo) (-1) q) := by
    unfold k_Model_fixed_89
    try dsimp only
    exact mo_fix_b h (by omega) hq q 0 5000 s1.2 s1.1 _ (by omega) (by omega) (by omega) w2
  have withP : ∃ s : Int32 × (Nat → Int32), k_Model_fixed_83 5000 T c ex (nI q) s1.1 s1.2 = some s ∧ pcOK s.2 s.1 (L ++ wlN (fun e => dl 10 N lo e) (hA fl 32) (frs 10 N lo).toNat ++ ([46] ++ dnI (dl 10 N lo) (-1) q)) := by
    obtain ⟨s2, y1, y2⟩ := mo_add w2 46 (by omega)
    obtain ⟨s3, z1, z2⟩ := mo_fix_b h (by omega) hq q 0 5000 s2.2 s2.1 _ (by omega) (by omega) (by rw [List.length_append]; show _ + 1 + q ≤ 4000; omega) y2
    refine ⟨s3, ?_, ?_⟩
    · unfold k_Model_fixed_83 k_Model_fixed_89
      try dsimp only
      exact bnd y1 z1
    · rw [List.append_assoc] at z2
      exact z2
  have main : ∃ s : Int32 × (Nat → Int32), k_Model_fixed_24 5000 fl T c ex (nI q) (nI ((frs 10 N lo).toNat + 1)) p P = some s ∧ pcOK s.2 s.1 (L ++ fixL N lo (q : Int) fl) := by
    unfold k_Model_fixed_24 fixL bp
    try dsimp only
    rw [show (-1 - -(q : Int) + 1).toNat = q by omega]
    by_cases hq0 : 0 < q
    · rw [if_pos (Or.inl (by omega))]
      obtain ⟨s, z1, z2⟩ := withP
      refine ⟨s, Eq.trans w1 (ifp (rlt 0 hq0) z1), ?_⟩
      rw [← List.append_assoc]
      exact z2
    · have hq1 : q = 0 := by omega
      subst hq1
      cases hb : hA fl 2 with
      | true =>
        rw [if_pos (Or.inr rfl)]
        obtain ⟨s, z1, z2⟩ := withP
        refine ⟨s, Eq.trans w1 (ifn (by decide) (bnd (mo_anyT hb) (ifn (by decide) z1))), ?_⟩
        rw [← List.append_assoc]
        exact z2
      | false =>
        rw [if_neg (show ¬ (_ ∨ false = true) from fun z => z.elim (fun y => by omega) (fun y => by cases y))]
        obtain ⟨s, z1, z2⟩ := noP
        refine ⟨s, Eq.trans w1 (ifn (by decide) (bnd (mo_anyT hb) (ifp rfl z1))), ?_⟩
        rw [← List.append_assoc]
        exact z2
  obtain ⟨s, z1, z2⟩ := main
  refine ⟨s, ?_, z2⟩
  unfold f_Model_fixed k_Model_fixed_14
  try dsimp only
  by_cases h0 : N = 0
  · refine ifp ((mdR_c0 h).mpr h0) ?_
    rw [show frs 10 N lo = 0 from if_pos h0] at z1
    exact z1
  · refine ifn (fun z => h0 ((mdR_c0 h).mp z)) ?_
    rw [mdR_ex h h0] at z1 ⊢
    by_cases hn : 0 ≤ frs 10 N lo
    · refine ifp (ile 0 _ hn) ?_
      rw [show (1 : Int32) = iI 1 from rfl, iI_add, show iI (frs 10 N lo + 1) = nI ((frs 10 N lo).toNat + 1) from by rw [← iI_nat]; congr 1; omega]
      exact z1
    · refine ifn (inle 0 (frs 10 N lo) (by omega)) ?_
      rw [show (frs 10 N lo).toNat = 0 by omega] at z1
      exact z1
theorem mo_isZero_nz {T : Nat → Int32} {n : Nat} (hn : n ≤ 600) (h0 : 0 < n) {d0 : Nat} (hT : T 0 = nI d0) (hd : d0 ≠ 0) (hd2 : d0 < 10) : f_Model_isZero 5000 T (nI n) = some 0 := by
  have run : ∀ (d k m : Nat), k + d = n → d < m → lp_ (b_Model_isZero_4 T (nI n)) m (0, nI k) = some 0 := by
    intro d
    induction d with
    | zero =>
      intro k m hk hm
      obtain ⟨m, rfl⟩ : ∃ j, m = j + 1 := ⟨m - 1, by omega⟩
      show b_Model_isZero_4 T (nI n) (lp_ (b_Model_isZero_4 T (nI n)) m) _ = _
      rw [e_Model_isZero_4]
      exact ifp (nI_le (by omega) (by omega)) rfl
    | succ d ih =>
      intro k m hk hm
      obtain ⟨m, rfl⟩ : ∃ j, m = j + 1 := ⟨m - 1, by omega⟩
      have hi := ih (k + 1) m (by omega) (by omega)
      show b_Model_isZero_4 T (nI n) (lp_ (b_Model_isZero_4 T (nI n)) m) _ = _
      generalize lp_ (b_Model_isZero_4 T (nI n)) m = rc at hi ⊢
      rw [e_Model_isZero_4]
      unfold k_Model_isZero_29 k_Model_isZero_30
      rw [nI_1]
      exact ifn (nI_ge (by omega) (by omega)) (ifp rfl hi)
  have hi := run (n - 1) 1 4999 (by omega) (by omega)
  show b_Model_isZero_4 T (nI n) (lp_ (b_Model_isZero_4 T (nI n)) 4999) _ = _
  generalize lp_ (b_Model_isZero_4 T (nI n)) 4999 = rc at hi ⊢
  rw [e_Model_isZero_4]
  unfold k_Model_isZero_29 k_Model_isZero_30
  refine ifn (nI_nle h0 (by omega)) (ifn (by decide) (ifp (by decide) ?_))
  rw [show (0 : Int32).toNatClampNeg = 0 from by decide, hT]
  exact ifn (qne 0 hd) hi
theorem dgh_first {N : Nat} (h0 : N ≠ 0) : dgh N 0 ≠ 0 ∧ dgh N 0 < 10 := by
  have hp := nd_pos (b := 10) (by omega) h0
  unfold dgh
  rw [if_pos hp, Nat.sub_zero]
  have a1 := nd_div1 (b := 10) (N := N) (n := nd 10 N - 1) (by omega) (by omega)
  have a2 : N / 10 ^ (nd 10 N - 1) < 10 := by
    rw [Nat.div_lt_iff_lt_mul (pw_pos (by omega) _), Nat.mul_comm, ← Nat.pow_succ, Nat.succ_eq_add_one, show nd 10 N - 1 + 1 = nd 10 N by omega]
    exact nd_lt (by omega) N
  generalize N / 10 ^ (nd 10 N - 1) = X at a1 a2 ⊢
  omega
theorem mo_exp_end {T : Nat → Int32} {c ex : Int32} {N : Nat} {lo : Int} (h : mdR T c ex N lo) (hf : -3000 ≤ frs 10 N lo ∧ frs 10 N lo ≤ 3000) {P : Nat → Int32} {p : Int32} {L : List Nat} (hp : pcOK P p L) (hl : L.length ≤ 3900) :
    ∃ s : Int32 × (Nat → Int32), (if c = 0 then k_Model_exponential_63 5000 p P else ((f_Model_isZero 5000 T c).bind fun u_57 => (if u_57 = 0 then k_Model_exponential_71 5000 ex p P else k_Model_exponential_63 5000 p P))) = some s ∧ pcOK s.2 s.1 (L ++ ((if frs 10 N lo < 0 then [101] else [101, 43]) ++ nmL (frs 10 N lo) 2)) := by
  have fin : ∃ s : Int32 × (Nat → Int32), k_Model_exponential_71 5000 (iI (frs 10 N lo)) p P = some s ∧ pcOK s.2 s.1 (L ++ ((if frs 10 N lo < 0 then [101] else [101, 43]) ++ nmL (frs 10 N lo) 2)) := by
    unfold k_Model_exponential_71 k_Model_exponential_90 nmL
    try dsimp only
    obtain ⟨s1, y1, y2⟩ := mo_add hp 101 (by omega)
    have l1 : (L ++ [101]).length = L.length + 1 := by rw [List.length_append]; rfl
    by_cases hn : frs 10 N lo < 0
    · rw [if_pos hn, if_pos hn]
      obtain ⟨s2, w1, w2⟩ := mo_add y2 45 (by omega)
      obtain ⟨s3, z1, z2⟩ := mo_number (z := frs 10 N lo) (least := 2) (by omega) (Or.inr rfl) w2 (by rw [List.length_append, l1]; show L.length + 1 + 1 + 4 ≤ 4000; omega)
      refine ⟨s3, bnd y1 (ifn (inle 0 _ hn) (bnd w1 (bnd z1 rfl))), ?_⟩
      rw [List.append_assoc, List.append_assoc] at z2
      exact z2
    · rw [if_neg hn, if_neg hn]
      obtain ⟨s2, w1, w2⟩ := mo_add y2 43 (by omega)
      obtain ⟨s3, z1, z2⟩ := mo_number (z := frs 10 N lo) (least := 2) (by omega) (Or.inr rfl) w2 (by rw [List.length_append, l1]; show L.length + 1 + 1 + 4 ≤ 4000; omega)
      refine ⟨s3, bnd y1 (ifp (ile 0 (frs 10 N lo) (by omega)) (bnd w1 (bnd z1 rfl))), ?_⟩
      rw [List.append_assoc, List.append_assoc] at z2
      exact z2
  obtain ⟨s, q1, q2⟩ := fin
  refine ⟨s, ?_, q2⟩
  by_cases h0 : N = 0
  · refine ifp ((mdR_c0 h).mpr h0) ?_
    rw [show frs 10 N lo = 0 from if_pos h0] at q1
    exact q1
  · refine ifn (fun z => h0 ((mdR_c0 h).mp z)) ?_
    have hex := mdR_ex h h0
    rcases h with ⟨h1, _⟩ | ⟨_, n, g1, g2, hc, _, g3, g4⟩
    · exact absurd h1 h0
    · have hfi := dgh_first h0
      rw [hc, hex]
      exact bnd (mo_isZero_nz g2 g1 (g3 0 g1) hfi.1 hfi.2) (ifp rfl q1)
theorem mo_exp_l {T : Nat → Int32} {c ex : Int32} {N : Nat} {lo : Int} (h : mdR T c ex N lo) (hf : -3000 ≤ frs 10 N lo ∧ frs 10 N lo ≤ 3000) {q : Nat} (hq : q ≤ 2000) : ∀ (d k m : Nat) (P : Nat → Int32) (p : Int32) (L : List Nat), k + d = q + 1 → 0 < k → d < m → L.length + d ≤ 3900 → pcOK P p L →
    ∃ s : Int32 × (Nat → Int32), lp_ (b_Model_exponential_29 5000 T c ex (nI q)) m (nI k, p, P) = some s ∧ pcOK s.2 s.1 (L ++ (dnI (dl 10 N lo) (frs 10 N lo - (k : Int)) d ++ ((if frs 10 N lo < 0 then [101] else [101, 43]) ++ nmL (frs 10 N lo) 2))) := by
  intro d
  induction d with
  | zero =>
    intro k m P p L hk hk0 hm hl hp
    obtain ⟨m, rfl⟩ : ∃ j, m = j + 1 := ⟨m - 1, by omega⟩
    obtain ⟨s, q1, q2⟩ := mo_exp_end h hf hp (by omega)
    refine ⟨s, ?_, q2⟩
    show b_Model_exponential_29 5000 T c ex (nI q) (lp_ (b_Model_exponential_29 5000 T c ex (nI q)) m) _ = _
    rw [e_Model_exponential_29]
    exact ifp (nI_lt (by omega) (by omega)) q1
  | succ d ih =>
    intro k m P p L hk hk0 hm hl hp
    obtain ⟨m, rfl⟩ : ∃ j, m = j + 1 := ⟨m - 1, by omega⟩
    have hdt : dat 10 N lo (frs 10 N lo - (k : Int)) < 16 := dat_16 (by omega)
    obtain ⟨s1, y1, y2⟩ := mo_addDigit hp hdt (by omega)
    obtain ⟨s, z1, z2⟩ := ih (k + 1) m s1.2 s1.1 _ (by omega) (by omega) (by omega) (by rw [List.length_append]; show L.length + 1 + d ≤ 3900; omega) y2
    refine ⟨s, ?_, ?_⟩
    · show b_Model_exponential_29 5000 T c ex (nI q) (lp_ (b_Model_exponential_29 5000 T c ex (nI q)) m) _ = _
      generalize lp_ (b_Model_exponential_29 5000 T c ex (nI q)) m = rc at z1 ⊢
      rw [e_Model_exponential_29]
      rw [nI_1]
      refine ifn (nI_nlt (by omega) (by omega)) ?_
      rw [← iI_nat k]
      refine bnd (mo_dig h (e := frs 10 N lo - (k : Int)) (fun h0 => ?_) (by omega)) (bnd y1 z1)
      have : frs 10 N lo = lo + (nd 10 N : Int) - 1 := by unfold frs; rw [if_neg h0]
      omega
    · show pcOK s.2 s.1 (L ++ ((dl 10 N lo (frs 10 N lo - (k : Int)) :: dnI (dl 10 N lo) (frs 10 N lo - (k : Int) - 1) d) ++ ((if frs 10 N lo < 0 then [101] else [101, 43]) ++ nmL (frs 10 N lo) 2)))
      rw [List.append_assoc] at z2
      rw [show frs 10 N lo - (k : Int) - 1 = frs 10 N lo - ((k + 1 : Nat) : Int) by omega]
      exact z2
theorem mo_exponential {T : Nat → Int32} {c ex : Int32} {N : Nat} {lo : Int} (h : mdR T c ex N lo) (hf : -3000 ≤ frs 10 N lo ∧ frs 10 N lo ≤ 3000) (fl : Int32) {q : Nat} (hq : q ≤ 2000) {P : Nat → Int32} {p : Int32} {L : List Nat} (hp : pcOK P p L) (hl : L.length ≤ 10) :
    ∃ s : Int32 × (Nat → Int32), f_Model_exponential 5000 fl P p T c ex (nI q) = some s ∧ pcOK s.2 s.1 (L ++ sciL N lo (q : Int) fl) := by
  have hdt : dat 10 N lo (frs 10 N lo) < 16 := dat_16 (by omega)
  obtain ⟨s1, y1, y2⟩ := mo_addDigit hp hdt (by omega)
  have l1 : (L ++ [lett (dat 10 N lo (frs 10 N lo))]).length = L.length + 1 := by rw [List.length_append]; rfl
  have d0 : f_Model_digit T c 0 = some (nI (dat 10 N lo (frs 10 N lo))) := mo_dig h (z := 0) (fun h0 => by
    have : frs 10 N lo = lo + (nd 10 N : Int) - 1 := by unfold frs; rw [if_neg h0]
    omega) (by omega)
  have noP : ∃ s : Int32 × (Nat → Int32), k_Model_exponential_27 5000 T c ex (nI q) s1.1 s1.2 = some s ∧ pcOK s.2 s.1 (L ++ ([dl 10 N lo (frs 10 N lo)] ++ (dnI (dl 10 N lo) (frs 10 N lo - 1) q ++ ((if frs 10 N lo < 0 then [101] else [101, 43]) ++ nmL (frs 10 N lo) 2)))) := by
    obtain ⟨s, z1, z2⟩ := mo_exp_l h hf hq q 1 5000 s1.2 s1.1 _ (by omega) (by omega) (by omega) (by rw [l1]; omega) y2
    refine ⟨s, ?_, ?_⟩
    · unfold k_Model_exponential_27
      try dsimp only
      exact z1
    · rw [List.append_assoc] at z2
      exact z2
  have withP : ∃ s : Int32 × (Nat → Int32), k_Model_exponential_21 5000 T c ex (nI q) s1.1 s1.2 = some s ∧ pcOK s.2 s.1 (L ++ ([dl 10 N lo (frs 10 N lo)] ++ (([46] ++ dnI (dl 10 N lo) (frs 10 N lo - 1) q) ++ ((if frs 10 N lo < 0 then [101] else [101, 43]) ++ nmL (frs 10 N lo) 2)))) := by
    obtain ⟨s2, w1, w2⟩ := mo_add y2 46 (by omega)
    obtain ⟨s, z1, z2⟩ := mo_exp_l h hf hq q 1 5000 s2.2 s2.1 _ (by omega) (by omega) (by omega) (by rw [List.length_append, l1]; show L.length + 1 + 1 + q ≤ 3900; omega) w2
    refine ⟨s, ?_, ?_⟩
    · unfold k_Model_exponential_21 k_Model_exponential_27
      try dsimp only
      exact bnd w1 z1
    · rw [List.append_assoc, List.append_assoc] at z2
      exact z2
  unfold f_Model_exponential sciL bp
  rw [show (frs 10 N lo - 1 - (frs 10 N lo - (q : Int)) + 1).toNat = q by omega]
  by_cases hq0 : 0 < q
  · rw [if_pos (Or.inl (by omega))]
    obtain ⟨s, z1, z2⟩ := withP
    exact ⟨s, bnd d0 (bnd y1 (ifp (rlt 0 hq0) z1)), z2⟩
  · have hq1 : q = 0 := by omega
    subst hq1
    cases hb : hA fl 2 with
    | true =>
      rw [if_pos (Or.inr rfl)]
      obtain ⟨s, z1, z2⟩ := withP
      exact ⟨s, bnd d0 (bnd y1 (ifn (by decide) (bnd (mo_anyT hb) (ifn (by decide) z1)))), z2⟩
    | false =>
      rw [if_neg (show ¬ (_ ∨ false = true) from fun z => z.elim (fun y => by omega) (fun y => by cases y))]
      obtain ⟨s, z1, z2⟩ := noP
      exact ⟨s, bnd d0 (bnd y1 (ifn (by decide) (bnd (mo_anyT hb) (ifp rfl z1)))), z2⟩
