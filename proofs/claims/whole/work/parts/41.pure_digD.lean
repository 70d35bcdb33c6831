def clOK (b : Nat) (f : Nat → Int32) (n : Nat) (g : Nat → Nat) : Prop := ∀ i, i < n → f i = nI (g i) ∧ g i < b
def dgOK (b : Nat) (f : Nat → Int32) (u : Int32) (N : Nat) : Prop := u = nI (nd b N) ∧ nd b N ≤ 208 ∧ ∀ i, i < nd b N → f i = nI (N / b ^ i % b)
theorem clOK_val {b : Nat} {f : Nat → Int32} {n : Nat} {g : Nat → Nat} (hb : 2 ≤ b) (h : clOK b f n g) {m : Nat} (hm : m ≤ n) : ∀ i, i < m → f i = nI (vl b g n / b ^ i % b) := by
  intro i hi
  rw [(h i (by omega)).1, vl_dig (by omega) (fun j hj => (h j hj).2) (by omega)]
theorem dg_trim_l {b : Nat} (hb : 2 ≤ b) (hb2 : b ≤ 128) {f : Nat → Int32} {g : Nat → Nat} : ∀ (n m : Nat), n ≤ 208 → n < m → clOK b f n g → lp_ (b_Digits_trim_0 f) m (nI n) = some (nI (nd b (vl b g n))) := by
  intro n
  induction n with
  | zero =>
    intro m _ hm _
    obtain ⟨m, rfl⟩ : ∃ j, m = j + 1 := ⟨m - 1, by omega⟩
    show b_Digits_trim_0 f (lp_ (b_Digits_trim_0 f) m) _ = _
    rw [e_Digits_trim_0]
    rw [show vl b g 0 = 0 from rfl, nd_0]
    exact ifp (by decide) rfl
  | succ n ih =>
    intro m h2 hm h
    obtain ⟨m, rfl⟩ : ∃ j, m = j + 1 := ⟨m - 1, by omega⟩
    have hi := ih m (by omega) (by omega) (fun i hi => h i (by omega))
    show b_Digits_trim_0 f (lp_ (b_Digits_trim_0 f) m) _ = _
    generalize lp_ (b_Digits_trim_0 f) m = rc at hi ⊢
    rw [e_Digits_trim_0]
    rw [show nI (n + 1) - (1 : Int32) = nI n from nI_pred n]
    refine ifn (nI_nle (by omega) (by omega)) (ifp (inB_n (by omega)) ?_)
    rw [nI_clamp (by omega), (h n (by omega)).1]
    have hg := (h n (by omega)).2
    have hl := vl_lt (b := b) (by omega) (n := n) (fun i hi => (h i (by omega)).2)
    have hl1 := vl_lt (b := b) (by omega) (n := n + 1) (fun i hi => (h i (by omega)).2)
    by_cases h0 : g n = 0
    · refine ifp (qeq 0 h0) ?_
      rw [hi]
      show _ = some (nI (nd b (vl b g n + g n * b ^ n)))
      rw [h0, Nat.zero_mul, Nat.add_zero]
    · refine ifn (qne 0 h0) ?_
      have h3 : 1 * b ^ n ≤ g n * b ^ n := Nat.mul_le_mul_right _ (by omega)
      rw [Nat.one_mul] at h3
      rw [nd_eq hb (m := n) (show b ^ n ≤ vl b g (n + 1) from Nat.le_trans h3 (Nat.le_add_left _ _)) hl1]
theorem dg_trim {b : Nat} (hb : 2 ≤ b) (hb2 : b ≤ 128) {f : Nat → Int32} {g : Nat → Nat} {n : Nat} (hn : n ≤ 208) (h : clOK b f n g) : f_Digits_trim 5000 f (nI n) = some (nI (nd b (vl b g n))) ∧ dgOK b f (nI (nd b (vl b g n))) (vl b g n) := by
  have hl : nd b (vl b g n) ≤ n := nd_le hb (vl_lt (by omega) (fun i hi => (h i hi).2))
  exact ⟨dg_trim_l hb hb2 n 5000 hn (by omega) h, rfl, by omega, clOK_val hb h hl⟩
def gup (g : Nat → Nat) (i x : Nat) (j : Nat) : Nat := if j = i then x else g j
theorem gup_s {g : Nat → Nat} {i x : Nat} : gup g i x i = x := if_pos rfl
theorem gup_n {g : Nat → Nat} {i x j : Nat} (h : ¬ j = i) : gup g i x j = g j := if_neg h
theorem clOK_upd {b : Nat} {f : Nat → Int32} {n : Nat} {g : Nat → Nat} (h : clOK b f n g) {i x : Nat} (hx : x < b) : clOK b (upd f i (nI x)) n (gup g i (x)) := by
  intro j hj
  by_cases e : j = i
  · subst e
    rw [pk_us]
    exact ⟨by rw [gup_s], by rw [gup_s]; exact hx⟩
  · rw [pk_un e]
    exact ⟨by rw [gup_n e]; exact (h j hj).1, by rw [gup_n e]; exact (h j hj).2⟩
theorem nar0 : vp_nar .byte (0 : Int32) = nI 0 := by decide +kernel
theorem nar1 : vp_nar .byte (1 : Int32) = nI 1 := by decide +kernel
theorem narS : ∀ c, c < 100 → vp_nar .byte ((nI c + (1 : Int32)).toInt8.toInt32) = nI (c + 1) := by decide +kernel
theorem dg_carry {n : Nat} (hn : n < 208) : ∀ (d i m : Nat) (f : Nat → Int32) (g : Nat → Nat), i + d = n → d < m → clOK 10 f n g → ∃ (n' : Nat) (f' : Nat → Int32) (g' : Nat → Nat), lp_ (b_Digits_carryInto_2 (nI n)) m (nI i, f) = some (nI n', f') ∧ n' ≤ n + 1 ∧ clOK 10 f' n' g' ∧ vl 10 g' n' = vl 10 g n + 10 ^ i := by
  intro d
  induction d with
  | zero =>
    intro i m f g hi hm h
    obtain ⟨m, rfl⟩ : ∃ j, m = j + 1 := ⟨m - 1, by omega⟩
    obtain rfl : i = n := by omega
    refine ⟨i + 1, upd f i (nI 1), (gup g i (1)), ?_, by omega, ?_, ?_⟩
    · show b_Digits_carryInto_2 (nI i) (lp_ (b_Digits_carryInto_2 (nI i)) m) _ = _
      rw [e_Digits_carryInto_2]
      refine ifn (rnle 208 (by omega)) (ifn (nI_nlt (by omega) (by omega)) (ifp (inB_n (by omega)) ?_))
      rw [nI_clamp (by omega), nar1, show nI i + (1 : Int32) = nI (i + 1) from nI_1 i]
    · intro j hj
      by_cases e : j = i
      · subst e
        rw [pk_us]
        exact ⟨by rw [gup_s], by rw [gup_s]; omega⟩
      · rw [pk_un e]
        exact ⟨by rw [gup_n e]; exact (h j (by omega)).1, by rw [gup_n e]; exact (h j (by omega)).2⟩
    · show vl 10 (gup g i 1) i + gup g i 1 i * 10 ^ i = _
      rw [gup_s, Nat.one_mul, vl_congr (h := g) (fun j hj => gup_n (by omega))]
  | succ d ih =>
    intro i m f g hi hm h
    obtain ⟨m, rfl⟩ : ∃ j, m = j + 1 := ⟨m - 1, by omega⟩
    have hg := h i (by omega)
    by_cases h9 : 9 ≤ g i
    · have e9 : g i = 9 := by omega
      obtain ⟨n', f', g', h1, h2, h3, h4⟩ := ih (i + 1) m (upd f i (nI 0)) (gup g i (0)) (by omega) (by omega) (clOK_upd h (by omega))
      refine ⟨n', f', g', ?_, h2, h3, ?_⟩
      · rw [← h1]
        show b_Digits_carryInto_2 (nI n) (lp_ (b_Digits_carryInto_2 (nI n)) m) _ = _
        generalize lp_ (b_Digits_carryInto_2 (nI n)) m = rc
        rw [e_Digits_carryInto_2]
        refine ifn (rnle 208 (by omega)) (ifp (nI_lt (by omega) (by omega)) (ifp (inB_n (by omega)) ?_))
        rw [nI_clamp (by omega), hg.1, nar0, nI_1]
        exact ifp (rle 9 h9) (ifp (inB_n (by omega)) rfl)
      · have e := vl_upd (b := 10) (g := g) (g' := gup g i (0)) (i := i) (n := n) (by omega) (fun j hj => gup_n hj)
        rw [h4, Nat.pow_succ]
        have e2 : (gup g i (0)) i = 0 := gup_s
        rw [e2, e9, Nat.zero_mul, Nat.add_zero] at e
        omega
    · refine ⟨n, upd f i (nI (g i + 1)), (gup g i (g i + 1)), ?_, by omega, clOK_upd h (by omega), ?_⟩
      · show b_Digits_carryInto_2 (nI n) (lp_ (b_Digits_carryInto_2 (nI n)) m) _ = _
        generalize lp_ (b_Digits_carryInto_2 (nI n)) m = rc
        rw [e_Digits_carryInto_2]
        refine ifn (rnle 208 (by omega)) (ifp (nI_lt (by omega) (by omega)) (ifp (inB_n (by omega)) ?_))
        rw [nI_clamp (by omega), hg.1, narS (g i) (by omega)]
        exact ifn (rnle 9 (by omega)) (ifp (inB_n (by omega)) (ifp (inB_n (by omega)) rfl))
      · have e := vl_upd (b := 10) (g := g) (g' := gup g i (g i + 1)) (i := i) (n := n) (by omega) (fun j hj => gup_n hj)
        have e2 : (gup g i (g i + 1)) i = g i + 1 := gup_s
        rw [e2, Nat.succ_mul] at e
        omega
theorem dg_zero {n c : Nat} (hc : c ≤ n) (hn : n ≤ 208) (X : Int32) : ∀ (d i m : Nat) (f : Nat → Int32), i + d = c → d < m → ∃ f', lp_ (b_Digits_roundTo_47 5000 (nI c) X (nI n)) m (nI i, f) = (if X = 0 then k_Digits_roundTo_76 5000 (nI n) f' else ((f_Digits_carryInto 5000 f' (nI n) (nI c)).bind fun u_73 => k_Digits_roundTo_76 5000 u_73.1 u_73.2)) ∧ (∀ j, f' j = if i ≤ j ∧ j < c then nI 0 else f j) := by
  intro d
  induction d with
  | zero =>
    intro i m f hi hm
    obtain ⟨m, rfl⟩ : ∃ j, m = j + 1 := ⟨m - 1, by omega⟩
    refine ⟨f, ?_, fun j => by rw [if_neg (by omega)]⟩
    show b_Digits_roundTo_47 5000 (nI c) X (nI n) (lp_ (b_Digits_roundTo_47 5000 (nI c) X (nI n)) m) _ = _
    rw [e_Digits_roundTo_47]
    exact ifp (nI_le (by omega) (by omega)) rfl
  | succ d ih =>
    intro i m f hi hm
    obtain ⟨m, rfl⟩ : ∃ j, m = j + 1 := ⟨m - 1, by omega⟩
    obtain ⟨f', h1, h2⟩ := ih (i + 1) m (upd f i (nI 0)) (by omega) (by omega)
    refine ⟨f', ?_, fun j => ?_⟩
    · rw [← h1]
      show b_Digits_roundTo_47 5000 (nI c) X (nI n) (lp_ (b_Digits_roundTo_47 5000 (nI c) X (nI n)) m) _ = _
      generalize lp_ (b_Digits_roundTo_47 5000 (nI c) X (nI n)) m = rc
      rw [e_Digits_roundTo_47]
      refine ifn (nI_ge (by omega) (by omega)) (ifp (inB_n (by omega)) ?_)
      rw [nI_clamp (by omega), nar0, nI_1]
    · rw [h2 j]
      by_cases e : j = i
      · subst e
        rw [if_neg (by omega), pk_us, if_pos (by omega)]
      · rw [pk_un e]
        by_cases e2 : i + 1 ≤ j ∧ j < c
        · rw [if_pos e2, if_pos (by omega)]
        · rw [if_neg e2, if_neg (by omega)]
theorem vl_low0 {g : Nat → Nat} {c : Nat} : ∀ (n : Nat), (∀ i, i < n → g i = 0) → vl c g n = 0
  | 0, _ => rfl
  | n + 1, h => by
    show vl c g n + g n * c ^ n = 0
    rw [vl_low0 n (fun i hi => h i (by omega)), h n (by omega), Nat.zero_mul]
def hiD (N c i : Nat) : Nat := if i < c then 0 else N / 10 ^ i % 10
theorem vl_high {N c n : Nat} (hn : nd 10 N ≤ n) (hc : c ≤ n) : vl 10 (hiD N c) n = N / 10 ^ c * 10 ^ c := by
  obtain ⟨m, rfl⟩ : ∃ m, n = c + m := ⟨n - c, by omega⟩
  rw [vl_app, vl_low0 (g := hiD N c) c (fun i hi => if_pos hi), Nat.zero_add, Nat.mul_comm]
  congr 1
  rw [vl_congr (h := fun j => N / 10 ^ c / 10 ^ j % 10) (fun j hj => by
    show (if c + j < c then 0 else N / 10 ^ (c + j) % 10) = _
    rw [if_neg (by omega), Nat.pow_add, Nat.div_div_eq_div_mul])]
  have key : ∀ (m M : Nat), M < 10 ^ m → vl 10 (fun j => M / 10 ^ j % 10) m = M := by
    intro m
    induction m with
    | zero =>
      intro M hM
      rw [Nat.pow_zero] at hM
      show 0 = M
      omega
    | succ m ih =>
      intro M hM
      show vl 10 (fun j => M / 10 ^ j % 10) m + M / 10 ^ m % 10 * 10 ^ m = M
      have h1 := ih (M % 10 ^ m) (Nat.mod_lt _ (pw_pos (by omega) m))
      rw [vl_congr (h := fun j => M % 10 ^ m / 10 ^ j % 10) (fun j hj => by
        show M / 10 ^ j % 10 = M % 10 ^ m / 10 ^ j % 10
        have e : M = 10 ^ m * (M / 10 ^ m) + M % 10 ^ m := (Nat.div_add_mod M (10 ^ m)).symm
        have e2 : 10 ^ m * (M / 10 ^ m) = (10 * (10 ^ (m - j - 1) * (M / 10 ^ m))) * 10 ^ j := by
          rw [pw_split (b := 10) (i := j) (n := m) (by omega), show m - j = (m - j - 1) + 1 by omega, Nat.pow_succ, Nat.add_sub_cancel]
          simp only [Nat.mul_comm, Nat.mul_left_comm, Nat.mul_assoc]
        conv => lhs; rw [e, e2, Nat.add_comm, Nat.add_mul_div_right _ _ (pw_pos (by omega) j), Nat.add_mul_mod_self_left]), h1]
      have h2 : M / 10 ^ m < 10 := by
        rw [Nat.div_lt_iff_lt_mul (pw_pos (by omega) m), Nat.mul_comm, ← Nat.pow_succ]
        exact hM
      rw [Nat.mod_eq_of_lt h2]
      have := Nat.div_add_mod M (10 ^ m)
      rw [Nat.mul_comm] at this
      omega
  refine key m _ ?_
  rw [Nat.div_lt_iff_lt_mul (pw_pos (by omega) c), ← Nat.pow_add]
  have := nd_lt (b := 10) (by omega) N
  have h3 := pw_le (b := 10) (by omega) hn
  rw [Nat.add_comm] at h3
  omega
theorem dg_roundTo {f : Nat → Int32} {u : Int32} {N c : Nat} {x lo : Int32} (h : dgOK 10 f u N) (hN : nd 10 N < 208) (hx : x - lo = nI c) (hc : c < 2 ^ 31) : ∃ (u' : Int32) (f' : Nat → Int32), f_Digits_roundTo 5000 f u lo x = some (u', f') ∧ dgOK 10 f' u' (rnd N c) := by
  obtain ⟨rfl, h1, h2⟩ := id h
  unfold f_Digits_roundTo
  rw [hx]
  cases c with
  | zero => exact ⟨_, f, ifn (by decide) rfl, h⟩
  | succ c =>
    by_cases hl : c + 1 ≤ nd 10 N
    · have hcl : clOK 10 f (nd 10 N) (fun i => N / 10 ^ i % 10) := fun i hi => ⟨h2 i hi, Nat.mod_lt _ (by omega)⟩
      have hd := h2 c (by omega)
      rw [show nI (c + 1) - (1 : Int32) = nI c from nI_pred c, nI_clamp (by omega), hd]
      have hz := fun X => dg_zero (n := nd 10 N) (c := c + 1) hl h1 X (c + 1) 0 5000 f (by omega) (by omega)
      have hmod : N / 10 ^ c % 10 < 10 := Nat.mod_lt _ (by omega)
      have hH : N / 10 ^ (c + 1) = N / 10 ^ c / 10 := by rw [Nat.pow_succ, Nat.div_div_eq_div_mul]
      have hcl2 : ∀ f' : Nat → Int32, (∀ j, f' j = if 0 ≤ j ∧ j < c + 1 then nI 0 else f j) → clOK 10 f' (nd 10 N) (hiD N (c + 1)) := by
        intro f' e j hj
        rw [e j]
        unfold hiD
        by_cases hj2 : j < c + 1
        · exact ⟨by rw [if_pos ⟨Nat.zero_le _, hj2⟩, if_pos hj2], by rw [if_pos hj2]; omega⟩
        · exact ⟨by rw [if_neg (fun z => hj2 z.2), if_neg hj2]; exact h2 j hj, by rw [if_neg hj2]; exact Nat.mod_lt _ (by omega)⟩
      by_cases h5 : N / 10 ^ c % 10 < 5
      · obtain ⟨f', g1, g2⟩ := hz 0
        have t := dg_trim (b := 10) (by omega) (by omega) h1 (hcl2 f' g2)
        rw [vl_high (Nat.le_refl _) hl] at t
        have er : rnd N (c + 1) = N / 10 ^ (c + 1) * 10 ^ (c + 1) := by
          show (N / 10 ^ c + 5) / 10 * 10 ^ (c + 1) = _
          rw [hH]
          congr 1
          omega
        rw [← er] at t
        refine ⟨_, f', ?_, t.2⟩
        refine ifp (rlt 0 (by omega)) (ifp (nI_le hl (by omega)) (ifp (inB_n (by omega)) (ifp (qlt 5 h5) ?_)))
        unfold k_Digits_roundTo_43
        try dsimp only
        refine Eq.trans g1 (ifp rfl ?_)
        unfold k_Digits_roundTo_76
        try dsimp only
        exact bnd t.1 rfl
      · obtain ⟨f', g1, g2⟩ := hz 1
        obtain ⟨n', f2, g', q1, q2, q3, q4⟩ := dg_carry hN (nd 10 N - (c + 1)) (c + 1) 5000 f' _ (by omega) (by omega) (hcl2 f' g2)
        have t := dg_trim (b := 10) (by omega) (by omega) (by omega) q3
        rw [q4, vl_high (Nat.le_refl _) hl] at t
        have er : rnd N (c + 1) = N / 10 ^ (c + 1) * 10 ^ (c + 1) + 10 ^ (c + 1) := by
          show (N / 10 ^ c + 5) / 10 * 10 ^ (c + 1) = _
          rw [← Nat.succ_mul, hH]
          congr 1
          omega
        rw [← er] at t
        refine ⟨_, f2, ?_, t.2⟩
        refine ifp (rlt 0 (by omega)) (ifp (nI_le hl (by omega)) (ifp (inB_n (by omega)) (ifn (qnlt 5 (by omega)) ?_)))
        unfold k_Digits_roundTo_43
        try dsimp only
        refine Eq.trans g1 (ifn (by decide) (bnd q1 ?_))
        unfold k_Digits_roundTo_76
        try dsimp only
        exact bnd t.1 rfl
    · refine ⟨0, f, ifp (rlt 0 (by omega)) (ifn (nI_ge (by omega) (by omega)) rfl), ?_⟩
      rw [rnd_big (by omega)]
      exact ⟨by rw [nd_0]; rfl, by rw [nd_0]; omega, fun i hi => by rw [nd_0] at hi; omega⟩
theorem dg_roundTo_neg {f : Nat → Int32} {u x lo : Int32} (hx : ¬ 0 < x - lo) : f_Digits_roundTo 5000 f u lo x = some (u, f) := by
  unfold f_Digits_roundTo
  exact ifn hx rfl
def dat (b N : Nat) (lo e : Int) : Nat := if lo ≤ e then N / b ^ (e - lo).toNat % b else 0
theorem dat_lt {b N : Nat} {lo e : Int} (hb : 0 < b) : dat b N lo e < b := by
  unfold dat
  by_cases h : lo ≤ e
  · rw [if_pos h]
    exact Nat.mod_lt _ hb
  · rw [if_neg h]
    exact hb
theorem dg_at {b : Nat} (hb : 2 ≤ b) {f : Nat → Int32} {u : Int32} {N : Nat} {lo e : Int} (h : dgOK b f u N) (h1 : -100000 ≤ lo ∧ lo ≤ 100000) (h2 : -100000 ≤ e ∧ e ≤ 100000) : f_Digits_at f u (iI lo) (iI e) = some (nI (dat b N lo e)) := by
  obtain ⟨rfl, g1, g2⟩ := h
  unfold f_Digits_at dat
  rw [iI_sub]
  by_cases hle : lo ≤ e
  · rw [if_pos hle]
    obtain ⟨i, hi⟩ : ∃ i : Nat, e - lo = (i : Int) := ⟨(e - lo).toNat, by omega⟩
    rw [hi, iI_nat, Int.toNat_natCast]
    have hb2 : i < 2 ^ 31 := by omega
    refine ifn (nI_pos hb2) ?_
    by_cases hu : i < nd b N
    · refine ifn (nI_ge hu (by omega)) (ifn (rnle 208 (by omega)) (ifp (inB_n (by omega)) ?_))
      rw [nI_clamp hb2, g2 i hu]
    · refine ifp (nI_le (by omega) hb2) ?_
      rw [nd_div0 hb (by omega)]
      rw [Nat.zero_mod]
      rfl
  · rw [if_neg hle]
    exact ifp (ilt (e - lo) 0 (by omega)) rfl
def frs (b N : Nat) (lo : Int) : Int := if N = 0 then 0 else lo + (nd b N : Int) - 1
theorem dg_first {b : Nat} (hb : 2 ≤ b) {f : Nat → Int32} {u : Int32} {N : Nat} {lo : Int} (h : dgOK b f u N) : f_Digits_first u (iI lo) = some (iI (frs b N lo)) := by
  obtain ⟨rfl, g1, g2⟩ := h
  unfold f_Digits_first frs
  by_cases h0 : N = 0
  · rw [h0, nd_0, if_pos rfl]
    exact ifp rfl rfl
  · have := nd_pos hb h0
    rw [if_neg h0]
    refine ifn (qne 0 (by omega)) ?_
    rw [← iI_nat, iI_add, show (1 : Int32) = iI 1 from rfl, iI_sub]
theorem dg_isZero {b : Nat} (hb : 2 ≤ b) {f : Nat → Int32} {u : Int32} {N : Nat} (h : dgOK b f u N) : f_Digits_isZero u = some (if N = 0 then 1 else 0) := by
  obtain ⟨rfl, g1, g2⟩ := h
  unfold f_Digits_isZero
  by_cases h0 : N = 0
  · rw [h0, nd_0, if_pos rfl]
    exact ifp rfl rfl
  · have := nd_pos hb h0
    rw [if_neg h0]
    exact ifn (qne 0 (by omega)) rfl
theorem dg_last {f : Nat → Int32} {u : Int32} {N : Nat} {lo : Int} (h : dgOK 10 f u N) (h0 : N ≠ 0) : ∃ z : Nat, f_Digits_lastNotZero 5000 f u (iI lo) = some (iI (lo + z)) ∧ z < nd 10 N ∧ N / 10 ^ z % 10 ≠ 0 ∧ (∀ i, i < z → N / 10 ^ i % 10 = 0) := by
  obtain ⟨rfl, g1, g2⟩ := h
  have hp := nd_pos (b := 10) (by omega) h0
  have top : N / 10 ^ (nd 10 N - 1) % 10 ≠ 0 := by
    have a1 := nd_div1 (b := 10) (N := N) (n := nd 10 N - 1) (by omega) (by omega)
    have a2 : N / 10 ^ (nd 10 N - 1) < 10 := by
      rw [Nat.div_lt_iff_lt_mul (pw_pos (by omega) _), Nat.mul_comm, ← Nat.pow_succ, Nat.succ_eq_add_one, show nd 10 N - 1 + 1 = nd 10 N by omega]
      exact nd_lt (by omega) N
    generalize N / 10 ^ (nd 10 N - 1) = X at a1 a2 ⊢
    omega
  have key : ∀ (d i m : Nat), i + d = nd 10 N → 0 < d → d < m → (∀ j, j < i → N / 10 ^ j % 10 = 0) → ∃ z : Nat, lp_ (b_Digits_lastNotZero_2 f (nI (nd 10 N)) (iI lo)) m (nI i) = some (iI (lo + z)) ∧ z < nd 10 N ∧ N / 10 ^ z % 10 ≠ 0 ∧ (∀ i, i < z → N / 10 ^ i % 10 = 0) := by
    intro d
    induction d with
    | zero => intro i m _ h _ _; omega
    | succ d ih =>
      intro i m hi _ hm hz
      obtain ⟨m, rfl⟩ : ∃ j, m = j + 1 := ⟨m - 1, by omega⟩
      have hlt : N / 10 ^ i % 10 < 10 := Nat.mod_lt _ (by omega)
      by_cases h : N / 10 ^ i % 10 = 0
      · have hd : 0 < d := by
          by_cases hd : d = 0
          · subst hd
            rw [show nd 10 N - 1 = i by omega] at top
            exact absurd h top
          · omega
        obtain ⟨z, k1, k2⟩ := ih (i + 1) m (by omega) hd (by omega) (fun j hj => by
          by_cases e : j = i
          · subst e; exact h
          · exact hz j (by omega))
        refine ⟨z, ?_, k2⟩
        rw [← k1]
        show b_Digits_lastNotZero_2 f (nI (nd 10 N)) (iI lo) (lp_ (b_Digits_lastNotZero_2 f (nI (nd 10 N)) (iI lo)) m) _ = _
        generalize lp_ (b_Digits_lastNotZero_2 f (nI (nd 10 N)) (iI lo)) m = rc
        rw [e_Digits_lastNotZero_2]
        refine ifn (nI_ge (by omega) (by omega)) (ifp (inB_n (by omega)) ?_)
        rw [nI_clamp (by omega), g2 i (by omega), nI_1]
        exact ifp (qeq 0 h) rfl
      · refine ⟨i, ?_, by omega, h, hz⟩
        show b_Digits_lastNotZero_2 f (nI (nd 10 N)) (iI lo) (lp_ (b_Digits_lastNotZero_2 f (nI (nd 10 N)) (iI lo)) m) _ = _
        generalize lp_ (b_Digits_lastNotZero_2 f (nI (nd 10 N)) (iI lo)) m = rc
        rw [e_Digits_lastNotZero_2]
        refine ifn (nI_ge (by omega) (by omega)) (ifp (inB_n (by omega)) ?_)
        rw [nI_clamp (by omega), g2 i (by omega), ← iI_nat i, iI_add]
        exact ifn (qne 0 h) rfl
  exact key (nd 10 N) 0 5000 (by omega) hp (by omega) (fun j hj => by omega)
theorem dg_last0 {f : Nat → Int32} {u : Int32} {lo : Int32} (h : dgOK 10 f u 0) : f_Digits_lastNotZero 5000 f u lo = some 0 := by
  obtain ⟨rfl, g1, g2⟩ := h
  show b_Digits_lastNotZero_2 f _ lo (lp_ (b_Digits_lastNotZero_2 f _ lo) 4999) _ = _
  rw [e_Digits_lastNotZero_2]
  rw [nd_0]
  exact ifp (by decide) rfl
