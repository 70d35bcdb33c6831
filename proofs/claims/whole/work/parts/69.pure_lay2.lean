def layA (fl w p cv g Ru Rb : Int32) (Rc Hc Bc lim dc : Nat → Int32) (du dlo xe xd : Int32) (xm : Int64) (ws : Nat → Int64) (k : Nat) (mi : Int32) (bits : Int64) (lo : Int32) (lt : Option LT) : Option LY := match lt with
  | none => f_Composer_layArgumentn 5000 fl w p cv g 4000 Rc Ru Rb 4 Hc 1800 Bc lim dc du dlo xm xe xd ws k mi bits lo
  | some (_, _, nn, ff, uu, _) => f_Composer_layArgumentr 5000 fl w p cv g 4000 Rc Ru Rb 4 Hc 1800 Bc lim dc du dlo xm xe xd ws k mi bits lo nn ff uu
theorem finL_nil (bd : List Nat) (w : Nat) : finL [] bd false false w = bd := by
  unfold finL
  simp
theorem go_c : ∀ k, k < 8 → goB k 99 = true → k = 0 ∨ k = 2 ∨ k = 3 := by decide
theorem go_d : ∀ k, k < 8 → goB k 100 = true → k = 0 ∨ k = 3 ∨ k = 4 := by decide
theorem go_o : ∀ k, k < 8 → goB k 111 = true → k = 0 ∨ k = 3 ∨ k = 4 := by decide
theorem go_x : ∀ k, k < 8 → goB k 120 = true → k = 0 ∨ k = 3 ∨ k = 4 := by decide
theorem go_e : ∀ k, k < 8 → goB k 101 = true → k = 0 ∨ k = 5 ∨ k = 6 := by decide
theorem go_f : ∀ k, k < 8 → goB k 102 = true → k = 0 ∨ k = 5 ∨ k = 6 := by decide
theorem go_g : ∀ k, k < 8 → goB k 103 = true → k = 0 ∨ k = 5 ∨ k = 6 := by decide
theorem go_a : ∀ k, k < 8 → goB k 97 = true → k = 0 ∨ k = 6 := by decide
theorem shN_lt {V : Nat} (h : V < 2 ^ 64) : shN V < 2 ^ 64 := by
  unfold shN
  by_cases hp : 2 ^ 63 ≤ V
  · rw [if_pos hp]; omega
  · rw [if_neg hp]; omega
theorem sh_below {V : Nat} (h : V < 2 ^ 64) {N : Nat} (hN : N = shN V) : (decide (2 ^ 63 ≤ V) && (decide (3 = 6) || !decide (N = 0))) = decide (2 ^ 63 ≤ V) := by
  by_cases hp : 2 ^ 63 ≤ V
  · rw [decide_eq_true hp, decide_eq_false (show ¬ N = 0 by rw [hN]; unfold shN; rw [if_pos hp]; omega)]
    rfl
  · rw [decide_eq_false hp]
    rfl
theorem and_sub {fl a b : Int32} (h : fl &&& a = 0) (hb : a &&& b = b) : fl &&& b = 0 := by
  rw [← hb, ← Int32.and_assoc, h, Int32.zero_and]
theorem hA_f {fl x : Int32} (h : fl &&& x = 0) : hA fl x = false := by
  unfold hA
  rw [decide_eq_true h]
  rfl
theorem sgn_f {fl : Int32} (h : fl &&& 76 = 0) : sgn false fl = [] := by
  unfold sgn
  rw [if_neg (by decide), hA_f (and_sub (b := 4) h (by decide)), hA_f (and_sub (b := 8) h (by decide)), if_neg (by decide), if_neg (by decide)]
def LB (fl : Int32) (wz pz : Int) (great : Bool) (c s : Nat) (Ru Rb : Int32) (Rc : Nat → Int32) (oD : Option LY) (oM : Option MY) : Prop :=
  ∃ (hd bd : List Nat) (cl zf : Bool), dsk fl wz pz great (asT s) Ru Rb Rc oD hd bd cl zf ∧ mdl c pz s oM (finL hd bd cl zf wz.toNat) ∧ (asT s = true → hd = [] ∧ cl = false ∧ zf = false)
theorem arOK_un {q qw k a : Nat} {mi wd lo : Int32} {bits : Int64} {lt : Option LT} {ws : Nat → Int64} {KI WI BE S SC TX LE : Nat → Int32} {VAL PA : Nat → Int64} (h : arOK (q, qw, ws, k, mi, bits, wd, lo, lt) KI WI BE S SC TX LE VAL PA a) : k < 8 ∧ KI a = nI k ∧ ∃ mb : Bool, mi = bI mb ∧ BE a = bI mb ∧ (k ≠ 7 → lt = none) ∧ (k = 1 → ∃ is : Bool, ws 0 = lN (if is = true then 1 else 0) ∧ VAL a = lN (if is = true then 1 else 0)) ∧ (k = 2 → ∃ c : Nat, 1 ≤ c ∧ c ≤ 126 ∧ ws 0 = lN c ∧ VAL a = lN c) ∧ (k = 3 → ∃ V w : Nat, shOK V w ∧ VAL a = lN V ∧ WI a = nI w ∧ wd = nI w ∧ bits = lN (V % 2 ^ w) ∧ ws 0 = lN (shN V) ∧ (∀ i, 0 < i → i < 8 → ws i = 0) ∧ mb = decide (2 ^ 63 ≤ V) ∧ lo = 0) ∧ (k = 4 → lo = 0) ∧ ((k = 4 ∨ k = 5) → ∃ g, szOK S a g ∧ vl B16 g 32 = SZ ws) ∧ ((k = 5 ∨ k = 6) → ∃ l : Int, -400 ≤ l ∧ l ≤ 400 ∧ lo = iI l ∧ SC a = iI (-l)) ∧ (k = 6 → ∃ V d : Nat, V < 2 ^ 64 ∧ VAL a = lN V ∧ bits = lN V ∧ mb = decide (2 ^ 63 ≤ V) ∧ d < 10 ^ 17 ∧ PA a = lN d ∧ ws 0 = lN d ∧ ∀ i, 0 < i → i < 8 → ws i = 0) ∧ (k = 7 → ∃ (L : List Nat) (ql qc nn : Nat) (ff : Nat → Int32) (uu zz : Int32), lt = some (ql, qc, nn, ff, uu, zz) ∧ rowOK nn ff uu L ∧ L.length ≤ 400 ∧ LE a = nI L.length ∧ ∀ j, j < L.length → TX (400 * a + j) = nI (lk L j)) := h
theorem asT_f {s : Nat} (h1 : s ≠ 98) (h2 : s ≠ 115) : asT s = false := decide_eq_false (by omega)
theorem nd17 {d : Nat} (h : d < 10 ^ 17) : nd 10 d < 160 := by
  have := nd_le (b := 10) (n := 17) (by omega) h
  omega
theorem LB_t {fl : Int32} {wz pz : Int} {great : Bool} {c s : Nat} {Ru Rb : Int32} {Rc : Nat → Int32} {oD : Option LY} {oM : Option MY} {L : List Nat} (hz : hA fl 16 = false) (h1 : dsk fl wz pz great (asT s) Ru Rb Rc oD [] L false (hA fl 16)) (h2 : mdl c pz s oM L) : LB fl wz pz great c s Ru Rb Rc oD oM := by
  refine ⟨[], L, false, hA fl 16, h1, ?_, fun _ => ⟨rfl, rfl, hz⟩⟩
  rw [hz, finL_nil]
  exact h2
theorem LB_n {fl : Int32} {wz pz : Int} {great : Bool} {c s : Nat} {Ru Rb : Int32} {Rc : Nat → Int32} {oD : Option LY} {oM : Option MY} {hd bd : List Nat} {cl zf : Bool} (hs : asT s = false) (h1 : dsk fl wz pz great false Ru Rb Rc oD hd bd cl zf) (h2 : mdl c pz s oM (finL hd bd cl zf wz.toNat)) : LB fl wz pz great c s Ru Rb Rc oD oM := by
  refine ⟨hd, bd, cl, zf, ?_, h2, fun y => ?_⟩
  · rw [hs]; exact h1
  · rw [hs] at y; cases y
theorem lay_0 {a c : Nat} {lo : Int32} {bits : Int64} (ha : a < 12) (fl : Int32) (wz pz : Int) (great : Bool) (Ru Rb : Int32) (Rc Hc Bc lim dc : Nat → Int32) (du dlo xe xd : Int32) (xm : Int64) (ws : Nat → Int64) {KI WI BE S SC TX LE : Nat → Int32} {VAL PA : Nat → Int64} (P T W : Nat → Int32) (hd cn ex : Int32) {mb : Bool} (hw : -1 ≤ wz ∧ wz ≤ 999) (hpz : -1 ≤ pz ∧ pz ≤ 999) {s : Nat} (hs : s < 128) (g1 : KI a = nI 0) : LB fl wz pz great c s Ru Rb Rc (layA fl (iI wz) (iI pz) (nI s) (bI great) Ru Rb Rc Hc Bc lim dc du dlo xe xd xm ws 0 (bI mb) bits lo none) (f_Model_lay 5000 KI VAL WI BE S SC PA TX LE fl (iI wz) (iI pz) (nI c) P hd T cn ex W (nI a) (nI s)) := by
  refine ⟨[], _, false, false, de_nothing hs fl wz pz great Ru Rb Rc Hc Bc lim dc du dlo xe xd xm ws (bI mb) bits lo, ?_, fun _ => ⟨rfl, rfl, rfl⟩⟩
  rw [finL_nil]
  exact ml_0 hs ha KI WI BE S SC TX LE VAL PA fl wz pz c P T W hd cn ex g1
theorem lay_b {k a c : Nat} {lo : Int32} {bits : Int64} (ha : a < 12) (fl : Int32) (wz pz : Int) (great : Bool) (Ru Rb : Int32) (Rc Hc Bc lim dc : Nat → Int32) (du dlo xe xd : Int32) (xm : Int64) (ws : Nat → Int64) {KI WI BE S SC TX LE : Nat → Int32} {VAL PA : Nat → Int64} (P T W : Nat → Int32) (hd cn ex : Int32) {mb : Bool} (hw : -1 ≤ wz ∧ wz ≤ 999) (hpz : -1 ≤ pz ∧ pz ≤ 999) (hk0 : k ≠ 0) (g0 : k < 8) (g1 : KI a = nI k) (z : hA fl 16 = false) (g5 : k = 1 → ∃ is : Bool, ws 0 = lN (if is = true then 1 else 0) ∧ VAL a = lN (if is = true then 1 else 0)) : LB fl wz pz great c 98 Ru Rb Rc (layA fl (iI wz) (iI pz) (nI 98) (bI great) Ru Rb Rc Hc Bc lim dc du dlo xe xd xm ws k (bI mb) bits lo none) (f_Model_lay 5000 KI VAL WI BE S SC PA TX LE fl (iI wz) (iI pz) (nI c) P hd T cn ex W (nI a) (nI 98)) := by
  obtain ⟨B, hB, rfl⟩ := wb_of bits
  obtain ⟨is, i1, i2⟩ : ∃ is : Bool, (k = 1 → ws 0 = lN (if is = true then 1 else 0)) ∧ (k = 1 → VAL a = lN (if is = true then 1 else 0)) := by
    by_cases h1 : k = 1
    · obtain ⟨is, i1, i2⟩ := g5 h1
      exact ⟨is, fun _ => i1, fun _ => i2⟩
    · exact ⟨true, fun y => absurd y h1, fun y => absurd y h1⟩
  exact LB_t z (de_b hk0 hB fl wz pz great Ru Rb Rc Hc Bc lim dc du dlo xe xd xm ws (bI mb) lo i1) (ml_b ha hk0 g0 KI WI BE S SC TX LE VAL PA fl wz pz c P T W hd cn ex g1 i2)
theorem lay_7b {a c : Nat} {lo : Int32} {bits : Int64} (ha : a < 12) (fl : Int32) (wz pz : Int) (great : Bool) (Ru Rb : Int32) (Rc Hc Bc lim dc : Nat → Int32) (du dlo xe xd : Int32) (xm : Int64) (ws : Nat → Int64) {KI WI BE S SC TX LE : Nat → Int32} {VAL PA : Nat → Int64} (P T W : Nat → Int32) (hd cn ex : Int32) {mb : Bool} (hw : -1 ≤ wz ∧ wz ≤ 999) (hpz : -1 ≤ pz ∧ pz ≤ 999) (g1 : KI a = nI 7) (z : hA fl 16 = false) {ql qc nn : Nat} {ff : Nat → Int32} {uu zz : Int32} : LB fl wz pz great c 98 Ru Rb Rc (layA fl (iI wz) (iI pz) (nI 98) (bI great) Ru Rb Rc Hc Bc lim dc du dlo xe xd xm ws 7 (bI mb) bits lo (some (ql, qc, nn, ff, uu, zz))) (f_Model_lay 5000 KI VAL WI BE S SC PA TX LE fl (iI wz) (iI pz) (nI c) P hd T cn ex W (nI a) (nI 98)) := by
  obtain ⟨B, hB, rfl⟩ := wb_of bits
  exact LB_t z (de_7b fl wz pz great Ru Rb Rc Hc Bc lim dc du dlo xe xd xm ws hB (bI mb) lo uu nn ff) (ml_b (k := 7) (is := true) ha (by omega) (by omega) KI WI BE S SC TX LE VAL PA fl wz pz c P T W hd cn ex g1 (fun y => absurd y (by decide)))
theorem lay_7s {a c : Nat} {lo : Int32} {bits : Int64} (ha : a < 12) (fl : Int32) (wz pz : Int) (great : Bool) (Ru Rb : Int32) (Rc Hc Bc lim dc : Nat → Int32) (du dlo xe xd : Int32) (xm : Int64) (ws : Nat → Int64) {KI WI BE S SC TX LE : Nat → Int32} {VAL PA : Nat → Int64} (P T W : Nat → Int32) (hd cn ex : Int32) {mb : Bool} (hw : -1 ≤ wz ∧ wz ≤ 999) (hpz : -1 ≤ pz ∧ pz ≤ 999) (g1 : KI a = nI 7) (z : hA fl 16 = false) {ql qc nn : Nat} {ff : Nat → Int32} {uu zz : Int32} {L : List Nat} (q2 : rowOK nn ff uu L) (q3 : L.length ≤ 400) (q4 : LE a = nI L.length) (q5 : ∀ j, j < L.length → TX (400 * a + j) = nI (lk L j)) : LB fl wz pz great c 115 Ru Rb Rc (layA fl (iI wz) (iI pz) (nI 115) (bI great) Ru Rb Rc Hc Bc lim dc du dlo xe xd xm ws 7 (bI mb) bits lo (some (ql, qc, nn, ff, uu, zz))) (f_Model_lay 5000 KI VAL WI BE S SC PA TX LE fl (iI wz) (iI pz) (nI c) P hd T cn ex W (nI a) (nI 115)) := by
  obtain ⟨B, hB, rfl⟩ := wb_of bits
  exact LB_t z (de_7s fl wz pz great Ru Rb Rc Hc Bc lim dc du dlo xe xd xm ws hB (bI mb) lo uu nn ff q2 q3) (ml_s ha (by omega) (by omega) KI WI BE S SC TX LE VAL PA fl wz pz c P T W hd cn ex g1 (mt_text ha KI BE S SC TX LE VAL PA P T W cn ex g1 q3 q4 q5))
theorem lay_1s {a c : Nat} {lo : Int32} {bits : Int64} (ha : a < 12) (fl : Int32) (wz pz : Int) (great : Bool) (Ru Rb : Int32) (Rc Hc Bc lim dc : Nat → Int32) (du dlo xe xd : Int32) (xm : Int64) (ws : Nat → Int64) {KI WI BE S SC TX LE : Nat → Int32} {VAL PA : Nat → Int64} (P T W : Nat → Int32) (hd cn ex : Int32) {mb : Bool} (hw : -1 ≤ wz ∧ wz ≤ 999) (hpz : -1 ≤ pz ∧ pz ≤ 999) (g1 : KI a = nI 1) (z : hA fl 16 = false) {is : Bool} (i1 : ws 0 = lN (if is = true then 1 else 0)) (i2 : VAL a = lN (if is = true then 1 else 0)) : LB fl wz pz great c 115 Ru Rb Rc (layA fl (iI wz) (iI pz) (nI 115) (bI great) Ru Rb Rc Hc Bc lim dc du dlo xe xd xm ws 1 (bI mb) bits lo none) (f_Model_lay 5000 KI VAL WI BE S SC PA TX LE fl (iI wz) (iI pz) (nI c) P hd T cn ex W (nI a) (nI 115)) := by
  obtain ⟨B, hB, rfl⟩ := wb_of bits
  exact LB_t z (de_s (by omega) hB fl wz pz great Ru Rb Rc Hc Bc lim dc du dlo xe xd xm ws (bI mb) lo (st_truth is lim dc Bc du dlo (bI mb) lo (lN B) i1)) (ml_s ha (by omega) (by omega) KI WI BE S SC TX LE VAL PA fl wz pz c P T W hd cn ex g1 (mt_truth ha KI BE S SC TX LE VAL PA P T W cn ex g1 i2))
theorem lay_2s {a c : Nat} {lo : Int32} {bits : Int64} (ha : a < 12) (fl : Int32) (wz pz : Int) (great : Bool) (Ru Rb : Int32) (Rc Hc Bc lim dc : Nat → Int32) (du dlo xe xd : Int32) (xm : Int64) (ws : Nat → Int64) {KI WI BE S SC TX LE : Nat → Int32} {VAL PA : Nat → Int64} (P T W : Nat → Int32) (hd cn ex : Int32) {mb : Bool} (hw : -1 ≤ wz ∧ wz ≤ 999) (hpz : -1 ≤ pz ∧ pz ≤ 999) (g1 : KI a = nI 2) (z : hA fl 16 = false) {d : Nat} (d2 : d < 128) (d3 : ws 0 = lN d) (d4 : VAL a = lN d) : LB fl wz pz great c 115 Ru Rb Rc (layA fl (iI wz) (iI pz) (nI 115) (bI great) Ru Rb Rc Hc Bc lim dc du dlo xe xd xm ws 2 (bI mb) bits lo none) (f_Model_lay 5000 KI VAL WI BE S SC PA TX LE fl (iI wz) (iI pz) (nI c) P hd T cn ex W (nI a) (nI 115)) := by
  obtain ⟨B, hB, rfl⟩ := wb_of bits
  exact LB_t z (de_s (by omega) hB fl wz pz great Ru Rb Rc Hc Bc lim dc du dlo xe xd xm ws (bI mb) lo (st_char d2 lim dc Bc du dlo (bI mb) lo (lN B) d3)) (ml_s ha (by omega) (by omega) KI WI BE S SC TX LE VAL PA fl wz pz c P T W hd cn ex g1 (mt_char ha KI BE S SC TX LE VAL PA P T W cn ex g1 d4))
theorem below3 {ws : Nat → Int64} {V : Nat} {mb : Bool} (v1 : V < 2 ^ 64) (v6 : ws 0 = lN (shN V)) (v7 : ∀ i, 0 < i → i < 8 → ws i = 0) (v8 : mb = decide (2 ^ 63 ≤ V)) : f_Argument_isBelowZero 5000 ws 3 (bI mb) = some (bI mb) := by
  have hbD := ar_below ws 3 mb
  have hsz := sz_one (shN_lt v1) v6 v7
  rw [hbD, v8, sh_below v1 hsz]
theorem lay_3s {a c : Nat} {bits : Int64} (ha : a < 12) (fl : Int32) (wz pz : Int) (great : Bool) (Ru Rb : Int32) (Rc Hc Bc lim dc : Nat → Int32) (du dlo xe xd : Int32) (xm : Int64) (ws : Nat → Int64) {KI WI BE S SC TX LE : Nat → Int32} {VAL PA : Nat → Int64} (P T W : Nat → Int32) (hd cn ex : Int32) {mb : Bool} (hw : -1 ≤ wz ∧ wz ≤ 999) (hpz : -1 ≤ pz ∧ pz ≤ 999) (g1 : KI a = nI 3) (g3 : BE a = bI mb) (z : hA fl 16 = false) {V : Nat} (v1 : V < 2 ^ 64) (v2 : VAL a = lN V) (v6 : ws 0 = lN (shN V)) (v7 : ∀ i, 0 < i → i < 8 → ws i = 0) (v8 : mb = decide (2 ^ 63 ≤ V)) : LB fl wz pz great c 115 Ru Rb Rc (layA fl (iI wz) (iI pz) (nI 115) (bI great) Ru Rb Rc Hc Bc lim dc du dlo xe xd xm ws 3 (bI mb) bits 0 none) (f_Model_lay 5000 KI VAL WI BE S SC PA TX LE fl (iI wz) (iI pz) (nI c) P hd T cn ex W (nI a) (nI 115)) := by
  obtain ⟨B, hB, rfl⟩ := wb_of bits
  have hsz := sz_one (shN_lt v1) v6 v7
  have m := mt_whole (k := 3) (g := fun _ => 0) (N := SZ ws) (below := mb) ha (Or.inl rfl) KI BE S SC TX LE VAL PA P T W cn ex g1 g3 (fun y => absurd y (by decide)) (fun _ => ⟨v1, v2⟩) (by rw [if_pos rfl, hsz]) (by rw [decide_eq_true (rfl : 3 = 3), Bool.true_or, Bool.and_true])
  exact LB_t z (de_s (by omega) hB fl wz pz great Ru Rb Rc Hc Bc lim dc du dlo xe xd xm ws (bI mb) 0 (st_whole (Or.inl rfl) lim dc Bc du dlo (lN B) (below3 v1 v6 v7 v8))) (ml_s ha (by omega) (by omega) KI WI BE S SC TX LE VAL PA fl wz pz c P T W hd cn ex g1 m)
theorem bel4 (mb b : Bool) : (mb && (decide (4 = 6) || b)) = (mb && (decide (4 = 3) || b)) := rfl
theorem lay_4s {a c : Nat} {bits : Int64} (ha : a < 12) (fl : Int32) (wz pz : Int) (great : Bool) (Ru Rb : Int32) (Rc Hc Bc lim dc : Nat → Int32) (du dlo xe xd : Int32) (xm : Int64) (ws : Nat → Int64) {KI WI BE S SC TX LE : Nat → Int32} {VAL PA : Nat → Int64} (P T W : Nat → Int32) (hd cn ex : Int32) {mb : Bool} (hw : -1 ≤ wz ∧ wz ≤ 999) (hpz : -1 ≤ pz ∧ pz ≤ 999) (g1 : KI a = nI 4) (g3 : BE a = bI mb) (z : hA fl 16 = false) {g : Nat → Nat} (s1 : szOK S a g) (s2 : vl B16 g 32 = SZ ws) : LB fl wz pz great c 115 Ru Rb Rc (layA fl (iI wz) (iI pz) (nI 115) (bI great) Ru Rb Rc Hc Bc lim dc du dlo xe xd xm ws 4 (bI mb) bits 0 none) (f_Model_lay 5000 KI VAL WI BE S SC PA TX LE fl (iI wz) (iI pz) (nI c) P hd T cn ex W (nI a) (nI 115)) := by
  obtain ⟨B, hB, rfl⟩ := wb_of bits
  have m := mt_whole (k := 4) (g := g) (V := 0) (N := SZ ws) (below := mb && (decide (4 = 6) || !decide (SZ ws = 0))) ha (Or.inr rfl) KI BE S SC TX LE VAL PA P T W cn ex g1 g3 (fun _ => s1) (fun y => absurd y (by decide)) (by rw [if_neg (by decide), s2]) (by rw [s2]; exact bel4 _ _)
  exact LB_t z (de_s (by omega) hB fl wz pz great Ru Rb Rc Hc Bc lim dc du dlo xe xd xm ws (bI mb) 0 (st_whole (Or.inr rfl) lim dc Bc du dlo (lN B) (ar_below ws 4 mb))) (ml_s ha (by omega) (by omega) KI WI BE S SC TX LE VAL PA fl wz pz c P T W hd cn ex g1 m)
theorem lay_5s {a c : Nat} {bits : Int64} (ha : a < 12) (fl : Int32) (wz pz : Int) (great : Bool) (Ru Rb : Int32) (Rc Hc Bc lim dc : Nat → Int32) (du dlo xe xd : Int32) (xm : Int64) (ws : Nat → Int64) {KI WI BE S SC TX LE : Nat → Int32} {VAL PA : Nat → Int64} (P T W : Nat → Int32) (hd cn ex : Int32) {mb : Bool} (hw : -1 ≤ wz ∧ wz ≤ 999) (hpz : -1 ≤ pz ∧ pz ≤ 999) (g1 : KI a = nI 5) (g3 : BE a = bI mb) (z : hA fl 16 = false) {g : Nat → Nat} (s1 : szOK S a g) (s2 : vl B16 g 32 = SZ ws) {l : Int} (l1 : -400 ≤ l) (l2 : l ≤ 400) (l4 : SC a = iI (-l)) : LB fl wz pz great c 115 Ru Rb Rc (layA fl (iI wz) (iI pz) (nI 115) (bI great) Ru Rb Rc Hc Bc lim dc du dlo xe xd xm ws 5 (bI mb) bits (iI l) none) (f_Model_lay 5000 KI VAL WI BE S SC PA TX LE fl (iI wz) (iI pz) (nI c) P hd T cn ex W (nI a) (nI 115)) := by
  obtain ⟨B, hB, rfl⟩ := wb_of bits
  have hbM := mo_isBelow (KI := KI) (S := S) (k := 5) ha (by omega) g1 g3 (fun _ => s1)
  rw [s2] at hbM
  have m := mt_dec ha KI BE S SC TX LE VAL PA P T W cn ex g1 ⟨l1, l2, l4⟩ s1 (by rw [s2]; exact nd_sz ws) hbM
  rw [s2] at m
  exact LB_t z (de_s (by omega) hB fl wz pz great Ru Rb Rc Hc Bc lim dc du dlo xe xd xm ws (bI mb) (iI l) (st_dec ⟨l1, l2⟩ lim dc Bc du dlo (lN B) (ar_below ws 5 mb))) (ml_s ha (by omega) (by omega) KI WI BE S SC TX LE VAL PA fl wz pz c P T W hd cn ex g1 m)
theorem lay_6s {a c : Nat} (ha : a < 12) (fl : Int32) (wz pz : Int) (great : Bool) (Ru Rb : Int32) (Rc Hc Bc lim dc : Nat → Int32) (du dlo xe xd : Int32) (xm : Int64) (ws : Nat → Int64) {KI WI BE S SC TX LE : Nat → Int32} {VAL PA : Nat → Int64} (P T W : Nat → Int32) (hd cn ex : Int32) {mb : Bool} (hw : -1 ≤ wz ∧ wz ≤ 999) (hpz : -1 ≤ pz ∧ pz ≤ 999) (g1 : KI a = nI 6) (g3 : BE a = bI mb) (z : hA fl 16 = false) {V d : Nat} (v1 : V < 2 ^ 64) (v2 : VAL a = lN V) (v5 : d < 10 ^ 17) (v6 : PA a = lN d) (v7 : ws 0 = lN d) (v8 : ∀ i, 0 < i → i < 8 → ws i = 0) {l : Int} (l1 : -400 ≤ l) (l2 : l ≤ 400) (l4 : SC a = iI (-l)) : LB fl wz pz great c 115 Ru Rb Rc (layA fl (iI wz) (iI pz) (nI 115) (bI great) Ru Rb Rc Hc Bc lim dc du dlo xe xd xm ws 6 (bI mb) (lN V) (iI l) none) (f_Model_lay 5000 KI VAL WI BE S SC PA TX LE fl (iI wz) (iI pz) (nI c) P hd T cn ex W (nI a) (nI 115)) := by
  have hsz := sz_one (show d < 2 ^ 64 by omega) v7 v8
  obtain ⟨y, r, y1, y2, y3⟩ := st_fr ⟨l1, l2⟩ v1 lim dc Bc du dlo ws mb
  rw [hsz] at y1 y3
  exact LB_t z (de_s (by omega) v1 fl wz pz great Ru Rb Rc Hc Bc lim dc du dlo xe xd xm ws (bI mb) (iI l) ⟨r, y2, y3⟩) (ml_s ha (by omega) (by omega) KI WI BE S SC TX LE VAL PA fl wz pz c P T W hd cn ex g1 (mt_fr ha KI BE S SC TX LE VAL PA P T W cn ex g1 ⟨l1, l2, l4⟩ v1 v2 v5 v6 g3 y1))
theorem lay_c {k a c : Nat} {lo : Int32} {bits : Int64} (ha : a < 12) (fl : Int32) (wz pz : Int) (great : Bool) (Ru Rb : Int32) (Rc Hc Bc lim dc : Nat → Int32) (du dlo xe xd : Int32) (xm : Int64) (ws : Nat → Int64) {KI WI BE S SC TX LE : Nat → Int32} {VAL PA : Nat → Int64} (P T W : Nat → Int32) (hd cn ex : Int32) {mb : Bool} (hw : -1 ≤ wz ∧ wz ≤ 999) (hpz : -1 ≤ pz ∧ pz ≤ 999) (hk0 : k ≠ 0) (hk6 : k ≠ 6) (g0 : k < 8) (g1 : KI a = nI k) (z : hA fl 16 = false) {d : Nat} (d1 : d < 128) (d2 : ws 0 = lN d) (d3 : VAL a = lN d) : LB fl wz pz great c 99 Ru Rb Rc (layA fl (iI wz) (iI pz) (nI 99) (bI great) Ru Rb Rc Hc Bc lim dc du dlo xe xd xm ws k (bI mb) bits lo none) (f_Model_lay 5000 KI VAL WI BE S SC PA TX LE fl (iI wz) (iI pz) (nI c) P hd T cn ex W (nI a) (nI 99)) := by
  obtain ⟨B, hB, rfl⟩ := wb_of bits
  refine LB_n rfl (de_c hk0 hk6 hB d1 fl wz pz great Ru Rb Rc Hc Bc lim dc du dlo xe xd xm ws (bI mb) lo d2) ?_
  rw [z, finL_nil]
  exact ml_c ha hk0 g0 KI WI BE S SC TX LE VAL PA fl wz pz c P T W hd cn ex g1 d3
theorem lay_3d {a c : Nat} {bits : Int64} (ha : a < 12) (fl : Int32) (wz pz : Int) (great : Bool) (Ru Rb : Int32) (Rc Hc Bc lim dc : Nat → Int32) (du dlo xe xd : Int32) (xm : Int64) (ws : Nat → Int64) {KI WI BE S SC TX LE : Nat → Int32} {VAL PA : Nat → Int64} (P T W : Nat → Int32) (hd cn ex : Int32) {mb : Bool} (hw : -1 ≤ wz ∧ wz ≤ 999) (hpz : -1 ≤ pz ∧ pz ≤ 999) (g1 : KI a = nI 3) (g3 : BE a = bI mb) {V : Nat} (v1 : V < 2 ^ 64) (v2 : VAL a = lN V) (v6 : ws 0 = lN (shN V)) (v7 : ∀ i, 0 < i → i < 8 → ws i = 0) (v8 : mb = decide (2 ^ 63 ≤ V)) : LB fl wz pz great c 100 Ru Rb Rc (layA fl (iI wz) (iI pz) (nI 100) (bI great) Ru Rb Rc Hc Bc lim dc du dlo xe xd xm ws 3 (bI mb) bits 0 none) (f_Model_lay 5000 KI VAL WI BE S SC PA TX LE fl (iI wz) (iI pz) (nI c) P hd T cn ex W (nI a) (nI 100)) := by
  obtain ⟨B, hB, rfl⟩ := wb_of bits
  have hsz := sz_one (shN_lt v1) v6 v7
  have m := mo_whole_d (KI := KI) (WI := WI) (S := S) (VAL := VAL) (fl := fl) (wz := wz) (k := 3) (g := fun _ => 0) (V := V) (N := SZ ws) (below := mb) ha (Or.inl rfl) g1 g3 (fun y => absurd y (by decide)) (fun _ => ⟨v1, v2⟩) ⟨hw.1, by omega⟩ P T W 0 hd cn (by rw [if_pos rfl, hsz]) (by rw [decide_eq_true (rfl : 3 = 3), Bool.true_or, Bool.and_true])
  exact LB_n rfl (de_d (by omega) (by omega) hB fl wz pz great Ru Rb Rc Hc Bc lim dc du dlo xe xd xm ws (below3 v1 v6 v7 v8)) (ml_w ha (by omega) (by omega) (Or.inl rfl) KI WI BE S SC TX LE VAL PA fl wz pz c P T W hd cn ex g1 m)
theorem lay_3x {a c : Nat} (ha : a < 12) (fl : Int32) (wz pz : Int) (great : Bool) (Ru Rb : Int32) (Rc Hc Bc lim dc : Nat → Int32) (du dlo xe xd : Int32) (xm : Int64) (ws : Nat → Int64) {KI WI BE S SC TX LE : Nat → Int32} {VAL PA : Nat → Int64} (P T W : Nat → Int32) (hd cn ex : Int32) {mb : Bool} (hw : -1 ≤ wz ∧ wz ≤ 999) (hpz : -1 ≤ pz ∧ pz ≤ 999) (g1 : KI a = nI 3) (g3 : BE a = bI mb) {s b V w : Nat} (hbs : (b = 8 ∧ s = 111) ∨ (b = 16 ∧ s = 120)) (h76 : fl &&& 76 = 0) (v1 : shOK V w) (v2 : VAL a = lN V) (v3 : WI a = nI w) : LB fl wz pz great c s Ru Rb Rc (layA fl (iI wz) (iI pz) (nI s) (bI great) Ru Rb Rc Hc Bc lim dc du dlo xe xd xm ws 3 (bI mb) (lN (V % 2 ^ w)) 0 none) (f_Model_lay 5000 KI VAL WI BE S SC PA TX LE fl (iI wz) (iI pz) (nI c) P hd T cn ex W (nI a) (nI s)) := by
  have hVw : V % 2 ^ w < 2 ^ 64 := Nat.lt_of_le_of_lt (Nat.mod_le _ _) v1.1
  have m := mo_whole_b (KI := KI) (WI := WI) (S := S) (VAL := VAL) (fl := fl) (wz := wz) (k := 3) (g := fun _ => 0) (N := V % 2 ^ w) (below := false) ha (Or.inl rfl) hbs g1 g3 (fun y => absurd y (by decide)) (fun _ => ⟨v1, v2, v3⟩) ⟨hw.1, by omega⟩ P T W 0 hd cn (by rw [if_pos rfl]) rfl
  rw [sgn_f h76, List.nil_append] at m
  exact LB_n (asT_f (by omega) (by omega)) (de_ox3 hbs hVw fl wz pz great Ru Rb Rc Hc Bc lim dc du dlo xe xd xm ws (bI mb) 0) (ml_w ha (by omega) (by omega) (by omega) KI WI BE S SC TX LE VAL PA fl wz pz c P T W hd cn ex g1 m)
theorem lay_4d {a c : Nat} {bits : Int64} (ha : a < 12) (fl : Int32) (wz pz : Int) (great : Bool) (Ru Rb : Int32) (Rc Hc Bc lim dc : Nat → Int32) (du dlo xe xd : Int32) (xm : Int64) (ws : Nat → Int64) {KI WI BE S SC TX LE : Nat → Int32} {VAL PA : Nat → Int64} (P T W : Nat → Int32) (hd cn ex : Int32) {mb : Bool} (hw : -1 ≤ wz ∧ wz ≤ 999) (hpz : -1 ≤ pz ∧ pz ≤ 999) (g1 : KI a = nI 4) (g3 : BE a = bI mb) {g : Nat → Nat} (s1 : szOK S a g) (s2 : vl B16 g 32 = SZ ws) : LB fl wz pz great c 100 Ru Rb Rc (layA fl (iI wz) (iI pz) (nI 100) (bI great) Ru Rb Rc Hc Bc lim dc du dlo xe xd xm ws 4 (bI mb) bits 0 none) (f_Model_lay 5000 KI VAL WI BE S SC PA TX LE fl (iI wz) (iI pz) (nI c) P hd T cn ex W (nI a) (nI 100)) := by
  obtain ⟨B, hB, rfl⟩ := wb_of bits
  have m := mo_whole_d (KI := KI) (WI := WI) (S := S) (VAL := VAL) (fl := fl) (wz := wz) (k := 4) (g := g) (V := 0) (N := SZ ws) (below := mb && (decide (4 = 6) || !decide (SZ ws = 0))) ha (Or.inr rfl) g1 g3 (fun _ => s1) (fun y => absurd y (by decide)) ⟨hw.1, by omega⟩ P T W 0 hd cn (by rw [if_neg (by decide), s2]) (by rw [s2]; exact bel4 _ _)
  exact LB_n rfl (de_d (by omega) (by omega) hB fl wz pz great Ru Rb Rc Hc Bc lim dc du dlo xe xd xm ws (ar_below ws 4 mb)) (ml_w ha (by omega) (by omega) (Or.inl rfl) KI WI BE S SC TX LE VAL PA fl wz pz c P T W hd cn ex g1 m)
theorem bel5 (mb b : Bool) : (mb && (decide (4 = 6) || b)) = (decide (4 = 4) && (mb && b)) := rfl
theorem lay_4x {a c : Nat} {bits : Int64} (ha : a < 12) (fl : Int32) (wz pz : Int) (great : Bool) (Ru Rb : Int32) (Rc Hc Bc lim dc : Nat → Int32) (du dlo xe xd : Int32) (xm : Int64) (ws : Nat → Int64) {KI WI BE S SC TX LE : Nat → Int32} {VAL PA : Nat → Int64} (P T W : Nat → Int32) (hd cn ex : Int32) {mb : Bool} (hw : -1 ≤ wz ∧ wz ≤ 999) (hpz : -1 ≤ pz ∧ pz ≤ 999) (g1 : KI a = nI 4) (g3 : BE a = bI mb) {s b : Nat} (hbs : (b = 8 ∧ s = 111) ∨ (b = 16 ∧ s = 120)) {g : Nat → Nat} (s1 : szOK S a g) (s2 : vl B16 g 32 = SZ ws) : LB fl wz pz great c s Ru Rb Rc (layA fl (iI wz) (iI pz) (nI s) (bI great) Ru Rb Rc Hc Bc lim dc du dlo xe xd xm ws 4 (bI mb) bits 0 none) (f_Model_lay 5000 KI VAL WI BE S SC PA TX LE fl (iI wz) (iI pz) (nI c) P hd T cn ex W (nI a) (nI s)) := by
  obtain ⟨B, hB, rfl⟩ := wb_of bits
  have m := mo_whole_b (KI := KI) (WI := WI) (S := S) (VAL := VAL) (fl := fl) (wz := wz) (k := 4) (g := g) (V := 0) (wd := 0) (N := SZ ws) (below := mb && (decide (4 = 6) || !decide (SZ ws = 0))) ha (Or.inr rfl) hbs g1 g3 (fun _ => s1) (fun y => absurd y (by decide)) ⟨hw.1, by omega⟩ P T W 0 hd cn (by rw [if_neg (by decide), s2]) (by rw [s2]; exact bel5 _ _)
  exact LB_n (asT_f (by omega) (by omega)) (de_ox4 hbs rfl hB fl wz pz great Ru Rb Rc Hc Bc lim dc du dlo xe xd xm ws (ar_below ws 4 mb)) (ml_w ha (by omega) (by omega) (by omega) KI WI BE S SC TX LE VAL PA fl wz pz c P T W hd cn ex g1 m)
theorem lay_5f {a c : Nat} {bits : Int64} (ha : a < 12) (fl : Int32) (wz pz : Int) (great : Bool) (Ru Rb : Int32) (Rc Hc Bc lim dc : Nat → Int32) (du dlo xe xd : Int32) (xm : Int64) (ws : Nat → Int64) {KI WI BE S SC TX LE : Nat → Int32} {VAL PA : Nat → Int64} (P T W : Nat → Int32) (hd cn ex : Int32) {mb : Bool} (hw : -1 ≤ wz ∧ wz ≤ 999) (hpz : -1 ≤ pz ∧ pz ≤ 999) (g1 : KI a = nI 5) (g3 : BE a = bI mb) {s : Nat} (hs3 : s = 101 ∨ s = 102 ∨ s = 103) {g : Nat → Nat} (s1 : szOK S a g) (s2 : vl B16 g 32 = SZ ws) {l : Int} (l1 : -400 ≤ l) (l2 : l ≤ 400) (l4 : SC a = iI (-l)) : LB fl wz pz great c s Ru Rb Rc (layA fl (iI wz) (iI pz) (nI s) (bI great) Ru Rb Rc Hc Bc lim dc du dlo xe xd xm ws 5 (bI mb) bits (iI l) none) (f_Model_lay 5000 KI VAL WI BE S SC PA TX LE fl (iI wz) (iI pz) (nI c) P hd T cn ex W (nI a) (nI s)) := by
  obtain ⟨B, hB, rfl⟩ := wb_of bits
  have hbM := mo_isBelow (KI := KI) (S := S) (k := 5) ha (by omega) g1 g3 (fun _ => s1)
  rw [s2] at hbM
  have hlast := mo_isLast (KI := KI) (VAL := VAL) (k := 5) (V := 0) ha (by omega) g1 (fun y => absurd y (by omega))
  have m := mo_floating (KI := KI) (S := S) (SC := SC) (PA := PA) (fl := fl) (wz := wz) (pz := pz) (k := 5) (s := s) (g := g) (d := 0) (N := SZ ws) ha (Or.inl rfl) hs3 g1 ⟨l1, l2, l4⟩ g3 (fun _ => s1) (fun y => absurd y (by omega)) (by rw [if_pos rfl, s2]) (nd_sz ws) ⟨hw.1, by omega⟩ hpz P T W hd cn ex hbM rfl
  exact LB_n (asT_f (by omega) (by omega)) (de_efg hs3 (by omega) hB (by omega) fl wz pz great Ru Rb Rc Hc Bc lim dc du dlo xe xd xm ws (ar_below ws 5 mb) ⟨l1, l2⟩ hpz) (ml_f ha (by omega) (by omega) hs3 KI WI BE S SC TX LE VAL PA fl wz pz c P T W hd cn ex g1 hlast m)
theorem below6 (ws : Nat → Int64) (mb : Bool) : f_Argument_isBelowZero 5000 ws 6 (bI mb) = some (bI mb) := by
  rw [ar_below, decide_eq_true (rfl : 6 = 6), Bool.true_or, Bool.and_true]
theorem lay_6l {a c : Nat} {lo : Int32} (ha : a < 12) (fl : Int32) (wz pz : Int) (great : Bool) (Ru Rb : Int32) (Rc Hc Bc lim dc : Nat → Int32) (du dlo xe xd : Int32) (xm : Int64) (ws : Nat → Int64) {KI WI BE S SC TX LE : Nat → Int32} {VAL PA : Nat → Int64} (P T W : Nat → Int32) (hd cn ex : Int32) {mb : Bool} (hw : -1 ≤ wz ∧ wz ≤ 999) (hpz : -1 ≤ pz ∧ pz ≤ 999) (g1 : KI a = nI 6) (g3 : BE a = bI mb) {s V : Nat} (hef : s = 97 ∨ s = 101 ∨ s = 102 ∨ s = 103) (v1 : V < 2 ^ 64) (v2 : VAL a = lN V) (hbe : V / 2 ^ 52 % 2048 = 2047) : LB fl wz pz great c s Ru Rb Rc (layA fl (iI wz) (iI pz) (nI s) (bI great) Ru Rb Rc Hc Bc lim dc du dlo xe xd xm ws 6 (bI mb) (lN V) lo none) (f_Model_lay 5000 KI VAL WI BE S SC PA TX LE fl (iI wz) (iI pz) (nI c) P hd T cn ex W (nI a) (nI s)) := by
  have hnt : asT s = false := asT_f (by omega) (by omega)
  have m := ml_l ha hef KI WI BE S SC TX LE VAL PA fl wz pz c P T W hd cn ex g1 v1 v2 hbe g3 ⟨hw.1, by omega⟩
  by_cases h2 : V % 2 ^ 52 = 0
  · rw [if_pos h2] at m
    exact LB_n hnt (de_inf (by omega) hnt v1 hbe h2 fl wz pz great Ru Rb Rc Hc Bc lim dc du dlo xe xd xm ws mb lo) m
  · rw [if_neg h2] at m
    refine LB_n hnt (de_nan (by omega) hnt v1 hbe h2 fl wz pz great Ru Rb Rc Hc Bc lim dc du dlo xe xd xm ws (bI mb) lo) ?_
    rw [finL_nil]
    exact m
theorem lay_6a {a c : Nat} {lo : Int32} (ha : a < 12) (fl : Int32) (wz pz : Int) (great : Bool) (Ru Rb : Int32) (Rc Hc Bc lim dc : Nat → Int32) (du dlo xe xd : Int32) (xm : Int64) (ws : Nat → Int64) {KI WI BE S SC TX LE : Nat → Int32} {VAL PA : Nat → Int64} (P T W : Nat → Int32) (hd cn ex : Int32) {mb : Bool} (hw : -1 ≤ wz ∧ wz ≤ 999) (hpz : -1 ≤ pz ∧ pz ≤ 999) (g1 : KI a = nI 6) (g3 : BE a = bI mb) {V : Nat} (v1 : V < 2 ^ 64) (v2 : VAL a = lN V) (hbe : ¬ V / 2 ^ 52 % 2048 = 2047) : LB fl wz pz great c 97 Ru Rb Rc (layA fl (iI wz) (iI pz) (nI 97) (bI great) Ru Rb Rc Hc Bc lim dc du dlo xe xd xm ws 6 (bI mb) (lN V) lo none) (f_Model_lay 5000 KI VAL WI BE S SC PA TX LE fl (iI wz) (iI pz) (nI c) P hd T cn ex W (nI a) (nI 97)) := by
  have hlast := mo_isLast (KI := KI) (VAL := VAL) (k := 6) (V := V) ha (by omega) g1 (fun _ => ⟨v1, v2⟩)
  rw [decide_eq_false hbe] at hlast
  obtain ⟨ld, F, F', n, x, x', h1, h2, h3⟩ := de_a v1 hbe fl wz pz great Ru Rb Rc Hc Bc lim dc du dlo xe xd xm ws ⟨hpz.1, by omega⟩ (lo := lo) (below6 ws mb)
  exact LB_n rfl h3 (ml_a ha KI WI BE S SC TX LE VAL PA fl wz pz c P T W hd cn ex g1 hlast (mo_hex v1 v2 ha g3 ⟨hw.1, by omega⟩ ⟨hpz.1, by omega⟩ P hd h1 h2))
theorem lay_6f {a c : Nat} (ha : a < 12) (fl : Int32) (wz pz : Int) (great : Bool) (Ru Rb : Int32) (Rc Hc Bc lim dc : Nat → Int32) (du dlo xe xd : Int32) (xm : Int64) (ws : Nat → Int64) {KI WI BE S SC TX LE : Nat → Int32} {VAL PA : Nat → Int64} (P T W : Nat → Int32) (hd cn ex : Int32) {mb : Bool} (hw : -1 ≤ wz ∧ wz ≤ 999) (hpz : -1 ≤ pz ∧ pz ≤ 999) (g1 : KI a = nI 6) (g3 : BE a = bI mb) {s V d : Nat} (hs3 : s = 101 ∨ s = 102 ∨ s = 103) (v1 : V < 2 ^ 64) (v2 : VAL a = lN V) (hbe : ¬ V / 2 ^ 52 % 2048 = 2047) (v5 : d < 10 ^ 17) (v6 : PA a = lN d) (v7 : ws 0 = lN d) (v8 : ∀ i, 0 < i → i < 8 → ws i = 0) {l : Int} (l1 : -400 ≤ l) (l2 : l ≤ 400) (l4 : SC a = iI (-l)) : LB fl wz pz great c s Ru Rb Rc (layA fl (iI wz) (iI pz) (nI s) (bI great) Ru Rb Rc Hc Bc lim dc du dlo xe xd xm ws 6 (bI mb) (lN V) (iI l) none) (f_Model_lay 5000 KI VAL WI BE S SC PA TX LE fl (iI wz) (iI pz) (nI c) P hd T cn ex W (nI a) (nI s)) := by
  have hlast := mo_isLast (KI := KI) (VAL := VAL) (k := 6) (V := V) ha (by omega) g1 (fun _ => ⟨v1, v2⟩)
  rw [decide_eq_false hbe] at hlast
  have hsz := sz_one (show d < 2 ^ 64 by omega) v7 v8
  have hbM := mo_isBelow (S := S) (k := 6) ha (by omega) g1 g3 (g := fun _ => 0) (fun y => absurd rfl y)
  rw [decide_eq_true (rfl : 6 = 6), Bool.true_or, Bool.and_true] at hbM
  have m := mo_floating (KI := KI) (S := S) (SC := SC) (PA := PA) (fl := fl) (wz := wz) (pz := pz) (k := 6) (s := s) (g := fun _ => 0) (d := d) (N := d) ha (Or.inr rfl) hs3 g1 ⟨l1, l2, l4⟩ g3 (fun y => absurd y (by omega)) (fun _ => ⟨by omega, v6⟩) (by rw [if_neg (by omega)]) (nd17 v5) ⟨hw.1, by omega⟩ hpz P T W hd cn ex hbM rfl
  have e := de_efg (lo := l) (mi := bI mb) (below := mb) hs3 (k := 6) (by omega) v1 (fun y => hbe y.2) fl wz pz great Ru Rb Rc Hc Bc lim dc du dlo xe xd xm ws (below6 ws mb) ⟨l1, l2⟩ hpz
  rw [hsz] at e
  exact LB_n (asT_f (by omega) (by omega)) e (ml_f ha (by omega) (by omega) hs3 KI WI BE S SC TX LE VAL PA fl wz pz c P T W hd cn ex g1 hlast m)
theorem k12345 {k : Nat} (h0 : k ≠ 0) (h8 : k < 8) : k = 1 ∨ k = 2 ∨ k = 3 ∨ k = 4 ∨ k = 5 ∨ k = 6 ∨ k = 7 := by omega
theorem cv_rest {s : Nat} (hs : s < 128) (hcv : cvB s = true) (h1 : s ≠ 98) (h2 : s ≠ 115) : s = 99 ∨ s = 100 ∨ (∃ b, (b = 8 ∧ s = 111) ∨ (b = 16 ∧ s = 120)) ∨ (s = 97 ∨ s = 101 ∨ s = 102 ∨ s = 103) := by
  rcases cv_list s hs hcv with h | h | h | h | h | h | h | h | h | h
  · exact absurd h h1
  · exact absurd h h2
  · exact Or.inl h
  · exact Or.inr (Or.inl h)
  · exact Or.inr (Or.inr (Or.inl ⟨8, Or.inl ⟨rfl, h⟩⟩))
  · exact Or.inr (Or.inr (Or.inl ⟨16, Or.inr ⟨rfl, h⟩⟩))
  · exact Or.inr (Or.inr (Or.inr (Or.inr (Or.inl h))))
  · exact Or.inr (Or.inr (Or.inr (Or.inr (Or.inr (Or.inl h)))))
  · exact Or.inr (Or.inr (Or.inr (Or.inr (Or.inr (Or.inr h)))))
  · exact Or.inr (Or.inr (Or.inr (Or.inl h)))
theorem go_ox {k s b : Nat} (hk : k < 8) (hbs : (b = 8 ∧ s = 111) ∨ (b = 16 ∧ s = 120)) (hg : goB k s = true) : (k = 0 ∨ k = 3 ∨ k = 4) ∧ (s = 111 ∨ s = 120) := by
  rcases hbs with ⟨_, rfl⟩ | ⟨_, rfl⟩
  · exact ⟨go_o k hk hg, Or.inl rfl⟩
  · exact ⟨go_x k hk hg, Or.inr rfl⟩
theorem go_efga {k s : Nat} (hk : k < 8) (hef : s = 97 ∨ s = 101 ∨ s = 102 ∨ s = 103) (hg : goB k s = true) : k = 0 ∨ (k = 5 ∧ (s = 101 ∨ s = 102 ∨ s = 103)) ∨ k = 6 := by
  rcases hef with rfl | rfl | rfl | rfl
  · rcases go_a k hk hg with h | h
    · exact Or.inl h
    · exact Or.inr (Or.inr h)
  · rcases go_e k hk hg with h | h | h
    · exact Or.inl h
    · exact Or.inr (Or.inl ⟨h, Or.inl rfl⟩)
    · exact Or.inr (Or.inr h)
  · rcases go_f k hk hg with h | h | h
    · exact Or.inl h
    · exact Or.inr (Or.inl ⟨h, Or.inr (Or.inl rfl)⟩)
    · exact Or.inr (Or.inr h)
  · rcases go_g k hk hg with h | h | h
    · exact Or.inl h
    · exact Or.inr (Or.inl ⟨h, Or.inr (Or.inr rfl)⟩)
    · exact Or.inr (Or.inr h)
theorem shN_s {V : Nat} (h : V ≤ 126) : shN V = V := by
  unfold shN
  rw [if_neg (by omega)]
theorem lay_both {q qw k s a c : Nat} {mi wd lo : Int32} {bits : Int64} {lt : Option LT} (ha : a < 12) (fl : Int32) (wz pz : Int) (great : Bool) (Ru Rb : Int32) (Rc Hc Bc lim dc : Nat → Int32) (du dlo xe xd : Int32) (xm : Int64) (ws : Nat → Int64) {KI WI BE S SC TX LE : Nat → Int32} {VAL PA : Nat → Int64} (P T W : Nat → Int32) (hd cn ex : Int32) (h : arOK (q, qw, ws, k, mi, bits, wd, lo, lt) KI WI BE S SC TX LE VAL PA a) (hs : s < 128) (hcv : cvB s = true) (hg : goB k s = true) (hc9 : ∀ V : Nat, k = 3 → s = 99 → VAL a = lN V → V < 2 ^ 64 → 1 ≤ V ∧ V ≤ 126) (hox : k = 3 → s = 111 ∨ s = 120 → fl &&& 76 = 0) (h16 : s = 98 ∨ s = 115 ∨ s = 99 → hA fl 16 = false) (hw : -1 ≤ wz ∧ wz ≤ 999) (hpz : -1 ≤ pz ∧ pz ≤ 999) :
    LB fl wz pz great c s Ru Rb Rc (layA fl (iI wz) (iI pz) (nI s) (bI great) Ru Rb Rc Hc Bc lim dc du dlo xe xd xm ws k mi bits lo lt) (f_Model_lay 5000 KI VAL WI BE S SC PA TX LE fl (iI wz) (iI pz) (nI c) P hd T cn ex W (nI a) (nI s)) := by
  obtain ⟨g0, g1, mb, g2, g3, g4, g5, g6, g7, g8, g9, g10, g11, g12⟩ := arOK_un h
  clear h
  subst g2
  by_cases hk0 : k = 0
  · subst hk0
    have hl := g4 (by decide)
    subst hl
    exact lay_0 ha fl wz pz great Ru Rb Rc Hc Bc lim dc du dlo xe xd xm ws P T W hd cn ex hw hpz hs g1
  by_cases hb : s = 98
  · subst hb
    have z := h16 (Or.inl rfl)
    by_cases h7 : k = 7
    · obtain ⟨L, ql, qc, nn, ff, uu, zz, q1, q2, q3, q4, q5⟩ := g12 h7
      subst q1 h7
      exact lay_7b ha fl wz pz great Ru Rb Rc Hc Bc lim dc du dlo xe xd xm ws P T W hd cn ex hw hpz g1 z
    · have hl := g4 h7
      subst hl
      exact lay_b ha fl wz pz great Ru Rb Rc Hc Bc lim dc du dlo xe xd xm ws P T W hd cn ex hw hpz hk0 g0 g1 z g5
  by_cases hss : s = 115
  · subst hss
    have z := h16 (Or.inr (Or.inl rfl))
    rcases k12345 hk0 g0 with rfl | rfl | rfl | rfl | rfl | rfl | rfl
    · have hl := g4 (by decide)
      subst hl
      obtain ⟨is, i1, i2⟩ := g5 rfl
      exact lay_1s ha fl wz pz great Ru Rb Rc Hc Bc lim dc du dlo xe xd xm ws P T W hd cn ex hw hpz g1 z i1 i2
    · have hl := g4 (by decide)
      subst hl
      obtain ⟨d, d1, d2, d3, d4⟩ := g6 rfl
      exact lay_2s ha fl wz pz great Ru Rb Rc Hc Bc lim dc du dlo xe xd xm ws P T W hd cn ex hw hpz g1 z (Nat.lt_of_le_of_lt d2 (by decide)) d3 d4
    · have hl := g4 (by decide)
      subst hl
      obtain ⟨V, w, v1, v2, v3, v4, v5, v6, v7, v8, v9⟩ := g7 rfl
      subst v9
      exact lay_3s ha fl wz pz great Ru Rb Rc Hc Bc lim dc du dlo xe xd xm ws P T W hd cn ex hw hpz g1 g3 z v1.1 v2 v6 v7 v8
    · have hl := g4 (by decide)
      subst hl
      have hlo := g8 rfl
      subst hlo
      obtain ⟨g, s1, s2⟩ := g9 (Or.inl rfl)
      exact lay_4s ha fl wz pz great Ru Rb Rc Hc Bc lim dc du dlo xe xd xm ws P T W hd cn ex hw hpz g1 g3 z s1 s2
    · have hl := g4 (by decide)
      subst hl
      obtain ⟨l, l1, l2, l3, l4⟩ := g10 (Or.inl rfl)
      subst l3
      obtain ⟨g, s1, s2⟩ := g9 (Or.inr rfl)
      exact lay_5s ha fl wz pz great Ru Rb Rc Hc Bc lim dc du dlo xe xd xm ws P T W hd cn ex hw hpz g1 g3 z s1 s2 l1 l2 l4
    · have hl := g4 (by decide)
      subst hl
      obtain ⟨l, l1, l2, l3, l4⟩ := g10 (Or.inr rfl)
      subst l3
      obtain ⟨V, d, v1, v2, v3, v4, v5, v6, v7, v8⟩ := g11 rfl
      subst v3
      exact lay_6s ha fl wz pz great Ru Rb Rc Hc Bc lim dc du dlo xe xd xm ws P T W hd cn ex hw hpz g1 g3 z v1 v2 v5 v6 v7 v8 l1 l2 l4
    · obtain ⟨L, ql, qc, nn, ff, uu, zz, q1, q2, q3, q4, q5⟩ := g12 rfl
      subst q1
      exact lay_7s ha fl wz pz great Ru Rb Rc Hc Bc lim dc du dlo xe xd xm ws P T W hd cn ex hw hpz g1 z q2 q3 q4 q5
  have hl : lt = none := g4 (fun y => by
    subst y
    rcases cv_list s hs hcv with rfl | rfl | rfl | rfl | rfl | rfl | rfl | rfl | rfl | rfl <;> first | exact absurd rfl hb | exact absurd rfl hss | exact absurd hg (by decide))
  subst hl
  rcases cv_rest hs hcv hb hss with h9 | h1 | ⟨b, hbs⟩ | hef
  · subst h9
    have z := h16 (Or.inr (Or.inr rfl))
    rcases go_c k g0 hg with h0 | h2 | h3
    · exact absurd h0 hk0
    · obtain ⟨d, d1, d2, d3, d4⟩ := g6 h2
      exact lay_c ha fl wz pz great Ru Rb Rc Hc Bc lim dc du dlo xe xd xm ws P T W hd cn ex hw hpz hk0 (by rw [h2]; decide) g0 g1 z (Nat.lt_of_le_of_lt d2 (by decide)) d3 d4
    · obtain ⟨V, w, v1, v2, v3, v4, v5, v6, v7, v8, v9⟩ := g7 h3
      have hv := hc9 V h3 rfl v2 v1.1
      rw [shN_s hv.2] at v6
      exact lay_c ha fl wz pz great Ru Rb Rc Hc Bc lim dc du dlo xe xd xm ws P T W hd cn ex hw hpz hk0 (by rw [h3]; decide) g0 g1 z (Nat.lt_of_le_of_lt hv.2 (by decide)) v6 v2
  · subst h1
    rcases go_d k g0 hg with h0 | h3 | h4
    · exact absurd h0 hk0
    · subst h3
      obtain ⟨V, w, v1, v2, v3, v4, v5, v6, v7, v8, v9⟩ := g7 rfl
      subst v9
      exact lay_3d ha fl wz pz great Ru Rb Rc Hc Bc lim dc du dlo xe xd xm ws P T W hd cn ex hw hpz g1 g3 v1.1 v2 v6 v7 v8
    · subst h4
      have hlo := g8 rfl
      subst hlo
      obtain ⟨g, s1, s2⟩ := g9 (Or.inl rfl)
      exact lay_4d ha fl wz pz great Ru Rb Rc Hc Bc lim dc du dlo xe xd xm ws P T W hd cn ex hw hpz g1 g3 s1 s2
  · obtain ⟨hk, hs2⟩ := go_ox g0 hbs hg
    rcases hk with h0 | h3 | h4
    · exact absurd h0 hk0
    · subst h3
      obtain ⟨V, w, v1, v2, v3, v4, v5, v6, v7, v8, v9⟩ := g7 rfl
      subst v9 v5
      exact lay_3x ha fl wz pz great Ru Rb Rc Hc Bc lim dc du dlo xe xd xm ws P T W hd cn ex hw hpz g1 g3 hbs (hox rfl hs2) v1 v2 v3
    · subst h4
      have hlo := g8 rfl
      subst hlo
      obtain ⟨g, s1, s2⟩ := g9 (Or.inl rfl)
      exact lay_4x ha fl wz pz great Ru Rb Rc Hc Bc lim dc du dlo xe xd xm ws P T W hd cn ex hw hpz g1 g3 hbs s1 s2
  · rcases go_efga g0 hef hg with h0 | ⟨h5, hs3⟩ | h6
    · exact absurd h0 hk0
    · subst h5
      obtain ⟨l, l1, l2, l3, l4⟩ := g10 (Or.inl rfl)
      subst l3
      obtain ⟨g, s1, s2⟩ := g9 (Or.inr rfl)
      exact lay_5f ha fl wz pz great Ru Rb Rc Hc Bc lim dc du dlo xe xd xm ws P T W hd cn ex hw hpz g1 g3 hs3 s1 s2 l1 l2 l4
    · subst h6
      obtain ⟨l, l1, l2, l3, l4⟩ := g10 (Or.inr rfl)
      subst l3
      obtain ⟨V, d, v1, v2, v3, v4, v5, v6, v7, v8⟩ := g11 rfl
      subst v3
      by_cases hbe : V / 2 ^ 52 % 2048 = 2047
      · exact lay_6l ha fl wz pz great Ru Rb Rc Hc Bc lim dc du dlo xe xd xm ws P T W hd cn ex hw hpz g1 g3 hef v1 v2 hbe
      · rcases hef with h97 | hs3
        · subst h97
          exact lay_6a ha fl wz pz great Ru Rb Rc Hc Bc lim dc du dlo xe xd xm ws P T W hd cn ex hw hpz g1 g3 v1 v2 hbe
        · exact lay_6f ha fl wz pz great Ru Rb Rc Hc Bc lim dc du dlo xe xd xm ws P T W hd cn ex hw hpz g1 g3 hs3 v1 v2 hbe v5 v6 v7 v8 l1 l2 l4
