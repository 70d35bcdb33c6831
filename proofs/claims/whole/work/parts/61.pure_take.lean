theorem ar_fillL {n : Nat} (hn : n < 4000) (x : Int64) : ∀ (d i m : Nat) (f : Nat → Int64), i + d = n → d < m → ∃ f' : Nat → Int64, lp_ (b_Arrays_fill_6 n x (nI n)) m (nI i, f) = some f' ∧ ∀ j, (i ≤ j → j < n → f' j = x) ∧ (j < i → f' j = f j) := by
  intro d
  induction d with
  | zero =>
    intro i m f hi hm
    obtain ⟨m, rfl⟩ : ∃ j, m = j + 1 := ⟨m - 1, by omega⟩
    refine ⟨f, ?_, fun j => ⟨fun h1 h2 => by omega, fun _ => rfl⟩⟩
    show b_Arrays_fill_6 n x (nI n) (lp_ (b_Arrays_fill_6 n x (nI n)) m) _ = _
    rw [e_Arrays_fill_6]
    exact ifp (nI_le (by omega) (by omega)) rfl
  | succ d ih =>
    intro i m f hi hm
    obtain ⟨m, rfl⟩ : ∃ j, m = j + 1 := ⟨m - 1, by omega⟩
    obtain ⟨f', h1, h2⟩ := ih (i + 1) m (vp_updL f i x) (by omega) (by omega)
    refine ⟨f', ?_, fun j => ⟨fun g1 g2 => ?_, fun g1 => ?_⟩⟩
    · rw [← h1]
      show b_Arrays_fill_6 n x (nI n) (lp_ (b_Arrays_fill_6 n x (nI n)) m) _ = _
      generalize lp_ (b_Arrays_fill_6 n x (nI n)) m = rc
      rw [e_Arrays_fill_6]
      refine ifn (nI_ge (by omega) (by omega)) (ifp (inB_n (by omega)) ?_)
      rw [nI_clamp (by omega), nI_1]
    · by_cases e : j = i
      · subst e
        rw [(h2 j).2 (by omega), pk_uLs]
      · exact (h2 j).1 (by omega) g2
    · rw [(h2 j).2 (by omega), pk_uLn (by omega)]
theorem ar_become (ws : Nat → Int64) (kd : Nat) (m : Int32) (v : Int64) : ∃ ws', f_Argument_become 5000 ws kd m v = some (kd, m, 0, 0, 0, none, ws') ∧ ws' 0 = v ∧ ∀ i, 0 < i → i < 8 → ws' i = 0 := by
  obtain ⟨f', h1, h2⟩ := ar_fillL (n := 8) (by omega) 0 8 0 5000 ws (by omega) (by omega)
  refine ⟨vp_updL f' 0 v, ?_, pk_uLs, fun i h0 h8 => ?_⟩
  · unfold f_Argument_become
    exact bnd h1 (ifp (by decide) rfl)
  · rw [pk_uLn (by omega)]
    exact (h2 i).1 (by omega) h8
theorem de_take {ARGS : Nat → Option Nat} {n q : Nat} (hn : n < 12) (hq : ARGS n = some q) (ws : Nat → Int64) (kd : Nat) (m : Int32) (v : Int64) : ∃ ws', f_Desk_takeArgumenty 5000 ARGS (nI n) q ws kd m v = some (nI (n + 1), kd, m, 0, 0, 0, none, ws') ∧ ws' 0 = v ∧ ∀ i, 0 < i → i < 8 → ws' i = 0 := by
  obtain ⟨ws', h1, h2, h3⟩ := ar_become ws kd m v
  refine ⟨ws', ?_, h2, h3⟩
  unfold f_Desk_takeArgumenty
  rw [nI_clamp (by omega), show nI n + (1 : Int32) = nI (n + 1) from nI_1 n]
  exact ifn (nI_pos (by omega)) (ifp (nI_lt hn (by omega)) (ifp (inB_n hn) (ifp hq (bnd h1 rfl))))
theorem de_taken : f_Desk_takeArgumentn (nI 12) = some () := by
  unfold f_Desk_takeArgumentn
  exact ifn (by decide) (ifn (by decide) rfl)
theorem narZ (b : Bool) : vp_nar .boolean (bI b) = bI b := by cases b <;> decide +kernel
theorem mo_arg {n : Nat} (hn : n < 12) (KI BE S : Nat → Int32) (VAL : Nat → Int64) (kd : Int32) (v : Int64) (mb : Bool) : ∃ S', f_Model_argument 5000 (nI n) KI VAL BE S kd v (bI mb) = some (nI (n + 1), nI (n + 1), upd KI n kd, vp_updL VAL n v, upd BE n (bI mb), S') ∧ ∀ j, S' j = if 32 * n ≤ j ∧ j < 32 * n + 32 then 0 else S j := by
  have run : ∀ (d i m : Nat) (T : Nat → Int32), i + d = 32 → d < m → (∀ j, T j = if 32 * n ≤ j ∧ j < 32 * n + i then 0 else S j) → ∃ S', lp_ (b_Model_argument_45 (nI n) (upd KI n kd) (vp_updL VAL n v) (upd BE n (bI mb))) m (nI i, T) = some (nI (n + 1), nI (n + 1), upd KI n kd, vp_updL VAL n v, upd BE n (bI mb), S') ∧ ∀ j, S' j = if 32 * n ≤ j ∧ j < 32 * n + 32 then 0 else S j := by
    intro d
    induction d with
    | zero =>
      intro i m T hi hm h
      obtain ⟨m, rfl⟩ : ∃ j, m = j + 1 := ⟨m - 1, by omega⟩
      refine ⟨T, ?_, fun j => by rw [h j, show i = 32 by omega]⟩
      show b_Model_argument_45 (nI n) (upd KI n kd) (vp_updL VAL n v) (upd BE n (bI mb)) (lp_ (b_Model_argument_45 (nI n) (upd KI n kd) (vp_updL VAL n v) (upd BE n (bI mb))) m) _ = _
      rw [e_Model_argument_45]
      rw [show nI n + (1 : Int32) = nI (n + 1) from nI_1 n]
      exact ifp (rle 32 (by omega)) rfl
    | succ d ih =>
      intro i m T hi hm h
      obtain ⟨m, rfl⟩ : ∃ j, m = j + 1 := ⟨m - 1, by omega⟩
      obtain ⟨S', z1, z2⟩ := ih (i + 1) m (upd T (32 * n + i) 0) (by omega) (by omega) (fun j => by
        by_cases e : j = 32 * n + i
        · subst e
          rw [pk_us, if_pos (by omega)]
        · rw [pk_un e, h j]
          by_cases e2 : 32 * n ≤ j ∧ j < 32 * n + i
          · rw [if_pos e2, if_pos (by omega)]
          · rw [if_neg e2, if_neg (by omega)])
      refine ⟨S', ?_, z2⟩
      rw [← z1]
      show b_Model_argument_45 (nI n) (upd KI n kd) (vp_updL VAL n v) (upd BE n (bI mb)) (lp_ (b_Model_argument_45 (nI n) (upd KI n kd) (vp_updL VAL n v) (upd BE n (bI mb))) m) _ = _
      generalize lp_ (b_Model_argument_45 (nI n) (upd KI n kd) (vp_updL VAL n v) (upd BE n (bI mb))) m = rc
      rw [e_Model_argument_45]
      rw [show (32 : Int32) * nI n + nI i = nI (32 * n + i) from by rw [show (32 : Int32) * nI n = nI (32 * n) from pk_mul 32 n, nI_add], nI_1 i]
      refine ifn (rnle 32 (by omega)) (ifp (inB_n (by omega)) ?_)
      rw [nI_clamp (by omega)]
  obtain ⟨S', z1, z2⟩ := run 32 0 5000 S (by omega) (by omega) (fun j => by rw [if_neg (by omega)])
  refine ⟨S', ?_, z2⟩
  unfold f_Model_argument
  rw [nI_clamp (by omega), narZ]
  exact ifn (qne 12 (by omega)) (ifp (inB_n hn) (ifp (inB_n hn) (ifp (inB_n hn) z1)))
theorem mo_argn (KI BE S : Nat → Int32) (VAL : Nat → Int64) (kd : Int32) (v : Int64) (x : Int32) : f_Model_argument 5000 (nI 12) KI VAL BE S kd v x = some (-1, nI 12, KI, VAL, BE, S) := by
  unfold f_Model_argument
  exact ifp rfl rfl
def agOK (n : Nat) (ARGS : Nat → Option Nat) (ar : Nat → AR) (KI WI BE S SC TX LE : Nat → Int32) (VAL PA : Nat → Int64) : Prop := n ≤ 12 ∧ (∀ i, i < 12 → ARGS i = some (ar i).1) ∧ (∀ i, i < 12 → (ar i).2.2.2.1 < 8) ∧ ∀ i, i < n → arOK (ar i) KI WI BE S SC TX LE VAL PA i
theorem arOK_frame {A : AR} {KI WI BE S SC TX LE KI' WI' BE' S' SC' TX' LE' : Nat → Int32} {VAL PA VAL' PA' : Nat → Int64} {a : Nat} (h : arOK A KI WI BE S SC TX LE VAL PA a) (h1 : KI' a = KI a) (h2 : WI' a = WI a) (h3 : BE' a = BE a) (h4 : SC' a = SC a) (h5 : LE' a = LE a) (h6 : VAL' a = VAL a) (h7 : PA' a = PA a) (h8 : ∀ k, k < 32 → S' (32 * a + k) = S (32 * a + k)) (h9 : ∀ j, j < 400 → TX' (400 * a + j) = TX (400 * a + j)) : arOK A KI' WI' BE' S' SC' TX' LE' VAL' PA' a := by
  obtain ⟨g0, g1, mb, g2, g3, g4, g5, g6, g7, g8, g9, g10, g11, g12⟩ := h
  refine ⟨g0, by rw [h1]; exact g1, mb, g2, by rw [h3]; exact g3, g4, by rw [h6]; exact g5, by rw [h6]; exact g6, by rw [h6, h2]; exact g7, g8, fun hk => ?_, by rw [h4]; exact g10, by rw [h6, h7]; exact g11, fun hk => ?_⟩
  · obtain ⟨g, q1, q2⟩ := g9 hk
    exact ⟨g, fun k hk => by rw [h8 k hk]; exact q1 k hk, q2⟩
  · obtain ⟨L, ql, qc, nn, ff, uu, zz, q1, q2, q3, q4, q5⟩ := g12 hk
    exact ⟨L, ql, qc, nn, ff, uu, zz, q1, q2, q3, by rw [h5]; exact q4, fun j hj => by rw [h9 j (by omega)]; exact q5 j hj⟩
theorem ag_push {n : Nat} {ARGS : Nat → Option Nat} {ar : Nat → AR} {KI WI BE S SC TX LE KI' WI' BE' S' SC' TX' LE' : Nat → Int32} {VAL PA VAL' PA' : Nat → Int64} (h : agOK n ARGS ar KI WI BE S SC TX LE VAL PA) (hn : n < 12) {A : AR} (hA : A.1 = (ar n).1) (hk : A.2.2.2.1 < 8) (hnew : arOK A KI' WI' BE' S' SC' TX' LE' VAL' PA' n) (h1 : ∀ a, a < n → KI' a = KI a) (h2 : ∀ a, a < n → WI' a = WI a) (h3 : ∀ a, a < n → BE' a = BE a) (h4 : ∀ a, a < n → SC' a = SC a) (h5 : ∀ a, a < n → LE' a = LE a) (h6 : ∀ a, a < n → VAL' a = VAL a) (h7 : ∀ a, a < n → PA' a = PA a) (h8 : ∀ j, j < 32 * n → S' j = S j) (h9 : ∀ j, j < 400 * n → TX' j = TX j) : agOK (n + 1) ARGS (va_up ar n A) KI' WI' BE' S' SC' TX' LE' VAL' PA' := by
  obtain ⟨g1, g2, g3, g4⟩ := h
  refine ⟨by omega, fun i hi => ?_, fun i hi => ?_, fun i hi => ?_⟩
  · by_cases e : i = n
    · subst e
      rw [va_up_self, hA]
      exact g2 i hi
    · rw [va_up_ne _ _ e]
      exact g2 i hi
  · by_cases e : i = n
    · subst e
      rw [va_up_self]
      exact hk
    · rw [va_up_ne _ _ e]
      exact g3 i hi
  · by_cases e : i = n
    · subst e
      rw [va_up_self]
      exact hnew
    · rw [va_up_ne _ _ e]
      have hlt : i < n := by omega
      exact arOK_frame (g4 i hlt) (h1 i hlt) (h2 i hlt) (h3 i hlt) (h4 i hlt) (h5 i hlt) (h6 i hlt) (h7 i hlt) (fun k hk => h8 _ (by omega)) (fun j hj => h9 _ (by omega))
theorem updN {f : Nat → Int32} {n : Nat} {x : Int32} : ∀ a, a < n → upd f n x a = f a := fun a h => pk_un (by omega)
theorem updLN {f : Nat → Int64} {n : Nat} {x : Int64} : ∀ a, a < n → vp_updL f n x a = f a := fun a h => pk_uLn (by omega)
theorem tk_plain {n : Nat} {ARGS : Nat → Option Nat} {ar : Nat → AR} {KI WI BE S SC TX LE : Nat → Int32} {VAL PA : Nat → Int64} (h : agOK n ARGS ar KI WI BE S SC TX LE VAL PA) (hn : n < 12) {kd : Nat} (hkd : kd ≤ 2) {v : Int64} (h1 : kd = 1 → ∃ is : Bool, v = lN (if is = true then 1 else 0)) (h2 : kd = 2 → ∃ c : Nat, 1 ≤ c ∧ c ≤ 126 ∧ v = lN c) {ws' : Nat → Int64} (hw0 : ws' 0 = v) {S' : Nat → Int32} (hS : ∀ j, S' j = if 32 * n ≤ j ∧ j < 32 * n + 32 then 0 else S j) :
    agOK (n + 1) ARGS (va_up ar n ((ar n).1, (ar n).2.1, ws', kd, 0, 0, 0, 0, none)) (upd KI n (nI kd)) WI (upd BE n (bI false)) S' SC TX LE (vp_updL VAL n v) PA := by
  refine ag_push h hn rfl (show kd < 8 by omega) ?_ updN (fun _ _ => rfl) updN (fun _ _ => rfl) (fun _ _ => rfl) updLN (fun _ _ => rfl) (fun j hj => by rw [hS j, if_neg (by omega)]) (fun _ _ => rfl)
  refine ⟨show kd < 8 by omega, pk_us, false, rfl, pk_us, fun _ => rfl, fun hk => ?_, fun hk => ?_, fun hk => ?_, fun hk => ?_, fun hk => ?_, fun hk => ?_, fun hk => ?_, fun hk => ?_⟩
  · obtain ⟨is, e⟩ := h1 hk
    exact ⟨is, by rw [← e]; exact hw0, by rw [← e]; exact pk_uLs⟩
  · obtain ⟨c, c1, c2, e⟩ := h2 hk
    exact ⟨c, c1, c2, by rw [← e]; exact hw0, by rw [← e]; exact pk_uLs⟩
  · have hk : kd = 3 := hk
    omega
  · have hk : kd = 4 := hk
    omega
  · have hk : kd = 4 ∨ kd = 5 := hk
    omega
  · have hk : kd = 5 ∨ kd = 6 := hk
    omega
  · have hk : kd = 6 := hk
    omega
  · have hk : kd = 7 := hk
    omega
theorem nothing_both {n : Nat} {ARGS : Nat → Option Nat} {ar : Nat → AR} {KI WI BE S SC TX LE : Nat → Int32} {VAL PA : Nat → Int64} (h : agOK n ARGS ar KI WI BE S SC TX LE VAL PA) : (n = 12 ∧ f_Desk_nothingn (nI n) = some (-1) ∧ f_Model_nothing 5000 (nI n) KI VAL BE S = some (-1, nI n, KI, VAL, BE, S)) ∨
    (n < 12 ∧ ∃ ws' S', f_Desk_nothingy 5000 ARGS (nI n) (ar n).1 (ar n).2.2.1 = some (nI (n + 1), nI (n + 1), 0, 0, 0, 0, 0, none, ws') ∧ f_Model_nothing 5000 (nI n) KI VAL BE S = some (nI (n + 1), nI (n + 1), upd KI n 0, vp_updL VAL n 0, upd BE n 0, S') ∧ agOK (n + 1) ARGS (va_up ar n ((ar n).1, (ar n).2.1, ws', 0, 0, 0, 0, 0, none)) (upd KI n 0) WI (upd BE n 0) S' SC TX LE (vp_updL VAL n 0) PA) := by
  by_cases hn : n < 12
  · right
    obtain ⟨ws', a1, a2, a3⟩ := de_take hn (h.2.1 n hn) (ar n).2.2.1 0 0 0
    obtain ⟨S', b1, b2⟩ := mo_arg hn KI BE S VAL 0 0 false
    refine ⟨hn, ws', S', ?_, ?_, tk_plain h hn (kd := 0) (by omega) (fun z => by omega) (fun z => by omega) a2 b2⟩
    · unfold f_Desk_nothingy
      exact bnd a1 rfl
    · unfold f_Model_nothing
      exact bnd b1 rfl
  · left
    have e : n = 12 := by have := h.1; omega
    subst e
    refine ⟨rfl, ?_, ?_⟩
    · unfold f_Desk_nothingn
      exact bnd de_taken rfl
    · unfold f_Model_nothing
      exact bnd (mo_argn _ _ _ _ _ _ _) rfl
theorem truth_both {n : Nat} {ARGS : Nat → Option Nat} {ar : Nat → AR} {KI WI BE S SC TX LE : Nat → Int32} {VAL PA : Nat → Int64} (h : agOK n ARGS ar KI WI BE S SC TX LE VAL PA) (is : Bool) (lt : Option Nat) : (n = 12 ∧ f_Desk_truthn (nI n) (bI is) = some (-1) ∧ f_Model_truth 5000 (nI n) KI VAL BE S (bI is) = some (-1, nI n, KI, VAL, BE, S)) ∨
    (n < 12 ∧ ∃ ws' S', f_Desk_truthy 5000 ARGS (nI n) (ar n).1 (ar n).2.2.1 (ar n).2.2.2.1 (ar n).2.2.2.2.1 (ar n).2.2.2.2.2.1 (ar n).2.2.2.2.2.2.1 (ar n).2.2.2.2.2.2.2.1 lt (bI is) = some (nI (n + 1), nI (n + 1), 1, 0, 0, 0, 0, none, ws') ∧ f_Model_truth 5000 (nI n) KI VAL BE S (bI is) = some (nI (n + 1), nI (n + 1), upd KI n 1, vp_updL VAL n (lN (if is = true then 1 else 0)), upd BE n 0, S') ∧ agOK (n + 1) ARGS (va_up ar n ((ar n).1, (ar n).2.1, ws', 1, 0, 0, 0, 0, none)) (upd KI n 1) WI (upd BE n 0) S' SC TX LE (vp_updL VAL n (lN (if is = true then 1 else 0))) PA) := by
  by_cases hn : n < 12
  · right
    obtain ⟨ws', a1, a2, a3⟩ := de_take hn (h.2.1 n hn) (ar n).2.2.1 1 0 (lN (if is = true then 1 else 0))
    obtain ⟨S', b1, b2⟩ := mo_arg hn KI BE S VAL 1 (lN (if is = true then 1 else 0)) false
    refine ⟨hn, ws', S', ?_, ?_, tk_plain h hn (kd := 1) (by omega) (fun _ => ⟨is, rfl⟩) (fun z => by omega) a2 b2⟩
    · unfold f_Desk_truthy k_Desk_truthy_14
      try dsimp only
      cases is with
      | true => exact ifn (by decide) (bnd a1 (ifp (h.2.2.1 n hn) rfl))
      | false => exact ifp rfl (bnd a1 (ifp (h.2.2.1 n hn) rfl))
    · unfold f_Model_truth k_Model_truth_11
      try dsimp only
      cases is with
      | true => exact ifn (by decide) (bnd b1 rfl)
      | false => exact ifp rfl (bnd b1 rfl)
  · left
    have e : n = 12 := by have := h.1; omega
    subst e
    refine ⟨rfl, ?_, ?_⟩
    · unfold f_Desk_truthn k_Desk_truthn_14
      try dsimp only
      cases is with
      | true => exact ifn (by decide) (bnd de_taken rfl)
      | false => exact ifp rfl (bnd de_taken rfl)
    · unfold f_Model_truth k_Model_truth_11
      try dsimp only
      cases is with
      | true => exact ifn (by decide) (bnd (mo_argn _ _ _ _ _ _ _) rfl)
      | false => exact ifp rfl (bnd (mo_argn _ _ _ _ _ _ _) rfl)
