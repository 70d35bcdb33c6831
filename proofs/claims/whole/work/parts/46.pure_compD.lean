def bI (b : Bool) : Int32 := if b = true then 1 else 0
def hA (fl x : Int32) : Bool := !decide (fl &&& x = 0)
theorem sp_any (fl x : Int32) : f_Specifier_hasAny fl x = some (bI (hA fl x)) := by
  rw [sp_hasAny]
  unfold bI hA
  by_cases h : fl &&& x = 0
  · rw [if_pos h, decide_eq_true h]
    rfl
  · rw [if_neg h, decide_eq_false h]
    rfl
theorem mo_any (fl x : Int32) : f_Model_has fl x = some (bI (hA fl x)) := by
  rw [mo_has, ← sp_hasAny, sp_any]
theorem ro_add {n : Nat} {f : Nat → Int32} {u : Int32} (b : Int32) {L : List Nat} {c : Nat} (h : rowOK n f u L) (hc : c < 128) (hl : L.length < n) : ∃ s : Int32 × Int32 × (Nat → Int32), f_Row_add n f u b (nI c) = some s ∧ rowOK n s.2.2 s.1 (L ++ [c]) := by
  obtain ⟨f', h1, h2⟩ := row_add (b := b) h hc hl
  exact ⟨_, h1, h2⟩
theorem rput_fit {n : Nat} {L a : List Nat} (h : L.length + a.length ≤ n) : rput n L a = L ++ a := List.take_of_length_le (by rw [List.length_append]; exact h)
theorem ro_word {n : Nat} {f : Nat → Int32} {u : Int32} (b : Int32) {L : List Nat} {t : Nat} (h : rowOK n f u L) (ht : t < nS) (hl : L.length + (wrd t).length ≤ n) : ∃ s : Int32 × Int32 × (Nat → Int32), f_Row_addWord 5000 n f u b t = some s ∧ rowOK n s.2.2 s.1 (L ++ wrd t) := by
  obtain ⟨f', h1, h2⟩ := row_word (K := 5000) (b := b) ht (by omega) h
  rw [rput_fit hl] at h1 h2
  exact ⟨_, h1, h2⟩
theorem ro_row {n n2 : Nat} {f f2 : Nat → Int32} {u u2 : Int32} (b : Int32) {L M : List Nat} (h : rowOK n f u L) (h2 : rowOK n2 f2 u2 M) (hM : M.length < 5000) (hl : L.length + M.length ≤ n) : ∃ s : Int32 × Int32 × (Nat → Int32), f_Row_addRow 5000 n f u b n2 f2 u2 = some s ∧ rowOK n s.2.2 s.1 (L ++ M) := by
  obtain ⟨f', h1, h3⟩ := row_row (K := 5000) (b := b) h2 hM h
  rw [rput_fit hl] at h1 h3
  exact ⟨_, h1, h3⟩
def lett (d : Nat) : Nat := if d < 10 then 48 + d else 87 + d
theorem cp_letter : ∀ d, d < 16 → f_Composer_letterOf (nI d) = some (nI (lett d)) := by decide +kernel
theorem lett_lt : ∀ d, d < 16 → lett d < 128 := by decide +kernel
theorem dat_16 {b N : Nat} {lo e : Int} (hb : 2 ≤ b ∧ b ≤ 16) : dat b N lo e < 16 := Nat.lt_of_lt_of_le (dat_lt (by omega)) hb.2
def dnI (F : Int → Nat) (a : Int) : Nat → List Nat
  | 0 => []
  | n + 1 => F a :: dnI F (a - 1) n
theorem dnI_len (F : Int → Nat) : ∀ (n : Nat) (a : Int), (dnI F a n).length = n
  | 0, _ => rfl
  | n + 1, a => by
    show (dnI F (a - 1) n).length + 1 = n + 1
    rw [dnI_len F n]
def wlN (F : Nat → Nat) (g : Bool) : Nat → List Nat
  | 0 => [F 0]
  | e + 1 => F (e + 1) :: ((if g = true ∧ (e + 1) % 3 = 0 then [44] else []) ++ wlN F g e)
theorem wlN_len (F : Nat → Nat) (g : Bool) : ∀ e, (wlN F g e).length ≤ e + 1 + e / 3
  | 0 => Nat.le_refl _
  | e + 1 => by
    have ih := wlN_len F g e
    show ((if g = true ∧ (e + 1) % 3 = 0 then [44] else []) ++ wlN F g e).length + 1 ≤ _
    rw [List.length_append]
    by_cases h : g = true ∧ (e + 1) % 3 = 0
    · rw [if_pos h]
      show 1 + _ + 1 ≤ _
      omega
    · rw [if_neg h]
      show 0 + _ + 1 ≤ _
      omega
def dl (b N : Nat) (lo e : Int) : Nat := lett (dat b N lo e)
theorem cp_dl {b N : Nat} (hb : 2 ≤ b ∧ b ≤ 16) {dc : Nat → Int32} {du : Int32} {lo e : Int} (hd : dgOK b dc du N) (h1 : -100000 ≤ lo ∧ lo ≤ 100000) (h2 : -100000 ≤ e ∧ e ≤ 100000) : ∃ x : Int32, f_Digits_at dc du (iI lo) (iI e) = some x ∧ f_Composer_letterOf x = some (nI (dl b N lo e)) ∧ dl b N lo e < 128 :=
  ⟨_, dg_at hb.1 hd h1 h2, cp_letter _ (dat_16 hb), lett_lt _ (dat_16 hb)⟩
theorem cp_down {b N n : Nat} (hb : 2 ≤ b ∧ b ≤ 16) {dc : Nat → Int32} {du : Int32} {lo last : Int} (hd : dgOK b dc du N) (h1 : -100000 ≤ lo ∧ lo ≤ 100000) (h2 : -90000 ≤ last ∧ last ≤ 90000) : ∀ (d m : Nat) (a : Int) (f : Nat → Int32) (u bu : Int32) (L : List Nat), d = (a - last + 1).toNat → d < m → -95000 ≤ a → a ≤ 90000 → L.length + d ≤ n → rowOK n f u L →
    ∃ s : Int32 × Int32 × (Nat → Int32), lp_ (b_Composer_addBehindPoint_21 n dc du (iI lo) (iI last)) m (iI a, u, bu, f) = some s ∧ rowOK n s.2.2 s.1 (L ++ dnI (dl b N lo) a d) := by
  intro d
  induction d with
  | zero =>
    intro m a f u bu L hda hm ha1 ha2 hl h
    obtain ⟨m, rfl⟩ : ∃ j, m = j + 1 := ⟨m - 1, by omega⟩
    refine ⟨(u, bu, f), ?_, ?_⟩
    · show b_Composer_addBehindPoint_21 n dc du (iI lo) (iI last) (lp_ (b_Composer_addBehindPoint_21 n dc du (iI lo) (iI last)) m) _ = _
      rw [e_Composer_addBehindPoint_21]
      exact ifp (ilt a last (by omega)) rfl
    · show rowOK n f u (L ++ [])
      rw [List.append_nil]
      exact h
  | succ d ih =>
    intro m a f u bu L hda hm ha1 ha2 hl h
    obtain ⟨m, rfl⟩ : ∃ j, m = j + 1 := ⟨m - 1, by omega⟩
    obtain ⟨x, x1, x2, x3⟩ := cp_dl (e := a) hb hd h1 (by omega)
    obtain ⟨s1, y1, y2⟩ := ro_add bu h x3 (by omega)
    obtain ⟨s2, z1, z2⟩ := ih m (a - 1) s1.2.2 s1.1 s1.2.1 (L ++ [dl b N lo a]) (by omega) (by omega) (by omega) (by omega) (by rw [List.length_append]; show L.length + 1 + d ≤ n; omega) y2
    refine ⟨s2, ?_, ?_⟩
    · rw [← z1]
      show b_Composer_addBehindPoint_21 n dc du (iI lo) (iI last) (lp_ (b_Composer_addBehindPoint_21 n dc du (iI lo) (iI last)) m) _ = _
      generalize lp_ (b_Composer_addBehindPoint_21 n dc du (iI lo) (iI last)) m = rc
      rw [e_Composer_addBehindPoint_21]
      refine ifn (inlt a last (by omega)) (bnd x1 (bnd x2 (bnd y1 ?_)))
      rw [show iI a + (-1 : Int32) = iI (a - 1) from by rw [show (-1 : Int32) = iI (-1) from rfl, iI_add]; rfl]
    · rw [List.append_assoc] at z2
      exact z2
def bp (F : Int → Nat) (a last : Int) (pa : Bool) : List Nat := (if last ≤ a ∨ pa = true then [46] else []) ++ dnI F a (a - last + 1).toNat
theorem cp_behind {b N n : Nat} (hb : 2 ≤ b ∧ b ≤ 16) {dc : Nat → Int32} {du : Int32} {lo a last : Int} (hd : dgOK b dc du N) (h1 : -100000 ≤ lo ∧ lo ≤ 100000) (h2 : -90000 ≤ last ∧ last ≤ 90000) (h3 : -90000 ≤ a ∧ a ≤ 90000) {f : Nat → Int32} {u : Int32} (bu : Int32) {L : List Nat} (h : rowOK n f u L) (hk : (a - last + 1).toNat < 4000) (hl : L.length + 1 + (a - last + 1).toNat ≤ n) (pa : Bool) :
    ∃ s : Int32 × Int32 × (Nat → Int32), f_Composer_addBehindPoint 5000 n f u bu dc du (iI lo) (iI a) (iI last) (bI pa) = some s ∧ rowOK n s.2.2 s.1 (L ++ bp (dl b N lo) a last pa) := by
  unfold f_Composer_addBehindPoint bp k_Composer_addBehindPoint_9 k_Composer_addBehindPoint_18
  try dsimp only
  have withP : ∃ s : Int32 × Int32 × (Nat → Int32), ((f_Row_add n f u bu (46 : Int32)).bind fun u_15 => lp_ (b_Composer_addBehindPoint_21 n dc du (iI lo) (iI last)) 5000 (iI a, u_15.1, u_15.2.1, u_15.2.2)) = some s ∧ rowOK n s.2.2 s.1 (L ++ ([46] ++ dnI (dl b N lo) a (a - last + 1).toNat)) := by
    obtain ⟨s1, y1, y2⟩ := ro_add (c := 46) bu h (by omega) (by omega)
    obtain ⟨s2, z1, z2⟩ := cp_down hb hd h1 h2 (a - last + 1).toNat 5000 a s1.2.2 s1.1 s1.2.1 (L ++ [46]) rfl (by omega) (by omega) h3.2 (by rw [List.length_append]; show L.length + 1 + _ ≤ n; omega) y2
    rw [List.append_assoc] at z2
    exact ⟨s2, bnd y1 z1, z2⟩
  by_cases hle : last ≤ a
  · rw [if_pos (Or.inl hle)]
    obtain ⟨s, q1, q2⟩ := withP
    exact ⟨s, ifp (ile last a hle) q1, q2⟩
  · cases pa with
    | true =>
      rw [if_pos (Or.inr rfl)]
      obtain ⟨s, q1, q2⟩ := withP
      exact ⟨s, ifn (inle last a (by omega)) (ifn (by decide) q1), q2⟩
    | false =>
      rw [if_neg (show ¬ (last ≤ a ∨ false = true) from fun z => z.elim hle (fun y => by cases y))]
      obtain ⟨s2, z1, z2⟩ := cp_down hb hd h1 h2 (a - last + 1).toNat 5000 a f u bu L rfl (by omega) (by omega) h3.2 (by omega) h
      exact ⟨s2, ifn (inle last a (by omega)) (ifp rfl z1), z2⟩
theorem cp_whole_l {b N n : Nat} (hb : 2 ≤ b ∧ b ≤ 16) {dc : Nat → Int32} {du : Int32} {lo : Int} (hd : dgOK b dc du N) (h1 : -100000 ≤ lo ∧ lo ≤ 100000) (g : Bool) : ∀ (e m : Nat) (f : Nat → Int32) (u bu : Int32) (L : List Nat), e < 90000 → e + 1 < m → L.length + e + 1 + e / 3 ≤ n → rowOK n f u L →
    ∃ s : Int32 × Int32 × (Nat → Int32), lp_ (b_Composer_addWhole_12 n dc du (iI lo) (bI g)) m (nI e, u, bu, f) = some s ∧ rowOK n s.2.2 s.1 (L ++ wlN (fun e => dl b N lo e) g e) := by
  intro e
  induction e with
  | zero =>
    intro m f u bu L he hm hl h
    obtain ⟨m, rfl⟩ : ∃ j, m = j + 1 + 1 := ⟨m - 2, by omega⟩
    obtain ⟨x, x1, x2, x3⟩ := cp_dl (e := 0) hb hd h1 (by omega)
    obtain ⟨s1, y1, y2⟩ := ro_add bu h x3 (by omega)
    refine ⟨s1, ?_, y2⟩
    have stop : lp_ (b_Composer_addWhole_12 n dc du (iI lo) (bI g)) (m + 1) (nI 0 + (-1), s1.1, s1.2.1, s1.2.2) = some s1 := by
      show b_Composer_addWhole_12 n dc du (iI lo) (bI g) (lp_ (b_Composer_addWhole_12 n dc du (iI lo) (bI g)) m) _ = _
      rw [e_Composer_addWhole_12]
      exact ifp (by decide) rfl
    show b_Composer_addWhole_12 n dc du (iI lo) (bI g) (lp_ (b_Composer_addWhole_12 n dc du (iI lo) (bI g)) (m + 1)) _ = _
    generalize lp_ (b_Composer_addWhole_12 n dc du (iI lo) (bI g)) (m + 1) = rc at stop ⊢
    rw [e_Composer_addWhole_12]
    unfold k_Composer_addWhole_57
    refine ifn (by decide) (bnd x1 (bnd x2 (bnd y1 ?_)))
    cases g with
    | false => exact ifp rfl stop
    | true => exact ifn (by decide) (ifp (by decide) stop)
  | succ e ih =>
    intro m f u bu L he hm hl h
    obtain ⟨m, rfl⟩ : ∃ j, m = j + 1 := ⟨m - 1, by omega⟩
    obtain ⟨x, x1, x2, x3⟩ := cp_dl (e := ((e + 1 : Nat) : Int)) hb hd h1 (by omega)
    rw [iI_nat] at x1
    obtain ⟨s1, y1, y2⟩ := ro_add bu h x3 (by omega)
    have hlen1 : (L ++ [dl b N lo ((e + 1 : Nat) : Int)]).length = L.length + 1 := by rw [List.length_append]; rfl
    show ∃ s : Int32 × Int32 × (Nat → Int32), b_Composer_addWhole_12 n dc du (iI lo) (bI g) (lp_ (b_Composer_addWhole_12 n dc du (iI lo) (bI g)) m) (nI (e + 1), u, bu, f) = some s ∧ rowOK n s.2.2 s.1 (L ++ (dl b N lo ((e + 1 : Nat) : Int) :: ((if g = true ∧ (e + 1) % 3 = 0 then [44] else []) ++ wlN (fun e => dl b N lo e) g e)))
    by_cases hg : g = true ∧ (e + 1) % 3 = 0
    · obtain ⟨s2, w1, w2⟩ := ro_add (c := 44) s1.2.1 y2 (by omega) (by omega)
      obtain ⟨s3, z1, z2⟩ := ih m s2.2.2 s2.1 s2.2.1 _ (by omega) (by omega) (by rw [List.length_append, hlen1]; show L.length + 1 + 1 + e + 1 + e / 3 ≤ n; omega) w2
      refine ⟨s3, ?_, ?_⟩
      · generalize lp_ (b_Composer_addWhole_12 n dc du (iI lo) (bI g)) m = rc at z1 ⊢
        rw [e_Composer_addWhole_12]
        unfold k_Composer_addWhole_57
        rw [pk_m1, show (3 : Int32) = nI 3 from rfl, pk_rem (by omega) (by omega) (by omega)]
        refine ifn (nI_pos (by omega)) (bnd x1 (bnd x2 (bnd y1 (ifn ?_ (ifn (nI_nle (by omega) (by omega)) (ifp (qeq 0 hg.2) (bnd w1 z1)))))))
        rw [hg.1]
        decide
      · rw [if_pos hg]
        rw [List.append_assoc, List.append_assoc] at z2
        exact z2
    · obtain ⟨s3, z1, z2⟩ := ih m s1.2.2 s1.1 s1.2.1 _ (by omega) (by omega) (by rw [hlen1]; omega) y2
      refine ⟨s3, ?_, ?_⟩
      · generalize lp_ (b_Composer_addWhole_12 n dc du (iI lo) (bI g)) m = rc at z1 ⊢
        rw [e_Composer_addWhole_12]
        unfold k_Composer_addWhole_57
        rw [pk_m1, show (3 : Int32) = nI 3 from rfl, pk_rem (by omega) (by omega) (by omega)]
        refine ifn (nI_pos (by omega)) (bnd x1 (bnd x2 (bnd y1 ?_)))
        cases g with
        | false => exact ifp rfl z1
        | true => exact ifn (by decide) (ifn (nI_nle (by omega) (by omega)) (ifn (qne 0 (fun z => hg ⟨rfl, z⟩)) z1))
      · rw [if_neg hg]
        rw [List.append_assoc] at z2
        exact z2
theorem cp_whole {b N n : Nat} (hb : 2 ≤ b ∧ b ≤ 16) {dc : Nat → Int32} {du : Int32} {lo : Int} (hd : dgOK b dc du N) (h1 : -2000 ≤ lo ∧ lo ≤ 2000) (g : Bool) {f : Nat → Int32} {u : Int32} (bu : Int32) {L : List Nat} (h : rowOK n f u L) (hl : L.length + (frs b N lo).toNat + 1 + (frs b N lo).toNat / 3 ≤ n) :
    ∃ s : Int32 × Int32 × (Nat → Int32), f_Composer_addWhole 5000 n f u bu dc du (iI lo) (bI g) = some s ∧ rowOK n s.2.2 s.1 (L ++ wlN (fun e => dl b N lo e) g (frs b N lo).toNat) := by
  have hfr : frs b N lo ≤ 2300 ∧ -2300 ≤ frs b N lo := by
    have := hd.2.1
    unfold frs
    by_cases h0 : N = 0
    · rw [if_pos h0]; omega
    · rw [if_neg h0]
      have := nd_pos (b := b) hb.1 h0
      omega
  obtain ⟨s, q1, q2⟩ := cp_whole_l (lo := lo) hb hd (by omega) g (frs b N lo).toNat 5000 f u bu L (by omega) (by omega) hl h
  refine ⟨s, ?_, q2⟩
  unfold f_Composer_addWhole
  refine bnd (dg_first hb.1 hd) ?_
  have e : (if (0 : Int32) < iI (frs b N lo) then iI (frs b N lo) else (0 : Int32)) = nI (frs b N lo).toNat := by
    by_cases hp : 0 < frs b N lo
    · refine ifp (ilt 0 _ hp) ?_
      rw [← iI_nat]
      congr 1
      omega
    · refine ifn (inlt 0 (frs b N lo) (by omega)) ?_
      rw [show (frs b N lo).toNat = 0 by omega]
      rfl
  rw [e]
  exact q1
def pl (s : Nat) : Nat → List Nat
  | 0 => [48 + s % 10]
  | j + 1 => (48 + s / 10 ^ (j + 1) % 10) :: pl s j
theorem pl_len (s : Nat) : ∀ j, (pl s j).length = j + 1
  | 0 => rfl
  | j + 1 => by
    show (pl s j).length + 1 = j + 1 + 1
    rw [pl_len s j]
def jj (s least : Nat) : Nat := if s < 10 ∧ least = 1 then 0 else if s < 100 then 1 else if s < 1000 then 2 else 3
theorem an_digits {n s : Nat} (hs : s < 10000) : ∀ (j m : Nat) (f : Nat → Int32) (u bu : Int32) (L : List Nat), j ≤ 3 → j + 1 < m → L.length + j + 1 ≤ n → rowOK n f u L →
    ∃ z : Int32 × Int32 × (Nat → Int32), lp_ (b_Row_addNumber_56 n (nI s)) m (nI (10 ^ j), u, bu, f) = some z ∧ rowOK n z.2.2 z.1 (L ++ pl s j) := by
  intro j
  induction j with
  | zero =>
    intro m f u bu L hj hm hl h
    obtain ⟨m, rfl⟩ : ∃ j, m = j + 1 + 1 := ⟨m - 2, by omega⟩
    obtain ⟨s1, y1, y2⟩ := ro_add (c := 48 + s % 10) bu h (by omega) (by omega)
    refine ⟨s1, ?_, y2⟩
    have stop : lp_ (b_Row_addNumber_56 n (nI s)) (m + 1) (nI (10 ^ 0) / (10 : Int32), s1.1, s1.2.1, s1.2.2) = some s1 := by
      show b_Row_addNumber_56 n (nI s) (lp_ (b_Row_addNumber_56 n (nI s)) m) _ = _
      rw [e_Row_addNumber_56]
      exact ifp (by decide) rfl
    show b_Row_addNumber_56 n (nI s) (lp_ (b_Row_addNumber_56 n (nI s)) (m + 1)) _ = _
    generalize lp_ (b_Row_addNumber_56 n (nI s)) (m + 1) = rc at stop ⊢
    rw [e_Row_addNumber_56]
    have e : (48 : Int32) + ((nI s / nI (10 ^ 0)) - (nI s / nI (10 ^ 0)) / (10 : Int32) * (10 : Int32)) = nI (48 + s % 10) := by
      rw [pk_div (by omega) (by decide) (by decide), Nat.pow_zero, Nat.div_one, show (10 : Int32) = nI 10 from rfl, pk_rem (by omega) (by omega) (by omega)]
      exact nI_add 48 _
    rw [e]
    exact ifn (by decide) (ifn (by decide) (bnd y1 stop))
  | succ j ih =>
    intro m f u bu L hj hm hl h
    obtain ⟨m, rfl⟩ : ∃ j, m = j + 1 := ⟨m - 1, by omega⟩
    have hp : 10 ^ (j + 1) < 2 ^ 31 := Nat.lt_of_le_of_lt (pw_le (b := 10) (by omega) (show j + 1 ≤ 3 by omega)) (by decide)
    have hp0 := pw_pos (b := 10) (by omega) (j + 1)
    obtain ⟨s1, y1, y2⟩ := ro_add (c := 48 + s / 10 ^ (j + 1) % 10) bu h (by omega) (by omega)
    obtain ⟨s2, z1, z2⟩ := ih m s1.2.2 s1.1 s1.2.1 _ (by omega) (by omega) (by rw [List.length_append]; show L.length + 1 + j + 1 ≤ n; omega) y2
    refine ⟨s2, ?_, ?_⟩
    · show b_Row_addNumber_56 n (nI s) (lp_ (b_Row_addNumber_56 n (nI s)) m) _ = _
      generalize lp_ (b_Row_addNumber_56 n (nI s)) m = rc at z1 ⊢
      rw [e_Row_addNumber_56]
      have e : (48 : Int32) + ((nI s / nI (10 ^ (j + 1))) - (nI s / nI (10 ^ (j + 1))) / (10 : Int32) * (10 : Int32)) = nI (48 + s / 10 ^ (j + 1) % 10) := by
        have hdl : s / 10 ^ (j + 1) ≤ s := Nat.div_le_self _ _
        rw [pk_div (by omega) hp0 hp, show (10 : Int32) = nI 10 from rfl, pk_rem (by omega) (by omega) (by omega)]
        exact nI_add 48 _
      have e2 : nI (10 ^ (j + 1)) / (10 : Int32) = nI (10 ^ j) := by
        rw [show (10 : Int32) = nI 10 from rfl, pk_div hp (by omega) (by omega), Nat.pow_succ, Nat.mul_div_cancel _ (by omega)]
      rw [e, e2]
      exact ifn (nI_nle hp0 hp) (ifn (qne 0 (by omega)) (bnd y1 z1))
    · rw [List.append_assoc] at z2
      exact z2
theorem an_place {n s least : Nat} (hs : s < 10000) (hl : least = 1 ∨ least = 2) (f : Nat → Int32) (u bu : Int32) : lp_ (b_Row_addNumber_21 5000 n (nI least) (nI s) u bu f) 5000 (1, 1) = lp_ (b_Row_addNumber_56 n (nI s)) 5000 (nI (10 ^ jj s least), u, bu, f) := by
  have step : ∀ (m p d : Nat), p < 100000 → d < 9 → (d < least ∨ p ≤ s / 10) → lp_ (b_Row_addNumber_21 5000 n (nI least) (nI s) u bu f) (m + 1) (nI p, nI d) = lp_ (b_Row_addNumber_21 5000 n (nI least) (nI s) u bu f) m (nI (p * 10), nI (d + 1)) := by
    intro m p d hp hd h
    show b_Row_addNumber_21 5000 n (nI least) (nI s) u bu f (lp_ (b_Row_addNumber_21 5000 n (nI least) (nI s) u bu f) m) _ = _
    generalize lp_ (b_Row_addNumber_21 5000 n (nI least) (nI s) u bu f) m = rc
    rw [e_Row_addNumber_21]
    unfold k_Row_addNumber_43
    rw [nI_1, show nI p * (10 : Int32) = nI (p * 10) from pk_mul p 10, show nI s / (10 : Int32) = nI (s / 10) from pk_div (d := 10) (by omega) (by omega) (by omega)]
    refine ifn (rnle 9 (by omega)) ?_
    by_cases h1 : d < least
    · exact ifp (nI_lt h1 (by omega)) rfl
    · exact ifn (nI_nlt (by omega) (by omega)) (ifn (nI_nlt (by omega) (by omega)) rfl)
  have stop : ∀ (m p d : Nat), p < 100000 → d < 9 → ¬ d < least → s / 10 < p → lp_ (b_Row_addNumber_21 5000 n (nI least) (nI s) u bu f) (m + 1) (nI p, nI d) = lp_ (b_Row_addNumber_56 n (nI s)) 5000 (nI p, u, bu, f) := by
    intro m p d hp hd h h2
    show b_Row_addNumber_21 5000 n (nI least) (nI s) u bu f (lp_ (b_Row_addNumber_21 5000 n (nI least) (nI s) u bu f) m) _ = _
    generalize lp_ (b_Row_addNumber_21 5000 n (nI least) (nI s) u bu f) m = rc
    rw [e_Row_addNumber_21]
    rw [show nI s / (10 : Int32) = nI (s / 10) from pk_div (d := 10) (by omega) (by omega) (by omega)]
    exact ifn (rnle 9 (by omega)) (ifn (nI_nlt (by omega) (by omega)) (ifp (nI_lt h2 (by omega)) rfl))
  unfold jj
  by_cases c1 : s < 10 ∧ least = 1
  · rw [if_pos c1]
    exact stop 4999 1 1 (by omega) (by omega) (by omega) (by omega)
  · rw [if_neg c1]
    refine Eq.trans (step 4999 1 1 (by omega) (by omega) (by omega)) ?_
    by_cases c2 : s < 100
    · rw [if_pos c2]
      exact stop 4998 10 2 (by omega) (by omega) (by omega) (by omega)
    · rw [if_neg c2]
      refine Eq.trans (step 4998 10 2 (by omega) (by omega) (by omega)) ?_
      by_cases c3 : s < 1000
      · rw [if_pos c3]
        exact stop 4997 100 3 (by omega) (by omega) (by omega) (by omega)
      · rw [if_neg c3]
        refine Eq.trans (step 4997 100 3 (by omega) (by omega) (by omega)) ?_
        exact stop 4996 1000 4 (by omega) (by omega) (by omega) (by omega)
def nmL (z : Int) (least : Nat) : List Nat := (if z < 0 then [45] else []) ++ pl z.natAbs (jj z.natAbs least)
theorem jj_le (s least : Nat) : jj s least ≤ 3 := by
  unfold jj
  by_cases c1 : s < 10 ∧ least = 1
  · rw [if_pos c1]; omega
  · rw [if_neg c1]
    by_cases c2 : s < 100
    · rw [if_pos c2]; omega
    · rw [if_neg c2]
      by_cases c3 : s < 1000
      · rw [if_pos c3]; omega
      · rw [if_neg c3]; omega
theorem ro_number {n : Nat} {z : Int} {least : Nat} (hz : -10000 < z ∧ z < 10000) (hle : least = 1 ∨ least = 2) {f : Nat → Int32} {u : Int32} (bu : Int32) {L : List Nat} (h : rowOK n f u L) (hl : L.length + 5 ≤ n) : ∃ s : Int32 × Int32 × (Nat → Int32), f_Row_addNumber 5000 n f u bu (iI z) (nI least) = some s ∧ rowOK n s.2.2 s.1 (L ++ nmL z least) := by
  have hj := jj_le z.natAbs least
  unfold f_Row_addNumber k_Row_addNumber_10 nmL
  try dsimp only
  by_cases hn : z < 0
  · rw [if_pos hn]
    obtain ⟨s1, y1, y2⟩ := ro_add (c := 45) bu h (by omega) (by omega)
    obtain ⟨s2, z1, z2⟩ := an_digits (s := z.natAbs) (by omega) (jj z.natAbs least) 5000 s1.2.2 s1.1 s1.2.1 _ hj (by omega) (by rw [List.length_append]; show L.length + 1 + _ + 1 ≤ n; omega) y2
    refine ⟨s2, ifn (inle 0 z hn) (bnd y1 ?_), ?_⟩
    · have e : (if (0 : Int32) ≤ iI z then iI z else 0 - iI z) = nI z.natAbs := by
        refine ifn (inle 0 z hn) ?_
        rw [show (0 : Int32) = iI 0 from rfl, iI_sub, ← iI_nat]
        congr 1
        omega
      rw [e, an_place (by omega) hle]
      exact z1
    · rw [List.append_assoc] at z2
      exact z2
  · rw [if_neg hn]
    obtain ⟨s2, z1, z2⟩ := an_digits (s := z.natAbs) (by omega) (jj z.natAbs least) 5000 f u bu _ hj (by omega) (by omega) h
    refine ⟨s2, ifp (ile 0 z (by omega)) ?_, z2⟩
    have e : (if (0 : Int32) ≤ iI z then iI z else 0 - iI z) = nI z.natAbs := by
      refine ifp (ile 0 z (by omega)) ?_
      rw [← iI_nat]
      congr 1
      omega
    rw [e, an_place (by omega) hle]
    exact z1
