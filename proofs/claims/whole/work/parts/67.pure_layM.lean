abbrev MY : Type := Int32 × Int32 × Int32 × Int32 × (Nat → Int32) × (Nat → Int32) × (Nat → Int32)
def mdl (c : Nat) (pz : Int) (s : Nat) (o : Option MY) (L : List Nat) : Prop := ∃ (P T W : Nat → Int32) (p hd cn ex : Int32), o = k_Model_lay_172 5000 (iI pz) (nI c) (nI s) p hd cn ex P T W ∧ pcOK P p L
theorem pc_take {P : Nat → Int32} {p : Int32} {L : List Nat} (h : pcOK P p L) (k : Nat) : pcOK P (nI (L.take k).length) (L.take k) := by
  have hl : (L.take k).length ≤ L.length := by rw [List.length_take]; omega
  refine ⟨rfl, by have := h.2.1; omega, fun j hj => ?_⟩
  rw [h.2.2 j (by omega)]
  congr 1
  have hk : j < k := by rw [List.length_take] at hj; omega
  unfold lk
  rw [List.getD_eq_getElem?_getD, List.getD_eq_getElem?_getD, List.getElem?_take_of_lt hk]
theorem mdl_out {c : Nat} {pz : Int} {s : Nat} {o : Option MY} {L : List Nat} (h : mdl c pz s o L) (hs : s < 128) (hc : c < 128) (h128 : ∀ x ∈ L, x < 128) (hp : -1 ≤ pz ∧ pz ≤ 1000) : ∃ r : MY, o = some r ∧ pcOK r.2.2.2.2.1 r.1 (upG (grB c) (ctL (asT s) pz L)) := by
  obtain ⟨P, T, W, p, hd, cn, ex, e, h⟩ := h
  have all : ctL (asT s) pz L = L → ∃ r : MY, k_Model_lay_210 5000 (nI c) p hd cn ex P T W = some r ∧ pcOK r.2.2.2.2.1 r.1 (upG (grB c) (ctL (asT s) pz L)) := by
    intro q2
    obtain ⟨P', r1, r2⟩ := mo_raise hc hd cn ex T W h h128
    exact ⟨_, r1, by rw [q2]; exact r2⟩
  have cut : asT s = true → ∃ r : MY, k_Model_lay_184 5000 (iI pz) (nI c) p hd cn ex P T W = some r ∧ pcOK r.2.2.2.2.1 r.1 (upG (grB c) (ctL (asT s) pz L)) := by
    intro q1
    unfold k_Model_lay_184
    have hu := h.1
    have hl := h.2.1
    by_cases h0 : 0 ≤ pz
    · by_cases hle : L.length ≤ pz.toNat
      · rw [if_neg (inlt pz 0 h0), if_pos (show p ≤ iI pz by rw [hu, ← iI_nat]; exact ile (L.length : Int) pz (by omega))]
        refine all ?_
        unfold ctL
        rw [if_pos ⟨q1, h0⟩, List.take_of_length_le hle]
      · rw [if_neg (inlt pz 0 h0), if_neg (show ¬ p ≤ iI pz by rw [hu, ← iI_nat]; exact inle (L.length : Int) pz (by omega))]
        have el : (L.take pz.toNat).length = pz.toNat := by rw [List.length_take]; omega
        have e2 : iI pz = nI (L.take pz.toNat).length := by rw [el, ← iI_nat, show ((pz.toNat : Nat) : Int) = pz by omega]
        obtain ⟨P', r1, r2⟩ := mo_raise hc hd cn ex T W (pc_take h pz.toNat) (fun x hx => h128 x (List.mem_of_mem_take hx))
        rw [e2]
        refine ⟨_, r1, ?_⟩
        unfold ctL
        rw [if_pos ⟨q1, h0⟩]
        exact r2
    · rw [if_pos (ilt pz 0 (by omega))]
      exact all (if_neg (fun z => h0 z.2))
  rw [e]
  unfold k_Model_lay_172
  by_cases h1 : s = 98
  · rw [if_pos (qeq 98 h1)]
    exact cut (decide_eq_true (Or.inl h1))
  · by_cases h2 : s = 115
    · rw [if_neg (qne 98 h1), if_pos (qeq 115 h2)]
      exact cut (decide_eq_true (Or.inr h2))
    · rw [if_neg (qne 98 h1), if_neg (qne 115 h2)]
      have ea : asT s = false := decide_eq_false (by omega)
      refine all ?_
      rw [ea]
      exact if_neg (fun z => by cases z.1)
theorem pc0 (P : Nat → Int32) : pcOK P 0 [] := ⟨rfl, Nat.zero_le _, fun j hj => absurd hj (Nat.not_lt_zero j)⟩
theorem by_false : byL 439721161573 8 = [102, 97, 108, 115, 101] := by decide +kernel
theorem by_true : byL 1953658213 8 = [116, 114, 117, 101] := by decide +kernel
theorem by_null : byL 1853189228 8 = [110, 117, 108, 108] := by decide +kernel
theorem by_nan : byL 5136718 8 = [78, 97, 78] := by decide +kernel
theorem by_inf : byL 5291279215216915577 8 = [73, 110, 102, 105, 110, 105, 116, 121] := by decide +kernel
theorem mo_addTruth (is : Bool) {P : Nat → Int32} {p : Int32} {L : List Nat} (h : pcOK P p L) (hl : L.length + 16 ≤ 4000) : ∃ s : Int32 × (Nat → Int32), f_Model_addTruth 5000 P p (bI is) = some s ∧ pcOK s.2 s.1 (L ++ trL is) := by
  unfold f_Model_addTruth
  cases is with
  | true =>
    obtain ⟨s, s1, s2⟩ := mo_addWord (a := 1953658213) (by decide) by_true h hl
    exact ⟨s, ifn (by decide) (bnd s1 rfl), s2⟩
  | false =>
    obtain ⟨s, s1, s2⟩ := mo_addWord (a := 439721161573) (by decide) by_false h hl
    exact ⟨s, ifp rfl (bnd s1 rfl), s2⟩
theorem ml_0 {s a : Nat} (hs : s < 128) (ha : a < 12) (KI WI BE S SC TX LE : Nat → Int32) (VAL PA : Nat → Int64) (fl : Int32) (wz pz : Int) (c : Nat) (P T W : Nat → Int32) (hd cn ex : Int32) (hK : KI a = 0) : mdl c pz s (f_Model_lay 5000 KI VAL WI BE S SC PA TX LE fl (iI wz) (iI pz) (nI c) P hd T cn ex W (nI a) (nI s)) (if s = 98 then [102, 97, 108, 115, 101] else [110, 117, 108, 108]) := by
  unfold f_Model_lay
  rw [nI_clamp (by omega), hK]
  by_cases h : s = 98
  · obtain ⟨r, r1, r2⟩ := mo_addTruth false (pc0 P) (by decide)
    rw [if_pos h]
    exact ⟨r.2, T, W, r.1, hd, cn, ex, ifp (inB_n ha) (ifp rfl (ifp (qeq 98 h) (bnd r1 rfl))), r2⟩
  · obtain ⟨r, r1, r2⟩ := mo_addWord (a := 1853189228) (by decide) by_null (pc0 P) (by decide)
    rw [if_neg h]
    exact ⟨r.2, T, W, r.1, hd, cn, ex, ifp (inB_n ha) (ifp rfl (ifn (qne 98 h) (bnd r1 rfl))), r2⟩
theorem lN1 {b : Bool} : lg_cmp (lN (if b = true then 1 else 0)) 1 = 0 ↔ b = true := by cases b <;> decide
theorem ml_b {a k : Nat} (ha : a < 12) (hk : k ≠ 0) (hk8 : k < 8) (KI WI BE S SC TX LE : Nat → Int32) (VAL PA : Nat → Int64) (fl : Int32) (wz pz : Int) (c : Nat) (P T W : Nat → Int32) (hd cn ex : Int32) (hK : KI a = nI k) {is : Bool} (h1 : k = 1 → VAL a = lN (if is = true then 1 else 0)) : mdl c pz 98 (f_Model_lay 5000 KI VAL WI BE S SC PA TX LE fl (iI wz) (iI pz) (nI c) P hd T cn ex W (nI a) (nI 98)) (trL (!decide (k = 1) || is)) := by
  obtain ⟨r, r1, r2⟩ := mo_addTruth (!decide (k = 1) || is) (pc0 P) (by decide)
  refine ⟨r.2, T, W, r.1, hd, cn, ex, ?_, r2⟩
  unfold f_Model_lay
  rw [nI_clamp (by omega), hK]
  refine ifp (inB_n ha) (ifn (qne 0 hk) (ifp (by decide) ?_))
  unfold k_Model_lay_64 k_Model_lay_69
  by_cases h : k = 1
  · rw [decide_eq_true h, Bool.not_true, Bool.false_or] at r1
    refine ifp (qeq 1 h) (ifp (inB_n ha) ?_)
    rw [h1 h]
    cases is with
    | true => exact ifp (lN1.mpr rfl) (bnd r1 rfl)
    | false => exact ifn (fun z => by cases (lN1.mp z)) (bnd r1 rfl)
  · rw [decide_eq_false h, Bool.not_false, Bool.true_or] at r1
    exact ifn (qne 1 h) (bnd r1 rfl)
theorem ml_c {a k d : Nat} (ha : a < 12) (hk : k ≠ 0) (hk8 : k < 8) (KI WI BE S SC TX LE : Nat → Int32) (VAL PA : Nat → Int64) (fl : Int32) (wz pz : Int) (c : Nat) (P T W : Nat → Int32) (hd cn ex : Int32) (hK : KI a = nI k) (h1 : VAL a = lN d) : mdl c pz 99 (f_Model_lay 5000 KI VAL WI BE S SC PA TX LE fl (iI wz) (iI pz) (nI c) P hd T cn ex W (nI a) (nI 99)) [d] := by
  obtain ⟨r, r1, r2⟩ := mo_add (pc0 P) d (by decide)
  refine ⟨r.2, T, W, r.1, hd, cn, ex, ?_, r2⟩
  unfold f_Model_lay
  rw [nI_clamp (by omega), hK, h1, lN_i]
  exact ifp (inB_n ha) (ifn (qne 0 hk) (ifn (by decide) (ifn (by decide) (ifp (by decide) (ifp (inB_n ha) (bnd r1 rfl))))))
theorem ml_s {a k : Nat} (ha : a < 12) (hk : k ≠ 0) (hk8 : k < 8) (KI WI BE S SC TX LE : Nat → Int32) (VAL PA : Nat → Int64) (fl : Int32) (wz pz : Int) (c : Nat) (P T W : Nat → Int32) (hd cn ex : Int32) (hK : KI a = nI k) {L : List Nat} (h : ∃ r : Int32 × Int32 × Int32 × (Nat → Int32) × (Nat → Int32) × (Nat → Int32), (f_Model_textOf 5000 KI VAL BE S SC PA TX LE P T cn ex W (nI a)) = some r ∧ pcOK r.2.2.2.1 r.1 L) : mdl c pz 115 (f_Model_lay 5000 KI VAL WI BE S SC PA TX LE fl (iI wz) (iI pz) (nI c) P hd T cn ex W (nI a) (nI 115)) L := by
  obtain ⟨r, r1, r2⟩ := h
  refine ⟨r.2.2.2.1, r.2.2.2.2.1, r.2.2.2.2.2, r.1, hd, r.2.1, r.2.2.1, ?_, r2⟩
  unfold f_Model_lay
  rw [nI_clamp (by omega), hK]
  exact ifp (inB_n ha) (ifn (qne 0 hk) (ifn (by decide) (ifp (by decide) (bnd r1 rfl))))
theorem ml_w {a k s : Nat} (ha : a < 12) (hk : k ≠ 0) (hk8 : k < 8) (hs : s = 100 ∨ s = 111 ∨ s = 120) (KI WI BE S SC TX LE : Nat → Int32) (VAL PA : Nat → Int64) (fl : Int32) (wz pz : Int) (c : Nat) (P T W : Nat → Int32) (hd cn ex : Int32) (hK : KI a = nI k) {L : List Nat} (h : ∃ r : Int32 × Int32 × Int32 × (Nat → Int32) × (Nat → Int32) × (Nat → Int32), f_Model_wholes 5000 KI VAL WI BE S fl (iI wz) P 0 hd T cn W (nI a) (nI s) = some r ∧ pcOK r.2.2.2.1 r.1 L) : mdl c pz s (f_Model_lay 5000 KI VAL WI BE S SC PA TX LE fl (iI wz) (iI pz) (nI c) P hd T cn ex W (nI a) (nI s)) L := by
  obtain ⟨r, r1, r2⟩ := h
  refine ⟨r.2.2.2.1, r.2.2.2.2.1, r.2.2.2.2.2, r.1, r.2.1, r.2.2.1, ex, ?_, r2⟩
  unfold f_Model_lay k_Model_lay_127
  rw [nI_clamp (by omega), hK]
  refine ifp (inB_n ha) (ifn (qne 0 hk) ?_)
  rcases hs with rfl | rfl | rfl
  · exact ifn (by decide) (ifn (by decide) (ifn (by decide) (ifp (by decide) (bnd r1 rfl))))
  · exact ifn (by decide) (ifn (by decide) (ifn (by decide) (ifn (by decide) (ifp (by decide) (bnd r1 rfl)))))
  · exact ifn (by decide) (ifn (by decide) (ifn (by decide) (ifn (by decide) (ifn (by decide) (ifp (by decide) (bnd r1 rfl))))))
theorem ml_fl {a k s : Nat} (ha : a < 12) (hk : k ≠ 0) (hk8 : k < 8) (hs : s = 97 ∨ s = 101 ∨ s = 102 ∨ s = 103) (KI WI BE S SC TX LE : Nat → Int32) (VAL PA : Nat → Int64) (fl : Int32) (wz pz : Int) (c : Nat) (P T W : Nat → Int32) (hd cn ex : Int32) (hK : KI a = nI k) {X : Option MY} (h : ((f_Model_isLast KI VAL (nI a)).bind fun u_138 => (if u_138 = 0 then (if nI s = (97 : Int32) then ((f_Model_hexadecimal 5000 VAL BE fl (iI wz) (iI pz) P hd (nI a)).bind fun u_160 => k_Model_lay_172 5000 (iI pz) (nI c) (nI s) u_160.1 u_160.2.1 cn ex u_160.2.2 T W) else ((f_Model_floating 5000 KI BE S SC PA fl (iI wz) (iI pz) P hd T cn ex W (nI a) (nI s)).bind fun u_169 => k_Model_lay_172 5000 (iI pz) (nI c) (nI s) u_169.1 u_169.2.1 u_169.2.2.1 u_169.2.2.2.1 u_169.2.2.2.2.1 u_169.2.2.2.2.2.1 u_169.2.2.2.2.2.2)) else ((f_Model_last 5000 KI VAL BE fl (iI wz) P (nI a)).bind fun u_146 => k_Model_lay_172 5000 (iI pz) (nI c) (nI s) u_146.1 u_146.2.1 cn ex u_146.2.2 T W))) = X) : (f_Model_lay 5000 KI VAL WI BE S SC PA TX LE fl (iI wz) (iI pz) (nI c) P hd T cn ex W (nI a) (nI s)) = X := by
  unfold f_Model_lay
  rw [nI_clamp (by omega), hK]
  exact ifp (inB_n ha) (ifn (qne 0 hk) (ifn (qne 98 (by omega)) (ifn (qne 115 (by omega)) (ifn (qne 99 (by omega)) (ifn (qne 100 (by omega)) (ifn (qne 111 (by omega)) (ifn (qne 120 (by omega)) h)))))))
theorem ml_a {a : Nat} (ha : a < 12) (KI WI BE S SC TX LE : Nat → Int32) (VAL PA : Nat → Int64) (fl : Int32) (wz pz : Int) (c : Nat) (P T W : Nat → Int32) (hd cn ex : Int32) (hK : KI a = nI 6) (hL : f_Model_isLast KI VAL (nI a) = some 0) {L : List Nat} (h : ∃ r : Int32 × Int32 × (Nat → Int32), f_Model_hexadecimal 5000 VAL BE fl (iI wz) (iI pz) P hd (nI a) = some r ∧ pcOK r.2.2 r.1 L) : mdl c pz 97 (f_Model_lay 5000 KI VAL WI BE S SC PA TX LE fl (iI wz) (iI pz) (nI c) P hd T cn ex W (nI a) (nI 97)) L := by
  obtain ⟨r, r1, r2⟩ := h
  exact ⟨r.2.2, T, W, r.1, r.2.1, cn, ex, ml_fl (k := 6) ha (by omega) (by omega) (by omega) KI WI BE S SC TX LE VAL PA fl wz pz c P T W hd cn ex hK (bnd hL (ifp rfl (ifp (by decide) (bnd r1 rfl)))), r2⟩
theorem ml_f {a k s : Nat} (ha : a < 12) (hk : k ≠ 0) (hk8 : k < 8) (hs : s = 101 ∨ s = 102 ∨ s = 103) (KI WI BE S SC TX LE : Nat → Int32) (VAL PA : Nat → Int64) (fl : Int32) (wz pz : Int) (c : Nat) (P T W : Nat → Int32) (hd cn ex : Int32) (hK : KI a = nI k) (hL : f_Model_isLast KI VAL (nI a) = some 0) {L : List Nat} (h : ∃ r : Int32 × Int32 × Int32 × Int32 × (Nat → Int32) × (Nat → Int32) × (Nat → Int32), f_Model_floating 5000 KI BE S SC PA fl (iI wz) (iI pz) P hd T cn ex W (nI a) (nI s) = some r ∧ pcOK r.2.2.2.2.1 r.1 L) : mdl c pz s (f_Model_lay 5000 KI VAL WI BE S SC PA TX LE fl (iI wz) (iI pz) (nI c) P hd T cn ex W (nI a) (nI s)) L := by
  obtain ⟨r, r1, r2⟩ := h
  exact ⟨r.2.2.2.2.1, r.2.2.2.2.2.1, r.2.2.2.2.2.2, r.1, r.2.1, r.2.2.1, r.2.2.2.1, ml_fl (k := k) ha hk hk8 (by omega) KI WI BE S SC TX LE VAL PA fl wz pz c P T W hd cn ex hK (bnd hL (ifp rfl (ifn (qne 97 (by omega)) (bnd r1 rfl)))), r2⟩
theorem ml_l {a s : Nat} (ha : a < 12) (hs : s = 97 ∨ s = 101 ∨ s = 102 ∨ s = 103) (KI WI BE S SC TX LE : Nat → Int32) (VAL PA : Nat → Int64) (fl : Int32) (wz pz : Int) (c : Nat) (P T W : Nat → Int32) (hd cn ex : Int32) (hK : KI a = nI 6) {V : Nat} (hV : V < 2 ^ 64) (hVA : VAL a = lN V) (h1 : V / 2 ^ 52 % 2048 = 2047) {mb : Bool} (hB : BE a = bI mb) (hw : -1 ≤ wz ∧ wz ≤ 1000) : mdl c pz s (f_Model_lay 5000 KI VAL WI BE S SC PA TX LE fl (iI wz) (iI pz) (nI c) P hd T cn ex W (nI a) (nI s)) (if V % 2 ^ 52 = 0 then finL (sgn mb fl) [73, 110, 102, 105, 110, 105, 116, 121] (mb && hA fl 64) false wz.toNat else [78, 97, 78]) := by
  have a1 := mo_isLast (k := 6) (V := V) ha (by omega) hK (fun _ => ⟨hV, hVA⟩)
  have a2 := mo_isNone (k := 6) (V := V) ha (by omega) hK (fun _ => ⟨hV, hVA⟩)
  rw [decide_eq_true h1] at a1 a2
  have hbl : blB (bI mb) = true := by cases mb <;> decide
  by_cases h2 : V % 2 ^ 52 = 0
  · rw [if_pos h2]
    rw [decide_eq_true h2] at a2
    obtain ⟨s0, b1, b2, b3⟩ := mo_begin fl P 0 mb
    have hsl := sgn_len mb fl
    obtain ⟨r, r1, r2⟩ := mo_addWord (a := 5291279215216915577) (by decide) by_inf b2 (by omega)
    obtain ⟨q, q1, q2⟩ := mo_finish r2 (by show _ + 8 < 3900; omega) mb false fl hw
    refine ⟨q.2, T, W, q.1, s0.2.1, cn, ex, ml_fl (k := 6) ha (by omega) (by omega) hs KI WI BE S SC TX LE VAL PA fl wz pz c P T W hd cn ex hK (bnd a1 (ifn (by decide) ?_)), q2⟩
    have hl : f_Model_last 5000 KI VAL BE fl (iI wz) P (nI a) = some (q.1, s0.2.1, q.2) := by
      unfold f_Model_last
      rw [nI_clamp (by omega), hB]
      refine bnd a2 (ifp rfl (ifp (inB_n ha) (bnd b1 (ifp hbl (bnd r1 (ifp (inB_n ha) (bnd ?_ rfl)))))))
      rw [b3]
      exact q1
    exact bnd hl rfl
  · rw [if_neg h2]
    rw [decide_eq_false h2] at a2
    obtain ⟨r, r1, r2⟩ := mo_addWord (a := 5136718) (by decide) by_nan (pc0 P) (by decide)
    refine ⟨r.2, T, W, r.1, 0, cn, ex, ml_fl (k := 6) ha (by omega) (by omega) hs KI WI BE S SC TX LE VAL PA fl wz pz c P T W hd cn ex hK (bnd a1 (ifn (by decide) ?_)), r2⟩
    have hl : f_Model_last 5000 KI VAL BE fl (iI wz) P (nI a) = some (r.1, 0, r.2) := by
      unfold f_Model_last
      exact bnd a2 (ifn (by decide) (bnd r1 rfl))
    exact bnd hl rfl
abbrev TM : Type := Int32 × Int32 × Int32 × (Nat → Int32) × (Nat → Int32) × (Nat → Int32)
theorem mt_truth {a : Nat} (ha : a < 12) (KI BE S SC TX LE : Nat → Int32) (VAL PA : Nat → Int64) (P T W : Nat → Int32) (cn ex : Int32) (hK : KI a = nI 1) {is : Bool} (h1 : VAL a = lN (if is = true then 1 else 0)) : ∃ r : TM, (f_Model_textOf 5000 KI VAL BE S SC PA TX LE P T cn ex W (nI a)) = some r ∧ pcOK r.2.2.2.1 r.1 (trL is) := by
  obtain ⟨r, r1, r2⟩ := mo_addTruth is (pc0 P) (by decide)
  refine ⟨(r.1, cn, ex, r.2, T, W), ?_, r2⟩
  unfold f_Model_textOf k_Model_textOf_32
  rw [nI_clamp (by omega), hK, h1]
  refine ifp (inB_n ha) (ifp (by decide) (ifp (inB_n ha) ?_))
  cases is with
  | true => exact ifp (lN1.mpr rfl) (bnd r1 rfl)
  | false => exact ifn (fun z => by cases (lN1.mp z)) (bnd r1 rfl)
theorem mt_char {a d : Nat} (ha : a < 12) (KI BE S SC TX LE : Nat → Int32) (VAL PA : Nat → Int64) (P T W : Nat → Int32) (cn ex : Int32) (hK : KI a = nI 2) (h1 : VAL a = lN d) : ∃ r : TM, (f_Model_textOf 5000 KI VAL BE S SC PA TX LE P T cn ex W (nI a)) = some r ∧ pcOK r.2.2.2.1 r.1 [d] := by
  obtain ⟨r, r1, r2⟩ := mo_add (pc0 P) d (by decide)
  refine ⟨(r.1, cn, ex, r.2, T, W), ?_, r2⟩
  unfold f_Model_textOf
  rw [nI_clamp (by omega), hK, h1, lN_i]
  exact ifp (inB_n ha) (ifn (by decide) (ifp (inB_n ha) (ifp (by decide) (ifp (inB_n ha) (bnd r1 rfl)))))
theorem mt_whole {a k : Nat} (ha : a < 12) (hk : k = 3 ∨ k = 4) (KI BE S SC TX LE : Nat → Int32) (VAL PA : Nat → Int64) (P T W : Nat → Int32) (cn ex : Int32) (hK : KI a = nI k) {mb : Bool} (hB : BE a = bI mb) {g : Nat → Nat} (hS : k = 4 → szOK S a g) {V : Nat} (hV : k = 3 → V < 2 ^ 64 ∧ VAL a = lN V) {N : Nat} (hN : N = if k = 3 then shN V else vl B16 g 32) {below : Bool} (hbe : below = (mb && (decide (k = 3) || !decide (vl B16 g 32 = 0)))) : ∃ r : TM, (f_Model_textOf 5000 KI VAL BE S SC PA TX LE P T cn ex W (nI a)) = some r ∧ pcOK r.2.2.2.1 r.1 (mnL below ++ whL 10 N false) := by
  have h12 : inB (nI a) 12 = true := inB_n ha
  have fin : ∀ (p : Int32) (P : Nat → Int32) (L : List Nat), pcOK P p L → L.length ≤ 1 → ∃ r : TM, k_Model_textOf_125 5000 VAL S (nI a) (bI (decide (k = 3))) p cn ex P T W = some r ∧ pcOK r.2.2.2.1 r.1 (L ++ whL 10 N false) := by
    intro p P L hp hL
    unfold k_Model_textOf_125
    rcases hk with rfl | rfl
    · obtain ⟨hV1, hV2⟩ := hV rfl
      rw [if_pos rfl] at hN
      have hsh : N < 2 ^ 64 := by
        rw [hN]
        unfold shN
        by_cases h : 2 ^ 63 ≤ V
        · rw [if_pos h]; omega
        · rw [if_neg h]; omega
      obtain ⟨c', T', s1, s2⟩ := mo_spellLong (b := 10) (by omega) (by omega) hsh T cn
      obtain ⟨q, q1, q2⟩ := mo_addDigits (by omega) s2 hp (by omega)
      have habs := lN_abs hV1
      rw [← hN] at habs
      refine ⟨(q.1, c', ex, q.2, T', W), ifn (by decide) ?_, q2⟩
      rw [nI_clamp (by omega), hV2]
      refine ifp h12 ?_
      unfold k_Model_textOf_157 k_Model_textOf_172
      by_cases h0 : 0 ≤ lg_cmp (lN V) 0
      · refine ifp h0 (ifp h12 ?_)
        rw [habs.1 h0]
        exact bnd s1 (bnd q1 rfl)
      · refine ifn h0 (ifp h12 ?_)
        rw [habs.2 h0]
        exact bnd s1 (bnd q1 rfl)
    · rw [if_neg (by decide)] at hN
      obtain ⟨c', T', W', s1, s2⟩ := mo_spell (b := 10) (by omega) (by omega) (T := T) (W := W) ha (hS rfl) cn
      rw [← hN] at s2
      obtain ⟨q, q1, q2⟩ := mo_addDigits (by omega) s2 hp (by omega)
      refine ⟨(q.1, c', ex, q.2, T', W'), ifp rfl ?_, q2⟩
      unfold k_Model_textOf_172
      exact bnd s1 (bnd q1 rfl)
  have h97 : ∃ r : TM, k_Model_textOf_97 5000 VAL BE S (nI a) (bI (decide (k = 3))) 0 cn ex P T W = some r ∧ pcOK r.2.2.2.1 r.1 (mnL below ++ whL 10 N false) := by
    unfold k_Model_textOf_97 k_Model_textOf_119
    rw [nI_clamp (by omega), hB]
    obtain ⟨q, q1, q2⟩ := mo_add (pc0 P) 45 (by decide)
    obtain ⟨r0, f1, f2⟩ := fin 0 P [] (pc0 P) (by decide)
    obtain ⟨r1, g1, g2⟩ := fin q.1 q.2 _ q2 (by decide)
    cases mb with
    | false =>
      rw [hbe, Bool.false_and]
      exact ⟨r0, ifp h12 (ifp rfl f1), f2⟩
    | true =>
      rw [Bool.true_and] at hbe
      rcases hk with rfl | rfl
      · rw [hbe]
        exact ⟨r1, ifp h12 (ifn (by decide) (ifn (by decide) (bnd q1 g1))), g2⟩
      · have hz := mo_isZeroSize ha (hS rfl)
        by_cases h0 : vl B16 g 32 = 0
        · rw [decide_eq_true h0] at hz hbe
          rw [hbe]
          exact ⟨r0, ifp h12 (ifn (by decide) (ifp rfl (bnd hz (ifn (by decide) f1)))), f2⟩
        · rw [decide_eq_false h0] at hz hbe
          rw [hbe]
          exact ⟨r1, ifp h12 (ifn (by decide) (ifp rfl (bnd hz (ifp rfl (bnd q1 g1))))), g2⟩
  obtain ⟨r, r1, r2⟩ := h97
  refine ⟨r, ?_, r2⟩
  unfold f_Model_textOf k_Model_textOf_82
  rw [nI_clamp (by omega), hK]
  rcases hk with rfl | rfl
  · exact ifp h12 (ifn (by decide) (ifp h12 (ifn (by decide) (ifp h12 (ifp (by decide) (ifp h12 (ifp (by decide) r1)))))))
  · exact ifp h12 (ifn (by decide) (ifp h12 (ifn (by decide) (ifp h12 (ifn (by decide) (ifp h12 (ifp (by decide) (ifp h12 (ifn (by decide) r1)))))))))
theorem mt_text {a : Nat} (ha : a < 12) (KI BE S SC TX LE : Nat → Int32) (VAL PA : Nat → Int64) (P T W : Nat → Int32) (cn ex : Int32) (hK : KI a = nI 7) {L : List Nat} (hL : L.length ≤ 400) (h1 : LE a = nI L.length) (h2 : ∀ j, j < L.length → TX (400 * a + j) = nI (lk L j)) : ∃ r : TM, (f_Model_textOf 5000 KI VAL BE S SC PA TX LE P T cn ex W (nI a)) = some r ∧ pcOK r.2.2.2.1 r.1 L := by
  have h12 : inB (nI a) 12 = true := inB_n ha
  have run : ∀ (d i m : Nat) (p : Int32) (Q : Nat → Int32), i + d = L.length → d < m → pcOK Q p (L.take i) → ∃ r : TM, lp_ (b_Model_textOf_192 TX LE (nI a) cn ex T W) m (nI i, p, Q) = some r ∧ pcOK r.2.2.2.1 r.1 L := by
    intro d
    induction d with
    | zero =>
      intro i m p Q hi hm hQ
      obtain ⟨m, rfl⟩ : ∃ j, m = j + 1 := ⟨m - 1, by omega⟩
      rw [List.take_of_length_le (by omega)] at hQ
      refine ⟨(p, cn, ex, Q, T, W), ?_, hQ⟩
      show b_Model_textOf_192 TX LE (nI a) cn ex T W (lp_ (b_Model_textOf_192 TX LE (nI a) cn ex T W) m) _ = _
      rw [e_Model_textOf_192]
      rw [nI_clamp (by omega), h1]
      exact ifp h12 (ifp (nI_le (by omega) (by omega)) rfl)
    | succ d ih =>
      intro i m p Q hi hm hQ
      obtain ⟨m, rfl⟩ : ∃ j, m = j + 1 := ⟨m - 1, by omega⟩
      have hil : i < L.length := by omega
      obtain ⟨q, q1, q2⟩ := mo_add hQ (lk L i) (by rw [List.length_take]; omega)
      have et : L.take i ++ [lk L i] = L.take (i + 1) := by
        rw [lk_in hil, List.take_succ_eq_append_getElem hil]
      rw [et] at q2
      obtain ⟨r, r1, r2⟩ := ih (i + 1) m q.1 q.2 (by omega) (by omega) q2
      refine ⟨r, ?_, r2⟩
      show b_Model_textOf_192 TX LE (nI a) cn ex T W (lp_ (b_Model_textOf_192 TX LE (nI a) cn ex T W) m) _ = _
      generalize lp_ (b_Model_textOf_192 TX LE (nI a) cn ex T W) m = rc at r1 ⊢
      rw [e_Model_textOf_192]
      rw [show (400 : Int32) * nI a + nI i = nI (400 * a + i) from by rw [show (400 : Int32) * nI a = nI (400 * a) from pk_mul 400 a, nI_add], nI_1 i, nI_clamp (by omega), nI_clamp (by omega), h1, h2 i hil]
      exact ifp h12 (ifn (nI_ge (by omega) (by omega)) (ifp (inB_n (by omega)) (bnd q1 r1)))
  obtain ⟨r, r1, r2⟩ := run L.length 0 5000 0 P (by omega) (by omega) (pc0 P)
  refine ⟨r, ?_, r2⟩
  unfold f_Model_textOf
  rw [nI_clamp (by omega), hK]
  exact ifp h12 (ifn (by decide) (ifp h12 (ifn (by decide) (ifp h12 (ifn (by decide) (ifp h12 (ifn (by decide) (ifp h12 (ifp (by decide) r1)))))))))
theorem mt_56 {a k : Nat} (ha : a < 12) (hk : k = 5 ∨ k = 6) (KI BE S SC TX LE : Nat → Int32) (VAL PA : Nat → Int64) (P T W : Nat → Int32) (cn ex : Int32) (hK : KI a = nI k) {X : Option TM} (h : ((f_Model_isNone KI VAL (nI a)).bind fun u_229 => (if u_229 = 0 then ((f_Model_isBelow 5000 KI BE S (nI a)).bind fun u_248 => (if u_248 = 0 then k_Model_textOf_260 5000 KI VAL S SC PA (nI a) (0 : Int32) cn ex P T W else ((f_Model_add P (0 : Int32) (45 : Int32)).bind fun u_257 => k_Model_textOf_260 5000 KI VAL S SC PA (nI a) u_257.1 cn ex u_257.2 T W))) else ((f_Model_addWord 5000 P (0 : Int32) (5136718 : Int64) (0 : Int64)).bind fun u_240 => some (u_240.1, cn, ex, u_240.2, T, W)))) = X) : (f_Model_textOf 5000 KI VAL BE S SC PA TX LE P T cn ex W (nI a)) = X := by
  have h12 : inB (nI a) 12 = true := inB_n ha
  unfold f_Model_textOf
  rw [nI_clamp (by omega), hK]
  exact ifp h12 (ifn (qne 1 (by omega)) (ifp h12 (ifn (qne 2 (by omega)) (ifp h12 (ifn (qne 3 (by omega)) (ifp h12 (ifn (qne 4 (by omega)) (ifp h12 (ifn (qne 7 (by omega)) h)))))))))
theorem mt_sign {a : Nat} (KI BE S SC TX LE : Nat → Int32) (VAL PA : Nat → Int64) (P T W : Nat → Int32) (cn ex : Int32) {below : Bool} (hbe : f_Model_isBelow 5000 KI BE S (nI a) = some (bI below)) {L : List Nat} (h : ∀ (p : Int32) (Q : Nat → Int32), pcOK Q p (mnL below) → ∃ r : TM, k_Model_textOf_260 5000 KI VAL S SC PA (nI a) p cn ex Q T W = some r ∧ pcOK r.2.2.2.1 r.1 (mnL below ++ L)) : ∃ r : TM, ((f_Model_isBelow 5000 KI BE S (nI a)).bind fun u_248 => (if u_248 = 0 then k_Model_textOf_260 5000 KI VAL S SC PA (nI a) (0 : Int32) cn ex P T W else ((f_Model_add P (0 : Int32) (45 : Int32)).bind fun u_257 => k_Model_textOf_260 5000 KI VAL S SC PA (nI a) u_257.1 cn ex u_257.2 T W))) = some r ∧ pcOK r.2.2.2.1 r.1 (mnL below ++ L) := by
  cases below with
  | false =>
    obtain ⟨r, r1, r2⟩ := h 0 P (pc0 P)
    exact ⟨r, bnd hbe (ifp rfl r1), r2⟩
  | true =>
    obtain ⟨q, q1, q2⟩ := mo_add (pc0 P) 45 (by decide)
    obtain ⟨r, r1, r2⟩ := h q.1 q.2 q2
    exact ⟨r, bnd hbe (ifn (by decide) (bnd q1 r1)), r2⟩
theorem mt_dec {a : Nat} (ha : a < 12) (KI BE S SC TX LE : Nat → Int32) (VAL PA : Nat → Int64) (P T W : Nat → Int32) (cn ex : Int32) (hK : KI a = nI 5) {lo : Int} (hlo : -400 ≤ lo ∧ lo ≤ 400 ∧ SC a = iI (-lo)) {g : Nat → Nat} (hS : szOK S a g) (hn : nd 10 (vl B16 g 32) < 160) {below : Bool} (hbe : f_Model_isBelow 5000 KI BE S (nI a) = some (bI below)) : ∃ r : TM, (f_Model_textOf 5000 KI VAL BE S SC PA TX LE P T cn ex W (nI a)) = some r ∧ pcOK r.2.2.2.1 r.1 (mnL below ++ dtL (vl B16 g 32) lo) := by
  have h12 : inB (nI a) 12 = true := inB_n ha
  have a1 := mo_isLast (KI := KI) (VAL := VAL) (k := 5) (V := 0) ha (by omega) hK (fun z => absurd z (by omega))
  have a2 := mo_isNone (KI := KI) (VAL := VAL) (k := 5) (V := 0) ha (by omega) hK (fun z => absurd z (by omega))
  obtain ⟨T', W', t1, t2⟩ := mo_take (PA := PA) (k := 5) (d := 0) ha (by omega) hK hlo.2.2 (fun _ => hS) (fun z => absurd z (by omega)) (N := vl B16 g 32) (by rw [if_pos rfl]) T W cn ex
  have hml := mnL_len below
  obtain ⟨r, r1, r2⟩ := mt_sign KI BE S SC TX LE VAL PA P T W cn ex hbe (L := dtL (vl B16 g 32) lo) (fun p Q hQ => by
    obtain ⟨q, q1, q2⟩ := mo_dtext (mdR_of t2 lo) (by omega) ⟨hlo.1, hlo.2.1⟩ rfl W' hQ (by omega)
    refine ⟨(q.1, nI (nd 10 (vl B16 g 32)), iI (lo + (nd 10 (vl B16 g 32) : Int) - 1), q.2, T', W'), ?_, q2⟩
    have hd : f_Model_decimalText 5000 KI S SC PA Q p T cn ex W (nI a) = some (q.1, nI (nd 10 (vl B16 g 32)), iI (lo + (nd 10 (vl B16 g 32) : Int) - 1), q.2, T', W') := by
      unfold f_Model_decimalText
      rw [nI_clamp (by omega), hlo.2.2]
      refine bnd t1 (ifp h12 ?_)
      by_cases h0 : vl B16 g 32 = 0
      · rw [if_pos h0] at q1
        refine ifp ?_ q1
        show nI (nd 10 (vl B16 g 32)) = 0
        rw [h0, nd_0]
        rfl
      · rw [if_neg h0] at q1
        have := nd_pos (b := 10) (by omega) h0
        exact ifn (qne 0 (by omega)) q1
    unfold k_Model_textOf_260
    rw [nI_clamp (by omega), hK]
    exact bnd a1 (ifp rfl (ifp h12 (ifn (by decide) (bnd hd rfl)))))
  exact ⟨r, mt_56 ha (Or.inl rfl) KI BE S SC TX LE VAL PA P T W cn ex hK (bnd a2 (ifp rfl r1)), r2⟩
theorem mt_fr {a : Nat} (ha : a < 12) (KI BE S SC TX LE : Nat → Int32) (VAL PA : Nat → Int64) (P T W : Nat → Int32) (cn ex : Int32) (hK : KI a = nI 6) {lo : Int} (hlo : -400 ≤ lo ∧ lo ≤ 400 ∧ SC a = iI (-lo)) {V d : Nat} (hV : V < 2 ^ 64) (hVA : VAL a = lN V) (hd : d < 10 ^ 17) (hPA : PA a = lN d) {mb : Bool} (hB : BE a = bI mb) {z : Nat} (hz : d ≠ 0 → tzP d z) : ∃ r : TM, (f_Model_textOf 5000 KI VAL BE S SC PA TX LE P T cn ex W (nI a)) = some r ∧ pcOK r.2.2.2.1 r.1 (frL V d lo z mb) := by
  have h12 : inB (nI a) 12 = true := inB_n ha
  have a1 := mo_isLast (k := 6) (V := V) ha (by omega) hK (fun _ => ⟨hV, hVA⟩)
  have a2 := mo_isNone (k := 6) (V := V) ha (by omega) hK (fun _ => ⟨hV, hVA⟩)
  have a3 := mo_isBelow (S := S) (k := 6) ha (by omega) hK hB (g := fun _ => 0) (fun z => absurd rfl z)
  rw [show (mb && (decide (6 = 6) || !decide (vl B16 (fun _ => 0) 32 = 0))) = mb from by rw [decide_eq_true rfl, Bool.true_or, Bool.and_true]] at a3
  have hnd : nd 10 d ≤ 17 := nd_le (by omega) hd
  have hml := mnL_len mb
  unfold frL
  by_cases h1 : V / 2 ^ 52 % 2048 = 2047
  · rw [if_pos h1]
    rw [decide_eq_true h1] at a1 a2
    by_cases h2 : V % 2 ^ 52 = 0
    · rw [if_pos h2]
      rw [decide_eq_true h2] at a2
      obtain ⟨r, r1, r2⟩ := mt_sign KI BE S SC TX LE VAL PA P T W cn ex a3 (L := [73, 110, 102, 105, 110, 105, 116, 121]) (fun p Q hQ => by
        obtain ⟨q, q1, q2⟩ := mo_addWord (a := 5291279215216915577) (by decide) by_inf hQ (by omega)
        refine ⟨(q.1, cn, ex, q.2, T, W), ?_, q2⟩
        unfold k_Model_textOf_260
        exact bnd a1 (ifn (by decide) (bnd q1 rfl)))
      exact ⟨r, mt_56 ha (Or.inr rfl) KI BE S SC TX LE VAL PA P T W cn ex hK (bnd a2 (ifp rfl r1)), r2⟩
    · rw [if_neg h2]
      rw [decide_eq_false h2] at a2
      obtain ⟨q, q1, q2⟩ := mo_addWord (a := 5136718) (by decide) by_nan (pc0 P) (by decide)
      exact ⟨(q.1, cn, ex, q.2, T, W), mt_56 ha (Or.inr rfl) KI BE S SC TX LE VAL PA P T W cn ex hK (bnd a2 (ifn (by decide) (bnd q1 rfl))), q2⟩
  · rw [if_neg h1]
    rw [decide_eq_false h1] at a1 a2
    obtain ⟨T', W', t1, t2⟩ := mo_take (S := S) (k := 6) (d := d) (g := fun _ => 0) ha (by omega) hK hlo.2.2 (fun z => absurd z (by omega)) (fun _ => ⟨by omega, hPA⟩) (N := d) (by rw [if_neg (by omega)]) T W cn ex
    obtain ⟨r, r1, r2⟩ := mt_sign KI BE S SC TX LE VAL PA P T W cn ex a3 (L := ftL d lo z) (fun p Q hQ => by
      obtain ⟨q, c', x', q1, q2⟩ := mo_ftext t2 (by omega) ⟨hlo.1, hlo.2.1⟩ hz W' hQ (by omega)
      refine ⟨(q.1, c', x', q.2, T', W'), ?_, q2⟩
      have hf : f_Model_fractionText 5000 KI S SC PA Q p T cn ex W (nI a) = some (q.1, c', x', q.2, T', W') := by
        unfold f_Model_fractionText
        exact bnd t1 q1
      unfold k_Model_textOf_260
      rw [nI_clamp (by omega), hK]
      exact bnd a1 (ifp rfl (ifp h12 (ifp (by decide) (bnd hf rfl)))))
    exact ⟨r, mt_56 ha (Or.inr rfl) KI BE S SC TX LE VAL PA P T W cn ex hK (bnd a2 (ifp rfl r1)), r2⟩
