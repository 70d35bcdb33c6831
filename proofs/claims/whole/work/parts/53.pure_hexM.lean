theorem hxN_uniq {F n1 n2 : Nat} (h1 : hxN F n1) (h2 : hxN F n2) : n1 = n2 := by
  have key : ∀ a b : Nat, hxN F a → hxN F b → ¬ a < b := by
    intro a b ha hb hlt
    obtain ⟨a1, a2, a3, a4⟩ := ha
    obtain ⟨b1, b2, b3, b4⟩ := hb
    rcases b4 with b4 | b4
    · omega
    · apply b4
      have hd : 16 ^ (13 - a) = 16 ^ (13 - b) * (16 * 16 ^ (b - a - 1)) := by
        rw [← Nat.pow_succ', ← Nat.pow_add]
        congr 1
        omega
      have hF : F = 16 ^ (13 - b) * (16 * (16 ^ (b - a - 1) * (F / 16 ^ (13 - a)))) := by
        have := Nat.div_add_mod F (16 ^ (13 - a))
        rw [a3, Nat.add_zero] at this
        rw [← Nat.mul_assoc 16, ← Nat.mul_assoc, ← hd]
        exact this.symm
      rw [hF, Nat.mul_div_cancel_left _ (pw_pos (by omega) _), Nat.mul_mod_right]
  have := key n1 n2 h1 h2
  have := key n2 n1 h2 h1
  omega
theorem sh4 : ∀ k, k < 16 → ((((4 : Int32) * nI k).toInt64 &&& 63).toBitVec.smod 64).toNat = 4 * k := by decide +kernel
theorem mo_hexdigs {BE : Nat → Int32} {fl : Int32} {wz : Int} {a : Nat} {F : Nat} (hF : F < 2 ^ 52) {x : Int} (hx : -1200 ≤ x ∧ x ≤ 1200) (nz : Bool) {below : Bool} (ha : a < 12) (hB : BE a = bI below) (hw : -1 ≤ wz ∧ wz ≤ 1000) {hd : List Nat} {n : Nat} (hn : n ≤ 1000) : ∀ (r k m : Nat) (P : Nat → Int32) (p : Int32) (L : List Nat), k + r = n → r < m → hd.length + L.length + r + 8 ≤ 3800 → pcOK P p (hd ++ L) →
    ∃ s : Int32 × Int32 × (Nat → Int32), lp_ (b_Model_hexadecimal_339 5000 BE fl (iI wz) (nI a) (iI x) (bI nz) (lN F) (nI n) (nI hd.length)) m (nI k, p, P) = some s ∧ pcOK s.2.2 s.1 (finL hd (L ++ (hxDs F (k + 1) r ++ ([112] ++ nmL (if nz = true then 0 else x) 1))) (below && hA fl 64) (hA fl 16) wz.toNat) := by
  intro r
  induction r with
  | zero =>
    intro k m P p L hk hm hl hp
    obtain ⟨m, rfl⟩ : ∃ j, m = j + 1 := ⟨m - 1, by omega⟩
    obtain ⟨s1, y1, y2⟩ := mo_add hp 112 (by rw [List.length_append]; omega)
    rw [List.append_assoc] at y2
    have l1 : (L ++ [112]).length = L.length + 1 := by rw [List.length_append]; rfl
    have tail : ∀ (z : Int) (P : Nat → Int32) (p : Int32) (M : List Nat), -1200 ≤ z ∧ z ≤ 1200 → pcOK P p (hd ++ M) → M.length ≤ L.length + 2 → ∃ s : Int32 × Int32 × (Nat → Int32), k_Model_hexadecimal_411 5000 BE fl (iI wz) (nI a) (iI z) p (nI hd.length) P = some s ∧ pcOK s.2.2 s.1 (finL hd (M ++ pl z.natAbs (jj z.natAbs 1)) (below && hA fl 64) (hA fl 16) wz.toNat) := by
      intro z P p M hz hp hM
      obtain ⟨s2, w1, w2⟩ := mo_number (z := z) (least := 1) (by omega) (Or.inl rfl) hp (by rw [List.length_append]; omega)
      rw [List.append_assoc] at w2
      have hj := jj_le z.natAbs 1
      obtain ⟨s3, v1, v2⟩ := mo_finish w2 (by rw [List.length_append, pl_len]; omega) below true fl hw
      refine ⟨(s3.1, nI hd.length, s3.2), ?_, v2⟩
      unfold k_Model_hexadecimal_411
      try dsimp only
      refine bnd w1 (ifp (inB_n (by omega)) ?_)
      rw [nI_clamp (by omega), hB]
      refine bnd v1 (ifp ?_ rfl)
      cases below with
      | true => decide
      | false => decide
    have body : ∀ z : Int, -1200 ≤ z ∧ z ≤ 1200 → ∃ s : Int32 × Int32 × (Nat → Int32), k_Model_hexadecimal_398 5000 BE fl (iI wz) (nI a) (iI z) s1.1 (nI hd.length) s1.2 = some s ∧ pcOK s.2.2 s.1 (finL hd (L ++ ([112] ++ nmL z 1)) (below && hA fl 64) (hA fl 16) wz.toNat) := by
      intro z hz
      unfold k_Model_hexadecimal_398 nmL
      try dsimp only
      by_cases hneg : z < 0
      · rw [if_pos hneg]
        obtain ⟨s2, u1, u2⟩ := mo_add y2 45 (by rw [List.length_append, l1]; omega)
        rw [List.append_assoc] at u2
        obtain ⟨s3, v1, v2⟩ := tail z s2.2 s2.1 (L ++ [112] ++ [45]) hz u2 (by rw [List.length_append, l1]; exact Nat.le_refl _)
        refine ⟨s3, ifn (inle 0 z hneg) (bnd u1 v1), ?_⟩
        rw [List.append_assoc, List.append_assoc] at v2
        exact v2
      · rw [if_neg hneg]
        obtain ⟨s3, v1, v2⟩ := tail z s1.2 s1.1 (L ++ [112]) hz y2 (by rw [l1]; omega)
        refine ⟨s3, ifp (ile 0 z (by omega)) v1, ?_⟩
        rw [List.append_assoc] at v2
        exact v2
    cases nz with
    | true =>
      obtain ⟨s, q1, q2⟩ := body 0 (by omega)
      refine ⟨s, ?_, q2⟩
      show b_Model_hexadecimal_339 5000 BE fl (iI wz) (nI a) (iI x) (bI true) (lN F) (nI n) (nI hd.length) (lp_ (b_Model_hexadecimal_339 5000 BE fl (iI wz) (nI a) (iI x) (bI true) (lN F) (nI n) (nI hd.length)) m) _ = _
      rw [e_Model_hexadecimal_339]
      exact ifp (nI_le (by omega) (by omega)) (bnd y1 (ifn (by decide) q1))
    | false =>
      obtain ⟨s, q1, q2⟩ := body x hx
      refine ⟨s, ?_, q2⟩
      show b_Model_hexadecimal_339 5000 BE fl (iI wz) (nI a) (iI x) (bI false) (lN F) (nI n) (nI hd.length) (lp_ (b_Model_hexadecimal_339 5000 BE fl (iI wz) (nI a) (iI x) (bI false) (lN F) (nI n) (nI hd.length)) m) _ = _
      rw [e_Model_hexadecimal_339]
      exact ifp (nI_le (by omega) (by omega)) (bnd y1 (ifp rfl q1))
  | succ r ih =>
    intro k m P p L hk hm hl hp
    obtain ⟨m, rfl⟩ : ∃ j, m = j + 1 := ⟨m - 1, by omega⟩
    obtain ⟨s1, y1, y2⟩ := mo_addDigit hp (hxd_lt F (k + 1)) (by rw [List.length_append]; omega)
    rw [List.append_assoc] at y2
    obtain ⟨s, z1, z2⟩ := ih (k + 1) m s1.2 s1.1 _ (by omega) (by omega) (by rw [List.length_append]; show hd.length + (L.length + 1) + r + 8 ≤ 3800; omega) y2
    refine ⟨s, ?_, ?_⟩
    · rw [← z1]
      show b_Model_hexadecimal_339 5000 BE fl (iI wz) (nI a) (iI x) (bI nz) (lN F) (nI n) (nI hd.length) (lp_ (b_Model_hexadecimal_339 5000 BE fl (iI wz) (nI a) (iI x) (bI nz) (lN F) (nI n) (nI hd.length)) m) _ = _
      generalize lp_ (b_Model_hexadecimal_339 5000 BE fl (iI wz) (nI a) (iI x) (bI nz) (lN F) (nI n) (nI hd.length)) m = rc
      rw [e_Model_hexadecimal_339]
      unfold k_Model_hexadecimal_372
      rw [nI_1]
      refine ifn (nI_ge (by omega) (by omega)) ?_
      by_cases h13 : 13 ≤ k
      · refine ifp (rle 13 h13) ?_
        have e : hxd F (k + 1) = 0 := if_neg (by omega)
        rw [e] at y1
        exact bnd y1 rfl
      · refine ifn (rnle 13 (by omega)) ?_
        have e1 : lN F >>> (((4 : Int32) * ((12 : Int32) - nI k)).toInt64 &&& 63) = lN (F / 2 ^ (4 * (12 - k))) := by
          rw [show (12 : Int32) - nI k = nI (12 - k) from pk_sub (a := 12) (by omega)]
          exact pf_shr (sh4 (12 - k) (by omega)) (by omega)
        rw [e1, lN_i, and15, pw16]
        have e : hxd F (k + 1) = F / 16 ^ (12 - k) % 16 := by
          unfold hxd
          rw [if_pos (by omega), show 13 - (k + 1) = 12 - k by omega]
        rw [e] at y1
        exact bnd y1 rfl
    · rw [List.append_assoc] at z2
      exact z2
theorem mo_hexmany {BE : Nat → Int32} {fl wid a1 x6 x7 hd p : Int32} {P : Nat → Int32} {F : Nat} (hF : F < 2 ^ 52) : ∀ (d m : Nat), 1 ≤ d → d ≤ 13 → d < m → F % 16 ^ (13 - d) = 0 → ∃ n, hxN F n ∧ lp_ (b_Model_hexadecimal_286 5000 BE fl wid a1 (-1) x6 x7 (lN F) p hd P) m (nI d) = k_Model_hexadecimal_334 5000 BE fl wid a1 x6 x7 (lN F) (nI n) p hd P := by
  intro d
  induction d with
  | zero => intro m h; omega
  | succ d ih =>
    intro m _ hd13 hm hz
    obtain ⟨m, rfl⟩ : ∃ j, m = j + 1 := ⟨m - 1, by omega⟩
    have stop : (d + 1 = 1 ∨ F / 16 ^ (13 - (d + 1)) % 16 ≠ 0) → hxN F (d + 1) := fun h => ⟨by omega, hd13, hz, h⟩
    have fin : k_Model_hexadecimal_322 5000 BE fl wid a1 (-1) x6 x7 (lN F) (nI (d + 1)) p hd P = k_Model_hexadecimal_334 5000 BE fl wid a1 x6 x7 (lN F) (nI (d + 1)) p hd P := by
      unfold k_Model_hexadecimal_322
      try dsimp only
      exact ifp (by decide) rfl
    show ∃ n, hxN F n ∧ b_Model_hexadecimal_286 5000 BE fl wid a1 (-1) x6 x7 (lN F) p hd P (lp_ (b_Model_hexadecimal_286 5000 BE fl wid a1 (-1) x6 x7 (lN F) p hd P) m) (nI (d + 1)) = _
    by_cases h1 : d = 0
    · subst h1
      refine ⟨1, stop (Or.inl rfl), ?_⟩
      rw [e_Model_hexadecimal_286]
      exact ifp (by decide) fin
    · have e1 : (lN F >>> (((4 : Int32) * ((13 : Int32) - nI (d + 1))).toInt64 &&& 63)) &&& (15 : Int64) = lN (F / 16 ^ (13 - (d + 1)) % 16) := by
        rw [show (13 : Int32) - nI (d + 1) = nI (13 - (d + 1)) from pk_sub (a := 13) (by omega), sar_mask (s := 4 * (13 - (d + 1))) (k := 4) (sh4 _ (by omega)) (by decide) (by omega) (by omega), pw16]
      by_cases h2 : F / 16 ^ (13 - (d + 1)) % 16 = 0
      · have e5 : 13 - d = (13 - (d + 1)) + 1 := by omega
        have hz' : F % 16 ^ (13 - d) = 0 := by rw [e5, Nat.pow_succ, Nat.mod_mul, hz, h2, Nat.mul_zero]
        obtain ⟨n, q1, q2⟩ := ih m (by omega) (by omega) (by omega) hz'
        refine ⟨n, q1, ?_⟩
        rw [← q2]
        generalize lp_ (b_Model_hexadecimal_286 5000 BE fl wid a1 (-1) x6 x7 (lN F) p hd P) m = rc
        rw [e_Model_hexadecimal_286]
        rw [e1, h2, pk_m1]
        exact ifn (qnle 1 (by omega)) (ifn (by decide) (ifp (by decide) rfl))
      · refine ⟨d + 1, stop (Or.inr h2), ?_⟩
        rw [e_Model_hexadecimal_286]
        rw [e1]
        refine ifn (qnle 1 (by omega)) (ifn (by decide) (ifn (fun z => ?_) fin))
        rw [lg_cmp_eq] at z
        have hlt : F / 16 ^ (13 - (d + 1)) % 16 < 16 := Nat.mod_lt _ (by omega)
        exact h2 ((lN_eq64 (by omega) (by decide : 0 < 2 ^ 64)).mp z)
theorem mo_hexend {BE : Nat → Int32} {fl : Int32} {wz : Int} {a : Nat} {F : Nat} (hF : F < 2 ^ 52) {x : Int} (hx : -1200 ≤ x ∧ x ≤ 1200) (nz : Bool) {below : Bool} (ha : a < 12) (hB : BE a = bI below) (hw : -1 ≤ wz ∧ wz ≤ 1000) {hd : List Nat} (hhd : hd.length ≤ 10) {qz : Int} (hq : qz = -1 ∨ (1 ≤ qz ∧ qz ≤ 1000)) {P : Nat → Int32} {p : Int32} (hp : pcOK P p hd) {n : Nat} (hn : (qz = -1 → hxN F n) ∧ (qz ≠ -1 → (n : Int) = qz)) :
    ∃ s : Int32 × Int32 × (Nat → Int32), k_Model_hexadecimal_260 5000 BE fl (iI wz) (nI a) (iI qz) (iI x) (bI nz) (lN F) p (nI hd.length) P = some s ∧ pcOK s.2.2 s.1 (finL hd (hexL (if nz = true then 0 else 1) F (if nz = true then 0 else x) n) (below && hA fl 64) (hA fl 16) wz.toNat) := by
  have hn2 : n ≤ 1000 := by
    rcases hq with h | h
    · have := (hn.1 h).2.1
      omega
    · have := hn.2 (by omega)
      omega
  have run : ∀ ld : Nat, ld = (if nz = true then 0 else 1) → ∃ s : Int32 × Int32 × (Nat → Int32), k_Model_hexadecimal_273 5000 BE fl (iI wz) (nI a) (iI qz) (iI x) (bI nz) (lN F) (nI (48 + ld)) p (nI hd.length) P = some s ∧ pcOK s.2.2 s.1 (finL hd (hexL ld F (if nz = true then 0 else x) n) (below && hA fl 64) (hA fl 16) wz.toNat) := by
    intro ld hld
    obtain ⟨s1, y1, y2⟩ := mo_add hp (48 + ld) (by omega)
    obtain ⟨s2, z1, z2⟩ := mo_add y2 46 (by rw [List.length_append]; show hd.length + 1 < 4000; omega)
    rw [List.append_assoc] at z2
    obtain ⟨s3, w1, w2⟩ := mo_hexdigs (fl := fl) hF hx nz ha hB hw (hd := hd) (n := n) hn2 n 0 5000 s2.2 s2.1 ([48 + ld] ++ [46]) (by omega) (by omega) (by show hd.length + 2 + n + 8 ≤ 3800; omega) z2
    refine ⟨s3, ?_, ?_⟩
    · unfold k_Model_hexadecimal_273
      try dsimp only
      refine bnd y1 (bnd z1 ?_)
      rcases hq with h | h
      · obtain ⟨n2, v1, v2⟩ := mo_hexmany (BE := BE) (fl := fl) (wid := iI wz) (a1 := nI a) (x6 := iI x) (x7 := bI nz) (hd := nI hd.length) (p := s2.1) (P := s2.2) hF 13 5000 (by omega) (by omega) (by omega) (by rw [Nat.sub_self, Nat.pow_zero, Nat.mod_one])
        rw [hxN_uniq (hn.1 h) v1] at w1
        rw [h]
        refine Eq.trans v2 ?_
        unfold k_Model_hexadecimal_334
        try dsimp only
        exact w1
      · have hnq := hn.2 (by omega)
        show b_Model_hexadecimal_286 5000 BE fl (iI wz) (nI a) (iI qz) (iI x) (bI nz) (lN F) s2.1 (nI hd.length) s2.2 (lp_ (b_Model_hexadecimal_286 5000 BE fl (iI wz) (nI a) (iI qz) (iI x) (bI nz) (lN F) s2.1 (nI hd.length) s2.2) 4999) _ = _
        rw [e_Model_hexadecimal_286]
        unfold k_Model_hexadecimal_322 k_Model_hexadecimal_334
        refine ifn (by decide) (ifp (ile 0 qz (by omega)) (ifn (inle qz 0 (by omega)) ?_))
        rw [← hnq, iI_nat]
        exact w1
    · unfold hexL
      rw [← List.append_assoc [48 + ld]]
      exact w2
  unfold k_Model_hexadecimal_260
  try dsimp only
  cases nz with
  | true =>
    obtain ⟨s, q1, q2⟩ := run 0 rfl
    exact ⟨s, ifn (by decide) q1, q2⟩
  | false =>
    obtain ⟨s, q1, q2⟩ := run 1 rfl
    exact ⟨s, ifp rfl q1, q2⟩
theorem mo_hexround {BE : Nat → Int32} {fl : Int32} {wz : Int} {a : Nat} {F : Nat} (hF : F < 2 ^ 52) {x : Int} (hx : -1100 ≤ x ∧ x ≤ 1100) (k0 : Int32) {q : Nat} (hq1 : 1 ≤ q) (hq : q < 13) (p hd : Int32) (P : Nat → Int32) :
    k_Model_hexadecimal_143 5000 BE fl (iI wz) (nI a) (lN F) (nI q) (iI x) k0 p hd P = k_Model_hexadecimal_260 5000 BE fl (iI wz) (nI a) (nI q) (iI (hxX F q x)) k0 (lN (hxF F q)) p hd P := by
  have hp16 : 0 < 16 ^ (13 - q) := pw_pos (by omega) _
  have eU : (2 : Nat) ^ (4 * (13 - q)) = 16 ^ (13 - q) := pw16 _
  have hUle : 16 ^ (13 - q) ≤ 16 ^ 12 := pw_le (by omega) (by omega)
  have h12 : (16 : Nat) ^ 12 = 2 ^ 48 := by decide
  have e52 : (2 : Nat) ^ 52 = 16 ^ q * 16 ^ (13 - q) := by rw [← Nat.pow_add, show q + (13 - q) = 13 by omega]
  have eD : (4 : Int32) * ((13 : Int32) - nI q) = nI (4 * (13 - q)) := by rw [show (13 : Int32) - nI q = nI (13 - q) from pk_sub (a := 13) (by omega)]; exact pk_mul 4 (13 - q)
  have e1 : (1 : Int64) <<< ((nI (4 * (13 - q))).toInt64 &&& 63) = lN (16 ^ (13 - q)) := by
    have := wb_shl 1 (k := 4 * (13 - q)) (by omega)
    rw [Nat.one_mul, eU] at this
    exact this
  have hne : ¬ lN (16 ^ (13 - q)) = 0 := fun z => by
    have := (lN_eq64 (by omega) (by decide : 0 < 2 ^ 64)).mp z
    omega
  have hdm := Nat.div_add_mod F (16 ^ (13 - q))
  have hml := Nat.mod_lt F hp16
  have ekept : F - F % 16 ^ (13 - q) = F / 16 ^ (13 - q) * 16 ^ (13 - q) := by
    rw [Nat.mul_comm]
    omega
  have hkle : F / 16 ^ (13 - q) * 16 ^ (13 - q) ≤ F := Nat.div_mul_le_self _ _
  have hgl := hxG_le hF (show q ≤ 13 by omega)
  have hgU : hxG F q * 16 ^ (13 - q) ≤ 2 ^ 52 := by rw [e52]; exact Nat.mul_le_mul_right _ hgl
  have fin : ∀ g : Nat, g = hxG F q → k_Model_hexadecimal_243 5000 BE fl (iI wz) (nI a) (nI q) (iI x) k0 (lN (g * 16 ^ (13 - q))) p hd P = k_Model_hexadecimal_260 5000 BE fl (iI wz) (nI a) (nI q) (iI (hxX F q x)) k0 (lN (hxF F q)) p hd P := by
    intro g hg
    subst hg
    unfold k_Model_hexadecimal_243 hxX hxF
    try dsimp only
    by_cases hov : hxG F q = 16 ^ q
    · rw [if_pos hov, if_pos hov]
      refine ifp ?_ ?_
      · rw [lg_cmp_eq, hov, ← e52]
        exact c53.symm
      · rw [show (1 : Int32) = iI 1 from rfl, iI_add]
        rfl
    · rw [if_neg hov, if_neg hov]
      refine ifn (fun z => hov ?_) rfl
      rw [lg_cmp_eq, c53, lN_eq64 (by omega) (by decide), e52] at z
      exact Nat.eq_of_mul_eq_mul_right hp16 z
  unfold k_Model_hexadecimal_143
  try dsimp only
  rw [eD, e1]
  refine ifn (qnle 0 (by omega)) (ifn (rnle 13 hq) (ifn hne (ifn hne ?_)))
  rw [pk_lRem (by omega) hp16 (by omega), lN_sub (Nat.mod_le _ _), ekept, pk_lDiv (by omega) hp16 (by omega), Nat.mul_div_cancel _ hp16]
  have hodd : lN (F / 16 ^ (13 - q)) - lN (F / 16 ^ (13 - q)) / (2 : Int64) * (2 : Int64) = lN (F / 16 ^ (13 - q) % 2) := by
    have hd := Nat.div_le_self F (16 ^ (13 - q))
    exact pk_lRem (b := 2) (by omega) (by omega) (by omega)
  rw [hodd]
  have e2r : (2 : Int64) * lN (F % 16 ^ (13 - q)) = lN (2 * (F % 16 ^ (13 - q))) := lN_mul 2 _
  have k202 : ∀ b : Bool, (b = true ↔ F / 16 ^ (13 - q) % 2 = 1) → k_Model_hexadecimal_202 5000 BE fl (iI wz) (nI a) (nI q) (iI x) k0 (lN (F / 16 ^ (13 - q) * 16 ^ (13 - q))) (lN (16 ^ (13 - q))) (lN (F % 16 ^ (13 - q))) (bI b) p hd P = k_Model_hexadecimal_260 5000 BE fl (iI wz) (nI a) (nI q) (iI (hxX F q x)) k0 (lN (hxF F q)) p hd P := by
    intro b hb
    unfold k_Model_hexadecimal_202 k_Model_hexadecimal_233 k_Model_hexadecimal_241
    try dsimp only
    rw [e2r, lN_add]
    have up : (16 ^ (13 - q) < 2 * (F % 16 ^ (13 - q)) ∨ (2 * (F % 16 ^ (13 - q)) = 16 ^ (13 - q) ∧ F / 16 ^ (13 - q) % 2 = 1)) → k_Model_hexadecimal_243 5000 BE fl (iI wz) (nI a) (nI q) (iI x) k0 (lN (F / 16 ^ (13 - q) * 16 ^ (13 - q) + 16 ^ (13 - q))) p hd P = k_Model_hexadecimal_260 5000 BE fl (iI wz) (nI a) (nI q) (iI (hxX F q x)) k0 (lN (hxF F q)) p hd P := by
      intro h
      rw [← Nat.succ_mul]
      exact fin _ (by unfold hxG; rw [if_pos h])
    have down : ¬ (16 ^ (13 - q) < 2 * (F % 16 ^ (13 - q)) ∨ (2 * (F % 16 ^ (13 - q)) = 16 ^ (13 - q) ∧ F / 16 ^ (13 - q) % 2 = 1)) → k_Model_hexadecimal_243 5000 BE fl (iI wz) (nI a) (nI q) (iI x) k0 (lN (F / 16 ^ (13 - q) * 16 ^ (13 - q))) p hd P = k_Model_hexadecimal_260 5000 BE fl (iI wz) (nI a) (nI q) (iI (hxX F q x)) k0 (lN (hxF F q)) p hd P := by
      intro h
      exact fin _ (by unfold hxG; rw [if_neg h]; rfl)
    by_cases c1 : 16 ^ (13 - q) < 2 * (F % 16 ^ (13 - q))
    · exact ifp ((lg_cmp_gt _ _).mpr ((pk_lLT (by omega) (by omega)).mpr c1)) (up (Or.inl c1))
    · refine ifn (fun z => c1 ((pk_lLT (by omega) (by omega)).mp ((lg_cmp_gt _ _).mp z))) ?_
      by_cases c2 : 2 * (F % 16 ^ (13 - q)) = 16 ^ (13 - q)
      · refine ifp ((lg_cmp_eq _ _).mpr (by rw [c2])) ?_
        cases b with
        | true => exact ifn (by decide) (up (Or.inr ⟨c2, hb.mp rfl⟩))
        | false => exact ifp rfl (down (fun z => z.elim c1 (fun y => by have := hb.mpr y.2; cases this)))
      · refine ifn (fun z => c2 ?_) (down (fun z => z.elim c1 (fun y => c2 y.1)))
        rw [lg_cmp_eq, lN_eq64 (by omega) (by omega)] at z
        exact z
  by_cases h2 : F / 16 ^ (13 - q) % 2 = 1
  · refine ifp ((lg_cmp_eq _ _).mpr (by rw [h2]; rfl)) ?_
    exact k202 true ⟨fun _ => h2, fun _ => rfl⟩
  · refine ifn (fun z => h2 ?_) ?_
    · rw [lg_cmp_eq, show (1 : Int64) = lN 1 from rfl, lN_eq64 (by omega) (by decide)] at z
      exact z
    · exact k202 false ⟨fun z => (by cases z), fun z => absurd z h2⟩
def hexP (F : Nat) (x pz : Int) (F' : Nat) (x' : Int) (n : Nat) : Prop :=
  (pz = -1 ∧ hxN F n ∧ F' = F ∧ x' = x) ∨ (0 ≤ pz ∧ n = max 1 pz.toNat ∧ ((n < 13 ∧ F' = hxF F n ∧ x' = hxX F n x) ∨ (13 ≤ n ∧ F' = F ∧ x' = x)))
theorem hxF_lt {F q : Nat} (hF : F < 2 ^ 52) (hq : q ≤ 13) : hxF F q < 2 ^ 52 := by
  have h := hxG_le hF hq
  have hp := pw_pos (b := 16) (by omega) (13 - q)
  unfold hxF
  by_cases hov : hxG F q = 16 ^ q
  · rw [if_pos hov]
    decide
  · rw [if_neg hov, show (2 : Nat) ^ 52 = 16 ^ q * 16 ^ (13 - q) by rw [← Nat.pow_add, show q + (13 - q) = 13 by omega]]
    exact Nat.mul_lt_mul_of_pos_right (by omega) hp
theorem hxX_r {F q : Nat} {x : Int} : hxX F q x = x ∨ hxX F q x = x + 1 := by
  unfold hxX
  by_cases hov : hxG F q = 16 ^ q
  · rw [if_pos hov]
    exact Or.inr rfl
  · rw [if_neg hov]
    exact Or.inl rfl
theorem hxG_0 {q : Nat} (hq : 1 ≤ q) : hxG 0 q ≠ 16 ^ q := by
  have h1 : 16 ^ 1 ≤ 16 ^ q := pw_le (by omega) hq
  have hp := pw_pos (b := 16) (by omega) (13 - q)
  unfold hxG
  rw [Nat.zero_div, Nat.zero_mod, if_neg (fun z => by omega)]
  omega
theorem mo_hexmid {BE : Nat → Int32} {fl : Int32} {wz : Int} {a : Nat} {F : Nat} (hF : F < 2 ^ 52) {x x0 : Int} (hx : -1100 ≤ x ∧ x ≤ 1100) (hx0 : -1100 ≤ x0 ∧ x0 ≤ 1100) (nz : Bool) (hnz : (nz = true → F = 0 ∧ x = 0) ∧ (nz = false → x0 = x)) {below : Bool} (ha : a < 12) (hB : BE a = bI below) (hw : -1 ≤ wz ∧ wz ≤ 1000) {hd : List Nat} (hhd : hd.length ≤ 10) {pz : Int} (hpz : -1 ≤ pz ∧ pz ≤ 1000) {P : Nat → Int32} {p : Int32} (hp : pcOK P p hd) {F' n : Nat} {x' : Int} (hP : hexP F x pz F' x' n) :
    ∃ s : Int32 × Int32 × (Nat → Int32), k_Model_hexadecimal_143 5000 BE fl (iI wz) (nI a) (lN F) (iI (if pz = 0 then 1 else pz)) (iI x0) (bI nz) p (nI hd.length) P = some s ∧ pcOK s.2.2 s.1 (finL hd (hexL (if nz = true then 0 else 1) F' x' n) (below && hA fl 64) (hA fl 16) wz.toNat) := by
  rcases hP with ⟨rfl, h1, rfl, rfl⟩ | ⟨h0, hn, h2⟩
  · obtain ⟨s, q1, q2⟩ := mo_hexend (fl := fl) hF (x := x0) (by omega) nz ha hB hw hhd (qz := -1) (Or.inl rfl) hp (n := n) ⟨fun _ => h1, fun z => absurd rfl z⟩
    refine ⟨s, ?_, ?_⟩
    · rw [if_neg (by omega)]
      unfold k_Model_hexadecimal_143
      try dsimp only
      exact ifp (by decide) q1
    · have e : (if nz = true then 0 else x0) = x' := by
        cases nz with
        | true => rw [if_pos rfl, (hnz.1 rfl).2]
        | false => rw [if_neg (show ¬ false = true by decide), hnz.2 rfl]
      rw [e] at q2
      exact q2
  · have hq : (if pz = 0 then 1 else pz) = (n : Int) := by
      by_cases h : pz = 0
      · rw [if_pos h, hn]
        omega
      · rw [if_neg h, hn]
        omega
    have hn1 : 1 ≤ n ∧ n ≤ 1000 := by omega
    rw [hq, iI_nat]
    rcases h2 with ⟨h3, rfl, rfl⟩ | ⟨h3, rfl, rfl⟩
    · rw [mo_hexround hF hx0 (bI nz) hn1.1 h3]
      have hr := hxX_r (F := F) (q := n) (x := x0)
      obtain ⟨s, q1, q2⟩ := mo_hexend (fl := fl) (hxF_lt hF (by omega) : hxF F n < 2 ^ 52) (x := hxX F n x0) (by omega) nz ha hB hw hhd (qz := (n : Int)) (Or.inr (by omega)) hp (n := n) ⟨fun z => by omega, fun _ => rfl⟩
      rw [iI_nat] at q1
      refine ⟨s, q1, ?_⟩
      have e : (if nz = true then 0 else hxX F n x0) = hxX F n x := by
        cases nz with
        | true =>
          rw [if_pos rfl, (hnz.1 rfl).2]
          unfold hxX
          rw [(hnz.1 rfl).1, if_neg (hxG_0 hn1.1)]
        | false => rw [if_neg (show ¬ false = true by decide), hnz.2 rfl]
      rw [e] at q2
      exact q2
    · obtain ⟨s, q1, q2⟩ := mo_hexend (fl := fl) hF (x := x0) (by omega) nz ha hB hw hhd (qz := (n : Int)) (Or.inr (by omega)) hp (n := n) ⟨fun z => by omega, fun _ => rfl⟩
      rw [iI_nat] at q1
      refine ⟨s, ?_, ?_⟩
      · unfold k_Model_hexadecimal_143
        try dsimp only
        exact ifn (qnle 0 (by omega)) (ifp (rle 13 h3) q1)
      · have e : (if nz = true then 0 else x0) = x' := by
          cases nz with
          | true => rw [if_pos rfl, (hnz.1 rfl).2]
          | false => rw [if_neg (show ¬ false = true by decide), hnz.2 rfl]
        rw [e] at q2
        exact q2
theorem mo_hexloop {VAL : Nat → Int64} {BE : Nat → Int32} {fl wid a1 x2 x5 p hd : Int32} {P : Nat → Int32} {y s F : Nat} (hF : F < 2 ^ 52) (hs : s ≤ 52) (hy : y * 2 ^ s = 2 ^ 52 + F) (hmin : ∀ i, i < s → y * 2 ^ i < 2 ^ 52) : ∀ (d i m : Nat), i + d = s → d < m → lp_ (b_Model_hexadecimal_95 5000 VAL BE fl wid a1 x2 x5 p hd P) m (lN (y * 2 ^ i), iI (-1022 - (i : Int))) = k_Model_hexadecimal_121 5000 VAL BE fl wid a1 x2 (lN F) x5 (iI (-1022 - (s : Int))) p hd P := by
  intro d
  induction d with
  | zero =>
    intro i m hi hm
    obtain ⟨m, rfl⟩ : ∃ j, m = j + 1 := ⟨m - 1, by omega⟩
    obtain rfl : i = s := by omega
    rw [hy]
    show b_Model_hexadecimal_95 5000 VAL BE fl wid a1 x2 x5 p hd P (lp_ (b_Model_hexadecimal_95 5000 VAL BE fl wid a1 x2 x5 p hd P) m) _ = _
    rw [e_Model_hexadecimal_95]
    rw [c53, lN_sub (by omega), Nat.add_sub_cancel_left]
    exact ifp ((lg_cmp_ge _ _).mpr ((pk_lLE (by omega) (by omega)).mpr (by omega))) rfl
  | succ d ih =>
    intro i m hi hm
    obtain ⟨m, rfl⟩ : ∃ j, m = j + 1 := ⟨m - 1, by omega⟩
    have hlt := hmin i (by omega)
    rw [← ih (i + 1) m (by omega) (by omega)]
    show b_Model_hexadecimal_95 5000 VAL BE fl wid a1 x2 x5 p hd P (lp_ (b_Model_hexadecimal_95 5000 VAL BE fl wid a1 x2 x5 p hd P) m) _ = _
    generalize lp_ (b_Model_hexadecimal_95 5000 VAL BE fl wid a1 x2 x5 p hd P) m = rc
    rw [e_Model_hexadecimal_95]
    refine ifn (fun z => ?_) ?_
    · rw [lg_cmp_ge, c53, pk_lLE (by omega) (by omega)] at z
      omega
    · rw [show (2 : Int64) * lN (y * 2 ^ i) = lN (2 * (y * 2 ^ i)) from lN_mul 2 _, show 2 * (y * 2 ^ i) = y * 2 ^ (i + 1) by rw [Nat.pow_succ, Nat.mul_comm 2, Nat.mul_assoc], show (-1 : Int32) = iI (-1) from rfl, iI_add, show -1022 - (i : Int) + -1 = -1022 - ((i + 1 : Nat) : Int) by omega]
theorem mo_hex {VAL : Nat → Int64} {BE : Nat → Int32} {fl : Int32} {wz : Int} {a V : Nat} (hV : V < 2 ^ 64) (hVA : VAL a = lN V) {below : Bool} (ha : a < 12) (hB : BE a = bI below) (hw : -1 ≤ wz ∧ wz ≤ 1000) {pz : Int} (hpz : -1 ≤ pz ∧ pz ≤ 1000) (P : Nat → Int32) (hdI : Int32) {ld F F' n : Nat} {x x' : Int} (hS : hxS V ld F x) (hP : hexP F x pz F' x' n) :
    ∃ s : Int32 × Int32 × (Nat → Int32), f_Model_hexadecimal 5000 VAL BE fl (iI wz) (iI pz) P hdI (nI a) = some s ∧ pcOK s.2.2 s.1 (finL (sgn below fl ++ [48, 120]) (hexL ld F' x' n) (below && hA fl 64) (hA fl 16) wz.toNat) := by
  have hsl := sgn_len below fl
  obtain ⟨s1, y1, y2, y3⟩ := mo_begin fl P hdI below
  obtain ⟨s2, z1, z2⟩ := mo_add y2 48 (by omega)
  obtain ⟨s3, w1, w2⟩ := mo_add z2 120 (by rw [List.length_append]; show _ + 1 < 4000; omega)
  rw [List.append_assoc] at w2
  have hlh : (sgn below fl ++ [48, 120]).length ≤ 10 := by rw [List.length_append]; show _ + 2 ≤ 10; omega
  have hs31 : s3.1 = nI (sgn below fl ++ [48, 120]).length := w2.1
  have hlt := hxS_lt hS
  have em : lN V &&& (4503599627370495 : Int64) = lN (V % 2 ^ 52) := by rw [c52]; exact wb_mask hV (by omega)
  have ee : ((lN V >>> ((52 : Int32).toInt64 &&& 63)) &&& (2047 : Int64)).toInt32 = nI (V / 2 ^ 52 % 2048) := by
    rw [sar_mask (s := 52) (k := 11) (by decide) (by decide) (by omega) hV, lN_i]
  have mid : ∀ (nz : Bool) (x0 : Int), -1100 ≤ x0 ∧ x0 ≤ 1100 → (nz = true → F = 0 ∧ x = 0) → (nz = false → x0 = x) → ld = (if nz = true then 0 else 1) → ∃ s : Int32 × Int32 × (Nat → Int32), k_Model_hexadecimal_143 5000 BE fl (iI wz) (nI a) (lN F) (iI (if pz = 0 then 1 else pz)) (iI x0) (bI nz) s3.1 s3.1 s3.2 = some s ∧ pcOK s.2.2 s.1 (finL (sgn below fl ++ [48, 120]) (hexL ld F' x' n) (below && hA fl 64) (hA fl 16) wz.toNat) := by
    intro nz x0 h1 h2 h3 h4
    rw [h4]
    obtain ⟨s, q1, q2⟩ := mo_hexmid (fl := fl) hlt.1 (x := x) (x0 := x0) (by omega) h1 nz ⟨h2, h3⟩ ha hB hw hlh hpz w2 hP
    refine ⟨s, ?_, q2⟩
    rw [← hs31] at q1
    exact q1
  have front : ∃ s : Int32 × Int32 × (Nat → Int32), k_Model_hexadecimal_71 5000 VAL BE fl (iI wz) (nI a) (nI (V / 2 ^ 52 % 2048)) (lN (V % 2 ^ 52)) (iI (if pz = 0 then 1 else pz)) s3.1 s3.1 s3.2 = some s ∧ pcOK s.2.2 s.1 (finL (sgn below fl ++ [48, 120]) (hexL ld F' x' n) (below && hA fl 64) (hA fl 16) wz.toNat) := by
    have hml := Nat.mod_lt V (show 0 < 2 ^ 52 by decide)
    have hel := Nat.mod_lt (V / 2 ^ 52) (show 0 < 2048 by decide)
    unfold k_Model_hexadecimal_71
    try dsimp only
    rcases id hS with ⟨c1, c2, c3, c4⟩ | ⟨c1, c2, c3, c4, c5⟩ | ⟨c1, c2, c3, s, c4, c5, c6, c7⟩
    · obtain ⟨s, q1, q2⟩ := mid false x (by omega) (fun z => by cases z) (fun _ => rfl) c2
      refine ⟨s, ifn (qne 0 c1) ?_, q2⟩
      unfold k_Model_hexadecimal_121 k_Model_hexadecimal_142
      try dsimp only
      refine ifn (qne 0 c1) ?_
      rw [← c3, ← iI_nat (V / 2 ^ 52 % 2048), show (1023 : Int32) = iI 1023 from rfl, iI_sub, ← c4]
      exact q1
    · obtain ⟨s, q1, q2⟩ := mid true (-1023) (by omega) (fun _ => ⟨c4, c5⟩) (fun z => by cases z) c3
      refine ⟨s, ?_, q2⟩
      rw [c1, c2]
      rw [c4] at q1
      refine ifp rfl (ifp (by decide) ?_)
      unfold k_Model_hexadecimal_121
      try dsimp only
      refine ifp rfl (ifp (inB_n (by omega)) (ifp ?_ q1))
      rw [nI_clamp (by omega), hVA, show lN V <<< ((1 : Int32).toInt64 &&& 63) = lN (V * 2 ^ 1) from wb_shl V (k := 1) (by omega), wb_mod, show V * 2 ^ 1 % 2 ^ 64 = 0 by omega]
      decide
    · obtain ⟨s', q1, q2⟩ := mid false x (by omega) (fun z => by cases z) (fun _ => rfl) c3
      refine ⟨s', ?_, q2⟩
      rw [c1]
      refine ifp rfl (ifn (fun z => ?_) ?_)
      · rw [lg_cmp_eq] at z
        exact c2 ((lN_eq64 (by omega) (by decide : 0 < 2 ^ 64)).mp z)
      · have hmin : ∀ i, i < s → V % 2 ^ 52 * 2 ^ i < 2 ^ 52 := by
          intro i hi
          have e1 : V % 2 ^ 52 * 2 ^ s = (V % 2 ^ 52 * 2 ^ i) * (2 * 2 ^ (s - i - 1)) := by
            rw [Nat.mul_assoc, ← Nat.pow_succ', ← Nat.pow_add]
            congr 2
            omega
          have e2 : (V % 2 ^ 52 * 2 ^ i) * (2 * 1) ≤ (V % 2 ^ 52 * 2 ^ i) * (2 * 2 ^ (s - i - 1)) := Nat.mul_le_mul_left _ (Nat.mul_le_mul_left _ (pw_pos (by omega) _))
          omega
        have := mo_hexloop (VAL := VAL) (BE := BE) (fl := fl) (wid := iI wz) (a1 := nI a) (x2 := nI 0) (x5 := iI (if pz = 0 then 1 else pz)) (p := s3.1) (hd := s3.1) (P := s3.2) c6 c4 c5 hmin s 0 5000 (by omega) (by omega)
        rw [Nat.pow_zero, Nat.mul_one] at this
        refine Eq.trans this ?_
        unfold k_Model_hexadecimal_121 k_Model_hexadecimal_142
        try dsimp only
        rw [← c7]
        refine ifp rfl (ifp (inB_n (by omega)) (ifn (fun z => ?_) q1))
        rw [nI_clamp (by omega), hVA, show lN V <<< ((1 : Int32).toInt64 &&& 63) = lN (V * 2 ^ 1) from wb_shl V (k := 1) (by omega), wb_mod, lg_cmp_eq] at z
        have := (lN_eq64 (Nat.mod_lt _ (by decide)) (by decide : 0 < 2 ^ 64)).mp z
        omega
  obtain ⟨s, q1, q2⟩ := front
  refine ⟨s, ?_, q2⟩
  have hbl : blB (bI below) = true := by cases below <;> decide
  unfold f_Model_hexadecimal
  rw [nI_clamp (by omega), hB, hVA, ee, em]
  refine ifp (inB_n (by omega)) (bnd y1 (ifp hbl (bnd z1 (bnd w1 (ifp (inB_n (by omega)) (ifp (inB_n (by omega)) ?_))))))
  by_cases h0 : pz = 0
  · rw [if_pos h0] at q1
    exact ifp (ieq pz 0 h0) q1
  · rw [if_neg h0] at q1
    exact ifn (ine pz 0 h0) q1
