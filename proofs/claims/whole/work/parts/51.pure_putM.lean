theorem mo_shift {hd lacks L0 : Nat} (hL : L0 + lacks ≤ 4000) (P0 : Nat → Int32) (p : Int32) : ∀ (d m : Nat) (P : Nat → Int32), hd + d ≤ L0 → d < m → 0 < lacks → (∀ j, P j = if hd + d + lacks ≤ j ∧ j < L0 + lacks then P0 (j - lacks) else P0 j) → ∃ P', lp_ (b_Model_finish_59 5000 (nI hd) (nI lacks) p) m (iI ((hd : Int) + d - 1), P) = lp_ (b_Model_finish_93 (nI hd) (nI lacks) p) 5000 (0, P') ∧ ∀ j, P' j = if hd + lacks ≤ j ∧ j < L0 + lacks then P0 (j - lacks) else P0 j := by
  intro d
  induction d with
  | zero =>
    intro m P hd0 hm hl h
    obtain ⟨m, rfl⟩ : ∃ j, m = j + 1 := ⟨m - 1, by omega⟩
    refine ⟨P, ?_, h⟩
    show b_Model_finish_59 5000 (nI hd) (nI lacks) p (lp_ (b_Model_finish_59 5000 (nI hd) (nI lacks) p) m) _ = _
    rw [e_Model_finish_59]
    exact ifp (ilt _ (hd : Int) (by omega) rfl (iI_nat hd).symm) rfl
  | succ d ih =>
    intro m P hd0 hm hl h
    obtain ⟨m, rfl⟩ : ∃ j, m = j + 1 := ⟨m - 1, by omega⟩
    obtain ⟨P', z1, z2⟩ := ih m (upd P (hd + d + lacks) (P (hd + d))) (by omega) (by omega) hl (fun j => by
      by_cases e : j = hd + d + lacks
      · subst e
        rw [pk_us, if_pos (by omega), h (hd + d), if_neg (by omega), show hd + d + lacks - lacks = hd + d by omega]
      · rw [pk_un e, h j]
        by_cases e2 : hd + (d + 1) + lacks ≤ j ∧ j < L0 + lacks
        · rw [if_pos e2, if_pos (by omega)]
        · rw [if_neg e2, if_neg (by omega)])
    refine ⟨P', ?_, z2⟩
    rw [← z1]
    show b_Model_finish_59 5000 (nI hd) (nI lacks) p (lp_ (b_Model_finish_59 5000 (nI hd) (nI lacks) p) m) _ = _
    generalize lp_ (b_Model_finish_59 5000 (nI hd) (nI lacks) p) m = rc
    rw [e_Model_finish_59]
    rw [show iI ((hd : Int) + ((d + 1 : Nat) : Int) - 1) = nI (hd + d) from by rw [← iI_nat]; congr 1; omega, nI_add]
    refine ifn (nI_nlt (by omega) (by omega)) (ifp (inB_n (by omega)) (ifp (inB_n (by omega)) ?_))
    rw [nI_clamp (by omega), nI_clamp (by omega), show nI (hd + d) + (-1 : Int32) = iI ((hd : Int) + (d : Int) - 1) from by rw [← iI_nat, show (-1 : Int32) = iI (-1) from rfl, iI_add]; congr 1]
theorem mo_zeros {hd lacks : Nat} (hL : hd + lacks ≤ 4000) (p : Int32) (P0 : Nat → Int32) : ∀ (d k m : Nat) (P : Nat → Int32), k + d = lacks → d < m → (∀ j, P j = if hd ≤ j ∧ j < hd + k then 48 else P0 j) → ∃ P', lp_ (b_Model_finish_93 (nI hd) (nI lacks) p) m (nI k, P) = some (p + nI lacks, P') ∧ ∀ j, P' j = if hd ≤ j ∧ j < hd + lacks then 48 else P0 j := by
  intro d
  induction d with
  | zero =>
    intro k m P hk hm h
    obtain ⟨m, rfl⟩ : ∃ j, m = j + 1 := ⟨m - 1, by omega⟩
    refine ⟨P, ?_, fun j => by rw [h j, show k = lacks by omega]⟩
    show b_Model_finish_93 (nI hd) (nI lacks) p (lp_ (b_Model_finish_93 (nI hd) (nI lacks) p) m) _ = _
    rw [e_Model_finish_93]
    exact ifp (nI_le (by omega) (by omega)) rfl
  | succ d ih =>
    intro k m P hk hm h
    obtain ⟨m, rfl⟩ : ∃ j, m = j + 1 := ⟨m - 1, by omega⟩
    obtain ⟨P', z1, z2⟩ := ih (k + 1) m (upd P (hd + k) 48) (by omega) (by omega) (fun j => by
      by_cases e : j = hd + k
      · subst e
        rw [pk_us, if_pos (by omega)]
      · rw [pk_un e, h j]
        by_cases e2 : hd ≤ j ∧ j < hd + k
        · rw [if_pos e2, if_pos (by omega)]
        · rw [if_neg e2, if_neg (by omega)])
    refine ⟨P', ?_, z2⟩
    rw [← z1]
    show b_Model_finish_93 (nI hd) (nI lacks) p (lp_ (b_Model_finish_93 (nI hd) (nI lacks) p) m) _ = _
    generalize lp_ (b_Model_finish_93 (nI hd) (nI lacks) p) m = rc
    rw [e_Model_finish_93]
    rw [nI_add, nI_1]
    refine ifn (nI_ge (by omega) (by omega)) (ifp (inB_n (by omega)) ?_)
    rw [nI_clamp (by omega)]
theorem lk_rep {n c j : Nat} (h : j < n) : lk (List.replicate n c) j = c := by
  unfold lk
  rw [List.getD_eq_getElem?_getD, List.getElem?_replicate, if_pos h]
  rfl
def finL (hd bd : List Nat) (cl zf : Bool) (w : Nat) : List Nat := hd ++ List.replicate (if zf = true then w - (hd.length + bd.length + (if cl = true then 1 else 0)) else 0) 48 ++ (bd ++ List.replicate (if cl = true then 1 else 0) 41)
theorem mo_fill {P : Nat → Int32} {p : Int32} {hd bd : List Nat} (h : pcOK P p (hd ++ bd)) (zf : Bool) {wz : Int} (hw : -1 ≤ wz ∧ wz ≤ 1000) : ∃ s : Int32 × (Nat → Int32), k_Model_finish_45 5000 (nI hd.length) (if zf = true then iI wz - p else 0) p P = some s ∧ pcOK s.2 s.1 (hd ++ List.replicate (if zf = true then wz.toNat - (hd.length + bd.length) else 0) 48 ++ bd) := by
  obtain ⟨hp, h1, h2⟩ := id h
  rw [List.length_append] at hp h1
  have same : pcOK P p (hd ++ [] ++ bd) := by rw [List.append_nil]; exact h
  unfold k_Model_finish_45
  try dsimp only
  cases zf with
  | false =>
    rw [if_neg (show ¬ false = true by decide), if_neg (show ¬ false = true by decide)]
    exact ⟨(p, P), ifn (by decide) rfl, same⟩
  | true =>
    rw [if_pos rfl, if_pos rfl, hp, ← iI_nat, iI_sub]
    by_cases h0 : 0 < wz - ((hd.length + bd.length : Nat) : Int)
    · obtain ⟨q, hq⟩ : ∃ q : Nat, wz - ((hd.length + bd.length : Nat) : Int) = (q : Int) := ⟨(wz - ((hd.length + bd.length : Nat) : Int)).toNat, by omega⟩
      rw [show wz.toNat - (hd.length + bd.length) = q by omega, hq, iI_nat, iI_nat]
      obtain ⟨P1, z1, z2⟩ := mo_shift (hd := hd.length) (lacks := q) (L0 := hd.length + bd.length) (by omega) P (nI (hd.length + bd.length)) bd.length 5000 P (by omega) (by omega) (by omega) (fun j => by rw [if_neg (by omega)])
      obtain ⟨P2, y1, y2⟩ := mo_zeros (hd := hd.length) (lacks := q) (by omega) (nI (hd.length + bd.length)) P1 q 0 5000 P1 (by omega) (by omega) (fun j => by rw [if_neg (by omega)])
      have elen : (hd ++ List.replicate q 48 ++ bd).length = hd.length + bd.length + q := by
        rw [List.length_append, List.length_append, List.length_replicate]
        omega
      refine ⟨(nI (hd.length + bd.length + q), P2), ?_, ?_, ?_, fun j hj => ?_⟩
      · refine ifp (rlt 0 (by omega)) ?_
        rw [show nI (hd.length + bd.length) - (1 : Int32) = iI ((hd.length : Int) + (bd.length : Int) - 1) from by rw [← iI_nat, show (1 : Int32) = iI 1 from rfl, iI_sub]; congr 1]
        refine Eq.trans z1 (Eq.trans y1 ?_)
        rw [nI_add]
      · rw [elen]
      · rw [elen]
        omega
      · rw [elen] at hj
        show P2 j = _
        rw [y2 j, List.append_assoc]
        by_cases c1 : j < hd.length
        · rw [if_neg (by omega), z2 j, if_neg (by omega), lk_app1 c1, h2 j (by rw [List.length_append]; omega), lk_app1 c1]
        · rw [lk_app2 (by omega)]
          by_cases c2 : j < hd.length + q
          · rw [if_pos (by omega), lk_app1 (by rw [List.length_replicate]; omega), lk_rep (by omega)]
            rfl
          · rw [if_neg (by omega), z2 j, if_pos (by omega), lk_app2 (by rw [List.length_replicate]; omega), List.length_replicate, h2 (j - q) (by rw [List.length_append]; omega), lk_app2 (by omega)]
            congr 2
            omega
    · rw [show wz.toNat - (hd.length + bd.length) = 0 by omega]
      refine ⟨(_, P), ifn (inlt 0 (wz - ((hd.length + bd.length : Nat) : Int)) (by omega)) rfl, ?_⟩
      rw [iI_nat, ← hp]
      exact same
theorem mo_finish {P : Nat → Int32} {p : Int32} {hd bd : List Nat} (h : pcOK P p (hd ++ bd)) (hl : hd.length + bd.length < 3900) (below zeros : Bool) (fl : Int32) {wz : Int} (hw : -1 ≤ wz ∧ wz ≤ 1000) : ∃ s : Int32 × (Nat → Int32), f_Model_finish 5000 fl (iI wz) P p (nI hd.length) (bI below) (bI zeros) = some s ∧ pcOK s.2 s.1 (finL hd bd (below && hA fl 64) (zeros && hA fl 16) wz.toNat) := by
  have tail : ∀ (P : Nat → Int32) (p : Int32) (bd : List Nat), pcOK P p (hd ++ bd) → ∃ s : Int32 × (Nat → Int32), k_Model_finish_19 5000 fl (iI wz) (nI hd.length) (bI zeros) p P = some s ∧ pcOK s.2 s.1 (hd ++ List.replicate (if (zeros && hA fl 16) = true then wz.toNat - (hd.length + bd.length) else 0) 48 ++ bd) := by
    intro P p bd h
    unfold k_Model_finish_19 k_Model_finish_44
    try dsimp only
    cases zeros with
    | false =>
      obtain ⟨s, q1, q2⟩ := mo_fill h false hw
      exact ⟨s, ifp rfl q1, q2⟩
    | true =>
      cases hb : hA fl 16 with
      | false =>
        obtain ⟨s, q1, q2⟩ := mo_fill h false hw
        exact ⟨s, ifn (by decide) (bnd (mo_anyT hb) (ifp rfl q1)), q2⟩
      | true =>
        obtain ⟨s, q1, q2⟩ := mo_fill h true hw
        exact ⟨s, ifn (by decide) (bnd (mo_anyT hb) (ifn (by decide) q1)), q2⟩
  unfold f_Model_finish finL
  have noB : ∃ s : Int32 × (Nat → Int32), k_Model_finish_19 5000 fl (iI wz) (nI hd.length) (bI zeros) p P = some s ∧ pcOK s.2 s.1 (hd ++ List.replicate (if (zeros && hA fl 16) = true then wz.toNat - (hd.length + bd.length + 0) else 0) 48 ++ (bd ++ [])) := by
    rw [List.append_nil]
    exact tail P p bd h
  cases below with
  | false =>
    obtain ⟨s, q1, q2⟩ := noB
    exact ⟨s, ifp rfl q1, q2⟩
  | true =>
    cases hb : hA fl 64 with
    | false =>
      obtain ⟨s, q1, q2⟩ := noB
      exact ⟨s, ifn (by decide) (bnd (mo_anyT hb) (ifp rfl q1)), q2⟩
    | true =>
      obtain ⟨s1, y1, y2⟩ := mo_add h 41 (by rw [List.length_append]; omega)
      rw [List.append_assoc] at y2
      obtain ⟨s, q1, q2⟩ := tail s1.2 s1.1 (bd ++ [41]) y2
      refine ⟨s, ifn (by decide) (bnd (mo_anyT hb) (ifn (by decide) (bnd y1 q1))), ?_⟩
      rw [List.length_append, ← Nat.add_assoc] at q2
      exact q2
theorem mo_raise_l {c : Nat} (hc : c < 128) (hg : grB c = true) (hd cnt ex : Int32) (T Wk : Nat → Int32) {L : List Nat} (hL : L.length ≤ 4000) (h128 : ∀ x ∈ L, x < 128) : ∀ (d i m : Nat) (P : Nat → Int32), i + d = L.length → d < m → (∀ j, j < L.length → P j = nI (if j < i then upc (lk L j) else lk L j)) → ∃ P', lp_ (b_Model_lay_213 5000 (nI c) (nI L.length) hd cnt ex T Wk) m (nI i, P) = some (nI L.length, hd, cnt, ex, P', T, Wk) ∧ pcOK P' (nI L.length) (L.map upc) := by
  intro d
  induction d with
  | zero =>
    intro i m P hi hm h
    obtain ⟨m, rfl⟩ : ∃ j, m = j + 1 := ⟨m - 1, by omega⟩
    refine ⟨P, ?_, by rw [List.length_map], by rw [List.length_map]; exact hL, fun j hj => ?_⟩
    · show b_Model_lay_213 5000 (nI c) (nI L.length) hd cnt ex T Wk (lp_ (b_Model_lay_213 5000 (nI c) (nI L.length) hd cnt ex T Wk) m) _ = _
      rw [e_Model_lay_213]
      exact ifp (nI_le (by omega) (by omega)) rfl
    · rw [List.length_map] at hj
      rw [h j hj, if_pos (by omega), lk_in hj, lk_in (by rw [List.length_map]; exact hj), List.getElem_map]
  | succ d ih =>
    intro i m P hi hm h
    obtain ⟨m, rfl⟩ : ∃ j, m = j + 1 := ⟨m - 1, by omega⟩
    have hi2 : i < L.length := by omega
    have hx : lk L i < 128 := h128 _ (lk_mem hi2)
    have hPi : P i = nI (lk L i) := by rw [h i hi2, if_neg (by omega)]
    obtain ⟨P', z1, z2⟩ := ih (i + 1) m (upd P i (nI (upc (lk L i)))) (by omega) (by omega) (fun j hj => by
      by_cases e : j = i
      · subst e
        rw [pk_us, if_pos (by omega)]
      · rw [pk_un e, h j hj]
        by_cases e2 : j < i
        · rw [if_pos e2, if_pos (by omega)]
        · rw [if_neg e2, if_neg (by omega)])
    refine ⟨P', ?_, z2⟩
    rw [← z1]
    show b_Model_lay_213 5000 (nI c) (nI L.length) hd cnt ex T Wk (lp_ (b_Model_lay_213 5000 (nI c) (nI L.length) hd cnt ex T Wk) m) _ = _
    generalize lp_ (b_Model_lay_213 5000 (nI c) (nI L.length) hd cnt ex T Wk) m = rc
    have g1 : f_Model_isGreat 5000 (nI c) = some 1 := by rw [mo_isGreat c hc, if_pos hg]
    rw [e_Model_lay_213]
    unfold k_Model_lay_272 k_Model_lay_279
    rw [nI_1, nI_clamp (by omega), hPi]
    refine ifn (nI_ge hi2 (by omega)) (bnd g1 (ifn (by decide) (ifp (inB_n (by omega)) ?_)))
    by_cases h1 : lk L i < 97
    · have q : upc (lk L i) = lk L i := if_neg (by omega)
      rw [q]
      exact ifp (qlt 97 h1) (ifp (inB_n (by omega)) (ifp (inB_n (by omega)) rfl))
    · refine ifn (qnlt 97 (by omega)) (ifp (inB_n (by omega)) ?_)
      by_cases h2 : 122 < lk L i
      · have q : upc (lk L i) = lk L i := if_neg (by omega)
        rw [q]
        exact ifp (rlt 122 h2) (ifp (inB_n (by omega)) (ifp (inB_n (by omega)) rfl))
      · refine ifn (rnlt 122 (by omega)) (ifp (inB_n (by omega)) (ifp (inB_n (by omega)) ?_))
        have q : upc (lk L i) = lk L i - 32 := if_pos (by omega)
        rw [q, show nI (lk L i) - (32 : Int32) = nI (lk L i - 32) from pk_sub (b := 32) (by omega)]
theorem mo_raise {c : Nat} (hc : c < 128) (hd cnt ex : Int32) (T Wk : Nat → Int32) {P : Nat → Int32} {p : Int32} {L : List Nat} (h : pcOK P p L) (h128 : ∀ x ∈ L, x < 128) : ∃ P', k_Model_lay_210 5000 (nI c) p hd cnt ex P T Wk = some (p, hd, cnt, ex, P', T, Wk) ∧ pcOK P' p (if grB c = true then L.map upc else L) := by
  obtain ⟨rfl, h1, h2⟩ := id h
  unfold k_Model_lay_210
  try dsimp only
  cases hg : grB c with
  | true =>
    rw [if_pos rfl]
    exact mo_raise_l hc hg hd cnt ex T Wk h1 h128 L.length 0 5000 P (by omega) (by omega) (fun j hj => by rw [if_neg (by omega), h2 j hj])
  | false =>
    rw [if_neg (show ¬ false = true by decide)]
    refine ⟨P, ?_, h⟩
    show b_Model_lay_213 5000 (nI c) (nI L.length) hd cnt ex T Wk (lp_ (b_Model_lay_213 5000 (nI c) (nI L.length) hd cnt ex T Wk) 4999) _ = _
    rw [e_Model_lay_213]
    have g1 : f_Model_isGreat 5000 (nI c) = some 0 := by rw [mo_isGreat c hc, if_neg (by rw [hg]; decide)]
    by_cases h0 : L.length = 0
    · rw [h0]
      exact ifp (by decide) rfl
    · exact ifn (nI_nle (by omega) (by omega)) (bnd g1 (ifp rfl rfl))
theorem mo_app_l {P : Nat → Int32} {L : List Nat} (hP : ∀ j, j < L.length → P j = nI (lk L j)) {all lacks len : Nat} (hall : lacks + L.length ≤ all) (hlen : len + all ≤ 4000) (R0 : Nat → Int32) : ∀ (d k m : Nat) (R : Nat → Int32), k + d = all → d < m → (∀ j, R j = if len ≤ j ∧ j < len + k then nI (lk (List.replicate lacks 32 ++ L ++ List.replicate (all - lacks - L.length) 32) (j - len)) else R0 j) → ∃ R', lp_ (b_Model_append_58 P (nI L.length) (nI all) (nI lacks) (nI len)) m (nI k, R) = some (1, nI (len + all), R') ∧ ∀ j, R' j = if len ≤ j ∧ j < len + all then nI (lk (List.replicate lacks 32 ++ L ++ List.replicate (all - lacks - L.length) 32) (j - len)) else R0 j := by
  intro d
  induction d with
  | zero =>
    intro k m R hk hm h
    obtain ⟨m, rfl⟩ : ∃ j, m = j + 1 := ⟨m - 1, by omega⟩
    refine ⟨R, ?_, fun j => by rw [h j, show k = all by omega]⟩
    show b_Model_append_58 P (nI L.length) (nI all) (nI lacks) (nI len) (lp_ (b_Model_append_58 P (nI L.length) (nI all) (nI lacks) (nI len)) m) _ = _
    rw [e_Model_append_58]
    rw [nI_add]
    exact ifp (nI_le (by omega) (by omega)) rfl
  | succ d ih =>
    intro k m R hk hm h
    obtain ⟨m, rfl⟩ : ∃ j, m = j + 1 := ⟨m - 1, by omega⟩
    obtain ⟨R', z1, z2⟩ := ih (k + 1) m (upd R (len + k) (nI (lk (List.replicate lacks 32 ++ L ++ List.replicate (all - lacks - L.length) 32) k))) (by omega) (by omega) (fun j => by
      by_cases e : j = len + k
      · subst e
        rw [pk_us, if_pos (by omega), show len + k - len = k by omega]
      · rw [pk_un e, h j]
        by_cases e2 : len ≤ j ∧ j < len + k
        · rw [if_pos e2, if_pos (by omega)]
        · rw [if_neg e2, if_neg (by omega)])
    refine ⟨R', ?_, z2⟩
    rw [← z1]
    show b_Model_append_58 P (nI L.length) (nI all) (nI lacks) (nI len) (lp_ (b_Model_append_58 P (nI L.length) (nI all) (nI lacks) (nI len)) m) _ = _
    generalize lp_ (b_Model_append_58 P (nI L.length) (nI all) (nI lacks) (nI len)) m = rc
    rw [e_Model_append_58]
    unfold k_Model_append_82 k_Model_append_83 k_Model_append_113
    rw [nI_add lacks L.length, nI_add len k, nI_1]
    refine ifn (nI_ge (by omega) (by omega)) ?_
    rw [List.append_assoc]
    by_cases c1 : k < lacks
    · refine ifp (nI_lt c1 (by omega)) (ifp rfl (ifp (inB_n (by omega)) ?_))
      rw [nI_clamp (by omega), lk_app1 (by rw [List.length_replicate]; exact c1), lk_rep c1]
      rfl
    · refine ifn (nI_nlt (by omega) (by omega)) ?_
      rw [lk_app2 (by rw [List.length_replicate]; omega), List.length_replicate]
      by_cases c2 : lacks + L.length ≤ k
      · refine ifp (nI_le c2 (by omega)) (ifp rfl (ifp (inB_n (by omega)) ?_))
        rw [nI_clamp (by omega), lk_app2 (by omega), lk_rep (by omega)]
        rfl
      · refine ifn (nI_ge (by omega) (by omega)) (ifn (by decide) ?_)
        rw [pk_sub (by omega)]
        refine ifp (inB_n (by omega)) (ifp (inB_n (by omega)) ?_)
        rw [nI_clamp (by omega), nI_clamp (by omega), hP _ (by omega), lk_app1 (by omega)]
def rsM (R : Nat → Int32) (u : Int32) (L : List Nat) : Prop := u = nI L.length ∧ L.length ≤ 4000 ∧ ∀ j, j < L.length → R j = nI (lk L j)
def apL (L : List Nat) (left : Bool) (w : Nat) : List Nat := List.replicate (if left = true then 0 else w - L.length) 32 ++ L ++ List.replicate (if left = true then w - L.length else 0) 32
theorem apL_len (L : List Nat) (left : Bool) (w : Nat) : (apL L left w).length = L.length + (w - L.length) := by
  unfold apL
  rw [List.length_append, List.length_append, List.length_replicate, List.length_replicate]
  cases left with
  | true => rw [if_pos rfl, if_pos rfl]; omega
  | false => rw [if_neg (show ¬ false = true by decide), if_neg (show ¬ false = true by decide)]; omega
theorem mo_append {R : Nat → Int32} {u : Int32} {Lr : List Nat} (hR : rsM R u Lr) {P : Nat → Int32} {p : Int32} {L : List Nat} (hP : pcOK P p L) (fl : Int32) {wz : Int} (hw : -1 ≤ wz ∧ wz ≤ 1000) : ∃ (o u' : Int32) (R' : Nat → Int32), f_Model_append 5000 R u fl (iI wz) P p = some (o, u', R') ∧ ((Lr.length + (apL L (hA fl 1) wz.toNat).length ≤ 4000 ∧ o = 1 ∧ rsM R' u' (Lr ++ apL L (hA fl 1) wz.toNat)) ∨ (¬ Lr.length + (apL L (hA fl 1) wz.toNat).length ≤ 4000 ∧ o = 0)) := by
  obtain ⟨rfl, r1, r2⟩ := hR
  obtain ⟨rfl, p1, p2⟩ := hP
  rw [apL_len]
  have main : ∀ all : Nat, all = L.length + (wz.toNat - L.length) → ∃ (o u' : Int32) (R' : Nat → Int32), k_Model_append_22 5000 fl P (nI L.length) (nI all) (nI Lr.length) R = some (o, u', R') ∧ ((Lr.length + (L.length + (wz.toNat - L.length)) ≤ 4000 ∧ o = 1 ∧ rsM R' u' (Lr ++ apL L (hA fl 1) wz.toNat)) ∨ (¬ Lr.length + (L.length + (wz.toNat - L.length)) ≤ 4000 ∧ o = 0)) := by
    intro all hall
    unfold k_Model_append_22
    try dsimp only
    rw [nI_add]
    by_cases hfit : Lr.length + all ≤ 4000
    · have run : ∀ lacks : Nat, lacks = (if hA fl 1 = true then 0 else wz.toNat - L.length) → ∃ (u' : Int32) (R' : Nat → Int32), k_Model_append_55 5000 P (nI L.length) (nI all) (nI lacks) (nI Lr.length) R = some (1, u', R') ∧ rsM R' u' (Lr ++ apL L (hA fl 1) wz.toNat) := by
        intro lacks hlk
        have hlk2 : lacks + L.length ≤ all ∧ all - lacks - L.length = (if hA fl 1 = true then wz.toNat - L.length else 0) := by
          cases hb : hA fl 1 with
          | true => rw [hb, if_pos rfl] at hlk; rw [if_pos rfl]; omega
          | false => rw [hb, if_neg (show ¬ false = true by decide)] at hlk; rw [if_neg (show ¬ false = true by decide)]; omega
        obtain ⟨R', z1, z2⟩ := mo_app_l p2 hlk2.1 hfit R all 0 5000 R (by omega) (by omega) (fun j => by rw [if_neg (by omega)])
        have eA : List.replicate lacks 32 ++ L ++ List.replicate (all - lacks - L.length) 32 = apL L (hA fl 1) wz.toNat := by
          rw [hlk2.2, hlk]
          rfl
        rw [eA] at z2
        refine ⟨nI (Lr.length + all), R', z1, ?_, ?_, fun j hj => ?_⟩
        · rw [List.length_append, apL_len, ← hall]
        · rw [List.length_append, apL_len, ← hall]
          exact hfit
        · rw [List.length_append, apL_len, ← hall] at hj
          rw [z2 j]
          by_cases c1 : j < Lr.length
          · rw [if_neg (by omega), r2 j c1, lk_app1 c1]
          · rw [if_pos (by omega), lk_app2 (by omega)]
      refine ⟨1, ?_⟩
      cases hb : hA fl 1 with
      | true =>
        obtain ⟨u', R', q1, q2⟩ := run 0 (by rw [hb]; rfl)
        rw [hb] at q2
        exact ⟨u', R', ifp (qle 4000 hfit) (bnd (mo_anyT hb) (ifn (by decide) q1)), Or.inl ⟨by omega, rfl, q2⟩⟩
      | false =>
        obtain ⟨u', R', q1, q2⟩ := run (all - L.length) (by rw [hb, if_neg (show ¬ false = true by decide)]; omega)
        rw [hb] at q2
        refine ⟨u', R', ifp (qle 4000 hfit) (bnd (mo_anyT hb) (ifp rfl ?_)), Or.inl ⟨by omega, rfl, q2⟩⟩
        rw [pk_sub (by omega)]
        exact q1
    · exact ⟨0, nI Lr.length, R, ifn (qnle 4000 (by omega)) rfl, Or.inr ⟨by omega, rfl⟩⟩
  unfold f_Model_append
  by_cases hle : wz ≤ (L.length : Int)
  · obtain ⟨o, u', R', q1, q2⟩ := main L.length (by omega)
    exact ⟨o, u', R', ifp (ile wz L.length hle rfl (iI_nat _).symm) q1, q2⟩
  · obtain ⟨o, u', R', q1, q2⟩ := main wz.toNat (by omega)
    refine ⟨o, u', R', ifn (inle wz L.length (by omega) rfl (iI_nat _).symm) ?_, q2⟩
    rw [show iI wz = nI wz.toNat from by rw [← iI_nat]; congr 1; omega]
    exact q1
theorem lay_app (hd bd : List Nat) (cl zf left : Bool) (w : Nat) : apL (finL hd bd cl zf w) left w = layL hd bd cl zf left w := by
  have e : (finL hd bd cl zf w).length = hd.length + bd.length + (if cl = true then 1 else 0) + (if zf = true then w - (hd.length + bd.length + (if cl = true then 1 else 0)) else 0) := by
    unfold finL
    simp only [List.length_append, List.length_replicate]
    omega
  have e2 : w - (finL hd bd cl zf w).length = (if zf = true then 0 else w - (hd.length + bd.length + (if cl = true then 1 else 0))) := by
    rw [e]
    cases zf with
    | true => rw [if_pos rfl, if_pos rfl]; omega
    | false => rw [if_neg (show ¬ false = true by decide), if_neg (show ¬ false = true by decide)]; omega
  unfold apL layL
  rw [e2]
  unfold finL
  simp only [List.append_assoc]
