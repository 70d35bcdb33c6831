def upc (c : Nat) : Nat := if 97 ≤ c ∧ c ≤ 122 then c - 32 else c
def rsD (s : Int32 × Int32 × (Nat → Int32)) (Lr A : List Nat) (b0 : Int32) : Prop := s.2.1 = rbst 4000 Lr A b0 ∧ rowOK 4000 s.2.2 s.1 (rput 4000 Lr A)
theorem rs_many {s : Int32 × Int32 × (Nat → Int32)} {Lr A : List Nat} {b0 : Int32} (hL : Lr.length ≤ 4000) (h : rsD s Lr A b0) {c t : Nat} (hc : c < 128) (ht : t < 5000) : ∃ s', f_Row_addMany 5000 4000 s.2.2 s.1 s.2.1 (nI c) (nI t) = some s' ∧ rsD s' Lr (A ++ List.replicate t c) b0 := by
  obtain ⟨f', h1, h2⟩ := row_many (K := 5000) (b := s.2.1) hc (by omega) ht h.2
  rw [rput_app hL, h.1, rbst_app hL] at h1
  rw [rput_app hL] at h2
  exact ⟨_, by rw [h.1]; exact h1, rfl, h2⟩
theorem rs_row {s : Int32 × Int32 × (Nat → Int32)} {Lr A M : List Nat} {b0 : Int32} (hL : Lr.length ≤ 4000) (h : rsD s Lr A b0) {n2 : Nat} {f2 : Nat → Int32} {u2 : Int32} (h2 : rowOK n2 f2 u2 M) (hM : M.length < 5000) : ∃ s', f_Row_addRow 5000 4000 s.2.2 s.1 s.2.1 n2 f2 u2 = some s' ∧ rsD s' Lr (A ++ M) b0 := by
  obtain ⟨f', h1, h3⟩ := row_row (K := 5000) (b := s.2.1) h2 hM h.2
  rw [rput_app hL, h.1, rbst_app hL] at h1
  rw [rput_app hL] at h3
  exact ⟨_, by rw [h.1]; exact h1, rfl, h3⟩
theorem upc_128 : ∀ c, c < 128 → upc c < 128 := by decide +kernel
theorem narU : ∀ c, c < 128 → 97 ≤ c → c ≤ 122 → vp_nar .byte ((nI c - (32 : Int32)).toInt8.toInt32) = nI (upc c) := by decide +kernel
theorem row_raise_l {n : Nat} (hn : n < 2 ^ 31) : ∀ (d i m : Nat) (f : Nat → Int32) (M : List Nat), i + d = M.length → d < m → rowOK n f (nI M.length) M → ∃ f', lp_ (b_Row_raiseFrom_6 n (nI M.length)) m (nI i, f) = some f' ∧ rowOK n f' (nI M.length) (M.take i ++ (M.drop i).map upc) := by
  intro d
  induction d with
  | zero =>
    intro i m f M hi hm h
    obtain ⟨m, rfl⟩ : ∃ j, m = j + 1 := ⟨m - 1, by omega⟩
    refine ⟨f, ?_, ?_⟩
    · show b_Row_raiseFrom_6 n (nI M.length) (lp_ (b_Row_raiseFrom_6 n (nI M.length)) m) _ = _
      rw [e_Row_raiseFrom_6]
      have := h.2.1
      exact ifp (nI_le (by omega) (by omega)) rfl
    · rw [List.drop_eq_nil_iff.mpr (by omega), List.take_of_length_le (by omega)]
      show rowOK n f _ (M ++ [])
      rw [List.append_nil]
      exact h
  | succ d ih =>
    intro i m f M hi hm h
    obtain ⟨m, rfl⟩ : ∃ j, m = j + 1 := ⟨m - 1, by omega⟩
    obtain ⟨g0, g1, g2, g3, g4⟩ := id h
    have hi2 : i < M.length := by omega
    have hc : lk M i < 128 := g3 _ (lk_mem hi2)
    have hfi : f i = nI (lk M i) := g4 i hi2
    have hset : ∀ f', (f' = upd f i (nI (upc (lk M i))) ∨ (upc (lk M i) = lk M i ∧ f' = f)) → rowOK n f' (nI (M.set i (upc (lk M i))).length) (M.set i (upc (lk M i))) := by
      intro f' hf'
      refine ⟨rfl, by rw [List.length_set]; exact g1, hn, fun c hcm => ?_, fun j hj => ?_⟩
      · rcases List.mem_or_eq_of_mem_set hcm with q | q
        · exact g3 c q
        · rw [q]; exact upc_128 _ hc
      · rw [List.length_set] at hj
        rw [List.getD_eq_getElem?_getD]
        by_cases e : i = j
        · subst e
          rw [List.getElem?_set_self hi2]
          rcases hf' with rfl | ⟨q, rfl⟩
          · rw [pk_us]; rfl
          · rw [hfi]
            show nI (lk M i) = nI (upc (lk M i))
            rw [q]
        · rw [List.getElem?_set_ne e, ← List.getD_eq_getElem?_getD]
          rcases hf' with rfl | ⟨q, rfl⟩
          · rw [pk_un (Ne.symm e)]; exact g4 j hj
          · exact g4 j hj
    have hfin : (M.set i (upc (lk M i))).take (i + 1) ++ ((M.set i (upc (lk M i))).drop (i + 1)).map upc = M.take i ++ (M.drop i).map upc := by
      rw [lk_drop hi2, List.map_cons, List.drop_set_of_lt (by omega), List.take_set, List.take_succ, List.getElem?_eq_getElem hi2]
      show (M.take i ++ [M[i]]).set i (upc (lk M i)) ++ _ = _
      rw [List.set_append_right _ _ (by rw [List.length_take]; omega), List.length_take, Nat.min_eq_left (by omega), Nat.sub_self]
      show (M.take i ++ [upc (lk M i)]) ++ _ = _
      rw [List.append_assoc]
      rfl
    have step : ∃ f1, lp_ (b_Row_raiseFrom_6 n (nI M.length)) (m + 1) (nI i, f) = lp_ (b_Row_raiseFrom_6 n (nI M.length)) m (nI (i + 1), f1) ∧ rowOK n f1 (nI (M.set i (upc (lk M i))).length) (M.set i (upc (lk M i))) := by
      show ∃ f1, b_Row_raiseFrom_6 n (nI M.length) (lp_ (b_Row_raiseFrom_6 n (nI M.length)) m) (nI i, f) = _ ∧ _
      generalize lp_ (b_Row_raiseFrom_6 n (nI M.length)) m = rc
      rw [e_Row_raiseFrom_6]
      unfold k_Row_raiseFrom_57
      rw [nI_1, nI_clamp (by omega), hfi]
      by_cases h1 : lk M i < 97
      · have q : upc (lk M i) = lk M i := if_neg (by omega)
        exact ⟨f, ifn (nI_ge hi2 (by omega)) (ifn (nI_ge (by omega) (by omega)) (ifp (inB_nI (by omega) hn) (ifp (qlt 97 h1) rfl))), hset f (Or.inr ⟨q, rfl⟩)⟩
      · by_cases h2 : 122 < lk M i
        · have q : upc (lk M i) = lk M i := if_neg (by omega)
          exact ⟨f, ifn (nI_ge hi2 (by omega)) (ifn (nI_ge (by omega) (by omega)) (ifp (inB_nI (by omega) hn) (ifn (qnlt 97 (by omega)) (ifp (inB_nI (by omega) hn) (ifp (rlt 122 h2) rfl))))), hset f (Or.inr ⟨q, rfl⟩)⟩
        · refine ⟨_, ifn (nI_ge hi2 (by omega)) (ifn (nI_ge (by omega) (by omega)) (ifp (inB_nI (by omega) hn) (ifn (qnlt 97 (by omega)) (ifp (inB_nI (by omega) hn) (ifn (rnlt 122 (by omega)) (ifp (inB_nI (by omega) hn) (ifp (inB_nI (by omega) hn) rfl))))))), hset _ (Or.inl ?_)⟩
          rw [narU _ hc (by omega) (by omega)]
    obtain ⟨f1, s1, s2⟩ := step
    have el : (M.set i (upc (lk M i))).length = M.length := List.length_set
    obtain ⟨f', z1, z2⟩ := ih (i + 1) m f1 (M.set i (upc (lk M i))) (by rw [el]; omega) (by omega) s2
    rw [el] at z1 z2
    rw [hfin] at z2
    exact ⟨f', Eq.trans s1 z1, z2⟩
theorem row_raise {n : Nat} {f : Nat → Int32} {M : List Nat} {i : Nat} (h : rowOK n f (nI M.length) M) (hn : n ≤ 4000) (hi : i ≤ M.length) : ∃ f', f_Row_raiseFrom 5000 n f (nI M.length) (nI i) = some f' ∧ rowOK n f' (nI M.length) (M.take i ++ (M.drop i).map upc) := by
  have hM := h.2.1
  obtain ⟨f', z1, z2⟩ := row_raise_l (by omega) (M.length - i) i 5000 f M (by omega) (by omega) h
  refine ⟨f', ?_, z2⟩
  unfold f_Row_raiseFrom
  have e : (if (0 : Int32) < nI i then nI i else (0 : Int32)) = nI i := by
    by_cases h0 : 0 < i
    · exact ifp (rlt 0 h0) rfl
    · have : i = 0 := by omega
      subst this
      exact ifn (by decide) rfl
  rw [e]
  exact z1
theorem rput_map {Lr A : List Nat} (hL : Lr.length ≤ 4000) : (rput 4000 Lr A).take Lr.length ++ ((rput 4000 Lr A).drop Lr.length).map upc = rput 4000 Lr (A.map upc) := by
  unfold rput
  rw [List.take_take, Nat.min_eq_left hL, List.take_append_of_le_length (Nat.le_refl _), List.take_of_length_le (Nat.le_refl _), List.drop_take, List.drop_append_of_le_length (Nat.le_refl _), List.drop_of_length_le (Nat.le_refl _), List.nil_append, List.take_append, List.take_of_length_le hL, List.map_take]
def layL (hd bd : List Nat) (cl zf left : Bool) (w : Nat) : List Nat :=
  List.replicate (if left = true then 0 else if zf = true then 0 else w - (hd.length + bd.length + (if cl = true then 1 else 0))) 32 ++ hd ++ List.replicate (if zf = true then w - (hd.length + bd.length + (if cl = true then 1 else 0)) else 0) 48 ++ bd ++ List.replicate (if cl = true then 1 else 0) 41 ++ List.replicate (if left = true then (if zf = true then 0 else w - (hd.length + bd.length + (if cl = true then 1 else 0))) else 0) 32
theorem cp_put {Lr hd bd : List Nat} {Rc Hc Bc : Nat → Int32} {Ru Hu Bu b0 : Int32} {nH nB : Nat} (hR : rowOK 4000 Rc Ru Lr) (hH : rowOK nH Hc Hu hd) (hB : rowOK nB Bc Bu bd) (hh : hd.length ≤ 4) (hb : bd.length ≤ 1800) (cl zf : Bool) (fl : Int32) (great : Bool) {wz : Int} (hw : -1 ≤ wz ∧ wz ≤ 1000) :
    ∃ s : Int32 × Int32 × (Nat → Int32), f_Composer_putTogether 5000 (bI cl) (bI zf) fl (iI wz) (bI great) 4000 Rc Ru b0 nH Hc Hu nB Bc Bu = some s ∧ rsD s Lr (if great = true then (layL hd bd cl zf (hA fl 1) wz.toNat).map upc else layL hd bd cl zf (hA fl 1) wz.toNat) b0 := by
  have hL := hR.2.1
  have eH := hH.1
  have eB := hB.1
  have start : rsD (Ru, b0, Rc) Lr [] b0 := by
    refine ⟨?_, ?_⟩
    · show b0 = rbst 4000 Lr [] b0
      unfold rbst
      rw [if_pos (by show Lr.length + 0 ≤ 4000; omega)]
    · show rowOK 4000 Rc Ru (rput 4000 Lr [])
      rw [rput_nil hL]
      exact hR
  have lack : ∀ k : Nat, k ≤ 1 → (if (0 : Int32) < iI wz - (Hu + Bu + nI k) then iI wz - (Hu + Bu + nI k) else (0 : Int32)) = nI (wz.toNat - (hd.length + bd.length + k)) := by
    intro k hk
    rw [eH, eB, nI_add, nI_add, ← iI_nat, iI_sub]
    by_cases h0 : 0 < wz - ((hd.length + bd.length + k : Nat) : Int)
    · refine ifp (ilt 0 _ h0) ?_
      rw [← iI_nat]
      congr 1
      omega
    · refine ifn (inlt 0 (wz - ((hd.length + bd.length + k : Nat) : Int)) (by omega)) ?_
      rw [show wz.toNat - (hd.length + bd.length + k) = 0 by omega]
      rfl
  have tail : ∀ (lk0 : Nat), lk0 ≤ 1000 → ∃ s : Int32 × Int32 × (Nat → Int32), k_Composer_putTogether_55 5000 (bI cl) fl (bI great) 4000 nH Hc Hu nB Bc Bu (nI lk0) (nI (if zf = true then lk0 else 0)) Ru b0 Rc = some s ∧ rsD s Lr (let A := List.replicate (if hA fl 1 = true then 0 else if zf = true then 0 else lk0) 32 ++ hd ++ List.replicate (if zf = true then lk0 else 0) 48 ++ bd ++ List.replicate (if cl = true then 1 else 0) 41 ++ List.replicate (if hA fl 1 = true then (if zf = true then 0 else lk0) else 0) 32; if great = true then A.map upc else A) b0 := by
    intro lk0 hlk
    have ez : nI lk0 - nI (if zf = true then lk0 else 0) = nI (if zf = true then 0 else lk0) := by
      cases zf with
      | true => rw [if_pos rfl, if_pos rfl, pk_sub (Nat.le_refl _), Nat.sub_self]
      | false => rw [if_neg (show ¬ false = true by decide), if_neg (show ¬ false = true by decide), pk_sub (Nat.zero_le _), Nat.sub_zero]
    have hz1 : (if zf = true then lk0 else 0) < 5000 := by
      cases zf with
      | true => rw [if_pos rfl]; omega
      | false => rw [if_neg (show ¬ false = true by decide)]; omega
    have hz2 : (if zf = true then 0 else lk0) < 5000 := by
      cases zf with
      | true => rw [if_pos rfl]; omega
      | false => rw [if_neg (show ¬ false = true by decide)]; omega
    have rest : ∀ (x5 : Int32) (lf : Bool) (t : Nat), x5 = bI lf → t < 5000 → ∃ s : Int32 × Int32 × (Nat → Int32), k_Composer_putTogether_97 5000 (bI cl) (bI great) 4000 nH Hc Hu nB Bc Bu (nI (if zf = true then lk0 else 0)) (nI (if zf = true then 0 else lk0)) x5 Ru (32 : Int32) (nI t) Ru b0 Rc = some s ∧ rsD s Lr (let A := List.replicate t 32 ++ hd ++ List.replicate (if zf = true then lk0 else 0) 48 ++ bd ++ List.replicate (if cl = true then 1 else 0) 41 ++ List.replicate (if lf = true then (if zf = true then 0 else lk0) else 0) 32; if great = true then A.map upc else A) b0 := by
      intro x5 lf t hx5 ht
      obtain ⟨s1, a1, a2⟩ := rs_many hL start (c := 32) (t := t) (by omega) ht
      rw [List.nil_append] at a2
      obtain ⟨s2, b1, b2⟩ := rs_row hL a2 hH (by omega)
      obtain ⟨s3, c1, c2⟩ := rs_many hL b2 (c := 48) (t := if zf = true then lk0 else 0) (by omega) hz1
      obtain ⟨s4, d1, d2⟩ := rs_row hL c2 hB (by omega)
      have hcl : (if cl = true then 1 else 0) < 5000 := by
        cases cl with
        | true => rw [if_pos rfl]; omega
        | false => rw [if_neg (show ¬ false = true by decide)]; omega
      obtain ⟨s5, e1, e2⟩ := rs_many hL d2 (c := 41) (t := if cl = true then 1 else 0) (by omega) hcl
      have hlf : (if lf = true then (if zf = true then 0 else lk0) else 0) < 5000 := by
        cases lf with
        | true => rw [if_pos rfl]; exact hz2
        | false => rw [if_neg (show ¬ false = true by decide)]; omega
      obtain ⟨s6, g1, g2⟩ := rs_many hL e2 (c := 32) (t := if lf = true then (if zf = true then 0 else lk0) else 0) (by omega) hlf
      have fin : ∃ s : Int32 × Int32 × (Nat → Int32), k_Composer_putTogether_170 5000 (bI great) 4000 Ru (32 : Int32) (nI (if lf = true then (if zf = true then 0 else lk0) else 0)) s5.1 s5.2.1 s5.2.2 = some s ∧ rsD s Lr (let A := List.replicate t 32 ++ hd ++ List.replicate (if zf = true then lk0 else 0) 48 ++ bd ++ List.replicate (if cl = true then 1 else 0) 41 ++ List.replicate (if lf = true then (if zf = true then 0 else lk0) else 0) 32; if great = true then A.map upc else A) b0 := by
        unfold k_Composer_putTogether_170
        try dsimp only
        cases great with
        | false => exact ⟨s6, bnd g1 (ifp rfl rfl), g2⟩
        | true =>
          have hR6 := g2.2
          have e6 := hR6.1
          have hrl : Lr.length ≤ (rput 4000 Lr (List.replicate t 32 ++ hd ++ List.replicate (if zf = true then lk0 else 0) 48 ++ bd ++ List.replicate (if cl = true then 1 else 0) 41 ++ List.replicate (if lf = true then (if zf = true then 0 else lk0) else 0) 32)).length := by
            rw [rput_len]
            omega
          obtain ⟨f', r1, r2⟩ := row_raise (i := Lr.length) (by rw [e6] at hR6; exact hR6) (Nat.le_refl _) hrl
          rw [rput_map hL] at r2
          refine ⟨(s6.1, s6.2.1, f'), bnd g1 (ifn (by decide) (bnd ?_ rfl)), ?_, ?_⟩
          · rw [hR.1, e6]
            exact r1
          · show s6.2.1 = rbst 4000 Lr (List.map upc _) b0
            rw [g2.1]
            unfold rbst
            rw [List.length_map]
          · show rowOK 4000 f' s6.1 (rput 4000 Lr (List.map upc _))
            rw [e6]
            have el : (rput 4000 Lr (List.replicate t 32 ++ hd ++ List.replicate (if zf = true then lk0 else 0) 48 ++ bd ++ List.replicate (if cl = true then 1 else 0) 41 ++ List.replicate (if lf = true then (if zf = true then 0 else lk0) else 0) 32)).length = (rput 4000 Lr (List.map upc (List.replicate t 32 ++ hd ++ List.replicate (if zf = true then lk0 else 0) 48 ++ bd ++ List.replicate (if cl = true then 1 else 0) 41 ++ List.replicate (if lf = true then (if zf = true then 0 else lk0) else 0) 32))).length := by
              rw [rput_len, rput_len, List.length_map]
            exact r2
      obtain ⟨s, q1, q2⟩ := fin
      refine ⟨s, ?_, q2⟩
      unfold k_Composer_putTogether_97 k_Composer_putTogether_150
      try dsimp only
      refine bnd a1 (bnd b1 (bnd c1 (bnd d1 ?_)))
      have cont : ((f_Row_addMany 5000 4000 s4.2.2 s4.1 s4.2.1 (41 : Int32) (nI (if cl = true then 1 else 0))).bind fun u_150 => (if x5 = 0 then k_Composer_putTogether_170 5000 (bI great) 4000 Ru (32 : Int32) (0 : Int32) u_150.1 u_150.2.1 u_150.2.2 else k_Composer_putTogether_170 5000 (bI great) 4000 Ru (32 : Int32) (nI (if zf = true then 0 else lk0)) u_150.1 u_150.2.1 u_150.2.2)) = some s := by
        refine bnd e1 ?_
        rw [hx5]
        cases lf with
        | true => exact ifn (by decide) q1
        | false => exact ifp rfl q1
      cases cl with
      | true => exact ifn (by decide) cont
      | false => exact ifp rfl cont
    unfold k_Composer_putTogether_55
    try dsimp only
    rw [ez]
    cases hlf : hA fl 1 with
    | true =>
      obtain ⟨s, q1, q2⟩ := rest 1 true 0 rfl (by omega)
      exact ⟨s, bnd (sp_anyT hlf) (ifn (by decide) q1), q2⟩
    | false =>
      obtain ⟨s, q1, q2⟩ := rest 0 false (if zf = true then 0 else lk0) rfl hz2
      exact ⟨s, bnd (sp_anyT hlf) (ifp rfl q1), q2⟩
  have fin : ∀ k : Nat, k ≤ 1 → k = (if cl = true then 1 else 0) → ∃ s : Int32 × Int32 × (Nat → Int32), k_Composer_putTogether_27 5000 (bI cl) (bI zf) fl (iI wz) (bI great) 4000 nH Hc Hu nB Bc Bu (Hu + Bu) (nI k) Ru b0 Rc = some s ∧ rsD s Lr (if great = true then (layL hd bd cl zf (hA fl 1) wz.toNat).map upc else layL hd bd cl zf (hA fl 1) wz.toNat) b0 := by
    intro k hk hkc
    obtain ⟨s, q1, q2⟩ := tail (wz.toNat - (hd.length + bd.length + k)) (by omega)
    refine ⟨s, ?_, ?_⟩
    · unfold k_Composer_putTogether_27
      try dsimp only
      rw [lack k hk]
      cases zf with
      | true => exact ifn (by decide) q1
      | false => exact ifp rfl q1
    · unfold layL
      rw [hkc] at q2
      exact q2
  unfold f_Composer_putTogether
  cases cl with
  | true =>
    obtain ⟨s, q1, q2⟩ := fin 1 (by omega) rfl
    exact ⟨s, ifn (by decide) q1, q2⟩
  | false =>
    obtain ⟨s, q1, q2⟩ := fin 0 (by omega) rfl
    exact ⟨s, ifp rfl q1, q2⟩
