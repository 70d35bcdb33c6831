abbrev CP : Type := Int32 × Int32 × Int32 × Int32 × (Nat → Int32) × Int32 × Int32 × (Nat → Int32) × Int32 × Int32 × (Nat → Int32) × (Nat → Int32) × Int64 × Int32 × Int32
abbrev DT : Type := Int32 × Int32 × Int32 × Int32 × Int32 × Int32 × (Nat → Int32) × Int32 × Int32 × Int32 × Int32 × Int32 × Int32 × Int32 × Int32 × Int32 × Int32 × Int32 × Int32 × Int32 × Int32 × (Nat → Int32) × Int32 × Int32 × (Nat → Int32) × Int32 × Int32 × (Nat → Int32) × (Nat → Int32) × Int64 × Int32 × Int32
abbrev MT : Type := Int32 × Int32 × Int32 × Int32 × Int32 × Int32 × Int32 × Int32 × Int32 × Int32 × Int32 × Int32 × Int32 × Int32 × Int32 × Int32 × Int32 × (Nat → Int32) × (Nat → Int32) × (Nat → Int32) × (Nat → Int32)
abbrev RD : Type := Int32 × Int32 × Int32 × Int32 × Int32 × (Nat → Int32) × Int32 × Int32 × Int32 × Int32 × Int32 × Int32 × Int32 × Int32 × Int32 × Int32 × Int32 × Int32 × Int32 × Int32 × (Nat → Int32) × Int32 × Int32 × (Nat → Int32) × Int32 × Int32 × (Nat → Int32) × (Nat → Int32) × Int64 × Int32 × Int32
abbrev RM : Type := Int32 × Int32 × Int32 × Int32 × Int32 × Int32 × Int32 × Int32 × Int32 × Int32 × Int32 × Int32 × Int32 × Int32 × (Nat → Int32) × (Nat → Int32) × (Nat → Int32) × (Nat → Int32)
abbrev mkD (x a N B u b : Int32) (c : Nat → Int32) (s : SP) (q : CP) : DT := (x, a, N, B, u, b, c, s.1, s.2.1, s.2.2.1, s.2.2.2.1, s.2.2.2.2.1, s.2.2.2.2.2.1, s.2.2.2.2.2.2.1, s.2.2.2.2.2.2.2.1, s.2.2.2.2.2.2.2.2.1, s.2.2.2.2.2.2.2.2.2, q.1, q.2.1, q.2.2.1, q.2.2.2.1, q.2.2.2.2.1, q.2.2.2.2.2.1, q.2.2.2.2.2.2.1, q.2.2.2.2.2.2.2.1, q.2.2.2.2.2.2.2.2.1, q.2.2.2.2.2.2.2.2.2.1, q.2.2.2.2.2.2.2.2.2.2.1, q.2.2.2.2.2.2.2.2.2.2.2.1, q.2.2.2.2.2.2.2.2.2.2.2.2.1, q.2.2.2.2.2.2.2.2.2.2.2.2.2.1, q.2.2.2.2.2.2.2.2.2.2.2.2.2.2)
abbrev mkM (x1 x2 x3 x4 l : Int32) (s : SM) (put hd cn ex : Int32) (R P T W : Nat → Int32) : MT := (x1, x2, x3, x4, l, s.1, s.2.1, s.2.2.1, s.2.2.2.1, s.2.2.2.2.1, s.2.2.2.2.2.1, s.2.2.2.2.2.2.1, s.2.2.2.2.2.2.2, put, hd, cn, ex, R, P, T, W)
def FIN (o1 : Option RD) (o2 : Option RM) : Prop := ∃ (r1 : RD) (r2 : RM), o1 = some r1 ∧ o2 = some r2 ∧ r1.1 = r2.1 ∧ ∃ L : List Nat, rowOK 4000 r1.2.2.2.2.2.1 r1.2.2.2.1 L ∧ rsM r2.2.2.2.2.2.2.2.2.2.2.2.2.2.2.1 r2.2.1 L
def GO (rc1 : DT → Option RD) (rc2 : MT → Option RM) (a : Nat) : Prop := ∀ (nx nb : Nat) (Lr : List Nat) (Ru len : Int32) (Rc R : Nat → Int32) (sp : SP) (cp : CP) (sm : SM) (put hd cn ex : Int32) (P T W : Nat → Int32), nx ≤ a → nb ≤ 1100 → rowOK 4000 Rc Ru Lr → rsM R len Lr → FIN (rc1 (mkD 0 (nI a) (nI (nx + 1)) (nI nb) Ru 0 Rc sp cp)) (rc2 (mkM (nI nx) (iI ((nb : Int) - 1)) 0 (nI a) len sm put hd cn ex R P T W))
def GF (rc1 : DT → Option RD) (rc2 : MT → Option RM) : Prop := ∀ (x a N B u b : Int32) (c : Nat → Int32) (s : SP) (q : CP) (x1 x2 x4 l : Int32) (sm : SM) (put hd cn ex : Int32) (R P T W : Nat → Int32), ¬ x ≤ 0 → FIN (rc1 (mkD x a N B u b c s q)) (rc2 (mkM x1 x2 x x4 l sm put hd cn ex R P T W))
theorem rs0 (R : Nat → Int32) : rsM R 0 [] := ⟨rfl, Nat.zero_le _, fun j hj => absurd hj (Nat.not_lt_zero j)⟩
theorem gf_all (ARGS : Nat → Option Nat) (AC : Int32) (dc : Nat → Int32) (du : Int32) (ar : Nat → AR) (md : Nat → Int32) (mu A : Int32) (KI : Nat → Int32) (VAL : Nat → Int64) (WI BE S SC : Nat → Int32) (PA : Nat → Int64) (TX LE : Nat → Int32) {m1 m2 : Nat} (h1 : 0 < m1) (h2 : 0 < m2) : GF (lp_ (b_Desk_layOut_30 5000 ARGS AC 400 dc du 4000 4 1800 ar) m1) (lp_ (b_Model_layOut_67 5000 md mu A KI VAL WI BE S SC PA TX LE) m2) := by
  intro x a N B u b c s q x1 x2 x4 l sm put hd cn ex R P T W hx
  obtain ⟨m1, rfl⟩ : ∃ j, m1 = j + 1 := ⟨m1 - 1, by omega⟩
  obtain ⟨m2, rfl⟩ : ∃ j, m2 = j + 1 := ⟨m2 - 1, by omega⟩
  have hne : ¬ x = 0 := fun z => hx (by rw [z]; decide)
  refine ⟨(x, N, B, 0, 0, c, s.1, s.2.1, s.2.2.1, s.2.2.2.1, s.2.2.2.2.1, s.2.2.2.2.2.1, s.2.2.2.2.2.2.1, s.2.2.2.2.2.2.2.1, s.2.2.2.2.2.2.2.2.1, s.2.2.2.2.2.2.2.2.2, q.1, q.2.1, q.2.2.1, q.2.2.2.1, q.2.2.2.2.1, q.2.2.2.2.2.1, q.2.2.2.2.2.2.1, q.2.2.2.2.2.2.2.1, q.2.2.2.2.2.2.2.2.1, q.2.2.2.2.2.2.2.2.2.1, q.2.2.2.2.2.2.2.2.2.2.1, q.2.2.2.2.2.2.2.2.2.2.2.1, q.2.2.2.2.2.2.2.2.2.2.2.2.1, q.2.2.2.2.2.2.2.2.2.2.2.2.2.1, q.2.2.2.2.2.2.2.2.2.2.2.2.2.2), (x, 0, sm.1, sm.2.1, sm.2.2.1, sm.2.2.2.1, sm.2.2.2.2.1, sm.2.2.2.2.2.1, sm.2.2.2.2.2.2.1, sm.2.2.2.2.2.2.2, put, hd, cn, ex, R, P, T, W), ?_, ?_, rfl, [], row0 (by omega) c, rs0 R⟩
  · show b_Desk_layOut_30 5000 ARGS AC 400 dc du 4000 4 1800 ar (lp_ (b_Desk_layOut_30 5000 ARGS AC 400 dc du 4000 4 1800 ar) m1) _ = _
    rw [e_Desk_layOut_30]
    have e : ∀ y, k_Desk_layOut_123 x N B u b c s.1 s.2.1 s.2.2.1 s.2.2.2.1 s.2.2.2.2.1 s.2.2.2.2.2.1 s.2.2.2.2.2.2.1 s.2.2.2.2.2.2.2.1 s.2.2.2.2.2.2.2.2.1 s.2.2.2.2.2.2.2.2.2 q.1 q.2.1 q.2.2.1 q.2.2.2.1 q.2.2.2.2.1 q.2.2.2.2.2.1 q.2.2.2.2.2.2.1 q.2.2.2.2.2.2.2.1 q.2.2.2.2.2.2.2.2.1 q.2.2.2.2.2.2.2.2.2.1 q.2.2.2.2.2.2.2.2.2.2.1 q.2.2.2.2.2.2.2.2.2.2.2.1 q.2.2.2.2.2.2.2.2.2.2.2.2.1 q.2.2.2.2.2.2.2.2.2.2.2.2.2.1 q.2.2.2.2.2.2.2.2.2.2.2.2.2.2 = y → y = some (x, N, B, 0, 0, c, s.1, s.2.1, s.2.2.1, s.2.2.2.1, s.2.2.2.2.1, s.2.2.2.2.2.1, s.2.2.2.2.2.2.1, s.2.2.2.2.2.2.2.1, s.2.2.2.2.2.2.2.2.1, s.2.2.2.2.2.2.2.2.2, q.1, q.2.1, q.2.2.1, q.2.2.2.1, q.2.2.2.2.1, q.2.2.2.2.2.1, q.2.2.2.2.2.2.1, q.2.2.2.2.2.2.2.1, q.2.2.2.2.2.2.2.2.1, q.2.2.2.2.2.2.2.2.2.1, q.2.2.2.2.2.2.2.2.2.2.1, q.2.2.2.2.2.2.2.2.2.2.2.1, q.2.2.2.2.2.2.2.2.2.2.2.2.1, q.2.2.2.2.2.2.2.2.2.2.2.2.2.1, q.2.2.2.2.2.2.2.2.2.2.2.2.2.2) := by
      intro y hy
      rw [← hy]
      unfold k_Desk_layOut_123
      exact ifn hne (bnd (u := ((0 : Int32), (0 : Int32))) rfl rfl)
    by_cases hle : du ≤ a
    · exact ifp hle (e _ rfl)
    · exact ifn hle (ifn hne (e _ rfl))
  · show b_Model_layOut_67 5000 md mu A KI VAL WI BE S SC PA TX LE (lp_ (b_Model_layOut_67 5000 md mu A KI VAL WI BE S SC PA TX LE) m2) _ = _
    rw [e_Model_layOut_67]
    have e : ∀ y, k_Model_layOut_323 x l sm.1 sm.2.1 sm.2.2.1 sm.2.2.2.1 sm.2.2.2.2.1 sm.2.2.2.2.2.1 sm.2.2.2.2.2.2.1 sm.2.2.2.2.2.2.2 put hd cn ex R P T W = y → y = some (x, 0, sm.1, sm.2.1, sm.2.2.1, sm.2.2.2.1, sm.2.2.2.2.1, sm.2.2.2.2.2.1, sm.2.2.2.2.2.2.1, sm.2.2.2.2.2.2.2, put, hd, cn, ex, R, P, T, W) := by
      intro y hy
      rw [← hy]
      unfold k_Model_layOut_323 k_Model_layOut_336
      exact ifn hx rfl
    by_cases hle : mu ≤ x4
    · exact ifp hle (e _ rfl)
    · exact ifn hle (ifn hne (e _ rfl))
theorem k100 (rc1 : DT → Option RD) (x a N B u b : Int32) (c : Nat → Int32) (s : SP) (q : CP) : k_Desk_layOut_100 rc1 x a N B u b c s.1 s.2.1 s.2.2.1 s.2.2.2.1 s.2.2.2.2.1 s.2.2.2.2.2.1 s.2.2.2.2.2.2.1 s.2.2.2.2.2.2.2.1 s.2.2.2.2.2.2.2.2.1 s.2.2.2.2.2.2.2.2.2 q.1 q.2.1 q.2.2.1 q.2.2.2.1 q.2.2.2.2.1 q.2.2.2.2.2.1 q.2.2.2.2.2.2.1 q.2.2.2.2.2.2.2.1 q.2.2.2.2.2.2.2.2.1 q.2.2.2.2.2.2.2.2.2.1 q.2.2.2.2.2.2.2.2.2.2.1 q.2.2.2.2.2.2.2.2.2.2.2.1 q.2.2.2.2.2.2.2.2.2.2.2.2.1 q.2.2.2.2.2.2.2.2.2.2.2.2.2.1 q.2.2.2.2.2.2.2.2.2.2.2.2.2.2 = rc1 (mkD (if x = 0 then (if b = 0 then 0 else 14) else x) (a + 1) N B u b c s q) := by
  unfold k_Desk_layOut_100 k_Desk_layOut_117
  by_cases hx : x = 0
  · rw [if_pos hx, if_pos hx]
    by_cases hb : b = 0
    · rw [if_pos hb, if_pos hb, hx]
    · rw [if_neg hb, if_neg hb]
  · rw [if_neg hx, if_neg hx]
theorem put_step {rc1 : DT → Option RD} {rc2 : MT → Option RM} {a' : Nat} (go : GO rc1 rc2 a') (gf : GF rc1 rc2) {nx nb : Nat} (hnx : nx ≤ a') (hnb : nb ≤ 1100) {Lr Q L : List Nat} {t : Int32 × Int32 × (Nat → Int32)} (hs : rsD t Lr Q 0) {R : Nat → Int32} {len : Int32} (hR : rsM R len Lr) {P : Nat → Int32} {p : Int32} (hP : pcOK P p L) {fl : Int32} {wz : Int} (hw : -1 ≤ wz ∧ wz ≤ 1000) (hQ : apL L (hA fl 1) wz.toNat = Q) {at1 : Int32} (hat : at1 + 1 = nI a') (s : SP) (q : CP) (sm : SM) (put hd cn ex : Int32) (P' T W : Nat → Int32) :
    FIN (k_Desk_layOut_100 rc1 0 at1 (nI (nx + 1)) (nI nb) t.1 t.2.1 t.2.2 s.1 s.2.1 s.2.2.1 s.2.2.2.1 s.2.2.2.2.1 s.2.2.2.2.2.1 s.2.2.2.2.2.2.1 s.2.2.2.2.2.2.2.1 s.2.2.2.2.2.2.2.2.1 s.2.2.2.2.2.2.2.2.2 q.1 q.2.1 q.2.2.1 q.2.2.2.1 q.2.2.2.2.1 q.2.2.2.2.2.1 q.2.2.2.2.2.2.1 q.2.2.2.2.2.2.2.1 q.2.2.2.2.2.2.2.2.1 q.2.2.2.2.2.2.2.2.2.1 q.2.2.2.2.2.2.2.2.2.2.1 q.2.2.2.2.2.2.2.2.2.2.2.1 q.2.2.2.2.2.2.2.2.2.2.2.2.1 q.2.2.2.2.2.2.2.2.2.2.2.2.2.1 q.2.2.2.2.2.2.2.2.2.2.2.2.2.2) ((f_Model_append 5000 R len fl (iI wz) P p).bind fun u => (if u.1 = 0 then rc2 (mkM (nI nx) (iI ((nb : Int) - 1)) 14 (nI a') u.2.1 sm put hd cn ex u.2.2 P' T W) else rc2 (mkM (nI nx) (iI ((nb : Int) - 1)) 0 (nI a') u.2.1 sm put hd cn ex u.2.2 P' T W))) := by
  obtain ⟨hs1, hs2⟩ := hs
  obtain ⟨o, u', R', e, h⟩ := mo_append hR hP fl hw
  rw [hQ] at h
  rw [k100, hat, hs1, if_pos rfl, e]
  unfold rbst
  rcases h with ⟨h1, h2, h3⟩ | ⟨h1, h2⟩
  · rw [if_pos h1, if_pos rfl]
    subst h2
    have e2 : rput 4000 Lr Q = Lr ++ Q := rput_fit h1
    rw [e2] at hs2
    exact go nx nb (Lr ++ Q) t.1 u' t.2.2 R' s q sm put hd cn ex P' T W hnx hnb hs2 h3
  · rw [if_neg h1, if_neg (by decide)]
    subst h2
    exact gf 14 _ _ _ _ _ _ _ _ _ _ _ _ _ _ _ _ _ _ _ _ _ (by decide)
theorem apL_0 (L : List Nat) (left : Bool) : apL L left 0 = L := by
  unfold apL
  simp
