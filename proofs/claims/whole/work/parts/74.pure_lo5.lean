theorem FIN_b {α : Type} {o : Option α} {k : α → Option RD} {u : α} {o2 : Option RM} (h : o = some u) (h2 : FIN (k u) o2) : FIN (o.bind k) o2 := by
  rw [h]
  exact h2
theorem FIN_m {o1 : Option RD} {o2 o3 : Option RM} (h : o2 = o3) (h2 : FIN o1 o3) : FIN o1 o2 := by
  rw [h]
  exact h2
theorem FIN_d {o1 o0 : Option RD} {o2 : Option RM} (h : o1 = o0) (h2 : FIN o0 o2) : FIN o1 o2 := by
  rw [h]
  exact h2
theorem upG_f (L : List Nat) : upG false L = L := if_neg (by decide)
theorem map_rep (n : Nat) : (List.replicate n 32).map upc = List.replicate n 32 := by
  rw [List.map_replicate]
  rfl
theorem apL_up (g : Bool) (Y : List Nat) (left : Bool) (w : Nat) : apL (upG g Y) left w = upG g (apL Y left w) := by
  cases g with
  | false => rw [upG_f, upG_f]
  | true =>
    show apL (Y.map upc) left w = (apL Y left w).map upc
    unfold apL
    rw [List.length_map, List.map_append, List.map_append, map_rep, map_rep]
theorem ctL_fin {t : Bool} {pz : Int} {hd bd : List Nat} {cl zf : Bool} {w : Nat} (h : t = true → hd = [] ∧ cl = false ∧ zf = false) : ctL t pz (finL hd bd cl zf w) = finL hd (ctL t pz bd) cl zf w := by
  cases t with
  | false =>
    rw [show ∀ Y, ctL false pz Y = Y from fun Y => if_neg (fun z => by cases z.1), show ∀ Y, ctL false pz Y = Y from fun Y => if_neg (fun z => by cases z.1)]
  | true =>
    obtain ⟨rfl, rfl, rfl⟩ := h rfl
    rw [finL_nil, finL_nil]
theorem fin_128 {hd bd : List Nat} (h1 : ∀ x ∈ hd, x < 128) (h2 : ∀ x ∈ bd, x < 128) (cl zf : Bool) (w : Nat) : ∀ x ∈ finL hd bd cl zf w, x < 128 := by
  intro x hx
  unfold finL at hx
  rw [List.mem_append, List.mem_append, List.mem_append] at hx
  rcases hx with (hx | hx) | (hx | hx)
  · exact h1 x hx
  · rw [List.eq_of_mem_replicate hx]; decide
  · exact h2 x hx
  · rw [List.eq_of_mem_replicate hx]; decide
theorem dsk_128 {fl : Int32} {wz pz : Int} {great t : Bool} {Ru Rb : Int32} {Rc : Nat → Int32} {o : Option LY} {hd bd : List Nat} {cl zf : Bool} (h : dsk fl wz pz great t Ru Rb Rc o hd bd cl zf) : (∀ x ∈ hd, x < 128) ∧ ∀ x ∈ bd, x < 128 := by
  obtain ⟨Hc, Bc, lim, dc, Hu, hb, Bu, bb, du, dlo, xe, xd, xm, e, hH, hB⟩ := h
  exact ⟨hH.2.2.2.1, hB.2.2.2.1⟩
theorem sp_mark {rc1 : DT → Option RD} {rc2 : MT → Option RM} {a' : Nat} (go : GO rc1 rc2 a') (gf : GF rc1 rc2) {nx nb : Nat} (hnx : nx + 1 ≤ a') (ha' : a' ≤ 402) (hnb : nb ≤ 1100) {Lr : List Nat} {Ru len : Int32} {Rc R : Nat → Int32} (hR1 : rowOK 4000 Rc Ru Lr) (hR2 : rsM R len Lr) {at1 : Int32} (hat : at1 + 1 = nI a') {fl : Int32} {wz pz : Int} (hw : -1 ≤ wz ∧ wz ≤ 999) (hpz : -1 ≤ pz ∧ pz ≤ 999) {s0 : Nat} (hs : s0 = 37 ∨ s0 = 110) (h16 : hA fl 16 = false) (ARGS : Nat → Option Nat) (ar : Nat → AR) (AC ix p : Int32) (s : SP) (q : CP) (e0 i0 tw p0 c0 b0 put hd cn ex : Int32) (P T W : Nat → Int32) :
    FIN ((f_Desk_LS 5000 ARGS AC (nI (nx + 1)) (nI nb) 4000 Rc Ru 0 ix fl (iI wz) p (nI s0) (bI false) q.1 q.2.1 4 q.2.2.2.2.1 q.2.2.1 q.2.2.2.1 1800 q.2.2.2.2.2.2.2.1 q.2.2.2.2.2.1 q.2.2.2.2.2.2.1 q.2.2.2.2.2.2.2.2.2.2.1 q.2.2.2.2.2.2.2.2.2.2.2.1 q.2.2.2.2.2.2.2.2.1 q.2.2.2.2.2.2.2.2.2.1 q.2.2.2.2.2.2.2.2.2.2.2.2.1 q.2.2.2.2.2.2.2.2.2.2.2.2.2.1 q.2.2.2.2.2.2.2.2.2.2.2.2.2.2 ar).bind fun u_85 => k_Desk_layOut_100 rc1 u_85.1 at1 u_85.2.1 u_85.2.2.1 u_85.2.2.2.1 u_85.2.2.2.2.1 u_85.2.2.2.2.2.1 s.1 s.2.1 s.2.2.1 s.2.2.2.1 s.2.2.2.2.1 s.2.2.2.2.2.1 s.2.2.2.2.2.2.1 s.2.2.2.2.2.2.2.1 s.2.2.2.2.2.2.2.2.1 s.2.2.2.2.2.2.2.2.2 u_85.2.2.2.2.2.2.1 u_85.2.2.2.2.2.2.2.1 u_85.2.2.2.2.2.2.2.2.1 u_85.2.2.2.2.2.2.2.2.2.1 u_85.2.2.2.2.2.2.2.2.2.2.1 u_85.2.2.2.2.2.2.2.2.2.2.2.1 u_85.2.2.2.2.2.2.2.2.2.2.2.2.1 u_85.2.2.2.2.2.2.2.2.2.2.2.2.2.1 u_85.2.2.2.2.2.2.2.2.2.2.2.2.2.2.1 u_85.2.2.2.2.2.2.2.2.2.2.2.2.2.2.2.1 u_85.2.2.2.2.2.2.2.2.2.2.2.2.2.2.2.2.1 u_85.2.2.2.2.2.2.2.2.2.2.2.2.2.2.2.2.2.1 u_85.2.2.2.2.2.2.2.2.2.2.2.2.2.2.2.2.2.2.1 u_85.2.2.2.2.2.2.2.2.2.2.2.2.2.2.2.2.2.2.2.1 u_85.2.2.2.2.2.2.2.2.2.2.2.2.2.2.2.2.2.2.2.2) (k_Model_layOut_164 5000 rc2 (nI nx) (iI ((nb : Int) - 1)) at1 (nI s0) len e0 i0 fl tw (iI wz) p0 c0 b0 put hd cn ex R P T W) := by
  obtain ⟨t, q', e, rs⟩ := ls_mark hs ARGS ar AC (nI (nx + 1)) (nI nb) Ru 0 ix fl p Rc (wz := wz) ⟨hw.1, by omega⟩ false q h16 hR1
  rw [upG_f] at rs
  obtain ⟨y, y1, y2⟩ := mo_add (pc0 P) (mkr s0) (by decide)
  refine FIN_b e ?_
  have em : k_Model_layOut_164 5000 rc2 (nI nx) (iI ((nb : Int) - 1)) at1 (nI s0) len e0 i0 fl tw (iI wz) p0 c0 b0 put hd cn ex R P T W = ((f_Model_append 5000 R len fl (iI wz) y.2 y.1).bind fun u => (if u.1 = 0 then rc2 (mkM (nI nx) (iI ((nb : Int) - 1)) 14 (nI a') u.2.1 (e0, i0, fl, tw, iI wz, p0, c0, b0) y.1 hd cn ex u.2.2 y.2 T W) else rc2 (mkM (nI nx) (iI ((nb : Int) - 1)) 0 (nI a') u.2.1 (e0, i0, fl, tw, iI wz, p0, c0, b0) y.1 hd cn ex u.2.2 y.2 T W))) := by
    rw [← hat]
    unfold k_Model_layOut_164 k_Model_layOut_184
    rcases hs with rfl | rfl
    · exact ifn (by decide) (bnd y1 rfl)
    · exact ifp (by decide) (bnd y1 rfl)
  refine FIN_m em ?_
  refine put_step go gf (by omega) hnb rs hR2 y2 (wz := wz) ⟨hw.1, by omega⟩ ?_ hat s q' (e0, i0, fl, tw, iI wz, p0, c0, b0) y.1 hd cn ex y.2 T W
  have := lay_app [] [mkr s0] false false (hA fl 1) wz.toNat
  rw [finL_nil] at this
  exact this
theorem mo_idx {i : Nat} : iI (((i + 1 : Nat) : Int) - 1) = nI i := by
  rw [← iI_nat, show ((i + 1 : Nat) : Int) - 1 = (i : Int) by omega]
theorem sp_arg {rc1 : DT → Option RD} {rc2 : MT → Option RM} {a' : Nat} (go : GO rc1 rc2 a') (gf : GF rc1 rc2) {nx nb : Nat} (hnx : nx + 1 ≤ a') (ha' : a' ≤ 402) (hnb : nb ≤ 1100) {Lr : List Nat} {Ru len : Int32} {Rc R : Nat → Int32} (hR1 : rowOK 4000 Rc Ru Lr) (hR2 : rsM R len Lr) {at1 : Int32} (hat : at1 + 1 = nI a') {fl : Int32} {wz pz : Int} (hw : -1 ≤ wz ∧ wz ≤ 999) (hpz : -1 ≤ pz ∧ pz ≤ 999) {s0 c n ix : Nat} (hs : s0 < 128) (hcv : cvB s0 = true) (hc : c < 128) (hix : ix ≤ 1001) (h16 : s0 = 98 ∨ s0 = 115 ∨ s0 = 99 → hA fl 16 = false) {ARGS : Nat → Option Nat} {ar : Nat → AR} {KI WI BE S SC TX LE : Nat → Int32} {VAL PA : Nat → Int64} (hag : agOK n ARGS ar KI WI BE S SC TX LE VAL PA) (s : SP) (q : CP) (e0 i0 tw p0 c0 b0 put hd cn ex : Int32) (P T W : Nat → Int32) :
    FIN ((f_Desk_LS 5000 ARGS (nI n) (nI (nx + 1)) (nI nb) 4000 Rc Ru 0 (dI ix) fl (iI wz) (iI pz) (nI s0) (bI (grB c)) q.1 q.2.1 4 q.2.2.2.2.1 q.2.2.1 q.2.2.2.1 1800 q.2.2.2.2.2.2.2.1 q.2.2.2.2.2.1 q.2.2.2.2.2.2.1 q.2.2.2.2.2.2.2.2.2.2.1 q.2.2.2.2.2.2.2.2.2.2.2.1 q.2.2.2.2.2.2.2.2.1 q.2.2.2.2.2.2.2.2.2.1 q.2.2.2.2.2.2.2.2.2.2.2.2.1 q.2.2.2.2.2.2.2.2.2.2.2.2.2.1 q.2.2.2.2.2.2.2.2.2.2.2.2.2.2 ar).bind fun u_85 => k_Desk_layOut_100 rc1 u_85.1 at1 u_85.2.1 u_85.2.2.1 u_85.2.2.2.1 u_85.2.2.2.2.1 u_85.2.2.2.2.2.1 s.1 s.2.1 s.2.2.1 s.2.2.2.1 s.2.2.2.2.1 s.2.2.2.2.2.1 s.2.2.2.2.2.2.1 s.2.2.2.2.2.2.2.1 s.2.2.2.2.2.2.2.2.1 s.2.2.2.2.2.2.2.2.2 u_85.2.2.2.2.2.2.1 u_85.2.2.2.2.2.2.2.1 u_85.2.2.2.2.2.2.2.2.1 u_85.2.2.2.2.2.2.2.2.2.1 u_85.2.2.2.2.2.2.2.2.2.2.1 u_85.2.2.2.2.2.2.2.2.2.2.2.1 u_85.2.2.2.2.2.2.2.2.2.2.2.2.1 u_85.2.2.2.2.2.2.2.2.2.2.2.2.2.1 u_85.2.2.2.2.2.2.2.2.2.2.2.2.2.2.1 u_85.2.2.2.2.2.2.2.2.2.2.2.2.2.2.2.1 u_85.2.2.2.2.2.2.2.2.2.2.2.2.2.2.2.2.1 u_85.2.2.2.2.2.2.2.2.2.2.2.2.2.2.2.2.2.1 u_85.2.2.2.2.2.2.2.2.2.2.2.2.2.2.2.2.2.2.1 u_85.2.2.2.2.2.2.2.2.2.2.2.2.2.2.2.2.2.2.2.1 u_85.2.2.2.2.2.2.2.2.2.2.2.2.2.2.2.2.2.2.2.2) (k_Model_layOut_249 5000 (nI n) KI VAL WI BE S SC PA TX LE rc2 (nI (cnx ix nx)) at1 (nI s0) (iI ((cnum ix nx nb : Int) - 1)) len e0 i0 fl tw (iI wz) (iI pz) (nI c) b0 put hd cn ex R P T W) := by
  have hn := hag.1
  have h37 : s0 ≠ 37 := fun z => by rw [z] at hcv; exact absurd hcv (by decide)
  have h110 : s0 ≠ 110 := fun z => by rw [z] at hcv; exact absurd hcv (by decide)
  have hcx : cnx ix nx ≤ a' := by
    unfold cnx
    by_cases h0 : ix = 0
    · rw [if_pos h0]; omega
    · rw [if_neg h0]; omega
  obtain ⟨_, hcn⟩ := ch_num (nx := nx) (nb := nb) hix (by omega) hnb
  by_cases hin : 1 ≤ cnum ix nx nb ∧ cnum ix nx nb ≤ n
  · obtain ⟨i, hi⟩ : ∃ i, cnum ix nx nb = i + 1 := ⟨cnum ix nx nb - 1, by omega⟩
    have hin1 : i < n := by omega
    have hao := hag.2.2.2 i hin1
    have hq0 := hag.2.1 i (by omega)
    obtain ⟨q0, qw, ws, k, mi, bits, wd, lo, lt, hA0⟩ : ∃ q0 qw ws k mi bits wd lo lt, ar i = (q0, qw, ws, k, mi, bits, wd, lo, lt) := ⟨(ar i).1, (ar i).2.1, (ar i).2.2.1, (ar i).2.2.2.1, (ar i).2.2.2.2.1, (ar i).2.2.2.2.2.1, (ar i).2.2.2.2.2.2.1, (ar i).2.2.2.2.2.2.2.1, (ar i).2.2.2.2.2.2.2.2, rfl⟩
    rw [hA0] at hao hq0
    have hq0 : ARGS i = some q0 := hq0
    have hls := ls_arg (s := s0) (n := n) (ix := ix) (nx := nx) (nb := nb) h37 h110 hs hix (by omega) hnb hn hin (ARGS := ARGS) (ar := ar) (q0 := q0) (qw := qw) (k := k) (ws := ws) (mi := mi) (wd := wd) (lo := lo) (bits := bits) (lt := lt) (by rw [hi]; exact hA0) (by rw [hi]; exact hq0) Ru 0 fl (iI wz) (iI pz) (bI (grB c)) Rc q
    obtain ⟨V, w3, h3d, h3m, h3u⟩ : ∃ V w3 : Nat, (k = 3 → V < 2 ^ 64 ∧ (w3 = 8 ∨ w3 = 16 ∨ w3 = 32 ∨ w3 = 64) ∧ ws 0 = lN (shN V) ∧ mi = bI (decide (2 ^ 63 ≤ V)) ∧ wd = nI w3) ∧ (k = 3 → V < 2 ^ 64 ∧ (w3 = 8 ∨ w3 = 16 ∨ w3 = 32 ∨ w3 = 64) ∧ VAL i = lN V ∧ WI i = nI w3) ∧ (k = 3 → ∀ V' : Nat, VAL i = lN V' → V' < 2 ^ 64 → V' = V) := by
      obtain ⟨g0, g1, mb, g2, g3, g4, g5, g6, g7, g8, g9, g10, g11, g12⟩ := arOK_un hao
      by_cases hk3 : k = 3
      · obtain ⟨V, w, v1, v2, v3, v4, v5, v6, v7, v8, v9⟩ := g7 hk3
        refine ⟨V, w, fun _ => ⟨v1.1, v1.2.1, v6, by rw [g2, v8], v4⟩, fun _ => ⟨v1.1, v1.2.1, v2, v3⟩, fun _ V' h1 h2 => ?_⟩
        rw [v2] at h1
        exact ((lN_eq64 v1.1 h2).mp h1).symm
      · exact ⟨0, 0, fun z => absurd z hk3, fun z => absurd z hk3, fun z => absurd z hk3⟩
    have hk8 := (arOK_un hao).1
    have hKI := (arOK_un hao).2.1
    have hfD := de_flt (k := k) (s := s0) (wd := w3) (V := V) hk8 hs fl h3d
    have hfM := mo_flt (KI := KI) (WI := WI) (VAL := VAL) (a := i) (k := k) (s := s0) (wd := w3) (V := V) (by omega) hk8 hs hcv fl hKI h3m
    have hk0n : ¬ nI i < 0 := nI_pos (by omega)
    have hk0a : nI i < nI n := nI_lt hin1 (by omega)
    rw [show ((cnum ix nx nb : Nat) : Int) = ((i + 1 : Nat) : Int) by rw [hi], mo_idx]
    rcases fltA_r k s0 w3 V fl with ⟨f0, hg, hc9, hox⟩ | hbad
    · rw [f0] at hfD hfM
      have hlb := lay_both (q := q0) (qw := qw) (k := k) (s := s0) (a := i) (c := c) (by omega) fl wz pz (grB c) Ru 0 Rc q.2.2.2.2.1 q.2.2.2.2.2.2.2.1 q.2.2.2.2.2.2.2.2.2.2.1 q.2.2.2.2.2.2.2.2.2.2.2.1 q.2.2.2.2.2.2.2.2.1 q.2.2.2.2.2.2.2.2.2.1 q.2.2.2.2.2.2.2.2.2.2.2.2.2.1 q.2.2.2.2.2.2.2.2.2.2.2.2.2.2 q.2.2.2.2.2.2.2.2.2.2.2.2.1 ws P T W hd cn ex hao hs hcv hg (fun V' h1 h2 h4 h5 => by rw [h3u h1 V' h4 h5]; exact hc9 h1 h2) hox h16 hw hpz
      obtain ⟨hd', bd, cl, zf, hdsk, hmdl, hct⟩ := hlb
      obtain ⟨d1, d2⟩ := dsk_128 hdsk
      obtain ⟨st, st1, rs⟩ := dsk_lyD hdsk hR1 ⟨hw.1, by omega⟩ ⟨hpz.1, by omega⟩
      obtain ⟨r, r1, r2⟩ := mdl_out hmdl hs hc (fin_128 d1 d2 cl zf wz.toNat) ⟨hpz.1, by omega⟩
      have els := hls.trans (bnd hfD (ifp rfl (bnd st1 rfl)))
      refine FIN_b els ?_
      have em : k_Model_layOut_249 5000 (nI n) KI VAL WI BE S SC PA TX LE rc2 (nI (cnx ix nx)) at1 (nI s0) (nI i) len e0 i0 fl tw (iI wz) (iI pz) (nI c) b0 put hd cn ex R P T W = ((f_Model_append 5000 R len fl (iI wz) r.2.2.2.2.1 r.1).bind fun u => (if u.1 = 0 then rc2 (mkM (nI (cnx ix nx)) (iI (((i + 1 : Nat) : Int) - 1)) 14 (nI a') u.2.1 (e0, i0, fl, tw, iI wz, iI pz, nI c, b0) r.1 r.2.1 r.2.2.1 r.2.2.2.1 u.2.2 r.2.2.2.2.1 r.2.2.2.2.2.1 r.2.2.2.2.2.2) else rc2 (mkM (nI (cnx ix nx)) (iI (((i + 1 : Nat) : Int) - 1)) 0 (nI a') u.2.1 (e0, i0, fl, tw, iI wz, iI pz, nI c, b0) r.1 r.2.1 r.2.2.1 r.2.2.2.1 u.2.2 r.2.2.2.2.1 r.2.2.2.2.2.1 r.2.2.2.2.2.2))) := by
        rw [← hat, mo_idx]
        unfold k_Model_layOut_249
        refine ifn hk0n (ifp hk0a (bnd hfM (ifp rfl (bnd r1 ?_))))
        unfold k_Model_layOut_295
        exact ifp (by decide) rfl
      refine FIN_m em ?_
      rw [hi]
      refine put_step (t := (st.2.2.1, st.2.2.2.1, st.2.2.2.2.1)) go gf hcx (by omega) rs hR2 r2 (wz := wz) ⟨hw.1, by omega⟩ ?_ hat s (st.1, st.2.1, st.2.2.2.2.2.1, st.2.2.2.2.2.2.1, st.2.2.2.2.2.2.2.1, st.2.2.2.2.2.2.2.2.1, st.2.2.2.2.2.2.2.2.2.1, st.2.2.2.2.2.2.2.2.2.2.1, st.2.2.2.2.2.2.2.2.2.2.2.1, st.2.2.2.2.2.2.2.2.2.2.2.2.1, st.2.2.2.2.2.2.2.2.2.2.2.2.2.1, st.2.2.2.2.2.2.2.2.2.2.2.2.2.2.1, st.2.2.2.2.2.2.2.2.2.2.2.2.2.2.2.1, st.2.2.2.2.2.2.2.2.2.2.2.2.2.2.2.2.1, st.2.2.2.2.2.2.2.2.2.2.2.2.2.2.2.2.2) (e0, i0, fl, tw, iI wz, iI pz, nI c, b0) r.1 r.2.1 r.2.2.1 r.2.2.2.1 r.2.2.2.2.1 r.2.2.2.2.2.1 r.2.2.2.2.2.2
      rw [apL_up, ctL_fin hct, lay_app]
    · have hx : ¬ fltA k s0 w3 V fl ≤ 0 := by
        rcases hbad with h | h | h <;> (rw [h]; decide)
      have hx0 : ¬ fltA k s0 w3 V fl = 0 := fun z => hx (by rw [z]; decide)
      generalize fltA k s0 w3 V fl = x at hfD hfM hx hx0
      have els := hls.trans (bnd hfD (ifn hx0 rfl))
      refine FIN_b els (FIN_d (k100 rc1 x at1 _ _ _ _ _ s q) ?_)
      rw [if_neg hx0]
      refine FIN_m ?_ (gf x _ _ _ _ _ _ _ _ (nI (cnx ix nx)) (nI i) (at1 + 1) len (e0, i0, fl, tw, iI wz, iI pz, nI c, b0) put hd cn ex R P T W hx)
      unfold k_Model_layOut_249
      refine ifn hk0n (ifp hk0a (bnd hfM (ifn hx0 ?_)))
      unfold k_Model_layOut_295
      exact ifn hx rfl
  · have els := ls_10 (s := s0) (n := n) (ix := ix) (nx := nx) (nb := nb) h37 h110 hs hix (by omega) hnb hn hin ARGS ar Ru 0 fl (iI wz) (iI pz) (bI (grB c)) Rc q
    refine FIN_b els (FIN_d (k100 rc1 10 at1 _ _ _ _ _ s q) ?_)
    rw [if_neg (by decide)]
    refine FIN_m ?_ (gf 10 _ _ _ _ _ _ _ _ (nI (cnx ix nx)) (iI ((cnum ix nx nb : Int) - 1)) (at1 + 1) len (e0, i0, fl, tw, iI wz, iI pz, nI c, b0) put hd cn ex R P T W (by decide))
    unfold k_Model_layOut_249
    by_cases h1 : 1 ≤ cnum ix nx nb
    · refine ifn (inlt ((cnum ix nx nb : Int) - 1) 0 (by omega)) (ifn ?_ rfl)
      rw [← iI_nat]
      exact inlt ((cnum ix nx nb : Int) - 1) (n : Int) (by omega)
    · exact ifp (ilt ((cnum ix nx nb : Int) - 1) 0 (by omega)) rfl
