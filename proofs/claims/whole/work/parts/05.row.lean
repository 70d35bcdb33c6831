theorem d_Row_empty_0 : decode cd_Row_empty 0 = .ok (.aload_n 0, 1) := by decide +kernel
theorem d_Row_empty_1 : decode cd_Row_empty 1 = .ok (.iconst 0, 1) := by decide +kernel
theorem d_Row_empty_2 : decode cd_Row_empty 2 = .ok (.putfield 19, 3) := by decide +kernel
theorem d_Row_empty_5 : decode cd_Row_empty 5 = .ok (.aload_n 0, 1) := by decide +kernel
theorem d_Row_empty_6 : decode cd_Row_empty 6 = .ok (.iconst 0, 1) := by decide +kernel
theorem d_Row_empty_7 : decode cd_Row_empty 7 = .ok (.putfield 23, 3) := by decide +kernel
theorem d_Row_empty_10 : decode cd_Row_empty 10 = .ok (.return_, 1) := by decide +kernel
theorem m_54 : Cond.fieldLink R_Row 19 "SpecifierDesk$Row" "used" "I" ∈ gw := gm (i := 118) (by decide +kernel) (by decide +kernel)
theorem m_55 : Cond.fieldLink R_Row 23 "SpecifierDesk$Row" "burst" "Z" ∈ gw := gm (i := 122) (by decide +kernel) (by decide +kernel)
def f_Row_empty  : Option (Int32 × Int32) :=
  some ((0 : Int32), (0 : Int32))
abbrev w_Row_empty (G : Gt) (qt : Nat) (qt_cells : Nat) (nt_cells : Nat) (t_cells : Nat → Int32) (t_used : Int32) (t_burst : Int32) : va_W := [(qt, .inr (4, [.ref qt_cells, .int t_used, .int t_burst])), (qt_cells, .inl (gC G 0, nt_cells, .inl t_cells))]
set_option maxHeartbeats 4000000 in
set_option maxRecDepth 100000 in
theorem c_Row_empty (l : Launch) (G : Gt) (K : Nat) (qt : Nat) (qt_cells : Nat) (nt_cells : Nat) (t_cells : Nat → Int32) (t_used : Int32) (t_burst : Int32) (sz : Nat) (res : Int32 × Int32)   (hf : f_Row_empty  = some res) : Met l y_Row_empty (.code y_Row_empty cd_Row_empty 1 none :: gw) { frames := 0, cells := 0, slots := 0, locals := 0 } (PC G ([.ref qt] : List Value) sz (w_Row_empty G qt qt_cells nt_cells t_cells t_used t_burst)) (QV G (va_A (w_Row_empty G qt qt_cells nt_cells t_cells t_used t_burst) sz) (w_Row_empty G qt qt_cells nt_cells t_cells res.1 res.2)) 0 0 (va_A (w_Row_empty G qt qt_cells nt_cells t_cells t_used t_burst) sz) := by
  refine Met.ofW (cc := cd_Row_empty) (maxL := 1) (ret := none) (by decide) rfl ?_
  intro p e s m args below meth c s₁ B hml hv
  obtain ⟨rfl, hsz, hP, hE, hD0⟩ := hv
  have hx := B.exec
  have hb := B.bytes
  have hr := B.returns
  have hts := atoms_spec (ws := (.code y_Row_empty cd_Row_empty 1 none :: gw)) B.pre
  have hg : ∀ w ∈ gw, w.before _ s = true := fun w h => hts w (List.mem_cons_of_mem _ h)
  have hown : s.vm.findClass R_Row = some m.cls := findClass_of_methodNamed B.named
  have hlocks := B.notSynchronized
  subst hsz
  have hK := hE.K
  have hD := hD0.self (sz := s.heap.size)
  have hAb := hE.ab hD0
  obtain ⟨Q, hQ⟩ : ∃ Q, MQ below (QV G (va_A (w_Row_empty G qt qt_cells nt_cells t_cells t_used t_burst) s.heap.size) (w_Row_empty G qt qt_cells nt_cells t_cells res.1 res.2)) ([.ref qt] : List Value).toArray s 0 0 (va_A (w_Row_empty G qt qt_cells nt_cells t_cells t_used t_burst) s.heap.size) = Q := ⟨_, rfl⟩
  show W p l e { frames := 0, cells := 0, slots := 0, locals := 0 } s m ([.ref qt] : List Value).toArray below meth c s.heap [] 0 0 (MQ below (QV G (va_A (w_Row_empty G qt qt_cells nt_cells t_cells t_used t_burst) s.heap.size) (w_Row_empty G qt qt_cells nt_cells t_cells res.1 res.2)) ([.ref qt] : List Value).toArray s 0 0 (va_A (w_Row_empty G qt qt_cells nt_cells t_cells t_used t_burst) s.heap.size)) _
  rw [hQ]
  have hA : ∀ q : Nat, s.heap.size ≤ q → va_A (w_Row_empty G qt qt_cells nt_cells t_cells t_used t_burst) s.heap.size q := fun q h => Or.inr h
  obtain ⟨A, hAe⟩ : ∃ A, va_A (w_Row_empty G qt qt_cells nt_cells t_cells t_used t_burst) s.heap.size = A := ⟨_, rfl⟩
  rw [hAe] at hA hD hAb hQ
  have hS : va_S A s.heap s.heap [] := va_S.rf
  have hl := lv_entry (([.ref qt] : List Value)) (n := 1) (Nat.le_of_ble_eq_true rfl)
  rw [lg_entry_eq]
  generalize (lg_sl (([.ref qt] : List Value)) ++ List.replicate (1 - (lg_sl (([.ref qt] : List Value))).length) Slot.unset).toArray = ls at hl ⊢
  have hl : lv_has ls 1 [(0, .ref qt)] := hl
  unfold f_Row_empty at hf
  refine lv_aload_n hx hb d_Row_empty_0 rfl (lv_at hl 0 rfl) ?_
  refine lv_iconst (v := 0) hx hb d_Row_empty_1 (by decide) ?_
  refine va_put (D := gD G) (ci := 4) (v := .int (0 : Int32)) (ty := .int) (C := R_Row) (T := F_Row) (N := 3) hx hb hg in_Row t_Row to_Row no_Row hown hK hP hD hS 0 rfl rfl 1 (by decide) (hg _ m_54) (fun _ h9 => h9) rfl (by decide +kernel) rfl rfl (Nat.le_of_ble_eq_true rfl) d_Row_empty_2 (fun H locs hP hD hS => ?_)
  have hP : va_P (gD G) vwCl (w_Row_empty G qt qt_cells nt_cells t_cells (0 : Int32) t_burst) H := hP
  have hD : va_D A (w_Row_empty G qt qt_cells nt_cells t_cells (0 : Int32) t_burst) := hD
  refine lv_aload_n hx hb d_Row_empty_5 rfl (lv_at hl 0 rfl) ?_
  refine lv_iconst (v := 0) hx hb d_Row_empty_6 (by decide) ?_
  refine va_put (D := gD G) (ci := 4) (v := .int (0 : Int32)) (ty := .boolean) (C := R_Row) (T := F_Row) (N := 3) hx hb hg in_Row t_Row to_Row no_Row hown hK hP hD hS 0 rfl rfl 2 (by decide) (hg _ m_55) (fun _ h9 => h9) rfl (by decide +kernel) (bl_n bl_0) (bl_f bl_0) (Nat.le_of_ble_eq_true rfl) d_Row_empty_7 (fun H locs hP hD hS => ?_)
  have hP : va_P (gD G) vwCl (w_Row_empty G qt qt_cells nt_cells t_cells (0 : Int32) (0 : Int32)) H := hP
  have hD : va_D A (w_Row_empty G qt qt_cells nt_cells t_cells (0 : Int32) (0 : Int32)) := hD
  obtain rfl := Option.some.inj hf
  rw [← hQ]
  exact W.vret hx hb hr (fun t9 ht hW => ⟨⟨(), rfl, trivial, ⟨by rw [ht]; exact hP, hD⟩⟩, hS.F ht⟩) hS.2.2 d_Row_empty_10
theorem d_Row_add_0 : decode cd_Row_add 0 = .ok (.aload_n 0, 1) := by decide +kernel
theorem d_Row_add_1 : decode cd_Row_add 1 = .ok (.getfield 19, 3) := by decide +kernel
theorem d_Row_add_4 : decode cd_Row_add 4 = .ok (.ifCond .lt 15, 3) := by decide +kernel
theorem d_Row_add_7 : decode cd_Row_add 7 = .ok (.aload_n 0, 1) := by decide +kernel
theorem d_Row_add_8 : decode cd_Row_add 8 = .ok (.getfield 19, 3) := by decide +kernel
theorem d_Row_add_11 : decode cd_Row_add 11 = .ok (.aload_n 0, 1) := by decide +kernel
theorem d_Row_add_12 : decode cd_Row_add 12 = .ok (.getfield 13, 3) := by decide +kernel
theorem d_Row_add_15 : decode cd_Row_add 15 = .ok (.arraylength, 1) := by decide +kernel
theorem d_Row_add_16 : decode cd_Row_add 16 = .ok (.if_icmp .lt 9, 3) := by decide +kernel
theorem d_Row_add_19 : decode cd_Row_add 19 = .ok (.aload_n 0, 1) := by decide +kernel
theorem d_Row_add_20 : decode cd_Row_add 20 = .ok (.iconst 1, 1) := by decide +kernel
theorem d_Row_add_21 : decode cd_Row_add 21 = .ok (.putfield 23, 3) := by decide +kernel
theorem d_Row_add_24 : decode cd_Row_add 24 = .ok (.return_, 1) := by decide +kernel
theorem d_Row_add_25 : decode cd_Row_add 25 = .ok (.aload_n 0, 1) := by decide +kernel
theorem d_Row_add_26 : decode cd_Row_add 26 = .ok (.getfield 13, 3) := by decide +kernel
theorem d_Row_add_29 : decode cd_Row_add 29 = .ok (.aload_n 0, 1) := by decide +kernel
theorem d_Row_add_30 : decode cd_Row_add 30 = .ok (.getfield 19, 3) := by decide +kernel
theorem d_Row_add_33 : decode cd_Row_add 33 = .ok (.iload_n 1, 1) := by decide +kernel
theorem d_Row_add_34 : decode cd_Row_add 34 = .ok (.i2b, 1) := by decide +kernel
theorem d_Row_add_35 : decode cd_Row_add 35 = .ok (.bastore, 1) := by decide +kernel
theorem d_Row_add_36 : decode cd_Row_add 36 = .ok (.aload_n 0, 1) := by decide +kernel
theorem d_Row_add_37 : decode cd_Row_add 37 = .ok (.dup, 1) := by decide +kernel
theorem d_Row_add_38 : decode cd_Row_add 38 = .ok (.getfield 19, 3) := by decide +kernel
theorem d_Row_add_41 : decode cd_Row_add 41 = .ok (.iconst 1, 1) := by decide +kernel
theorem d_Row_add_42 : decode cd_Row_add 42 = .ok (.iadd, 1) := by decide +kernel
theorem d_Row_add_43 : decode cd_Row_add 43 = .ok (.putfield 19, 3) := by decide +kernel
theorem d_Row_add_46 : decode cd_Row_add 46 = .ok (.return_, 1) := by decide +kernel
theorem m_56 : Cond.fieldLink R_Row 13 "SpecifierDesk$Row" "cells" "[B" ∈ gw := gm (i := 117) (by decide +kernel) (by decide +kernel)
def k_Row_add_19  (t_used : Int32) (t_burst : Int32) (t_cells : (Nat → Int32)) : Option (Int32 × Int32 × (Nat → Int32)) :=
  some (t_used, (1 : Int32), t_cells)
def f_Row_add (nt_cells : Nat) (t_cells : Nat → Int32) (t_used : Int32) (t_burst : Int32) (a1 : Int32) : Option (Int32 × Int32 × (Nat → Int32)) :=
  (if t_used < 0 then k_Row_add_19  t_used t_burst t_cells else (if t_used < (nI nt_cells) then (if inB t_used nt_cells = true then some ((t_used + (1 : Int32)), t_burst, (upd t_cells t_used.toNatClampNeg (vp_nar .byte a1.toInt8.toInt32))) else none) else k_Row_add_19  t_used t_burst t_cells))
set_option maxHeartbeats 4000000 in
set_option maxRecDepth 100000 in
theorem c_Row_add (l : Launch) (G : Gt) (K : Nat) (qt : Nat) (qt_cells : Nat) (nt_cells : Nat) (t_cells : Nat → Int32) (t_used : Int32) (t_burst : Int32) (a1 : Int32) (sz : Nat) (res : Int32 × Int32 × (Nat → Int32))   (hf : f_Row_add nt_cells t_cells t_used t_burst a1 = some res) : Met l y_Row_add (.code y_Row_add cd_Row_add 2 none :: gw) { frames := 0, cells := 0, slots := 0, locals := 0 } (PC G ([.ref qt, .int a1] : List Value) sz (w_Row_empty G qt qt_cells nt_cells t_cells t_used t_burst)) (QV G (va_A (w_Row_empty G qt qt_cells nt_cells t_cells t_used t_burst) sz) (w_Row_empty G qt qt_cells nt_cells res.2.2 res.1 res.2.1)) 0 0 (va_A (w_Row_empty G qt qt_cells nt_cells t_cells t_used t_burst) sz) := by
  refine Met.ofW (cc := cd_Row_add) (maxL := 2) (ret := none) (by decide) rfl ?_
  intro p e s m args below meth c s₁ B hml hv
  obtain ⟨rfl, hsz, hP, hE, hD0⟩ := hv
  have hx := B.exec
  have hb := B.bytes
  have hr := B.returns
  have hts := atoms_spec (ws := (.code y_Row_add cd_Row_add 2 none :: gw)) B.pre
  have hg : ∀ w ∈ gw, w.before _ s = true := fun w h => hts w (List.mem_cons_of_mem _ h)
  have hown : s.vm.findClass R_Row = some m.cls := findClass_of_methodNamed B.named
  have hlocks := B.notSynchronized
  subst hsz
  have hK := hE.K
  have hD := hD0.self (sz := s.heap.size)
  have hAb := hE.ab hD0
  obtain ⟨Q, hQ⟩ : ∃ Q, MQ below (QV G (va_A (w_Row_empty G qt qt_cells nt_cells t_cells t_used t_burst) s.heap.size) (w_Row_empty G qt qt_cells nt_cells res.2.2 res.1 res.2.1)) ([.ref qt, .int a1] : List Value).toArray s 0 0 (va_A (w_Row_empty G qt qt_cells nt_cells t_cells t_used t_burst) s.heap.size) = Q := ⟨_, rfl⟩
  show W p l e { frames := 0, cells := 0, slots := 0, locals := 0 } s m ([.ref qt, .int a1] : List Value).toArray below meth c s.heap [] 0 0 (MQ below (QV G (va_A (w_Row_empty G qt qt_cells nt_cells t_cells t_used t_burst) s.heap.size) (w_Row_empty G qt qt_cells nt_cells res.2.2 res.1 res.2.1)) ([.ref qt, .int a1] : List Value).toArray s 0 0 (va_A (w_Row_empty G qt qt_cells nt_cells t_cells t_used t_burst) s.heap.size)) _
  rw [hQ]
  have hA : ∀ q : Nat, s.heap.size ≤ q → va_A (w_Row_empty G qt qt_cells nt_cells t_cells t_used t_burst) s.heap.size q := fun q h => Or.inr h
  obtain ⟨A, hAe⟩ : ∃ A, va_A (w_Row_empty G qt qt_cells nt_cells t_cells t_used t_burst) s.heap.size = A := ⟨_, rfl⟩
  rw [hAe] at hA hD hAb hQ
  have hS : va_S A s.heap s.heap [] := va_S.rf
  have hl := lv_entry (([.ref qt, .int a1] : List Value)) (n := 2) (Nat.le_of_ble_eq_true rfl)
  rw [lg_entry_eq]
  generalize (lg_sl (([.ref qt, .int a1] : List Value)) ++ List.replicate (2 - (lg_sl (([.ref qt, .int a1] : List Value))).length) Slot.unset).toArray = ls at hl ⊢
  have hl : lv_has ls 2 [(0, .ref qt), (1, .int a1)] := hl
  have W_19 : ∀ (t_used : Int32) (t_burst : Int32) (t_cells : (Nat → Int32)) , k_Row_add_19  t_used t_burst t_cells = some res → ∀ (H : Heap) (locs : List Loc) (ls : Array Slot), va_P (gD G) vwCl (w_Row_empty G qt qt_cells nt_cells t_cells t_used t_burst) H → va_D A (w_Row_empty G qt qt_cells nt_cells t_cells t_used t_burst) → va_S A s.heap H locs → lv_has ls 2 [(0, .ref qt)] → W p l e { frames := 0, cells := 0, slots := 0, locals := 0 } s m ([.ref qt, .int a1] : List Value).toArray below meth c H locs 0 0 Q (F0 m 19 ls []) := by
    intro t_used t_burst t_cells  hf H locs ls hP hD hS hl
    unfold k_Row_add_19 at hf
    refine lv_aload_n hx hb d_Row_add_19 rfl (lv_at hl 0 rfl) ?_
    refine lv_iconst (v := 1) hx hb d_Row_add_20 (by decide) ?_
    refine va_put (D := gD G) (ci := 4) (v := .int (1 : Int32)) (ty := .boolean) (C := R_Row) (T := F_Row) (N := 3) hx hb hg in_Row t_Row to_Row no_Row hown hK hP hD hS 0 rfl rfl 2 (by decide) (hg _ m_55) (fun _ h9 => h9) rfl (by decide +kernel) (bl_n bl_1) (bl_f bl_1) (Nat.le_of_ble_eq_true rfl) d_Row_add_21 (fun H locs hP hD hS => ?_)
    have hP : va_P (gD G) vwCl (w_Row_empty G qt qt_cells nt_cells t_cells t_used (1 : Int32)) H := hP
    have hD : va_D A (w_Row_empty G qt qt_cells nt_cells t_cells t_used (1 : Int32)) := hD
    obtain rfl := Option.some.inj hf
    rw [← hQ]
    exact W.vret hx hb hr (fun t9 ht hW => ⟨⟨(), rfl, trivial, ⟨by rw [ht]; exact hP, hD⟩⟩, hS.F ht⟩) hS.2.2 d_Row_add_24
  unfold f_Row_add at hf
  refine lv_aload_n hx hb d_Row_add_0 rfl (lv_at hl 0 rfl) ?_
  refine va_get (D := gD G) (ci := 4) (v := .int t_used) (C := R_Row) (T := F_Row) (N := 3) hx hb hg in_Row hown hK hP 0 rfl rfl 1 (by decide) (hg _ m_54) (fun _ h9 => h9) rfl d_Row_add_1 ?_
  refine lv_if_lt (tgt := 19) hx hb d_Row_add_4 (by decide) (fun c_4 => ?_) (fun c_4 => ?_)
  · have hf := ip_ c_4 hf
    exact W_19 t_used t_burst t_cells  hf _ _ _ hP hD hS (lv_sub hl [0] rfl)
  · have hf := in_ c_4 hf
    refine lv_aload_n hx hb d_Row_add_7 rfl (lv_at hl 0 rfl) ?_
    refine va_get (D := gD G) (ci := 4) (v := .int t_used) (C := R_Row) (T := F_Row) (N := 3) hx hb hg in_Row hown hK hP 0 rfl rfl 1 (by decide) (hg _ m_54) (fun _ h9 => h9) rfl d_Row_add_8 ?_
    refine lv_aload_n hx hb d_Row_add_11 rfl (lv_at hl 0 rfl) ?_
    refine va_get (D := gD G) (ci := 4) (v := .ref qt_cells) (C := R_Row) (T := F_Row) (N := 3) hx hb hg in_Row hown hK hP 0 rfl rfl 0 (by decide) (hg _ m_56) (fun _ h9 => h9) rfl d_Row_add_12 ?_
    refine va_alen hx hb hK hP 1 0 rfl rfl (v := nI nt_cells) rfl d_Row_add_15 ?_
    refine lv_icmp_lt (tgt := 25) hx hb d_Row_add_16 (by decide) (fun c_16 => ?_) (fun c_16 => ?_)
    · have hf := ip_ c_16 hf
      refine lv_aload_n hx hb d_Row_add_25 rfl (lv_at hl 0 rfl) ?_
      refine va_get (D := gD G) (ci := 4) (v := .ref qt_cells) (C := R_Row) (T := F_Row) (N := 3) hx hb hg in_Row hown hK hP 0 rfl rfl 0 (by decide) (hg _ m_56) (fun _ h9 => h9) rfl d_Row_add_26 ?_
      refine lv_aload_n hx hb d_Row_add_29 rfl (lv_at hl 0 rfl) ?_
      refine va_get (D := gD G) (ci := 4) (v := .int t_used) (C := R_Row) (T := F_Row) (N := 3) hx hb hg in_Row hown hK hP 0 rfl rfl 1 (by decide) (hg _ m_54) (fun _ h9 => h9) rfl d_Row_add_30 ?_
      refine lv_iload_n hx hb d_Row_add_33 rfl (lv_at hl 1 rfl) ?_
      refine lv_i2b (v := a1.toInt8.toInt32) hx hb d_Row_add_34 rfl ?_
      obtain ⟨g_35, hf⟩ := gd_ hf
      refine va_bast hx hb hK hP hD hS 1 0 rfl rfl (inB_in g_35) d_Row_add_35 (fun H locs hP hD hS => ?_)
      have hP : va_P (gD G) vwCl (w_Row_empty G qt qt_cells nt_cells (upd t_cells t_used.toNatClampNeg (vp_nar .byte a1.toInt8.toInt32)) t_used t_burst) H := hP
      have hD : va_D A (w_Row_empty G qt qt_cells nt_cells (upd t_cells t_used.toNatClampNeg (vp_nar .byte a1.toInt8.toInt32)) t_used t_burst) := hD
      refine lv_aload_n hx hb d_Row_add_36 rfl (lv_at hl 0 rfl) ?_
      refine lv_dup hx hb d_Row_add_37 rfl ?_
      refine va_get (D := gD G) (ci := 4) (v := .int t_used) (C := R_Row) (T := F_Row) (N := 3) hx hb hg in_Row hown hK hP 0 rfl rfl 1 (by decide) (hg _ m_54) (fun _ h9 => h9) rfl d_Row_add_38 ?_
      refine lv_iconst (v := 1) hx hb d_Row_add_41 (by decide) ?_
      refine lv_iadd hx hb d_Row_add_42 ?_
      refine va_put (D := gD G) (ci := 4) (v := .int (t_used + (1 : Int32))) (ty := .int) (C := R_Row) (T := F_Row) (N := 3) hx hb hg in_Row t_Row to_Row no_Row hown hK hP hD hS 0 rfl rfl 1 (by decide) (hg _ m_54) (fun _ h9 => h9) rfl (by decide +kernel) rfl rfl (Nat.le_of_ble_eq_true rfl) d_Row_add_43 (fun H locs hP hD hS => ?_)
      have hP : va_P (gD G) vwCl (w_Row_empty G qt qt_cells nt_cells (upd t_cells t_used.toNatClampNeg (vp_nar .byte a1.toInt8.toInt32)) (t_used + (1 : Int32)) t_burst) H := hP
      have hD : va_D A (w_Row_empty G qt qt_cells nt_cells (upd t_cells t_used.toNatClampNeg (vp_nar .byte a1.toInt8.toInt32)) (t_used + (1 : Int32)) t_burst) := hD
      obtain rfl := Option.some.inj hf
      rw [← hQ]
      exact W.vret hx hb hr (fun t9 ht hW => ⟨⟨(), rfl, trivial, ⟨by rw [ht]; exact hP, hD⟩⟩, hS.F ht⟩) hS.2.2 d_Row_add_46
    · have hf := in_ c_16 hf
      exact W_19 t_used t_burst t_cells  hf _ _ _ hP hD hS (lv_sub hl [0] rfl)
theorem d_Row_addMany_0 : decode cd_Row_addMany 0 = .ok (.iconst 0, 1) := by decide +kernel
theorem d_Row_addMany_1 : decode cd_Row_addMany 1 = .ok (.istore_n 3, 1) := by decide +kernel
theorem d_Row_addMany_2 : decode cd_Row_addMany 2 = .ok (.iload_n 3, 1) := by decide +kernel
theorem d_Row_addMany_3 : decode cd_Row_addMany 3 = .ok (.iload_n 2, 1) := by decide +kernel
theorem d_Row_addMany_4 : decode cd_Row_addMany 4 = .ok (.if_icmp .ge 14, 3) := by decide +kernel
theorem d_Row_addMany_7 : decode cd_Row_addMany 7 = .ok (.aload_n 0, 1) := by decide +kernel
theorem d_Row_addMany_8 : decode cd_Row_addMany 8 = .ok (.iload_n 1, 1) := by decide +kernel
theorem d_Row_addMany_9 : decode cd_Row_addMany 9 = .ok (.invokevirtual 27, 3) := by decide +kernel
theorem d_Row_addMany_12 : decode cd_Row_addMany 12 = .ok (.iinc 3 1, 3) := by decide +kernel
theorem d_Row_addMany_15 : decode cd_Row_addMany 15 = .ok (.goto (-13), 3) := by decide +kernel
theorem d_Row_addMany_18 : decode cd_Row_addMany 18 = .ok (.return_, 1) := by decide +kernel
theorem m_57 : Cond.methodLink R_Row 27 y_Row_add ∈ gw := gm (i := 416) (by decide +kernel) (by decide +kernel)
theorem m_58 : Cond.instanceMethod y_Row_add ∈ gw := gm (i := 322) (by decide +kernel) (by decide +kernel)
theorem m_59 : Cond.selects R_Row y_Row_add y_Row_add ∈ gw := gm (i := 323) (by decide +kernel) (by decide +kernel)
theorem m_60 : Cond.initialized R_Row ∈ gw := gm (i := 83) (by decide +kernel) (by decide +kernel)
set_option maxRecDepth 100000 in
theorem m_61 : Cond.code y_Row_add cd_Row_add 2 none ∈ gw := gm (i := 324) rfl rfl
def b_Row_addMany_2 (nt_cells : Nat) (a1 : Int32) (a2 : Int32)  (rec_2 : (Int32 × Int32 × Int32 × (Nat → Int32)) → Option (Int32 × Int32 × (Nat → Int32))) (z2 : Int32 × Int32 × Int32 × (Nat → Int32)) : Option (Int32 × Int32 × (Nat → Int32)) :=
  (if a2 ≤ z2.1 then some (z2.2.1, z2.2.2.1, z2.2.2.2) else ((f_Row_add nt_cells z2.2.2.2 z2.2.1 z2.2.2.1 a1).bind fun u_9 => rec_2 ((z2.1 + 1), u_9.1, u_9.2.1, u_9.2.2)))
def f_Row_addMany (K : Nat) (nt_cells : Nat) (t_cells : Nat → Int32) (t_used : Int32) (t_burst : Int32) (a1 : Int32) (a2 : Int32) : Option (Int32 × Int32 × (Nat → Int32)) :=
  lp_ (b_Row_addMany_2 nt_cells a1 a2 ) K ((0 : Int32), t_used, t_burst, t_cells)
set_option maxHeartbeats 4000000 in
set_option maxRecDepth 100000 in
theorem c_Row_addMany (l : Launch) (G : Gt) (K : Nat) (qt : Nat) (qt_cells : Nat) (nt_cells : Nat) (t_cells : Nat → Int32) (t_used : Int32) (t_burst : Int32) (a1 : Int32) (a2 : Int32) (sz : Nat) (res : Int32 × Int32 × (Nat → Int32))   (hf : f_Row_addMany K nt_cells t_cells t_used t_burst a1 a2 = some res) : Met l y_Row_addMany (.code y_Row_addMany cd_Row_addMany 4 none :: gw) { frames := 1, cells := 0, slots := 0, locals := 40 } (PC G ([.ref qt, .int a1, .int a2] : List Value) sz (w_Row_empty G qt qt_cells nt_cells t_cells t_used t_burst)) (QV G (va_A (w_Row_empty G qt qt_cells nt_cells t_cells t_used t_burst) sz) (w_Row_empty G qt qt_cells nt_cells res.2.2 res.1 res.2.1)) 0 0 (va_A (w_Row_empty G qt qt_cells nt_cells t_cells t_used t_burst) sz) := by
  refine Met.ofW (cc := cd_Row_addMany) (maxL := 4) (ret := none) (by decide) rfl ?_
  intro p e s m args below meth c s₁ B hml hv
  obtain ⟨rfl, hsz, hP, hE, hD0⟩ := hv
  have hx := B.exec
  have hb := B.bytes
  have hr := B.returns
  have hts := atoms_spec (ws := (.code y_Row_addMany cd_Row_addMany 4 none :: gw)) B.pre
  have hg : ∀ w ∈ gw, w.before _ s = true := fun w h => hts w (List.mem_cons_of_mem _ h)
  have hown : s.vm.findClass R_Row = some m.cls := findClass_of_methodNamed B.named
  have hlocks := B.notSynchronized
  subst hsz
  have hK := hE.K
  have hD := hD0.self (sz := s.heap.size)
  have hAb := hE.ab hD0
  obtain ⟨Q, hQ⟩ : ∃ Q, MQ below (QV G (va_A (w_Row_empty G qt qt_cells nt_cells t_cells t_used t_burst) s.heap.size) (w_Row_empty G qt qt_cells nt_cells res.2.2 res.1 res.2.1)) ([.ref qt, .int a1, .int a2] : List Value).toArray s 0 0 (va_A (w_Row_empty G qt qt_cells nt_cells t_cells t_used t_burst) s.heap.size) = Q := ⟨_, rfl⟩
  show W p l e { frames := 1, cells := 0, slots := 0, locals := 40 } s m ([.ref qt, .int a1, .int a2] : List Value).toArray below meth c s.heap [] 0 0 (MQ below (QV G (va_A (w_Row_empty G qt qt_cells nt_cells t_cells t_used t_burst) s.heap.size) (w_Row_empty G qt qt_cells nt_cells res.2.2 res.1 res.2.1)) ([.ref qt, .int a1, .int a2] : List Value).toArray s 0 0 (va_A (w_Row_empty G qt qt_cells nt_cells t_cells t_used t_burst) s.heap.size)) _
  rw [hQ]
  have hA : ∀ q : Nat, s.heap.size ≤ q → va_A (w_Row_empty G qt qt_cells nt_cells t_cells t_used t_burst) s.heap.size q := fun q h => Or.inr h
  obtain ⟨A, hAe⟩ : ∃ A, va_A (w_Row_empty G qt qt_cells nt_cells t_cells t_used t_burst) s.heap.size = A := ⟨_, rfl⟩
  rw [hAe] at hA hD hAb hQ
  have hS : va_S A s.heap s.heap [] := va_S.rf
  have hl := lv_entry (([.ref qt, .int a1, .int a2] : List Value)) (n := 4) (Nat.le_of_ble_eq_true rfl)
  rw [lg_entry_eq]
  generalize (lg_sl (([.ref qt, .int a1, .int a2] : List Value)) ++ List.replicate (4 - (lg_sl (([.ref qt, .int a1, .int a2] : List Value))).length) Slot.unset).toArray = ls at hl ⊢
  have hl : lv_has ls 4 [(0, .ref qt), (1, .int a1), (2, .int a2)] := hl
  have W_2 : ∀   (n_2 : Nat) (z2 : Int32 × Int32 × Int32 × (Nat → Int32)) , lp_ (b_Row_addMany_2 nt_cells a1 a2 ) n_2 z2 = some res → ∀ (H : Heap) (locs : List Loc) (ls : Array Slot), va_P (gD G) vwCl (w_Row_empty G qt qt_cells nt_cells z2.2.2.2 z2.2.1 z2.2.2.1) H → va_D A (w_Row_empty G qt qt_cells nt_cells z2.2.2.2 z2.2.1 z2.2.2.1) → va_S A s.heap H locs → lv_has ls 4 [(0, .ref qt), (1, .int a1), (2, .int a2), (3, .int z2.1)] → W p l e { frames := 1, cells := 0, slots := 0, locals := 40 } s m ([.ref qt, .int a1, .int a2] : List Value).toArray below meth c H locs 0 0 Q (F0 m 2 ls []) := by
    intro  n_2
    induction n_2 with
    | zero =>
      intro z2  hf
      cases hf
    | succ n_2 ih_2 =>
      intro z2  hf H locs ls hP hD hS hl
      have hf : b_Row_addMany_2 nt_cells a1 a2  (lp_ (b_Row_addMany_2 nt_cells a1 a2 ) n_2) z2 = some res := hf
      generalize lp_ (b_Row_addMany_2 nt_cells a1 a2 ) n_2 = rec_2 at hf ih_2
      unfold b_Row_addMany_2 at hf
      refine lv_iload_n hx hb d_Row_addMany_2 rfl (lv_at hl 3 rfl) ?_
      refine lv_iload_n hx hb d_Row_addMany_3 rfl (lv_at hl 2 rfl) ?_
      refine lv_icmp_ge (tgt := 18) hx hb d_Row_addMany_4 (by decide) (fun c_4 => ?_) (fun c_4 => ?_)
      · have hf := ip_ c_4 hf
        obtain rfl := Option.some.inj hf
        rw [← hQ]
        exact W.vret hx hb hr (fun t9 ht hW => ⟨⟨(), rfl, trivial, ⟨by rw [ht]; exact hP, hD⟩⟩, hS.F ht⟩) hS.2.2 d_Row_addMany_18
      · have hf := in_ c_4 hf
        refine lv_aload_n hx hb d_Row_addMany_7 rfl (lv_at hl 0 rfl) ?_
        refine lv_iload_n hx hb d_Row_addMany_8 rfl (lv_at hl 1 rfl) ?_
        obtain ⟨u_9, hu_9, hf⟩ := bd_ hf
        refine CALLWv (va_runV (As := [.int a1]) (rest := []) ⟨hx, hb, hml, hown, hg⟩ (c_Row_add l G K qt qt_cells nt_cells z2.2.2.2 z2.2.1 z2.2.2.1 a1 _ u_9  hu_9) (cwV 1 hg (gV m_57 m_58 m_59 m_60 m_61) rfl rfl rfl (by decide +kernel) ⟨Nat.le_of_ble_eq_true rfl, Nat.le_of_ble_eq_true rfl⟩) ⟨PC_b, va_recv hK hP (ci := 4) (q0 := 0) rfl rfl, PC_p hE hS hAb hP hD⟩ rfl rfl hl.1 rfl (lv_room (Nat.le_of_ble_eq_true rfl)) d_Row_addMany_9 ⟨Nat.zero_le _, Nat.zero_le _⟩) hP hD hS hA (fun H locs hP hD hS => ?_)
        have hP : va_P (gD G) vwCl (w_Row_empty G qt qt_cells nt_cells u_9.2.2 u_9.1 u_9.2.1) H := hP
        have hD : va_D A (w_Row_empty G qt qt_cells nt_cells u_9.2.2 u_9.1 u_9.2.1) := hD
        refine lv_iinc (v := (z2.1 + 1)) (lv' := [(3, .int (z2.1 + 1)), (0, .ref qt), (1, .int a1), (2, .int a2)]) hx hb d_Row_addMany_12 hl (k := 3) rfl rfl (by decide) rfl (fun ls hl => ?_)
        refine lv_goto (tgt := 2) hx hb d_Row_addMany_15 (by decide) ?_
        exact ih_2 ((z2.1 + 1), u_9.1, u_9.2.1, u_9.2.2)  hf _ _ _ hP hD hS (lv_sub hl [1, 2, 3, 0] rfl)
  unfold f_Row_addMany at hf
  refine lv_iconst (v := 0) hx hb d_Row_addMany_0 (by decide) ?_
  refine lv_istore_n (lv' := [(3, .int (0 : Int32)), (0, .ref qt), (1, .int a1), (2, .int a2)]) hx hb d_Row_addMany_1 rfl hl (by decide) rfl (fun ls hl => ?_)
  exact W_2   K ((0 : Int32), t_used, t_burst, t_cells)  hf _ _ _ hP hD hS (lv_sub hl [1, 2, 3, 0] rfl)
theorem d_Row_at_0 : decode cd_Row_at 0 = .ok (.iload_n 1, 1) := by decide +kernel
theorem d_Row_at_1 : decode cd_Row_at 1 = .ok (.ifCond .lt 29, 3) := by decide +kernel
theorem d_Row_at_4 : decode cd_Row_at 4 = .ok (.iload_n 1, 1) := by decide +kernel
theorem d_Row_at_5 : decode cd_Row_at 5 = .ok (.aload_n 0, 1) := by decide +kernel
theorem d_Row_at_6 : decode cd_Row_at 6 = .ok (.getfield 19, 3) := by decide +kernel
theorem d_Row_at_9 : decode cd_Row_at 9 = .ok (.if_icmp .ge 21, 3) := by decide +kernel
theorem d_Row_at_12 : decode cd_Row_at 12 = .ok (.iload_n 1, 1) := by decide +kernel
theorem d_Row_at_13 : decode cd_Row_at 13 = .ok (.aload_n 0, 1) := by decide +kernel
theorem d_Row_at_14 : decode cd_Row_at 14 = .ok (.getfield 13, 3) := by decide +kernel
theorem d_Row_at_17 : decode cd_Row_at 17 = .ok (.arraylength, 1) := by decide +kernel
theorem d_Row_at_18 : decode cd_Row_at 18 = .ok (.if_icmp .ge 12, 3) := by decide +kernel
theorem d_Row_at_21 : decode cd_Row_at 21 = .ok (.aload_n 0, 1) := by decide +kernel
theorem d_Row_at_22 : decode cd_Row_at 22 = .ok (.getfield 13, 3) := by decide +kernel
theorem d_Row_at_25 : decode cd_Row_at 25 = .ok (.iload_n 1, 1) := by decide +kernel
theorem d_Row_at_26 : decode cd_Row_at 26 = .ok (.baload, 1) := by decide +kernel
theorem d_Row_at_27 : decode cd_Row_at 27 = .ok (.goto 4, 3) := by decide +kernel
theorem d_Row_at_30 : decode cd_Row_at 30 = .ok (.iconst (-1), 1) := by decide +kernel
theorem d_Row_at_31 : decode cd_Row_at 31 = .ok (.ireturn, 1) := by decide +kernel
def f_Row_at (nt_cells : Nat) (t_cells : Nat → Int32) (t_used : Int32) (a1 : Int32) : Option Int32 :=
  (if a1 < 0 then some (-1 : Int32) else (if t_used ≤ a1 then some (-1 : Int32) else (if (nI nt_cells) ≤ a1 then some (-1 : Int32) else (if inB a1 nt_cells = true then some (t_cells a1.toNatClampNeg) else none))))
set_option maxHeartbeats 4000000 in
set_option maxRecDepth 100000 in
theorem c_Row_at (l : Launch) (G : Gt) (K : Nat) (qt : Nat) (qt_cells : Nat) (nt_cells : Nat) (t_cells : Nat → Int32) (t_used : Int32) (t_burst : Int32) (a1 : Int32) (sz : Nat) (res : Int32)   (hf : f_Row_at nt_cells t_cells t_used a1 = some res) : Met l y_Row_at (.code y_Row_at cd_Row_at 2 (some .int) :: gw) { frames := 0, cells := 0, slots := 0, locals := 0 } (PC G ([.ref qt, .int a1] : List Value) sz (w_Row_empty G qt qt_cells nt_cells t_cells t_used t_burst)) (QI G res (va_A (w_Row_empty G qt qt_cells nt_cells t_cells t_used t_burst) sz) (w_Row_empty G qt qt_cells nt_cells t_cells t_used t_burst)) 0 0 (va_A (w_Row_empty G qt qt_cells nt_cells t_cells t_used t_burst) sz) := by
  refine Met.ofW (cc := cd_Row_at) (maxL := 2) (ret := (some .int)) (by decide) rfl ?_
  intro p e s m args below meth c s₁ B hml hv
  obtain ⟨rfl, hsz, hP, hE, hD0⟩ := hv
  have hx := B.exec
  have hb := B.bytes
  have hr := B.returns
  have hts := atoms_spec (ws := (.code y_Row_at cd_Row_at 2 (some .int) :: gw)) B.pre
  have hg : ∀ w ∈ gw, w.before _ s = true := fun w h => hts w (List.mem_cons_of_mem _ h)
  have hown : s.vm.findClass R_Row = some m.cls := findClass_of_methodNamed B.named
  have hlocks := B.notSynchronized
  subst hsz
  have hK := hE.K
  have hD := hD0.self (sz := s.heap.size)
  have hAb := hE.ab hD0
  obtain ⟨Q, hQ⟩ : ∃ Q, MQ below (QI G res (va_A (w_Row_empty G qt qt_cells nt_cells t_cells t_used t_burst) s.heap.size) (w_Row_empty G qt qt_cells nt_cells t_cells t_used t_burst)) ([.ref qt, .int a1] : List Value).toArray s 0 0 (va_A (w_Row_empty G qt qt_cells nt_cells t_cells t_used t_burst) s.heap.size) = Q := ⟨_, rfl⟩
  show W p l e { frames := 0, cells := 0, slots := 0, locals := 0 } s m ([.ref qt, .int a1] : List Value).toArray below meth c s.heap [] 0 0 (MQ below (QI G res (va_A (w_Row_empty G qt qt_cells nt_cells t_cells t_used t_burst) s.heap.size) (w_Row_empty G qt qt_cells nt_cells t_cells t_used t_burst)) ([.ref qt, .int a1] : List Value).toArray s 0 0 (va_A (w_Row_empty G qt qt_cells nt_cells t_cells t_used t_burst) s.heap.size)) _
  rw [hQ]
  have hA : ∀ q : Nat, s.heap.size ≤ q → va_A (w_Row_empty G qt qt_cells nt_cells t_cells t_used t_burst) s.heap.size q := fun q h => Or.inr h
  obtain ⟨A, hAe⟩ : ∃ A, va_A (w_Row_empty G qt qt_cells nt_cells t_cells t_used t_burst) s.heap.size = A := ⟨_, rfl⟩
  rw [hAe] at hA hD hAb hQ
  have hS : va_S A s.heap s.heap [] := va_S.rf
  have hl := lv_entry (([.ref qt, .int a1] : List Value)) (n := 2) (Nat.le_of_ble_eq_true rfl)
  rw [lg_entry_eq]
  generalize (lg_sl (([.ref qt, .int a1] : List Value)) ++ List.replicate (2 - (lg_sl (([.ref qt, .int a1] : List Value))).length) Slot.unset).toArray = ls at hl ⊢
  have hl : lv_has ls 2 [(0, .ref qt), (1, .int a1)] := hl
  unfold f_Row_at at hf
  refine lv_iload_n hx hb d_Row_at_0 rfl (lv_at hl 1 rfl) ?_
  refine lv_if_lt (tgt := 30) hx hb d_Row_at_1 (by decide) (fun c_1 => ?_) (fun c_1 => ?_)
  · have hf := ip_ c_1 hf
    refine lv_iconst (v := -1) hx hb d_Row_at_30 (by decide) ?_
    obtain rfl := Option.some.inj hf
    rw [← hQ]
    exact W.iret (v := (-1 : Int32)) hx hb hr (fun t9 ht hW => ⟨⟨(-1 : Int32), (), rfl, rfl, ⟨by rw [ht]; exact hP, hD⟩⟩, hS.F ht⟩) hS.2.2 d_Row_at_31
  · have hf := in_ c_1 hf
    refine lv_iload_n hx hb d_Row_at_4 rfl (lv_at hl 1 rfl) ?_
    refine lv_aload_n hx hb d_Row_at_5 rfl (lv_at hl 0 rfl) ?_
    refine va_get (D := gD G) (ci := 4) (v := .int t_used) (C := R_Row) (T := F_Row) (N := 3) hx hb hg in_Row hown hK hP 0 rfl rfl 1 (by decide) (hg _ m_54) (fun _ h9 => h9) rfl d_Row_at_6 ?_
    refine lv_icmp_ge (tgt := 30) hx hb d_Row_at_9 (by decide) (fun c_9 => ?_) (fun c_9 => ?_)
    · have hf := ip_ c_9 hf
      refine lv_iconst (v := -1) hx hb d_Row_at_30 (by decide) ?_
      obtain rfl := Option.some.inj hf
      rw [← hQ]
      exact W.iret (v := (-1 : Int32)) hx hb hr (fun t9 ht hW => ⟨⟨(-1 : Int32), (), rfl, rfl, ⟨by rw [ht]; exact hP, hD⟩⟩, hS.F ht⟩) hS.2.2 d_Row_at_31
    · have hf := in_ c_9 hf
      refine lv_iload_n hx hb d_Row_at_12 rfl (lv_at hl 1 rfl) ?_
      refine lv_aload_n hx hb d_Row_at_13 rfl (lv_at hl 0 rfl) ?_
      refine va_get (D := gD G) (ci := 4) (v := .ref qt_cells) (C := R_Row) (T := F_Row) (N := 3) hx hb hg in_Row hown hK hP 0 rfl rfl 0 (by decide) (hg _ m_56) (fun _ h9 => h9) rfl d_Row_at_14 ?_
      refine va_alen hx hb hK hP 1 0 rfl rfl (v := nI nt_cells) rfl d_Row_at_17 ?_
      refine lv_icmp_ge (tgt := 30) hx hb d_Row_at_18 (by decide) (fun c_18 => ?_) (fun c_18 => ?_)
      · have hf := ip_ c_18 hf
        refine lv_iconst (v := -1) hx hb d_Row_at_30 (by decide) ?_
        obtain rfl := Option.some.inj hf
        rw [← hQ]
        exact W.iret (v := (-1 : Int32)) hx hb hr (fun t9 ht hW => ⟨⟨(-1 : Int32), (), rfl, rfl, ⟨by rw [ht]; exact hP, hD⟩⟩, hS.F ht⟩) hS.2.2 d_Row_at_31
      · have hf := in_ c_18 hf
        refine lv_aload_n hx hb d_Row_at_21 rfl (lv_at hl 0 rfl) ?_
        refine va_get (D := gD G) (ci := 4) (v := .ref qt_cells) (C := R_Row) (T := F_Row) (N := 3) hx hb hg in_Row hown hK hP 0 rfl rfl 0 (by decide) (hg _ m_56) (fun _ h9 => h9) rfl d_Row_at_22 ?_
        refine lv_iload_n hx hb d_Row_at_25 rfl (lv_at hl 1 rfl) ?_
        obtain ⟨g_26, hf⟩ := gd_ hf
        refine va_bald hx hb hK hP 1 0 rfl rfl (inB_in g_26) d_Row_at_26 ?_
        refine lv_goto (tgt := 31) hx hb d_Row_at_27 (by decide) ?_
        obtain rfl := Option.some.inj hf
        rw [← hQ]
        exact W.iret (v := (t_cells a1.toNatClampNeg)) hx hb hr (fun t9 ht hW => ⟨⟨(t_cells a1.toNatClampNeg), (), rfl, rfl, ⟨by rw [ht]; exact hP, hD⟩⟩, hS.F ht⟩) hS.2.2 d_Row_at_31
theorem d_Row_addRow_0 : decode cd_Row_addRow 0 = .ok (.iconst 0, 1) := by decide +kernel
theorem d_Row_addRow_1 : decode cd_Row_addRow 1 = .ok (.istore_n 2, 1) := by decide +kernel
theorem d_Row_addRow_2 : decode cd_Row_addRow 2 = .ok (.iload_n 2, 1) := by decide +kernel
theorem d_Row_addRow_3 : decode cd_Row_addRow 3 = .ok (.aload_n 1, 1) := by decide +kernel
theorem d_Row_addRow_4 : decode cd_Row_addRow 4 = .ok (.getfield 19, 3) := by decide +kernel
theorem d_Row_addRow_7 : decode cd_Row_addRow 7 = .ok (.if_icmp .ge 18, 3) := by decide +kernel
theorem d_Row_addRow_10 : decode cd_Row_addRow 10 = .ok (.aload_n 0, 1) := by decide +kernel
theorem d_Row_addRow_11 : decode cd_Row_addRow 11 = .ok (.aload_n 1, 1) := by decide +kernel
theorem d_Row_addRow_12 : decode cd_Row_addRow 12 = .ok (.iload_n 2, 1) := by decide +kernel
theorem d_Row_addRow_13 : decode cd_Row_addRow 13 = .ok (.invokevirtual 41, 3) := by decide +kernel
theorem d_Row_addRow_16 : decode cd_Row_addRow 16 = .ok (.invokevirtual 27, 3) := by decide +kernel
theorem d_Row_addRow_19 : decode cd_Row_addRow 19 = .ok (.iinc 2 1, 3) := by decide +kernel
theorem d_Row_addRow_22 : decode cd_Row_addRow 22 = .ok (.goto (-20), 3) := by decide +kernel
theorem d_Row_addRow_25 : decode cd_Row_addRow 25 = .ok (.return_, 1) := by decide +kernel
theorem m_62 : Cond.methodLink R_Row 41 y_Row_at ∈ gw := gm (i := 412) (by decide +kernel) (by decide +kernel)
theorem m_63 : Cond.instanceMethod y_Row_at ∈ gw := gm (i := 413) (by decide +kernel) (by decide +kernel)
theorem m_64 : Cond.selects R_Row y_Row_at y_Row_at ∈ gw := gm (i := 414) (by decide +kernel) (by decide +kernel)
set_option maxRecDepth 100000 in
theorem m_65 : Cond.code y_Row_at cd_Row_at 2 (some .int) ∈ gw := gm (i := 415) rfl rfl
def b_Row_addRow_2 (nt_cells : Nat) (na1_cells : Nat) (a1_cells : Nat → Int32) (a1_used : Int32)  (rec_2 : (Int32 × Int32 × Int32 × (Nat → Int32)) → Option (Int32 × Int32 × (Nat → Int32))) (z2 : Int32 × Int32 × Int32 × (Nat → Int32)) : Option (Int32 × Int32 × (Nat → Int32)) :=
  (if a1_used ≤ z2.1 then some (z2.2.1, z2.2.2.1, z2.2.2.2) else ((f_Row_at na1_cells a1_cells a1_used z2.1).bind fun u_13 => ((f_Row_add nt_cells z2.2.2.2 z2.2.1 z2.2.2.1 u_13).bind fun u_16 => rec_2 ((z2.1 + 1), u_16.1, u_16.2.1, u_16.2.2))))
def f_Row_addRow (K : Nat) (nt_cells : Nat) (t_cells : Nat → Int32) (t_used : Int32) (t_burst : Int32) (na1_cells : Nat) (a1_cells : Nat → Int32) (a1_used : Int32) : Option (Int32 × Int32 × (Nat → Int32)) :=
  lp_ (b_Row_addRow_2 nt_cells na1_cells a1_cells a1_used ) K ((0 : Int32), t_used, t_burst, t_cells)
abbrev w_Row_addRow (G : Gt) (qt : Nat) (qt_cells : Nat) (nt_cells : Nat) (t_cells : Nat → Int32) (t_used : Int32) (t_burst : Int32) (qa1 : Nat) (qa1_cells : Nat) (na1_cells : Nat) (a1_cells : Nat → Int32) (a1_used : Int32) (a1_burst : Int32) : va_W := [(qt, .inr (4, [.ref qt_cells, .int t_used, .int t_burst])), (qt_cells, .inl (gC G 0, nt_cells, .inl t_cells)), (qa1, .inr (4, [.ref qa1_cells, .int a1_used, .int a1_burst])), (qa1_cells, .inl (gC G 0, na1_cells, .inl a1_cells))]
set_option maxHeartbeats 4000000 in
set_option maxRecDepth 100000 in
theorem c_Row_addRow (l : Launch) (G : Gt) (K : Nat) (qt : Nat) (qt_cells : Nat) (nt_cells : Nat) (t_cells : Nat → Int32) (t_used : Int32) (t_burst : Int32) (qa1 : Nat) (qa1_cells : Nat) (na1_cells : Nat) (a1_cells : Nat → Int32) (a1_used : Int32) (a1_burst : Int32) (sz : Nat) (res : Int32 × Int32 × (Nat → Int32))   (hf : f_Row_addRow K nt_cells t_cells t_used t_burst na1_cells a1_cells a1_used = some res) : Met l y_Row_addRow (.code y_Row_addRow cd_Row_addRow 3 none :: gw) { frames := 1, cells := 0, slots := 0, locals := 40 } (PC G ([.ref qt, .ref qa1] : List Value) sz (w_Row_addRow G qt qt_cells nt_cells t_cells t_used t_burst qa1 qa1_cells na1_cells a1_cells a1_used a1_burst)) (QV G (va_A (w_Row_addRow G qt qt_cells nt_cells t_cells t_used t_burst qa1 qa1_cells na1_cells a1_cells a1_used a1_burst) sz) (w_Row_addRow G qt qt_cells nt_cells res.2.2 res.1 res.2.1 qa1 qa1_cells na1_cells a1_cells a1_used a1_burst)) 0 0 (va_A (w_Row_addRow G qt qt_cells nt_cells t_cells t_used t_burst qa1 qa1_cells na1_cells a1_cells a1_used a1_burst) sz) := by
  refine Met.ofW (cc := cd_Row_addRow) (maxL := 3) (ret := none) (by decide) rfl ?_
  intro p e s m args below meth c s₁ B hml hv
  obtain ⟨rfl, hsz, hP, hE, hD0⟩ := hv
  have hx := B.exec
  have hb := B.bytes
  have hr := B.returns
  have hts := atoms_spec (ws := (.code y_Row_addRow cd_Row_addRow 3 none :: gw)) B.pre
  have hg : ∀ w ∈ gw, w.before _ s = true := fun w h => hts w (List.mem_cons_of_mem _ h)
  have hown : s.vm.findClass R_Row = some m.cls := findClass_of_methodNamed B.named
  have hlocks := B.notSynchronized
  subst hsz
  have hK := hE.K
  have hD := hD0.self (sz := s.heap.size)
  have hAb := hE.ab hD0
  obtain ⟨Q, hQ⟩ : ∃ Q, MQ below (QV G (va_A (w_Row_addRow G qt qt_cells nt_cells t_cells t_used t_burst qa1 qa1_cells na1_cells a1_cells a1_used a1_burst) s.heap.size) (w_Row_addRow G qt qt_cells nt_cells res.2.2 res.1 res.2.1 qa1 qa1_cells na1_cells a1_cells a1_used a1_burst)) ([.ref qt, .ref qa1] : List Value).toArray s 0 0 (va_A (w_Row_addRow G qt qt_cells nt_cells t_cells t_used t_burst qa1 qa1_cells na1_cells a1_cells a1_used a1_burst) s.heap.size) = Q := ⟨_, rfl⟩
  show W p l e { frames := 1, cells := 0, slots := 0, locals := 40 } s m ([.ref qt, .ref qa1] : List Value).toArray below meth c s.heap [] 0 0 (MQ below (QV G (va_A (w_Row_addRow G qt qt_cells nt_cells t_cells t_used t_burst qa1 qa1_cells na1_cells a1_cells a1_used a1_burst) s.heap.size) (w_Row_addRow G qt qt_cells nt_cells res.2.2 res.1 res.2.1 qa1 qa1_cells na1_cells a1_cells a1_used a1_burst)) ([.ref qt, .ref qa1] : List Value).toArray s 0 0 (va_A (w_Row_addRow G qt qt_cells nt_cells t_cells t_used t_burst qa1 qa1_cells na1_cells a1_cells a1_used a1_burst) s.heap.size)) _
  rw [hQ]
  have hA : ∀ q : Nat, s.heap.size ≤ q → va_A (w_Row_addRow G qt qt_cells nt_cells t_cells t_used t_burst qa1 qa1_cells na1_cells a1_cells a1_used a1_burst) s.heap.size q := fun q h => Or.inr h
  obtain ⟨A, hAe⟩ : ∃ A, va_A (w_Row_addRow G qt qt_cells nt_cells t_cells t_used t_burst qa1 qa1_cells na1_cells a1_cells a1_used a1_burst) s.heap.size = A := ⟨_, rfl⟩
  rw [hAe] at hA hD hAb hQ
  have hS : va_S A s.heap s.heap [] := va_S.rf
  have hl := lv_entry (([.ref qt, .ref qa1] : List Value)) (n := 3) (Nat.le_of_ble_eq_true rfl)
  rw [lg_entry_eq]
  generalize (lg_sl (([.ref qt, .ref qa1] : List Value)) ++ List.replicate (3 - (lg_sl (([.ref qt, .ref qa1] : List Value))).length) Slot.unset).toArray = ls at hl ⊢
  have hl : lv_has ls 3 [(0, .ref qt), (1, .ref qa1)] := hl
  have W_2 : ∀   (n_2 : Nat) (z2 : Int32 × Int32 × Int32 × (Nat → Int32)) , lp_ (b_Row_addRow_2 nt_cells na1_cells a1_cells a1_used ) n_2 z2 = some res → ∀ (H : Heap) (locs : List Loc) (ls : Array Slot), va_P (gD G) vwCl (w_Row_addRow G qt qt_cells nt_cells z2.2.2.2 z2.2.1 z2.2.2.1 qa1 qa1_cells na1_cells a1_cells a1_used a1_burst) H → va_D A (w_Row_addRow G qt qt_cells nt_cells z2.2.2.2 z2.2.1 z2.2.2.1 qa1 qa1_cells na1_cells a1_cells a1_used a1_burst) → va_S A s.heap H locs → lv_has ls 3 [(0, .ref qt), (1, .ref qa1), (2, .int z2.1)] → W p l e { frames := 1, cells := 0, slots := 0, locals := 40 } s m ([.ref qt, .ref qa1] : List Value).toArray below meth c H locs 0 0 Q (F0 m 2 ls []) := by
    intro  n_2
    induction n_2 with
    | zero =>
      intro z2  hf
      cases hf
    | succ n_2 ih_2 =>
      intro z2  hf H locs ls hP hD hS hl
      have hf : b_Row_addRow_2 nt_cells na1_cells a1_cells a1_used  (lp_ (b_Row_addRow_2 nt_cells na1_cells a1_cells a1_used ) n_2) z2 = some res := hf
      generalize lp_ (b_Row_addRow_2 nt_cells na1_cells a1_cells a1_used ) n_2 = rec_2 at hf ih_2
      unfold b_Row_addRow_2 at hf
      refine lv_iload_n hx hb d_Row_addRow_2 rfl (lv_at hl 2 rfl) ?_
      refine lv_aload_n hx hb d_Row_addRow_3 rfl (lv_at hl 1 rfl) ?_
      refine va_get (D := gD G) (ci := 4) (v := .int a1_used) (C := R_Row) (T := F_Row) (N := 3) hx hb hg in_Row hown hK hP 2 rfl rfl 1 (by decide) (hg _ m_54) (fun _ h9 => h9) rfl d_Row_addRow_4 ?_
      refine lv_icmp_ge (tgt := 25) hx hb d_Row_addRow_7 (by decide) (fun c_7 => ?_) (fun c_7 => ?_)
      · have hf := ip_ c_7 hf
        obtain rfl := Option.some.inj hf
        rw [← hQ]
        exact W.vret hx hb hr (fun t9 ht hW => ⟨⟨(), rfl, trivial, ⟨by rw [ht]; exact hP, hD⟩⟩, hS.F ht⟩) hS.2.2 d_Row_addRow_25
      · have hf := in_ c_7 hf
        refine lv_aload_n hx hb d_Row_addRow_10 rfl (lv_at hl 0 rfl) ?_
        refine lv_aload_n hx hb d_Row_addRow_11 rfl (lv_at hl 1 rfl) ?_
        refine lv_iload_n hx hb d_Row_addRow_12 rfl (lv_at hl 2 rfl) ?_
        obtain ⟨u_13, hu_13, hf⟩ := bd_ hf
        refine CALLi (va_runV (As := [.int z2.1]) (rest := [.ref qt]) ⟨hx, hb, hml, hown, hg⟩ (c_Row_at l G K qa1 qa1_cells na1_cells a1_cells a1_used a1_burst z2.1 _ u_13  hu_13) (cwV 1 hg (gV m_62 m_63 m_64 m_60 m_65) rfl rfl rfl (by decide +kernel) ⟨Nat.le_of_ble_eq_true rfl, Nat.le_of_ble_eq_true rfl⟩) ⟨PC_b, va_recv hK hP (ci := 4) (q0 := 2) rfl rfl, PC_p hE hS hAb (hP.sub [2, 3] rfl) (hD.sub [2, 3] (by decide) rfl)⟩ rfl rfl hl.1 rfl (lv_room (Nat.le_of_ble_eq_true rfl)) d_Row_addRow_13 ⟨Nat.zero_le _, Nat.zero_le _⟩) hP hD hS hA [2, 3] rfl rfl rfl (fun H locs hP hD hS => ?_)
        have hP : va_P (gD G) vwCl (w_Row_addRow G qt qt_cells nt_cells z2.2.2.2 z2.2.1 z2.2.2.1 qa1 qa1_cells na1_cells a1_cells a1_used a1_burst) H := hP
        have hD : va_D A (w_Row_addRow G qt qt_cells nt_cells z2.2.2.2 z2.2.1 z2.2.2.1 qa1 qa1_cells na1_cells a1_cells a1_used a1_burst) := hD
        obtain ⟨u_16, hu_16, hf⟩ := bd_ hf
        refine CALLv (va_runV (As := [.int u_13]) (rest := []) ⟨hx, hb, hml, hown, hg⟩ (c_Row_add l G K qt qt_cells nt_cells z2.2.2.2 z2.2.1 z2.2.2.1 u_13 _ u_16  hu_16) (cwV 1 hg (gV m_57 m_58 m_59 m_60 m_61) rfl rfl rfl (by decide +kernel) ⟨Nat.le_of_ble_eq_true rfl, Nat.le_of_ble_eq_true rfl⟩) ⟨PC_b, va_recv hK hP (ci := 4) (q0 := 0) rfl rfl, PC_p hE hS hAb (hP.sub [0, 1] rfl) (hD.sub [0, 1] (by decide) rfl)⟩ rfl rfl hl.1 rfl (lv_room (Nat.le_of_ble_eq_true rfl)) d_Row_addRow_16 ⟨Nat.zero_le _, Nat.zero_le _⟩) hP hD hS hA [0, 1] rfl rfl rfl (fun H locs hP hD hS => ?_)
        have hP : va_P (gD G) vwCl (w_Row_addRow G qt qt_cells nt_cells u_16.2.2 u_16.1 u_16.2.1 qa1 qa1_cells na1_cells a1_cells a1_used a1_burst) H := hP
        have hD : va_D A (w_Row_addRow G qt qt_cells nt_cells u_16.2.2 u_16.1 u_16.2.1 qa1 qa1_cells na1_cells a1_cells a1_used a1_burst) := hD
        refine lv_iinc (v := (z2.1 + 1)) (lv' := [(2, .int (z2.1 + 1)), (0, .ref qt), (1, .ref qa1)]) hx hb d_Row_addRow_19 hl (k := 2) rfl rfl (by decide) rfl (fun ls hl => ?_)
        refine lv_goto (tgt := 2) hx hb d_Row_addRow_22 (by decide) ?_
        exact ih_2 ((z2.1 + 1), u_16.1, u_16.2.1, u_16.2.2)  hf _ _ _ hP hD hS (lv_sub hl [1, 2, 0] rfl)
  unfold f_Row_addRow at hf
  refine lv_iconst (v := 0) hx hb d_Row_addRow_0 (by decide) ?_
  refine lv_istore_n (lv' := [(2, .int (0 : Int32)), (0, .ref qt), (1, .ref qa1)]) hx hb d_Row_addRow_1 rfl hl (by decide) rfl (fun ls hl => ?_)
  exact W_2   K ((0 : Int32), t_used, t_burst, t_cells)  hf _ _ _ hP hD hS (lv_sub hl [1, 2, 0] rfl)
theorem d_Row_addNumber_0 : decode cd_Row_addNumber 0 = .ok (.iload_n 1, 1) := by decide +kernel
theorem d_Row_addNumber_1 : decode cd_Row_addNumber 1 = .ok (.ifCond .ge 9, 3) := by decide +kernel
theorem d_Row_addNumber_4 : decode cd_Row_addNumber 4 = .ok (.aload_n 0, 1) := by decide +kernel
theorem d_Row_addNumber_5 : decode cd_Row_addNumber 5 = .ok (.bipush 45, 2) := by decide +kernel
theorem d_Row_addNumber_7 : decode cd_Row_addNumber 7 = .ok (.invokevirtual 27, 3) := by decide +kernel
theorem d_Row_addNumber_10 : decode cd_Row_addNumber 10 = .ok (.iload_n 1, 1) := by decide +kernel
theorem d_Row_addNumber_11 : decode cd_Row_addNumber 11 = .ok (.invokestatic 45, 3) := by decide +kernel
theorem d_Row_addNumber_14 : decode cd_Row_addNumber 14 = .ok (.istore_n 3, 1) := by decide +kernel
theorem d_Row_addNumber_15 : decode cd_Row_addNumber 15 = .ok (.iconst 1, 1) := by decide +kernel
theorem d_Row_addNumber_16 : decode cd_Row_addNumber 16 = .ok (.istore 4, 2) := by decide +kernel
theorem d_Row_addNumber_18 : decode cd_Row_addNumber 18 = .ok (.iconst 1, 1) := by decide +kernel
theorem d_Row_addNumber_19 : decode cd_Row_addNumber 19 = .ok (.istore 5, 2) := by decide +kernel
theorem d_Row_addNumber_21 : decode cd_Row_addNumber 21 = .ok (.iload 5, 2) := by decide +kernel
theorem d_Row_addNumber_23 : decode cd_Row_addNumber 23 = .ok (.bipush 9, 2) := by decide +kernel
theorem d_Row_addNumber_25 : decode cd_Row_addNumber 25 = .ok (.if_icmp .ge 31, 3) := by decide +kernel
theorem d_Row_addNumber_28 : decode cd_Row_addNumber 28 = .ok (.iload 5, 2) := by decide +kernel
theorem d_Row_addNumber_30 : decode cd_Row_addNumber 30 = .ok (.iload_n 2, 1) := by decide +kernel
theorem d_Row_addNumber_31 : decode cd_Row_addNumber 31 = .ok (.if_icmp .lt 12, 3) := by decide +kernel
theorem d_Row_addNumber_34 : decode cd_Row_addNumber 34 = .ok (.iload_n 3, 1) := by decide +kernel
theorem d_Row_addNumber_35 : decode cd_Row_addNumber 35 = .ok (.bipush 10, 2) := by decide +kernel
theorem d_Row_addNumber_37 : decode cd_Row_addNumber 37 = .ok (.idiv, 1) := by decide +kernel
theorem d_Row_addNumber_38 : decode cd_Row_addNumber 38 = .ok (.iload 4, 2) := by decide +kernel
theorem d_Row_addNumber_40 : decode cd_Row_addNumber 40 = .ok (.if_icmp .lt 16, 3) := by decide +kernel
theorem d_Row_addNumber_43 : decode cd_Row_addNumber 43 = .ok (.iload 4, 2) := by decide +kernel
theorem d_Row_addNumber_45 : decode cd_Row_addNumber 45 = .ok (.bipush 10, 2) := by decide +kernel
theorem d_Row_addNumber_47 : decode cd_Row_addNumber 47 = .ok (.imul, 1) := by decide +kernel
theorem d_Row_addNumber_48 : decode cd_Row_addNumber 48 = .ok (.istore 4, 2) := by decide +kernel
theorem d_Row_addNumber_50 : decode cd_Row_addNumber 50 = .ok (.iinc 5 1, 3) := by decide +kernel
theorem d_Row_addNumber_53 : decode cd_Row_addNumber 53 = .ok (.goto (-32), 3) := by decide +kernel
theorem d_Row_addNumber_56 : decode cd_Row_addNumber 56 = .ok (.iload 4, 2) := by decide +kernel
theorem d_Row_addNumber_58 : decode cd_Row_addNumber 58 = .ok (.ifCond .le 27, 3) := by decide +kernel
theorem d_Row_addNumber_61 : decode cd_Row_addNumber 61 = .ok (.aload_n 0, 1) := by decide +kernel
theorem d_Row_addNumber_62 : decode cd_Row_addNumber 62 = .ok (.bipush 48, 2) := by decide +kernel
theorem d_Row_addNumber_64 : decode cd_Row_addNumber 64 = .ok (.iload_n 3, 1) := by decide +kernel
theorem d_Row_addNumber_65 : decode cd_Row_addNumber 65 = .ok (.iload 4, 2) := by decide +kernel
theorem d_Row_addNumber_67 : decode cd_Row_addNumber 67 = .ok (.idiv, 1) := by decide +kernel
theorem d_Row_addNumber_68 : decode cd_Row_addNumber 68 = .ok (.bipush 10, 2) := by decide +kernel
theorem d_Row_addNumber_70 : decode cd_Row_addNumber 70 = .ok (.irem, 1) := by decide +kernel
theorem d_Row_addNumber_71 : decode cd_Row_addNumber 71 = .ok (.iadd, 1) := by decide +kernel
theorem d_Row_addNumber_72 : decode cd_Row_addNumber 72 = .ok (.invokevirtual 27, 3) := by decide +kernel
theorem d_Row_addNumber_75 : decode cd_Row_addNumber 75 = .ok (.iload 4, 2) := by decide +kernel
theorem d_Row_addNumber_77 : decode cd_Row_addNumber 77 = .ok (.bipush 10, 2) := by decide +kernel
theorem d_Row_addNumber_79 : decode cd_Row_addNumber 79 = .ok (.idiv, 1) := by decide +kernel
theorem d_Row_addNumber_80 : decode cd_Row_addNumber 80 = .ok (.istore 4, 2) := by decide +kernel
theorem d_Row_addNumber_82 : decode cd_Row_addNumber 82 = .ok (.goto (-26), 3) := by decide +kernel
theorem d_Row_addNumber_85 : decode cd_Row_addNumber 85 = .ok (.return_, 1) := by decide +kernel
theorem m_66 : Cond.methodLink R_Row 45 Lib.Math.abs.name ∈ gw := gm (i := 769) (by decide +kernel) (by decide +kernel)
theorem m_67 : Cond.static Lib.Math.abs.name ∈ gw := gm (i := 770) (by decide +kernel) (by decide +kernel)
set_option maxRecDepth 100000 in
theorem m_68 : Cond.code Lib.Math.abs.name Lib.Math.abs.code 1 (some .int) ∈ gw := gm (i := 771) rfl rfl
def b_Row_addNumber_56 (nt_cells : Nat) (x3 : Int32) (rec_56 : (Int32 × Int32 × Int32 × (Nat → Int32)) → Option (Int32 × Int32 × (Nat → Int32))) (z56 : Int32 × Int32 × Int32 × (Nat → Int32)) : Option (Int32 × Int32 × (Nat → Int32)) :=
  (if z56.1 ≤ 0 then some (z56.2.1, z56.2.2.1, z56.2.2.2) else (if z56.1 = 0 then none else ((f_Row_add nt_cells z56.2.2.2 z56.2.1 z56.2.2.1 ((48 : Int32) + ((x3 / z56.1) - (x3 / z56.1) / (10 : Int32) * (10 : Int32)))).bind fun u_72 => rec_56 ((z56.1 / (10 : Int32)), u_72.1, u_72.2.1, u_72.2.2))))
def k_Row_addNumber_43 (rec_21 : (Int32 × Int32) → Option (Int32 × Int32 × (Nat → Int32))) (x4 : Int32) (x5 : Int32) : Option (Int32 × Int32 × (Nat → Int32)) :=
  rec_21 ((x4 * (10 : Int32)), (x5 + 1))
def b_Row_addNumber_21 (K : Nat) (nt_cells : Nat) (a2 : Int32) (x3 : Int32) (t_used : Int32) (t_burst : Int32) (t_cells : (Nat → Int32)) (rec_21 : (Int32 × Int32) → Option (Int32 × Int32 × (Nat → Int32))) (z21 : Int32 × Int32) : Option (Int32 × Int32 × (Nat → Int32)) :=
  (if (9 : Int32) ≤ z21.2 then lp_ (b_Row_addNumber_56 nt_cells x3) K (z21.1, t_used, t_burst, t_cells) else (if z21.2 < a2 then k_Row_addNumber_43 rec_21 z21.1 z21.2 else (if (x3 / (10 : Int32)) < z21.1 then lp_ (b_Row_addNumber_56 nt_cells x3) K (z21.1, t_used, t_burst, t_cells) else k_Row_addNumber_43 rec_21 z21.1 z21.2)))
def k_Row_addNumber_10 (K : Nat) (nt_cells : Nat) (a1 : Int32) (a2 : Int32) (t_used : Int32) (t_burst : Int32) (t_cells : (Nat → Int32)) : Option (Int32 × Int32 × (Nat → Int32)) :=
  lp_ (b_Row_addNumber_21 K nt_cells a2 (if 0 ≤ a1 then a1 else 0 - a1) t_used t_burst t_cells) K ((1 : Int32), (1 : Int32))
def f_Row_addNumber (K : Nat) (nt_cells : Nat) (t_cells : Nat → Int32) (t_used : Int32) (t_burst : Int32) (a1 : Int32) (a2 : Int32) : Option (Int32 × Int32 × (Nat → Int32)) :=
  (if 0 ≤ a1 then k_Row_addNumber_10 K nt_cells a1 a2 t_used t_burst t_cells else ((f_Row_add nt_cells t_cells t_used t_burst (45 : Int32)).bind fun u_7 => k_Row_addNumber_10 K nt_cells a1 a2 u_7.1 u_7.2.1 u_7.2.2))
set_option maxHeartbeats 4000000 in
set_option maxRecDepth 100000 in
theorem c_Row_addNumber (l : Launch) (G : Gt) (K : Nat) (qt : Nat) (qt_cells : Nat) (nt_cells : Nat) (t_cells : Nat → Int32) (t_used : Int32) (t_burst : Int32) (a1 : Int32) (a2 : Int32) (sz : Nat) (res : Int32 × Int32 × (Nat → Int32))   (hf : f_Row_addNumber K nt_cells t_cells t_used t_burst a1 a2 = some res) : Met l y_Row_addNumber (.code y_Row_addNumber cd_Row_addNumber 6 none :: gw) { frames := 1, cells := 0, slots := 0, locals := 40 } (PC G ([.ref qt, .int a1, .int a2] : List Value) sz (w_Row_empty G qt qt_cells nt_cells t_cells t_used t_burst)) (QV G (va_A (w_Row_empty G qt qt_cells nt_cells t_cells t_used t_burst) sz) (w_Row_empty G qt qt_cells nt_cells res.2.2 res.1 res.2.1)) 0 0 (va_A (w_Row_empty G qt qt_cells nt_cells t_cells t_used t_burst) sz) := by
  refine Met.ofW (cc := cd_Row_addNumber) (maxL := 6) (ret := none) (by decide) rfl ?_
  intro p e s m args below meth c s₁ B hml hv
  obtain ⟨rfl, hsz, hP, hE, hD0⟩ := hv
  have hx := B.exec
  have hb := B.bytes
  have hr := B.returns
  have hts := atoms_spec (ws := (.code y_Row_addNumber cd_Row_addNumber 6 none :: gw)) B.pre
  have hg : ∀ w ∈ gw, w.before _ s = true := fun w h => hts w (List.mem_cons_of_mem _ h)
  have hown : s.vm.findClass R_Row = some m.cls := findClass_of_methodNamed B.named
  have hlocks := B.notSynchronized
  subst hsz
  have hK := hE.K
  have hD := hD0.self (sz := s.heap.size)
  have hAb := hE.ab hD0
  obtain ⟨Q, hQ⟩ : ∃ Q, MQ below (QV G (va_A (w_Row_empty G qt qt_cells nt_cells t_cells t_used t_burst) s.heap.size) (w_Row_empty G qt qt_cells nt_cells res.2.2 res.1 res.2.1)) ([.ref qt, .int a1, .int a2] : List Value).toArray s 0 0 (va_A (w_Row_empty G qt qt_cells nt_cells t_cells t_used t_burst) s.heap.size) = Q := ⟨_, rfl⟩
  show W p l e { frames := 1, cells := 0, slots := 0, locals := 40 } s m ([.ref qt, .int a1, .int a2] : List Value).toArray below meth c s.heap [] 0 0 (MQ below (QV G (va_A (w_Row_empty G qt qt_cells nt_cells t_cells t_used t_burst) s.heap.size) (w_Row_empty G qt qt_cells nt_cells res.2.2 res.1 res.2.1)) ([.ref qt, .int a1, .int a2] : List Value).toArray s 0 0 (va_A (w_Row_empty G qt qt_cells nt_cells t_cells t_used t_burst) s.heap.size)) _
  rw [hQ]
  have hA : ∀ q : Nat, s.heap.size ≤ q → va_A (w_Row_empty G qt qt_cells nt_cells t_cells t_used t_burst) s.heap.size q := fun q h => Or.inr h
  obtain ⟨A, hAe⟩ : ∃ A, va_A (w_Row_empty G qt qt_cells nt_cells t_cells t_used t_burst) s.heap.size = A := ⟨_, rfl⟩
  rw [hAe] at hA hD hAb hQ
  have hS : va_S A s.heap s.heap [] := va_S.rf
  have hl := lv_entry (([.ref qt, .int a1, .int a2] : List Value)) (n := 6) (Nat.le_of_ble_eq_true rfl)
  rw [lg_entry_eq]
  generalize (lg_sl (([.ref qt, .int a1, .int a2] : List Value)) ++ List.replicate (6 - (lg_sl (([.ref qt, .int a1, .int a2] : List Value))).length) Slot.unset).toArray = ls at hl ⊢
  have hl : lv_has ls 6 [(0, .ref qt), (1, .int a1), (2, .int a2)] := hl
  have W_56 : ∀ (x3 : Int32)  (n_56 : Nat) (z56 : Int32 × Int32 × Int32 × (Nat → Int32)) , lp_ (b_Row_addNumber_56 nt_cells x3) n_56 z56 = some res → ∀ (H : Heap) (locs : List Loc) (ls : Array Slot), va_P (gD G) vwCl (w_Row_empty G qt qt_cells nt_cells z56.2.2.2 z56.2.1 z56.2.2.1) H → va_D A (w_Row_empty G qt qt_cells nt_cells z56.2.2.2 z56.2.1 z56.2.2.1) → va_S A s.heap H locs → lv_has ls 6 [(0, .ref qt), (3, .int x3), (4, .int z56.1)] → W p l e { frames := 1, cells := 0, slots := 0, locals := 40 } s m ([.ref qt, .int a1, .int a2] : List Value).toArray below meth c H locs 0 0 Q (F0 m 56 ls []) := by
    intro x3 n_56
    induction n_56 with
    | zero =>
      intro z56  hf
      cases hf
    | succ n_56 ih_56 =>
      intro z56  hf H locs ls hP hD hS hl
      have hf : b_Row_addNumber_56 nt_cells x3 (lp_ (b_Row_addNumber_56 nt_cells x3) n_56) z56 = some res := hf
      generalize lp_ (b_Row_addNumber_56 nt_cells x3) n_56 = rec_56 at hf ih_56
      unfold b_Row_addNumber_56 at hf
      refine lv_iload hx hb d_Row_addNumber_56 (lv_at hl 2 rfl) ?_
      refine lv_if_le (tgt := 85) hx hb d_Row_addNumber_58 (by decide) (fun c_58 => ?_) (fun c_58 => ?_)
      · have hf := ip_ c_58 hf
        obtain rfl := Option.some.inj hf
        rw [← hQ]
        exact W.vret hx hb hr (fun t9 ht hW => ⟨⟨(), rfl, trivial, ⟨by rw [ht]; exact hP, hD⟩⟩, hS.F ht⟩) hS.2.2 d_Row_addNumber_85
      · have hf := in_ c_58 hf
        refine lv_aload_n hx hb d_Row_addNumber_61 rfl (lv_at hl 0 rfl) ?_
        refine lv_bipush (v := 48) hx hb d_Row_addNumber_62 (by decide) ?_
        refine lv_iload_n hx hb d_Row_addNumber_64 rfl (lv_at hl 1 rfl) ?_
        refine lv_iload hx hb d_Row_addNumber_65 (lv_at hl 2 rfl) ?_
        obtain ⟨g_67, hf⟩ := gn_ hf
        refine lv_idiv hx hb d_Row_addNumber_67 g_67 ?_
        refine lv_bipush (v := 10) hx hb d_Row_addNumber_68 (by decide) ?_
        refine lv_irem hx hb d_Row_addNumber_70 (by decide) ?_
        refine lv_iadd hx hb d_Row_addNumber_71 ?_
        obtain ⟨u_72, hu_72, hf⟩ := bd_ hf
        refine CALLWv (va_runV (As := [.int ((48 : Int32) + ((x3 / z56.1) - (x3 / z56.1) / (10 : Int32) * (10 : Int32)))]) (rest := []) ⟨hx, hb, hml, hown, hg⟩ (c_Row_add l G K qt qt_cells nt_cells z56.2.2.2 z56.2.1 z56.2.2.1 ((48 : Int32) + ((x3 / z56.1) - (x3 / z56.1) / (10 : Int32) * (10 : Int32))) _ u_72  hu_72) (cwV 1 hg (gV m_57 m_58 m_59 m_60 m_61) rfl rfl rfl (by decide +kernel) ⟨Nat.le_of_ble_eq_true rfl, Nat.le_of_ble_eq_true rfl⟩) ⟨PC_b, va_recv hK hP (ci := 4) (q0 := 0) rfl rfl, PC_p hE hS hAb hP hD⟩ rfl rfl hl.1 rfl (lv_room (Nat.le_of_ble_eq_true rfl)) d_Row_addNumber_72 ⟨Nat.zero_le _, Nat.zero_le _⟩) hP hD hS hA (fun H locs hP hD hS => ?_)
        have hP : va_P (gD G) vwCl (w_Row_empty G qt qt_cells nt_cells u_72.2.2 u_72.1 u_72.2.1) H := hP
        have hD : va_D A (w_Row_empty G qt qt_cells nt_cells u_72.2.2 u_72.1 u_72.2.1) := hD
        refine lv_iload hx hb d_Row_addNumber_75 (lv_at hl 2 rfl) ?_
        refine lv_bipush (v := 10) hx hb d_Row_addNumber_77 (by decide) ?_
        refine lv_idiv hx hb d_Row_addNumber_79 (by decide) ?_
        refine lv_istore (lv' := [(4, .int (z56.1 / (10 : Int32))), (0, .ref qt), (3, .int x3)]) hx hb d_Row_addNumber_80 hl (by decide) rfl (fun ls hl => ?_)
        refine lv_goto (tgt := 56) hx hb d_Row_addNumber_82 (by decide) ?_
        exact ih_56 ((z56.1 / (10 : Int32)), u_72.1, u_72.2.1, u_72.2.2)  hf _ _ _ hP hD hS (lv_sub hl [1, 2, 0] rfl)
  have W_21 : ∀ (x3 : Int32) (t_used : Int32) (t_burst : Int32) (t_cells : (Nat → Int32))  (n_21 : Nat) (z21 : Int32 × Int32) , lp_ (b_Row_addNumber_21 K nt_cells a2 x3 t_used t_burst t_cells) n_21 z21 = some res → ∀ (H : Heap) (locs : List Loc) (ls : Array Slot), va_P (gD G) vwCl (w_Row_empty G qt qt_cells nt_cells t_cells t_used t_burst) H → va_D A (w_Row_empty G qt qt_cells nt_cells t_cells t_used t_burst) → va_S A s.heap H locs → lv_has ls 6 [(0, .ref qt), (2, .int a2), (3, .int x3), (4, .int z21.1), (5, .int z21.2)] → W p l e { frames := 1, cells := 0, slots := 0, locals := 40 } s m ([.ref qt, .int a1, .int a2] : List Value).toArray below meth c H locs 0 0 Q (F0 m 21 ls []) := by
    intro x3 t_used t_burst t_cells n_21
    induction n_21 with
    | zero =>
      intro z21  hf
      cases hf
    | succ n_21 ih_21 =>
      intro z21  hf H locs ls hP hD hS hl
      have hf : b_Row_addNumber_21 K nt_cells a2 x3 t_used t_burst t_cells (lp_ (b_Row_addNumber_21 K nt_cells a2 x3 t_used t_burst t_cells) n_21) z21 = some res := hf
      generalize lp_ (b_Row_addNumber_21 K nt_cells a2 x3 t_used t_burst t_cells) n_21 = rec_21 at hf ih_21
      have W_43 : ∀ (x4 : Int32) (x5 : Int32) , k_Row_addNumber_43 rec_21 x4 x5 = some res → ∀ (H : Heap) (locs : List Loc) (ls : Array Slot), va_P (gD G) vwCl (w_Row_empty G qt qt_cells nt_cells t_cells t_used t_burst) H → va_D A (w_Row_empty G qt qt_cells nt_cells t_cells t_used t_burst) → va_S A s.heap H locs → lv_has ls 6 [(0, .ref qt), (2, .int a2), (3, .int x3), (4, .int x4), (5, .int x5)] → W p l e { frames := 1, cells := 0, slots := 0, locals := 40 } s m ([.ref qt, .int a1, .int a2] : List Value).toArray below meth c H locs 0 0 Q (F0 m 43 ls []) := by
        intro x4 x5  hf H locs ls hP hD hS hl
        unfold k_Row_addNumber_43 at hf
        refine lv_iload hx hb d_Row_addNumber_43 (lv_at hl 3 rfl) ?_
        refine lv_bipush (v := 10) hx hb d_Row_addNumber_45 (by decide) ?_
        refine lv_imul hx hb d_Row_addNumber_47 ?_
        refine lv_istore (lv' := [(4, .int (x4 * (10 : Int32))), (0, .ref qt), (2, .int a2), (3, .int x3), (5, .int x5)]) hx hb d_Row_addNumber_48 hl (by decide) rfl (fun ls hl => ?_)
        refine lv_iinc (v := (x5 + 1)) (lv' := [(5, .int (x5 + 1)), (4, .int (x4 * (10 : Int32))), (0, .ref qt), (2, .int a2), (3, .int x3)]) hx hb d_Row_addNumber_50 hl (k := 4) rfl rfl (by decide) rfl (fun ls hl => ?_)
        refine lv_goto (tgt := 21) hx hb d_Row_addNumber_53 (by decide) ?_
        exact ih_21 ((x4 * (10 : Int32)), (x5 + 1))  hf _ _ _ hP hD hS (lv_sub hl [2, 3, 4, 1, 0] rfl)
      unfold b_Row_addNumber_21 at hf
      refine lv_iload hx hb d_Row_addNumber_21 (lv_at hl 4 rfl) ?_
      refine lv_bipush (v := 9) hx hb d_Row_addNumber_23 (by decide) ?_
      refine lv_icmp_ge (tgt := 56) hx hb d_Row_addNumber_25 (by decide) (fun c_25 => ?_) (fun c_25 => ?_)
      · have hf := ip_ c_25 hf
        exact W_56 x3  K (z21.1, t_used, t_burst, t_cells)  hf _ _ _ hP hD hS (lv_sub hl [0, 2, 3] rfl)
      · have hf := in_ c_25 hf
        refine lv_iload hx hb d_Row_addNumber_28 (lv_at hl 4 rfl) ?_
        refine lv_iload_n hx hb d_Row_addNumber_30 rfl (lv_at hl 1 rfl) ?_
        refine lv_icmp_lt (tgt := 43) hx hb d_Row_addNumber_31 (by decide) (fun c_31 => ?_) (fun c_31 => ?_)
        · have hf := ip_ c_31 hf
          exact W_43 z21.1 z21.2  hf _ _ _ hP hD hS (lv_sub hl [0, 1, 2, 3, 4] rfl)
        · have hf := in_ c_31 hf
          refine lv_iload_n hx hb d_Row_addNumber_34 rfl (lv_at hl 2 rfl) ?_
          refine lv_bipush (v := 10) hx hb d_Row_addNumber_35 (by decide) ?_
          refine lv_idiv hx hb d_Row_addNumber_37 (by decide) ?_
          refine lv_iload hx hb d_Row_addNumber_38 (lv_at hl 3 rfl) ?_
          refine lv_icmp_lt (tgt := 56) hx hb d_Row_addNumber_40 (by decide) (fun c_40 => ?_) (fun c_40 => ?_)
          · have hf := ip_ c_40 hf
            exact W_56 x3  K (z21.1, t_used, t_burst, t_cells)  hf _ _ _ hP hD hS (lv_sub hl [0, 2, 3] rfl)
          · have hf := in_ c_40 hf
            exact W_43 z21.1 z21.2  hf _ _ _ hP hD hS (lv_sub hl [0, 1, 2, 3, 4] rfl)
  have W_10 : ∀ (t_used : Int32) (t_burst : Int32) (t_cells : (Nat → Int32)) , k_Row_addNumber_10 K nt_cells a1 a2 t_used t_burst t_cells = some res → ∀ (H : Heap) (locs : List Loc) (ls : Array Slot), va_P (gD G) vwCl (w_Row_empty G qt qt_cells nt_cells t_cells t_used t_burst) H → va_D A (w_Row_empty G qt qt_cells nt_cells t_cells t_used t_burst) → va_S A s.heap H locs → lv_has ls 6 [(0, .ref qt), (1, .int a1), (2, .int a2)] → W p l e { frames := 1, cells := 0, slots := 0, locals := 40 } s m ([.ref qt, .int a1, .int a2] : List Value).toArray below meth c H locs 0 0 Q (F0 m 10 ls []) := by
    intro t_used t_burst t_cells  hf H locs ls hP hD hS hl
    unfold k_Row_addNumber_10 at hf
    refine lv_iload_n hx hb d_Row_addNumber_10 rfl (lv_at hl 1 rfl) ?_
    refine va_mabs hx hb (hml.trans hl.1.symm) hown (hg _ m_66) (hg _ m_67) (hg _ m_11) (hg _ m_68) (Nat.le_of_ble_eq_true rfl) (Nat.le_of_ble_eq_true rfl) (Nat.zero_le _) (Nat.zero_le _) d_Row_addNumber_11 ?_
    refine lv_istore_n (lv' := [(3, .int (if 0 ≤ a1 then a1 else 0 - a1)), (0, .ref qt), (1, .int a1), (2, .int a2)]) hx hb d_Row_addNumber_14 rfl hl (by decide) rfl (fun ls hl => ?_)
    refine lv_iconst (v := 1) hx hb d_Row_addNumber_15 (by decide) ?_
    refine lv_istore (lv' := [(4, .int (1 : Int32)), (3, .int (if 0 ≤ a1 then a1 else 0 - a1)), (0, .ref qt), (1, .int a1), (2, .int a2)]) hx hb d_Row_addNumber_16 hl (by decide) rfl (fun ls hl => ?_)
    refine lv_iconst (v := 1) hx hb d_Row_addNumber_18 (by decide) ?_
    refine lv_istore (lv' := [(5, .int (1 : Int32)), (4, .int (1 : Int32)), (3, .int (if 0 ≤ a1 then a1 else 0 - a1)), (0, .ref qt), (1, .int a1), (2, .int a2)]) hx hb d_Row_addNumber_19 hl (by decide) rfl (fun ls hl => ?_)
    exact W_21 (if 0 ≤ a1 then a1 else 0 - a1) t_used t_burst t_cells  K ((1 : Int32), (1 : Int32))  hf _ _ _ hP hD hS (lv_sub hl [3, 5, 2, 1, 0] rfl)
  unfold f_Row_addNumber at hf
  refine lv_iload_n hx hb d_Row_addNumber_0 rfl (lv_at hl 1 rfl) ?_
  refine lv_if_ge (tgt := 10) hx hb d_Row_addNumber_1 (by decide) (fun c_1 => ?_) (fun c_1 => ?_)
  · have hf := ip_ c_1 hf
    exact W_10 t_used t_burst t_cells  hf _ _ _ hP hD hS (lv_sub hl [0, 1, 2] rfl)
  · have hf := in_ c_1 hf
    refine lv_aload_n hx hb d_Row_addNumber_4 rfl (lv_at hl 0 rfl) ?_
    refine lv_bipush (v := 45) hx hb d_Row_addNumber_5 (by decide) ?_
    obtain ⟨u_7, hu_7, hf⟩ := bd_ hf
    refine CALLWv (va_runV (As := [.int (45 : Int32)]) (rest := []) ⟨hx, hb, hml, hown, hg⟩ (c_Row_add l G K qt qt_cells nt_cells t_cells t_used t_burst (45 : Int32) _ u_7  hu_7) (cwV 1 hg (gV m_57 m_58 m_59 m_60 m_61) rfl rfl rfl (by decide +kernel) ⟨Nat.le_of_ble_eq_true rfl, Nat.le_of_ble_eq_true rfl⟩) ⟨PC_b, va_recv hK hP (ci := 4) (q0 := 0) rfl rfl, PC_p hE hS hAb hP hD⟩ rfl rfl hl.1 rfl (lv_room (Nat.le_of_ble_eq_true rfl)) d_Row_addNumber_7 ⟨Nat.zero_le _, Nat.zero_le _⟩) hP hD hS hA (fun H locs hP hD hS => ?_)
    have hP : va_P (gD G) vwCl (w_Row_empty G qt qt_cells nt_cells u_7.2.2 u_7.1 u_7.2.1) H := hP
    have hD : va_D A (w_Row_empty G qt qt_cells nt_cells u_7.2.2 u_7.1 u_7.2.1) := hD
    exact W_10 u_7.1 u_7.2.1 u_7.2.2  hf _ _ _ hP hD hS (lv_sub hl [0, 1, 2] rfl)
theorem d_Row_cutTo_0 : decode cd_Row_cutTo 0 = .ok (.iload_n 1, 1) := by decide +kernel
theorem d_Row_cutTo_1 : decode cd_Row_cutTo 1 = .ok (.ifCond .lt 16, 3) := by decide +kernel
theorem d_Row_cutTo_4 : decode cd_Row_cutTo 4 = .ok (.iload_n 1, 1) := by decide +kernel
theorem d_Row_cutTo_5 : decode cd_Row_cutTo 5 = .ok (.aload_n 0, 1) := by decide +kernel
theorem d_Row_cutTo_6 : decode cd_Row_cutTo 6 = .ok (.getfield 19, 3) := by decide +kernel
theorem d_Row_cutTo_9 : decode cd_Row_cutTo 9 = .ok (.if_icmp .ge 8, 3) := by decide +kernel
theorem d_Row_cutTo_12 : decode cd_Row_cutTo 12 = .ok (.aload_n 0, 1) := by decide +kernel
theorem d_Row_cutTo_13 : decode cd_Row_cutTo 13 = .ok (.iload_n 1, 1) := by decide +kernel
theorem d_Row_cutTo_14 : decode cd_Row_cutTo 14 = .ok (.putfield 19, 3) := by decide +kernel
theorem d_Row_cutTo_17 : decode cd_Row_cutTo 17 = .ok (.return_, 1) := by decide +kernel
def f_Row_cutTo (t_used : Int32) (a1 : Int32) : Option Int32 :=
  (if a1 < 0 then some t_used else (if t_used ≤ a1 then some t_used else some a1))
set_option maxHeartbeats 4000000 in
set_option maxRecDepth 100000 in
theorem c_Row_cutTo (l : Launch) (G : Gt) (K : Nat) (qt : Nat) (qt_cells : Nat) (nt_cells : Nat) (t_cells : Nat → Int32) (t_used : Int32) (t_burst : Int32) (a1 : Int32) (sz : Nat) (res : Int32)   (hf : f_Row_cutTo t_used a1 = some res) : Met l y_Row_cutTo (.code y_Row_cutTo cd_Row_cutTo 2 none :: gw) { frames := 0, cells := 0, slots := 0, locals := 0 } (PC G ([.ref qt, .int a1] : List Value) sz (w_Row_empty G qt qt_cells nt_cells t_cells t_used t_burst)) (QV G (va_A (w_Row_empty G qt qt_cells nt_cells t_cells t_used t_burst) sz) (w_Row_empty G qt qt_cells nt_cells t_cells res t_burst)) 0 0 (va_A (w_Row_empty G qt qt_cells nt_cells t_cells t_used t_burst) sz) := by
  refine Met.ofW (cc := cd_Row_cutTo) (maxL := 2) (ret := none) (by decide) rfl ?_
  intro p e s m args below meth c s₁ B hml hv
  obtain ⟨rfl, hsz, hP, hE, hD0⟩ := hv
  have hx := B.exec
  have hb := B.bytes
  have hr := B.returns
  have hts := atoms_spec (ws := (.code y_Row_cutTo cd_Row_cutTo 2 none :: gw)) B.pre
  have hg : ∀ w ∈ gw, w.before _ s = true := fun w h => hts w (List.mem_cons_of_mem _ h)
  have hown : s.vm.findClass R_Row = some m.cls := findClass_of_methodNamed B.named
  have hlocks := B.notSynchronized
  subst hsz
  have hK := hE.K
  have hD := hD0.self (sz := s.heap.size)
  have hAb := hE.ab hD0
  obtain ⟨Q, hQ⟩ : ∃ Q, MQ below (QV G (va_A (w_Row_empty G qt qt_cells nt_cells t_cells t_used t_burst) s.heap.size) (w_Row_empty G qt qt_cells nt_cells t_cells res t_burst)) ([.ref qt, .int a1] : List Value).toArray s 0 0 (va_A (w_Row_empty G qt qt_cells nt_cells t_cells t_used t_burst) s.heap.size) = Q := ⟨_, rfl⟩
  show W p l e { frames := 0, cells := 0, slots := 0, locals := 0 } s m ([.ref qt, .int a1] : List Value).toArray below meth c s.heap [] 0 0 (MQ below (QV G (va_A (w_Row_empty G qt qt_cells nt_cells t_cells t_used t_burst) s.heap.size) (w_Row_empty G qt qt_cells nt_cells t_cells res t_burst)) ([.ref qt, .int a1] : List Value).toArray s 0 0 (va_A (w_Row_empty G qt qt_cells nt_cells t_cells t_used t_burst) s.heap.size)) _
  rw [hQ]
  have hA : ∀ q : Nat, s.heap.size ≤ q → va_A (w_Row_empty G qt qt_cells nt_cells t_cells t_used t_burst) s.heap.size q := fun q h => Or.inr h
  obtain ⟨A, hAe⟩ : ∃ A, va_A (w_Row_empty G qt qt_cells nt_cells t_cells t_used t_burst) s.heap.size = A := ⟨_, rfl⟩
  rw [hAe] at hA hD hAb hQ
  have hS : va_S A s.heap s.heap [] := va_S.rf
  have hl := lv_entry (([.ref qt, .int a1] : List Value)) (n := 2) (Nat.le_of_ble_eq_true rfl)
  rw [lg_entry_eq]
  generalize (lg_sl (([.ref qt, .int a1] : List Value)) ++ List.replicate (2 - (lg_sl (([.ref qt, .int a1] : List Value))).length) Slot.unset).toArray = ls at hl ⊢
  have hl : lv_has ls 2 [(0, .ref qt), (1, .int a1)] := hl
  unfold f_Row_cutTo at hf
  refine lv_iload_n hx hb d_Row_cutTo_0 rfl (lv_at hl 1 rfl) ?_
  refine lv_if_lt (tgt := 17) hx hb d_Row_cutTo_1 (by decide) (fun c_1 => ?_) (fun c_1 => ?_)
  · have hf := ip_ c_1 hf
    obtain rfl := Option.some.inj hf
    rw [← hQ]
    exact W.vret hx hb hr (fun t9 ht hW => ⟨⟨(), rfl, trivial, ⟨by rw [ht]; exact hP, hD⟩⟩, hS.F ht⟩) hS.2.2 d_Row_cutTo_17
  · have hf := in_ c_1 hf
    refine lv_iload_n hx hb d_Row_cutTo_4 rfl (lv_at hl 1 rfl) ?_
    refine lv_aload_n hx hb d_Row_cutTo_5 rfl (lv_at hl 0 rfl) ?_
    refine va_get (D := gD G) (ci := 4) (v := .int t_used) (C := R_Row) (T := F_Row) (N := 3) hx hb hg in_Row hown hK hP 0 rfl rfl 1 (by decide) (hg _ m_54) (fun _ h9 => h9) rfl d_Row_cutTo_6 ?_
    refine lv_icmp_ge (tgt := 17) hx hb d_Row_cutTo_9 (by decide) (fun c_9 => ?_) (fun c_9 => ?_)
    · have hf := ip_ c_9 hf
      obtain rfl := Option.some.inj hf
      rw [← hQ]
      exact W.vret hx hb hr (fun t9 ht hW => ⟨⟨(), rfl, trivial, ⟨by rw [ht]; exact hP, hD⟩⟩, hS.F ht⟩) hS.2.2 d_Row_cutTo_17
    · have hf := in_ c_9 hf
      refine lv_aload_n hx hb d_Row_cutTo_12 rfl (lv_at hl 0 rfl) ?_
      refine lv_iload_n hx hb d_Row_cutTo_13 rfl (lv_at hl 1 rfl) ?_
      refine va_put (D := gD G) (ci := 4) (v := .int a1) (ty := .int) (C := R_Row) (T := F_Row) (N := 3) hx hb hg in_Row t_Row to_Row no_Row hown hK hP hD hS 0 rfl rfl 1 (by decide) (hg _ m_54) (fun _ h9 => h9) rfl (by decide +kernel) rfl rfl (Nat.le_of_ble_eq_true rfl) d_Row_cutTo_14 (fun H locs hP hD hS => ?_)
      have hP : va_P (gD G) vwCl (w_Row_empty G qt qt_cells nt_cells t_cells a1 t_burst) H := hP
      have hD : va_D A (w_Row_empty G qt qt_cells nt_cells t_cells a1 t_burst) := hD
      obtain rfl := Option.some.inj hf
      rw [← hQ]
      exact W.vret hx hb hr (fun t9 ht hW => ⟨⟨(), rfl, trivial, ⟨by rw [ht]; exact hP, hD⟩⟩, hS.F ht⟩) hS.2.2 d_Row_cutTo_17
theorem d_Row_raiseFrom_0 : decode cd_Row_raiseFrom 0 = .ok (.iconst 0, 1) := by decide +kernel
theorem d_Row_raiseFrom_1 : decode cd_Row_raiseFrom 1 = .ok (.iload_n 1, 1) := by decide +kernel
theorem d_Row_raiseFrom_2 : decode cd_Row_raiseFrom 2 = .ok (.invokestatic 7, 3) := by decide +kernel
theorem d_Row_raiseFrom_5 : decode cd_Row_raiseFrom 5 = .ok (.istore_n 2, 1) := by decide +kernel
theorem d_Row_raiseFrom_6 : decode cd_Row_raiseFrom 6 = .ok (.iload_n 2, 1) := by decide +kernel
theorem d_Row_raiseFrom_7 : decode cd_Row_raiseFrom 7 = .ok (.aload_n 0, 1) := by decide +kernel
theorem d_Row_raiseFrom_8 : decode cd_Row_raiseFrom 8 = .ok (.getfield 19, 3) := by decide +kernel
theorem d_Row_raiseFrom_11 : decode cd_Row_raiseFrom 11 = .ok (.if_icmp .ge 52, 3) := by decide +kernel
theorem d_Row_raiseFrom_14 : decode cd_Row_raiseFrom 14 = .ok (.iload_n 2, 1) := by decide +kernel
theorem d_Row_raiseFrom_15 : decode cd_Row_raiseFrom 15 = .ok (.aload_n 0, 1) := by decide +kernel
theorem d_Row_raiseFrom_16 : decode cd_Row_raiseFrom 16 = .ok (.getfield 13, 3) := by decide +kernel
theorem d_Row_raiseFrom_19 : decode cd_Row_raiseFrom 19 = .ok (.arraylength, 1) := by decide +kernel
theorem d_Row_raiseFrom_20 : decode cd_Row_raiseFrom 20 = .ok (.if_icmp .ge 43, 3) := by decide +kernel
theorem d_Row_raiseFrom_23 : decode cd_Row_raiseFrom 23 = .ok (.aload_n 0, 1) := by decide +kernel
theorem d_Row_raiseFrom_24 : decode cd_Row_raiseFrom 24 = .ok (.getfield 13, 3) := by decide +kernel
theorem d_Row_raiseFrom_27 : decode cd_Row_raiseFrom 27 = .ok (.iload_n 2, 1) := by decide +kernel
theorem d_Row_raiseFrom_28 : decode cd_Row_raiseFrom 28 = .ok (.baload, 1) := by decide +kernel
theorem d_Row_raiseFrom_29 : decode cd_Row_raiseFrom 29 = .ok (.bipush 97, 2) := by decide +kernel
theorem d_Row_raiseFrom_31 : decode cd_Row_raiseFrom 31 = .ok (.if_icmp .lt 26, 3) := by decide +kernel
theorem d_Row_raiseFrom_34 : decode cd_Row_raiseFrom 34 = .ok (.aload_n 0, 1) := by decide +kernel
theorem d_Row_raiseFrom_35 : decode cd_Row_raiseFrom 35 = .ok (.getfield 13, 3) := by decide +kernel
theorem d_Row_raiseFrom_38 : decode cd_Row_raiseFrom 38 = .ok (.iload_n 2, 1) := by decide +kernel
theorem d_Row_raiseFrom_39 : decode cd_Row_raiseFrom 39 = .ok (.baload, 1) := by decide +kernel
theorem d_Row_raiseFrom_40 : decode cd_Row_raiseFrom 40 = .ok (.bipush 122, 2) := by decide +kernel
theorem d_Row_raiseFrom_42 : decode cd_Row_raiseFrom 42 = .ok (.if_icmp .gt 15, 3) := by decide +kernel
theorem d_Row_raiseFrom_45 : decode cd_Row_raiseFrom 45 = .ok (.aload_n 0, 1) := by decide +kernel
theorem d_Row_raiseFrom_46 : decode cd_Row_raiseFrom 46 = .ok (.getfield 13, 3) := by decide +kernel
theorem d_Row_raiseFrom_49 : decode cd_Row_raiseFrom 49 = .ok (.iload_n 2, 1) := by decide +kernel
theorem d_Row_raiseFrom_50 : decode cd_Row_raiseFrom 50 = .ok (.dup2, 1) := by decide +kernel
theorem d_Row_raiseFrom_51 : decode cd_Row_raiseFrom 51 = .ok (.baload, 1) := by decide +kernel
theorem d_Row_raiseFrom_52 : decode cd_Row_raiseFrom 52 = .ok (.bipush 32, 2) := by decide +kernel
theorem d_Row_raiseFrom_54 : decode cd_Row_raiseFrom 54 = .ok (.isub, 1) := by decide +kernel
theorem d_Row_raiseFrom_55 : decode cd_Row_raiseFrom 55 = .ok (.i2b, 1) := by decide +kernel
theorem d_Row_raiseFrom_56 : decode cd_Row_raiseFrom 56 = .ok (.bastore, 1) := by decide +kernel
theorem d_Row_raiseFrom_57 : decode cd_Row_raiseFrom 57 = .ok (.iinc 2 1, 3) := by decide +kernel
theorem d_Row_raiseFrom_60 : decode cd_Row_raiseFrom 60 = .ok (.goto (-54), 3) := by decide +kernel
theorem d_Row_raiseFrom_63 : decode cd_Row_raiseFrom 63 = .ok (.return_, 1) := by decide +kernel
theorem m_69 : Cond.methodLink R_Row 7 Lib.Math.max.name ∈ gw := gm (i := 114) (by decide +kernel) (by decide +kernel)
def k_Row_raiseFrom_57 (rec_6 : (Int32 × (Nat → Int32)) → Option (Nat → Int32)) (x2 : Int32) (t_cells : (Nat → Int32)) : Option (Nat → Int32) :=
  rec_6 ((x2 + 1), t_cells)
def b_Row_raiseFrom_6 (nt_cells : Nat) (t_used : Int32)  (rec_6 : (Int32 × (Nat → Int32)) → Option (Nat → Int32)) (z6 : Int32 × (Nat → Int32)) : Option (Nat → Int32) :=
  (if t_used ≤ z6.1 then some z6.2 else (if (nI nt_cells) ≤ z6.1 then some z6.2 else (if inB z6.1 nt_cells = true then (if (z6.2 z6.1.toNatClampNeg) < (97 : Int32) then k_Row_raiseFrom_57 rec_6 z6.1 z6.2 else (if inB z6.1 nt_cells = true then (if (122 : Int32) < (z6.2 z6.1.toNatClampNeg) then k_Row_raiseFrom_57 rec_6 z6.1 z6.2 else (if inB z6.1 nt_cells = true then (if inB z6.1 nt_cells = true then k_Row_raiseFrom_57 rec_6 z6.1 (upd z6.2 z6.1.toNatClampNeg (vp_nar .byte (((z6.2 z6.1.toNatClampNeg) - (32 : Int32)).toInt8.toInt32))) else none) else none)) else none)) else none)))
def f_Row_raiseFrom (K : Nat) (nt_cells : Nat) (t_cells : Nat → Int32) (t_used : Int32) (a1 : Int32) : Option (Nat → Int32) :=
  lp_ (b_Row_raiseFrom_6 nt_cells t_used ) K ((if (0 : Int32) < a1 then a1 else (0 : Int32)), t_cells)
set_option maxHeartbeats 4000000 in
set_option maxRecDepth 100000 in
theorem c_Row_raiseFrom (l : Launch) (G : Gt) (K : Nat) (qt : Nat) (qt_cells : Nat) (nt_cells : Nat) (t_cells : Nat → Int32) (t_used : Int32) (t_burst : Int32) (a1 : Int32) (sz : Nat) (res : (Nat → Int32))   (hf : f_Row_raiseFrom K nt_cells t_cells t_used a1 = some res) : Met l y_Row_raiseFrom (.code y_Row_raiseFrom cd_Row_raiseFrom 3 none :: gw) { frames := 1, cells := 0, slots := 0, locals := 40 } (PC G ([.ref qt, .int a1] : List Value) sz (w_Row_empty G qt qt_cells nt_cells t_cells t_used t_burst)) (QV G (va_A (w_Row_empty G qt qt_cells nt_cells t_cells t_used t_burst) sz) (w_Row_empty G qt qt_cells nt_cells res t_used t_burst)) 0 0 (va_A (w_Row_empty G qt qt_cells nt_cells t_cells t_used t_burst) sz) := by
  refine Met.ofW (cc := cd_Row_raiseFrom) (maxL := 3) (ret := none) (by decide) rfl ?_
  intro p e s m args below meth c s₁ B hml hv
  obtain ⟨rfl, hsz, hP, hE, hD0⟩ := hv
  have hx := B.exec
  have hb := B.bytes
  have hr := B.returns
  have hts := atoms_spec (ws := (.code y_Row_raiseFrom cd_Row_raiseFrom 3 none :: gw)) B.pre
  have hg : ∀ w ∈ gw, w.before _ s = true := fun w h => hts w (List.mem_cons_of_mem _ h)
  have hown : s.vm.findClass R_Row = some m.cls := findClass_of_methodNamed B.named
  have hlocks := B.notSynchronized
  subst hsz
  have hK := hE.K
  have hD := hD0.self (sz := s.heap.size)
  have hAb := hE.ab hD0
  obtain ⟨Q, hQ⟩ : ∃ Q, MQ below (QV G (va_A (w_Row_empty G qt qt_cells nt_cells t_cells t_used t_burst) s.heap.size) (w_Row_empty G qt qt_cells nt_cells res t_used t_burst)) ([.ref qt, .int a1] : List Value).toArray s 0 0 (va_A (w_Row_empty G qt qt_cells nt_cells t_cells t_used t_burst) s.heap.size) = Q := ⟨_, rfl⟩
  show W p l e { frames := 1, cells := 0, slots := 0, locals := 40 } s m ([.ref qt, .int a1] : List Value).toArray below meth c s.heap [] 0 0 (MQ below (QV G (va_A (w_Row_empty G qt qt_cells nt_cells t_cells t_used t_burst) s.heap.size) (w_Row_empty G qt qt_cells nt_cells res t_used t_burst)) ([.ref qt, .int a1] : List Value).toArray s 0 0 (va_A (w_Row_empty G qt qt_cells nt_cells t_cells t_used t_burst) s.heap.size)) _
  rw [hQ]
  have hA : ∀ q : Nat, s.heap.size ≤ q → va_A (w_Row_empty G qt qt_cells nt_cells t_cells t_used t_burst) s.heap.size q := fun q h => Or.inr h
  obtain ⟨A, hAe⟩ : ∃ A, va_A (w_Row_empty G qt qt_cells nt_cells t_cells t_used t_burst) s.heap.size = A := ⟨_, rfl⟩
  rw [hAe] at hA hD hAb hQ
  have hS : va_S A s.heap s.heap [] := va_S.rf
  have hl := lv_entry (([.ref qt, .int a1] : List Value)) (n := 3) (Nat.le_of_ble_eq_true rfl)
  rw [lg_entry_eq]
  generalize (lg_sl (([.ref qt, .int a1] : List Value)) ++ List.replicate (3 - (lg_sl (([.ref qt, .int a1] : List Value))).length) Slot.unset).toArray = ls at hl ⊢
  have hl : lv_has ls 3 [(0, .ref qt), (1, .int a1)] := hl
  have W_6 : ∀   (n_6 : Nat) (z6 : Int32 × (Nat → Int32)) , lp_ (b_Row_raiseFrom_6 nt_cells t_used ) n_6 z6 = some res → ∀ (H : Heap) (locs : List Loc) (ls : Array Slot), va_P (gD G) vwCl (w_Row_empty G qt qt_cells nt_cells z6.2 t_used t_burst) H → va_D A (w_Row_empty G qt qt_cells nt_cells z6.2 t_used t_burst) → va_S A s.heap H locs → lv_has ls 3 [(0, .ref qt), (2, .int z6.1)] → W p l e { frames := 1, cells := 0, slots := 0, locals := 40 } s m ([.ref qt, .int a1] : List Value).toArray below meth c H locs 0 0 Q (F0 m 6 ls []) := by
    intro  n_6
    induction n_6 with
    | zero =>
      intro z6  hf
      cases hf
    | succ n_6 ih_6 =>
      intro z6  hf H locs ls hP hD hS hl
      have hf : b_Row_raiseFrom_6 nt_cells t_used  (lp_ (b_Row_raiseFrom_6 nt_cells t_used ) n_6) z6 = some res := hf
      generalize lp_ (b_Row_raiseFrom_6 nt_cells t_used ) n_6 = rec_6 at hf ih_6
      have W_57 : ∀ (x2 : Int32) (t_cells : (Nat → Int32)) , k_Row_raiseFrom_57 rec_6 x2 t_cells = some res → ∀ (H : Heap) (locs : List Loc) (ls : Array Slot), va_P (gD G) vwCl (w_Row_empty G qt qt_cells nt_cells t_cells t_used t_burst) H → va_D A (w_Row_empty G qt qt_cells nt_cells t_cells t_used t_burst) → va_S A s.heap H locs → lv_has ls 3 [(0, .ref qt), (2, .int x2)] → W p l e { frames := 1, cells := 0, slots := 0, locals := 40 } s m ([.ref qt, .int a1] : List Value).toArray below meth c H locs 0 0 Q (F0 m 57 ls []) := by
        intro x2 t_cells  hf H locs ls hP hD hS hl
        unfold k_Row_raiseFrom_57 at hf
        refine lv_iinc (v := (x2 + 1)) (lv' := [(2, .int (x2 + 1)), (0, .ref qt)]) hx hb d_Row_raiseFrom_57 hl (k := 1) rfl rfl (by decide) rfl (fun ls hl => ?_)
        refine lv_goto (tgt := 6) hx hb d_Row_raiseFrom_60 (by decide) ?_
        exact ih_6 ((x2 + 1), t_cells)  hf _ _ _ hP hD hS (lv_sub hl [1, 0] rfl)
      unfold b_Row_raiseFrom_6 at hf
      refine lv_iload_n hx hb d_Row_raiseFrom_6 rfl (lv_at hl 1 rfl) ?_
      refine lv_aload_n hx hb d_Row_raiseFrom_7 rfl (lv_at hl 0 rfl) ?_
      refine va_get (D := gD G) (ci := 4) (v := .int t_used) (C := R_Row) (T := F_Row) (N := 3) hx hb hg in_Row hown hK hP 0 rfl rfl 1 (by decide) (hg _ m_54) (fun _ h9 => h9) rfl d_Row_raiseFrom_8 ?_
      refine lv_icmp_ge (tgt := 63) hx hb d_Row_raiseFrom_11 (by decide) (fun c_11 => ?_) (fun c_11 => ?_)
      · have hf := ip_ c_11 hf
        obtain rfl := Option.some.inj hf
        rw [← hQ]
        exact W.vret hx hb hr (fun t9 ht hW => ⟨⟨(), rfl, trivial, ⟨by rw [ht]; exact hP, hD⟩⟩, hS.F ht⟩) hS.2.2 d_Row_raiseFrom_63
      · have hf := in_ c_11 hf
        refine lv_iload_n hx hb d_Row_raiseFrom_14 rfl (lv_at hl 1 rfl) ?_
        refine lv_aload_n hx hb d_Row_raiseFrom_15 rfl (lv_at hl 0 rfl) ?_
        refine va_get (D := gD G) (ci := 4) (v := .ref qt_cells) (C := R_Row) (T := F_Row) (N := 3) hx hb hg in_Row hown hK hP 0 rfl rfl 0 (by decide) (hg _ m_56) (fun _ h9 => h9) rfl d_Row_raiseFrom_16 ?_
        refine va_alen hx hb hK hP 1 0 rfl rfl (v := nI nt_cells) rfl d_Row_raiseFrom_19 ?_
        refine lv_icmp_ge (tgt := 63) hx hb d_Row_raiseFrom_20 (by decide) (fun c_20 => ?_) (fun c_20 => ?_)
        · have hf := ip_ c_20 hf
          obtain rfl := Option.some.inj hf
          rw [← hQ]
          exact W.vret hx hb hr (fun t9 ht hW => ⟨⟨(), rfl, trivial, ⟨by rw [ht]; exact hP, hD⟩⟩, hS.F ht⟩) hS.2.2 d_Row_raiseFrom_63
        · have hf := in_ c_20 hf
          refine lv_aload_n hx hb d_Row_raiseFrom_23 rfl (lv_at hl 0 rfl) ?_
          refine va_get (D := gD G) (ci := 4) (v := .ref qt_cells) (C := R_Row) (T := F_Row) (N := 3) hx hb hg in_Row hown hK hP 0 rfl rfl 0 (by decide) (hg _ m_56) (fun _ h9 => h9) rfl d_Row_raiseFrom_24 ?_
          refine lv_iload_n hx hb d_Row_raiseFrom_27 rfl (lv_at hl 1 rfl) ?_
          obtain ⟨g_28, hf⟩ := gd_ hf
          refine va_bald hx hb hK hP 1 0 rfl rfl (inB_in g_28) d_Row_raiseFrom_28 ?_
          refine lv_bipush (v := 97) hx hb d_Row_raiseFrom_29 (by decide) ?_
          refine lv_icmp_lt (tgt := 57) hx hb d_Row_raiseFrom_31 (by decide) (fun c_31 => ?_) (fun c_31 => ?_)
          · have hf := ip_ c_31 hf
            exact W_57 z6.1 z6.2  hf _ _ _ hP hD hS (lv_sub hl [0, 1] rfl)
          · have hf := in_ c_31 hf
            refine lv_aload_n hx hb d_Row_raiseFrom_34 rfl (lv_at hl 0 rfl) ?_
            refine va_get (D := gD G) (ci := 4) (v := .ref qt_cells) (C := R_Row) (T := F_Row) (N := 3) hx hb hg in_Row hown hK hP 0 rfl rfl 0 (by decide) (hg _ m_56) (fun _ h9 => h9) rfl d_Row_raiseFrom_35 ?_
            refine lv_iload_n hx hb d_Row_raiseFrom_38 rfl (lv_at hl 1 rfl) ?_
            obtain ⟨g_39, hf⟩ := gd_ hf
            refine va_bald hx hb hK hP 1 0 rfl rfl (inB_in g_39) d_Row_raiseFrom_39 ?_
            refine lv_bipush (v := 122) hx hb d_Row_raiseFrom_40 (by decide) ?_
            refine lv_icmp_gt (tgt := 57) hx hb d_Row_raiseFrom_42 (by decide) (fun c_42 => ?_) (fun c_42 => ?_)
            · have hf := ip_ c_42 hf
              exact W_57 z6.1 z6.2  hf _ _ _ hP hD hS (lv_sub hl [0, 1] rfl)
            · have hf := in_ c_42 hf
              refine lv_aload_n hx hb d_Row_raiseFrom_45 rfl (lv_at hl 0 rfl) ?_
              refine va_get (D := gD G) (ci := 4) (v := .ref qt_cells) (C := R_Row) (T := F_Row) (N := 3) hx hb hg in_Row hown hK hP 0 rfl rfl 0 (by decide) (hg _ m_56) (fun _ h9 => h9) rfl d_Row_raiseFrom_46 ?_
              refine lv_iload_n hx hb d_Row_raiseFrom_49 rfl (lv_at hl 1 rfl) ?_
              refine lv_dup2_11 hx hb d_Row_raiseFrom_50 rfl rfl ?_
              obtain ⟨g_51, hf⟩ := gd_ hf
              refine va_bald hx hb hK hP 1 0 rfl rfl (inB_in g_51) d_Row_raiseFrom_51 ?_
              refine lv_bipush (v := 32) hx hb d_Row_raiseFrom_52 (by decide) ?_
              refine lv_isub hx hb d_Row_raiseFrom_54 ?_
              refine lv_i2b (v := ((z6.2 z6.1.toNatClampNeg) - (32 : Int32)).toInt8.toInt32) hx hb d_Row_raiseFrom_55 rfl ?_
              obtain ⟨g_56, hf⟩ := gd_ hf
              refine va_bast hx hb hK hP hD hS 1 0 rfl rfl (inB_in g_56) d_Row_raiseFrom_56 (fun H locs hP hD hS => ?_)
              have hP : va_P (gD G) vwCl (w_Row_empty G qt qt_cells nt_cells (upd z6.2 z6.1.toNatClampNeg (vp_nar .byte (((z6.2 z6.1.toNatClampNeg) - (32 : Int32)).toInt8.toInt32))) t_used t_burst) H := hP
              have hD : va_D A (w_Row_empty G qt qt_cells nt_cells (upd z6.2 z6.1.toNatClampNeg (vp_nar .byte (((z6.2 z6.1.toNatClampNeg) - (32 : Int32)).toInt8.toInt32))) t_used t_burst) := hD
              exact W_57 z6.1 (upd z6.2 z6.1.toNatClampNeg (vp_nar .byte (((z6.2 z6.1.toNatClampNeg) - (32 : Int32)).toInt8.toInt32)))  hf _ _ _ hP hD hS (lv_sub hl [0, 1] rfl)
  unfold f_Row_raiseFrom at hf
  refine lv_iconst (v := 0) hx hb d_Row_raiseFrom_0 (by decide) ?_
  refine lv_iload_n hx hb d_Row_raiseFrom_1 rfl (lv_at hl 1 rfl) ?_
  refine va_mmax hx hb (hml.trans hl.1.symm) hown (hg _ m_69) (hg _ m_10) (hg _ m_11) (hg _ m_12) (Nat.le_of_ble_eq_true rfl) (Nat.le_of_ble_eq_true rfl) (Nat.zero_le _) (Nat.zero_le _) d_Row_raiseFrom_2 ?_
  refine lv_istore_n (lv' := [(2, .int (if (0 : Int32) < a1 then a1 else (0 : Int32))), (0, .ref qt), (1, .int a1)]) hx hb d_Row_raiseFrom_5 rfl hl (by decide) rfl (fun ls hl => ?_)
  exact W_6   K ((if (0 : Int32) < a1 then a1 else (0 : Int32)), t_cells)  hf _ _ _ hP hD hS (lv_sub hl [1, 0] rfl)
theorem d_Row_addWord_0 : decode cd_Row_addWord 0 = .ok (.iconst 0, 1) := by decide +kernel
theorem d_Row_addWord_1 : decode cd_Row_addWord 1 = .ok (.istore_n 2, 1) := by decide +kernel
theorem d_Row_addWord_2 : decode cd_Row_addWord 2 = .ok (.iload_n 2, 1) := by decide +kernel
theorem d_Row_addWord_3 : decode cd_Row_addWord 3 = .ok (.aload_n 1, 1) := by decide +kernel
theorem d_Row_addWord_4 : decode cd_Row_addWord 4 = .ok (.invokevirtual 31, 3) := by decide +kernel
theorem d_Row_addWord_7 : decode cd_Row_addWord 7 = .ok (.if_icmp .ge 18, 3) := by decide +kernel
theorem d_Row_addWord_10 : decode cd_Row_addWord 10 = .ok (.aload_n 0, 1) := by decide +kernel
theorem d_Row_addWord_11 : decode cd_Row_addWord 11 = .ok (.aload_n 1, 1) := by decide +kernel
theorem d_Row_addWord_12 : decode cd_Row_addWord 12 = .ok (.iload_n 2, 1) := by decide +kernel
theorem d_Row_addWord_13 : decode cd_Row_addWord 13 = .ok (.invokevirtual 37, 3) := by decide +kernel
theorem d_Row_addWord_16 : decode cd_Row_addWord 16 = .ok (.invokevirtual 27, 3) := by decide +kernel
theorem d_Row_addWord_19 : decode cd_Row_addWord 19 = .ok (.iinc 2 1, 3) := by decide +kernel
theorem d_Row_addWord_22 : decode cd_Row_addWord 22 = .ok (.goto (-20), 3) := by decide +kernel
theorem d_Row_addWord_25 : decode cd_Row_addWord 25 = .ok (.return_, 1) := by decide +kernel
theorem m_70 : Cond.methodLink R_Row 31 y_String_length ∈ gw := gm (i := 637) (by decide +kernel) (by decide +kernel)
theorem m_71 : Cond.methodLink R_Row 37 y_String_charAt ∈ gw := gm (i := 638) (by decide +kernel) (by decide +kernel)
theorem m_72 : Cond.instanceMethod y_String_charAt ∈ gw := gm (i := 639) (by decide +kernel) (by decide +kernel)
theorem m_73 : Cond.selects R_String y_String_charAt y_String_charAt ∈ gw := gm (i := 640) (by decide +kernel) (by decide +kernel)
set_option maxRecDepth 100000 in
theorem m_74 : Cond.code y_String_charAt cd_String_charAt 2 (some .char) ∈ gw := gm (i := 641) rfl rfl
def b_Row_addWord_2 (nt_cells : Nat) (a1 : Nat)  (rec_2 : (Int32 × Int32 × Int32 × (Nat → Int32)) → Option (Int32 × Int32 × (Nat → Int32))) (z2 : Int32 × Int32 × Int32 × (Nat → Int32)) : Option (Int32 × Int32 × (Nat → Int32)) :=
  ((f_String_length a1).bind fun u_4 => (if u_4 ≤ z2.1 then some (z2.2.1, z2.2.2.1, z2.2.2.2) else ((f_String_charAt a1 z2.1).bind fun u_13 => ((f_Row_add nt_cells z2.2.2.2 z2.2.1 z2.2.2.1 u_13).bind fun u_16 => rec_2 ((z2.1 + 1), u_16.1, u_16.2.1, u_16.2.2)))))
def f_Row_addWord (K : Nat) (nt_cells : Nat) (t_cells : Nat → Int32) (t_used : Int32) (t_burst : Int32) (a1 : Nat) : Option (Int32 × Int32 × (Nat → Int32)) :=
  lp_ (b_Row_addWord_2 nt_cells a1 ) K ((0 : Int32), t_used, t_burst, t_cells)
set_option maxHeartbeats 4000000 in
set_option maxRecDepth 100000 in
theorem c_Row_addWord (l : Launch) (G : Gt) (K : Nat) (qt : Nat) (qt_cells : Nat) (nt_cells : Nat) (t_cells : Nat → Int32) (t_used : Int32) (t_burst : Int32) (a1 : Nat) (sz : Nat) (res : Int32 × Int32 × (Nat → Int32))  (hr_a1 : a1 < nS) (hf : f_Row_addWord K nt_cells t_cells t_used t_burst a1 = some res) : Met l y_Row_addWord (.code y_Row_addWord cd_Row_addWord 3 none :: gw) { frames := 4, cells := 0, slots := 0, locals := 160 } (PC G ([.ref qt, .ref (gT G a1)] : List Value) sz (w_Row_empty G qt qt_cells nt_cells t_cells t_used t_burst)) (QV G (va_A (w_Row_empty G qt qt_cells nt_cells t_cells t_used t_burst) sz) (w_Row_empty G qt qt_cells nt_cells res.2.2 res.1 res.2.1)) 0 0 (va_A (w_Row_empty G qt qt_cells nt_cells t_cells t_used t_burst) sz) := by
  refine Met.ofW (cc := cd_Row_addWord) (maxL := 3) (ret := none) (by decide) rfl ?_
  intro p e s m args below meth c s₁ B hml hv
  obtain ⟨rfl, hsz, hP, hE, hD0⟩ := hv
  have hx := B.exec
  have hb := B.bytes
  have hr := B.returns
  have hts := atoms_spec (ws := (.code y_Row_addWord cd_Row_addWord 3 none :: gw)) B.pre
  have hg : ∀ w ∈ gw, w.before _ s = true := fun w h => hts w (List.mem_cons_of_mem _ h)
  have hown : s.vm.findClass R_Row = some m.cls := findClass_of_methodNamed B.named
  have hlocks := B.notSynchronized
  subst hsz
  have hK := hE.K
  have hD := hD0.self (sz := s.heap.size)
  have hAb := hE.ab hD0
  obtain ⟨Q, hQ⟩ : ∃ Q, MQ below (QV G (va_A (w_Row_empty G qt qt_cells nt_cells t_cells t_used t_burst) s.heap.size) (w_Row_empty G qt qt_cells nt_cells res.2.2 res.1 res.2.1)) ([.ref qt, .ref (gT G a1)] : List Value).toArray s 0 0 (va_A (w_Row_empty G qt qt_cells nt_cells t_cells t_used t_burst) s.heap.size) = Q := ⟨_, rfl⟩
  show W p l e { frames := 4, cells := 0, slots := 0, locals := 160 } s m ([.ref qt, .ref (gT G a1)] : List Value).toArray below meth c s.heap [] 0 0 (MQ below (QV G (va_A (w_Row_empty G qt qt_cells nt_cells t_cells t_used t_burst) s.heap.size) (w_Row_empty G qt qt_cells nt_cells res.2.2 res.1 res.2.1)) ([.ref qt, .ref (gT G a1)] : List Value).toArray s 0 0 (va_A (w_Row_empty G qt qt_cells nt_cells t_cells t_used t_burst) s.heap.size)) _
  rw [hQ]
  have hA : ∀ q : Nat, s.heap.size ≤ q → va_A (w_Row_empty G qt qt_cells nt_cells t_cells t_used t_burst) s.heap.size q := fun q h => Or.inr h
  obtain ⟨A, hAe⟩ : ∃ A, va_A (w_Row_empty G qt qt_cells nt_cells t_cells t_used t_burst) s.heap.size = A := ⟨_, rfl⟩
  rw [hAe] at hA hD hAb hQ
  have hS : va_S A s.heap s.heap [] := va_S.rf
  have hl := lv_entry (([.ref qt, .ref (gT G a1)] : List Value)) (n := 3) (Nat.le_of_ble_eq_true rfl)
  rw [lg_entry_eq]
  generalize (lg_sl (([.ref qt, .ref (gT G a1)] : List Value)) ++ List.replicate (3 - (lg_sl (([.ref qt, .ref (gT G a1)] : List Value))).length) Slot.unset).toArray = ls at hl ⊢
  have hl : lv_has ls 3 [(0, .ref qt), (1, .ref (gT G a1))] := hl
  have W_2 : ∀   (n_2 : Nat) (z2 : Int32 × Int32 × Int32 × (Nat → Int32)) , lp_ (b_Row_addWord_2 nt_cells a1 ) n_2 z2 = some res → ∀ (H : Heap) (locs : List Loc) (ls : Array Slot), va_P (gD G) vwCl (w_Row_empty G qt qt_cells nt_cells z2.2.2.2 z2.2.1 z2.2.2.1) H → va_D A (w_Row_empty G qt qt_cells nt_cells z2.2.2.2 z2.2.1 z2.2.2.1) → va_S A s.heap H locs → lv_has ls 3 [(0, .ref qt), (1, .ref (gT G a1)), (2, .int z2.1)] → W p l e { frames := 4, cells := 0, slots := 0, locals := 160 } s m ([.ref qt, .ref (gT G a1)] : List Value).toArray below meth c H locs 0 0 Q (F0 m 2 ls []) := by
    intro  n_2
    induction n_2 with
    | zero =>
      intro z2  hf
      cases hf
    | succ n_2 ih_2 =>
      intro z2  hf H locs ls hP hD hS hl
      have hf : b_Row_addWord_2 nt_cells a1  (lp_ (b_Row_addWord_2 nt_cells a1 ) n_2) z2 = some res := hf
      generalize lp_ (b_Row_addWord_2 nt_cells a1 ) n_2 = rec_2 at hf ih_2
      unfold b_Row_addWord_2 at hf
      refine lv_iload_n hx hb d_Row_addWord_2 rfl (lv_at hl 2 rfl) ?_
      refine lv_aload_n hx hb d_Row_addWord_3 rfl (lv_at hl 1 rfl) ?_
      obtain ⟨u_4, hu_4, hf⟩ := bd_ hf
      refine CALLi (va_runV (As := []) (rest := [.int z2.1]) ⟨hx, hb, hml, hown, hg⟩ (c_String_length l G K a1 _ u_4 hr_a1 hu_4) (cwV 0 hg (gV m_70 m_38 m_39 m_21 m_40) rfl rfl rfl (by decide +kernel) ⟨Nat.le_of_ble_eq_true rfl, Nat.le_of_ble_eq_true rfl⟩) ⟨PC_b, vk_recv (hE.vs hAb) hr_a1 hS, PC_p hE hS hAb (hP.sub [] rfl) (hD.sub [] (by decide) rfl)⟩ rfl rfl hl.1 rfl (lv_room (Nat.le_of_ble_eq_true rfl)) d_Row_addWord_4 ⟨Nat.zero_le _, Nat.zero_le _⟩) hP hD hS hA [] rfl rfl rfl (fun H locs hP hD hS => ?_)
      have hP : va_P (gD G) vwCl (w_Row_empty G qt qt_cells nt_cells z2.2.2.2 z2.2.1 z2.2.2.1) H := hP
      have hD : va_D A (w_Row_empty G qt qt_cells nt_cells z2.2.2.2 z2.2.1 z2.2.2.1) := hD
      refine lv_icmp_ge (tgt := 25) hx hb d_Row_addWord_7 (by decide) (fun c_7 => ?_) (fun c_7 => ?_)
      · have hf := ip_ c_7 hf
        obtain rfl := Option.some.inj hf
        rw [← hQ]
        exact W.vret hx hb hr (fun t9 ht hW => ⟨⟨(), rfl, trivial, ⟨by rw [ht]; exact hP, hD⟩⟩, hS.F ht⟩) hS.2.2 d_Row_addWord_25
      · have hf := in_ c_7 hf
        refine lv_aload_n hx hb d_Row_addWord_10 rfl (lv_at hl 0 rfl) ?_
        refine lv_aload_n hx hb d_Row_addWord_11 rfl (lv_at hl 1 rfl) ?_
        refine lv_iload_n hx hb d_Row_addWord_12 rfl (lv_at hl 2 rfl) ?_
        obtain ⟨u_13, hu_13, hf⟩ := bd_ hf
        refine CALLi (va_runV (As := [.int z2.1]) (rest := [.ref qt]) ⟨hx, hb, hml, hown, hg⟩ (c_String_charAt l G K a1 z2.1 _ u_13 hr_a1 hu_13) (cwV 1 hg (gV m_71 m_72 m_73 m_21 m_74) rfl rfl rfl (by decide +kernel) ⟨Nat.le_of_ble_eq_true rfl, Nat.le_of_ble_eq_true rfl⟩) ⟨PC_b, vk_recv (hE.vs hAb) hr_a1 hS, PC_p hE hS hAb (hP.sub [] rfl) (hD.sub [] (by decide) rfl)⟩ rfl rfl hl.1 rfl (lv_room (Nat.le_of_ble_eq_true rfl)) d_Row_addWord_13 ⟨Nat.zero_le _, Nat.zero_le _⟩) hP hD hS hA [] rfl rfl rfl (fun H locs hP hD hS => ?_)
        have hP : va_P (gD G) vwCl (w_Row_empty G qt qt_cells nt_cells z2.2.2.2 z2.2.1 z2.2.2.1) H := hP
        have hD : va_D A (w_Row_empty G qt qt_cells nt_cells z2.2.2.2 z2.2.1 z2.2.2.1) := hD
        obtain ⟨u_16, hu_16, hf⟩ := bd_ hf
        refine CALLWv (va_runV (As := [.int u_13]) (rest := []) ⟨hx, hb, hml, hown, hg⟩ (c_Row_add l G K qt qt_cells nt_cells z2.2.2.2 z2.2.1 z2.2.2.1 u_13 _ u_16  hu_16) (cwV 1 hg (gV m_57 m_58 m_59 m_60 m_61) rfl rfl rfl (by decide +kernel) ⟨Nat.le_of_ble_eq_true rfl, Nat.le_of_ble_eq_true rfl⟩) ⟨PC_b, va_recv hK hP (ci := 4) (q0 := 0) rfl rfl, PC_p hE hS hAb hP hD⟩ rfl rfl hl.1 rfl (lv_room (Nat.le_of_ble_eq_true rfl)) d_Row_addWord_16 ⟨Nat.zero_le _, Nat.zero_le _⟩) hP hD hS hA (fun H locs hP hD hS => ?_)
        have hP : va_P (gD G) vwCl (w_Row_empty G qt qt_cells nt_cells u_16.2.2 u_16.1 u_16.2.1) H := hP
        have hD : va_D A (w_Row_empty G qt qt_cells nt_cells u_16.2.2 u_16.1 u_16.2.1) := hD
        refine lv_iinc (v := (z2.1 + 1)) (lv' := [(2, .int (z2.1 + 1)), (0, .ref qt), (1, .ref (gT G a1))]) hx hb d_Row_addWord_19 hl (k := 2) rfl rfl (by decide) rfl (fun ls hl => ?_)
        refine lv_goto (tgt := 2) hx hb d_Row_addWord_22 (by decide) ?_
        exact ih_2 ((z2.1 + 1), u_16.1, u_16.2.1, u_16.2.2)  hf _ _ _ hP hD hS (lv_sub hl [1, 2, 0] rfl)
  unfold f_Row_addWord at hf
  refine lv_iconst (v := 0) hx hb d_Row_addWord_0 (by decide) ?_
  refine lv_istore_n (lv' := [(2, .int (0 : Int32)), (0, .ref qt), (1, .ref (gT G a1))]) hx hb d_Row_addWord_1 rfl hl (by decide) rfl (fun ls hl => ?_)
  exact W_2   K ((0 : Int32), t_used, t_burst, t_cells)  hf _ _ _ hP hD hS (lv_sub hl [1, 2, 0] rfl)
