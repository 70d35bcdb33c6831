theorem d_Digits_isZero_0 : decode cd_Digits_isZero 0 = .ok (.aload_n 0, 1) := by decide +kernel
theorem d_Digits_isZero_1 : decode cd_Digits_isZero 1 = .ok (.getfield 42, 3) := by decide +kernel
theorem d_Digits_isZero_4 : decode cd_Digits_isZero 4 = .ok (.ifCond .ne 7, 3) := by decide +kernel
theorem d_Digits_isZero_7 : decode cd_Digits_isZero 7 = .ok (.iconst 1, 1) := by decide +kernel
theorem d_Digits_isZero_8 : decode cd_Digits_isZero 8 = .ok (.goto 4, 3) := by decide +kernel
theorem d_Digits_isZero_11 : decode cd_Digits_isZero 11 = .ok (.iconst 0, 1) := by decide +kernel
theorem d_Digits_isZero_12 : decode cd_Digits_isZero 12 = .ok (.ireturn, 1) := by decide +kernel
theorem m_173 : Cond.fieldLink R_Digits 42 "SpecifierDesk$Digits" "used" "I" ∈ gw := gm (i := 192) (by decide +kernel) (by decide +kernel)
def f_Digits_isZero (t_used : Int32) : Option Int32 :=
  (if t_used = 0 then some (1 : Int32) else some (0 : Int32))
abbrev w_Digits_isZero (G : Gt) (qt : Nat) (qt_limbs : Nat) (t_limbs : Nat → Int32) (qt_cells : Nat) (t_cells : Nat → Int32) (t_used : Int32) (t_lowest : Int32) : va_W := [(qt, .inr (2, [.ref qt_limbs, .ref qt_cells, .int t_used, .int t_lowest])), (qt_limbs, .inl (gC G 1, 16, .inl t_limbs)), (qt_cells, .inl (gC G 0, 208, .inl t_cells))]
set_option maxHeartbeats 4000000 in
set_option maxRecDepth 100000 in
theorem c_Digits_isZero (l : Launch) (G : Gt) (K : Nat) (qt : Nat) (qt_limbs : Nat) (t_limbs : Nat → Int32) (qt_cells : Nat) (t_cells : Nat → Int32) (t_used : Int32) (t_lowest : Int32) (sz : Nat) (res : Int32)   (hf : f_Digits_isZero t_used = some res) : Met l y_Digits_isZero (.code y_Digits_isZero cd_Digits_isZero 1 (some .boolean) :: gw) { frames := 0, cells := 0, slots := 0, locals := 0 } (PC G ([.ref qt] : List Value) sz (w_Digits_isZero G qt qt_limbs t_limbs qt_cells t_cells t_used t_lowest)) (QZ G res (va_A (w_Digits_isZero G qt qt_limbs t_limbs qt_cells t_cells t_used t_lowest) sz) (w_Digits_isZero G qt qt_limbs t_limbs qt_cells t_cells t_used t_lowest)) 0 0 (va_A (w_Digits_isZero G qt qt_limbs t_limbs qt_cells t_cells t_used t_lowest) sz) := by
  refine Met.ofW (cc := cd_Digits_isZero) (maxL := 1) (ret := (some .boolean)) (by decide) rfl ?_
  intro p e s m args below meth c s₁ B hml hv
  obtain ⟨rfl, hsz, hP, hE, hD0⟩ := hv
  have hx := B.exec
  have hb := B.bytes
  have hr := B.returns
  have hts := atoms_spec (ws := (.code y_Digits_isZero cd_Digits_isZero 1 (some .boolean) :: gw)) B.pre
  have hg : ∀ w ∈ gw, w.before _ s = true := fun w h => hts w (List.mem_cons_of_mem _ h)
  have hown : s.vm.findClass R_Digits = some m.cls := findClass_of_methodNamed B.named
  have hlocks := B.notSynchronized
  subst hsz
  have hK := hE.K
  have hD := hD0.self (sz := s.heap.size)
  have hAb := hE.ab hD0
  obtain ⟨Q, hQ⟩ : ∃ Q, MQ below (QZ G res (va_A (w_Digits_isZero G qt qt_limbs t_limbs qt_cells t_cells t_used t_lowest) s.heap.size) (w_Digits_isZero G qt qt_limbs t_limbs qt_cells t_cells t_used t_lowest)) ([.ref qt] : List Value).toArray s 0 0 (va_A (w_Digits_isZero G qt qt_limbs t_limbs qt_cells t_cells t_used t_lowest) s.heap.size) = Q := ⟨_, rfl⟩
  show W p l e { frames := 0, cells := 0, slots := 0, locals := 0 } s m ([.ref qt] : List Value).toArray below meth c s.heap [] 0 0 (MQ below (QZ G res (va_A (w_Digits_isZero G qt qt_limbs t_limbs qt_cells t_cells t_used t_lowest) s.heap.size) (w_Digits_isZero G qt qt_limbs t_limbs qt_cells t_cells t_used t_lowest)) ([.ref qt] : List Value).toArray s 0 0 (va_A (w_Digits_isZero G qt qt_limbs t_limbs qt_cells t_cells t_used t_lowest) s.heap.size)) _
  rw [hQ]
  have hA : ∀ q : Nat, s.heap.size ≤ q → va_A (w_Digits_isZero G qt qt_limbs t_limbs qt_cells t_cells t_used t_lowest) s.heap.size q := fun q h => Or.inr h
  obtain ⟨A, hAe⟩ : ∃ A, va_A (w_Digits_isZero G qt qt_limbs t_limbs qt_cells t_cells t_used t_lowest) s.heap.size = A := ⟨_, rfl⟩
  rw [hAe] at hA hD hAb hQ
  have hS : va_S A s.heap s.heap [] := va_S.rf
  have hl := lv_entry (([.ref qt] : List Value)) (n := 1) (Nat.le_of_ble_eq_true rfl)
  rw [lg_entry_eq]
  generalize (lg_sl (([.ref qt] : List Value)) ++ List.replicate (1 - (lg_sl (([.ref qt] : List Value))).length) Slot.unset).toArray = ls at hl ⊢
  have hl : lv_has ls 1 [(0, .ref qt)] := hl
  unfold f_Digits_isZero at hf
  refine lv_aload_n hx hb d_Digits_isZero_0 rfl (lv_at hl 0 rfl) ?_
  refine va_get (D := gD G) (ci := 2) (v := .int t_used) (C := R_Digits) (T := F_Digits) (N := 4) hx hb hg in_Digits hown hK hP 0 rfl rfl 2 (by decide) (hg _ m_173) (fun _ h9 => h9) rfl d_Digits_isZero_1 ?_
  refine lv_if_ne (tgt := 11) hx hb d_Digits_isZero_4 (by decide) (fun c_4 => ?_) (fun c_4 => ?_)
  · have hf := in_ c_4 hf
    refine lv_iconst (v := 0) hx hb d_Digits_isZero_11 (by decide) ?_
    obtain rfl := Option.some.inj hf
    rw [← hQ]
    exact W.zret (v := (0 : Int32)) hx hb hr (bl_n bl_0) (fun t9 ht hW => ⟨⟨(0 : Int32), (), rfl, ⟨rfl, bl_0⟩, ⟨by rw [ht]; exact hP, hD⟩⟩, hS.F ht⟩) hS.2.2 d_Digits_isZero_12
  · have hf := ip_ c_4 hf
    refine lv_iconst (v := 1) hx hb d_Digits_isZero_7 (by decide) ?_
    refine lv_goto (tgt := 12) hx hb d_Digits_isZero_8 (by decide) ?_
    obtain rfl := Option.some.inj hf
    rw [← hQ]
    exact W.zret (v := (1 : Int32)) hx hb hr (bl_n bl_1) (fun t9 ht hW => ⟨⟨(1 : Int32), (), rfl, ⟨rfl, bl_1⟩, ⟨by rw [ht]; exact hP, hD⟩⟩, hS.F ht⟩) hS.2.2 d_Digits_isZero_12
theorem d_Digits_first_0 : decode cd_Digits_first 0 = .ok (.aload_n 0, 1) := by decide +kernel
theorem d_Digits_first_1 : decode cd_Digits_first 1 = .ok (.getfield 42, 3) := by decide +kernel
theorem d_Digits_first_4 : decode cd_Digits_first 4 = .ok (.ifCond .ne 7, 3) := by decide +kernel
theorem d_Digits_first_7 : decode cd_Digits_first 7 = .ok (.iconst 0, 1) := by decide +kernel
theorem d_Digits_first_8 : decode cd_Digits_first 8 = .ok (.goto 14, 3) := by decide +kernel
theorem d_Digits_first_11 : decode cd_Digits_first 11 = .ok (.aload_n 0, 1) := by decide +kernel
theorem d_Digits_first_12 : decode cd_Digits_first 12 = .ok (.getfield 35, 3) := by decide +kernel
theorem d_Digits_first_15 : decode cd_Digits_first 15 = .ok (.aload_n 0, 1) := by decide +kernel
theorem d_Digits_first_16 : decode cd_Digits_first 16 = .ok (.getfield 42, 3) := by decide +kernel
theorem d_Digits_first_19 : decode cd_Digits_first 19 = .ok (.iadd, 1) := by decide +kernel
theorem d_Digits_first_20 : decode cd_Digits_first 20 = .ok (.iconst 1, 1) := by decide +kernel
theorem d_Digits_first_21 : decode cd_Digits_first 21 = .ok (.isub, 1) := by decide +kernel
theorem d_Digits_first_22 : decode cd_Digits_first 22 = .ok (.ireturn, 1) := by decide +kernel
theorem m_174 : Cond.fieldLink R_Digits 35 "SpecifierDesk$Digits" "lowest" "I" ∈ gw := gm (i := 193) (by decide +kernel) (by decide +kernel)
def f_Digits_first (t_used : Int32) (t_lowest : Int32) : Option Int32 :=
  (if t_used = 0 then some (0 : Int32) else some ((t_lowest + t_used) - (1 : Int32)))
set_option maxHeartbeats 4000000 in
set_option maxRecDepth 100000 in
theorem c_Digits_first (l : Launch) (G : Gt) (K : Nat) (qt : Nat) (qt_limbs : Nat) (t_limbs : Nat → Int32) (qt_cells : Nat) (t_cells : Nat → Int32) (t_used : Int32) (t_lowest : Int32) (sz : Nat) (res : Int32)   (hf : f_Digits_first t_used t_lowest = some res) : Met l y_Digits_first (.code y_Digits_first cd_Digits_first 1 (some .int) :: gw) { frames := 0, cells := 0, slots := 0, locals := 0 } (PC G ([.ref qt] : List Value) sz (w_Digits_isZero G qt qt_limbs t_limbs qt_cells t_cells t_used t_lowest)) (QI G res (va_A (w_Digits_isZero G qt qt_limbs t_limbs qt_cells t_cells t_used t_lowest) sz) (w_Digits_isZero G qt qt_limbs t_limbs qt_cells t_cells t_used t_lowest)) 0 0 (va_A (w_Digits_isZero G qt qt_limbs t_limbs qt_cells t_cells t_used t_lowest) sz) := by
  refine Met.ofW (cc := cd_Digits_first) (maxL := 1) (ret := (some .int)) (by decide) rfl ?_
  intro p e s m args below meth c s₁ B hml hv
  obtain ⟨rfl, hsz, hP, hE, hD0⟩ := hv
  have hx := B.exec
  have hb := B.bytes
  have hr := B.returns
  have hts := atoms_spec (ws := (.code y_Digits_first cd_Digits_first 1 (some .int) :: gw)) B.pre
  have hg : ∀ w ∈ gw, w.before _ s = true := fun w h => hts w (List.mem_cons_of_mem _ h)
  have hown : s.vm.findClass R_Digits = some m.cls := findClass_of_methodNamed B.named
  have hlocks := B.notSynchronized
  subst hsz
  have hK := hE.K
  have hD := hD0.self (sz := s.heap.size)
  have hAb := hE.ab hD0
  obtain ⟨Q, hQ⟩ : ∃ Q, MQ below (QI G res (va_A (w_Digits_isZero G qt qt_limbs t_limbs qt_cells t_cells t_used t_lowest) s.heap.size) (w_Digits_isZero G qt qt_limbs t_limbs qt_cells t_cells t_used t_lowest)) ([.ref qt] : List Value).toArray s 0 0 (va_A (w_Digits_isZero G qt qt_limbs t_limbs qt_cells t_cells t_used t_lowest) s.heap.size) = Q := ⟨_, rfl⟩
  show W p l e { frames := 0, cells := 0, slots := 0, locals := 0 } s m ([.ref qt] : List Value).toArray below meth c s.heap [] 0 0 (MQ below (QI G res (va_A (w_Digits_isZero G qt qt_limbs t_limbs qt_cells t_cells t_used t_lowest) s.heap.size) (w_Digits_isZero G qt qt_limbs t_limbs qt_cells t_cells t_used t_lowest)) ([.ref qt] : List Value).toArray s 0 0 (va_A (w_Digits_isZero G qt qt_limbs t_limbs qt_cells t_cells t_used t_lowest) s.heap.size)) _
  rw [hQ]
  have hA : ∀ q : Nat, s.heap.size ≤ q → va_A (w_Digits_isZero G qt qt_limbs t_limbs qt_cells t_cells t_used t_lowest) s.heap.size q := fun q h => Or.inr h
  obtain ⟨A, hAe⟩ : ∃ A, va_A (w_Digits_isZero G qt qt_limbs t_limbs qt_cells t_cells t_used t_lowest) s.heap.size = A := ⟨_, rfl⟩
  rw [hAe] at hA hD hAb hQ
  have hS : va_S A s.heap s.heap [] := va_S.rf
  have hl := lv_entry (([.ref qt] : List Value)) (n := 1) (Nat.le_of_ble_eq_true rfl)
  rw [lg_entry_eq]
  generalize (lg_sl (([.ref qt] : List Value)) ++ List.replicate (1 - (lg_sl (([.ref qt] : List Value))).length) Slot.unset).toArray = ls at hl ⊢
  have hl : lv_has ls 1 [(0, .ref qt)] := hl
  unfold f_Digits_first at hf
  refine lv_aload_n hx hb d_Digits_first_0 rfl (lv_at hl 0 rfl) ?_
  refine va_get (D := gD G) (ci := 2) (v := .int t_used) (C := R_Digits) (T := F_Digits) (N := 4) hx hb hg in_Digits hown hK hP 0 rfl rfl 2 (by decide) (hg _ m_173) (fun _ h9 => h9) rfl d_Digits_first_1 ?_
  refine lv_if_ne (tgt := 11) hx hb d_Digits_first_4 (by decide) (fun c_4 => ?_) (fun c_4 => ?_)
  · have hf := in_ c_4 hf
    refine lv_aload_n hx hb d_Digits_first_11 rfl (lv_at hl 0 rfl) ?_
    refine va_get (D := gD G) (ci := 2) (v := .int t_lowest) (C := R_Digits) (T := F_Digits) (N := 4) hx hb hg in_Digits hown hK hP 0 rfl rfl 3 (by decide) (hg _ m_174) (fun _ h9 => h9) rfl d_Digits_first_12 ?_
    refine lv_aload_n hx hb d_Digits_first_15 rfl (lv_at hl 0 rfl) ?_
    refine va_get (D := gD G) (ci := 2) (v := .int t_used) (C := R_Digits) (T := F_Digits) (N := 4) hx hb hg in_Digits hown hK hP 0 rfl rfl 2 (by decide) (hg _ m_173) (fun _ h9 => h9) rfl d_Digits_first_16 ?_
    refine lv_iadd hx hb d_Digits_first_19 ?_
    refine lv_iconst (v := 1) hx hb d_Digits_first_20 (by decide) ?_
    refine lv_isub hx hb d_Digits_first_21 ?_
    obtain rfl := Option.some.inj hf
    rw [← hQ]
    exact W.iret (v := ((t_lowest + t_used) - (1 : Int32))) hx hb hr (fun t9 ht hW => ⟨⟨((t_lowest + t_used) - (1 : Int32)), (), rfl, rfl, ⟨by rw [ht]; exact hP, hD⟩⟩, hS.F ht⟩) hS.2.2 d_Digits_first_22
  · have hf := ip_ c_4 hf
    refine lv_iconst (v := 0) hx hb d_Digits_first_7 (by decide) ?_
    refine lv_goto (tgt := 22) hx hb d_Digits_first_8 (by decide) ?_
    obtain rfl := Option.some.inj hf
    rw [← hQ]
    exact W.iret (v := (0 : Int32)) hx hb hr (fun t9 ht hW => ⟨⟨(0 : Int32), (), rfl, rfl, ⟨by rw [ht]; exact hP, hD⟩⟩, hS.F ht⟩) hS.2.2 d_Digits_first_22
theorem d_Digits_lastNotZero_0 : decode cd_Digits_lastNotZero 0 = .ok (.iconst 0, 1) := by decide +kernel
theorem d_Digits_lastNotZero_1 : decode cd_Digits_lastNotZero 1 = .ok (.istore_n 1, 1) := by decide +kernel
theorem d_Digits_lastNotZero_2 : decode cd_Digits_lastNotZero 2 = .ok (.iload_n 1, 1) := by decide +kernel
theorem d_Digits_lastNotZero_3 : decode cd_Digits_lastNotZero 3 = .ok (.aload_n 0, 1) := by decide +kernel
theorem d_Digits_lastNotZero_4 : decode cd_Digits_lastNotZero 4 = .ok (.getfield 42, 3) := by decide +kernel
theorem d_Digits_lastNotZero_7 : decode cd_Digits_lastNotZero 7 = .ok (.if_icmp .ge 25, 3) := by decide +kernel
theorem d_Digits_lastNotZero_10 : decode cd_Digits_lastNotZero 10 = .ok (.aload_n 0, 1) := by decide +kernel
theorem d_Digits_lastNotZero_11 : decode cd_Digits_lastNotZero 11 = .ok (.getfield 13, 3) := by decide +kernel
theorem d_Digits_lastNotZero_14 : decode cd_Digits_lastNotZero 14 = .ok (.iload_n 1, 1) := by decide +kernel
theorem d_Digits_lastNotZero_15 : decode cd_Digits_lastNotZero 15 = .ok (.baload, 1) := by decide +kernel
theorem d_Digits_lastNotZero_16 : decode cd_Digits_lastNotZero 16 = .ok (.ifCond .eq 10, 3) := by decide +kernel
theorem d_Digits_lastNotZero_19 : decode cd_Digits_lastNotZero 19 = .ok (.aload_n 0, 1) := by decide +kernel
theorem d_Digits_lastNotZero_20 : decode cd_Digits_lastNotZero 20 = .ok (.getfield 35, 3) := by decide +kernel
theorem d_Digits_lastNotZero_23 : decode cd_Digits_lastNotZero 23 = .ok (.iload_n 1, 1) := by decide +kernel
theorem d_Digits_lastNotZero_24 : decode cd_Digits_lastNotZero 24 = .ok (.iadd, 1) := by decide +kernel
theorem d_Digits_lastNotZero_25 : decode cd_Digits_lastNotZero 25 = .ok (.ireturn, 1) := by decide +kernel
theorem d_Digits_lastNotZero_26 : decode cd_Digits_lastNotZero 26 = .ok (.iinc 1 1, 3) := by decide +kernel
theorem d_Digits_lastNotZero_29 : decode cd_Digits_lastNotZero 29 = .ok (.goto (-27), 3) := by decide +kernel
theorem d_Digits_lastNotZero_32 : decode cd_Digits_lastNotZero 32 = .ok (.iconst 0, 1) := by decide +kernel
theorem d_Digits_lastNotZero_33 : decode cd_Digits_lastNotZero 33 = .ok (.ireturn, 1) := by decide +kernel
theorem m_175 : Cond.fieldLink R_Digits 13 "SpecifierDesk$Digits" "cells" "[B" ∈ gw := gm (i := 191) (by decide +kernel) (by decide +kernel)
def b_Digits_lastNotZero_2 (t_cells : Nat → Int32) (t_used : Int32) (t_lowest : Int32)  (rec_2 : Int32 → Option Int32) (z2 : Int32) : Option Int32 :=
  (if t_used ≤ z2 then some (0 : Int32) else (if inB z2 208 = true then (if (t_cells z2.toNatClampNeg) = 0 then rec_2 (z2 + 1) else some (t_lowest + z2)) else none))
def f_Digits_lastNotZero (K : Nat) (t_cells : Nat → Int32) (t_used : Int32) (t_lowest : Int32) : Option Int32 :=
  lp_ (b_Digits_lastNotZero_2 t_cells t_used t_lowest ) K (0 : Int32)
set_option maxHeartbeats 4000000 in
set_option maxRecDepth 100000 in
theorem c_Digits_lastNotZero (l : Launch) (G : Gt) (K : Nat) (qt : Nat) (qt_limbs : Nat) (t_limbs : Nat → Int32) (qt_cells : Nat) (t_cells : Nat → Int32) (t_used : Int32) (t_lowest : Int32) (sz : Nat) (res : Int32)   (hf : f_Digits_lastNotZero K t_cells t_used t_lowest = some res) : Met l y_Digits_lastNotZero (.code y_Digits_lastNotZero cd_Digits_lastNotZero 2 (some .int) :: gw) { frames := 0, cells := 0, slots := 0, locals := 0 } (PC G ([.ref qt] : List Value) sz (w_Digits_isZero G qt qt_limbs t_limbs qt_cells t_cells t_used t_lowest)) (QI G res (va_A (w_Digits_isZero G qt qt_limbs t_limbs qt_cells t_cells t_used t_lowest) sz) (w_Digits_isZero G qt qt_limbs t_limbs qt_cells t_cells t_used t_lowest)) 0 0 (va_A (w_Digits_isZero G qt qt_limbs t_limbs qt_cells t_cells t_used t_lowest) sz) := by
  refine Met.ofW (cc := cd_Digits_lastNotZero) (maxL := 2) (ret := (some .int)) (by decide) rfl ?_
  intro p e s m args below meth c s₁ B hml hv
  obtain ⟨rfl, hsz, hP, hE, hD0⟩ := hv
  have hx := B.exec
  have hb := B.bytes
  have hr := B.returns
  have hts := atoms_spec (ws := (.code y_Digits_lastNotZero cd_Digits_lastNotZero 2 (some .int) :: gw)) B.pre
  have hg : ∀ w ∈ gw, w.before _ s = true := fun w h => hts w (List.mem_cons_of_mem _ h)
  have hown : s.vm.findClass R_Digits = some m.cls := findClass_of_methodNamed B.named
  have hlocks := B.notSynchronized
  subst hsz
  have hK := hE.K
  have hD := hD0.self (sz := s.heap.size)
  have hAb := hE.ab hD0
  obtain ⟨Q, hQ⟩ : ∃ Q, MQ below (QI G res (va_A (w_Digits_isZero G qt qt_limbs t_limbs qt_cells t_cells t_used t_lowest) s.heap.size) (w_Digits_isZero G qt qt_limbs t_limbs qt_cells t_cells t_used t_lowest)) ([.ref qt] : List Value).toArray s 0 0 (va_A (w_Digits_isZero G qt qt_limbs t_limbs qt_cells t_cells t_used t_lowest) s.heap.size) = Q := ⟨_, rfl⟩
  show W p l e { frames := 0, cells := 0, slots := 0, locals := 0 } s m ([.ref qt] : List Value).toArray below meth c s.heap [] 0 0 (MQ below (QI G res (va_A (w_Digits_isZero G qt qt_limbs t_limbs qt_cells t_cells t_used t_lowest) s.heap.size) (w_Digits_isZero G qt qt_limbs t_limbs qt_cells t_cells t_used t_lowest)) ([.ref qt] : List Value).toArray s 0 0 (va_A (w_Digits_isZero G qt qt_limbs t_limbs qt_cells t_cells t_used t_lowest) s.heap.size)) _
  rw [hQ]
  have hA : ∀ q : Nat, s.heap.size ≤ q → va_A (w_Digits_isZero G qt qt_limbs t_limbs qt_cells t_cells t_used t_lowest) s.heap.size q := fun q h => Or.inr h
  obtain ⟨A, hAe⟩ : ∃ A, va_A (w_Digits_isZero G qt qt_limbs t_limbs qt_cells t_cells t_used t_lowest) s.heap.size = A := ⟨_, rfl⟩
  rw [hAe] at hA hD hAb hQ
  have hS : va_S A s.heap s.heap [] := va_S.rf
  have hl := lv_entry (([.ref qt] : List Value)) (n := 2) (Nat.le_of_ble_eq_true rfl)
  rw [lg_entry_eq]
  generalize (lg_sl (([.ref qt] : List Value)) ++ List.replicate (2 - (lg_sl (([.ref qt] : List Value))).length) Slot.unset).toArray = ls at hl ⊢
  have hl : lv_has ls 2 [(0, .ref qt)] := hl
  have W_2 : ∀   (n_2 : Nat) (z2 : Int32) , lp_ (b_Digits_lastNotZero_2 t_cells t_used t_lowest ) n_2 z2 = some res → ∀ (H : Heap) (locs : List Loc) (ls : Array Slot), va_P (gD G) vwCl (w_Digits_isZero G qt qt_limbs t_limbs qt_cells t_cells t_used t_lowest) H → va_D A (w_Digits_isZero G qt qt_limbs t_limbs qt_cells t_cells t_used t_lowest) → va_S A s.heap H locs → lv_has ls 2 [(0, .ref qt), (1, .int z2)] → W p l e { frames := 0, cells := 0, slots := 0, locals := 0 } s m ([.ref qt] : List Value).toArray below meth c H locs 0 0 Q (F0 m 2 ls []) := by
    intro  n_2
    induction n_2 with
    | zero =>
      intro z2  hf
      cases hf
    | succ n_2 ih_2 =>
      intro z2  hf H locs ls hP hD hS hl
      have hf : b_Digits_lastNotZero_2 t_cells t_used t_lowest  (lp_ (b_Digits_lastNotZero_2 t_cells t_used t_lowest ) n_2) z2 = some res := hf
      generalize lp_ (b_Digits_lastNotZero_2 t_cells t_used t_lowest ) n_2 = rec_2 at hf ih_2
      unfold b_Digits_lastNotZero_2 at hf
      refine lv_iload_n hx hb d_Digits_lastNotZero_2 rfl (lv_at hl 1 rfl) ?_
      refine lv_aload_n hx hb d_Digits_lastNotZero_3 rfl (lv_at hl 0 rfl) ?_
      refine va_get (D := gD G) (ci := 2) (v := .int t_used) (C := R_Digits) (T := F_Digits) (N := 4) hx hb hg in_Digits hown hK hP 0 rfl rfl 2 (by decide) (hg _ m_173) (fun _ h9 => h9) rfl d_Digits_lastNotZero_4 ?_
      refine lv_icmp_ge (tgt := 32) hx hb d_Digits_lastNotZero_7 (by decide) (fun c_7 => ?_) (fun c_7 => ?_)
      · have hf := ip_ c_7 hf
        refine lv_iconst (v := 0) hx hb d_Digits_lastNotZero_32 (by decide) ?_
        obtain rfl := Option.some.inj hf
        rw [← hQ]
        exact W.iret (v := (0 : Int32)) hx hb hr (fun t9 ht hW => ⟨⟨(0 : Int32), (), rfl, rfl, ⟨by rw [ht]; exact hP, hD⟩⟩, hS.F ht⟩) hS.2.2 d_Digits_lastNotZero_33
      · have hf := in_ c_7 hf
        refine lv_aload_n hx hb d_Digits_lastNotZero_10 rfl (lv_at hl 0 rfl) ?_
        refine va_get (D := gD G) (ci := 2) (v := .ref qt_cells) (C := R_Digits) (T := F_Digits) (N := 4) hx hb hg in_Digits hown hK hP 0 rfl rfl 1 (by decide) (hg _ m_175) (fun _ h9 => h9) rfl d_Digits_lastNotZero_11 ?_
        refine lv_iload_n hx hb d_Digits_lastNotZero_14 rfl (lv_at hl 1 rfl) ?_
        obtain ⟨g_15, hf⟩ := gd_ hf
        refine va_bald hx hb hK hP 2 0 rfl rfl (inB_in g_15) d_Digits_lastNotZero_15 ?_
        refine lv_if_eq (tgt := 26) hx hb d_Digits_lastNotZero_16 (by decide) (fun c_16 => ?_) (fun c_16 => ?_)
        · have hf := ip_ c_16 hf
          refine lv_iinc (v := (z2 + 1)) (lv' := [(1, .int (z2 + 1)), (0, .ref qt)]) hx hb d_Digits_lastNotZero_26 hl (k := 1) rfl rfl (by decide) rfl (fun ls hl => ?_)
          refine lv_goto (tgt := 2) hx hb d_Digits_lastNotZero_29 (by decide) ?_
          exact ih_2 (z2 + 1)  hf _ _ _ hP hD hS (lv_sub hl [1, 0] rfl)
        · have hf := in_ c_16 hf
          refine lv_aload_n hx hb d_Digits_lastNotZero_19 rfl (lv_at hl 0 rfl) ?_
          refine va_get (D := gD G) (ci := 2) (v := .int t_lowest) (C := R_Digits) (T := F_Digits) (N := 4) hx hb hg in_Digits hown hK hP 0 rfl rfl 3 (by decide) (hg _ m_174) (fun _ h9 => h9) rfl d_Digits_lastNotZero_20 ?_
          refine lv_iload_n hx hb d_Digits_lastNotZero_23 rfl (lv_at hl 1 rfl) ?_
          refine lv_iadd hx hb d_Digits_lastNotZero_24 ?_
          obtain rfl := Option.some.inj hf
          rw [← hQ]
          exact W.iret (v := (t_lowest + z2)) hx hb hr (fun t9 ht hW => ⟨⟨(t_lowest + z2), (), rfl, rfl, ⟨by rw [ht]; exact hP, hD⟩⟩, hS.F ht⟩) hS.2.2 d_Digits_lastNotZero_25
  unfold f_Digits_lastNotZero at hf
  refine lv_iconst (v := 0) hx hb d_Digits_lastNotZero_0 (by decide) ?_
  refine lv_istore_n (lv' := [(1, .int (0 : Int32)), (0, .ref qt)]) hx hb d_Digits_lastNotZero_1 rfl hl (by decide) rfl (fun ls hl => ?_)
  exact W_2   K (0 : Int32)  hf _ _ _ hP hD hS (lv_sub hl [1, 0] rfl)
theorem d_Digits_at_0 : decode cd_Digits_at 0 = .ok (.iload_n 1, 1) := by decide +kernel
theorem d_Digits_at_1 : decode cd_Digits_at 1 = .ok (.aload_n 0, 1) := by decide +kernel
theorem d_Digits_at_2 : decode cd_Digits_at 2 = .ok (.getfield 35, 3) := by decide +kernel
theorem d_Digits_at_5 : decode cd_Digits_at 5 = .ok (.isub, 1) := by decide +kernel
theorem d_Digits_at_6 : decode cd_Digits_at 6 = .ok (.istore_n 2, 1) := by decide +kernel
theorem d_Digits_at_7 : decode cd_Digits_at 7 = .ok (.iload_n 2, 1) := by decide +kernel
theorem d_Digits_at_8 : decode cd_Digits_at 8 = .ok (.ifCond .lt 27, 3) := by decide +kernel
theorem d_Digits_at_11 : decode cd_Digits_at 11 = .ok (.iload_n 2, 1) := by decide +kernel
theorem d_Digits_at_12 : decode cd_Digits_at 12 = .ok (.aload_n 0, 1) := by decide +kernel
theorem d_Digits_at_13 : decode cd_Digits_at 13 = .ok (.getfield 42, 3) := by decide +kernel
theorem d_Digits_at_16 : decode cd_Digits_at 16 = .ok (.if_icmp .ge 19, 3) := by decide +kernel
theorem d_Digits_at_19 : decode cd_Digits_at 19 = .ok (.iload_n 2, 1) := by decide +kernel
theorem d_Digits_at_20 : decode cd_Digits_at 20 = .ok (.sipush 208, 3) := by decide +kernel
theorem d_Digits_at_23 : decode cd_Digits_at 23 = .ok (.if_icmp .ge 12, 3) := by decide +kernel
theorem d_Digits_at_26 : decode cd_Digits_at 26 = .ok (.aload_n 0, 1) := by decide +kernel
theorem d_Digits_at_27 : decode cd_Digits_at 27 = .ok (.getfield 13, 3) := by decide +kernel
theorem d_Digits_at_30 : decode cd_Digits_at 30 = .ok (.iload_n 2, 1) := by decide +kernel
theorem d_Digits_at_31 : decode cd_Digits_at 31 = .ok (.baload, 1) := by decide +kernel
theorem d_Digits_at_32 : decode cd_Digits_at 32 = .ok (.goto 4, 3) := by decide +kernel
theorem d_Digits_at_35 : decode cd_Digits_at 35 = .ok (.iconst 0, 1) := by decide +kernel
theorem d_Digits_at_36 : decode cd_Digits_at 36 = .ok (.ireturn, 1) := by decide +kernel
def f_Digits_at (t_cells : Nat → Int32) (t_used : Int32) (t_lowest : Int32) (a1 : Int32) : Option Int32 :=
  (if (a1 - t_lowest) < 0 then some (0 : Int32) else (if t_used ≤ (a1 - t_lowest) then some (0 : Int32) else (if (208 : Int32) ≤ (a1 - t_lowest) then some (0 : Int32) else (if inB (a1 - t_lowest) 208 = true then some (t_cells (a1 - t_lowest).toNatClampNeg) else none))))
set_option maxHeartbeats 4000000 in
set_option maxRecDepth 100000 in
theorem c_Digits_at (l : Launch) (G : Gt) (K : Nat) (qt : Nat) (qt_limbs : Nat) (t_limbs : Nat → Int32) (qt_cells : Nat) (t_cells : Nat → Int32) (t_used : Int32) (t_lowest : Int32) (a1 : Int32) (sz : Nat) (res : Int32)   (hf : f_Digits_at t_cells t_used t_lowest a1 = some res) : Met l y_Digits_at (.code y_Digits_at cd_Digits_at 3 (some .int) :: gw) { frames := 0, cells := 0, slots := 0, locals := 0 } (PC G ([.ref qt, .int a1] : List Value) sz (w_Digits_isZero G qt qt_limbs t_limbs qt_cells t_cells t_used t_lowest)) (QI G res (va_A (w_Digits_isZero G qt qt_limbs t_limbs qt_cells t_cells t_used t_lowest) sz) (w_Digits_isZero G qt qt_limbs t_limbs qt_cells t_cells t_used t_lowest)) 0 0 (va_A (w_Digits_isZero G qt qt_limbs t_limbs qt_cells t_cells t_used t_lowest) sz) := by
  refine Met.ofW (cc := cd_Digits_at) (maxL := 3) (ret := (some .int)) (by decide) rfl ?_
  intro p e s m args below meth c s₁ B hml hv
  obtain ⟨rfl, hsz, hP, hE, hD0⟩ := hv
  have hx := B.exec
  have hb := B.bytes
  have hr := B.returns
  have hts := atoms_spec (ws := (.code y_Digits_at cd_Digits_at 3 (some .int) :: gw)) B.pre
  have hg : ∀ w ∈ gw, w.before _ s = true := fun w h => hts w (List.mem_cons_of_mem _ h)
  have hown : s.vm.findClass R_Digits = some m.cls := findClass_of_methodNamed B.named
  have hlocks := B.notSynchronized
  subst hsz
  have hK := hE.K
  have hD := hD0.self (sz := s.heap.size)
  have hAb := hE.ab hD0
  obtain ⟨Q, hQ⟩ : ∃ Q, MQ below (QI G res (va_A (w_Digits_isZero G qt qt_limbs t_limbs qt_cells t_cells t_used t_lowest) s.heap.size) (w_Digits_isZero G qt qt_limbs t_limbs qt_cells t_cells t_used t_lowest)) ([.ref qt, .int a1] : List Value).toArray s 0 0 (va_A (w_Digits_isZero G qt qt_limbs t_limbs qt_cells t_cells t_used t_lowest) s.heap.size) = Q := ⟨_, rfl⟩
  show W p l e { frames := 0, cells := 0, slots := 0, locals := 0 } s m ([.ref qt, .int a1] : List Value).toArray below meth c s.heap [] 0 0 (MQ below (QI G res (va_A (w_Digits_isZero G qt qt_limbs t_limbs qt_cells t_cells t_used t_lowest) s.heap.size) (w_Digits_isZero G qt qt_limbs t_limbs qt_cells t_cells t_used t_lowest)) ([.ref qt, .int a1] : List Value).toArray s 0 0 (va_A (w_Digits_isZero G qt qt_limbs t_limbs qt_cells t_cells t_used t_lowest) s.heap.size)) _
  rw [hQ]
  have hA : ∀ q : Nat, s.heap.size ≤ q → va_A (w_Digits_isZero G qt qt_limbs t_limbs qt_cells t_cells t_used t_lowest) s.heap.size q := fun q h => Or.inr h
  obtain ⟨A, hAe⟩ : ∃ A, va_A (w_Digits_isZero G qt qt_limbs t_limbs qt_cells t_cells t_used t_lowest) s.heap.size = A := ⟨_, rfl⟩
  rw [hAe] at hA hD hAb hQ
  have hS : va_S A s.heap s.heap [] := va_S.rf
  have hl := lv_entry (([.ref qt, .int a1] : List Value)) (n := 3) (Nat.le_of_ble_eq_true rfl)
  rw [lg_entry_eq]
  generalize (lg_sl (([.ref qt, .int a1] : List Value)) ++ List.replicate (3 - (lg_sl (([.ref qt, .int a1] : List Value))).length) Slot.unset).toArray = ls at hl ⊢
  have hl : lv_has ls 3 [(0, .ref qt), (1, .int a1)] := hl
  unfold f_Digits_at at hf
  refine lv_iload_n hx hb d_Digits_at_0 rfl (lv_at hl 1 rfl) ?_
  refine lv_aload_n hx hb d_Digits_at_1 rfl (lv_at hl 0 rfl) ?_
  refine va_get (D := gD G) (ci := 2) (v := .int t_lowest) (C := R_Digits) (T := F_Digits) (N := 4) hx hb hg in_Digits hown hK hP 0 rfl rfl 3 (by decide) (hg _ m_174) (fun _ h9 => h9) rfl d_Digits_at_2 ?_
  refine lv_isub hx hb d_Digits_at_5 ?_
  refine lv_istore_n (lv' := [(2, .int (a1 - t_lowest)), (0, .ref qt), (1, .int a1)]) hx hb d_Digits_at_6 rfl hl (by decide) rfl (fun ls hl => ?_)
  refine lv_iload_n hx hb d_Digits_at_7 rfl (lv_at hl 0 rfl) ?_
  refine lv_if_lt (tgt := 35) hx hb d_Digits_at_8 (by decide) (fun c_8 => ?_) (fun c_8 => ?_)
  · have hf := ip_ c_8 hf
    refine lv_iconst (v := 0) hx hb d_Digits_at_35 (by decide) ?_
    obtain rfl := Option.some.inj hf
    rw [← hQ]
    exact W.iret (v := (0 : Int32)) hx hb hr (fun t9 ht hW => ⟨⟨(0 : Int32), (), rfl, rfl, ⟨by rw [ht]; exact hP, hD⟩⟩, hS.F ht⟩) hS.2.2 d_Digits_at_36
  · have hf := in_ c_8 hf
    refine lv_iload_n hx hb d_Digits_at_11 rfl (lv_at hl 0 rfl) ?_
    refine lv_aload_n hx hb d_Digits_at_12 rfl (lv_at hl 1 rfl) ?_
    refine va_get (D := gD G) (ci := 2) (v := .int t_used) (C := R_Digits) (T := F_Digits) (N := 4) hx hb hg in_Digits hown hK hP 0 rfl rfl 2 (by decide) (hg _ m_173) (fun _ h9 => h9) rfl d_Digits_at_13 ?_
    refine lv_icmp_ge (tgt := 35) hx hb d_Digits_at_16 (by decide) (fun c_16 => ?_) (fun c_16 => ?_)
    · have hf := ip_ c_16 hf
      refine lv_iconst (v := 0) hx hb d_Digits_at_35 (by decide) ?_
      obtain rfl := Option.some.inj hf
      rw [← hQ]
      exact W.iret (v := (0 : Int32)) hx hb hr (fun t9 ht hW => ⟨⟨(0 : Int32), (), rfl, rfl, ⟨by rw [ht]; exact hP, hD⟩⟩, hS.F ht⟩) hS.2.2 d_Digits_at_36
    · have hf := in_ c_16 hf
      refine lv_iload_n hx hb d_Digits_at_19 rfl (lv_at hl 0 rfl) ?_
      refine lv_sipush (v := 208) hx hb d_Digits_at_20 (by decide) ?_
      refine lv_icmp_ge (tgt := 35) hx hb d_Digits_at_23 (by decide) (fun c_23 => ?_) (fun c_23 => ?_)
      · have hf := ip_ c_23 hf
        refine lv_iconst (v := 0) hx hb d_Digits_at_35 (by decide) ?_
        obtain rfl := Option.some.inj hf
        rw [← hQ]
        exact W.iret (v := (0 : Int32)) hx hb hr (fun t9 ht hW => ⟨⟨(0 : Int32), (), rfl, rfl, ⟨by rw [ht]; exact hP, hD⟩⟩, hS.F ht⟩) hS.2.2 d_Digits_at_36
      · have hf := in_ c_23 hf
        refine lv_aload_n hx hb d_Digits_at_26 rfl (lv_at hl 1 rfl) ?_
        refine va_get (D := gD G) (ci := 2) (v := .ref qt_cells) (C := R_Digits) (T := F_Digits) (N := 4) hx hb hg in_Digits hown hK hP 0 rfl rfl 1 (by decide) (hg _ m_175) (fun _ h9 => h9) rfl d_Digits_at_27 ?_
        refine lv_iload_n hx hb d_Digits_at_30 rfl (lv_at hl 0 rfl) ?_
        obtain ⟨g_31, hf⟩ := gd_ hf
        refine va_bald hx hb hK hP 2 0 rfl rfl (inB_in g_31) d_Digits_at_31 ?_
        refine lv_goto (tgt := 36) hx hb d_Digits_at_32 (by decide) ?_
        obtain rfl := Option.some.inj hf
        rw [← hQ]
        exact W.iret (v := (t_cells (a1 - t_lowest).toNatClampNeg)) hx hb hr (fun t9 ht hW => ⟨⟨(t_cells (a1 - t_lowest).toNatClampNeg), (), rfl, rfl, ⟨by rw [ht]; exact hP, hD⟩⟩, hS.F ht⟩) hS.2.2 d_Digits_at_36
theorem d_Digits_trim_0 : decode cd_Digits_trim 0 = .ok (.aload_n 0, 1) := by decide +kernel
theorem d_Digits_trim_1 : decode cd_Digits_trim 1 = .ok (.getfield 42, 3) := by decide +kernel
theorem d_Digits_trim_4 : decode cd_Digits_trim 4 = .ok (.ifCond .le 30, 3) := by decide +kernel
theorem d_Digits_trim_7 : decode cd_Digits_trim 7 = .ok (.aload_n 0, 1) := by decide +kernel
theorem d_Digits_trim_8 : decode cd_Digits_trim 8 = .ok (.getfield 13, 3) := by decide +kernel
theorem d_Digits_trim_11 : decode cd_Digits_trim 11 = .ok (.aload_n 0, 1) := by decide +kernel
theorem d_Digits_trim_12 : decode cd_Digits_trim 12 = .ok (.getfield 42, 3) := by decide +kernel
theorem d_Digits_trim_15 : decode cd_Digits_trim 15 = .ok (.iconst 1, 1) := by decide +kernel
theorem d_Digits_trim_16 : decode cd_Digits_trim 16 = .ok (.isub, 1) := by decide +kernel
theorem d_Digits_trim_17 : decode cd_Digits_trim 17 = .ok (.baload, 1) := by decide +kernel
theorem d_Digits_trim_18 : decode cd_Digits_trim 18 = .ok (.ifCond .ne 16, 3) := by decide +kernel
theorem d_Digits_trim_21 : decode cd_Digits_trim 21 = .ok (.aload_n 0, 1) := by decide +kernel
theorem d_Digits_trim_22 : decode cd_Digits_trim 22 = .ok (.dup, 1) := by decide +kernel
theorem d_Digits_trim_23 : decode cd_Digits_trim 23 = .ok (.getfield 42, 3) := by decide +kernel
theorem d_Digits_trim_26 : decode cd_Digits_trim 26 = .ok (.iconst 1, 1) := by decide +kernel
theorem d_Digits_trim_27 : decode cd_Digits_trim 27 = .ok (.isub, 1) := by decide +kernel
theorem d_Digits_trim_28 : decode cd_Digits_trim 28 = .ok (.putfield 42, 3) := by decide +kernel
theorem d_Digits_trim_31 : decode cd_Digits_trim 31 = .ok (.goto (-31), 3) := by decide +kernel
theorem d_Digits_trim_34 : decode cd_Digits_trim 34 = .ok (.return_, 1) := by decide +kernel
def b_Digits_trim_0 (t_cells : Nat → Int32)  (rec_0 : Int32 → Option Int32) (z0 : Int32) : Option Int32 :=
  (if z0 ≤ 0 then some z0 else (if inB (z0 - (1 : Int32)) 208 = true then (if (t_cells (z0 - (1 : Int32)).toNatClampNeg) = 0 then rec_0 (z0 - (1 : Int32)) else some z0) else none))
def f_Digits_trim (K : Nat) (t_cells : Nat → Int32) (t_used : Int32) : Option Int32 :=
  lp_ (b_Digits_trim_0 t_cells ) K t_used
set_option maxHeartbeats 4000000 in
set_option maxRecDepth 100000 in
theorem c_Digits_trim (l : Launch) (G : Gt) (K : Nat) (qt : Nat) (qt_limbs : Nat) (t_limbs : Nat → Int32) (qt_cells : Nat) (t_cells : Nat → Int32) (t_used : Int32) (t_lowest : Int32) (sz : Nat) (res : Int32)   (hf : f_Digits_trim K t_cells t_used = some res) : Met l y_Digits_trim (.code y_Digits_trim cd_Digits_trim 1 none :: gw) { frames := 0, cells := 0, slots := 0, locals := 0 } (PC G ([.ref qt] : List Value) sz (w_Digits_isZero G qt qt_limbs t_limbs qt_cells t_cells t_used t_lowest)) (QV G (va_A (w_Digits_isZero G qt qt_limbs t_limbs qt_cells t_cells t_used t_lowest) sz) (w_Digits_isZero G qt qt_limbs t_limbs qt_cells t_cells res t_lowest)) 0 0 (va_A (w_Digits_isZero G qt qt_limbs t_limbs qt_cells t_cells t_used t_lowest) sz) := by
  refine Met.ofW (cc := cd_Digits_trim) (maxL := 1) (ret := none) (by decide) rfl ?_
  intro p e s m args below meth c s₁ B hml hv
  obtain ⟨rfl, hsz, hP, hE, hD0⟩ := hv
  have hx := B.exec
  have hb := B.bytes
  have hr := B.returns
  have hts := atoms_spec (ws := (.code y_Digits_trim cd_Digits_trim 1 none :: gw)) B.pre
  have hg : ∀ w ∈ gw, w.before _ s = true := fun w h => hts w (List.mem_cons_of_mem _ h)
  have hown : s.vm.findClass R_Digits = some m.cls := findClass_of_methodNamed B.named
  have hlocks := B.notSynchronized
  subst hsz
  have hK := hE.K
  have hD := hD0.self (sz := s.heap.size)
  have hAb := hE.ab hD0
  obtain ⟨Q, hQ⟩ : ∃ Q, MQ below (QV G (va_A (w_Digits_isZero G qt qt_limbs t_limbs qt_cells t_cells t_used t_lowest) s.heap.size) (w_Digits_isZero G qt qt_limbs t_limbs qt_cells t_cells res t_lowest)) ([.ref qt] : List Value).toArray s 0 0 (va_A (w_Digits_isZero G qt qt_limbs t_limbs qt_cells t_cells t_used t_lowest) s.heap.size) = Q := ⟨_, rfl⟩
  show W p l e { frames := 0, cells := 0, slots := 0, locals := 0 } s m ([.ref qt] : List Value).toArray below meth c s.heap [] 0 0 (MQ below (QV G (va_A (w_Digits_isZero G qt qt_limbs t_limbs qt_cells t_cells t_used t_lowest) s.heap.size) (w_Digits_isZero G qt qt_limbs t_limbs qt_cells t_cells res t_lowest)) ([.ref qt] : List Value).toArray s 0 0 (va_A (w_Digits_isZero G qt qt_limbs t_limbs qt_cells t_cells t_used t_lowest) s.heap.size)) _
  rw [hQ]
  have hA : ∀ q : Nat, s.heap.size ≤ q → va_A (w_Digits_isZero G qt qt_limbs t_limbs qt_cells t_cells t_used t_lowest) s.heap.size q := fun q h => Or.inr h
  obtain ⟨A, hAe⟩ : ∃ A, va_A (w_Digits_isZero G qt qt_limbs t_limbs qt_cells t_cells t_used t_lowest) s.heap.size = A := ⟨_, rfl⟩
  rw [hAe] at hA hD hAb hQ
  have hS : va_S A s.heap s.heap [] := va_S.rf
  have hl := lv_entry (([.ref qt] : List Value)) (n := 1) (Nat.le_of_ble_eq_true rfl)
  rw [lg_entry_eq]
  generalize (lg_sl (([.ref qt] : List Value)) ++ List.replicate (1 - (lg_sl (([.ref qt] : List Value))).length) Slot.unset).toArray = ls at hl ⊢
  have hl : lv_has ls 1 [(0, .ref qt)] := hl
  have W_0 : ∀   (n_0 : Nat) (z0 : Int32) , lp_ (b_Digits_trim_0 t_cells ) n_0 z0 = some res → ∀ (H : Heap) (locs : List Loc) (ls : Array Slot), va_P (gD G) vwCl (w_Digits_isZero G qt qt_limbs t_limbs qt_cells t_cells z0 t_lowest) H → va_D A (w_Digits_isZero G qt qt_limbs t_limbs qt_cells t_cells z0 t_lowest) → va_S A s.heap H locs → lv_has ls 1 [(0, .ref qt)] → W p l e { frames := 0, cells := 0, slots := 0, locals := 0 } s m ([.ref qt] : List Value).toArray below meth c H locs 0 0 Q (F0 m 0 ls []) := by
    intro  n_0
    induction n_0 with
    | zero =>
      intro z0  hf
      cases hf
    | succ n_0 ih_0 =>
      intro z0  hf H locs ls hP hD hS hl
      have hf : b_Digits_trim_0 t_cells  (lp_ (b_Digits_trim_0 t_cells ) n_0) z0 = some res := hf
      generalize lp_ (b_Digits_trim_0 t_cells ) n_0 = rec_0 at hf ih_0
      unfold b_Digits_trim_0 at hf
      refine lv_aload_n hx hb d_Digits_trim_0 rfl (lv_at hl 0 rfl) ?_
      refine va_get (D := gD G) (ci := 2) (v := .int z0) (C := R_Digits) (T := F_Digits) (N := 4) hx hb hg in_Digits hown hK hP 0 rfl rfl 2 (by decide) (hg _ m_173) (fun _ h9 => h9) rfl d_Digits_trim_1 ?_
      refine lv_if_le (tgt := 34) hx hb d_Digits_trim_4 (by decide) (fun c_4 => ?_) (fun c_4 => ?_)
      · have hf := ip_ c_4 hf
        obtain rfl := Option.some.inj hf
        rw [← hQ]
        exact W.vret hx hb hr (fun t9 ht hW => ⟨⟨(), rfl, trivial, ⟨by rw [ht]; exact hP, hD⟩⟩, hS.F ht⟩) hS.2.2 d_Digits_trim_34
      · have hf := in_ c_4 hf
        refine lv_aload_n hx hb d_Digits_trim_7 rfl (lv_at hl 0 rfl) ?_
        refine va_get (D := gD G) (ci := 2) (v := .ref qt_cells) (C := R_Digits) (T := F_Digits) (N := 4) hx hb hg in_Digits hown hK hP 0 rfl rfl 1 (by decide) (hg _ m_175) (fun _ h9 => h9) rfl d_Digits_trim_8 ?_
        refine lv_aload_n hx hb d_Digits_trim_11 rfl (lv_at hl 0 rfl) ?_
        refine va_get (D := gD G) (ci := 2) (v := .int z0) (C := R_Digits) (T := F_Digits) (N := 4) hx hb hg in_Digits hown hK hP 0 rfl rfl 2 (by decide) (hg _ m_173) (fun _ h9 => h9) rfl d_Digits_trim_12 ?_
        refine lv_iconst (v := 1) hx hb d_Digits_trim_15 (by decide) ?_
        refine lv_isub hx hb d_Digits_trim_16 ?_
        obtain ⟨g_17, hf⟩ := gd_ hf
        refine va_bald hx hb hK hP 2 0 rfl rfl (inB_in g_17) d_Digits_trim_17 ?_
        refine lv_if_ne (tgt := 34) hx hb d_Digits_trim_18 (by decide) (fun c_18 => ?_) (fun c_18 => ?_)
        · have hf := in_ c_18 hf
          obtain rfl := Option.some.inj hf
          rw [← hQ]
          exact W.vret hx hb hr (fun t9 ht hW => ⟨⟨(), rfl, trivial, ⟨by rw [ht]; exact hP, hD⟩⟩, hS.F ht⟩) hS.2.2 d_Digits_trim_34
        · have hf := ip_ c_18 hf
          refine lv_aload_n hx hb d_Digits_trim_21 rfl (lv_at hl 0 rfl) ?_
          refine lv_dup hx hb d_Digits_trim_22 rfl ?_
          refine va_get (D := gD G) (ci := 2) (v := .int z0) (C := R_Digits) (T := F_Digits) (N := 4) hx hb hg in_Digits hown hK hP 0 rfl rfl 2 (by decide) (hg _ m_173) (fun _ h9 => h9) rfl d_Digits_trim_23 ?_
          refine lv_iconst (v := 1) hx hb d_Digits_trim_26 (by decide) ?_
          refine lv_isub hx hb d_Digits_trim_27 ?_
          refine va_put (D := gD G) (ci := 2) (v := .int (z0 - (1 : Int32))) (ty := .int) (C := R_Digits) (T := F_Digits) (N := 4) hx hb hg in_Digits t_Digits to_Digits no_Digits hown hK hP hD hS 0 rfl rfl 2 (by decide) (hg _ m_173) (fun _ h9 => h9) rfl (by decide +kernel) rfl rfl (Nat.le_of_ble_eq_true rfl) d_Digits_trim_28 (fun H locs hP hD hS => ?_)
          have hP : va_P (gD G) vwCl (w_Digits_isZero G qt qt_limbs t_limbs qt_cells t_cells (z0 - (1 : Int32)) t_lowest) H := hP
          have hD : va_D A (w_Digits_isZero G qt qt_limbs t_limbs qt_cells t_cells (z0 - (1 : Int32)) t_lowest) := hD
          refine lv_goto (tgt := 0) hx hb d_Digits_trim_31 (by decide) ?_
          exact ih_0 (z0 - (1 : Int32))  hf _ _ _ hP hD hS (lv_sub hl [0] rfl)
  unfold f_Digits_trim at hf
  exact W_0   K t_used  hf _ _ _ hP hD hS (lv_sub hl [0] rfl)
theorem d_Digits_carryInto_0 : decode cd_Digits_carryInto 0 = .ok (.iload_n 1, 1) := by decide +kernel
theorem d_Digits_carryInto_1 : decode cd_Digits_carryInto 1 = .ok (.istore_n 2, 1) := by decide +kernel
theorem d_Digits_carryInto_2 : decode cd_Digits_carryInto 2 = .ok (.iload_n 2, 1) := by decide +kernel
theorem d_Digits_carryInto_3 : decode cd_Digits_carryInto 3 = .ok (.sipush 208, 3) := by decide +kernel
theorem d_Digits_carryInto_6 : decode cd_Digits_carryInto 6 = .ok (.if_icmp .ge 62, 3) := by decide +kernel
theorem d_Digits_carryInto_9 : decode cd_Digits_carryInto 9 = .ok (.iload_n 2, 1) := by decide +kernel
theorem d_Digits_carryInto_10 : decode cd_Digits_carryInto 10 = .ok (.aload_n 0, 1) := by decide +kernel
theorem d_Digits_carryInto_11 : decode cd_Digits_carryInto 11 = .ok (.getfield 42, 3) := by decide +kernel
theorem d_Digits_carryInto_14 : decode cd_Digits_carryInto 14 = .ok (.if_icmp .lt 18, 3) := by decide +kernel
theorem d_Digits_carryInto_17 : decode cd_Digits_carryInto 17 = .ok (.aload_n 0, 1) := by decide +kernel
theorem d_Digits_carryInto_18 : decode cd_Digits_carryInto 18 = .ok (.getfield 13, 3) := by decide +kernel
theorem d_Digits_carryInto_21 : decode cd_Digits_carryInto 21 = .ok (.iload_n 2, 1) := by decide +kernel
theorem d_Digits_carryInto_22 : decode cd_Digits_carryInto 22 = .ok (.iconst 1, 1) := by decide +kernel
theorem d_Digits_carryInto_23 : decode cd_Digits_carryInto 23 = .ok (.bastore, 1) := by decide +kernel
theorem d_Digits_carryInto_24 : decode cd_Digits_carryInto 24 = .ok (.aload_n 0, 1) := by decide +kernel
theorem d_Digits_carryInto_25 : decode cd_Digits_carryInto 25 = .ok (.iload_n 2, 1) := by decide +kernel
theorem d_Digits_carryInto_26 : decode cd_Digits_carryInto 26 = .ok (.iconst 1, 1) := by decide +kernel
theorem d_Digits_carryInto_27 : decode cd_Digits_carryInto 27 = .ok (.iadd, 1) := by decide +kernel
theorem d_Digits_carryInto_28 : decode cd_Digits_carryInto 28 = .ok (.putfield 42, 3) := by decide +kernel
theorem d_Digits_carryInto_31 : decode cd_Digits_carryInto 31 = .ok (.return_, 1) := by decide +kernel
theorem d_Digits_carryInto_32 : decode cd_Digits_carryInto 32 = .ok (.aload_n 0, 1) := by decide +kernel
theorem d_Digits_carryInto_33 : decode cd_Digits_carryInto 33 = .ok (.getfield 13, 3) := by decide +kernel
theorem d_Digits_carryInto_36 : decode cd_Digits_carryInto 36 = .ok (.iload_n 2, 1) := by decide +kernel
theorem d_Digits_carryInto_37 : decode cd_Digits_carryInto 37 = .ok (.baload, 1) := by decide +kernel
theorem d_Digits_carryInto_38 : decode cd_Digits_carryInto 38 = .ok (.bipush 9, 2) := by decide +kernel
theorem d_Digits_carryInto_40 : decode cd_Digits_carryInto 40 = .ok (.if_icmp .ge 15, 3) := by decide +kernel
theorem d_Digits_carryInto_43 : decode cd_Digits_carryInto 43 = .ok (.aload_n 0, 1) := by decide +kernel
theorem d_Digits_carryInto_44 : decode cd_Digits_carryInto 44 = .ok (.getfield 13, 3) := by decide +kernel
theorem d_Digits_carryInto_47 : decode cd_Digits_carryInto 47 = .ok (.iload_n 2, 1) := by decide +kernel
theorem d_Digits_carryInto_48 : decode cd_Digits_carryInto 48 = .ok (.dup2, 1) := by decide +kernel
theorem d_Digits_carryInto_49 : decode cd_Digits_carryInto 49 = .ok (.baload, 1) := by decide +kernel
theorem d_Digits_carryInto_50 : decode cd_Digits_carryInto 50 = .ok (.iconst 1, 1) := by decide +kernel
theorem d_Digits_carryInto_51 : decode cd_Digits_carryInto 51 = .ok (.iadd, 1) := by decide +kernel
theorem d_Digits_carryInto_52 : decode cd_Digits_carryInto 52 = .ok (.i2b, 1) := by decide +kernel
theorem d_Digits_carryInto_53 : decode cd_Digits_carryInto 53 = .ok (.bastore, 1) := by decide +kernel
theorem d_Digits_carryInto_54 : decode cd_Digits_carryInto 54 = .ok (.return_, 1) := by decide +kernel
theorem d_Digits_carryInto_55 : decode cd_Digits_carryInto 55 = .ok (.aload_n 0, 1) := by decide +kernel
theorem d_Digits_carryInto_56 : decode cd_Digits_carryInto 56 = .ok (.getfield 13, 3) := by decide +kernel
theorem d_Digits_carryInto_59 : decode cd_Digits_carryInto 59 = .ok (.iload_n 2, 1) := by decide +kernel
theorem d_Digits_carryInto_60 : decode cd_Digits_carryInto 60 = .ok (.iconst 0, 1) := by decide +kernel
theorem d_Digits_carryInto_61 : decode cd_Digits_carryInto 61 = .ok (.bastore, 1) := by decide +kernel
theorem d_Digits_carryInto_62 : decode cd_Digits_carryInto 62 = .ok (.iinc 2 1, 3) := by decide +kernel
theorem d_Digits_carryInto_65 : decode cd_Digits_carryInto 65 = .ok (.goto (-63), 3) := by decide +kernel
theorem d_Digits_carryInto_68 : decode cd_Digits_carryInto 68 = .ok (.return_, 1) := by decide +kernel
def b_Digits_carryInto_2  (t_used : Int32) (rec_2 : (Int32 × (Nat → Int32)) → Option (Int32 × (Nat → Int32))) (z2 : Int32 × (Nat → Int32)) : Option (Int32 × (Nat → Int32)) :=
  (if (208 : Int32) ≤ z2.1 then some (t_used, z2.2) else (if z2.1 < t_used then (if inB z2.1 208 = true then (if (9 : Int32) ≤ (z2.2 z2.1.toNatClampNeg) then (if inB z2.1 208 = true then rec_2 ((z2.1 + 1), (upd z2.2 z2.1.toNatClampNeg (vp_nar .byte (0 : Int32)))) else none) else (if inB z2.1 208 = true then (if inB z2.1 208 = true then some (t_used, (upd z2.2 z2.1.toNatClampNeg (vp_nar .byte (((z2.2 z2.1.toNatClampNeg) + (1 : Int32)).toInt8.toInt32)))) else none) else none)) else none) else (if inB z2.1 208 = true then some ((z2.1 + (1 : Int32)), (upd z2.2 z2.1.toNatClampNeg (vp_nar .byte (1 : Int32)))) else none)))
def f_Digits_carryInto (K : Nat) (t_cells : Nat → Int32) (t_used : Int32) (a1 : Int32) : Option (Int32 × (Nat → Int32)) :=
  lp_ (b_Digits_carryInto_2  t_used) K (a1, t_cells)
set_option maxHeartbeats 4000000 in
set_option maxRecDepth 100000 in
theorem c_Digits_carryInto (l : Launch) (G : Gt) (K : Nat) (qt : Nat) (qt_limbs : Nat) (t_limbs : Nat → Int32) (qt_cells : Nat) (t_cells : Nat → Int32) (t_used : Int32) (t_lowest : Int32) (a1 : Int32) (sz : Nat) (res : Int32 × (Nat → Int32))   (hf : f_Digits_carryInto K t_cells t_used a1 = some res) : Met l y_Digits_carryInto (.code y_Digits_carryInto cd_Digits_carryInto 3 none :: gw) { frames := 0, cells := 0, slots := 0, locals := 0 } (PC G ([.ref qt, .int a1] : List Value) sz (w_Digits_isZero G qt qt_limbs t_limbs qt_cells t_cells t_used t_lowest)) (QV G (va_A (w_Digits_isZero G qt qt_limbs t_limbs qt_cells t_cells t_used t_lowest) sz) (w_Digits_isZero G qt qt_limbs t_limbs qt_cells res.2 res.1 t_lowest)) 0 0 (va_A (w_Digits_isZero G qt qt_limbs t_limbs qt_cells t_cells t_used t_lowest) sz) := by
  refine Met.ofW (cc := cd_Digits_carryInto) (maxL := 3) (ret := none) (by decide) rfl ?_
  intro p e s m args below meth c s₁ B hml hv
  obtain ⟨rfl, hsz, hP, hE, hD0⟩ := hv
  have hx := B.exec
  have hb := B.bytes
  have hr := B.returns
  have hts := atoms_spec (ws := (.code y_Digits_carryInto cd_Digits_carryInto 3 none :: gw)) B.pre
  have hg : ∀ w ∈ gw, w.before _ s = true := fun w h => hts w (List.mem_cons_of_mem _ h)
  have hown : s.vm.findClass R_Digits = some m.cls := findClass_of_methodNamed B.named
  have hlocks := B.notSynchronized
  subst hsz
  have hK := hE.K
  have hD := hD0.self (sz := s.heap.size)
  have hAb := hE.ab hD0
  obtain ⟨Q, hQ⟩ : ∃ Q, MQ below (QV G (va_A (w_Digits_isZero G qt qt_limbs t_limbs qt_cells t_cells t_used t_lowest) s.heap.size) (w_Digits_isZero G qt qt_limbs t_limbs qt_cells res.2 res.1 t_lowest)) ([.ref qt, .int a1] : List Value).toArray s 0 0 (va_A (w_Digits_isZero G qt qt_limbs t_limbs qt_cells t_cells t_used t_lowest) s.heap.size) = Q := ⟨_, rfl⟩
  show W p l e { frames := 0, cells := 0, slots := 0, locals := 0 } s m ([.ref qt, .int a1] : List Value).toArray below meth c s.heap [] 0 0 (MQ below (QV G (va_A (w_Digits_isZero G qt qt_limbs t_limbs qt_cells t_cells t_used t_lowest) s.heap.size) (w_Digits_isZero G qt qt_limbs t_limbs qt_cells res.2 res.1 t_lowest)) ([.ref qt, .int a1] : List Value).toArray s 0 0 (va_A (w_Digits_isZero G qt qt_limbs t_limbs qt_cells t_cells t_used t_lowest) s.heap.size)) _
  rw [hQ]
  have hA : ∀ q : Nat, s.heap.size ≤ q → va_A (w_Digits_isZero G qt qt_limbs t_limbs qt_cells t_cells t_used t_lowest) s.heap.size q := fun q h => Or.inr h
  obtain ⟨A, hAe⟩ : ∃ A, va_A (w_Digits_isZero G qt qt_limbs t_limbs qt_cells t_cells t_used t_lowest) s.heap.size = A := ⟨_, rfl⟩
  rw [hAe] at hA hD hAb hQ
  have hS : va_S A s.heap s.heap [] := va_S.rf
  have hl := lv_entry (([.ref qt, .int a1] : List Value)) (n := 3) (Nat.le_of_ble_eq_true rfl)
  rw [lg_entry_eq]
  generalize (lg_sl (([.ref qt, .int a1] : List Value)) ++ List.replicate (3 - (lg_sl (([.ref qt, .int a1] : List Value))).length) Slot.unset).toArray = ls at hl ⊢
  have hl : lv_has ls 3 [(0, .ref qt), (1, .int a1)] := hl
  have W_2 : ∀ (t_used : Int32)  (n_2 : Nat) (z2 : Int32 × (Nat → Int32)) , lp_ (b_Digits_carryInto_2  t_used) n_2 z2 = some res → ∀ (H : Heap) (locs : List Loc) (ls : Array Slot), va_P (gD G) vwCl (w_Digits_isZero G qt qt_limbs t_limbs qt_cells z2.2 t_used t_lowest) H → va_D A (w_Digits_isZero G qt qt_limbs t_limbs qt_cells z2.2 t_used t_lowest) → va_S A s.heap H locs → lv_has ls 3 [(0, .ref qt), (2, .int z2.1)] → W p l e { frames := 0, cells := 0, slots := 0, locals := 0 } s m ([.ref qt, .int a1] : List Value).toArray below meth c H locs 0 0 Q (F0 m 2 ls []) := by
    intro t_used n_2
    induction n_2 with
    | zero =>
      intro z2  hf
      cases hf
    | succ n_2 ih_2 =>
      intro z2  hf H locs ls hP hD hS hl
      have hf : b_Digits_carryInto_2  t_used (lp_ (b_Digits_carryInto_2  t_used) n_2) z2 = some res := hf
      generalize lp_ (b_Digits_carryInto_2  t_used) n_2 = rec_2 at hf ih_2
      unfold b_Digits_carryInto_2 at hf
      refine lv_iload_n hx hb d_Digits_carryInto_2 rfl (lv_at hl 1 rfl) ?_
      refine lv_sipush (v := 208) hx hb d_Digits_carryInto_3 (by decide) ?_
      refine lv_icmp_ge (tgt := 68) hx hb d_Digits_carryInto_6 (by decide) (fun c_6 => ?_) (fun c_6 => ?_)
      · have hf := ip_ c_6 hf
        obtain rfl := Option.some.inj hf
        rw [← hQ]
        exact W.vret hx hb hr (fun t9 ht hW => ⟨⟨(), rfl, trivial, ⟨by rw [ht]; exact hP, hD⟩⟩, hS.F ht⟩) hS.2.2 d_Digits_carryInto_68
      · have hf := in_ c_6 hf
        refine lv_iload_n hx hb d_Digits_carryInto_9 rfl (lv_at hl 1 rfl) ?_
        refine lv_aload_n hx hb d_Digits_carryInto_10 rfl (lv_at hl 0 rfl) ?_
        refine va_get (D := gD G) (ci := 2) (v := .int t_used) (C := R_Digits) (T := F_Digits) (N := 4) hx hb hg in_Digits hown hK hP 0 rfl rfl 2 (by decide) (hg _ m_173) (fun _ h9 => h9) rfl d_Digits_carryInto_11 ?_
        refine lv_icmp_lt (tgt := 32) hx hb d_Digits_carryInto_14 (by decide) (fun c_14 => ?_) (fun c_14 => ?_)
        · have hf := ip_ c_14 hf
          refine lv_aload_n hx hb d_Digits_carryInto_32 rfl (lv_at hl 0 rfl) ?_
          refine va_get (D := gD G) (ci := 2) (v := .ref qt_cells) (C := R_Digits) (T := F_Digits) (N := 4) hx hb hg in_Digits hown hK hP 0 rfl rfl 1 (by decide) (hg _ m_175) (fun _ h9 => h9) rfl d_Digits_carryInto_33 ?_
          refine lv_iload_n hx hb d_Digits_carryInto_36 rfl (lv_at hl 1 rfl) ?_
          obtain ⟨g_37, hf⟩ := gd_ hf
          refine va_bald hx hb hK hP 2 0 rfl rfl (inB_in g_37) d_Digits_carryInto_37 ?_
          refine lv_bipush (v := 9) hx hb d_Digits_carryInto_38 (by decide) ?_
          refine lv_icmp_ge (tgt := 55) hx hb d_Digits_carryInto_40 (by decide) (fun c_40 => ?_) (fun c_40 => ?_)
          · have hf := ip_ c_40 hf
            refine lv_aload_n hx hb d_Digits_carryInto_55 rfl (lv_at hl 0 rfl) ?_
            refine va_get (D := gD G) (ci := 2) (v := .ref qt_cells) (C := R_Digits) (T := F_Digits) (N := 4) hx hb hg in_Digits hown hK hP 0 rfl rfl 1 (by decide) (hg _ m_175) (fun _ h9 => h9) rfl d_Digits_carryInto_56 ?_
            refine lv_iload_n hx hb d_Digits_carryInto_59 rfl (lv_at hl 1 rfl) ?_
            refine lv_iconst (v := 0) hx hb d_Digits_carryInto_60 (by decide) ?_
            obtain ⟨g_61, hf⟩ := gd_ hf
            refine va_bast hx hb hK hP hD hS 2 0 rfl rfl (inB_in g_61) d_Digits_carryInto_61 (fun H locs hP hD hS => ?_)
            have hP : va_P (gD G) vwCl (w_Digits_isZero G qt qt_limbs t_limbs qt_cells (upd z2.2 z2.1.toNatClampNeg (vp_nar .byte (0 : Int32))) t_used t_lowest) H := hP
            have hD : va_D A (w_Digits_isZero G qt qt_limbs t_limbs qt_cells (upd z2.2 z2.1.toNatClampNeg (vp_nar .byte (0 : Int32))) t_used t_lowest) := hD
            refine lv_iinc (v := (z2.1 + 1)) (lv' := [(2, .int (z2.1 + 1)), (0, .ref qt)]) hx hb d_Digits_carryInto_62 hl (k := 1) rfl rfl (by decide) rfl (fun ls hl => ?_)
            refine lv_goto (tgt := 2) hx hb d_Digits_carryInto_65 (by decide) ?_
            exact ih_2 ((z2.1 + 1), (upd z2.2 z2.1.toNatClampNeg (vp_nar .byte (0 : Int32))))  hf _ _ _ hP hD hS (lv_sub hl [1, 0] rfl)
          · have hf := in_ c_40 hf
            refine lv_aload_n hx hb d_Digits_carryInto_43 rfl (lv_at hl 0 rfl) ?_
            refine va_get (D := gD G) (ci := 2) (v := .ref qt_cells) (C := R_Digits) (T := F_Digits) (N := 4) hx hb hg in_Digits hown hK hP 0 rfl rfl 1 (by decide) (hg _ m_175) (fun _ h9 => h9) rfl d_Digits_carryInto_44 ?_
            refine lv_iload_n hx hb d_Digits_carryInto_47 rfl (lv_at hl 1 rfl) ?_
            refine lv_dup2_11 hx hb d_Digits_carryInto_48 rfl rfl ?_
            obtain ⟨g_49, hf⟩ := gd_ hf
            refine va_bald hx hb hK hP 2 0 rfl rfl (inB_in g_49) d_Digits_carryInto_49 ?_
            refine lv_iconst (v := 1) hx hb d_Digits_carryInto_50 (by decide) ?_
            refine lv_iadd hx hb d_Digits_carryInto_51 ?_
            refine lv_i2b (v := ((z2.2 z2.1.toNatClampNeg) + (1 : Int32)).toInt8.toInt32) hx hb d_Digits_carryInto_52 rfl ?_
            obtain ⟨g_53, hf⟩ := gd_ hf
            refine va_bast hx hb hK hP hD hS 2 0 rfl rfl (inB_in g_53) d_Digits_carryInto_53 (fun H locs hP hD hS => ?_)
            have hP : va_P (gD G) vwCl (w_Digits_isZero G qt qt_limbs t_limbs qt_cells (upd z2.2 z2.1.toNatClampNeg (vp_nar .byte (((z2.2 z2.1.toNatClampNeg) + (1 : Int32)).toInt8.toInt32))) t_used t_lowest) H := hP
            have hD : va_D A (w_Digits_isZero G qt qt_limbs t_limbs qt_cells (upd z2.2 z2.1.toNatClampNeg (vp_nar .byte (((z2.2 z2.1.toNatClampNeg) + (1 : Int32)).toInt8.toInt32))) t_used t_lowest) := hD
            obtain rfl := Option.some.inj hf
            rw [← hQ]
            exact W.vret hx hb hr (fun t9 ht hW => ⟨⟨(), rfl, trivial, ⟨by rw [ht]; exact hP, hD⟩⟩, hS.F ht⟩) hS.2.2 d_Digits_carryInto_54
        · have hf := in_ c_14 hf
          refine lv_aload_n hx hb d_Digits_carryInto_17 rfl (lv_at hl 0 rfl) ?_
          refine va_get (D := gD G) (ci := 2) (v := .ref qt_cells) (C := R_Digits) (T := F_Digits) (N := 4) hx hb hg in_Digits hown hK hP 0 rfl rfl 1 (by decide) (hg _ m_175) (fun _ h9 => h9) rfl d_Digits_carryInto_18 ?_
          refine lv_iload_n hx hb d_Digits_carryInto_21 rfl (lv_at hl 1 rfl) ?_
          refine lv_iconst (v := 1) hx hb d_Digits_carryInto_22 (by decide) ?_
          obtain ⟨g_23, hf⟩ := gd_ hf
          refine va_bast hx hb hK hP hD hS 2 0 rfl rfl (inB_in g_23) d_Digits_carryInto_23 (fun H locs hP hD hS => ?_)
          have hP : va_P (gD G) vwCl (w_Digits_isZero G qt qt_limbs t_limbs qt_cells (upd z2.2 z2.1.toNatClampNeg (vp_nar .byte (1 : Int32))) t_used t_lowest) H := hP
          have hD : va_D A (w_Digits_isZero G qt qt_limbs t_limbs qt_cells (upd z2.2 z2.1.toNatClampNeg (vp_nar .byte (1 : Int32))) t_used t_lowest) := hD
          refine lv_aload_n hx hb d_Digits_carryInto_24 rfl (lv_at hl 0 rfl) ?_
          refine lv_iload_n hx hb d_Digits_carryInto_25 rfl (lv_at hl 1 rfl) ?_
          refine lv_iconst (v := 1) hx hb d_Digits_carryInto_26 (by decide) ?_
          refine lv_iadd hx hb d_Digits_carryInto_27 ?_
          refine va_put (D := gD G) (ci := 2) (v := .int (z2.1 + (1 : Int32))) (ty := .int) (C := R_Digits) (T := F_Digits) (N := 4) hx hb hg in_Digits t_Digits to_Digits no_Digits hown hK hP hD hS 0 rfl rfl 2 (by decide) (hg _ m_173) (fun _ h9 => h9) rfl (by decide +kernel) rfl rfl (Nat.le_of_ble_eq_true rfl) d_Digits_carryInto_28 (fun H locs hP hD hS => ?_)
          have hP : va_P (gD G) vwCl (w_Digits_isZero G qt qt_limbs t_limbs qt_cells (upd z2.2 z2.1.toNatClampNeg (vp_nar .byte (1 : Int32))) (z2.1 + (1 : Int32)) t_lowest) H := hP
          have hD : va_D A (w_Digits_isZero G qt qt_limbs t_limbs qt_cells (upd z2.2 z2.1.toNatClampNeg (vp_nar .byte (1 : Int32))) (z2.1 + (1 : Int32)) t_lowest) := hD
          obtain rfl := Option.some.inj hf
          rw [← hQ]
          exact W.vret hx hb hr (fun t9 ht hW => ⟨⟨(), rfl, trivial, ⟨by rw [ht]; exact hP, hD⟩⟩, hS.F ht⟩) hS.2.2 d_Digits_carryInto_31
  unfold f_Digits_carryInto at hf
  refine lv_iload_n hx hb d_Digits_carryInto_0 rfl (lv_at hl 1 rfl) ?_
  refine lv_istore_n (lv' := [(2, .int a1), (0, .ref qt), (1, .int a1)]) hx hb d_Digits_carryInto_1 rfl hl (by decide) rfl (fun ls hl => ?_)
  exact W_2 t_used  K (a1, t_cells)  hf _ _ _ hP hD hS (lv_sub hl [1, 0] rfl)
theorem d_Digits_roundTo_0 : decode cd_Digits_roundTo 0 = .ok (.iload_n 1, 1) := by decide +kernel
theorem d_Digits_roundTo_1 : decode cd_Digits_roundTo 1 = .ok (.aload_n 0, 1) := by decide +kernel
theorem d_Digits_roundTo_2 : decode cd_Digits_roundTo 2 = .ok (.getfield 35, 3) := by decide +kernel
theorem d_Digits_roundTo_5 : decode cd_Digits_roundTo 5 = .ok (.isub, 1) := by decide +kernel
theorem d_Digits_roundTo_6 : decode cd_Digits_roundTo 6 = .ok (.istore_n 2, 1) := by decide +kernel
theorem d_Digits_roundTo_7 : decode cd_Digits_roundTo 7 = .ok (.iload_n 2, 1) := by decide +kernel
theorem d_Digits_roundTo_8 : decode cd_Digits_roundTo 8 = .ok (.ifCond .gt 4, 3) := by decide +kernel
theorem d_Digits_roundTo_11 : decode cd_Digits_roundTo 11 = .ok (.return_, 1) := by decide +kernel
theorem d_Digits_roundTo_12 : decode cd_Digits_roundTo 12 = .ok (.iload_n 2, 1) := by decide +kernel
theorem d_Digits_roundTo_13 : decode cd_Digits_roundTo 13 = .ok (.aload_n 0, 1) := by decide +kernel
theorem d_Digits_roundTo_14 : decode cd_Digits_roundTo 14 = .ok (.getfield 42, 3) := by decide +kernel
theorem d_Digits_roundTo_17 : decode cd_Digits_roundTo 17 = .ok (.if_icmp .le 9, 3) := by decide +kernel
theorem d_Digits_roundTo_20 : decode cd_Digits_roundTo 20 = .ok (.aload_n 0, 1) := by decide +kernel
theorem d_Digits_roundTo_21 : decode cd_Digits_roundTo 21 = .ok (.iconst 0, 1) := by decide +kernel
theorem d_Digits_roundTo_22 : decode cd_Digits_roundTo 22 = .ok (.putfield 42, 3) := by decide +kernel
theorem d_Digits_roundTo_25 : decode cd_Digits_roundTo 25 = .ok (.return_, 1) := by decide +kernel
theorem d_Digits_roundTo_26 : decode cd_Digits_roundTo 26 = .ok (.aload_n 0, 1) := by decide +kernel
theorem d_Digits_roundTo_27 : decode cd_Digits_roundTo 27 = .ok (.getfield 13, 3) := by decide +kernel
theorem d_Digits_roundTo_30 : decode cd_Digits_roundTo 30 = .ok (.iload_n 2, 1) := by decide +kernel
theorem d_Digits_roundTo_31 : decode cd_Digits_roundTo 31 = .ok (.iconst 1, 1) := by decide +kernel
theorem d_Digits_roundTo_32 : decode cd_Digits_roundTo 32 = .ok (.isub, 1) := by decide +kernel
theorem d_Digits_roundTo_33 : decode cd_Digits_roundTo 33 = .ok (.baload, 1) := by decide +kernel
theorem d_Digits_roundTo_34 : decode cd_Digits_roundTo 34 = .ok (.iconst 5, 1) := by decide +kernel
theorem d_Digits_roundTo_35 : decode cd_Digits_roundTo 35 = .ok (.if_icmp .lt 7, 3) := by decide +kernel
theorem d_Digits_roundTo_38 : decode cd_Digits_roundTo 38 = .ok (.iconst 1, 1) := by decide +kernel
theorem d_Digits_roundTo_39 : decode cd_Digits_roundTo 39 = .ok (.goto 4, 3) := by decide +kernel
theorem d_Digits_roundTo_42 : decode cd_Digits_roundTo 42 = .ok (.iconst 0, 1) := by decide +kernel
theorem d_Digits_roundTo_43 : decode cd_Digits_roundTo 43 = .ok (.istore_n 3, 1) := by decide +kernel
theorem d_Digits_roundTo_44 : decode cd_Digits_roundTo 44 = .ok (.iconst 0, 1) := by decide +kernel
theorem d_Digits_roundTo_45 : decode cd_Digits_roundTo 45 = .ok (.istore 4, 2) := by decide +kernel
theorem d_Digits_roundTo_47 : decode cd_Digits_roundTo 47 = .ok (.iload 4, 2) := by decide +kernel
theorem d_Digits_roundTo_49 : decode cd_Digits_roundTo 49 = .ok (.iload_n 2, 1) := by decide +kernel
theorem d_Digits_roundTo_50 : decode cd_Digits_roundTo 50 = .ok (.if_icmp .ge 17, 3) := by decide +kernel
theorem d_Digits_roundTo_53 : decode cd_Digits_roundTo 53 = .ok (.aload_n 0, 1) := by decide +kernel
theorem d_Digits_roundTo_54 : decode cd_Digits_roundTo 54 = .ok (.getfield 13, 3) := by decide +kernel
theorem d_Digits_roundTo_57 : decode cd_Digits_roundTo 57 = .ok (.iload 4, 2) := by decide +kernel
theorem d_Digits_roundTo_59 : decode cd_Digits_roundTo 59 = .ok (.iconst 0, 1) := by decide +kernel
theorem d_Digits_roundTo_60 : decode cd_Digits_roundTo 60 = .ok (.bastore, 1) := by decide +kernel
theorem d_Digits_roundTo_61 : decode cd_Digits_roundTo 61 = .ok (.iinc 4 1, 3) := by decide +kernel
theorem d_Digits_roundTo_64 : decode cd_Digits_roundTo 64 = .ok (.goto (-17), 3) := by decide +kernel
theorem d_Digits_roundTo_67 : decode cd_Digits_roundTo 67 = .ok (.iload_n 3, 1) := by decide +kernel
theorem d_Digits_roundTo_68 : decode cd_Digits_roundTo 68 = .ok (.ifCond .eq 8, 3) := by decide +kernel
theorem d_Digits_roundTo_71 : decode cd_Digits_roundTo 71 = .ok (.aload_n 0, 1) := by decide +kernel
theorem d_Digits_roundTo_72 : decode cd_Digits_roundTo 72 = .ok (.iload_n 2, 1) := by decide +kernel
theorem d_Digits_roundTo_73 : decode cd_Digits_roundTo 73 = .ok (.invokevirtual 45, 3) := by decide +kernel
theorem d_Digits_roundTo_76 : decode cd_Digits_roundTo 76 = .ok (.aload_n 0, 1) := by decide +kernel
theorem d_Digits_roundTo_77 : decode cd_Digits_roundTo 77 = .ok (.invokevirtual 48, 3) := by decide +kernel
theorem d_Digits_roundTo_80 : decode cd_Digits_roundTo 80 = .ok (.return_, 1) := by decide +kernel
theorem m_176 : Cond.methodLink R_Digits 45 y_Digits_carryInto ∈ gw := gm (i := 828) (by decide +kernel) (by decide +kernel)
theorem m_177 : Cond.instanceMethod y_Digits_carryInto ∈ gw := gm (i := 830) (by decide +kernel) (by decide +kernel)
theorem m_178 : Cond.selects R_Digits y_Digits_carryInto y_Digits_carryInto ∈ gw := gm (i := 35) (by decide +kernel) (by decide +kernel)
theorem m_179 : Cond.initialized R_Digits ∈ gw := gm (i := 87) (by decide +kernel) (by decide +kernel)
set_option maxRecDepth 100000 in
theorem m_180 : Cond.code y_Digits_carryInto cd_Digits_carryInto 3 none ∈ gw := gm (i := 831) rfl rfl
theorem m_181 : Cond.methodLink R_Digits 48 y_Digits_trim ∈ gw := gm (i := 712) (by decide +kernel) (by decide +kernel)
theorem m_182 : Cond.instanceMethod y_Digits_trim ∈ gw := gm (i := 714) (by decide +kernel) (by decide +kernel)
theorem m_183 : Cond.selects R_Digits y_Digits_trim y_Digits_trim ∈ gw := gm (i := 25) (by decide +kernel) (by decide +kernel)
set_option maxRecDepth 100000 in
theorem m_184 : Cond.code y_Digits_trim cd_Digits_trim 1 none ∈ gw := gm (i := 715) rfl rfl
def k_Digits_roundTo_76 (K : Nat) (t_used : Int32) (t_cells : (Nat → Int32)) : Option (Int32 × (Nat → Int32)) :=
  ((f_Digits_trim K t_cells t_used).bind fun u_77 => some (u_77, t_cells))
def b_Digits_roundTo_47 (K : Nat) (x2 : Int32) (x3 : Int32) (t_used : Int32) (rec_47 : (Int32 × (Nat → Int32)) → Option (Int32 × (Nat → Int32))) (z47 : Int32 × (Nat → Int32)) : Option (Int32 × (Nat → Int32)) :=
  (if x2 ≤ z47.1 then (if x3 = 0 then k_Digits_roundTo_76 K t_used z47.2 else ((f_Digits_carryInto K z47.2 t_used x2).bind fun u_73 => k_Digits_roundTo_76 K u_73.1 u_73.2)) else (if inB z47.1 208 = true then rec_47 ((z47.1 + 1), (upd z47.2 z47.1.toNatClampNeg (vp_nar .byte (0 : Int32)))) else none))
def k_Digits_roundTo_43 (K : Nat) (x2 : Int32) (k0 : Int32) (t_used : Int32) (t_cells : (Nat → Int32)) : Option (Int32 × (Nat → Int32)) :=
  lp_ (b_Digits_roundTo_47 K x2 k0 t_used) K ((0 : Int32), t_cells)
def f_Digits_roundTo (K : Nat) (t_cells : Nat → Int32) (t_used : Int32) (t_lowest : Int32) (a1 : Int32) : Option (Int32 × (Nat → Int32)) :=
  (if 0 < (a1 - t_lowest) then (if (a1 - t_lowest) ≤ t_used then (if inB ((a1 - t_lowest) - (1 : Int32)) 208 = true then (if (t_cells ((a1 - t_lowest) - (1 : Int32)).toNatClampNeg) < (5 : Int32) then k_Digits_roundTo_43 K (a1 - t_lowest) (0 : Int32) t_used t_cells else k_Digits_roundTo_43 K (a1 - t_lowest) (1 : Int32) t_used t_cells) else none) else some ((0 : Int32), t_cells)) else some (t_used, t_cells))
set_option maxHeartbeats 4000000 in
set_option maxRecDepth 100000 in
theorem c_Digits_roundTo (l : Launch) (G : Gt) (K : Nat) (qt : Nat) (qt_limbs : Nat) (t_limbs : Nat → Int32) (qt_cells : Nat) (t_cells : Nat → Int32) (t_used : Int32) (t_lowest : Int32) (a1 : Int32) (sz : Nat) (res : Int32 × (Nat → Int32))   (hf : f_Digits_roundTo K t_cells t_used t_lowest a1 = some res) : Met l y_Digits_roundTo (.code y_Digits_roundTo cd_Digits_roundTo 5 none :: gw) { frames := 1, cells := 0, slots := 0, locals := 40 } (PC G ([.ref qt, .int a1] : List Value) sz (w_Digits_isZero G qt qt_limbs t_limbs qt_cells t_cells t_used t_lowest)) (QV G (va_A (w_Digits_isZero G qt qt_limbs t_limbs qt_cells t_cells t_used t_lowest) sz) (w_Digits_isZero G qt qt_limbs t_limbs qt_cells res.2 res.1 t_lowest)) 0 0 (va_A (w_Digits_isZero G qt qt_limbs t_limbs qt_cells t_cells t_used t_lowest) sz) := by
  refine Met.ofW (cc := cd_Digits_roundTo) (maxL := 5) (ret := none) (by decide) rfl ?_
  intro p e s m args below meth c s₁ B hml hv
  obtain ⟨rfl, hsz, hP, hE, hD0⟩ := hv
  have hx := B.exec
  have hb := B.bytes
  have hr := B.returns
  have hts := atoms_spec (ws := (.code y_Digits_roundTo cd_Digits_roundTo 5 none :: gw)) B.pre
  have hg : ∀ w ∈ gw, w.before _ s = true := fun w h => hts w (List.mem_cons_of_mem _ h)
  have hown : s.vm.findClass R_Digits = some m.cls := findClass_of_methodNamed B.named
  have hlocks := B.notSynchronized
  subst hsz
  have hK := hE.K
  have hD := hD0.self (sz := s.heap.size)
  have hAb := hE.ab hD0
  obtain ⟨Q, hQ⟩ : ∃ Q, MQ below (QV G (va_A (w_Digits_isZero G qt qt_limbs t_limbs qt_cells t_cells t_used t_lowest) s.heap.size) (w_Digits_isZero G qt qt_limbs t_limbs qt_cells res.2 res.1 t_lowest)) ([.ref qt, .int a1] : List Value).toArray s 0 0 (va_A (w_Digits_isZero G qt qt_limbs t_limbs qt_cells t_cells t_used t_lowest) s.heap.size) = Q := ⟨_, rfl⟩
  show W p l e { frames := 1, cells := 0, slots := 0, locals := 40 } s m ([.ref qt, .int a1] : List Value).toArray below meth c s.heap [] 0 0 (MQ below (QV G (va_A (w_Digits_isZero G qt qt_limbs t_limbs qt_cells t_cells t_used t_lowest) s.heap.size) (w_Digits_isZero G qt qt_limbs t_limbs qt_cells res.2 res.1 t_lowest)) ([.ref qt, .int a1] : List Value).toArray s 0 0 (va_A (w_Digits_isZero G qt qt_limbs t_limbs qt_cells t_cells t_used t_lowest) s.heap.size)) _
  rw [hQ]
  have hA : ∀ q : Nat, s.heap.size ≤ q → va_A (w_Digits_isZero G qt qt_limbs t_limbs qt_cells t_cells t_used t_lowest) s.heap.size q := fun q h => Or.inr h
  obtain ⟨A, hAe⟩ : ∃ A, va_A (w_Digits_isZero G qt qt_limbs t_limbs qt_cells t_cells t_used t_lowest) s.heap.size = A := ⟨_, rfl⟩
  rw [hAe] at hA hD hAb hQ
  have hS : va_S A s.heap s.heap [] := va_S.rf
  have hl := lv_entry (([.ref qt, .int a1] : List Value)) (n := 5) (Nat.le_of_ble_eq_true rfl)
  rw [lg_entry_eq]
  generalize (lg_sl (([.ref qt, .int a1] : List Value)) ++ List.replicate (5 - (lg_sl (([.ref qt, .int a1] : List Value))).length) Slot.unset).toArray = ls at hl ⊢
  have hl : lv_has ls 5 [(0, .ref qt), (1, .int a1)] := hl
  have W_76 : ∀ (t_used : Int32) (t_cells : (Nat → Int32)) , k_Digits_roundTo_76 K t_used t_cells = some res → ∀ (H : Heap) (locs : List Loc) (ls : Array Slot), va_P (gD G) vwCl (w_Digits_isZero G qt qt_limbs t_limbs qt_cells t_cells t_used t_lowest) H → va_D A (w_Digits_isZero G qt qt_limbs t_limbs qt_cells t_cells t_used t_lowest) → va_S A s.heap H locs → lv_has ls 5 [(0, .ref qt)] → W p l e { frames := 1, cells := 0, slots := 0, locals := 40 } s m ([.ref qt, .int a1] : List Value).toArray below meth c H locs 0 0 Q (F0 m 76 ls []) := by
    intro t_used t_cells  hf H locs ls hP hD hS hl
    unfold k_Digits_roundTo_76 at hf
    refine lv_aload_n hx hb d_Digits_roundTo_76 rfl (lv_at hl 0 rfl) ?_
    obtain ⟨u_77, hu_77, hf⟩ := bd_ hf
    refine CALLWv (va_runV (As := []) (rest := []) ⟨hx, hb, hml, hown, hg⟩ (c_Digits_trim l G K qt qt_limbs t_limbs qt_cells t_cells t_used t_lowest _ u_77  hu_77) (cwV 0 hg (gV m_181 m_182 m_183 m_179 m_184) rfl rfl rfl (by decide +kernel) ⟨Nat.le_of_ble_eq_true rfl, Nat.le_of_ble_eq_true rfl⟩) ⟨PC_b, va_recv hK hP (ci := 2) (q0 := 0) rfl rfl, PC_p hE hS hAb hP hD⟩ rfl rfl hl.1 rfl (lv_room (Nat.le_of_ble_eq_true rfl)) d_Digits_roundTo_77 ⟨Nat.zero_le _, Nat.zero_le _⟩) hP hD hS hA (fun H locs hP hD hS => ?_)
    have hP : va_P (gD G) vwCl (w_Digits_isZero G qt qt_limbs t_limbs qt_cells t_cells u_77 t_lowest) H := hP
    have hD : va_D A (w_Digits_isZero G qt qt_limbs t_limbs qt_cells t_cells u_77 t_lowest) := hD
    obtain rfl := Option.some.inj hf
    rw [← hQ]
    exact W.vret hx hb hr (fun t9 ht hW => ⟨⟨(), rfl, trivial, ⟨by rw [ht]; exact hP, hD⟩⟩, hS.F ht⟩) hS.2.2 d_Digits_roundTo_80
  have W_47 : ∀ (x2 : Int32) (x3 : Int32) (t_used : Int32) (b_x3 : bl x3) (n_47 : Nat) (z47 : Int32 × (Nat → Int32)) , lp_ (b_Digits_roundTo_47 K x2 x3 t_used) n_47 z47 = some res → ∀ (H : Heap) (locs : List Loc) (ls : Array Slot), va_P (gD G) vwCl (w_Digits_isZero G qt qt_limbs t_limbs qt_cells z47.2 t_used t_lowest) H → va_D A (w_Digits_isZero G qt qt_limbs t_limbs qt_cells z47.2 t_used t_lowest) → va_S A s.heap H locs → lv_has ls 5 [(0, .ref qt), (2, .int x2), (3, .int x3), (4, .int z47.1)] → W p l e { frames := 1, cells := 0, slots := 0, locals := 40 } s m ([.ref qt, .int a1] : List Value).toArray below meth c H locs 0 0 Q (F0 m 47 ls []) := by
    intro x2 x3 t_used b_x3 n_47
    induction n_47 with
    | zero =>
      intro z47  hf
      cases hf
    | succ n_47 ih_47 =>
      intro z47  hf H locs ls hP hD hS hl
      have hf : b_Digits_roundTo_47 K x2 x3 t_used (lp_ (b_Digits_roundTo_47 K x2 x3 t_used) n_47) z47 = some res := hf
      generalize lp_ (b_Digits_roundTo_47 K x2 x3 t_used) n_47 = rec_47 at hf ih_47
      unfold b_Digits_roundTo_47 at hf
      refine lv_iload hx hb d_Digits_roundTo_47 (lv_at hl 3 rfl) ?_
      refine lv_iload_n hx hb d_Digits_roundTo_49 rfl (lv_at hl 1 rfl) ?_
      refine lv_icmp_ge (tgt := 67) hx hb d_Digits_roundTo_50 (by decide) (fun c_50 => ?_) (fun c_50 => ?_)
      · have hf := ip_ c_50 hf
        refine lv_iload_n hx hb d_Digits_roundTo_67 rfl (lv_at hl 2 rfl) ?_
        refine lv_if_eq (tgt := 76) hx hb d_Digits_roundTo_68 (by decide) (fun c_68 => ?_) (fun c_68 => ?_)
        · have hf := ip_ c_68 hf
          exact W_76 t_used z47.2  hf _ _ _ hP hD hS (lv_sub hl [0] rfl)
        · have hf := in_ c_68 hf
          refine lv_aload_n hx hb d_Digits_roundTo_71 rfl (lv_at hl 0 rfl) ?_
          refine lv_iload_n hx hb d_Digits_roundTo_72 rfl (lv_at hl 1 rfl) ?_
          obtain ⟨u_73, hu_73, hf⟩ := bd_ hf
          refine CALLWv (va_runV (As := [.int x2]) (rest := []) ⟨hx, hb, hml, hown, hg⟩ (c_Digits_carryInto l G K qt qt_limbs t_limbs qt_cells z47.2 t_used t_lowest x2 _ u_73  hu_73) (cwV 1 hg (gV m_176 m_177 m_178 m_179 m_180) rfl rfl rfl (by decide +kernel) ⟨Nat.le_of_ble_eq_true rfl, Nat.le_of_ble_eq_true rfl⟩) ⟨PC_b, va_recv hK hP (ci := 2) (q0 := 0) rfl rfl, PC_p hE hS hAb hP hD⟩ rfl rfl hl.1 rfl (lv_room (Nat.le_of_ble_eq_true rfl)) d_Digits_roundTo_73 ⟨Nat.zero_le _, Nat.zero_le _⟩) hP hD hS hA (fun H locs hP hD hS => ?_)
          have hP : va_P (gD G) vwCl (w_Digits_isZero G qt qt_limbs t_limbs qt_cells u_73.2 u_73.1 t_lowest) H := hP
          have hD : va_D A (w_Digits_isZero G qt qt_limbs t_limbs qt_cells u_73.2 u_73.1 t_lowest) := hD
          exact W_76 u_73.1 u_73.2  hf _ _ _ hP hD hS (lv_sub hl [0] rfl)
      · have hf := in_ c_50 hf
        refine lv_aload_n hx hb d_Digits_roundTo_53 rfl (lv_at hl 0 rfl) ?_
        refine va_get (D := gD G) (ci := 2) (v := .ref qt_cells) (C := R_Digits) (T := F_Digits) (N := 4) hx hb hg in_Digits hown hK hP 0 rfl rfl 1 (by decide) (hg _ m_175) (fun _ h9 => h9) rfl d_Digits_roundTo_54 ?_
        refine lv_iload hx hb d_Digits_roundTo_57 (lv_at hl 3 rfl) ?_
        refine lv_iconst (v := 0) hx hb d_Digits_roundTo_59 (by decide) ?_
        obtain ⟨g_60, hf⟩ := gd_ hf
        refine va_bast hx hb hK hP hD hS 2 0 rfl rfl (inB_in g_60) d_Digits_roundTo_60 (fun H locs hP hD hS => ?_)
        have hP : va_P (gD G) vwCl (w_Digits_isZero G qt qt_limbs t_limbs qt_cells (upd z47.2 z47.1.toNatClampNeg (vp_nar .byte (0 : Int32))) t_used t_lowest) H := hP
        have hD : va_D A (w_Digits_isZero G qt qt_limbs t_limbs qt_cells (upd z47.2 z47.1.toNatClampNeg (vp_nar .byte (0 : Int32))) t_used t_lowest) := hD
        refine lv_iinc (v := (z47.1 + 1)) (lv' := [(4, .int (z47.1 + 1)), (0, .ref qt), (2, .int x2), (3, .int x3)]) hx hb d_Digits_roundTo_61 hl (k := 3) rfl rfl (by decide) rfl (fun ls hl => ?_)
        refine lv_goto (tgt := 47) hx hb d_Digits_roundTo_64 (by decide) ?_
        exact ih_47 ((z47.1 + 1), (upd z47.2 z47.1.toNatClampNeg (vp_nar .byte (0 : Int32))))  hf _ _ _ hP hD hS (lv_sub hl [1, 2, 3, 0] rfl)
  have W_43 : ∀ (x2 : Int32) (k0 : Int32) (t_used : Int32) (t_cells : (Nat → Int32)) (b_k0 : bl k0), k_Digits_roundTo_43 K x2 k0 t_used t_cells = some res → ∀ (H : Heap) (locs : List Loc) (ls : Array Slot), va_P (gD G) vwCl (w_Digits_isZero G qt qt_limbs t_limbs qt_cells t_cells t_used t_lowest) H → va_D A (w_Digits_isZero G qt qt_limbs t_limbs qt_cells t_cells t_used t_lowest) → va_S A s.heap H locs → lv_has ls 5 [(0, .ref qt), (2, .int x2)] → W p l e { frames := 1, cells := 0, slots := 0, locals := 40 } s m ([.ref qt, .int a1] : List Value).toArray below meth c H locs 0 0 Q (F0 m 43 ls [.int k0]) := by
    intro x2 k0 t_used t_cells b_k0 hf H locs ls hP hD hS hl
    unfold k_Digits_roundTo_43 at hf
    refine lv_istore_n (lv' := [(3, .int k0), (0, .ref qt), (2, .int x2)]) hx hb d_Digits_roundTo_43 rfl hl (by decide) rfl (fun ls hl => ?_)
    refine lv_iconst (v := 0) hx hb d_Digits_roundTo_44 (by decide) ?_
    refine lv_istore (lv' := [(4, .int (0 : Int32)), (3, .int k0), (0, .ref qt), (2, .int x2)]) hx hb d_Digits_roundTo_45 hl (by decide) rfl (fun ls hl => ?_)
    exact W_47 x2 k0 t_used b_k0 K ((0 : Int32), t_cells)  hf _ _ _ hP hD hS (lv_sub hl [2, 3, 1, 0] rfl)
  unfold f_Digits_roundTo at hf
  refine lv_iload_n hx hb d_Digits_roundTo_0 rfl (lv_at hl 1 rfl) ?_
  refine lv_aload_n hx hb d_Digits_roundTo_1 rfl (lv_at hl 0 rfl) ?_
  refine va_get (D := gD G) (ci := 2) (v := .int t_lowest) (C := R_Digits) (T := F_Digits) (N := 4) hx hb hg in_Digits hown hK hP 0 rfl rfl 3 (by decide) (hg _ m_174) (fun _ h9 => h9) rfl d_Digits_roundTo_2 ?_
  refine lv_isub hx hb d_Digits_roundTo_5 ?_
  refine lv_istore_n (lv' := [(2, .int (a1 - t_lowest)), (0, .ref qt), (1, .int a1)]) hx hb d_Digits_roundTo_6 rfl hl (by decide) rfl (fun ls hl => ?_)
  refine lv_iload_n hx hb d_Digits_roundTo_7 rfl (lv_at hl 0 rfl) ?_
  refine lv_if_gt (tgt := 12) hx hb d_Digits_roundTo_8 (by decide) (fun c_8 => ?_) (fun c_8 => ?_)
  · have hf := ip_ c_8 hf
    refine lv_iload_n hx hb d_Digits_roundTo_12 rfl (lv_at hl 0 rfl) ?_
    refine lv_aload_n hx hb d_Digits_roundTo_13 rfl (lv_at hl 1 rfl) ?_
    refine va_get (D := gD G) (ci := 2) (v := .int t_used) (C := R_Digits) (T := F_Digits) (N := 4) hx hb hg in_Digits hown hK hP 0 rfl rfl 2 (by decide) (hg _ m_173) (fun _ h9 => h9) rfl d_Digits_roundTo_14 ?_
    refine lv_icmp_le (tgt := 26) hx hb d_Digits_roundTo_17 (by decide) (fun c_17 => ?_) (fun c_17 => ?_)
    · have hf := ip_ c_17 hf
      refine lv_aload_n hx hb d_Digits_roundTo_26 rfl (lv_at hl 1 rfl) ?_
      refine va_get (D := gD G) (ci := 2) (v := .ref qt_cells) (C := R_Digits) (T := F_Digits) (N := 4) hx hb hg in_Digits hown hK hP 0 rfl rfl 1 (by decide) (hg _ m_175) (fun _ h9 => h9) rfl d_Digits_roundTo_27 ?_
      refine lv_iload_n hx hb d_Digits_roundTo_30 rfl (lv_at hl 0 rfl) ?_
      refine lv_iconst (v := 1) hx hb d_Digits_roundTo_31 (by decide) ?_
      refine lv_isub hx hb d_Digits_roundTo_32 ?_
      obtain ⟨g_33, hf⟩ := gd_ hf
      refine va_bald hx hb hK hP 2 0 rfl rfl (inB_in g_33) d_Digits_roundTo_33 ?_
      refine lv_iconst (v := 5) hx hb d_Digits_roundTo_34 (by decide) ?_
      refine lv_icmp_lt (tgt := 42) hx hb d_Digits_roundTo_35 (by decide) (fun c_35 => ?_) (fun c_35 => ?_)
      · have hf := ip_ c_35 hf
        refine lv_iconst (v := 0) hx hb d_Digits_roundTo_42 (by decide) ?_
        exact W_43 (a1 - t_lowest) (0 : Int32) t_used t_cells bl_0 hf _ _ _ hP hD hS (lv_sub hl [1, 0] rfl)
      · have hf := in_ c_35 hf
        refine lv_iconst (v := 1) hx hb d_Digits_roundTo_38 (by decide) ?_
        refine lv_goto (tgt := 43) hx hb d_Digits_roundTo_39 (by decide) ?_
        exact W_43 (a1 - t_lowest) (1 : Int32) t_used t_cells bl_1 hf _ _ _ hP hD hS (lv_sub hl [1, 0] rfl)
    · have hf := in_ c_17 hf
      refine lv_aload_n hx hb d_Digits_roundTo_20 rfl (lv_at hl 1 rfl) ?_
      refine lv_iconst (v := 0) hx hb d_Digits_roundTo_21 (by decide) ?_
      refine va_put (D := gD G) (ci := 2) (v := .int (0 : Int32)) (ty := .int) (C := R_Digits) (T := F_Digits) (N := 4) hx hb hg in_Digits t_Digits to_Digits no_Digits hown hK hP hD hS 0 rfl rfl 2 (by decide) (hg _ m_173) (fun _ h9 => h9) rfl (by decide +kernel) rfl rfl (Nat.le_of_ble_eq_true rfl) d_Digits_roundTo_22 (fun H locs hP hD hS => ?_)
      have hP : va_P (gD G) vwCl (w_Digits_isZero G qt qt_limbs t_limbs qt_cells t_cells (0 : Int32) t_lowest) H := hP
      have hD : va_D A (w_Digits_isZero G qt qt_limbs t_limbs qt_cells t_cells (0 : Int32) t_lowest) := hD
      obtain rfl := Option.some.inj hf
      rw [← hQ]
      exact W.vret hx hb hr (fun t9 ht hW => ⟨⟨(), rfl, trivial, ⟨by rw [ht]; exact hP, hD⟩⟩, hS.F ht⟩) hS.2.2 d_Digits_roundTo_25
  · have hf := in_ c_8 hf
    obtain rfl := Option.some.inj hf
    rw [← hQ]
    exact W.vret hx hb hr (fun t9 ht hW => ⟨⟨(), rfl, trivial, ⟨by rw [ht]; exact hP, hD⟩⟩, hS.F ht⟩) hS.2.2 d_Digits_roundTo_11
theorem d_Digits_setLimbs_0 : decode cd_Digits_setLimbs 0 = .ok (.iload_n 1, 1) := by decide +kernel
theorem d_Digits_setLimbs_1 : decode cd_Digits_setLimbs 1 = .ok (.ifCond .lt 34, 3) := by decide +kernel
theorem d_Digits_setLimbs_4 : decode cd_Digits_setLimbs 4 = .ok (.iload_n 1, 1) := by decide +kernel
theorem d_Digits_setLimbs_5 : decode cd_Digits_setLimbs 5 = .ok (.bipush 8, 2) := by decide +kernel
theorem d_Digits_setLimbs_7 : decode cd_Digits_setLimbs 7 = .ok (.if_icmp .ge 28, 3) := by decide +kernel
theorem d_Digits_setLimbs_10 : decode cd_Digits_setLimbs 10 = .ok (.aload_n 0, 1) := by decide +kernel
theorem d_Digits_setLimbs_11 : decode cd_Digits_setLimbs 11 = .ok (.getfield 9, 3) := by decide +kernel
theorem d_Digits_setLimbs_14 : decode cd_Digits_setLimbs 14 = .ok (.iconst 2, 1) := by decide +kernel
theorem d_Digits_setLimbs_15 : decode cd_Digits_setLimbs 15 = .ok (.iload_n 1, 1) := by decide +kernel
theorem d_Digits_setLimbs_16 : decode cd_Digits_setLimbs 16 = .ok (.imul, 1) := by decide +kernel
theorem d_Digits_setLimbs_17 : decode cd_Digits_setLimbs 17 = .ok (.lload_n 2, 1) := by decide +kernel
theorem d_Digits_setLimbs_18 : decode cd_Digits_setLimbs 18 = .ok (.l2i, 1) := by decide +kernel
theorem d_Digits_setLimbs_19 : decode cd_Digits_setLimbs 19 = .ok (.iastore, 1) := by decide +kernel
theorem d_Digits_setLimbs_20 : decode cd_Digits_setLimbs 20 = .ok (.aload_n 0, 1) := by decide +kernel
theorem d_Digits_setLimbs_21 : decode cd_Digits_setLimbs 21 = .ok (.getfield 9, 3) := by decide +kernel
theorem d_Digits_setLimbs_24 : decode cd_Digits_setLimbs 24 = .ok (.iconst 2, 1) := by decide +kernel
theorem d_Digits_setLimbs_25 : decode cd_Digits_setLimbs 25 = .ok (.iload_n 1, 1) := by decide +kernel
theorem d_Digits_setLimbs_26 : decode cd_Digits_setLimbs 26 = .ok (.imul, 1) := by decide +kernel
theorem d_Digits_setLimbs_27 : decode cd_Digits_setLimbs 27 = .ok (.iconst 1, 1) := by decide +kernel
theorem d_Digits_setLimbs_28 : decode cd_Digits_setLimbs 28 = .ok (.iadd, 1) := by decide +kernel
theorem d_Digits_setLimbs_29 : decode cd_Digits_setLimbs 29 = .ok (.lload_n 2, 1) := by decide +kernel
theorem d_Digits_setLimbs_30 : decode cd_Digits_setLimbs 30 = .ok (.bipush 32, 2) := by decide +kernel
theorem d_Digits_setLimbs_32 : decode cd_Digits_setLimbs 32 = .ok (.lushr, 1) := by decide +kernel
theorem d_Digits_setLimbs_33 : decode cd_Digits_setLimbs 33 = .ok (.l2i, 1) := by decide +kernel
theorem d_Digits_setLimbs_34 : decode cd_Digits_setLimbs 34 = .ok (.iastore, 1) := by decide +kernel
theorem d_Digits_setLimbs_35 : decode cd_Digits_setLimbs 35 = .ok (.return_, 1) := by decide +kernel
theorem m_185 : Cond.fieldLink R_Digits 9 "SpecifierDesk$Digits" "limbs" "[I" ∈ gw := gm (i := 190) (by decide +kernel) (by decide +kernel)
def f_Digits_setLimbs (t_limbs : Nat → Int32) (a1 : Int32) (a2 : Int64) : Option (Nat → Int32) :=
  (if a1 < 0 then some t_limbs else (if (8 : Int32) ≤ a1 then some t_limbs else (if inB ((2 : Int32) * a1) 16 = true then (if inB (((2 : Int32) * a1) + (1 : Int32)) 16 = true then some (upd (upd t_limbs ((2 : Int32) * a1).toNatClampNeg a2.toInt32) (((2 : Int32) * a1) + (1 : Int32)).toNatClampNeg (((a2.toUInt64 >>> ((32 : Int32).toInt64.toUInt64 &&& Int64.toUInt64 63)).toInt64).toInt32)) else none) else none)))
set_option maxHeartbeats 4000000 in
set_option maxRecDepth 100000 in
theorem c_Digits_setLimbs (l : Launch) (G : Gt) (K : Nat) (qt : Nat) (qt_limbs : Nat) (t_limbs : Nat → Int32) (qt_cells : Nat) (t_cells : Nat → Int32) (t_used : Int32) (t_lowest : Int32) (a1 : Int32) (a2 : Int64) (sz : Nat) (res : (Nat → Int32))   (hf : f_Digits_setLimbs t_limbs a1 a2 = some res) : Met l y_Digits_setLimbs (.code y_Digits_setLimbs cd_Digits_setLimbs 4 none :: gw) { frames := 0, cells := 0, slots := 0, locals := 0 } (PC G ([.ref qt, .int a1, .long a2] : List Value) sz (w_Digits_isZero G qt qt_limbs t_limbs qt_cells t_cells t_used t_lowest)) (QV G (va_A (w_Digits_isZero G qt qt_limbs t_limbs qt_cells t_cells t_used t_lowest) sz) (w_Digits_isZero G qt qt_limbs res qt_cells t_cells t_used t_lowest)) 0 0 (va_A (w_Digits_isZero G qt qt_limbs t_limbs qt_cells t_cells t_used t_lowest) sz) := by
  refine Met.ofW (cc := cd_Digits_setLimbs) (maxL := 4) (ret := none) (by decide) rfl ?_
  intro p e s m args below meth c s₁ B hml hv
  obtain ⟨rfl, hsz, hP, hE, hD0⟩ := hv
  have hx := B.exec
  have hb := B.bytes
  have hr := B.returns
  have hts := atoms_spec (ws := (.code y_Digits_setLimbs cd_Digits_setLimbs 4 none :: gw)) B.pre
  have hg : ∀ w ∈ gw, w.before _ s = true := fun w h => hts w (List.mem_cons_of_mem _ h)
  have hown : s.vm.findClass R_Digits = some m.cls := findClass_of_methodNamed B.named
  have hlocks := B.notSynchronized
  subst hsz
  have hK := hE.K
  have hD := hD0.self (sz := s.heap.size)
  have hAb := hE.ab hD0
  obtain ⟨Q, hQ⟩ : ∃ Q, MQ below (QV G (va_A (w_Digits_isZero G qt qt_limbs t_limbs qt_cells t_cells t_used t_lowest) s.heap.size) (w_Digits_isZero G qt qt_limbs res qt_cells t_cells t_used t_lowest)) ([.ref qt, .int a1, .long a2] : List Value).toArray s 0 0 (va_A (w_Digits_isZero G qt qt_limbs t_limbs qt_cells t_cells t_used t_lowest) s.heap.size) = Q := ⟨_, rfl⟩
  show W p l e { frames := 0, cells := 0, slots := 0, locals := 0 } s m ([.ref qt, .int a1, .long a2] : List Value).toArray below meth c s.heap [] 0 0 (MQ below (QV G (va_A (w_Digits_isZero G qt qt_limbs t_limbs qt_cells t_cells t_used t_lowest) s.heap.size) (w_Digits_isZero G qt qt_limbs res qt_cells t_cells t_used t_lowest)) ([.ref qt, .int a1, .long a2] : List Value).toArray s 0 0 (va_A (w_Digits_isZero G qt qt_limbs t_limbs qt_cells t_cells t_used t_lowest) s.heap.size)) _
  rw [hQ]
  have hA : ∀ q : Nat, s.heap.size ≤ q → va_A (w_Digits_isZero G qt qt_limbs t_limbs qt_cells t_cells t_used t_lowest) s.heap.size q := fun q h => Or.inr h
  obtain ⟨A, hAe⟩ : ∃ A, va_A (w_Digits_isZero G qt qt_limbs t_limbs qt_cells t_cells t_used t_lowest) s.heap.size = A := ⟨_, rfl⟩
  rw [hAe] at hA hD hAb hQ
  have hS : va_S A s.heap s.heap [] := va_S.rf
  have hl := lv_entry (([.ref qt, .int a1, .long a2] : List Value)) (n := 4) (Nat.le_of_ble_eq_true rfl)
  rw [lg_entry_eq]
  generalize (lg_sl (([.ref qt, .int a1, .long a2] : List Value)) ++ List.replicate (4 - (lg_sl (([.ref qt, .int a1, .long a2] : List Value))).length) Slot.unset).toArray = ls at hl ⊢
  have hl : lv_has ls 4 [(0, .ref qt), (1, .int a1), (2, .long a2)] := hl
  unfold f_Digits_setLimbs at hf
  refine lv_iload_n hx hb d_Digits_setLimbs_0 rfl (lv_at hl 1 rfl) ?_
  refine lv_if_lt (tgt := 35) hx hb d_Digits_setLimbs_1 (by decide) (fun c_1 => ?_) (fun c_1 => ?_)
  · have hf := ip_ c_1 hf
    obtain rfl := Option.some.inj hf
    rw [← hQ]
    exact W.vret hx hb hr (fun t9 ht hW => ⟨⟨(), rfl, trivial, ⟨by rw [ht]; exact hP, hD⟩⟩, hS.F ht⟩) hS.2.2 d_Digits_setLimbs_35
  · have hf := in_ c_1 hf
    refine lv_iload_n hx hb d_Digits_setLimbs_4 rfl (lv_at hl 1 rfl) ?_
    refine lv_bipush (v := 8) hx hb d_Digits_setLimbs_5 (by decide) ?_
    refine lv_icmp_ge (tgt := 35) hx hb d_Digits_setLimbs_7 (by decide) (fun c_7 => ?_) (fun c_7 => ?_)
    · have hf := ip_ c_7 hf
      obtain rfl := Option.some.inj hf
      rw [← hQ]
      exact W.vret hx hb hr (fun t9 ht hW => ⟨⟨(), rfl, trivial, ⟨by rw [ht]; exact hP, hD⟩⟩, hS.F ht⟩) hS.2.2 d_Digits_setLimbs_35
    · have hf := in_ c_7 hf
      refine lv_aload_n hx hb d_Digits_setLimbs_10 rfl (lv_at hl 0 rfl) ?_
      refine va_get (D := gD G) (ci := 2) (v := .ref qt_limbs) (C := R_Digits) (T := F_Digits) (N := 4) hx hb hg in_Digits hown hK hP 0 rfl rfl 0 (by decide) (hg _ m_185) (fun _ h9 => h9) rfl d_Digits_setLimbs_11 ?_
      refine lv_iconst (v := 2) hx hb d_Digits_setLimbs_14 (by decide) ?_
      refine lv_iload_n hx hb d_Digits_setLimbs_15 rfl (lv_at hl 1 rfl) ?_
      refine lv_imul hx hb d_Digits_setLimbs_16 ?_
      refine lv_lload_n hx hb d_Digits_setLimbs_17 rfl (lv_at hl 2 rfl) ?_
      refine lv_l2i (v := a2.toInt32) hx hb d_Digits_setLimbs_18 rfl ?_
      obtain ⟨g_19, hf⟩ := gd_ hf
      refine va_iast hx hb hK hP hD hS 1 1 rfl rfl (inB_in g_19) d_Digits_setLimbs_19 (fun H locs hP hD hS => ?_)
      have hP : va_P (gD G) vwCl (w_Digits_isZero G qt qt_limbs (upd t_limbs ((2 : Int32) * a1).toNatClampNeg a2.toInt32) qt_cells t_cells t_used t_lowest) H := hP
      have hD : va_D A (w_Digits_isZero G qt qt_limbs (upd t_limbs ((2 : Int32) * a1).toNatClampNeg a2.toInt32) qt_cells t_cells t_used t_lowest) := hD
      refine lv_aload_n hx hb d_Digits_setLimbs_20 rfl (lv_at hl 0 rfl) ?_
      refine va_get (D := gD G) (ci := 2) (v := .ref qt_limbs) (C := R_Digits) (T := F_Digits) (N := 4) hx hb hg in_Digits hown hK hP 0 rfl rfl 0 (by decide) (hg _ m_185) (fun _ h9 => h9) rfl d_Digits_setLimbs_21 ?_
      refine lv_iconst (v := 2) hx hb d_Digits_setLimbs_24 (by decide) ?_
      refine lv_iload_n hx hb d_Digits_setLimbs_25 rfl (lv_at hl 1 rfl) ?_
      refine lv_imul hx hb d_Digits_setLimbs_26 ?_
      refine lv_iconst (v := 1) hx hb d_Digits_setLimbs_27 (by decide) ?_
      refine lv_iadd hx hb d_Digits_setLimbs_28 ?_
      refine lv_lload_n hx hb d_Digits_setLimbs_29 rfl (lv_at hl 2 rfl) ?_
      refine lv_bipush (v := 32) hx hb d_Digits_setLimbs_30 (by decide) ?_
      refine lv_lushr (v := (a2.toUInt64 >>> ((32 : Int32).toInt64.toUInt64 &&& Int64.toUInt64 63)).toInt64) hx hb d_Digits_setLimbs_32 rfl ?_
      refine lv_l2i (v := ((a2.toUInt64 >>> ((32 : Int32).toInt64.toUInt64 &&& Int64.toUInt64 63)).toInt64).toInt32) hx hb d_Digits_setLimbs_33 rfl ?_
      obtain ⟨g_34, hf⟩ := gd_ hf
      refine va_iast hx hb hK hP hD hS 1 1 rfl rfl (inB_in g_34) d_Digits_setLimbs_34 (fun H locs hP hD hS => ?_)
      have hP : va_P (gD G) vwCl (w_Digits_isZero G qt qt_limbs (upd (upd t_limbs ((2 : Int32) * a1).toNatClampNeg a2.toInt32) (((2 : Int32) * a1) + (1 : Int32)).toNatClampNeg (((a2.toUInt64 >>> ((32 : Int32).toInt64.toUInt64 &&& Int64.toUInt64 63)).toInt64).toInt32)) qt_cells t_cells t_used t_lowest) H := hP
      have hD : va_D A (w_Digits_isZero G qt qt_limbs (upd (upd t_limbs ((2 : Int32) * a1).toNatClampNeg a2.toInt32) (((2 : Int32) * a1) + (1 : Int32)).toNatClampNeg (((a2.toUInt64 >>> ((32 : Int32).toInt64.toUInt64 &&& Int64.toUInt64 63)).toInt64).toInt32)) qt_cells t_cells t_used t_lowest) := hD
      obtain rfl := Option.some.inj hf
      rw [← hQ]
      exact W.vret hx hb hr (fun t9 ht hW => ⟨⟨(), rfl, trivial, ⟨by rw [ht]; exact hP, hD⟩⟩, hS.F ht⟩) hS.2.2 d_Digits_setLimbs_35
theorem d_Digits_topFrom_0 : decode cd_Digits_topFrom 0 = .ok (.iload_n 1, 1) := by decide +kernel
theorem d_Digits_topFrom_1 : decode cd_Digits_topFrom 1 = .ok (.istore_n 2, 1) := by decide +kernel
theorem d_Digits_topFrom_2 : decode cd_Digits_topFrom 2 = .ok (.iload_n 2, 1) := by decide +kernel
theorem d_Digits_topFrom_3 : decode cd_Digits_topFrom 3 = .ok (.ifCond .le 20, 3) := by decide +kernel
theorem d_Digits_topFrom_6 : decode cd_Digits_topFrom 6 = .ok (.aload_n 0, 1) := by decide +kernel
theorem d_Digits_topFrom_7 : decode cd_Digits_topFrom 7 = .ok (.getfield 9, 3) := by decide +kernel
theorem d_Digits_topFrom_10 : decode cd_Digits_topFrom 10 = .ok (.iload_n 2, 1) := by decide +kernel
theorem d_Digits_topFrom_11 : decode cd_Digits_topFrom 11 = .ok (.iconst 1, 1) := by decide +kernel
theorem d_Digits_topFrom_12 : decode cd_Digits_topFrom 12 = .ok (.isub, 1) := by decide +kernel
theorem d_Digits_topFrom_13 : decode cd_Digits_topFrom 13 = .ok (.iaload, 1) := by decide +kernel
theorem d_Digits_topFrom_14 : decode cd_Digits_topFrom 14 = .ok (.ifCond .ne 9, 3) := by decide +kernel
theorem d_Digits_topFrom_17 : decode cd_Digits_topFrom 17 = .ok (.iinc 2 (-1), 3) := by decide +kernel
theorem d_Digits_topFrom_20 : decode cd_Digits_topFrom 20 = .ok (.goto (-18), 3) := by decide +kernel
theorem d_Digits_topFrom_23 : decode cd_Digits_topFrom 23 = .ok (.iload_n 2, 1) := by decide +kernel
theorem d_Digits_topFrom_24 : decode cd_Digits_topFrom 24 = .ok (.ireturn, 1) := by decide +kernel
def b_Digits_topFrom_2 (t_limbs : Nat → Int32)  (rec_2 : Int32 → Option Int32) (z2 : Int32) : Option Int32 :=
  (if z2 ≤ 0 then some z2 else (if inB (z2 - (1 : Int32)) 16 = true then (if (t_limbs (z2 - (1 : Int32)).toNatClampNeg) = 0 then rec_2 (z2 + (-1)) else some z2) else none))
def f_Digits_topFrom (K : Nat) (t_limbs : Nat → Int32) (a1 : Int32) : Option Int32 :=
  lp_ (b_Digits_topFrom_2 t_limbs ) K a1
set_option maxHeartbeats 4000000 in
set_option maxRecDepth 100000 in
theorem c_Digits_topFrom (l : Launch) (G : Gt) (K : Nat) (qt : Nat) (qt_limbs : Nat) (t_limbs : Nat → Int32) (qt_cells : Nat) (t_cells : Nat → Int32) (t_used : Int32) (t_lowest : Int32) (a1 : Int32) (sz : Nat) (res : Int32)   (hf : f_Digits_topFrom K t_limbs a1 = some res) : Met l y_Digits_topFrom (.code y_Digits_topFrom cd_Digits_topFrom 3 (some .int) :: gw) { frames := 0, cells := 0, slots := 0, locals := 0 } (PC G ([.ref qt, .int a1] : List Value) sz (w_Digits_isZero G qt qt_limbs t_limbs qt_cells t_cells t_used t_lowest)) (QI G res (va_A (w_Digits_isZero G qt qt_limbs t_limbs qt_cells t_cells t_used t_lowest) sz) (w_Digits_isZero G qt qt_limbs t_limbs qt_cells t_cells t_used t_lowest)) 0 0 (va_A (w_Digits_isZero G qt qt_limbs t_limbs qt_cells t_cells t_used t_lowest) sz) := by
  refine Met.ofW (cc := cd_Digits_topFrom) (maxL := 3) (ret := (some .int)) (by decide) rfl ?_
  intro p e s m args below meth c s₁ B hml hv
  obtain ⟨rfl, hsz, hP, hE, hD0⟩ := hv
  have hx := B.exec
  have hb := B.bytes
  have hr := B.returns
  have hts := atoms_spec (ws := (.code y_Digits_topFrom cd_Digits_topFrom 3 (some .int) :: gw)) B.pre
  have hg : ∀ w ∈ gw, w.before _ s = true := fun w h => hts w (List.mem_cons_of_mem _ h)
  have hown : s.vm.findClass R_Digits = some m.cls := findClass_of_methodNamed B.named
  have hlocks := B.notSynchronized
  subst hsz
  have hK := hE.K
  have hD := hD0.self (sz := s.heap.size)
  have hAb := hE.ab hD0
  obtain ⟨Q, hQ⟩ : ∃ Q, MQ below (QI G res (va_A (w_Digits_isZero G qt qt_limbs t_limbs qt_cells t_cells t_used t_lowest) s.heap.size) (w_Digits_isZero G qt qt_limbs t_limbs qt_cells t_cells t_used t_lowest)) ([.ref qt, .int a1] : List Value).toArray s 0 0 (va_A (w_Digits_isZero G qt qt_limbs t_limbs qt_cells t_cells t_used t_lowest) s.heap.size) = Q := ⟨_, rfl⟩
  show W p l e { frames := 0, cells := 0, slots := 0, locals := 0 } s m ([.ref qt, .int a1] : List Value).toArray below meth c s.heap [] 0 0 (MQ below (QI G res (va_A (w_Digits_isZero G qt qt_limbs t_limbs qt_cells t_cells t_used t_lowest) s.heap.size) (w_Digits_isZero G qt qt_limbs t_limbs qt_cells t_cells t_used t_lowest)) ([.ref qt, .int a1] : List Value).toArray s 0 0 (va_A (w_Digits_isZero G qt qt_limbs t_limbs qt_cells t_cells t_used t_lowest) s.heap.size)) _
  rw [hQ]
  have hA : ∀ q : Nat, s.heap.size ≤ q → va_A (w_Digits_isZero G qt qt_limbs t_limbs qt_cells t_cells t_used t_lowest) s.heap.size q := fun q h => Or.inr h
  obtain ⟨A, hAe⟩ : ∃ A, va_A (w_Digits_isZero G qt qt_limbs t_limbs qt_cells t_cells t_used t_lowest) s.heap.size = A := ⟨_, rfl⟩
  rw [hAe] at hA hD hAb hQ
  have hS : va_S A s.heap s.heap [] := va_S.rf
  have hl := lv_entry (([.ref qt, .int a1] : List Value)) (n := 3) (Nat.le_of_ble_eq_true rfl)
  rw [lg_entry_eq]
  generalize (lg_sl (([.ref qt, .int a1] : List Value)) ++ List.replicate (3 - (lg_sl (([.ref qt, .int a1] : List Value))).length) Slot.unset).toArray = ls at hl ⊢
  have hl : lv_has ls 3 [(0, .ref qt), (1, .int a1)] := hl
  have W_2 : ∀   (n_2 : Nat) (z2 : Int32) , lp_ (b_Digits_topFrom_2 t_limbs ) n_2 z2 = some res → ∀ (H : Heap) (locs : List Loc) (ls : Array Slot), va_P (gD G) vwCl (w_Digits_isZero G qt qt_limbs t_limbs qt_cells t_cells t_used t_lowest) H → va_D A (w_Digits_isZero G qt qt_limbs t_limbs qt_cells t_cells t_used t_lowest) → va_S A s.heap H locs → lv_has ls 3 [(0, .ref qt), (2, .int z2)] → W p l e { frames := 0, cells := 0, slots := 0, locals := 0 } s m ([.ref qt, .int a1] : List Value).toArray below meth c H locs 0 0 Q (F0 m 2 ls []) := by
    intro  n_2
    induction n_2 with
    | zero =>
      intro z2  hf
      cases hf
    | succ n_2 ih_2 =>
      intro z2  hf H locs ls hP hD hS hl
      have hf : b_Digits_topFrom_2 t_limbs  (lp_ (b_Digits_topFrom_2 t_limbs ) n_2) z2 = some res := hf
      generalize lp_ (b_Digits_topFrom_2 t_limbs ) n_2 = rec_2 at hf ih_2
      unfold b_Digits_topFrom_2 at hf
      refine lv_iload_n hx hb d_Digits_topFrom_2 rfl (lv_at hl 1 rfl) ?_
      refine lv_if_le (tgt := 23) hx hb d_Digits_topFrom_3 (by decide) (fun c_3 => ?_) (fun c_3 => ?_)
      · have hf := ip_ c_3 hf
        refine lv_iload_n hx hb d_Digits_topFrom_23 rfl (lv_at hl 1 rfl) ?_
        obtain rfl := Option.some.inj hf
        rw [← hQ]
        exact W.iret (v := z2) hx hb hr (fun t9 ht hW => ⟨⟨z2, (), rfl, rfl, ⟨by rw [ht]; exact hP, hD⟩⟩, hS.F ht⟩) hS.2.2 d_Digits_topFrom_24
      · have hf := in_ c_3 hf
        refine lv_aload_n hx hb d_Digits_topFrom_6 rfl (lv_at hl 0 rfl) ?_
        refine va_get (D := gD G) (ci := 2) (v := .ref qt_limbs) (C := R_Digits) (T := F_Digits) (N := 4) hx hb hg in_Digits hown hK hP 0 rfl rfl 0 (by decide) (hg _ m_185) (fun _ h9 => h9) rfl d_Digits_topFrom_7 ?_
        refine lv_iload_n hx hb d_Digits_topFrom_10 rfl (lv_at hl 1 rfl) ?_
        refine lv_iconst (v := 1) hx hb d_Digits_topFrom_11 (by decide) ?_
        refine lv_isub hx hb d_Digits_topFrom_12 ?_
        obtain ⟨g_13, hf⟩ := gd_ hf
        refine va_iald hx hb hK hP 1 1 rfl rfl (inB_in g_13) d_Digits_topFrom_13 ?_
        refine lv_if_ne (tgt := 23) hx hb d_Digits_topFrom_14 (by decide) (fun c_14 => ?_) (fun c_14 => ?_)
        · have hf := in_ c_14 hf
          refine lv_iload_n hx hb d_Digits_topFrom_23 rfl (lv_at hl 1 rfl) ?_
          obtain rfl := Option.some.inj hf
          rw [← hQ]
          exact W.iret (v := z2) hx hb hr (fun t9 ht hW => ⟨⟨z2, (), rfl, rfl, ⟨by rw [ht]; exact hP, hD⟩⟩, hS.F ht⟩) hS.2.2 d_Digits_topFrom_24
        · have hf := ip_ c_14 hf
          refine lv_iinc (v := (z2 + (-1))) (lv' := [(2, .int (z2 + (-1))), (0, .ref qt)]) hx hb d_Digits_topFrom_17 hl (k := 1) rfl rfl (by decide) rfl (fun ls hl => ?_)
          refine lv_goto (tgt := 2) hx hb d_Digits_topFrom_20 (by decide) ?_
          exact ih_2 (z2 + (-1))  hf _ _ _ hP hD hS (lv_sub hl [1, 0] rfl)
  unfold f_Digits_topFrom at hf
  refine lv_iload_n hx hb d_Digits_topFrom_0 rfl (lv_at hl 1 rfl) ?_
  refine lv_istore_n (lv' := [(2, .int a1), (0, .ref qt), (1, .int a1)]) hx hb d_Digits_topFrom_1 rfl hl (by decide) rfl (fun ls hl => ?_)
  exact W_2   K a1  hf _ _ _ hP hD hS (lv_sub hl [1, 0] rfl)
theorem d_Digits_divide_0 : decode cd_Digits_divide 0 = .ok (.lconst 0, 1) := by decide +kernel
theorem d_Digits_divide_1 : decode cd_Digits_divide 1 = .ok (.lstore_n 3, 1) := by decide +kernel
theorem d_Digits_divide_2 : decode cd_Digits_divide 2 = .ok (.iload_n 1, 1) := by decide +kernel
theorem d_Digits_divide_3 : decode cd_Digits_divide 3 = .ok (.iconst 1, 1) := by decide +kernel
theorem d_Digits_divide_4 : decode cd_Digits_divide 4 = .ok (.isub, 1) := by decide +kernel
theorem d_Digits_divide_5 : decode cd_Digits_divide 5 = .ok (.istore 5, 2) := by decide +kernel
theorem d_Digits_divide_7 : decode cd_Digits_divide 7 = .ok (.iload 5, 2) := by decide +kernel
theorem d_Digits_divide_9 : decode cd_Digits_divide 9 = .ok (.ifCond .lt 51, 3) := by decide +kernel
theorem d_Digits_divide_12 : decode cd_Digits_divide 12 = .ok (.iload_n 2, 1) := by decide +kernel
theorem d_Digits_divide_13 : decode cd_Digits_divide 13 = .ok (.ifCond .le 47, 3) := by decide +kernel
theorem d_Digits_divide_16 : decode cd_Digits_divide 16 = .ok (.lload_n 3, 1) := by decide +kernel
theorem d_Digits_divide_17 : decode cd_Digits_divide 17 = .ok (.bipush 32, 2) := by decide +kernel
theorem d_Digits_divide_19 : decode cd_Digits_divide 19 = .ok (.lshl, 1) := by decide +kernel
theorem d_Digits_divide_20 : decode cd_Digits_divide 20 = .ok (.aload_n 0, 1) := by decide +kernel
theorem d_Digits_divide_21 : decode cd_Digits_divide 21 = .ok (.getfield 9, 3) := by decide +kernel
theorem d_Digits_divide_24 : decode cd_Digits_divide 24 = .ok (.iload 5, 2) := by decide +kernel
theorem d_Digits_divide_26 : decode cd_Digits_divide 26 = .ok (.iaload, 1) := by decide +kernel
theorem d_Digits_divide_27 : decode cd_Digits_divide 27 = .ok (.i2l, 1) := by decide +kernel
theorem d_Digits_divide_28 : decode cd_Digits_divide 28 = .ok (.ldc2_w 62, 3) := by decide +kernel
theorem d_Digits_divide_31 : decode cd_Digits_divide 31 = .ok (.land, 1) := by decide +kernel
theorem d_Digits_divide_32 : decode cd_Digits_divide 32 = .ok (.lor, 1) := by decide +kernel
theorem d_Digits_divide_33 : decode cd_Digits_divide 33 = .ok (.lstore 6, 2) := by decide +kernel
theorem d_Digits_divide_35 : decode cd_Digits_divide 35 = .ok (.aload_n 0, 1) := by decide +kernel
theorem d_Digits_divide_36 : decode cd_Digits_divide 36 = .ok (.getfield 9, 3) := by decide +kernel
theorem d_Digits_divide_39 : decode cd_Digits_divide 39 = .ok (.iload 5, 2) := by decide +kernel
theorem d_Digits_divide_41 : decode cd_Digits_divide 41 = .ok (.lload 6, 2) := by decide +kernel
theorem d_Digits_divide_43 : decode cd_Digits_divide 43 = .ok (.iload_n 2, 1) := by decide +kernel
theorem d_Digits_divide_44 : decode cd_Digits_divide 44 = .ok (.i2l, 1) := by decide +kernel
theorem d_Digits_divide_45 : decode cd_Digits_divide 45 = .ok (.ldiv, 1) := by decide +kernel
theorem d_Digits_divide_46 : decode cd_Digits_divide 46 = .ok (.l2i, 1) := by decide +kernel
theorem d_Digits_divide_47 : decode cd_Digits_divide 47 = .ok (.iastore, 1) := by decide +kernel
theorem d_Digits_divide_48 : decode cd_Digits_divide 48 = .ok (.lload 6, 2) := by decide +kernel
theorem d_Digits_divide_50 : decode cd_Digits_divide 50 = .ok (.iload_n 2, 1) := by decide +kernel
theorem d_Digits_divide_51 : decode cd_Digits_divide 51 = .ok (.i2l, 1) := by decide +kernel
theorem d_Digits_divide_52 : decode cd_Digits_divide 52 = .ok (.lrem, 1) := by decide +kernel
theorem d_Digits_divide_53 : decode cd_Digits_divide 53 = .ok (.lstore_n 3, 1) := by decide +kernel
theorem d_Digits_divide_54 : decode cd_Digits_divide 54 = .ok (.iinc 5 (-1), 3) := by decide +kernel
theorem d_Digits_divide_57 : decode cd_Digits_divide 57 = .ok (.goto (-50), 3) := by decide +kernel
theorem d_Digits_divide_60 : decode cd_Digits_divide 60 = .ok (.lload_n 3, 1) := by decide +kernel
theorem d_Digits_divide_61 : decode cd_Digits_divide 61 = .ok (.lreturn, 1) := by decide +kernel
theorem m_186 : Cond.constantLong R_Digits 62 4294967295 ∈ gw := gm (i := 711) (by decide +kernel) (by decide +kernel)
def b_Digits_divide_7 (a2 : Int32)  (rec_7 : (Int64 × Int32 × (Nat → Int32)) → Option (Int64 × (Nat → Int32))) (z7 : Int64 × Int32 × (Nat → Int32)) : Option (Int64 × (Nat → Int32)) :=
  (if z7.2.1 < 0 then some (z7.1, z7.2.2) else (if a2 ≤ 0 then some (z7.1, z7.2.2) else (if inB z7.2.1 16 = true then (if a2.toInt64 = 0 then none else (if inB z7.2.1 16 = true then (if a2.toInt64 = 0 then none else rec_7 ((((z7.1 <<< ((32 : Int32).toInt64 &&& 63)) ||| ((z7.2.2 z7.2.1.toNatClampNeg).toInt64 &&& (4294967295 : Int64))) - ((z7.1 <<< ((32 : Int32).toInt64 &&& 63)) ||| ((z7.2.2 z7.2.1.toNatClampNeg).toInt64 &&& (4294967295 : Int64))) / a2.toInt64 * a2.toInt64), (z7.2.1 + (-1)), (upd z7.2.2 z7.2.1.toNatClampNeg ((((z7.1 <<< ((32 : Int32).toInt64 &&& 63)) ||| ((z7.2.2 z7.2.1.toNatClampNeg).toInt64 &&& (4294967295 : Int64))) / a2.toInt64).toInt32)))) else none)) else none)))
def f_Digits_divide (K : Nat) (t_limbs : Nat → Int32) (a1 : Int32) (a2 : Int32) : Option (Int64 × (Nat → Int32)) :=
  lp_ (b_Digits_divide_7 a2 ) K ((0 : Int64), (a1 - (1 : Int32)), t_limbs)
set_option maxHeartbeats 4000000 in
set_option maxRecDepth 100000 in
theorem c_Digits_divide (l : Launch) (G : Gt) (K : Nat) (qt : Nat) (qt_limbs : Nat) (t_limbs : Nat → Int32) (qt_cells : Nat) (t_cells : Nat → Int32) (t_used : Int32) (t_lowest : Int32) (a1 : Int32) (a2 : Int32) (sz : Nat) (res : Int64 × (Nat → Int32))   (hf : f_Digits_divide K t_limbs a1 a2 = some res) : Met l y_Digits_divide (.code y_Digits_divide cd_Digits_divide 8 (some .long) :: gw) { frames := 0, cells := 0, slots := 0, locals := 0 } (PC G ([.ref qt, .int a1, .int a2] : List Value) sz (w_Digits_isZero G qt qt_limbs t_limbs qt_cells t_cells t_used t_lowest)) (QL G res.1 (va_A (w_Digits_isZero G qt qt_limbs t_limbs qt_cells t_cells t_used t_lowest) sz) (w_Digits_isZero G qt qt_limbs res.2 qt_cells t_cells t_used t_lowest)) 0 0 (va_A (w_Digits_isZero G qt qt_limbs t_limbs qt_cells t_cells t_used t_lowest) sz) := by
  refine Met.ofW (cc := cd_Digits_divide) (maxL := 8) (ret := (some .long)) (by decide) rfl ?_
  intro p e s m args below meth c s₁ B hml hv
  obtain ⟨rfl, hsz, hP, hE, hD0⟩ := hv
  have hx := B.exec
  have hb := B.bytes
  have hr := B.returns
  have hts := atoms_spec (ws := (.code y_Digits_divide cd_Digits_divide 8 (some .long) :: gw)) B.pre
  have hg : ∀ w ∈ gw, w.before _ s = true := fun w h => hts w (List.mem_cons_of_mem _ h)
  have hown : s.vm.findClass R_Digits = some m.cls := findClass_of_methodNamed B.named
  have hlocks := B.notSynchronized
  subst hsz
  have hK := hE.K
  have hD := hD0.self (sz := s.heap.size)
  have hAb := hE.ab hD0
  obtain ⟨Q, hQ⟩ : ∃ Q, MQ below (QL G res.1 (va_A (w_Digits_isZero G qt qt_limbs t_limbs qt_cells t_cells t_used t_lowest) s.heap.size) (w_Digits_isZero G qt qt_limbs res.2 qt_cells t_cells t_used t_lowest)) ([.ref qt, .int a1, .int a2] : List Value).toArray s 0 0 (va_A (w_Digits_isZero G qt qt_limbs t_limbs qt_cells t_cells t_used t_lowest) s.heap.size) = Q := ⟨_, rfl⟩
  show W p l e { frames := 0, cells := 0, slots := 0, locals := 0 } s m ([.ref qt, .int a1, .int a2] : List Value).toArray below meth c s.heap [] 0 0 (MQ below (QL G res.1 (va_A (w_Digits_isZero G qt qt_limbs t_limbs qt_cells t_cells t_used t_lowest) s.heap.size) (w_Digits_isZero G qt qt_limbs res.2 qt_cells t_cells t_used t_lowest)) ([.ref qt, .int a1, .int a2] : List Value).toArray s 0 0 (va_A (w_Digits_isZero G qt qt_limbs t_limbs qt_cells t_cells t_used t_lowest) s.heap.size)) _
  rw [hQ]
  have hA : ∀ q : Nat, s.heap.size ≤ q → va_A (w_Digits_isZero G qt qt_limbs t_limbs qt_cells t_cells t_used t_lowest) s.heap.size q := fun q h => Or.inr h
  obtain ⟨A, hAe⟩ : ∃ A, va_A (w_Digits_isZero G qt qt_limbs t_limbs qt_cells t_cells t_used t_lowest) s.heap.size = A := ⟨_, rfl⟩
  rw [hAe] at hA hD hAb hQ
  have hS : va_S A s.heap s.heap [] := va_S.rf
  have hl := lv_entry (([.ref qt, .int a1, .int a2] : List Value)) (n := 8) (Nat.le_of_ble_eq_true rfl)
  rw [lg_entry_eq]
  generalize (lg_sl (([.ref qt, .int a1, .int a2] : List Value)) ++ List.replicate (8 - (lg_sl (([.ref qt, .int a1, .int a2] : List Value))).length) Slot.unset).toArray = ls at hl ⊢
  have hl : lv_has ls 8 [(0, .ref qt), (1, .int a1), (2, .int a2)] := hl
  have W_7 : ∀   (n_7 : Nat) (z7 : Int64 × Int32 × (Nat → Int32)) , lp_ (b_Digits_divide_7 a2 ) n_7 z7 = some res → ∀ (H : Heap) (locs : List Loc) (ls : Array Slot), va_P (gD G) vwCl (w_Digits_isZero G qt qt_limbs z7.2.2 qt_cells t_cells t_used t_lowest) H → va_D A (w_Digits_isZero G qt qt_limbs z7.2.2 qt_cells t_cells t_used t_lowest) → va_S A s.heap H locs → lv_has ls 8 [(0, .ref qt), (2, .int a2), (3, .long z7.1), (5, .int z7.2.1)] → W p l e { frames := 0, cells := 0, slots := 0, locals := 0 } s m ([.ref qt, .int a1, .int a2] : List Value).toArray below meth c H locs 0 0 Q (F0 m 7 ls []) := by
    intro  n_7
    induction n_7 with
    | zero =>
      intro z7  hf
      cases hf
    | succ n_7 ih_7 =>
      intro z7  hf H locs ls hP hD hS hl
      have hf : b_Digits_divide_7 a2  (lp_ (b_Digits_divide_7 a2 ) n_7) z7 = some res := hf
      generalize lp_ (b_Digits_divide_7 a2 ) n_7 = rec_7 at hf ih_7
      unfold b_Digits_divide_7 at hf
      refine lv_iload hx hb d_Digits_divide_7 (lv_at hl 3 rfl) ?_
      refine lv_if_lt (tgt := 60) hx hb d_Digits_divide_9 (by decide) (fun c_9 => ?_) (fun c_9 => ?_)
      · have hf := ip_ c_9 hf
        refine lv_lload_n hx hb d_Digits_divide_60 rfl (lv_at hl 2 rfl) ?_
        obtain rfl := Option.some.inj hf
        rw [← hQ]
        exact W.lret (v := z7.1) hx hb hr (fun t9 ht hW => ⟨⟨z7.1, (), rfl, rfl, ⟨by rw [ht]; exact hP, hD⟩⟩, hS.F ht⟩) hS.2.2 d_Digits_divide_61
      · have hf := in_ c_9 hf
        refine lv_iload_n hx hb d_Digits_divide_12 rfl (lv_at hl 1 rfl) ?_
        refine lv_if_le (tgt := 60) hx hb d_Digits_divide_13 (by decide) (fun c_13 => ?_) (fun c_13 => ?_)
        · have hf := ip_ c_13 hf
          refine lv_lload_n hx hb d_Digits_divide_60 rfl (lv_at hl 2 rfl) ?_
          obtain rfl := Option.some.inj hf
          rw [← hQ]
          exact W.lret (v := z7.1) hx hb hr (fun t9 ht hW => ⟨⟨z7.1, (), rfl, rfl, ⟨by rw [ht]; exact hP, hD⟩⟩, hS.F ht⟩) hS.2.2 d_Digits_divide_61
        · have hf := in_ c_13 hf
          refine lv_lload_n hx hb d_Digits_divide_16 rfl (lv_at hl 2 rfl) ?_
          refine lv_bipush (v := 32) hx hb d_Digits_divide_17 (by decide) ?_
          refine lv_lshl (v := (z7.1 <<< ((32 : Int32).toInt64 &&& 63))) hx hb d_Digits_divide_19 rfl ?_
          refine lv_aload_n hx hb d_Digits_divide_20 rfl (lv_at hl 0 rfl) ?_
          refine va_get (D := gD G) (ci := 2) (v := .ref qt_limbs) (C := R_Digits) (T := F_Digits) (N := 4) hx hb hg in_Digits hown hK hP 0 rfl rfl 0 (by decide) (hg _ m_185) (fun _ h9 => h9) rfl d_Digits_divide_21 ?_
          refine lv_iload hx hb d_Digits_divide_24 (lv_at hl 3 rfl) ?_
          obtain ⟨g_26, hf⟩ := gd_ hf
          refine va_iald hx hb hK hP 1 1 rfl rfl (inB_in g_26) d_Digits_divide_26 ?_
          refine lv_i2l (v := (z7.2.2 z7.2.1.toNatClampNeg).toInt64) hx hb d_Digits_divide_27 rfl ?_
          refine lv_ldc2 (v := 4294967295) hx hb hown (hg _ m_186) d_Digits_divide_28 ?_
          refine lv_land hx hb d_Digits_divide_31 ?_
          refine lv_lor hx hb d_Digits_divide_32 ?_
          refine lv_lstore (lv' := [(6, .long ((z7.1 <<< ((32 : Int32).toInt64 &&& 63)) ||| ((z7.2.2 z7.2.1.toNatClampNeg).toInt64 &&& (4294967295 : Int64)))), (0, .ref qt), (2, .int a2), (3, .long z7.1), (5, .int z7.2.1)]) hx hb d_Digits_divide_33 hl (by decide) rfl (fun ls hl => ?_)
          refine lv_aload_n hx hb d_Digits_divide_35 rfl (lv_at hl 1 rfl) ?_
          refine va_get (D := gD G) (ci := 2) (v := .ref qt_limbs) (C := R_Digits) (T := F_Digits) (N := 4) hx hb hg in_Digits hown hK hP 0 rfl rfl 0 (by decide) (hg _ m_185) (fun _ h9 => h9) rfl d_Digits_divide_36 ?_
          refine lv_iload hx hb d_Digits_divide_39 (lv_at hl 4 rfl) ?_
          refine lv_lload hx hb d_Digits_divide_41 (lv_at hl 0 rfl) ?_
          refine lv_iload_n hx hb d_Digits_divide_43 rfl (lv_at hl 2 rfl) ?_
          refine lv_i2l (v := a2.toInt64) hx hb d_Digits_divide_44 rfl ?_
          obtain ⟨g_45, hf⟩ := gn_ hf
          refine lv_ldiv hx hb d_Digits_divide_45 g_45 ?_
          refine lv_l2i (v := (((z7.1 <<< ((32 : Int32).toInt64 &&& 63)) ||| ((z7.2.2 z7.2.1.toNatClampNeg).toInt64 &&& (4294967295 : Int64))) / a2.toInt64).toInt32) hx hb d_Digits_divide_46 rfl ?_
          obtain ⟨g_47, hf⟩ := gd_ hf
          refine va_iast hx hb hK hP hD hS 1 1 rfl rfl (inB_in g_47) d_Digits_divide_47 (fun H locs hP hD hS => ?_)
          have hP : va_P (gD G) vwCl (w_Digits_isZero G qt qt_limbs (upd z7.2.2 z7.2.1.toNatClampNeg ((((z7.1 <<< ((32 : Int32).toInt64 &&& 63)) ||| ((z7.2.2 z7.2.1.toNatClampNeg).toInt64 &&& (4294967295 : Int64))) / a2.toInt64).toInt32)) qt_cells t_cells t_used t_lowest) H := hP
          have hD : va_D A (w_Digits_isZero G qt qt_limbs (upd z7.2.2 z7.2.1.toNatClampNeg ((((z7.1 <<< ((32 : Int32).toInt64 &&& 63)) ||| ((z7.2.2 z7.2.1.toNatClampNeg).toInt64 &&& (4294967295 : Int64))) / a2.toInt64).toInt32)) qt_cells t_cells t_used t_lowest) := hD
          refine lv_lload hx hb d_Digits_divide_48 (lv_at hl 0 rfl) ?_
          refine lv_iload_n hx hb d_Digits_divide_50 rfl (lv_at hl 2 rfl) ?_
          refine lv_i2l (v := a2.toInt64) hx hb d_Digits_divide_51 rfl ?_
          obtain ⟨g_52, hf⟩ := gn_ hf
          refine lv_lrem hx hb d_Digits_divide_52 g_52 ?_
          refine lv_lstore_n (lv' := [(3, .long (((z7.1 <<< ((32 : Int32).toInt64 &&& 63)) ||| ((z7.2.2 z7.2.1.toNatClampNeg).toInt64 &&& (4294967295 : Int64))) - ((z7.1 <<< ((32 : Int32).toInt64 &&& 63)) ||| ((z7.2.2 z7.2.1.toNatClampNeg).toInt64 &&& (4294967295 : Int64))) / a2.toInt64 * a2.toInt64)), (6, .long ((z7.1 <<< ((32 : Int32).toInt64 &&& 63)) ||| ((z7.2.2 z7.2.1.toNatClampNeg).toInt64 &&& (4294967295 : Int64)))), (0, .ref qt), (2, .int a2), (5, .int z7.2.1)]) hx hb d_Digits_divide_53 rfl hl (by decide) rfl (fun ls hl => ?_)
          refine lv_iinc (v := (z7.2.1 + (-1))) (lv' := [(5, .int (z7.2.1 + (-1))), (3, .long (((z7.1 <<< ((32 : Int32).toInt64 &&& 63)) ||| ((z7.2.2 z7.2.1.toNatClampNeg).toInt64 &&& (4294967295 : Int64))) - ((z7.1 <<< ((32 : Int32).toInt64 &&& 63)) ||| ((z7.2.2 z7.2.1.toNatClampNeg).toInt64 &&& (4294967295 : Int64))) / a2.toInt64 * a2.toInt64)), (6, .long ((z7.1 <<< ((32 : Int32).toInt64 &&& 63)) ||| ((z7.2.2 z7.2.1.toNatClampNeg).toInt64 &&& (4294967295 : Int64)))), (0, .ref qt), (2, .int a2)]) hx hb d_Digits_divide_54 hl (k := 4) rfl rfl (by decide) rfl (fun ls hl => ?_)
          refine lv_goto (tgt := 7) hx hb d_Digits_divide_57 (by decide) ?_
          exact ih_7 ((((z7.1 <<< ((32 : Int32).toInt64 &&& 63)) ||| ((z7.2.2 z7.2.1.toNatClampNeg).toInt64 &&& (4294967295 : Int64))) - ((z7.1 <<< ((32 : Int32).toInt64 &&& 63)) ||| ((z7.2.2 z7.2.1.toNatClampNeg).toInt64 &&& (4294967295 : Int64))) / a2.toInt64 * a2.toInt64), (z7.2.1 + (-1)), (upd z7.2.2 z7.2.1.toNatClampNeg ((((z7.1 <<< ((32 : Int32).toInt64 &&& 63)) ||| ((z7.2.2 z7.2.1.toNatClampNeg).toInt64 &&& (4294967295 : Int64))) / a2.toInt64).toInt32)))  hf _ _ _ hP hD hS (lv_sub hl [3, 4, 1, 0] rfl)
  unfold f_Digits_divide at hf
  refine lv_lconst (v := 0) hx hb d_Digits_divide_0 (by decide) ?_
  refine lv_lstore_n (lv' := [(3, .long (0 : Int64)), (0, .ref qt), (1, .int a1), (2, .int a2)]) hx hb d_Digits_divide_1 rfl hl (by decide) rfl (fun ls hl => ?_)
  refine lv_iload_n hx hb d_Digits_divide_2 rfl (lv_at hl 2 rfl) ?_
  refine lv_iconst (v := 1) hx hb d_Digits_divide_3 (by decide) ?_
  refine lv_isub hx hb d_Digits_divide_4 ?_
  refine lv_istore (lv' := [(5, .int (a1 - (1 : Int32))), (3, .long (0 : Int64)), (0, .ref qt), (1, .int a1), (2, .int a2)]) hx hb d_Digits_divide_5 hl (by decide) rfl (fun ls hl => ?_)
  exact W_7   K ((0 : Int64), (a1 - (1 : Int32)), t_limbs)  hf _ _ _ hP hD hS (lv_sub hl [2, 4, 1, 0] rfl)
theorem d_Digits_spell_0 : decode cd_Digits_spell 0 = .ok (.iload_n 1, 1) := by decide +kernel
theorem d_Digits_spell_1 : decode cd_Digits_spell 1 = .ok (.bipush 10, 2) := by decide +kernel
theorem d_Digits_spell_3 : decode cd_Digits_spell 3 = .ok (.if_icmp .ne 8, 3) := by decide +kernel
theorem d_Digits_spell_6 : decode cd_Digits_spell 6 = .ok (.bipush 9, 2) := by decide +kernel
theorem d_Digits_spell_8 : decode cd_Digits_spell 8 = .ok (.goto 16, 3) := by decide +kernel
theorem d_Digits_spell_11 : decode cd_Digits_spell 11 = .ok (.iload_n 1, 1) := by decide +kernel
theorem d_Digits_spell_12 : decode cd_Digits_spell 12 = .ok (.bipush 16, 2) := by decide +kernel
theorem d_Digits_spell_14 : decode cd_Digits_spell 14 = .ok (.if_icmp .ne 8, 3) := by decide +kernel
theorem d_Digits_spell_17 : decode cd_Digits_spell 17 = .ok (.bipush 7, 2) := by decide +kernel
theorem d_Digits_spell_19 : decode cd_Digits_spell 19 = .ok (.goto 5, 3) := by decide +kernel
theorem d_Digits_spell_22 : decode cd_Digits_spell 22 = .ok (.bipush 10, 2) := by decide +kernel
theorem d_Digits_spell_24 : decode cd_Digits_spell 24 = .ok (.istore_n 2, 1) := by decide +kernel
theorem d_Digits_spell_25 : decode cd_Digits_spell 25 = .ok (.iload_n 1, 1) := by decide +kernel
theorem d_Digits_spell_26 : decode cd_Digits_spell 26 = .ok (.bipush 10, 2) := by decide +kernel
theorem d_Digits_spell_28 : decode cd_Digits_spell 28 = .ok (.if_icmp .ne 8, 3) := by decide +kernel
theorem d_Digits_spell_31 : decode cd_Digits_spell 31 = .ok (.ldc 51, 2) := by decide +kernel
theorem d_Digits_spell_33 : decode cd_Digits_spell 33 = .ok (.goto 16, 3) := by decide +kernel
theorem d_Digits_spell_36 : decode cd_Digits_spell 36 = .ok (.iload_n 1, 1) := by decide +kernel
theorem d_Digits_spell_37 : decode cd_Digits_spell 37 = .ok (.bipush 16, 2) := by decide +kernel
theorem d_Digits_spell_39 : decode cd_Digits_spell 39 = .ok (.if_icmp .ne 8, 3) := by decide +kernel
theorem d_Digits_spell_42 : decode cd_Digits_spell 42 = .ok (.ldc 52, 2) := by decide +kernel
theorem d_Digits_spell_44 : decode cd_Digits_spell 44 = .ok (.goto 5, 3) := by decide +kernel
theorem d_Digits_spell_47 : decode cd_Digits_spell 47 = .ok (.ldc 53, 2) := by decide +kernel
theorem d_Digits_spell_49 : decode cd_Digits_spell 49 = .ok (.istore_n 3, 1) := by decide +kernel
theorem d_Digits_spell_50 : decode cd_Digits_spell 50 = .ok (.aload_n 0, 1) := by decide +kernel
theorem d_Digits_spell_51 : decode cd_Digits_spell 51 = .ok (.iconst 0, 1) := by decide +kernel
theorem d_Digits_spell_52 : decode cd_Digits_spell 52 = .ok (.putfield 42, 3) := by decide +kernel
theorem d_Digits_spell_55 : decode cd_Digits_spell 55 = .ok (.aload_n 0, 1) := by decide +kernel
theorem d_Digits_spell_56 : decode cd_Digits_spell 56 = .ok (.bipush 16, 2) := by decide +kernel
theorem d_Digits_spell_58 : decode cd_Digits_spell 58 = .ok (.invokevirtual 54, 3) := by decide +kernel
theorem d_Digits_spell_61 : decode cd_Digits_spell 61 = .ok (.istore 4, 2) := by decide +kernel
theorem d_Digits_spell_63 : decode cd_Digits_spell 63 = .ok (.iconst 0, 1) := by decide +kernel
theorem d_Digits_spell_64 : decode cd_Digits_spell 64 = .ok (.istore 5, 2) := by decide +kernel
theorem d_Digits_spell_66 : decode cd_Digits_spell 66 = .ok (.iload 5, 2) := by decide +kernel
theorem d_Digits_spell_68 : decode cd_Digits_spell 68 = .ok (.bipush 20, 2) := by decide +kernel
theorem d_Digits_spell_70 : decode cd_Digits_spell 70 = .ok (.if_icmp .ge 93, 3) := by decide +kernel
theorem d_Digits_spell_73 : decode cd_Digits_spell 73 = .ok (.iload 4, 2) := by decide +kernel
theorem d_Digits_spell_75 : decode cd_Digits_spell 75 = .ok (.ifCond .le 88, 3) := by decide +kernel
theorem d_Digits_spell_78 : decode cd_Digits_spell 78 = .ok (.aload_n 0, 1) := by decide +kernel
theorem d_Digits_spell_79 : decode cd_Digits_spell 79 = .ok (.iload 4, 2) := by decide +kernel
theorem d_Digits_spell_81 : decode cd_Digits_spell 81 = .ok (.iload_n 3, 1) := by decide +kernel
theorem d_Digits_spell_82 : decode cd_Digits_spell 82 = .ok (.invokevirtual 58, 3) := by decide +kernel
theorem d_Digits_spell_85 : decode cd_Digits_spell 85 = .ok (.lstore 6, 2) := by decide +kernel
theorem d_Digits_spell_87 : decode cd_Digits_spell 87 = .ok (.iconst 0, 1) := by decide +kernel
theorem d_Digits_spell_88 : decode cd_Digits_spell 88 = .ok (.istore 8, 2) := by decide +kernel
theorem d_Digits_spell_90 : decode cd_Digits_spell 90 = .ok (.iload 8, 2) := by decide +kernel
theorem d_Digits_spell_92 : decode cd_Digits_spell 92 = .ok (.iload_n 2, 1) := by decide +kernel
theorem d_Digits_spell_93 : decode cd_Digits_spell 93 = .ok (.if_icmp .ge 56, 3) := by decide +kernel
theorem d_Digits_spell_96 : decode cd_Digits_spell 96 = .ok (.aload_n 0, 1) := by decide +kernel
theorem d_Digits_spell_97 : decode cd_Digits_spell 97 = .ok (.getfield 42, 3) := by decide +kernel
theorem d_Digits_spell_100 : decode cd_Digits_spell 100 = .ok (.sipush 208, 3) := by decide +kernel
theorem d_Digits_spell_103 : decode cd_Digits_spell 103 = .ok (.if_icmp .ge 46, 3) := by decide +kernel
theorem d_Digits_spell_106 : decode cd_Digits_spell 106 = .ok (.iload_n 1, 1) := by decide +kernel
theorem d_Digits_spell_107 : decode cd_Digits_spell 107 = .ok (.ifCond .le 42, 3) := by decide +kernel
theorem d_Digits_spell_110 : decode cd_Digits_spell 110 = .ok (.aload_n 0, 1) := by decide +kernel
theorem d_Digits_spell_111 : decode cd_Digits_spell 111 = .ok (.getfield 13, 3) := by decide +kernel
theorem d_Digits_spell_114 : decode cd_Digits_spell 114 = .ok (.aload_n 0, 1) := by decide +kernel
theorem d_Digits_spell_115 : decode cd_Digits_spell 115 = .ok (.getfield 42, 3) := by decide +kernel
theorem d_Digits_spell_118 : decode cd_Digits_spell 118 = .ok (.lload 6, 2) := by decide +kernel
theorem d_Digits_spell_120 : decode cd_Digits_spell 120 = .ok (.iload_n 1, 1) := by decide +kernel
theorem d_Digits_spell_121 : decode cd_Digits_spell 121 = .ok (.i2l, 1) := by decide +kernel
theorem d_Digits_spell_122 : decode cd_Digits_spell 122 = .ok (.lrem, 1) := by decide +kernel
theorem d_Digits_spell_123 : decode cd_Digits_spell 123 = .ok (.l2i, 1) := by decide +kernel
theorem d_Digits_spell_124 : decode cd_Digits_spell 124 = .ok (.i2b, 1) := by decide +kernel
theorem d_Digits_spell_125 : decode cd_Digits_spell 125 = .ok (.bastore, 1) := by decide +kernel
theorem d_Digits_spell_126 : decode cd_Digits_spell 126 = .ok (.aload_n 0, 1) := by decide +kernel
theorem d_Digits_spell_127 : decode cd_Digits_spell 127 = .ok (.dup, 1) := by decide +kernel
theorem d_Digits_spell_128 : decode cd_Digits_spell 128 = .ok (.getfield 42, 3) := by decide +kernel
theorem d_Digits_spell_131 : decode cd_Digits_spell 131 = .ok (.iconst 1, 1) := by decide +kernel
theorem d_Digits_spell_132 : decode cd_Digits_spell 132 = .ok (.iadd, 1) := by decide +kernel
theorem d_Digits_spell_133 : decode cd_Digits_spell 133 = .ok (.putfield 42, 3) := by decide +kernel
theorem d_Digits_spell_136 : decode cd_Digits_spell 136 = .ok (.lload 6, 2) := by decide +kernel
theorem d_Digits_spell_138 : decode cd_Digits_spell 138 = .ok (.iload_n 1, 1) := by decide +kernel
theorem d_Digits_spell_139 : decode cd_Digits_spell 139 = .ok (.i2l, 1) := by decide +kernel
theorem d_Digits_spell_140 : decode cd_Digits_spell 140 = .ok (.ldiv, 1) := by decide +kernel
theorem d_Digits_spell_141 : decode cd_Digits_spell 141 = .ok (.lstore 6, 2) := by decide +kernel
theorem d_Digits_spell_143 : decode cd_Digits_spell 143 = .ok (.iinc 8 1, 3) := by decide +kernel
theorem d_Digits_spell_146 : decode cd_Digits_spell 146 = .ok (.goto (-56), 3) := by decide +kernel
theorem d_Digits_spell_149 : decode cd_Digits_spell 149 = .ok (.aload_n 0, 1) := by decide +kernel
theorem d_Digits_spell_150 : decode cd_Digits_spell 150 = .ok (.iload 4, 2) := by decide +kernel
theorem d_Digits_spell_152 : decode cd_Digits_spell 152 = .ok (.invokevirtual 54, 3) := by decide +kernel
theorem d_Digits_spell_155 : decode cd_Digits_spell 155 = .ok (.istore 4, 2) := by decide +kernel
theorem d_Digits_spell_157 : decode cd_Digits_spell 157 = .ok (.iinc 5 1, 3) := by decide +kernel
theorem d_Digits_spell_160 : decode cd_Digits_spell 160 = .ok (.goto (-94), 3) := by decide +kernel
theorem d_Digits_spell_163 : decode cd_Digits_spell 163 = .ok (.aload_n 0, 1) := by decide +kernel
theorem d_Digits_spell_164 : decode cd_Digits_spell 164 = .ok (.invokevirtual 48, 3) := by decide +kernel
theorem d_Digits_spell_167 : decode cd_Digits_spell 167 = .ok (.return_, 1) := by decide +kernel
theorem m_187 : Cond.constant R_Digits 53 1073741824 ∈ gw := gm (i := 702) (by decide +kernel) (by decide +kernel)
theorem m_188 : Cond.constant R_Digits 52 268435456 ∈ gw := gm (i := 701) (by decide +kernel) (by decide +kernel)
theorem m_189 : Cond.constant R_Digits 51 1000000000 ∈ gw := gm (i := 700) (by decide +kernel) (by decide +kernel)
theorem m_190 : Cond.methodLink R_Digits 54 y_Digits_topFrom ∈ gw := gm (i := 703) (by decide +kernel) (by decide +kernel)
theorem m_191 : Cond.instanceMethod y_Digits_topFrom ∈ gw := gm (i := 705) (by decide +kernel) (by decide +kernel)
theorem m_192 : Cond.selects R_Digits y_Digits_topFrom y_Digits_topFrom ∈ gw := gm (i := 23) (by decide +kernel) (by decide +kernel)
set_option maxRecDepth 100000 in
theorem m_193 : Cond.code y_Digits_topFrom cd_Digits_topFrom 3 (some .int) ∈ gw := gm (i := 706) rfl rfl
theorem m_194 : Cond.methodLink R_Digits 58 y_Digits_divide ∈ gw := gm (i := 707) (by decide +kernel) (by decide +kernel)
theorem m_195 : Cond.instanceMethod y_Digits_divide ∈ gw := gm (i := 709) (by decide +kernel) (by decide +kernel)
theorem m_196 : Cond.selects R_Digits y_Digits_divide y_Digits_divide ∈ gw := gm (i := 24) (by decide +kernel) (by decide +kernel)
set_option maxRecDepth 100000 in
theorem m_197 : Cond.code y_Digits_divide cd_Digits_divide 8 (some .long) ∈ gw := gm (i := 710) rfl rfl
def k_Digits_spell_163 (K : Nat) (t_used : Int32) (t_limbs : (Nat → Int32)) (t_cells : (Nat → Int32)) : Option (Int32 × (Nat → Int32) × (Nat → Int32)) :=
  ((f_Digits_trim K t_cells t_used).bind fun u_164 => some (u_164, t_limbs, t_cells))
def k_Digits_spell_149 (K : Nat) (rec_66 : (Int32 × Int32 × Int32 × (Nat → Int32) × (Nat → Int32)) → Option (Int32 × (Nat → Int32) × (Nat → Int32))) (x4 : Int32) (x5 : Int32) (t_used : Int32) (t_limbs : (Nat → Int32)) (t_cells : (Nat → Int32)) : Option (Int32 × (Nat → Int32) × (Nat → Int32)) :=
  ((f_Digits_topFrom K t_limbs x4).bind fun u_152 => rec_66 (u_152, (x5 + 1), t_used, t_limbs, t_cells))
def b_Digits_spell_90 (K : Nat) (a1 : Int32) (x2 : Int32) (rec_66 : (Int32 × Int32 × Int32 × (Nat → Int32) × (Nat → Int32)) → Option (Int32 × (Nat → Int32) × (Nat → Int32))) (x4 : Int32) (x5 : Int32) (t_limbs : (Nat → Int32)) (rec_90 : (Int64 × Int32 × Int32 × (Nat → Int32)) → Option (Int32 × (Nat → Int32) × (Nat → Int32))) (z90 : Int64 × Int32 × Int32 × (Nat → Int32)) : Option (Int32 × (Nat → Int32) × (Nat → Int32)) :=
  (if x2 ≤ z90.2.1 then k_Digits_spell_149 K rec_66 x4 x5 z90.2.2.1 t_limbs z90.2.2.2 else (if (208 : Int32) ≤ z90.2.2.1 then k_Digits_spell_149 K rec_66 x4 x5 z90.2.2.1 t_limbs z90.2.2.2 else (if a1 ≤ 0 then k_Digits_spell_149 K rec_66 x4 x5 z90.2.2.1 t_limbs z90.2.2.2 else (if a1.toInt64 = 0 then none else (if inB z90.2.2.1 208 = true then (if a1.toInt64 = 0 then none else rec_90 ((z90.1 / a1.toInt64), (z90.2.1 + 1), (z90.2.2.1 + (1 : Int32)), (upd z90.2.2.2 z90.2.2.1.toNatClampNeg (vp_nar .byte (((z90.1 - z90.1 / a1.toInt64 * a1.toInt64).toInt32).toInt8.toInt32))))) else none)))))
def b_Digits_spell_66 (K : Nat) (a1 : Int32) (x2 : Int32) (x3 : Int32) (rec_66 : (Int32 × Int32 × Int32 × (Nat → Int32) × (Nat → Int32)) → Option (Int32 × (Nat → Int32) × (Nat → Int32))) (z66 : Int32 × Int32 × Int32 × (Nat → Int32) × (Nat → Int32)) : Option (Int32 × (Nat → Int32) × (Nat → Int32)) :=
  (if (20 : Int32) ≤ z66.2.1 then k_Digits_spell_163 K z66.2.2.1 z66.2.2.2.1 z66.2.2.2.2 else (if z66.1 ≤ 0 then k_Digits_spell_163 K z66.2.2.1 z66.2.2.2.1 z66.2.2.2.2 else ((f_Digits_divide K z66.2.2.2.1 z66.1 x3).bind fun u_82 => lp_ (b_Digits_spell_90 K a1 x2 rec_66 z66.1 z66.2.1 u_82.2) K (u_82.1, (0 : Int32), z66.2.2.1, z66.2.2.2.2))))
def k_Digits_spell_49 (K : Nat) (a1 : Int32) (x2 : Int32) (k0 : Int32) (t_used : Int32) (t_limbs : (Nat → Int32)) (t_cells : (Nat → Int32)) : Option (Int32 × (Nat → Int32) × (Nat → Int32)) :=
  ((f_Digits_topFrom K t_limbs (16 : Int32)).bind fun u_58 => lp_ (b_Digits_spell_66 K a1 x2 k0) K (u_58, (0 : Int32), (0 : Int32), t_limbs, t_cells))
def k_Digits_spell_24 (K : Nat) (a1 : Int32) (k0 : Int32) (t_used : Int32) (t_limbs : (Nat → Int32)) (t_cells : (Nat → Int32)) : Option (Int32 × (Nat → Int32) × (Nat → Int32)) :=
  (if a1 = (10 : Int32) then k_Digits_spell_49 K a1 k0 (1000000000 : Int32) t_used t_limbs t_cells else (if a1 = (16 : Int32) then k_Digits_spell_49 K a1 k0 (268435456 : Int32) t_used t_limbs t_cells else k_Digits_spell_49 K a1 k0 (1073741824 : Int32) t_used t_limbs t_cells))
def f_Digits_spell (K : Nat) (t_limbs : Nat → Int32) (t_cells : Nat → Int32) (t_used : Int32) (a1 : Int32) : Option (Int32 × (Nat → Int32) × (Nat → Int32)) :=
  (if a1 = (10 : Int32) then k_Digits_spell_24 K a1 (9 : Int32) t_used t_limbs t_cells else (if a1 = (16 : Int32) then k_Digits_spell_24 K a1 (7 : Int32) t_used t_limbs t_cells else k_Digits_spell_24 K a1 (10 : Int32) t_used t_limbs t_cells))
set_option maxHeartbeats 4000000 in
set_option maxRecDepth 100000 in
theorem c_Digits_spell (l : Launch) (G : Gt) (K : Nat) (qt : Nat) (qt_limbs : Nat) (t_limbs : Nat → Int32) (qt_cells : Nat) (t_cells : Nat → Int32) (t_used : Int32) (t_lowest : Int32) (a1 : Int32) (sz : Nat) (res : Int32 × (Nat → Int32) × (Nat → Int32))   (hf : f_Digits_spell K t_limbs t_cells t_used a1 = some res) : Met l y_Digits_spell (.code y_Digits_spell cd_Digits_spell 9 none :: gw) { frames := 1, cells := 0, slots := 0, locals := 40 } (PC G ([.ref qt, .int a1] : List Value) sz (w_Digits_isZero G qt qt_limbs t_limbs qt_cells t_cells t_used t_lowest)) (QV G (va_A (w_Digits_isZero G qt qt_limbs t_limbs qt_cells t_cells t_used t_lowest) sz) (w_Digits_isZero G qt qt_limbs res.2.1 qt_cells res.2.2 res.1 t_lowest)) 0 0 (va_A (w_Digits_isZero G qt qt_limbs t_limbs qt_cells t_cells t_used t_lowest) sz) := by
  refine Met.ofW (cc := cd_Digits_spell) (maxL := 9) (ret := none) (by decide) rfl ?_
  intro p e s m args below meth c s₁ B hml hv
  obtain ⟨rfl, hsz, hP, hE, hD0⟩ := hv
  have hx := B.exec
  have hb := B.bytes
  have hr := B.returns
  have hts := atoms_spec (ws := (.code y_Digits_spell cd_Digits_spell 9 none :: gw)) B.pre
  have hg : ∀ w ∈ gw, w.before _ s = true := fun w h => hts w (List.mem_cons_of_mem _ h)
  have hown : s.vm.findClass R_Digits = some m.cls := findClass_of_methodNamed B.named
  have hlocks := B.notSynchronized
  subst hsz
  have hK := hE.K
  have hD := hD0.self (sz := s.heap.size)
  have hAb := hE.ab hD0
  obtain ⟨Q, hQ⟩ : ∃ Q, MQ below (QV G (va_A (w_Digits_isZero G qt qt_limbs t_limbs qt_cells t_cells t_used t_lowest) s.heap.size) (w_Digits_isZero G qt qt_limbs res.2.1 qt_cells res.2.2 res.1 t_lowest)) ([.ref qt, .int a1] : List Value).toArray s 0 0 (va_A (w_Digits_isZero G qt qt_limbs t_limbs qt_cells t_cells t_used t_lowest) s.heap.size) = Q := ⟨_, rfl⟩
  show W p l e { frames := 1, cells := 0, slots := 0, locals := 40 } s m ([.ref qt, .int a1] : List Value).toArray below meth c s.heap [] 0 0 (MQ below (QV G (va_A (w_Digits_isZero G qt qt_limbs t_limbs qt_cells t_cells t_used t_lowest) s.heap.size) (w_Digits_isZero G qt qt_limbs res.2.1 qt_cells res.2.2 res.1 t_lowest)) ([.ref qt, .int a1] : List Value).toArray s 0 0 (va_A (w_Digits_isZero G qt qt_limbs t_limbs qt_cells t_cells t_used t_lowest) s.heap.size)) _
  rw [hQ]
  have hA : ∀ q : Nat, s.heap.size ≤ q → va_A (w_Digits_isZero G qt qt_limbs t_limbs qt_cells t_cells t_used t_lowest) s.heap.size q := fun q h => Or.inr h
  obtain ⟨A, hAe⟩ : ∃ A, va_A (w_Digits_isZero G qt qt_limbs t_limbs qt_cells t_cells t_used t_lowest) s.heap.size = A := ⟨_, rfl⟩
  rw [hAe] at hA hD hAb hQ
  have hS : va_S A s.heap s.heap [] := va_S.rf
  have hl := lv_entry (([.ref qt, .int a1] : List Value)) (n := 9) (Nat.le_of_ble_eq_true rfl)
  rw [lg_entry_eq]
  generalize (lg_sl (([.ref qt, .int a1] : List Value)) ++ List.replicate (9 - (lg_sl (([.ref qt, .int a1] : List Value))).length) Slot.unset).toArray = ls at hl ⊢
  have hl : lv_has ls 9 [(0, .ref qt), (1, .int a1)] := hl
  have W_163 : ∀ (t_used : Int32) (t_limbs : (Nat → Int32)) (t_cells : (Nat → Int32)) , k_Digits_spell_163 K t_used t_limbs t_cells = some res → ∀ (H : Heap) (locs : List Loc) (ls : Array Slot), va_P (gD G) vwCl (w_Digits_isZero G qt qt_limbs t_limbs qt_cells t_cells t_used t_lowest) H → va_D A (w_Digits_isZero G qt qt_limbs t_limbs qt_cells t_cells t_used t_lowest) → va_S A s.heap H locs → lv_has ls 9 [(0, .ref qt)] → W p l e { frames := 1, cells := 0, slots := 0, locals := 40 } s m ([.ref qt, .int a1] : List Value).toArray below meth c H locs 0 0 Q (F0 m 163 ls []) := by
    intro t_used t_limbs t_cells  hf H locs ls hP hD hS hl
    unfold k_Digits_spell_163 at hf
    refine lv_aload_n hx hb d_Digits_spell_163 rfl (lv_at hl 0 rfl) ?_
    obtain ⟨u_164, hu_164, hf⟩ := bd_ hf
    refine CALLWv (va_runV (As := []) (rest := []) ⟨hx, hb, hml, hown, hg⟩ (c_Digits_trim l G K qt qt_limbs t_limbs qt_cells t_cells t_used t_lowest _ u_164  hu_164) (cwV 0 hg (gV m_181 m_182 m_183 m_179 m_184) rfl rfl rfl (by decide +kernel) ⟨Nat.le_of_ble_eq_true rfl, Nat.le_of_ble_eq_true rfl⟩) ⟨PC_b, va_recv hK hP (ci := 2) (q0 := 0) rfl rfl, PC_p hE hS hAb hP hD⟩ rfl rfl hl.1 rfl (lv_room (Nat.le_of_ble_eq_true rfl)) d_Digits_spell_164 ⟨Nat.zero_le _, Nat.zero_le _⟩) hP hD hS hA (fun H locs hP hD hS => ?_)
    have hP : va_P (gD G) vwCl (w_Digits_isZero G qt qt_limbs t_limbs qt_cells t_cells u_164 t_lowest) H := hP
    have hD : va_D A (w_Digits_isZero G qt qt_limbs t_limbs qt_cells t_cells u_164 t_lowest) := hD
    obtain rfl := Option.some.inj hf
    rw [← hQ]
    exact W.vret hx hb hr (fun t9 ht hW => ⟨⟨(), rfl, trivial, ⟨by rw [ht]; exact hP, hD⟩⟩, hS.F ht⟩) hS.2.2 d_Digits_spell_167
  have W_66 : ∀ (x2 : Int32) (x3 : Int32)  (n_66 : Nat) (z66 : Int32 × Int32 × Int32 × (Nat → Int32) × (Nat → Int32)) , lp_ (b_Digits_spell_66 K a1 x2 x3) n_66 z66 = some res → ∀ (H : Heap) (locs : List Loc) (ls : Array Slot), va_P (gD G) vwCl (w_Digits_isZero G qt qt_limbs z66.2.2.2.1 qt_cells z66.2.2.2.2 z66.2.2.1 t_lowest) H → va_D A (w_Digits_isZero G qt qt_limbs z66.2.2.2.1 qt_cells z66.2.2.2.2 z66.2.2.1 t_lowest) → va_S A s.heap H locs → lv_has ls 9 [(0, .ref qt), (1, .int a1), (2, .int x2), (3, .int x3), (4, .int z66.1), (5, .int z66.2.1)] → W p l e { frames := 1, cells := 0, slots := 0, locals := 40 } s m ([.ref qt, .int a1] : List Value).toArray below meth c H locs 0 0 Q (F0 m 66 ls []) := by
    intro x2 x3 n_66
    induction n_66 with
    | zero =>
      intro z66  hf
      cases hf
    | succ n_66 ih_66 =>
      intro z66  hf H locs ls hP hD hS hl
      have hf : b_Digits_spell_66 K a1 x2 x3 (lp_ (b_Digits_spell_66 K a1 x2 x3) n_66) z66 = some res := hf
      generalize lp_ (b_Digits_spell_66 K a1 x2 x3) n_66 = rec_66 at hf ih_66
      have W_149 : ∀ (x4 : Int32) (x5 : Int32) (t_used : Int32) (t_limbs : (Nat → Int32)) (t_cells : (Nat → Int32)) , k_Digits_spell_149 K rec_66 x4 x5 t_used t_limbs t_cells = some res → ∀ (H : Heap) (locs : List Loc) (ls : Array Slot), va_P (gD G) vwCl (w_Digits_isZero G qt qt_limbs t_limbs qt_cells t_cells t_used t_lowest) H → va_D A (w_Digits_isZero G qt qt_limbs t_limbs qt_cells t_cells t_used t_lowest) → va_S A s.heap H locs → lv_has ls 9 [(0, .ref qt), (1, .int a1), (2, .int x2), (3, .int x3), (4, .int x4), (5, .int x5)] → W p l e { frames := 1, cells := 0, slots := 0, locals := 40 } s m ([.ref qt, .int a1] : List Value).toArray below meth c H locs 0 0 Q (F0 m 149 ls []) := by
        intro x4 x5 t_used t_limbs t_cells  hf H locs ls hP hD hS hl
        unfold k_Digits_spell_149 at hf
        refine lv_aload_n hx hb d_Digits_spell_149 rfl (lv_at hl 0 rfl) ?_
        refine lv_iload hx hb d_Digits_spell_150 (lv_at hl 4 rfl) ?_
        obtain ⟨u_152, hu_152, hf⟩ := bd_ hf
        refine CALLWi (va_runV (As := [.int x4]) (rest := []) ⟨hx, hb, hml, hown, hg⟩ (c_Digits_topFrom l G K qt qt_limbs t_limbs qt_cells t_cells t_used t_lowest x4 _ u_152  hu_152) (cwV 1 hg (gV m_190 m_191 m_192 m_179 m_193) rfl rfl rfl (by decide +kernel) ⟨Nat.le_of_ble_eq_true rfl, Nat.le_of_ble_eq_true rfl⟩) ⟨PC_b, va_recv hK hP (ci := 2) (q0 := 0) rfl rfl, PC_p hE hS hAb hP hD⟩ rfl rfl hl.1 rfl (lv_room (Nat.le_of_ble_eq_true rfl)) d_Digits_spell_152 ⟨Nat.zero_le _, Nat.zero_le _⟩) hP hD hS hA (fun H locs hP hD hS => ?_)
        have hP : va_P (gD G) vwCl (w_Digits_isZero G qt qt_limbs t_limbs qt_cells t_cells t_used t_lowest) H := hP
        have hD : va_D A (w_Digits_isZero G qt qt_limbs t_limbs qt_cells t_cells t_used t_lowest) := hD
        refine lv_istore (lv' := [(4, .int u_152), (0, .ref qt), (1, .int a1), (2, .int x2), (3, .int x3), (5, .int x5)]) hx hb d_Digits_spell_155 hl (by decide) rfl (fun ls hl => ?_)
        refine lv_iinc (v := (x5 + 1)) (lv' := [(5, .int (x5 + 1)), (4, .int u_152), (0, .ref qt), (1, .int a1), (2, .int x2), (3, .int x3)]) hx hb d_Digits_spell_157 hl (k := 5) rfl rfl (by decide) rfl (fun ls hl => ?_)
        refine lv_goto (tgt := 66) hx hb d_Digits_spell_160 (by decide) ?_
        exact ih_66 (u_152, (x5 + 1), t_used, t_limbs, t_cells)  hf _ _ _ hP hD hS (lv_sub hl [2, 3, 4, 5, 1, 0] rfl)
      have W_90 : ∀ (x4 : Int32) (x5 : Int32) (t_limbs : (Nat → Int32))  (n_90 : Nat) (z90 : Int64 × Int32 × Int32 × (Nat → Int32)) , lp_ (b_Digits_spell_90 K a1 x2 rec_66 x4 x5 t_limbs) n_90 z90 = some res → ∀ (H : Heap) (locs : List Loc) (ls : Array Slot), va_P (gD G) vwCl (w_Digits_isZero G qt qt_limbs t_limbs qt_cells z90.2.2.2 z90.2.2.1 t_lowest) H → va_D A (w_Digits_isZero G qt qt_limbs t_limbs qt_cells z90.2.2.2 z90.2.2.1 t_lowest) → va_S A s.heap H locs → lv_has ls 9 [(0, .ref qt), (1, .int a1), (2, .int x2), (3, .int x3), (4, .int x4), (5, .int x5), (6, .long z90.1), (8, .int z90.2.1)] → W p l e { frames := 1, cells := 0, slots := 0, locals := 40 } s m ([.ref qt, .int a1] : List Value).toArray below meth c H locs 0 0 Q (F0 m 90 ls []) := by
        intro x4 x5 t_limbs n_90
        induction n_90 with
        | zero =>
          intro z90  hf
          cases hf
        | succ n_90 ih_90 =>
          intro z90  hf H locs ls hP hD hS hl
          have hf : b_Digits_spell_90 K a1 x2 rec_66 x4 x5 t_limbs (lp_ (b_Digits_spell_90 K a1 x2 rec_66 x4 x5 t_limbs) n_90) z90 = some res := hf
          generalize lp_ (b_Digits_spell_90 K a1 x2 rec_66 x4 x5 t_limbs) n_90 = rec_90 at hf ih_90
          unfold b_Digits_spell_90 at hf
          refine lv_iload hx hb d_Digits_spell_90 (lv_at hl 7 rfl) ?_
          refine lv_iload_n hx hb d_Digits_spell_92 rfl (lv_at hl 2 rfl) ?_
          refine lv_icmp_ge (tgt := 149) hx hb d_Digits_spell_93 (by decide) (fun c_93 => ?_) (fun c_93 => ?_)
          · have hf := ip_ c_93 hf
            exact W_149 x4 x5 z90.2.2.1 t_limbs z90.2.2.2  hf _ _ _ hP hD hS (lv_sub hl [0, 1, 2, 3, 4, 5] rfl)
          · have hf := in_ c_93 hf
            refine lv_aload_n hx hb d_Digits_spell_96 rfl (lv_at hl 0 rfl) ?_
            refine va_get (D := gD G) (ci := 2) (v := .int z90.2.2.1) (C := R_Digits) (T := F_Digits) (N := 4) hx hb hg in_Digits hown hK hP 0 rfl rfl 2 (by decide) (hg _ m_173) (fun _ h9 => h9) rfl d_Digits_spell_97 ?_
            refine lv_sipush (v := 208) hx hb d_Digits_spell_100 (by decide) ?_
            refine lv_icmp_ge (tgt := 149) hx hb d_Digits_spell_103 (by decide) (fun c_103 => ?_) (fun c_103 => ?_)
            · have hf := ip_ c_103 hf
              exact W_149 x4 x5 z90.2.2.1 t_limbs z90.2.2.2  hf _ _ _ hP hD hS (lv_sub hl [0, 1, 2, 3, 4, 5] rfl)
            · have hf := in_ c_103 hf
              refine lv_iload_n hx hb d_Digits_spell_106 rfl (lv_at hl 1 rfl) ?_
              refine lv_if_le (tgt := 149) hx hb d_Digits_spell_107 (by decide) (fun c_107 => ?_) (fun c_107 => ?_)
              · have hf := ip_ c_107 hf
                exact W_149 x4 x5 z90.2.2.1 t_limbs z90.2.2.2  hf _ _ _ hP hD hS (lv_sub hl [0, 1, 2, 3, 4, 5] rfl)
              · have hf := in_ c_107 hf
                refine lv_aload_n hx hb d_Digits_spell_110 rfl (lv_at hl 0 rfl) ?_
                refine va_get (D := gD G) (ci := 2) (v := .ref qt_cells) (C := R_Digits) (T := F_Digits) (N := 4) hx hb hg in_Digits hown hK hP 0 rfl rfl 1 (by decide) (hg _ m_175) (fun _ h9 => h9) rfl d_Digits_spell_111 ?_
                refine lv_aload_n hx hb d_Digits_spell_114 rfl (lv_at hl 0 rfl) ?_
                refine va_get (D := gD G) (ci := 2) (v := .int z90.2.2.1) (C := R_Digits) (T := F_Digits) (N := 4) hx hb hg in_Digits hown hK hP 0 rfl rfl 2 (by decide) (hg _ m_173) (fun _ h9 => h9) rfl d_Digits_spell_115 ?_
                refine lv_lload hx hb d_Digits_spell_118 (lv_at hl 6 rfl) ?_
                refine lv_iload_n hx hb d_Digits_spell_120 rfl (lv_at hl 1 rfl) ?_
                refine lv_i2l (v := a1.toInt64) hx hb d_Digits_spell_121 rfl ?_
                obtain ⟨g_122, hf⟩ := gn_ hf
                refine lv_lrem hx hb d_Digits_spell_122 g_122 ?_
                refine lv_l2i (v := (z90.1 - z90.1 / a1.toInt64 * a1.toInt64).toInt32) hx hb d_Digits_spell_123 rfl ?_
                refine lv_i2b (v := ((z90.1 - z90.1 / a1.toInt64 * a1.toInt64).toInt32).toInt8.toInt32) hx hb d_Digits_spell_124 rfl ?_
                obtain ⟨g_125, hf⟩ := gd_ hf
                refine va_bast hx hb hK hP hD hS 2 0 rfl rfl (inB_in g_125) d_Digits_spell_125 (fun H locs hP hD hS => ?_)
                have hP : va_P (gD G) vwCl (w_Digits_isZero G qt qt_limbs t_limbs qt_cells (upd z90.2.2.2 z90.2.2.1.toNatClampNeg (vp_nar .byte (((z90.1 - z90.1 / a1.toInt64 * a1.toInt64).toInt32).toInt8.toInt32))) z90.2.2.1 t_lowest) H := hP
                have hD : va_D A (w_Digits_isZero G qt qt_limbs t_limbs qt_cells (upd z90.2.2.2 z90.2.2.1.toNatClampNeg (vp_nar .byte (((z90.1 - z90.1 / a1.toInt64 * a1.toInt64).toInt32).toInt8.toInt32))) z90.2.2.1 t_lowest) := hD
                refine lv_aload_n hx hb d_Digits_spell_126 rfl (lv_at hl 0 rfl) ?_
                refine lv_dup hx hb d_Digits_spell_127 rfl ?_
                refine va_get (D := gD G) (ci := 2) (v := .int z90.2.2.1) (C := R_Digits) (T := F_Digits) (N := 4) hx hb hg in_Digits hown hK hP 0 rfl rfl 2 (by decide) (hg _ m_173) (fun _ h9 => h9) rfl d_Digits_spell_128 ?_
                refine lv_iconst (v := 1) hx hb d_Digits_spell_131 (by decide) ?_
                refine lv_iadd hx hb d_Digits_spell_132 ?_
                refine va_put (D := gD G) (ci := 2) (v := .int (z90.2.2.1 + (1 : Int32))) (ty := .int) (C := R_Digits) (T := F_Digits) (N := 4) hx hb hg in_Digits t_Digits to_Digits no_Digits hown hK hP hD hS 0 rfl rfl 2 (by decide) (hg _ m_173) (fun _ h9 => h9) rfl (by decide +kernel) rfl rfl (Nat.le_of_ble_eq_true rfl) d_Digits_spell_133 (fun H locs hP hD hS => ?_)
                have hP : va_P (gD G) vwCl (w_Digits_isZero G qt qt_limbs t_limbs qt_cells (upd z90.2.2.2 z90.2.2.1.toNatClampNeg (vp_nar .byte (((z90.1 - z90.1 / a1.toInt64 * a1.toInt64).toInt32).toInt8.toInt32))) (z90.2.2.1 + (1 : Int32)) t_lowest) H := hP
                have hD : va_D A (w_Digits_isZero G qt qt_limbs t_limbs qt_cells (upd z90.2.2.2 z90.2.2.1.toNatClampNeg (vp_nar .byte (((z90.1 - z90.1 / a1.toInt64 * a1.toInt64).toInt32).toInt8.toInt32))) (z90.2.2.1 + (1 : Int32)) t_lowest) := hD
                refine lv_lload hx hb d_Digits_spell_136 (lv_at hl 6 rfl) ?_
                refine lv_iload_n hx hb d_Digits_spell_138 rfl (lv_at hl 1 rfl) ?_
                refine lv_i2l (v := a1.toInt64) hx hb d_Digits_spell_139 rfl ?_
                obtain ⟨g_140, hf⟩ := gn_ hf
                refine lv_ldiv hx hb d_Digits_spell_140 g_140 ?_
                refine lv_lstore (lv' := [(6, .long (z90.1 / a1.toInt64)), (0, .ref qt), (1, .int a1), (2, .int x2), (3, .int x3), (4, .int x4), (5, .int x5), (8, .int z90.2.1)]) hx hb d_Digits_spell_141 hl (by decide) rfl (fun ls hl => ?_)
                refine lv_iinc (v := (z90.2.1 + 1)) (lv' := [(8, .int (z90.2.1 + 1)), (6, .long (z90.1 / a1.toInt64)), (0, .ref qt), (1, .int a1), (2, .int x2), (3, .int x3), (4, .int x4), (5, .int x5)]) hx hb d_Digits_spell_143 hl (k := 7) rfl rfl (by decide) rfl (fun ls hl => ?_)
                refine lv_goto (tgt := 90) hx hb d_Digits_spell_146 (by decide) ?_
                exact ih_90 ((z90.1 / a1.toInt64), (z90.2.1 + 1), (z90.2.2.1 + (1 : Int32)), (upd z90.2.2.2 z90.2.2.1.toNatClampNeg (vp_nar .byte (((z90.1 - z90.1 / a1.toInt64 * a1.toInt64).toInt32).toInt8.toInt32))))  hf _ _ _ hP hD hS (lv_sub hl [2, 3, 4, 5, 6, 7, 1, 0] rfl)
      unfold b_Digits_spell_66 at hf
      refine lv_iload hx hb d_Digits_spell_66 (lv_at hl 5 rfl) ?_
      refine lv_bipush (v := 20) hx hb d_Digits_spell_68 (by decide) ?_
      refine lv_icmp_ge (tgt := 163) hx hb d_Digits_spell_70 (by decide) (fun c_70 => ?_) (fun c_70 => ?_)
      · have hf := ip_ c_70 hf
        exact W_163 z66.2.2.1 z66.2.2.2.1 z66.2.2.2.2  hf _ _ _ hP hD hS (lv_sub hl [0] rfl)
      · have hf := in_ c_70 hf
        refine lv_iload hx hb d_Digits_spell_73 (lv_at hl 4 rfl) ?_
        refine lv_if_le (tgt := 163) hx hb d_Digits_spell_75 (by decide) (fun c_75 => ?_) (fun c_75 => ?_)
        · have hf := ip_ c_75 hf
          exact W_163 z66.2.2.1 z66.2.2.2.1 z66.2.2.2.2  hf _ _ _ hP hD hS (lv_sub hl [0] rfl)
        · have hf := in_ c_75 hf
          refine lv_aload_n hx hb d_Digits_spell_78 rfl (lv_at hl 0 rfl) ?_
          refine lv_iload hx hb d_Digits_spell_79 (lv_at hl 4 rfl) ?_
          refine lv_iload_n hx hb d_Digits_spell_81 rfl (lv_at hl 3 rfl) ?_
          obtain ⟨u_82, hu_82, hf⟩ := bd_ hf
          refine CALLWl (va_runV (As := [.int z66.1, .int x3]) (rest := []) ⟨hx, hb, hml, hown, hg⟩ (c_Digits_divide l G K qt qt_limbs z66.2.2.2.1 qt_cells z66.2.2.2.2 z66.2.2.1 t_lowest z66.1 x3 _ u_82  hu_82) (cwV 2 hg (gV m_194 m_195 m_196 m_179 m_197) rfl rfl rfl (by decide +kernel) ⟨Nat.le_of_ble_eq_true rfl, Nat.le_of_ble_eq_true rfl⟩) ⟨PC_b, va_recv hK hP (ci := 2) (q0 := 0) rfl rfl, PC_p hE hS hAb hP hD⟩ rfl rfl hl.1 rfl (lv_room (Nat.le_of_ble_eq_true rfl)) d_Digits_spell_82 ⟨Nat.zero_le _, Nat.zero_le _⟩) hP hD hS hA (fun H locs hP hD hS => ?_)
          have hP : va_P (gD G) vwCl (w_Digits_isZero G qt qt_limbs u_82.2 qt_cells z66.2.2.2.2 z66.2.2.1 t_lowest) H := hP
          have hD : va_D A (w_Digits_isZero G qt qt_limbs u_82.2 qt_cells z66.2.2.2.2 z66.2.2.1 t_lowest) := hD
          refine lv_lstore (lv' := [(6, .long u_82.1), (0, .ref qt), (1, .int a1), (2, .int x2), (3, .int x3), (4, .int z66.1), (5, .int z66.2.1)]) hx hb d_Digits_spell_85 hl (by decide) rfl (fun ls hl => ?_)
          refine lv_iconst (v := 0) hx hb d_Digits_spell_87 (by decide) ?_
          refine lv_istore (lv' := [(8, .int (0 : Int32)), (6, .long u_82.1), (0, .ref qt), (1, .int a1), (2, .int x2), (3, .int x3), (4, .int z66.1), (5, .int z66.2.1)]) hx hb d_Digits_spell_88 hl (by decide) rfl (fun ls hl => ?_)
          exact W_90 z66.1 z66.2.1 u_82.2  K (u_82.1, (0 : Int32), z66.2.2.1, z66.2.2.2.2)  hf _ _ _ hP hD hS (lv_sub hl [2, 3, 4, 5, 6, 7, 1, 0] rfl)
  have W_49 : ∀ (x2 : Int32) (k0 : Int32) (t_used : Int32) (t_limbs : (Nat → Int32)) (t_cells : (Nat → Int32)) , k_Digits_spell_49 K a1 x2 k0 t_used t_limbs t_cells = some res → ∀ (H : Heap) (locs : List Loc) (ls : Array Slot), va_P (gD G) vwCl (w_Digits_isZero G qt qt_limbs t_limbs qt_cells t_cells t_used t_lowest) H → va_D A (w_Digits_isZero G qt qt_limbs t_limbs qt_cells t_cells t_used t_lowest) → va_S A s.heap H locs → lv_has ls 9 [(0, .ref qt), (1, .int a1), (2, .int x2)] → W p l e { frames := 1, cells := 0, slots := 0, locals := 40 } s m ([.ref qt, .int a1] : List Value).toArray below meth c H locs 0 0 Q (F0 m 49 ls [.int k0]) := by
    intro x2 k0 t_used t_limbs t_cells  hf H locs ls hP hD hS hl
    unfold k_Digits_spell_49 at hf
    refine lv_istore_n (lv' := [(3, .int k0), (0, .ref qt), (1, .int a1), (2, .int x2)]) hx hb d_Digits_spell_49 rfl hl (by decide) rfl (fun ls hl => ?_)
    refine lv_aload_n hx hb d_Digits_spell_50 rfl (lv_at hl 1 rfl) ?_
    refine lv_iconst (v := 0) hx hb d_Digits_spell_51 (by decide) ?_
    refine va_put (D := gD G) (ci := 2) (v := .int (0 : Int32)) (ty := .int) (C := R_Digits) (T := F_Digits) (N := 4) hx hb hg in_Digits t_Digits to_Digits no_Digits hown hK hP hD hS 0 rfl rfl 2 (by decide) (hg _ m_173) (fun _ h9 => h9) rfl (by decide +kernel) rfl rfl (Nat.le_of_ble_eq_true rfl) d_Digits_spell_52 (fun H locs hP hD hS => ?_)
    have hP : va_P (gD G) vwCl (w_Digits_isZero G qt qt_limbs t_limbs qt_cells t_cells (0 : Int32) t_lowest) H := hP
    have hD : va_D A (w_Digits_isZero G qt qt_limbs t_limbs qt_cells t_cells (0 : Int32) t_lowest) := hD
    refine lv_aload_n hx hb d_Digits_spell_55 rfl (lv_at hl 1 rfl) ?_
    refine lv_bipush (v := 16) hx hb d_Digits_spell_56 (by decide) ?_
    obtain ⟨u_58, hu_58, hf⟩ := bd_ hf
    refine CALLWi (va_runV (As := [.int (16 : Int32)]) (rest := []) ⟨hx, hb, hml, hown, hg⟩ (c_Digits_topFrom l G K qt qt_limbs t_limbs qt_cells t_cells (0 : Int32) t_lowest (16 : Int32) _ u_58  hu_58) (cwV 1 hg (gV m_190 m_191 m_192 m_179 m_193) rfl rfl rfl (by decide +kernel) ⟨Nat.le_of_ble_eq_true rfl, Nat.le_of_ble_eq_true rfl⟩) ⟨PC_b, va_recv hK hP (ci := 2) (q0 := 0) rfl rfl, PC_p hE hS hAb hP hD⟩ rfl rfl hl.1 rfl (lv_room (Nat.le_of_ble_eq_true rfl)) d_Digits_spell_58 ⟨Nat.zero_le _, Nat.zero_le _⟩) hP hD hS hA (fun H locs hP hD hS => ?_)
    have hP : va_P (gD G) vwCl (w_Digits_isZero G qt qt_limbs t_limbs qt_cells t_cells (0 : Int32) t_lowest) H := hP
    have hD : va_D A (w_Digits_isZero G qt qt_limbs t_limbs qt_cells t_cells (0 : Int32) t_lowest) := hD
    refine lv_istore (lv' := [(4, .int u_58), (3, .int k0), (0, .ref qt), (1, .int a1), (2, .int x2)]) hx hb d_Digits_spell_61 hl (by decide) rfl (fun ls hl => ?_)
    refine lv_iconst (v := 0) hx hb d_Digits_spell_63 (by decide) ?_
    refine lv_istore (lv' := [(5, .int (0 : Int32)), (4, .int u_58), (3, .int k0), (0, .ref qt), (1, .int a1), (2, .int x2)]) hx hb d_Digits_spell_64 hl (by decide) rfl (fun ls hl => ?_)
    exact W_66 x2 k0  K (u_58, (0 : Int32), (0 : Int32), t_limbs, t_cells)  hf _ _ _ hP hD hS (lv_sub hl [3, 4, 5, 2, 1, 0] rfl)
  have W_24 : ∀ (k0 : Int32) (t_used : Int32) (t_limbs : (Nat → Int32)) (t_cells : (Nat → Int32)) , k_Digits_spell_24 K a1 k0 t_used t_limbs t_cells = some res → ∀ (H : Heap) (locs : List Loc) (ls : Array Slot), va_P (gD G) vwCl (w_Digits_isZero G qt qt_limbs t_limbs qt_cells t_cells t_used t_lowest) H → va_D A (w_Digits_isZero G qt qt_limbs t_limbs qt_cells t_cells t_used t_lowest) → va_S A s.heap H locs → lv_has ls 9 [(0, .ref qt), (1, .int a1)] → W p l e { frames := 1, cells := 0, slots := 0, locals := 40 } s m ([.ref qt, .int a1] : List Value).toArray below meth c H locs 0 0 Q (F0 m 24 ls [.int k0]) := by
    intro k0 t_used t_limbs t_cells  hf H locs ls hP hD hS hl
    unfold k_Digits_spell_24 at hf
    refine lv_istore_n (lv' := [(2, .int k0), (0, .ref qt), (1, .int a1)]) hx hb d_Digits_spell_24 rfl hl (by decide) rfl (fun ls hl => ?_)
    refine lv_iload_n hx hb d_Digits_spell_25 rfl (lv_at hl 2 rfl) ?_
    refine lv_bipush (v := 10) hx hb d_Digits_spell_26 (by decide) ?_
    refine lv_icmp_ne (tgt := 36) hx hb d_Digits_spell_28 (by decide) (fun c_28 => ?_) (fun c_28 => ?_)
    · have hf := in_ c_28 hf
      refine lv_iload_n hx hb d_Digits_spell_36 rfl (lv_at hl 2 rfl) ?_
      refine lv_bipush (v := 16) hx hb d_Digits_spell_37 (by decide) ?_
      refine lv_icmp_ne (tgt := 47) hx hb d_Digits_spell_39 (by decide) (fun c_39 => ?_) (fun c_39 => ?_)
      · have hf := in_ c_39 hf
        refine lv_ldc (v := 1073741824) hx hb hown (hg _ m_187) d_Digits_spell_47 ?_
        exact W_49 k0 (1073741824 : Int32) t_used t_limbs t_cells  hf _ _ _ hP hD hS (lv_sub hl [1, 2, 0] rfl)
      · have hf := ip_ c_39 hf
        refine lv_ldc (v := 268435456) hx hb hown (hg _ m_188) d_Digits_spell_42 ?_
        refine lv_goto (tgt := 49) hx hb d_Digits_spell_44 (by decide) ?_
        exact W_49 k0 (268435456 : Int32) t_used t_limbs t_cells  hf _ _ _ hP hD hS (lv_sub hl [1, 2, 0] rfl)
    · have hf := ip_ c_28 hf
      refine lv_ldc (v := 1000000000) hx hb hown (hg _ m_189) d_Digits_spell_31 ?_
      refine lv_goto (tgt := 49) hx hb d_Digits_spell_33 (by decide) ?_
      exact W_49 k0 (1000000000 : Int32) t_used t_limbs t_cells  hf _ _ _ hP hD hS (lv_sub hl [1, 2, 0] rfl)
  unfold f_Digits_spell at hf
  refine lv_iload_n hx hb d_Digits_spell_0 rfl (lv_at hl 1 rfl) ?_
  refine lv_bipush (v := 10) hx hb d_Digits_spell_1 (by decide) ?_
  refine lv_icmp_ne (tgt := 11) hx hb d_Digits_spell_3 (by decide) (fun c_3 => ?_) (fun c_3 => ?_)
  · have hf := in_ c_3 hf
    refine lv_iload_n hx hb d_Digits_spell_11 rfl (lv_at hl 1 rfl) ?_
    refine lv_bipush (v := 16) hx hb d_Digits_spell_12 (by decide) ?_
    refine lv_icmp_ne (tgt := 22) hx hb d_Digits_spell_14 (by decide) (fun c_14 => ?_) (fun c_14 => ?_)
    · have hf := in_ c_14 hf
      refine lv_bipush (v := 10) hx hb d_Digits_spell_22 (by decide) ?_
      exact W_24 (10 : Int32) t_used t_limbs t_cells  hf _ _ _ hP hD hS (lv_sub hl [0, 1] rfl)
    · have hf := ip_ c_14 hf
      refine lv_bipush (v := 7) hx hb d_Digits_spell_17 (by decide) ?_
      refine lv_goto (tgt := 24) hx hb d_Digits_spell_19 (by decide) ?_
      exact W_24 (7 : Int32) t_used t_limbs t_cells  hf _ _ _ hP hD hS (lv_sub hl [0, 1] rfl)
  · have hf := ip_ c_3 hf
    refine lv_bipush (v := 9) hx hb d_Digits_spell_6 (by decide) ?_
    refine lv_goto (tgt := 24) hx hb d_Digits_spell_8 (by decide) ?_
    exact W_24 (9 : Int32) t_used t_limbs t_cells  hf _ _ _ hP hD hS (lv_sub hl [0, 1] rfl)
theorem d_Digits_take_0 : decode cd_Digits_take 0 = .ok (.iconst 0, 1) := by decide +kernel
theorem d_Digits_take_1 : decode cd_Digits_take 1 = .ok (.istore_n 3, 1) := by decide +kernel
theorem d_Digits_take_2 : decode cd_Digits_take 2 = .ok (.iload_n 3, 1) := by decide +kernel
theorem d_Digits_take_3 : decode cd_Digits_take 3 = .ok (.bipush 8, 2) := by decide +kernel
theorem d_Digits_take_5 : decode cd_Digits_take 5 = .ok (.if_icmp .ge 20, 3) := by decide +kernel
theorem d_Digits_take_8 : decode cd_Digits_take 8 = .ok (.aload_n 0, 1) := by decide +kernel
theorem d_Digits_take_9 : decode cd_Digits_take 9 = .ok (.iload_n 3, 1) := by decide +kernel
theorem d_Digits_take_10 : decode cd_Digits_take 10 = .ok (.aload_n 1, 1) := by decide +kernel
theorem d_Digits_take_11 : decode cd_Digits_take 11 = .ok (.getfield 19, 3) := by decide +kernel
theorem d_Digits_take_14 : decode cd_Digits_take 14 = .ok (.iload_n 3, 1) := by decide +kernel
theorem d_Digits_take_15 : decode cd_Digits_take 15 = .ok (.laload, 1) := by decide +kernel
theorem d_Digits_take_16 : decode cd_Digits_take 16 = .ok (.invokevirtual 23, 3) := by decide +kernel
theorem d_Digits_take_19 : decode cd_Digits_take 19 = .ok (.iinc 3 1, 3) := by decide +kernel
theorem d_Digits_take_22 : decode cd_Digits_take 22 = .ok (.goto (-20), 3) := by decide +kernel
theorem d_Digits_take_25 : decode cd_Digits_take 25 = .ok (.aload_n 0, 1) := by decide +kernel
theorem d_Digits_take_26 : decode cd_Digits_take 26 = .ok (.iload_n 2, 1) := by decide +kernel
theorem d_Digits_take_27 : decode cd_Digits_take 27 = .ok (.invokevirtual 27, 3) := by decide +kernel
theorem d_Digits_take_30 : decode cd_Digits_take 30 = .ok (.aload_n 0, 1) := by decide +kernel
theorem d_Digits_take_31 : decode cd_Digits_take 31 = .ok (.aload_n 1, 1) := by decide +kernel
theorem d_Digits_take_32 : decode cd_Digits_take 32 = .ok (.getfield 31, 3) := by decide +kernel
theorem d_Digits_take_35 : decode cd_Digits_take 35 = .ok (.putfield 35, 3) := by decide +kernel
theorem d_Digits_take_38 : decode cd_Digits_take 38 = .ok (.return_, 1) := by decide +kernel
theorem m_198 : Cond.methodLink R_Digits 27 y_Digits_spell ∈ gw := gm (i := 696) (by decide +kernel) (by decide +kernel)
theorem m_199 : Cond.instanceMethod y_Digits_spell ∈ gw := gm (i := 698) (by decide +kernel) (by decide +kernel)
theorem m_200 : Cond.selects R_Digits y_Digits_spell y_Digits_spell ∈ gw := gm (i := 22) (by decide +kernel) (by decide +kernel)
set_option maxRecDepth 100000 in
theorem m_201 : Cond.code y_Digits_spell cd_Digits_spell 9 none ∈ gw := gm (i := 699) rfl rfl
theorem nm_1 : Cond.fieldLinkNest R_Digits 31 "SpecifierDesk$Argument" "lowest" "I" "SpecifierDesk" ∈ nwL := nwm (i := 269) (by decide +kernel) (by decide +kernel)
theorem nm_2 : Cond.fieldLinkNest R_Digits 19 "SpecifierDesk$Argument" "words" "[J" "SpecifierDesk" ∈ nwL := nwm (i := 257) (by decide +kernel) (by decide +kernel)
theorem m_202 : Cond.methodLink R_Digits 23 y_Digits_setLimbs ∈ gw := gm (i := 692) (by decide +kernel) (by decide +kernel)
theorem m_203 : Cond.instanceMethod y_Digits_setLimbs ∈ gw := gm (i := 694) (by decide +kernel) (by decide +kernel)
theorem m_204 : Cond.selects R_Digits y_Digits_setLimbs y_Digits_setLimbs ∈ gw := gm (i := 21) (by decide +kernel) (by decide +kernel)
set_option maxRecDepth 100000 in
theorem m_205 : Cond.code y_Digits_setLimbs cd_Digits_setLimbs 4 none ∈ gw := gm (i := 695) rfl rfl
def b_Digits_take_2 (K : Nat) (a1_words : Nat → Int64) (a1_lowest : Int32) (a2 : Int32) (t_used : Int32) (t_lowest : Int32) (t_cells : (Nat → Int32)) (rec_2 : (Int32 × (Nat → Int32)) → Option (Int32 × Int32 × (Nat → Int32) × (Nat → Int32))) (z2 : Int32 × (Nat → Int32)) : Option (Int32 × Int32 × (Nat → Int32) × (Nat → Int32)) :=
  (if (8 : Int32) ≤ z2.1 then ((f_Digits_spell K z2.2 t_cells t_used a2).bind fun u_27 => some (u_27.1, a1_lowest, u_27.2.1, u_27.2.2)) else (if inB z2.1 8 = true then ((f_Digits_setLimbs z2.2 z2.1 (a1_words z2.1.toNatClampNeg)).bind fun u_16 => rec_2 ((z2.1 + 1), u_16)) else none))
def f_Digits_take (K : Nat) (t_limbs : Nat → Int32) (t_cells : Nat → Int32) (t_used : Int32) (t_lowest : Int32) (a1_words : Nat → Int64) (a1_lowest : Int32) (a2 : Int32) : Option (Int32 × Int32 × (Nat → Int32) × (Nat → Int32)) :=
  lp_ (b_Digits_take_2 K a1_words a1_lowest a2 t_used t_lowest t_cells) K ((0 : Int32), t_limbs)
abbrev w_Digits_take (G : Gt) (qt : Nat) (qt_limbs : Nat) (t_limbs : Nat → Int32) (qt_cells : Nat) (t_cells : Nat → Int32) (t_used : Int32) (t_lowest : Int32) (qa1 : Nat) (qa1_words : Nat) (a1_words : Nat → Int64) (a1_kind : Nat) (a1_minus : Int32) (a1_bits : Int64) (a1_wide : Int32) (a1_lowest : Int32) (a1_letters : Option Nat) : va_W := [(qt, .inr (2, [.ref qt_limbs, .ref qt_cells, .int t_used, .int t_lowest])), (qt_limbs, .inl (gC G 1, 16, .inl t_limbs)), (qt_cells, .inl (gC G 0, 208, .inl t_cells)), (qa1, .inr (0, [.ref qa1_words, .ref (gK G a1_kind), .int a1_minus, .long a1_bits, .int a1_wide, .int a1_lowest, va_rf a1_letters])), (qa1_words, .inl (gC G 2, 8, .inr (.inl a1_words)))]
set_option maxHeartbeats 4000000 in
set_option maxRecDepth 100000 in
theorem c_Digits_take (l : Launch) (G : Gt) (K : Nat) (qt : Nat) (qt_limbs : Nat) (t_limbs : Nat → Int32) (qt_cells : Nat) (t_cells : Nat → Int32) (t_used : Int32) (t_lowest : Int32) (qa1 : Nat) (qa1_words : Nat) (a1_words : Nat → Int64) (a1_kind : Nat) (a1_minus : Int32) (a1_bits : Int64) (a1_wide : Int32) (a1_lowest : Int32) (a1_letters : Option Nat) (a2 : Int32) (sz : Nat) (res : Int32 × Int32 × (Nat → Int32) × (Nat → Int32))  (hr_a1_kind : a1_kind < 8) (hf : f_Digits_take K t_limbs t_cells t_used t_lowest a1_words a1_lowest a2 = some res) : Met l y_Digits_take (.code y_Digits_take cd_Digits_take 4 none :: gw) { frames := 2, cells := 0, slots := 0, locals := 80 } (PC G ([.ref qt, .ref qa1, .int a2] : List Value) sz (w_Digits_take G qt qt_limbs t_limbs qt_cells t_cells t_used t_lowest qa1 qa1_words a1_words a1_kind a1_minus a1_bits a1_wide a1_lowest a1_letters)) (QV G (va_A (w_Digits_take G qt qt_limbs t_limbs qt_cells t_cells t_used t_lowest qa1 qa1_words a1_words a1_kind a1_minus a1_bits a1_wide a1_lowest a1_letters) sz) (w_Digits_take G qt qt_limbs res.2.2.1 qt_cells res.2.2.2 res.1 res.2.1 qa1 qa1_words a1_words a1_kind a1_minus a1_bits a1_wide a1_lowest a1_letters)) 0 0 (va_A (w_Digits_take G qt qt_limbs t_limbs qt_cells t_cells t_used t_lowest qa1 qa1_words a1_words a1_kind a1_minus a1_bits a1_wide a1_lowest a1_letters) sz) := by
  refine Met.ofW (cc := cd_Digits_take) (maxL := 4) (ret := none) (by decide) rfl ?_
  intro p e s m args below meth c s₁ B hml hv
  obtain ⟨rfl, hsz, hP, hE, hD0⟩ := hv
  have hx := B.exec
  have hb := B.bytes
  have hr := B.returns
  have hts := atoms_spec (ws := (.code y_Digits_take cd_Digits_take 4 none :: gw)) B.pre
  have hg : ∀ w ∈ gw, w.before _ s = true := fun w h => hts w (List.mem_cons_of_mem _ h)
  have hown : s.vm.findClass R_Digits = some m.cls := findClass_of_methodNamed B.named
  have hlocks := B.notSynchronized
  subst hsz
  have hK := hE.K
  have hD := hD0.self (sz := s.heap.size)
  have hAb := hE.ab hD0
  obtain ⟨Q, hQ⟩ : ∃ Q, MQ below (QV G (va_A (w_Digits_take G qt qt_limbs t_limbs qt_cells t_cells t_used t_lowest qa1 qa1_words a1_words a1_kind a1_minus a1_bits a1_wide a1_lowest a1_letters) s.heap.size) (w_Digits_take G qt qt_limbs res.2.2.1 qt_cells res.2.2.2 res.1 res.2.1 qa1 qa1_words a1_words a1_kind a1_minus a1_bits a1_wide a1_lowest a1_letters)) ([.ref qt, .ref qa1, .int a2] : List Value).toArray s 0 0 (va_A (w_Digits_take G qt qt_limbs t_limbs qt_cells t_cells t_used t_lowest qa1 qa1_words a1_words a1_kind a1_minus a1_bits a1_wide a1_lowest a1_letters) s.heap.size) = Q := ⟨_, rfl⟩
  show W p l e { frames := 2, cells := 0, slots := 0, locals := 80 } s m ([.ref qt, .ref qa1, .int a2] : List Value).toArray below meth c s.heap [] 0 0 (MQ below (QV G (va_A (w_Digits_take G qt qt_limbs t_limbs qt_cells t_cells t_used t_lowest qa1 qa1_words a1_words a1_kind a1_minus a1_bits a1_wide a1_lowest a1_letters) s.heap.size) (w_Digits_take G qt qt_limbs res.2.2.1 qt_cells res.2.2.2 res.1 res.2.1 qa1 qa1_words a1_words a1_kind a1_minus a1_bits a1_wide a1_lowest a1_letters)) ([.ref qt, .ref qa1, .int a2] : List Value).toArray s 0 0 (va_A (w_Digits_take G qt qt_limbs t_limbs qt_cells t_cells t_used t_lowest qa1 qa1_words a1_words a1_kind a1_minus a1_bits a1_wide a1_lowest a1_letters) s.heap.size)) _
  rw [hQ]
  have hA : ∀ q : Nat, s.heap.size ≤ q → va_A (w_Digits_take G qt qt_limbs t_limbs qt_cells t_cells t_used t_lowest qa1 qa1_words a1_words a1_kind a1_minus a1_bits a1_wide a1_lowest a1_letters) s.heap.size q := fun q h => Or.inr h
  obtain ⟨A, hAe⟩ : ∃ A, va_A (w_Digits_take G qt qt_limbs t_limbs qt_cells t_cells t_used t_lowest qa1 qa1_words a1_words a1_kind a1_minus a1_bits a1_wide a1_lowest a1_letters) s.heap.size = A := ⟨_, rfl⟩
  rw [hAe] at hA hD hAb hQ
  have hS : va_S A s.heap s.heap [] := va_S.rf
  have hl := lv_entry (([.ref qt, .ref qa1, .int a2] : List Value)) (n := 4) (Nat.le_of_ble_eq_true rfl)
  rw [lg_entry_eq]
  generalize (lg_sl (([.ref qt, .ref qa1, .int a2] : List Value)) ++ List.replicate (4 - (lg_sl (([.ref qt, .ref qa1, .int a2] : List Value))).length) Slot.unset).toArray = ls at hl ⊢
  have hl : lv_has ls 4 [(0, .ref qt), (1, .ref qa1), (2, .int a2)] := hl
  have W_2 : ∀ (t_used : Int32) (t_lowest : Int32) (t_cells : (Nat → Int32))  (n_2 : Nat) (z2 : Int32 × (Nat → Int32)) , lp_ (b_Digits_take_2 K a1_words a1_lowest a2 t_used t_lowest t_cells) n_2 z2 = some res → ∀ (H : Heap) (locs : List Loc) (ls : Array Slot), va_P (gD G) vwCl (w_Digits_take G qt qt_limbs z2.2 qt_cells t_cells t_used t_lowest qa1 qa1_words a1_words a1_kind a1_minus a1_bits a1_wide a1_lowest a1_letters) H → va_D A (w_Digits_take G qt qt_limbs z2.2 qt_cells t_cells t_used t_lowest qa1 qa1_words a1_words a1_kind a1_minus a1_bits a1_wide a1_lowest a1_letters) → va_S A s.heap H locs → lv_has ls 4 [(0, .ref qt), (1, .ref qa1), (2, .int a2), (3, .int z2.1)] → W p l e { frames := 2, cells := 0, slots := 0, locals := 80 } s m ([.ref qt, .ref qa1, .int a2] : List Value).toArray below meth c H locs 0 0 Q (F0 m 2 ls []) := by
    intro t_used t_lowest t_cells n_2
    induction n_2 with
    | zero =>
      intro z2  hf
      cases hf
    | succ n_2 ih_2 =>
      intro z2  hf H locs ls hP hD hS hl
      have hf : b_Digits_take_2 K a1_words a1_lowest a2 t_used t_lowest t_cells (lp_ (b_Digits_take_2 K a1_words a1_lowest a2 t_used t_lowest t_cells) n_2) z2 = some res := hf
      generalize lp_ (b_Digits_take_2 K a1_words a1_lowest a2 t_used t_lowest t_cells) n_2 = rec_2 at hf ih_2
      unfold b_Digits_take_2 at hf
      refine lv_iload_n hx hb d_Digits_take_2 rfl (lv_at hl 3 rfl) ?_
      refine lv_bipush (v := 8) hx hb d_Digits_take_3 (by decide) ?_
      refine lv_icmp_ge (tgt := 25) hx hb d_Digits_take_5 (by decide) (fun c_5 => ?_) (fun c_5 => ?_)
      · have hf := ip_ c_5 hf
        refine lv_aload_n hx hb d_Digits_take_25 rfl (lv_at hl 0 rfl) ?_
        refine lv_iload_n hx hb d_Digits_take_26 rfl (lv_at hl 2 rfl) ?_
        obtain ⟨u_27, hu_27, hf⟩ := bd_ hf
        refine CALLv (va_runV (As := [.int a2]) (rest := []) ⟨hx, hb, hml, hown, hg⟩ (c_Digits_spell l G K qt qt_limbs z2.2 qt_cells t_cells t_used t_lowest a2 _ u_27  hu_27) (cwV 1 hg (gV m_198 m_199 m_200 m_179 m_201) rfl rfl rfl (by decide +kernel) ⟨Nat.le_of_ble_eq_true rfl, Nat.le_of_ble_eq_true rfl⟩) ⟨PC_b, va_recv hK hP (ci := 2) (q0 := 0) rfl rfl, PC_p hE hS hAb (hP.sub [0, 1, 2] rfl) (hD.sub [0, 1, 2] (by decide) rfl)⟩ rfl rfl hl.1 rfl (lv_room (Nat.le_of_ble_eq_true rfl)) d_Digits_take_27 ⟨Nat.zero_le _, Nat.zero_le _⟩) hP hD hS hA [0, 1, 2] rfl rfl rfl (fun H locs hP hD hS => ?_)
        have hP : va_P (gD G) vwCl (w_Digits_take G qt qt_limbs u_27.2.1 qt_cells u_27.2.2 u_27.1 t_lowest qa1 qa1_words a1_words a1_kind a1_minus a1_bits a1_wide a1_lowest a1_letters) H := hP
        have hD : va_D A (w_Digits_take G qt qt_limbs u_27.2.1 qt_cells u_27.2.2 u_27.1 t_lowest qa1 qa1_words a1_words a1_kind a1_minus a1_bits a1_wide a1_lowest a1_letters) := hD
        refine lv_aload_n hx hb d_Digits_take_30 rfl (lv_at hl 0 rfl) ?_
        refine lv_aload_n hx hb d_Digits_take_31 rfl (lv_at hl 1 rfl) ?_
        refine va_getN (D := gD G) (ci := 0) (v := .int a1_lowest) (C := R_Argument) (T := F_Argument) (N := 7) hx hb hg in_Argument hown hK hP 3 rfl rfl 5 (by decide) (va_Nw.use rfl (hE.nw _ nm_1)) (fun _ h9 => h9) rfl d_Digits_take_32 ?_
        refine va_put (D := gD G) (ci := 2) (v := .int a1_lowest) (ty := .int) (C := R_Digits) (T := F_Digits) (N := 4) hx hb hg in_Digits t_Digits to_Digits no_Digits hown hK hP hD hS 0 rfl rfl 3 (by decide) (hg _ m_174) (fun _ h9 => h9) rfl (by decide +kernel) rfl rfl (Nat.le_of_ble_eq_true rfl) d_Digits_take_35 (fun H locs hP hD hS => ?_)
        have hP : va_P (gD G) vwCl (w_Digits_take G qt qt_limbs u_27.2.1 qt_cells u_27.2.2 u_27.1 a1_lowest qa1 qa1_words a1_words a1_kind a1_minus a1_bits a1_wide a1_lowest a1_letters) H := hP
        have hD : va_D A (w_Digits_take G qt qt_limbs u_27.2.1 qt_cells u_27.2.2 u_27.1 a1_lowest qa1 qa1_words a1_words a1_kind a1_minus a1_bits a1_wide a1_lowest a1_letters) := hD
        obtain rfl := Option.some.inj hf
        rw [← hQ]
        exact W.vret hx hb hr (fun t9 ht hW => ⟨⟨(), rfl, trivial, ⟨by rw [ht]; exact hP, hD⟩⟩, hS.F ht⟩) hS.2.2 d_Digits_take_38
      · have hf := in_ c_5 hf
        refine lv_aload_n hx hb d_Digits_take_8 rfl (lv_at hl 0 rfl) ?_
        refine lv_iload_n hx hb d_Digits_take_9 rfl (lv_at hl 3 rfl) ?_
        refine lv_aload_n hx hb d_Digits_take_10 rfl (lv_at hl 1 rfl) ?_
        refine va_getN (D := gD G) (ci := 0) (v := .ref qa1_words) (C := R_Argument) (T := F_Argument) (N := 7) hx hb hg in_Argument hown hK hP 3 rfl rfl 0 (by decide) (va_Nw.use rfl (hE.nw _ nm_2)) (fun _ h9 => h9) rfl d_Digits_take_11 ?_
        refine lv_iload_n hx hb d_Digits_take_14 rfl (lv_at hl 3 rfl) ?_
        obtain ⟨g_15, hf⟩ := gd_ hf
        refine va_lald hx hb hK hP 4 2 rfl rfl (inB_in g_15) d_Digits_take_15 ?_
        obtain ⟨u_16, hu_16, hf⟩ := bd_ hf
        refine CALLv (va_runV (As := [.int z2.1, .long (a1_words z2.1.toNatClampNeg)]) (rest := []) ⟨hx, hb, hml, hown, hg⟩ (c_Digits_setLimbs l G K qt qt_limbs z2.2 qt_cells t_cells t_used t_lowest z2.1 (a1_words z2.1.toNatClampNeg) _ u_16  hu_16) (cwV 2 hg (gV m_202 m_203 m_204 m_179 m_205) rfl rfl rfl (by decide +kernel) ⟨Nat.le_of_ble_eq_true rfl, Nat.le_of_ble_eq_true rfl⟩) ⟨PC_b, va_recv hK hP (ci := 2) (q0 := 0) rfl rfl, PC_p hE hS hAb (hP.sub [0, 1, 2] rfl) (hD.sub [0, 1, 2] (by decide) rfl)⟩ rfl rfl hl.1 rfl (lv_room (Nat.le_of_ble_eq_true rfl)) d_Digits_take_16 ⟨Nat.zero_le _, Nat.zero_le _⟩) hP hD hS hA [0, 1, 2] rfl rfl rfl (fun H locs hP hD hS => ?_)
        have hP : va_P (gD G) vwCl (w_Digits_take G qt qt_limbs u_16 qt_cells t_cells t_used t_lowest qa1 qa1_words a1_words a1_kind a1_minus a1_bits a1_wide a1_lowest a1_letters) H := hP
        have hD : va_D A (w_Digits_take G qt qt_limbs u_16 qt_cells t_cells t_used t_lowest qa1 qa1_words a1_words a1_kind a1_minus a1_bits a1_wide a1_lowest a1_letters) := hD
        refine lv_iinc (v := (z2.1 + 1)) (lv' := [(3, .int (z2.1 + 1)), (0, .ref qt), (1, .ref qa1), (2, .int a2)]) hx hb d_Digits_take_19 hl (k := 3) rfl rfl (by decide) rfl (fun ls hl => ?_)
        refine lv_goto (tgt := 2) hx hb d_Digits_take_22 (by decide) ?_
        exact ih_2 ((z2.1 + 1), u_16)  hf _ _ _ hP hD hS (lv_sub hl [1, 2, 3, 0] rfl)
  unfold f_Digits_take at hf
  refine lv_iconst (v := 0) hx hb d_Digits_take_0 (by decide) ?_
  refine lv_istore_n (lv' := [(3, .int (0 : Int32)), (0, .ref qt), (1, .ref qa1), (2, .int a2)]) hx hb d_Digits_take_1 rfl hl (by decide) rfl (fun ls hl => ?_)
  exact W_2 t_used t_lowest t_cells  K ((0 : Int32), t_limbs)  hf _ _ _ hP hD hS (lv_sub hl [1, 2, 3, 0] rfl)
theorem d_Digits_takeBits_0 : decode cd_Digits_takeBits 0 = .ok (.aload_n 0, 1) := by decide +kernel
theorem d_Digits_takeBits_1 : decode cd_Digits_takeBits 1 = .ok (.getfield 9, 3) := by decide +kernel
theorem d_Digits_takeBits_4 : decode cd_Digits_takeBits 4 = .ok (.iconst 0, 1) := by decide +kernel
theorem d_Digits_takeBits_5 : decode cd_Digits_takeBits 5 = .ok (.invokestatic 36, 3) := by decide +kernel
theorem d_Digits_takeBits_8 : decode cd_Digits_takeBits 8 = .ok (.aload_n 0, 1) := by decide +kernel
theorem d_Digits_takeBits_9 : decode cd_Digits_takeBits 9 = .ok (.iconst 0, 1) := by decide +kernel
theorem d_Digits_takeBits_10 : decode cd_Digits_takeBits 10 = .ok (.lload_n 1, 1) := by decide +kernel
theorem d_Digits_takeBits_11 : decode cd_Digits_takeBits 11 = .ok (.invokevirtual 23, 3) := by decide +kernel
theorem d_Digits_takeBits_14 : decode cd_Digits_takeBits 14 = .ok (.aload_n 0, 1) := by decide +kernel
theorem d_Digits_takeBits_15 : decode cd_Digits_takeBits 15 = .ok (.iload_n 3, 1) := by decide +kernel
theorem d_Digits_takeBits_16 : decode cd_Digits_takeBits 16 = .ok (.invokevirtual 27, 3) := by decide +kernel
theorem d_Digits_takeBits_19 : decode cd_Digits_takeBits 19 = .ok (.aload_n 0, 1) := by decide +kernel
theorem d_Digits_takeBits_20 : decode cd_Digits_takeBits 20 = .ok (.iconst 0, 1) := by decide +kernel
theorem d_Digits_takeBits_21 : decode cd_Digits_takeBits 21 = .ok (.putfield 35, 3) := by decide +kernel
theorem d_Digits_takeBits_24 : decode cd_Digits_takeBits 24 = .ok (.return_, 1) := by decide +kernel
theorem m_206 : Cond.methodLink R_Digits 36 y_Arrays_fill_1 ∈ gw := gm (i := 790) (by decide +kernel) (by decide +kernel)
theorem m_207 : Cond.static y_Arrays_fill_1 ∈ gw := gm (i := 791) (by decide +kernel) (by decide +kernel)
set_option maxRecDepth 100000 in
theorem m_208 : Cond.code y_Arrays_fill_1 cd_Arrays_fill_1 4 none ∈ gw := gm (i := 792) rfl rfl
def f_Digits_takeBits (K : Nat) (t_limbs : Nat → Int32) (t_cells : Nat → Int32) (t_used : Int32) (a1 : Int64) (a2 : Int32) : Option (Int32 × Int32 × (Nat → Int32) × (Nat → Int32)) :=
  ((f_Arrays_fill_1 K 16 t_limbs (0 : Int32)).bind fun u_5 => ((f_Digits_setLimbs u_5 (0 : Int32) a1).bind fun u_11 => ((f_Digits_spell K u_11 t_cells t_used a2).bind fun u_16 => some (u_16.1, (0 : Int32), u_16.2.1, u_16.2.2))))
set_option maxHeartbeats 4000000 in
set_option maxRecDepth 100000 in
theorem c_Digits_takeBits (l : Launch) (G : Gt) (K : Nat) (qt : Nat) (qt_limbs : Nat) (t_limbs : Nat → Int32) (qt_cells : Nat) (t_cells : Nat → Int32) (t_used : Int32) (t_lowest : Int32) (a1 : Int64) (a2 : Int32) (sz : Nat) (res : Int32 × Int32 × (Nat → Int32) × (Nat → Int32))   (hf : f_Digits_takeBits K t_limbs t_cells t_used a1 a2 = some res) : Met l y_Digits_takeBits (.code y_Digits_takeBits cd_Digits_takeBits 4 none :: gw) { frames := 2, cells := 0, slots := 0, locals := 80 } (PC G ([.ref qt, .long a1, .int a2] : List Value) sz (w_Digits_isZero G qt qt_limbs t_limbs qt_cells t_cells t_used t_lowest)) (QV G (va_A (w_Digits_isZero G qt qt_limbs t_limbs qt_cells t_cells t_used t_lowest) sz) (w_Digits_isZero G qt qt_limbs res.2.2.1 qt_cells res.2.2.2 res.1 res.2.1)) 0 0 (va_A (w_Digits_isZero G qt qt_limbs t_limbs qt_cells t_cells t_used t_lowest) sz) := by
  refine Met.ofW (cc := cd_Digits_takeBits) (maxL := 4) (ret := none) (by decide) rfl ?_
  intro p e s m args below meth c s₁ B hml hv
  obtain ⟨rfl, hsz, hP, hE, hD0⟩ := hv
  have hx := B.exec
  have hb := B.bytes
  have hr := B.returns
  have hts := atoms_spec (ws := (.code y_Digits_takeBits cd_Digits_takeBits 4 none :: gw)) B.pre
  have hg : ∀ w ∈ gw, w.before _ s = true := fun w h => hts w (List.mem_cons_of_mem _ h)
  have hown : s.vm.findClass R_Digits = some m.cls := findClass_of_methodNamed B.named
  have hlocks := B.notSynchronized
  subst hsz
  have hK := hE.K
  have hD := hD0.self (sz := s.heap.size)
  have hAb := hE.ab hD0
  obtain ⟨Q, hQ⟩ : ∃ Q, MQ below (QV G (va_A (w_Digits_isZero G qt qt_limbs t_limbs qt_cells t_cells t_used t_lowest) s.heap.size) (w_Digits_isZero G qt qt_limbs res.2.2.1 qt_cells res.2.2.2 res.1 res.2.1)) ([.ref qt, .long a1, .int a2] : List Value).toArray s 0 0 (va_A (w_Digits_isZero G qt qt_limbs t_limbs qt_cells t_cells t_used t_lowest) s.heap.size) = Q := ⟨_, rfl⟩
  show W p l e { frames := 2, cells := 0, slots := 0, locals := 80 } s m ([.ref qt, .long a1, .int a2] : List Value).toArray below meth c s.heap [] 0 0 (MQ below (QV G (va_A (w_Digits_isZero G qt qt_limbs t_limbs qt_cells t_cells t_used t_lowest) s.heap.size) (w_Digits_isZero G qt qt_limbs res.2.2.1 qt_cells res.2.2.2 res.1 res.2.1)) ([.ref qt, .long a1, .int a2] : List Value).toArray s 0 0 (va_A (w_Digits_isZero G qt qt_limbs t_limbs qt_cells t_cells t_used t_lowest) s.heap.size)) _
  rw [hQ]
  have hA : ∀ q : Nat, s.heap.size ≤ q → va_A (w_Digits_isZero G qt qt_limbs t_limbs qt_cells t_cells t_used t_lowest) s.heap.size q := fun q h => Or.inr h
  obtain ⟨A, hAe⟩ : ∃ A, va_A (w_Digits_isZero G qt qt_limbs t_limbs qt_cells t_cells t_used t_lowest) s.heap.size = A := ⟨_, rfl⟩
  rw [hAe] at hA hD hAb hQ
  have hS : va_S A s.heap s.heap [] := va_S.rf
  have hl := lv_entry (([.ref qt, .long a1, .int a2] : List Value)) (n := 4) (Nat.le_of_ble_eq_true rfl)
  rw [lg_entry_eq]
  generalize (lg_sl (([.ref qt, .long a1, .int a2] : List Value)) ++ List.replicate (4 - (lg_sl (([.ref qt, .long a1, .int a2] : List Value))).length) Slot.unset).toArray = ls at hl ⊢
  have hl : lv_has ls 4 [(0, .ref qt), (1, .long a1), (3, .int a2)] := hl
  unfold f_Digits_takeBits at hf
  refine lv_aload_n hx hb d_Digits_takeBits_0 rfl (lv_at hl 0 rfl) ?_
  refine va_get (D := gD G) (ci := 2) (v := .ref qt_limbs) (C := R_Digits) (T := F_Digits) (N := 4) hx hb hg in_Digits hown hK hP 0 rfl rfl 0 (by decide) (hg _ m_185) (fun _ h9 => h9) rfl d_Digits_takeBits_1 ?_
  refine lv_iconst (v := 0) hx hb d_Digits_takeBits_4 (by decide) ?_
  obtain ⟨u_5, hu_5, hf⟩ := bd_ hf
  refine CALLv (va_runS (As := [.ref qt_limbs, .int (0 : Int32)]) (rest := []) ⟨hx, hb, hml, hown, hg⟩ (c_Arrays_fill_1 l G K qt_limbs 16 t_limbs (0 : Int32) _ u_5  hu_5) (va_cwS 2 hg (gS m_206 m_207 m_89 m_208) rfl rfl rfl (by decide +kernel) ⟨Nat.le_of_ble_eq_true rfl, Nat.le_of_ble_eq_true rfl⟩) ⟨PC_b, PC_p hE hS hAb (hP.sub [1] rfl) (hD.sub [1] (by decide) rfl)⟩ rfl rfl hl.1 rfl (lv_room (Nat.le_of_ble_eq_true rfl)) d_Digits_takeBits_5 ⟨Nat.zero_le _, Nat.zero_le _⟩) hP hD hS hA [1] rfl rfl rfl (fun H locs hP hD hS => ?_)
  have hP : va_P (gD G) vwCl (w_Digits_isZero G qt qt_limbs u_5 qt_cells t_cells t_used t_lowest) H := hP
  have hD : va_D A (w_Digits_isZero G qt qt_limbs u_5 qt_cells t_cells t_used t_lowest) := hD
  refine lv_aload_n hx hb d_Digits_takeBits_8 rfl (lv_at hl 0 rfl) ?_
  refine lv_iconst (v := 0) hx hb d_Digits_takeBits_9 (by decide) ?_
  refine lv_lload_n hx hb d_Digits_takeBits_10 rfl (lv_at hl 1 rfl) ?_
  obtain ⟨u_11, hu_11, hf⟩ := bd_ hf
  refine CALLWv (va_runV (As := [.int (0 : Int32), .long a1]) (rest := []) ⟨hx, hb, hml, hown, hg⟩ (c_Digits_setLimbs l G K qt qt_limbs u_5 qt_cells t_cells t_used t_lowest (0 : Int32) a1 _ u_11  hu_11) (cwV 2 hg (gV m_202 m_203 m_204 m_179 m_205) rfl rfl rfl (by decide +kernel) ⟨Nat.le_of_ble_eq_true rfl, Nat.le_of_ble_eq_true rfl⟩) ⟨PC_b, va_recv hK hP (ci := 2) (q0 := 0) rfl rfl, PC_p hE hS hAb hP hD⟩ rfl rfl hl.1 rfl (lv_room (Nat.le_of_ble_eq_true rfl)) d_Digits_takeBits_11 ⟨Nat.zero_le _, Nat.zero_le _⟩) hP hD hS hA (fun H locs hP hD hS => ?_)
  have hP : va_P (gD G) vwCl (w_Digits_isZero G qt qt_limbs u_11 qt_cells t_cells t_used t_lowest) H := hP
  have hD : va_D A (w_Digits_isZero G qt qt_limbs u_11 qt_cells t_cells t_used t_lowest) := hD
  refine lv_aload_n hx hb d_Digits_takeBits_14 rfl (lv_at hl 0 rfl) ?_
  refine lv_iload_n hx hb d_Digits_takeBits_15 rfl (lv_at hl 2 rfl) ?_
  obtain ⟨u_16, hu_16, hf⟩ := bd_ hf
  refine CALLWv (va_runV (As := [.int a2]) (rest := []) ⟨hx, hb, hml, hown, hg⟩ (c_Digits_spell l G K qt qt_limbs u_11 qt_cells t_cells t_used t_lowest a2 _ u_16  hu_16) (cwV 1 hg (gV m_198 m_199 m_200 m_179 m_201) rfl rfl rfl (by decide +kernel) ⟨Nat.le_of_ble_eq_true rfl, Nat.le_of_ble_eq_true rfl⟩) ⟨PC_b, va_recv hK hP (ci := 2) (q0 := 0) rfl rfl, PC_p hE hS hAb hP hD⟩ rfl rfl hl.1 rfl (lv_room (Nat.le_of_ble_eq_true rfl)) d_Digits_takeBits_16 ⟨Nat.zero_le _, Nat.zero_le _⟩) hP hD hS hA (fun H locs hP hD hS => ?_)
  have hP : va_P (gD G) vwCl (w_Digits_isZero G qt qt_limbs u_16.2.1 qt_cells u_16.2.2 u_16.1 t_lowest) H := hP
  have hD : va_D A (w_Digits_isZero G qt qt_limbs u_16.2.1 qt_cells u_16.2.2 u_16.1 t_lowest) := hD
  refine lv_aload_n hx hb d_Digits_takeBits_19 rfl (lv_at hl 0 rfl) ?_
  refine lv_iconst (v := 0) hx hb d_Digits_takeBits_20 (by decide) ?_
  refine va_put (D := gD G) (ci := 2) (v := .int (0 : Int32)) (ty := .int) (C := R_Digits) (T := F_Digits) (N := 4) hx hb hg in_Digits t_Digits to_Digits no_Digits hown hK hP hD hS 0 rfl rfl 3 (by decide) (hg _ m_174) (fun _ h9 => h9) rfl (by decide +kernel) rfl rfl (Nat.le_of_ble_eq_true rfl) d_Digits_takeBits_21 (fun H locs hP hD hS => ?_)
  have hP : va_P (gD G) vwCl (w_Digits_isZero G qt qt_limbs u_16.2.1 qt_cells u_16.2.2 u_16.1 (0 : Int32)) H := hP
  have hD : va_D A (w_Digits_isZero G qt qt_limbs u_16.2.1 qt_cells u_16.2.2 u_16.1 (0 : Int32)) := hD
  obtain rfl := Option.some.inj hf
  rw [← hQ]
  exact W.vret hx hb hr (fun t9 ht hW => ⟨⟨(), rfl, trivial, ⟨by rw [ht]; exact hP, hD⟩⟩, hS.F ht⟩) hS.2.2 d_Digits_takeBits_24
