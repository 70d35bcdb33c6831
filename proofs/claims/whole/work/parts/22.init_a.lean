theorem d_Row_init_0 : decode cd_Row_init 0 = .ok (.aload_n 0, 1) := by decide +kernel
theorem d_Row_init_1 : decode cd_Row_init 1 = .ok (.invokespecial 1, 3) := by decide +kernel
theorem d_Row_init_4 : decode cd_Row_init 4 = .ok (.aload_n 0, 1) := by decide +kernel
theorem d_Row_init_5 : decode cd_Row_init 5 = .ok (.iconst 0, 1) := by decide +kernel
theorem d_Row_init_6 : decode cd_Row_init 6 = .ok (.iload_n 1, 1) := by decide +kernel
theorem d_Row_init_7 : decode cd_Row_init 7 = .ok (.invokestatic 7, 3) := by decide +kernel
theorem d_Row_init_10 : decode cd_Row_init 10 = .ok (.newarray .byte, 2) := by decide +kernel
theorem d_Row_init_12 : decode cd_Row_init 12 = .ok (.putfield 13, 3) := by decide +kernel
theorem d_Row_init_15 : decode cd_Row_init 15 = .ok (.return_, 1) := by decide +kernel
theorem m_668 : Cond.methodLink R_Row 1 objectInit ∈ gw := gm (i := 113) (by decide +kernel) (by decide +kernel)
theorem m_669 : Cond.instanceMethod objectInit ∈ gw := gm (i := 106) (by decide +kernel) (by decide +kernel)
set_option maxRecDepth 100000 in
theorem m_670 : Cond.code objectInit ⟨#[0xb1]⟩ 1 none ∈ gw := gm (i := 107) rfl rfl
theorem m_671 : Cond.arrayClass .byte ∈ gw := gm (i := 131) (by decide +kernel) (by decide +kernel)
def f_Row_init (a1 : Int32) : Option Unit :=
  (if (if (0 : Int32) < a1 then a1 else (0 : Int32)) < 0 then none else (if (if (0 : Int32) < a1 then a1 else (0 : Int32)).toNatClampNeg * 1 ≤ 536870912 then some () else none))
abbrev w_Row_init (G : Gt) (qt : Nat) : va_W := [(qt, .inr (4, [.null, .int (0 : Int32), .int (0 : Int32)]))]
set_option maxHeartbeats 4000000 in
set_option maxRecDepth 100000 in
theorem c_Row_init (l : Launch) (G : Gt) (K : Nat) (qt : Nat) (a1 : Int32) (sz : Nat) (res : Unit)   (hf : f_Row_init a1 = some res) : Met l y_Row_init (.code y_Row_init cd_Row_init 2 none :: gw) { frames := 1, cells := 1, slots := (0 + (if (0 : Int32) < a1 then a1 else (0 : Int32)).toNatClampNeg), locals := 40 } (PC G ([.ref qt, .int a1] : List Value) sz (w_Row_init G qt)) (QN G (va_A (w_Row_init G qt) sz) (fun u : Nat => [(qt, .inr (4, [.ref u, .int (0 : Int32), .int (0 : Int32)])), (u, .inl (gC G 0, ((if (0 : Int32) < a1 then a1 else (0 : Int32)).toNatClampNeg), .inl (fun _ => (0 : Int32))))])) 1 (0 + (if (0 : Int32) < a1 then a1 else (0 : Int32)).toNatClampNeg) (va_A (w_Row_init G qt) sz) := by
  refine Met.ofW (cc := cd_Row_init) (maxL := 2) (ret := none) (by decide) rfl ?_
  intro p e s m args below meth c s₁ B hml hv
  obtain ⟨rfl, hsz, hP, hE, hD0⟩ := hv
  have hx := B.exec
  have hb := B.bytes
  have hr := B.returns
  have hts := atoms_spec (ws := (.code y_Row_init cd_Row_init 2 none :: gw)) B.pre
  have hg : ∀ w ∈ gw, w.before _ s = true := fun w h => hts w (List.mem_cons_of_mem _ h)
  have hown : s.vm.findClass R_Row = some m.cls := findClass_of_methodNamed B.named
  have hlocks := B.notSynchronized
  have hin : meth.name = "<init>" := (name_of_methodNamed B.named B.method).1
  subst hsz
  have hK := hE.K
  have hD := hD0.self (sz := s.heap.size)
  have hAb := hE.ab hD0
  obtain ⟨Q, hQ⟩ : ∃ Q, MQ below (QN G (va_A (w_Row_init G qt) s.heap.size) (fun u : Nat => [(qt, .inr (4, [.ref u, .int (0 : Int32), .int (0 : Int32)])), (u, .inl (gC G 0, ((if (0 : Int32) < a1 then a1 else (0 : Int32)).toNatClampNeg), .inl (fun _ => (0 : Int32))))])) ([.ref qt, .int a1] : List Value).toArray s 1 (0 + (if (0 : Int32) < a1 then a1 else (0 : Int32)).toNatClampNeg) (va_A (w_Row_init G qt) s.heap.size) = Q := ⟨_, rfl⟩
  show W p l e { frames := 1, cells := 1, slots := (0 + (if (0 : Int32) < a1 then a1 else (0 : Int32)).toNatClampNeg), locals := 40 } s m ([.ref qt, .int a1] : List Value).toArray below meth c s.heap [] 0 0 (MQ below (QN G (va_A (w_Row_init G qt) s.heap.size) (fun u : Nat => [(qt, .inr (4, [.ref u, .int (0 : Int32), .int (0 : Int32)])), (u, .inl (gC G 0, ((if (0 : Int32) < a1 then a1 else (0 : Int32)).toNatClampNeg), .inl (fun _ => (0 : Int32))))])) ([.ref qt, .int a1] : List Value).toArray s 1 (0 + (if (0 : Int32) < a1 then a1 else (0 : Int32)).toNatClampNeg) (va_A (w_Row_init G qt) s.heap.size)) _
  rw [hQ]
  have hA : ∀ q : Nat, s.heap.size ≤ q → va_A (w_Row_init G qt) s.heap.size q := fun q h => Or.inr h
  obtain ⟨A, hAe⟩ : ∃ A, va_A (w_Row_init G qt) s.heap.size = A := ⟨_, rfl⟩
  rw [hAe] at hA hD hAb hQ
  have hS : va_S A s.heap s.heap [] := va_S.rf
  have hl := lv_entry (([.ref qt, .int a1] : List Value)) (n := 2) (Nat.le_of_ble_eq_true rfl)
  rw [lg_entry_eq]
  generalize (lg_sl (([.ref qt, .int a1] : List Value)) ++ List.replicate (2 - (lg_sl (([.ref qt, .int a1] : List Value))).length) Slot.unset).toArray = ls at hl ⊢
  have hl : lv_has ls 2 [(0, .ref qt), (1, .int a1)] := hl
  unfold f_Row_init at hf
  refine lv_aload_n hx hb d_Row_init_0 rfl (lv_at hl 0 rfl) ?_
  refine W.objInit hx hb hown (hg _ m_668) (hg _ m_669) (hg _ m_670) rfl (by rw [hml]; exact hl.1) rfl d_Row_init_1 (Nat.le_of_ble_eq_true rfl) (Nat.le_of_ble_eq_true rfl) ?_
  refine W.eq (g2 := F0 m 4 ls []) rfl ?_
  refine lv_aload_n hx hb d_Row_init_4 rfl (lv_at hl 0 rfl) ?_
  refine lv_iconst (v := 0) hx hb d_Row_init_5 (by decide) ?_
  refine lv_iload_n hx hb d_Row_init_6 rfl (lv_at hl 1 rfl) ?_
  refine va_mmax hx hb (hml.trans hl.1.symm) hown (hg _ m_69) (hg _ m_10) (hg _ m_11) (hg _ m_12) (Nat.le_of_ble_eq_true rfl) (Nat.le_of_ble_eq_true rfl) (Nat.zero_le _) (Nat.zero_le _) d_Row_init_7 ?_
  obtain ⟨g_10, hf⟩ := gn_ hf
  obtain ⟨j_10, hf⟩ := gd_ hf
  refine NEWA (atype := .byte) hE hx hb (hg _ m_671) (ty := .byte) rfl 0 rfl hP hD hS hA (a0 := (((if (0 : Int32) < a1 then a1 else (0 : Int32)).toNatClampNeg), .inl (fun _ => (0 : Int32)))) (fun _ => rfl) g_10 rfl j_10 (Nat.le_of_ble_eq_true rfl) (by show (0 + (if (0 : Int32) < a1 then a1 else (0 : Int32)).toNatClampNeg) ≤ (0 + (if (0 : Int32) < a1 then a1 else (0 : Int32)).toNatClampNeg); omega) d_Row_init_10 (fun q10 H hP hD hS => ?_)
  have hP : va_P (gD G) vwCl [(qt, .inr (4, [.null, .int (0 : Int32), .int (0 : Int32)])), (q10, .inl (gC G 0, ((if (0 : Int32) < a1 then a1 else (0 : Int32)).toNatClampNeg), .inl (fun _ => (0 : Int32))))] H := hP
  have hD : va_D A [(qt, .inr (4, [.null, .int (0 : Int32), .int (0 : Int32)])), (q10, .inl (gC G 0, ((if (0 : Int32) < a1 then a1 else (0 : Int32)).toNatClampNeg), .inl (fun _ => (0 : Int32))))] := hD
  refine va_putF (D := gD G) (ci := 4) (v := .ref q10) (ty := (.array .byte)) (C := R_Row) (T := F_Row) (N := 3) hx hb hg in_Row t_Row to_Row no_Row hown hK hP hD hS 0 rfl rfl 0 (by decide) (hg _ m_56) (fun _ h9 => h9) rfl hin rfl (by decide +kernel) rfl rfl (Nat.le_of_ble_eq_true rfl) d_Row_init_12 (fun H locs hP hD hS => ?_)
  have hP : va_P (gD G) vwCl [(qt, .inr (4, [.ref q10, .int (0 : Int32), .int (0 : Int32)])), (q10, .inl (gC G 0, ((if (0 : Int32) < a1 then a1 else (0 : Int32)).toNatClampNeg), .inl (fun _ => (0 : Int32))))] H := hP
  have hD : va_D A [(qt, .inr (4, [.ref q10, .int (0 : Int32), .int (0 : Int32)])), (q10, .inl (gC G 0, ((if (0 : Int32) < a1 then a1 else (0 : Int32)).toNatClampNeg), .inl (fun _ => (0 : Int32))))] := hD
  obtain rfl := Option.some.inj hf
  rw [← hQ]
  exact W.vret hx hb hr (fun t9 ht hW => ⟨⟨q10, rfl, trivial, ⟨by rw [ht]; exact hP.sub [0, 1] rfl, hD.sub [0, 1] (by decide) rfl⟩⟩, hS.F ht⟩) hS.2.2 d_Row_init_15
theorem d_Hex_init_0 : decode cd_Hex_init 0 = .ok (.aload_n 0, 1) := by decide +kernel
theorem d_Hex_init_1 : decode cd_Hex_init 1 = .ok (.invokespecial 3, 3) := by decide +kernel
theorem d_Hex_init_4 : decode cd_Hex_init 4 = .ok (.return_, 1) := by decide +kernel
theorem m_672 : Cond.methodLink R_Hex 3 objectInit ∈ gw := gm (i := 209) (by decide +kernel) (by decide +kernel)
def f_Hex_init  : Option Unit :=
  some ()
abbrev w_Hex_init (G : Gt) (qt : Nat) : va_W := [(qt, .inr (3, [.long (0 : Int64), .int (0 : Int32), .int (0 : Int32)]))]
set_option maxHeartbeats 4000000 in
set_option maxRecDepth 100000 in
theorem c_Hex_init (l : Launch) (G : Gt) (K : Nat) (qt : Nat) (sz : Nat) (res : Unit)   (hf : f_Hex_init  = some res) : Met l y_Hex_init (.code y_Hex_init cd_Hex_init 1 none :: gw) { frames := 1, cells := 0, slots := 0, locals := 40 } (PC G ([.ref qt] : List Value) sz (w_Hex_init G qt)) (QV G (va_A (w_Hex_init G qt) sz) (w_Hex_init G qt)) 0 0 (va_A (w_Hex_init G qt) sz) := by
  refine Met.ofW (cc := cd_Hex_init) (maxL := 1) (ret := none) (by decide) rfl ?_
  intro p e s m args below meth c s₁ B hml hv
  obtain ⟨rfl, hsz, hP, hE, hD0⟩ := hv
  have hx := B.exec
  have hb := B.bytes
  have hr := B.returns
  have hts := atoms_spec (ws := (.code y_Hex_init cd_Hex_init 1 none :: gw)) B.pre
  have hg : ∀ w ∈ gw, w.before _ s = true := fun w h => hts w (List.mem_cons_of_mem _ h)
  have hown : s.vm.findClass R_Hex = some m.cls := findClass_of_methodNamed B.named
  have hlocks := B.notSynchronized
  have hin : meth.name = "<init>" := (name_of_methodNamed B.named B.method).1
  subst hsz
  have hK := hE.K
  have hD := hD0.self (sz := s.heap.size)
  have hAb := hE.ab hD0
  obtain ⟨Q, hQ⟩ : ∃ Q, MQ below (QV G (va_A (w_Hex_init G qt) s.heap.size) (w_Hex_init G qt)) ([.ref qt] : List Value).toArray s 0 0 (va_A (w_Hex_init G qt) s.heap.size) = Q := ⟨_, rfl⟩
  show W p l e { frames := 1, cells := 0, slots := 0, locals := 40 } s m ([.ref qt] : List Value).toArray below meth c s.heap [] 0 0 (MQ below (QV G (va_A (w_Hex_init G qt) s.heap.size) (w_Hex_init G qt)) ([.ref qt] : List Value).toArray s 0 0 (va_A (w_Hex_init G qt) s.heap.size)) _
  rw [hQ]
  have hA : ∀ q : Nat, s.heap.size ≤ q → va_A (w_Hex_init G qt) s.heap.size q := fun q h => Or.inr h
  obtain ⟨A, hAe⟩ : ∃ A, va_A (w_Hex_init G qt) s.heap.size = A := ⟨_, rfl⟩
  rw [hAe] at hA hD hAb hQ
  have hS : va_S A s.heap s.heap [] := va_S.rf
  have hl := lv_entry (([.ref qt] : List Value)) (n := 1) (Nat.le_of_ble_eq_true rfl)
  rw [lg_entry_eq]
  generalize (lg_sl (([.ref qt] : List Value)) ++ List.replicate (1 - (lg_sl (([.ref qt] : List Value))).length) Slot.unset).toArray = ls at hl ⊢
  have hl : lv_has ls 1 [(0, .ref qt)] := hl
  unfold f_Hex_init at hf
  refine lv_aload_n hx hb d_Hex_init_0 rfl (lv_at hl 0 rfl) ?_
  refine W.objInit hx hb hown (hg _ m_672) (hg _ m_669) (hg _ m_670) rfl (by rw [hml]; exact hl.1) rfl d_Hex_init_1 (Nat.le_of_ble_eq_true rfl) (Nat.le_of_ble_eq_true rfl) ?_
  refine W.eq (g2 := F0 m 4 ls []) rfl ?_
  obtain rfl := Option.some.inj hf
  rw [← hQ]
  exact W.vret hx hb hr (fun t9 ht hW => ⟨⟨(), rfl, trivial, ⟨by rw [ht]; exact hP, hD⟩⟩, hS.F ht⟩) hS.2.2 d_Hex_init_4
theorem d_Specifier_init_0 : decode cd_Specifier_init 0 = .ok (.aload_n 0, 1) := by decide +kernel
theorem d_Specifier_init_1 : decode cd_Specifier_init 1 = .ok (.invokespecial 1, 3) := by decide +kernel
theorem d_Specifier_init_4 : decode cd_Specifier_init 4 = .ok (.return_, 1) := by decide +kernel
theorem m_673 : Cond.methodLink R_Specifier 1 objectInit ∈ gw := gm (i := 137) (by decide +kernel) (by decide +kernel)
def f_Specifier_init  : Option Unit :=
  some ()
abbrev w_Specifier_init (G : Gt) (qt : Nat) : va_W := [(qt, .inr (5, [.int (0 : Int32), .int (0 : Int32), .int (0 : Int32), .int (0 : Int32), .int (0 : Int32), .int (0 : Int32), .int (0 : Int32), .int (0 : Int32), .int (0 : Int32), .int (0 : Int32)]))]
set_option maxHeartbeats 4000000 in
set_option maxRecDepth 100000 in
theorem c_Specifier_init (l : Launch) (G : Gt) (K : Nat) (qt : Nat) (sz : Nat) (res : Unit)   (hf : f_Specifier_init  = some res) : Met l y_Specifier_init (.code y_Specifier_init cd_Specifier_init 1 none :: gw) { frames := 1, cells := 0, slots := 0, locals := 40 } (PC G ([.ref qt] : List Value) sz (w_Specifier_init G qt)) (QV G (va_A (w_Specifier_init G qt) sz) (w_Specifier_init G qt)) 0 0 (va_A (w_Specifier_init G qt) sz) := by
  refine Met.ofW (cc := cd_Specifier_init) (maxL := 1) (ret := none) (by decide) rfl ?_
  intro p e s m args below meth c s₁ B hml hv
  obtain ⟨rfl, hsz, hP, hE, hD0⟩ := hv
  have hx := B.exec
  have hb := B.bytes
  have hr := B.returns
  have hts := atoms_spec (ws := (.code y_Specifier_init cd_Specifier_init 1 none :: gw)) B.pre
  have hg : ∀ w ∈ gw, w.before _ s = true := fun w h => hts w (List.mem_cons_of_mem _ h)
  have hown : s.vm.findClass R_Specifier = some m.cls := findClass_of_methodNamed B.named
  have hlocks := B.notSynchronized
  have hin : meth.name = "<init>" := (name_of_methodNamed B.named B.method).1
  subst hsz
  have hK := hE.K
  have hD := hD0.self (sz := s.heap.size)
  have hAb := hE.ab hD0
  obtain ⟨Q, hQ⟩ : ∃ Q, MQ below (QV G (va_A (w_Specifier_init G qt) s.heap.size) (w_Specifier_init G qt)) ([.ref qt] : List Value).toArray s 0 0 (va_A (w_Specifier_init G qt) s.heap.size) = Q := ⟨_, rfl⟩
  show W p l e { frames := 1, cells := 0, slots := 0, locals := 40 } s m ([.ref qt] : List Value).toArray below meth c s.heap [] 0 0 (MQ below (QV G (va_A (w_Specifier_init G qt) s.heap.size) (w_Specifier_init G qt)) ([.ref qt] : List Value).toArray s 0 0 (va_A (w_Specifier_init G qt) s.heap.size)) _
  rw [hQ]
  have hA : ∀ q : Nat, s.heap.size ≤ q → va_A (w_Specifier_init G qt) s.heap.size q := fun q h => Or.inr h
  obtain ⟨A, hAe⟩ : ∃ A, va_A (w_Specifier_init G qt) s.heap.size = A := ⟨_, rfl⟩
  rw [hAe] at hA hD hAb hQ
  have hS : va_S A s.heap s.heap [] := va_S.rf
  have hl := lv_entry (([.ref qt] : List Value)) (n := 1) (Nat.le_of_ble_eq_true rfl)
  rw [lg_entry_eq]
  generalize (lg_sl (([.ref qt] : List Value)) ++ List.replicate (1 - (lg_sl (([.ref qt] : List Value))).length) Slot.unset).toArray = ls at hl ⊢
  have hl : lv_has ls 1 [(0, .ref qt)] := hl
  unfold f_Specifier_init at hf
  refine lv_aload_n hx hb d_Specifier_init_0 rfl (lv_at hl 0 rfl) ?_
  refine W.objInit hx hb hown (hg _ m_673) (hg _ m_669) (hg _ m_670) rfl (by rw [hml]; exact hl.1) rfl d_Specifier_init_1 (Nat.le_of_ble_eq_true rfl) (Nat.le_of_ble_eq_true rfl) ?_
  refine W.eq (g2 := F0 m 4 ls []) rfl ?_
  obtain rfl := Option.some.inj hf
  rw [← hQ]
  exact W.vret hx hb hr (fun t9 ht hW => ⟨⟨(), rfl, trivial, ⟨by rw [ht]; exact hP, hD⟩⟩, hS.F ht⟩) hS.2.2 d_Specifier_init_4
theorem d_Digits_init_0 : decode cd_Digits_init 0 = .ok (.aload_n 0, 1) := by decide +kernel
theorem d_Digits_init_1 : decode cd_Digits_init 1 = .ok (.invokespecial 1, 3) := by decide +kernel
theorem d_Digits_init_4 : decode cd_Digits_init 4 = .ok (.aload_n 0, 1) := by decide +kernel
theorem d_Digits_init_5 : decode cd_Digits_init 5 = .ok (.bipush 16, 2) := by decide +kernel
theorem d_Digits_init_7 : decode cd_Digits_init 7 = .ok (.newarray .int, 2) := by decide +kernel
theorem d_Digits_init_9 : decode cd_Digits_init 9 = .ok (.putfield 9, 3) := by decide +kernel
theorem d_Digits_init_12 : decode cd_Digits_init 12 = .ok (.aload_n 0, 1) := by decide +kernel
theorem d_Digits_init_13 : decode cd_Digits_init 13 = .ok (.sipush 208, 3) := by decide +kernel
theorem d_Digits_init_16 : decode cd_Digits_init 16 = .ok (.newarray .byte, 2) := by decide +kernel
theorem d_Digits_init_18 : decode cd_Digits_init 18 = .ok (.putfield 13, 3) := by decide +kernel
theorem d_Digits_init_21 : decode cd_Digits_init 21 = .ok (.return_, 1) := by decide +kernel
theorem m_674 : Cond.methodLink R_Digits 1 objectInit ∈ gw := gm (i := 189) (by decide +kernel) (by decide +kernel)
theorem m_675 : Cond.arrayClass .int ∈ gw := gm (i := 203) (by decide +kernel) (by decide +kernel)
def f_Digits_init  : Option Unit :=
  some ()
abbrev w_Digits_init (G : Gt) (qt : Nat) : va_W := [(qt, .inr (2, [.null, .null, .int (0 : Int32), .int (0 : Int32)]))]
set_option maxHeartbeats 4000000 in
set_option maxRecDepth 100000 in
theorem c_Digits_init (l : Launch) (G : Gt) (K : Nat) (qt : Nat) (sz : Nat) (res : Unit)   (hf : f_Digits_init  = some res) : Met l y_Digits_init (.code y_Digits_init cd_Digits_init 1 none :: gw) { frames := 1, cells := 2, slots := ((0 + 16) + 208), locals := 40 } (PC G ([.ref qt] : List Value) sz (w_Digits_init G qt)) (QN G (va_A (w_Digits_init G qt) sz) (fun u : Nat × Nat => [(qt, .inr (2, [.ref u.1, .ref u.2, .int (0 : Int32), .int (0 : Int32)])), (u.1, .inl (gC G 1, 16, .inl (fun _ => (0 : Int32)))), (u.2, .inl (gC G 0, 208, .inl (fun _ => (0 : Int32))))])) 2 ((0 + 16) + 208) (va_A (w_Digits_init G qt) sz) := by
  refine Met.ofW (cc := cd_Digits_init) (maxL := 1) (ret := none) (by decide) rfl ?_
  intro p e s m args below meth c s₁ B hml hv
  obtain ⟨rfl, hsz, hP, hE, hD0⟩ := hv
  have hx := B.exec
  have hb := B.bytes
  have hr := B.returns
  have hts := atoms_spec (ws := (.code y_Digits_init cd_Digits_init 1 none :: gw)) B.pre
  have hg : ∀ w ∈ gw, w.before _ s = true := fun w h => hts w (List.mem_cons_of_mem _ h)
  have hown : s.vm.findClass R_Digits = some m.cls := findClass_of_methodNamed B.named
  have hlocks := B.notSynchronized
  have hin : meth.name = "<init>" := (name_of_methodNamed B.named B.method).1
  subst hsz
  have hK := hE.K
  have hD := hD0.self (sz := s.heap.size)
  have hAb := hE.ab hD0
  obtain ⟨Q, hQ⟩ : ∃ Q, MQ below (QN G (va_A (w_Digits_init G qt) s.heap.size) (fun u : Nat × Nat => [(qt, .inr (2, [.ref u.1, .ref u.2, .int (0 : Int32), .int (0 : Int32)])), (u.1, .inl (gC G 1, 16, .inl (fun _ => (0 : Int32)))), (u.2, .inl (gC G 0, 208, .inl (fun _ => (0 : Int32))))])) ([.ref qt] : List Value).toArray s 2 ((0 + 16) + 208) (va_A (w_Digits_init G qt) s.heap.size) = Q := ⟨_, rfl⟩
  show W p l e { frames := 1, cells := 2, slots := ((0 + 16) + 208), locals := 40 } s m ([.ref qt] : List Value).toArray below meth c s.heap [] 0 0 (MQ below (QN G (va_A (w_Digits_init G qt) s.heap.size) (fun u : Nat × Nat => [(qt, .inr (2, [.ref u.1, .ref u.2, .int (0 : Int32), .int (0 : Int32)])), (u.1, .inl (gC G 1, 16, .inl (fun _ => (0 : Int32)))), (u.2, .inl (gC G 0, 208, .inl (fun _ => (0 : Int32))))])) ([.ref qt] : List Value).toArray s 2 ((0 + 16) + 208) (va_A (w_Digits_init G qt) s.heap.size)) _
  rw [hQ]
  have hA : ∀ q : Nat, s.heap.size ≤ q → va_A (w_Digits_init G qt) s.heap.size q := fun q h => Or.inr h
  obtain ⟨A, hAe⟩ : ∃ A, va_A (w_Digits_init G qt) s.heap.size = A := ⟨_, rfl⟩
  rw [hAe] at hA hD hAb hQ
  have hS : va_S A s.heap s.heap [] := va_S.rf
  have hl := lv_entry (([.ref qt] : List Value)) (n := 1) (Nat.le_of_ble_eq_true rfl)
  rw [lg_entry_eq]
  generalize (lg_sl (([.ref qt] : List Value)) ++ List.replicate (1 - (lg_sl (([.ref qt] : List Value))).length) Slot.unset).toArray = ls at hl ⊢
  have hl : lv_has ls 1 [(0, .ref qt)] := hl
  unfold f_Digits_init at hf
  refine lv_aload_n hx hb d_Digits_init_0 rfl (lv_at hl 0 rfl) ?_
  refine W.objInit hx hb hown (hg _ m_674) (hg _ m_669) (hg _ m_670) rfl (by rw [hml]; exact hl.1) rfl d_Digits_init_1 (Nat.le_of_ble_eq_true rfl) (Nat.le_of_ble_eq_true rfl) ?_
  refine W.eq (g2 := F0 m 4 ls []) rfl ?_
  refine lv_aload_n hx hb d_Digits_init_4 rfl (lv_at hl 0 rfl) ?_
  refine lv_bipush (v := 16) hx hb d_Digits_init_5 (by decide) ?_
  refine NEWA (atype := .int) hE hx hb (hg _ m_675) (ty := .int) rfl 1 rfl hP hD hS hA (a0 := (16, .inl (fun _ => (0 : Int32)))) (fun _ => rfl) (by decide) (by decide) (by decide) (Nat.le_of_ble_eq_true rfl) (Nat.le_of_ble_eq_true rfl) d_Digits_init_7 (fun q7 H hP hD hS => ?_)
  have hP : va_P (gD G) vwCl [(qt, .inr (2, [.null, .null, .int (0 : Int32), .int (0 : Int32)])), (q7, .inl (gC G 1, 16, .inl (fun _ => (0 : Int32))))] H := hP
  have hD : va_D A [(qt, .inr (2, [.null, .null, .int (0 : Int32), .int (0 : Int32)])), (q7, .inl (gC G 1, 16, .inl (fun _ => (0 : Int32))))] := hD
  refine va_putF (D := gD G) (ci := 2) (v := .ref q7) (ty := (.array .int)) (C := R_Digits) (T := F_Digits) (N := 4) hx hb hg in_Digits t_Digits to_Digits no_Digits hown hK hP hD hS 0 rfl rfl 0 (by decide) (hg _ m_185) (fun _ h9 => h9) rfl hin rfl (by decide +kernel) rfl rfl (Nat.le_of_ble_eq_true rfl) d_Digits_init_9 (fun H locs hP hD hS => ?_)
  have hP : va_P (gD G) vwCl [(qt, .inr (2, [.ref q7, .null, .int (0 : Int32), .int (0 : Int32)])), (q7, .inl (gC G 1, 16, .inl (fun _ => (0 : Int32))))] H := hP
  have hD : va_D A [(qt, .inr (2, [.ref q7, .null, .int (0 : Int32), .int (0 : Int32)])), (q7, .inl (gC G 1, 16, .inl (fun _ => (0 : Int32))))] := hD
  refine lv_aload_n hx hb d_Digits_init_12 rfl (lv_at hl 0 rfl) ?_
  refine lv_sipush (v := 208) hx hb d_Digits_init_13 (by decide) ?_
  refine NEWA (atype := .byte) hE hx hb (hg _ m_671) (ty := .byte) rfl 0 rfl hP hD hS hA (a0 := (208, .inl (fun _ => (0 : Int32)))) (fun _ => rfl) (by decide) (by decide) (by decide) (Nat.le_of_ble_eq_true rfl) (Nat.le_of_ble_eq_true rfl) d_Digits_init_16 (fun q16 H hP hD hS => ?_)
  have hP : va_P (gD G) vwCl [(qt, .inr (2, [.ref q7, .null, .int (0 : Int32), .int (0 : Int32)])), (q7, .inl (gC G 1, 16, .inl (fun _ => (0 : Int32)))), (q16, .inl (gC G 0, 208, .inl (fun _ => (0 : Int32))))] H := hP
  have hD : va_D A [(qt, .inr (2, [.ref q7, .null, .int (0 : Int32), .int (0 : Int32)])), (q7, .inl (gC G 1, 16, .inl (fun _ => (0 : Int32)))), (q16, .inl (gC G 0, 208, .inl (fun _ => (0 : Int32))))] := hD
  refine va_putF (D := gD G) (ci := 2) (v := .ref q16) (ty := (.array .byte)) (C := R_Digits) (T := F_Digits) (N := 4) hx hb hg in_Digits t_Digits to_Digits no_Digits hown hK hP hD hS 0 rfl rfl 1 (by decide) (hg _ m_175) (fun _ h9 => h9) rfl hin rfl (by decide +kernel) rfl rfl (Nat.le_of_ble_eq_true rfl) d_Digits_init_18 (fun H locs hP hD hS => ?_)
  have hP : va_P (gD G) vwCl [(qt, .inr (2, [.ref q7, .ref q16, .int (0 : Int32), .int (0 : Int32)])), (q7, .inl (gC G 1, 16, .inl (fun _ => (0 : Int32)))), (q16, .inl (gC G 0, 208, .inl (fun _ => (0 : Int32))))] H := hP
  have hD : va_D A [(qt, .inr (2, [.ref q7, .ref q16, .int (0 : Int32), .int (0 : Int32)])), (q7, .inl (gC G 1, 16, .inl (fun _ => (0 : Int32)))), (q16, .inl (gC G 0, 208, .inl (fun _ => (0 : Int32))))] := hD
  obtain rfl := Option.some.inj hf
  rw [← hQ]
  exact W.vret hx hb hr (fun t9 ht hW => ⟨⟨(q7, q16), rfl, trivial, ⟨by rw [ht]; exact hP.sub [0, 1, 2] rfl, hD.sub [0, 1, 2] (by decide) rfl⟩⟩, hS.F ht⟩) hS.2.2 d_Digits_init_21
theorem d_Composer_init_0 : decode cd_Composer_init 0 = .ok (.aload_n 0, 1) := by decide +kernel
theorem d_Composer_init_1 : decode cd_Composer_init 1 = .ok (.invokespecial 1, 3) := by decide +kernel
theorem d_Composer_init_4 : decode cd_Composer_init 4 = .ok (.aload_n 0, 1) := by decide +kernel
theorem d_Composer_init_5 : decode cd_Composer_init 5 = .ok (.new 7, 3) := by decide +kernel
theorem d_Composer_init_8 : decode cd_Composer_init 8 = .ok (.dup, 1) := by decide +kernel
theorem d_Composer_init_9 : decode cd_Composer_init 9 = .ok (.iconst 4, 1) := by decide +kernel
theorem d_Composer_init_10 : decode cd_Composer_init 10 = .ok (.invokespecial 11, 3) := by decide +kernel
theorem d_Composer_init_13 : decode cd_Composer_init 13 = .ok (.putfield 14, 3) := by decide +kernel
theorem d_Composer_init_16 : decode cd_Composer_init 16 = .ok (.aload_n 0, 1) := by decide +kernel
theorem d_Composer_init_17 : decode cd_Composer_init 17 = .ok (.new 7, 3) := by decide +kernel
theorem d_Composer_init_20 : decode cd_Composer_init 20 = .ok (.dup, 1) := by decide +kernel
theorem d_Composer_init_21 : decode cd_Composer_init 21 = .ok (.sipush 1800, 3) := by decide +kernel
theorem d_Composer_init_24 : decode cd_Composer_init 24 = .ok (.invokespecial 11, 3) := by decide +kernel
theorem d_Composer_init_27 : decode cd_Composer_init 27 = .ok (.putfield 18, 3) := by decide +kernel
theorem d_Composer_init_30 : decode cd_Composer_init 30 = .ok (.aload_n 0, 1) := by decide +kernel
theorem d_Composer_init_31 : decode cd_Composer_init 31 = .ok (.new 21, 3) := by decide +kernel
theorem d_Composer_init_34 : decode cd_Composer_init 34 = .ok (.dup, 1) := by decide +kernel
theorem d_Composer_init_35 : decode cd_Composer_init 35 = .ok (.invokespecial 23, 3) := by decide +kernel
theorem d_Composer_init_38 : decode cd_Composer_init 38 = .ok (.putfield 24, 3) := by decide +kernel
theorem d_Composer_init_41 : decode cd_Composer_init 41 = .ok (.aload_n 0, 1) := by decide +kernel
theorem d_Composer_init_42 : decode cd_Composer_init 42 = .ok (.new 28, 3) := by decide +kernel
theorem d_Composer_init_45 : decode cd_Composer_init 45 = .ok (.dup, 1) := by decide +kernel
theorem d_Composer_init_46 : decode cd_Composer_init 46 = .ok (.invokespecial 30, 3) := by decide +kernel
theorem d_Composer_init_49 : decode cd_Composer_init 49 = .ok (.putfield 31, 3) := by decide +kernel
theorem d_Composer_init_52 : decode cd_Composer_init 52 = .ok (.aload_n 0, 1) := by decide +kernel
theorem d_Composer_init_53 : decode cd_Composer_init 53 = .ok (.aload_n 1, 1) := by decide +kernel
theorem d_Composer_init_54 : decode cd_Composer_init 54 = .ok (.putfield 35, 3) := by decide +kernel
theorem d_Composer_init_57 : decode cd_Composer_init 57 = .ok (.aload_n 0, 1) := by decide +kernel
theorem d_Composer_init_58 : decode cd_Composer_init 58 = .ok (.aload_n 2, 1) := by decide +kernel
theorem d_Composer_init_59 : decode cd_Composer_init 59 = .ok (.putfield 39, 3) := by decide +kernel
theorem d_Composer_init_62 : decode cd_Composer_init 62 = .ok (.return_, 1) := by decide +kernel
theorem m_676 : Cond.methodLink R_Composer 1 objectInit ∈ gw := gm (i := 181) (by decide +kernel) (by decide +kernel)
theorem m_677 : Cond.classLink R_Composer 7 R_Row ∈ gw := gm (i := 182) (by decide +kernel) (by decide +kernel)
theorem m_678 : Cond.instantiable R_Row 3 ∈ gw := gm (i := 109) (by decide +kernel) (by decide +kernel)
set_option maxRecDepth 100000 in
theorem m_679 : Cond.code y_Row_init cd_Row_init 2 none ∈ gw := gm (i := 112) rfl rfl
theorem m_680 : Cond.methodLink R_Composer 11 y_Row_init ∈ gw := gm (i := 183) (by decide +kernel) (by decide +kernel)
theorem m_681 : Cond.instanceMethod y_Row_init ∈ gw := gm (i := 111) (by decide +kernel) (by decide +kernel)
theorem m_682 : Cond.classLink R_Composer 21 R_Digits ∈ gw := gm (i := 184) (by decide +kernel) (by decide +kernel)
theorem m_683 : Cond.instantiable R_Digits 4 ∈ gw := gm (i := 185) (by decide +kernel) (by decide +kernel)
theorem nm_24 : Cond.methodLinkNest R_Composer 23 y_Digits_init "SpecifierDesk" ∈ nwL := nwm (i := 186) (by decide +kernel) (by decide +kernel)
set_option maxRecDepth 100000 in
theorem m_684 : Cond.code y_Digits_init cd_Digits_init 1 none ∈ gw := gm (i := 188) rfl rfl
theorem m_685 : Cond.instanceMethod y_Digits_init ∈ gw := gm (i := 187) (by decide +kernel) (by decide +kernel)
theorem m_686 : Cond.classLink R_Composer 28 R_Hex ∈ gw := gm (i := 204) (by decide +kernel) (by decide +kernel)
theorem m_687 : Cond.instantiable R_Hex 3 ∈ gw := gm (i := 205) (by decide +kernel) (by decide +kernel)
theorem nm_25 : Cond.methodLinkNest R_Composer 30 y_Hex_init "SpecifierDesk" ∈ nwL := nwm (i := 206) (by decide +kernel) (by decide +kernel)
set_option maxRecDepth 100000 in
theorem m_688 : Cond.code y_Hex_init cd_Hex_init 1 none ∈ gw := gm (i := 208) rfl rfl
theorem m_689 : Cond.instanceMethod y_Hex_init ∈ gw := gm (i := 207) (by decide +kernel) (by decide +kernel)
def f_Composer_init  : Option Unit :=
  ((f_Row_init (4 : Int32)).bind fun u_10 => ((f_Row_init (1800 : Int32)).bind fun u_24 => ((f_Digits_init ).bind fun u_35 => ((f_Hex_init ).bind fun u_46 => some ()))))
abbrev w_Composer_init (G : Gt) (qt : Nat) : va_W := [(qt, .inr (1, [.null, .null, .null, .null, .null, .null, .int (0 : Int32), .int (0 : Int32)]))]
set_option maxHeartbeats 4000000 in
set_option maxRecDepth 100000 in
theorem c_Composer_init (l : Launch) (G : Gt) (K : Nat) (qt : Nat) (qa1 : Nat) (qa2 : Nat) (sz : Nat) (res : Unit)   (hf : f_Composer_init  = some res) : Met l y_Composer_init (.code y_Composer_init cd_Composer_init 3 none :: gw) { frames := 2, cells := 8, slots := (((((((0 + 3) + (0 + (if (0 : Int32) < (4 : Int32) then (4 : Int32) else (0 : Int32)).toNatClampNeg)) + 3) + (0 + (if (0 : Int32) < (1800 : Int32) then (1800 : Int32) else (0 : Int32)).toNatClampNeg)) + 4) + ((0 + 16) + 208)) + 3), locals := 80 } (PC G ([.ref qt, .ref qa1, .ref qa2] : List Value) sz (w_Composer_init G qt)) (QN G (va_A (w_Composer_init G qt) sz) (fun u : Nat × Nat × Nat × Nat × Nat × Nat × Nat × Nat => [(qt, .inr (1, [.ref qa1, .ref qa2, .ref u.1, .ref u.2.2.1, .ref u.2.2.2.2.1, .ref u.2.2.2.2.2.2.2, .int (0 : Int32), .int (0 : Int32)])), (u.1, .inr (4, [.ref u.2.1, .int (0 : Int32), .int (0 : Int32)])), (u.2.1, .inl (gC G 0, ((if (0 : Int32) < (4 : Int32) then (4 : Int32) else (0 : Int32)).toNatClampNeg), .inl (fun _ => (0 : Int32)))), (u.2.2.1, .inr (4, [.ref u.2.2.2.1, .int (0 : Int32), .int (0 : Int32)])), (u.2.2.2.1, .inl (gC G 0, ((if (0 : Int32) < (1800 : Int32) then (1800 : Int32) else (0 : Int32)).toNatClampNeg), .inl (fun _ => (0 : Int32)))), (u.2.2.2.2.1, .inr (2, [.ref u.2.2.2.2.2.1, .ref u.2.2.2.2.2.2.1, .int (0 : Int32), .int (0 : Int32)])), (u.2.2.2.2.2.1, .inl (gC G 1, 16, .inl (fun _ => (0 : Int32)))), (u.2.2.2.2.2.2.1, .inl (gC G 0, 208, .inl (fun _ => (0 : Int32)))), (u.2.2.2.2.2.2.2, .inr (3, [.long (0 : Int64), .int (0 : Int32), .int (0 : Int32)]))])) 8 (((((((0 + 3) + (0 + (if (0 : Int32) < (4 : Int32) then (4 : Int32) else (0 : Int32)).toNatClampNeg)) + 3) + (0 + (if (0 : Int32) < (1800 : Int32) then (1800 : Int32) else (0 : Int32)).toNatClampNeg)) + 4) + ((0 + 16) + 208)) + 3) (va_A (w_Composer_init G qt) sz) := by
  refine Met.ofW (cc := cd_Composer_init) (maxL := 3) (ret := none) (by decide) rfl ?_
  intro p e s m args below meth c s₁ B hml hv
  obtain ⟨rfl, hsz, hP, hE, hD0⟩ := hv
  have hx := B.exec
  have hb := B.bytes
  have hr := B.returns
  have hts := atoms_spec (ws := (.code y_Composer_init cd_Composer_init 3 none :: gw)) B.pre
  have hg : ∀ w ∈ gw, w.before _ s = true := fun w h => hts w (List.mem_cons_of_mem _ h)
  have hown : s.vm.findClass R_Composer = some m.cls := findClass_of_methodNamed B.named
  have hlocks := B.notSynchronized
  have hin : meth.name = "<init>" := (name_of_methodNamed B.named B.method).1
  subst hsz
  have hK := hE.K
  have hD := hD0.self (sz := s.heap.size)
  have hAb := hE.ab hD0
  obtain ⟨Q, hQ⟩ : ∃ Q, MQ below (QN G (va_A (w_Composer_init G qt) s.heap.size) (fun u : Nat × Nat × Nat × Nat × Nat × Nat × Nat × Nat => [(qt, .inr (1, [.ref qa1, .ref qa2, .ref u.1, .ref u.2.2.1, .ref u.2.2.2.2.1, .ref u.2.2.2.2.2.2.2, .int (0 : Int32), .int (0 : Int32)])), (u.1, .inr (4, [.ref u.2.1, .int (0 : Int32), .int (0 : Int32)])), (u.2.1, .inl (gC G 0, ((if (0 : Int32) < (4 : Int32) then (4 : Int32) else (0 : Int32)).toNatClampNeg), .inl (fun _ => (0 : Int32)))), (u.2.2.1, .inr (4, [.ref u.2.2.2.1, .int (0 : Int32), .int (0 : Int32)])), (u.2.2.2.1, .inl (gC G 0, ((if (0 : Int32) < (1800 : Int32) then (1800 : Int32) else (0 : Int32)).toNatClampNeg), .inl (fun _ => (0 : Int32)))), (u.2.2.2.2.1, .inr (2, [.ref u.2.2.2.2.2.1, .ref u.2.2.2.2.2.2.1, .int (0 : Int32), .int (0 : Int32)])), (u.2.2.2.2.2.1, .inl (gC G 1, 16, .inl (fun _ => (0 : Int32)))), (u.2.2.2.2.2.2.1, .inl (gC G 0, 208, .inl (fun _ => (0 : Int32)))), (u.2.2.2.2.2.2.2, .inr (3, [.long (0 : Int64), .int (0 : Int32), .int (0 : Int32)]))])) ([.ref qt, .ref qa1, .ref qa2] : List Value).toArray s 8 (((((((0 + 3) + (0 + (if (0 : Int32) < (4 : Int32) then (4 : Int32) else (0 : Int32)).toNatClampNeg)) + 3) + (0 + (if (0 : Int32) < (1800 : Int32) then (1800 : Int32) else (0 : Int32)).toNatClampNeg)) + 4) + ((0 + 16) + 208)) + 3) (va_A (w_Composer_init G qt) s.heap.size) = Q := ⟨_, rfl⟩
  show W p l e { frames := 2, cells := 8, slots := (((((((0 + 3) + (0 + (if (0 : Int32) < (4 : Int32) then (4 : Int32) else (0 : Int32)).toNatClampNeg)) + 3) + (0 + (if (0 : Int32) < (1800 : Int32) then (1800 : Int32) else (0 : Int32)).toNatClampNeg)) + 4) + ((0 + 16) + 208)) + 3), locals := 80 } s m ([.ref qt, .ref qa1, .ref qa2] : List Value).toArray below meth c s.heap [] 0 0 (MQ below (QN G (va_A (w_Composer_init G qt) s.heap.size) (fun u : Nat × Nat × Nat × Nat × Nat × Nat × Nat × Nat => [(qt, .inr (1, [.ref qa1, .ref qa2, .ref u.1, .ref u.2.2.1, .ref u.2.2.2.2.1, .ref u.2.2.2.2.2.2.2, .int (0 : Int32), .int (0 : Int32)])), (u.1, .inr (4, [.ref u.2.1, .int (0 : Int32), .int (0 : Int32)])), (u.2.1, .inl (gC G 0, ((if (0 : Int32) < (4 : Int32) then (4 : Int32) else (0 : Int32)).toNatClampNeg), .inl (fun _ => (0 : Int32)))), (u.2.2.1, .inr (4, [.ref u.2.2.2.1, .int (0 : Int32), .int (0 : Int32)])), (u.2.2.2.1, .inl (gC G 0, ((if (0 : Int32) < (1800 : Int32) then (1800 : Int32) else (0 : Int32)).toNatClampNeg), .inl (fun _ => (0 : Int32)))), (u.2.2.2.2.1, .inr (2, [.ref u.2.2.2.2.2.1, .ref u.2.2.2.2.2.2.1, .int (0 : Int32), .int (0 : Int32)])), (u.2.2.2.2.2.1, .inl (gC G 1, 16, .inl (fun _ => (0 : Int32)))), (u.2.2.2.2.2.2.1, .inl (gC G 0, 208, .inl (fun _ => (0 : Int32)))), (u.2.2.2.2.2.2.2, .inr (3, [.long (0 : Int64), .int (0 : Int32), .int (0 : Int32)]))])) ([.ref qt, .ref qa1, .ref qa2] : List Value).toArray s 8 (((((((0 + 3) + (0 + (if (0 : Int32) < (4 : Int32) then (4 : Int32) else (0 : Int32)).toNatClampNeg)) + 3) + (0 + (if (0 : Int32) < (1800 : Int32) then (1800 : Int32) else (0 : Int32)).toNatClampNeg)) + 4) + ((0 + 16) + 208)) + 3) (va_A (w_Composer_init G qt) s.heap.size)) _
  rw [hQ]
  have hA : ∀ q : Nat, s.heap.size ≤ q → va_A (w_Composer_init G qt) s.heap.size q := fun q h => Or.inr h
  obtain ⟨A, hAe⟩ : ∃ A, va_A (w_Composer_init G qt) s.heap.size = A := ⟨_, rfl⟩
  rw [hAe] at hA hD hAb hQ
  have hS : va_S A s.heap s.heap [] := va_S.rf
  have hl := lv_entry (([.ref qt, .ref qa1, .ref qa2] : List Value)) (n := 3) (Nat.le_of_ble_eq_true rfl)
  rw [lg_entry_eq]
  generalize (lg_sl (([.ref qt, .ref qa1, .ref qa2] : List Value)) ++ List.replicate (3 - (lg_sl (([.ref qt, .ref qa1, .ref qa2] : List Value))).length) Slot.unset).toArray = ls at hl ⊢
  have hl : lv_has ls 3 [(0, .ref qt), (1, .ref qa1), (2, .ref qa2)] := hl
  unfold f_Composer_init at hf
  refine lv_aload_n hx hb d_Composer_init_0 rfl (lv_at hl 0 rfl) ?_
  refine W.objInit hx hb hown (hg _ m_676) (hg _ m_669) (hg _ m_670) rfl (by rw [hml]; exact hl.1) rfl d_Composer_init_1 (Nat.le_of_ble_eq_true rfl) (Nat.le_of_ble_eq_true rfl) ?_
  refine W.eq (g2 := F0 m 4 ls []) rfl ?_
  refine lv_aload_n hx hb d_Composer_init_4 rfl (lv_at hl 0 rfl) ?_
  refine va_new (ci := 4) (fs := [.null, .int (0 : Int32), .int (0 : Int32)]) (C := R_Row) (T := F_Row) (N := 3) hx hb hg in_Row t_Row to_Row hown (hg _ m_677) (hg _ m_678) (hg _ m_60) hK hP hD hS hA rfl (fun j hj => by rcases (show j = 0 ∨ j = 1 ∨ j = 2 by omega) with rfl | rfl | rfl <;> rfl) (Nat.le_of_ble_eq_true rfl) (by show (0 + 3) ≤ (((((((0 + 3) + (0 + (if (0 : Int32) < (4 : Int32) then (4 : Int32) else (0 : Int32)).toNatClampNeg)) + 3) + (0 + (if (0 : Int32) < (1800 : Int32) then (1800 : Int32) else (0 : Int32)).toNatClampNeg)) + 4) + ((0 + 16) + 208)) + 3); omega) d_Composer_init_5 (fun q5 H hP hD hS => ?_)
  have hP : va_P (gD G) vwCl [(qt, .inr (1, [.null, .null, .null, .null, .null, .null, .int (0 : Int32), .int (0 : Int32)])), (q5, .inr (4, [.null, .int (0 : Int32), .int (0 : Int32)]))] H := hP
  have hD : va_D A [(qt, .inr (1, [.null, .null, .null, .null, .null, .null, .int (0 : Int32), .int (0 : Int32)])), (q5, .inr (4, [.null, .int (0 : Int32), .int (0 : Int32)]))] := hD
  refine lv_dup hx hb d_Composer_init_8 rfl ?_
  refine lv_iconst (v := 4) hx hb d_Composer_init_9 (by decide) ?_
  obtain ⟨u_10, hu_10, hf⟩ := bd_ hf
  refine CALLn (wr := [(qt, .inr (1, [.null, .null, .null, .null, .null, .null, .int (0 : Int32), .int (0 : Int32)]))]) (va_runI (As := [.int (4 : Int32)]) (rest := [.ref q5, .ref qt]) ⟨hx, hb, hml, hown, hg⟩ (c_Row_init l G K q5 (4 : Int32) _ u_10  hu_10) (cwI 1 hg (gI m_679) rfl rfl rfl (hg _ m_60) (hg _ m_680) (hg _ m_681) rfl (by decide +kernel) ⟨Nat.le_of_ble_eq_true rfl, Nat.le_of_ble_eq_true rfl⟩) ⟨PC_b, PC_p hE hS hAb (hP.sub [1] rfl) (hD.sub [1] (by decide) rfl)⟩ rfl rfl hl.1 rfl (lv_room (Nat.le_of_ble_eq_true rfl)) d_Composer_init_10 ⟨(Nat.le_of_ble_eq_true rfl), (by show ((0 + 3) + (0 + (if (0 : Int32) < (4 : Int32) then (4 : Int32) else (0 : Int32)).toNatClampNeg)) ≤ (((((((0 + 3) + (0 + (if (0 : Int32) < (4 : Int32) then (4 : Int32) else (0 : Int32)).toNatClampNeg)) + 3) + (0 + (if (0 : Int32) < (1800 : Int32) then (1800 : Int32) else (0 : Int32)).toNatClampNeg)) + 4) + ((0 + 16) + 208)) + 3); omega)⟩) hP hD hS hA [1] [0] rfl rfl (by decide) (by decide) (fun s_10 H locs hP hD hS => ?_)
  have hP : va_P (gD G) vwCl [(qt, .inr (1, [.null, .null, .null, .null, .null, .null, .int (0 : Int32), .int (0 : Int32)])), (q5, .inr (4, [.ref s_10, .int (0 : Int32), .int (0 : Int32)])), (s_10, .inl (gC G 0, ((if (0 : Int32) < (4 : Int32) then (4 : Int32) else (0 : Int32)).toNatClampNeg), .inl (fun _ => (0 : Int32))))] H := hP
  have hD : va_D A [(qt, .inr (1, [.null, .null, .null, .null, .null, .null, .int (0 : Int32), .int (0 : Int32)])), (q5, .inr (4, [.ref s_10, .int (0 : Int32), .int (0 : Int32)])), (s_10, .inl (gC G 0, ((if (0 : Int32) < (4 : Int32) then (4 : Int32) else (0 : Int32)).toNatClampNeg), .inl (fun _ => (0 : Int32))))] := hD
  refine va_putF (D := gD G) (ci := 1) (v := .ref q5) (ty := .object "SpecifierDesk$Row") (C := R_Composer) (T := F_Composer) (N := 8) hx hb hg in_Composer t_Composer to_Composer no_Composer hown hK hP hD hS 0 rfl rfl 2 (by decide) (hg _ m_229) (fun _ h9 => h9) rfl hin rfl (by decide +kernel) rfl rfl (Nat.le_of_ble_eq_true rfl) d_Composer_init_13 (fun H locs hP hD hS => ?_)
  have hP : va_P (gD G) vwCl [(qt, .inr (1, [.null, .null, .ref q5, .null, .null, .null, .int (0 : Int32), .int (0 : Int32)])), (q5, .inr (4, [.ref s_10, .int (0 : Int32), .int (0 : Int32)])), (s_10, .inl (gC G 0, ((if (0 : Int32) < (4 : Int32) then (4 : Int32) else (0 : Int32)).toNatClampNeg), .inl (fun _ => (0 : Int32))))] H := hP
  have hD : va_D A [(qt, .inr (1, [.null, .null, .ref q5, .null, .null, .null, .int (0 : Int32), .int (0 : Int32)])), (q5, .inr (4, [.ref s_10, .int (0 : Int32), .int (0 : Int32)])), (s_10, .inl (gC G 0, ((if (0 : Int32) < (4 : Int32) then (4 : Int32) else (0 : Int32)).toNatClampNeg), .inl (fun _ => (0 : Int32))))] := hD
  refine lv_aload_n hx hb d_Composer_init_16 rfl (lv_at hl 0 rfl) ?_
  refine va_new (ci := 4) (fs := [.null, .int (0 : Int32), .int (0 : Int32)]) (C := R_Row) (T := F_Row) (N := 3) hx hb hg in_Row t_Row to_Row hown (hg _ m_677) (hg _ m_678) (hg _ m_60) hK hP hD hS hA rfl (fun j hj => by rcases (show j = 0 ∨ j = 1 ∨ j = 2 by omega) with rfl | rfl | rfl <;> rfl) (Nat.le_of_ble_eq_true rfl) (by show (((0 + 3) + (0 + (if (0 : Int32) < (4 : Int32) then (4 : Int32) else (0 : Int32)).toNatClampNeg)) + 3) ≤ (((((((0 + 3) + (0 + (if (0 : Int32) < (4 : Int32) then (4 : Int32) else (0 : Int32)).toNatClampNeg)) + 3) + (0 + (if (0 : Int32) < (1800 : Int32) then (1800 : Int32) else (0 : Int32)).toNatClampNeg)) + 4) + ((0 + 16) + 208)) + 3); omega) d_Composer_init_17 (fun q17 H hP hD hS => ?_)
  have hP : va_P (gD G) vwCl [(qt, .inr (1, [.null, .null, .ref q5, .null, .null, .null, .int (0 : Int32), .int (0 : Int32)])), (q5, .inr (4, [.ref s_10, .int (0 : Int32), .int (0 : Int32)])), (s_10, .inl (gC G 0, ((if (0 : Int32) < (4 : Int32) then (4 : Int32) else (0 : Int32)).toNatClampNeg), .inl (fun _ => (0 : Int32)))), (q17, .inr (4, [.null, .int (0 : Int32), .int (0 : Int32)]))] H := hP
  have hD : va_D A [(qt, .inr (1, [.null, .null, .ref q5, .null, .null, .null, .int (0 : Int32), .int (0 : Int32)])), (q5, .inr (4, [.ref s_10, .int (0 : Int32), .int (0 : Int32)])), (s_10, .inl (gC G 0, ((if (0 : Int32) < (4 : Int32) then (4 : Int32) else (0 : Int32)).toNatClampNeg), .inl (fun _ => (0 : Int32)))), (q17, .inr (4, [.null, .int (0 : Int32), .int (0 : Int32)]))] := hD
  refine lv_dup hx hb d_Composer_init_20 rfl ?_
  refine lv_sipush (v := 1800) hx hb d_Composer_init_21 (by decide) ?_
  obtain ⟨u_24, hu_24, hf⟩ := bd_ hf
  refine CALLn (wr := [(qt, .inr (1, [.null, .null, .ref q5, .null, .null, .null, .int (0 : Int32), .int (0 : Int32)])), (q5, .inr (4, [.ref s_10, .int (0 : Int32), .int (0 : Int32)])), (s_10, .inl (gC G 0, ((if (0 : Int32) < (4 : Int32) then (4 : Int32) else (0 : Int32)).toNatClampNeg), .inl (fun _ => (0 : Int32))))]) (va_runI (As := [.int (1800 : Int32)]) (rest := [.ref q17, .ref qt]) ⟨hx, hb, hml, hown, hg⟩ (c_Row_init l G K q17 (1800 : Int32) _ u_24  hu_24) (cwI 1 hg (gI m_679) rfl rfl rfl (hg _ m_60) (hg _ m_680) (hg _ m_681) rfl (by decide +kernel) ⟨Nat.le_of_ble_eq_true rfl, Nat.le_of_ble_eq_true rfl⟩) ⟨PC_b, PC_p hE hS hAb (hP.sub [3] rfl) (hD.sub [3] (by decide) rfl)⟩ rfl rfl hl.1 rfl (lv_room (Nat.le_of_ble_eq_true rfl)) d_Composer_init_24 ⟨(Nat.le_of_ble_eq_true rfl), (by show ((((0 + 3) + (0 + (if (0 : Int32) < (4 : Int32) then (4 : Int32) else (0 : Int32)).toNatClampNeg)) + 3) + (0 + (if (0 : Int32) < (1800 : Int32) then (1800 : Int32) else (0 : Int32)).toNatClampNeg)) ≤ (((((((0 + 3) + (0 + (if (0 : Int32) < (4 : Int32) then (4 : Int32) else (0 : Int32)).toNatClampNeg)) + 3) + (0 + (if (0 : Int32) < (1800 : Int32) then (1800 : Int32) else (0 : Int32)).toNatClampNeg)) + 4) + ((0 + 16) + 208)) + 3); omega)⟩) hP hD hS hA [3] [0, 1, 2] rfl rfl (by decide) (by decide) (fun s_24 H locs hP hD hS => ?_)
  have hP : va_P (gD G) vwCl [(qt, .inr (1, [.null, .null, .ref q5, .null, .null, .null, .int (0 : Int32), .int (0 : Int32)])), (q5, .inr (4, [.ref s_10, .int (0 : Int32), .int (0 : Int32)])), (s_10, .inl (gC G 0, ((if (0 : Int32) < (4 : Int32) then (4 : Int32) else (0 : Int32)).toNatClampNeg), .inl (fun _ => (0 : Int32)))), (q17, .inr (4, [.ref s_24, .int (0 : Int32), .int (0 : Int32)])), (s_24, .inl (gC G 0, ((if (0 : Int32) < (1800 : Int32) then (1800 : Int32) else (0 : Int32)).toNatClampNeg), .inl (fun _ => (0 : Int32))))] H := hP
  have hD : va_D A [(qt, .inr (1, [.null, .null, .ref q5, .null, .null, .null, .int (0 : Int32), .int (0 : Int32)])), (q5, .inr (4, [.ref s_10, .int (0 : Int32), .int (0 : Int32)])), (s_10, .inl (gC G 0, ((if (0 : Int32) < (4 : Int32) then (4 : Int32) else (0 : Int32)).toNatClampNeg), .inl (fun _ => (0 : Int32)))), (q17, .inr (4, [.ref s_24, .int (0 : Int32), .int (0 : Int32)])), (s_24, .inl (gC G 0, ((if (0 : Int32) < (1800 : Int32) then (1800 : Int32) else (0 : Int32)).toNatClampNeg), .inl (fun _ => (0 : Int32))))] := hD
  refine va_putF (D := gD G) (ci := 1) (v := .ref q17) (ty := .object "SpecifierDesk$Row") (C := R_Composer) (T := F_Composer) (N := 8) hx hb hg in_Composer t_Composer to_Composer no_Composer hown hK hP hD hS 0 rfl rfl 3 (by decide) (hg _ m_209) (fun _ h9 => h9) rfl hin rfl (by decide +kernel) rfl rfl (Nat.le_of_ble_eq_true rfl) d_Composer_init_27 (fun H locs hP hD hS => ?_)
  have hP : va_P (gD G) vwCl [(qt, .inr (1, [.null, .null, .ref q5, .ref q17, .null, .null, .int (0 : Int32), .int (0 : Int32)])), (q5, .inr (4, [.ref s_10, .int (0 : Int32), .int (0 : Int32)])), (s_10, .inl (gC G 0, ((if (0 : Int32) < (4 : Int32) then (4 : Int32) else (0 : Int32)).toNatClampNeg), .inl (fun _ => (0 : Int32)))), (q17, .inr (4, [.ref s_24, .int (0 : Int32), .int (0 : Int32)])), (s_24, .inl (gC G 0, ((if (0 : Int32) < (1800 : Int32) then (1800 : Int32) else (0 : Int32)).toNatClampNeg), .inl (fun _ => (0 : Int32))))] H := hP
  have hD : va_D A [(qt, .inr (1, [.null, .null, .ref q5, .ref q17, .null, .null, .int (0 : Int32), .int (0 : Int32)])), (q5, .inr (4, [.ref s_10, .int (0 : Int32), .int (0 : Int32)])), (s_10, .inl (gC G 0, ((if (0 : Int32) < (4 : Int32) then (4 : Int32) else (0 : Int32)).toNatClampNeg), .inl (fun _ => (0 : Int32)))), (q17, .inr (4, [.ref s_24, .int (0 : Int32), .int (0 : Int32)])), (s_24, .inl (gC G 0, ((if (0 : Int32) < (1800 : Int32) then (1800 : Int32) else (0 : Int32)).toNatClampNeg), .inl (fun _ => (0 : Int32))))] := hD
  refine lv_aload_n hx hb d_Composer_init_30 rfl (lv_at hl 0 rfl) ?_
  refine va_new (ci := 2) (fs := [.null, .null, .int (0 : Int32), .int (0 : Int32)]) (C := R_Digits) (T := F_Digits) (N := 4) hx hb hg in_Digits t_Digits to_Digits hown (hg _ m_682) (hg _ m_683) (hg _ m_179) hK hP hD hS hA rfl (fun j hj => by rcases (show j = 0 ∨ j = 1 ∨ j = 2 ∨ j = 3 by omega) with rfl | rfl | rfl | rfl <;> rfl) (Nat.le_of_ble_eq_true rfl) (by show (((((0 + 3) + (0 + (if (0 : Int32) < (4 : Int32) then (4 : Int32) else (0 : Int32)).toNatClampNeg)) + 3) + (0 + (if (0 : Int32) < (1800 : Int32) then (1800 : Int32) else (0 : Int32)).toNatClampNeg)) + 4) ≤ (((((((0 + 3) + (0 + (if (0 : Int32) < (4 : Int32) then (4 : Int32) else (0 : Int32)).toNatClampNeg)) + 3) + (0 + (if (0 : Int32) < (1800 : Int32) then (1800 : Int32) else (0 : Int32)).toNatClampNeg)) + 4) + ((0 + 16) + 208)) + 3); omega) d_Composer_init_31 (fun q31 H hP hD hS => ?_)
  have hP : va_P (gD G) vwCl [(qt, .inr (1, [.null, .null, .ref q5, .ref q17, .null, .null, .int (0 : Int32), .int (0 : Int32)])), (q5, .inr (4, [.ref s_10, .int (0 : Int32), .int (0 : Int32)])), (s_10, .inl (gC G 0, ((if (0 : Int32) < (4 : Int32) then (4 : Int32) else (0 : Int32)).toNatClampNeg), .inl (fun _ => (0 : Int32)))), (q17, .inr (4, [.ref s_24, .int (0 : Int32), .int (0 : Int32)])), (s_24, .inl (gC G 0, ((if (0 : Int32) < (1800 : Int32) then (1800 : Int32) else (0 : Int32)).toNatClampNeg), .inl (fun _ => (0 : Int32)))), (q31, .inr (2, [.null, .null, .int (0 : Int32), .int (0 : Int32)]))] H := hP
  have hD : va_D A [(qt, .inr (1, [.null, .null, .ref q5, .ref q17, .null, .null, .int (0 : Int32), .int (0 : Int32)])), (q5, .inr (4, [.ref s_10, .int (0 : Int32), .int (0 : Int32)])), (s_10, .inl (gC G 0, ((if (0 : Int32) < (4 : Int32) then (4 : Int32) else (0 : Int32)).toNatClampNeg), .inl (fun _ => (0 : Int32)))), (q17, .inr (4, [.ref s_24, .int (0 : Int32), .int (0 : Int32)])), (s_24, .inl (gC G 0, ((if (0 : Int32) < (1800 : Int32) then (1800 : Int32) else (0 : Int32)).toNatClampNeg), .inl (fun _ => (0 : Int32)))), (q31, .inr (2, [.null, .null, .int (0 : Int32), .int (0 : Int32)]))] := hD
  refine lv_dup hx hb d_Composer_init_34 rfl ?_
  obtain ⟨u_35, hu_35, hf⟩ := bd_ hf
  refine CALLn (wr := [(qt, .inr (1, [.null, .null, .ref q5, .ref q17, .null, .null, .int (0 : Int32), .int (0 : Int32)])), (q5, .inr (4, [.ref s_10, .int (0 : Int32), .int (0 : Int32)])), (s_10, .inl (gC G 0, ((if (0 : Int32) < (4 : Int32) then (4 : Int32) else (0 : Int32)).toNatClampNeg), .inl (fun _ => (0 : Int32)))), (q17, .inr (4, [.ref s_24, .int (0 : Int32), .int (0 : Int32)])), (s_24, .inl (gC G 0, ((if (0 : Int32) < (1800 : Int32) then (1800 : Int32) else (0 : Int32)).toNatClampNeg), .inl (fun _ => (0 : Int32))))]) (va_runIN (As := []) (rest := [.ref q31, .ref qt]) ⟨hx, hb, hml, hown, hg⟩ (c_Digits_init l G K q31 _ u_35  hu_35) ⟨va_cnB 0 hg (gI m_684) rfl rfl rfl (hE.nw _ nm_24) (hg _ m_179) (by decide +kernel) ⟨Nat.le_of_ble_eq_true rfl, Nat.le_of_ble_eq_true rfl⟩, rfl, hg _ m_685⟩ ⟨PC_b, PC_p hE hS hAb (hP.sub [5] rfl) (hD.sub [5] (by decide) rfl)⟩ rfl rfl hl.1 rfl (lv_room (Nat.le_of_ble_eq_true rfl)) d_Composer_init_35 ⟨(Nat.le_of_ble_eq_true rfl), (by show ((((((0 + 3) + (0 + (if (0 : Int32) < (4 : Int32) then (4 : Int32) else (0 : Int32)).toNatClampNeg)) + 3) + (0 + (if (0 : Int32) < (1800 : Int32) then (1800 : Int32) else (0 : Int32)).toNatClampNeg)) + 4) + ((0 + 16) + 208)) ≤ (((((((0 + 3) + (0 + (if (0 : Int32) < (4 : Int32) then (4 : Int32) else (0 : Int32)).toNatClampNeg)) + 3) + (0 + (if (0 : Int32) < (1800 : Int32) then (1800 : Int32) else (0 : Int32)).toNatClampNeg)) + 4) + ((0 + 16) + 208)) + 3); omega)⟩) hP hD hS hA [5] [0, 1, 2, 3, 4] rfl rfl (by decide) (by decide) (fun s_35 H locs hP hD hS => ?_)
  have hP : va_P (gD G) vwCl [(qt, .inr (1, [.null, .null, .ref q5, .ref q17, .null, .null, .int (0 : Int32), .int (0 : Int32)])), (q5, .inr (4, [.ref s_10, .int (0 : Int32), .int (0 : Int32)])), (s_10, .inl (gC G 0, ((if (0 : Int32) < (4 : Int32) then (4 : Int32) else (0 : Int32)).toNatClampNeg), .inl (fun _ => (0 : Int32)))), (q17, .inr (4, [.ref s_24, .int (0 : Int32), .int (0 : Int32)])), (s_24, .inl (gC G 0, ((if (0 : Int32) < (1800 : Int32) then (1800 : Int32) else (0 : Int32)).toNatClampNeg), .inl (fun _ => (0 : Int32)))), (q31, .inr (2, [.ref s_35.1, .ref s_35.2, .int (0 : Int32), .int (0 : Int32)])), (s_35.1, .inl (gC G 1, 16, .inl (fun _ => (0 : Int32)))), (s_35.2, .inl (gC G 0, 208, .inl (fun _ => (0 : Int32))))] H := hP
  have hD : va_D A [(qt, .inr (1, [.null, .null, .ref q5, .ref q17, .null, .null, .int (0 : Int32), .int (0 : Int32)])), (q5, .inr (4, [.ref s_10, .int (0 : Int32), .int (0 : Int32)])), (s_10, .inl (gC G 0, ((if (0 : Int32) < (4 : Int32) then (4 : Int32) else (0 : Int32)).toNatClampNeg), .inl (fun _ => (0 : Int32)))), (q17, .inr (4, [.ref s_24, .int (0 : Int32), .int (0 : Int32)])), (s_24, .inl (gC G 0, ((if (0 : Int32) < (1800 : Int32) then (1800 : Int32) else (0 : Int32)).toNatClampNeg), .inl (fun _ => (0 : Int32)))), (q31, .inr (2, [.ref s_35.1, .ref s_35.2, .int (0 : Int32), .int (0 : Int32)])), (s_35.1, .inl (gC G 1, 16, .inl (fun _ => (0 : Int32)))), (s_35.2, .inl (gC G 0, 208, .inl (fun _ => (0 : Int32))))] := hD
  refine va_putF (D := gD G) (ci := 1) (v := .ref q31) (ty := .object "SpecifierDesk$Digits") (C := R_Composer) (T := F_Composer) (N := 8) hx hb hg in_Composer t_Composer to_Composer no_Composer hown hK hP hD hS 0 rfl rfl 4 (by decide) (hg _ m_215) (fun _ h9 => h9) rfl hin rfl (by decide +kernel) rfl rfl (Nat.le_of_ble_eq_true rfl) d_Composer_init_38 (fun H locs hP hD hS => ?_)
  have hP : va_P (gD G) vwCl [(qt, .inr (1, [.null, .null, .ref q5, .ref q17, .ref q31, .null, .int (0 : Int32), .int (0 : Int32)])), (q5, .inr (4, [.ref s_10, .int (0 : Int32), .int (0 : Int32)])), (s_10, .inl (gC G 0, ((if (0 : Int32) < (4 : Int32) then (4 : Int32) else (0 : Int32)).toNatClampNeg), .inl (fun _ => (0 : Int32)))), (q17, .inr (4, [.ref s_24, .int (0 : Int32), .int (0 : Int32)])), (s_24, .inl (gC G 0, ((if (0 : Int32) < (1800 : Int32) then (1800 : Int32) else (0 : Int32)).toNatClampNeg), .inl (fun _ => (0 : Int32)))), (q31, .inr (2, [.ref s_35.1, .ref s_35.2, .int (0 : Int32), .int (0 : Int32)])), (s_35.1, .inl (gC G 1, 16, .inl (fun _ => (0 : Int32)))), (s_35.2, .inl (gC G 0, 208, .inl (fun _ => (0 : Int32))))] H := hP
  have hD : va_D A [(qt, .inr (1, [.null, .null, .ref q5, .ref q17, .ref q31, .null, .int (0 : Int32), .int (0 : Int32)])), (q5, .inr (4, [.ref s_10, .int (0 : Int32), .int (0 : Int32)])), (s_10, .inl (gC G 0, ((if (0 : Int32) < (4 : Int32) then (4 : Int32) else (0 : Int32)).toNatClampNeg), .inl (fun _ => (0 : Int32)))), (q17, .inr (4, [.ref s_24, .int (0 : Int32), .int (0 : Int32)])), (s_24, .inl (gC G 0, ((if (0 : Int32) < (1800 : Int32) then (1800 : Int32) else (0 : Int32)).toNatClampNeg), .inl (fun _ => (0 : Int32)))), (q31, .inr (2, [.ref s_35.1, .ref s_35.2, .int (0 : Int32), .int (0 : Int32)])), (s_35.1, .inl (gC G 1, 16, .inl (fun _ => (0 : Int32)))), (s_35.2, .inl (gC G 0, 208, .inl (fun _ => (0 : Int32))))] := hD
  refine lv_aload_n hx hb d_Composer_init_41 rfl (lv_at hl 0 rfl) ?_
  refine va_new (ci := 3) (fs := [.long (0 : Int64), .int (0 : Int32), .int (0 : Int32)]) (C := R_Hex) (T := F_Hex) (N := 3) hx hb hg in_Hex t_Hex to_Hex hown (hg _ m_686) (hg _ m_687) (hg _ m_81) hK hP hD hS hA rfl (fun j hj => by rcases (show j = 0 ∨ j = 1 ∨ j = 2 by omega) with rfl | rfl | rfl <;> rfl) (Nat.le_of_ble_eq_true rfl) (by show (((((((0 + 3) + (0 + (if (0 : Int32) < (4 : Int32) then (4 : Int32) else (0 : Int32)).toNatClampNeg)) + 3) + (0 + (if (0 : Int32) < (1800 : Int32) then (1800 : Int32) else (0 : Int32)).toNatClampNeg)) + 4) + ((0 + 16) + 208)) + 3) ≤ (((((((0 + 3) + (0 + (if (0 : Int32) < (4 : Int32) then (4 : Int32) else (0 : Int32)).toNatClampNeg)) + 3) + (0 + (if (0 : Int32) < (1800 : Int32) then (1800 : Int32) else (0 : Int32)).toNatClampNeg)) + 4) + ((0 + 16) + 208)) + 3); omega) d_Composer_init_42 (fun q42 H hP hD hS => ?_)
  have hP : va_P (gD G) vwCl [(qt, .inr (1, [.null, .null, .ref q5, .ref q17, .ref q31, .null, .int (0 : Int32), .int (0 : Int32)])), (q5, .inr (4, [.ref s_10, .int (0 : Int32), .int (0 : Int32)])), (s_10, .inl (gC G 0, ((if (0 : Int32) < (4 : Int32) then (4 : Int32) else (0 : Int32)).toNatClampNeg), .inl (fun _ => (0 : Int32)))), (q17, .inr (4, [.ref s_24, .int (0 : Int32), .int (0 : Int32)])), (s_24, .inl (gC G 0, ((if (0 : Int32) < (1800 : Int32) then (1800 : Int32) else (0 : Int32)).toNatClampNeg), .inl (fun _ => (0 : Int32)))), (q31, .inr (2, [.ref s_35.1, .ref s_35.2, .int (0 : Int32), .int (0 : Int32)])), (s_35.1, .inl (gC G 1, 16, .inl (fun _ => (0 : Int32)))), (s_35.2, .inl (gC G 0, 208, .inl (fun _ => (0 : Int32)))), (q42, .inr (3, [.long (0 : Int64), .int (0 : Int32), .int (0 : Int32)]))] H := hP
  have hD : va_D A [(qt, .inr (1, [.null, .null, .ref q5, .ref q17, .ref q31, .null, .int (0 : Int32), .int (0 : Int32)])), (q5, .inr (4, [.ref s_10, .int (0 : Int32), .int (0 : Int32)])), (s_10, .inl (gC G 0, ((if (0 : Int32) < (4 : Int32) then (4 : Int32) else (0 : Int32)).toNatClampNeg), .inl (fun _ => (0 : Int32)))), (q17, .inr (4, [.ref s_24, .int (0 : Int32), .int (0 : Int32)])), (s_24, .inl (gC G 0, ((if (0 : Int32) < (1800 : Int32) then (1800 : Int32) else (0 : Int32)).toNatClampNeg), .inl (fun _ => (0 : Int32)))), (q31, .inr (2, [.ref s_35.1, .ref s_35.2, .int (0 : Int32), .int (0 : Int32)])), (s_35.1, .inl (gC G 1, 16, .inl (fun _ => (0 : Int32)))), (s_35.2, .inl (gC G 0, 208, .inl (fun _ => (0 : Int32)))), (q42, .inr (3, [.long (0 : Int64), .int (0 : Int32), .int (0 : Int32)]))] := hD
  refine lv_dup hx hb d_Composer_init_45 rfl ?_
  obtain ⟨u_46, hu_46, hf⟩ := bd_ hf
  refine CALLv (va_runIN (As := []) (rest := [.ref q42, .ref qt]) ⟨hx, hb, hml, hown, hg⟩ (c_Hex_init l G K q42 _ u_46  hu_46) ⟨va_cnB 0 hg (gI m_688) rfl rfl rfl (hE.nw _ nm_25) (hg _ m_81) (by decide +kernel) ⟨Nat.le_of_ble_eq_true rfl, Nat.le_of_ble_eq_true rfl⟩, rfl, hg _ m_689⟩ ⟨PC_b, PC_p hE hS hAb (hP.sub [8] rfl) (hD.sub [8] (by decide) rfl)⟩ rfl rfl hl.1 rfl (lv_room (Nat.le_of_ble_eq_true rfl)) d_Composer_init_46 ⟨(Nat.le_of_ble_eq_true rfl), (by show (((((((0 + 3) + (0 + (if (0 : Int32) < (4 : Int32) then (4 : Int32) else (0 : Int32)).toNatClampNeg)) + 3) + (0 + (if (0 : Int32) < (1800 : Int32) then (1800 : Int32) else (0 : Int32)).toNatClampNeg)) + 4) + ((0 + 16) + 208)) + 3) ≤ (((((((0 + 3) + (0 + (if (0 : Int32) < (4 : Int32) then (4 : Int32) else (0 : Int32)).toNatClampNeg)) + 3) + (0 + (if (0 : Int32) < (1800 : Int32) then (1800 : Int32) else (0 : Int32)).toNatClampNeg)) + 4) + ((0 + 16) + 208)) + 3); omega)⟩) hP hD hS hA [8] rfl rfl rfl (fun H locs hP hD hS => ?_)
  have hP : va_P (gD G) vwCl [(qt, .inr (1, [.null, .null, .ref q5, .ref q17, .ref q31, .null, .int (0 : Int32), .int (0 : Int32)])), (q5, .inr (4, [.ref s_10, .int (0 : Int32), .int (0 : Int32)])), (s_10, .inl (gC G 0, ((if (0 : Int32) < (4 : Int32) then (4 : Int32) else (0 : Int32)).toNatClampNeg), .inl (fun _ => (0 : Int32)))), (q17, .inr (4, [.ref s_24, .int (0 : Int32), .int (0 : Int32)])), (s_24, .inl (gC G 0, ((if (0 : Int32) < (1800 : Int32) then (1800 : Int32) else (0 : Int32)).toNatClampNeg), .inl (fun _ => (0 : Int32)))), (q31, .inr (2, [.ref s_35.1, .ref s_35.2, .int (0 : Int32), .int (0 : Int32)])), (s_35.1, .inl (gC G 1, 16, .inl (fun _ => (0 : Int32)))), (s_35.2, .inl (gC G 0, 208, .inl (fun _ => (0 : Int32)))), (q42, .inr (3, [.long (0 : Int64), .int (0 : Int32), .int (0 : Int32)]))] H := hP
  have hD : va_D A [(qt, .inr (1, [.null, .null, .ref q5, .ref q17, .ref q31, .null, .int (0 : Int32), .int (0 : Int32)])), (q5, .inr (4, [.ref s_10, .int (0 : Int32), .int (0 : Int32)])), (s_10, .inl (gC G 0, ((if (0 : Int32) < (4 : Int32) then (4 : Int32) else (0 : Int32)).toNatClampNeg), .inl (fun _ => (0 : Int32)))), (q17, .inr (4, [.ref s_24, .int (0 : Int32), .int (0 : Int32)])), (s_24, .inl (gC G 0, ((if (0 : Int32) < (1800 : Int32) then (1800 : Int32) else (0 : Int32)).toNatClampNeg), .inl (fun _ => (0 : Int32)))), (q31, .inr (2, [.ref s_35.1, .ref s_35.2, .int (0 : Int32), .int (0 : Int32)])), (s_35.1, .inl (gC G 1, 16, .inl (fun _ => (0 : Int32)))), (s_35.2, .inl (gC G 0, 208, .inl (fun _ => (0 : Int32)))), (q42, .inr (3, [.long (0 : Int64), .int (0 : Int32), .int (0 : Int32)]))] := hD
  refine va_putF (D := gD G) (ci := 1) (v := .ref q42) (ty := .object "SpecifierDesk$Hex") (C := R_Composer) (T := F_Composer) (N := 8) hx hb hg in_Composer t_Composer to_Composer no_Composer hown hK hP hD hS 0 rfl rfl 5 (by decide) (hg _ m_275) (fun _ h9 => h9) rfl hin rfl (by decide +kernel) rfl rfl (Nat.le_of_ble_eq_true rfl) d_Composer_init_49 (fun H locs hP hD hS => ?_)
  have hP : va_P (gD G) vwCl [(qt, .inr (1, [.null, .null, .ref q5, .ref q17, .ref q31, .ref q42, .int (0 : Int32), .int (0 : Int32)])), (q5, .inr (4, [.ref s_10, .int (0 : Int32), .int (0 : Int32)])), (s_10, .inl (gC G 0, ((if (0 : Int32) < (4 : Int32) then (4 : Int32) else (0 : Int32)).toNatClampNeg), .inl (fun _ => (0 : Int32)))), (q17, .inr (4, [.ref s_24, .int (0 : Int32), .int (0 : Int32)])), (s_24, .inl (gC G 0, ((if (0 : Int32) < (1800 : Int32) then (1800 : Int32) else (0 : Int32)).toNatClampNeg), .inl (fun _ => (0 : Int32)))), (q31, .inr (2, [.ref s_35.1, .ref s_35.2, .int (0 : Int32), .int (0 : Int32)])), (s_35.1, .inl (gC G 1, 16, .inl (fun _ => (0 : Int32)))), (s_35.2, .inl (gC G 0, 208, .inl (fun _ => (0 : Int32)))), (q42, .inr (3, [.long (0 : Int64), .int (0 : Int32), .int (0 : Int32)]))] H := hP
  have hD : va_D A [(qt, .inr (1, [.null, .null, .ref q5, .ref q17, .ref q31, .ref q42, .int (0 : Int32), .int (0 : Int32)])), (q5, .inr (4, [.ref s_10, .int (0 : Int32), .int (0 : Int32)])), (s_10, .inl (gC G 0, ((if (0 : Int32) < (4 : Int32) then (4 : Int32) else (0 : Int32)).toNatClampNeg), .inl (fun _ => (0 : Int32)))), (q17, .inr (4, [.ref s_24, .int (0 : Int32), .int (0 : Int32)])), (s_24, .inl (gC G 0, ((if (0 : Int32) < (1800 : Int32) then (1800 : Int32) else (0 : Int32)).toNatClampNeg), .inl (fun _ => (0 : Int32)))), (q31, .inr (2, [.ref s_35.1, .ref s_35.2, .int (0 : Int32), .int (0 : Int32)])), (s_35.1, .inl (gC G 1, 16, .inl (fun _ => (0 : Int32)))), (s_35.2, .inl (gC G 0, 208, .inl (fun _ => (0 : Int32)))), (q42, .inr (3, [.long (0 : Int64), .int (0 : Int32), .int (0 : Int32)]))] := hD
  refine lv_aload_n hx hb d_Composer_init_52 rfl (lv_at hl 0 rfl) ?_
  refine lv_aload_n hx hb d_Composer_init_53 rfl (lv_at hl 1 rfl) ?_
  refine va_putF (D := gD G) (ci := 1) (v := .ref qa1) (ty := .object "SpecifierDesk$Specifier") (C := R_Composer) (T := F_Composer) (N := 8) hx hb hg in_Composer t_Composer to_Composer no_Composer hown hK hP hD hS 0 rfl rfl 0 (by decide) (hg _ m_235) (fun _ h9 => h9) rfl hin rfl (by decide +kernel) rfl rfl (Nat.le_of_ble_eq_true rfl) d_Composer_init_54 (fun H locs hP hD hS => ?_)
  have hP : va_P (gD G) vwCl [(qt, .inr (1, [.ref qa1, .null, .ref q5, .ref q17, .ref q31, .ref q42, .int (0 : Int32), .int (0 : Int32)])), (q5, .inr (4, [.ref s_10, .int (0 : Int32), .int (0 : Int32)])), (s_10, .inl (gC G 0, ((if (0 : Int32) < (4 : Int32) then (4 : Int32) else (0 : Int32)).toNatClampNeg), .inl (fun _ => (0 : Int32)))), (q17, .inr (4, [.ref s_24, .int (0 : Int32), .int (0 : Int32)])), (s_24, .inl (gC G 0, ((if (0 : Int32) < (1800 : Int32) then (1800 : Int32) else (0 : Int32)).toNatClampNeg), .inl (fun _ => (0 : Int32)))), (q31, .inr (2, [.ref s_35.1, .ref s_35.2, .int (0 : Int32), .int (0 : Int32)])), (s_35.1, .inl (gC G 1, 16, .inl (fun _ => (0 : Int32)))), (s_35.2, .inl (gC G 0, 208, .inl (fun _ => (0 : Int32)))), (q42, .inr (3, [.long (0 : Int64), .int (0 : Int32), .int (0 : Int32)]))] H := hP
  have hD : va_D A [(qt, .inr (1, [.ref qa1, .null, .ref q5, .ref q17, .ref q31, .ref q42, .int (0 : Int32), .int (0 : Int32)])), (q5, .inr (4, [.ref s_10, .int (0 : Int32), .int (0 : Int32)])), (s_10, .inl (gC G 0, ((if (0 : Int32) < (4 : Int32) then (4 : Int32) else (0 : Int32)).toNatClampNeg), .inl (fun _ => (0 : Int32)))), (q17, .inr (4, [.ref s_24, .int (0 : Int32), .int (0 : Int32)])), (s_24, .inl (gC G 0, ((if (0 : Int32) < (1800 : Int32) then (1800 : Int32) else (0 : Int32)).toNatClampNeg), .inl (fun _ => (0 : Int32)))), (q31, .inr (2, [.ref s_35.1, .ref s_35.2, .int (0 : Int32), .int (0 : Int32)])), (s_35.1, .inl (gC G 1, 16, .inl (fun _ => (0 : Int32)))), (s_35.2, .inl (gC G 0, 208, .inl (fun _ => (0 : Int32)))), (q42, .inr (3, [.long (0 : Int64), .int (0 : Int32), .int (0 : Int32)]))] := hD
  refine lv_aload_n hx hb d_Composer_init_57 rfl (lv_at hl 0 rfl) ?_
  refine lv_aload_n hx hb d_Composer_init_58 rfl (lv_at hl 2 rfl) ?_
  refine va_putF (D := gD G) (ci := 1) (v := .ref qa2) (ty := .object "SpecifierDesk$Row") (C := R_Composer) (T := F_Composer) (N := 8) hx hb hg in_Composer t_Composer to_Composer no_Composer hown hK hP hD hS 0 rfl rfl 1 (by decide) (hg _ m_238) (fun _ h9 => h9) rfl hin rfl (by decide +kernel) rfl rfl (Nat.le_of_ble_eq_true rfl) d_Composer_init_59 (fun H locs hP hD hS => ?_)
  have hP : va_P (gD G) vwCl [(qt, .inr (1, [.ref qa1, .ref qa2, .ref q5, .ref q17, .ref q31, .ref q42, .int (0 : Int32), .int (0 : Int32)])), (q5, .inr (4, [.ref s_10, .int (0 : Int32), .int (0 : Int32)])), (s_10, .inl (gC G 0, ((if (0 : Int32) < (4 : Int32) then (4 : Int32) else (0 : Int32)).toNatClampNeg), .inl (fun _ => (0 : Int32)))), (q17, .inr (4, [.ref s_24, .int (0 : Int32), .int (0 : Int32)])), (s_24, .inl (gC G 0, ((if (0 : Int32) < (1800 : Int32) then (1800 : Int32) else (0 : Int32)).toNatClampNeg), .inl (fun _ => (0 : Int32)))), (q31, .inr (2, [.ref s_35.1, .ref s_35.2, .int (0 : Int32), .int (0 : Int32)])), (s_35.1, .inl (gC G 1, 16, .inl (fun _ => (0 : Int32)))), (s_35.2, .inl (gC G 0, 208, .inl (fun _ => (0 : Int32)))), (q42, .inr (3, [.long (0 : Int64), .int (0 : Int32), .int (0 : Int32)]))] H := hP
  have hD : va_D A [(qt, .inr (1, [.ref qa1, .ref qa2, .ref q5, .ref q17, .ref q31, .ref q42, .int (0 : Int32), .int (0 : Int32)])), (q5, .inr (4, [.ref s_10, .int (0 : Int32), .int (0 : Int32)])), (s_10, .inl (gC G 0, ((if (0 : Int32) < (4 : Int32) then (4 : Int32) else (0 : Int32)).toNatClampNeg), .inl (fun _ => (0 : Int32)))), (q17, .inr (4, [.ref s_24, .int (0 : Int32), .int (0 : Int32)])), (s_24, .inl (gC G 0, ((if (0 : Int32) < (1800 : Int32) then (1800 : Int32) else (0 : Int32)).toNatClampNeg), .inl (fun _ => (0 : Int32)))), (q31, .inr (2, [.ref s_35.1, .ref s_35.2, .int (0 : Int32), .int (0 : Int32)])), (s_35.1, .inl (gC G 1, 16, .inl (fun _ => (0 : Int32)))), (s_35.2, .inl (gC G 0, 208, .inl (fun _ => (0 : Int32)))), (q42, .inr (3, [.long (0 : Int64), .int (0 : Int32), .int (0 : Int32)]))] := hD
  obtain rfl := Option.some.inj hf
  rw [← hQ]
  exact W.vret hx hb hr (fun t9 ht hW => ⟨⟨(q5, s_10, q17, s_24, q31, s_35.1, s_35.2, q42), rfl, trivial, ⟨by rw [ht]; exact hP.sub [0, 1, 2, 3, 4, 5, 6, 7, 8] rfl, hD.sub [0, 1, 2, 3, 4, 5, 6, 7, 8] (by decide) rfl⟩⟩, hS.F ht⟩) hS.2.2 d_Composer_init_62
theorem d_Argument_init_0 : decode cd_Argument_init 0 = .ok (.aload_n 0, 1) := by decide +kernel
theorem d_Argument_init_1 : decode cd_Argument_init 1 = .ok (.invokespecial 3, 3) := by decide +kernel
theorem d_Argument_init_4 : decode cd_Argument_init 4 = .ok (.aload_n 0, 1) := by decide +kernel
theorem d_Argument_init_5 : decode cd_Argument_init 5 = .ok (.bipush 8, 2) := by decide +kernel
theorem d_Argument_init_7 : decode cd_Argument_init 7 = .ok (.newarray .long, 2) := by decide +kernel
theorem d_Argument_init_9 : decode cd_Argument_init 9 = .ok (.putfield 11, 3) := by decide +kernel
theorem d_Argument_init_12 : decode cd_Argument_init 12 = .ok (.aload_n 0, 1) := by decide +kernel
theorem d_Argument_init_13 : decode cd_Argument_init 13 = .ok (.getstatic 15, 3) := by decide +kernel
theorem d_Argument_init_16 : decode cd_Argument_init 16 = .ok (.putfield 21, 3) := by decide +kernel
theorem d_Argument_init_19 : decode cd_Argument_init 19 = .ok (.return_, 1) := by decide +kernel
theorem m_690 : Cond.methodLink R_Argument 3 objectInit ∈ gw := gm (i := 253) (by decide +kernel) (by decide +kernel)
theorem m_691 : Cond.arrayClass .long ∈ gw := gm (i := 291) (by decide +kernel) (by decide +kernel)
theorem m_692 : Cond.fieldLink R_Argument 15 "SpecifierDesk$Kind" "NOTHING" "LSpecifierDesk$Kind;" ∈ gw := gm (i := 254) (by decide +kernel) (by decide +kernel)
def f_Argument_init  : Option Unit :=
  some ()
abbrev w_Argument_init (G : Gt) (qt : Nat) : va_W := [(qt, .inr (0, [.null, .null, .int (0 : Int32), .long (0 : Int64), .int (0 : Int32), .int (0 : Int32), .null]))]
set_option maxHeartbeats 4000000 in
set_option maxRecDepth 100000 in
theorem c_Argument_init (l : Launch) (G : Gt) (K : Nat) (qt : Nat) (sz : Nat) (res : Unit)   (hf : f_Argument_init  = some res) : Met l y_Argument_init (.code y_Argument_init cd_Argument_init 1 none :: gw) { frames := 1, cells := 1, slots := (0 + 8), locals := 40 } (PC G ([.ref qt] : List Value) sz (w_Argument_init G qt)) (QN G (va_A (w_Argument_init G qt) sz) (fun u : Nat => [(qt, .inr (0, [.ref u, .ref (gK G 0), .int (0 : Int32), .long (0 : Int64), .int (0 : Int32), .int (0 : Int32), .null])), (u, .inl (gC G 2, 8, .inr (.inl (fun _ => (0 : Int64)))))])) 1 (0 + 8) (va_A (w_Argument_init G qt) sz) := by
  refine Met.ofW (cc := cd_Argument_init) (maxL := 1) (ret := none) (by decide) rfl ?_
  intro p e s m args below meth c s₁ B hml hv
  obtain ⟨rfl, hsz, hP, hE, hD0⟩ := hv
  have hx := B.exec
  have hb := B.bytes
  have hr := B.returns
  have hts := atoms_spec (ws := (.code y_Argument_init cd_Argument_init 1 none :: gw)) B.pre
  have hg : ∀ w ∈ gw, w.before _ s = true := fun w h => hts w (List.mem_cons_of_mem _ h)
  have hown : s.vm.findClass R_Argument = some m.cls := findClass_of_methodNamed B.named
  have hlocks := B.notSynchronized
  have hin : meth.name = "<init>" := (name_of_methodNamed B.named B.method).1
  subst hsz
  have hK := hE.K
  have hD := hD0.self (sz := s.heap.size)
  have hAb := hE.ab hD0
  obtain ⟨Q, hQ⟩ : ∃ Q, MQ below (QN G (va_A (w_Argument_init G qt) s.heap.size) (fun u : Nat => [(qt, .inr (0, [.ref u, .ref (gK G 0), .int (0 : Int32), .long (0 : Int64), .int (0 : Int32), .int (0 : Int32), .null])), (u, .inl (gC G 2, 8, .inr (.inl (fun _ => (0 : Int64)))))])) ([.ref qt] : List Value).toArray s 1 (0 + 8) (va_A (w_Argument_init G qt) s.heap.size) = Q := ⟨_, rfl⟩
  show W p l e { frames := 1, cells := 1, slots := (0 + 8), locals := 40 } s m ([.ref qt] : List Value).toArray below meth c s.heap [] 0 0 (MQ below (QN G (va_A (w_Argument_init G qt) s.heap.size) (fun u : Nat => [(qt, .inr (0, [.ref u, .ref (gK G 0), .int (0 : Int32), .long (0 : Int64), .int (0 : Int32), .int (0 : Int32), .null])), (u, .inl (gC G 2, 8, .inr (.inl (fun _ => (0 : Int64)))))])) ([.ref qt] : List Value).toArray s 1 (0 + 8) (va_A (w_Argument_init G qt) s.heap.size)) _
  rw [hQ]
  have hA : ∀ q : Nat, s.heap.size ≤ q → va_A (w_Argument_init G qt) s.heap.size q := fun q h => Or.inr h
  obtain ⟨A, hAe⟩ : ∃ A, va_A (w_Argument_init G qt) s.heap.size = A := ⟨_, rfl⟩
  rw [hAe] at hA hD hAb hQ
  have hS : va_S A s.heap s.heap [] := va_S.rf
  have hl := lv_entry (([.ref qt] : List Value)) (n := 1) (Nat.le_of_ble_eq_true rfl)
  rw [lg_entry_eq]
  generalize (lg_sl (([.ref qt] : List Value)) ++ List.replicate (1 - (lg_sl (([.ref qt] : List Value))).length) Slot.unset).toArray = ls at hl ⊢
  have hl : lv_has ls 1 [(0, .ref qt)] := hl
  unfold f_Argument_init at hf
  refine lv_aload_n hx hb d_Argument_init_0 rfl (lv_at hl 0 rfl) ?_
  refine W.objInit hx hb hown (hg _ m_690) (hg _ m_669) (hg _ m_670) rfl (by rw [hml]; exact hl.1) rfl d_Argument_init_1 (Nat.le_of_ble_eq_true rfl) (Nat.le_of_ble_eq_true rfl) ?_
  refine W.eq (g2 := F0 m 4 ls []) rfl ?_
  refine lv_aload_n hx hb d_Argument_init_4 rfl (lv_at hl 0 rfl) ?_
  refine lv_bipush (v := 8) hx hb d_Argument_init_5 (by decide) ?_
  refine NEWA (atype := .long) hE hx hb (hg _ m_691) (ty := .long) rfl 2 rfl hP hD hS hA (a0 := (8, .inr (.inl (fun _ => (0 : Int64))))) (fun _ => rfl) (by decide) (by decide) (by decide) (Nat.le_of_ble_eq_true rfl) (Nat.le_of_ble_eq_true rfl) d_Argument_init_7 (fun q7 H hP hD hS => ?_)
  have hP : va_P (gD G) vwCl [(qt, .inr (0, [.null, .null, .int (0 : Int32), .long (0 : Int64), .int (0 : Int32), .int (0 : Int32), .null])), (q7, .inl (gC G 2, 8, .inr (.inl (fun _ => (0 : Int64)))))] H := hP
  have hD : va_D A [(qt, .inr (0, [.null, .null, .int (0 : Int32), .long (0 : Int64), .int (0 : Int32), .int (0 : Int32), .null])), (q7, .inl (gC G 2, 8, .inr (.inl (fun _ => (0 : Int64)))))] := hD
  refine va_putF (D := gD G) (ci := 0) (v := .ref q7) (ty := (.array .long)) (C := R_Argument) (T := F_Argument) (N := 7) hx hb hg in_Argument t_Argument to_Argument no_Argument hown hK hP hD hS 0 rfl rfl 0 (by decide) (hg _ m_86) (fun _ h9 => h9) rfl hin rfl (by decide +kernel) rfl rfl (Nat.le_of_ble_eq_true rfl) d_Argument_init_9 (fun H locs hP hD hS => ?_)
  have hP : va_P (gD G) vwCl [(qt, .inr (0, [.ref q7, .null, .int (0 : Int32), .long (0 : Int64), .int (0 : Int32), .int (0 : Int32), .null])), (q7, .inl (gC G 2, 8, .inr (.inl (fun _ => (0 : Int64)))))] H := hP
  have hD : va_D A [(qt, .inr (0, [.ref q7, .null, .int (0 : Int32), .long (0 : Int64), .int (0 : Int32), .int (0 : Int32), .null])), (q7, .inl (gC G 2, 8, .inr (.inl (fun _ => (0 : Int64)))))] := hD
  refine lv_aload_n hx hb d_Argument_init_12 rfl (lv_at hl 0 rfl) ?_
  refine va_gets hx hb (hE.kz hAb 0 (by decide)) hS hown (hg _ m_692) (fun _ h9 => h9) d_Argument_init_13 ?_
  refine va_put (D := gD G) (ci := 0) (v := .ref (gK G 0)) (ty := .object "SpecifierDesk$Kind") (C := R_Argument) (T := F_Argument) (N := 7) hx hb hg in_Argument t_Argument to_Argument no_Argument hown hK hP hD hS 0 rfl rfl 1 (by decide) (hg _ m_91) (fun _ h9 => h9) rfl (by decide +kernel) rfl rfl (Nat.le_of_ble_eq_true rfl) d_Argument_init_16 (fun H locs hP hD hS => ?_)
  have hP : va_P (gD G) vwCl [(qt, .inr (0, [.ref q7, .ref (gK G 0), .int (0 : Int32), .long (0 : Int64), .int (0 : Int32), .int (0 : Int32), .null])), (q7, .inl (gC G 2, 8, .inr (.inl (fun _ => (0 : Int64)))))] H := hP
  have hD : va_D A [(qt, .inr (0, [.ref q7, .ref (gK G 0), .int (0 : Int32), .long (0 : Int64), .int (0 : Int32), .int (0 : Int32), .null])), (q7, .inl (gC G 2, 8, .inr (.inl (fun _ => (0 : Int64)))))] := hD
  obtain rfl := Option.some.inj hf
  rw [← hQ]
  exact W.vret hx hb hr (fun t9 ht hW => ⟨⟨q7, rfl, trivial, ⟨by rw [ht]; exact hP.sub [0, 1] rfl, hD.sub [0, 1] (by decide) rfl⟩⟩, hS.F ht⟩) hS.2.2 d_Argument_init_19
