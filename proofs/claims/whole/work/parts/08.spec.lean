theorem d_Specifier_hasAny_0 : decode cd_Specifier_hasAny 0 = .ok (.aload_n 0, 1) := by decide +kernel
theorem d_Specifier_hasAny_1 : decode cd_Specifier_hasAny 1 = .ok (.getfield 13, 3) := by decide +kernel
theorem d_Specifier_hasAny_4 : decode cd_Specifier_hasAny 4 = .ok (.iload_n 1, 1) := by decide +kernel
theorem d_Specifier_hasAny_5 : decode cd_Specifier_hasAny 5 = .ok (.iand, 1) := by decide +kernel
theorem d_Specifier_hasAny_6 : decode cd_Specifier_hasAny 6 = .ok (.ifCond .eq 7, 3) := by decide +kernel
theorem d_Specifier_hasAny_9 : decode cd_Specifier_hasAny 9 = .ok (.iconst 1, 1) := by decide +kernel
theorem d_Specifier_hasAny_10 : decode cd_Specifier_hasAny 10 = .ok (.goto 4, 3) := by decide +kernel
theorem d_Specifier_hasAny_13 : decode cd_Specifier_hasAny 13 = .ok (.iconst 0, 1) := by decide +kernel
theorem d_Specifier_hasAny_14 : decode cd_Specifier_hasAny 14 = .ok (.ireturn, 1) := by decide +kernel
theorem m_110 : Cond.fieldLink R_Specifier 13 "SpecifierDesk$Specifier" "flags" "I" ∈ gw := gm (i := 140) (by decide +kernel) (by decide +kernel)
def f_Specifier_hasAny (t_flags : Int32) (a1 : Int32) : Option Int32 :=
  (if (t_flags &&& a1) = 0 then some (0 : Int32) else some (1 : Int32))
abbrev w_Specifier_hasAny (G : Gt) (qt : Nat) (t_index : Int32) (t_flags : Int32) (t_width : Int32) (t_precision : Int32) (t_conversion : Int32) (t_great : Int32) (t_known : Int32) (t_cutOff : Int32) (t_flagTwice : Int32) (t_last : Int32) : va_W := [(qt, .inr (5, [.int t_index, .int t_flags, .int t_width, .int t_precision, .int t_conversion, .int t_great, .int t_known, .int t_cutOff, .int t_flagTwice, .int t_last]))]
set_option maxHeartbeats 4000000 in
set_option maxRecDepth 100000 in
theorem c_Specifier_hasAny (l : Launch) (G : Gt) (K : Nat) (qt : Nat) (t_index : Int32) (t_flags : Int32) (t_width : Int32) (t_precision : Int32) (t_conversion : Int32) (t_great : Int32) (t_known : Int32) (t_cutOff : Int32) (t_flagTwice : Int32) (t_last : Int32) (a1 : Int32) (sz : Nat) (res : Int32)   (hf : f_Specifier_hasAny t_flags a1 = some res) : Met l y_Specifier_hasAny (.code y_Specifier_hasAny cd_Specifier_hasAny 2 (some .boolean) :: gw) { frames := 0, cells := 0, slots := 0, locals := 0 } (PC G ([.ref qt, .int a1] : List Value) sz (w_Specifier_hasAny G qt t_index t_flags t_width t_precision t_conversion t_great t_known t_cutOff t_flagTwice t_last)) (QZ G res (va_A (w_Specifier_hasAny G qt t_index t_flags t_width t_precision t_conversion t_great t_known t_cutOff t_flagTwice t_last) sz) (w_Specifier_hasAny G qt t_index t_flags t_width t_precision t_conversion t_great t_known t_cutOff t_flagTwice t_last)) 0 0 (va_A (w_Specifier_hasAny G qt t_index t_flags t_width t_precision t_conversion t_great t_known t_cutOff t_flagTwice t_last) sz) := by
  refine Met.ofW (cc := cd_Specifier_hasAny) (maxL := 2) (ret := (some .boolean)) (by decide) rfl ?_
  intro p e s m args below meth c s₁ B hml hv
  obtain ⟨rfl, hsz, hP, hE, hD0⟩ := hv
  have hx := B.exec
  have hb := B.bytes
  have hr := B.returns
  have hts := atoms_spec (ws := (.code y_Specifier_hasAny cd_Specifier_hasAny 2 (some .boolean) :: gw)) B.pre
  have hg : ∀ w ∈ gw, w.before _ s = true := fun w h => hts w (List.mem_cons_of_mem _ h)
  have hown : s.vm.findClass R_Specifier = some m.cls := findClass_of_methodNamed B.named
  have hlocks := B.notSynchronized
  subst hsz
  have hK := hE.K
  have hD := hD0.self (sz := s.heap.size)
  have hAb := hE.ab hD0
  obtain ⟨Q, hQ⟩ : ∃ Q, MQ below (QZ G res (va_A (w_Specifier_hasAny G qt t_index t_flags t_width t_precision t_conversion t_great t_known t_cutOff t_flagTwice t_last) s.heap.size) (w_Specifier_hasAny G qt t_index t_flags t_width t_precision t_conversion t_great t_known t_cutOff t_flagTwice t_last)) ([.ref qt, .int a1] : List Value).toArray s 0 0 (va_A (w_Specifier_hasAny G qt t_index t_flags t_width t_precision t_conversion t_great t_known t_cutOff t_flagTwice t_last) s.heap.size) = Q := ⟨_, rfl⟩
  show W p l e { frames := 0, cells := 0, slots := 0, locals := 0 } s m ([.ref qt, .int a1] : List Value).toArray below meth c s.heap [] 0 0 (MQ below (QZ G res (va_A (w_Specifier_hasAny G qt t_index t_flags t_width t_precision t_conversion t_great t_known t_cutOff t_flagTwice t_last) s.heap.size) (w_Specifier_hasAny G qt t_index t_flags t_width t_precision t_conversion t_great t_known t_cutOff t_flagTwice t_last)) ([.ref qt, .int a1] : List Value).toArray s 0 0 (va_A (w_Specifier_hasAny G qt t_index t_flags t_width t_precision t_conversion t_great t_known t_cutOff t_flagTwice t_last) s.heap.size)) _
  rw [hQ]
  have hA : ∀ q : Nat, s.heap.size ≤ q → va_A (w_Specifier_hasAny G qt t_index t_flags t_width t_precision t_conversion t_great t_known t_cutOff t_flagTwice t_last) s.heap.size q := fun q h => Or.inr h
  obtain ⟨A, hAe⟩ : ∃ A, va_A (w_Specifier_hasAny G qt t_index t_flags t_width t_precision t_conversion t_great t_known t_cutOff t_flagTwice t_last) s.heap.size = A := ⟨_, rfl⟩
  rw [hAe] at hA hD hAb hQ
  have hS : va_S A s.heap s.heap [] := va_S.rf
  have hl := lv_entry (([.ref qt, .int a1] : List Value)) (n := 2) (Nat.le_of_ble_eq_true rfl)
  rw [lg_entry_eq]
  generalize (lg_sl (([.ref qt, .int a1] : List Value)) ++ List.replicate (2 - (lg_sl (([.ref qt, .int a1] : List Value))).length) Slot.unset).toArray = ls at hl ⊢
  have hl : lv_has ls 2 [(0, .ref qt), (1, .int a1)] := hl
  unfold f_Specifier_hasAny at hf
  refine lv_aload_n hx hb d_Specifier_hasAny_0 rfl (lv_at hl 0 rfl) ?_
  refine va_get (D := gD G) (ci := 5) (v := .int t_flags) (C := R_Specifier) (T := F_Specifier) (N := 10) hx hb hg in_Specifier hown hK hP 0 rfl rfl 1 (by decide) (hg _ m_110) (fun _ h9 => h9) rfl d_Specifier_hasAny_1 ?_
  refine lv_iload_n hx hb d_Specifier_hasAny_4 rfl (lv_at hl 1 rfl) ?_
  refine lv_iand hx hb d_Specifier_hasAny_5 ?_
  refine lv_if_eq (tgt := 13) hx hb d_Specifier_hasAny_6 (by decide) (fun c_6 => ?_) (fun c_6 => ?_)
  · have hf := ip_ c_6 hf
    refine lv_iconst (v := 0) hx hb d_Specifier_hasAny_13 (by decide) ?_
    obtain rfl := Option.some.inj hf
    rw [← hQ]
    exact W.zret (v := (0 : Int32)) hx hb hr (bl_n bl_0) (fun t9 ht hW => ⟨⟨(0 : Int32), (), rfl, ⟨rfl, bl_0⟩, ⟨by rw [ht]; exact hP, hD⟩⟩, hS.F ht⟩) hS.2.2 d_Specifier_hasAny_14
  · have hf := in_ c_6 hf
    refine lv_iconst (v := 1) hx hb d_Specifier_hasAny_9 (by decide) ?_
    refine lv_goto (tgt := 14) hx hb d_Specifier_hasAny_10 (by decide) ?_
    obtain rfl := Option.some.inj hf
    rw [← hQ]
    exact W.zret (v := (1 : Int32)) hx hb hr (bl_n bl_1) (fun t9 ht hW => ⟨⟨(1 : Int32), (), rfl, ⟨rfl, bl_1⟩, ⟨by rw [ht]; exact hP, hD⟩⟩, hS.F ht⟩) hS.2.2 d_Specifier_hasAny_14
theorem d_Specifier_hasBoth_0 : decode cd_Specifier_hasBoth 0 = .ok (.aload_n 0, 1) := by decide +kernel
theorem d_Specifier_hasBoth_1 : decode cd_Specifier_hasBoth 1 = .ok (.iload_n 1, 1) := by decide +kernel
theorem d_Specifier_hasBoth_2 : decode cd_Specifier_hasBoth 2 = .ok (.invokevirtual 56, 3) := by decide +kernel
theorem d_Specifier_hasBoth_5 : decode cd_Specifier_hasBoth 5 = .ok (.ifCond .eq 15, 3) := by decide +kernel
theorem d_Specifier_hasBoth_8 : decode cd_Specifier_hasBoth 8 = .ok (.aload_n 0, 1) := by decide +kernel
theorem d_Specifier_hasBoth_9 : decode cd_Specifier_hasBoth 9 = .ok (.iload_n 2, 1) := by decide +kernel
theorem d_Specifier_hasBoth_10 : decode cd_Specifier_hasBoth 10 = .ok (.invokevirtual 56, 3) := by decide +kernel
theorem d_Specifier_hasBoth_13 : decode cd_Specifier_hasBoth 13 = .ok (.ifCond .eq 7, 3) := by decide +kernel
theorem d_Specifier_hasBoth_16 : decode cd_Specifier_hasBoth 16 = .ok (.iconst 1, 1) := by decide +kernel
theorem d_Specifier_hasBoth_17 : decode cd_Specifier_hasBoth 17 = .ok (.goto 4, 3) := by decide +kernel
theorem d_Specifier_hasBoth_20 : decode cd_Specifier_hasBoth 20 = .ok (.iconst 0, 1) := by decide +kernel
theorem d_Specifier_hasBoth_21 : decode cd_Specifier_hasBoth 21 = .ok (.ireturn, 1) := by decide +kernel
theorem m_111 : Cond.methodLink R_Specifier 56 y_Specifier_hasAny ∈ gw := gm (i := 451) (by decide +kernel) (by decide +kernel)
theorem m_112 : Cond.instanceMethod y_Specifier_hasAny ∈ gw := gm (i := 452) (by decide +kernel) (by decide +kernel)
theorem m_113 : Cond.selects R_Specifier y_Specifier_hasAny y_Specifier_hasAny ∈ gw := gm (i := 453) (by decide +kernel) (by decide +kernel)
theorem m_114 : Cond.initialized R_Specifier ∈ gw := gm (i := 85) (by decide +kernel) (by decide +kernel)
set_option maxRecDepth 100000 in
theorem m_115 : Cond.code y_Specifier_hasAny cd_Specifier_hasAny 2 (some .boolean) ∈ gw := gm (i := 454) rfl rfl
def f_Specifier_hasBoth (t_flags : Int32) (a1 : Int32) (a2 : Int32) : Option Int32 :=
  ((f_Specifier_hasAny t_flags a1).bind fun u_2 => (if u_2 = 0 then some (0 : Int32) else ((f_Specifier_hasAny t_flags a2).bind fun u_10 => (if u_10 = 0 then some (0 : Int32) else some (1 : Int32)))))
set_option maxHeartbeats 4000000 in
set_option maxRecDepth 100000 in
theorem c_Specifier_hasBoth (l : Launch) (G : Gt) (K : Nat) (qt : Nat) (t_index : Int32) (t_flags : Int32) (t_width : Int32) (t_precision : Int32) (t_conversion : Int32) (t_great : Int32) (t_known : Int32) (t_cutOff : Int32) (t_flagTwice : Int32) (t_last : Int32) (a1 : Int32) (a2 : Int32) (sz : Nat) (res : Int32)   (hf : f_Specifier_hasBoth t_flags a1 a2 = some res) : Met l y_Specifier_hasBoth (.code y_Specifier_hasBoth cd_Specifier_hasBoth 3 (some .boolean) :: gw) { frames := 1, cells := 0, slots := 0, locals := 40 } (PC G ([.ref qt, .int a1, .int a2] : List Value) sz (w_Specifier_hasAny G qt t_index t_flags t_width t_precision t_conversion t_great t_known t_cutOff t_flagTwice t_last)) (QZ G res (va_A (w_Specifier_hasAny G qt t_index t_flags t_width t_precision t_conversion t_great t_known t_cutOff t_flagTwice t_last) sz) (w_Specifier_hasAny G qt t_index t_flags t_width t_precision t_conversion t_great t_known t_cutOff t_flagTwice t_last)) 0 0 (va_A (w_Specifier_hasAny G qt t_index t_flags t_width t_precision t_conversion t_great t_known t_cutOff t_flagTwice t_last) sz) := by
  refine Met.ofW (cc := cd_Specifier_hasBoth) (maxL := 3) (ret := (some .boolean)) (by decide) rfl ?_
  intro p e s m args below meth c s₁ B hml hv
  obtain ⟨rfl, hsz, hP, hE, hD0⟩ := hv
  have hx := B.exec
  have hb := B.bytes
  have hr := B.returns
  have hts := atoms_spec (ws := (.code y_Specifier_hasBoth cd_Specifier_hasBoth 3 (some .boolean) :: gw)) B.pre
  have hg : ∀ w ∈ gw, w.before _ s = true := fun w h => hts w (List.mem_cons_of_mem _ h)
  have hown : s.vm.findClass R_Specifier = some m.cls := findClass_of_methodNamed B.named
  have hlocks := B.notSynchronized
  subst hsz
  have hK := hE.K
  have hD := hD0.self (sz := s.heap.size)
  have hAb := hE.ab hD0
  obtain ⟨Q, hQ⟩ : ∃ Q, MQ below (QZ G res (va_A (w_Specifier_hasAny G qt t_index t_flags t_width t_precision t_conversion t_great t_known t_cutOff t_flagTwice t_last) s.heap.size) (w_Specifier_hasAny G qt t_index t_flags t_width t_precision t_conversion t_great t_known t_cutOff t_flagTwice t_last)) ([.ref qt, .int a1, .int a2] : List Value).toArray s 0 0 (va_A (w_Specifier_hasAny G qt t_index t_flags t_width t_precision t_conversion t_great t_known t_cutOff t_flagTwice t_last) s.heap.size) = Q := ⟨_, rfl⟩
  show W p l e { frames := 1, cells := 0, slots := 0, locals := 40 } s m ([.ref qt, .int a1, .int a2] : List Value).toArray below meth c s.heap [] 0 0 (MQ below (QZ G res (va_A (w_Specifier_hasAny G qt t_index t_flags t_width t_precision t_conversion t_great t_known t_cutOff t_flagTwice t_last) s.heap.size) (w_Specifier_hasAny G qt t_index t_flags t_width t_precision t_conversion t_great t_known t_cutOff t_flagTwice t_last)) ([.ref qt, .int a1, .int a2] : List Value).toArray s 0 0 (va_A (w_Specifier_hasAny G qt t_index t_flags t_width t_precision t_conversion t_great t_known t_cutOff t_flagTwice t_last) s.heap.size)) _
  rw [hQ]
  have hA : ∀ q : Nat, s.heap.size ≤ q → va_A (w_Specifier_hasAny G qt t_index t_flags t_width t_precision t_conversion t_great t_known t_cutOff t_flagTwice t_last) s.heap.size q := fun q h => Or.inr h
  obtain ⟨A, hAe⟩ : ∃ A, va_A (w_Specifier_hasAny G qt t_index t_flags t_width t_precision t_conversion t_great t_known t_cutOff t_flagTwice t_last) s.heap.size = A := ⟨_, rfl⟩
  rw [hAe] at hA hD hAb hQ
  have hS : va_S A s.heap s.heap [] := va_S.rf
  have hl := lv_entry (([.ref qt, .int a1, .int a2] : List Value)) (n := 3) (Nat.le_of_ble_eq_true rfl)
  rw [lg_entry_eq]
  generalize (lg_sl (([.ref qt, .int a1, .int a2] : List Value)) ++ List.replicate (3 - (lg_sl (([.ref qt, .int a1, .int a2] : List Value))).length) Slot.unset).toArray = ls at hl ⊢
  have hl : lv_has ls 3 [(0, .ref qt), (1, .int a1), (2, .int a2)] := hl
  unfold f_Specifier_hasBoth at hf
  refine lv_aload_n hx hb d_Specifier_hasBoth_0 rfl (lv_at hl 0 rfl) ?_
  refine lv_iload_n hx hb d_Specifier_hasBoth_1 rfl (lv_at hl 1 rfl) ?_
  obtain ⟨u_2, hu_2, hf⟩ := bd_ hf
  refine CALLWz (va_runV (As := [.int a1]) (rest := []) ⟨hx, hb, hml, hown, hg⟩ (c_Specifier_hasAny l G K qt t_index t_flags t_width t_precision t_conversion t_great t_known t_cutOff t_flagTwice t_last a1 _ u_2  hu_2) (cwV 1 hg (gV m_111 m_112 m_113 m_114 m_115) rfl rfl rfl (by decide +kernel) ⟨Nat.le_of_ble_eq_true rfl, Nat.le_of_ble_eq_true rfl⟩) ⟨PC_b, va_recv hK hP (ci := 5) (q0 := 0) rfl rfl, PC_p hE hS hAb hP hD⟩ rfl rfl hl.1 rfl (lv_room (Nat.le_of_ble_eq_true rfl)) d_Specifier_hasBoth_2 ⟨Nat.zero_le _, Nat.zero_le _⟩) hP hD hS hA (fun bu_2 H locs hP hD hS => ?_)
  have hP : va_P (gD G) vwCl (w_Specifier_hasAny G qt t_index t_flags t_width t_precision t_conversion t_great t_known t_cutOff t_flagTwice t_last) H := hP
  have hD : va_D A (w_Specifier_hasAny G qt t_index t_flags t_width t_precision t_conversion t_great t_known t_cutOff t_flagTwice t_last) := hD
  refine lv_if_eq (tgt := 20) hx hb d_Specifier_hasBoth_5 (by decide) (fun c_5 => ?_) (fun c_5 => ?_)
  · have hf := ip_ c_5 hf
    refine lv_iconst (v := 0) hx hb d_Specifier_hasBoth_20 (by decide) ?_
    obtain rfl := Option.some.inj hf
    rw [← hQ]
    exact W.zret (v := (0 : Int32)) hx hb hr (bl_n bl_0) (fun t9 ht hW => ⟨⟨(0 : Int32), (), rfl, ⟨rfl, bl_0⟩, ⟨by rw [ht]; exact hP, hD⟩⟩, hS.F ht⟩) hS.2.2 d_Specifier_hasBoth_21
  · have hf := in_ c_5 hf
    refine lv_aload_n hx hb d_Specifier_hasBoth_8 rfl (lv_at hl 0 rfl) ?_
    refine lv_iload_n hx hb d_Specifier_hasBoth_9 rfl (lv_at hl 2 rfl) ?_
    obtain ⟨u_10, hu_10, hf⟩ := bd_ hf
    refine CALLWz (va_runV (As := [.int a2]) (rest := []) ⟨hx, hb, hml, hown, hg⟩ (c_Specifier_hasAny l G K qt t_index t_flags t_width t_precision t_conversion t_great t_known t_cutOff t_flagTwice t_last a2 _ u_10  hu_10) (cwV 1 hg (gV m_111 m_112 m_113 m_114 m_115) rfl rfl rfl (by decide +kernel) ⟨Nat.le_of_ble_eq_true rfl, Nat.le_of_ble_eq_true rfl⟩) ⟨PC_b, va_recv hK hP (ci := 5) (q0 := 0) rfl rfl, PC_p hE hS hAb hP hD⟩ rfl rfl hl.1 rfl (lv_room (Nat.le_of_ble_eq_true rfl)) d_Specifier_hasBoth_10 ⟨Nat.zero_le _, Nat.zero_le _⟩) hP hD hS hA (fun bu_10 H locs hP hD hS => ?_)
    have hP : va_P (gD G) vwCl (w_Specifier_hasAny G qt t_index t_flags t_width t_precision t_conversion t_great t_known t_cutOff t_flagTwice t_last) H := hP
    have hD : va_D A (w_Specifier_hasAny G qt t_index t_flags t_width t_precision t_conversion t_great t_known t_cutOff t_flagTwice t_last) := hD
    refine lv_if_eq (tgt := 20) hx hb d_Specifier_hasBoth_13 (by decide) (fun c_13 => ?_) (fun c_13 => ?_)
    · have hf := ip_ c_13 hf
      refine lv_iconst (v := 0) hx hb d_Specifier_hasBoth_20 (by decide) ?_
      obtain rfl := Option.some.inj hf
      rw [← hQ]
      exact W.zret (v := (0 : Int32)) hx hb hr (bl_n bl_0) (fun t9 ht hW => ⟨⟨(0 : Int32), (), rfl, ⟨rfl, bl_0⟩, ⟨by rw [ht]; exact hP, hD⟩⟩, hS.F ht⟩) hS.2.2 d_Specifier_hasBoth_21
    · have hf := in_ c_13 hf
      refine lv_iconst (v := 1) hx hb d_Specifier_hasBoth_16 (by decide) ?_
      refine lv_goto (tgt := 21) hx hb d_Specifier_hasBoth_17 (by decide) ?_
      obtain rfl := Option.some.inj hf
      rw [← hQ]
      exact W.zret (v := (1 : Int32)) hx hb hr (bl_n bl_1) (fun t9 ht hW => ⟨⟨(1 : Int32), (), rfl, ⟨rfl, bl_1⟩, ⟨by rw [ht]; exact hP, hD⟩⟩, hS.F ht⟩) hS.2.2 d_Specifier_hasBoth_21
theorem d_Specifier_faultOfLineEnd_0 : decode cd_Specifier_faultOfLineEnd 0 = .ok (.aload_n 0, 1) := by decide +kernel
theorem d_Specifier_faultOfLineEnd_1 : decode cd_Specifier_faultOfLineEnd 1 = .ok (.getfield 16, 3) := by decide +kernel
theorem d_Specifier_faultOfLineEnd_4 : decode cd_Specifier_faultOfLineEnd 4 = .ok (.iconst (-1), 1) := by decide +kernel
theorem d_Specifier_faultOfLineEnd_5 : decode cd_Specifier_faultOfLineEnd 5 = .ok (.if_icmp .eq 5, 3) := by decide +kernel
theorem d_Specifier_faultOfLineEnd_8 : decode cd_Specifier_faultOfLineEnd 8 = .ok (.iconst 5, 1) := by decide +kernel
theorem d_Specifier_faultOfLineEnd_9 : decode cd_Specifier_faultOfLineEnd 9 = .ok (.ireturn, 1) := by decide +kernel
theorem d_Specifier_faultOfLineEnd_10 : decode cd_Specifier_faultOfLineEnd 10 = .ok (.aload_n 0, 1) := by decide +kernel
theorem d_Specifier_faultOfLineEnd_11 : decode cd_Specifier_faultOfLineEnd 11 = .ok (.getfield 19, 3) := by decide +kernel
theorem d_Specifier_faultOfLineEnd_14 : decode cd_Specifier_faultOfLineEnd 14 = .ok (.iconst (-1), 1) := by decide +kernel
theorem d_Specifier_faultOfLineEnd_15 : decode cd_Specifier_faultOfLineEnd 15 = .ok (.if_icmp .eq 6, 3) := by decide +kernel
theorem d_Specifier_faultOfLineEnd_18 : decode cd_Specifier_faultOfLineEnd 18 = .ok (.bipush 6, 2) := by decide +kernel
theorem d_Specifier_faultOfLineEnd_20 : decode cd_Specifier_faultOfLineEnd 20 = .ok (.ireturn, 1) := by decide +kernel
theorem d_Specifier_faultOfLineEnd_21 : decode cd_Specifier_faultOfLineEnd 21 = .ok (.aload_n 0, 1) := by decide +kernel
theorem d_Specifier_faultOfLineEnd_22 : decode cd_Specifier_faultOfLineEnd 22 = .ok (.getfield 13, 3) := by decide +kernel
theorem d_Specifier_faultOfLineEnd_25 : decode cd_Specifier_faultOfLineEnd 25 = .ok (.ifCond .eq 8, 3) := by decide +kernel
theorem d_Specifier_faultOfLineEnd_28 : decode cd_Specifier_faultOfLineEnd 28 = .ok (.bipush 7, 2) := by decide +kernel
theorem d_Specifier_faultOfLineEnd_30 : decode cd_Specifier_faultOfLineEnd 30 = .ok (.goto 4, 3) := by decide +kernel
theorem d_Specifier_faultOfLineEnd_33 : decode cd_Specifier_faultOfLineEnd 33 = .ok (.iconst 0, 1) := by decide +kernel
theorem d_Specifier_faultOfLineEnd_34 : decode cd_Specifier_faultOfLineEnd 34 = .ok (.ireturn, 1) := by decide +kernel
theorem m_116 : Cond.fieldLink R_Specifier 16 "SpecifierDesk$Specifier" "width" "I" ∈ gw := gm (i := 141) (by decide +kernel) (by decide +kernel)
theorem m_117 : Cond.fieldLink R_Specifier 19 "SpecifierDesk$Specifier" "precision" "I" ∈ gw := gm (i := 143) (by decide +kernel) (by decide +kernel)
def f_Specifier_faultOfLineEnd (t_flags : Int32) (t_width : Int32) (t_precision : Int32) : Option Int32 :=
  (if t_width = (-1 : Int32) then (if t_precision = (-1 : Int32) then (if t_flags = 0 then some (0 : Int32) else some (7 : Int32)) else some (6 : Int32)) else some (5 : Int32))
set_option maxHeartbeats 4000000 in
set_option maxRecDepth 100000 in
theorem c_Specifier_faultOfLineEnd (l : Launch) (G : Gt) (K : Nat) (qt : Nat) (t_index : Int32) (t_flags : Int32) (t_width : Int32) (t_precision : Int32) (t_conversion : Int32) (t_great : Int32) (t_known : Int32) (t_cutOff : Int32) (t_flagTwice : Int32) (t_last : Int32) (sz : Nat) (res : Int32)   (hf : f_Specifier_faultOfLineEnd t_flags t_width t_precision = some res) : Met l y_Specifier_faultOfLineEnd (.code y_Specifier_faultOfLineEnd cd_Specifier_faultOfLineEnd 1 (some .int) :: gw) { frames := 0, cells := 0, slots := 0, locals := 0 } (PC G ([.ref qt] : List Value) sz (w_Specifier_hasAny G qt t_index t_flags t_width t_precision t_conversion t_great t_known t_cutOff t_flagTwice t_last)) (QI G res (va_A (w_Specifier_hasAny G qt t_index t_flags t_width t_precision t_conversion t_great t_known t_cutOff t_flagTwice t_last) sz) (w_Specifier_hasAny G qt t_index t_flags t_width t_precision t_conversion t_great t_known t_cutOff t_flagTwice t_last)) 0 0 (va_A (w_Specifier_hasAny G qt t_index t_flags t_width t_precision t_conversion t_great t_known t_cutOff t_flagTwice t_last) sz) := by
  refine Met.ofW (cc := cd_Specifier_faultOfLineEnd) (maxL := 1) (ret := (some .int)) (by decide) rfl ?_
  intro p e s m args below meth c s₁ B hml hv
  obtain ⟨rfl, hsz, hP, hE, hD0⟩ := hv
  have hx := B.exec
  have hb := B.bytes
  have hr := B.returns
  have hts := atoms_spec (ws := (.code y_Specifier_faultOfLineEnd cd_Specifier_faultOfLineEnd 1 (some .int) :: gw)) B.pre
  have hg : ∀ w ∈ gw, w.before _ s = true := fun w h => hts w (List.mem_cons_of_mem _ h)
  have hown : s.vm.findClass R_Specifier = some m.cls := findClass_of_methodNamed B.named
  have hlocks := B.notSynchronized
  subst hsz
  have hK := hE.K
  have hD := hD0.self (sz := s.heap.size)
  have hAb := hE.ab hD0
  obtain ⟨Q, hQ⟩ : ∃ Q, MQ below (QI G res (va_A (w_Specifier_hasAny G qt t_index t_flags t_width t_precision t_conversion t_great t_known t_cutOff t_flagTwice t_last) s.heap.size) (w_Specifier_hasAny G qt t_index t_flags t_width t_precision t_conversion t_great t_known t_cutOff t_flagTwice t_last)) ([.ref qt] : List Value).toArray s 0 0 (va_A (w_Specifier_hasAny G qt t_index t_flags t_width t_precision t_conversion t_great t_known t_cutOff t_flagTwice t_last) s.heap.size) = Q := ⟨_, rfl⟩
  show W p l e { frames := 0, cells := 0, slots := 0, locals := 0 } s m ([.ref qt] : List Value).toArray below meth c s.heap [] 0 0 (MQ below (QI G res (va_A (w_Specifier_hasAny G qt t_index t_flags t_width t_precision t_conversion t_great t_known t_cutOff t_flagTwice t_last) s.heap.size) (w_Specifier_hasAny G qt t_index t_flags t_width t_precision t_conversion t_great t_known t_cutOff t_flagTwice t_last)) ([.ref qt] : List Value).toArray s 0 0 (va_A (w_Specifier_hasAny G qt t_index t_flags t_width t_precision t_conversion t_great t_known t_cutOff t_flagTwice t_last) s.heap.size)) _
  rw [hQ]
  have hA : ∀ q : Nat, s.heap.size ≤ q → va_A (w_Specifier_hasAny G qt t_index t_flags t_width t_precision t_conversion t_great t_known t_cutOff t_flagTwice t_last) s.heap.size q := fun q h => Or.inr h
  obtain ⟨A, hAe⟩ : ∃ A, va_A (w_Specifier_hasAny G qt t_index t_flags t_width t_precision t_conversion t_great t_known t_cutOff t_flagTwice t_last) s.heap.size = A := ⟨_, rfl⟩
  rw [hAe] at hA hD hAb hQ
  have hS : va_S A s.heap s.heap [] := va_S.rf
  have hl := lv_entry (([.ref qt] : List Value)) (n := 1) (Nat.le_of_ble_eq_true rfl)
  rw [lg_entry_eq]
  generalize (lg_sl (([.ref qt] : List Value)) ++ List.replicate (1 - (lg_sl (([.ref qt] : List Value))).length) Slot.unset).toArray = ls at hl ⊢
  have hl : lv_has ls 1 [(0, .ref qt)] := hl
  unfold f_Specifier_faultOfLineEnd at hf
  refine lv_aload_n hx hb d_Specifier_faultOfLineEnd_0 rfl (lv_at hl 0 rfl) ?_
  refine va_get (D := gD G) (ci := 5) (v := .int t_width) (C := R_Specifier) (T := F_Specifier) (N := 10) hx hb hg in_Specifier hown hK hP 0 rfl rfl 2 (by decide) (hg _ m_116) (fun _ h9 => h9) rfl d_Specifier_faultOfLineEnd_1 ?_
  refine lv_iconst (v := -1) hx hb d_Specifier_faultOfLineEnd_4 (by decide) ?_
  refine lv_icmp_eq (tgt := 10) hx hb d_Specifier_faultOfLineEnd_5 (by decide) (fun c_5 => ?_) (fun c_5 => ?_)
  · have hf := ip_ c_5 hf
    refine lv_aload_n hx hb d_Specifier_faultOfLineEnd_10 rfl (lv_at hl 0 rfl) ?_
    refine va_get (D := gD G) (ci := 5) (v := .int t_precision) (C := R_Specifier) (T := F_Specifier) (N := 10) hx hb hg in_Specifier hown hK hP 0 rfl rfl 3 (by decide) (hg _ m_117) (fun _ h9 => h9) rfl d_Specifier_faultOfLineEnd_11 ?_
    refine lv_iconst (v := -1) hx hb d_Specifier_faultOfLineEnd_14 (by decide) ?_
    refine lv_icmp_eq (tgt := 21) hx hb d_Specifier_faultOfLineEnd_15 (by decide) (fun c_15 => ?_) (fun c_15 => ?_)
    · have hf := ip_ c_15 hf
      refine lv_aload_n hx hb d_Specifier_faultOfLineEnd_21 rfl (lv_at hl 0 rfl) ?_
      refine va_get (D := gD G) (ci := 5) (v := .int t_flags) (C := R_Specifier) (T := F_Specifier) (N := 10) hx hb hg in_Specifier hown hK hP 0 rfl rfl 1 (by decide) (hg _ m_110) (fun _ h9 => h9) rfl d_Specifier_faultOfLineEnd_22 ?_
      refine lv_if_eq (tgt := 33) hx hb d_Specifier_faultOfLineEnd_25 (by decide) (fun c_25 => ?_) (fun c_25 => ?_)
      · have hf := ip_ c_25 hf
        refine lv_iconst (v := 0) hx hb d_Specifier_faultOfLineEnd_33 (by decide) ?_
        obtain rfl := Option.some.inj hf
        rw [← hQ]
        exact W.iret (v := (0 : Int32)) hx hb hr (fun t9 ht hW => ⟨⟨(0 : Int32), (), rfl, rfl, ⟨by rw [ht]; exact hP, hD⟩⟩, hS.F ht⟩) hS.2.2 d_Specifier_faultOfLineEnd_34
      · have hf := in_ c_25 hf
        refine lv_bipush (v := 7) hx hb d_Specifier_faultOfLineEnd_28 (by decide) ?_
        refine lv_goto (tgt := 34) hx hb d_Specifier_faultOfLineEnd_30 (by decide) ?_
        obtain rfl := Option.some.inj hf
        rw [← hQ]
        exact W.iret (v := (7 : Int32)) hx hb hr (fun t9 ht hW => ⟨⟨(7 : Int32), (), rfl, rfl, ⟨by rw [ht]; exact hP, hD⟩⟩, hS.F ht⟩) hS.2.2 d_Specifier_faultOfLineEnd_34
    · have hf := in_ c_15 hf
      refine lv_bipush (v := 6) hx hb d_Specifier_faultOfLineEnd_18 (by decide) ?_
      obtain rfl := Option.some.inj hf
      rw [← hQ]
      exact W.iret (v := (6 : Int32)) hx hb hr (fun t9 ht hW => ⟨⟨(6 : Int32), (), rfl, rfl, ⟨by rw [ht]; exact hP, hD⟩⟩, hS.F ht⟩) hS.2.2 d_Specifier_faultOfLineEnd_20
  · have hf := in_ c_5 hf
    refine lv_iconst (v := 5) hx hb d_Specifier_faultOfLineEnd_8 (by decide) ?_
    obtain rfl := Option.some.inj hf
    rw [← hQ]
    exact W.iret (v := (5 : Int32)) hx hb hr (fun t9 ht hW => ⟨⟨(5 : Int32), (), rfl, rfl, ⟨by rw [ht]; exact hP, hD⟩⟩, hS.F ht⟩) hS.2.2 d_Specifier_faultOfLineEnd_9
theorem d_Specifier_ownFlags_0 : decode cd_Specifier_ownFlags 0 = .ok (.bipush 29, 2) := by decide +kernel
theorem d_Specifier_ownFlags_2 : decode cd_Specifier_ownFlags 2 = .ok (.istore_n 1, 1) := by decide +kernel
theorem d_Specifier_ownFlags_3 : decode cd_Specifier_ownFlags 3 = .ok (.aload_n 0, 1) := by decide +kernel
theorem d_Specifier_ownFlags_4 : decode cd_Specifier_ownFlags 4 = .ok (.getfield 22, 3) := by decide +kernel
theorem d_Specifier_ownFlags_7 : decode cd_Specifier_ownFlags 7 = .ok (.tableswitch 138 97 120 #[134, 138, 138, 109, 117, 124, 109, 138, 138, 138, 138, 138, 138, 138, 117, 138, 138, 138, 138, 138, 138, 138, 138, 117], 109) := by decide +kernel
theorem d_Specifier_ownFlags_116 : decode cd_Specifier_ownFlags 116 = .ok (.iload_n 1, 1) := by decide +kernel
theorem d_Specifier_ownFlags_117 : decode cd_Specifier_ownFlags 117 = .ok (.bipush 32, 2) := by decide +kernel
theorem d_Specifier_ownFlags_119 : decode cd_Specifier_ownFlags 119 = .ok (.ior, 1) := by decide +kernel
theorem d_Specifier_ownFlags_120 : decode cd_Specifier_ownFlags 120 = .ok (.bipush 64, 2) := by decide +kernel
theorem d_Specifier_ownFlags_122 : decode cd_Specifier_ownFlags 122 = .ok (.ior, 1) := by decide +kernel
theorem d_Specifier_ownFlags_123 : decode cd_Specifier_ownFlags 123 = .ok (.ireturn, 1) := by decide +kernel
theorem d_Specifier_ownFlags_124 : decode cd_Specifier_ownFlags 124 = .ok (.iload_n 1, 1) := by decide +kernel
theorem d_Specifier_ownFlags_125 : decode cd_Specifier_ownFlags 125 = .ok (.iconst 2, 1) := by decide +kernel
theorem d_Specifier_ownFlags_126 : decode cd_Specifier_ownFlags 126 = .ok (.ior, 1) := by decide +kernel
theorem d_Specifier_ownFlags_127 : decode cd_Specifier_ownFlags 127 = .ok (.bipush 64, 2) := by decide +kernel
theorem d_Specifier_ownFlags_129 : decode cd_Specifier_ownFlags 129 = .ok (.ior, 1) := by decide +kernel
theorem d_Specifier_ownFlags_130 : decode cd_Specifier_ownFlags 130 = .ok (.ireturn, 1) := by decide +kernel
theorem d_Specifier_ownFlags_131 : decode cd_Specifier_ownFlags 131 = .ok (.iload_n 1, 1) := by decide +kernel
theorem d_Specifier_ownFlags_132 : decode cd_Specifier_ownFlags 132 = .ok (.iconst 2, 1) := by decide +kernel
theorem d_Specifier_ownFlags_133 : decode cd_Specifier_ownFlags 133 = .ok (.ior, 1) := by decide +kernel
theorem d_Specifier_ownFlags_134 : decode cd_Specifier_ownFlags 134 = .ok (.bipush 32, 2) := by decide +kernel
theorem d_Specifier_ownFlags_136 : decode cd_Specifier_ownFlags 136 = .ok (.ior, 1) := by decide +kernel
theorem d_Specifier_ownFlags_137 : decode cd_Specifier_ownFlags 137 = .ok (.bipush 64, 2) := by decide +kernel
theorem d_Specifier_ownFlags_139 : decode cd_Specifier_ownFlags 139 = .ok (.ior, 1) := by decide +kernel
theorem d_Specifier_ownFlags_140 : decode cd_Specifier_ownFlags 140 = .ok (.ireturn, 1) := by decide +kernel
theorem d_Specifier_ownFlags_141 : decode cd_Specifier_ownFlags 141 = .ok (.iload_n 1, 1) := by decide +kernel
theorem d_Specifier_ownFlags_142 : decode cd_Specifier_ownFlags 142 = .ok (.iconst 2, 1) := by decide +kernel
theorem d_Specifier_ownFlags_143 : decode cd_Specifier_ownFlags 143 = .ok (.ior, 1) := by decide +kernel
theorem d_Specifier_ownFlags_144 : decode cd_Specifier_ownFlags 144 = .ok (.ireturn, 1) := by decide +kernel
theorem d_Specifier_ownFlags_145 : decode cd_Specifier_ownFlags 145 = .ok (.iconst 1, 1) := by decide +kernel
theorem d_Specifier_ownFlags_146 : decode cd_Specifier_ownFlags 146 = .ok (.ireturn, 1) := by decide +kernel
theorem m_118 : Cond.fieldLink R_Specifier 22 "SpecifierDesk$Specifier" "conversion" "C" ∈ gw := gm (i := 145) (by decide +kernel) (by decide +kernel)
def k_Specifier_ownFlags_124  (x1 : Int32) : Option Int32 :=
  some ((x1 ||| (2 : Int32)) ||| (64 : Int32))
def k_Specifier_ownFlags_116  (x1 : Int32) : Option Int32 :=
  some ((x1 ||| (32 : Int32)) ||| (64 : Int32))
def f_Specifier_ownFlags (t_conversion : Int32) : Option Int32 :=
  (if t_conversion = 97 then some ((29 : Int32) ||| (2 : Int32)) else (if t_conversion = 100 then k_Specifier_ownFlags_116  (29 : Int32) else (if t_conversion = 101 then k_Specifier_ownFlags_124  (29 : Int32) else (if t_conversion = 102 then some ((((29 : Int32) ||| (2 : Int32)) ||| (32 : Int32)) ||| (64 : Int32)) else (if t_conversion = 103 then k_Specifier_ownFlags_116  (29 : Int32) else (if t_conversion = 111 then k_Specifier_ownFlags_124  (29 : Int32) else (if t_conversion = 120 then k_Specifier_ownFlags_124  (29 : Int32) else some (1 : Int32))))))))
set_option maxHeartbeats 4000000 in
set_option maxRecDepth 100000 in
theorem c_Specifier_ownFlags (l : Launch) (G : Gt) (K : Nat) (qt : Nat) (t_index : Int32) (t_flags : Int32) (t_width : Int32) (t_precision : Int32) (t_conversion : Int32) (t_great : Int32) (t_known : Int32) (t_cutOff : Int32) (t_flagTwice : Int32) (t_last : Int32) (sz : Nat) (res : Int32)   (hf : f_Specifier_ownFlags t_conversion = some res) : Met l y_Specifier_ownFlags (.code y_Specifier_ownFlags cd_Specifier_ownFlags 2 (some .int) :: gw) { frames := 0, cells := 0, slots := 0, locals := 0 } (PC G ([.ref qt] : List Value) sz (w_Specifier_hasAny G qt t_index t_flags t_width t_precision t_conversion t_great t_known t_cutOff t_flagTwice t_last)) (QI G res (va_A (w_Specifier_hasAny G qt t_index t_flags t_width t_precision t_conversion t_great t_known t_cutOff t_flagTwice t_last) sz) (w_Specifier_hasAny G qt t_index t_flags t_width t_precision t_conversion t_great t_known t_cutOff t_flagTwice t_last)) 0 0 (va_A (w_Specifier_hasAny G qt t_index t_flags t_width t_precision t_conversion t_great t_known t_cutOff t_flagTwice t_last) sz) := by
  refine Met.ofW (cc := cd_Specifier_ownFlags) (maxL := 2) (ret := (some .int)) (by decide) rfl ?_
  intro p e s m args below meth c s₁ B hml hv
  obtain ⟨rfl, hsz, hP, hE, hD0⟩ := hv
  have hx := B.exec
  have hb := B.bytes
  have hr := B.returns
  have hts := atoms_spec (ws := (.code y_Specifier_ownFlags cd_Specifier_ownFlags 2 (some .int) :: gw)) B.pre
  have hg : ∀ w ∈ gw, w.before _ s = true := fun w h => hts w (List.mem_cons_of_mem _ h)
  have hown : s.vm.findClass R_Specifier = some m.cls := findClass_of_methodNamed B.named
  have hlocks := B.notSynchronized
  subst hsz
  have hK := hE.K
  have hD := hD0.self (sz := s.heap.size)
  have hAb := hE.ab hD0
  obtain ⟨Q, hQ⟩ : ∃ Q, MQ below (QI G res (va_A (w_Specifier_hasAny G qt t_index t_flags t_width t_precision t_conversion t_great t_known t_cutOff t_flagTwice t_last) s.heap.size) (w_Specifier_hasAny G qt t_index t_flags t_width t_precision t_conversion t_great t_known t_cutOff t_flagTwice t_last)) ([.ref qt] : List Value).toArray s 0 0 (va_A (w_Specifier_hasAny G qt t_index t_flags t_width t_precision t_conversion t_great t_known t_cutOff t_flagTwice t_last) s.heap.size) = Q := ⟨_, rfl⟩
  show W p l e { frames := 0, cells := 0, slots := 0, locals := 0 } s m ([.ref qt] : List Value).toArray below meth c s.heap [] 0 0 (MQ below (QI G res (va_A (w_Specifier_hasAny G qt t_index t_flags t_width t_precision t_conversion t_great t_known t_cutOff t_flagTwice t_last) s.heap.size) (w_Specifier_hasAny G qt t_index t_flags t_width t_precision t_conversion t_great t_known t_cutOff t_flagTwice t_last)) ([.ref qt] : List Value).toArray s 0 0 (va_A (w_Specifier_hasAny G qt t_index t_flags t_width t_precision t_conversion t_great t_known t_cutOff t_flagTwice t_last) s.heap.size)) _
  rw [hQ]
  have hA : ∀ q : Nat, s.heap.size ≤ q → va_A (w_Specifier_hasAny G qt t_index t_flags t_width t_precision t_conversion t_great t_known t_cutOff t_flagTwice t_last) s.heap.size q := fun q h => Or.inr h
  obtain ⟨A, hAe⟩ : ∃ A, va_A (w_Specifier_hasAny G qt t_index t_flags t_width t_precision t_conversion t_great t_known t_cutOff t_flagTwice t_last) s.heap.size = A := ⟨_, rfl⟩
  rw [hAe] at hA hD hAb hQ
  have hS : va_S A s.heap s.heap [] := va_S.rf
  have hl := lv_entry (([.ref qt] : List Value)) (n := 2) (Nat.le_of_ble_eq_true rfl)
  rw [lg_entry_eq]
  generalize (lg_sl (([.ref qt] : List Value)) ++ List.replicate (2 - (lg_sl (([.ref qt] : List Value))).length) Slot.unset).toArray = ls at hl ⊢
  have hl : lv_has ls 2 [(0, .ref qt)] := hl
  have W_124 : ∀ (x1 : Int32) , k_Specifier_ownFlags_124  x1 = some res → ∀ (H : Heap) (locs : List Loc) (ls : Array Slot), va_P (gD G) vwCl (w_Specifier_hasAny G qt t_index t_flags t_width t_precision t_conversion t_great t_known t_cutOff t_flagTwice t_last) H → va_D A (w_Specifier_hasAny G qt t_index t_flags t_width t_precision t_conversion t_great t_known t_cutOff t_flagTwice t_last) → va_S A s.heap H locs → lv_has ls 2 [(1, .int x1)] → W p l e { frames := 0, cells := 0, slots := 0, locals := 0 } s m ([.ref qt] : List Value).toArray below meth c H locs 0 0 Q (F0 m 124 ls []) := by
    intro x1  hf H locs ls hP hD hS hl
    unfold k_Specifier_ownFlags_124 at hf
    refine lv_iload_n hx hb d_Specifier_ownFlags_124 rfl (lv_at hl 0 rfl) ?_
    refine lv_iconst (v := 2) hx hb d_Specifier_ownFlags_125 (by decide) ?_
    refine lv_ior hx hb d_Specifier_ownFlags_126 ?_
    refine lv_bipush (v := 64) hx hb d_Specifier_ownFlags_127 (by decide) ?_
    refine lv_ior hx hb d_Specifier_ownFlags_129 ?_
    obtain rfl := Option.some.inj hf
    rw [← hQ]
    exact W.iret (v := ((x1 ||| (2 : Int32)) ||| (64 : Int32))) hx hb hr (fun t9 ht hW => ⟨⟨((x1 ||| (2 : Int32)) ||| (64 : Int32)), (), rfl, rfl, ⟨by rw [ht]; exact hP, hD⟩⟩, hS.F ht⟩) hS.2.2 d_Specifier_ownFlags_130
  have W_116 : ∀ (x1 : Int32) , k_Specifier_ownFlags_116  x1 = some res → ∀ (H : Heap) (locs : List Loc) (ls : Array Slot), va_P (gD G) vwCl (w_Specifier_hasAny G qt t_index t_flags t_width t_precision t_conversion t_great t_known t_cutOff t_flagTwice t_last) H → va_D A (w_Specifier_hasAny G qt t_index t_flags t_width t_precision t_conversion t_great t_known t_cutOff t_flagTwice t_last) → va_S A s.heap H locs → lv_has ls 2 [(1, .int x1)] → W p l e { frames := 0, cells := 0, slots := 0, locals := 0 } s m ([.ref qt] : List Value).toArray below meth c H locs 0 0 Q (F0 m 116 ls []) := by
    intro x1  hf H locs ls hP hD hS hl
    unfold k_Specifier_ownFlags_116 at hf
    refine lv_iload_n hx hb d_Specifier_ownFlags_116 rfl (lv_at hl 0 rfl) ?_
    refine lv_bipush (v := 32) hx hb d_Specifier_ownFlags_117 (by decide) ?_
    refine lv_ior hx hb d_Specifier_ownFlags_119 ?_
    refine lv_bipush (v := 64) hx hb d_Specifier_ownFlags_120 (by decide) ?_
    refine lv_ior hx hb d_Specifier_ownFlags_122 ?_
    obtain rfl := Option.some.inj hf
    rw [← hQ]
    exact W.iret (v := ((x1 ||| (32 : Int32)) ||| (64 : Int32))) hx hb hr (fun t9 ht hW => ⟨⟨((x1 ||| (32 : Int32)) ||| (64 : Int32)), (), rfl, rfl, ⟨by rw [ht]; exact hP, hD⟩⟩, hS.F ht⟩) hS.2.2 d_Specifier_ownFlags_123
  unfold f_Specifier_ownFlags at hf
  refine lv_bipush (v := 29) hx hb d_Specifier_ownFlags_0 (by decide) ?_
  refine lv_istore_n (lv' := [(1, .int (29 : Int32)), (0, .ref qt)]) hx hb d_Specifier_ownFlags_2 rfl hl (by decide) rfl (fun ls hl => ?_)
  refine lv_aload_n hx hb d_Specifier_ownFlags_3 rfl (lv_at hl 1 rfl) ?_
  refine va_get (D := gD G) (ci := 5) (v := .int t_conversion) (C := R_Specifier) (T := F_Specifier) (N := 10) hx hb hg in_Specifier hown hK hP 0 rfl rfl 4 (by decide) (hg _ m_118) (fun _ h9 => h9) rfl d_Specifier_ownFlags_4 ?_
  by_cases c_7_0 : t_conversion = 97
  · have hf := ip_ c_7_0 hf
    refine lv_tableIn (tgt := 141) hx hb d_Specifier_ownFlags_7 (by rw [c_7_0]; decide) (by rw [c_7_0]; decide) (by rw [c_7_0]; rfl) (by decide) ?_
    refine lv_iload_n hx hb d_Specifier_ownFlags_141 rfl (lv_at hl 0 rfl) ?_
    refine lv_iconst (v := 2) hx hb d_Specifier_ownFlags_142 (by decide) ?_
    refine lv_ior hx hb d_Specifier_ownFlags_143 ?_
    obtain rfl := Option.some.inj hf
    rw [← hQ]
    exact W.iret (v := ((29 : Int32) ||| (2 : Int32))) hx hb hr (fun t9 ht hW => ⟨⟨((29 : Int32) ||| (2 : Int32)), (), rfl, rfl, ⟨by rw [ht]; exact hP, hD⟩⟩, hS.F ht⟩) hS.2.2 d_Specifier_ownFlags_144
  · have hf := in_ c_7_0 hf
    by_cases c_7_1 : t_conversion = 100
    · have hf := ip_ c_7_1 hf
      refine lv_tableIn (tgt := 116) hx hb d_Specifier_ownFlags_7 (by rw [c_7_1]; decide) (by rw [c_7_1]; decide) (by rw [c_7_1]; rfl) (by decide) ?_
      exact W_116 (29 : Int32)  hf _ _ _ hP hD hS (lv_sub hl [0] rfl)
    · have hf := in_ c_7_1 hf
      by_cases c_7_2 : t_conversion = 101
      · have hf := ip_ c_7_2 hf
        refine lv_tableIn (tgt := 124) hx hb d_Specifier_ownFlags_7 (by rw [c_7_2]; decide) (by rw [c_7_2]; decide) (by rw [c_7_2]; rfl) (by decide) ?_
        exact W_124 (29 : Int32)  hf _ _ _ hP hD hS (lv_sub hl [0] rfl)
      · have hf := in_ c_7_2 hf
        by_cases c_7_3 : t_conversion = 102
        · have hf := ip_ c_7_3 hf
          refine lv_tableIn (tgt := 131) hx hb d_Specifier_ownFlags_7 (by rw [c_7_3]; decide) (by rw [c_7_3]; decide) (by rw [c_7_3]; rfl) (by decide) ?_
          refine lv_iload_n hx hb d_Specifier_ownFlags_131 rfl (lv_at hl 0 rfl) ?_
          refine lv_iconst (v := 2) hx hb d_Specifier_ownFlags_132 (by decide) ?_
          refine lv_ior hx hb d_Specifier_ownFlags_133 ?_
          refine lv_bipush (v := 32) hx hb d_Specifier_ownFlags_134 (by decide) ?_
          refine lv_ior hx hb d_Specifier_ownFlags_136 ?_
          refine lv_bipush (v := 64) hx hb d_Specifier_ownFlags_137 (by decide) ?_
          refine lv_ior hx hb d_Specifier_ownFlags_139 ?_
          obtain rfl := Option.some.inj hf
          rw [← hQ]
          exact W.iret (v := ((((29 : Int32) ||| (2 : Int32)) ||| (32 : Int32)) ||| (64 : Int32))) hx hb hr (fun t9 ht hW => ⟨⟨((((29 : Int32) ||| (2 : Int32)) ||| (32 : Int32)) ||| (64 : Int32)), (), rfl, rfl, ⟨by rw [ht]; exact hP, hD⟩⟩, hS.F ht⟩) hS.2.2 d_Specifier_ownFlags_140
        · have hf := in_ c_7_3 hf
          by_cases c_7_4 : t_conversion = 103
          · have hf := ip_ c_7_4 hf
            refine lv_tableIn (tgt := 116) hx hb d_Specifier_ownFlags_7 (by rw [c_7_4]; decide) (by rw [c_7_4]; decide) (by rw [c_7_4]; rfl) (by decide) ?_
            exact W_116 (29 : Int32)  hf _ _ _ hP hD hS (lv_sub hl [0] rfl)
          · have hf := in_ c_7_4 hf
            by_cases c_7_5 : t_conversion = 111
            · have hf := ip_ c_7_5 hf
              refine lv_tableIn (tgt := 124) hx hb d_Specifier_ownFlags_7 (by rw [c_7_5]; decide) (by rw [c_7_5]; decide) (by rw [c_7_5]; rfl) (by decide) ?_
              exact W_124 (29 : Int32)  hf _ _ _ hP hD hS (lv_sub hl [0] rfl)
            · have hf := in_ c_7_5 hf
              by_cases c_7_6 : t_conversion = 120
              · have hf := ip_ c_7_6 hf
                refine lv_tableIn (tgt := 124) hx hb d_Specifier_ownFlags_7 (by rw [c_7_6]; decide) (by rw [c_7_6]; decide) (by rw [c_7_6]; rfl) (by decide) ?_
                exact W_124 (29 : Int32)  hf _ _ _ hP hD hS (lv_sub hl [0] rfl)
              · have hf := in_ c_7_6 hf
                by_cases o_7 : t_conversion.toInt < 97 ∨ 120 < t_conversion.toInt
                · refine lv_tableOut (tgt := 145) hx hb d_Specifier_ownFlags_7 o_7 (by decide) ?_
                  refine lv_iconst (v := 1) hx hb d_Specifier_ownFlags_145 (by decide) ?_
                  obtain rfl := Option.some.inj hf
                  rw [← hQ]
                  exact W.iret (v := (1 : Int32)) hx hb hr (fun t9 ht hW => ⟨⟨(1 : Int32), (), rfl, rfl, ⟨by rw [ht]; exact hP, hD⟩⟩, hS.F ht⟩) hS.2.2 d_Specifier_ownFlags_146
                · have e_7 : t_conversion.toInt = 98 ∨ t_conversion.toInt = 99 ∨ t_conversion.toInt = 104 ∨ t_conversion.toInt = 105 ∨ t_conversion.toInt = 106 ∨ t_conversion.toInt = 107 ∨ t_conversion.toInt = 108 ∨ t_conversion.toInt = 109 ∨ t_conversion.toInt = 110 ∨ t_conversion.toInt = 112 ∨ t_conversion.toInt = 113 ∨ t_conversion.toInt = 114 ∨ t_conversion.toInt = 115 ∨ t_conversion.toInt = 116 ∨ t_conversion.toInt = 117 ∨ t_conversion.toInt = 118 ∨ t_conversion.toInt = 119 := by have n_0 := lv_neT c_7_0 (show (97 : Int32).toInt = 97 from rfl); have n_1 := lv_neT c_7_1 (show (100 : Int32).toInt = 100 from rfl); have n_2 := lv_neT c_7_2 (show (101 : Int32).toInt = 101 from rfl); have n_3 := lv_neT c_7_3 (show (102 : Int32).toInt = 102 from rfl); have n_4 := lv_neT c_7_4 (show (103 : Int32).toInt = 103 from rfl); have n_5 := lv_neT c_7_5 (show (111 : Int32).toInt = 111 from rfl); have n_6 := lv_neT c_7_6 (show (120 : Int32).toInt = 120 from rfl); omega
                  rcases e_7 with e | e | e | e | e | e | e | e | e | e | e | e | e | e | e | e | e
                  · refine lv_tableIn (tgt := 145) hx hb d_Specifier_ownFlags_7 (by rw [e]; decide) (by rw [e]; decide) (by rw [e]; rfl) (by decide) ?_
                    refine lv_iconst (v := 1) hx hb d_Specifier_ownFlags_145 (by decide) ?_
                    obtain rfl := Option.some.inj hf
                    rw [← hQ]
                    exact W.iret (v := (1 : Int32)) hx hb hr (fun t9 ht hW => ⟨⟨(1 : Int32), (), rfl, rfl, ⟨by rw [ht]; exact hP, hD⟩⟩, hS.F ht⟩) hS.2.2 d_Specifier_ownFlags_146
                  · refine lv_tableIn (tgt := 145) hx hb d_Specifier_ownFlags_7 (by rw [e]; decide) (by rw [e]; decide) (by rw [e]; rfl) (by decide) ?_
                    refine lv_iconst (v := 1) hx hb d_Specifier_ownFlags_145 (by decide) ?_
                    obtain rfl := Option.some.inj hf
                    rw [← hQ]
                    exact W.iret (v := (1 : Int32)) hx hb hr (fun t9 ht hW => ⟨⟨(1 : Int32), (), rfl, rfl, ⟨by rw [ht]; exact hP, hD⟩⟩, hS.F ht⟩) hS.2.2 d_Specifier_ownFlags_146
                  · refine lv_tableIn (tgt := 145) hx hb d_Specifier_ownFlags_7 (by rw [e]; decide) (by rw [e]; decide) (by rw [e]; rfl) (by decide) ?_
                    refine lv_iconst (v := 1) hx hb d_Specifier_ownFlags_145 (by decide) ?_
                    obtain rfl := Option.some.inj hf
                    rw [← hQ]
                    exact W.iret (v := (1 : Int32)) hx hb hr (fun t9 ht hW => ⟨⟨(1 : Int32), (), rfl, rfl, ⟨by rw [ht]; exact hP, hD⟩⟩, hS.F ht⟩) hS.2.2 d_Specifier_ownFlags_146
                  · refine lv_tableIn (tgt := 145) hx hb d_Specifier_ownFlags_7 (by rw [e]; decide) (by rw [e]; decide) (by rw [e]; rfl) (by decide) ?_
                    refine lv_iconst (v := 1) hx hb d_Specifier_ownFlags_145 (by decide) ?_
                    obtain rfl := Option.some.inj hf
                    rw [← hQ]
                    exact W.iret (v := (1 : Int32)) hx hb hr (fun t9 ht hW => ⟨⟨(1 : Int32), (), rfl, rfl, ⟨by rw [ht]; exact hP, hD⟩⟩, hS.F ht⟩) hS.2.2 d_Specifier_ownFlags_146
                  · refine lv_tableIn (tgt := 145) hx hb d_Specifier_ownFlags_7 (by rw [e]; decide) (by rw [e]; decide) (by rw [e]; rfl) (by decide) ?_
                    refine lv_iconst (v := 1) hx hb d_Specifier_ownFlags_145 (by decide) ?_
                    obtain rfl := Option.some.inj hf
                    rw [← hQ]
                    exact W.iret (v := (1 : Int32)) hx hb hr (fun t9 ht hW => ⟨⟨(1 : Int32), (), rfl, rfl, ⟨by rw [ht]; exact hP, hD⟩⟩, hS.F ht⟩) hS.2.2 d_Specifier_ownFlags_146
                  · refine lv_tableIn (tgt := 145) hx hb d_Specifier_ownFlags_7 (by rw [e]; decide) (by rw [e]; decide) (by rw [e]; rfl) (by decide) ?_
                    refine lv_iconst (v := 1) hx hb d_Specifier_ownFlags_145 (by decide) ?_
                    obtain rfl := Option.some.inj hf
                    rw [← hQ]
                    exact W.iret (v := (1 : Int32)) hx hb hr (fun t9 ht hW => ⟨⟨(1 : Int32), (), rfl, rfl, ⟨by rw [ht]; exact hP, hD⟩⟩, hS.F ht⟩) hS.2.2 d_Specifier_ownFlags_146
                  · refine lv_tableIn (tgt := 145) hx hb d_Specifier_ownFlags_7 (by rw [e]; decide) (by rw [e]; decide) (by rw [e]; rfl) (by decide) ?_
                    refine lv_iconst (v := 1) hx hb d_Specifier_ownFlags_145 (by decide) ?_
                    obtain rfl := Option.some.inj hf
                    rw [← hQ]
                    exact W.iret (v := (1 : Int32)) hx hb hr (fun t9 ht hW => ⟨⟨(1 : Int32), (), rfl, rfl, ⟨by rw [ht]; exact hP, hD⟩⟩, hS.F ht⟩) hS.2.2 d_Specifier_ownFlags_146
                  · refine lv_tableIn (tgt := 145) hx hb d_Specifier_ownFlags_7 (by rw [e]; decide) (by rw [e]; decide) (by rw [e]; rfl) (by decide) ?_
                    refine lv_iconst (v := 1) hx hb d_Specifier_ownFlags_145 (by decide) ?_
                    obtain rfl := Option.some.inj hf
                    rw [← hQ]
                    exact W.iret (v := (1 : Int32)) hx hb hr (fun t9 ht hW => ⟨⟨(1 : Int32), (), rfl, rfl, ⟨by rw [ht]; exact hP, hD⟩⟩, hS.F ht⟩) hS.2.2 d_Specifier_ownFlags_146
                  · refine lv_tableIn (tgt := 145) hx hb d_Specifier_ownFlags_7 (by rw [e]; decide) (by rw [e]; decide) (by rw [e]; rfl) (by decide) ?_
                    refine lv_iconst (v := 1) hx hb d_Specifier_ownFlags_145 (by decide) ?_
                    obtain rfl := Option.some.inj hf
                    rw [← hQ]
                    exact W.iret (v := (1 : Int32)) hx hb hr (fun t9 ht hW => ⟨⟨(1 : Int32), (), rfl, rfl, ⟨by rw [ht]; exact hP, hD⟩⟩, hS.F ht⟩) hS.2.2 d_Specifier_ownFlags_146
                  · refine lv_tableIn (tgt := 145) hx hb d_Specifier_ownFlags_7 (by rw [e]; decide) (by rw [e]; decide) (by rw [e]; rfl) (by decide) ?_
                    refine lv_iconst (v := 1) hx hb d_Specifier_ownFlags_145 (by decide) ?_
                    obtain rfl := Option.some.inj hf
                    rw [← hQ]
                    exact W.iret (v := (1 : Int32)) hx hb hr (fun t9 ht hW => ⟨⟨(1 : Int32), (), rfl, rfl, ⟨by rw [ht]; exact hP, hD⟩⟩, hS.F ht⟩) hS.2.2 d_Specifier_ownFlags_146
                  · refine lv_tableIn (tgt := 145) hx hb d_Specifier_ownFlags_7 (by rw [e]; decide) (by rw [e]; decide) (by rw [e]; rfl) (by decide) ?_
                    refine lv_iconst (v := 1) hx hb d_Specifier_ownFlags_145 (by decide) ?_
                    obtain rfl := Option.some.inj hf
                    rw [← hQ]
                    exact W.iret (v := (1 : Int32)) hx hb hr (fun t9 ht hW => ⟨⟨(1 : Int32), (), rfl, rfl, ⟨by rw [ht]; exact hP, hD⟩⟩, hS.F ht⟩) hS.2.2 d_Specifier_ownFlags_146
                  · refine lv_tableIn (tgt := 145) hx hb d_Specifier_ownFlags_7 (by rw [e]; decide) (by rw [e]; decide) (by rw [e]; rfl) (by decide) ?_
                    refine lv_iconst (v := 1) hx hb d_Specifier_ownFlags_145 (by decide) ?_
                    obtain rfl := Option.some.inj hf
                    rw [← hQ]
                    exact W.iret (v := (1 : Int32)) hx hb hr (fun t9 ht hW => ⟨⟨(1 : Int32), (), rfl, rfl, ⟨by rw [ht]; exact hP, hD⟩⟩, hS.F ht⟩) hS.2.2 d_Specifier_ownFlags_146
                  · refine lv_tableIn (tgt := 145) hx hb d_Specifier_ownFlags_7 (by rw [e]; decide) (by rw [e]; decide) (by rw [e]; rfl) (by decide) ?_
                    refine lv_iconst (v := 1) hx hb d_Specifier_ownFlags_145 (by decide) ?_
                    obtain rfl := Option.some.inj hf
                    rw [← hQ]
                    exact W.iret (v := (1 : Int32)) hx hb hr (fun t9 ht hW => ⟨⟨(1 : Int32), (), rfl, rfl, ⟨by rw [ht]; exact hP, hD⟩⟩, hS.F ht⟩) hS.2.2 d_Specifier_ownFlags_146
                  · refine lv_tableIn (tgt := 145) hx hb d_Specifier_ownFlags_7 (by rw [e]; decide) (by rw [e]; decide) (by rw [e]; rfl) (by decide) ?_
                    refine lv_iconst (v := 1) hx hb d_Specifier_ownFlags_145 (by decide) ?_
                    obtain rfl := Option.some.inj hf
                    rw [← hQ]
                    exact W.iret (v := (1 : Int32)) hx hb hr (fun t9 ht hW => ⟨⟨(1 : Int32), (), rfl, rfl, ⟨by rw [ht]; exact hP, hD⟩⟩, hS.F ht⟩) hS.2.2 d_Specifier_ownFlags_146
                  · refine lv_tableIn (tgt := 145) hx hb d_Specifier_ownFlags_7 (by rw [e]; decide) (by rw [e]; decide) (by rw [e]; rfl) (by decide) ?_
                    refine lv_iconst (v := 1) hx hb d_Specifier_ownFlags_145 (by decide) ?_
                    obtain rfl := Option.some.inj hf
                    rw [← hQ]
                    exact W.iret (v := (1 : Int32)) hx hb hr (fun t9 ht hW => ⟨⟨(1 : Int32), (), rfl, rfl, ⟨by rw [ht]; exact hP, hD⟩⟩, hS.F ht⟩) hS.2.2 d_Specifier_ownFlags_146
                  · refine lv_tableIn (tgt := 145) hx hb d_Specifier_ownFlags_7 (by rw [e]; decide) (by rw [e]; decide) (by rw [e]; rfl) (by decide) ?_
                    refine lv_iconst (v := 1) hx hb d_Specifier_ownFlags_145 (by decide) ?_
                    obtain rfl := Option.some.inj hf
                    rw [← hQ]
                    exact W.iret (v := (1 : Int32)) hx hb hr (fun t9 ht hW => ⟨⟨(1 : Int32), (), rfl, rfl, ⟨by rw [ht]; exact hP, hD⟩⟩, hS.F ht⟩) hS.2.2 d_Specifier_ownFlags_146
                  · refine lv_tableIn (tgt := 145) hx hb d_Specifier_ownFlags_7 (by rw [e]; decide) (by rw [e]; decide) (by rw [e]; rfl) (by decide) ?_
                    refine lv_iconst (v := 1) hx hb d_Specifier_ownFlags_145 (by decide) ?_
                    obtain rfl := Option.some.inj hf
                    rw [← hQ]
                    exact W.iret (v := (1 : Int32)) hx hb hr (fun t9 ht hW => ⟨⟨(1 : Int32), (), rfl, rfl, ⟨by rw [ht]; exact hP, hD⟩⟩, hS.F ht⟩) hS.2.2 d_Specifier_ownFlags_146
theorem d_Specifier_faultOfParts_0 : decode cd_Specifier_faultOfParts 0 = .ok (.ldc 67, 2) := by decide +kernel
theorem d_Specifier_faultOfParts_2 : decode cd_Specifier_faultOfParts 2 = .ok (.aload_n 0, 1) := by decide +kernel
theorem d_Specifier_faultOfParts_3 : decode cd_Specifier_faultOfParts 3 = .ok (.getfield 22, 3) := by decide +kernel
theorem d_Specifier_faultOfParts_6 : decode cd_Specifier_faultOfParts 6 = .ok (.invokevirtual 69, 3) := by decide +kernel
theorem d_Specifier_faultOfParts_9 : decode cd_Specifier_faultOfParts 9 = .ok (.ifCond .lt 7, 3) := by decide +kernel
theorem d_Specifier_faultOfParts_12 : decode cd_Specifier_faultOfParts 12 = .ok (.iconst 1, 1) := by decide +kernel
theorem d_Specifier_faultOfParts_13 : decode cd_Specifier_faultOfParts 13 = .ok (.goto 4, 3) := by decide +kernel
theorem d_Specifier_faultOfParts_16 : decode cd_Specifier_faultOfParts 16 = .ok (.iconst 0, 1) := by decide +kernel
theorem d_Specifier_faultOfParts_17 : decode cd_Specifier_faultOfParts 17 = .ok (.istore_n 1, 1) := by decide +kernel
theorem d_Specifier_faultOfParts_18 : decode cd_Specifier_faultOfParts 18 = .ok (.aload_n 0, 1) := by decide +kernel
theorem d_Specifier_faultOfParts_19 : decode cd_Specifier_faultOfParts 19 = .ok (.getfield 19, 3) := by decide +kernel
theorem d_Specifier_faultOfParts_22 : decode cd_Specifier_faultOfParts 22 = .ok (.iconst (-1), 1) := by decide +kernel
theorem d_Specifier_faultOfParts_23 : decode cd_Specifier_faultOfParts 23 = .ok (.if_icmp .eq 18, 3) := by decide +kernel
theorem d_Specifier_faultOfParts_26 : decode cd_Specifier_faultOfParts 26 = .ok (.ldc 75, 2) := by decide +kernel
theorem d_Specifier_faultOfParts_28 : decode cd_Specifier_faultOfParts 28 = .ok (.aload_n 0, 1) := by decide +kernel
theorem d_Specifier_faultOfParts_29 : decode cd_Specifier_faultOfParts 29 = .ok (.getfield 22, 3) := by decide +kernel
theorem d_Specifier_faultOfParts_32 : decode cd_Specifier_faultOfParts 32 = .ok (.invokevirtual 69, 3) := by decide +kernel
theorem d_Specifier_faultOfParts_35 : decode cd_Specifier_faultOfParts 35 = .ok (.ifCond .lt 6, 3) := by decide +kernel
theorem d_Specifier_faultOfParts_38 : decode cd_Specifier_faultOfParts 38 = .ok (.bipush 6, 2) := by decide +kernel
theorem d_Specifier_faultOfParts_40 : decode cd_Specifier_faultOfParts 40 = .ok (.ireturn, 1) := by decide +kernel
theorem d_Specifier_faultOfParts_41 : decode cd_Specifier_faultOfParts 41 = .ok (.aload_n 0, 1) := by decide +kernel
theorem d_Specifier_faultOfParts_42 : decode cd_Specifier_faultOfParts 42 = .ok (.getfield 22, 3) := by decide +kernel
theorem d_Specifier_faultOfParts_45 : decode cd_Specifier_faultOfParts 45 = .ok (.bipush 37, 2) := by decide +kernel
theorem d_Specifier_faultOfParts_47 : decode cd_Specifier_faultOfParts 47 = .ok (.if_icmp .ne 15, 3) := by decide +kernel
theorem d_Specifier_faultOfParts_50 : decode cd_Specifier_faultOfParts 50 = .ok (.aload_n 0, 1) := by decide +kernel
theorem d_Specifier_faultOfParts_51 : decode cd_Specifier_faultOfParts 51 = .ok (.bipush (-2), 2) := by decide +kernel
theorem d_Specifier_faultOfParts_53 : decode cd_Specifier_faultOfParts 53 = .ok (.invokevirtual 56, 3) := by decide +kernel
theorem d_Specifier_faultOfParts_56 : decode cd_Specifier_faultOfParts 56 = .ok (.ifCond .eq 6, 3) := by decide +kernel
theorem d_Specifier_faultOfParts_59 : decode cd_Specifier_faultOfParts 59 = .ok (.bipush 7, 2) := by decide +kernel
theorem d_Specifier_faultOfParts_61 : decode cd_Specifier_faultOfParts 61 = .ok (.ireturn, 1) := by decide +kernel
theorem d_Specifier_faultOfParts_62 : decode cd_Specifier_faultOfParts 62 = .ok (.aload_n 0, 1) := by decide +kernel
theorem d_Specifier_faultOfParts_63 : decode cd_Specifier_faultOfParts 63 = .ok (.getfield 16, 3) := by decide +kernel
theorem d_Specifier_faultOfParts_66 : decode cd_Specifier_faultOfParts 66 = .ok (.iconst (-1), 1) := by decide +kernel
theorem d_Specifier_faultOfParts_67 : decode cd_Specifier_faultOfParts 67 = .ok (.if_icmp .ne 23, 3) := by decide +kernel
theorem d_Specifier_faultOfParts_70 : decode cd_Specifier_faultOfParts 70 = .ok (.aload_n 0, 1) := by decide +kernel
theorem d_Specifier_faultOfParts_71 : decode cd_Specifier_faultOfParts 71 = .ok (.iload_n 1, 1) := by decide +kernel
theorem d_Specifier_faultOfParts_72 : decode cd_Specifier_faultOfParts 72 = .ok (.ifCond .eq 8, 3) := by decide +kernel
theorem d_Specifier_faultOfParts_75 : decode cd_Specifier_faultOfParts 75 = .ok (.bipush 17, 2) := by decide +kernel
theorem d_Specifier_faultOfParts_77 : decode cd_Specifier_faultOfParts 77 = .ok (.goto 4, 3) := by decide +kernel
theorem d_Specifier_faultOfParts_80 : decode cd_Specifier_faultOfParts 80 = .ok (.iconst 1, 1) := by decide +kernel
theorem d_Specifier_faultOfParts_81 : decode cd_Specifier_faultOfParts 81 = .ok (.invokevirtual 56, 3) := by decide +kernel
theorem d_Specifier_faultOfParts_84 : decode cd_Specifier_faultOfParts 84 = .ok (.ifCond .eq 6, 3) := by decide +kernel
theorem d_Specifier_faultOfParts_87 : decode cd_Specifier_faultOfParts 87 = .ok (.bipush 8, 2) := by decide +kernel
theorem d_Specifier_faultOfParts_89 : decode cd_Specifier_faultOfParts 89 = .ok (.ireturn, 1) := by decide +kernel
theorem d_Specifier_faultOfParts_90 : decode cd_Specifier_faultOfParts 90 = .ok (.iload_n 1, 1) := by decide +kernel
theorem d_Specifier_faultOfParts_91 : decode cd_Specifier_faultOfParts 91 = .ok (.ifCond .eq 26, 3) := by decide +kernel
theorem d_Specifier_faultOfParts_94 : decode cd_Specifier_faultOfParts 94 = .ok (.aload_n 0, 1) := by decide +kernel
theorem d_Specifier_faultOfParts_95 : decode cd_Specifier_faultOfParts 95 = .ok (.iconst 4, 1) := by decide +kernel
theorem d_Specifier_faultOfParts_96 : decode cd_Specifier_faultOfParts 96 = .ok (.bipush 8, 2) := by decide +kernel
theorem d_Specifier_faultOfParts_98 : decode cd_Specifier_faultOfParts 98 = .ok (.invokevirtual 77, 3) := by decide +kernel
theorem d_Specifier_faultOfParts_101 : decode cd_Specifier_faultOfParts 101 = .ok (.ifCond .ne 13, 3) := by decide +kernel
theorem d_Specifier_faultOfParts_104 : decode cd_Specifier_faultOfParts 104 = .ok (.aload_n 0, 1) := by decide +kernel
theorem d_Specifier_faultOfParts_105 : decode cd_Specifier_faultOfParts 105 = .ok (.iconst 1, 1) := by decide +kernel
theorem d_Specifier_faultOfParts_106 : decode cd_Specifier_faultOfParts 106 = .ok (.bipush 16, 2) := by decide +kernel
theorem d_Specifier_faultOfParts_108 : decode cd_Specifier_faultOfParts 108 = .ok (.invokevirtual 77, 3) := by decide +kernel
theorem d_Specifier_faultOfParts_111 : decode cd_Specifier_faultOfParts 111 = .ok (.ifCond .eq 6, 3) := by decide +kernel
theorem d_Specifier_faultOfParts_114 : decode cd_Specifier_faultOfParts 114 = .ok (.bipush 7, 2) := by decide +kernel
theorem d_Specifier_faultOfParts_116 : decode cd_Specifier_faultOfParts 116 = .ok (.ireturn, 1) := by decide +kernel
theorem d_Specifier_faultOfParts_117 : decode cd_Specifier_faultOfParts 117 = .ok (.aload_n 0, 1) := by decide +kernel
theorem d_Specifier_faultOfParts_118 : decode cd_Specifier_faultOfParts 118 = .ok (.aload_n 0, 1) := by decide +kernel
theorem d_Specifier_faultOfParts_119 : decode cd_Specifier_faultOfParts 119 = .ok (.invokevirtual 81, 3) := by decide +kernel
theorem d_Specifier_faultOfParts_122 : decode cd_Specifier_faultOfParts 122 = .ok (.iconst (-1), 1) := by decide +kernel
theorem d_Specifier_faultOfParts_123 : decode cd_Specifier_faultOfParts 123 = .ok (.ixor, 1) := by decide +kernel
theorem d_Specifier_faultOfParts_124 : decode cd_Specifier_faultOfParts 124 = .ok (.invokevirtual 56, 3) := by decide +kernel
theorem d_Specifier_faultOfParts_127 : decode cd_Specifier_faultOfParts 127 = .ok (.ifCond .eq 8, 3) := by decide +kernel
theorem d_Specifier_faultOfParts_130 : decode cd_Specifier_faultOfParts 130 = .ok (.bipush 9, 2) := by decide +kernel
theorem d_Specifier_faultOfParts_132 : decode cd_Specifier_faultOfParts 132 = .ok (.goto 4, 3) := by decide +kernel
theorem d_Specifier_faultOfParts_135 : decode cd_Specifier_faultOfParts 135 = .ok (.iconst 0, 1) := by decide +kernel
theorem d_Specifier_faultOfParts_136 : decode cd_Specifier_faultOfParts 136 = .ok (.ireturn, 1) := by decide +kernel
theorem m_119 : Cond.methodLink R_Specifier 69 y_String_indexOf ∈ gw := gm (i := 468) (by decide +kernel) (by decide +kernel)
theorem m_120 : Cond.methodLink R_Specifier 77 y_Specifier_hasBoth ∈ gw := gm (i := 565) (by decide +kernel) (by decide +kernel)
theorem m_121 : Cond.instanceMethod y_Specifier_hasBoth ∈ gw := gm (i := 566) (by decide +kernel) (by decide +kernel)
theorem m_122 : Cond.selects R_Specifier y_Specifier_hasBoth y_Specifier_hasBoth ∈ gw := gm (i := 567) (by decide +kernel) (by decide +kernel)
set_option maxRecDepth 100000 in
theorem m_123 : Cond.code y_Specifier_hasBoth cd_Specifier_hasBoth 3 (some .boolean) ∈ gw := gm (i := 568) rfl rfl
theorem m_124 : Cond.methodLink R_Specifier 81 y_Specifier_ownFlags ∈ gw := gm (i := 569) (by decide +kernel) (by decide +kernel)
theorem m_125 : Cond.instanceMethod y_Specifier_ownFlags ∈ gw := gm (i := 571) (by decide +kernel) (by decide +kernel)
theorem m_126 : Cond.selects R_Specifier y_Specifier_ownFlags y_Specifier_ownFlags ∈ gw := gm (i := 11) (by decide +kernel) (by decide +kernel)
set_option maxRecDepth 100000 in
theorem m_127 : Cond.code y_Specifier_ownFlags cd_Specifier_ownFlags 2 (some .int) ∈ gw := gm (i := 572) rfl rfl
def k_Specifier_faultOfParts_117 (t_flags : Int32) (t_conversion : Int32)  : Option Int32 :=
  ((f_Specifier_ownFlags t_conversion).bind fun u_119 => ((f_Specifier_hasAny t_flags (u_119 ^^^ (-1 : Int32))).bind fun u_124 => (if u_124 = 0 then some (0 : Int32) else some (9 : Int32))))
def k_Specifier_faultOfParts_90 (t_flags : Int32) (t_conversion : Int32) (x1 : Int32) : Option Int32 :=
  (if x1 = 0 then k_Specifier_faultOfParts_117 t_flags t_conversion  else ((f_Specifier_hasBoth t_flags (4 : Int32) (8 : Int32)).bind fun u_98 => (if u_98 = 0 then ((f_Specifier_hasBoth t_flags (1 : Int32) (16 : Int32)).bind fun u_108 => (if u_108 = 0 then k_Specifier_faultOfParts_117 t_flags t_conversion  else some (7 : Int32))) else some (7 : Int32))))
def k_Specifier_faultOfParts_81 (t_flags : Int32) (t_conversion : Int32) (x1 : Int32) (k1 : Int32) : Option Int32 :=
  ((f_Specifier_hasAny t_flags k1).bind fun u_81 => (if u_81 = 0 then k_Specifier_faultOfParts_90 t_flags t_conversion x1 else some (8 : Int32)))
def k_Specifier_faultOfParts_62 (t_flags : Int32) (t_width : Int32) (t_conversion : Int32) (x1 : Int32) : Option Int32 :=
  (if t_width = (-1 : Int32) then (if x1 = 0 then k_Specifier_faultOfParts_81 t_flags t_conversion x1 (1 : Int32) else k_Specifier_faultOfParts_81 t_flags t_conversion x1 (17 : Int32)) else k_Specifier_faultOfParts_90 t_flags t_conversion x1)
def k_Specifier_faultOfParts_41 (t_flags : Int32) (t_width : Int32) (t_conversion : Int32) (x1 : Int32) : Option Int32 :=
  (if t_conversion = (37 : Int32) then ((f_Specifier_hasAny t_flags (-2 : Int32)).bind fun u_53 => (if u_53 = 0 then k_Specifier_faultOfParts_62 t_flags t_width t_conversion x1 else some (7 : Int32))) else k_Specifier_faultOfParts_62 t_flags t_width t_conversion x1)
def k_Specifier_faultOfParts_17 (K : Nat) (t_flags : Int32) (t_width : Int32) (t_precision : Int32) (t_conversion : Int32) (k0 : Int32) : Option Int32 :=
  (if t_precision = (-1 : Int32) then k_Specifier_faultOfParts_41 t_flags t_width t_conversion k0 else ((f_String_indexOf K 3 t_conversion).bind fun u_32 => (if u_32 < 0 then k_Specifier_faultOfParts_41 t_flags t_width t_conversion k0 else some (6 : Int32))))
def f_Specifier_faultOfParts (K : Nat) (t_flags : Int32) (t_width : Int32) (t_precision : Int32) (t_conversion : Int32) : Option Int32 :=
  ((f_String_indexOf K 2 t_conversion).bind fun u_6 => (if u_6 < 0 then k_Specifier_faultOfParts_17 K t_flags t_width t_precision t_conversion (0 : Int32) else k_Specifier_faultOfParts_17 K t_flags t_width t_precision t_conversion (1 : Int32)))
set_option maxHeartbeats 4000000 in
set_option maxRecDepth 100000 in
theorem c_Specifier_faultOfParts (l : Launch) (G : Gt) (K : Nat) (qt : Nat) (t_index : Int32) (t_flags : Int32) (t_width : Int32) (t_precision : Int32) (t_conversion : Int32) (t_great : Int32) (t_known : Int32) (t_cutOff : Int32) (t_flagTwice : Int32) (t_last : Int32) (sz : Nat) (res : Int32)   (hf : f_Specifier_faultOfParts K t_flags t_width t_precision t_conversion = some res) : Met l y_Specifier_faultOfParts (.code y_Specifier_faultOfParts cd_Specifier_faultOfParts 2 (some .int) :: gw) { frames := 4, cells := 0, slots := 0, locals := 160 } (PC G ([.ref qt] : List Value) sz (w_Specifier_hasAny G qt t_index t_flags t_width t_precision t_conversion t_great t_known t_cutOff t_flagTwice t_last)) (QI G res (va_A (w_Specifier_hasAny G qt t_index t_flags t_width t_precision t_conversion t_great t_known t_cutOff t_flagTwice t_last) sz) (w_Specifier_hasAny G qt t_index t_flags t_width t_precision t_conversion t_great t_known t_cutOff t_flagTwice t_last)) 0 0 (va_A (w_Specifier_hasAny G qt t_index t_flags t_width t_precision t_conversion t_great t_known t_cutOff t_flagTwice t_last) sz) := by
  refine Met.ofW (cc := cd_Specifier_faultOfParts) (maxL := 2) (ret := (some .int)) (by decide) rfl ?_
  intro p e s m args below meth c s₁ B hml hv
  obtain ⟨rfl, hsz, hP, hE, hD0⟩ := hv
  have hx := B.exec
  have hb := B.bytes
  have hr := B.returns
  have hts := atoms_spec (ws := (.code y_Specifier_faultOfParts cd_Specifier_faultOfParts 2 (some .int) :: gw)) B.pre
  have hg : ∀ w ∈ gw, w.before _ s = true := fun w h => hts w (List.mem_cons_of_mem _ h)
  have hown : s.vm.findClass R_Specifier = some m.cls := findClass_of_methodNamed B.named
  have hlocks := B.notSynchronized
  subst hsz
  have hK := hE.K
  have hD := hD0.self (sz := s.heap.size)
  have hAb := hE.ab hD0
  obtain ⟨Q, hQ⟩ : ∃ Q, MQ below (QI G res (va_A (w_Specifier_hasAny G qt t_index t_flags t_width t_precision t_conversion t_great t_known t_cutOff t_flagTwice t_last) s.heap.size) (w_Specifier_hasAny G qt t_index t_flags t_width t_precision t_conversion t_great t_known t_cutOff t_flagTwice t_last)) ([.ref qt] : List Value).toArray s 0 0 (va_A (w_Specifier_hasAny G qt t_index t_flags t_width t_precision t_conversion t_great t_known t_cutOff t_flagTwice t_last) s.heap.size) = Q := ⟨_, rfl⟩
  show W p l e { frames := 4, cells := 0, slots := 0, locals := 160 } s m ([.ref qt] : List Value).toArray below meth c s.heap [] 0 0 (MQ below (QI G res (va_A (w_Specifier_hasAny G qt t_index t_flags t_width t_precision t_conversion t_great t_known t_cutOff t_flagTwice t_last) s.heap.size) (w_Specifier_hasAny G qt t_index t_flags t_width t_precision t_conversion t_great t_known t_cutOff t_flagTwice t_last)) ([.ref qt] : List Value).toArray s 0 0 (va_A (w_Specifier_hasAny G qt t_index t_flags t_width t_precision t_conversion t_great t_known t_cutOff t_flagTwice t_last) s.heap.size)) _
  rw [hQ]
  have hA : ∀ q : Nat, s.heap.size ≤ q → va_A (w_Specifier_hasAny G qt t_index t_flags t_width t_precision t_conversion t_great t_known t_cutOff t_flagTwice t_last) s.heap.size q := fun q h => Or.inr h
  obtain ⟨A, hAe⟩ : ∃ A, va_A (w_Specifier_hasAny G qt t_index t_flags t_width t_precision t_conversion t_great t_known t_cutOff t_flagTwice t_last) s.heap.size = A := ⟨_, rfl⟩
  rw [hAe] at hA hD hAb hQ
  have hS : va_S A s.heap s.heap [] := va_S.rf
  have hl := lv_entry (([.ref qt] : List Value)) (n := 2) (Nat.le_of_ble_eq_true rfl)
  rw [lg_entry_eq]
  generalize (lg_sl (([.ref qt] : List Value)) ++ List.replicate (2 - (lg_sl (([.ref qt] : List Value))).length) Slot.unset).toArray = ls at hl ⊢
  have hl : lv_has ls 2 [(0, .ref qt)] := hl
  have W_117 : k_Specifier_faultOfParts_117 t_flags t_conversion  = some res → ∀ (H : Heap) (locs : List Loc) (ls : Array Slot), va_P (gD G) vwCl (w_Specifier_hasAny G qt t_index t_flags t_width t_precision t_conversion t_great t_known t_cutOff t_flagTwice t_last) H → va_D A (w_Specifier_hasAny G qt t_index t_flags t_width t_precision t_conversion t_great t_known t_cutOff t_flagTwice t_last) → va_S A s.heap H locs → lv_has ls 2 [(0, .ref qt)] → W p l e { frames := 4, cells := 0, slots := 0, locals := 160 } s m ([.ref qt] : List Value).toArray below meth c H locs 0 0 Q (F0 m 117 ls []) := by
    intro   hf H locs ls hP hD hS hl
    unfold k_Specifier_faultOfParts_117 at hf
    refine lv_aload_n hx hb d_Specifier_faultOfParts_117 rfl (lv_at hl 0 rfl) ?_
    refine lv_aload_n hx hb d_Specifier_faultOfParts_118 rfl (lv_at hl 0 rfl) ?_
    obtain ⟨u_119, hu_119, hf⟩ := bd_ hf
    refine CALLWi (va_runV (As := []) (rest := [.ref qt]) ⟨hx, hb, hml, hown, hg⟩ (c_Specifier_ownFlags l G K qt t_index t_flags t_width t_precision t_conversion t_great t_known t_cutOff t_flagTwice t_last _ u_119  hu_119) (cwV 0 hg (gV m_124 m_125 m_126 m_114 m_127) rfl rfl rfl (by decide +kernel) ⟨Nat.le_of_ble_eq_true rfl, Nat.le_of_ble_eq_true rfl⟩) ⟨PC_b, va_recv hK hP (ci := 5) (q0 := 0) rfl rfl, PC_p hE hS hAb hP hD⟩ rfl rfl hl.1 rfl (lv_room (Nat.le_of_ble_eq_true rfl)) d_Specifier_faultOfParts_119 ⟨Nat.zero_le _, Nat.zero_le _⟩) hP hD hS hA (fun H locs hP hD hS => ?_)
    have hP : va_P (gD G) vwCl (w_Specifier_hasAny G qt t_index t_flags t_width t_precision t_conversion t_great t_known t_cutOff t_flagTwice t_last) H := hP
    have hD : va_D A (w_Specifier_hasAny G qt t_index t_flags t_width t_precision t_conversion t_great t_known t_cutOff t_flagTwice t_last) := hD
    refine lv_iconst (v := -1) hx hb d_Specifier_faultOfParts_122 (by decide) ?_
    refine lv_ixor hx hb d_Specifier_faultOfParts_123 ?_
    obtain ⟨u_124, hu_124, hf⟩ := bd_ hf
    refine CALLWz (va_runV (As := [.int (u_119 ^^^ (-1 : Int32))]) (rest := []) ⟨hx, hb, hml, hown, hg⟩ (c_Specifier_hasAny l G K qt t_index t_flags t_width t_precision t_conversion t_great t_known t_cutOff t_flagTwice t_last (u_119 ^^^ (-1 : Int32)) _ u_124  hu_124) (cwV 1 hg (gV m_111 m_112 m_113 m_114 m_115) rfl rfl rfl (by decide +kernel) ⟨Nat.le_of_ble_eq_true rfl, Nat.le_of_ble_eq_true rfl⟩) ⟨PC_b, va_recv hK hP (ci := 5) (q0 := 0) rfl rfl, PC_p hE hS hAb hP hD⟩ rfl rfl hl.1 rfl (lv_room (Nat.le_of_ble_eq_true rfl)) d_Specifier_faultOfParts_124 ⟨Nat.zero_le _, Nat.zero_le _⟩) hP hD hS hA (fun bu_124 H locs hP hD hS => ?_)
    have hP : va_P (gD G) vwCl (w_Specifier_hasAny G qt t_index t_flags t_width t_precision t_conversion t_great t_known t_cutOff t_flagTwice t_last) H := hP
    have hD : va_D A (w_Specifier_hasAny G qt t_index t_flags t_width t_precision t_conversion t_great t_known t_cutOff t_flagTwice t_last) := hD
    refine lv_if_eq (tgt := 135) hx hb d_Specifier_faultOfParts_127 (by decide) (fun c_127 => ?_) (fun c_127 => ?_)
    · have hf := ip_ c_127 hf
      refine lv_iconst (v := 0) hx hb d_Specifier_faultOfParts_135 (by decide) ?_
      obtain rfl := Option.some.inj hf
      rw [← hQ]
      exact W.iret (v := (0 : Int32)) hx hb hr (fun t9 ht hW => ⟨⟨(0 : Int32), (), rfl, rfl, ⟨by rw [ht]; exact hP, hD⟩⟩, hS.F ht⟩) hS.2.2 d_Specifier_faultOfParts_136
    · have hf := in_ c_127 hf
      refine lv_bipush (v := 9) hx hb d_Specifier_faultOfParts_130 (by decide) ?_
      refine lv_goto (tgt := 136) hx hb d_Specifier_faultOfParts_132 (by decide) ?_
      obtain rfl := Option.some.inj hf
      rw [← hQ]
      exact W.iret (v := (9 : Int32)) hx hb hr (fun t9 ht hW => ⟨⟨(9 : Int32), (), rfl, rfl, ⟨by rw [ht]; exact hP, hD⟩⟩, hS.F ht⟩) hS.2.2 d_Specifier_faultOfParts_136
  have W_90 : ∀ (x1 : Int32) (b_x1 : bl x1), k_Specifier_faultOfParts_90 t_flags t_conversion x1 = some res → ∀ (H : Heap) (locs : List Loc) (ls : Array Slot), va_P (gD G) vwCl (w_Specifier_hasAny G qt t_index t_flags t_width t_precision t_conversion t_great t_known t_cutOff t_flagTwice t_last) H → va_D A (w_Specifier_hasAny G qt t_index t_flags t_width t_precision t_conversion t_great t_known t_cutOff t_flagTwice t_last) → va_S A s.heap H locs → lv_has ls 2 [(0, .ref qt), (1, .int x1)] → W p l e { frames := 4, cells := 0, slots := 0, locals := 160 } s m ([.ref qt] : List Value).toArray below meth c H locs 0 0 Q (F0 m 90 ls []) := by
    intro x1 b_x1 hf H locs ls hP hD hS hl
    unfold k_Specifier_faultOfParts_90 at hf
    refine lv_iload_n hx hb d_Specifier_faultOfParts_90 rfl (lv_at hl 1 rfl) ?_
    refine lv_if_eq (tgt := 117) hx hb d_Specifier_faultOfParts_91 (by decide) (fun c_91 => ?_) (fun c_91 => ?_)
    · have hf := ip_ c_91 hf
      exact W_117   hf _ _ _ hP hD hS (lv_sub hl [0] rfl)
    · have hf := in_ c_91 hf
      refine lv_aload_n hx hb d_Specifier_faultOfParts_94 rfl (lv_at hl 0 rfl) ?_
      refine lv_iconst (v := 4) hx hb d_Specifier_faultOfParts_95 (by decide) ?_
      refine lv_bipush (v := 8) hx hb d_Specifier_faultOfParts_96 (by decide) ?_
      obtain ⟨u_98, hu_98, hf⟩ := bd_ hf
      refine CALLWz (va_runV (As := [.int (4 : Int32), .int (8 : Int32)]) (rest := []) ⟨hx, hb, hml, hown, hg⟩ (c_Specifier_hasBoth l G K qt t_index t_flags t_width t_precision t_conversion t_great t_known t_cutOff t_flagTwice t_last (4 : Int32) (8 : Int32) _ u_98  hu_98) (cwV 2 hg (gV m_120 m_121 m_122 m_114 m_123) rfl rfl rfl (by decide +kernel) ⟨Nat.le_of_ble_eq_true rfl, Nat.le_of_ble_eq_true rfl⟩) ⟨PC_b, va_recv hK hP (ci := 5) (q0 := 0) rfl rfl, PC_p hE hS hAb hP hD⟩ rfl rfl hl.1 rfl (lv_room (Nat.le_of_ble_eq_true rfl)) d_Specifier_faultOfParts_98 ⟨Nat.zero_le _, Nat.zero_le _⟩) hP hD hS hA (fun bu_98 H locs hP hD hS => ?_)
      have hP : va_P (gD G) vwCl (w_Specifier_hasAny G qt t_index t_flags t_width t_precision t_conversion t_great t_known t_cutOff t_flagTwice t_last) H := hP
      have hD : va_D A (w_Specifier_hasAny G qt t_index t_flags t_width t_precision t_conversion t_great t_known t_cutOff t_flagTwice t_last) := hD
      refine lv_if_ne (tgt := 114) hx hb d_Specifier_faultOfParts_101 (by decide) (fun c_101 => ?_) (fun c_101 => ?_)
      · have hf := in_ c_101 hf
        refine lv_bipush (v := 7) hx hb d_Specifier_faultOfParts_114 (by decide) ?_
        obtain rfl := Option.some.inj hf
        rw [← hQ]
        exact W.iret (v := (7 : Int32)) hx hb hr (fun t9 ht hW => ⟨⟨(7 : Int32), (), rfl, rfl, ⟨by rw [ht]; exact hP, hD⟩⟩, hS.F ht⟩) hS.2.2 d_Specifier_faultOfParts_116
      · have hf := ip_ c_101 hf
        refine lv_aload_n hx hb d_Specifier_faultOfParts_104 rfl (lv_at hl 0 rfl) ?_
        refine lv_iconst (v := 1) hx hb d_Specifier_faultOfParts_105 (by decide) ?_
        refine lv_bipush (v := 16) hx hb d_Specifier_faultOfParts_106 (by decide) ?_
        obtain ⟨u_108, hu_108, hf⟩ := bd_ hf
        refine CALLWz (va_runV (As := [.int (1 : Int32), .int (16 : Int32)]) (rest := []) ⟨hx, hb, hml, hown, hg⟩ (c_Specifier_hasBoth l G K qt t_index t_flags t_width t_precision t_conversion t_great t_known t_cutOff t_flagTwice t_last (1 : Int32) (16 : Int32) _ u_108  hu_108) (cwV 2 hg (gV m_120 m_121 m_122 m_114 m_123) rfl rfl rfl (by decide +kernel) ⟨Nat.le_of_ble_eq_true rfl, Nat.le_of_ble_eq_true rfl⟩) ⟨PC_b, va_recv hK hP (ci := 5) (q0 := 0) rfl rfl, PC_p hE hS hAb hP hD⟩ rfl rfl hl.1 rfl (lv_room (Nat.le_of_ble_eq_true rfl)) d_Specifier_faultOfParts_108 ⟨Nat.zero_le _, Nat.zero_le _⟩) hP hD hS hA (fun bu_108 H locs hP hD hS => ?_)
        have hP : va_P (gD G) vwCl (w_Specifier_hasAny G qt t_index t_flags t_width t_precision t_conversion t_great t_known t_cutOff t_flagTwice t_last) H := hP
        have hD : va_D A (w_Specifier_hasAny G qt t_index t_flags t_width t_precision t_conversion t_great t_known t_cutOff t_flagTwice t_last) := hD
        refine lv_if_eq (tgt := 117) hx hb d_Specifier_faultOfParts_111 (by decide) (fun c_111 => ?_) (fun c_111 => ?_)
        · have hf := ip_ c_111 hf
          exact W_117   hf _ _ _ hP hD hS (lv_sub hl [0] rfl)
        · have hf := in_ c_111 hf
          refine lv_bipush (v := 7) hx hb d_Specifier_faultOfParts_114 (by decide) ?_
          obtain rfl := Option.some.inj hf
          rw [← hQ]
          exact W.iret (v := (7 : Int32)) hx hb hr (fun t9 ht hW => ⟨⟨(7 : Int32), (), rfl, rfl, ⟨by rw [ht]; exact hP, hD⟩⟩, hS.F ht⟩) hS.2.2 d_Specifier_faultOfParts_116
  have W_81 : ∀ (x1 : Int32) (k1 : Int32) (b_x1 : bl x1), k_Specifier_faultOfParts_81 t_flags t_conversion x1 k1 = some res → ∀ (H : Heap) (locs : List Loc) (ls : Array Slot), va_P (gD G) vwCl (w_Specifier_hasAny G qt t_index t_flags t_width t_precision t_conversion t_great t_known t_cutOff t_flagTwice t_last) H → va_D A (w_Specifier_hasAny G qt t_index t_flags t_width t_precision t_conversion t_great t_known t_cutOff t_flagTwice t_last) → va_S A s.heap H locs → lv_has ls 2 [(0, .ref qt), (1, .int x1)] → W p l e { frames := 4, cells := 0, slots := 0, locals := 160 } s m ([.ref qt] : List Value).toArray below meth c H locs 0 0 Q (F0 m 81 ls [.int k1, .ref qt]) := by
    intro x1 k1 b_x1 hf H locs ls hP hD hS hl
    unfold k_Specifier_faultOfParts_81 at hf
    obtain ⟨u_81, hu_81, hf⟩ := bd_ hf
    refine CALLWz (va_runV (As := [.int k1]) (rest := []) ⟨hx, hb, hml, hown, hg⟩ (c_Specifier_hasAny l G K qt t_index t_flags t_width t_precision t_conversion t_great t_known t_cutOff t_flagTwice t_last k1 _ u_81  hu_81) (cwV 1 hg (gV m_111 m_112 m_113 m_114 m_115) rfl rfl rfl (by decide +kernel) ⟨Nat.le_of_ble_eq_true rfl, Nat.le_of_ble_eq_true rfl⟩) ⟨PC_b, va_recv hK hP (ci := 5) (q0 := 0) rfl rfl, PC_p hE hS hAb hP hD⟩ rfl rfl hl.1 rfl (lv_room (Nat.le_of_ble_eq_true rfl)) d_Specifier_faultOfParts_81 ⟨Nat.zero_le _, Nat.zero_le _⟩) hP hD hS hA (fun bu_81 H locs hP hD hS => ?_)
    have hP : va_P (gD G) vwCl (w_Specifier_hasAny G qt t_index t_flags t_width t_precision t_conversion t_great t_known t_cutOff t_flagTwice t_last) H := hP
    have hD : va_D A (w_Specifier_hasAny G qt t_index t_flags t_width t_precision t_conversion t_great t_known t_cutOff t_flagTwice t_last) := hD
    refine lv_if_eq (tgt := 90) hx hb d_Specifier_faultOfParts_84 (by decide) (fun c_84 => ?_) (fun c_84 => ?_)
    · have hf := ip_ c_84 hf
      exact W_90 x1 b_x1 hf _ _ _ hP hD hS (lv_sub hl [0, 1] rfl)
    · have hf := in_ c_84 hf
      refine lv_bipush (v := 8) hx hb d_Specifier_faultOfParts_87 (by decide) ?_
      obtain rfl := Option.some.inj hf
      rw [← hQ]
      exact W.iret (v := (8 : Int32)) hx hb hr (fun t9 ht hW => ⟨⟨(8 : Int32), (), rfl, rfl, ⟨by rw [ht]; exact hP, hD⟩⟩, hS.F ht⟩) hS.2.2 d_Specifier_faultOfParts_89
  have W_62 : ∀ (x1 : Int32) (b_x1 : bl x1), k_Specifier_faultOfParts_62 t_flags t_width t_conversion x1 = some res → ∀ (H : Heap) (locs : List Loc) (ls : Array Slot), va_P (gD G) vwCl (w_Specifier_hasAny G qt t_index t_flags t_width t_precision t_conversion t_great t_known t_cutOff t_flagTwice t_last) H → va_D A (w_Specifier_hasAny G qt t_index t_flags t_width t_precision t_conversion t_great t_known t_cutOff t_flagTwice t_last) → va_S A s.heap H locs → lv_has ls 2 [(0, .ref qt), (1, .int x1)] → W p l e { frames := 4, cells := 0, slots := 0, locals := 160 } s m ([.ref qt] : List Value).toArray below meth c H locs 0 0 Q (F0 m 62 ls []) := by
    intro x1 b_x1 hf H locs ls hP hD hS hl
    unfold k_Specifier_faultOfParts_62 at hf
    refine lv_aload_n hx hb d_Specifier_faultOfParts_62 rfl (lv_at hl 0 rfl) ?_
    refine va_get (D := gD G) (ci := 5) (v := .int t_width) (C := R_Specifier) (T := F_Specifier) (N := 10) hx hb hg in_Specifier hown hK hP 0 rfl rfl 2 (by decide) (hg _ m_116) (fun _ h9 => h9) rfl d_Specifier_faultOfParts_63 ?_
    refine lv_iconst (v := -1) hx hb d_Specifier_faultOfParts_66 (by decide) ?_
    refine lv_icmp_ne (tgt := 90) hx hb d_Specifier_faultOfParts_67 (by decide) (fun c_67 => ?_) (fun c_67 => ?_)
    · have hf := in_ c_67 hf
      exact W_90 x1 b_x1 hf _ _ _ hP hD hS (lv_sub hl [0, 1] rfl)
    · have hf := ip_ c_67 hf
      refine lv_aload_n hx hb d_Specifier_faultOfParts_70 rfl (lv_at hl 0 rfl) ?_
      refine lv_iload_n hx hb d_Specifier_faultOfParts_71 rfl (lv_at hl 1 rfl) ?_
      refine lv_if_eq (tgt := 80) hx hb d_Specifier_faultOfParts_72 (by decide) (fun c_72 => ?_) (fun c_72 => ?_)
      · have hf := ip_ c_72 hf
        refine lv_iconst (v := 1) hx hb d_Specifier_faultOfParts_80 (by decide) ?_
        exact W_81 x1 (1 : Int32) b_x1 hf _ _ _ hP hD hS (lv_sub hl [0, 1] rfl)
      · have hf := in_ c_72 hf
        refine lv_bipush (v := 17) hx hb d_Specifier_faultOfParts_75 (by decide) ?_
        refine lv_goto (tgt := 81) hx hb d_Specifier_faultOfParts_77 (by decide) ?_
        exact W_81 x1 (17 : Int32) b_x1 hf _ _ _ hP hD hS (lv_sub hl [0, 1] rfl)
  have W_41 : ∀ (x1 : Int32) (b_x1 : bl x1), k_Specifier_faultOfParts_41 t_flags t_width t_conversion x1 = some res → ∀ (H : Heap) (locs : List Loc) (ls : Array Slot), va_P (gD G) vwCl (w_Specifier_hasAny G qt t_index t_flags t_width t_precision t_conversion t_great t_known t_cutOff t_flagTwice t_last) H → va_D A (w_Specifier_hasAny G qt t_index t_flags t_width t_precision t_conversion t_great t_known t_cutOff t_flagTwice t_last) → va_S A s.heap H locs → lv_has ls 2 [(0, .ref qt), (1, .int x1)] → W p l e { frames := 4, cells := 0, slots := 0, locals := 160 } s m ([.ref qt] : List Value).toArray below meth c H locs 0 0 Q (F0 m 41 ls []) := by
    intro x1 b_x1 hf H locs ls hP hD hS hl
    unfold k_Specifier_faultOfParts_41 at hf
    refine lv_aload_n hx hb d_Specifier_faultOfParts_41 rfl (lv_at hl 0 rfl) ?_
    refine va_get (D := gD G) (ci := 5) (v := .int t_conversion) (C := R_Specifier) (T := F_Specifier) (N := 10) hx hb hg in_Specifier hown hK hP 0 rfl rfl 4 (by decide) (hg _ m_118) (fun _ h9 => h9) rfl d_Specifier_faultOfParts_42 ?_
    refine lv_bipush (v := 37) hx hb d_Specifier_faultOfParts_45 (by decide) ?_
    refine lv_icmp_ne (tgt := 62) hx hb d_Specifier_faultOfParts_47 (by decide) (fun c_47 => ?_) (fun c_47 => ?_)
    · have hf := in_ c_47 hf
      exact W_62 x1 b_x1 hf _ _ _ hP hD hS (lv_sub hl [0, 1] rfl)
    · have hf := ip_ c_47 hf
      refine lv_aload_n hx hb d_Specifier_faultOfParts_50 rfl (lv_at hl 0 rfl) ?_
      refine lv_bipush (v := -2) hx hb d_Specifier_faultOfParts_51 (by decide) ?_
      obtain ⟨u_53, hu_53, hf⟩ := bd_ hf
      refine CALLWz (va_runV (As := [.int (-2 : Int32)]) (rest := []) ⟨hx, hb, hml, hown, hg⟩ (c_Specifier_hasAny l G K qt t_index t_flags t_width t_precision t_conversion t_great t_known t_cutOff t_flagTwice t_last (-2 : Int32) _ u_53  hu_53) (cwV 1 hg (gV m_111 m_112 m_113 m_114 m_115) rfl rfl rfl (by decide +kernel) ⟨Nat.le_of_ble_eq_true rfl, Nat.le_of_ble_eq_true rfl⟩) ⟨PC_b, va_recv hK hP (ci := 5) (q0 := 0) rfl rfl, PC_p hE hS hAb hP hD⟩ rfl rfl hl.1 rfl (lv_room (Nat.le_of_ble_eq_true rfl)) d_Specifier_faultOfParts_53 ⟨Nat.zero_le _, Nat.zero_le _⟩) hP hD hS hA (fun bu_53 H locs hP hD hS => ?_)
      have hP : va_P (gD G) vwCl (w_Specifier_hasAny G qt t_index t_flags t_width t_precision t_conversion t_great t_known t_cutOff t_flagTwice t_last) H := hP
      have hD : va_D A (w_Specifier_hasAny G qt t_index t_flags t_width t_precision t_conversion t_great t_known t_cutOff t_flagTwice t_last) := hD
      refine lv_if_eq (tgt := 62) hx hb d_Specifier_faultOfParts_56 (by decide) (fun c_56 => ?_) (fun c_56 => ?_)
      · have hf := ip_ c_56 hf
        exact W_62 x1 b_x1 hf _ _ _ hP hD hS (lv_sub hl [0, 1] rfl)
      · have hf := in_ c_56 hf
        refine lv_bipush (v := 7) hx hb d_Specifier_faultOfParts_59 (by decide) ?_
        obtain rfl := Option.some.inj hf
        rw [← hQ]
        exact W.iret (v := (7 : Int32)) hx hb hr (fun t9 ht hW => ⟨⟨(7 : Int32), (), rfl, rfl, ⟨by rw [ht]; exact hP, hD⟩⟩, hS.F ht⟩) hS.2.2 d_Specifier_faultOfParts_61
  have W_17 : ∀ (k0 : Int32) (b_k0 : bl k0), k_Specifier_faultOfParts_17 K t_flags t_width t_precision t_conversion k0 = some res → ∀ (H : Heap) (locs : List Loc) (ls : Array Slot), va_P (gD G) vwCl (w_Specifier_hasAny G qt t_index t_flags t_width t_precision t_conversion t_great t_known t_cutOff t_flagTwice t_last) H → va_D A (w_Specifier_hasAny G qt t_index t_flags t_width t_precision t_conversion t_great t_known t_cutOff t_flagTwice t_last) → va_S A s.heap H locs → lv_has ls 2 [(0, .ref qt)] → W p l e { frames := 4, cells := 0, slots := 0, locals := 160 } s m ([.ref qt] : List Value).toArray below meth c H locs 0 0 Q (F0 m 17 ls [.int k0]) := by
    intro k0 b_k0 hf H locs ls hP hD hS hl
    unfold k_Specifier_faultOfParts_17 at hf
    refine lv_istore_n (lv' := [(1, .int k0), (0, .ref qt)]) hx hb d_Specifier_faultOfParts_17 rfl hl (by decide) rfl (fun ls hl => ?_)
    refine lv_aload_n hx hb d_Specifier_faultOfParts_18 rfl (lv_at hl 1 rfl) ?_
    refine va_get (D := gD G) (ci := 5) (v := .int t_precision) (C := R_Specifier) (T := F_Specifier) (N := 10) hx hb hg in_Specifier hown hK hP 0 rfl rfl 3 (by decide) (hg _ m_117) (fun _ h9 => h9) rfl d_Specifier_faultOfParts_19 ?_
    refine lv_iconst (v := -1) hx hb d_Specifier_faultOfParts_22 (by decide) ?_
    refine lv_icmp_eq (tgt := 41) hx hb d_Specifier_faultOfParts_23 (by decide) (fun c_23 => ?_) (fun c_23 => ?_)
    · have hf := ip_ c_23 hf
      exact W_41 k0 b_k0 hf _ _ _ hP hD hS (lv_sub hl [1, 0] rfl)
    · have hf := in_ c_23 hf
      refine va_ldcS (own := R_Specifier) (tx := "%cdox") (q := gT G 3) hx hb hown (hE.sr ("SpecifierDesk$Specifier", 75, "%cdox", 3) (List.mem_of_getElem? (i := 3) rfl)) d_Specifier_faultOfParts_26 ?_
      refine lv_aload_n hx hb d_Specifier_faultOfParts_28 rfl (lv_at hl 1 rfl) ?_
      refine va_get (D := gD G) (ci := 5) (v := .int t_conversion) (C := R_Specifier) (T := F_Specifier) (N := 10) hx hb hg in_Specifier hown hK hP 0 rfl rfl 4 (by decide) (hg _ m_118) (fun _ h9 => h9) rfl d_Specifier_faultOfParts_29 ?_
      obtain ⟨u_32, hu_32, hf⟩ := bd_ hf
      refine CALLi (va_runV (As := [.int t_conversion]) (rest := []) ⟨hx, hb, hml, hown, hg⟩ (c_String_indexOf l G K 3 t_conversion _ u_32 (by decide) hu_32) (cwV 1 hg (gV m_119 m_51 m_52 m_21 m_53) rfl rfl rfl (by decide +kernel) ⟨Nat.le_of_ble_eq_true rfl, Nat.le_of_ble_eq_true rfl⟩) ⟨PC_b, vk_recv (hE.vs hAb) (by decide) hS, PC_p hE hS hAb (hP.sub [] rfl) (hD.sub [] (by decide) rfl)⟩ rfl rfl hl.1 rfl (lv_room (Nat.le_of_ble_eq_true rfl)) d_Specifier_faultOfParts_32 ⟨Nat.zero_le _, Nat.zero_le _⟩) hP hD hS hA [] rfl rfl rfl (fun H locs hP hD hS => ?_)
      have hP : va_P (gD G) vwCl (w_Specifier_hasAny G qt t_index t_flags t_width t_precision t_conversion t_great t_known t_cutOff t_flagTwice t_last) H := hP
      have hD : va_D A (w_Specifier_hasAny G qt t_index t_flags t_width t_precision t_conversion t_great t_known t_cutOff t_flagTwice t_last) := hD
      refine lv_if_lt (tgt := 41) hx hb d_Specifier_faultOfParts_35 (by decide) (fun c_35 => ?_) (fun c_35 => ?_)
      · have hf := ip_ c_35 hf
        exact W_41 k0 b_k0 hf _ _ _ hP hD hS (lv_sub hl [1, 0] rfl)
      · have hf := in_ c_35 hf
        refine lv_bipush (v := 6) hx hb d_Specifier_faultOfParts_38 (by decide) ?_
        obtain rfl := Option.some.inj hf
        rw [← hQ]
        exact W.iret (v := (6 : Int32)) hx hb hr (fun t9 ht hW => ⟨⟨(6 : Int32), (), rfl, rfl, ⟨by rw [ht]; exact hP, hD⟩⟩, hS.F ht⟩) hS.2.2 d_Specifier_faultOfParts_40
  unfold f_Specifier_faultOfParts at hf
  refine va_ldcS (own := R_Specifier) (tx := "doxefga") (q := gT G 2) hx hb hown (hE.sr ("SpecifierDesk$Specifier", 67, "doxefga", 2) (List.mem_of_getElem? (i := 2) rfl)) d_Specifier_faultOfParts_0 ?_
  refine lv_aload_n hx hb d_Specifier_faultOfParts_2 rfl (lv_at hl 0 rfl) ?_
  refine va_get (D := gD G) (ci := 5) (v := .int t_conversion) (C := R_Specifier) (T := F_Specifier) (N := 10) hx hb hg in_Specifier hown hK hP 0 rfl rfl 4 (by decide) (hg _ m_118) (fun _ h9 => h9) rfl d_Specifier_faultOfParts_3 ?_
  obtain ⟨u_6, hu_6, hf⟩ := bd_ hf
  refine CALLi (va_runV (As := [.int t_conversion]) (rest := []) ⟨hx, hb, hml, hown, hg⟩ (c_String_indexOf l G K 2 t_conversion _ u_6 (by decide) hu_6) (cwV 1 hg (gV m_119 m_51 m_52 m_21 m_53) rfl rfl rfl (by decide +kernel) ⟨Nat.le_of_ble_eq_true rfl, Nat.le_of_ble_eq_true rfl⟩) ⟨PC_b, vk_recv (hE.vs hAb) (by decide) hS, PC_p hE hS hAb (hP.sub [] rfl) (hD.sub [] (by decide) rfl)⟩ rfl rfl hl.1 rfl (lv_room (Nat.le_of_ble_eq_true rfl)) d_Specifier_faultOfParts_6 ⟨Nat.zero_le _, Nat.zero_le _⟩) hP hD hS hA [] rfl rfl rfl (fun H locs hP hD hS => ?_)
  have hP : va_P (gD G) vwCl (w_Specifier_hasAny G qt t_index t_flags t_width t_precision t_conversion t_great t_known t_cutOff t_flagTwice t_last) H := hP
  have hD : va_D A (w_Specifier_hasAny G qt t_index t_flags t_width t_precision t_conversion t_great t_known t_cutOff t_flagTwice t_last) := hD
  refine lv_if_lt (tgt := 16) hx hb d_Specifier_faultOfParts_9 (by decide) (fun c_9 => ?_) (fun c_9 => ?_)
  · have hf := ip_ c_9 hf
    refine lv_iconst (v := 0) hx hb d_Specifier_faultOfParts_16 (by decide) ?_
    exact W_17 (0 : Int32) bl_0 hf _ _ _ hP hD hS (lv_sub hl [0] rfl)
  · have hf := in_ c_9 hf
    refine lv_iconst (v := 1) hx hb d_Specifier_faultOfParts_12 (by decide) ?_
    refine lv_goto (tgt := 17) hx hb d_Specifier_faultOfParts_13 (by decide) ?_
    exact W_17 (1 : Int32) bl_1 hf _ _ _ hP hD hS (lv_sub hl [0] rfl)
theorem d_Specifier_fault_0 : decode cd_Specifier_fault 0 = .ok (.aload_n 0, 1) := by decide +kernel
theorem d_Specifier_fault_1 : decode cd_Specifier_fault 1 = .ok (.getfield 33, 3) := by decide +kernel
theorem d_Specifier_fault_4 : decode cd_Specifier_fault 4 = .ok (.ifCond .eq 5, 3) := by decide +kernel
theorem d_Specifier_fault_7 : decode cd_Specifier_fault 7 = .ok (.iconst 1, 1) := by decide +kernel
theorem d_Specifier_fault_8 : decode cd_Specifier_fault 8 = .ok (.ireturn, 1) := by decide +kernel
theorem d_Specifier_fault_9 : decode cd_Specifier_fault 9 = .ok (.aload_n 0, 1) := by decide +kernel
theorem d_Specifier_fault_10 : decode cd_Specifier_fault 10 = .ok (.getfield 9, 3) := by decide +kernel
theorem d_Specifier_fault_13 : decode cd_Specifier_fault 13 = .ok (.sipush 999, 3) := by decide +kernel
theorem d_Specifier_fault_16 : decode cd_Specifier_fault 16 = .ok (.if_icmp .gt 23, 3) := by decide +kernel
theorem d_Specifier_fault_19 : decode cd_Specifier_fault 19 = .ok (.aload_n 0, 1) := by decide +kernel
theorem d_Specifier_fault_20 : decode cd_Specifier_fault 20 = .ok (.getfield 16, 3) := by decide +kernel
theorem d_Specifier_fault_23 : decode cd_Specifier_fault 23 = .ok (.sipush 999, 3) := by decide +kernel
theorem d_Specifier_fault_26 : decode cd_Specifier_fault 26 = .ok (.if_icmp .gt 13, 3) := by decide +kernel
theorem d_Specifier_fault_29 : decode cd_Specifier_fault 29 = .ok (.aload_n 0, 1) := by decide +kernel
theorem d_Specifier_fault_30 : decode cd_Specifier_fault 30 = .ok (.getfield 19, 3) := by decide +kernel
theorem d_Specifier_fault_33 : decode cd_Specifier_fault 33 = .ok (.sipush 999, 3) := by decide +kernel
theorem d_Specifier_fault_36 : decode cd_Specifier_fault 36 = .ok (.if_icmp .le 5, 3) := by decide +kernel
theorem d_Specifier_fault_39 : decode cd_Specifier_fault 39 = .ok (.iconst 2, 1) := by decide +kernel
theorem d_Specifier_fault_40 : decode cd_Specifier_fault 40 = .ok (.ireturn, 1) := by decide +kernel
theorem d_Specifier_fault_41 : decode cd_Specifier_fault 41 = .ok (.aload_n 0, 1) := by decide +kernel
theorem d_Specifier_fault_42 : decode cd_Specifier_fault 42 = .ok (.getfield 36, 3) := by decide +kernel
theorem d_Specifier_fault_45 : decode cd_Specifier_fault 45 = .ok (.ifCond .eq 5, 3) := by decide +kernel
theorem d_Specifier_fault_48 : decode cd_Specifier_fault 48 = .ok (.iconst 3, 1) := by decide +kernel
theorem d_Specifier_fault_49 : decode cd_Specifier_fault 49 = .ok (.ireturn, 1) := by decide +kernel
theorem d_Specifier_fault_50 : decode cd_Specifier_fault 50 = .ok (.aload_n 0, 1) := by decide +kernel
theorem d_Specifier_fault_51 : decode cd_Specifier_fault 51 = .ok (.getfield 30, 3) := by decide +kernel
theorem d_Specifier_fault_54 : decode cd_Specifier_fault 54 = .ok (.ifCond .ne 5, 3) := by decide +kernel
theorem d_Specifier_fault_57 : decode cd_Specifier_fault 57 = .ok (.iconst 4, 1) := by decide +kernel
theorem d_Specifier_fault_58 : decode cd_Specifier_fault 58 = .ok (.ireturn, 1) := by decide +kernel
theorem d_Specifier_fault_59 : decode cd_Specifier_fault 59 = .ok (.aload_n 0, 1) := by decide +kernel
theorem d_Specifier_fault_60 : decode cd_Specifier_fault 60 = .ok (.getfield 22, 3) := by decide +kernel
theorem d_Specifier_fault_63 : decode cd_Specifier_fault 63 = .ok (.bipush 110, 2) := by decide +kernel
theorem d_Specifier_fault_65 : decode cd_Specifier_fault 65 = .ok (.if_icmp .ne 10, 3) := by decide +kernel
theorem d_Specifier_fault_68 : decode cd_Specifier_fault 68 = .ok (.aload_n 0, 1) := by decide +kernel
theorem d_Specifier_fault_69 : decode cd_Specifier_fault 69 = .ok (.invokevirtual 60, 3) := by decide +kernel
theorem d_Specifier_fault_72 : decode cd_Specifier_fault 72 = .ok (.goto 7, 3) := by decide +kernel
theorem d_Specifier_fault_75 : decode cd_Specifier_fault 75 = .ok (.aload_n 0, 1) := by decide +kernel
theorem d_Specifier_fault_76 : decode cd_Specifier_fault 76 = .ok (.invokevirtual 64, 3) := by decide +kernel
theorem d_Specifier_fault_79 : decode cd_Specifier_fault 79 = .ok (.ireturn, 1) := by decide +kernel
theorem m_128 : Cond.fieldLink R_Specifier 33 "SpecifierDesk$Specifier" "cutOff" "Z" ∈ gw := gm (i := 151) (by decide +kernel) (by decide +kernel)
theorem m_129 : Cond.fieldLink R_Specifier 9 "SpecifierDesk$Specifier" "index" "I" ∈ gw := gm (i := 138) (by decide +kernel) (by decide +kernel)
theorem m_130 : Cond.fieldLink R_Specifier 36 "SpecifierDesk$Specifier" "flagTwice" "Z" ∈ gw := gm (i := 152) (by decide +kernel) (by decide +kernel)
theorem m_131 : Cond.fieldLink R_Specifier 30 "SpecifierDesk$Specifier" "known" "Z" ∈ gw := gm (i := 150) (by decide +kernel) (by decide +kernel)
theorem m_132 : Cond.methodLink R_Specifier 64 y_Specifier_faultOfParts ∈ gw := gm (i := 559) (by decide +kernel) (by decide +kernel)
theorem m_133 : Cond.instanceMethod y_Specifier_faultOfParts ∈ gw := gm (i := 561) (by decide +kernel) (by decide +kernel)
theorem m_134 : Cond.selects R_Specifier y_Specifier_faultOfParts y_Specifier_faultOfParts ∈ gw := gm (i := 10) (by decide +kernel) (by decide +kernel)
set_option maxRecDepth 100000 in
theorem m_135 : Cond.code y_Specifier_faultOfParts cd_Specifier_faultOfParts 2 (some .int) ∈ gw := gm (i := 562) rfl rfl
theorem m_136 : Cond.methodLink R_Specifier 60 y_Specifier_faultOfLineEnd ∈ gw := gm (i := 555) (by decide +kernel) (by decide +kernel)
theorem m_137 : Cond.instanceMethod y_Specifier_faultOfLineEnd ∈ gw := gm (i := 557) (by decide +kernel) (by decide +kernel)
theorem m_138 : Cond.selects R_Specifier y_Specifier_faultOfLineEnd y_Specifier_faultOfLineEnd ∈ gw := gm (i := 9) (by decide +kernel) (by decide +kernel)
set_option maxRecDepth 100000 in
theorem m_139 : Cond.code y_Specifier_faultOfLineEnd cd_Specifier_faultOfLineEnd 1 (some .int) ∈ gw := gm (i := 558) rfl rfl
def f_Specifier_fault (K : Nat) (t_index : Int32) (t_flags : Int32) (t_width : Int32) (t_precision : Int32) (t_conversion : Int32) (t_known : Int32) (t_cutOff : Int32) (t_flagTwice : Int32) : Option Int32 :=
  (if t_cutOff = 0 then (if (999 : Int32) < t_index then some (2 : Int32) else (if (999 : Int32) < t_width then some (2 : Int32) else (if t_precision ≤ (999 : Int32) then (if t_flagTwice = 0 then (if t_known = 0 then some (4 : Int32) else (if t_conversion = (110 : Int32) then ((f_Specifier_faultOfLineEnd t_flags t_width t_precision).bind fun u_69 => some u_69) else ((f_Specifier_faultOfParts K t_flags t_width t_precision t_conversion).bind fun u_76 => some u_76))) else some (3 : Int32)) else some (2 : Int32)))) else some (1 : Int32))
set_option maxHeartbeats 4000000 in
set_option maxRecDepth 100000 in
theorem c_Specifier_fault (l : Launch) (G : Gt) (K : Nat) (qt : Nat) (t_index : Int32) (t_flags : Int32) (t_width : Int32) (t_precision : Int32) (t_conversion : Int32) (t_great : Int32) (t_known : Int32) (t_cutOff : Int32) (t_flagTwice : Int32) (t_last : Int32) (sz : Nat) (res : Int32)   (hf : f_Specifier_fault K t_index t_flags t_width t_precision t_conversion t_known t_cutOff t_flagTwice = some res) : Met l y_Specifier_fault (.code y_Specifier_fault cd_Specifier_fault 1 (some .int) :: gw) { frames := 5, cells := 0, slots := 0, locals := 200 } (PC G ([.ref qt] : List Value) sz (w_Specifier_hasAny G qt t_index t_flags t_width t_precision t_conversion t_great t_known t_cutOff t_flagTwice t_last)) (QI G res (va_A (w_Specifier_hasAny G qt t_index t_flags t_width t_precision t_conversion t_great t_known t_cutOff t_flagTwice t_last) sz) (w_Specifier_hasAny G qt t_index t_flags t_width t_precision t_conversion t_great t_known t_cutOff t_flagTwice t_last)) 0 0 (va_A (w_Specifier_hasAny G qt t_index t_flags t_width t_precision t_conversion t_great t_known t_cutOff t_flagTwice t_last) sz) := by
  refine Met.ofW (cc := cd_Specifier_fault) (maxL := 1) (ret := (some .int)) (by decide) rfl ?_
  intro p e s m args below meth c s₁ B hml hv
  obtain ⟨rfl, hsz, hP, hE, hD0⟩ := hv
  have hx := B.exec
  have hb := B.bytes
  have hr := B.returns
  have hts := atoms_spec (ws := (.code y_Specifier_fault cd_Specifier_fault 1 (some .int) :: gw)) B.pre
  have hg : ∀ w ∈ gw, w.before _ s = true := fun w h => hts w (List.mem_cons_of_mem _ h)
  have hown : s.vm.findClass R_Specifier = some m.cls := findClass_of_methodNamed B.named
  have hlocks := B.notSynchronized
  subst hsz
  have hK := hE.K
  have hD := hD0.self (sz := s.heap.size)
  have hAb := hE.ab hD0
  obtain ⟨Q, hQ⟩ : ∃ Q, MQ below (QI G res (va_A (w_Specifier_hasAny G qt t_index t_flags t_width t_precision t_conversion t_great t_known t_cutOff t_flagTwice t_last) s.heap.size) (w_Specifier_hasAny G qt t_index t_flags t_width t_precision t_conversion t_great t_known t_cutOff t_flagTwice t_last)) ([.ref qt] : List Value).toArray s 0 0 (va_A (w_Specifier_hasAny G qt t_index t_flags t_width t_precision t_conversion t_great t_known t_cutOff t_flagTwice t_last) s.heap.size) = Q := ⟨_, rfl⟩
  show W p l e { frames := 5, cells := 0, slots := 0, locals := 200 } s m ([.ref qt] : List Value).toArray below meth c s.heap [] 0 0 (MQ below (QI G res (va_A (w_Specifier_hasAny G qt t_index t_flags t_width t_precision t_conversion t_great t_known t_cutOff t_flagTwice t_last) s.heap.size) (w_Specifier_hasAny G qt t_index t_flags t_width t_precision t_conversion t_great t_known t_cutOff t_flagTwice t_last)) ([.ref qt] : List Value).toArray s 0 0 (va_A (w_Specifier_hasAny G qt t_index t_flags t_width t_precision t_conversion t_great t_known t_cutOff t_flagTwice t_last) s.heap.size)) _
  rw [hQ]
  have hA : ∀ q : Nat, s.heap.size ≤ q → va_A (w_Specifier_hasAny G qt t_index t_flags t_width t_precision t_conversion t_great t_known t_cutOff t_flagTwice t_last) s.heap.size q := fun q h => Or.inr h
  obtain ⟨A, hAe⟩ : ∃ A, va_A (w_Specifier_hasAny G qt t_index t_flags t_width t_precision t_conversion t_great t_known t_cutOff t_flagTwice t_last) s.heap.size = A := ⟨_, rfl⟩
  rw [hAe] at hA hD hAb hQ
  have hS : va_S A s.heap s.heap [] := va_S.rf
  have hl := lv_entry (([.ref qt] : List Value)) (n := 1) (Nat.le_of_ble_eq_true rfl)
  rw [lg_entry_eq]
  generalize (lg_sl (([.ref qt] : List Value)) ++ List.replicate (1 - (lg_sl (([.ref qt] : List Value))).length) Slot.unset).toArray = ls at hl ⊢
  have hl : lv_has ls 1 [(0, .ref qt)] := hl
  unfold f_Specifier_fault at hf
  refine lv_aload_n hx hb d_Specifier_fault_0 rfl (lv_at hl 0 rfl) ?_
  refine va_get (D := gD G) (ci := 5) (v := .int t_cutOff) (C := R_Specifier) (T := F_Specifier) (N := 10) hx hb hg in_Specifier hown hK hP 0 rfl rfl 7 (by decide) (hg _ m_128) (fun _ h9 => h9) rfl d_Specifier_fault_1 ?_
  refine lv_if_eq (tgt := 9) hx hb d_Specifier_fault_4 (by decide) (fun c_4 => ?_) (fun c_4 => ?_)
  · have hf := ip_ c_4 hf
    refine lv_aload_n hx hb d_Specifier_fault_9 rfl (lv_at hl 0 rfl) ?_
    refine va_get (D := gD G) (ci := 5) (v := .int t_index) (C := R_Specifier) (T := F_Specifier) (N := 10) hx hb hg in_Specifier hown hK hP 0 rfl rfl 0 (by decide) (hg _ m_129) (fun _ h9 => h9) rfl d_Specifier_fault_10 ?_
    refine lv_sipush (v := 999) hx hb d_Specifier_fault_13 (by decide) ?_
    refine lv_icmp_gt (tgt := 39) hx hb d_Specifier_fault_16 (by decide) (fun c_16 => ?_) (fun c_16 => ?_)
    · have hf := ip_ c_16 hf
      refine lv_iconst (v := 2) hx hb d_Specifier_fault_39 (by decide) ?_
      obtain rfl := Option.some.inj hf
      rw [← hQ]
      exact W.iret (v := (2 : Int32)) hx hb hr (fun t9 ht hW => ⟨⟨(2 : Int32), (), rfl, rfl, ⟨by rw [ht]; exact hP, hD⟩⟩, hS.F ht⟩) hS.2.2 d_Specifier_fault_40
    · have hf := in_ c_16 hf
      refine lv_aload_n hx hb d_Specifier_fault_19 rfl (lv_at hl 0 rfl) ?_
      refine va_get (D := gD G) (ci := 5) (v := .int t_width) (C := R_Specifier) (T := F_Specifier) (N := 10) hx hb hg in_Specifier hown hK hP 0 rfl rfl 2 (by decide) (hg _ m_116) (fun _ h9 => h9) rfl d_Specifier_fault_20 ?_
      refine lv_sipush (v := 999) hx hb d_Specifier_fault_23 (by decide) ?_
      refine lv_icmp_gt (tgt := 39) hx hb d_Specifier_fault_26 (by decide) (fun c_26 => ?_) (fun c_26 => ?_)
      · have hf := ip_ c_26 hf
        refine lv_iconst (v := 2) hx hb d_Specifier_fault_39 (by decide) ?_
        obtain rfl := Option.some.inj hf
        rw [← hQ]
        exact W.iret (v := (2 : Int32)) hx hb hr (fun t9 ht hW => ⟨⟨(2 : Int32), (), rfl, rfl, ⟨by rw [ht]; exact hP, hD⟩⟩, hS.F ht⟩) hS.2.2 d_Specifier_fault_40
      · have hf := in_ c_26 hf
        refine lv_aload_n hx hb d_Specifier_fault_29 rfl (lv_at hl 0 rfl) ?_
        refine va_get (D := gD G) (ci := 5) (v := .int t_precision) (C := R_Specifier) (T := F_Specifier) (N := 10) hx hb hg in_Specifier hown hK hP 0 rfl rfl 3 (by decide) (hg _ m_117) (fun _ h9 => h9) rfl d_Specifier_fault_30 ?_
        refine lv_sipush (v := 999) hx hb d_Specifier_fault_33 (by decide) ?_
        refine lv_icmp_le (tgt := 41) hx hb d_Specifier_fault_36 (by decide) (fun c_36 => ?_) (fun c_36 => ?_)
        · have hf := ip_ c_36 hf
          refine lv_aload_n hx hb d_Specifier_fault_41 rfl (lv_at hl 0 rfl) ?_
          refine va_get (D := gD G) (ci := 5) (v := .int t_flagTwice) (C := R_Specifier) (T := F_Specifier) (N := 10) hx hb hg in_Specifier hown hK hP 0 rfl rfl 8 (by decide) (hg _ m_130) (fun _ h9 => h9) rfl d_Specifier_fault_42 ?_
          refine lv_if_eq (tgt := 50) hx hb d_Specifier_fault_45 (by decide) (fun c_45 => ?_) (fun c_45 => ?_)
          · have hf := ip_ c_45 hf
            refine lv_aload_n hx hb d_Specifier_fault_50 rfl (lv_at hl 0 rfl) ?_
            refine va_get (D := gD G) (ci := 5) (v := .int t_known) (C := R_Specifier) (T := F_Specifier) (N := 10) hx hb hg in_Specifier hown hK hP 0 rfl rfl 6 (by decide) (hg _ m_131) (fun _ h9 => h9) rfl d_Specifier_fault_51 ?_
            refine lv_if_ne (tgt := 59) hx hb d_Specifier_fault_54 (by decide) (fun c_54 => ?_) (fun c_54 => ?_)
            · have hf := in_ c_54 hf
              refine lv_aload_n hx hb d_Specifier_fault_59 rfl (lv_at hl 0 rfl) ?_
              refine va_get (D := gD G) (ci := 5) (v := .int t_conversion) (C := R_Specifier) (T := F_Specifier) (N := 10) hx hb hg in_Specifier hown hK hP 0 rfl rfl 4 (by decide) (hg _ m_118) (fun _ h9 => h9) rfl d_Specifier_fault_60 ?_
              refine lv_bipush (v := 110) hx hb d_Specifier_fault_63 (by decide) ?_
              refine lv_icmp_ne (tgt := 75) hx hb d_Specifier_fault_65 (by decide) (fun c_65 => ?_) (fun c_65 => ?_)
              · have hf := in_ c_65 hf
                refine lv_aload_n hx hb d_Specifier_fault_75 rfl (lv_at hl 0 rfl) ?_
                obtain ⟨u_76, hu_76, hf⟩ := bd_ hf
                refine CALLWi (va_runV (As := []) (rest := []) ⟨hx, hb, hml, hown, hg⟩ (c_Specifier_faultOfParts l G K qt t_index t_flags t_width t_precision t_conversion t_great t_known t_cutOff t_flagTwice t_last _ u_76  hu_76) (cwV 0 hg (gV m_132 m_133 m_134 m_114 m_135) rfl rfl rfl (by decide +kernel) ⟨Nat.le_of_ble_eq_true rfl, Nat.le_of_ble_eq_true rfl⟩) ⟨PC_b, va_recv hK hP (ci := 5) (q0 := 0) rfl rfl, PC_p hE hS hAb hP hD⟩ rfl rfl hl.1 rfl (lv_room (Nat.le_of_ble_eq_true rfl)) d_Specifier_fault_76 ⟨Nat.zero_le _, Nat.zero_le _⟩) hP hD hS hA (fun H locs hP hD hS => ?_)
                have hP : va_P (gD G) vwCl (w_Specifier_hasAny G qt t_index t_flags t_width t_precision t_conversion t_great t_known t_cutOff t_flagTwice t_last) H := hP
                have hD : va_D A (w_Specifier_hasAny G qt t_index t_flags t_width t_precision t_conversion t_great t_known t_cutOff t_flagTwice t_last) := hD
                obtain rfl := Option.some.inj hf
                rw [← hQ]
                exact W.iret (v := u_76) hx hb hr (fun t9 ht hW => ⟨⟨u_76, (), rfl, rfl, ⟨by rw [ht]; exact hP, hD⟩⟩, hS.F ht⟩) hS.2.2 d_Specifier_fault_79
              · have hf := ip_ c_65 hf
                refine lv_aload_n hx hb d_Specifier_fault_68 rfl (lv_at hl 0 rfl) ?_
                obtain ⟨u_69, hu_69, hf⟩ := bd_ hf
                refine CALLWi (va_runV (As := []) (rest := []) ⟨hx, hb, hml, hown, hg⟩ (c_Specifier_faultOfLineEnd l G K qt t_index t_flags t_width t_precision t_conversion t_great t_known t_cutOff t_flagTwice t_last _ u_69  hu_69) (cwV 0 hg (gV m_136 m_137 m_138 m_114 m_139) rfl rfl rfl (by decide +kernel) ⟨Nat.le_of_ble_eq_true rfl, Nat.le_of_ble_eq_true rfl⟩) ⟨PC_b, va_recv hK hP (ci := 5) (q0 := 0) rfl rfl, PC_p hE hS hAb hP hD⟩ rfl rfl hl.1 rfl (lv_room (Nat.le_of_ble_eq_true rfl)) d_Specifier_fault_69 ⟨Nat.zero_le _, Nat.zero_le _⟩) hP hD hS hA (fun H locs hP hD hS => ?_)
                have hP : va_P (gD G) vwCl (w_Specifier_hasAny G qt t_index t_flags t_width t_precision t_conversion t_great t_known t_cutOff t_flagTwice t_last) H := hP
                have hD : va_D A (w_Specifier_hasAny G qt t_index t_flags t_width t_precision t_conversion t_great t_known t_cutOff t_flagTwice t_last) := hD
                refine lv_goto (tgt := 79) hx hb d_Specifier_fault_72 (by decide) ?_
                obtain rfl := Option.some.inj hf
                rw [← hQ]
                exact W.iret (v := u_69) hx hb hr (fun t9 ht hW => ⟨⟨u_69, (), rfl, rfl, ⟨by rw [ht]; exact hP, hD⟩⟩, hS.F ht⟩) hS.2.2 d_Specifier_fault_79
            · have hf := ip_ c_54 hf
              refine lv_iconst (v := 4) hx hb d_Specifier_fault_57 (by decide) ?_
              obtain rfl := Option.some.inj hf
              rw [← hQ]
              exact W.iret (v := (4 : Int32)) hx hb hr (fun t9 ht hW => ⟨⟨(4 : Int32), (), rfl, rfl, ⟨by rw [ht]; exact hP, hD⟩⟩, hS.F ht⟩) hS.2.2 d_Specifier_fault_58
          · have hf := in_ c_45 hf
            refine lv_iconst (v := 3) hx hb d_Specifier_fault_48 (by decide) ?_
            obtain rfl := Option.some.inj hf
            rw [← hQ]
            exact W.iret (v := (3 : Int32)) hx hb hr (fun t9 ht hW => ⟨⟨(3 : Int32), (), rfl, rfl, ⟨by rw [ht]; exact hP, hD⟩⟩, hS.F ht⟩) hS.2.2 d_Specifier_fault_49
        · have hf := in_ c_36 hf
          refine lv_iconst (v := 2) hx hb d_Specifier_fault_39 (by decide) ?_
          obtain rfl := Option.some.inj hf
          rw [← hQ]
          exact W.iret (v := (2 : Int32)) hx hb hr (fun t9 ht hW => ⟨⟨(2 : Int32), (), rfl, rfl, ⟨by rw [ht]; exact hP, hD⟩⟩, hS.F ht⟩) hS.2.2 d_Specifier_fault_40
  · have hf := in_ c_4 hf
    refine lv_iconst (v := 1) hx hb d_Specifier_fault_7 (by decide) ?_
    obtain rfl := Option.some.inj hf
    rw [← hQ]
    exact W.iret (v := (1 : Int32)) hx hb hr (fun t9 ht hW => ⟨⟨(1 : Int32), (), rfl, rfl, ⟨by rw [ht]; exact hP, hD⟩⟩, hS.F ht⟩) hS.2.2 d_Specifier_fault_8
theorem d_Specifier_flagOf_0 : decode cd_Specifier_flagOf 0 = .ok (.iload_n 0, 1) := by decide +kernel
theorem d_Specifier_flagOf_1 : decode cd_Specifier_flagOf 1 = .ok (.tableswitch 101 32 48 #[89, 101, 101, 85, 101, 101, 101, 101, 98, 101, 101, 87, 95, 83, 101, 101, 92], 83) := by decide +kernel
theorem d_Specifier_flagOf_84 : decode cd_Specifier_flagOf 84 = .ok (.iconst 1, 1) := by decide +kernel
theorem d_Specifier_flagOf_85 : decode cd_Specifier_flagOf 85 = .ok (.ireturn, 1) := by decide +kernel
theorem d_Specifier_flagOf_86 : decode cd_Specifier_flagOf 86 = .ok (.iconst 2, 1) := by decide +kernel
theorem d_Specifier_flagOf_87 : decode cd_Specifier_flagOf 87 = .ok (.ireturn, 1) := by decide +kernel
theorem d_Specifier_flagOf_88 : decode cd_Specifier_flagOf 88 = .ok (.iconst 4, 1) := by decide +kernel
theorem d_Specifier_flagOf_89 : decode cd_Specifier_flagOf 89 = .ok (.ireturn, 1) := by decide +kernel
theorem d_Specifier_flagOf_90 : decode cd_Specifier_flagOf 90 = .ok (.bipush 8, 2) := by decide +kernel
theorem d_Specifier_flagOf_92 : decode cd_Specifier_flagOf 92 = .ok (.ireturn, 1) := by decide +kernel
theorem d_Specifier_flagOf_93 : decode cd_Specifier_flagOf 93 = .ok (.bipush 16, 2) := by decide +kernel
theorem d_Specifier_flagOf_95 : decode cd_Specifier_flagOf 95 = .ok (.ireturn, 1) := by decide +kernel
theorem d_Specifier_flagOf_96 : decode cd_Specifier_flagOf 96 = .ok (.bipush 32, 2) := by decide +kernel
theorem d_Specifier_flagOf_98 : decode cd_Specifier_flagOf 98 = .ok (.ireturn, 1) := by decide +kernel
theorem d_Specifier_flagOf_99 : decode cd_Specifier_flagOf 99 = .ok (.bipush 64, 2) := by decide +kernel
theorem d_Specifier_flagOf_101 : decode cd_Specifier_flagOf 101 = .ok (.ireturn, 1) := by decide +kernel
theorem d_Specifier_flagOf_102 : decode cd_Specifier_flagOf 102 = .ok (.iconst 0, 1) := by decide +kernel
theorem d_Specifier_flagOf_103 : decode cd_Specifier_flagOf 103 = .ok (.ireturn, 1) := by decide +kernel
def f_Specifier_flagOf (a1 : Int32) : Option Int32 :=
  (if a1 = 32 then some (8 : Int32) else (if a1 = 35 then some (2 : Int32) else (if a1 = 40 then some (64 : Int32) else (if a1 = 43 then some (4 : Int32) else (if a1 = 44 then some (32 : Int32) else (if a1 = 45 then some (1 : Int32) else (if a1 = 48 then some (16 : Int32) else some (0 : Int32))))))))
set_option maxHeartbeats 4000000 in
set_option maxRecDepth 100000 in
theorem c_Specifier_flagOf (l : Launch) (G : Gt) (K : Nat) (a1 : Int32) (sz : Nat) (res : Int32)   (hf : f_Specifier_flagOf a1 = some res) : Met l y_Specifier_flagOf (.code y_Specifier_flagOf cd_Specifier_flagOf 1 (some .int) :: gw) { frames := 0, cells := 0, slots := 0, locals := 0 } (PC G ([.int a1] : List Value) sz (w_Preconditions_checkIndexn G )) (QI G res (va_A (w_Preconditions_checkIndexn G ) sz) (w_Preconditions_checkIndexn G )) 0 0 (va_A (w_Preconditions_checkIndexn G ) sz) := by
  refine Met.ofW (cc := cd_Specifier_flagOf) (maxL := 1) (ret := (some .int)) (by decide) rfl ?_
  intro p e s m args below meth c s₁ B hml hv
  obtain ⟨rfl, hsz, hP, hE, hD0⟩ := hv
  have hx := B.exec
  have hb := B.bytes
  have hr := B.returns
  have hts := atoms_spec (ws := (.code y_Specifier_flagOf cd_Specifier_flagOf 1 (some .int) :: gw)) B.pre
  have hg : ∀ w ∈ gw, w.before _ s = true := fun w h => hts w (List.mem_cons_of_mem _ h)
  have hown : s.vm.findClass R_Specifier = some m.cls := findClass_of_methodNamed B.named
  have hlocks := B.notSynchronized
  subst hsz
  have hK := hE.K
  have hD := hD0.self (sz := s.heap.size)
  have hAb := hE.ab hD0
  obtain ⟨Q, hQ⟩ : ∃ Q, MQ below (QI G res (va_A (w_Preconditions_checkIndexn G ) s.heap.size) (w_Preconditions_checkIndexn G )) ([.int a1] : List Value).toArray s 0 0 (va_A (w_Preconditions_checkIndexn G ) s.heap.size) = Q := ⟨_, rfl⟩
  show W p l e { frames := 0, cells := 0, slots := 0, locals := 0 } s m ([.int a1] : List Value).toArray below meth c s.heap [] 0 0 (MQ below (QI G res (va_A (w_Preconditions_checkIndexn G ) s.heap.size) (w_Preconditions_checkIndexn G )) ([.int a1] : List Value).toArray s 0 0 (va_A (w_Preconditions_checkIndexn G ) s.heap.size)) _
  rw [hQ]
  have hA : ∀ q : Nat, s.heap.size ≤ q → va_A (w_Preconditions_checkIndexn G ) s.heap.size q := fun q h => Or.inr h
  obtain ⟨A, hAe⟩ : ∃ A, va_A (w_Preconditions_checkIndexn G ) s.heap.size = A := ⟨_, rfl⟩
  rw [hAe] at hA hD hAb hQ
  have hS : va_S A s.heap s.heap [] := va_S.rf
  have hl := lv_entry (([.int a1] : List Value)) (n := 1) (Nat.le_of_ble_eq_true rfl)
  rw [lg_entry_eq]
  generalize (lg_sl (([.int a1] : List Value)) ++ List.replicate (1 - (lg_sl (([.int a1] : List Value))).length) Slot.unset).toArray = ls at hl ⊢
  have hl : lv_has ls 1 [(0, .int a1)] := hl
  unfold f_Specifier_flagOf at hf
  refine lv_iload_n hx hb d_Specifier_flagOf_0 rfl (lv_at hl 0 rfl) ?_
  by_cases c_1_0 : a1 = 32
  · have hf := ip_ c_1_0 hf
    refine lv_tableIn (tgt := 90) hx hb d_Specifier_flagOf_1 (by rw [c_1_0]; decide) (by rw [c_1_0]; decide) (by rw [c_1_0]; rfl) (by decide) ?_
    refine lv_bipush (v := 8) hx hb d_Specifier_flagOf_90 (by decide) ?_
    obtain rfl := Option.some.inj hf
    rw [← hQ]
    exact W.iret (v := (8 : Int32)) hx hb hr (fun t9 ht hW => ⟨⟨(8 : Int32), (), rfl, rfl, ⟨by rw [ht]; exact hP, hD⟩⟩, hS.F ht⟩) hS.2.2 d_Specifier_flagOf_92
  · have hf := in_ c_1_0 hf
    by_cases c_1_1 : a1 = 35
    · have hf := ip_ c_1_1 hf
      refine lv_tableIn (tgt := 86) hx hb d_Specifier_flagOf_1 (by rw [c_1_1]; decide) (by rw [c_1_1]; decide) (by rw [c_1_1]; rfl) (by decide) ?_
      refine lv_iconst (v := 2) hx hb d_Specifier_flagOf_86 (by decide) ?_
      obtain rfl := Option.some.inj hf
      rw [← hQ]
      exact W.iret (v := (2 : Int32)) hx hb hr (fun t9 ht hW => ⟨⟨(2 : Int32), (), rfl, rfl, ⟨by rw [ht]; exact hP, hD⟩⟩, hS.F ht⟩) hS.2.2 d_Specifier_flagOf_87
    · have hf := in_ c_1_1 hf
      by_cases c_1_2 : a1 = 40
      · have hf := ip_ c_1_2 hf
        refine lv_tableIn (tgt := 99) hx hb d_Specifier_flagOf_1 (by rw [c_1_2]; decide) (by rw [c_1_2]; decide) (by rw [c_1_2]; rfl) (by decide) ?_
        refine lv_bipush (v := 64) hx hb d_Specifier_flagOf_99 (by decide) ?_
        obtain rfl := Option.some.inj hf
        rw [← hQ]
        exact W.iret (v := (64 : Int32)) hx hb hr (fun t9 ht hW => ⟨⟨(64 : Int32), (), rfl, rfl, ⟨by rw [ht]; exact hP, hD⟩⟩, hS.F ht⟩) hS.2.2 d_Specifier_flagOf_101
      · have hf := in_ c_1_2 hf
        by_cases c_1_3 : a1 = 43
        · have hf := ip_ c_1_3 hf
          refine lv_tableIn (tgt := 88) hx hb d_Specifier_flagOf_1 (by rw [c_1_3]; decide) (by rw [c_1_3]; decide) (by rw [c_1_3]; rfl) (by decide) ?_
          refine lv_iconst (v := 4) hx hb d_Specifier_flagOf_88 (by decide) ?_
          obtain rfl := Option.some.inj hf
          rw [← hQ]
          exact W.iret (v := (4 : Int32)) hx hb hr (fun t9 ht hW => ⟨⟨(4 : Int32), (), rfl, rfl, ⟨by rw [ht]; exact hP, hD⟩⟩, hS.F ht⟩) hS.2.2 d_Specifier_flagOf_89
        · have hf := in_ c_1_3 hf
          by_cases c_1_4 : a1 = 44
          · have hf := ip_ c_1_4 hf
            refine lv_tableIn (tgt := 96) hx hb d_Specifier_flagOf_1 (by rw [c_1_4]; decide) (by rw [c_1_4]; decide) (by rw [c_1_4]; rfl) (by decide) ?_
            refine lv_bipush (v := 32) hx hb d_Specifier_flagOf_96 (by decide) ?_
            obtain rfl := Option.some.inj hf
            rw [← hQ]
            exact W.iret (v := (32 : Int32)) hx hb hr (fun t9 ht hW => ⟨⟨(32 : Int32), (), rfl, rfl, ⟨by rw [ht]; exact hP, hD⟩⟩, hS.F ht⟩) hS.2.2 d_Specifier_flagOf_98
          · have hf := in_ c_1_4 hf
            by_cases c_1_5 : a1 = 45
            · have hf := ip_ c_1_5 hf
              refine lv_tableIn (tgt := 84) hx hb d_Specifier_flagOf_1 (by rw [c_1_5]; decide) (by rw [c_1_5]; decide) (by rw [c_1_5]; rfl) (by decide) ?_
              refine lv_iconst (v := 1) hx hb d_Specifier_flagOf_84 (by decide) ?_
              obtain rfl := Option.some.inj hf
              rw [← hQ]
              exact W.iret (v := (1 : Int32)) hx hb hr (fun t9 ht hW => ⟨⟨(1 : Int32), (), rfl, rfl, ⟨by rw [ht]; exact hP, hD⟩⟩, hS.F ht⟩) hS.2.2 d_Specifier_flagOf_85
            · have hf := in_ c_1_5 hf
              by_cases c_1_6 : a1 = 48
              · have hf := ip_ c_1_6 hf
                refine lv_tableIn (tgt := 93) hx hb d_Specifier_flagOf_1 (by rw [c_1_6]; decide) (by rw [c_1_6]; decide) (by rw [c_1_6]; rfl) (by decide) ?_
                refine lv_bipush (v := 16) hx hb d_Specifier_flagOf_93 (by decide) ?_
                obtain rfl := Option.some.inj hf
                rw [← hQ]
                exact W.iret (v := (16 : Int32)) hx hb hr (fun t9 ht hW => ⟨⟨(16 : Int32), (), rfl, rfl, ⟨by rw [ht]; exact hP, hD⟩⟩, hS.F ht⟩) hS.2.2 d_Specifier_flagOf_95
              · have hf := in_ c_1_6 hf
                by_cases o_1 : a1.toInt < 32 ∨ 48 < a1.toInt
                · refine lv_tableOut (tgt := 102) hx hb d_Specifier_flagOf_1 o_1 (by decide) ?_
                  refine lv_iconst (v := 0) hx hb d_Specifier_flagOf_102 (by decide) ?_
                  obtain rfl := Option.some.inj hf
                  rw [← hQ]
                  exact W.iret (v := (0 : Int32)) hx hb hr (fun t9 ht hW => ⟨⟨(0 : Int32), (), rfl, rfl, ⟨by rw [ht]; exact hP, hD⟩⟩, hS.F ht⟩) hS.2.2 d_Specifier_flagOf_103
                · have e_1 : a1.toInt = 33 ∨ a1.toInt = 34 ∨ a1.toInt = 36 ∨ a1.toInt = 37 ∨ a1.toInt = 38 ∨ a1.toInt = 39 ∨ a1.toInt = 41 ∨ a1.toInt = 42 ∨ a1.toInt = 46 ∨ a1.toInt = 47 := by have n_0 := lv_neT c_1_0 (show (32 : Int32).toInt = 32 from rfl); have n_1 := lv_neT c_1_1 (show (35 : Int32).toInt = 35 from rfl); have n_2 := lv_neT c_1_2 (show (40 : Int32).toInt = 40 from rfl); have n_3 := lv_neT c_1_3 (show (43 : Int32).toInt = 43 from rfl); have n_4 := lv_neT c_1_4 (show (44 : Int32).toInt = 44 from rfl); have n_5 := lv_neT c_1_5 (show (45 : Int32).toInt = 45 from rfl); have n_6 := lv_neT c_1_6 (show (48 : Int32).toInt = 48 from rfl); omega
                  rcases e_1 with e | e | e | e | e | e | e | e | e | e
                  · refine lv_tableIn (tgt := 102) hx hb d_Specifier_flagOf_1 (by rw [e]; decide) (by rw [e]; decide) (by rw [e]; rfl) (by decide) ?_
                    refine lv_iconst (v := 0) hx hb d_Specifier_flagOf_102 (by decide) ?_
                    obtain rfl := Option.some.inj hf
                    rw [← hQ]
                    exact W.iret (v := (0 : Int32)) hx hb hr (fun t9 ht hW => ⟨⟨(0 : Int32), (), rfl, rfl, ⟨by rw [ht]; exact hP, hD⟩⟩, hS.F ht⟩) hS.2.2 d_Specifier_flagOf_103
                  · refine lv_tableIn (tgt := 102) hx hb d_Specifier_flagOf_1 (by rw [e]; decide) (by rw [e]; decide) (by rw [e]; rfl) (by decide) ?_
                    refine lv_iconst (v := 0) hx hb d_Specifier_flagOf_102 (by decide) ?_
                    obtain rfl := Option.some.inj hf
                    rw [← hQ]
                    exact W.iret (v := (0 : Int32)) hx hb hr (fun t9 ht hW => ⟨⟨(0 : Int32), (), rfl, rfl, ⟨by rw [ht]; exact hP, hD⟩⟩, hS.F ht⟩) hS.2.2 d_Specifier_flagOf_103
                  · refine lv_tableIn (tgt := 102) hx hb d_Specifier_flagOf_1 (by rw [e]; decide) (by rw [e]; decide) (by rw [e]; rfl) (by decide) ?_
                    refine lv_iconst (v := 0) hx hb d_Specifier_flagOf_102 (by decide) ?_
                    obtain rfl := Option.some.inj hf
                    rw [← hQ]
                    exact W.iret (v := (0 : Int32)) hx hb hr (fun t9 ht hW => ⟨⟨(0 : Int32), (), rfl, rfl, ⟨by rw [ht]; exact hP, hD⟩⟩, hS.F ht⟩) hS.2.2 d_Specifier_flagOf_103
                  · refine lv_tableIn (tgt := 102) hx hb d_Specifier_flagOf_1 (by rw [e]; decide) (by rw [e]; decide) (by rw [e]; rfl) (by decide) ?_
                    refine lv_iconst (v := 0) hx hb d_Specifier_flagOf_102 (by decide) ?_
                    obtain rfl := Option.some.inj hf
                    rw [← hQ]
                    exact W.iret (v := (0 : Int32)) hx hb hr (fun t9 ht hW => ⟨⟨(0 : Int32), (), rfl, rfl, ⟨by rw [ht]; exact hP, hD⟩⟩, hS.F ht⟩) hS.2.2 d_Specifier_flagOf_103
                  · refine lv_tableIn (tgt := 102) hx hb d_Specifier_flagOf_1 (by rw [e]; decide) (by rw [e]; decide) (by rw [e]; rfl) (by decide) ?_
                    refine lv_iconst (v := 0) hx hb d_Specifier_flagOf_102 (by decide) ?_
                    obtain rfl := Option.some.inj hf
                    rw [← hQ]
                    exact W.iret (v := (0 : Int32)) hx hb hr (fun t9 ht hW => ⟨⟨(0 : Int32), (), rfl, rfl, ⟨by rw [ht]; exact hP, hD⟩⟩, hS.F ht⟩) hS.2.2 d_Specifier_flagOf_103
                  · refine lv_tableIn (tgt := 102) hx hb d_Specifier_flagOf_1 (by rw [e]; decide) (by rw [e]; decide) (by rw [e]; rfl) (by decide) ?_
                    refine lv_iconst (v := 0) hx hb d_Specifier_flagOf_102 (by decide) ?_
                    obtain rfl := Option.some.inj hf
                    rw [← hQ]
                    exact W.iret (v := (0 : Int32)) hx hb hr (fun t9 ht hW => ⟨⟨(0 : Int32), (), rfl, rfl, ⟨by rw [ht]; exact hP, hD⟩⟩, hS.F ht⟩) hS.2.2 d_Specifier_flagOf_103
                  · refine lv_tableIn (tgt := 102) hx hb d_Specifier_flagOf_1 (by rw [e]; decide) (by rw [e]; decide) (by rw [e]; rfl) (by decide) ?_
                    refine lv_iconst (v := 0) hx hb d_Specifier_flagOf_102 (by decide) ?_
                    obtain rfl := Option.some.inj hf
                    rw [← hQ]
                    exact W.iret (v := (0 : Int32)) hx hb hr (fun t9 ht hW => ⟨⟨(0 : Int32), (), rfl, rfl, ⟨by rw [ht]; exact hP, hD⟩⟩, hS.F ht⟩) hS.2.2 d_Specifier_flagOf_103
                  · refine lv_tableIn (tgt := 102) hx hb d_Specifier_flagOf_1 (by rw [e]; decide) (by rw [e]; decide) (by rw [e]; rfl) (by decide) ?_
                    refine lv_iconst (v := 0) hx hb d_Specifier_flagOf_102 (by decide) ?_
                    obtain rfl := Option.some.inj hf
                    rw [← hQ]
                    exact W.iret (v := (0 : Int32)) hx hb hr (fun t9 ht hW => ⟨⟨(0 : Int32), (), rfl, rfl, ⟨by rw [ht]; exact hP, hD⟩⟩, hS.F ht⟩) hS.2.2 d_Specifier_flagOf_103
                  · refine lv_tableIn (tgt := 102) hx hb d_Specifier_flagOf_1 (by rw [e]; decide) (by rw [e]; decide) (by rw [e]; rfl) (by decide) ?_
                    refine lv_iconst (v := 0) hx hb d_Specifier_flagOf_102 (by decide) ?_
                    obtain rfl := Option.some.inj hf
                    rw [← hQ]
                    exact W.iret (v := (0 : Int32)) hx hb hr (fun t9 ht hW => ⟨⟨(0 : Int32), (), rfl, rfl, ⟨by rw [ht]; exact hP, hD⟩⟩, hS.F ht⟩) hS.2.2 d_Specifier_flagOf_103
                  · refine lv_tableIn (tgt := 102) hx hb d_Specifier_flagOf_1 (by rw [e]; decide) (by rw [e]; decide) (by rw [e]; rfl) (by decide) ?_
                    refine lv_iconst (v := 0) hx hb d_Specifier_flagOf_102 (by decide) ?_
                    obtain rfl := Option.some.inj hf
                    rw [← hQ]
                    exact W.iret (v := (0 : Int32)) hx hb hr (fun t9 ht hW => ⟨⟨(0 : Int32), (), rfl, rfl, ⟨by rw [ht]; exact hP, hD⟩⟩, hS.F ht⟩) hS.2.2 d_Specifier_flagOf_103
theorem d_Specifier_numberIn_0 : decode cd_Specifier_numberIn 0 = .ok (.iconst 0, 1) := by decide +kernel
theorem d_Specifier_numberIn_1 : decode cd_Specifier_numberIn 1 = .ok (.istore_n 3, 1) := by decide +kernel
theorem d_Specifier_numberIn_2 : decode cd_Specifier_numberIn 2 = .ok (.iload_n 1, 1) := by decide +kernel
theorem d_Specifier_numberIn_3 : decode cd_Specifier_numberIn 3 = .ok (.istore 4, 2) := by decide +kernel
theorem d_Specifier_numberIn_5 : decode cd_Specifier_numberIn 5 = .ok (.iload 4, 2) := by decide +kernel
theorem d_Specifier_numberIn_7 : decode cd_Specifier_numberIn 7 = .ok (.iload_n 2, 1) := by decide +kernel
theorem d_Specifier_numberIn_8 : decode cd_Specifier_numberIn 8 = .ok (.if_icmp .ge 30, 3) := by decide +kernel
theorem d_Specifier_numberIn_11 : decode cd_Specifier_numberIn 11 = .ok (.sipush 1000, 3) := by decide +kernel
theorem d_Specifier_numberIn_14 : decode cd_Specifier_numberIn 14 = .ok (.iload_n 3, 1) := by decide +kernel
theorem d_Specifier_numberIn_15 : decode cd_Specifier_numberIn 15 = .ok (.bipush 10, 2) := by decide +kernel
theorem d_Specifier_numberIn_17 : decode cd_Specifier_numberIn 17 = .ok (.imul, 1) := by decide +kernel
theorem d_Specifier_numberIn_18 : decode cd_Specifier_numberIn 18 = .ok (.aload_n 0, 1) := by decide +kernel
theorem d_Specifier_numberIn_19 : decode cd_Specifier_numberIn 19 = .ok (.iload 4, 2) := by decide +kernel
theorem d_Specifier_numberIn_21 : decode cd_Specifier_numberIn 21 = .ok (.invokevirtual 84, 3) := by decide +kernel
theorem d_Specifier_numberIn_24 : decode cd_Specifier_numberIn 24 = .ok (.iadd, 1) := by decide +kernel
theorem d_Specifier_numberIn_25 : decode cd_Specifier_numberIn 25 = .ok (.bipush 48, 2) := by decide +kernel
theorem d_Specifier_numberIn_27 : decode cd_Specifier_numberIn 27 = .ok (.isub, 1) := by decide +kernel
theorem d_Specifier_numberIn_28 : decode cd_Specifier_numberIn 28 = .ok (.invokestatic 109, 3) := by decide +kernel
theorem d_Specifier_numberIn_31 : decode cd_Specifier_numberIn 31 = .ok (.istore_n 3, 1) := by decide +kernel
theorem d_Specifier_numberIn_32 : decode cd_Specifier_numberIn 32 = .ok (.iinc 4 1, 3) := by decide +kernel
theorem d_Specifier_numberIn_35 : decode cd_Specifier_numberIn 35 = .ok (.goto (-30), 3) := by decide +kernel
theorem d_Specifier_numberIn_38 : decode cd_Specifier_numberIn 38 = .ok (.iload_n 3, 1) := by decide +kernel
theorem d_Specifier_numberIn_39 : decode cd_Specifier_numberIn 39 = .ok (.ireturn, 1) := by decide +kernel
theorem m_140 : Cond.methodLink R_Specifier 84 y_Row_at ∈ gw := gm (i := 434) (by decide +kernel) (by decide +kernel)
theorem m_141 : Cond.methodLink R_Specifier 109 Lib.Math.min.name ∈ gw := gm (i := 441) (by decide +kernel) (by decide +kernel)
def b_Specifier_numberIn_5 (na1_cells : Nat) (a1_cells : Nat → Int32) (a1_used : Int32) (a3 : Int32)  (rec_5 : (Int32 × Int32) → Option Int32) (z5 : Int32 × Int32) : Option Int32 :=
  (if a3 ≤ z5.2 then some z5.1 else ((f_Row_at na1_cells a1_cells a1_used z5.2).bind fun u_21 => rec_5 ((if (((z5.1 * (10 : Int32)) + u_21) - (48 : Int32)) < (1000 : Int32) then (((z5.1 * (10 : Int32)) + u_21) - (48 : Int32)) else (1000 : Int32)), (z5.2 + 1))))
def f_Specifier_numberIn (K : Nat) (na1_cells : Nat) (a1_cells : Nat → Int32) (a1_used : Int32) (a2 : Int32) (a3 : Int32) : Option Int32 :=
  lp_ (b_Specifier_numberIn_5 na1_cells a1_cells a1_used a3 ) K ((0 : Int32), a2)
abbrev w_Specifier_numberIn (G : Gt) (qa1 : Nat) (qa1_cells : Nat) (na1_cells : Nat) (a1_cells : Nat → Int32) (a1_used : Int32) (a1_burst : Int32) : va_W := [(qa1, .inr (4, [.ref qa1_cells, .int a1_used, .int a1_burst])), (qa1_cells, .inl (gC G 0, na1_cells, .inl a1_cells))]
set_option maxHeartbeats 4000000 in
set_option maxRecDepth 100000 in
theorem c_Specifier_numberIn (l : Launch) (G : Gt) (K : Nat) (qa1 : Nat) (qa1_cells : Nat) (na1_cells : Nat) (a1_cells : Nat → Int32) (a1_used : Int32) (a1_burst : Int32) (a2 : Int32) (a3 : Int32) (sz : Nat) (res : Int32)   (hf : f_Specifier_numberIn K na1_cells a1_cells a1_used a2 a3 = some res) : Met l y_Specifier_numberIn (.code y_Specifier_numberIn cd_Specifier_numberIn 5 (some .int) :: gw) { frames := 1, cells := 0, slots := 0, locals := 40 } (PC G ([.ref qa1, .int a2, .int a3] : List Value) sz (w_Specifier_numberIn G qa1 qa1_cells na1_cells a1_cells a1_used a1_burst)) (QI G res (va_A (w_Specifier_numberIn G qa1 qa1_cells na1_cells a1_cells a1_used a1_burst) sz) (w_Specifier_numberIn G qa1 qa1_cells na1_cells a1_cells a1_used a1_burst)) 0 0 (va_A (w_Specifier_numberIn G qa1 qa1_cells na1_cells a1_cells a1_used a1_burst) sz) := by
  refine Met.ofW (cc := cd_Specifier_numberIn) (maxL := 5) (ret := (some .int)) (by decide) rfl ?_
  intro p e s m args below meth c s₁ B hml hv
  obtain ⟨rfl, hsz, hP, hE, hD0⟩ := hv
  have hx := B.exec
  have hb := B.bytes
  have hr := B.returns
  have hts := atoms_spec (ws := (.code y_Specifier_numberIn cd_Specifier_numberIn 5 (some .int) :: gw)) B.pre
  have hg : ∀ w ∈ gw, w.before _ s = true := fun w h => hts w (List.mem_cons_of_mem _ h)
  have hown : s.vm.findClass R_Specifier = some m.cls := findClass_of_methodNamed B.named
  have hlocks := B.notSynchronized
  subst hsz
  have hK := hE.K
  have hD := hD0.self (sz := s.heap.size)
  have hAb := hE.ab hD0
  obtain ⟨Q, hQ⟩ : ∃ Q, MQ below (QI G res (va_A (w_Specifier_numberIn G qa1 qa1_cells na1_cells a1_cells a1_used a1_burst) s.heap.size) (w_Specifier_numberIn G qa1 qa1_cells na1_cells a1_cells a1_used a1_burst)) ([.ref qa1, .int a2, .int a3] : List Value).toArray s 0 0 (va_A (w_Specifier_numberIn G qa1 qa1_cells na1_cells a1_cells a1_used a1_burst) s.heap.size) = Q := ⟨_, rfl⟩
  show W p l e { frames := 1, cells := 0, slots := 0, locals := 40 } s m ([.ref qa1, .int a2, .int a3] : List Value).toArray below meth c s.heap [] 0 0 (MQ below (QI G res (va_A (w_Specifier_numberIn G qa1 qa1_cells na1_cells a1_cells a1_used a1_burst) s.heap.size) (w_Specifier_numberIn G qa1 qa1_cells na1_cells a1_cells a1_used a1_burst)) ([.ref qa1, .int a2, .int a3] : List Value).toArray s 0 0 (va_A (w_Specifier_numberIn G qa1 qa1_cells na1_cells a1_cells a1_used a1_burst) s.heap.size)) _
  rw [hQ]
  have hA : ∀ q : Nat, s.heap.size ≤ q → va_A (w_Specifier_numberIn G qa1 qa1_cells na1_cells a1_cells a1_used a1_burst) s.heap.size q := fun q h => Or.inr h
  obtain ⟨A, hAe⟩ : ∃ A, va_A (w_Specifier_numberIn G qa1 qa1_cells na1_cells a1_cells a1_used a1_burst) s.heap.size = A := ⟨_, rfl⟩
  rw [hAe] at hA hD hAb hQ
  have hS : va_S A s.heap s.heap [] := va_S.rf
  have hl := lv_entry (([.ref qa1, .int a2, .int a3] : List Value)) (n := 5) (Nat.le_of_ble_eq_true rfl)
  rw [lg_entry_eq]
  generalize (lg_sl (([.ref qa1, .int a2, .int a3] : List Value)) ++ List.replicate (5 - (lg_sl (([.ref qa1, .int a2, .int a3] : List Value))).length) Slot.unset).toArray = ls at hl ⊢
  have hl : lv_has ls 5 [(0, .ref qa1), (1, .int a2), (2, .int a3)] := hl
  have W_5 : ∀   (n_5 : Nat) (z5 : Int32 × Int32) , lp_ (b_Specifier_numberIn_5 na1_cells a1_cells a1_used a3 ) n_5 z5 = some res → ∀ (H : Heap) (locs : List Loc) (ls : Array Slot), va_P (gD G) vwCl (w_Specifier_numberIn G qa1 qa1_cells na1_cells a1_cells a1_used a1_burst) H → va_D A (w_Specifier_numberIn G qa1 qa1_cells na1_cells a1_cells a1_used a1_burst) → va_S A s.heap H locs → lv_has ls 5 [(0, .ref qa1), (2, .int a3), (3, .int z5.1), (4, .int z5.2)] → W p l e { frames := 1, cells := 0, slots := 0, locals := 40 } s m ([.ref qa1, .int a2, .int a3] : List Value).toArray below meth c H locs 0 0 Q (F0 m 5 ls []) := by
    intro  n_5
    induction n_5 with
    | zero =>
      intro z5  hf
      cases hf
    | succ n_5 ih_5 =>
      intro z5  hf H locs ls hP hD hS hl
      have hf : b_Specifier_numberIn_5 na1_cells a1_cells a1_used a3  (lp_ (b_Specifier_numberIn_5 na1_cells a1_cells a1_used a3 ) n_5) z5 = some res := hf
      generalize lp_ (b_Specifier_numberIn_5 na1_cells a1_cells a1_used a3 ) n_5 = rec_5 at hf ih_5
      unfold b_Specifier_numberIn_5 at hf
      refine lv_iload hx hb d_Specifier_numberIn_5 (lv_at hl 3 rfl) ?_
      refine lv_iload_n hx hb d_Specifier_numberIn_7 rfl (lv_at hl 1 rfl) ?_
      refine lv_icmp_ge (tgt := 38) hx hb d_Specifier_numberIn_8 (by decide) (fun c_8 => ?_) (fun c_8 => ?_)
      · have hf := ip_ c_8 hf
        refine lv_iload_n hx hb d_Specifier_numberIn_38 rfl (lv_at hl 2 rfl) ?_
        obtain rfl := Option.some.inj hf
        rw [← hQ]
        exact W.iret (v := z5.1) hx hb hr (fun t9 ht hW => ⟨⟨z5.1, (), rfl, rfl, ⟨by rw [ht]; exact hP, hD⟩⟩, hS.F ht⟩) hS.2.2 d_Specifier_numberIn_39
      · have hf := in_ c_8 hf
        refine lv_sipush (v := 1000) hx hb d_Specifier_numberIn_11 (by decide) ?_
        refine lv_iload_n hx hb d_Specifier_numberIn_14 rfl (lv_at hl 2 rfl) ?_
        refine lv_bipush (v := 10) hx hb d_Specifier_numberIn_15 (by decide) ?_
        refine lv_imul hx hb d_Specifier_numberIn_17 ?_
        refine lv_aload_n hx hb d_Specifier_numberIn_18 rfl (lv_at hl 0 rfl) ?_
        refine lv_iload hx hb d_Specifier_numberIn_19 (lv_at hl 3 rfl) ?_
        obtain ⟨u_21, hu_21, hf⟩ := bd_ hf
        refine CALLi (va_runV (As := [.int z5.2]) (rest := [.int (z5.1 * (10 : Int32)), .int (1000 : Int32)]) ⟨hx, hb, hml, hown, hg⟩ (c_Row_at l G K qa1 qa1_cells na1_cells a1_cells a1_used a1_burst z5.2 _ u_21  hu_21) (cwV 1 hg (gV m_140 m_63 m_64 m_60 m_65) rfl rfl rfl (by decide +kernel) ⟨Nat.le_of_ble_eq_true rfl, Nat.le_of_ble_eq_true rfl⟩) ⟨PC_b, va_recv hK hP (ci := 4) (q0 := 0) rfl rfl, PC_p hE hS hAb (hP.sub [0, 1] rfl) (hD.sub [0, 1] (by decide) rfl)⟩ rfl rfl hl.1 rfl (lv_room (Nat.le_of_ble_eq_true rfl)) d_Specifier_numberIn_21 ⟨Nat.zero_le _, Nat.zero_le _⟩) hP hD hS hA [0, 1] rfl rfl rfl (fun H locs hP hD hS => ?_)
        have hP : va_P (gD G) vwCl (w_Specifier_numberIn G qa1 qa1_cells na1_cells a1_cells a1_used a1_burst) H := hP
        have hD : va_D A (w_Specifier_numberIn G qa1 qa1_cells na1_cells a1_cells a1_used a1_burst) := hD
        refine lv_iadd hx hb d_Specifier_numberIn_24 ?_
        refine lv_bipush (v := 48) hx hb d_Specifier_numberIn_25 (by decide) ?_
        refine lv_isub hx hb d_Specifier_numberIn_27 ?_
        refine va_mmin hx hb (hml.trans hl.1.symm) hown (hg _ m_141) (hg _ m_14) (hg _ m_11) (hg _ m_15) (Nat.le_of_ble_eq_true rfl) (Nat.le_of_ble_eq_true rfl) (Nat.zero_le _) (Nat.zero_le _) d_Specifier_numberIn_28 ?_
        refine lv_istore_n (lv' := [(3, .int (if (((z5.1 * (10 : Int32)) + u_21) - (48 : Int32)) < (1000 : Int32) then (((z5.1 * (10 : Int32)) + u_21) - (48 : Int32)) else (1000 : Int32))), (0, .ref qa1), (2, .int a3), (4, .int z5.2)]) hx hb d_Specifier_numberIn_31 rfl hl (by decide) rfl (fun ls hl => ?_)
        refine lv_iinc (v := (z5.2 + 1)) (lv' := [(4, .int (z5.2 + 1)), (3, .int (if (((z5.1 * (10 : Int32)) + u_21) - (48 : Int32)) < (1000 : Int32) then (((z5.1 * (10 : Int32)) + u_21) - (48 : Int32)) else (1000 : Int32))), (0, .ref qa1), (2, .int a3)]) hx hb d_Specifier_numberIn_32 hl (k := 3) rfl rfl (by decide) rfl (fun ls hl => ?_)
        refine lv_goto (tgt := 5) hx hb d_Specifier_numberIn_35 (by decide) ?_
        exact ih_5 ((if (((z5.1 * (10 : Int32)) + u_21) - (48 : Int32)) < (1000 : Int32) then (((z5.1 * (10 : Int32)) + u_21) - (48 : Int32)) else (1000 : Int32)), (z5.2 + 1))  hf _ _ _ hP hD hS (lv_sub hl [2, 3, 1, 0] rfl)
  unfold f_Specifier_numberIn at hf
  refine lv_iconst (v := 0) hx hb d_Specifier_numberIn_0 (by decide) ?_
  refine lv_istore_n (lv' := [(3, .int (0 : Int32)), (0, .ref qa1), (1, .int a2), (2, .int a3)]) hx hb d_Specifier_numberIn_1 rfl hl (by decide) rfl (fun ls hl => ?_)
  refine lv_iload_n hx hb d_Specifier_numberIn_2 rfl (lv_at hl 2 rfl) ?_
  refine lv_istore (lv' := [(4, .int a2), (3, .int (0 : Int32)), (0, .ref qa1), (1, .int a2), (2, .int a3)]) hx hb d_Specifier_numberIn_3 hl (by decide) rfl (fun ls hl => ?_)
  exact W_5   K ((0 : Int32), a2)  hf _ _ _ hP hD hS (lv_sub hl [2, 4, 1, 0] rfl)
theorem d_Specifier_digitsEnd_0 : decode cd_Specifier_digitsEnd 0 = .ok (.iload_n 1, 1) := by decide +kernel
theorem d_Specifier_digitsEnd_1 : decode cd_Specifier_digitsEnd 1 = .ok (.istore_n 2, 1) := by decide +kernel
theorem d_Specifier_digitsEnd_2 : decode cd_Specifier_digitsEnd 2 = .ok (.iload_n 2, 1) := by decide +kernel
theorem d_Specifier_digitsEnd_3 : decode cd_Specifier_digitsEnd 3 = .ok (.aload_n 0, 1) := by decide +kernel
theorem d_Specifier_digitsEnd_4 : decode cd_Specifier_digitsEnd 4 = .ok (.getfield 96, 3) := by decide +kernel
theorem d_Specifier_digitsEnd_7 : decode cd_Specifier_digitsEnd 7 = .ok (.if_icmp .ge 29, 3) := by decide +kernel
theorem d_Specifier_digitsEnd_10 : decode cd_Specifier_digitsEnd 10 = .ok (.aload_n 0, 1) := by decide +kernel
theorem d_Specifier_digitsEnd_11 : decode cd_Specifier_digitsEnd 11 = .ok (.iload_n 2, 1) := by decide +kernel
theorem d_Specifier_digitsEnd_12 : decode cd_Specifier_digitsEnd 12 = .ok (.invokevirtual 84, 3) := by decide +kernel
theorem d_Specifier_digitsEnd_15 : decode cd_Specifier_digitsEnd 15 = .ok (.bipush 48, 2) := by decide +kernel
theorem d_Specifier_digitsEnd_17 : decode cd_Specifier_digitsEnd 17 = .ok (.if_icmp .lt 19, 3) := by decide +kernel
theorem d_Specifier_digitsEnd_20 : decode cd_Specifier_digitsEnd 20 = .ok (.aload_n 0, 1) := by decide +kernel
theorem d_Specifier_digitsEnd_21 : decode cd_Specifier_digitsEnd 21 = .ok (.iload_n 2, 1) := by decide +kernel
theorem d_Specifier_digitsEnd_22 : decode cd_Specifier_digitsEnd 22 = .ok (.invokevirtual 84, 3) := by decide +kernel
theorem d_Specifier_digitsEnd_25 : decode cd_Specifier_digitsEnd 25 = .ok (.bipush 57, 2) := by decide +kernel
theorem d_Specifier_digitsEnd_27 : decode cd_Specifier_digitsEnd 27 = .ok (.if_icmp .gt 9, 3) := by decide +kernel
theorem d_Specifier_digitsEnd_30 : decode cd_Specifier_digitsEnd 30 = .ok (.iinc 2 1, 3) := by decide +kernel
theorem d_Specifier_digitsEnd_33 : decode cd_Specifier_digitsEnd 33 = .ok (.goto (-31), 3) := by decide +kernel
theorem d_Specifier_digitsEnd_36 : decode cd_Specifier_digitsEnd 36 = .ok (.iload_n 2, 1) := by decide +kernel
theorem d_Specifier_digitsEnd_37 : decode cd_Specifier_digitsEnd 37 = .ok (.ireturn, 1) := by decide +kernel
theorem nm_0 : Cond.fieldLinkNest R_Specifier 96 "SpecifierDesk$Row" "used" "I" "SpecifierDesk" ∈ nwL := nwm (i := 121) (by decide +kernel) (by decide +kernel)
def b_Specifier_digitsEnd_2 (na1_cells : Nat) (a1_cells : Nat → Int32) (a1_used : Int32)  (rec_2 : Int32 → Option Int32) (z2 : Int32) : Option Int32 :=
  (if a1_used ≤ z2 then some z2 else ((f_Row_at na1_cells a1_cells a1_used z2).bind fun u_12 => (if u_12 < (48 : Int32) then some z2 else ((f_Row_at na1_cells a1_cells a1_used z2).bind fun u_22 => (if (57 : Int32) < u_22 then some z2 else rec_2 (z2 + 1))))))
def f_Specifier_digitsEnd (K : Nat) (na1_cells : Nat) (a1_cells : Nat → Int32) (a1_used : Int32) (a2 : Int32) : Option Int32 :=
  lp_ (b_Specifier_digitsEnd_2 na1_cells a1_cells a1_used ) K a2
set_option maxHeartbeats 4000000 in
set_option maxRecDepth 100000 in
theorem c_Specifier_digitsEnd (l : Launch) (G : Gt) (K : Nat) (qa1 : Nat) (qa1_cells : Nat) (na1_cells : Nat) (a1_cells : Nat → Int32) (a1_used : Int32) (a1_burst : Int32) (a2 : Int32) (sz : Nat) (res : Int32)   (hf : f_Specifier_digitsEnd K na1_cells a1_cells a1_used a2 = some res) : Met l y_Specifier_digitsEnd (.code y_Specifier_digitsEnd cd_Specifier_digitsEnd 3 (some .int) :: gw) { frames := 1, cells := 0, slots := 0, locals := 40 } (PC G ([.ref qa1, .int a2] : List Value) sz (w_Specifier_numberIn G qa1 qa1_cells na1_cells a1_cells a1_used a1_burst)) (QI G res (va_A (w_Specifier_numberIn G qa1 qa1_cells na1_cells a1_cells a1_used a1_burst) sz) (w_Specifier_numberIn G qa1 qa1_cells na1_cells a1_cells a1_used a1_burst)) 0 0 (va_A (w_Specifier_numberIn G qa1 qa1_cells na1_cells a1_cells a1_used a1_burst) sz) := by
  refine Met.ofW (cc := cd_Specifier_digitsEnd) (maxL := 3) (ret := (some .int)) (by decide) rfl ?_
  intro p e s m args below meth c s₁ B hml hv
  obtain ⟨rfl, hsz, hP, hE, hD0⟩ := hv
  have hx := B.exec
  have hb := B.bytes
  have hr := B.returns
  have hts := atoms_spec (ws := (.code y_Specifier_digitsEnd cd_Specifier_digitsEnd 3 (some .int) :: gw)) B.pre
  have hg : ∀ w ∈ gw, w.before _ s = true := fun w h => hts w (List.mem_cons_of_mem _ h)
  have hown : s.vm.findClass R_Specifier = some m.cls := findClass_of_methodNamed B.named
  have hlocks := B.notSynchronized
  subst hsz
  have hK := hE.K
  have hD := hD0.self (sz := s.heap.size)
  have hAb := hE.ab hD0
  obtain ⟨Q, hQ⟩ : ∃ Q, MQ below (QI G res (va_A (w_Specifier_numberIn G qa1 qa1_cells na1_cells a1_cells a1_used a1_burst) s.heap.size) (w_Specifier_numberIn G qa1 qa1_cells na1_cells a1_cells a1_used a1_burst)) ([.ref qa1, .int a2] : List Value).toArray s 0 0 (va_A (w_Specifier_numberIn G qa1 qa1_cells na1_cells a1_cells a1_used a1_burst) s.heap.size) = Q := ⟨_, rfl⟩
  show W p l e { frames := 1, cells := 0, slots := 0, locals := 40 } s m ([.ref qa1, .int a2] : List Value).toArray below meth c s.heap [] 0 0 (MQ below (QI G res (va_A (w_Specifier_numberIn G qa1 qa1_cells na1_cells a1_cells a1_used a1_burst) s.heap.size) (w_Specifier_numberIn G qa1 qa1_cells na1_cells a1_cells a1_used a1_burst)) ([.ref qa1, .int a2] : List Value).toArray s 0 0 (va_A (w_Specifier_numberIn G qa1 qa1_cells na1_cells a1_cells a1_used a1_burst) s.heap.size)) _
  rw [hQ]
  have hA : ∀ q : Nat, s.heap.size ≤ q → va_A (w_Specifier_numberIn G qa1 qa1_cells na1_cells a1_cells a1_used a1_burst) s.heap.size q := fun q h => Or.inr h
  obtain ⟨A, hAe⟩ : ∃ A, va_A (w_Specifier_numberIn G qa1 qa1_cells na1_cells a1_cells a1_used a1_burst) s.heap.size = A := ⟨_, rfl⟩
  rw [hAe] at hA hD hAb hQ
  have hS : va_S A s.heap s.heap [] := va_S.rf
  have hl := lv_entry (([.ref qa1, .int a2] : List Value)) (n := 3) (Nat.le_of_ble_eq_true rfl)
  rw [lg_entry_eq]
  generalize (lg_sl (([.ref qa1, .int a2] : List Value)) ++ List.replicate (3 - (lg_sl (([.ref qa1, .int a2] : List Value))).length) Slot.unset).toArray = ls at hl ⊢
  have hl : lv_has ls 3 [(0, .ref qa1), (1, .int a2)] := hl
  have W_2 : ∀   (n_2 : Nat) (z2 : Int32) , lp_ (b_Specifier_digitsEnd_2 na1_cells a1_cells a1_used ) n_2 z2 = some res → ∀ (H : Heap) (locs : List Loc) (ls : Array Slot), va_P (gD G) vwCl (w_Specifier_numberIn G qa1 qa1_cells na1_cells a1_cells a1_used a1_burst) H → va_D A (w_Specifier_numberIn G qa1 qa1_cells na1_cells a1_cells a1_used a1_burst) → va_S A s.heap H locs → lv_has ls 3 [(0, .ref qa1), (2, .int z2)] → W p l e { frames := 1, cells := 0, slots := 0, locals := 40 } s m ([.ref qa1, .int a2] : List Value).toArray below meth c H locs 0 0 Q (F0 m 2 ls []) := by
    intro  n_2
    induction n_2 with
    | zero =>
      intro z2  hf
      cases hf
    | succ n_2 ih_2 =>
      intro z2  hf H locs ls hP hD hS hl
      have hf : b_Specifier_digitsEnd_2 na1_cells a1_cells a1_used  (lp_ (b_Specifier_digitsEnd_2 na1_cells a1_cells a1_used ) n_2) z2 = some res := hf
      generalize lp_ (b_Specifier_digitsEnd_2 na1_cells a1_cells a1_used ) n_2 = rec_2 at hf ih_2
      unfold b_Specifier_digitsEnd_2 at hf
      refine lv_iload_n hx hb d_Specifier_digitsEnd_2 rfl (lv_at hl 1 rfl) ?_
      refine lv_aload_n hx hb d_Specifier_digitsEnd_3 rfl (lv_at hl 0 rfl) ?_
      refine va_getN (D := gD G) (ci := 4) (v := .int a1_used) (C := R_Row) (T := F_Row) (N := 3) hx hb hg in_Row hown hK hP 0 rfl rfl 1 (by decide) (va_Nw.use rfl (hE.nw _ nm_0)) (fun _ h9 => h9) rfl d_Specifier_digitsEnd_4 ?_
      refine lv_icmp_ge (tgt := 36) hx hb d_Specifier_digitsEnd_7 (by decide) (fun c_7 => ?_) (fun c_7 => ?_)
      · have hf := ip_ c_7 hf
        refine lv_iload_n hx hb d_Specifier_digitsEnd_36 rfl (lv_at hl 1 rfl) ?_
        obtain rfl := Option.some.inj hf
        rw [← hQ]
        exact W.iret (v := z2) hx hb hr (fun t9 ht hW => ⟨⟨z2, (), rfl, rfl, ⟨by rw [ht]; exact hP, hD⟩⟩, hS.F ht⟩) hS.2.2 d_Specifier_digitsEnd_37
      · have hf := in_ c_7 hf
        refine lv_aload_n hx hb d_Specifier_digitsEnd_10 rfl (lv_at hl 0 rfl) ?_
        refine lv_iload_n hx hb d_Specifier_digitsEnd_11 rfl (lv_at hl 1 rfl) ?_
        obtain ⟨u_12, hu_12, hf⟩ := bd_ hf
        refine CALLi (va_runV (As := [.int z2]) (rest := []) ⟨hx, hb, hml, hown, hg⟩ (c_Row_at l G K qa1 qa1_cells na1_cells a1_cells a1_used a1_burst z2 _ u_12  hu_12) (cwV 1 hg (gV m_140 m_63 m_64 m_60 m_65) rfl rfl rfl (by decide +kernel) ⟨Nat.le_of_ble_eq_true rfl, Nat.le_of_ble_eq_true rfl⟩) ⟨PC_b, va_recv hK hP (ci := 4) (q0 := 0) rfl rfl, PC_p hE hS hAb (hP.sub [0, 1] rfl) (hD.sub [0, 1] (by decide) rfl)⟩ rfl rfl hl.1 rfl (lv_room (Nat.le_of_ble_eq_true rfl)) d_Specifier_digitsEnd_12 ⟨Nat.zero_le _, Nat.zero_le _⟩) hP hD hS hA [0, 1] rfl rfl rfl (fun H locs hP hD hS => ?_)
        have hP : va_P (gD G) vwCl (w_Specifier_numberIn G qa1 qa1_cells na1_cells a1_cells a1_used a1_burst) H := hP
        have hD : va_D A (w_Specifier_numberIn G qa1 qa1_cells na1_cells a1_cells a1_used a1_burst) := hD
        refine lv_bipush (v := 48) hx hb d_Specifier_digitsEnd_15 (by decide) ?_
        refine lv_icmp_lt (tgt := 36) hx hb d_Specifier_digitsEnd_17 (by decide) (fun c_17 => ?_) (fun c_17 => ?_)
        · have hf := ip_ c_17 hf
          refine lv_iload_n hx hb d_Specifier_digitsEnd_36 rfl (lv_at hl 1 rfl) ?_
          obtain rfl := Option.some.inj hf
          rw [← hQ]
          exact W.iret (v := z2) hx hb hr (fun t9 ht hW => ⟨⟨z2, (), rfl, rfl, ⟨by rw [ht]; exact hP, hD⟩⟩, hS.F ht⟩) hS.2.2 d_Specifier_digitsEnd_37
        · have hf := in_ c_17 hf
          refine lv_aload_n hx hb d_Specifier_digitsEnd_20 rfl (lv_at hl 0 rfl) ?_
          refine lv_iload_n hx hb d_Specifier_digitsEnd_21 rfl (lv_at hl 1 rfl) ?_
          obtain ⟨u_22, hu_22, hf⟩ := bd_ hf
          refine CALLi (va_runV (As := [.int z2]) (rest := []) ⟨hx, hb, hml, hown, hg⟩ (c_Row_at l G K qa1 qa1_cells na1_cells a1_cells a1_used a1_burst z2 _ u_22  hu_22) (cwV 1 hg (gV m_140 m_63 m_64 m_60 m_65) rfl rfl rfl (by decide +kernel) ⟨Nat.le_of_ble_eq_true rfl, Nat.le_of_ble_eq_true rfl⟩) ⟨PC_b, va_recv hK hP (ci := 4) (q0 := 0) rfl rfl, PC_p hE hS hAb (hP.sub [0, 1] rfl) (hD.sub [0, 1] (by decide) rfl)⟩ rfl rfl hl.1 rfl (lv_room (Nat.le_of_ble_eq_true rfl)) d_Specifier_digitsEnd_22 ⟨Nat.zero_le _, Nat.zero_le _⟩) hP hD hS hA [0, 1] rfl rfl rfl (fun H locs hP hD hS => ?_)
          have hP : va_P (gD G) vwCl (w_Specifier_numberIn G qa1 qa1_cells na1_cells a1_cells a1_used a1_burst) H := hP
          have hD : va_D A (w_Specifier_numberIn G qa1 qa1_cells na1_cells a1_cells a1_used a1_burst) := hD
          refine lv_bipush (v := 57) hx hb d_Specifier_digitsEnd_25 (by decide) ?_
          refine lv_icmp_gt (tgt := 36) hx hb d_Specifier_digitsEnd_27 (by decide) (fun c_27 => ?_) (fun c_27 => ?_)
          · have hf := ip_ c_27 hf
            refine lv_iload_n hx hb d_Specifier_digitsEnd_36 rfl (lv_at hl 1 rfl) ?_
            obtain rfl := Option.some.inj hf
            rw [← hQ]
            exact W.iret (v := z2) hx hb hr (fun t9 ht hW => ⟨⟨z2, (), rfl, rfl, ⟨by rw [ht]; exact hP, hD⟩⟩, hS.F ht⟩) hS.2.2 d_Specifier_digitsEnd_37
          · have hf := in_ c_27 hf
            refine lv_iinc (v := (z2 + 1)) (lv' := [(2, .int (z2 + 1)), (0, .ref qa1)]) hx hb d_Specifier_digitsEnd_30 hl (k := 1) rfl rfl (by decide) rfl (fun ls hl => ?_)
            refine lv_goto (tgt := 2) hx hb d_Specifier_digitsEnd_33 (by decide) ?_
            exact ih_2 (z2 + 1)  hf _ _ _ hP hD hS (lv_sub hl [1, 0] rfl)
  unfold f_Specifier_digitsEnd at hf
  refine lv_iload_n hx hb d_Specifier_digitsEnd_0 rfl (lv_at hl 1 rfl) ?_
  refine lv_istore_n (lv' := [(2, .int a2), (0, .ref qa1), (1, .int a2)]) hx hb d_Specifier_digitsEnd_1 rfl hl (by decide) rfl (fun ls hl => ?_)
  exact W_2   K a2  hf _ _ _ hP hD hS (lv_sub hl [1, 0] rfl)
theorem d_Specifier_readIndex_0 : decode cd_Specifier_readIndex 0 = .ok (.aload_n 1, 1) := by decide +kernel
theorem d_Specifier_readIndex_1 : decode cd_Specifier_readIndex 1 = .ok (.iload_n 2, 1) := by decide +kernel
theorem d_Specifier_readIndex_2 : decode cd_Specifier_readIndex 2 = .ok (.invokevirtual 84, 3) := by decide +kernel
theorem d_Specifier_readIndex_5 : decode cd_Specifier_readIndex 5 = .ok (.bipush 60, 2) := by decide +kernel
theorem d_Specifier_readIndex_7 : decode cd_Specifier_readIndex 7 = .ok (.if_icmp .ne 13, 3) := by decide +kernel
theorem d_Specifier_readIndex_10 : decode cd_Specifier_readIndex 10 = .ok (.aload_n 0, 1) := by decide +kernel
theorem d_Specifier_readIndex_11 : decode cd_Specifier_readIndex 11 = .ok (.bipush (-2), 2) := by decide +kernel
theorem d_Specifier_readIndex_13 : decode cd_Specifier_readIndex 13 = .ok (.putfield 9, 3) := by decide +kernel
theorem d_Specifier_readIndex_16 : decode cd_Specifier_readIndex 16 = .ok (.iload_n 2, 1) := by decide +kernel
theorem d_Specifier_readIndex_17 : decode cd_Specifier_readIndex 17 = .ok (.iconst 1, 1) := by decide +kernel
theorem d_Specifier_readIndex_18 : decode cd_Specifier_readIndex 18 = .ok (.iadd, 1) := by decide +kernel
theorem d_Specifier_readIndex_19 : decode cd_Specifier_readIndex 19 = .ok (.ireturn, 1) := by decide +kernel
theorem d_Specifier_readIndex_20 : decode cd_Specifier_readIndex 20 = .ok (.aload_n 1, 1) := by decide +kernel
theorem d_Specifier_readIndex_21 : decode cd_Specifier_readIndex 21 = .ok (.iload_n 2, 1) := by decide +kernel
theorem d_Specifier_readIndex_22 : decode cd_Specifier_readIndex 22 = .ok (.invokestatic 89, 3) := by decide +kernel
theorem d_Specifier_readIndex_25 : decode cd_Specifier_readIndex 25 = .ok (.istore_n 3, 1) := by decide +kernel
theorem d_Specifier_readIndex_26 : decode cd_Specifier_readIndex 26 = .ok (.aload_n 1, 1) := by decide +kernel
theorem d_Specifier_readIndex_27 : decode cd_Specifier_readIndex 27 = .ok (.iload_n 2, 1) := by decide +kernel
theorem d_Specifier_readIndex_28 : decode cd_Specifier_readIndex 28 = .ok (.invokevirtual 84, 3) := by decide +kernel
theorem d_Specifier_readIndex_31 : decode cd_Specifier_readIndex 31 = .ok (.bipush 48, 2) := by decide +kernel
theorem d_Specifier_readIndex_33 : decode cd_Specifier_readIndex 33 = .ok (.if_icmp .eq 18, 3) := by decide +kernel
theorem d_Specifier_readIndex_36 : decode cd_Specifier_readIndex 36 = .ok (.iload_n 3, 1) := by decide +kernel
theorem d_Specifier_readIndex_37 : decode cd_Specifier_readIndex 37 = .ok (.iload_n 2, 1) := by decide +kernel
theorem d_Specifier_readIndex_38 : decode cd_Specifier_readIndex 38 = .ok (.if_icmp .eq 13, 3) := by decide +kernel
theorem d_Specifier_readIndex_41 : decode cd_Specifier_readIndex 41 = .ok (.aload_n 1, 1) := by decide +kernel
theorem d_Specifier_readIndex_42 : decode cd_Specifier_readIndex 42 = .ok (.iload_n 3, 1) := by decide +kernel
theorem d_Specifier_readIndex_43 : decode cd_Specifier_readIndex 43 = .ok (.invokevirtual 84, 3) := by decide +kernel
theorem d_Specifier_readIndex_46 : decode cd_Specifier_readIndex 46 = .ok (.bipush 36, 2) := by decide +kernel
theorem d_Specifier_readIndex_48 : decode cd_Specifier_readIndex 48 = .ok (.if_icmp .eq 5, 3) := by decide +kernel
theorem d_Specifier_readIndex_51 : decode cd_Specifier_readIndex 51 = .ok (.iload_n 2, 1) := by decide +kernel
theorem d_Specifier_readIndex_52 : decode cd_Specifier_readIndex 52 = .ok (.ireturn, 1) := by decide +kernel
theorem d_Specifier_readIndex_53 : decode cd_Specifier_readIndex 53 = .ok (.aload_n 0, 1) := by decide +kernel
theorem d_Specifier_readIndex_54 : decode cd_Specifier_readIndex 54 = .ok (.aload_n 1, 1) := by decide +kernel
theorem d_Specifier_readIndex_55 : decode cd_Specifier_readIndex 55 = .ok (.iload_n 2, 1) := by decide +kernel
theorem d_Specifier_readIndex_56 : decode cd_Specifier_readIndex 56 = .ok (.iload_n 3, 1) := by decide +kernel
theorem d_Specifier_readIndex_57 : decode cd_Specifier_readIndex 57 = .ok (.invokestatic 92, 3) := by decide +kernel
theorem d_Specifier_readIndex_60 : decode cd_Specifier_readIndex 60 = .ok (.putfield 9, 3) := by decide +kernel
theorem d_Specifier_readIndex_63 : decode cd_Specifier_readIndex 63 = .ok (.iload_n 3, 1) := by decide +kernel
theorem d_Specifier_readIndex_64 : decode cd_Specifier_readIndex 64 = .ok (.iconst 1, 1) := by decide +kernel
theorem d_Specifier_readIndex_65 : decode cd_Specifier_readIndex 65 = .ok (.iadd, 1) := by decide +kernel
theorem d_Specifier_readIndex_66 : decode cd_Specifier_readIndex 66 = .ok (.ireturn, 1) := by decide +kernel
theorem m_142 : Cond.methodLink R_Specifier 89 y_Specifier_digitsEnd ∈ gw := gm (i := 435) (by decide +kernel) (by decide +kernel)
theorem m_143 : Cond.static y_Specifier_digitsEnd ∈ gw := gm (i := 436) (by decide +kernel) (by decide +kernel)
set_option maxRecDepth 100000 in
theorem m_144 : Cond.code y_Specifier_digitsEnd cd_Specifier_digitsEnd 3 (some .int) ∈ gw := gm (i := 437) rfl rfl
theorem m_145 : Cond.methodLink R_Specifier 92 y_Specifier_numberIn ∈ gw := gm (i := 438) (by decide +kernel) (by decide +kernel)
theorem m_146 : Cond.static y_Specifier_numberIn ∈ gw := gm (i := 439) (by decide +kernel) (by decide +kernel)
set_option maxRecDepth 100000 in
theorem m_147 : Cond.code y_Specifier_numberIn cd_Specifier_numberIn 5 (some .int) ∈ gw := gm (i := 440) rfl rfl
def f_Specifier_readIndex (K : Nat) (t_index : Int32) (na1_cells : Nat) (a1_cells : Nat → Int32) (a1_used : Int32) (a2 : Int32) : Option (Int32 × Int32) :=
  ((f_Row_at na1_cells a1_cells a1_used a2).bind fun u_2 => (if u_2 = (60 : Int32) then some ((a2 + (1 : Int32)), (-2 : Int32)) else ((f_Specifier_digitsEnd K na1_cells a1_cells a1_used a2).bind fun u_22 => ((f_Row_at na1_cells a1_cells a1_used a2).bind fun u_28 => (if u_28 = (48 : Int32) then some (a2, t_index) else (if u_22 = a2 then some (a2, t_index) else ((f_Row_at na1_cells a1_cells a1_used u_22).bind fun u_43 => (if u_43 = (36 : Int32) then ((f_Specifier_numberIn K na1_cells a1_cells a1_used a2 u_22).bind fun u_57 => some ((u_22 + (1 : Int32)), u_57)) else some (a2, t_index)))))))))
abbrev w_Specifier_readIndex (G : Gt) (qt : Nat) (t_index : Int32) (t_flags : Int32) (t_width : Int32) (t_precision : Int32) (t_conversion : Int32) (t_great : Int32) (t_known : Int32) (t_cutOff : Int32) (t_flagTwice : Int32) (t_last : Int32) (qa1 : Nat) (qa1_cells : Nat) (na1_cells : Nat) (a1_cells : Nat → Int32) (a1_used : Int32) (a1_burst : Int32) : va_W := [(qt, .inr (5, [.int t_index, .int t_flags, .int t_width, .int t_precision, .int t_conversion, .int t_great, .int t_known, .int t_cutOff, .int t_flagTwice, .int t_last])), (qa1, .inr (4, [.ref qa1_cells, .int a1_used, .int a1_burst])), (qa1_cells, .inl (gC G 0, na1_cells, .inl a1_cells))]
set_option maxHeartbeats 4000000 in
set_option maxRecDepth 100000 in
theorem c_Specifier_readIndex (l : Launch) (G : Gt) (K : Nat) (qt : Nat) (t_index : Int32) (t_flags : Int32) (t_width : Int32) (t_precision : Int32) (t_conversion : Int32) (t_great : Int32) (t_known : Int32) (t_cutOff : Int32) (t_flagTwice : Int32) (t_last : Int32) (qa1 : Nat) (qa1_cells : Nat) (na1_cells : Nat) (a1_cells : Nat → Int32) (a1_used : Int32) (a1_burst : Int32) (a2 : Int32) (sz : Nat) (res : Int32 × Int32)   (hf : f_Specifier_readIndex K t_index na1_cells a1_cells a1_used a2 = some res) : Met l y_Specifier_readIndex (.code y_Specifier_readIndex cd_Specifier_readIndex 4 (some .int) :: gw) { frames := 2, cells := 0, slots := 0, locals := 80 } (PC G ([.ref qt, .ref qa1, .int a2] : List Value) sz (w_Specifier_readIndex G qt t_index t_flags t_width t_precision t_conversion t_great t_known t_cutOff t_flagTwice t_last qa1 qa1_cells na1_cells a1_cells a1_used a1_burst)) (QI G res.1 (va_A (w_Specifier_readIndex G qt t_index t_flags t_width t_precision t_conversion t_great t_known t_cutOff t_flagTwice t_last qa1 qa1_cells na1_cells a1_cells a1_used a1_burst) sz) (w_Specifier_readIndex G qt res.2 t_flags t_width t_precision t_conversion t_great t_known t_cutOff t_flagTwice t_last qa1 qa1_cells na1_cells a1_cells a1_used a1_burst)) 0 0 (va_A (w_Specifier_readIndex G qt t_index t_flags t_width t_precision t_conversion t_great t_known t_cutOff t_flagTwice t_last qa1 qa1_cells na1_cells a1_cells a1_used a1_burst) sz) := by
  refine Met.ofW (cc := cd_Specifier_readIndex) (maxL := 4) (ret := (some .int)) (by decide) rfl ?_
  intro p e s m args below meth c s₁ B hml hv
  obtain ⟨rfl, hsz, hP, hE, hD0⟩ := hv
  have hx := B.exec
  have hb := B.bytes
  have hr := B.returns
  have hts := atoms_spec (ws := (.code y_Specifier_readIndex cd_Specifier_readIndex 4 (some .int) :: gw)) B.pre
  have hg : ∀ w ∈ gw, w.before _ s = true := fun w h => hts w (List.mem_cons_of_mem _ h)
  have hown : s.vm.findClass R_Specifier = some m.cls := findClass_of_methodNamed B.named
  have hlocks := B.notSynchronized
  subst hsz
  have hK := hE.K
  have hD := hD0.self (sz := s.heap.size)
  have hAb := hE.ab hD0
  obtain ⟨Q, hQ⟩ : ∃ Q, MQ below (QI G res.1 (va_A (w_Specifier_readIndex G qt t_index t_flags t_width t_precision t_conversion t_great t_known t_cutOff t_flagTwice t_last qa1 qa1_cells na1_cells a1_cells a1_used a1_burst) s.heap.size) (w_Specifier_readIndex G qt res.2 t_flags t_width t_precision t_conversion t_great t_known t_cutOff t_flagTwice t_last qa1 qa1_cells na1_cells a1_cells a1_used a1_burst)) ([.ref qt, .ref qa1, .int a2] : List Value).toArray s 0 0 (va_A (w_Specifier_readIndex G qt t_index t_flags t_width t_precision t_conversion t_great t_known t_cutOff t_flagTwice t_last qa1 qa1_cells na1_cells a1_cells a1_used a1_burst) s.heap.size) = Q := ⟨_, rfl⟩
  show W p l e { frames := 2, cells := 0, slots := 0, locals := 80 } s m ([.ref qt, .ref qa1, .int a2] : List Value).toArray below meth c s.heap [] 0 0 (MQ below (QI G res.1 (va_A (w_Specifier_readIndex G qt t_index t_flags t_width t_precision t_conversion t_great t_known t_cutOff t_flagTwice t_last qa1 qa1_cells na1_cells a1_cells a1_used a1_burst) s.heap.size) (w_Specifier_readIndex G qt res.2 t_flags t_width t_precision t_conversion t_great t_known t_cutOff t_flagTwice t_last qa1 qa1_cells na1_cells a1_cells a1_used a1_burst)) ([.ref qt, .ref qa1, .int a2] : List Value).toArray s 0 0 (va_A (w_Specifier_readIndex G qt t_index t_flags t_width t_precision t_conversion t_great t_known t_cutOff t_flagTwice t_last qa1 qa1_cells na1_cells a1_cells a1_used a1_burst) s.heap.size)) _
  rw [hQ]
  have hA : ∀ q : Nat, s.heap.size ≤ q → va_A (w_Specifier_readIndex G qt t_index t_flags t_width t_precision t_conversion t_great t_known t_cutOff t_flagTwice t_last qa1 qa1_cells na1_cells a1_cells a1_used a1_burst) s.heap.size q := fun q h => Or.inr h
  obtain ⟨A, hAe⟩ : ∃ A, va_A (w_Specifier_readIndex G qt t_index t_flags t_width t_precision t_conversion t_great t_known t_cutOff t_flagTwice t_last qa1 qa1_cells na1_cells a1_cells a1_used a1_burst) s.heap.size = A := ⟨_, rfl⟩
  rw [hAe] at hA hD hAb hQ
  have hS : va_S A s.heap s.heap [] := va_S.rf
  have hl := lv_entry (([.ref qt, .ref qa1, .int a2] : List Value)) (n := 4) (Nat.le_of_ble_eq_true rfl)
  rw [lg_entry_eq]
  generalize (lg_sl (([.ref qt, .ref qa1, .int a2] : List Value)) ++ List.replicate (4 - (lg_sl (([.ref qt, .ref qa1, .int a2] : List Value))).length) Slot.unset).toArray = ls at hl ⊢
  have hl : lv_has ls 4 [(0, .ref qt), (1, .ref qa1), (2, .int a2)] := hl
  unfold f_Specifier_readIndex at hf
  refine lv_aload_n hx hb d_Specifier_readIndex_0 rfl (lv_at hl 1 rfl) ?_
  refine lv_iload_n hx hb d_Specifier_readIndex_1 rfl (lv_at hl 2 rfl) ?_
  obtain ⟨u_2, hu_2, hf⟩ := bd_ hf
  refine CALLi (va_runV (As := [.int a2]) (rest := []) ⟨hx, hb, hml, hown, hg⟩ (c_Row_at l G K qa1 qa1_cells na1_cells a1_cells a1_used a1_burst a2 _ u_2  hu_2) (cwV 1 hg (gV m_140 m_63 m_64 m_60 m_65) rfl rfl rfl (by decide +kernel) ⟨Nat.le_of_ble_eq_true rfl, Nat.le_of_ble_eq_true rfl⟩) ⟨PC_b, va_recv hK hP (ci := 4) (q0 := 1) rfl rfl, PC_p hE hS hAb (hP.sub [1, 2] rfl) (hD.sub [1, 2] (by decide) rfl)⟩ rfl rfl hl.1 rfl (lv_room (Nat.le_of_ble_eq_true rfl)) d_Specifier_readIndex_2 ⟨Nat.zero_le _, Nat.zero_le _⟩) hP hD hS hA [1, 2] rfl rfl rfl (fun H locs hP hD hS => ?_)
  have hP : va_P (gD G) vwCl (w_Specifier_readIndex G qt t_index t_flags t_width t_precision t_conversion t_great t_known t_cutOff t_flagTwice t_last qa1 qa1_cells na1_cells a1_cells a1_used a1_burst) H := hP
  have hD : va_D A (w_Specifier_readIndex G qt t_index t_flags t_width t_precision t_conversion t_great t_known t_cutOff t_flagTwice t_last qa1 qa1_cells na1_cells a1_cells a1_used a1_burst) := hD
  refine lv_bipush (v := 60) hx hb d_Specifier_readIndex_5 (by decide) ?_
  refine lv_icmp_ne (tgt := 20) hx hb d_Specifier_readIndex_7 (by decide) (fun c_7 => ?_) (fun c_7 => ?_)
  · have hf := in_ c_7 hf
    refine lv_aload_n hx hb d_Specifier_readIndex_20 rfl (lv_at hl 1 rfl) ?_
    refine lv_iload_n hx hb d_Specifier_readIndex_21 rfl (lv_at hl 2 rfl) ?_
    obtain ⟨u_22, hu_22, hf⟩ := bd_ hf
    refine CALLi (va_runS (As := [.ref qa1, .int a2]) (rest := []) ⟨hx, hb, hml, hown, hg⟩ (c_Specifier_digitsEnd l G K qa1 qa1_cells na1_cells a1_cells a1_used a1_burst a2 _ u_22  hu_22) (va_cwS 2 hg (gS m_142 m_143 m_114 m_144) rfl rfl rfl (by decide +kernel) ⟨Nat.le_of_ble_eq_true rfl, Nat.le_of_ble_eq_true rfl⟩) ⟨PC_b, PC_p hE hS hAb (hP.sub [1, 2] rfl) (hD.sub [1, 2] (by decide) rfl)⟩ rfl rfl hl.1 rfl (lv_room (Nat.le_of_ble_eq_true rfl)) d_Specifier_readIndex_22 ⟨Nat.zero_le _, Nat.zero_le _⟩) hP hD hS hA [1, 2] rfl rfl rfl (fun H locs hP hD hS => ?_)
    have hP : va_P (gD G) vwCl (w_Specifier_readIndex G qt t_index t_flags t_width t_precision t_conversion t_great t_known t_cutOff t_flagTwice t_last qa1 qa1_cells na1_cells a1_cells a1_used a1_burst) H := hP
    have hD : va_D A (w_Specifier_readIndex G qt t_index t_flags t_width t_precision t_conversion t_great t_known t_cutOff t_flagTwice t_last qa1 qa1_cells na1_cells a1_cells a1_used a1_burst) := hD
    refine lv_istore_n (lv' := [(3, .int u_22), (0, .ref qt), (1, .ref qa1), (2, .int a2)]) hx hb d_Specifier_readIndex_25 rfl hl (by decide) rfl (fun ls hl => ?_)
    refine lv_aload_n hx hb d_Specifier_readIndex_26 rfl (lv_at hl 2 rfl) ?_
    refine lv_iload_n hx hb d_Specifier_readIndex_27 rfl (lv_at hl 3 rfl) ?_
    obtain ⟨u_28, hu_28, hf⟩ := bd_ hf
    refine CALLi (va_runV (As := [.int a2]) (rest := []) ⟨hx, hb, hml, hown, hg⟩ (c_Row_at l G K qa1 qa1_cells na1_cells a1_cells a1_used a1_burst a2 _ u_28  hu_28) (cwV 1 hg (gV m_140 m_63 m_64 m_60 m_65) rfl rfl rfl (by decide +kernel) ⟨Nat.le_of_ble_eq_true rfl, Nat.le_of_ble_eq_true rfl⟩) ⟨PC_b, va_recv hK hP (ci := 4) (q0 := 1) rfl rfl, PC_p hE hS hAb (hP.sub [1, 2] rfl) (hD.sub [1, 2] (by decide) rfl)⟩ rfl rfl hl.1 rfl (lv_room (Nat.le_of_ble_eq_true rfl)) d_Specifier_readIndex_28 ⟨Nat.zero_le _, Nat.zero_le _⟩) hP hD hS hA [1, 2] rfl rfl rfl (fun H locs hP hD hS => ?_)
    have hP : va_P (gD G) vwCl (w_Specifier_readIndex G qt t_index t_flags t_width t_precision t_conversion t_great t_known t_cutOff t_flagTwice t_last qa1 qa1_cells na1_cells a1_cells a1_used a1_burst) H := hP
    have hD : va_D A (w_Specifier_readIndex G qt t_index t_flags t_width t_precision t_conversion t_great t_known t_cutOff t_flagTwice t_last qa1 qa1_cells na1_cells a1_cells a1_used a1_burst) := hD
    refine lv_bipush (v := 48) hx hb d_Specifier_readIndex_31 (by decide) ?_
    refine lv_icmp_eq (tgt := 51) hx hb d_Specifier_readIndex_33 (by decide) (fun c_33 => ?_) (fun c_33 => ?_)
    · have hf := ip_ c_33 hf
      refine lv_iload_n hx hb d_Specifier_readIndex_51 rfl (lv_at hl 3 rfl) ?_
      obtain rfl := Option.some.inj hf
      rw [← hQ]
      exact W.iret (v := a2) hx hb hr (fun t9 ht hW => ⟨⟨a2, (), rfl, rfl, ⟨by rw [ht]; exact hP, hD⟩⟩, hS.F ht⟩) hS.2.2 d_Specifier_readIndex_52
    · have hf := in_ c_33 hf
      refine lv_iload_n hx hb d_Specifier_readIndex_36 rfl (lv_at hl 0 rfl) ?_
      refine lv_iload_n hx hb d_Specifier_readIndex_37 rfl (lv_at hl 3 rfl) ?_
      refine lv_icmp_eq (tgt := 51) hx hb d_Specifier_readIndex_38 (by decide) (fun c_38 => ?_) (fun c_38 => ?_)
      · have hf := ip_ c_38 hf
        refine lv_iload_n hx hb d_Specifier_readIndex_51 rfl (lv_at hl 3 rfl) ?_
        obtain rfl := Option.some.inj hf
        rw [← hQ]
        exact W.iret (v := a2) hx hb hr (fun t9 ht hW => ⟨⟨a2, (), rfl, rfl, ⟨by rw [ht]; exact hP, hD⟩⟩, hS.F ht⟩) hS.2.2 d_Specifier_readIndex_52
      · have hf := in_ c_38 hf
        refine lv_aload_n hx hb d_Specifier_readIndex_41 rfl (lv_at hl 2 rfl) ?_
        refine lv_iload_n hx hb d_Specifier_readIndex_42 rfl (lv_at hl 0 rfl) ?_
        obtain ⟨u_43, hu_43, hf⟩ := bd_ hf
        refine CALLi (va_runV (As := [.int u_22]) (rest := []) ⟨hx, hb, hml, hown, hg⟩ (c_Row_at l G K qa1 qa1_cells na1_cells a1_cells a1_used a1_burst u_22 _ u_43  hu_43) (cwV 1 hg (gV m_140 m_63 m_64 m_60 m_65) rfl rfl rfl (by decide +kernel) ⟨Nat.le_of_ble_eq_true rfl, Nat.le_of_ble_eq_true rfl⟩) ⟨PC_b, va_recv hK hP (ci := 4) (q0 := 1) rfl rfl, PC_p hE hS hAb (hP.sub [1, 2] rfl) (hD.sub [1, 2] (by decide) rfl)⟩ rfl rfl hl.1 rfl (lv_room (Nat.le_of_ble_eq_true rfl)) d_Specifier_readIndex_43 ⟨Nat.zero_le _, Nat.zero_le _⟩) hP hD hS hA [1, 2] rfl rfl rfl (fun H locs hP hD hS => ?_)
        have hP : va_P (gD G) vwCl (w_Specifier_readIndex G qt t_index t_flags t_width t_precision t_conversion t_great t_known t_cutOff t_flagTwice t_last qa1 qa1_cells na1_cells a1_cells a1_used a1_burst) H := hP
        have hD : va_D A (w_Specifier_readIndex G qt t_index t_flags t_width t_precision t_conversion t_great t_known t_cutOff t_flagTwice t_last qa1 qa1_cells na1_cells a1_cells a1_used a1_burst) := hD
        refine lv_bipush (v := 36) hx hb d_Specifier_readIndex_46 (by decide) ?_
        refine lv_icmp_eq (tgt := 53) hx hb d_Specifier_readIndex_48 (by decide) (fun c_48 => ?_) (fun c_48 => ?_)
        · have hf := ip_ c_48 hf
          refine lv_aload_n hx hb d_Specifier_readIndex_53 rfl (lv_at hl 1 rfl) ?_
          refine lv_aload_n hx hb d_Specifier_readIndex_54 rfl (lv_at hl 2 rfl) ?_
          refine lv_iload_n hx hb d_Specifier_readIndex_55 rfl (lv_at hl 3 rfl) ?_
          refine lv_iload_n hx hb d_Specifier_readIndex_56 rfl (lv_at hl 0 rfl) ?_
          obtain ⟨u_57, hu_57, hf⟩ := bd_ hf
          refine CALLi (va_runS (As := [.ref qa1, .int a2, .int u_22]) (rest := [.ref qt]) ⟨hx, hb, hml, hown, hg⟩ (c_Specifier_numberIn l G K qa1 qa1_cells na1_cells a1_cells a1_used a1_burst a2 u_22 _ u_57  hu_57) (va_cwS 3 hg (gS m_145 m_146 m_114 m_147) rfl rfl rfl (by decide +kernel) ⟨Nat.le_of_ble_eq_true rfl, Nat.le_of_ble_eq_true rfl⟩) ⟨PC_b, PC_p hE hS hAb (hP.sub [1, 2] rfl) (hD.sub [1, 2] (by decide) rfl)⟩ rfl rfl hl.1 rfl (lv_room (Nat.le_of_ble_eq_true rfl)) d_Specifier_readIndex_57 ⟨Nat.zero_le _, Nat.zero_le _⟩) hP hD hS hA [1, 2] rfl rfl rfl (fun H locs hP hD hS => ?_)
          have hP : va_P (gD G) vwCl (w_Specifier_readIndex G qt t_index t_flags t_width t_precision t_conversion t_great t_known t_cutOff t_flagTwice t_last qa1 qa1_cells na1_cells a1_cells a1_used a1_burst) H := hP
          have hD : va_D A (w_Specifier_readIndex G qt t_index t_flags t_width t_precision t_conversion t_great t_known t_cutOff t_flagTwice t_last qa1 qa1_cells na1_cells a1_cells a1_used a1_burst) := hD
          refine va_put (D := gD G) (ci := 5) (v := .int u_57) (ty := .int) (C := R_Specifier) (T := F_Specifier) (N := 10) hx hb hg in_Specifier t_Specifier to_Specifier no_Specifier hown hK hP hD hS 0 rfl rfl 0 (by decide) (hg _ m_129) (fun _ h9 => h9) rfl (by decide +kernel) rfl rfl (Nat.le_of_ble_eq_true rfl) d_Specifier_readIndex_60 (fun H locs hP hD hS => ?_)
          have hP : va_P (gD G) vwCl (w_Specifier_readIndex G qt u_57 t_flags t_width t_precision t_conversion t_great t_known t_cutOff t_flagTwice t_last qa1 qa1_cells na1_cells a1_cells a1_used a1_burst) H := hP
          have hD : va_D A (w_Specifier_readIndex G qt u_57 t_flags t_width t_precision t_conversion t_great t_known t_cutOff t_flagTwice t_last qa1 qa1_cells na1_cells a1_cells a1_used a1_burst) := hD
          refine lv_iload_n hx hb d_Specifier_readIndex_63 rfl (lv_at hl 0 rfl) ?_
          refine lv_iconst (v := 1) hx hb d_Specifier_readIndex_64 (by decide) ?_
          refine lv_iadd hx hb d_Specifier_readIndex_65 ?_
          obtain rfl := Option.some.inj hf
          rw [← hQ]
          exact W.iret (v := (u_22 + (1 : Int32))) hx hb hr (fun t9 ht hW => ⟨⟨(u_22 + (1 : Int32)), (), rfl, rfl, ⟨by rw [ht]; exact hP, hD⟩⟩, hS.F ht⟩) hS.2.2 d_Specifier_readIndex_66
        · have hf := in_ c_48 hf
          refine lv_iload_n hx hb d_Specifier_readIndex_51 rfl (lv_at hl 3 rfl) ?_
          obtain rfl := Option.some.inj hf
          rw [← hQ]
          exact W.iret (v := a2) hx hb hr (fun t9 ht hW => ⟨⟨a2, (), rfl, rfl, ⟨by rw [ht]; exact hP, hD⟩⟩, hS.F ht⟩) hS.2.2 d_Specifier_readIndex_52
  · have hf := ip_ c_7 hf
    refine lv_aload_n hx hb d_Specifier_readIndex_10 rfl (lv_at hl 0 rfl) ?_
    refine lv_bipush (v := -2) hx hb d_Specifier_readIndex_11 (by decide) ?_
    refine va_put (D := gD G) (ci := 5) (v := .int (-2 : Int32)) (ty := .int) (C := R_Specifier) (T := F_Specifier) (N := 10) hx hb hg in_Specifier t_Specifier to_Specifier no_Specifier hown hK hP hD hS 0 rfl rfl 0 (by decide) (hg _ m_129) (fun _ h9 => h9) rfl (by decide +kernel) rfl rfl (Nat.le_of_ble_eq_true rfl) d_Specifier_readIndex_13 (fun H locs hP hD hS => ?_)
    have hP : va_P (gD G) vwCl (w_Specifier_readIndex G qt (-2 : Int32) t_flags t_width t_precision t_conversion t_great t_known t_cutOff t_flagTwice t_last qa1 qa1_cells na1_cells a1_cells a1_used a1_burst) H := hP
    have hD : va_D A (w_Specifier_readIndex G qt (-2 : Int32) t_flags t_width t_precision t_conversion t_great t_known t_cutOff t_flagTwice t_last qa1 qa1_cells na1_cells a1_cells a1_used a1_burst) := hD
    refine lv_iload_n hx hb d_Specifier_readIndex_16 rfl (lv_at hl 2 rfl) ?_
    refine lv_iconst (v := 1) hx hb d_Specifier_readIndex_17 (by decide) ?_
    refine lv_iadd hx hb d_Specifier_readIndex_18 ?_
    obtain rfl := Option.some.inj hf
    rw [← hQ]
    exact W.iret (v := (a2 + (1 : Int32))) hx hb hr (fun t9 ht hW => ⟨⟨(a2 + (1 : Int32)), (), rfl, rfl, ⟨by rw [ht]; exact hP, hD⟩⟩, hS.F ht⟩) hS.2.2 d_Specifier_readIndex_19
theorem d_Specifier_readFlags_0 : decode cd_Specifier_readFlags 0 = .ok (.iload_n 2, 1) := by decide +kernel
theorem d_Specifier_readFlags_1 : decode cd_Specifier_readFlags 1 = .ok (.istore_n 3, 1) := by decide +kernel
theorem d_Specifier_readFlags_2 : decode cd_Specifier_readFlags 2 = .ok (.iload_n 3, 1) := by decide +kernel
theorem d_Specifier_readFlags_3 : decode cd_Specifier_readFlags 3 = .ok (.aload_n 1, 1) := by decide +kernel
theorem d_Specifier_readFlags_4 : decode cd_Specifier_readFlags 4 = .ok (.getfield 96, 3) := by decide +kernel
theorem d_Specifier_readFlags_7 : decode cd_Specifier_readFlags 7 = .ok (.if_icmp .ge 63, 3) := by decide +kernel
theorem d_Specifier_readFlags_10 : decode cd_Specifier_readFlags 10 = .ok (.aload_n 1, 1) := by decide +kernel
theorem d_Specifier_readFlags_11 : decode cd_Specifier_readFlags 11 = .ok (.iload_n 3, 1) := by decide +kernel
theorem d_Specifier_readFlags_12 : decode cd_Specifier_readFlags 12 = .ok (.invokevirtual 84, 3) := by decide +kernel
theorem d_Specifier_readFlags_15 : decode cd_Specifier_readFlags 15 = .ok (.invokestatic 99, 3) := by decide +kernel
theorem d_Specifier_readFlags_18 : decode cd_Specifier_readFlags 18 = .ok (.istore 4, 2) := by decide +kernel
theorem d_Specifier_readFlags_20 : decode cd_Specifier_readFlags 20 = .ok (.iload 4, 2) := by decide +kernel
theorem d_Specifier_readFlags_22 : decode cd_Specifier_readFlags 22 = .ok (.ifCond .ne 6, 3) := by decide +kernel
theorem d_Specifier_readFlags_25 : decode cd_Specifier_readFlags 25 = .ok (.goto 45, 3) := by decide +kernel
theorem d_Specifier_readFlags_28 : decode cd_Specifier_readFlags 28 = .ok (.aload_n 0, 1) := by decide +kernel
theorem d_Specifier_readFlags_29 : decode cd_Specifier_readFlags 29 = .ok (.aload_n 0, 1) := by decide +kernel
theorem d_Specifier_readFlags_30 : decode cd_Specifier_readFlags 30 = .ok (.getfield 36, 3) := by decide +kernel
theorem d_Specifier_readFlags_33 : decode cd_Specifier_readFlags 33 = .ok (.ifCond .ne 12, 3) := by decide +kernel
theorem d_Specifier_readFlags_36 : decode cd_Specifier_readFlags 36 = .ok (.aload_n 0, 1) := by decide +kernel
theorem d_Specifier_readFlags_37 : decode cd_Specifier_readFlags 37 = .ok (.iload 4, 2) := by decide +kernel
theorem d_Specifier_readFlags_39 : decode cd_Specifier_readFlags 39 = .ok (.invokevirtual 56, 3) := by decide +kernel
theorem d_Specifier_readFlags_42 : decode cd_Specifier_readFlags 42 = .ok (.ifCond .eq 7, 3) := by decide +kernel
theorem d_Specifier_readFlags_45 : decode cd_Specifier_readFlags 45 = .ok (.iconst 1, 1) := by decide +kernel
theorem d_Specifier_readFlags_46 : decode cd_Specifier_readFlags 46 = .ok (.goto 4, 3) := by decide +kernel
theorem d_Specifier_readFlags_49 : decode cd_Specifier_readFlags 49 = .ok (.iconst 0, 1) := by decide +kernel
theorem d_Specifier_readFlags_50 : decode cd_Specifier_readFlags 50 = .ok (.putfield 36, 3) := by decide +kernel
theorem d_Specifier_readFlags_53 : decode cd_Specifier_readFlags 53 = .ok (.aload_n 0, 1) := by decide +kernel
theorem d_Specifier_readFlags_54 : decode cd_Specifier_readFlags 54 = .ok (.dup, 1) := by decide +kernel
theorem d_Specifier_readFlags_55 : decode cd_Specifier_readFlags 55 = .ok (.getfield 13, 3) := by decide +kernel
theorem d_Specifier_readFlags_58 : decode cd_Specifier_readFlags 58 = .ok (.iload 4, 2) := by decide +kernel
theorem d_Specifier_readFlags_60 : decode cd_Specifier_readFlags 60 = .ok (.ior, 1) := by decide +kernel
theorem d_Specifier_readFlags_61 : decode cd_Specifier_readFlags 61 = .ok (.putfield 13, 3) := by decide +kernel
theorem d_Specifier_readFlags_64 : decode cd_Specifier_readFlags 64 = .ok (.iinc 3 1, 3) := by decide +kernel
theorem d_Specifier_readFlags_67 : decode cd_Specifier_readFlags 67 = .ok (.goto (-65), 3) := by decide +kernel
theorem d_Specifier_readFlags_70 : decode cd_Specifier_readFlags 70 = .ok (.iload_n 3, 1) := by decide +kernel
theorem d_Specifier_readFlags_71 : decode cd_Specifier_readFlags 71 = .ok (.ireturn, 1) := by decide +kernel
theorem m_148 : Cond.methodLink R_Specifier 99 y_Specifier_flagOf ∈ gw := gm (i := 448) (by decide +kernel) (by decide +kernel)
theorem m_149 : Cond.static y_Specifier_flagOf ∈ gw := gm (i := 449) (by decide +kernel) (by decide +kernel)
set_option maxRecDepth 100000 in
theorem m_150 : Cond.code y_Specifier_flagOf cd_Specifier_flagOf 1 (some .int) ∈ gw := gm (i := 450) rfl rfl
def k_Specifier_readFlags_50 (rec_2 : (Int32 × Int32 × Int32) → Option (Int32 × Int32 × Int32)) (x3 : Int32) (x4 : Int32) (k1 : Int32) (t_flags : Int32) (t_flagTwice : Int32) : Option (Int32 × Int32 × Int32) :=
  rec_2 ((x3 + 1), (t_flags ||| x4), k1)
def k_Specifier_readFlags_45 (rec_2 : (Int32 × Int32 × Int32) → Option (Int32 × Int32 × Int32)) (x3 : Int32) (x4 : Int32) (t_flags : Int32) (t_flagTwice : Int32) : Option (Int32 × Int32 × Int32) :=
  k_Specifier_readFlags_50 rec_2 x3 x4 (1 : Int32) t_flags t_flagTwice
def b_Specifier_readFlags_2 (na1_cells : Nat) (a1_cells : Nat → Int32) (a1_used : Int32)  (rec_2 : (Int32 × Int32 × Int32) → Option (Int32 × Int32 × Int32)) (z2 : Int32 × Int32 × Int32) : Option (Int32 × Int32 × Int32) :=
  (if a1_used ≤ z2.1 then some (z2.1, z2.2.1, z2.2.2) else ((f_Row_at na1_cells a1_cells a1_used z2.1).bind fun u_12 => ((f_Specifier_flagOf u_12).bind fun u_15 => (if u_15 = 0 then some (z2.1, z2.2.1, z2.2.2) else (if z2.2.2 = 0 then ((f_Specifier_hasAny z2.2.1 u_15).bind fun u_39 => (if u_39 = 0 then k_Specifier_readFlags_50 rec_2 z2.1 u_15 (0 : Int32) z2.2.1 z2.2.2 else k_Specifier_readFlags_45 rec_2 z2.1 u_15 z2.2.1 z2.2.2)) else k_Specifier_readFlags_45 rec_2 z2.1 u_15 z2.2.1 z2.2.2)))))
def f_Specifier_readFlags (K : Nat) (t_flags : Int32) (t_flagTwice : Int32) (na1_cells : Nat) (a1_cells : Nat → Int32) (a1_used : Int32) (a2 : Int32) : Option (Int32 × Int32 × Int32) :=
  lp_ (b_Specifier_readFlags_2 na1_cells a1_cells a1_used ) K (a2, t_flags, t_flagTwice)
set_option maxHeartbeats 4000000 in
set_option maxRecDepth 100000 in
theorem c_Specifier_readFlags (l : Launch) (G : Gt) (K : Nat) (qt : Nat) (t_index : Int32) (t_flags : Int32) (t_width : Int32) (t_precision : Int32) (t_conversion : Int32) (t_great : Int32) (t_known : Int32) (t_cutOff : Int32) (t_flagTwice : Int32) (t_last : Int32) (qa1 : Nat) (qa1_cells : Nat) (na1_cells : Nat) (a1_cells : Nat → Int32) (a1_used : Int32) (a1_burst : Int32) (a2 : Int32) (sz : Nat) (res : Int32 × Int32 × Int32)   (hf : f_Specifier_readFlags K t_flags t_flagTwice na1_cells a1_cells a1_used a2 = some res) : Met l y_Specifier_readFlags (.code y_Specifier_readFlags cd_Specifier_readFlags 5 (some .int) :: gw) { frames := 1, cells := 0, slots := 0, locals := 40 } (PC G ([.ref qt, .ref qa1, .int a2] : List Value) sz (w_Specifier_readIndex G qt t_index t_flags t_width t_precision t_conversion t_great t_known t_cutOff t_flagTwice t_last qa1 qa1_cells na1_cells a1_cells a1_used a1_burst)) (QI G res.1 (va_A (w_Specifier_readIndex G qt t_index t_flags t_width t_precision t_conversion t_great t_known t_cutOff t_flagTwice t_last qa1 qa1_cells na1_cells a1_cells a1_used a1_burst) sz) (w_Specifier_readIndex G qt t_index res.2.1 t_width t_precision t_conversion t_great t_known t_cutOff res.2.2 t_last qa1 qa1_cells na1_cells a1_cells a1_used a1_burst)) 0 0 (va_A (w_Specifier_readIndex G qt t_index t_flags t_width t_precision t_conversion t_great t_known t_cutOff t_flagTwice t_last qa1 qa1_cells na1_cells a1_cells a1_used a1_burst) sz) := by
  refine Met.ofW (cc := cd_Specifier_readFlags) (maxL := 5) (ret := (some .int)) (by decide) rfl ?_
  intro p e s m args below meth c s₁ B hml hv
  obtain ⟨rfl, hsz, hP, hE, hD0⟩ := hv
  have hx := B.exec
  have hb := B.bytes
  have hr := B.returns
  have hts := atoms_spec (ws := (.code y_Specifier_readFlags cd_Specifier_readFlags 5 (some .int) :: gw)) B.pre
  have hg : ∀ w ∈ gw, w.before _ s = true := fun w h => hts w (List.mem_cons_of_mem _ h)
  have hown : s.vm.findClass R_Specifier = some m.cls := findClass_of_methodNamed B.named
  have hlocks := B.notSynchronized
  subst hsz
  have hK := hE.K
  have hD := hD0.self (sz := s.heap.size)
  have hAb := hE.ab hD0
  obtain ⟨Q, hQ⟩ : ∃ Q, MQ below (QI G res.1 (va_A (w_Specifier_readIndex G qt t_index t_flags t_width t_precision t_conversion t_great t_known t_cutOff t_flagTwice t_last qa1 qa1_cells na1_cells a1_cells a1_used a1_burst) s.heap.size) (w_Specifier_readIndex G qt t_index res.2.1 t_width t_precision t_conversion t_great t_known t_cutOff res.2.2 t_last qa1 qa1_cells na1_cells a1_cells a1_used a1_burst)) ([.ref qt, .ref qa1, .int a2] : List Value).toArray s 0 0 (va_A (w_Specifier_readIndex G qt t_index t_flags t_width t_precision t_conversion t_great t_known t_cutOff t_flagTwice t_last qa1 qa1_cells na1_cells a1_cells a1_used a1_burst) s.heap.size) = Q := ⟨_, rfl⟩
  show W p l e { frames := 1, cells := 0, slots := 0, locals := 40 } s m ([.ref qt, .ref qa1, .int a2] : List Value).toArray below meth c s.heap [] 0 0 (MQ below (QI G res.1 (va_A (w_Specifier_readIndex G qt t_index t_flags t_width t_precision t_conversion t_great t_known t_cutOff t_flagTwice t_last qa1 qa1_cells na1_cells a1_cells a1_used a1_burst) s.heap.size) (w_Specifier_readIndex G qt t_index res.2.1 t_width t_precision t_conversion t_great t_known t_cutOff res.2.2 t_last qa1 qa1_cells na1_cells a1_cells a1_used a1_burst)) ([.ref qt, .ref qa1, .int a2] : List Value).toArray s 0 0 (va_A (w_Specifier_readIndex G qt t_index t_flags t_width t_precision t_conversion t_great t_known t_cutOff t_flagTwice t_last qa1 qa1_cells na1_cells a1_cells a1_used a1_burst) s.heap.size)) _
  rw [hQ]
  have hA : ∀ q : Nat, s.heap.size ≤ q → va_A (w_Specifier_readIndex G qt t_index t_flags t_width t_precision t_conversion t_great t_known t_cutOff t_flagTwice t_last qa1 qa1_cells na1_cells a1_cells a1_used a1_burst) s.heap.size q := fun q h => Or.inr h
  obtain ⟨A, hAe⟩ : ∃ A, va_A (w_Specifier_readIndex G qt t_index t_flags t_width t_precision t_conversion t_great t_known t_cutOff t_flagTwice t_last qa1 qa1_cells na1_cells a1_cells a1_used a1_burst) s.heap.size = A := ⟨_, rfl⟩
  rw [hAe] at hA hD hAb hQ
  have hS : va_S A s.heap s.heap [] := va_S.rf
  have hl := lv_entry (([.ref qt, .ref qa1, .int a2] : List Value)) (n := 5) (Nat.le_of_ble_eq_true rfl)
  rw [lg_entry_eq]
  generalize (lg_sl (([.ref qt, .ref qa1, .int a2] : List Value)) ++ List.replicate (5 - (lg_sl (([.ref qt, .ref qa1, .int a2] : List Value))).length) Slot.unset).toArray = ls at hl ⊢
  have hl : lv_has ls 5 [(0, .ref qt), (1, .ref qa1), (2, .int a2)] := hl
  have W_2 : ∀   (n_2 : Nat) (z2 : Int32 × Int32 × Int32) , lp_ (b_Specifier_readFlags_2 na1_cells a1_cells a1_used ) n_2 z2 = some res → ∀ (H : Heap) (locs : List Loc) (ls : Array Slot), va_P (gD G) vwCl (w_Specifier_readIndex G qt t_index z2.2.1 t_width t_precision t_conversion t_great t_known t_cutOff z2.2.2 t_last qa1 qa1_cells na1_cells a1_cells a1_used a1_burst) H → va_D A (w_Specifier_readIndex G qt t_index z2.2.1 t_width t_precision t_conversion t_great t_known t_cutOff z2.2.2 t_last qa1 qa1_cells na1_cells a1_cells a1_used a1_burst) → va_S A s.heap H locs → lv_has ls 5 [(0, .ref qt), (1, .ref qa1), (3, .int z2.1)] → W p l e { frames := 1, cells := 0, slots := 0, locals := 40 } s m ([.ref qt, .ref qa1, .int a2] : List Value).toArray below meth c H locs 0 0 Q (F0 m 2 ls []) := by
    intro  n_2
    induction n_2 with
    | zero =>
      intro z2  hf
      cases hf
    | succ n_2 ih_2 =>
      intro z2  hf H locs ls hP hD hS hl
      have hf : b_Specifier_readFlags_2 na1_cells a1_cells a1_used  (lp_ (b_Specifier_readFlags_2 na1_cells a1_cells a1_used ) n_2) z2 = some res := hf
      generalize lp_ (b_Specifier_readFlags_2 na1_cells a1_cells a1_used ) n_2 = rec_2 at hf ih_2
      have W_50 : ∀ (x3 : Int32) (x4 : Int32) (k1 : Int32) (t_flags : Int32) (t_flagTwice : Int32) (b_k1 : bl k1), k_Specifier_readFlags_50 rec_2 x3 x4 k1 t_flags t_flagTwice = some res → ∀ (H : Heap) (locs : List Loc) (ls : Array Slot), va_P (gD G) vwCl (w_Specifier_readIndex G qt t_index t_flags t_width t_precision t_conversion t_great t_known t_cutOff t_flagTwice t_last qa1 qa1_cells na1_cells a1_cells a1_used a1_burst) H → va_D A (w_Specifier_readIndex G qt t_index t_flags t_width t_precision t_conversion t_great t_known t_cutOff t_flagTwice t_last qa1 qa1_cells na1_cells a1_cells a1_used a1_burst) → va_S A s.heap H locs → lv_has ls 5 [(0, .ref qt), (1, .ref qa1), (3, .int x3), (4, .int x4)] → W p l e { frames := 1, cells := 0, slots := 0, locals := 40 } s m ([.ref qt, .ref qa1, .int a2] : List Value).toArray below meth c H locs 0 0 Q (F0 m 50 ls [.int k1, .ref qt]) := by
        intro x3 x4 k1 t_flags t_flagTwice b_k1 hf H locs ls hP hD hS hl
        unfold k_Specifier_readFlags_50 at hf
        refine va_put (D := gD G) (ci := 5) (v := .int k1) (ty := .boolean) (C := R_Specifier) (T := F_Specifier) (N := 10) hx hb hg in_Specifier t_Specifier to_Specifier no_Specifier hown hK hP hD hS 0 rfl rfl 8 (by decide) (hg _ m_130) (fun _ h9 => h9) rfl (by decide +kernel) (bl_n b_k1) (bl_f b_k1) (Nat.le_of_ble_eq_true rfl) d_Specifier_readFlags_50 (fun H locs hP hD hS => ?_)
        have hP : va_P (gD G) vwCl (w_Specifier_readIndex G qt t_index t_flags t_width t_precision t_conversion t_great t_known t_cutOff k1 t_last qa1 qa1_cells na1_cells a1_cells a1_used a1_burst) H := hP
        have hD : va_D A (w_Specifier_readIndex G qt t_index t_flags t_width t_precision t_conversion t_great t_known t_cutOff k1 t_last qa1 qa1_cells na1_cells a1_cells a1_used a1_burst) := hD
        refine lv_aload_n hx hb d_Specifier_readFlags_53 rfl (lv_at hl 0 rfl) ?_
        refine lv_dup hx hb d_Specifier_readFlags_54 rfl ?_
        refine va_get (D := gD G) (ci := 5) (v := .int t_flags) (C := R_Specifier) (T := F_Specifier) (N := 10) hx hb hg in_Specifier hown hK hP 0 rfl rfl 1 (by decide) (hg _ m_110) (fun _ h9 => h9) rfl d_Specifier_readFlags_55 ?_
        refine lv_iload hx hb d_Specifier_readFlags_58 (lv_at hl 3 rfl) ?_
        refine lv_ior hx hb d_Specifier_readFlags_60 ?_
        refine va_put (D := gD G) (ci := 5) (v := .int (t_flags ||| x4)) (ty := .int) (C := R_Specifier) (T := F_Specifier) (N := 10) hx hb hg in_Specifier t_Specifier to_Specifier no_Specifier hown hK hP hD hS 0 rfl rfl 1 (by decide) (hg _ m_110) (fun _ h9 => h9) rfl (by decide +kernel) rfl rfl (Nat.le_of_ble_eq_true rfl) d_Specifier_readFlags_61 (fun H locs hP hD hS => ?_)
        have hP : va_P (gD G) vwCl (w_Specifier_readIndex G qt t_index (t_flags ||| x4) t_width t_precision t_conversion t_great t_known t_cutOff k1 t_last qa1 qa1_cells na1_cells a1_cells a1_used a1_burst) H := hP
        have hD : va_D A (w_Specifier_readIndex G qt t_index (t_flags ||| x4) t_width t_precision t_conversion t_great t_known t_cutOff k1 t_last qa1 qa1_cells na1_cells a1_cells a1_used a1_burst) := hD
        refine lv_iinc (v := (x3 + 1)) (lv' := [(3, .int (x3 + 1)), (0, .ref qt), (1, .ref qa1), (4, .int x4)]) hx hb d_Specifier_readFlags_64 hl (k := 2) rfl rfl (by decide) rfl (fun ls hl => ?_)
        refine lv_goto (tgt := 2) hx hb d_Specifier_readFlags_67 (by decide) ?_
        exact ih_2 ((x3 + 1), (t_flags ||| x4), k1)  hf _ _ _ hP hD hS (lv_sub hl [1, 2, 0] rfl)
      have W_45 : ∀ (x3 : Int32) (x4 : Int32) (t_flags : Int32) (t_flagTwice : Int32) , k_Specifier_readFlags_45 rec_2 x3 x4 t_flags t_flagTwice = some res → ∀ (H : Heap) (locs : List Loc) (ls : Array Slot), va_P (gD G) vwCl (w_Specifier_readIndex G qt t_index t_flags t_width t_precision t_conversion t_great t_known t_cutOff t_flagTwice t_last qa1 qa1_cells na1_cells a1_cells a1_used a1_burst) H → va_D A (w_Specifier_readIndex G qt t_index t_flags t_width t_precision t_conversion t_great t_known t_cutOff t_flagTwice t_last qa1 qa1_cells na1_cells a1_cells a1_used a1_burst) → va_S A s.heap H locs → lv_has ls 5 [(0, .ref qt), (1, .ref qa1), (3, .int x3), (4, .int x4)] → W p l e { frames := 1, cells := 0, slots := 0, locals := 40 } s m ([.ref qt, .ref qa1, .int a2] : List Value).toArray below meth c H locs 0 0 Q (F0 m 45 ls [.ref qt]) := by
        intro x3 x4 t_flags t_flagTwice  hf H locs ls hP hD hS hl
        unfold k_Specifier_readFlags_45 at hf
        refine lv_iconst (v := 1) hx hb d_Specifier_readFlags_45 (by decide) ?_
        refine lv_goto (tgt := 50) hx hb d_Specifier_readFlags_46 (by decide) ?_
        exact W_50 x3 x4 (1 : Int32) t_flags t_flagTwice bl_1 hf _ _ _ hP hD hS (lv_sub hl [0, 1, 2, 3] rfl)
      unfold b_Specifier_readFlags_2 at hf
      refine lv_iload_n hx hb d_Specifier_readFlags_2 rfl (lv_at hl 2 rfl) ?_
      refine lv_aload_n hx hb d_Specifier_readFlags_3 rfl (lv_at hl 1 rfl) ?_
      refine va_getN (D := gD G) (ci := 4) (v := .int a1_used) (C := R_Row) (T := F_Row) (N := 3) hx hb hg in_Row hown hK hP 1 rfl rfl 1 (by decide) (va_Nw.use rfl (hE.nw _ nm_0)) (fun _ h9 => h9) rfl d_Specifier_readFlags_4 ?_
      refine lv_icmp_ge (tgt := 70) hx hb d_Specifier_readFlags_7 (by decide) (fun c_7 => ?_) (fun c_7 => ?_)
      · have hf := ip_ c_7 hf
        refine lv_iload_n hx hb d_Specifier_readFlags_70 rfl (lv_at hl 2 rfl) ?_
        obtain rfl := Option.some.inj hf
        rw [← hQ]
        exact W.iret (v := z2.1) hx hb hr (fun t9 ht hW => ⟨⟨z2.1, (), rfl, rfl, ⟨by rw [ht]; exact hP, hD⟩⟩, hS.F ht⟩) hS.2.2 d_Specifier_readFlags_71
      · have hf := in_ c_7 hf
        refine lv_aload_n hx hb d_Specifier_readFlags_10 rfl (lv_at hl 1 rfl) ?_
        refine lv_iload_n hx hb d_Specifier_readFlags_11 rfl (lv_at hl 2 rfl) ?_
        obtain ⟨u_12, hu_12, hf⟩ := bd_ hf
        refine CALLi (va_runV (As := [.int z2.1]) (rest := []) ⟨hx, hb, hml, hown, hg⟩ (c_Row_at l G K qa1 qa1_cells na1_cells a1_cells a1_used a1_burst z2.1 _ u_12  hu_12) (cwV 1 hg (gV m_140 m_63 m_64 m_60 m_65) rfl rfl rfl (by decide +kernel) ⟨Nat.le_of_ble_eq_true rfl, Nat.le_of_ble_eq_true rfl⟩) ⟨PC_b, va_recv hK hP (ci := 4) (q0 := 1) rfl rfl, PC_p hE hS hAb (hP.sub [1, 2] rfl) (hD.sub [1, 2] (by decide) rfl)⟩ rfl rfl hl.1 rfl (lv_room (Nat.le_of_ble_eq_true rfl)) d_Specifier_readFlags_12 ⟨Nat.zero_le _, Nat.zero_le _⟩) hP hD hS hA [1, 2] rfl rfl rfl (fun H locs hP hD hS => ?_)
        have hP : va_P (gD G) vwCl (w_Specifier_readIndex G qt t_index z2.2.1 t_width t_precision t_conversion t_great t_known t_cutOff z2.2.2 t_last qa1 qa1_cells na1_cells a1_cells a1_used a1_burst) H := hP
        have hD : va_D A (w_Specifier_readIndex G qt t_index z2.2.1 t_width t_precision t_conversion t_great t_known t_cutOff z2.2.2 t_last qa1 qa1_cells na1_cells a1_cells a1_used a1_burst) := hD
        obtain ⟨u_15, hu_15, hf⟩ := bd_ hf
        refine CALLi (va_runS (As := [.int u_12]) (rest := []) ⟨hx, hb, hml, hown, hg⟩ (c_Specifier_flagOf l G K u_12 _ u_15  hu_15) (va_cwS 1 hg (gS m_148 m_149 m_114 m_150) rfl rfl rfl (by decide +kernel) ⟨Nat.le_of_ble_eq_true rfl, Nat.le_of_ble_eq_true rfl⟩) ⟨PC_b, PC_p hE hS hAb (hP.sub [] rfl) (hD.sub [] (by decide) rfl)⟩ rfl rfl hl.1 rfl (lv_room (Nat.le_of_ble_eq_true rfl)) d_Specifier_readFlags_15 ⟨Nat.zero_le _, Nat.zero_le _⟩) hP hD hS hA [] rfl rfl rfl (fun H locs hP hD hS => ?_)
        have hP : va_P (gD G) vwCl (w_Specifier_readIndex G qt t_index z2.2.1 t_width t_precision t_conversion t_great t_known t_cutOff z2.2.2 t_last qa1 qa1_cells na1_cells a1_cells a1_used a1_burst) H := hP
        have hD : va_D A (w_Specifier_readIndex G qt t_index z2.2.1 t_width t_precision t_conversion t_great t_known t_cutOff z2.2.2 t_last qa1 qa1_cells na1_cells a1_cells a1_used a1_burst) := hD
        refine lv_istore (lv' := [(4, .int u_15), (0, .ref qt), (1, .ref qa1), (3, .int z2.1)]) hx hb d_Specifier_readFlags_18 hl (by decide) rfl (fun ls hl => ?_)
        refine lv_iload hx hb d_Specifier_readFlags_20 (lv_at hl 0 rfl) ?_
        refine lv_if_ne (tgt := 28) hx hb d_Specifier_readFlags_22 (by decide) (fun c_22 => ?_) (fun c_22 => ?_)
        · have hf := in_ c_22 hf
          refine lv_aload_n hx hb d_Specifier_readFlags_28 rfl (lv_at hl 1 rfl) ?_
          refine lv_aload_n hx hb d_Specifier_readFlags_29 rfl (lv_at hl 1 rfl) ?_
          refine va_get (D := gD G) (ci := 5) (v := .int z2.2.2) (C := R_Specifier) (T := F_Specifier) (N := 10) hx hb hg in_Specifier hown hK hP 0 rfl rfl 8 (by decide) (hg _ m_130) (fun _ h9 => h9) rfl d_Specifier_readFlags_30 ?_
          refine lv_if_ne (tgt := 45) hx hb d_Specifier_readFlags_33 (by decide) (fun c_33 => ?_) (fun c_33 => ?_)
          · have hf := in_ c_33 hf
            exact W_45 z2.1 u_15 z2.2.1 z2.2.2  hf _ _ _ hP hD hS (lv_sub hl [1, 2, 3, 0] rfl)
          · have hf := ip_ c_33 hf
            refine lv_aload_n hx hb d_Specifier_readFlags_36 rfl (lv_at hl 1 rfl) ?_
            refine lv_iload hx hb d_Specifier_readFlags_37 (lv_at hl 0 rfl) ?_
            obtain ⟨u_39, hu_39, hf⟩ := bd_ hf
            refine CALLz (va_runV (As := [.int u_15]) (rest := [.ref qt]) ⟨hx, hb, hml, hown, hg⟩ (c_Specifier_hasAny l G K qt t_index z2.2.1 t_width t_precision t_conversion t_great t_known t_cutOff z2.2.2 t_last u_15 _ u_39  hu_39) (cwV 1 hg (gV m_111 m_112 m_113 m_114 m_115) rfl rfl rfl (by decide +kernel) ⟨Nat.le_of_ble_eq_true rfl, Nat.le_of_ble_eq_true rfl⟩) ⟨PC_b, va_recv hK hP (ci := 5) (q0 := 0) rfl rfl, PC_p hE hS hAb (hP.sub [0] rfl) (hD.sub [0] (by decide) rfl)⟩ rfl rfl hl.1 rfl (lv_room (Nat.le_of_ble_eq_true rfl)) d_Specifier_readFlags_39 ⟨Nat.zero_le _, Nat.zero_le _⟩) hP hD hS hA [0] rfl rfl rfl (fun bu_39 H locs hP hD hS => ?_)
            have hP : va_P (gD G) vwCl (w_Specifier_readIndex G qt t_index z2.2.1 t_width t_precision t_conversion t_great t_known t_cutOff z2.2.2 t_last qa1 qa1_cells na1_cells a1_cells a1_used a1_burst) H := hP
            have hD : va_D A (w_Specifier_readIndex G qt t_index z2.2.1 t_width t_precision t_conversion t_great t_known t_cutOff z2.2.2 t_last qa1 qa1_cells na1_cells a1_cells a1_used a1_burst) := hD
            refine lv_if_eq (tgt := 49) hx hb d_Specifier_readFlags_42 (by decide) (fun c_42 => ?_) (fun c_42 => ?_)
            · have hf := ip_ c_42 hf
              refine lv_iconst (v := 0) hx hb d_Specifier_readFlags_49 (by decide) ?_
              exact W_50 z2.1 u_15 (0 : Int32) z2.2.1 z2.2.2 bl_0 hf _ _ _ hP hD hS (lv_sub hl [1, 2, 3, 0] rfl)
            · have hf := in_ c_42 hf
              exact W_45 z2.1 u_15 z2.2.1 z2.2.2  hf _ _ _ hP hD hS (lv_sub hl [1, 2, 3, 0] rfl)
        · have hf := ip_ c_22 hf
          refine lv_goto (tgt := 70) hx hb d_Specifier_readFlags_25 (by decide) ?_
          refine lv_iload_n hx hb d_Specifier_readFlags_70 rfl (lv_at hl 3 rfl) ?_
          obtain rfl := Option.some.inj hf
          rw [← hQ]
          exact W.iret (v := z2.1) hx hb hr (fun t9 ht hW => ⟨⟨z2.1, (), rfl, rfl, ⟨by rw [ht]; exact hP, hD⟩⟩, hS.F ht⟩) hS.2.2 d_Specifier_readFlags_71
  unfold f_Specifier_readFlags at hf
  refine lv_iload_n hx hb d_Specifier_readFlags_0 rfl (lv_at hl 2 rfl) ?_
  refine lv_istore_n (lv' := [(3, .int a2), (0, .ref qt), (1, .ref qa1), (2, .int a2)]) hx hb d_Specifier_readFlags_1 rfl hl (by decide) rfl (fun ls hl => ?_)
  exact W_2   K (a2, t_flags, t_flagTwice)  hf _ _ _ hP hD hS (lv_sub hl [1, 2, 0] rfl)
theorem d_Specifier_readWidth_0 : decode cd_Specifier_readWidth 0 = .ok (.aload_n 1, 1) := by decide +kernel
theorem d_Specifier_readWidth_1 : decode cd_Specifier_readWidth 1 = .ok (.iload_n 2, 1) := by decide +kernel
theorem d_Specifier_readWidth_2 : decode cd_Specifier_readWidth 2 = .ok (.invokestatic 89, 3) := by decide +kernel
theorem d_Specifier_readWidth_5 : decode cd_Specifier_readWidth 5 = .ok (.istore_n 3, 1) := by decide +kernel
theorem d_Specifier_readWidth_6 : decode cd_Specifier_readWidth 6 = .ok (.iload_n 3, 1) := by decide +kernel
theorem d_Specifier_readWidth_7 : decode cd_Specifier_readWidth 7 = .ok (.iload_n 2, 1) := by decide +kernel
theorem d_Specifier_readWidth_8 : decode cd_Specifier_readWidth 8 = .ok (.if_icmp .le 13, 3) := by decide +kernel
theorem d_Specifier_readWidth_11 : decode cd_Specifier_readWidth 11 = .ok (.aload_n 0, 1) := by decide +kernel
theorem d_Specifier_readWidth_12 : decode cd_Specifier_readWidth 12 = .ok (.aload_n 1, 1) := by decide +kernel
theorem d_Specifier_readWidth_13 : decode cd_Specifier_readWidth 13 = .ok (.iload_n 2, 1) := by decide +kernel
theorem d_Specifier_readWidth_14 : decode cd_Specifier_readWidth 14 = .ok (.iload_n 3, 1) := by decide +kernel
theorem d_Specifier_readWidth_15 : decode cd_Specifier_readWidth 15 = .ok (.invokestatic 92, 3) := by decide +kernel
theorem d_Specifier_readWidth_18 : decode cd_Specifier_readWidth 18 = .ok (.putfield 16, 3) := by decide +kernel
theorem d_Specifier_readWidth_21 : decode cd_Specifier_readWidth 21 = .ok (.iload_n 3, 1) := by decide +kernel
theorem d_Specifier_readWidth_22 : decode cd_Specifier_readWidth 22 = .ok (.ireturn, 1) := by decide +kernel
def f_Specifier_readWidth (K : Nat) (t_width : Int32) (na1_cells : Nat) (a1_cells : Nat → Int32) (a1_used : Int32) (a2 : Int32) : Option (Int32 × Int32) :=
  ((f_Specifier_digitsEnd K na1_cells a1_cells a1_used a2).bind fun u_2 => (if u_2 ≤ a2 then some (u_2, t_width) else ((f_Specifier_numberIn K na1_cells a1_cells a1_used a2 u_2).bind fun u_15 => some (u_2, u_15))))
set_option maxHeartbeats 4000000 in
set_option maxRecDepth 100000 in
theorem c_Specifier_readWidth (l : Launch) (G : Gt) (K : Nat) (qt : Nat) (t_index : Int32) (t_flags : Int32) (t_width : Int32) (t_precision : Int32) (t_conversion : Int32) (t_great : Int32) (t_known : Int32) (t_cutOff : Int32) (t_flagTwice : Int32) (t_last : Int32) (qa1 : Nat) (qa1_cells : Nat) (na1_cells : Nat) (a1_cells : Nat → Int32) (a1_used : Int32) (a1_burst : Int32) (a2 : Int32) (sz : Nat) (res : Int32 × Int32)   (hf : f_Specifier_readWidth K t_width na1_cells a1_cells a1_used a2 = some res) : Met l y_Specifier_readWidth (.code y_Specifier_readWidth cd_Specifier_readWidth 4 (some .int) :: gw) { frames := 2, cells := 0, slots := 0, locals := 80 } (PC G ([.ref qt, .ref qa1, .int a2] : List Value) sz (w_Specifier_readIndex G qt t_index t_flags t_width t_precision t_conversion t_great t_known t_cutOff t_flagTwice t_last qa1 qa1_cells na1_cells a1_cells a1_used a1_burst)) (QI G res.1 (va_A (w_Specifier_readIndex G qt t_index t_flags t_width t_precision t_conversion t_great t_known t_cutOff t_flagTwice t_last qa1 qa1_cells na1_cells a1_cells a1_used a1_burst) sz) (w_Specifier_readIndex G qt t_index t_flags res.2 t_precision t_conversion t_great t_known t_cutOff t_flagTwice t_last qa1 qa1_cells na1_cells a1_cells a1_used a1_burst)) 0 0 (va_A (w_Specifier_readIndex G qt t_index t_flags t_width t_precision t_conversion t_great t_known t_cutOff t_flagTwice t_last qa1 qa1_cells na1_cells a1_cells a1_used a1_burst) sz) := by
  refine Met.ofW (cc := cd_Specifier_readWidth) (maxL := 4) (ret := (some .int)) (by decide) rfl ?_
  intro p e s m args below meth c s₁ B hml hv
  obtain ⟨rfl, hsz, hP, hE, hD0⟩ := hv
  have hx := B.exec
  have hb := B.bytes
  have hr := B.returns
  have hts := atoms_spec (ws := (.code y_Specifier_readWidth cd_Specifier_readWidth 4 (some .int) :: gw)) B.pre
  have hg : ∀ w ∈ gw, w.before _ s = true := fun w h => hts w (List.mem_cons_of_mem _ h)
  have hown : s.vm.findClass R_Specifier = some m.cls := findClass_of_methodNamed B.named
  have hlocks := B.notSynchronized
  subst hsz
  have hK := hE.K
  have hD := hD0.self (sz := s.heap.size)
  have hAb := hE.ab hD0
  obtain ⟨Q, hQ⟩ : ∃ Q, MQ below (QI G res.1 (va_A (w_Specifier_readIndex G qt t_index t_flags t_width t_precision t_conversion t_great t_known t_cutOff t_flagTwice t_last qa1 qa1_cells na1_cells a1_cells a1_used a1_burst) s.heap.size) (w_Specifier_readIndex G qt t_index t_flags res.2 t_precision t_conversion t_great t_known t_cutOff t_flagTwice t_last qa1 qa1_cells na1_cells a1_cells a1_used a1_burst)) ([.ref qt, .ref qa1, .int a2] : List Value).toArray s 0 0 (va_A (w_Specifier_readIndex G qt t_index t_flags t_width t_precision t_conversion t_great t_known t_cutOff t_flagTwice t_last qa1 qa1_cells na1_cells a1_cells a1_used a1_burst) s.heap.size) = Q := ⟨_, rfl⟩
  show W p l e { frames := 2, cells := 0, slots := 0, locals := 80 } s m ([.ref qt, .ref qa1, .int a2] : List Value).toArray below meth c s.heap [] 0 0 (MQ below (QI G res.1 (va_A (w_Specifier_readIndex G qt t_index t_flags t_width t_precision t_conversion t_great t_known t_cutOff t_flagTwice t_last qa1 qa1_cells na1_cells a1_cells a1_used a1_burst) s.heap.size) (w_Specifier_readIndex G qt t_index t_flags res.2 t_precision t_conversion t_great t_known t_cutOff t_flagTwice t_last qa1 qa1_cells na1_cells a1_cells a1_used a1_burst)) ([.ref qt, .ref qa1, .int a2] : List Value).toArray s 0 0 (va_A (w_Specifier_readIndex G qt t_index t_flags t_width t_precision t_conversion t_great t_known t_cutOff t_flagTwice t_last qa1 qa1_cells na1_cells a1_cells a1_used a1_burst) s.heap.size)) _
  rw [hQ]
  have hA : ∀ q : Nat, s.heap.size ≤ q → va_A (w_Specifier_readIndex G qt t_index t_flags t_width t_precision t_conversion t_great t_known t_cutOff t_flagTwice t_last qa1 qa1_cells na1_cells a1_cells a1_used a1_burst) s.heap.size q := fun q h => Or.inr h
  obtain ⟨A, hAe⟩ : ∃ A, va_A (w_Specifier_readIndex G qt t_index t_flags t_width t_precision t_conversion t_great t_known t_cutOff t_flagTwice t_last qa1 qa1_cells na1_cells a1_cells a1_used a1_burst) s.heap.size = A := ⟨_, rfl⟩
  rw [hAe] at hA hD hAb hQ
  have hS : va_S A s.heap s.heap [] := va_S.rf
  have hl := lv_entry (([.ref qt, .ref qa1, .int a2] : List Value)) (n := 4) (Nat.le_of_ble_eq_true rfl)
  rw [lg_entry_eq]
  generalize (lg_sl (([.ref qt, .ref qa1, .int a2] : List Value)) ++ List.replicate (4 - (lg_sl (([.ref qt, .ref qa1, .int a2] : List Value))).length) Slot.unset).toArray = ls at hl ⊢
  have hl : lv_has ls 4 [(0, .ref qt), (1, .ref qa1), (2, .int a2)] := hl
  unfold f_Specifier_readWidth at hf
  refine lv_aload_n hx hb d_Specifier_readWidth_0 rfl (lv_at hl 1 rfl) ?_
  refine lv_iload_n hx hb d_Specifier_readWidth_1 rfl (lv_at hl 2 rfl) ?_
  obtain ⟨u_2, hu_2, hf⟩ := bd_ hf
  refine CALLi (va_runS (As := [.ref qa1, .int a2]) (rest := []) ⟨hx, hb, hml, hown, hg⟩ (c_Specifier_digitsEnd l G K qa1 qa1_cells na1_cells a1_cells a1_used a1_burst a2 _ u_2  hu_2) (va_cwS 2 hg (gS m_142 m_143 m_114 m_144) rfl rfl rfl (by decide +kernel) ⟨Nat.le_of_ble_eq_true rfl, Nat.le_of_ble_eq_true rfl⟩) ⟨PC_b, PC_p hE hS hAb (hP.sub [1, 2] rfl) (hD.sub [1, 2] (by decide) rfl)⟩ rfl rfl hl.1 rfl (lv_room (Nat.le_of_ble_eq_true rfl)) d_Specifier_readWidth_2 ⟨Nat.zero_le _, Nat.zero_le _⟩) hP hD hS hA [1, 2] rfl rfl rfl (fun H locs hP hD hS => ?_)
  have hP : va_P (gD G) vwCl (w_Specifier_readIndex G qt t_index t_flags t_width t_precision t_conversion t_great t_known t_cutOff t_flagTwice t_last qa1 qa1_cells na1_cells a1_cells a1_used a1_burst) H := hP
  have hD : va_D A (w_Specifier_readIndex G qt t_index t_flags t_width t_precision t_conversion t_great t_known t_cutOff t_flagTwice t_last qa1 qa1_cells na1_cells a1_cells a1_used a1_burst) := hD
  refine lv_istore_n (lv' := [(3, .int u_2), (0, .ref qt), (1, .ref qa1), (2, .int a2)]) hx hb d_Specifier_readWidth_5 rfl hl (by decide) rfl (fun ls hl => ?_)
  refine lv_iload_n hx hb d_Specifier_readWidth_6 rfl (lv_at hl 0 rfl) ?_
  refine lv_iload_n hx hb d_Specifier_readWidth_7 rfl (lv_at hl 3 rfl) ?_
  refine lv_icmp_le (tgt := 21) hx hb d_Specifier_readWidth_8 (by decide) (fun c_8 => ?_) (fun c_8 => ?_)
  · have hf := ip_ c_8 hf
    refine lv_iload_n hx hb d_Specifier_readWidth_21 rfl (lv_at hl 0 rfl) ?_
    obtain rfl := Option.some.inj hf
    rw [← hQ]
    exact W.iret (v := u_2) hx hb hr (fun t9 ht hW => ⟨⟨u_2, (), rfl, rfl, ⟨by rw [ht]; exact hP, hD⟩⟩, hS.F ht⟩) hS.2.2 d_Specifier_readWidth_22
  · have hf := in_ c_8 hf
    refine lv_aload_n hx hb d_Specifier_readWidth_11 rfl (lv_at hl 1 rfl) ?_
    refine lv_aload_n hx hb d_Specifier_readWidth_12 rfl (lv_at hl 2 rfl) ?_
    refine lv_iload_n hx hb d_Specifier_readWidth_13 rfl (lv_at hl 3 rfl) ?_
    refine lv_iload_n hx hb d_Specifier_readWidth_14 rfl (lv_at hl 0 rfl) ?_
    obtain ⟨u_15, hu_15, hf⟩ := bd_ hf
    refine CALLi (va_runS (As := [.ref qa1, .int a2, .int u_2]) (rest := [.ref qt]) ⟨hx, hb, hml, hown, hg⟩ (c_Specifier_numberIn l G K qa1 qa1_cells na1_cells a1_cells a1_used a1_burst a2 u_2 _ u_15  hu_15) (va_cwS 3 hg (gS m_145 m_146 m_114 m_147) rfl rfl rfl (by decide +kernel) ⟨Nat.le_of_ble_eq_true rfl, Nat.le_of_ble_eq_true rfl⟩) ⟨PC_b, PC_p hE hS hAb (hP.sub [1, 2] rfl) (hD.sub [1, 2] (by decide) rfl)⟩ rfl rfl hl.1 rfl (lv_room (Nat.le_of_ble_eq_true rfl)) d_Specifier_readWidth_15 ⟨Nat.zero_le _, Nat.zero_le _⟩) hP hD hS hA [1, 2] rfl rfl rfl (fun H locs hP hD hS => ?_)
    have hP : va_P (gD G) vwCl (w_Specifier_readIndex G qt t_index t_flags t_width t_precision t_conversion t_great t_known t_cutOff t_flagTwice t_last qa1 qa1_cells na1_cells a1_cells a1_used a1_burst) H := hP
    have hD : va_D A (w_Specifier_readIndex G qt t_index t_flags t_width t_precision t_conversion t_great t_known t_cutOff t_flagTwice t_last qa1 qa1_cells na1_cells a1_cells a1_used a1_burst) := hD
    refine va_put (D := gD G) (ci := 5) (v := .int u_15) (ty := .int) (C := R_Specifier) (T := F_Specifier) (N := 10) hx hb hg in_Specifier t_Specifier to_Specifier no_Specifier hown hK hP hD hS 0 rfl rfl 2 (by decide) (hg _ m_116) (fun _ h9 => h9) rfl (by decide +kernel) rfl rfl (Nat.le_of_ble_eq_true rfl) d_Specifier_readWidth_18 (fun H locs hP hD hS => ?_)
    have hP : va_P (gD G) vwCl (w_Specifier_readIndex G qt t_index t_flags u_15 t_precision t_conversion t_great t_known t_cutOff t_flagTwice t_last qa1 qa1_cells na1_cells a1_cells a1_used a1_burst) H := hP
    have hD : va_D A (w_Specifier_readIndex G qt t_index t_flags u_15 t_precision t_conversion t_great t_known t_cutOff t_flagTwice t_last qa1 qa1_cells na1_cells a1_cells a1_used a1_burst) := hD
    refine lv_iload_n hx hb d_Specifier_readWidth_21 rfl (lv_at hl 0 rfl) ?_
    obtain rfl := Option.some.inj hf
    rw [← hQ]
    exact W.iret (v := u_2) hx hb hr (fun t9 ht hW => ⟨⟨u_2, (), rfl, rfl, ⟨by rw [ht]; exact hP, hD⟩⟩, hS.F ht⟩) hS.2.2 d_Specifier_readWidth_22
theorem d_Specifier_readPrecision_0 : decode cd_Specifier_readPrecision 0 = .ok (.aload_n 1, 1) := by decide +kernel
theorem d_Specifier_readPrecision_1 : decode cd_Specifier_readPrecision 1 = .ok (.iload_n 2, 1) := by decide +kernel
theorem d_Specifier_readPrecision_2 : decode cd_Specifier_readPrecision 2 = .ok (.invokevirtual 84, 3) := by decide +kernel
theorem d_Specifier_readPrecision_5 : decode cd_Specifier_readPrecision 5 = .ok (.bipush 46, 2) := by decide +kernel
theorem d_Specifier_readPrecision_7 : decode cd_Specifier_readPrecision 7 = .ok (.if_icmp .eq 5, 3) := by decide +kernel
theorem d_Specifier_readPrecision_10 : decode cd_Specifier_readPrecision 10 = .ok (.iload_n 2, 1) := by decide +kernel
theorem d_Specifier_readPrecision_11 : decode cd_Specifier_readPrecision 11 = .ok (.ireturn, 1) := by decide +kernel
theorem d_Specifier_readPrecision_12 : decode cd_Specifier_readPrecision 12 = .ok (.aload_n 1, 1) := by decide +kernel
theorem d_Specifier_readPrecision_13 : decode cd_Specifier_readPrecision 13 = .ok (.iload_n 2, 1) := by decide +kernel
theorem d_Specifier_readPrecision_14 : decode cd_Specifier_readPrecision 14 = .ok (.iconst 1, 1) := by decide +kernel
theorem d_Specifier_readPrecision_15 : decode cd_Specifier_readPrecision 15 = .ok (.iadd, 1) := by decide +kernel
theorem d_Specifier_readPrecision_16 : decode cd_Specifier_readPrecision 16 = .ok (.invokestatic 89, 3) := by decide +kernel
theorem d_Specifier_readPrecision_19 : decode cd_Specifier_readPrecision 19 = .ok (.istore_n 3, 1) := by decide +kernel
theorem d_Specifier_readPrecision_20 : decode cd_Specifier_readPrecision 20 = .ok (.iload_n 3, 1) := by decide +kernel
theorem d_Specifier_readPrecision_21 : decode cd_Specifier_readPrecision 21 = .ok (.iload_n 2, 1) := by decide +kernel
theorem d_Specifier_readPrecision_22 : decode cd_Specifier_readPrecision 22 = .ok (.iconst 1, 1) := by decide +kernel
theorem d_Specifier_readPrecision_23 : decode cd_Specifier_readPrecision 23 = .ok (.iadd, 1) := by decide +kernel
theorem d_Specifier_readPrecision_24 : decode cd_Specifier_readPrecision 24 = .ok (.if_icmp .ne 11, 3) := by decide +kernel
theorem d_Specifier_readPrecision_27 : decode cd_Specifier_readPrecision 27 = .ok (.aload_n 0, 1) := by decide +kernel
theorem d_Specifier_readPrecision_28 : decode cd_Specifier_readPrecision 28 = .ok (.iconst 1, 1) := by decide +kernel
theorem d_Specifier_readPrecision_29 : decode cd_Specifier_readPrecision 29 = .ok (.putfield 33, 3) := by decide +kernel
theorem d_Specifier_readPrecision_32 : decode cd_Specifier_readPrecision 32 = .ok (.goto 15, 3) := by decide +kernel
theorem d_Specifier_readPrecision_35 : decode cd_Specifier_readPrecision 35 = .ok (.aload_n 0, 1) := by decide +kernel
theorem d_Specifier_readPrecision_36 : decode cd_Specifier_readPrecision 36 = .ok (.aload_n 1, 1) := by decide +kernel
theorem d_Specifier_readPrecision_37 : decode cd_Specifier_readPrecision 37 = .ok (.iload_n 2, 1) := by decide +kernel
theorem d_Specifier_readPrecision_38 : decode cd_Specifier_readPrecision 38 = .ok (.iconst 1, 1) := by decide +kernel
theorem d_Specifier_readPrecision_39 : decode cd_Specifier_readPrecision 39 = .ok (.iadd, 1) := by decide +kernel
theorem d_Specifier_readPrecision_40 : decode cd_Specifier_readPrecision 40 = .ok (.iload_n 3, 1) := by decide +kernel
theorem d_Specifier_readPrecision_41 : decode cd_Specifier_readPrecision 41 = .ok (.invokestatic 92, 3) := by decide +kernel
theorem d_Specifier_readPrecision_44 : decode cd_Specifier_readPrecision 44 = .ok (.putfield 19, 3) := by decide +kernel
theorem d_Specifier_readPrecision_47 : decode cd_Specifier_readPrecision 47 = .ok (.iload_n 3, 1) := by decide +kernel
theorem d_Specifier_readPrecision_48 : decode cd_Specifier_readPrecision 48 = .ok (.ireturn, 1) := by decide +kernel
def f_Specifier_readPrecision (K : Nat) (t_precision : Int32) (t_cutOff : Int32) (na1_cells : Nat) (a1_cells : Nat → Int32) (a1_used : Int32) (a2 : Int32) : Option (Int32 × Int32 × Int32) :=
  ((f_Row_at na1_cells a1_cells a1_used a2).bind fun u_2 => (if u_2 = (46 : Int32) then ((f_Specifier_digitsEnd K na1_cells a1_cells a1_used (a2 + (1 : Int32))).bind fun u_16 => (if u_16 = (a2 + (1 : Int32)) then some (u_16, t_precision, (1 : Int32)) else ((f_Specifier_numberIn K na1_cells a1_cells a1_used (a2 + (1 : Int32)) u_16).bind fun u_41 => some (u_16, u_41, t_cutOff)))) else some (a2, t_precision, t_cutOff)))
set_option maxHeartbeats 4000000 in
set_option maxRecDepth 100000 in
theorem c_Specifier_readPrecision (l : Launch) (G : Gt) (K : Nat) (qt : Nat) (t_index : Int32) (t_flags : Int32) (t_width : Int32) (t_precision : Int32) (t_conversion : Int32) (t_great : Int32) (t_known : Int32) (t_cutOff : Int32) (t_flagTwice : Int32) (t_last : Int32) (qa1 : Nat) (qa1_cells : Nat) (na1_cells : Nat) (a1_cells : Nat → Int32) (a1_used : Int32) (a1_burst : Int32) (a2 : Int32) (sz : Nat) (res : Int32 × Int32 × Int32)   (hf : f_Specifier_readPrecision K t_precision t_cutOff na1_cells a1_cells a1_used a2 = some res) : Met l y_Specifier_readPrecision (.code y_Specifier_readPrecision cd_Specifier_readPrecision 4 (some .int) :: gw) { frames := 2, cells := 0, slots := 0, locals := 80 } (PC G ([.ref qt, .ref qa1, .int a2] : List Value) sz (w_Specifier_readIndex G qt t_index t_flags t_width t_precision t_conversion t_great t_known t_cutOff t_flagTwice t_last qa1 qa1_cells na1_cells a1_cells a1_used a1_burst)) (QI G res.1 (va_A (w_Specifier_readIndex G qt t_index t_flags t_width t_precision t_conversion t_great t_known t_cutOff t_flagTwice t_last qa1 qa1_cells na1_cells a1_cells a1_used a1_burst) sz) (w_Specifier_readIndex G qt t_index t_flags t_width res.2.1 t_conversion t_great t_known res.2.2 t_flagTwice t_last qa1 qa1_cells na1_cells a1_cells a1_used a1_burst)) 0 0 (va_A (w_Specifier_readIndex G qt t_index t_flags t_width t_precision t_conversion t_great t_known t_cutOff t_flagTwice t_last qa1 qa1_cells na1_cells a1_cells a1_used a1_burst) sz) := by
  refine Met.ofW (cc := cd_Specifier_readPrecision) (maxL := 4) (ret := (some .int)) (by decide) rfl ?_
  intro p e s m args below meth c s₁ B hml hv
  obtain ⟨rfl, hsz, hP, hE, hD0⟩ := hv
  have hx := B.exec
  have hb := B.bytes
  have hr := B.returns
  have hts := atoms_spec (ws := (.code y_Specifier_readPrecision cd_Specifier_readPrecision 4 (some .int) :: gw)) B.pre
  have hg : ∀ w ∈ gw, w.before _ s = true := fun w h => hts w (List.mem_cons_of_mem _ h)
  have hown : s.vm.findClass R_Specifier = some m.cls := findClass_of_methodNamed B.named
  have hlocks := B.notSynchronized
  subst hsz
  have hK := hE.K
  have hD := hD0.self (sz := s.heap.size)
  have hAb := hE.ab hD0
  obtain ⟨Q, hQ⟩ : ∃ Q, MQ below (QI G res.1 (va_A (w_Specifier_readIndex G qt t_index t_flags t_width t_precision t_conversion t_great t_known t_cutOff t_flagTwice t_last qa1 qa1_cells na1_cells a1_cells a1_used a1_burst) s.heap.size) (w_Specifier_readIndex G qt t_index t_flags t_width res.2.1 t_conversion t_great t_known res.2.2 t_flagTwice t_last qa1 qa1_cells na1_cells a1_cells a1_used a1_burst)) ([.ref qt, .ref qa1, .int a2] : List Value).toArray s 0 0 (va_A (w_Specifier_readIndex G qt t_index t_flags t_width t_precision t_conversion t_great t_known t_cutOff t_flagTwice t_last qa1 qa1_cells na1_cells a1_cells a1_used a1_burst) s.heap.size) = Q := ⟨_, rfl⟩
  show W p l e { frames := 2, cells := 0, slots := 0, locals := 80 } s m ([.ref qt, .ref qa1, .int a2] : List Value).toArray below meth c s.heap [] 0 0 (MQ below (QI G res.1 (va_A (w_Specifier_readIndex G qt t_index t_flags t_width t_precision t_conversion t_great t_known t_cutOff t_flagTwice t_last qa1 qa1_cells na1_cells a1_cells a1_used a1_burst) s.heap.size) (w_Specifier_readIndex G qt t_index t_flags t_width res.2.1 t_conversion t_great t_known res.2.2 t_flagTwice t_last qa1 qa1_cells na1_cells a1_cells a1_used a1_burst)) ([.ref qt, .ref qa1, .int a2] : List Value).toArray s 0 0 (va_A (w_Specifier_readIndex G qt t_index t_flags t_width t_precision t_conversion t_great t_known t_cutOff t_flagTwice t_last qa1 qa1_cells na1_cells a1_cells a1_used a1_burst) s.heap.size)) _
  rw [hQ]
  have hA : ∀ q : Nat, s.heap.size ≤ q → va_A (w_Specifier_readIndex G qt t_index t_flags t_width t_precision t_conversion t_great t_known t_cutOff t_flagTwice t_last qa1 qa1_cells na1_cells a1_cells a1_used a1_burst) s.heap.size q := fun q h => Or.inr h
  obtain ⟨A, hAe⟩ : ∃ A, va_A (w_Specifier_readIndex G qt t_index t_flags t_width t_precision t_conversion t_great t_known t_cutOff t_flagTwice t_last qa1 qa1_cells na1_cells a1_cells a1_used a1_burst) s.heap.size = A := ⟨_, rfl⟩
  rw [hAe] at hA hD hAb hQ
  have hS : va_S A s.heap s.heap [] := va_S.rf
  have hl := lv_entry (([.ref qt, .ref qa1, .int a2] : List Value)) (n := 4) (Nat.le_of_ble_eq_true rfl)
  rw [lg_entry_eq]
  generalize (lg_sl (([.ref qt, .ref qa1, .int a2] : List Value)) ++ List.replicate (4 - (lg_sl (([.ref qt, .ref qa1, .int a2] : List Value))).length) Slot.unset).toArray = ls at hl ⊢
  have hl : lv_has ls 4 [(0, .ref qt), (1, .ref qa1), (2, .int a2)] := hl
  unfold f_Specifier_readPrecision at hf
  refine lv_aload_n hx hb d_Specifier_readPrecision_0 rfl (lv_at hl 1 rfl) ?_
  refine lv_iload_n hx hb d_Specifier_readPrecision_1 rfl (lv_at hl 2 rfl) ?_
  obtain ⟨u_2, hu_2, hf⟩ := bd_ hf
  refine CALLi (va_runV (As := [.int a2]) (rest := []) ⟨hx, hb, hml, hown, hg⟩ (c_Row_at l G K qa1 qa1_cells na1_cells a1_cells a1_used a1_burst a2 _ u_2  hu_2) (cwV 1 hg (gV m_140 m_63 m_64 m_60 m_65) rfl rfl rfl (by decide +kernel) ⟨Nat.le_of_ble_eq_true rfl, Nat.le_of_ble_eq_true rfl⟩) ⟨PC_b, va_recv hK hP (ci := 4) (q0 := 1) rfl rfl, PC_p hE hS hAb (hP.sub [1, 2] rfl) (hD.sub [1, 2] (by decide) rfl)⟩ rfl rfl hl.1 rfl (lv_room (Nat.le_of_ble_eq_true rfl)) d_Specifier_readPrecision_2 ⟨Nat.zero_le _, Nat.zero_le _⟩) hP hD hS hA [1, 2] rfl rfl rfl (fun H locs hP hD hS => ?_)
  have hP : va_P (gD G) vwCl (w_Specifier_readIndex G qt t_index t_flags t_width t_precision t_conversion t_great t_known t_cutOff t_flagTwice t_last qa1 qa1_cells na1_cells a1_cells a1_used a1_burst) H := hP
  have hD : va_D A (w_Specifier_readIndex G qt t_index t_flags t_width t_precision t_conversion t_great t_known t_cutOff t_flagTwice t_last qa1 qa1_cells na1_cells a1_cells a1_used a1_burst) := hD
  refine lv_bipush (v := 46) hx hb d_Specifier_readPrecision_5 (by decide) ?_
  refine lv_icmp_eq (tgt := 12) hx hb d_Specifier_readPrecision_7 (by decide) (fun c_7 => ?_) (fun c_7 => ?_)
  · have hf := ip_ c_7 hf
    refine lv_aload_n hx hb d_Specifier_readPrecision_12 rfl (lv_at hl 1 rfl) ?_
    refine lv_iload_n hx hb d_Specifier_readPrecision_13 rfl (lv_at hl 2 rfl) ?_
    refine lv_iconst (v := 1) hx hb d_Specifier_readPrecision_14 (by decide) ?_
    refine lv_iadd hx hb d_Specifier_readPrecision_15 ?_
    obtain ⟨u_16, hu_16, hf⟩ := bd_ hf
    refine CALLi (va_runS (As := [.ref qa1, .int (a2 + (1 : Int32))]) (rest := []) ⟨hx, hb, hml, hown, hg⟩ (c_Specifier_digitsEnd l G K qa1 qa1_cells na1_cells a1_cells a1_used a1_burst (a2 + (1 : Int32)) _ u_16  hu_16) (va_cwS 2 hg (gS m_142 m_143 m_114 m_144) rfl rfl rfl (by decide +kernel) ⟨Nat.le_of_ble_eq_true rfl, Nat.le_of_ble_eq_true rfl⟩) ⟨PC_b, PC_p hE hS hAb (hP.sub [1, 2] rfl) (hD.sub [1, 2] (by decide) rfl)⟩ rfl rfl hl.1 rfl (lv_room (Nat.le_of_ble_eq_true rfl)) d_Specifier_readPrecision_16 ⟨Nat.zero_le _, Nat.zero_le _⟩) hP hD hS hA [1, 2] rfl rfl rfl (fun H locs hP hD hS => ?_)
    have hP : va_P (gD G) vwCl (w_Specifier_readIndex G qt t_index t_flags t_width t_precision t_conversion t_great t_known t_cutOff t_flagTwice t_last qa1 qa1_cells na1_cells a1_cells a1_used a1_burst) H := hP
    have hD : va_D A (w_Specifier_readIndex G qt t_index t_flags t_width t_precision t_conversion t_great t_known t_cutOff t_flagTwice t_last qa1 qa1_cells na1_cells a1_cells a1_used a1_burst) := hD
    refine lv_istore_n (lv' := [(3, .int u_16), (0, .ref qt), (1, .ref qa1), (2, .int a2)]) hx hb d_Specifier_readPrecision_19 rfl hl (by decide) rfl (fun ls hl => ?_)
    refine lv_iload_n hx hb d_Specifier_readPrecision_20 rfl (lv_at hl 0 rfl) ?_
    refine lv_iload_n hx hb d_Specifier_readPrecision_21 rfl (lv_at hl 3 rfl) ?_
    refine lv_iconst (v := 1) hx hb d_Specifier_readPrecision_22 (by decide) ?_
    refine lv_iadd hx hb d_Specifier_readPrecision_23 ?_
    refine lv_icmp_ne (tgt := 35) hx hb d_Specifier_readPrecision_24 (by decide) (fun c_24 => ?_) (fun c_24 => ?_)
    · have hf := in_ c_24 hf
      refine lv_aload_n hx hb d_Specifier_readPrecision_35 rfl (lv_at hl 1 rfl) ?_
      refine lv_aload_n hx hb d_Specifier_readPrecision_36 rfl (lv_at hl 2 rfl) ?_
      refine lv_iload_n hx hb d_Specifier_readPrecision_37 rfl (lv_at hl 3 rfl) ?_
      refine lv_iconst (v := 1) hx hb d_Specifier_readPrecision_38 (by decide) ?_
      refine lv_iadd hx hb d_Specifier_readPrecision_39 ?_
      refine lv_iload_n hx hb d_Specifier_readPrecision_40 rfl (lv_at hl 0 rfl) ?_
      obtain ⟨u_41, hu_41, hf⟩ := bd_ hf
      refine CALLi (va_runS (As := [.ref qa1, .int (a2 + (1 : Int32)), .int u_16]) (rest := [.ref qt]) ⟨hx, hb, hml, hown, hg⟩ (c_Specifier_numberIn l G K qa1 qa1_cells na1_cells a1_cells a1_used a1_burst (a2 + (1 : Int32)) u_16 _ u_41  hu_41) (va_cwS 3 hg (gS m_145 m_146 m_114 m_147) rfl rfl rfl (by decide +kernel) ⟨Nat.le_of_ble_eq_true rfl, Nat.le_of_ble_eq_true rfl⟩) ⟨PC_b, PC_p hE hS hAb (hP.sub [1, 2] rfl) (hD.sub [1, 2] (by decide) rfl)⟩ rfl rfl hl.1 rfl (lv_room (Nat.le_of_ble_eq_true rfl)) d_Specifier_readPrecision_41 ⟨Nat.zero_le _, Nat.zero_le _⟩) hP hD hS hA [1, 2] rfl rfl rfl (fun H locs hP hD hS => ?_)
      have hP : va_P (gD G) vwCl (w_Specifier_readIndex G qt t_index t_flags t_width t_precision t_conversion t_great t_known t_cutOff t_flagTwice t_last qa1 qa1_cells na1_cells a1_cells a1_used a1_burst) H := hP
      have hD : va_D A (w_Specifier_readIndex G qt t_index t_flags t_width t_precision t_conversion t_great t_known t_cutOff t_flagTwice t_last qa1 qa1_cells na1_cells a1_cells a1_used a1_burst) := hD
      refine va_put (D := gD G) (ci := 5) (v := .int u_41) (ty := .int) (C := R_Specifier) (T := F_Specifier) (N := 10) hx hb hg in_Specifier t_Specifier to_Specifier no_Specifier hown hK hP hD hS 0 rfl rfl 3 (by decide) (hg _ m_117) (fun _ h9 => h9) rfl (by decide +kernel) rfl rfl (Nat.le_of_ble_eq_true rfl) d_Specifier_readPrecision_44 (fun H locs hP hD hS => ?_)
      have hP : va_P (gD G) vwCl (w_Specifier_readIndex G qt t_index t_flags t_width u_41 t_conversion t_great t_known t_cutOff t_flagTwice t_last qa1 qa1_cells na1_cells a1_cells a1_used a1_burst) H := hP
      have hD : va_D A (w_Specifier_readIndex G qt t_index t_flags t_width u_41 t_conversion t_great t_known t_cutOff t_flagTwice t_last qa1 qa1_cells na1_cells a1_cells a1_used a1_burst) := hD
      refine lv_iload_n hx hb d_Specifier_readPrecision_47 rfl (lv_at hl 0 rfl) ?_
      obtain rfl := Option.some.inj hf
      rw [← hQ]
      exact W.iret (v := u_16) hx hb hr (fun t9 ht hW => ⟨⟨u_16, (), rfl, rfl, ⟨by rw [ht]; exact hP, hD⟩⟩, hS.F ht⟩) hS.2.2 d_Specifier_readPrecision_48
    · have hf := ip_ c_24 hf
      refine lv_aload_n hx hb d_Specifier_readPrecision_27 rfl (lv_at hl 1 rfl) ?_
      refine lv_iconst (v := 1) hx hb d_Specifier_readPrecision_28 (by decide) ?_
      refine va_put (D := gD G) (ci := 5) (v := .int (1 : Int32)) (ty := .boolean) (C := R_Specifier) (T := F_Specifier) (N := 10) hx hb hg in_Specifier t_Specifier to_Specifier no_Specifier hown hK hP hD hS 0 rfl rfl 7 (by decide) (hg _ m_128) (fun _ h9 => h9) rfl (by decide +kernel) (bl_n bl_1) (bl_f bl_1) (Nat.le_of_ble_eq_true rfl) d_Specifier_readPrecision_29 (fun H locs hP hD hS => ?_)
      have hP : va_P (gD G) vwCl (w_Specifier_readIndex G qt t_index t_flags t_width t_precision t_conversion t_great t_known (1 : Int32) t_flagTwice t_last qa1 qa1_cells na1_cells a1_cells a1_used a1_burst) H := hP
      have hD : va_D A (w_Specifier_readIndex G qt t_index t_flags t_width t_precision t_conversion t_great t_known (1 : Int32) t_flagTwice t_last qa1 qa1_cells na1_cells a1_cells a1_used a1_burst) := hD
      refine lv_goto (tgt := 47) hx hb d_Specifier_readPrecision_32 (by decide) ?_
      refine lv_iload_n hx hb d_Specifier_readPrecision_47 rfl (lv_at hl 0 rfl) ?_
      obtain rfl := Option.some.inj hf
      rw [← hQ]
      exact W.iret (v := u_16) hx hb hr (fun t9 ht hW => ⟨⟨u_16, (), rfl, rfl, ⟨by rw [ht]; exact hP, hD⟩⟩, hS.F ht⟩) hS.2.2 d_Specifier_readPrecision_48
  · have hf := in_ c_7 hf
    refine lv_iload_n hx hb d_Specifier_readPrecision_10 rfl (lv_at hl 2 rfl) ?_
    obtain rfl := Option.some.inj hf
    rw [← hQ]
    exact W.iret (v := a2) hx hb hr (fun t9 ht hW => ⟨⟨a2, (), rfl, rfl, ⟨by rw [ht]; exact hP, hD⟩⟩, hS.F ht⟩) hS.2.2 d_Specifier_readPrecision_11
theorem d_Specifier_readConversion_0 : decode cd_Specifier_readConversion 0 = .ok (.aload_n 0, 1) := by decide +kernel
theorem d_Specifier_readConversion_1 : decode cd_Specifier_readConversion 1 = .ok (.iload_n 2, 1) := by decide +kernel
theorem d_Specifier_readConversion_2 : decode cd_Specifier_readConversion 2 = .ok (.putfield 102, 3) := by decide +kernel
theorem d_Specifier_readConversion_5 : decode cd_Specifier_readConversion 5 = .ok (.aload_n 1, 1) := by decide +kernel
theorem d_Specifier_readConversion_6 : decode cd_Specifier_readConversion 6 = .ok (.iload_n 2, 1) := by decide +kernel
theorem d_Specifier_readConversion_7 : decode cd_Specifier_readConversion 7 = .ok (.invokevirtual 84, 3) := by decide +kernel
theorem d_Specifier_readConversion_10 : decode cd_Specifier_readConversion 10 = .ok (.istore_n 3, 1) := by decide +kernel
theorem d_Specifier_readConversion_11 : decode cd_Specifier_readConversion 11 = .ok (.iload_n 3, 1) := by decide +kernel
theorem d_Specifier_readConversion_12 : decode cd_Specifier_readConversion 12 = .ok (.ifCond .ge 9, 3) := by decide +kernel
theorem d_Specifier_readConversion_15 : decode cd_Specifier_readConversion 15 = .ok (.aload_n 0, 1) := by decide +kernel
theorem d_Specifier_readConversion_16 : decode cd_Specifier_readConversion 16 = .ok (.iconst 1, 1) := by decide +kernel
theorem d_Specifier_readConversion_17 : decode cd_Specifier_readConversion 17 = .ok (.putfield 33, 3) := by decide +kernel
theorem d_Specifier_readConversion_20 : decode cd_Specifier_readConversion 20 = .ok (.return_, 1) := by decide +kernel
theorem d_Specifier_readConversion_21 : decode cd_Specifier_readConversion 21 = .ok (.aload_n 0, 1) := by decide +kernel
theorem d_Specifier_readConversion_22 : decode cd_Specifier_readConversion 22 = .ok (.ldc 105, 2) := by decide +kernel
theorem d_Specifier_readConversion_24 : decode cd_Specifier_readConversion 24 = .ok (.iload_n 3, 1) := by decide +kernel
theorem d_Specifier_readConversion_25 : decode cd_Specifier_readConversion 25 = .ok (.i2c, 1) := by decide +kernel
theorem d_Specifier_readConversion_26 : decode cd_Specifier_readConversion 26 = .ok (.invokevirtual 69, 3) := by decide +kernel
theorem d_Specifier_readConversion_29 : decode cd_Specifier_readConversion 29 = .ok (.ifCond .lt 7, 3) := by decide +kernel
theorem d_Specifier_readConversion_32 : decode cd_Specifier_readConversion 32 = .ok (.iconst 1, 1) := by decide +kernel
theorem d_Specifier_readConversion_33 : decode cd_Specifier_readConversion 33 = .ok (.goto 4, 3) := by decide +kernel
theorem d_Specifier_readConversion_36 : decode cd_Specifier_readConversion 36 = .ok (.iconst 0, 1) := by decide +kernel
theorem d_Specifier_readConversion_37 : decode cd_Specifier_readConversion 37 = .ok (.putfield 26, 3) := by decide +kernel
theorem d_Specifier_readConversion_40 : decode cd_Specifier_readConversion 40 = .ok (.aload_n 0, 1) := by decide +kernel
theorem d_Specifier_readConversion_41 : decode cd_Specifier_readConversion 41 = .ok (.aload_n 0, 1) := by decide +kernel
theorem d_Specifier_readConversion_42 : decode cd_Specifier_readConversion 42 = .ok (.getfield 26, 3) := by decide +kernel
theorem d_Specifier_readConversion_45 : decode cd_Specifier_readConversion 45 = .ok (.ifCond .eq 10, 3) := by decide +kernel
theorem d_Specifier_readConversion_48 : decode cd_Specifier_readConversion 48 = .ok (.iload_n 3, 1) := by decide +kernel
theorem d_Specifier_readConversion_49 : decode cd_Specifier_readConversion 49 = .ok (.bipush 32, 2) := by decide +kernel
theorem d_Specifier_readConversion_51 : decode cd_Specifier_readConversion 51 = .ok (.iadd, 1) := by decide +kernel
theorem d_Specifier_readConversion_52 : decode cd_Specifier_readConversion 52 = .ok (.goto 4, 3) := by decide +kernel
theorem d_Specifier_readConversion_55 : decode cd_Specifier_readConversion 55 = .ok (.iload_n 3, 1) := by decide +kernel
theorem d_Specifier_readConversion_56 : decode cd_Specifier_readConversion 56 = .ok (.i2c, 1) := by decide +kernel
theorem d_Specifier_readConversion_57 : decode cd_Specifier_readConversion 57 = .ok (.putfield 22, 3) := by decide +kernel
theorem d_Specifier_readConversion_60 : decode cd_Specifier_readConversion 60 = .ok (.aload_n 0, 1) := by decide +kernel
theorem d_Specifier_readConversion_61 : decode cd_Specifier_readConversion 61 = .ok (.ldc 107, 2) := by decide +kernel
theorem d_Specifier_readConversion_63 : decode cd_Specifier_readConversion 63 = .ok (.aload_n 0, 1) := by decide +kernel
theorem d_Specifier_readConversion_64 : decode cd_Specifier_readConversion 64 = .ok (.getfield 22, 3) := by decide +kernel
theorem d_Specifier_readConversion_67 : decode cd_Specifier_readConversion 67 = .ok (.invokevirtual 69, 3) := by decide +kernel
theorem d_Specifier_readConversion_70 : decode cd_Specifier_readConversion 70 = .ok (.ifCond .lt 7, 3) := by decide +kernel
theorem d_Specifier_readConversion_73 : decode cd_Specifier_readConversion 73 = .ok (.iconst 1, 1) := by decide +kernel
theorem d_Specifier_readConversion_74 : decode cd_Specifier_readConversion 74 = .ok (.goto 4, 3) := by decide +kernel
theorem d_Specifier_readConversion_77 : decode cd_Specifier_readConversion 77 = .ok (.iconst 0, 1) := by decide +kernel
theorem d_Specifier_readConversion_78 : decode cd_Specifier_readConversion 78 = .ok (.putfield 30, 3) := by decide +kernel
theorem d_Specifier_readConversion_81 : decode cd_Specifier_readConversion 81 = .ok (.return_, 1) := by decide +kernel
theorem m_151 : Cond.fieldLink R_Specifier 102 "SpecifierDesk$Specifier" "last" "I" ∈ gw := gm (i := 153) (by decide +kernel) (by decide +kernel)
theorem m_152 : Cond.fieldLink R_Specifier 26 "SpecifierDesk$Specifier" "great" "Z" ∈ gw := gm (i := 148) (by decide +kernel) (by decide +kernel)
def k_Specifier_readConversion_78  (k1 : Int32) (t_conversion : Int32) (t_great : Int32) (t_known : Int32) (t_cutOff : Int32) (t_last : Int32) : Option (Int32 × Int32 × Int32 × Int32 × Int32) :=
  some (t_conversion, t_great, k1, t_cutOff, t_last)
def k_Specifier_readConversion_56 (K : Nat) (k1 : Int32) (t_conversion : Int32) (t_great : Int32) (t_known : Int32) (t_cutOff : Int32) (t_last : Int32) : Option (Int32 × Int32 × Int32 × Int32 × Int32) :=
  ((f_String_indexOf K 1 ((k1.toUInt32 % 65536).toInt32)).bind fun u_67 => (if u_67 < 0 then k_Specifier_readConversion_78  (0 : Int32) ((k1.toUInt32 % 65536).toInt32) t_great t_known t_cutOff t_last else k_Specifier_readConversion_78  (1 : Int32) ((k1.toUInt32 % 65536).toInt32) t_great t_known t_cutOff t_last))
def k_Specifier_readConversion_37 (K : Nat) (x3 : Int32) (k1 : Int32) (t_conversion : Int32) (t_great : Int32) (t_known : Int32) (t_cutOff : Int32) (t_last : Int32) : Option (Int32 × Int32 × Int32 × Int32 × Int32) :=
  (if k1 = 0 then k_Specifier_readConversion_56 K x3 t_conversion k1 t_known t_cutOff t_last else k_Specifier_readConversion_56 K (x3 + (32 : Int32)) t_conversion k1 t_known t_cutOff t_last)
def f_Specifier_readConversion (K : Nat) (t_conversion : Int32) (t_great : Int32) (t_known : Int32) (t_cutOff : Int32) (na1_cells : Nat) (a1_cells : Nat → Int32) (a1_used : Int32) (a2 : Int32) : Option (Int32 × Int32 × Int32 × Int32 × Int32) :=
  ((f_Row_at na1_cells a1_cells a1_used a2).bind fun u_7 => (if 0 ≤ u_7 then ((f_String_indexOf K 0 ((u_7.toUInt32 % 65536).toInt32)).bind fun u_26 => (if u_26 < 0 then k_Specifier_readConversion_37 K u_7 (0 : Int32) t_conversion t_great t_known t_cutOff a2 else k_Specifier_readConversion_37 K u_7 (1 : Int32) t_conversion t_great t_known t_cutOff a2)) else some (t_conversion, t_great, t_known, (1 : Int32), a2)))
set_option maxHeartbeats 4000000 in
set_option maxRecDepth 100000 in
theorem c_Specifier_readConversion (l : Launch) (G : Gt) (K : Nat) (qt : Nat) (t_index : Int32) (t_flags : Int32) (t_width : Int32) (t_precision : Int32) (t_conversion : Int32) (t_great : Int32) (t_known : Int32) (t_cutOff : Int32) (t_flagTwice : Int32) (t_last : Int32) (qa1 : Nat) (qa1_cells : Nat) (na1_cells : Nat) (a1_cells : Nat → Int32) (a1_used : Int32) (a1_burst : Int32) (a2 : Int32) (sz : Nat) (res : Int32 × Int32 × Int32 × Int32 × Int32)   (hf : f_Specifier_readConversion K t_conversion t_great t_known t_cutOff na1_cells a1_cells a1_used a2 = some res) : Met l y_Specifier_readConversion (.code y_Specifier_readConversion cd_Specifier_readConversion 4 none :: gw) { frames := 4, cells := 0, slots := 0, locals := 160 } (PC G ([.ref qt, .ref qa1, .int a2] : List Value) sz (w_Specifier_readIndex G qt t_index t_flags t_width t_precision t_conversion t_great t_known t_cutOff t_flagTwice t_last qa1 qa1_cells na1_cells a1_cells a1_used a1_burst)) (QV G (va_A (w_Specifier_readIndex G qt t_index t_flags t_width t_precision t_conversion t_great t_known t_cutOff t_flagTwice t_last qa1 qa1_cells na1_cells a1_cells a1_used a1_burst) sz) (w_Specifier_readIndex G qt t_index t_flags t_width t_precision res.1 res.2.1 res.2.2.1 res.2.2.2.1 t_flagTwice res.2.2.2.2 qa1 qa1_cells na1_cells a1_cells a1_used a1_burst)) 0 0 (va_A (w_Specifier_readIndex G qt t_index t_flags t_width t_precision t_conversion t_great t_known t_cutOff t_flagTwice t_last qa1 qa1_cells na1_cells a1_cells a1_used a1_burst) sz) := by
  refine Met.ofW (cc := cd_Specifier_readConversion) (maxL := 4) (ret := none) (by decide) rfl ?_
  intro p e s m args below meth c s₁ B hml hv
  obtain ⟨rfl, hsz, hP, hE, hD0⟩ := hv
  have hx := B.exec
  have hb := B.bytes
  have hr := B.returns
  have hts := atoms_spec (ws := (.code y_Specifier_readConversion cd_Specifier_readConversion 4 none :: gw)) B.pre
  have hg : ∀ w ∈ gw, w.before _ s = true := fun w h => hts w (List.mem_cons_of_mem _ h)
  have hown : s.vm.findClass R_Specifier = some m.cls := findClass_of_methodNamed B.named
  have hlocks := B.notSynchronized
  subst hsz
  have hK := hE.K
  have hD := hD0.self (sz := s.heap.size)
  have hAb := hE.ab hD0
  obtain ⟨Q, hQ⟩ : ∃ Q, MQ below (QV G (va_A (w_Specifier_readIndex G qt t_index t_flags t_width t_precision t_conversion t_great t_known t_cutOff t_flagTwice t_last qa1 qa1_cells na1_cells a1_cells a1_used a1_burst) s.heap.size) (w_Specifier_readIndex G qt t_index t_flags t_width t_precision res.1 res.2.1 res.2.2.1 res.2.2.2.1 t_flagTwice res.2.2.2.2 qa1 qa1_cells na1_cells a1_cells a1_used a1_burst)) ([.ref qt, .ref qa1, .int a2] : List Value).toArray s 0 0 (va_A (w_Specifier_readIndex G qt t_index t_flags t_width t_precision t_conversion t_great t_known t_cutOff t_flagTwice t_last qa1 qa1_cells na1_cells a1_cells a1_used a1_burst) s.heap.size) = Q := ⟨_, rfl⟩
  show W p l e { frames := 4, cells := 0, slots := 0, locals := 160 } s m ([.ref qt, .ref qa1, .int a2] : List Value).toArray below meth c s.heap [] 0 0 (MQ below (QV G (va_A (w_Specifier_readIndex G qt t_index t_flags t_width t_precision t_conversion t_great t_known t_cutOff t_flagTwice t_last qa1 qa1_cells na1_cells a1_cells a1_used a1_burst) s.heap.size) (w_Specifier_readIndex G qt t_index t_flags t_width t_precision res.1 res.2.1 res.2.2.1 res.2.2.2.1 t_flagTwice res.2.2.2.2 qa1 qa1_cells na1_cells a1_cells a1_used a1_burst)) ([.ref qt, .ref qa1, .int a2] : List Value).toArray s 0 0 (va_A (w_Specifier_readIndex G qt t_index t_flags t_width t_precision t_conversion t_great t_known t_cutOff t_flagTwice t_last qa1 qa1_cells na1_cells a1_cells a1_used a1_burst) s.heap.size)) _
  rw [hQ]
  have hA : ∀ q : Nat, s.heap.size ≤ q → va_A (w_Specifier_readIndex G qt t_index t_flags t_width t_precision t_conversion t_great t_known t_cutOff t_flagTwice t_last qa1 qa1_cells na1_cells a1_cells a1_used a1_burst) s.heap.size q := fun q h => Or.inr h
  obtain ⟨A, hAe⟩ : ∃ A, va_A (w_Specifier_readIndex G qt t_index t_flags t_width t_precision t_conversion t_great t_known t_cutOff t_flagTwice t_last qa1 qa1_cells na1_cells a1_cells a1_used a1_burst) s.heap.size = A := ⟨_, rfl⟩
  rw [hAe] at hA hD hAb hQ
  have hS : va_S A s.heap s.heap [] := va_S.rf
  have hl := lv_entry (([.ref qt, .ref qa1, .int a2] : List Value)) (n := 4) (Nat.le_of_ble_eq_true rfl)
  rw [lg_entry_eq]
  generalize (lg_sl (([.ref qt, .ref qa1, .int a2] : List Value)) ++ List.replicate (4 - (lg_sl (([.ref qt, .ref qa1, .int a2] : List Value))).length) Slot.unset).toArray = ls at hl ⊢
  have hl : lv_has ls 4 [(0, .ref qt), (1, .ref qa1), (2, .int a2)] := hl
  have W_78 : ∀ (k1 : Int32) (t_conversion : Int32) (t_great : Int32) (t_known : Int32) (t_cutOff : Int32) (t_last : Int32) (b_k1 : bl k1), k_Specifier_readConversion_78  k1 t_conversion t_great t_known t_cutOff t_last = some res → ∀ (H : Heap) (locs : List Loc) (ls : Array Slot), va_P (gD G) vwCl (w_Specifier_readIndex G qt t_index t_flags t_width t_precision t_conversion t_great t_known t_cutOff t_flagTwice t_last qa1 qa1_cells na1_cells a1_cells a1_used a1_burst) H → va_D A (w_Specifier_readIndex G qt t_index t_flags t_width t_precision t_conversion t_great t_known t_cutOff t_flagTwice t_last qa1 qa1_cells na1_cells a1_cells a1_used a1_burst) → va_S A s.heap H locs → lv_has ls 4 [] → W p l e { frames := 4, cells := 0, slots := 0, locals := 160 } s m ([.ref qt, .ref qa1, .int a2] : List Value).toArray below meth c H locs 0 0 Q (F0 m 78 ls [.int k1, .ref qt]) := by
    intro k1 t_conversion t_great t_known t_cutOff t_last b_k1 hf H locs ls hP hD hS hl
    unfold k_Specifier_readConversion_78 at hf
    refine va_put (D := gD G) (ci := 5) (v := .int k1) (ty := .boolean) (C := R_Specifier) (T := F_Specifier) (N := 10) hx hb hg in_Specifier t_Specifier to_Specifier no_Specifier hown hK hP hD hS 0 rfl rfl 6 (by decide) (hg _ m_131) (fun _ h9 => h9) rfl (by decide +kernel) (bl_n b_k1) (bl_f b_k1) (Nat.le_of_ble_eq_true rfl) d_Specifier_readConversion_78 (fun H locs hP hD hS => ?_)
    have hP : va_P (gD G) vwCl (w_Specifier_readIndex G qt t_index t_flags t_width t_precision t_conversion t_great k1 t_cutOff t_flagTwice t_last qa1 qa1_cells na1_cells a1_cells a1_used a1_burst) H := hP
    have hD : va_D A (w_Specifier_readIndex G qt t_index t_flags t_width t_precision t_conversion t_great k1 t_cutOff t_flagTwice t_last qa1 qa1_cells na1_cells a1_cells a1_used a1_burst) := hD
    obtain rfl := Option.some.inj hf
    rw [← hQ]
    exact W.vret hx hb hr (fun t9 ht hW => ⟨⟨(), rfl, trivial, ⟨by rw [ht]; exact hP, hD⟩⟩, hS.F ht⟩) hS.2.2 d_Specifier_readConversion_81
  have W_56 : ∀ (k1 : Int32) (t_conversion : Int32) (t_great : Int32) (t_known : Int32) (t_cutOff : Int32) (t_last : Int32) , k_Specifier_readConversion_56 K k1 t_conversion t_great t_known t_cutOff t_last = some res → ∀ (H : Heap) (locs : List Loc) (ls : Array Slot), va_P (gD G) vwCl (w_Specifier_readIndex G qt t_index t_flags t_width t_precision t_conversion t_great t_known t_cutOff t_flagTwice t_last qa1 qa1_cells na1_cells a1_cells a1_used a1_burst) H → va_D A (w_Specifier_readIndex G qt t_index t_flags t_width t_precision t_conversion t_great t_known t_cutOff t_flagTwice t_last qa1 qa1_cells na1_cells a1_cells a1_used a1_burst) → va_S A s.heap H locs → lv_has ls 4 [(0, .ref qt)] → W p l e { frames := 4, cells := 0, slots := 0, locals := 160 } s m ([.ref qt, .ref qa1, .int a2] : List Value).toArray below meth c H locs 0 0 Q (F0 m 56 ls [.int k1, .ref qt]) := by
    intro k1 t_conversion t_great t_known t_cutOff t_last  hf H locs ls hP hD hS hl
    unfold k_Specifier_readConversion_56 at hf
    refine lv_i2c (v := (k1.toUInt32 % 65536).toInt32) hx hb d_Specifier_readConversion_56 rfl ?_
    refine va_put (D := gD G) (ci := 5) (v := .int ((k1.toUInt32 % 65536).toInt32)) (ty := .char) (C := R_Specifier) (T := F_Specifier) (N := 10) hx hb hg in_Specifier t_Specifier to_Specifier no_Specifier hown hK hP hD hS 0 rfl rfl 4 (by decide) (hg _ m_118) (fun _ h9 => h9) rfl (by decide +kernel) (pk_nc k1) (pk_fc k1) (Nat.le_of_ble_eq_true rfl) d_Specifier_readConversion_57 (fun H locs hP hD hS => ?_)
    have hP : va_P (gD G) vwCl (w_Specifier_readIndex G qt t_index t_flags t_width t_precision ((k1.toUInt32 % 65536).toInt32) t_great t_known t_cutOff t_flagTwice t_last qa1 qa1_cells na1_cells a1_cells a1_used a1_burst) H := hP
    have hD : va_D A (w_Specifier_readIndex G qt t_index t_flags t_width t_precision ((k1.toUInt32 % 65536).toInt32) t_great t_known t_cutOff t_flagTwice t_last qa1 qa1_cells na1_cells a1_cells a1_used a1_burst) := hD
    refine lv_aload_n hx hb d_Specifier_readConversion_60 rfl (lv_at hl 0 rfl) ?_
    refine va_ldcS (own := R_Specifier) (tx := "bscdoxefga%n") (q := gT G 1) hx hb hown (hE.sr ("SpecifierDesk$Specifier", 107, "bscdoxefga%n", 1) (List.mem_of_getElem? (i := 1) rfl)) d_Specifier_readConversion_61 ?_
    refine lv_aload_n hx hb d_Specifier_readConversion_63 rfl (lv_at hl 0 rfl) ?_
    refine va_get (D := gD G) (ci := 5) (v := .int ((k1.toUInt32 % 65536).toInt32)) (C := R_Specifier) (T := F_Specifier) (N := 10) hx hb hg in_Specifier hown hK hP 0 rfl rfl 4 (by decide) (hg _ m_118) (fun _ h9 => h9) rfl d_Specifier_readConversion_64 ?_
    obtain ⟨u_67, hu_67, hf⟩ := bd_ hf
    refine CALLi (va_runV (As := [.int ((k1.toUInt32 % 65536).toInt32)]) (rest := [.ref qt]) ⟨hx, hb, hml, hown, hg⟩ (c_String_indexOf l G K 1 ((k1.toUInt32 % 65536).toInt32) _ u_67 (by decide) hu_67) (cwV 1 hg (gV m_119 m_51 m_52 m_21 m_53) rfl rfl rfl (by decide +kernel) ⟨Nat.le_of_ble_eq_true rfl, Nat.le_of_ble_eq_true rfl⟩) ⟨PC_b, vk_recv (hE.vs hAb) (by decide) hS, PC_p hE hS hAb (hP.sub [] rfl) (hD.sub [] (by decide) rfl)⟩ rfl rfl hl.1 rfl (lv_room (Nat.le_of_ble_eq_true rfl)) d_Specifier_readConversion_67 ⟨Nat.zero_le _, Nat.zero_le _⟩) hP hD hS hA [] rfl rfl rfl (fun H locs hP hD hS => ?_)
    have hP : va_P (gD G) vwCl (w_Specifier_readIndex G qt t_index t_flags t_width t_precision ((k1.toUInt32 % 65536).toInt32) t_great t_known t_cutOff t_flagTwice t_last qa1 qa1_cells na1_cells a1_cells a1_used a1_burst) H := hP
    have hD : va_D A (w_Specifier_readIndex G qt t_index t_flags t_width t_precision ((k1.toUInt32 % 65536).toInt32) t_great t_known t_cutOff t_flagTwice t_last qa1 qa1_cells na1_cells a1_cells a1_used a1_burst) := hD
    refine lv_if_lt (tgt := 77) hx hb d_Specifier_readConversion_70 (by decide) (fun c_70 => ?_) (fun c_70 => ?_)
    · have hf := ip_ c_70 hf
      refine lv_iconst (v := 0) hx hb d_Specifier_readConversion_77 (by decide) ?_
      exact W_78 (0 : Int32) ((k1.toUInt32 % 65536).toInt32) t_great t_known t_cutOff t_last bl_0 hf _ _ _ hP hD hS (lv_sub hl [] rfl)
    · have hf := in_ c_70 hf
      refine lv_iconst (v := 1) hx hb d_Specifier_readConversion_73 (by decide) ?_
      refine lv_goto (tgt := 78) hx hb d_Specifier_readConversion_74 (by decide) ?_
      exact W_78 (1 : Int32) ((k1.toUInt32 % 65536).toInt32) t_great t_known t_cutOff t_last bl_1 hf _ _ _ hP hD hS (lv_sub hl [] rfl)
  have W_37 : ∀ (x3 : Int32) (k1 : Int32) (t_conversion : Int32) (t_great : Int32) (t_known : Int32) (t_cutOff : Int32) (t_last : Int32) (b_k1 : bl k1), k_Specifier_readConversion_37 K x3 k1 t_conversion t_great t_known t_cutOff t_last = some res → ∀ (H : Heap) (locs : List Loc) (ls : Array Slot), va_P (gD G) vwCl (w_Specifier_readIndex G qt t_index t_flags t_width t_precision t_conversion t_great t_known t_cutOff t_flagTwice t_last qa1 qa1_cells na1_cells a1_cells a1_used a1_burst) H → va_D A (w_Specifier_readIndex G qt t_index t_flags t_width t_precision t_conversion t_great t_known t_cutOff t_flagTwice t_last qa1 qa1_cells na1_cells a1_cells a1_used a1_burst) → va_S A s.heap H locs → lv_has ls 4 [(0, .ref qt), (3, .int x3)] → W p l e { frames := 4, cells := 0, slots := 0, locals := 160 } s m ([.ref qt, .ref qa1, .int a2] : List Value).toArray below meth c H locs 0 0 Q (F0 m 37 ls [.int k1, .ref qt]) := by
    intro x3 k1 t_conversion t_great t_known t_cutOff t_last b_k1 hf H locs ls hP hD hS hl
    unfold k_Specifier_readConversion_37 at hf
    refine va_put (D := gD G) (ci := 5) (v := .int k1) (ty := .boolean) (C := R_Specifier) (T := F_Specifier) (N := 10) hx hb hg in_Specifier t_Specifier to_Specifier no_Specifier hown hK hP hD hS 0 rfl rfl 5 (by decide) (hg _ m_152) (fun _ h9 => h9) rfl (by decide +kernel) (bl_n b_k1) (bl_f b_k1) (Nat.le_of_ble_eq_true rfl) d_Specifier_readConversion_37 (fun H locs hP hD hS => ?_)
    have hP : va_P (gD G) vwCl (w_Specifier_readIndex G qt t_index t_flags t_width t_precision t_conversion k1 t_known t_cutOff t_flagTwice t_last qa1 qa1_cells na1_cells a1_cells a1_used a1_burst) H := hP
    have hD : va_D A (w_Specifier_readIndex G qt t_index t_flags t_width t_precision t_conversion k1 t_known t_cutOff t_flagTwice t_last qa1 qa1_cells na1_cells a1_cells a1_used a1_burst) := hD
    refine lv_aload_n hx hb d_Specifier_readConversion_40 rfl (lv_at hl 0 rfl) ?_
    refine lv_aload_n hx hb d_Specifier_readConversion_41 rfl (lv_at hl 0 rfl) ?_
    refine va_get (D := gD G) (ci := 5) (v := .int k1) (C := R_Specifier) (T := F_Specifier) (N := 10) hx hb hg in_Specifier hown hK hP 0 rfl rfl 5 (by decide) (hg _ m_152) (fun _ h9 => h9) rfl d_Specifier_readConversion_42 ?_
    refine lv_if_eq (tgt := 55) hx hb d_Specifier_readConversion_45 (by decide) (fun c_45 => ?_) (fun c_45 => ?_)
    · have hf := ip_ c_45 hf
      refine lv_iload_n hx hb d_Specifier_readConversion_55 rfl (lv_at hl 1 rfl) ?_
      exact W_56 x3 t_conversion k1 t_known t_cutOff t_last  hf _ _ _ hP hD hS (lv_sub hl [0] rfl)
    · have hf := in_ c_45 hf
      refine lv_iload_n hx hb d_Specifier_readConversion_48 rfl (lv_at hl 1 rfl) ?_
      refine lv_bipush (v := 32) hx hb d_Specifier_readConversion_49 (by decide) ?_
      refine lv_iadd hx hb d_Specifier_readConversion_51 ?_
      refine lv_goto (tgt := 56) hx hb d_Specifier_readConversion_52 (by decide) ?_
      exact W_56 (x3 + (32 : Int32)) t_conversion k1 t_known t_cutOff t_last  hf _ _ _ hP hD hS (lv_sub hl [0] rfl)
  unfold f_Specifier_readConversion at hf
  refine lv_aload_n hx hb d_Specifier_readConversion_0 rfl (lv_at hl 0 rfl) ?_
  refine lv_iload_n hx hb d_Specifier_readConversion_1 rfl (lv_at hl 2 rfl) ?_
  refine va_put (D := gD G) (ci := 5) (v := .int a2) (ty := .int) (C := R_Specifier) (T := F_Specifier) (N := 10) hx hb hg in_Specifier t_Specifier to_Specifier no_Specifier hown hK hP hD hS 0 rfl rfl 9 (by decide) (hg _ m_151) (fun _ h9 => h9) rfl (by decide +kernel) rfl rfl (Nat.le_of_ble_eq_true rfl) d_Specifier_readConversion_2 (fun H locs hP hD hS => ?_)
  have hP : va_P (gD G) vwCl (w_Specifier_readIndex G qt t_index t_flags t_width t_precision t_conversion t_great t_known t_cutOff t_flagTwice a2 qa1 qa1_cells na1_cells a1_cells a1_used a1_burst) H := hP
  have hD : va_D A (w_Specifier_readIndex G qt t_index t_flags t_width t_precision t_conversion t_great t_known t_cutOff t_flagTwice a2 qa1 qa1_cells na1_cells a1_cells a1_used a1_burst) := hD
  refine lv_aload_n hx hb d_Specifier_readConversion_5 rfl (lv_at hl 1 rfl) ?_
  refine lv_iload_n hx hb d_Specifier_readConversion_6 rfl (lv_at hl 2 rfl) ?_
  obtain ⟨u_7, hu_7, hf⟩ := bd_ hf
  refine CALLi (va_runV (As := [.int a2]) (rest := []) ⟨hx, hb, hml, hown, hg⟩ (c_Row_at l G K qa1 qa1_cells na1_cells a1_cells a1_used a1_burst a2 _ u_7  hu_7) (cwV 1 hg (gV m_140 m_63 m_64 m_60 m_65) rfl rfl rfl (by decide +kernel) ⟨Nat.le_of_ble_eq_true rfl, Nat.le_of_ble_eq_true rfl⟩) ⟨PC_b, va_recv hK hP (ci := 4) (q0 := 1) rfl rfl, PC_p hE hS hAb (hP.sub [1, 2] rfl) (hD.sub [1, 2] (by decide) rfl)⟩ rfl rfl hl.1 rfl (lv_room (Nat.le_of_ble_eq_true rfl)) d_Specifier_readConversion_7 ⟨Nat.zero_le _, Nat.zero_le _⟩) hP hD hS hA [1, 2] rfl rfl rfl (fun H locs hP hD hS => ?_)
  have hP : va_P (gD G) vwCl (w_Specifier_readIndex G qt t_index t_flags t_width t_precision t_conversion t_great t_known t_cutOff t_flagTwice a2 qa1 qa1_cells na1_cells a1_cells a1_used a1_burst) H := hP
  have hD : va_D A (w_Specifier_readIndex G qt t_index t_flags t_width t_precision t_conversion t_great t_known t_cutOff t_flagTwice a2 qa1 qa1_cells na1_cells a1_cells a1_used a1_burst) := hD
  refine lv_istore_n (lv' := [(3, .int u_7), (0, .ref qt), (1, .ref qa1), (2, .int a2)]) hx hb d_Specifier_readConversion_10 rfl hl (by decide) rfl (fun ls hl => ?_)
  refine lv_iload_n hx hb d_Specifier_readConversion_11 rfl (lv_at hl 0 rfl) ?_
  refine lv_if_ge (tgt := 21) hx hb d_Specifier_readConversion_12 (by decide) (fun c_12 => ?_) (fun c_12 => ?_)
  · have hf := ip_ c_12 hf
    refine lv_aload_n hx hb d_Specifier_readConversion_21 rfl (lv_at hl 1 rfl) ?_
    refine va_ldcS (own := R_Specifier) (tx := "BSCXEGA") (q := gT G 0) hx hb hown (hE.sr ("SpecifierDesk$Specifier", 105, "BSCXEGA", 0) (List.mem_of_getElem? (i := 0) rfl)) d_Specifier_readConversion_22 ?_
    refine lv_iload_n hx hb d_Specifier_readConversion_24 rfl (lv_at hl 0 rfl) ?_
    refine lv_i2c (v := (u_7.toUInt32 % 65536).toInt32) hx hb d_Specifier_readConversion_25 rfl ?_
    obtain ⟨u_26, hu_26, hf⟩ := bd_ hf
    refine CALLi (va_runV (As := [.int ((u_7.toUInt32 % 65536).toInt32)]) (rest := [.ref qt]) ⟨hx, hb, hml, hown, hg⟩ (c_String_indexOf l G K 0 ((u_7.toUInt32 % 65536).toInt32) _ u_26 (by decide) hu_26) (cwV 1 hg (gV m_119 m_51 m_52 m_21 m_53) rfl rfl rfl (by decide +kernel) ⟨Nat.le_of_ble_eq_true rfl, Nat.le_of_ble_eq_true rfl⟩) ⟨PC_b, vk_recv (hE.vs hAb) (by decide) hS, PC_p hE hS hAb (hP.sub [] rfl) (hD.sub [] (by decide) rfl)⟩ rfl rfl hl.1 rfl (lv_room (Nat.le_of_ble_eq_true rfl)) d_Specifier_readConversion_26 ⟨Nat.zero_le _, Nat.zero_le _⟩) hP hD hS hA [] rfl rfl rfl (fun H locs hP hD hS => ?_)
    have hP : va_P (gD G) vwCl (w_Specifier_readIndex G qt t_index t_flags t_width t_precision t_conversion t_great t_known t_cutOff t_flagTwice a2 qa1 qa1_cells na1_cells a1_cells a1_used a1_burst) H := hP
    have hD : va_D A (w_Specifier_readIndex G qt t_index t_flags t_width t_precision t_conversion t_great t_known t_cutOff t_flagTwice a2 qa1 qa1_cells na1_cells a1_cells a1_used a1_burst) := hD
    refine lv_if_lt (tgt := 36) hx hb d_Specifier_readConversion_29 (by decide) (fun c_29 => ?_) (fun c_29 => ?_)
    · have hf := ip_ c_29 hf
      refine lv_iconst (v := 0) hx hb d_Specifier_readConversion_36 (by decide) ?_
      exact W_37 u_7 (0 : Int32) t_conversion t_great t_known t_cutOff a2 bl_0 hf _ _ _ hP hD hS (lv_sub hl [1, 0] rfl)
    · have hf := in_ c_29 hf
      refine lv_iconst (v := 1) hx hb d_Specifier_readConversion_32 (by decide) ?_
      refine lv_goto (tgt := 37) hx hb d_Specifier_readConversion_33 (by decide) ?_
      exact W_37 u_7 (1 : Int32) t_conversion t_great t_known t_cutOff a2 bl_1 hf _ _ _ hP hD hS (lv_sub hl [1, 0] rfl)
  · have hf := in_ c_12 hf
    refine lv_aload_n hx hb d_Specifier_readConversion_15 rfl (lv_at hl 1 rfl) ?_
    refine lv_iconst (v := 1) hx hb d_Specifier_readConversion_16 (by decide) ?_
    refine va_put (D := gD G) (ci := 5) (v := .int (1 : Int32)) (ty := .boolean) (C := R_Specifier) (T := F_Specifier) (N := 10) hx hb hg in_Specifier t_Specifier to_Specifier no_Specifier hown hK hP hD hS 0 rfl rfl 7 (by decide) (hg _ m_128) (fun _ h9 => h9) rfl (by decide +kernel) (bl_n bl_1) (bl_f bl_1) (Nat.le_of_ble_eq_true rfl) d_Specifier_readConversion_17 (fun H locs hP hD hS => ?_)
    have hP : va_P (gD G) vwCl (w_Specifier_readIndex G qt t_index t_flags t_width t_precision t_conversion t_great t_known (1 : Int32) t_flagTwice a2 qa1 qa1_cells na1_cells a1_cells a1_used a1_burst) H := hP
    have hD : va_D A (w_Specifier_readIndex G qt t_index t_flags t_width t_precision t_conversion t_great t_known (1 : Int32) t_flagTwice a2 qa1 qa1_cells na1_cells a1_cells a1_used a1_burst) := hD
    obtain rfl := Option.some.inj hf
    rw [← hQ]
    exact W.vret hx hb hr (fun t9 ht hW => ⟨⟨(), rfl, trivial, ⟨by rw [ht]; exact hP, hD⟩⟩, hS.F ht⟩) hS.2.2 d_Specifier_readConversion_20
theorem d_Specifier_readFrom_0 : decode cd_Specifier_readFrom 0 = .ok (.aload_n 0, 1) := by decide +kernel
theorem d_Specifier_readFrom_1 : decode cd_Specifier_readFrom 1 = .ok (.iconst (-1), 1) := by decide +kernel
theorem d_Specifier_readFrom_2 : decode cd_Specifier_readFrom 2 = .ok (.putfield 9, 3) := by decide +kernel
theorem d_Specifier_readFrom_5 : decode cd_Specifier_readFrom 5 = .ok (.aload_n 0, 1) := by decide +kernel
theorem d_Specifier_readFrom_6 : decode cd_Specifier_readFrom 6 = .ok (.iconst 0, 1) := by decide +kernel
theorem d_Specifier_readFrom_7 : decode cd_Specifier_readFrom 7 = .ok (.putfield 13, 3) := by decide +kernel
theorem d_Specifier_readFrom_10 : decode cd_Specifier_readFrom 10 = .ok (.aload_n 0, 1) := by decide +kernel
theorem d_Specifier_readFrom_11 : decode cd_Specifier_readFrom 11 = .ok (.iconst (-1), 1) := by decide +kernel
theorem d_Specifier_readFrom_12 : decode cd_Specifier_readFrom 12 = .ok (.putfield 16, 3) := by decide +kernel
theorem d_Specifier_readFrom_15 : decode cd_Specifier_readFrom 15 = .ok (.aload_n 0, 1) := by decide +kernel
theorem d_Specifier_readFrom_16 : decode cd_Specifier_readFrom 16 = .ok (.iconst (-1), 1) := by decide +kernel
theorem d_Specifier_readFrom_17 : decode cd_Specifier_readFrom 17 = .ok (.putfield 19, 3) := by decide +kernel
theorem d_Specifier_readFrom_20 : decode cd_Specifier_readFrom 20 = .ok (.aload_n 0, 1) := by decide +kernel
theorem d_Specifier_readFrom_21 : decode cd_Specifier_readFrom 21 = .ok (.iconst 0, 1) := by decide +kernel
theorem d_Specifier_readFrom_22 : decode cd_Specifier_readFrom 22 = .ok (.putfield 22, 3) := by decide +kernel
theorem d_Specifier_readFrom_25 : decode cd_Specifier_readFrom 25 = .ok (.aload_n 0, 1) := by decide +kernel
theorem d_Specifier_readFrom_26 : decode cd_Specifier_readFrom 26 = .ok (.iconst 0, 1) := by decide +kernel
theorem d_Specifier_readFrom_27 : decode cd_Specifier_readFrom 27 = .ok (.putfield 26, 3) := by decide +kernel
theorem d_Specifier_readFrom_30 : decode cd_Specifier_readFrom 30 = .ok (.aload_n 0, 1) := by decide +kernel
theorem d_Specifier_readFrom_31 : decode cd_Specifier_readFrom 31 = .ok (.iconst 0, 1) := by decide +kernel
theorem d_Specifier_readFrom_32 : decode cd_Specifier_readFrom 32 = .ok (.putfield 30, 3) := by decide +kernel
theorem d_Specifier_readFrom_35 : decode cd_Specifier_readFrom 35 = .ok (.aload_n 0, 1) := by decide +kernel
theorem d_Specifier_readFrom_36 : decode cd_Specifier_readFrom 36 = .ok (.iconst 0, 1) := by decide +kernel
theorem d_Specifier_readFrom_37 : decode cd_Specifier_readFrom 37 = .ok (.putfield 33, 3) := by decide +kernel
theorem d_Specifier_readFrom_40 : decode cd_Specifier_readFrom 40 = .ok (.aload_n 0, 1) := by decide +kernel
theorem d_Specifier_readFrom_41 : decode cd_Specifier_readFrom 41 = .ok (.iconst 0, 1) := by decide +kernel
theorem d_Specifier_readFrom_42 : decode cd_Specifier_readFrom 42 = .ok (.putfield 36, 3) := by decide +kernel
theorem d_Specifier_readFrom_45 : decode cd_Specifier_readFrom 45 = .ok (.aload_n 0, 1) := by decide +kernel
theorem d_Specifier_readFrom_46 : decode cd_Specifier_readFrom 46 = .ok (.aload_n 1, 1) := by decide +kernel
theorem d_Specifier_readFrom_47 : decode cd_Specifier_readFrom 47 = .ok (.iload_n 2, 1) := by decide +kernel
theorem d_Specifier_readFrom_48 : decode cd_Specifier_readFrom 48 = .ok (.iconst 1, 1) := by decide +kernel
theorem d_Specifier_readFrom_49 : decode cd_Specifier_readFrom 49 = .ok (.iadd, 1) := by decide +kernel
theorem d_Specifier_readFrom_50 : decode cd_Specifier_readFrom 50 = .ok (.invokevirtual 39, 3) := by decide +kernel
theorem d_Specifier_readFrom_53 : decode cd_Specifier_readFrom 53 = .ok (.istore_n 3, 1) := by decide +kernel
theorem d_Specifier_readFrom_54 : decode cd_Specifier_readFrom 54 = .ok (.aload_n 0, 1) := by decide +kernel
theorem d_Specifier_readFrom_55 : decode cd_Specifier_readFrom 55 = .ok (.aload_n 1, 1) := by decide +kernel
theorem d_Specifier_readFrom_56 : decode cd_Specifier_readFrom 56 = .ok (.iload_n 3, 1) := by decide +kernel
theorem d_Specifier_readFrom_57 : decode cd_Specifier_readFrom 57 = .ok (.invokevirtual 43, 3) := by decide +kernel
theorem d_Specifier_readFrom_60 : decode cd_Specifier_readFrom 60 = .ok (.istore_n 3, 1) := by decide +kernel
theorem d_Specifier_readFrom_61 : decode cd_Specifier_readFrom 61 = .ok (.aload_n 0, 1) := by decide +kernel
theorem d_Specifier_readFrom_62 : decode cd_Specifier_readFrom 62 = .ok (.aload_n 1, 1) := by decide +kernel
theorem d_Specifier_readFrom_63 : decode cd_Specifier_readFrom 63 = .ok (.iload_n 3, 1) := by decide +kernel
theorem d_Specifier_readFrom_64 : decode cd_Specifier_readFrom 64 = .ok (.invokevirtual 46, 3) := by decide +kernel
theorem d_Specifier_readFrom_67 : decode cd_Specifier_readFrom 67 = .ok (.istore_n 3, 1) := by decide +kernel
theorem d_Specifier_readFrom_68 : decode cd_Specifier_readFrom 68 = .ok (.aload_n 0, 1) := by decide +kernel
theorem d_Specifier_readFrom_69 : decode cd_Specifier_readFrom 69 = .ok (.aload_n 1, 1) := by decide +kernel
theorem d_Specifier_readFrom_70 : decode cd_Specifier_readFrom 70 = .ok (.iload_n 3, 1) := by decide +kernel
theorem d_Specifier_readFrom_71 : decode cd_Specifier_readFrom 71 = .ok (.invokevirtual 49, 3) := by decide +kernel
theorem d_Specifier_readFrom_74 : decode cd_Specifier_readFrom 74 = .ok (.istore_n 3, 1) := by decide +kernel
theorem d_Specifier_readFrom_75 : decode cd_Specifier_readFrom 75 = .ok (.aload_n 0, 1) := by decide +kernel
theorem d_Specifier_readFrom_76 : decode cd_Specifier_readFrom 76 = .ok (.aload_n 1, 1) := by decide +kernel
theorem d_Specifier_readFrom_77 : decode cd_Specifier_readFrom 77 = .ok (.iload_n 3, 1) := by decide +kernel
theorem d_Specifier_readFrom_78 : decode cd_Specifier_readFrom 78 = .ok (.invokevirtual 52, 3) := by decide +kernel
theorem d_Specifier_readFrom_81 : decode cd_Specifier_readFrom 81 = .ok (.return_, 1) := by decide +kernel
theorem m_153 : Cond.methodLink R_Specifier 39 y_Specifier_readIndex ∈ gw := gm (i := 430) (by decide +kernel) (by decide +kernel)
theorem m_154 : Cond.instanceMethod y_Specifier_readIndex ∈ gw := gm (i := 432) (by decide +kernel) (by decide +kernel)
theorem m_155 : Cond.selects R_Specifier y_Specifier_readIndex y_Specifier_readIndex ∈ gw := gm (i := 4) (by decide +kernel) (by decide +kernel)
set_option maxRecDepth 100000 in
theorem m_156 : Cond.code y_Specifier_readIndex cd_Specifier_readIndex 4 (some .int) ∈ gw := gm (i := 433) rfl rfl
theorem m_157 : Cond.methodLink R_Specifier 43 y_Specifier_readFlags ∈ gw := gm (i := 444) (by decide +kernel) (by decide +kernel)
theorem m_158 : Cond.instanceMethod y_Specifier_readFlags ∈ gw := gm (i := 446) (by decide +kernel) (by decide +kernel)
theorem m_159 : Cond.selects R_Specifier y_Specifier_readFlags y_Specifier_readFlags ∈ gw := gm (i := 5) (by decide +kernel) (by decide +kernel)
set_option maxRecDepth 100000 in
theorem m_160 : Cond.code y_Specifier_readFlags cd_Specifier_readFlags 5 (some .int) ∈ gw := gm (i := 447) rfl rfl
theorem m_161 : Cond.methodLink R_Specifier 46 y_Specifier_readWidth ∈ gw := gm (i := 455) (by decide +kernel) (by decide +kernel)
theorem m_162 : Cond.instanceMethod y_Specifier_readWidth ∈ gw := gm (i := 457) (by decide +kernel) (by decide +kernel)
theorem m_163 : Cond.selects R_Specifier y_Specifier_readWidth y_Specifier_readWidth ∈ gw := gm (i := 6) (by decide +kernel) (by decide +kernel)
set_option maxRecDepth 100000 in
theorem m_164 : Cond.code y_Specifier_readWidth cd_Specifier_readWidth 4 (some .int) ∈ gw := gm (i := 458) rfl rfl
theorem m_165 : Cond.methodLink R_Specifier 49 y_Specifier_readPrecision ∈ gw := gm (i := 459) (by decide +kernel) (by decide +kernel)
theorem m_166 : Cond.instanceMethod y_Specifier_readPrecision ∈ gw := gm (i := 461) (by decide +kernel) (by decide +kernel)
theorem m_167 : Cond.selects R_Specifier y_Specifier_readPrecision y_Specifier_readPrecision ∈ gw := gm (i := 7) (by decide +kernel) (by decide +kernel)
set_option maxRecDepth 100000 in
theorem m_168 : Cond.code y_Specifier_readPrecision cd_Specifier_readPrecision 4 (some .int) ∈ gw := gm (i := 462) rfl rfl
theorem m_169 : Cond.methodLink R_Specifier 52 y_Specifier_readConversion ∈ gw := gm (i := 463) (by decide +kernel) (by decide +kernel)
theorem m_170 : Cond.instanceMethod y_Specifier_readConversion ∈ gw := gm (i := 465) (by decide +kernel) (by decide +kernel)
theorem m_171 : Cond.selects R_Specifier y_Specifier_readConversion y_Specifier_readConversion ∈ gw := gm (i := 8) (by decide +kernel) (by decide +kernel)
set_option maxRecDepth 100000 in
theorem m_172 : Cond.code y_Specifier_readConversion cd_Specifier_readConversion 4 none ∈ gw := gm (i := 466) rfl rfl
def f_Specifier_readFrom (K : Nat) (na1_cells : Nat) (a1_cells : Nat → Int32) (a1_used : Int32) (a2 : Int32) : Option (Int32 × Int32 × Int32 × Int32 × Int32 × Int32 × Int32 × Int32 × Int32 × Int32) :=
  ((f_Specifier_readIndex K (-1 : Int32) na1_cells a1_cells a1_used (a2 + (1 : Int32))).bind fun u_50 => ((f_Specifier_readFlags K (0 : Int32) (0 : Int32) na1_cells a1_cells a1_used u_50.1).bind fun u_57 => ((f_Specifier_readWidth K (-1 : Int32) na1_cells a1_cells a1_used u_57.1).bind fun u_64 => ((f_Specifier_readPrecision K (-1 : Int32) (0 : Int32) na1_cells a1_cells a1_used u_64.1).bind fun u_71 => ((f_Specifier_readConversion K (0 : Int32) (0 : Int32) (0 : Int32) u_71.2.2 na1_cells a1_cells a1_used u_71.1).bind fun u_78 => some (u_50.2, u_57.2.1, u_64.2, u_71.2.1, u_78.1, u_78.2.1, u_78.2.2.1, u_78.2.2.2.1, u_57.2.2, u_78.2.2.2.2))))))
set_option maxHeartbeats 4000000 in
set_option maxRecDepth 100000 in
theorem c_Specifier_readFrom (l : Launch) (G : Gt) (K : Nat) (qt : Nat) (t_index : Int32) (t_flags : Int32) (t_width : Int32) (t_precision : Int32) (t_conversion : Int32) (t_great : Int32) (t_known : Int32) (t_cutOff : Int32) (t_flagTwice : Int32) (t_last : Int32) (qa1 : Nat) (qa1_cells : Nat) (na1_cells : Nat) (a1_cells : Nat → Int32) (a1_used : Int32) (a1_burst : Int32) (a2 : Int32) (sz : Nat) (res : Int32 × Int32 × Int32 × Int32 × Int32 × Int32 × Int32 × Int32 × Int32 × Int32)   (hf : f_Specifier_readFrom K na1_cells a1_cells a1_used a2 = some res) : Met l y_Specifier_readFrom (.code y_Specifier_readFrom cd_Specifier_readFrom 4 none :: gw) { frames := 5, cells := 0, slots := 0, locals := 200 } (PC G ([.ref qt, .ref qa1, .int a2] : List Value) sz (w_Specifier_readIndex G qt t_index t_flags t_width t_precision t_conversion t_great t_known t_cutOff t_flagTwice t_last qa1 qa1_cells na1_cells a1_cells a1_used a1_burst)) (QV G (va_A (w_Specifier_readIndex G qt t_index t_flags t_width t_precision t_conversion t_great t_known t_cutOff t_flagTwice t_last qa1 qa1_cells na1_cells a1_cells a1_used a1_burst) sz) (w_Specifier_readIndex G qt res.1 res.2.1 res.2.2.1 res.2.2.2.1 res.2.2.2.2.1 res.2.2.2.2.2.1 res.2.2.2.2.2.2.1 res.2.2.2.2.2.2.2.1 res.2.2.2.2.2.2.2.2.1 res.2.2.2.2.2.2.2.2.2 qa1 qa1_cells na1_cells a1_cells a1_used a1_burst)) 0 0 (va_A (w_Specifier_readIndex G qt t_index t_flags t_width t_precision t_conversion t_great t_known t_cutOff t_flagTwice t_last qa1 qa1_cells na1_cells a1_cells a1_used a1_burst) sz) := by
  refine Met.ofW (cc := cd_Specifier_readFrom) (maxL := 4) (ret := none) (by decide) rfl ?_
  intro p e s m args below meth c s₁ B hml hv
  obtain ⟨rfl, hsz, hP, hE, hD0⟩ := hv
  have hx := B.exec
  have hb := B.bytes
  have hr := B.returns
  have hts := atoms_spec (ws := (.code y_Specifier_readFrom cd_Specifier_readFrom 4 none :: gw)) B.pre
  have hg : ∀ w ∈ gw, w.before _ s = true := fun w h => hts w (List.mem_cons_of_mem _ h)
  have hown : s.vm.findClass R_Specifier = some m.cls := findClass_of_methodNamed B.named
  have hlocks := B.notSynchronized
  subst hsz
  have hK := hE.K
  have hD := hD0.self (sz := s.heap.size)
  have hAb := hE.ab hD0
  obtain ⟨Q, hQ⟩ : ∃ Q, MQ below (QV G (va_A (w_Specifier_readIndex G qt t_index t_flags t_width t_precision t_conversion t_great t_known t_cutOff t_flagTwice t_last qa1 qa1_cells na1_cells a1_cells a1_used a1_burst) s.heap.size) (w_Specifier_readIndex G qt res.1 res.2.1 res.2.2.1 res.2.2.2.1 res.2.2.2.2.1 res.2.2.2.2.2.1 res.2.2.2.2.2.2.1 res.2.2.2.2.2.2.2.1 res.2.2.2.2.2.2.2.2.1 res.2.2.2.2.2.2.2.2.2 qa1 qa1_cells na1_cells a1_cells a1_used a1_burst)) ([.ref qt, .ref qa1, .int a2] : List Value).toArray s 0 0 (va_A (w_Specifier_readIndex G qt t_index t_flags t_width t_precision t_conversion t_great t_known t_cutOff t_flagTwice t_last qa1 qa1_cells na1_cells a1_cells a1_used a1_burst) s.heap.size) = Q := ⟨_, rfl⟩
  show W p l e { frames := 5, cells := 0, slots := 0, locals := 200 } s m ([.ref qt, .ref qa1, .int a2] : List Value).toArray below meth c s.heap [] 0 0 (MQ below (QV G (va_A (w_Specifier_readIndex G qt t_index t_flags t_width t_precision t_conversion t_great t_known t_cutOff t_flagTwice t_last qa1 qa1_cells na1_cells a1_cells a1_used a1_burst) s.heap.size) (w_Specifier_readIndex G qt res.1 res.2.1 res.2.2.1 res.2.2.2.1 res.2.2.2.2.1 res.2.2.2.2.2.1 res.2.2.2.2.2.2.1 res.2.2.2.2.2.2.2.1 res.2.2.2.2.2.2.2.2.1 res.2.2.2.2.2.2.2.2.2 qa1 qa1_cells na1_cells a1_cells a1_used a1_burst)) ([.ref qt, .ref qa1, .int a2] : List Value).toArray s 0 0 (va_A (w_Specifier_readIndex G qt t_index t_flags t_width t_precision t_conversion t_great t_known t_cutOff t_flagTwice t_last qa1 qa1_cells na1_cells a1_cells a1_used a1_burst) s.heap.size)) _
  rw [hQ]
  have hA : ∀ q : Nat, s.heap.size ≤ q → va_A (w_Specifier_readIndex G qt t_index t_flags t_width t_precision t_conversion t_great t_known t_cutOff t_flagTwice t_last qa1 qa1_cells na1_cells a1_cells a1_used a1_burst) s.heap.size q := fun q h => Or.inr h
  obtain ⟨A, hAe⟩ : ∃ A, va_A (w_Specifier_readIndex G qt t_index t_flags t_width t_precision t_conversion t_great t_known t_cutOff t_flagTwice t_last qa1 qa1_cells na1_cells a1_cells a1_used a1_burst) s.heap.size = A := ⟨_, rfl⟩
  rw [hAe] at hA hD hAb hQ
  have hS : va_S A s.heap s.heap [] := va_S.rf
  have hl := lv_entry (([.ref qt, .ref qa1, .int a2] : List Value)) (n := 4) (Nat.le_of_ble_eq_true rfl)
  rw [lg_entry_eq]
  generalize (lg_sl (([.ref qt, .ref qa1, .int a2] : List Value)) ++ List.replicate (4 - (lg_sl (([.ref qt, .ref qa1, .int a2] : List Value))).length) Slot.unset).toArray = ls at hl ⊢
  have hl : lv_has ls 4 [(0, .ref qt), (1, .ref qa1), (2, .int a2)] := hl
  unfold f_Specifier_readFrom at hf
  refine lv_aload_n hx hb d_Specifier_readFrom_0 rfl (lv_at hl 0 rfl) ?_
  refine lv_iconst (v := -1) hx hb d_Specifier_readFrom_1 (by decide) ?_
  refine va_put (D := gD G) (ci := 5) (v := .int (-1 : Int32)) (ty := .int) (C := R_Specifier) (T := F_Specifier) (N := 10) hx hb hg in_Specifier t_Specifier to_Specifier no_Specifier hown hK hP hD hS 0 rfl rfl 0 (by decide) (hg _ m_129) (fun _ h9 => h9) rfl (by decide +kernel) rfl rfl (Nat.le_of_ble_eq_true rfl) d_Specifier_readFrom_2 (fun H locs hP hD hS => ?_)
  have hP : va_P (gD G) vwCl (w_Specifier_readIndex G qt (-1 : Int32) t_flags t_width t_precision t_conversion t_great t_known t_cutOff t_flagTwice t_last qa1 qa1_cells na1_cells a1_cells a1_used a1_burst) H := hP
  have hD : va_D A (w_Specifier_readIndex G qt (-1 : Int32) t_flags t_width t_precision t_conversion t_great t_known t_cutOff t_flagTwice t_last qa1 qa1_cells na1_cells a1_cells a1_used a1_burst) := hD
  refine lv_aload_n hx hb d_Specifier_readFrom_5 rfl (lv_at hl 0 rfl) ?_
  refine lv_iconst (v := 0) hx hb d_Specifier_readFrom_6 (by decide) ?_
  refine va_put (D := gD G) (ci := 5) (v := .int (0 : Int32)) (ty := .int) (C := R_Specifier) (T := F_Specifier) (N := 10) hx hb hg in_Specifier t_Specifier to_Specifier no_Specifier hown hK hP hD hS 0 rfl rfl 1 (by decide) (hg _ m_110) (fun _ h9 => h9) rfl (by decide +kernel) rfl rfl (Nat.le_of_ble_eq_true rfl) d_Specifier_readFrom_7 (fun H locs hP hD hS => ?_)
  have hP : va_P (gD G) vwCl (w_Specifier_readIndex G qt (-1 : Int32) (0 : Int32) t_width t_precision t_conversion t_great t_known t_cutOff t_flagTwice t_last qa1 qa1_cells na1_cells a1_cells a1_used a1_burst) H := hP
  have hD : va_D A (w_Specifier_readIndex G qt (-1 : Int32) (0 : Int32) t_width t_precision t_conversion t_great t_known t_cutOff t_flagTwice t_last qa1 qa1_cells na1_cells a1_cells a1_used a1_burst) := hD
  refine lv_aload_n hx hb d_Specifier_readFrom_10 rfl (lv_at hl 0 rfl) ?_
  refine lv_iconst (v := -1) hx hb d_Specifier_readFrom_11 (by decide) ?_
  refine va_put (D := gD G) (ci := 5) (v := .int (-1 : Int32)) (ty := .int) (C := R_Specifier) (T := F_Specifier) (N := 10) hx hb hg in_Specifier t_Specifier to_Specifier no_Specifier hown hK hP hD hS 0 rfl rfl 2 (by decide) (hg _ m_116) (fun _ h9 => h9) rfl (by decide +kernel) rfl rfl (Nat.le_of_ble_eq_true rfl) d_Specifier_readFrom_12 (fun H locs hP hD hS => ?_)
  have hP : va_P (gD G) vwCl (w_Specifier_readIndex G qt (-1 : Int32) (0 : Int32) (-1 : Int32) t_precision t_conversion t_great t_known t_cutOff t_flagTwice t_last qa1 qa1_cells na1_cells a1_cells a1_used a1_burst) H := hP
  have hD : va_D A (w_Specifier_readIndex G qt (-1 : Int32) (0 : Int32) (-1 : Int32) t_precision t_conversion t_great t_known t_cutOff t_flagTwice t_last qa1 qa1_cells na1_cells a1_cells a1_used a1_burst) := hD
  refine lv_aload_n hx hb d_Specifier_readFrom_15 rfl (lv_at hl 0 rfl) ?_
  refine lv_iconst (v := -1) hx hb d_Specifier_readFrom_16 (by decide) ?_
  refine va_put (D := gD G) (ci := 5) (v := .int (-1 : Int32)) (ty := .int) (C := R_Specifier) (T := F_Specifier) (N := 10) hx hb hg in_Specifier t_Specifier to_Specifier no_Specifier hown hK hP hD hS 0 rfl rfl 3 (by decide) (hg _ m_117) (fun _ h9 => h9) rfl (by decide +kernel) rfl rfl (Nat.le_of_ble_eq_true rfl) d_Specifier_readFrom_17 (fun H locs hP hD hS => ?_)
  have hP : va_P (gD G) vwCl (w_Specifier_readIndex G qt (-1 : Int32) (0 : Int32) (-1 : Int32) (-1 : Int32) t_conversion t_great t_known t_cutOff t_flagTwice t_last qa1 qa1_cells na1_cells a1_cells a1_used a1_burst) H := hP
  have hD : va_D A (w_Specifier_readIndex G qt (-1 : Int32) (0 : Int32) (-1 : Int32) (-1 : Int32) t_conversion t_great t_known t_cutOff t_flagTwice t_last qa1 qa1_cells na1_cells a1_cells a1_used a1_burst) := hD
  refine lv_aload_n hx hb d_Specifier_readFrom_20 rfl (lv_at hl 0 rfl) ?_
  refine lv_iconst (v := 0) hx hb d_Specifier_readFrom_21 (by decide) ?_
  refine va_put (D := gD G) (ci := 5) (v := .int (0 : Int32)) (ty := .char) (C := R_Specifier) (T := F_Specifier) (N := 10) hx hb hg in_Specifier t_Specifier to_Specifier no_Specifier hown hK hP hD hS 0 rfl rfl 4 (by decide) (hg _ m_118) (fun _ h9 => h9) rfl (by decide +kernel) rfl rfl (Nat.le_of_ble_eq_true rfl) d_Specifier_readFrom_22 (fun H locs hP hD hS => ?_)
  have hP : va_P (gD G) vwCl (w_Specifier_readIndex G qt (-1 : Int32) (0 : Int32) (-1 : Int32) (-1 : Int32) (0 : Int32) t_great t_known t_cutOff t_flagTwice t_last qa1 qa1_cells na1_cells a1_cells a1_used a1_burst) H := hP
  have hD : va_D A (w_Specifier_readIndex G qt (-1 : Int32) (0 : Int32) (-1 : Int32) (-1 : Int32) (0 : Int32) t_great t_known t_cutOff t_flagTwice t_last qa1 qa1_cells na1_cells a1_cells a1_used a1_burst) := hD
  refine lv_aload_n hx hb d_Specifier_readFrom_25 rfl (lv_at hl 0 rfl) ?_
  refine lv_iconst (v := 0) hx hb d_Specifier_readFrom_26 (by decide) ?_
  refine va_put (D := gD G) (ci := 5) (v := .int (0 : Int32)) (ty := .boolean) (C := R_Specifier) (T := F_Specifier) (N := 10) hx hb hg in_Specifier t_Specifier to_Specifier no_Specifier hown hK hP hD hS 0 rfl rfl 5 (by decide) (hg _ m_152) (fun _ h9 => h9) rfl (by decide +kernel) (bl_n bl_0) (bl_f bl_0) (Nat.le_of_ble_eq_true rfl) d_Specifier_readFrom_27 (fun H locs hP hD hS => ?_)
  have hP : va_P (gD G) vwCl (w_Specifier_readIndex G qt (-1 : Int32) (0 : Int32) (-1 : Int32) (-1 : Int32) (0 : Int32) (0 : Int32) t_known t_cutOff t_flagTwice t_last qa1 qa1_cells na1_cells a1_cells a1_used a1_burst) H := hP
  have hD : va_D A (w_Specifier_readIndex G qt (-1 : Int32) (0 : Int32) (-1 : Int32) (-1 : Int32) (0 : Int32) (0 : Int32) t_known t_cutOff t_flagTwice t_last qa1 qa1_cells na1_cells a1_cells a1_used a1_burst) := hD
  refine lv_aload_n hx hb d_Specifier_readFrom_30 rfl (lv_at hl 0 rfl) ?_
  refine lv_iconst (v := 0) hx hb d_Specifier_readFrom_31 (by decide) ?_
  refine va_put (D := gD G) (ci := 5) (v := .int (0 : Int32)) (ty := .boolean) (C := R_Specifier) (T := F_Specifier) (N := 10) hx hb hg in_Specifier t_Specifier to_Specifier no_Specifier hown hK hP hD hS 0 rfl rfl 6 (by decide) (hg _ m_131) (fun _ h9 => h9) rfl (by decide +kernel) (bl_n bl_0) (bl_f bl_0) (Nat.le_of_ble_eq_true rfl) d_Specifier_readFrom_32 (fun H locs hP hD hS => ?_)
  have hP : va_P (gD G) vwCl (w_Specifier_readIndex G qt (-1 : Int32) (0 : Int32) (-1 : Int32) (-1 : Int32) (0 : Int32) (0 : Int32) (0 : Int32) t_cutOff t_flagTwice t_last qa1 qa1_cells na1_cells a1_cells a1_used a1_burst) H := hP
  have hD : va_D A (w_Specifier_readIndex G qt (-1 : Int32) (0 : Int32) (-1 : Int32) (-1 : Int32) (0 : Int32) (0 : Int32) (0 : Int32) t_cutOff t_flagTwice t_last qa1 qa1_cells na1_cells a1_cells a1_used a1_burst) := hD
  refine lv_aload_n hx hb d_Specifier_readFrom_35 rfl (lv_at hl 0 rfl) ?_
  refine lv_iconst (v := 0) hx hb d_Specifier_readFrom_36 (by decide) ?_
  refine va_put (D := gD G) (ci := 5) (v := .int (0 : Int32)) (ty := .boolean) (C := R_Specifier) (T := F_Specifier) (N := 10) hx hb hg in_Specifier t_Specifier to_Specifier no_Specifier hown hK hP hD hS 0 rfl rfl 7 (by decide) (hg _ m_128) (fun _ h9 => h9) rfl (by decide +kernel) (bl_n bl_0) (bl_f bl_0) (Nat.le_of_ble_eq_true rfl) d_Specifier_readFrom_37 (fun H locs hP hD hS => ?_)
  have hP : va_P (gD G) vwCl (w_Specifier_readIndex G qt (-1 : Int32) (0 : Int32) (-1 : Int32) (-1 : Int32) (0 : Int32) (0 : Int32) (0 : Int32) (0 : Int32) t_flagTwice t_last qa1 qa1_cells na1_cells a1_cells a1_used a1_burst) H := hP
  have hD : va_D A (w_Specifier_readIndex G qt (-1 : Int32) (0 : Int32) (-1 : Int32) (-1 : Int32) (0 : Int32) (0 : Int32) (0 : Int32) (0 : Int32) t_flagTwice t_last qa1 qa1_cells na1_cells a1_cells a1_used a1_burst) := hD
  refine lv_aload_n hx hb d_Specifier_readFrom_40 rfl (lv_at hl 0 rfl) ?_
  refine lv_iconst (v := 0) hx hb d_Specifier_readFrom_41 (by decide) ?_
  refine va_put (D := gD G) (ci := 5) (v := .int (0 : Int32)) (ty := .boolean) (C := R_Specifier) (T := F_Specifier) (N := 10) hx hb hg in_Specifier t_Specifier to_Specifier no_Specifier hown hK hP hD hS 0 rfl rfl 8 (by decide) (hg _ m_130) (fun _ h9 => h9) rfl (by decide +kernel) (bl_n bl_0) (bl_f bl_0) (Nat.le_of_ble_eq_true rfl) d_Specifier_readFrom_42 (fun H locs hP hD hS => ?_)
  have hP : va_P (gD G) vwCl (w_Specifier_readIndex G qt (-1 : Int32) (0 : Int32) (-1 : Int32) (-1 : Int32) (0 : Int32) (0 : Int32) (0 : Int32) (0 : Int32) (0 : Int32) t_last qa1 qa1_cells na1_cells a1_cells a1_used a1_burst) H := hP
  have hD : va_D A (w_Specifier_readIndex G qt (-1 : Int32) (0 : Int32) (-1 : Int32) (-1 : Int32) (0 : Int32) (0 : Int32) (0 : Int32) (0 : Int32) (0 : Int32) t_last qa1 qa1_cells na1_cells a1_cells a1_used a1_burst) := hD
  refine lv_aload_n hx hb d_Specifier_readFrom_45 rfl (lv_at hl 0 rfl) ?_
  refine lv_aload_n hx hb d_Specifier_readFrom_46 rfl (lv_at hl 1 rfl) ?_
  refine lv_iload_n hx hb d_Specifier_readFrom_47 rfl (lv_at hl 2 rfl) ?_
  refine lv_iconst (v := 1) hx hb d_Specifier_readFrom_48 (by decide) ?_
  refine lv_iadd hx hb d_Specifier_readFrom_49 ?_
  obtain ⟨u_50, hu_50, hf⟩ := bd_ hf
  refine CALLWi (va_runV (As := [.ref qa1, .int (a2 + (1 : Int32))]) (rest := []) ⟨hx, hb, hml, hown, hg⟩ (c_Specifier_readIndex l G K qt (-1 : Int32) (0 : Int32) (-1 : Int32) (-1 : Int32) (0 : Int32) (0 : Int32) (0 : Int32) (0 : Int32) (0 : Int32) t_last qa1 qa1_cells na1_cells a1_cells a1_used a1_burst (a2 + (1 : Int32)) _ u_50  hu_50) (cwV 2 hg (gV m_153 m_154 m_155 m_114 m_156) rfl rfl rfl (by decide +kernel) ⟨Nat.le_of_ble_eq_true rfl, Nat.le_of_ble_eq_true rfl⟩) ⟨PC_b, va_recv hK hP (ci := 5) (q0 := 0) rfl rfl, PC_p hE hS hAb hP hD⟩ rfl rfl hl.1 rfl (lv_room (Nat.le_of_ble_eq_true rfl)) d_Specifier_readFrom_50 ⟨Nat.zero_le _, Nat.zero_le _⟩) hP hD hS hA (fun H locs hP hD hS => ?_)
  have hP : va_P (gD G) vwCl (w_Specifier_readIndex G qt u_50.2 (0 : Int32) (-1 : Int32) (-1 : Int32) (0 : Int32) (0 : Int32) (0 : Int32) (0 : Int32) (0 : Int32) t_last qa1 qa1_cells na1_cells a1_cells a1_used a1_burst) H := hP
  have hD : va_D A (w_Specifier_readIndex G qt u_50.2 (0 : Int32) (-1 : Int32) (-1 : Int32) (0 : Int32) (0 : Int32) (0 : Int32) (0 : Int32) (0 : Int32) t_last qa1 qa1_cells na1_cells a1_cells a1_used a1_burst) := hD
  refine lv_istore_n (lv' := [(3, .int u_50.1), (0, .ref qt), (1, .ref qa1), (2, .int a2)]) hx hb d_Specifier_readFrom_53 rfl hl (by decide) rfl (fun ls hl => ?_)
  refine lv_aload_n hx hb d_Specifier_readFrom_54 rfl (lv_at hl 1 rfl) ?_
  refine lv_aload_n hx hb d_Specifier_readFrom_55 rfl (lv_at hl 2 rfl) ?_
  refine lv_iload_n hx hb d_Specifier_readFrom_56 rfl (lv_at hl 0 rfl) ?_
  obtain ⟨u_57, hu_57, hf⟩ := bd_ hf
  refine CALLWi (va_runV (As := [.ref qa1, .int u_50.1]) (rest := []) ⟨hx, hb, hml, hown, hg⟩ (c_Specifier_readFlags l G K qt u_50.2 (0 : Int32) (-1 : Int32) (-1 : Int32) (0 : Int32) (0 : Int32) (0 : Int32) (0 : Int32) (0 : Int32) t_last qa1 qa1_cells na1_cells a1_cells a1_used a1_burst u_50.1 _ u_57  hu_57) (cwV 2 hg (gV m_157 m_158 m_159 m_114 m_160) rfl rfl rfl (by decide +kernel) ⟨Nat.le_of_ble_eq_true rfl, Nat.le_of_ble_eq_true rfl⟩) ⟨PC_b, va_recv hK hP (ci := 5) (q0 := 0) rfl rfl, PC_p hE hS hAb hP hD⟩ rfl rfl hl.1 rfl (lv_room (Nat.le_of_ble_eq_true rfl)) d_Specifier_readFrom_57 ⟨Nat.zero_le _, Nat.zero_le _⟩) hP hD hS hA (fun H locs hP hD hS => ?_)
  have hP : va_P (gD G) vwCl (w_Specifier_readIndex G qt u_50.2 u_57.2.1 (-1 : Int32) (-1 : Int32) (0 : Int32) (0 : Int32) (0 : Int32) (0 : Int32) u_57.2.2 t_last qa1 qa1_cells na1_cells a1_cells a1_used a1_burst) H := hP
  have hD : va_D A (w_Specifier_readIndex G qt u_50.2 u_57.2.1 (-1 : Int32) (-1 : Int32) (0 : Int32) (0 : Int32) (0 : Int32) (0 : Int32) u_57.2.2 t_last qa1 qa1_cells na1_cells a1_cells a1_used a1_burst) := hD
  refine lv_istore_n (lv' := [(3, .int u_57.1), (0, .ref qt), (1, .ref qa1), (2, .int a2)]) hx hb d_Specifier_readFrom_60 rfl hl (by decide) rfl (fun ls hl => ?_)
  refine lv_aload_n hx hb d_Specifier_readFrom_61 rfl (lv_at hl 1 rfl) ?_
  refine lv_aload_n hx hb d_Specifier_readFrom_62 rfl (lv_at hl 2 rfl) ?_
  refine lv_iload_n hx hb d_Specifier_readFrom_63 rfl (lv_at hl 0 rfl) ?_
  obtain ⟨u_64, hu_64, hf⟩ := bd_ hf
  refine CALLWi (va_runV (As := [.ref qa1, .int u_57.1]) (rest := []) ⟨hx, hb, hml, hown, hg⟩ (c_Specifier_readWidth l G K qt u_50.2 u_57.2.1 (-1 : Int32) (-1 : Int32) (0 : Int32) (0 : Int32) (0 : Int32) (0 : Int32) u_57.2.2 t_last qa1 qa1_cells na1_cells a1_cells a1_used a1_burst u_57.1 _ u_64  hu_64) (cwV 2 hg (gV m_161 m_162 m_163 m_114 m_164) rfl rfl rfl (by decide +kernel) ⟨Nat.le_of_ble_eq_true rfl, Nat.le_of_ble_eq_true rfl⟩) ⟨PC_b, va_recv hK hP (ci := 5) (q0 := 0) rfl rfl, PC_p hE hS hAb hP hD⟩ rfl rfl hl.1 rfl (lv_room (Nat.le_of_ble_eq_true rfl)) d_Specifier_readFrom_64 ⟨Nat.zero_le _, Nat.zero_le _⟩) hP hD hS hA (fun H locs hP hD hS => ?_)
  have hP : va_P (gD G) vwCl (w_Specifier_readIndex G qt u_50.2 u_57.2.1 u_64.2 (-1 : Int32) (0 : Int32) (0 : Int32) (0 : Int32) (0 : Int32) u_57.2.2 t_last qa1 qa1_cells na1_cells a1_cells a1_used a1_burst) H := hP
  have hD : va_D A (w_Specifier_readIndex G qt u_50.2 u_57.2.1 u_64.2 (-1 : Int32) (0 : Int32) (0 : Int32) (0 : Int32) (0 : Int32) u_57.2.2 t_last qa1 qa1_cells na1_cells a1_cells a1_used a1_burst) := hD
  refine lv_istore_n (lv' := [(3, .int u_64.1), (0, .ref qt), (1, .ref qa1), (2, .int a2)]) hx hb d_Specifier_readFrom_67 rfl hl (by decide) rfl (fun ls hl => ?_)
  refine lv_aload_n hx hb d_Specifier_readFrom_68 rfl (lv_at hl 1 rfl) ?_
  refine lv_aload_n hx hb d_Specifier_readFrom_69 rfl (lv_at hl 2 rfl) ?_
  refine lv_iload_n hx hb d_Specifier_readFrom_70 rfl (lv_at hl 0 rfl) ?_
  obtain ⟨u_71, hu_71, hf⟩ := bd_ hf
  refine CALLWi (va_runV (As := [.ref qa1, .int u_64.1]) (rest := []) ⟨hx, hb, hml, hown, hg⟩ (c_Specifier_readPrecision l G K qt u_50.2 u_57.2.1 u_64.2 (-1 : Int32) (0 : Int32) (0 : Int32) (0 : Int32) (0 : Int32) u_57.2.2 t_last qa1 qa1_cells na1_cells a1_cells a1_used a1_burst u_64.1 _ u_71  hu_71) (cwV 2 hg (gV m_165 m_166 m_167 m_114 m_168) rfl rfl rfl (by decide +kernel) ⟨Nat.le_of_ble_eq_true rfl, Nat.le_of_ble_eq_true rfl⟩) ⟨PC_b, va_recv hK hP (ci := 5) (q0 := 0) rfl rfl, PC_p hE hS hAb hP hD⟩ rfl rfl hl.1 rfl (lv_room (Nat.le_of_ble_eq_true rfl)) d_Specifier_readFrom_71 ⟨Nat.zero_le _, Nat.zero_le _⟩) hP hD hS hA (fun H locs hP hD hS => ?_)
  have hP : va_P (gD G) vwCl (w_Specifier_readIndex G qt u_50.2 u_57.2.1 u_64.2 u_71.2.1 (0 : Int32) (0 : Int32) (0 : Int32) u_71.2.2 u_57.2.2 t_last qa1 qa1_cells na1_cells a1_cells a1_used a1_burst) H := hP
  have hD : va_D A (w_Specifier_readIndex G qt u_50.2 u_57.2.1 u_64.2 u_71.2.1 (0 : Int32) (0 : Int32) (0 : Int32) u_71.2.2 u_57.2.2 t_last qa1 qa1_cells na1_cells a1_cells a1_used a1_burst) := hD
  refine lv_istore_n (lv' := [(3, .int u_71.1), (0, .ref qt), (1, .ref qa1), (2, .int a2)]) hx hb d_Specifier_readFrom_74 rfl hl (by decide) rfl (fun ls hl => ?_)
  refine lv_aload_n hx hb d_Specifier_readFrom_75 rfl (lv_at hl 1 rfl) ?_
  refine lv_aload_n hx hb d_Specifier_readFrom_76 rfl (lv_at hl 2 rfl) ?_
  refine lv_iload_n hx hb d_Specifier_readFrom_77 rfl (lv_at hl 0 rfl) ?_
  obtain ⟨u_78, hu_78, hf⟩ := bd_ hf
  refine CALLWv (va_runV (As := [.ref qa1, .int u_71.1]) (rest := []) ⟨hx, hb, hml, hown, hg⟩ (c_Specifier_readConversion l G K qt u_50.2 u_57.2.1 u_64.2 u_71.2.1 (0 : Int32) (0 : Int32) (0 : Int32) u_71.2.2 u_57.2.2 t_last qa1 qa1_cells na1_cells a1_cells a1_used a1_burst u_71.1 _ u_78  hu_78) (cwV 2 hg (gV m_169 m_170 m_171 m_114 m_172) rfl rfl rfl (by decide +kernel) ⟨Nat.le_of_ble_eq_true rfl, Nat.le_of_ble_eq_true rfl⟩) ⟨PC_b, va_recv hK hP (ci := 5) (q0 := 0) rfl rfl, PC_p hE hS hAb hP hD⟩ rfl rfl hl.1 rfl (lv_room (Nat.le_of_ble_eq_true rfl)) d_Specifier_readFrom_78 ⟨Nat.zero_le _, Nat.zero_le _⟩) hP hD hS hA (fun H locs hP hD hS => ?_)
  have hP : va_P (gD G) vwCl (w_Specifier_readIndex G qt u_50.2 u_57.2.1 u_64.2 u_71.2.1 u_78.1 u_78.2.1 u_78.2.2.1 u_78.2.2.2.1 u_57.2.2 u_78.2.2.2.2 qa1 qa1_cells na1_cells a1_cells a1_used a1_burst) H := hP
  have hD : va_D A (w_Specifier_readIndex G qt u_50.2 u_57.2.1 u_64.2 u_71.2.1 u_78.1 u_78.2.1 u_78.2.2.1 u_78.2.2.2.1 u_57.2.2 u_78.2.2.2.2 qa1 qa1_cells na1_cells a1_cells a1_used a1_burst) := hD
  obtain rfl := Option.some.inj hf
  rw [← hQ]
  exact W.vret hx hb hr (fun t9 ht hW => ⟨⟨(), rfl, trivial, ⟨by rw [ht]; exact hP, hD⟩⟩, hS.F ht⟩) hS.2.2 d_Specifier_readFrom_81
