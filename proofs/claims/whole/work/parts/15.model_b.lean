theorem d_Model_look_0 : decode cd_Model_look 0 = .ok (.iload_n 1, 1) := by decide +kernel
theorem d_Model_look_1 : decode cd_Model_look 1 = .ok (.aload_n 0, 1) := by decide +kernel
theorem d_Model_look_2 : decode cd_Model_look 2 = .ok (.getfield 56, 3) := by decide +kernel
theorem d_Model_look_5 : decode cd_Model_look 5 = .ok (.if_icmp .ge 12, 3) := by decide +kernel
theorem d_Model_look_8 : decode cd_Model_look 8 = .ok (.aload_n 0, 1) := by decide +kernel
theorem d_Model_look_9 : decode cd_Model_look 9 = .ok (.getfield 7, 3) := by decide +kernel
theorem d_Model_look_12 : decode cd_Model_look 12 = .ok (.iload_n 1, 1) := by decide +kernel
theorem d_Model_look_13 : decode cd_Model_look 13 = .ok (.iaload, 1) := by decide +kernel
theorem d_Model_look_14 : decode cd_Model_look 14 = .ok (.goto 4, 3) := by decide +kernel
theorem d_Model_look_17 : decode cd_Model_look 17 = .ok (.iconst 0, 1) := by decide +kernel
theorem d_Model_look_18 : decode cd_Model_look 18 = .ok (.ireturn, 1) := by decide +kernel
def f_Model_look (t_draft : Nat → Int32) (t_drafted : Int32) (a1 : Int32) : Option Int32 :=
  (if t_drafted ≤ a1 then some (0 : Int32) else (if inB a1 400 = true then some (t_draft a1.toNatClampNeg) else none))
set_option maxHeartbeats 4000000 in
set_option maxRecDepth 100000 in
theorem c_Model_look (l : Launch) (G : Gt) (K : Nat) (qt : Nat) (qt_draft : Nat) (t_draft : Nat → Int32) (t_drafted : Int32) (qt_result : Nat) (t_result : Nat → Int32) (t_length : Int32) (t_arguments : Int32) (qt_kinds : Nat) (t_kinds : Nat → Int32) (qt_values : Nat) (t_values : Nat → Int64) (qt_widths : Nat) (t_widths : Nat → Int32) (qt_below : Nat) (t_below : Nat → Int32) (qt_sizes : Nat) (t_sizes : Nat → Int32) (qt_scales : Nat) (t_scales : Nat → Int32) (qt_parts : Nat) (t_parts : Nat → Int64) (qt_texts : Nat) (t_texts : Nat → Int32) (qt_lengths : Nat) (t_lengths : Nat → Int32) (t_end : Int32) (t_index : Int32) (t_flags : Int32) (t_twice : Int32) (t_width : Int32) (t_precision : Int32) (t_conversion : Int32) (t_broken : Int32) (qt_piece : Nat) (t_piece : Nat → Int32) (t_put : Int32) (t_head : Int32) (qt_tens : Nat) (t_tens : Nat → Int32) (t_count : Int32) (t_exponent : Int32) (qt_work : Nat) (t_work : Nat → Int32) (a1 : Int32) (sz : Nat) (res : Int32)   (hf : f_Model_look t_draft t_drafted a1 = some res) : Met l y_Model_look (.code y_Model_look cd_Model_look 2 (some .int) :: gw) { frames := 0, cells := 0, slots := 0, locals := 0 } (PC G ([.ref qt, .int a1] : List Value) sz (w_Model_clear G qt qt_draft t_draft t_drafted qt_result t_result t_length t_arguments qt_kinds t_kinds qt_values t_values qt_widths t_widths qt_below t_below qt_sizes t_sizes qt_scales t_scales qt_parts t_parts qt_texts t_texts qt_lengths t_lengths t_end t_index t_flags t_twice t_width t_precision t_conversion t_broken qt_piece t_piece t_put t_head qt_tens t_tens t_count t_exponent qt_work t_work)) (QI G res (va_A (w_Model_clear G qt qt_draft t_draft t_drafted qt_result t_result t_length t_arguments qt_kinds t_kinds qt_values t_values qt_widths t_widths qt_below t_below qt_sizes t_sizes qt_scales t_scales qt_parts t_parts qt_texts t_texts qt_lengths t_lengths t_end t_index t_flags t_twice t_width t_precision t_conversion t_broken qt_piece t_piece t_put t_head qt_tens t_tens t_count t_exponent qt_work t_work) sz) (w_Model_clear G qt qt_draft t_draft t_drafted qt_result t_result t_length t_arguments qt_kinds t_kinds qt_values t_values qt_widths t_widths qt_below t_below qt_sizes t_sizes qt_scales t_scales qt_parts t_parts qt_texts t_texts qt_lengths t_lengths t_end t_index t_flags t_twice t_width t_precision t_conversion t_broken qt_piece t_piece t_put t_head qt_tens t_tens t_count t_exponent qt_work t_work)) 0 0 (va_A (w_Model_clear G qt qt_draft t_draft t_drafted qt_result t_result t_length t_arguments qt_kinds t_kinds qt_values t_values qt_widths t_widths qt_below t_below qt_sizes t_sizes qt_scales t_scales qt_parts t_parts qt_texts t_texts qt_lengths t_lengths t_end t_index t_flags t_twice t_width t_precision t_conversion t_broken qt_piece t_piece t_put t_head qt_tens t_tens t_count t_exponent qt_work t_work) sz) := by
  refine Met.ofW (cc := cd_Model_look) (maxL := 2) (ret := (some .int)) (by decide) rfl ?_
  intro p e s m args below meth c s₁ B hml hv
  obtain ⟨rfl, hsz, hP, hE, hD0⟩ := hv
  have hx := B.exec
  have hb := B.bytes
  have hr := B.returns
  have hts := atoms_spec (ws := (.code y_Model_look cd_Model_look 2 (some .int) :: gw)) B.pre
  have hg : ∀ w ∈ gw, w.before _ s = true := fun w h => hts w (List.mem_cons_of_mem _ h)
  have hown : s.vm.findClass R_Model = some m.cls := findClass_of_methodNamed B.named
  have hlocks := B.notSynchronized
  subst hsz
  have hK := hE.K
  have hD := hD0.self (sz := s.heap.size)
  have hAb := hE.ab hD0
  obtain ⟨Q, hQ⟩ : ∃ Q, MQ below (QI G res (va_A (w_Model_clear G qt qt_draft t_draft t_drafted qt_result t_result t_length t_arguments qt_kinds t_kinds qt_values t_values qt_widths t_widths qt_below t_below qt_sizes t_sizes qt_scales t_scales qt_parts t_parts qt_texts t_texts qt_lengths t_lengths t_end t_index t_flags t_twice t_width t_precision t_conversion t_broken qt_piece t_piece t_put t_head qt_tens t_tens t_count t_exponent qt_work t_work) s.heap.size) (w_Model_clear G qt qt_draft t_draft t_drafted qt_result t_result t_length t_arguments qt_kinds t_kinds qt_values t_values qt_widths t_widths qt_below t_below qt_sizes t_sizes qt_scales t_scales qt_parts t_parts qt_texts t_texts qt_lengths t_lengths t_end t_index t_flags t_twice t_width t_precision t_conversion t_broken qt_piece t_piece t_put t_head qt_tens t_tens t_count t_exponent qt_work t_work)) ([.ref qt, .int a1] : List Value).toArray s 0 0 (va_A (w_Model_clear G qt qt_draft t_draft t_drafted qt_result t_result t_length t_arguments qt_kinds t_kinds qt_values t_values qt_widths t_widths qt_below t_below qt_sizes t_sizes qt_scales t_scales qt_parts t_parts qt_texts t_texts qt_lengths t_lengths t_end t_index t_flags t_twice t_width t_precision t_conversion t_broken qt_piece t_piece t_put t_head qt_tens t_tens t_count t_exponent qt_work t_work) s.heap.size) = Q := ⟨_, rfl⟩
  show W p l e { frames := 0, cells := 0, slots := 0, locals := 0 } s m ([.ref qt, .int a1] : List Value).toArray below meth c s.heap [] 0 0 (MQ below (QI G res (va_A (w_Model_clear G qt qt_draft t_draft t_drafted qt_result t_result t_length t_arguments qt_kinds t_kinds qt_values t_values qt_widths t_widths qt_below t_below qt_sizes t_sizes qt_scales t_scales qt_parts t_parts qt_texts t_texts qt_lengths t_lengths t_end t_index t_flags t_twice t_width t_precision t_conversion t_broken qt_piece t_piece t_put t_head qt_tens t_tens t_count t_exponent qt_work t_work) s.heap.size) (w_Model_clear G qt qt_draft t_draft t_drafted qt_result t_result t_length t_arguments qt_kinds t_kinds qt_values t_values qt_widths t_widths qt_below t_below qt_sizes t_sizes qt_scales t_scales qt_parts t_parts qt_texts t_texts qt_lengths t_lengths t_end t_index t_flags t_twice t_width t_precision t_conversion t_broken qt_piece t_piece t_put t_head qt_tens t_tens t_count t_exponent qt_work t_work)) ([.ref qt, .int a1] : List Value).toArray s 0 0 (va_A (w_Model_clear G qt qt_draft t_draft t_drafted qt_result t_result t_length t_arguments qt_kinds t_kinds qt_values t_values qt_widths t_widths qt_below t_below qt_sizes t_sizes qt_scales t_scales qt_parts t_parts qt_texts t_texts qt_lengths t_lengths t_end t_index t_flags t_twice t_width t_precision t_conversion t_broken qt_piece t_piece t_put t_head qt_tens t_tens t_count t_exponent qt_work t_work) s.heap.size)) _
  rw [hQ]
  have hA : ∀ q : Nat, s.heap.size ≤ q → va_A (w_Model_clear G qt qt_draft t_draft t_drafted qt_result t_result t_length t_arguments qt_kinds t_kinds qt_values t_values qt_widths t_widths qt_below t_below qt_sizes t_sizes qt_scales t_scales qt_parts t_parts qt_texts t_texts qt_lengths t_lengths t_end t_index t_flags t_twice t_width t_precision t_conversion t_broken qt_piece t_piece t_put t_head qt_tens t_tens t_count t_exponent qt_work t_work) s.heap.size q := fun q h => Or.inr h
  obtain ⟨A, hAe⟩ : ∃ A, va_A (w_Model_clear G qt qt_draft t_draft t_drafted qt_result t_result t_length t_arguments qt_kinds t_kinds qt_values t_values qt_widths t_widths qt_below t_below qt_sizes t_sizes qt_scales t_scales qt_parts t_parts qt_texts t_texts qt_lengths t_lengths t_end t_index t_flags t_twice t_width t_precision t_conversion t_broken qt_piece t_piece t_put t_head qt_tens t_tens t_count t_exponent qt_work t_work) s.heap.size = A := ⟨_, rfl⟩
  rw [hAe] at hA hD hAb hQ
  have hS : va_S A s.heap s.heap [] := va_S.rf
  have hl := lv_entry (([.ref qt, .int a1] : List Value)) (n := 2) (Nat.le_of_ble_eq_true rfl)
  rw [lg_entry_eq]
  generalize (lg_sl (([.ref qt, .int a1] : List Value)) ++ List.replicate (2 - (lg_sl (([.ref qt, .int a1] : List Value))).length) Slot.unset).toArray = ls at hl ⊢
  have hl : lv_has ls 2 [(0, .ref qt), (1, .int a1)] := hl
  unfold f_Model_look at hf
  refine lv_iload_n hx hb d_Model_look_0 rfl (lv_at hl 1 rfl) ?_
  refine lv_aload_n hx hb d_Model_look_1 rfl (lv_at hl 0 rfl) ?_
  refine va_get (D := gD G) (ci := 7) (v := .int t_drafted) (C := R_Model) (T := F_Model) (N := 29) hx hb hg in_Model hown hK hP 0 rfl rfl 1 (by decide) (hg _ m_380) (fun _ h9 => h9) rfl d_Model_look_2 ?_
  refine lv_icmp_ge (tgt := 17) hx hb d_Model_look_5 (by decide) (fun c_5 => ?_) (fun c_5 => ?_)
  · have hf := ip_ c_5 hf
    refine lv_iconst (v := 0) hx hb d_Model_look_17 (by decide) ?_
    obtain rfl := Option.some.inj hf
    rw [← hQ]
    exact W.iret (v := (0 : Int32)) hx hb hr (fun t9 ht hW => ⟨⟨(0 : Int32), (), rfl, rfl, ⟨by rw [ht]; exact hP, hD⟩⟩, hS.F ht⟩) hS.2.2 d_Model_look_18
  · have hf := in_ c_5 hf
    refine lv_aload_n hx hb d_Model_look_8 rfl (lv_at hl 0 rfl) ?_
    refine va_get (D := gD G) (ci := 7) (v := .ref qt_draft) (C := R_Model) (T := F_Model) (N := 29) hx hb hg in_Model hown hK hP 0 rfl rfl 0 (by decide) (hg _ m_402) (fun _ h9 => h9) rfl d_Model_look_9 ?_
    refine lv_iload_n hx hb d_Model_look_12 rfl (lv_at hl 1 rfl) ?_
    obtain ⟨g_13, hf⟩ := gd_ hf
    refine va_iald hx hb hK hP 1 1 rfl rfl (inB_in g_13) d_Model_look_13 ?_
    refine lv_goto (tgt := 18) hx hb d_Model_look_14 (by decide) ?_
    obtain rfl := Option.some.inj hf
    rw [← hQ]
    exact W.iret (v := (t_draft a1.toNatClampNeg)) hx hb hr (fun t9 ht hW => ⟨⟨(t_draft a1.toNatClampNeg), (), rfl, rfl, ⟨by rw [ht]; exact hP, hD⟩⟩, hS.F ht⟩) hS.2.2 d_Model_look_18
theorem d_Model_isDigit_0 : decode cd_Model_isDigit 0 = .ok (.iload_n 0, 1) := by decide +kernel
theorem d_Model_isDigit_1 : decode cd_Model_isDigit 1 = .ok (.bipush 48, 2) := by decide +kernel
theorem d_Model_isDigit_3 : decode cd_Model_isDigit 3 = .ok (.if_icmp .lt 13, 3) := by decide +kernel
theorem d_Model_isDigit_6 : decode cd_Model_isDigit 6 = .ok (.iload_n 0, 1) := by decide +kernel
theorem d_Model_isDigit_7 : decode cd_Model_isDigit 7 = .ok (.bipush 57, 2) := by decide +kernel
theorem d_Model_isDigit_9 : decode cd_Model_isDigit 9 = .ok (.if_icmp .gt 7, 3) := by decide +kernel
theorem d_Model_isDigit_12 : decode cd_Model_isDigit 12 = .ok (.iconst 1, 1) := by decide +kernel
theorem d_Model_isDigit_13 : decode cd_Model_isDigit 13 = .ok (.goto 4, 3) := by decide +kernel
theorem d_Model_isDigit_16 : decode cd_Model_isDigit 16 = .ok (.iconst 0, 1) := by decide +kernel
theorem d_Model_isDigit_17 : decode cd_Model_isDigit 17 = .ok (.ireturn, 1) := by decide +kernel
def f_Model_isDigit (a1 : Int32) : Option Int32 :=
  (if a1 < (48 : Int32) then some (0 : Int32) else (if (57 : Int32) < a1 then some (0 : Int32) else some (1 : Int32)))
set_option maxHeartbeats 4000000 in
set_option maxRecDepth 100000 in
theorem c_Model_isDigit (l : Launch) (G : Gt) (K : Nat) (a1 : Int32) (sz : Nat) (res : Int32)   (hf : f_Model_isDigit a1 = some res) : Met l y_Model_isDigit (.code y_Model_isDigit cd_Model_isDigit 1 (some .boolean) :: gw) { frames := 0, cells := 0, slots := 0, locals := 0 } (PC G ([.int a1] : List Value) sz (w_Preconditions_checkIndexn G )) (QZ G res (va_A (w_Preconditions_checkIndexn G ) sz) (w_Preconditions_checkIndexn G )) 0 0 (va_A (w_Preconditions_checkIndexn G ) sz) := by
  refine Met.ofW (cc := cd_Model_isDigit) (maxL := 1) (ret := (some .boolean)) (by decide) rfl ?_
  intro p e s m args below meth c s₁ B hml hv
  obtain ⟨rfl, hsz, hP, hE, hD0⟩ := hv
  have hx := B.exec
  have hb := B.bytes
  have hr := B.returns
  have hts := atoms_spec (ws := (.code y_Model_isDigit cd_Model_isDigit 1 (some .boolean) :: gw)) B.pre
  have hg : ∀ w ∈ gw, w.before _ s = true := fun w h => hts w (List.mem_cons_of_mem _ h)
  have hown : s.vm.findClass R_Model = some m.cls := findClass_of_methodNamed B.named
  have hlocks := B.notSynchronized
  subst hsz
  have hK := hE.K
  have hD := hD0.self (sz := s.heap.size)
  have hAb := hE.ab hD0
  obtain ⟨Q, hQ⟩ : ∃ Q, MQ below (QZ G res (va_A (w_Preconditions_checkIndexn G ) s.heap.size) (w_Preconditions_checkIndexn G )) ([.int a1] : List Value).toArray s 0 0 (va_A (w_Preconditions_checkIndexn G ) s.heap.size) = Q := ⟨_, rfl⟩
  show W p l e { frames := 0, cells := 0, slots := 0, locals := 0 } s m ([.int a1] : List Value).toArray below meth c s.heap [] 0 0 (MQ below (QZ G res (va_A (w_Preconditions_checkIndexn G ) s.heap.size) (w_Preconditions_checkIndexn G )) ([.int a1] : List Value).toArray s 0 0 (va_A (w_Preconditions_checkIndexn G ) s.heap.size)) _
  rw [hQ]
  have hA : ∀ q : Nat, s.heap.size ≤ q → va_A (w_Preconditions_checkIndexn G ) s.heap.size q := fun q h => Or.inr h
  obtain ⟨A, hAe⟩ : ∃ A, va_A (w_Preconditions_checkIndexn G ) s.heap.size = A := ⟨_, rfl⟩
  rw [hAe] at hA hD hAb hQ
  have hS : va_S A s.heap s.heap [] := va_S.rf
  have hl := lv_entry (([.int a1] : List Value)) (n := 1) (Nat.le_of_ble_eq_true rfl)
  rw [lg_entry_eq]
  generalize (lg_sl (([.int a1] : List Value)) ++ List.replicate (1 - (lg_sl (([.int a1] : List Value))).length) Slot.unset).toArray = ls at hl ⊢
  have hl : lv_has ls 1 [(0, .int a1)] := hl
  unfold f_Model_isDigit at hf
  refine lv_iload_n hx hb d_Model_isDigit_0 rfl (lv_at hl 0 rfl) ?_
  refine lv_bipush (v := 48) hx hb d_Model_isDigit_1 (by decide) ?_
  refine lv_icmp_lt (tgt := 16) hx hb d_Model_isDigit_3 (by decide) (fun c_3 => ?_) (fun c_3 => ?_)
  · have hf := ip_ c_3 hf
    refine lv_iconst (v := 0) hx hb d_Model_isDigit_16 (by decide) ?_
    obtain rfl := Option.some.inj hf
    rw [← hQ]
    exact W.zret (v := (0 : Int32)) hx hb hr (bl_n bl_0) (fun t9 ht hW => ⟨⟨(0 : Int32), (), rfl, ⟨rfl, bl_0⟩, ⟨by rw [ht]; exact hP, hD⟩⟩, hS.F ht⟩) hS.2.2 d_Model_isDigit_17
  · have hf := in_ c_3 hf
    refine lv_iload_n hx hb d_Model_isDigit_6 rfl (lv_at hl 0 rfl) ?_
    refine lv_bipush (v := 57) hx hb d_Model_isDigit_7 (by decide) ?_
    refine lv_icmp_gt (tgt := 16) hx hb d_Model_isDigit_9 (by decide) (fun c_9 => ?_) (fun c_9 => ?_)
    · have hf := ip_ c_9 hf
      refine lv_iconst (v := 0) hx hb d_Model_isDigit_16 (by decide) ?_
      obtain rfl := Option.some.inj hf
      rw [← hQ]
      exact W.zret (v := (0 : Int32)) hx hb hr (bl_n bl_0) (fun t9 ht hW => ⟨⟨(0 : Int32), (), rfl, ⟨rfl, bl_0⟩, ⟨by rw [ht]; exact hP, hD⟩⟩, hS.F ht⟩) hS.2.2 d_Model_isDigit_17
    · have hf := in_ c_9 hf
      refine lv_iconst (v := 1) hx hb d_Model_isDigit_12 (by decide) ?_
      refine lv_goto (tgt := 17) hx hb d_Model_isDigit_13 (by decide) ?_
      obtain rfl := Option.some.inj hf
      rw [← hQ]
      exact W.zret (v := (1 : Int32)) hx hb hr (bl_n bl_1) (fun t9 ht hW => ⟨⟨(1 : Int32), (), rfl, ⟨rfl, bl_1⟩, ⟨by rw [ht]; exact hP, hD⟩⟩, hS.F ht⟩) hS.2.2 d_Model_isDigit_17
theorem d_Model_digitsEnd_0 : decode cd_Model_digitsEnd 0 = .ok (.iload_n 1, 1) := by decide +kernel
theorem d_Model_digitsEnd_1 : decode cd_Model_digitsEnd 1 = .ok (.istore_n 2, 1) := by decide +kernel
theorem d_Model_digitsEnd_2 : decode cd_Model_digitsEnd 2 = .ok (.aload_n 0, 1) := by decide +kernel
theorem d_Model_digitsEnd_3 : decode cd_Model_digitsEnd 3 = .ok (.iload_n 2, 1) := by decide +kernel
theorem d_Model_digitsEnd_4 : decode cd_Model_digitsEnd 4 = .ok (.invokevirtual 75, 3) := by decide +kernel
theorem d_Model_digitsEnd_7 : decode cd_Model_digitsEnd 7 = .ok (.invokestatic 79, 3) := by decide +kernel
theorem d_Model_digitsEnd_10 : decode cd_Model_digitsEnd 10 = .ok (.ifCond .eq 9, 3) := by decide +kernel
theorem d_Model_digitsEnd_13 : decode cd_Model_digitsEnd 13 = .ok (.iinc 2 1, 3) := by decide +kernel
theorem d_Model_digitsEnd_16 : decode cd_Model_digitsEnd 16 = .ok (.goto (-14), 3) := by decide +kernel
theorem d_Model_digitsEnd_19 : decode cd_Model_digitsEnd 19 = .ok (.iload_n 2, 1) := by decide +kernel
theorem d_Model_digitsEnd_20 : decode cd_Model_digitsEnd 20 = .ok (.ireturn, 1) := by decide +kernel
theorem m_406 : Cond.methodLink R_Model 75 y_Model_look ∈ gw := gm (i := 1012) (by decide +kernel) (by decide +kernel)
theorem m_407 : Cond.instanceMethod y_Model_look ∈ gw := gm (i := 1014) (by decide +kernel) (by decide +kernel)
theorem m_408 : Cond.selects R_Model y_Model_look y_Model_look ∈ gw := gm (i := 41) (by decide +kernel) (by decide +kernel)
set_option maxRecDepth 100000 in
theorem m_409 : Cond.code y_Model_look cd_Model_look 2 (some .int) ∈ gw := gm (i := 1015) rfl rfl
theorem m_410 : Cond.methodLink R_Model 79 y_Model_isDigit ∈ gw := gm (i := 1016) (by decide +kernel) (by decide +kernel)
theorem m_411 : Cond.static y_Model_isDigit ∈ gw := gm (i := 1017) (by decide +kernel) (by decide +kernel)
set_option maxRecDepth 100000 in
theorem m_412 : Cond.code y_Model_isDigit cd_Model_isDigit 1 (some .boolean) ∈ gw := gm (i := 1018) rfl rfl
def b_Model_digitsEnd_2 (t_draft : Nat → Int32) (t_drafted : Int32)  (rec_2 : Int32 → Option Int32) (z2 : Int32) : Option Int32 :=
  ((f_Model_look t_draft t_drafted z2).bind fun u_4 => ((f_Model_isDigit u_4).bind fun u_7 => (if u_7 = 0 then some z2 else rec_2 (z2 + 1))))
def f_Model_digitsEnd (K : Nat) (t_draft : Nat → Int32) (t_drafted : Int32) (a1 : Int32) : Option Int32 :=
  lp_ (b_Model_digitsEnd_2 t_draft t_drafted ) K a1
set_option maxHeartbeats 4000000 in
set_option maxRecDepth 100000 in
theorem c_Model_digitsEnd (l : Launch) (G : Gt) (K : Nat) (qt : Nat) (qt_draft : Nat) (t_draft : Nat → Int32) (t_drafted : Int32) (qt_result : Nat) (t_result : Nat → Int32) (t_length : Int32) (t_arguments : Int32) (qt_kinds : Nat) (t_kinds : Nat → Int32) (qt_values : Nat) (t_values : Nat → Int64) (qt_widths : Nat) (t_widths : Nat → Int32) (qt_below : Nat) (t_below : Nat → Int32) (qt_sizes : Nat) (t_sizes : Nat → Int32) (qt_scales : Nat) (t_scales : Nat → Int32) (qt_parts : Nat) (t_parts : Nat → Int64) (qt_texts : Nat) (t_texts : Nat → Int32) (qt_lengths : Nat) (t_lengths : Nat → Int32) (t_end : Int32) (t_index : Int32) (t_flags : Int32) (t_twice : Int32) (t_width : Int32) (t_precision : Int32) (t_conversion : Int32) (t_broken : Int32) (qt_piece : Nat) (t_piece : Nat → Int32) (t_put : Int32) (t_head : Int32) (qt_tens : Nat) (t_tens : Nat → Int32) (t_count : Int32) (t_exponent : Int32) (qt_work : Nat) (t_work : Nat → Int32) (a1 : Int32) (sz : Nat) (res : Int32)   (hf : f_Model_digitsEnd K t_draft t_drafted a1 = some res) : Met l y_Model_digitsEnd (.code y_Model_digitsEnd cd_Model_digitsEnd 3 (some .int) :: gw) { frames := 1, cells := 0, slots := 0, locals := 40 } (PC G ([.ref qt, .int a1] : List Value) sz (w_Model_clear G qt qt_draft t_draft t_drafted qt_result t_result t_length t_arguments qt_kinds t_kinds qt_values t_values qt_widths t_widths qt_below t_below qt_sizes t_sizes qt_scales t_scales qt_parts t_parts qt_texts t_texts qt_lengths t_lengths t_end t_index t_flags t_twice t_width t_precision t_conversion t_broken qt_piece t_piece t_put t_head qt_tens t_tens t_count t_exponent qt_work t_work)) (QI G res (va_A (w_Model_clear G qt qt_draft t_draft t_drafted qt_result t_result t_length t_arguments qt_kinds t_kinds qt_values t_values qt_widths t_widths qt_below t_below qt_sizes t_sizes qt_scales t_scales qt_parts t_parts qt_texts t_texts qt_lengths t_lengths t_end t_index t_flags t_twice t_width t_precision t_conversion t_broken qt_piece t_piece t_put t_head qt_tens t_tens t_count t_exponent qt_work t_work) sz) (w_Model_clear G qt qt_draft t_draft t_drafted qt_result t_result t_length t_arguments qt_kinds t_kinds qt_values t_values qt_widths t_widths qt_below t_below qt_sizes t_sizes qt_scales t_scales qt_parts t_parts qt_texts t_texts qt_lengths t_lengths t_end t_index t_flags t_twice t_width t_precision t_conversion t_broken qt_piece t_piece t_put t_head qt_tens t_tens t_count t_exponent qt_work t_work)) 0 0 (va_A (w_Model_clear G qt qt_draft t_draft t_drafted qt_result t_result t_length t_arguments qt_kinds t_kinds qt_values t_values qt_widths t_widths qt_below t_below qt_sizes t_sizes qt_scales t_scales qt_parts t_parts qt_texts t_texts qt_lengths t_lengths t_end t_index t_flags t_twice t_width t_precision t_conversion t_broken qt_piece t_piece t_put t_head qt_tens t_tens t_count t_exponent qt_work t_work) sz) := by
  refine Met.ofW (cc := cd_Model_digitsEnd) (maxL := 3) (ret := (some .int)) (by decide) rfl ?_
  intro p e s m args below meth c s₁ B hml hv
  obtain ⟨rfl, hsz, hP, hE, hD0⟩ := hv
  have hx := B.exec
  have hb := B.bytes
  have hr := B.returns
  have hts := atoms_spec (ws := (.code y_Model_digitsEnd cd_Model_digitsEnd 3 (some .int) :: gw)) B.pre
  have hg : ∀ w ∈ gw, w.before _ s = true := fun w h => hts w (List.mem_cons_of_mem _ h)
  have hown : s.vm.findClass R_Model = some m.cls := findClass_of_methodNamed B.named
  have hlocks := B.notSynchronized
  subst hsz
  have hK := hE.K
  have hD := hD0.self (sz := s.heap.size)
  have hAb := hE.ab hD0
  obtain ⟨Q, hQ⟩ : ∃ Q, MQ below (QI G res (va_A (w_Model_clear G qt qt_draft t_draft t_drafted qt_result t_result t_length t_arguments qt_kinds t_kinds qt_values t_values qt_widths t_widths qt_below t_below qt_sizes t_sizes qt_scales t_scales qt_parts t_parts qt_texts t_texts qt_lengths t_lengths t_end t_index t_flags t_twice t_width t_precision t_conversion t_broken qt_piece t_piece t_put t_head qt_tens t_tens t_count t_exponent qt_work t_work) s.heap.size) (w_Model_clear G qt qt_draft t_draft t_drafted qt_result t_result t_length t_arguments qt_kinds t_kinds qt_values t_values qt_widths t_widths qt_below t_below qt_sizes t_sizes qt_scales t_scales qt_parts t_parts qt_texts t_texts qt_lengths t_lengths t_end t_index t_flags t_twice t_width t_precision t_conversion t_broken qt_piece t_piece t_put t_head qt_tens t_tens t_count t_exponent qt_work t_work)) ([.ref qt, .int a1] : List Value).toArray s 0 0 (va_A (w_Model_clear G qt qt_draft t_draft t_drafted qt_result t_result t_length t_arguments qt_kinds t_kinds qt_values t_values qt_widths t_widths qt_below t_below qt_sizes t_sizes qt_scales t_scales qt_parts t_parts qt_texts t_texts qt_lengths t_lengths t_end t_index t_flags t_twice t_width t_precision t_conversion t_broken qt_piece t_piece t_put t_head qt_tens t_tens t_count t_exponent qt_work t_work) s.heap.size) = Q := ⟨_, rfl⟩
  show W p l e { frames := 1, cells := 0, slots := 0, locals := 40 } s m ([.ref qt, .int a1] : List Value).toArray below meth c s.heap [] 0 0 (MQ below (QI G res (va_A (w_Model_clear G qt qt_draft t_draft t_drafted qt_result t_result t_length t_arguments qt_kinds t_kinds qt_values t_values qt_widths t_widths qt_below t_below qt_sizes t_sizes qt_scales t_scales qt_parts t_parts qt_texts t_texts qt_lengths t_lengths t_end t_index t_flags t_twice t_width t_precision t_conversion t_broken qt_piece t_piece t_put t_head qt_tens t_tens t_count t_exponent qt_work t_work) s.heap.size) (w_Model_clear G qt qt_draft t_draft t_drafted qt_result t_result t_length t_arguments qt_kinds t_kinds qt_values t_values qt_widths t_widths qt_below t_below qt_sizes t_sizes qt_scales t_scales qt_parts t_parts qt_texts t_texts qt_lengths t_lengths t_end t_index t_flags t_twice t_width t_precision t_conversion t_broken qt_piece t_piece t_put t_head qt_tens t_tens t_count t_exponent qt_work t_work)) ([.ref qt, .int a1] : List Value).toArray s 0 0 (va_A (w_Model_clear G qt qt_draft t_draft t_drafted qt_result t_result t_length t_arguments qt_kinds t_kinds qt_values t_values qt_widths t_widths qt_below t_below qt_sizes t_sizes qt_scales t_scales qt_parts t_parts qt_texts t_texts qt_lengths t_lengths t_end t_index t_flags t_twice t_width t_precision t_conversion t_broken qt_piece t_piece t_put t_head qt_tens t_tens t_count t_exponent qt_work t_work) s.heap.size)) _
  rw [hQ]
  have hA : ∀ q : Nat, s.heap.size ≤ q → va_A (w_Model_clear G qt qt_draft t_draft t_drafted qt_result t_result t_length t_arguments qt_kinds t_kinds qt_values t_values qt_widths t_widths qt_below t_below qt_sizes t_sizes qt_scales t_scales qt_parts t_parts qt_texts t_texts qt_lengths t_lengths t_end t_index t_flags t_twice t_width t_precision t_conversion t_broken qt_piece t_piece t_put t_head qt_tens t_tens t_count t_exponent qt_work t_work) s.heap.size q := fun q h => Or.inr h
  obtain ⟨A, hAe⟩ : ∃ A, va_A (w_Model_clear G qt qt_draft t_draft t_drafted qt_result t_result t_length t_arguments qt_kinds t_kinds qt_values t_values qt_widths t_widths qt_below t_below qt_sizes t_sizes qt_scales t_scales qt_parts t_parts qt_texts t_texts qt_lengths t_lengths t_end t_index t_flags t_twice t_width t_precision t_conversion t_broken qt_piece t_piece t_put t_head qt_tens t_tens t_count t_exponent qt_work t_work) s.heap.size = A := ⟨_, rfl⟩
  rw [hAe] at hA hD hAb hQ
  have hS : va_S A s.heap s.heap [] := va_S.rf
  have hl := lv_entry (([.ref qt, .int a1] : List Value)) (n := 3) (Nat.le_of_ble_eq_true rfl)
  rw [lg_entry_eq]
  generalize (lg_sl (([.ref qt, .int a1] : List Value)) ++ List.replicate (3 - (lg_sl (([.ref qt, .int a1] : List Value))).length) Slot.unset).toArray = ls at hl ⊢
  have hl : lv_has ls 3 [(0, .ref qt), (1, .int a1)] := hl
  have W_2 : ∀   (n_2 : Nat) (z2 : Int32) , lp_ (b_Model_digitsEnd_2 t_draft t_drafted ) n_2 z2 = some res → ∀ (H : Heap) (locs : List Loc) (ls : Array Slot), va_P (gD G) vwCl (w_Model_clear G qt qt_draft t_draft t_drafted qt_result t_result t_length t_arguments qt_kinds t_kinds qt_values t_values qt_widths t_widths qt_below t_below qt_sizes t_sizes qt_scales t_scales qt_parts t_parts qt_texts t_texts qt_lengths t_lengths t_end t_index t_flags t_twice t_width t_precision t_conversion t_broken qt_piece t_piece t_put t_head qt_tens t_tens t_count t_exponent qt_work t_work) H → va_D A (w_Model_clear G qt qt_draft t_draft t_drafted qt_result t_result t_length t_arguments qt_kinds t_kinds qt_values t_values qt_widths t_widths qt_below t_below qt_sizes t_sizes qt_scales t_scales qt_parts t_parts qt_texts t_texts qt_lengths t_lengths t_end t_index t_flags t_twice t_width t_precision t_conversion t_broken qt_piece t_piece t_put t_head qt_tens t_tens t_count t_exponent qt_work t_work) → va_S A s.heap H locs → lv_has ls 3 [(0, .ref qt), (2, .int z2)] → W p l e { frames := 1, cells := 0, slots := 0, locals := 40 } s m ([.ref qt, .int a1] : List Value).toArray below meth c H locs 0 0 Q (F0 m 2 ls []) := by
    intro  n_2
    induction n_2 with
    | zero =>
      intro z2  hf
      cases hf
    | succ n_2 ih_2 =>
      intro z2  hf H locs ls hP hD hS hl
      have hf : b_Model_digitsEnd_2 t_draft t_drafted  (lp_ (b_Model_digitsEnd_2 t_draft t_drafted ) n_2) z2 = some res := hf
      generalize lp_ (b_Model_digitsEnd_2 t_draft t_drafted ) n_2 = rec_2 at hf ih_2
      unfold b_Model_digitsEnd_2 at hf
      refine lv_aload_n hx hb d_Model_digitsEnd_2 rfl (lv_at hl 0 rfl) ?_
      refine lv_iload_n hx hb d_Model_digitsEnd_3 rfl (lv_at hl 1 rfl) ?_
      obtain ⟨u_4, hu_4, hf⟩ := bd_ hf
      refine CALLWi (va_runV (As := [.int z2]) (rest := []) ⟨hx, hb, hml, hown, hg⟩ (c_Model_look l G K qt qt_draft t_draft t_drafted qt_result t_result t_length t_arguments qt_kinds t_kinds qt_values t_values qt_widths t_widths qt_below t_below qt_sizes t_sizes qt_scales t_scales qt_parts t_parts qt_texts t_texts qt_lengths t_lengths t_end t_index t_flags t_twice t_width t_precision t_conversion t_broken qt_piece t_piece t_put t_head qt_tens t_tens t_count t_exponent qt_work t_work z2 _ u_4  hu_4) (cwV 1 hg (gV m_406 m_407 m_408 m_389 m_409) rfl rfl rfl (by decide +kernel) ⟨Nat.le_of_ble_eq_true rfl, Nat.le_of_ble_eq_true rfl⟩) ⟨PC_b, va_recv hK hP (ci := 7) (q0 := 0) rfl rfl, PC_p hE hS hAb hP hD⟩ rfl rfl hl.1 rfl (lv_room (Nat.le_of_ble_eq_true rfl)) d_Model_digitsEnd_4 ⟨Nat.zero_le _, Nat.zero_le _⟩) hP hD hS hA (fun H locs hP hD hS => ?_)
      have hP : va_P (gD G) vwCl (w_Model_clear G qt qt_draft t_draft t_drafted qt_result t_result t_length t_arguments qt_kinds t_kinds qt_values t_values qt_widths t_widths qt_below t_below qt_sizes t_sizes qt_scales t_scales qt_parts t_parts qt_texts t_texts qt_lengths t_lengths t_end t_index t_flags t_twice t_width t_precision t_conversion t_broken qt_piece t_piece t_put t_head qt_tens t_tens t_count t_exponent qt_work t_work) H := hP
      have hD : va_D A (w_Model_clear G qt qt_draft t_draft t_drafted qt_result t_result t_length t_arguments qt_kinds t_kinds qt_values t_values qt_widths t_widths qt_below t_below qt_sizes t_sizes qt_scales t_scales qt_parts t_parts qt_texts t_texts qt_lengths t_lengths t_end t_index t_flags t_twice t_width t_precision t_conversion t_broken qt_piece t_piece t_put t_head qt_tens t_tens t_count t_exponent qt_work t_work) := hD
      obtain ⟨u_7, hu_7, hf⟩ := bd_ hf
      refine CALLz (va_runS (As := [.int u_4]) (rest := []) ⟨hx, hb, hml, hown, hg⟩ (c_Model_isDigit l G K u_4 _ u_7  hu_7) (va_cwS 1 hg (gS m_410 m_411 m_389 m_412) rfl rfl rfl (by decide +kernel) ⟨Nat.le_of_ble_eq_true rfl, Nat.le_of_ble_eq_true rfl⟩) ⟨PC_b, PC_p hE hS hAb (hP.sub [] rfl) (hD.sub [] (by decide) rfl)⟩ rfl rfl hl.1 rfl (lv_room (Nat.le_of_ble_eq_true rfl)) d_Model_digitsEnd_7 ⟨Nat.zero_le _, Nat.zero_le _⟩) hP hD hS hA [] rfl rfl rfl (fun bu_7 H locs hP hD hS => ?_)
      have hP : va_P (gD G) vwCl (w_Model_clear G qt qt_draft t_draft t_drafted qt_result t_result t_length t_arguments qt_kinds t_kinds qt_values t_values qt_widths t_widths qt_below t_below qt_sizes t_sizes qt_scales t_scales qt_parts t_parts qt_texts t_texts qt_lengths t_lengths t_end t_index t_flags t_twice t_width t_precision t_conversion t_broken qt_piece t_piece t_put t_head qt_tens t_tens t_count t_exponent qt_work t_work) H := hP
      have hD : va_D A (w_Model_clear G qt qt_draft t_draft t_drafted qt_result t_result t_length t_arguments qt_kinds t_kinds qt_values t_values qt_widths t_widths qt_below t_below qt_sizes t_sizes qt_scales t_scales qt_parts t_parts qt_texts t_texts qt_lengths t_lengths t_end t_index t_flags t_twice t_width t_precision t_conversion t_broken qt_piece t_piece t_put t_head qt_tens t_tens t_count t_exponent qt_work t_work) := hD
      refine lv_if_eq (tgt := 19) hx hb d_Model_digitsEnd_10 (by decide) (fun c_10 => ?_) (fun c_10 => ?_)
      · have hf := ip_ c_10 hf
        refine lv_iload_n hx hb d_Model_digitsEnd_19 rfl (lv_at hl 1 rfl) ?_
        obtain rfl := Option.some.inj hf
        rw [← hQ]
        exact W.iret (v := z2) hx hb hr (fun t9 ht hW => ⟨⟨z2, (), rfl, rfl, ⟨by rw [ht]; exact hP, hD⟩⟩, hS.F ht⟩) hS.2.2 d_Model_digitsEnd_20
      · have hf := in_ c_10 hf
        refine lv_iinc (v := (z2 + 1)) (lv' := [(2, .int (z2 + 1)), (0, .ref qt)]) hx hb d_Model_digitsEnd_13 hl (k := 1) rfl rfl (by decide) rfl (fun ls hl => ?_)
        refine lv_goto (tgt := 2) hx hb d_Model_digitsEnd_16 (by decide) ?_
        exact ih_2 (z2 + 1)  hf _ _ _ hP hD hS (lv_sub hl [1, 0] rfl)
  unfold f_Model_digitsEnd at hf
  refine lv_iload_n hx hb d_Model_digitsEnd_0 rfl (lv_at hl 1 rfl) ?_
  refine lv_istore_n (lv' := [(2, .int a1), (0, .ref qt), (1, .int a1)]) hx hb d_Model_digitsEnd_1 rfl hl (by decide) rfl (fun ls hl => ?_)
  exact W_2   K a1  hf _ _ _ hP hD hS (lv_sub hl [1, 0] rfl)
theorem d_Model_said_0 : decode cd_Model_said 0 = .ok (.iconst 0, 1) := by decide +kernel
theorem d_Model_said_1 : decode cd_Model_said 1 = .ok (.istore_n 3, 1) := by decide +kernel
theorem d_Model_said_2 : decode cd_Model_said 2 = .ok (.iload_n 1, 1) := by decide +kernel
theorem d_Model_said_3 : decode cd_Model_said 3 = .ok (.istore 4, 2) := by decide +kernel
theorem d_Model_said_5 : decode cd_Model_said 5 = .ok (.iload 4, 2) := by decide +kernel
theorem d_Model_said_7 : decode cd_Model_said 7 = .ok (.iload_n 2, 1) := by decide +kernel
theorem d_Model_said_8 : decode cd_Model_said 8 = .ok (.if_icmp .ge 39, 3) := by decide +kernel
theorem d_Model_said_11 : decode cd_Model_said 11 = .ok (.bipush 10, 2) := by decide +kernel
theorem d_Model_said_13 : decode cd_Model_said 13 = .ok (.iload_n 3, 1) := by decide +kernel
theorem d_Model_said_14 : decode cd_Model_said 14 = .ok (.imul, 1) := by decide +kernel
theorem d_Model_said_15 : decode cd_Model_said 15 = .ok (.aload_n 0, 1) := by decide +kernel
theorem d_Model_said_16 : decode cd_Model_said 16 = .ok (.iload 4, 2) := by decide +kernel
theorem d_Model_said_18 : decode cd_Model_said 18 = .ok (.invokevirtual 75, 3) := by decide +kernel
theorem d_Model_said_21 : decode cd_Model_said 21 = .ok (.iadd, 1) := by decide +kernel
theorem d_Model_said_22 : decode cd_Model_said 22 = .ok (.bipush 48, 2) := by decide +kernel
theorem d_Model_said_24 : decode cd_Model_said 24 = .ok (.isub, 1) := by decide +kernel
theorem d_Model_said_25 : decode cd_Model_said 25 = .ok (.istore_n 3, 1) := by decide +kernel
theorem d_Model_said_26 : decode cd_Model_said 26 = .ok (.iload_n 3, 1) := by decide +kernel
theorem d_Model_said_27 : decode cd_Model_said 27 = .ok (.sipush 1000, 3) := by decide +kernel
theorem d_Model_said_30 : decode cd_Model_said 30 = .ok (.if_icmp .le 9, 3) := by decide +kernel
theorem d_Model_said_33 : decode cd_Model_said 33 = .ok (.sipush 1000, 3) := by decide +kernel
theorem d_Model_said_36 : decode cd_Model_said 36 = .ok (.goto 4, 3) := by decide +kernel
theorem d_Model_said_39 : decode cd_Model_said 39 = .ok (.iload_n 3, 1) := by decide +kernel
theorem d_Model_said_40 : decode cd_Model_said 40 = .ok (.istore_n 3, 1) := by decide +kernel
theorem d_Model_said_41 : decode cd_Model_said 41 = .ok (.iinc 4 1, 3) := by decide +kernel
theorem d_Model_said_44 : decode cd_Model_said 44 = .ok (.goto (-39), 3) := by decide +kernel
theorem d_Model_said_47 : decode cd_Model_said 47 = .ok (.iload_n 3, 1) := by decide +kernel
theorem d_Model_said_48 : decode cd_Model_said 48 = .ok (.ireturn, 1) := by decide +kernel
def k_Model_said_40 (rec_5 : (Int32 × Int32) → Option Int32) (x4 : Int32) (k0 : Int32) : Option Int32 :=
  rec_5 (k0, (x4 + 1))
def b_Model_said_5 (t_draft : Nat → Int32) (t_drafted : Int32) (a2 : Int32)  (rec_5 : (Int32 × Int32) → Option Int32) (z5 : Int32 × Int32) : Option Int32 :=
  (if a2 ≤ z5.2 then some z5.1 else ((f_Model_look t_draft t_drafted z5.2).bind fun u_18 => (if ((((10 : Int32) * z5.1) + u_18) - (48 : Int32)) ≤ (1000 : Int32) then k_Model_said_40 rec_5 z5.2 ((((10 : Int32) * z5.1) + u_18) - (48 : Int32)) else k_Model_said_40 rec_5 z5.2 (1000 : Int32))))
def f_Model_said (K : Nat) (t_draft : Nat → Int32) (t_drafted : Int32) (a1 : Int32) (a2 : Int32) : Option Int32 :=
  lp_ (b_Model_said_5 t_draft t_drafted a2 ) K ((0 : Int32), a1)
set_option maxHeartbeats 4000000 in
set_option maxRecDepth 100000 in
theorem c_Model_said (l : Launch) (G : Gt) (K : Nat) (qt : Nat) (qt_draft : Nat) (t_draft : Nat → Int32) (t_drafted : Int32) (qt_result : Nat) (t_result : Nat → Int32) (t_length : Int32) (t_arguments : Int32) (qt_kinds : Nat) (t_kinds : Nat → Int32) (qt_values : Nat) (t_values : Nat → Int64) (qt_widths : Nat) (t_widths : Nat → Int32) (qt_below : Nat) (t_below : Nat → Int32) (qt_sizes : Nat) (t_sizes : Nat → Int32) (qt_scales : Nat) (t_scales : Nat → Int32) (qt_parts : Nat) (t_parts : Nat → Int64) (qt_texts : Nat) (t_texts : Nat → Int32) (qt_lengths : Nat) (t_lengths : Nat → Int32) (t_end : Int32) (t_index : Int32) (t_flags : Int32) (t_twice : Int32) (t_width : Int32) (t_precision : Int32) (t_conversion : Int32) (t_broken : Int32) (qt_piece : Nat) (t_piece : Nat → Int32) (t_put : Int32) (t_head : Int32) (qt_tens : Nat) (t_tens : Nat → Int32) (t_count : Int32) (t_exponent : Int32) (qt_work : Nat) (t_work : Nat → Int32) (a1 : Int32) (a2 : Int32) (sz : Nat) (res : Int32)   (hf : f_Model_said K t_draft t_drafted a1 a2 = some res) : Met l y_Model_said (.code y_Model_said cd_Model_said 5 (some .int) :: gw) { frames := 1, cells := 0, slots := 0, locals := 40 } (PC G ([.ref qt, .int a1, .int a2] : List Value) sz (w_Model_clear G qt qt_draft t_draft t_drafted qt_result t_result t_length t_arguments qt_kinds t_kinds qt_values t_values qt_widths t_widths qt_below t_below qt_sizes t_sizes qt_scales t_scales qt_parts t_parts qt_texts t_texts qt_lengths t_lengths t_end t_index t_flags t_twice t_width t_precision t_conversion t_broken qt_piece t_piece t_put t_head qt_tens t_tens t_count t_exponent qt_work t_work)) (QI G res (va_A (w_Model_clear G qt qt_draft t_draft t_drafted qt_result t_result t_length t_arguments qt_kinds t_kinds qt_values t_values qt_widths t_widths qt_below t_below qt_sizes t_sizes qt_scales t_scales qt_parts t_parts qt_texts t_texts qt_lengths t_lengths t_end t_index t_flags t_twice t_width t_precision t_conversion t_broken qt_piece t_piece t_put t_head qt_tens t_tens t_count t_exponent qt_work t_work) sz) (w_Model_clear G qt qt_draft t_draft t_drafted qt_result t_result t_length t_arguments qt_kinds t_kinds qt_values t_values qt_widths t_widths qt_below t_below qt_sizes t_sizes qt_scales t_scales qt_parts t_parts qt_texts t_texts qt_lengths t_lengths t_end t_index t_flags t_twice t_width t_precision t_conversion t_broken qt_piece t_piece t_put t_head qt_tens t_tens t_count t_exponent qt_work t_work)) 0 0 (va_A (w_Model_clear G qt qt_draft t_draft t_drafted qt_result t_result t_length t_arguments qt_kinds t_kinds qt_values t_values qt_widths t_widths qt_below t_below qt_sizes t_sizes qt_scales t_scales qt_parts t_parts qt_texts t_texts qt_lengths t_lengths t_end t_index t_flags t_twice t_width t_precision t_conversion t_broken qt_piece t_piece t_put t_head qt_tens t_tens t_count t_exponent qt_work t_work) sz) := by
  refine Met.ofW (cc := cd_Model_said) (maxL := 5) (ret := (some .int)) (by decide) rfl ?_
  intro p e s m args below meth c s₁ B hml hv
  obtain ⟨rfl, hsz, hP, hE, hD0⟩ := hv
  have hx := B.exec
  have hb := B.bytes
  have hr := B.returns
  have hts := atoms_spec (ws := (.code y_Model_said cd_Model_said 5 (some .int) :: gw)) B.pre
  have hg : ∀ w ∈ gw, w.before _ s = true := fun w h => hts w (List.mem_cons_of_mem _ h)
  have hown : s.vm.findClass R_Model = some m.cls := findClass_of_methodNamed B.named
  have hlocks := B.notSynchronized
  subst hsz
  have hK := hE.K
  have hD := hD0.self (sz := s.heap.size)
  have hAb := hE.ab hD0
  obtain ⟨Q, hQ⟩ : ∃ Q, MQ below (QI G res (va_A (w_Model_clear G qt qt_draft t_draft t_drafted qt_result t_result t_length t_arguments qt_kinds t_kinds qt_values t_values qt_widths t_widths qt_below t_below qt_sizes t_sizes qt_scales t_scales qt_parts t_parts qt_texts t_texts qt_lengths t_lengths t_end t_index t_flags t_twice t_width t_precision t_conversion t_broken qt_piece t_piece t_put t_head qt_tens t_tens t_count t_exponent qt_work t_work) s.heap.size) (w_Model_clear G qt qt_draft t_draft t_drafted qt_result t_result t_length t_arguments qt_kinds t_kinds qt_values t_values qt_widths t_widths qt_below t_below qt_sizes t_sizes qt_scales t_scales qt_parts t_parts qt_texts t_texts qt_lengths t_lengths t_end t_index t_flags t_twice t_width t_precision t_conversion t_broken qt_piece t_piece t_put t_head qt_tens t_tens t_count t_exponent qt_work t_work)) ([.ref qt, .int a1, .int a2] : List Value).toArray s 0 0 (va_A (w_Model_clear G qt qt_draft t_draft t_drafted qt_result t_result t_length t_arguments qt_kinds t_kinds qt_values t_values qt_widths t_widths qt_below t_below qt_sizes t_sizes qt_scales t_scales qt_parts t_parts qt_texts t_texts qt_lengths t_lengths t_end t_index t_flags t_twice t_width t_precision t_conversion t_broken qt_piece t_piece t_put t_head qt_tens t_tens t_count t_exponent qt_work t_work) s.heap.size) = Q := ⟨_, rfl⟩
  show W p l e { frames := 1, cells := 0, slots := 0, locals := 40 } s m ([.ref qt, .int a1, .int a2] : List Value).toArray below meth c s.heap [] 0 0 (MQ below (QI G res (va_A (w_Model_clear G qt qt_draft t_draft t_drafted qt_result t_result t_length t_arguments qt_kinds t_kinds qt_values t_values qt_widths t_widths qt_below t_below qt_sizes t_sizes qt_scales t_scales qt_parts t_parts qt_texts t_texts qt_lengths t_lengths t_end t_index t_flags t_twice t_width t_precision t_conversion t_broken qt_piece t_piece t_put t_head qt_tens t_tens t_count t_exponent qt_work t_work) s.heap.size) (w_Model_clear G qt qt_draft t_draft t_drafted qt_result t_result t_length t_arguments qt_kinds t_kinds qt_values t_values qt_widths t_widths qt_below t_below qt_sizes t_sizes qt_scales t_scales qt_parts t_parts qt_texts t_texts qt_lengths t_lengths t_end t_index t_flags t_twice t_width t_precision t_conversion t_broken qt_piece t_piece t_put t_head qt_tens t_tens t_count t_exponent qt_work t_work)) ([.ref qt, .int a1, .int a2] : List Value).toArray s 0 0 (va_A (w_Model_clear G qt qt_draft t_draft t_drafted qt_result t_result t_length t_arguments qt_kinds t_kinds qt_values t_values qt_widths t_widths qt_below t_below qt_sizes t_sizes qt_scales t_scales qt_parts t_parts qt_texts t_texts qt_lengths t_lengths t_end t_index t_flags t_twice t_width t_precision t_conversion t_broken qt_piece t_piece t_put t_head qt_tens t_tens t_count t_exponent qt_work t_work) s.heap.size)) _
  rw [hQ]
  have hA : ∀ q : Nat, s.heap.size ≤ q → va_A (w_Model_clear G qt qt_draft t_draft t_drafted qt_result t_result t_length t_arguments qt_kinds t_kinds qt_values t_values qt_widths t_widths qt_below t_below qt_sizes t_sizes qt_scales t_scales qt_parts t_parts qt_texts t_texts qt_lengths t_lengths t_end t_index t_flags t_twice t_width t_precision t_conversion t_broken qt_piece t_piece t_put t_head qt_tens t_tens t_count t_exponent qt_work t_work) s.heap.size q := fun q h => Or.inr h
  obtain ⟨A, hAe⟩ : ∃ A, va_A (w_Model_clear G qt qt_draft t_draft t_drafted qt_result t_result t_length t_arguments qt_kinds t_kinds qt_values t_values qt_widths t_widths qt_below t_below qt_sizes t_sizes qt_scales t_scales qt_parts t_parts qt_texts t_texts qt_lengths t_lengths t_end t_index t_flags t_twice t_width t_precision t_conversion t_broken qt_piece t_piece t_put t_head qt_tens t_tens t_count t_exponent qt_work t_work) s.heap.size = A := ⟨_, rfl⟩
  rw [hAe] at hA hD hAb hQ
  have hS : va_S A s.heap s.heap [] := va_S.rf
  have hl := lv_entry (([.ref qt, .int a1, .int a2] : List Value)) (n := 5) (Nat.le_of_ble_eq_true rfl)
  rw [lg_entry_eq]
  generalize (lg_sl (([.ref qt, .int a1, .int a2] : List Value)) ++ List.replicate (5 - (lg_sl (([.ref qt, .int a1, .int a2] : List Value))).length) Slot.unset).toArray = ls at hl ⊢
  have hl : lv_has ls 5 [(0, .ref qt), (1, .int a1), (2, .int a2)] := hl
  have W_5 : ∀   (n_5 : Nat) (z5 : Int32 × Int32) , lp_ (b_Model_said_5 t_draft t_drafted a2 ) n_5 z5 = some res → ∀ (H : Heap) (locs : List Loc) (ls : Array Slot), va_P (gD G) vwCl (w_Model_clear G qt qt_draft t_draft t_drafted qt_result t_result t_length t_arguments qt_kinds t_kinds qt_values t_values qt_widths t_widths qt_below t_below qt_sizes t_sizes qt_scales t_scales qt_parts t_parts qt_texts t_texts qt_lengths t_lengths t_end t_index t_flags t_twice t_width t_precision t_conversion t_broken qt_piece t_piece t_put t_head qt_tens t_tens t_count t_exponent qt_work t_work) H → va_D A (w_Model_clear G qt qt_draft t_draft t_drafted qt_result t_result t_length t_arguments qt_kinds t_kinds qt_values t_values qt_widths t_widths qt_below t_below qt_sizes t_sizes qt_scales t_scales qt_parts t_parts qt_texts t_texts qt_lengths t_lengths t_end t_index t_flags t_twice t_width t_precision t_conversion t_broken qt_piece t_piece t_put t_head qt_tens t_tens t_count t_exponent qt_work t_work) → va_S A s.heap H locs → lv_has ls 5 [(0, .ref qt), (2, .int a2), (3, .int z5.1), (4, .int z5.2)] → W p l e { frames := 1, cells := 0, slots := 0, locals := 40 } s m ([.ref qt, .int a1, .int a2] : List Value).toArray below meth c H locs 0 0 Q (F0 m 5 ls []) := by
    intro  n_5
    induction n_5 with
    | zero =>
      intro z5  hf
      cases hf
    | succ n_5 ih_5 =>
      intro z5  hf H locs ls hP hD hS hl
      have hf : b_Model_said_5 t_draft t_drafted a2  (lp_ (b_Model_said_5 t_draft t_drafted a2 ) n_5) z5 = some res := hf
      generalize lp_ (b_Model_said_5 t_draft t_drafted a2 ) n_5 = rec_5 at hf ih_5
      have W_40 : ∀ (x4 : Int32) (k0 : Int32) , k_Model_said_40 rec_5 x4 k0 = some res → ∀ (H : Heap) (locs : List Loc) (ls : Array Slot), va_P (gD G) vwCl (w_Model_clear G qt qt_draft t_draft t_drafted qt_result t_result t_length t_arguments qt_kinds t_kinds qt_values t_values qt_widths t_widths qt_below t_below qt_sizes t_sizes qt_scales t_scales qt_parts t_parts qt_texts t_texts qt_lengths t_lengths t_end t_index t_flags t_twice t_width t_precision t_conversion t_broken qt_piece t_piece t_put t_head qt_tens t_tens t_count t_exponent qt_work t_work) H → va_D A (w_Model_clear G qt qt_draft t_draft t_drafted qt_result t_result t_length t_arguments qt_kinds t_kinds qt_values t_values qt_widths t_widths qt_below t_below qt_sizes t_sizes qt_scales t_scales qt_parts t_parts qt_texts t_texts qt_lengths t_lengths t_end t_index t_flags t_twice t_width t_precision t_conversion t_broken qt_piece t_piece t_put t_head qt_tens t_tens t_count t_exponent qt_work t_work) → va_S A s.heap H locs → lv_has ls 5 [(0, .ref qt), (2, .int a2), (4, .int x4)] → W p l e { frames := 1, cells := 0, slots := 0, locals := 40 } s m ([.ref qt, .int a1, .int a2] : List Value).toArray below meth c H locs 0 0 Q (F0 m 40 ls [.int k0]) := by
        intro x4 k0  hf H locs ls hP hD hS hl
        unfold k_Model_said_40 at hf
        refine lv_istore_n (lv' := [(3, .int k0), (0, .ref qt), (2, .int a2), (4, .int x4)]) hx hb d_Model_said_40 rfl hl (by decide) rfl (fun ls hl => ?_)
        refine lv_iinc (v := (x4 + 1)) (lv' := [(4, .int (x4 + 1)), (3, .int k0), (0, .ref qt), (2, .int a2)]) hx hb d_Model_said_41 hl (k := 3) rfl rfl (by decide) rfl (fun ls hl => ?_)
        refine lv_goto (tgt := 5) hx hb d_Model_said_44 (by decide) ?_
        exact ih_5 (k0, (x4 + 1))  hf _ _ _ hP hD hS (lv_sub hl [2, 3, 1, 0] rfl)
      unfold b_Model_said_5 at hf
      refine lv_iload hx hb d_Model_said_5 (lv_at hl 3 rfl) ?_
      refine lv_iload_n hx hb d_Model_said_7 rfl (lv_at hl 1 rfl) ?_
      refine lv_icmp_ge (tgt := 47) hx hb d_Model_said_8 (by decide) (fun c_8 => ?_) (fun c_8 => ?_)
      · have hf := ip_ c_8 hf
        refine lv_iload_n hx hb d_Model_said_47 rfl (lv_at hl 2 rfl) ?_
        obtain rfl := Option.some.inj hf
        rw [← hQ]
        exact W.iret (v := z5.1) hx hb hr (fun t9 ht hW => ⟨⟨z5.1, (), rfl, rfl, ⟨by rw [ht]; exact hP, hD⟩⟩, hS.F ht⟩) hS.2.2 d_Model_said_48
      · have hf := in_ c_8 hf
        refine lv_bipush (v := 10) hx hb d_Model_said_11 (by decide) ?_
        refine lv_iload_n hx hb d_Model_said_13 rfl (lv_at hl 2 rfl) ?_
        refine lv_imul hx hb d_Model_said_14 ?_
        refine lv_aload_n hx hb d_Model_said_15 rfl (lv_at hl 0 rfl) ?_
        refine lv_iload hx hb d_Model_said_16 (lv_at hl 3 rfl) ?_
        obtain ⟨u_18, hu_18, hf⟩ := bd_ hf
        refine CALLWi (va_runV (As := [.int z5.2]) (rest := [.int ((10 : Int32) * z5.1)]) ⟨hx, hb, hml, hown, hg⟩ (c_Model_look l G K qt qt_draft t_draft t_drafted qt_result t_result t_length t_arguments qt_kinds t_kinds qt_values t_values qt_widths t_widths qt_below t_below qt_sizes t_sizes qt_scales t_scales qt_parts t_parts qt_texts t_texts qt_lengths t_lengths t_end t_index t_flags t_twice t_width t_precision t_conversion t_broken qt_piece t_piece t_put t_head qt_tens t_tens t_count t_exponent qt_work t_work z5.2 _ u_18  hu_18) (cwV 1 hg (gV m_406 m_407 m_408 m_389 m_409) rfl rfl rfl (by decide +kernel) ⟨Nat.le_of_ble_eq_true rfl, Nat.le_of_ble_eq_true rfl⟩) ⟨PC_b, va_recv hK hP (ci := 7) (q0 := 0) rfl rfl, PC_p hE hS hAb hP hD⟩ rfl rfl hl.1 rfl (lv_room (Nat.le_of_ble_eq_true rfl)) d_Model_said_18 ⟨Nat.zero_le _, Nat.zero_le _⟩) hP hD hS hA (fun H locs hP hD hS => ?_)
        have hP : va_P (gD G) vwCl (w_Model_clear G qt qt_draft t_draft t_drafted qt_result t_result t_length t_arguments qt_kinds t_kinds qt_values t_values qt_widths t_widths qt_below t_below qt_sizes t_sizes qt_scales t_scales qt_parts t_parts qt_texts t_texts qt_lengths t_lengths t_end t_index t_flags t_twice t_width t_precision t_conversion t_broken qt_piece t_piece t_put t_head qt_tens t_tens t_count t_exponent qt_work t_work) H := hP
        have hD : va_D A (w_Model_clear G qt qt_draft t_draft t_drafted qt_result t_result t_length t_arguments qt_kinds t_kinds qt_values t_values qt_widths t_widths qt_below t_below qt_sizes t_sizes qt_scales t_scales qt_parts t_parts qt_texts t_texts qt_lengths t_lengths t_end t_index t_flags t_twice t_width t_precision t_conversion t_broken qt_piece t_piece t_put t_head qt_tens t_tens t_count t_exponent qt_work t_work) := hD
        refine lv_iadd hx hb d_Model_said_21 ?_
        refine lv_bipush (v := 48) hx hb d_Model_said_22 (by decide) ?_
        refine lv_isub hx hb d_Model_said_24 ?_
        refine lv_istore_n (lv' := [(3, .int ((((10 : Int32) * z5.1) + u_18) - (48 : Int32))), (0, .ref qt), (2, .int a2), (4, .int z5.2)]) hx hb d_Model_said_25 rfl hl (by decide) rfl (fun ls hl => ?_)
        refine lv_iload_n hx hb d_Model_said_26 rfl (lv_at hl 0 rfl) ?_
        refine lv_sipush (v := 1000) hx hb d_Model_said_27 (by decide) ?_
        refine lv_icmp_le (tgt := 39) hx hb d_Model_said_30 (by decide) (fun c_30 => ?_) (fun c_30 => ?_)
        · have hf := ip_ c_30 hf
          refine lv_iload_n hx hb d_Model_said_39 rfl (lv_at hl 0 rfl) ?_
          exact W_40 z5.2 ((((10 : Int32) * z5.1) + u_18) - (48 : Int32))  hf _ _ _ hP hD hS (lv_sub hl [1, 2, 3] rfl)
        · have hf := in_ c_30 hf
          refine lv_sipush (v := 1000) hx hb d_Model_said_33 (by decide) ?_
          refine lv_goto (tgt := 40) hx hb d_Model_said_36 (by decide) ?_
          exact W_40 z5.2 (1000 : Int32)  hf _ _ _ hP hD hS (lv_sub hl [1, 2, 3] rfl)
  unfold f_Model_said at hf
  refine lv_iconst (v := 0) hx hb d_Model_said_0 (by decide) ?_
  refine lv_istore_n (lv' := [(3, .int (0 : Int32)), (0, .ref qt), (1, .int a1), (2, .int a2)]) hx hb d_Model_said_1 rfl hl (by decide) rfl (fun ls hl => ?_)
  refine lv_iload_n hx hb d_Model_said_2 rfl (lv_at hl 2 rfl) ?_
  refine lv_istore (lv' := [(4, .int a1), (3, .int (0 : Int32)), (0, .ref qt), (1, .int a1), (2, .int a2)]) hx hb d_Model_said_3 hl (by decide) rfl (fun ls hl => ?_)
  exact W_5   K ((0 : Int32), a1)  hf _ _ _ hP hD hS (lv_sub hl [2, 4, 1, 0] rfl)
theorem d_Model_flagOf_0 : decode cd_Model_flagOf 0 = .ok (.iload_n 0, 1) := by decide +kernel
theorem d_Model_flagOf_1 : decode cd_Model_flagOf 1 = .ok (.bipush 45, 2) := by decide +kernel
theorem d_Model_flagOf_3 : decode cd_Model_flagOf 3 = .ok (.if_icmp .ne 7, 3) := by decide +kernel
theorem d_Model_flagOf_6 : decode cd_Model_flagOf 6 = .ok (.iconst 1, 1) := by decide +kernel
theorem d_Model_flagOf_7 : decode cd_Model_flagOf 7 = .ok (.goto 68, 3) := by decide +kernel
theorem d_Model_flagOf_10 : decode cd_Model_flagOf 10 = .ok (.iload_n 0, 1) := by decide +kernel
theorem d_Model_flagOf_11 : decode cd_Model_flagOf 11 = .ok (.bipush 35, 2) := by decide +kernel
theorem d_Model_flagOf_13 : decode cd_Model_flagOf 13 = .ok (.if_icmp .ne 7, 3) := by decide +kernel
theorem d_Model_flagOf_16 : decode cd_Model_flagOf 16 = .ok (.iconst 2, 1) := by decide +kernel
theorem d_Model_flagOf_17 : decode cd_Model_flagOf 17 = .ok (.goto 58, 3) := by decide +kernel
theorem d_Model_flagOf_20 : decode cd_Model_flagOf 20 = .ok (.iload_n 0, 1) := by decide +kernel
theorem d_Model_flagOf_21 : decode cd_Model_flagOf 21 = .ok (.bipush 43, 2) := by decide +kernel
theorem d_Model_flagOf_23 : decode cd_Model_flagOf 23 = .ok (.if_icmp .ne 7, 3) := by decide +kernel
theorem d_Model_flagOf_26 : decode cd_Model_flagOf 26 = .ok (.iconst 4, 1) := by decide +kernel
theorem d_Model_flagOf_27 : decode cd_Model_flagOf 27 = .ok (.goto 48, 3) := by decide +kernel
theorem d_Model_flagOf_30 : decode cd_Model_flagOf 30 = .ok (.iload_n 0, 1) := by decide +kernel
theorem d_Model_flagOf_31 : decode cd_Model_flagOf 31 = .ok (.bipush 32, 2) := by decide +kernel
theorem d_Model_flagOf_33 : decode cd_Model_flagOf 33 = .ok (.if_icmp .ne 8, 3) := by decide +kernel
theorem d_Model_flagOf_36 : decode cd_Model_flagOf 36 = .ok (.bipush 8, 2) := by decide +kernel
theorem d_Model_flagOf_38 : decode cd_Model_flagOf 38 = .ok (.goto 37, 3) := by decide +kernel
theorem d_Model_flagOf_41 : decode cd_Model_flagOf 41 = .ok (.iload_n 0, 1) := by decide +kernel
theorem d_Model_flagOf_42 : decode cd_Model_flagOf 42 = .ok (.bipush 48, 2) := by decide +kernel
theorem d_Model_flagOf_44 : decode cd_Model_flagOf 44 = .ok (.if_icmp .ne 8, 3) := by decide +kernel
theorem d_Model_flagOf_47 : decode cd_Model_flagOf 47 = .ok (.bipush 16, 2) := by decide +kernel
theorem d_Model_flagOf_49 : decode cd_Model_flagOf 49 = .ok (.goto 26, 3) := by decide +kernel
theorem d_Model_flagOf_52 : decode cd_Model_flagOf 52 = .ok (.iload_n 0, 1) := by decide +kernel
theorem d_Model_flagOf_53 : decode cd_Model_flagOf 53 = .ok (.bipush 44, 2) := by decide +kernel
theorem d_Model_flagOf_55 : decode cd_Model_flagOf 55 = .ok (.if_icmp .ne 8, 3) := by decide +kernel
theorem d_Model_flagOf_58 : decode cd_Model_flagOf 58 = .ok (.bipush 32, 2) := by decide +kernel
theorem d_Model_flagOf_60 : decode cd_Model_flagOf 60 = .ok (.goto 15, 3) := by decide +kernel
theorem d_Model_flagOf_63 : decode cd_Model_flagOf 63 = .ok (.iload_n 0, 1) := by decide +kernel
theorem d_Model_flagOf_64 : decode cd_Model_flagOf 64 = .ok (.bipush 40, 2) := by decide +kernel
theorem d_Model_flagOf_66 : decode cd_Model_flagOf 66 = .ok (.if_icmp .ne 8, 3) := by decide +kernel
theorem d_Model_flagOf_69 : decode cd_Model_flagOf 69 = .ok (.bipush 64, 2) := by decide +kernel
theorem d_Model_flagOf_71 : decode cd_Model_flagOf 71 = .ok (.goto 4, 3) := by decide +kernel
theorem d_Model_flagOf_74 : decode cd_Model_flagOf 74 = .ok (.iconst 0, 1) := by decide +kernel
theorem d_Model_flagOf_75 : decode cd_Model_flagOf 75 = .ok (.ireturn, 1) := by decide +kernel
def f_Model_flagOf (a1 : Int32) : Option Int32 :=
  (if a1 = (45 : Int32) then some (1 : Int32) else (if a1 = (35 : Int32) then some (2 : Int32) else (if a1 = (43 : Int32) then some (4 : Int32) else (if a1 = (32 : Int32) then some (8 : Int32) else (if a1 = (48 : Int32) then some (16 : Int32) else (if a1 = (44 : Int32) then some (32 : Int32) else (if a1 = (40 : Int32) then some (64 : Int32) else some (0 : Int32))))))))
set_option maxHeartbeats 4000000 in
set_option maxRecDepth 100000 in
theorem c_Model_flagOf (l : Launch) (G : Gt) (K : Nat) (a1 : Int32) (sz : Nat) (res : Int32)   (hf : f_Model_flagOf a1 = some res) : Met l y_Model_flagOf (.code y_Model_flagOf cd_Model_flagOf 1 (some .int) :: gw) { frames := 0, cells := 0, slots := 0, locals := 0 } (PC G ([.int a1] : List Value) sz (w_Preconditions_checkIndexn G )) (QI G res (va_A (w_Preconditions_checkIndexn G ) sz) (w_Preconditions_checkIndexn G )) 0 0 (va_A (w_Preconditions_checkIndexn G ) sz) := by
  refine Met.ofW (cc := cd_Model_flagOf) (maxL := 1) (ret := (some .int)) (by decide) rfl ?_
  intro p e s m args below meth c s₁ B hml hv
  obtain ⟨rfl, hsz, hP, hE, hD0⟩ := hv
  have hx := B.exec
  have hb := B.bytes
  have hr := B.returns
  have hts := atoms_spec (ws := (.code y_Model_flagOf cd_Model_flagOf 1 (some .int) :: gw)) B.pre
  have hg : ∀ w ∈ gw, w.before _ s = true := fun w h => hts w (List.mem_cons_of_mem _ h)
  have hown : s.vm.findClass R_Model = some m.cls := findClass_of_methodNamed B.named
  have hlocks := B.notSynchronized
  subst hsz
  have hK := hE.K
  have hD := hD0.self (sz := s.heap.size)
  have hAb := hE.ab hD0
  obtain ⟨Q, hQ⟩ : ∃ Q, MQ below (QI G res (va_A (w_Preconditions_checkIndexn G ) s.heap.size) (w_Preconditions_checkIndexn G )) ([.int a1] : List Value).toArray s 0 0 (va_A (w_Preconditions_checkIndexn G ) s.heap.size) = Q := ⟨_, rfl⟩
  show W p l e { frames := 0, cells := 0, slots := 0, locals := 0 } s m ([.int a1] : List Value).toArray below meth c s.heap [] 0 0 (MQ below (QI G res (va_A (w_Preconditions_checkIndexn G ) s.heap.size) (w_Preconditions_checkIndexn G )) ([.int a1] : List Value).toArray s 0 0 (va_A (w_Preconditions_checkIndexn G ) s.heap.size)) _
  rw [hQ]
  have hA : ∀ q : Nat, s.heap.size ≤ q → va_A (w_Preconditions_checkIndexn G ) s.heap.size q := fun q h => Or.inr h
  obtain ⟨A, hAe⟩ : ∃ A, va_A (w_Preconditions_checkIndexn G ) s.heap.size = A := ⟨_, rfl⟩
  rw [hAe] at hA hD hAb hQ
  have hS : va_S A s.heap s.heap [] := va_S.rf
  have hl := lv_entry (([.int a1] : List Value)) (n := 1) (Nat.le_of_ble_eq_true rfl)
  rw [lg_entry_eq]
  generalize (lg_sl (([.int a1] : List Value)) ++ List.replicate (1 - (lg_sl (([.int a1] : List Value))).length) Slot.unset).toArray = ls at hl ⊢
  have hl : lv_has ls 1 [(0, .int a1)] := hl
  unfold f_Model_flagOf at hf
  refine lv_iload_n hx hb d_Model_flagOf_0 rfl (lv_at hl 0 rfl) ?_
  refine lv_bipush (v := 45) hx hb d_Model_flagOf_1 (by decide) ?_
  refine lv_icmp_ne (tgt := 10) hx hb d_Model_flagOf_3 (by decide) (fun c_3 => ?_) (fun c_3 => ?_)
  · have hf := in_ c_3 hf
    refine lv_iload_n hx hb d_Model_flagOf_10 rfl (lv_at hl 0 rfl) ?_
    refine lv_bipush (v := 35) hx hb d_Model_flagOf_11 (by decide) ?_
    refine lv_icmp_ne (tgt := 20) hx hb d_Model_flagOf_13 (by decide) (fun c_13 => ?_) (fun c_13 => ?_)
    · have hf := in_ c_13 hf
      refine lv_iload_n hx hb d_Model_flagOf_20 rfl (lv_at hl 0 rfl) ?_
      refine lv_bipush (v := 43) hx hb d_Model_flagOf_21 (by decide) ?_
      refine lv_icmp_ne (tgt := 30) hx hb d_Model_flagOf_23 (by decide) (fun c_23 => ?_) (fun c_23 => ?_)
      · have hf := in_ c_23 hf
        refine lv_iload_n hx hb d_Model_flagOf_30 rfl (lv_at hl 0 rfl) ?_
        refine lv_bipush (v := 32) hx hb d_Model_flagOf_31 (by decide) ?_
        refine lv_icmp_ne (tgt := 41) hx hb d_Model_flagOf_33 (by decide) (fun c_33 => ?_) (fun c_33 => ?_)
        · have hf := in_ c_33 hf
          refine lv_iload_n hx hb d_Model_flagOf_41 rfl (lv_at hl 0 rfl) ?_
          refine lv_bipush (v := 48) hx hb d_Model_flagOf_42 (by decide) ?_
          refine lv_icmp_ne (tgt := 52) hx hb d_Model_flagOf_44 (by decide) (fun c_44 => ?_) (fun c_44 => ?_)
          · have hf := in_ c_44 hf
            refine lv_iload_n hx hb d_Model_flagOf_52 rfl (lv_at hl 0 rfl) ?_
            refine lv_bipush (v := 44) hx hb d_Model_flagOf_53 (by decide) ?_
            refine lv_icmp_ne (tgt := 63) hx hb d_Model_flagOf_55 (by decide) (fun c_55 => ?_) (fun c_55 => ?_)
            · have hf := in_ c_55 hf
              refine lv_iload_n hx hb d_Model_flagOf_63 rfl (lv_at hl 0 rfl) ?_
              refine lv_bipush (v := 40) hx hb d_Model_flagOf_64 (by decide) ?_
              refine lv_icmp_ne (tgt := 74) hx hb d_Model_flagOf_66 (by decide) (fun c_66 => ?_) (fun c_66 => ?_)
              · have hf := in_ c_66 hf
                refine lv_iconst (v := 0) hx hb d_Model_flagOf_74 (by decide) ?_
                obtain rfl := Option.some.inj hf
                rw [← hQ]
                exact W.iret (v := (0 : Int32)) hx hb hr (fun t9 ht hW => ⟨⟨(0 : Int32), (), rfl, rfl, ⟨by rw [ht]; exact hP, hD⟩⟩, hS.F ht⟩) hS.2.2 d_Model_flagOf_75
              · have hf := ip_ c_66 hf
                refine lv_bipush (v := 64) hx hb d_Model_flagOf_69 (by decide) ?_
                refine lv_goto (tgt := 75) hx hb d_Model_flagOf_71 (by decide) ?_
                obtain rfl := Option.some.inj hf
                rw [← hQ]
                exact W.iret (v := (64 : Int32)) hx hb hr (fun t9 ht hW => ⟨⟨(64 : Int32), (), rfl, rfl, ⟨by rw [ht]; exact hP, hD⟩⟩, hS.F ht⟩) hS.2.2 d_Model_flagOf_75
            · have hf := ip_ c_55 hf
              refine lv_bipush (v := 32) hx hb d_Model_flagOf_58 (by decide) ?_
              refine lv_goto (tgt := 75) hx hb d_Model_flagOf_60 (by decide) ?_
              obtain rfl := Option.some.inj hf
              rw [← hQ]
              exact W.iret (v := (32 : Int32)) hx hb hr (fun t9 ht hW => ⟨⟨(32 : Int32), (), rfl, rfl, ⟨by rw [ht]; exact hP, hD⟩⟩, hS.F ht⟩) hS.2.2 d_Model_flagOf_75
          · have hf := ip_ c_44 hf
            refine lv_bipush (v := 16) hx hb d_Model_flagOf_47 (by decide) ?_
            refine lv_goto (tgt := 75) hx hb d_Model_flagOf_49 (by decide) ?_
            obtain rfl := Option.some.inj hf
            rw [← hQ]
            exact W.iret (v := (16 : Int32)) hx hb hr (fun t9 ht hW => ⟨⟨(16 : Int32), (), rfl, rfl, ⟨by rw [ht]; exact hP, hD⟩⟩, hS.F ht⟩) hS.2.2 d_Model_flagOf_75
        · have hf := ip_ c_33 hf
          refine lv_bipush (v := 8) hx hb d_Model_flagOf_36 (by decide) ?_
          refine lv_goto (tgt := 75) hx hb d_Model_flagOf_38 (by decide) ?_
          obtain rfl := Option.some.inj hf
          rw [← hQ]
          exact W.iret (v := (8 : Int32)) hx hb hr (fun t9 ht hW => ⟨⟨(8 : Int32), (), rfl, rfl, ⟨by rw [ht]; exact hP, hD⟩⟩, hS.F ht⟩) hS.2.2 d_Model_flagOf_75
      · have hf := ip_ c_23 hf
        refine lv_iconst (v := 4) hx hb d_Model_flagOf_26 (by decide) ?_
        refine lv_goto (tgt := 75) hx hb d_Model_flagOf_27 (by decide) ?_
        obtain rfl := Option.some.inj hf
        rw [← hQ]
        exact W.iret (v := (4 : Int32)) hx hb hr (fun t9 ht hW => ⟨⟨(4 : Int32), (), rfl, rfl, ⟨by rw [ht]; exact hP, hD⟩⟩, hS.F ht⟩) hS.2.2 d_Model_flagOf_75
    · have hf := ip_ c_13 hf
      refine lv_iconst (v := 2) hx hb d_Model_flagOf_16 (by decide) ?_
      refine lv_goto (tgt := 75) hx hb d_Model_flagOf_17 (by decide) ?_
      obtain rfl := Option.some.inj hf
      rw [← hQ]
      exact W.iret (v := (2 : Int32)) hx hb hr (fun t9 ht hW => ⟨⟨(2 : Int32), (), rfl, rfl, ⟨by rw [ht]; exact hP, hD⟩⟩, hS.F ht⟩) hS.2.2 d_Model_flagOf_75
  · have hf := ip_ c_3 hf
    refine lv_iconst (v := 1) hx hb d_Model_flagOf_6 (by decide) ?_
    refine lv_goto (tgt := 75) hx hb d_Model_flagOf_7 (by decide) ?_
    obtain rfl := Option.some.inj hf
    rw [← hQ]
    exact W.iret (v := (1 : Int32)) hx hb hr (fun t9 ht hW => ⟨⟨(1 : Int32), (), rfl, rfl, ⟨by rw [ht]; exact hP, hD⟩⟩, hS.F ht⟩) hS.2.2 d_Model_flagOf_75
theorem d_Model_goOver_0 : decode cd_Model_goOver 0 = .ok (.iload_n 1, 1) := by decide +kernel
theorem d_Model_goOver_1 : decode cd_Model_goOver 1 = .ok (.iconst 1, 1) := by decide +kernel
theorem d_Model_goOver_2 : decode cd_Model_goOver 2 = .ok (.iadd, 1) := by decide +kernel
theorem d_Model_goOver_3 : decode cd_Model_goOver 3 = .ok (.istore_n 2, 1) := by decide +kernel
theorem d_Model_goOver_4 : decode cd_Model_goOver 4 = .ok (.aload_n 0, 1) := by decide +kernel
theorem d_Model_goOver_5 : decode cd_Model_goOver 5 = .ok (.iconst (-1), 1) := by decide +kernel
theorem d_Model_goOver_6 : decode cd_Model_goOver 6 = .ok (.putfield 83, 3) := by decide +kernel
theorem d_Model_goOver_9 : decode cd_Model_goOver 9 = .ok (.aload_n 0, 1) := by decide +kernel
theorem d_Model_goOver_10 : decode cd_Model_goOver 10 = .ok (.iconst 0, 1) := by decide +kernel
theorem d_Model_goOver_11 : decode cd_Model_goOver 11 = .ok (.putfield 86, 3) := by decide +kernel
theorem d_Model_goOver_14 : decode cd_Model_goOver 14 = .ok (.aload_n 0, 1) := by decide +kernel
theorem d_Model_goOver_15 : decode cd_Model_goOver 15 = .ok (.iconst 0, 1) := by decide +kernel
theorem d_Model_goOver_16 : decode cd_Model_goOver 16 = .ok (.putfield 89, 3) := by decide +kernel
theorem d_Model_goOver_19 : decode cd_Model_goOver 19 = .ok (.aload_n 0, 1) := by decide +kernel
theorem d_Model_goOver_20 : decode cd_Model_goOver 20 = .ok (.iconst (-1), 1) := by decide +kernel
theorem d_Model_goOver_21 : decode cd_Model_goOver 21 = .ok (.putfield 93, 3) := by decide +kernel
theorem d_Model_goOver_24 : decode cd_Model_goOver 24 = .ok (.aload_n 0, 1) := by decide +kernel
theorem d_Model_goOver_25 : decode cd_Model_goOver 25 = .ok (.iconst (-1), 1) := by decide +kernel
theorem d_Model_goOver_26 : decode cd_Model_goOver 26 = .ok (.putfield 96, 3) := by decide +kernel
theorem d_Model_goOver_29 : decode cd_Model_goOver 29 = .ok (.aload_n 0, 1) := by decide +kernel
theorem d_Model_goOver_30 : decode cd_Model_goOver 30 = .ok (.iconst 0, 1) := by decide +kernel
theorem d_Model_goOver_31 : decode cd_Model_goOver 31 = .ok (.putfield 99, 3) := by decide +kernel
theorem d_Model_goOver_34 : decode cd_Model_goOver 34 = .ok (.aload_n 0, 1) := by decide +kernel
theorem d_Model_goOver_35 : decode cd_Model_goOver 35 = .ok (.iload_n 2, 1) := by decide +kernel
theorem d_Model_goOver_36 : decode cd_Model_goOver 36 = .ok (.invokevirtual 75, 3) := by decide +kernel
theorem d_Model_goOver_39 : decode cd_Model_goOver 39 = .ok (.bipush 60, 2) := by decide +kernel
theorem d_Model_goOver_41 : decode cd_Model_goOver 41 = .ok (.if_icmp .ne 14, 3) := by decide +kernel
theorem d_Model_goOver_44 : decode cd_Model_goOver 44 = .ok (.aload_n 0, 1) := by decide +kernel
theorem d_Model_goOver_45 : decode cd_Model_goOver 45 = .ok (.iconst 0, 1) := by decide +kernel
theorem d_Model_goOver_46 : decode cd_Model_goOver 46 = .ok (.putfield 83, 3) := by decide +kernel
theorem d_Model_goOver_49 : decode cd_Model_goOver 49 = .ok (.iinc 2 1, 3) := by decide +kernel
theorem d_Model_goOver_52 : decode cd_Model_goOver 52 = .ok (.goto 60, 3) := by decide +kernel
theorem d_Model_goOver_55 : decode cd_Model_goOver 55 = .ok (.aload_n 0, 1) := by decide +kernel
theorem d_Model_goOver_56 : decode cd_Model_goOver 56 = .ok (.iload_n 2, 1) := by decide +kernel
theorem d_Model_goOver_57 : decode cd_Model_goOver 57 = .ok (.invokevirtual 75, 3) := by decide +kernel
theorem d_Model_goOver_60 : decode cd_Model_goOver 60 = .ok (.invokestatic 79, 3) := by decide +kernel
theorem d_Model_goOver_63 : decode cd_Model_goOver 63 = .ok (.ifCond .eq 49, 3) := by decide +kernel
theorem d_Model_goOver_66 : decode cd_Model_goOver 66 = .ok (.aload_n 0, 1) := by decide +kernel
theorem d_Model_goOver_67 : decode cd_Model_goOver 67 = .ok (.iload_n 2, 1) := by decide +kernel
theorem d_Model_goOver_68 : decode cd_Model_goOver 68 = .ok (.invokevirtual 75, 3) := by decide +kernel
theorem d_Model_goOver_71 : decode cd_Model_goOver 71 = .ok (.bipush 48, 2) := by decide +kernel
theorem d_Model_goOver_73 : decode cd_Model_goOver 73 = .ok (.if_icmp .eq 39, 3) := by decide +kernel
theorem d_Model_goOver_76 : decode cd_Model_goOver 76 = .ok (.aload_n 0, 1) := by decide +kernel
theorem d_Model_goOver_77 : decode cd_Model_goOver 77 = .ok (.aload_n 0, 1) := by decide +kernel
theorem d_Model_goOver_78 : decode cd_Model_goOver 78 = .ok (.iload_n 2, 1) := by decide +kernel
theorem d_Model_goOver_79 : decode cd_Model_goOver 79 = .ok (.invokevirtual 102, 3) := by decide +kernel
theorem d_Model_goOver_82 : decode cd_Model_goOver 82 = .ok (.invokevirtual 75, 3) := by decide +kernel
theorem d_Model_goOver_85 : decode cd_Model_goOver 85 = .ok (.bipush 36, 2) := by decide +kernel
theorem d_Model_goOver_87 : decode cd_Model_goOver 87 = .ok (.if_icmp .ne 25, 3) := by decide +kernel
theorem d_Model_goOver_90 : decode cd_Model_goOver 90 = .ok (.aload_n 0, 1) := by decide +kernel
theorem d_Model_goOver_91 : decode cd_Model_goOver 91 = .ok (.aload_n 0, 1) := by decide +kernel
theorem d_Model_goOver_92 : decode cd_Model_goOver 92 = .ok (.iload_n 2, 1) := by decide +kernel
theorem d_Model_goOver_93 : decode cd_Model_goOver 93 = .ok (.aload_n 0, 1) := by decide +kernel
theorem d_Model_goOver_94 : decode cd_Model_goOver 94 = .ok (.iload_n 2, 1) := by decide +kernel
theorem d_Model_goOver_95 : decode cd_Model_goOver 95 = .ok (.invokevirtual 102, 3) := by decide +kernel
theorem d_Model_goOver_98 : decode cd_Model_goOver 98 = .ok (.invokevirtual 105, 3) := by decide +kernel
theorem d_Model_goOver_101 : decode cd_Model_goOver 101 = .ok (.putfield 83, 3) := by decide +kernel
theorem d_Model_goOver_104 : decode cd_Model_goOver 104 = .ok (.aload_n 0, 1) := by decide +kernel
theorem d_Model_goOver_105 : decode cd_Model_goOver 105 = .ok (.iload_n 2, 1) := by decide +kernel
theorem d_Model_goOver_106 : decode cd_Model_goOver 106 = .ok (.invokevirtual 102, 3) := by decide +kernel
theorem d_Model_goOver_109 : decode cd_Model_goOver 109 = .ok (.iconst 1, 1) := by decide +kernel
theorem d_Model_goOver_110 : decode cd_Model_goOver 110 = .ok (.iadd, 1) := by decide +kernel
theorem d_Model_goOver_111 : decode cd_Model_goOver 111 = .ok (.istore_n 2, 1) := by decide +kernel
theorem d_Model_goOver_112 : decode cd_Model_goOver 112 = .ok (.aload_n 0, 1) := by decide +kernel
theorem d_Model_goOver_113 : decode cd_Model_goOver 113 = .ok (.iload_n 2, 1) := by decide +kernel
theorem d_Model_goOver_114 : decode cd_Model_goOver 114 = .ok (.invokevirtual 75, 3) := by decide +kernel
theorem d_Model_goOver_117 : decode cd_Model_goOver 117 = .ok (.invokestatic 109, 3) := by decide +kernel
theorem d_Model_goOver_120 : decode cd_Model_goOver 120 = .ok (.ifCond .eq 58, 3) := by decide +kernel
theorem d_Model_goOver_123 : decode cd_Model_goOver 123 = .ok (.aload_n 0, 1) := by decide +kernel
theorem d_Model_goOver_124 : decode cd_Model_goOver 124 = .ok (.aload_n 0, 1) := by decide +kernel
theorem d_Model_goOver_125 : decode cd_Model_goOver 125 = .ok (.getfield 89, 3) := by decide +kernel
theorem d_Model_goOver_128 : decode cd_Model_goOver 128 = .ok (.ifCond .ne 19, 3) := by decide +kernel
theorem d_Model_goOver_131 : decode cd_Model_goOver 131 = .ok (.aload_n 0, 1) := by decide +kernel
theorem d_Model_goOver_132 : decode cd_Model_goOver 132 = .ok (.getfield 86, 3) := by decide +kernel
theorem d_Model_goOver_135 : decode cd_Model_goOver 135 = .ok (.aload_n 0, 1) := by decide +kernel
theorem d_Model_goOver_136 : decode cd_Model_goOver 136 = .ok (.iload_n 2, 1) := by decide +kernel
theorem d_Model_goOver_137 : decode cd_Model_goOver 137 = .ok (.invokevirtual 75, 3) := by decide +kernel
theorem d_Model_goOver_140 : decode cd_Model_goOver 140 = .ok (.invokestatic 109, 3) := by decide +kernel
theorem d_Model_goOver_143 : decode cd_Model_goOver 143 = .ok (.iand, 1) := by decide +kernel
theorem d_Model_goOver_144 : decode cd_Model_goOver 144 = .ok (.ifCond .eq 7, 3) := by decide +kernel
theorem d_Model_goOver_147 : decode cd_Model_goOver 147 = .ok (.iconst 1, 1) := by decide +kernel
theorem d_Model_goOver_148 : decode cd_Model_goOver 148 = .ok (.goto 4, 3) := by decide +kernel
theorem d_Model_goOver_151 : decode cd_Model_goOver 151 = .ok (.iconst 0, 1) := by decide +kernel
theorem d_Model_goOver_152 : decode cd_Model_goOver 152 = .ok (.putfield 89, 3) := by decide +kernel
theorem d_Model_goOver_155 : decode cd_Model_goOver 155 = .ok (.aload_n 0, 1) := by decide +kernel
theorem d_Model_goOver_156 : decode cd_Model_goOver 156 = .ok (.aload_n 0, 1) := by decide +kernel
theorem d_Model_goOver_157 : decode cd_Model_goOver 157 = .ok (.getfield 86, 3) := by decide +kernel
theorem d_Model_goOver_160 : decode cd_Model_goOver 160 = .ok (.aload_n 0, 1) := by decide +kernel
theorem d_Model_goOver_161 : decode cd_Model_goOver 161 = .ok (.iload_n 2, 1) := by decide +kernel
theorem d_Model_goOver_162 : decode cd_Model_goOver 162 = .ok (.invokevirtual 75, 3) := by decide +kernel
theorem d_Model_goOver_165 : decode cd_Model_goOver 165 = .ok (.invokestatic 109, 3) := by decide +kernel
theorem d_Model_goOver_168 : decode cd_Model_goOver 168 = .ok (.ior, 1) := by decide +kernel
theorem d_Model_goOver_169 : decode cd_Model_goOver 169 = .ok (.putfield 86, 3) := by decide +kernel
theorem d_Model_goOver_172 : decode cd_Model_goOver 172 = .ok (.iinc 2 1, 3) := by decide +kernel
theorem d_Model_goOver_175 : decode cd_Model_goOver 175 = .ok (.goto (-63), 3) := by decide +kernel
theorem d_Model_goOver_178 : decode cd_Model_goOver 178 = .ok (.aload_n 0, 1) := by decide +kernel
theorem d_Model_goOver_179 : decode cd_Model_goOver 179 = .ok (.iload_n 2, 1) := by decide +kernel
theorem d_Model_goOver_180 : decode cd_Model_goOver 180 = .ok (.invokevirtual 75, 3) := by decide +kernel
theorem d_Model_goOver_183 : decode cd_Model_goOver 183 = .ok (.invokestatic 79, 3) := by decide +kernel
theorem d_Model_goOver_186 : decode cd_Model_goOver 186 = .ok (.ifCond .eq 23, 3) := by decide +kernel
theorem d_Model_goOver_189 : decode cd_Model_goOver 189 = .ok (.aload_n 0, 1) := by decide +kernel
theorem d_Model_goOver_190 : decode cd_Model_goOver 190 = .ok (.aload_n 0, 1) := by decide +kernel
theorem d_Model_goOver_191 : decode cd_Model_goOver 191 = .ok (.iload_n 2, 1) := by decide +kernel
theorem d_Model_goOver_192 : decode cd_Model_goOver 192 = .ok (.aload_n 0, 1) := by decide +kernel
theorem d_Model_goOver_193 : decode cd_Model_goOver 193 = .ok (.iload_n 2, 1) := by decide +kernel
theorem d_Model_goOver_194 : decode cd_Model_goOver 194 = .ok (.invokevirtual 102, 3) := by decide +kernel
theorem d_Model_goOver_197 : decode cd_Model_goOver 197 = .ok (.invokevirtual 105, 3) := by decide +kernel
theorem d_Model_goOver_200 : decode cd_Model_goOver 200 = .ok (.putfield 93, 3) := by decide +kernel
theorem d_Model_goOver_203 : decode cd_Model_goOver 203 = .ok (.aload_n 0, 1) := by decide +kernel
theorem d_Model_goOver_204 : decode cd_Model_goOver 204 = .ok (.iload_n 2, 1) := by decide +kernel
theorem d_Model_goOver_205 : decode cd_Model_goOver 205 = .ok (.invokevirtual 102, 3) := by decide +kernel
theorem d_Model_goOver_208 : decode cd_Model_goOver 208 = .ok (.istore_n 2, 1) := by decide +kernel
theorem d_Model_goOver_209 : decode cd_Model_goOver 209 = .ok (.aload_n 0, 1) := by decide +kernel
theorem d_Model_goOver_210 : decode cd_Model_goOver 210 = .ok (.iload_n 2, 1) := by decide +kernel
theorem d_Model_goOver_211 : decode cd_Model_goOver 211 = .ok (.invokevirtual 75, 3) := by decide +kernel
theorem d_Model_goOver_214 : decode cd_Model_goOver 214 = .ok (.bipush 46, 2) := by decide +kernel
theorem d_Model_goOver_216 : decode cd_Model_goOver 216 = .ok (.if_icmp .ne 51, 3) := by decide +kernel
theorem d_Model_goOver_219 : decode cd_Model_goOver 219 = .ok (.aload_n 0, 1) := by decide +kernel
theorem d_Model_goOver_220 : decode cd_Model_goOver 220 = .ok (.aload_n 0, 1) := by decide +kernel
theorem d_Model_goOver_221 : decode cd_Model_goOver 221 = .ok (.iload_n 2, 1) := by decide +kernel
theorem d_Model_goOver_222 : decode cd_Model_goOver 222 = .ok (.iconst 1, 1) := by decide +kernel
theorem d_Model_goOver_223 : decode cd_Model_goOver 223 = .ok (.iadd, 1) := by decide +kernel
theorem d_Model_goOver_224 : decode cd_Model_goOver 224 = .ok (.invokevirtual 75, 3) := by decide +kernel
theorem d_Model_goOver_227 : decode cd_Model_goOver 227 = .ok (.invokestatic 79, 3) := by decide +kernel
theorem d_Model_goOver_230 : decode cd_Model_goOver 230 = .ok (.ifCond .ne 7, 3) := by decide +kernel
theorem d_Model_goOver_233 : decode cd_Model_goOver 233 = .ok (.iconst 1, 1) := by decide +kernel
theorem d_Model_goOver_234 : decode cd_Model_goOver 234 = .ok (.goto 4, 3) := by decide +kernel
theorem d_Model_goOver_237 : decode cd_Model_goOver 237 = .ok (.iconst 0, 1) := by decide +kernel
theorem d_Model_goOver_238 : decode cd_Model_goOver 238 = .ok (.putfield 99, 3) := by decide +kernel
theorem d_Model_goOver_241 : decode cd_Model_goOver 241 = .ok (.aload_n 0, 1) := by decide +kernel
theorem d_Model_goOver_242 : decode cd_Model_goOver 242 = .ok (.aload_n 0, 1) := by decide +kernel
theorem d_Model_goOver_243 : decode cd_Model_goOver 243 = .ok (.iload_n 2, 1) := by decide +kernel
theorem d_Model_goOver_244 : decode cd_Model_goOver 244 = .ok (.iconst 1, 1) := by decide +kernel
theorem d_Model_goOver_245 : decode cd_Model_goOver 245 = .ok (.iadd, 1) := by decide +kernel
theorem d_Model_goOver_246 : decode cd_Model_goOver 246 = .ok (.aload_n 0, 1) := by decide +kernel
theorem d_Model_goOver_247 : decode cd_Model_goOver 247 = .ok (.iload_n 2, 1) := by decide +kernel
theorem d_Model_goOver_248 : decode cd_Model_goOver 248 = .ok (.iconst 1, 1) := by decide +kernel
theorem d_Model_goOver_249 : decode cd_Model_goOver 249 = .ok (.iadd, 1) := by decide +kernel
theorem d_Model_goOver_250 : decode cd_Model_goOver 250 = .ok (.invokevirtual 102, 3) := by decide +kernel
theorem d_Model_goOver_253 : decode cd_Model_goOver 253 = .ok (.invokevirtual 105, 3) := by decide +kernel
theorem d_Model_goOver_256 : decode cd_Model_goOver 256 = .ok (.putfield 96, 3) := by decide +kernel
theorem d_Model_goOver_259 : decode cd_Model_goOver 259 = .ok (.aload_n 0, 1) := by decide +kernel
theorem d_Model_goOver_260 : decode cd_Model_goOver 260 = .ok (.iload_n 2, 1) := by decide +kernel
theorem d_Model_goOver_261 : decode cd_Model_goOver 261 = .ok (.iconst 1, 1) := by decide +kernel
theorem d_Model_goOver_262 : decode cd_Model_goOver 262 = .ok (.iadd, 1) := by decide +kernel
theorem d_Model_goOver_263 : decode cd_Model_goOver 263 = .ok (.invokevirtual 102, 3) := by decide +kernel
theorem d_Model_goOver_266 : decode cd_Model_goOver 266 = .ok (.istore_n 2, 1) := by decide +kernel
theorem d_Model_goOver_267 : decode cd_Model_goOver 267 = .ok (.aload_n 0, 1) := by decide +kernel
theorem d_Model_goOver_268 : decode cd_Model_goOver 268 = .ok (.aload_n 0, 1) := by decide +kernel
theorem d_Model_goOver_269 : decode cd_Model_goOver 269 = .ok (.getfield 99, 3) := by decide +kernel
theorem d_Model_goOver_272 : decode cd_Model_goOver 272 = .ok (.ifCond .ne 11, 3) := by decide +kernel
theorem d_Model_goOver_275 : decode cd_Model_goOver 275 = .ok (.iload_n 2, 1) := by decide +kernel
theorem d_Model_goOver_276 : decode cd_Model_goOver 276 = .ok (.aload_n 0, 1) := by decide +kernel
theorem d_Model_goOver_277 : decode cd_Model_goOver 277 = .ok (.getfield 56, 3) := by decide +kernel
theorem d_Model_goOver_280 : decode cd_Model_goOver 280 = .ok (.if_icmp .lt 7, 3) := by decide +kernel
theorem d_Model_goOver_283 : decode cd_Model_goOver 283 = .ok (.iconst 1, 1) := by decide +kernel
theorem d_Model_goOver_284 : decode cd_Model_goOver 284 = .ok (.goto 4, 3) := by decide +kernel
theorem d_Model_goOver_287 : decode cd_Model_goOver 287 = .ok (.iconst 0, 1) := by decide +kernel
theorem d_Model_goOver_288 : decode cd_Model_goOver 288 = .ok (.putfield 99, 3) := by decide +kernel
theorem d_Model_goOver_291 : decode cd_Model_goOver 291 = .ok (.aload_n 0, 1) := by decide +kernel
theorem d_Model_goOver_292 : decode cd_Model_goOver 292 = .ok (.aload_n 0, 1) := by decide +kernel
theorem d_Model_goOver_293 : decode cd_Model_goOver 293 = .ok (.iload_n 2, 1) := by decide +kernel
theorem d_Model_goOver_294 : decode cd_Model_goOver 294 = .ok (.invokevirtual 75, 3) := by decide +kernel
theorem d_Model_goOver_297 : decode cd_Model_goOver 297 = .ok (.putfield 112, 3) := by decide +kernel
theorem d_Model_goOver_300 : decode cd_Model_goOver 300 = .ok (.aload_n 0, 1) := by decide +kernel
theorem d_Model_goOver_301 : decode cd_Model_goOver 301 = .ok (.iload_n 2, 1) := by decide +kernel
theorem d_Model_goOver_302 : decode cd_Model_goOver 302 = .ok (.iconst 1, 1) := by decide +kernel
theorem d_Model_goOver_303 : decode cd_Model_goOver 303 = .ok (.iadd, 1) := by decide +kernel
theorem d_Model_goOver_304 : decode cd_Model_goOver 304 = .ok (.putfield 115, 3) := by decide +kernel
theorem d_Model_goOver_307 : decode cd_Model_goOver 307 = .ok (.return_, 1) := by decide +kernel
theorem m_413 : Cond.fieldLink R_Model 83 "SpecifierDeskModel" "index" "I" ∈ gw := gm (i := 875) (by decide +kernel) (by decide +kernel)
theorem m_414 : Cond.fieldLink R_Model 86 "SpecifierDeskModel" "flags" "I" ∈ gw := gm (i := 876) (by decide +kernel) (by decide +kernel)
theorem m_415 : Cond.fieldLink R_Model 89 "SpecifierDeskModel" "twice" "Z" ∈ gw := gm (i := 877) (by decide +kernel) (by decide +kernel)
theorem m_416 : Cond.fieldLink R_Model 93 "SpecifierDeskModel" "width" "I" ∈ gw := gm (i := 878) (by decide +kernel) (by decide +kernel)
theorem m_417 : Cond.fieldLink R_Model 96 "SpecifierDeskModel" "precision" "I" ∈ gw := gm (i := 879) (by decide +kernel) (by decide +kernel)
theorem m_418 : Cond.fieldLink R_Model 99 "SpecifierDeskModel" "broken" "Z" ∈ gw := gm (i := 881) (by decide +kernel) (by decide +kernel)
theorem m_419 : Cond.methodLink R_Model 102 y_Model_digitsEnd ∈ gw := gm (i := 1019) (by decide +kernel) (by decide +kernel)
theorem m_420 : Cond.instanceMethod y_Model_digitsEnd ∈ gw := gm (i := 1021) (by decide +kernel) (by decide +kernel)
theorem m_421 : Cond.selects R_Model y_Model_digitsEnd y_Model_digitsEnd ∈ gw := gm (i := 42) (by decide +kernel) (by decide +kernel)
set_option maxRecDepth 100000 in
theorem m_422 : Cond.code y_Model_digitsEnd cd_Model_digitsEnd 3 (some .int) ∈ gw := gm (i := 1022) rfl rfl
theorem m_423 : Cond.methodLink R_Model 105 y_Model_said ∈ gw := gm (i := 1023) (by decide +kernel) (by decide +kernel)
theorem m_424 : Cond.instanceMethod y_Model_said ∈ gw := gm (i := 1025) (by decide +kernel) (by decide +kernel)
theorem m_425 : Cond.selects R_Model y_Model_said y_Model_said ∈ gw := gm (i := 43) (by decide +kernel) (by decide +kernel)
set_option maxRecDepth 100000 in
theorem m_426 : Cond.code y_Model_said cd_Model_said 5 (some .int) ∈ gw := gm (i := 1026) rfl rfl
theorem m_427 : Cond.methodLink R_Model 109 y_Model_flagOf ∈ gw := gm (i := 1027) (by decide +kernel) (by decide +kernel)
theorem m_428 : Cond.static y_Model_flagOf ∈ gw := gm (i := 1028) (by decide +kernel) (by decide +kernel)
set_option maxRecDepth 100000 in
theorem m_429 : Cond.code y_Model_flagOf cd_Model_flagOf 1 (some .int) ∈ gw := gm (i := 1029) rfl rfl
theorem m_430 : Cond.fieldLink R_Model 112 "SpecifierDeskModel" "conversion" "I" ∈ gw := gm (i := 880) (by decide +kernel) (by decide +kernel)
theorem m_431 : Cond.fieldLink R_Model 115 "SpecifierDeskModel" "end" "I" ∈ gw := gm (i := 874) (by decide +kernel) (by decide +kernel)
def k_Model_goOver_288 (t_draft : Nat → Int32) (t_drafted : Int32) (x2 : Int32) (k1 : Int32) (t_end : Int32) (t_index : Int32) (t_flags : Int32) (t_twice : Int32) (t_width : Int32) (t_precision : Int32) (t_conversion : Int32) (t_broken : Int32) : Option (Int32 × Int32 × Int32 × Int32 × Int32 × Int32 × Int32 × Int32) :=
  ((f_Model_look t_draft t_drafted x2).bind fun u_294 => some ((x2 + (1 : Int32)), t_index, t_flags, t_twice, t_width, t_precision, u_294, k1))
def k_Model_goOver_283 (t_draft : Nat → Int32) (t_drafted : Int32) (x2 : Int32) (t_end : Int32) (t_index : Int32) (t_flags : Int32) (t_twice : Int32) (t_width : Int32) (t_precision : Int32) (t_conversion : Int32) (t_broken : Int32) : Option (Int32 × Int32 × Int32 × Int32 × Int32 × Int32 × Int32 × Int32) :=
  k_Model_goOver_288 t_draft t_drafted x2 (1 : Int32) t_end t_index t_flags t_twice t_width t_precision t_conversion t_broken
def k_Model_goOver_267 (t_draft : Nat → Int32) (t_drafted : Int32) (x2 : Int32) (t_end : Int32) (t_index : Int32) (t_flags : Int32) (t_twice : Int32) (t_width : Int32) (t_precision : Int32) (t_conversion : Int32) (t_broken : Int32) : Option (Int32 × Int32 × Int32 × Int32 × Int32 × Int32 × Int32 × Int32) :=
  (if t_broken = 0 then (if x2 < t_drafted then k_Model_goOver_288 t_draft t_drafted x2 (0 : Int32) t_end t_index t_flags t_twice t_width t_precision t_conversion t_broken else k_Model_goOver_283 t_draft t_drafted x2 t_end t_index t_flags t_twice t_width t_precision t_conversion t_broken) else k_Model_goOver_283 t_draft t_drafted x2 t_end t_index t_flags t_twice t_width t_precision t_conversion t_broken)
def k_Model_goOver_238 (K : Nat) (t_draft : Nat → Int32) (t_drafted : Int32) (x2 : Int32) (k1 : Int32) (t_end : Int32) (t_index : Int32) (t_flags : Int32) (t_twice : Int32) (t_width : Int32) (t_precision : Int32) (t_conversion : Int32) (t_broken : Int32) : Option (Int32 × Int32 × Int32 × Int32 × Int32 × Int32 × Int32 × Int32) :=
  ((f_Model_digitsEnd K t_draft t_drafted (x2 + (1 : Int32))).bind fun u_250 => ((f_Model_said K t_draft t_drafted (x2 + (1 : Int32)) u_250).bind fun u_253 => ((f_Model_digitsEnd K t_draft t_drafted (x2 + (1 : Int32))).bind fun u_263 => k_Model_goOver_267 t_draft t_drafted u_263 t_end t_index t_flags t_twice t_width u_253 t_conversion k1)))
def k_Model_goOver_209 (K : Nat) (t_draft : Nat → Int32) (t_drafted : Int32) (x2 : Int32) (t_end : Int32) (t_index : Int32) (t_flags : Int32) (t_twice : Int32) (t_width : Int32) (t_precision : Int32) (t_conversion : Int32) (t_broken : Int32) : Option (Int32 × Int32 × Int32 × Int32 × Int32 × Int32 × Int32 × Int32) :=
  ((f_Model_look t_draft t_drafted x2).bind fun u_211 => (if u_211 = (46 : Int32) then ((f_Model_look t_draft t_drafted (x2 + (1 : Int32))).bind fun u_224 => ((f_Model_isDigit u_224).bind fun u_227 => (if u_227 = 0 then k_Model_goOver_238 K t_draft t_drafted x2 (1 : Int32) t_end t_index t_flags t_twice t_width t_precision t_conversion t_broken else k_Model_goOver_238 K t_draft t_drafted x2 (0 : Int32) t_end t_index t_flags t_twice t_width t_precision t_conversion t_broken))) else k_Model_goOver_267 t_draft t_drafted x2 t_end t_index t_flags t_twice t_width t_precision t_conversion t_broken))
def k_Model_goOver_152 (t_draft : Nat → Int32) (t_drafted : Int32) (rec_112 : (Int32 × Int32 × Int32) → Option (Int32 × Int32 × Int32 × Int32 × Int32 × Int32 × Int32 × Int32)) (x2 : Int32) (k1 : Int32) (t_flags : Int32) (t_twice : Int32) : Option (Int32 × Int32 × Int32 × Int32 × Int32 × Int32 × Int32 × Int32) :=
  ((f_Model_look t_draft t_drafted x2).bind fun u_162 => ((f_Model_flagOf u_162).bind fun u_165 => rec_112 ((x2 + 1), (t_flags ||| u_165), k1)))
def k_Model_goOver_147 (t_draft : Nat → Int32) (t_drafted : Int32) (rec_112 : (Int32 × Int32 × Int32) → Option (Int32 × Int32 × Int32 × Int32 × Int32 × Int32 × Int32 × Int32)) (x2 : Int32) (t_flags : Int32) (t_twice : Int32) : Option (Int32 × Int32 × Int32 × Int32 × Int32 × Int32 × Int32 × Int32) :=
  k_Model_goOver_152 t_draft t_drafted rec_112 x2 (1 : Int32) t_flags t_twice
def b_Model_goOver_112 (K : Nat) (t_draft : Nat → Int32) (t_drafted : Int32) (t_end : Int32) (t_index : Int32) (t_width : Int32) (t_precision : Int32) (t_conversion : Int32) (t_broken : Int32) (rec_112 : (Int32 × Int32 × Int32) → Option (Int32 × Int32 × Int32 × Int32 × Int32 × Int32 × Int32 × Int32)) (z112 : Int32 × Int32 × Int32) : Option (Int32 × Int32 × Int32 × Int32 × Int32 × Int32 × Int32 × Int32) :=
  ((f_Model_look t_draft t_drafted z112.1).bind fun u_114 => ((f_Model_flagOf u_114).bind fun u_117 => (if u_117 = 0 then ((f_Model_look t_draft t_drafted z112.1).bind fun u_180 => ((f_Model_isDigit u_180).bind fun u_183 => (if u_183 = 0 then k_Model_goOver_209 K t_draft t_drafted z112.1 t_end t_index z112.2.1 z112.2.2 t_width t_precision t_conversion t_broken else ((f_Model_digitsEnd K t_draft t_drafted z112.1).bind fun u_194 => ((f_Model_said K t_draft t_drafted z112.1 u_194).bind fun u_197 => ((f_Model_digitsEnd K t_draft t_drafted z112.1).bind fun u_205 => k_Model_goOver_209 K t_draft t_drafted u_205 t_end t_index z112.2.1 z112.2.2 u_197 t_precision t_conversion t_broken)))))) else (if z112.2.2 = 0 then ((f_Model_look t_draft t_drafted z112.1).bind fun u_137 => ((f_Model_flagOf u_137).bind fun u_140 => (if (z112.2.1 &&& u_140) = 0 then k_Model_goOver_152 t_draft t_drafted rec_112 z112.1 (0 : Int32) z112.2.1 z112.2.2 else k_Model_goOver_147 t_draft t_drafted rec_112 z112.1 z112.2.1 z112.2.2))) else k_Model_goOver_147 t_draft t_drafted rec_112 z112.1 z112.2.1 z112.2.2))))
def f_Model_goOver (K : Nat) (t_draft : Nat → Int32) (t_drafted : Int32) (t_end : Int32) (t_conversion : Int32) (a1 : Int32) : Option (Int32 × Int32 × Int32 × Int32 × Int32 × Int32 × Int32 × Int32) :=
  ((f_Model_look t_draft t_drafted (a1 + (1 : Int32))).bind fun u_36 => (if u_36 = (60 : Int32) then lp_ (b_Model_goOver_112 K t_draft t_drafted t_end (0 : Int32) (-1 : Int32) (-1 : Int32) t_conversion (0 : Int32)) K (((a1 + (1 : Int32)) + 1), (0 : Int32), (0 : Int32)) else ((f_Model_look t_draft t_drafted (a1 + (1 : Int32))).bind fun u_57 => ((f_Model_isDigit u_57).bind fun u_60 => (if u_60 = 0 then lp_ (b_Model_goOver_112 K t_draft t_drafted t_end (-1 : Int32) (-1 : Int32) (-1 : Int32) t_conversion (0 : Int32)) K ((a1 + (1 : Int32)), (0 : Int32), (0 : Int32)) else ((f_Model_look t_draft t_drafted (a1 + (1 : Int32))).bind fun u_68 => (if u_68 = (48 : Int32) then lp_ (b_Model_goOver_112 K t_draft t_drafted t_end (-1 : Int32) (-1 : Int32) (-1 : Int32) t_conversion (0 : Int32)) K ((a1 + (1 : Int32)), (0 : Int32), (0 : Int32)) else ((f_Model_digitsEnd K t_draft t_drafted (a1 + (1 : Int32))).bind fun u_79 => ((f_Model_look t_draft t_drafted u_79).bind fun u_82 => (if u_82 = (36 : Int32) then ((f_Model_digitsEnd K t_draft t_drafted (a1 + (1 : Int32))).bind fun u_95 => ((f_Model_said K t_draft t_drafted (a1 + (1 : Int32)) u_95).bind fun u_98 => ((f_Model_digitsEnd K t_draft t_drafted (a1 + (1 : Int32))).bind fun u_106 => lp_ (b_Model_goOver_112 K t_draft t_drafted t_end u_98 (-1 : Int32) (-1 : Int32) t_conversion (0 : Int32)) K ((u_106 + (1 : Int32)), (0 : Int32), (0 : Int32))))) else lp_ (b_Model_goOver_112 K t_draft t_drafted t_end (-1 : Int32) (-1 : Int32) (-1 : Int32) t_conversion (0 : Int32)) K ((a1 + (1 : Int32)), (0 : Int32), (0 : Int32))))))))))))
set_option maxHeartbeats 4000000 in
set_option maxRecDepth 100000 in
theorem c_Model_goOver (l : Launch) (G : Gt) (K : Nat) (qt : Nat) (qt_draft : Nat) (t_draft : Nat → Int32) (t_drafted : Int32) (qt_result : Nat) (t_result : Nat → Int32) (t_length : Int32) (t_arguments : Int32) (qt_kinds : Nat) (t_kinds : Nat → Int32) (qt_values : Nat) (t_values : Nat → Int64) (qt_widths : Nat) (t_widths : Nat → Int32) (qt_below : Nat) (t_below : Nat → Int32) (qt_sizes : Nat) (t_sizes : Nat → Int32) (qt_scales : Nat) (t_scales : Nat → Int32) (qt_parts : Nat) (t_parts : Nat → Int64) (qt_texts : Nat) (t_texts : Nat → Int32) (qt_lengths : Nat) (t_lengths : Nat → Int32) (t_end : Int32) (t_index : Int32) (t_flags : Int32) (t_twice : Int32) (t_width : Int32) (t_precision : Int32) (t_conversion : Int32) (t_broken : Int32) (qt_piece : Nat) (t_piece : Nat → Int32) (t_put : Int32) (t_head : Int32) (qt_tens : Nat) (t_tens : Nat → Int32) (t_count : Int32) (t_exponent : Int32) (qt_work : Nat) (t_work : Nat → Int32) (a1 : Int32) (sz : Nat) (res : Int32 × Int32 × Int32 × Int32 × Int32 × Int32 × Int32 × Int32)   (hf : f_Model_goOver K t_draft t_drafted t_end t_conversion a1 = some res) : Met l y_Model_goOver (.code y_Model_goOver cd_Model_goOver 3 none :: gw) { frames := 2, cells := 0, slots := 0, locals := 80 } (PC G ([.ref qt, .int a1] : List Value) sz (w_Model_clear G qt qt_draft t_draft t_drafted qt_result t_result t_length t_arguments qt_kinds t_kinds qt_values t_values qt_widths t_widths qt_below t_below qt_sizes t_sizes qt_scales t_scales qt_parts t_parts qt_texts t_texts qt_lengths t_lengths t_end t_index t_flags t_twice t_width t_precision t_conversion t_broken qt_piece t_piece t_put t_head qt_tens t_tens t_count t_exponent qt_work t_work)) (QV G (va_A (w_Model_clear G qt qt_draft t_draft t_drafted qt_result t_result t_length t_arguments qt_kinds t_kinds qt_values t_values qt_widths t_widths qt_below t_below qt_sizes t_sizes qt_scales t_scales qt_parts t_parts qt_texts t_texts qt_lengths t_lengths t_end t_index t_flags t_twice t_width t_precision t_conversion t_broken qt_piece t_piece t_put t_head qt_tens t_tens t_count t_exponent qt_work t_work) sz) (w_Model_clear G qt qt_draft t_draft t_drafted qt_result t_result t_length t_arguments qt_kinds t_kinds qt_values t_values qt_widths t_widths qt_below t_below qt_sizes t_sizes qt_scales t_scales qt_parts t_parts qt_texts t_texts qt_lengths t_lengths res.1 res.2.1 res.2.2.1 res.2.2.2.1 res.2.2.2.2.1 res.2.2.2.2.2.1 res.2.2.2.2.2.2.1 res.2.2.2.2.2.2.2 qt_piece t_piece t_put t_head qt_tens t_tens t_count t_exponent qt_work t_work)) 0 0 (va_A (w_Model_clear G qt qt_draft t_draft t_drafted qt_result t_result t_length t_arguments qt_kinds t_kinds qt_values t_values qt_widths t_widths qt_below t_below qt_sizes t_sizes qt_scales t_scales qt_parts t_parts qt_texts t_texts qt_lengths t_lengths t_end t_index t_flags t_twice t_width t_precision t_conversion t_broken qt_piece t_piece t_put t_head qt_tens t_tens t_count t_exponent qt_work t_work) sz) := by
  refine Met.ofW (cc := cd_Model_goOver) (maxL := 3) (ret := none) (by decide) rfl ?_
  intro p e s m args below meth c s₁ B hml hv
  obtain ⟨rfl, hsz, hP, hE, hD0⟩ := hv
  have hx := B.exec
  have hb := B.bytes
  have hr := B.returns
  have hts := atoms_spec (ws := (.code y_Model_goOver cd_Model_goOver 3 none :: gw)) B.pre
  have hg : ∀ w ∈ gw, w.before _ s = true := fun w h => hts w (List.mem_cons_of_mem _ h)
  have hown : s.vm.findClass R_Model = some m.cls := findClass_of_methodNamed B.named
  have hlocks := B.notSynchronized
  subst hsz
  have hK := hE.K
  have hD := hD0.self (sz := s.heap.size)
  have hAb := hE.ab hD0
  obtain ⟨Q, hQ⟩ : ∃ Q, MQ below (QV G (va_A (w_Model_clear G qt qt_draft t_draft t_drafted qt_result t_result t_length t_arguments qt_kinds t_kinds qt_values t_values qt_widths t_widths qt_below t_below qt_sizes t_sizes qt_scales t_scales qt_parts t_parts qt_texts t_texts qt_lengths t_lengths t_end t_index t_flags t_twice t_width t_precision t_conversion t_broken qt_piece t_piece t_put t_head qt_tens t_tens t_count t_exponent qt_work t_work) s.heap.size) (w_Model_clear G qt qt_draft t_draft t_drafted qt_result t_result t_length t_arguments qt_kinds t_kinds qt_values t_values qt_widths t_widths qt_below t_below qt_sizes t_sizes qt_scales t_scales qt_parts t_parts qt_texts t_texts qt_lengths t_lengths res.1 res.2.1 res.2.2.1 res.2.2.2.1 res.2.2.2.2.1 res.2.2.2.2.2.1 res.2.2.2.2.2.2.1 res.2.2.2.2.2.2.2 qt_piece t_piece t_put t_head qt_tens t_tens t_count t_exponent qt_work t_work)) ([.ref qt, .int a1] : List Value).toArray s 0 0 (va_A (w_Model_clear G qt qt_draft t_draft t_drafted qt_result t_result t_length t_arguments qt_kinds t_kinds qt_values t_values qt_widths t_widths qt_below t_below qt_sizes t_sizes qt_scales t_scales qt_parts t_parts qt_texts t_texts qt_lengths t_lengths t_end t_index t_flags t_twice t_width t_precision t_conversion t_broken qt_piece t_piece t_put t_head qt_tens t_tens t_count t_exponent qt_work t_work) s.heap.size) = Q := ⟨_, rfl⟩
  show W p l e { frames := 2, cells := 0, slots := 0, locals := 80 } s m ([.ref qt, .int a1] : List Value).toArray below meth c s.heap [] 0 0 (MQ below (QV G (va_A (w_Model_clear G qt qt_draft t_draft t_drafted qt_result t_result t_length t_arguments qt_kinds t_kinds qt_values t_values qt_widths t_widths qt_below t_below qt_sizes t_sizes qt_scales t_scales qt_parts t_parts qt_texts t_texts qt_lengths t_lengths t_end t_index t_flags t_twice t_width t_precision t_conversion t_broken qt_piece t_piece t_put t_head qt_tens t_tens t_count t_exponent qt_work t_work) s.heap.size) (w_Model_clear G qt qt_draft t_draft t_drafted qt_result t_result t_length t_arguments qt_kinds t_kinds qt_values t_values qt_widths t_widths qt_below t_below qt_sizes t_sizes qt_scales t_scales qt_parts t_parts qt_texts t_texts qt_lengths t_lengths res.1 res.2.1 res.2.2.1 res.2.2.2.1 res.2.2.2.2.1 res.2.2.2.2.2.1 res.2.2.2.2.2.2.1 res.2.2.2.2.2.2.2 qt_piece t_piece t_put t_head qt_tens t_tens t_count t_exponent qt_work t_work)) ([.ref qt, .int a1] : List Value).toArray s 0 0 (va_A (w_Model_clear G qt qt_draft t_draft t_drafted qt_result t_result t_length t_arguments qt_kinds t_kinds qt_values t_values qt_widths t_widths qt_below t_below qt_sizes t_sizes qt_scales t_scales qt_parts t_parts qt_texts t_texts qt_lengths t_lengths t_end t_index t_flags t_twice t_width t_precision t_conversion t_broken qt_piece t_piece t_put t_head qt_tens t_tens t_count t_exponent qt_work t_work) s.heap.size)) _
  rw [hQ]
  have hA : ∀ q : Nat, s.heap.size ≤ q → va_A (w_Model_clear G qt qt_draft t_draft t_drafted qt_result t_result t_length t_arguments qt_kinds t_kinds qt_values t_values qt_widths t_widths qt_below t_below qt_sizes t_sizes qt_scales t_scales qt_parts t_parts qt_texts t_texts qt_lengths t_lengths t_end t_index t_flags t_twice t_width t_precision t_conversion t_broken qt_piece t_piece t_put t_head qt_tens t_tens t_count t_exponent qt_work t_work) s.heap.size q := fun q h => Or.inr h
  obtain ⟨A, hAe⟩ : ∃ A, va_A (w_Model_clear G qt qt_draft t_draft t_drafted qt_result t_result t_length t_arguments qt_kinds t_kinds qt_values t_values qt_widths t_widths qt_below t_below qt_sizes t_sizes qt_scales t_scales qt_parts t_parts qt_texts t_texts qt_lengths t_lengths t_end t_index t_flags t_twice t_width t_precision t_conversion t_broken qt_piece t_piece t_put t_head qt_tens t_tens t_count t_exponent qt_work t_work) s.heap.size = A := ⟨_, rfl⟩
  rw [hAe] at hA hD hAb hQ
  have hS : va_S A s.heap s.heap [] := va_S.rf
  have hl := lv_entry (([.ref qt, .int a1] : List Value)) (n := 3) (Nat.le_of_ble_eq_true rfl)
  rw [lg_entry_eq]
  generalize (lg_sl (([.ref qt, .int a1] : List Value)) ++ List.replicate (3 - (lg_sl (([.ref qt, .int a1] : List Value))).length) Slot.unset).toArray = ls at hl ⊢
  have hl : lv_has ls 3 [(0, .ref qt), (1, .int a1)] := hl
  have W_288 : ∀ (x2 : Int32) (k1 : Int32) (t_end : Int32) (t_index : Int32) (t_flags : Int32) (t_twice : Int32) (t_width : Int32) (t_precision : Int32) (t_conversion : Int32) (t_broken : Int32) (b_k1 : bl k1), k_Model_goOver_288 t_draft t_drafted x2 k1 t_end t_index t_flags t_twice t_width t_precision t_conversion t_broken = some res → ∀ (H : Heap) (locs : List Loc) (ls : Array Slot), va_P (gD G) vwCl (w_Model_clear G qt qt_draft t_draft t_drafted qt_result t_result t_length t_arguments qt_kinds t_kinds qt_values t_values qt_widths t_widths qt_below t_below qt_sizes t_sizes qt_scales t_scales qt_parts t_parts qt_texts t_texts qt_lengths t_lengths t_end t_index t_flags t_twice t_width t_precision t_conversion t_broken qt_piece t_piece t_put t_head qt_tens t_tens t_count t_exponent qt_work t_work) H → va_D A (w_Model_clear G qt qt_draft t_draft t_drafted qt_result t_result t_length t_arguments qt_kinds t_kinds qt_values t_values qt_widths t_widths qt_below t_below qt_sizes t_sizes qt_scales t_scales qt_parts t_parts qt_texts t_texts qt_lengths t_lengths t_end t_index t_flags t_twice t_width t_precision t_conversion t_broken qt_piece t_piece t_put t_head qt_tens t_tens t_count t_exponent qt_work t_work) → va_S A s.heap H locs → lv_has ls 3 [(0, .ref qt), (2, .int x2)] → W p l e { frames := 2, cells := 0, slots := 0, locals := 80 } s m ([.ref qt, .int a1] : List Value).toArray below meth c H locs 0 0 Q (F0 m 288 ls [.int k1, .ref qt]) := by
    intro x2 k1 t_end t_index t_flags t_twice t_width t_precision t_conversion t_broken b_k1 hf H locs ls hP hD hS hl
    unfold k_Model_goOver_288 at hf
    refine va_put (D := gD G) (ci := 7) (v := .int k1) (ty := .boolean) (C := R_Model) (T := F_Model) (N := 29) hx hb hg in_Model t_Model to_Model no_Model hown hK hP hD hS 0 rfl rfl 21 (by decide) (hg _ m_418) (fun _ h9 => h9) rfl (by decide +kernel) (bl_n b_k1) (bl_f b_k1) (Nat.le_of_ble_eq_true rfl) d_Model_goOver_288 (fun H locs hP hD hS => ?_)
    have hP : va_P (gD G) vwCl (w_Model_clear G qt qt_draft t_draft t_drafted qt_result t_result t_length t_arguments qt_kinds t_kinds qt_values t_values qt_widths t_widths qt_below t_below qt_sizes t_sizes qt_scales t_scales qt_parts t_parts qt_texts t_texts qt_lengths t_lengths t_end t_index t_flags t_twice t_width t_precision t_conversion k1 qt_piece t_piece t_put t_head qt_tens t_tens t_count t_exponent qt_work t_work) H := hP
    have hD : va_D A (w_Model_clear G qt qt_draft t_draft t_drafted qt_result t_result t_length t_arguments qt_kinds t_kinds qt_values t_values qt_widths t_widths qt_below t_below qt_sizes t_sizes qt_scales t_scales qt_parts t_parts qt_texts t_texts qt_lengths t_lengths t_end t_index t_flags t_twice t_width t_precision t_conversion k1 qt_piece t_piece t_put t_head qt_tens t_tens t_count t_exponent qt_work t_work) := hD
    refine lv_aload_n hx hb d_Model_goOver_291 rfl (lv_at hl 0 rfl) ?_
    refine lv_aload_n hx hb d_Model_goOver_292 rfl (lv_at hl 0 rfl) ?_
    refine lv_iload_n hx hb d_Model_goOver_293 rfl (lv_at hl 1 rfl) ?_
    obtain ⟨u_294, hu_294, hf⟩ := bd_ hf
    refine CALLWi (va_runV (As := [.int x2]) (rest := [.ref qt]) ⟨hx, hb, hml, hown, hg⟩ (c_Model_look l G K qt qt_draft t_draft t_drafted qt_result t_result t_length t_arguments qt_kinds t_kinds qt_values t_values qt_widths t_widths qt_below t_below qt_sizes t_sizes qt_scales t_scales qt_parts t_parts qt_texts t_texts qt_lengths t_lengths t_end t_index t_flags t_twice t_width t_precision t_conversion k1 qt_piece t_piece t_put t_head qt_tens t_tens t_count t_exponent qt_work t_work x2 _ u_294  hu_294) (cwV 1 hg (gV m_406 m_407 m_408 m_389 m_409) rfl rfl rfl (by decide +kernel) ⟨Nat.le_of_ble_eq_true rfl, Nat.le_of_ble_eq_true rfl⟩) ⟨PC_b, va_recv hK hP (ci := 7) (q0 := 0) rfl rfl, PC_p hE hS hAb hP hD⟩ rfl rfl hl.1 rfl (lv_room (Nat.le_of_ble_eq_true rfl)) d_Model_goOver_294 ⟨Nat.zero_le _, Nat.zero_le _⟩) hP hD hS hA (fun H locs hP hD hS => ?_)
    have hP : va_P (gD G) vwCl (w_Model_clear G qt qt_draft t_draft t_drafted qt_result t_result t_length t_arguments qt_kinds t_kinds qt_values t_values qt_widths t_widths qt_below t_below qt_sizes t_sizes qt_scales t_scales qt_parts t_parts qt_texts t_texts qt_lengths t_lengths t_end t_index t_flags t_twice t_width t_precision t_conversion k1 qt_piece t_piece t_put t_head qt_tens t_tens t_count t_exponent qt_work t_work) H := hP
    have hD : va_D A (w_Model_clear G qt qt_draft t_draft t_drafted qt_result t_result t_length t_arguments qt_kinds t_kinds qt_values t_values qt_widths t_widths qt_below t_below qt_sizes t_sizes qt_scales t_scales qt_parts t_parts qt_texts t_texts qt_lengths t_lengths t_end t_index t_flags t_twice t_width t_precision t_conversion k1 qt_piece t_piece t_put t_head qt_tens t_tens t_count t_exponent qt_work t_work) := hD
    refine va_put (D := gD G) (ci := 7) (v := .int u_294) (ty := .int) (C := R_Model) (T := F_Model) (N := 29) hx hb hg in_Model t_Model to_Model no_Model hown hK hP hD hS 0 rfl rfl 20 (by decide) (hg _ m_430) (fun _ h9 => h9) rfl (by decide +kernel) rfl rfl (Nat.le_of_ble_eq_true rfl) d_Model_goOver_297 (fun H locs hP hD hS => ?_)
    have hP : va_P (gD G) vwCl (w_Model_clear G qt qt_draft t_draft t_drafted qt_result t_result t_length t_arguments qt_kinds t_kinds qt_values t_values qt_widths t_widths qt_below t_below qt_sizes t_sizes qt_scales t_scales qt_parts t_parts qt_texts t_texts qt_lengths t_lengths t_end t_index t_flags t_twice t_width t_precision u_294 k1 qt_piece t_piece t_put t_head qt_tens t_tens t_count t_exponent qt_work t_work) H := hP
    have hD : va_D A (w_Model_clear G qt qt_draft t_draft t_drafted qt_result t_result t_length t_arguments qt_kinds t_kinds qt_values t_values qt_widths t_widths qt_below t_below qt_sizes t_sizes qt_scales t_scales qt_parts t_parts qt_texts t_texts qt_lengths t_lengths t_end t_index t_flags t_twice t_width t_precision u_294 k1 qt_piece t_piece t_put t_head qt_tens t_tens t_count t_exponent qt_work t_work) := hD
    refine lv_aload_n hx hb d_Model_goOver_300 rfl (lv_at hl 0 rfl) ?_
    refine lv_iload_n hx hb d_Model_goOver_301 rfl (lv_at hl 1 rfl) ?_
    refine lv_iconst (v := 1) hx hb d_Model_goOver_302 (by decide) ?_
    refine lv_iadd hx hb d_Model_goOver_303 ?_
    refine va_put (D := gD G) (ci := 7) (v := .int (x2 + (1 : Int32))) (ty := .int) (C := R_Model) (T := F_Model) (N := 29) hx hb hg in_Model t_Model to_Model no_Model hown hK hP hD hS 0 rfl rfl 14 (by decide) (hg _ m_431) (fun _ h9 => h9) rfl (by decide +kernel) rfl rfl (Nat.le_of_ble_eq_true rfl) d_Model_goOver_304 (fun H locs hP hD hS => ?_)
    have hP : va_P (gD G) vwCl (w_Model_clear G qt qt_draft t_draft t_drafted qt_result t_result t_length t_arguments qt_kinds t_kinds qt_values t_values qt_widths t_widths qt_below t_below qt_sizes t_sizes qt_scales t_scales qt_parts t_parts qt_texts t_texts qt_lengths t_lengths (x2 + (1 : Int32)) t_index t_flags t_twice t_width t_precision u_294 k1 qt_piece t_piece t_put t_head qt_tens t_tens t_count t_exponent qt_work t_work) H := hP
    have hD : va_D A (w_Model_clear G qt qt_draft t_draft t_drafted qt_result t_result t_length t_arguments qt_kinds t_kinds qt_values t_values qt_widths t_widths qt_below t_below qt_sizes t_sizes qt_scales t_scales qt_parts t_parts qt_texts t_texts qt_lengths t_lengths (x2 + (1 : Int32)) t_index t_flags t_twice t_width t_precision u_294 k1 qt_piece t_piece t_put t_head qt_tens t_tens t_count t_exponent qt_work t_work) := hD
    obtain rfl := Option.some.inj hf
    rw [← hQ]
    exact W.vret hx hb hr (fun t9 ht hW => ⟨⟨(), rfl, trivial, ⟨by rw [ht]; exact hP, hD⟩⟩, hS.F ht⟩) hS.2.2 d_Model_goOver_307
  have W_283 : ∀ (x2 : Int32) (t_end : Int32) (t_index : Int32) (t_flags : Int32) (t_twice : Int32) (t_width : Int32) (t_precision : Int32) (t_conversion : Int32) (t_broken : Int32) , k_Model_goOver_283 t_draft t_drafted x2 t_end t_index t_flags t_twice t_width t_precision t_conversion t_broken = some res → ∀ (H : Heap) (locs : List Loc) (ls : Array Slot), va_P (gD G) vwCl (w_Model_clear G qt qt_draft t_draft t_drafted qt_result t_result t_length t_arguments qt_kinds t_kinds qt_values t_values qt_widths t_widths qt_below t_below qt_sizes t_sizes qt_scales t_scales qt_parts t_parts qt_texts t_texts qt_lengths t_lengths t_end t_index t_flags t_twice t_width t_precision t_conversion t_broken qt_piece t_piece t_put t_head qt_tens t_tens t_count t_exponent qt_work t_work) H → va_D A (w_Model_clear G qt qt_draft t_draft t_drafted qt_result t_result t_length t_arguments qt_kinds t_kinds qt_values t_values qt_widths t_widths qt_below t_below qt_sizes t_sizes qt_scales t_scales qt_parts t_parts qt_texts t_texts qt_lengths t_lengths t_end t_index t_flags t_twice t_width t_precision t_conversion t_broken qt_piece t_piece t_put t_head qt_tens t_tens t_count t_exponent qt_work t_work) → va_S A s.heap H locs → lv_has ls 3 [(0, .ref qt), (2, .int x2)] → W p l e { frames := 2, cells := 0, slots := 0, locals := 80 } s m ([.ref qt, .int a1] : List Value).toArray below meth c H locs 0 0 Q (F0 m 283 ls [.ref qt]) := by
    intro x2 t_end t_index t_flags t_twice t_width t_precision t_conversion t_broken  hf H locs ls hP hD hS hl
    unfold k_Model_goOver_283 at hf
    refine lv_iconst (v := 1) hx hb d_Model_goOver_283 (by decide) ?_
    refine lv_goto (tgt := 288) hx hb d_Model_goOver_284 (by decide) ?_
    exact W_288 x2 (1 : Int32) t_end t_index t_flags t_twice t_width t_precision t_conversion t_broken bl_1 hf _ _ _ hP hD hS (lv_sub hl [0, 1] rfl)
  have W_267 : ∀ (x2 : Int32) (t_end : Int32) (t_index : Int32) (t_flags : Int32) (t_twice : Int32) (t_width : Int32) (t_precision : Int32) (t_conversion : Int32) (t_broken : Int32) , k_Model_goOver_267 t_draft t_drafted x2 t_end t_index t_flags t_twice t_width t_precision t_conversion t_broken = some res → ∀ (H : Heap) (locs : List Loc) (ls : Array Slot), va_P (gD G) vwCl (w_Model_clear G qt qt_draft t_draft t_drafted qt_result t_result t_length t_arguments qt_kinds t_kinds qt_values t_values qt_widths t_widths qt_below t_below qt_sizes t_sizes qt_scales t_scales qt_parts t_parts qt_texts t_texts qt_lengths t_lengths t_end t_index t_flags t_twice t_width t_precision t_conversion t_broken qt_piece t_piece t_put t_head qt_tens t_tens t_count t_exponent qt_work t_work) H → va_D A (w_Model_clear G qt qt_draft t_draft t_drafted qt_result t_result t_length t_arguments qt_kinds t_kinds qt_values t_values qt_widths t_widths qt_below t_below qt_sizes t_sizes qt_scales t_scales qt_parts t_parts qt_texts t_texts qt_lengths t_lengths t_end t_index t_flags t_twice t_width t_precision t_conversion t_broken qt_piece t_piece t_put t_head qt_tens t_tens t_count t_exponent qt_work t_work) → va_S A s.heap H locs → lv_has ls 3 [(0, .ref qt), (2, .int x2)] → W p l e { frames := 2, cells := 0, slots := 0, locals := 80 } s m ([.ref qt, .int a1] : List Value).toArray below meth c H locs 0 0 Q (F0 m 267 ls []) := by
    intro x2 t_end t_index t_flags t_twice t_width t_precision t_conversion t_broken  hf H locs ls hP hD hS hl
    unfold k_Model_goOver_267 at hf
    refine lv_aload_n hx hb d_Model_goOver_267 rfl (lv_at hl 0 rfl) ?_
    refine lv_aload_n hx hb d_Model_goOver_268 rfl (lv_at hl 0 rfl) ?_
    refine va_get (D := gD G) (ci := 7) (v := .int t_broken) (C := R_Model) (T := F_Model) (N := 29) hx hb hg in_Model hown hK hP 0 rfl rfl 21 (by decide) (hg _ m_418) (fun _ h9 => h9) rfl d_Model_goOver_269 ?_
    refine lv_if_ne (tgt := 283) hx hb d_Model_goOver_272 (by decide) (fun c_272 => ?_) (fun c_272 => ?_)
    · have hf := in_ c_272 hf
      exact W_283 x2 t_end t_index t_flags t_twice t_width t_precision t_conversion t_broken  hf _ _ _ hP hD hS (lv_sub hl [0, 1] rfl)
    · have hf := ip_ c_272 hf
      refine lv_iload_n hx hb d_Model_goOver_275 rfl (lv_at hl 1 rfl) ?_
      refine lv_aload_n hx hb d_Model_goOver_276 rfl (lv_at hl 0 rfl) ?_
      refine va_get (D := gD G) (ci := 7) (v := .int t_drafted) (C := R_Model) (T := F_Model) (N := 29) hx hb hg in_Model hown hK hP 0 rfl rfl 1 (by decide) (hg _ m_380) (fun _ h9 => h9) rfl d_Model_goOver_277 ?_
      refine lv_icmp_lt (tgt := 287) hx hb d_Model_goOver_280 (by decide) (fun c_280 => ?_) (fun c_280 => ?_)
      · have hf := ip_ c_280 hf
        refine lv_iconst (v := 0) hx hb d_Model_goOver_287 (by decide) ?_
        exact W_288 x2 (0 : Int32) t_end t_index t_flags t_twice t_width t_precision t_conversion t_broken bl_0 hf _ _ _ hP hD hS (lv_sub hl [0, 1] rfl)
      · have hf := in_ c_280 hf
        exact W_283 x2 t_end t_index t_flags t_twice t_width t_precision t_conversion t_broken  hf _ _ _ hP hD hS (lv_sub hl [0, 1] rfl)
  have W_238 : ∀ (x2 : Int32) (k1 : Int32) (t_end : Int32) (t_index : Int32) (t_flags : Int32) (t_twice : Int32) (t_width : Int32) (t_precision : Int32) (t_conversion : Int32) (t_broken : Int32) (b_k1 : bl k1), k_Model_goOver_238 K t_draft t_drafted x2 k1 t_end t_index t_flags t_twice t_width t_precision t_conversion t_broken = some res → ∀ (H : Heap) (locs : List Loc) (ls : Array Slot), va_P (gD G) vwCl (w_Model_clear G qt qt_draft t_draft t_drafted qt_result t_result t_length t_arguments qt_kinds t_kinds qt_values t_values qt_widths t_widths qt_below t_below qt_sizes t_sizes qt_scales t_scales qt_parts t_parts qt_texts t_texts qt_lengths t_lengths t_end t_index t_flags t_twice t_width t_precision t_conversion t_broken qt_piece t_piece t_put t_head qt_tens t_tens t_count t_exponent qt_work t_work) H → va_D A (w_Model_clear G qt qt_draft t_draft t_drafted qt_result t_result t_length t_arguments qt_kinds t_kinds qt_values t_values qt_widths t_widths qt_below t_below qt_sizes t_sizes qt_scales t_scales qt_parts t_parts qt_texts t_texts qt_lengths t_lengths t_end t_index t_flags t_twice t_width t_precision t_conversion t_broken qt_piece t_piece t_put t_head qt_tens t_tens t_count t_exponent qt_work t_work) → va_S A s.heap H locs → lv_has ls 3 [(0, .ref qt), (2, .int x2)] → W p l e { frames := 2, cells := 0, slots := 0, locals := 80 } s m ([.ref qt, .int a1] : List Value).toArray below meth c H locs 0 0 Q (F0 m 238 ls [.int k1, .ref qt]) := by
    intro x2 k1 t_end t_index t_flags t_twice t_width t_precision t_conversion t_broken b_k1 hf H locs ls hP hD hS hl
    unfold k_Model_goOver_238 at hf
    refine va_put (D := gD G) (ci := 7) (v := .int k1) (ty := .boolean) (C := R_Model) (T := F_Model) (N := 29) hx hb hg in_Model t_Model to_Model no_Model hown hK hP hD hS 0 rfl rfl 21 (by decide) (hg _ m_418) (fun _ h9 => h9) rfl (by decide +kernel) (bl_n b_k1) (bl_f b_k1) (Nat.le_of_ble_eq_true rfl) d_Model_goOver_238 (fun H locs hP hD hS => ?_)
    have hP : va_P (gD G) vwCl (w_Model_clear G qt qt_draft t_draft t_drafted qt_result t_result t_length t_arguments qt_kinds t_kinds qt_values t_values qt_widths t_widths qt_below t_below qt_sizes t_sizes qt_scales t_scales qt_parts t_parts qt_texts t_texts qt_lengths t_lengths t_end t_index t_flags t_twice t_width t_precision t_conversion k1 qt_piece t_piece t_put t_head qt_tens t_tens t_count t_exponent qt_work t_work) H := hP
    have hD : va_D A (w_Model_clear G qt qt_draft t_draft t_drafted qt_result t_result t_length t_arguments qt_kinds t_kinds qt_values t_values qt_widths t_widths qt_below t_below qt_sizes t_sizes qt_scales t_scales qt_parts t_parts qt_texts t_texts qt_lengths t_lengths t_end t_index t_flags t_twice t_width t_precision t_conversion k1 qt_piece t_piece t_put t_head qt_tens t_tens t_count t_exponent qt_work t_work) := hD
    refine lv_aload_n hx hb d_Model_goOver_241 rfl (lv_at hl 0 rfl) ?_
    refine lv_aload_n hx hb d_Model_goOver_242 rfl (lv_at hl 0 rfl) ?_
    refine lv_iload_n hx hb d_Model_goOver_243 rfl (lv_at hl 1 rfl) ?_
    refine lv_iconst (v := 1) hx hb d_Model_goOver_244 (by decide) ?_
    refine lv_iadd hx hb d_Model_goOver_245 ?_
    refine lv_aload_n hx hb d_Model_goOver_246 rfl (lv_at hl 0 rfl) ?_
    refine lv_iload_n hx hb d_Model_goOver_247 rfl (lv_at hl 1 rfl) ?_
    refine lv_iconst (v := 1) hx hb d_Model_goOver_248 (by decide) ?_
    refine lv_iadd hx hb d_Model_goOver_249 ?_
    obtain ⟨u_250, hu_250, hf⟩ := bd_ hf
    refine CALLWi (va_runV (As := [.int (x2 + (1 : Int32))]) (rest := [.int (x2 + (1 : Int32)), .ref qt, .ref qt]) ⟨hx, hb, hml, hown, hg⟩ (c_Model_digitsEnd l G K qt qt_draft t_draft t_drafted qt_result t_result t_length t_arguments qt_kinds t_kinds qt_values t_values qt_widths t_widths qt_below t_below qt_sizes t_sizes qt_scales t_scales qt_parts t_parts qt_texts t_texts qt_lengths t_lengths t_end t_index t_flags t_twice t_width t_precision t_conversion k1 qt_piece t_piece t_put t_head qt_tens t_tens t_count t_exponent qt_work t_work (x2 + (1 : Int32)) _ u_250  hu_250) (cwV 1 hg (gV m_419 m_420 m_421 m_389 m_422) rfl rfl rfl (by decide +kernel) ⟨Nat.le_of_ble_eq_true rfl, Nat.le_of_ble_eq_true rfl⟩) ⟨PC_b, va_recv hK hP (ci := 7) (q0 := 0) rfl rfl, PC_p hE hS hAb hP hD⟩ rfl rfl hl.1 rfl (lv_room (Nat.le_of_ble_eq_true rfl)) d_Model_goOver_250 ⟨Nat.zero_le _, Nat.zero_le _⟩) hP hD hS hA (fun H locs hP hD hS => ?_)
    have hP : va_P (gD G) vwCl (w_Model_clear G qt qt_draft t_draft t_drafted qt_result t_result t_length t_arguments qt_kinds t_kinds qt_values t_values qt_widths t_widths qt_below t_below qt_sizes t_sizes qt_scales t_scales qt_parts t_parts qt_texts t_texts qt_lengths t_lengths t_end t_index t_flags t_twice t_width t_precision t_conversion k1 qt_piece t_piece t_put t_head qt_tens t_tens t_count t_exponent qt_work t_work) H := hP
    have hD : va_D A (w_Model_clear G qt qt_draft t_draft t_drafted qt_result t_result t_length t_arguments qt_kinds t_kinds qt_values t_values qt_widths t_widths qt_below t_below qt_sizes t_sizes qt_scales t_scales qt_parts t_parts qt_texts t_texts qt_lengths t_lengths t_end t_index t_flags t_twice t_width t_precision t_conversion k1 qt_piece t_piece t_put t_head qt_tens t_tens t_count t_exponent qt_work t_work) := hD
    obtain ⟨u_253, hu_253, hf⟩ := bd_ hf
    refine CALLWi (va_runV (As := [.int (x2 + (1 : Int32)), .int u_250]) (rest := [.ref qt]) ⟨hx, hb, hml, hown, hg⟩ (c_Model_said l G K qt qt_draft t_draft t_drafted qt_result t_result t_length t_arguments qt_kinds t_kinds qt_values t_values qt_widths t_widths qt_below t_below qt_sizes t_sizes qt_scales t_scales qt_parts t_parts qt_texts t_texts qt_lengths t_lengths t_end t_index t_flags t_twice t_width t_precision t_conversion k1 qt_piece t_piece t_put t_head qt_tens t_tens t_count t_exponent qt_work t_work (x2 + (1 : Int32)) u_250 _ u_253  hu_253) (cwV 2 hg (gV m_423 m_424 m_425 m_389 m_426) rfl rfl rfl (by decide +kernel) ⟨Nat.le_of_ble_eq_true rfl, Nat.le_of_ble_eq_true rfl⟩) ⟨PC_b, va_recv hK hP (ci := 7) (q0 := 0) rfl rfl, PC_p hE hS hAb hP hD⟩ rfl rfl hl.1 rfl (lv_room (Nat.le_of_ble_eq_true rfl)) d_Model_goOver_253 ⟨Nat.zero_le _, Nat.zero_le _⟩) hP hD hS hA (fun H locs hP hD hS => ?_)
    have hP : va_P (gD G) vwCl (w_Model_clear G qt qt_draft t_draft t_drafted qt_result t_result t_length t_arguments qt_kinds t_kinds qt_values t_values qt_widths t_widths qt_below t_below qt_sizes t_sizes qt_scales t_scales qt_parts t_parts qt_texts t_texts qt_lengths t_lengths t_end t_index t_flags t_twice t_width t_precision t_conversion k1 qt_piece t_piece t_put t_head qt_tens t_tens t_count t_exponent qt_work t_work) H := hP
    have hD : va_D A (w_Model_clear G qt qt_draft t_draft t_drafted qt_result t_result t_length t_arguments qt_kinds t_kinds qt_values t_values qt_widths t_widths qt_below t_below qt_sizes t_sizes qt_scales t_scales qt_parts t_parts qt_texts t_texts qt_lengths t_lengths t_end t_index t_flags t_twice t_width t_precision t_conversion k1 qt_piece t_piece t_put t_head qt_tens t_tens t_count t_exponent qt_work t_work) := hD
    refine va_put (D := gD G) (ci := 7) (v := .int u_253) (ty := .int) (C := R_Model) (T := F_Model) (N := 29) hx hb hg in_Model t_Model to_Model no_Model hown hK hP hD hS 0 rfl rfl 19 (by decide) (hg _ m_417) (fun _ h9 => h9) rfl (by decide +kernel) rfl rfl (Nat.le_of_ble_eq_true rfl) d_Model_goOver_256 (fun H locs hP hD hS => ?_)
    have hP : va_P (gD G) vwCl (w_Model_clear G qt qt_draft t_draft t_drafted qt_result t_result t_length t_arguments qt_kinds t_kinds qt_values t_values qt_widths t_widths qt_below t_below qt_sizes t_sizes qt_scales t_scales qt_parts t_parts qt_texts t_texts qt_lengths t_lengths t_end t_index t_flags t_twice t_width u_253 t_conversion k1 qt_piece t_piece t_put t_head qt_tens t_tens t_count t_exponent qt_work t_work) H := hP
    have hD : va_D A (w_Model_clear G qt qt_draft t_draft t_drafted qt_result t_result t_length t_arguments qt_kinds t_kinds qt_values t_values qt_widths t_widths qt_below t_below qt_sizes t_sizes qt_scales t_scales qt_parts t_parts qt_texts t_texts qt_lengths t_lengths t_end t_index t_flags t_twice t_width u_253 t_conversion k1 qt_piece t_piece t_put t_head qt_tens t_tens t_count t_exponent qt_work t_work) := hD
    refine lv_aload_n hx hb d_Model_goOver_259 rfl (lv_at hl 0 rfl) ?_
    refine lv_iload_n hx hb d_Model_goOver_260 rfl (lv_at hl 1 rfl) ?_
    refine lv_iconst (v := 1) hx hb d_Model_goOver_261 (by decide) ?_
    refine lv_iadd hx hb d_Model_goOver_262 ?_
    obtain ⟨u_263, hu_263, hf⟩ := bd_ hf
    refine CALLWi (va_runV (As := [.int (x2 + (1 : Int32))]) (rest := []) ⟨hx, hb, hml, hown, hg⟩ (c_Model_digitsEnd l G K qt qt_draft t_draft t_drafted qt_result t_result t_length t_arguments qt_kinds t_kinds qt_values t_values qt_widths t_widths qt_below t_below qt_sizes t_sizes qt_scales t_scales qt_parts t_parts qt_texts t_texts qt_lengths t_lengths t_end t_index t_flags t_twice t_width u_253 t_conversion k1 qt_piece t_piece t_put t_head qt_tens t_tens t_count t_exponent qt_work t_work (x2 + (1 : Int32)) _ u_263  hu_263) (cwV 1 hg (gV m_419 m_420 m_421 m_389 m_422) rfl rfl rfl (by decide +kernel) ⟨Nat.le_of_ble_eq_true rfl, Nat.le_of_ble_eq_true rfl⟩) ⟨PC_b, va_recv hK hP (ci := 7) (q0 := 0) rfl rfl, PC_p hE hS hAb hP hD⟩ rfl rfl hl.1 rfl (lv_room (Nat.le_of_ble_eq_true rfl)) d_Model_goOver_263 ⟨Nat.zero_le _, Nat.zero_le _⟩) hP hD hS hA (fun H locs hP hD hS => ?_)
    have hP : va_P (gD G) vwCl (w_Model_clear G qt qt_draft t_draft t_drafted qt_result t_result t_length t_arguments qt_kinds t_kinds qt_values t_values qt_widths t_widths qt_below t_below qt_sizes t_sizes qt_scales t_scales qt_parts t_parts qt_texts t_texts qt_lengths t_lengths t_end t_index t_flags t_twice t_width u_253 t_conversion k1 qt_piece t_piece t_put t_head qt_tens t_tens t_count t_exponent qt_work t_work) H := hP
    have hD : va_D A (w_Model_clear G qt qt_draft t_draft t_drafted qt_result t_result t_length t_arguments qt_kinds t_kinds qt_values t_values qt_widths t_widths qt_below t_below qt_sizes t_sizes qt_scales t_scales qt_parts t_parts qt_texts t_texts qt_lengths t_lengths t_end t_index t_flags t_twice t_width u_253 t_conversion k1 qt_piece t_piece t_put t_head qt_tens t_tens t_count t_exponent qt_work t_work) := hD
    refine lv_istore_n (lv' := [(2, .int u_263), (0, .ref qt)]) hx hb d_Model_goOver_266 rfl hl (by decide) rfl (fun ls hl => ?_)
    exact W_267 u_263 t_end t_index t_flags t_twice t_width u_253 t_conversion k1  hf _ _ _ hP hD hS (lv_sub hl [1, 0] rfl)
  have W_209 : ∀ (x2 : Int32) (t_end : Int32) (t_index : Int32) (t_flags : Int32) (t_twice : Int32) (t_width : Int32) (t_precision : Int32) (t_conversion : Int32) (t_broken : Int32) , k_Model_goOver_209 K t_draft t_drafted x2 t_end t_index t_flags t_twice t_width t_precision t_conversion t_broken = some res → ∀ (H : Heap) (locs : List Loc) (ls : Array Slot), va_P (gD G) vwCl (w_Model_clear G qt qt_draft t_draft t_drafted qt_result t_result t_length t_arguments qt_kinds t_kinds qt_values t_values qt_widths t_widths qt_below t_below qt_sizes t_sizes qt_scales t_scales qt_parts t_parts qt_texts t_texts qt_lengths t_lengths t_end t_index t_flags t_twice t_width t_precision t_conversion t_broken qt_piece t_piece t_put t_head qt_tens t_tens t_count t_exponent qt_work t_work) H → va_D A (w_Model_clear G qt qt_draft t_draft t_drafted qt_result t_result t_length t_arguments qt_kinds t_kinds qt_values t_values qt_widths t_widths qt_below t_below qt_sizes t_sizes qt_scales t_scales qt_parts t_parts qt_texts t_texts qt_lengths t_lengths t_end t_index t_flags t_twice t_width t_precision t_conversion t_broken qt_piece t_piece t_put t_head qt_tens t_tens t_count t_exponent qt_work t_work) → va_S A s.heap H locs → lv_has ls 3 [(0, .ref qt), (2, .int x2)] → W p l e { frames := 2, cells := 0, slots := 0, locals := 80 } s m ([.ref qt, .int a1] : List Value).toArray below meth c H locs 0 0 Q (F0 m 209 ls []) := by
    intro x2 t_end t_index t_flags t_twice t_width t_precision t_conversion t_broken  hf H locs ls hP hD hS hl
    unfold k_Model_goOver_209 at hf
    refine lv_aload_n hx hb d_Model_goOver_209 rfl (lv_at hl 0 rfl) ?_
    refine lv_iload_n hx hb d_Model_goOver_210 rfl (lv_at hl 1 rfl) ?_
    obtain ⟨u_211, hu_211, hf⟩ := bd_ hf
    refine CALLWi (va_runV (As := [.int x2]) (rest := []) ⟨hx, hb, hml, hown, hg⟩ (c_Model_look l G K qt qt_draft t_draft t_drafted qt_result t_result t_length t_arguments qt_kinds t_kinds qt_values t_values qt_widths t_widths qt_below t_below qt_sizes t_sizes qt_scales t_scales qt_parts t_parts qt_texts t_texts qt_lengths t_lengths t_end t_index t_flags t_twice t_width t_precision t_conversion t_broken qt_piece t_piece t_put t_head qt_tens t_tens t_count t_exponent qt_work t_work x2 _ u_211  hu_211) (cwV 1 hg (gV m_406 m_407 m_408 m_389 m_409) rfl rfl rfl (by decide +kernel) ⟨Nat.le_of_ble_eq_true rfl, Nat.le_of_ble_eq_true rfl⟩) ⟨PC_b, va_recv hK hP (ci := 7) (q0 := 0) rfl rfl, PC_p hE hS hAb hP hD⟩ rfl rfl hl.1 rfl (lv_room (Nat.le_of_ble_eq_true rfl)) d_Model_goOver_211 ⟨Nat.zero_le _, Nat.zero_le _⟩) hP hD hS hA (fun H locs hP hD hS => ?_)
    have hP : va_P (gD G) vwCl (w_Model_clear G qt qt_draft t_draft t_drafted qt_result t_result t_length t_arguments qt_kinds t_kinds qt_values t_values qt_widths t_widths qt_below t_below qt_sizes t_sizes qt_scales t_scales qt_parts t_parts qt_texts t_texts qt_lengths t_lengths t_end t_index t_flags t_twice t_width t_precision t_conversion t_broken qt_piece t_piece t_put t_head qt_tens t_tens t_count t_exponent qt_work t_work) H := hP
    have hD : va_D A (w_Model_clear G qt qt_draft t_draft t_drafted qt_result t_result t_length t_arguments qt_kinds t_kinds qt_values t_values qt_widths t_widths qt_below t_below qt_sizes t_sizes qt_scales t_scales qt_parts t_parts qt_texts t_texts qt_lengths t_lengths t_end t_index t_flags t_twice t_width t_precision t_conversion t_broken qt_piece t_piece t_put t_head qt_tens t_tens t_count t_exponent qt_work t_work) := hD
    refine lv_bipush (v := 46) hx hb d_Model_goOver_214 (by decide) ?_
    refine lv_icmp_ne (tgt := 267) hx hb d_Model_goOver_216 (by decide) (fun c_216 => ?_) (fun c_216 => ?_)
    · have hf := in_ c_216 hf
      exact W_267 x2 t_end t_index t_flags t_twice t_width t_precision t_conversion t_broken  hf _ _ _ hP hD hS (lv_sub hl [0, 1] rfl)
    · have hf := ip_ c_216 hf
      refine lv_aload_n hx hb d_Model_goOver_219 rfl (lv_at hl 0 rfl) ?_
      refine lv_aload_n hx hb d_Model_goOver_220 rfl (lv_at hl 0 rfl) ?_
      refine lv_iload_n hx hb d_Model_goOver_221 rfl (lv_at hl 1 rfl) ?_
      refine lv_iconst (v := 1) hx hb d_Model_goOver_222 (by decide) ?_
      refine lv_iadd hx hb d_Model_goOver_223 ?_
      obtain ⟨u_224, hu_224, hf⟩ := bd_ hf
      refine CALLWi (va_runV (As := [.int (x2 + (1 : Int32))]) (rest := [.ref qt]) ⟨hx, hb, hml, hown, hg⟩ (c_Model_look l G K qt qt_draft t_draft t_drafted qt_result t_result t_length t_arguments qt_kinds t_kinds qt_values t_values qt_widths t_widths qt_below t_below qt_sizes t_sizes qt_scales t_scales qt_parts t_parts qt_texts t_texts qt_lengths t_lengths t_end t_index t_flags t_twice t_width t_precision t_conversion t_broken qt_piece t_piece t_put t_head qt_tens t_tens t_count t_exponent qt_work t_work (x2 + (1 : Int32)) _ u_224  hu_224) (cwV 1 hg (gV m_406 m_407 m_408 m_389 m_409) rfl rfl rfl (by decide +kernel) ⟨Nat.le_of_ble_eq_true rfl, Nat.le_of_ble_eq_true rfl⟩) ⟨PC_b, va_recv hK hP (ci := 7) (q0 := 0) rfl rfl, PC_p hE hS hAb hP hD⟩ rfl rfl hl.1 rfl (lv_room (Nat.le_of_ble_eq_true rfl)) d_Model_goOver_224 ⟨Nat.zero_le _, Nat.zero_le _⟩) hP hD hS hA (fun H locs hP hD hS => ?_)
      have hP : va_P (gD G) vwCl (w_Model_clear G qt qt_draft t_draft t_drafted qt_result t_result t_length t_arguments qt_kinds t_kinds qt_values t_values qt_widths t_widths qt_below t_below qt_sizes t_sizes qt_scales t_scales qt_parts t_parts qt_texts t_texts qt_lengths t_lengths t_end t_index t_flags t_twice t_width t_precision t_conversion t_broken qt_piece t_piece t_put t_head qt_tens t_tens t_count t_exponent qt_work t_work) H := hP
      have hD : va_D A (w_Model_clear G qt qt_draft t_draft t_drafted qt_result t_result t_length t_arguments qt_kinds t_kinds qt_values t_values qt_widths t_widths qt_below t_below qt_sizes t_sizes qt_scales t_scales qt_parts t_parts qt_texts t_texts qt_lengths t_lengths t_end t_index t_flags t_twice t_width t_precision t_conversion t_broken qt_piece t_piece t_put t_head qt_tens t_tens t_count t_exponent qt_work t_work) := hD
      obtain ⟨u_227, hu_227, hf⟩ := bd_ hf
      refine CALLz (va_runS (As := [.int u_224]) (rest := [.ref qt]) ⟨hx, hb, hml, hown, hg⟩ (c_Model_isDigit l G K u_224 _ u_227  hu_227) (va_cwS 1 hg (gS m_410 m_411 m_389 m_412) rfl rfl rfl (by decide +kernel) ⟨Nat.le_of_ble_eq_true rfl, Nat.le_of_ble_eq_true rfl⟩) ⟨PC_b, PC_p hE hS hAb (hP.sub [] rfl) (hD.sub [] (by decide) rfl)⟩ rfl rfl hl.1 rfl (lv_room (Nat.le_of_ble_eq_true rfl)) d_Model_goOver_227 ⟨Nat.zero_le _, Nat.zero_le _⟩) hP hD hS hA [] rfl rfl rfl (fun bu_227 H locs hP hD hS => ?_)
      have hP : va_P (gD G) vwCl (w_Model_clear G qt qt_draft t_draft t_drafted qt_result t_result t_length t_arguments qt_kinds t_kinds qt_values t_values qt_widths t_widths qt_below t_below qt_sizes t_sizes qt_scales t_scales qt_parts t_parts qt_texts t_texts qt_lengths t_lengths t_end t_index t_flags t_twice t_width t_precision t_conversion t_broken qt_piece t_piece t_put t_head qt_tens t_tens t_count t_exponent qt_work t_work) H := hP
      have hD : va_D A (w_Model_clear G qt qt_draft t_draft t_drafted qt_result t_result t_length t_arguments qt_kinds t_kinds qt_values t_values qt_widths t_widths qt_below t_below qt_sizes t_sizes qt_scales t_scales qt_parts t_parts qt_texts t_texts qt_lengths t_lengths t_end t_index t_flags t_twice t_width t_precision t_conversion t_broken qt_piece t_piece t_put t_head qt_tens t_tens t_count t_exponent qt_work t_work) := hD
      refine lv_if_ne (tgt := 237) hx hb d_Model_goOver_230 (by decide) (fun c_230 => ?_) (fun c_230 => ?_)
      · have hf := in_ c_230 hf
        refine lv_iconst (v := 0) hx hb d_Model_goOver_237 (by decide) ?_
        exact W_238 x2 (0 : Int32) t_end t_index t_flags t_twice t_width t_precision t_conversion t_broken bl_0 hf _ _ _ hP hD hS (lv_sub hl [0, 1] rfl)
      · have hf := ip_ c_230 hf
        refine lv_iconst (v := 1) hx hb d_Model_goOver_233 (by decide) ?_
        refine lv_goto (tgt := 238) hx hb d_Model_goOver_234 (by decide) ?_
        exact W_238 x2 (1 : Int32) t_end t_index t_flags t_twice t_width t_precision t_conversion t_broken bl_1 hf _ _ _ hP hD hS (lv_sub hl [0, 1] rfl)
  have W_112 : ∀ (t_end : Int32) (t_index : Int32) (t_width : Int32) (t_precision : Int32) (t_conversion : Int32) (t_broken : Int32)  (n_112 : Nat) (z112 : Int32 × Int32 × Int32) , lp_ (b_Model_goOver_112 K t_draft t_drafted t_end t_index t_width t_precision t_conversion t_broken) n_112 z112 = some res → ∀ (H : Heap) (locs : List Loc) (ls : Array Slot), va_P (gD G) vwCl (w_Model_clear G qt qt_draft t_draft t_drafted qt_result t_result t_length t_arguments qt_kinds t_kinds qt_values t_values qt_widths t_widths qt_below t_below qt_sizes t_sizes qt_scales t_scales qt_parts t_parts qt_texts t_texts qt_lengths t_lengths t_end t_index z112.2.1 z112.2.2 t_width t_precision t_conversion t_broken qt_piece t_piece t_put t_head qt_tens t_tens t_count t_exponent qt_work t_work) H → va_D A (w_Model_clear G qt qt_draft t_draft t_drafted qt_result t_result t_length t_arguments qt_kinds t_kinds qt_values t_values qt_widths t_widths qt_below t_below qt_sizes t_sizes qt_scales t_scales qt_parts t_parts qt_texts t_texts qt_lengths t_lengths t_end t_index z112.2.1 z112.2.2 t_width t_precision t_conversion t_broken qt_piece t_piece t_put t_head qt_tens t_tens t_count t_exponent qt_work t_work) → va_S A s.heap H locs → lv_has ls 3 [(0, .ref qt), (2, .int z112.1)] → W p l e { frames := 2, cells := 0, slots := 0, locals := 80 } s m ([.ref qt, .int a1] : List Value).toArray below meth c H locs 0 0 Q (F0 m 112 ls []) := by
    intro t_end t_index t_width t_precision t_conversion t_broken n_112
    induction n_112 with
    | zero =>
      intro z112  hf
      cases hf
    | succ n_112 ih_112 =>
      intro z112  hf H locs ls hP hD hS hl
      have hf : b_Model_goOver_112 K t_draft t_drafted t_end t_index t_width t_precision t_conversion t_broken (lp_ (b_Model_goOver_112 K t_draft t_drafted t_end t_index t_width t_precision t_conversion t_broken) n_112) z112 = some res := hf
      generalize lp_ (b_Model_goOver_112 K t_draft t_drafted t_end t_index t_width t_precision t_conversion t_broken) n_112 = rec_112 at hf ih_112
      have W_152 : ∀ (x2 : Int32) (k1 : Int32) (t_flags : Int32) (t_twice : Int32) (b_k1 : bl k1), k_Model_goOver_152 t_draft t_drafted rec_112 x2 k1 t_flags t_twice = some res → ∀ (H : Heap) (locs : List Loc) (ls : Array Slot), va_P (gD G) vwCl (w_Model_clear G qt qt_draft t_draft t_drafted qt_result t_result t_length t_arguments qt_kinds t_kinds qt_values t_values qt_widths t_widths qt_below t_below qt_sizes t_sizes qt_scales t_scales qt_parts t_parts qt_texts t_texts qt_lengths t_lengths t_end t_index t_flags t_twice t_width t_precision t_conversion t_broken qt_piece t_piece t_put t_head qt_tens t_tens t_count t_exponent qt_work t_work) H → va_D A (w_Model_clear G qt qt_draft t_draft t_drafted qt_result t_result t_length t_arguments qt_kinds t_kinds qt_values t_values qt_widths t_widths qt_below t_below qt_sizes t_sizes qt_scales t_scales qt_parts t_parts qt_texts t_texts qt_lengths t_lengths t_end t_index t_flags t_twice t_width t_precision t_conversion t_broken qt_piece t_piece t_put t_head qt_tens t_tens t_count t_exponent qt_work t_work) → va_S A s.heap H locs → lv_has ls 3 [(0, .ref qt), (2, .int x2)] → W p l e { frames := 2, cells := 0, slots := 0, locals := 80 } s m ([.ref qt, .int a1] : List Value).toArray below meth c H locs 0 0 Q (F0 m 152 ls [.int k1, .ref qt]) := by
        intro x2 k1 t_flags t_twice b_k1 hf H locs ls hP hD hS hl
        unfold k_Model_goOver_152 at hf
        refine va_put (D := gD G) (ci := 7) (v := .int k1) (ty := .boolean) (C := R_Model) (T := F_Model) (N := 29) hx hb hg in_Model t_Model to_Model no_Model hown hK hP hD hS 0 rfl rfl 17 (by decide) (hg _ m_415) (fun _ h9 => h9) rfl (by decide +kernel) (bl_n b_k1) (bl_f b_k1) (Nat.le_of_ble_eq_true rfl) d_Model_goOver_152 (fun H locs hP hD hS => ?_)
        have hP : va_P (gD G) vwCl (w_Model_clear G qt qt_draft t_draft t_drafted qt_result t_result t_length t_arguments qt_kinds t_kinds qt_values t_values qt_widths t_widths qt_below t_below qt_sizes t_sizes qt_scales t_scales qt_parts t_parts qt_texts t_texts qt_lengths t_lengths t_end t_index t_flags k1 t_width t_precision t_conversion t_broken qt_piece t_piece t_put t_head qt_tens t_tens t_count t_exponent qt_work t_work) H := hP
        have hD : va_D A (w_Model_clear G qt qt_draft t_draft t_drafted qt_result t_result t_length t_arguments qt_kinds t_kinds qt_values t_values qt_widths t_widths qt_below t_below qt_sizes t_sizes qt_scales t_scales qt_parts t_parts qt_texts t_texts qt_lengths t_lengths t_end t_index t_flags k1 t_width t_precision t_conversion t_broken qt_piece t_piece t_put t_head qt_tens t_tens t_count t_exponent qt_work t_work) := hD
        refine lv_aload_n hx hb d_Model_goOver_155 rfl (lv_at hl 0 rfl) ?_
        refine lv_aload_n hx hb d_Model_goOver_156 rfl (lv_at hl 0 rfl) ?_
        refine va_get (D := gD G) (ci := 7) (v := .int t_flags) (C := R_Model) (T := F_Model) (N := 29) hx hb hg in_Model hown hK hP 0 rfl rfl 16 (by decide) (hg _ m_414) (fun _ h9 => h9) rfl d_Model_goOver_157 ?_
        refine lv_aload_n hx hb d_Model_goOver_160 rfl (lv_at hl 0 rfl) ?_
        refine lv_iload_n hx hb d_Model_goOver_161 rfl (lv_at hl 1 rfl) ?_
        obtain ⟨u_162, hu_162, hf⟩ := bd_ hf
        refine CALLWi (va_runV (As := [.int x2]) (rest := [.int t_flags, .ref qt]) ⟨hx, hb, hml, hown, hg⟩ (c_Model_look l G K qt qt_draft t_draft t_drafted qt_result t_result t_length t_arguments qt_kinds t_kinds qt_values t_values qt_widths t_widths qt_below t_below qt_sizes t_sizes qt_scales t_scales qt_parts t_parts qt_texts t_texts qt_lengths t_lengths t_end t_index t_flags k1 t_width t_precision t_conversion t_broken qt_piece t_piece t_put t_head qt_tens t_tens t_count t_exponent qt_work t_work x2 _ u_162  hu_162) (cwV 1 hg (gV m_406 m_407 m_408 m_389 m_409) rfl rfl rfl (by decide +kernel) ⟨Nat.le_of_ble_eq_true rfl, Nat.le_of_ble_eq_true rfl⟩) ⟨PC_b, va_recv hK hP (ci := 7) (q0 := 0) rfl rfl, PC_p hE hS hAb hP hD⟩ rfl rfl hl.1 rfl (lv_room (Nat.le_of_ble_eq_true rfl)) d_Model_goOver_162 ⟨Nat.zero_le _, Nat.zero_le _⟩) hP hD hS hA (fun H locs hP hD hS => ?_)
        have hP : va_P (gD G) vwCl (w_Model_clear G qt qt_draft t_draft t_drafted qt_result t_result t_length t_arguments qt_kinds t_kinds qt_values t_values qt_widths t_widths qt_below t_below qt_sizes t_sizes qt_scales t_scales qt_parts t_parts qt_texts t_texts qt_lengths t_lengths t_end t_index t_flags k1 t_width t_precision t_conversion t_broken qt_piece t_piece t_put t_head qt_tens t_tens t_count t_exponent qt_work t_work) H := hP
        have hD : va_D A (w_Model_clear G qt qt_draft t_draft t_drafted qt_result t_result t_length t_arguments qt_kinds t_kinds qt_values t_values qt_widths t_widths qt_below t_below qt_sizes t_sizes qt_scales t_scales qt_parts t_parts qt_texts t_texts qt_lengths t_lengths t_end t_index t_flags k1 t_width t_precision t_conversion t_broken qt_piece t_piece t_put t_head qt_tens t_tens t_count t_exponent qt_work t_work) := hD
        obtain ⟨u_165, hu_165, hf⟩ := bd_ hf
        refine CALLi (va_runS (As := [.int u_162]) (rest := [.int t_flags, .ref qt]) ⟨hx, hb, hml, hown, hg⟩ (c_Model_flagOf l G K u_162 _ u_165  hu_165) (va_cwS 1 hg (gS m_427 m_428 m_389 m_429) rfl rfl rfl (by decide +kernel) ⟨Nat.le_of_ble_eq_true rfl, Nat.le_of_ble_eq_true rfl⟩) ⟨PC_b, PC_p hE hS hAb (hP.sub [] rfl) (hD.sub [] (by decide) rfl)⟩ rfl rfl hl.1 rfl (lv_room (Nat.le_of_ble_eq_true rfl)) d_Model_goOver_165 ⟨Nat.zero_le _, Nat.zero_le _⟩) hP hD hS hA [] rfl rfl rfl (fun H locs hP hD hS => ?_)
        have hP : va_P (gD G) vwCl (w_Model_clear G qt qt_draft t_draft t_drafted qt_result t_result t_length t_arguments qt_kinds t_kinds qt_values t_values qt_widths t_widths qt_below t_below qt_sizes t_sizes qt_scales t_scales qt_parts t_parts qt_texts t_texts qt_lengths t_lengths t_end t_index t_flags k1 t_width t_precision t_conversion t_broken qt_piece t_piece t_put t_head qt_tens t_tens t_count t_exponent qt_work t_work) H := hP
        have hD : va_D A (w_Model_clear G qt qt_draft t_draft t_drafted qt_result t_result t_length t_arguments qt_kinds t_kinds qt_values t_values qt_widths t_widths qt_below t_below qt_sizes t_sizes qt_scales t_scales qt_parts t_parts qt_texts t_texts qt_lengths t_lengths t_end t_index t_flags k1 t_width t_precision t_conversion t_broken qt_piece t_piece t_put t_head qt_tens t_tens t_count t_exponent qt_work t_work) := hD
        refine lv_ior hx hb d_Model_goOver_168 ?_
        refine va_put (D := gD G) (ci := 7) (v := .int (t_flags ||| u_165)) (ty := .int) (C := R_Model) (T := F_Model) (N := 29) hx hb hg in_Model t_Model to_Model no_Model hown hK hP hD hS 0 rfl rfl 16 (by decide) (hg _ m_414) (fun _ h9 => h9) rfl (by decide +kernel) rfl rfl (Nat.le_of_ble_eq_true rfl) d_Model_goOver_169 (fun H locs hP hD hS => ?_)
        have hP : va_P (gD G) vwCl (w_Model_clear G qt qt_draft t_draft t_drafted qt_result t_result t_length t_arguments qt_kinds t_kinds qt_values t_values qt_widths t_widths qt_below t_below qt_sizes t_sizes qt_scales t_scales qt_parts t_parts qt_texts t_texts qt_lengths t_lengths t_end t_index (t_flags ||| u_165) k1 t_width t_precision t_conversion t_broken qt_piece t_piece t_put t_head qt_tens t_tens t_count t_exponent qt_work t_work) H := hP
        have hD : va_D A (w_Model_clear G qt qt_draft t_draft t_drafted qt_result t_result t_length t_arguments qt_kinds t_kinds qt_values t_values qt_widths t_widths qt_below t_below qt_sizes t_sizes qt_scales t_scales qt_parts t_parts qt_texts t_texts qt_lengths t_lengths t_end t_index (t_flags ||| u_165) k1 t_width t_precision t_conversion t_broken qt_piece t_piece t_put t_head qt_tens t_tens t_count t_exponent qt_work t_work) := hD
        refine lv_iinc (v := (x2 + 1)) (lv' := [(2, .int (x2 + 1)), (0, .ref qt)]) hx hb d_Model_goOver_172 hl (k := 1) rfl rfl (by decide) rfl (fun ls hl => ?_)
        refine lv_goto (tgt := 112) hx hb d_Model_goOver_175 (by decide) ?_
        exact ih_112 ((x2 + 1), (t_flags ||| u_165), k1)  hf _ _ _ hP hD hS (lv_sub hl [1, 0] rfl)
      have W_147 : ∀ (x2 : Int32) (t_flags : Int32) (t_twice : Int32) , k_Model_goOver_147 t_draft t_drafted rec_112 x2 t_flags t_twice = some res → ∀ (H : Heap) (locs : List Loc) (ls : Array Slot), va_P (gD G) vwCl (w_Model_clear G qt qt_draft t_draft t_drafted qt_result t_result t_length t_arguments qt_kinds t_kinds qt_values t_values qt_widths t_widths qt_below t_below qt_sizes t_sizes qt_scales t_scales qt_parts t_parts qt_texts t_texts qt_lengths t_lengths t_end t_index t_flags t_twice t_width t_precision t_conversion t_broken qt_piece t_piece t_put t_head qt_tens t_tens t_count t_exponent qt_work t_work) H → va_D A (w_Model_clear G qt qt_draft t_draft t_drafted qt_result t_result t_length t_arguments qt_kinds t_kinds qt_values t_values qt_widths t_widths qt_below t_below qt_sizes t_sizes qt_scales t_scales qt_parts t_parts qt_texts t_texts qt_lengths t_lengths t_end t_index t_flags t_twice t_width t_precision t_conversion t_broken qt_piece t_piece t_put t_head qt_tens t_tens t_count t_exponent qt_work t_work) → va_S A s.heap H locs → lv_has ls 3 [(0, .ref qt), (2, .int x2)] → W p l e { frames := 2, cells := 0, slots := 0, locals := 80 } s m ([.ref qt, .int a1] : List Value).toArray below meth c H locs 0 0 Q (F0 m 147 ls [.ref qt]) := by
        intro x2 t_flags t_twice  hf H locs ls hP hD hS hl
        unfold k_Model_goOver_147 at hf
        refine lv_iconst (v := 1) hx hb d_Model_goOver_147 (by decide) ?_
        refine lv_goto (tgt := 152) hx hb d_Model_goOver_148 (by decide) ?_
        exact W_152 x2 (1 : Int32) t_flags t_twice bl_1 hf _ _ _ hP hD hS (lv_sub hl [0, 1] rfl)
      unfold b_Model_goOver_112 at hf
      refine lv_aload_n hx hb d_Model_goOver_112 rfl (lv_at hl 0 rfl) ?_
      refine lv_iload_n hx hb d_Model_goOver_113 rfl (lv_at hl 1 rfl) ?_
      obtain ⟨u_114, hu_114, hf⟩ := bd_ hf
      refine CALLWi (va_runV (As := [.int z112.1]) (rest := []) ⟨hx, hb, hml, hown, hg⟩ (c_Model_look l G K qt qt_draft t_draft t_drafted qt_result t_result t_length t_arguments qt_kinds t_kinds qt_values t_values qt_widths t_widths qt_below t_below qt_sizes t_sizes qt_scales t_scales qt_parts t_parts qt_texts t_texts qt_lengths t_lengths t_end t_index z112.2.1 z112.2.2 t_width t_precision t_conversion t_broken qt_piece t_piece t_put t_head qt_tens t_tens t_count t_exponent qt_work t_work z112.1 _ u_114  hu_114) (cwV 1 hg (gV m_406 m_407 m_408 m_389 m_409) rfl rfl rfl (by decide +kernel) ⟨Nat.le_of_ble_eq_true rfl, Nat.le_of_ble_eq_true rfl⟩) ⟨PC_b, va_recv hK hP (ci := 7) (q0 := 0) rfl rfl, PC_p hE hS hAb hP hD⟩ rfl rfl hl.1 rfl (lv_room (Nat.le_of_ble_eq_true rfl)) d_Model_goOver_114 ⟨Nat.zero_le _, Nat.zero_le _⟩) hP hD hS hA (fun H locs hP hD hS => ?_)
      have hP : va_P (gD G) vwCl (w_Model_clear G qt qt_draft t_draft t_drafted qt_result t_result t_length t_arguments qt_kinds t_kinds qt_values t_values qt_widths t_widths qt_below t_below qt_sizes t_sizes qt_scales t_scales qt_parts t_parts qt_texts t_texts qt_lengths t_lengths t_end t_index z112.2.1 z112.2.2 t_width t_precision t_conversion t_broken qt_piece t_piece t_put t_head qt_tens t_tens t_count t_exponent qt_work t_work) H := hP
      have hD : va_D A (w_Model_clear G qt qt_draft t_draft t_drafted qt_result t_result t_length t_arguments qt_kinds t_kinds qt_values t_values qt_widths t_widths qt_below t_below qt_sizes t_sizes qt_scales t_scales qt_parts t_parts qt_texts t_texts qt_lengths t_lengths t_end t_index z112.2.1 z112.2.2 t_width t_precision t_conversion t_broken qt_piece t_piece t_put t_head qt_tens t_tens t_count t_exponent qt_work t_work) := hD
      obtain ⟨u_117, hu_117, hf⟩ := bd_ hf
      refine CALLi (va_runS (As := [.int u_114]) (rest := []) ⟨hx, hb, hml, hown, hg⟩ (c_Model_flagOf l G K u_114 _ u_117  hu_117) (va_cwS 1 hg (gS m_427 m_428 m_389 m_429) rfl rfl rfl (by decide +kernel) ⟨Nat.le_of_ble_eq_true rfl, Nat.le_of_ble_eq_true rfl⟩) ⟨PC_b, PC_p hE hS hAb (hP.sub [] rfl) (hD.sub [] (by decide) rfl)⟩ rfl rfl hl.1 rfl (lv_room (Nat.le_of_ble_eq_true rfl)) d_Model_goOver_117 ⟨Nat.zero_le _, Nat.zero_le _⟩) hP hD hS hA [] rfl rfl rfl (fun H locs hP hD hS => ?_)
      have hP : va_P (gD G) vwCl (w_Model_clear G qt qt_draft t_draft t_drafted qt_result t_result t_length t_arguments qt_kinds t_kinds qt_values t_values qt_widths t_widths qt_below t_below qt_sizes t_sizes qt_scales t_scales qt_parts t_parts qt_texts t_texts qt_lengths t_lengths t_end t_index z112.2.1 z112.2.2 t_width t_precision t_conversion t_broken qt_piece t_piece t_put t_head qt_tens t_tens t_count t_exponent qt_work t_work) H := hP
      have hD : va_D A (w_Model_clear G qt qt_draft t_draft t_drafted qt_result t_result t_length t_arguments qt_kinds t_kinds qt_values t_values qt_widths t_widths qt_below t_below qt_sizes t_sizes qt_scales t_scales qt_parts t_parts qt_texts t_texts qt_lengths t_lengths t_end t_index z112.2.1 z112.2.2 t_width t_precision t_conversion t_broken qt_piece t_piece t_put t_head qt_tens t_tens t_count t_exponent qt_work t_work) := hD
      refine lv_if_eq (tgt := 178) hx hb d_Model_goOver_120 (by decide) (fun c_120 => ?_) (fun c_120 => ?_)
      · have hf := ip_ c_120 hf
        refine lv_aload_n hx hb d_Model_goOver_178 rfl (lv_at hl 0 rfl) ?_
        refine lv_iload_n hx hb d_Model_goOver_179 rfl (lv_at hl 1 rfl) ?_
        obtain ⟨u_180, hu_180, hf⟩ := bd_ hf
        refine CALLWi (va_runV (As := [.int z112.1]) (rest := []) ⟨hx, hb, hml, hown, hg⟩ (c_Model_look l G K qt qt_draft t_draft t_drafted qt_result t_result t_length t_arguments qt_kinds t_kinds qt_values t_values qt_widths t_widths qt_below t_below qt_sizes t_sizes qt_scales t_scales qt_parts t_parts qt_texts t_texts qt_lengths t_lengths t_end t_index z112.2.1 z112.2.2 t_width t_precision t_conversion t_broken qt_piece t_piece t_put t_head qt_tens t_tens t_count t_exponent qt_work t_work z112.1 _ u_180  hu_180) (cwV 1 hg (gV m_406 m_407 m_408 m_389 m_409) rfl rfl rfl (by decide +kernel) ⟨Nat.le_of_ble_eq_true rfl, Nat.le_of_ble_eq_true rfl⟩) ⟨PC_b, va_recv hK hP (ci := 7) (q0 := 0) rfl rfl, PC_p hE hS hAb hP hD⟩ rfl rfl hl.1 rfl (lv_room (Nat.le_of_ble_eq_true rfl)) d_Model_goOver_180 ⟨Nat.zero_le _, Nat.zero_le _⟩) hP hD hS hA (fun H locs hP hD hS => ?_)
        have hP : va_P (gD G) vwCl (w_Model_clear G qt qt_draft t_draft t_drafted qt_result t_result t_length t_arguments qt_kinds t_kinds qt_values t_values qt_widths t_widths qt_below t_below qt_sizes t_sizes qt_scales t_scales qt_parts t_parts qt_texts t_texts qt_lengths t_lengths t_end t_index z112.2.1 z112.2.2 t_width t_precision t_conversion t_broken qt_piece t_piece t_put t_head qt_tens t_tens t_count t_exponent qt_work t_work) H := hP
        have hD : va_D A (w_Model_clear G qt qt_draft t_draft t_drafted qt_result t_result t_length t_arguments qt_kinds t_kinds qt_values t_values qt_widths t_widths qt_below t_below qt_sizes t_sizes qt_scales t_scales qt_parts t_parts qt_texts t_texts qt_lengths t_lengths t_end t_index z112.2.1 z112.2.2 t_width t_precision t_conversion t_broken qt_piece t_piece t_put t_head qt_tens t_tens t_count t_exponent qt_work t_work) := hD
        obtain ⟨u_183, hu_183, hf⟩ := bd_ hf
        refine CALLz (va_runS (As := [.int u_180]) (rest := []) ⟨hx, hb, hml, hown, hg⟩ (c_Model_isDigit l G K u_180 _ u_183  hu_183) (va_cwS 1 hg (gS m_410 m_411 m_389 m_412) rfl rfl rfl (by decide +kernel) ⟨Nat.le_of_ble_eq_true rfl, Nat.le_of_ble_eq_true rfl⟩) ⟨PC_b, PC_p hE hS hAb (hP.sub [] rfl) (hD.sub [] (by decide) rfl)⟩ rfl rfl hl.1 rfl (lv_room (Nat.le_of_ble_eq_true rfl)) d_Model_goOver_183 ⟨Nat.zero_le _, Nat.zero_le _⟩) hP hD hS hA [] rfl rfl rfl (fun bu_183 H locs hP hD hS => ?_)
        have hP : va_P (gD G) vwCl (w_Model_clear G qt qt_draft t_draft t_drafted qt_result t_result t_length t_arguments qt_kinds t_kinds qt_values t_values qt_widths t_widths qt_below t_below qt_sizes t_sizes qt_scales t_scales qt_parts t_parts qt_texts t_texts qt_lengths t_lengths t_end t_index z112.2.1 z112.2.2 t_width t_precision t_conversion t_broken qt_piece t_piece t_put t_head qt_tens t_tens t_count t_exponent qt_work t_work) H := hP
        have hD : va_D A (w_Model_clear G qt qt_draft t_draft t_drafted qt_result t_result t_length t_arguments qt_kinds t_kinds qt_values t_values qt_widths t_widths qt_below t_below qt_sizes t_sizes qt_scales t_scales qt_parts t_parts qt_texts t_texts qt_lengths t_lengths t_end t_index z112.2.1 z112.2.2 t_width t_precision t_conversion t_broken qt_piece t_piece t_put t_head qt_tens t_tens t_count t_exponent qt_work t_work) := hD
        refine lv_if_eq (tgt := 209) hx hb d_Model_goOver_186 (by decide) (fun c_186 => ?_) (fun c_186 => ?_)
        · have hf := ip_ c_186 hf
          exact W_209 z112.1 t_end t_index z112.2.1 z112.2.2 t_width t_precision t_conversion t_broken  hf _ _ _ hP hD hS (lv_sub hl [0, 1] rfl)
        · have hf := in_ c_186 hf
          refine lv_aload_n hx hb d_Model_goOver_189 rfl (lv_at hl 0 rfl) ?_
          refine lv_aload_n hx hb d_Model_goOver_190 rfl (lv_at hl 0 rfl) ?_
          refine lv_iload_n hx hb d_Model_goOver_191 rfl (lv_at hl 1 rfl) ?_
          refine lv_aload_n hx hb d_Model_goOver_192 rfl (lv_at hl 0 rfl) ?_
          refine lv_iload_n hx hb d_Model_goOver_193 rfl (lv_at hl 1 rfl) ?_
          obtain ⟨u_194, hu_194, hf⟩ := bd_ hf
          refine CALLWi (va_runV (As := [.int z112.1]) (rest := [.int z112.1, .ref qt, .ref qt]) ⟨hx, hb, hml, hown, hg⟩ (c_Model_digitsEnd l G K qt qt_draft t_draft t_drafted qt_result t_result t_length t_arguments qt_kinds t_kinds qt_values t_values qt_widths t_widths qt_below t_below qt_sizes t_sizes qt_scales t_scales qt_parts t_parts qt_texts t_texts qt_lengths t_lengths t_end t_index z112.2.1 z112.2.2 t_width t_precision t_conversion t_broken qt_piece t_piece t_put t_head qt_tens t_tens t_count t_exponent qt_work t_work z112.1 _ u_194  hu_194) (cwV 1 hg (gV m_419 m_420 m_421 m_389 m_422) rfl rfl rfl (by decide +kernel) ⟨Nat.le_of_ble_eq_true rfl, Nat.le_of_ble_eq_true rfl⟩) ⟨PC_b, va_recv hK hP (ci := 7) (q0 := 0) rfl rfl, PC_p hE hS hAb hP hD⟩ rfl rfl hl.1 rfl (lv_room (Nat.le_of_ble_eq_true rfl)) d_Model_goOver_194 ⟨Nat.zero_le _, Nat.zero_le _⟩) hP hD hS hA (fun H locs hP hD hS => ?_)
          have hP : va_P (gD G) vwCl (w_Model_clear G qt qt_draft t_draft t_drafted qt_result t_result t_length t_arguments qt_kinds t_kinds qt_values t_values qt_widths t_widths qt_below t_below qt_sizes t_sizes qt_scales t_scales qt_parts t_parts qt_texts t_texts qt_lengths t_lengths t_end t_index z112.2.1 z112.2.2 t_width t_precision t_conversion t_broken qt_piece t_piece t_put t_head qt_tens t_tens t_count t_exponent qt_work t_work) H := hP
          have hD : va_D A (w_Model_clear G qt qt_draft t_draft t_drafted qt_result t_result t_length t_arguments qt_kinds t_kinds qt_values t_values qt_widths t_widths qt_below t_below qt_sizes t_sizes qt_scales t_scales qt_parts t_parts qt_texts t_texts qt_lengths t_lengths t_end t_index z112.2.1 z112.2.2 t_width t_precision t_conversion t_broken qt_piece t_piece t_put t_head qt_tens t_tens t_count t_exponent qt_work t_work) := hD
          obtain ⟨u_197, hu_197, hf⟩ := bd_ hf
          refine CALLWi (va_runV (As := [.int z112.1, .int u_194]) (rest := [.ref qt]) ⟨hx, hb, hml, hown, hg⟩ (c_Model_said l G K qt qt_draft t_draft t_drafted qt_result t_result t_length t_arguments qt_kinds t_kinds qt_values t_values qt_widths t_widths qt_below t_below qt_sizes t_sizes qt_scales t_scales qt_parts t_parts qt_texts t_texts qt_lengths t_lengths t_end t_index z112.2.1 z112.2.2 t_width t_precision t_conversion t_broken qt_piece t_piece t_put t_head qt_tens t_tens t_count t_exponent qt_work t_work z112.1 u_194 _ u_197  hu_197) (cwV 2 hg (gV m_423 m_424 m_425 m_389 m_426) rfl rfl rfl (by decide +kernel) ⟨Nat.le_of_ble_eq_true rfl, Nat.le_of_ble_eq_true rfl⟩) ⟨PC_b, va_recv hK hP (ci := 7) (q0 := 0) rfl rfl, PC_p hE hS hAb hP hD⟩ rfl rfl hl.1 rfl (lv_room (Nat.le_of_ble_eq_true rfl)) d_Model_goOver_197 ⟨Nat.zero_le _, Nat.zero_le _⟩) hP hD hS hA (fun H locs hP hD hS => ?_)
          have hP : va_P (gD G) vwCl (w_Model_clear G qt qt_draft t_draft t_drafted qt_result t_result t_length t_arguments qt_kinds t_kinds qt_values t_values qt_widths t_widths qt_below t_below qt_sizes t_sizes qt_scales t_scales qt_parts t_parts qt_texts t_texts qt_lengths t_lengths t_end t_index z112.2.1 z112.2.2 t_width t_precision t_conversion t_broken qt_piece t_piece t_put t_head qt_tens t_tens t_count t_exponent qt_work t_work) H := hP
          have hD : va_D A (w_Model_clear G qt qt_draft t_draft t_drafted qt_result t_result t_length t_arguments qt_kinds t_kinds qt_values t_values qt_widths t_widths qt_below t_below qt_sizes t_sizes qt_scales t_scales qt_parts t_parts qt_texts t_texts qt_lengths t_lengths t_end t_index z112.2.1 z112.2.2 t_width t_precision t_conversion t_broken qt_piece t_piece t_put t_head qt_tens t_tens t_count t_exponent qt_work t_work) := hD
          refine va_put (D := gD G) (ci := 7) (v := .int u_197) (ty := .int) (C := R_Model) (T := F_Model) (N := 29) hx hb hg in_Model t_Model to_Model no_Model hown hK hP hD hS 0 rfl rfl 18 (by decide) (hg _ m_416) (fun _ h9 => h9) rfl (by decide +kernel) rfl rfl (Nat.le_of_ble_eq_true rfl) d_Model_goOver_200 (fun H locs hP hD hS => ?_)
          have hP : va_P (gD G) vwCl (w_Model_clear G qt qt_draft t_draft t_drafted qt_result t_result t_length t_arguments qt_kinds t_kinds qt_values t_values qt_widths t_widths qt_below t_below qt_sizes t_sizes qt_scales t_scales qt_parts t_parts qt_texts t_texts qt_lengths t_lengths t_end t_index z112.2.1 z112.2.2 u_197 t_precision t_conversion t_broken qt_piece t_piece t_put t_head qt_tens t_tens t_count t_exponent qt_work t_work) H := hP
          have hD : va_D A (w_Model_clear G qt qt_draft t_draft t_drafted qt_result t_result t_length t_arguments qt_kinds t_kinds qt_values t_values qt_widths t_widths qt_below t_below qt_sizes t_sizes qt_scales t_scales qt_parts t_parts qt_texts t_texts qt_lengths t_lengths t_end t_index z112.2.1 z112.2.2 u_197 t_precision t_conversion t_broken qt_piece t_piece t_put t_head qt_tens t_tens t_count t_exponent qt_work t_work) := hD
          refine lv_aload_n hx hb d_Model_goOver_203 rfl (lv_at hl 0 rfl) ?_
          refine lv_iload_n hx hb d_Model_goOver_204 rfl (lv_at hl 1 rfl) ?_
          obtain ⟨u_205, hu_205, hf⟩ := bd_ hf
          refine CALLWi (va_runV (As := [.int z112.1]) (rest := []) ⟨hx, hb, hml, hown, hg⟩ (c_Model_digitsEnd l G K qt qt_draft t_draft t_drafted qt_result t_result t_length t_arguments qt_kinds t_kinds qt_values t_values qt_widths t_widths qt_below t_below qt_sizes t_sizes qt_scales t_scales qt_parts t_parts qt_texts t_texts qt_lengths t_lengths t_end t_index z112.2.1 z112.2.2 u_197 t_precision t_conversion t_broken qt_piece t_piece t_put t_head qt_tens t_tens t_count t_exponent qt_work t_work z112.1 _ u_205  hu_205) (cwV 1 hg (gV m_419 m_420 m_421 m_389 m_422) rfl rfl rfl (by decide +kernel) ⟨Nat.le_of_ble_eq_true rfl, Nat.le_of_ble_eq_true rfl⟩) ⟨PC_b, va_recv hK hP (ci := 7) (q0 := 0) rfl rfl, PC_p hE hS hAb hP hD⟩ rfl rfl hl.1 rfl (lv_room (Nat.le_of_ble_eq_true rfl)) d_Model_goOver_205 ⟨Nat.zero_le _, Nat.zero_le _⟩) hP hD hS hA (fun H locs hP hD hS => ?_)
          have hP : va_P (gD G) vwCl (w_Model_clear G qt qt_draft t_draft t_drafted qt_result t_result t_length t_arguments qt_kinds t_kinds qt_values t_values qt_widths t_widths qt_below t_below qt_sizes t_sizes qt_scales t_scales qt_parts t_parts qt_texts t_texts qt_lengths t_lengths t_end t_index z112.2.1 z112.2.2 u_197 t_precision t_conversion t_broken qt_piece t_piece t_put t_head qt_tens t_tens t_count t_exponent qt_work t_work) H := hP
          have hD : va_D A (w_Model_clear G qt qt_draft t_draft t_drafted qt_result t_result t_length t_arguments qt_kinds t_kinds qt_values t_values qt_widths t_widths qt_below t_below qt_sizes t_sizes qt_scales t_scales qt_parts t_parts qt_texts t_texts qt_lengths t_lengths t_end t_index z112.2.1 z112.2.2 u_197 t_precision t_conversion t_broken qt_piece t_piece t_put t_head qt_tens t_tens t_count t_exponent qt_work t_work) := hD
          refine lv_istore_n (lv' := [(2, .int u_205), (0, .ref qt)]) hx hb d_Model_goOver_208 rfl hl (by decide) rfl (fun ls hl => ?_)
          exact W_209 u_205 t_end t_index z112.2.1 z112.2.2 u_197 t_precision t_conversion t_broken  hf _ _ _ hP hD hS (lv_sub hl [1, 0] rfl)
      · have hf := in_ c_120 hf
        refine lv_aload_n hx hb d_Model_goOver_123 rfl (lv_at hl 0 rfl) ?_
        refine lv_aload_n hx hb d_Model_goOver_124 rfl (lv_at hl 0 rfl) ?_
        refine va_get (D := gD G) (ci := 7) (v := .int z112.2.2) (C := R_Model) (T := F_Model) (N := 29) hx hb hg in_Model hown hK hP 0 rfl rfl 17 (by decide) (hg _ m_415) (fun _ h9 => h9) rfl d_Model_goOver_125 ?_
        refine lv_if_ne (tgt := 147) hx hb d_Model_goOver_128 (by decide) (fun c_128 => ?_) (fun c_128 => ?_)
        · have hf := in_ c_128 hf
          exact W_147 z112.1 z112.2.1 z112.2.2  hf _ _ _ hP hD hS (lv_sub hl [0, 1] rfl)
        · have hf := ip_ c_128 hf
          refine lv_aload_n hx hb d_Model_goOver_131 rfl (lv_at hl 0 rfl) ?_
          refine va_get (D := gD G) (ci := 7) (v := .int z112.2.1) (C := R_Model) (T := F_Model) (N := 29) hx hb hg in_Model hown hK hP 0 rfl rfl 16 (by decide) (hg _ m_414) (fun _ h9 => h9) rfl d_Model_goOver_132 ?_
          refine lv_aload_n hx hb d_Model_goOver_135 rfl (lv_at hl 0 rfl) ?_
          refine lv_iload_n hx hb d_Model_goOver_136 rfl (lv_at hl 1 rfl) ?_
          obtain ⟨u_137, hu_137, hf⟩ := bd_ hf
          refine CALLWi (va_runV (As := [.int z112.1]) (rest := [.int z112.2.1, .ref qt]) ⟨hx, hb, hml, hown, hg⟩ (c_Model_look l G K qt qt_draft t_draft t_drafted qt_result t_result t_length t_arguments qt_kinds t_kinds qt_values t_values qt_widths t_widths qt_below t_below qt_sizes t_sizes qt_scales t_scales qt_parts t_parts qt_texts t_texts qt_lengths t_lengths t_end t_index z112.2.1 z112.2.2 t_width t_precision t_conversion t_broken qt_piece t_piece t_put t_head qt_tens t_tens t_count t_exponent qt_work t_work z112.1 _ u_137  hu_137) (cwV 1 hg (gV m_406 m_407 m_408 m_389 m_409) rfl rfl rfl (by decide +kernel) ⟨Nat.le_of_ble_eq_true rfl, Nat.le_of_ble_eq_true rfl⟩) ⟨PC_b, va_recv hK hP (ci := 7) (q0 := 0) rfl rfl, PC_p hE hS hAb hP hD⟩ rfl rfl hl.1 rfl (lv_room (Nat.le_of_ble_eq_true rfl)) d_Model_goOver_137 ⟨Nat.zero_le _, Nat.zero_le _⟩) hP hD hS hA (fun H locs hP hD hS => ?_)
          have hP : va_P (gD G) vwCl (w_Model_clear G qt qt_draft t_draft t_drafted qt_result t_result t_length t_arguments qt_kinds t_kinds qt_values t_values qt_widths t_widths qt_below t_below qt_sizes t_sizes qt_scales t_scales qt_parts t_parts qt_texts t_texts qt_lengths t_lengths t_end t_index z112.2.1 z112.2.2 t_width t_precision t_conversion t_broken qt_piece t_piece t_put t_head qt_tens t_tens t_count t_exponent qt_work t_work) H := hP
          have hD : va_D A (w_Model_clear G qt qt_draft t_draft t_drafted qt_result t_result t_length t_arguments qt_kinds t_kinds qt_values t_values qt_widths t_widths qt_below t_below qt_sizes t_sizes qt_scales t_scales qt_parts t_parts qt_texts t_texts qt_lengths t_lengths t_end t_index z112.2.1 z112.2.2 t_width t_precision t_conversion t_broken qt_piece t_piece t_put t_head qt_tens t_tens t_count t_exponent qt_work t_work) := hD
          obtain ⟨u_140, hu_140, hf⟩ := bd_ hf
          refine CALLi (va_runS (As := [.int u_137]) (rest := [.int z112.2.1, .ref qt]) ⟨hx, hb, hml, hown, hg⟩ (c_Model_flagOf l G K u_137 _ u_140  hu_140) (va_cwS 1 hg (gS m_427 m_428 m_389 m_429) rfl rfl rfl (by decide +kernel) ⟨Nat.le_of_ble_eq_true rfl, Nat.le_of_ble_eq_true rfl⟩) ⟨PC_b, PC_p hE hS hAb (hP.sub [] rfl) (hD.sub [] (by decide) rfl)⟩ rfl rfl hl.1 rfl (lv_room (Nat.le_of_ble_eq_true rfl)) d_Model_goOver_140 ⟨Nat.zero_le _, Nat.zero_le _⟩) hP hD hS hA [] rfl rfl rfl (fun H locs hP hD hS => ?_)
          have hP : va_P (gD G) vwCl (w_Model_clear G qt qt_draft t_draft t_drafted qt_result t_result t_length t_arguments qt_kinds t_kinds qt_values t_values qt_widths t_widths qt_below t_below qt_sizes t_sizes qt_scales t_scales qt_parts t_parts qt_texts t_texts qt_lengths t_lengths t_end t_index z112.2.1 z112.2.2 t_width t_precision t_conversion t_broken qt_piece t_piece t_put t_head qt_tens t_tens t_count t_exponent qt_work t_work) H := hP
          have hD : va_D A (w_Model_clear G qt qt_draft t_draft t_drafted qt_result t_result t_length t_arguments qt_kinds t_kinds qt_values t_values qt_widths t_widths qt_below t_below qt_sizes t_sizes qt_scales t_scales qt_parts t_parts qt_texts t_texts qt_lengths t_lengths t_end t_index z112.2.1 z112.2.2 t_width t_precision t_conversion t_broken qt_piece t_piece t_put t_head qt_tens t_tens t_count t_exponent qt_work t_work) := hD
          refine lv_iand hx hb d_Model_goOver_143 ?_
          refine lv_if_eq (tgt := 151) hx hb d_Model_goOver_144 (by decide) (fun c_144 => ?_) (fun c_144 => ?_)
          · have hf := ip_ c_144 hf
            refine lv_iconst (v := 0) hx hb d_Model_goOver_151 (by decide) ?_
            exact W_152 z112.1 (0 : Int32) z112.2.1 z112.2.2 bl_0 hf _ _ _ hP hD hS (lv_sub hl [0, 1] rfl)
          · have hf := in_ c_144 hf
            exact W_147 z112.1 z112.2.1 z112.2.2  hf _ _ _ hP hD hS (lv_sub hl [0, 1] rfl)
  unfold f_Model_goOver at hf
  refine lv_iload_n hx hb d_Model_goOver_0 rfl (lv_at hl 1 rfl) ?_
  refine lv_iconst (v := 1) hx hb d_Model_goOver_1 (by decide) ?_
  refine lv_iadd hx hb d_Model_goOver_2 ?_
  refine lv_istore_n (lv' := [(2, .int (a1 + (1 : Int32))), (0, .ref qt), (1, .int a1)]) hx hb d_Model_goOver_3 rfl hl (by decide) rfl (fun ls hl => ?_)
  refine lv_aload_n hx hb d_Model_goOver_4 rfl (lv_at hl 1 rfl) ?_
  refine lv_iconst (v := -1) hx hb d_Model_goOver_5 (by decide) ?_
  refine va_put (D := gD G) (ci := 7) (v := .int (-1 : Int32)) (ty := .int) (C := R_Model) (T := F_Model) (N := 29) hx hb hg in_Model t_Model to_Model no_Model hown hK hP hD hS 0 rfl rfl 15 (by decide) (hg _ m_413) (fun _ h9 => h9) rfl (by decide +kernel) rfl rfl (Nat.le_of_ble_eq_true rfl) d_Model_goOver_6 (fun H locs hP hD hS => ?_)
  have hP : va_P (gD G) vwCl (w_Model_clear G qt qt_draft t_draft t_drafted qt_result t_result t_length t_arguments qt_kinds t_kinds qt_values t_values qt_widths t_widths qt_below t_below qt_sizes t_sizes qt_scales t_scales qt_parts t_parts qt_texts t_texts qt_lengths t_lengths t_end (-1 : Int32) t_flags t_twice t_width t_precision t_conversion t_broken qt_piece t_piece t_put t_head qt_tens t_tens t_count t_exponent qt_work t_work) H := hP
  have hD : va_D A (w_Model_clear G qt qt_draft t_draft t_drafted qt_result t_result t_length t_arguments qt_kinds t_kinds qt_values t_values qt_widths t_widths qt_below t_below qt_sizes t_sizes qt_scales t_scales qt_parts t_parts qt_texts t_texts qt_lengths t_lengths t_end (-1 : Int32) t_flags t_twice t_width t_precision t_conversion t_broken qt_piece t_piece t_put t_head qt_tens t_tens t_count t_exponent qt_work t_work) := hD
  refine lv_aload_n hx hb d_Model_goOver_9 rfl (lv_at hl 1 rfl) ?_
  refine lv_iconst (v := 0) hx hb d_Model_goOver_10 (by decide) ?_
  refine va_put (D := gD G) (ci := 7) (v := .int (0 : Int32)) (ty := .int) (C := R_Model) (T := F_Model) (N := 29) hx hb hg in_Model t_Model to_Model no_Model hown hK hP hD hS 0 rfl rfl 16 (by decide) (hg _ m_414) (fun _ h9 => h9) rfl (by decide +kernel) rfl rfl (Nat.le_of_ble_eq_true rfl) d_Model_goOver_11 (fun H locs hP hD hS => ?_)
  have hP : va_P (gD G) vwCl (w_Model_clear G qt qt_draft t_draft t_drafted qt_result t_result t_length t_arguments qt_kinds t_kinds qt_values t_values qt_widths t_widths qt_below t_below qt_sizes t_sizes qt_scales t_scales qt_parts t_parts qt_texts t_texts qt_lengths t_lengths t_end (-1 : Int32) (0 : Int32) t_twice t_width t_precision t_conversion t_broken qt_piece t_piece t_put t_head qt_tens t_tens t_count t_exponent qt_work t_work) H := hP
  have hD : va_D A (w_Model_clear G qt qt_draft t_draft t_drafted qt_result t_result t_length t_arguments qt_kinds t_kinds qt_values t_values qt_widths t_widths qt_below t_below qt_sizes t_sizes qt_scales t_scales qt_parts t_parts qt_texts t_texts qt_lengths t_lengths t_end (-1 : Int32) (0 : Int32) t_twice t_width t_precision t_conversion t_broken qt_piece t_piece t_put t_head qt_tens t_tens t_count t_exponent qt_work t_work) := hD
  refine lv_aload_n hx hb d_Model_goOver_14 rfl (lv_at hl 1 rfl) ?_
  refine lv_iconst (v := 0) hx hb d_Model_goOver_15 (by decide) ?_
  refine va_put (D := gD G) (ci := 7) (v := .int (0 : Int32)) (ty := .boolean) (C := R_Model) (T := F_Model) (N := 29) hx hb hg in_Model t_Model to_Model no_Model hown hK hP hD hS 0 rfl rfl 17 (by decide) (hg _ m_415) (fun _ h9 => h9) rfl (by decide +kernel) (bl_n bl_0) (bl_f bl_0) (Nat.le_of_ble_eq_true rfl) d_Model_goOver_16 (fun H locs hP hD hS => ?_)
  have hP : va_P (gD G) vwCl (w_Model_clear G qt qt_draft t_draft t_drafted qt_result t_result t_length t_arguments qt_kinds t_kinds qt_values t_values qt_widths t_widths qt_below t_below qt_sizes t_sizes qt_scales t_scales qt_parts t_parts qt_texts t_texts qt_lengths t_lengths t_end (-1 : Int32) (0 : Int32) (0 : Int32) t_width t_precision t_conversion t_broken qt_piece t_piece t_put t_head qt_tens t_tens t_count t_exponent qt_work t_work) H := hP
  have hD : va_D A (w_Model_clear G qt qt_draft t_draft t_drafted qt_result t_result t_length t_arguments qt_kinds t_kinds qt_values t_values qt_widths t_widths qt_below t_below qt_sizes t_sizes qt_scales t_scales qt_parts t_parts qt_texts t_texts qt_lengths t_lengths t_end (-1 : Int32) (0 : Int32) (0 : Int32) t_width t_precision t_conversion t_broken qt_piece t_piece t_put t_head qt_tens t_tens t_count t_exponent qt_work t_work) := hD
  refine lv_aload_n hx hb d_Model_goOver_19 rfl (lv_at hl 1 rfl) ?_
  refine lv_iconst (v := -1) hx hb d_Model_goOver_20 (by decide) ?_
  refine va_put (D := gD G) (ci := 7) (v := .int (-1 : Int32)) (ty := .int) (C := R_Model) (T := F_Model) (N := 29) hx hb hg in_Model t_Model to_Model no_Model hown hK hP hD hS 0 rfl rfl 18 (by decide) (hg _ m_416) (fun _ h9 => h9) rfl (by decide +kernel) rfl rfl (Nat.le_of_ble_eq_true rfl) d_Model_goOver_21 (fun H locs hP hD hS => ?_)
  have hP : va_P (gD G) vwCl (w_Model_clear G qt qt_draft t_draft t_drafted qt_result t_result t_length t_arguments qt_kinds t_kinds qt_values t_values qt_widths t_widths qt_below t_below qt_sizes t_sizes qt_scales t_scales qt_parts t_parts qt_texts t_texts qt_lengths t_lengths t_end (-1 : Int32) (0 : Int32) (0 : Int32) (-1 : Int32) t_precision t_conversion t_broken qt_piece t_piece t_put t_head qt_tens t_tens t_count t_exponent qt_work t_work) H := hP
  have hD : va_D A (w_Model_clear G qt qt_draft t_draft t_drafted qt_result t_result t_length t_arguments qt_kinds t_kinds qt_values t_values qt_widths t_widths qt_below t_below qt_sizes t_sizes qt_scales t_scales qt_parts t_parts qt_texts t_texts qt_lengths t_lengths t_end (-1 : Int32) (0 : Int32) (0 : Int32) (-1 : Int32) t_precision t_conversion t_broken qt_piece t_piece t_put t_head qt_tens t_tens t_count t_exponent qt_work t_work) := hD
  refine lv_aload_n hx hb d_Model_goOver_24 rfl (lv_at hl 1 rfl) ?_
  refine lv_iconst (v := -1) hx hb d_Model_goOver_25 (by decide) ?_
  refine va_put (D := gD G) (ci := 7) (v := .int (-1 : Int32)) (ty := .int) (C := R_Model) (T := F_Model) (N := 29) hx hb hg in_Model t_Model to_Model no_Model hown hK hP hD hS 0 rfl rfl 19 (by decide) (hg _ m_417) (fun _ h9 => h9) rfl (by decide +kernel) rfl rfl (Nat.le_of_ble_eq_true rfl) d_Model_goOver_26 (fun H locs hP hD hS => ?_)
  have hP : va_P (gD G) vwCl (w_Model_clear G qt qt_draft t_draft t_drafted qt_result t_result t_length t_arguments qt_kinds t_kinds qt_values t_values qt_widths t_widths qt_below t_below qt_sizes t_sizes qt_scales t_scales qt_parts t_parts qt_texts t_texts qt_lengths t_lengths t_end (-1 : Int32) (0 : Int32) (0 : Int32) (-1 : Int32) (-1 : Int32) t_conversion t_broken qt_piece t_piece t_put t_head qt_tens t_tens t_count t_exponent qt_work t_work) H := hP
  have hD : va_D A (w_Model_clear G qt qt_draft t_draft t_drafted qt_result t_result t_length t_arguments qt_kinds t_kinds qt_values t_values qt_widths t_widths qt_below t_below qt_sizes t_sizes qt_scales t_scales qt_parts t_parts qt_texts t_texts qt_lengths t_lengths t_end (-1 : Int32) (0 : Int32) (0 : Int32) (-1 : Int32) (-1 : Int32) t_conversion t_broken qt_piece t_piece t_put t_head qt_tens t_tens t_count t_exponent qt_work t_work) := hD
  refine lv_aload_n hx hb d_Model_goOver_29 rfl (lv_at hl 1 rfl) ?_
  refine lv_iconst (v := 0) hx hb d_Model_goOver_30 (by decide) ?_
  refine va_put (D := gD G) (ci := 7) (v := .int (0 : Int32)) (ty := .boolean) (C := R_Model) (T := F_Model) (N := 29) hx hb hg in_Model t_Model to_Model no_Model hown hK hP hD hS 0 rfl rfl 21 (by decide) (hg _ m_418) (fun _ h9 => h9) rfl (by decide +kernel) (bl_n bl_0) (bl_f bl_0) (Nat.le_of_ble_eq_true rfl) d_Model_goOver_31 (fun H locs hP hD hS => ?_)
  have hP : va_P (gD G) vwCl (w_Model_clear G qt qt_draft t_draft t_drafted qt_result t_result t_length t_arguments qt_kinds t_kinds qt_values t_values qt_widths t_widths qt_below t_below qt_sizes t_sizes qt_scales t_scales qt_parts t_parts qt_texts t_texts qt_lengths t_lengths t_end (-1 : Int32) (0 : Int32) (0 : Int32) (-1 : Int32) (-1 : Int32) t_conversion (0 : Int32) qt_piece t_piece t_put t_head qt_tens t_tens t_count t_exponent qt_work t_work) H := hP
  have hD : va_D A (w_Model_clear G qt qt_draft t_draft t_drafted qt_result t_result t_length t_arguments qt_kinds t_kinds qt_values t_values qt_widths t_widths qt_below t_below qt_sizes t_sizes qt_scales t_scales qt_parts t_parts qt_texts t_texts qt_lengths t_lengths t_end (-1 : Int32) (0 : Int32) (0 : Int32) (-1 : Int32) (-1 : Int32) t_conversion (0 : Int32) qt_piece t_piece t_put t_head qt_tens t_tens t_count t_exponent qt_work t_work) := hD
  refine lv_aload_n hx hb d_Model_goOver_34 rfl (lv_at hl 1 rfl) ?_
  refine lv_iload_n hx hb d_Model_goOver_35 rfl (lv_at hl 0 rfl) ?_
  obtain ⟨u_36, hu_36, hf⟩ := bd_ hf
  refine CALLWi (va_runV (As := [.int (a1 + (1 : Int32))]) (rest := []) ⟨hx, hb, hml, hown, hg⟩ (c_Model_look l G K qt qt_draft t_draft t_drafted qt_result t_result t_length t_arguments qt_kinds t_kinds qt_values t_values qt_widths t_widths qt_below t_below qt_sizes t_sizes qt_scales t_scales qt_parts t_parts qt_texts t_texts qt_lengths t_lengths t_end (-1 : Int32) (0 : Int32) (0 : Int32) (-1 : Int32) (-1 : Int32) t_conversion (0 : Int32) qt_piece t_piece t_put t_head qt_tens t_tens t_count t_exponent qt_work t_work (a1 + (1 : Int32)) _ u_36  hu_36) (cwV 1 hg (gV m_406 m_407 m_408 m_389 m_409) rfl rfl rfl (by decide +kernel) ⟨Nat.le_of_ble_eq_true rfl, Nat.le_of_ble_eq_true rfl⟩) ⟨PC_b, va_recv hK hP (ci := 7) (q0 := 0) rfl rfl, PC_p hE hS hAb hP hD⟩ rfl rfl hl.1 rfl (lv_room (Nat.le_of_ble_eq_true rfl)) d_Model_goOver_36 ⟨Nat.zero_le _, Nat.zero_le _⟩) hP hD hS hA (fun H locs hP hD hS => ?_)
  have hP : va_P (gD G) vwCl (w_Model_clear G qt qt_draft t_draft t_drafted qt_result t_result t_length t_arguments qt_kinds t_kinds qt_values t_values qt_widths t_widths qt_below t_below qt_sizes t_sizes qt_scales t_scales qt_parts t_parts qt_texts t_texts qt_lengths t_lengths t_end (-1 : Int32) (0 : Int32) (0 : Int32) (-1 : Int32) (-1 : Int32) t_conversion (0 : Int32) qt_piece t_piece t_put t_head qt_tens t_tens t_count t_exponent qt_work t_work) H := hP
  have hD : va_D A (w_Model_clear G qt qt_draft t_draft t_drafted qt_result t_result t_length t_arguments qt_kinds t_kinds qt_values t_values qt_widths t_widths qt_below t_below qt_sizes t_sizes qt_scales t_scales qt_parts t_parts qt_texts t_texts qt_lengths t_lengths t_end (-1 : Int32) (0 : Int32) (0 : Int32) (-1 : Int32) (-1 : Int32) t_conversion (0 : Int32) qt_piece t_piece t_put t_head qt_tens t_tens t_count t_exponent qt_work t_work) := hD
  refine lv_bipush (v := 60) hx hb d_Model_goOver_39 (by decide) ?_
  refine lv_icmp_ne (tgt := 55) hx hb d_Model_goOver_41 (by decide) (fun c_41 => ?_) (fun c_41 => ?_)
  · have hf := in_ c_41 hf
    refine lv_aload_n hx hb d_Model_goOver_55 rfl (lv_at hl 1 rfl) ?_
    refine lv_iload_n hx hb d_Model_goOver_56 rfl (lv_at hl 0 rfl) ?_
    obtain ⟨u_57, hu_57, hf⟩ := bd_ hf
    refine CALLWi (va_runV (As := [.int (a1 + (1 : Int32))]) (rest := []) ⟨hx, hb, hml, hown, hg⟩ (c_Model_look l G K qt qt_draft t_draft t_drafted qt_result t_result t_length t_arguments qt_kinds t_kinds qt_values t_values qt_widths t_widths qt_below t_below qt_sizes t_sizes qt_scales t_scales qt_parts t_parts qt_texts t_texts qt_lengths t_lengths t_end (-1 : Int32) (0 : Int32) (0 : Int32) (-1 : Int32) (-1 : Int32) t_conversion (0 : Int32) qt_piece t_piece t_put t_head qt_tens t_tens t_count t_exponent qt_work t_work (a1 + (1 : Int32)) _ u_57  hu_57) (cwV 1 hg (gV m_406 m_407 m_408 m_389 m_409) rfl rfl rfl (by decide +kernel) ⟨Nat.le_of_ble_eq_true rfl, Nat.le_of_ble_eq_true rfl⟩) ⟨PC_b, va_recv hK hP (ci := 7) (q0 := 0) rfl rfl, PC_p hE hS hAb hP hD⟩ rfl rfl hl.1 rfl (lv_room (Nat.le_of_ble_eq_true rfl)) d_Model_goOver_57 ⟨Nat.zero_le _, Nat.zero_le _⟩) hP hD hS hA (fun H locs hP hD hS => ?_)
    have hP : va_P (gD G) vwCl (w_Model_clear G qt qt_draft t_draft t_drafted qt_result t_result t_length t_arguments qt_kinds t_kinds qt_values t_values qt_widths t_widths qt_below t_below qt_sizes t_sizes qt_scales t_scales qt_parts t_parts qt_texts t_texts qt_lengths t_lengths t_end (-1 : Int32) (0 : Int32) (0 : Int32) (-1 : Int32) (-1 : Int32) t_conversion (0 : Int32) qt_piece t_piece t_put t_head qt_tens t_tens t_count t_exponent qt_work t_work) H := hP
    have hD : va_D A (w_Model_clear G qt qt_draft t_draft t_drafted qt_result t_result t_length t_arguments qt_kinds t_kinds qt_values t_values qt_widths t_widths qt_below t_below qt_sizes t_sizes qt_scales t_scales qt_parts t_parts qt_texts t_texts qt_lengths t_lengths t_end (-1 : Int32) (0 : Int32) (0 : Int32) (-1 : Int32) (-1 : Int32) t_conversion (0 : Int32) qt_piece t_piece t_put t_head qt_tens t_tens t_count t_exponent qt_work t_work) := hD
    obtain ⟨u_60, hu_60, hf⟩ := bd_ hf
    refine CALLz (va_runS (As := [.int u_57]) (rest := []) ⟨hx, hb, hml, hown, hg⟩ (c_Model_isDigit l G K u_57 _ u_60  hu_60) (va_cwS 1 hg (gS m_410 m_411 m_389 m_412) rfl rfl rfl (by decide +kernel) ⟨Nat.le_of_ble_eq_true rfl, Nat.le_of_ble_eq_true rfl⟩) ⟨PC_b, PC_p hE hS hAb (hP.sub [] rfl) (hD.sub [] (by decide) rfl)⟩ rfl rfl hl.1 rfl (lv_room (Nat.le_of_ble_eq_true rfl)) d_Model_goOver_60 ⟨Nat.zero_le _, Nat.zero_le _⟩) hP hD hS hA [] rfl rfl rfl (fun bu_60 H locs hP hD hS => ?_)
    have hP : va_P (gD G) vwCl (w_Model_clear G qt qt_draft t_draft t_drafted qt_result t_result t_length t_arguments qt_kinds t_kinds qt_values t_values qt_widths t_widths qt_below t_below qt_sizes t_sizes qt_scales t_scales qt_parts t_parts qt_texts t_texts qt_lengths t_lengths t_end (-1 : Int32) (0 : Int32) (0 : Int32) (-1 : Int32) (-1 : Int32) t_conversion (0 : Int32) qt_piece t_piece t_put t_head qt_tens t_tens t_count t_exponent qt_work t_work) H := hP
    have hD : va_D A (w_Model_clear G qt qt_draft t_draft t_drafted qt_result t_result t_length t_arguments qt_kinds t_kinds qt_values t_values qt_widths t_widths qt_below t_below qt_sizes t_sizes qt_scales t_scales qt_parts t_parts qt_texts t_texts qt_lengths t_lengths t_end (-1 : Int32) (0 : Int32) (0 : Int32) (-1 : Int32) (-1 : Int32) t_conversion (0 : Int32) qt_piece t_piece t_put t_head qt_tens t_tens t_count t_exponent qt_work t_work) := hD
    refine lv_if_eq (tgt := 112) hx hb d_Model_goOver_63 (by decide) (fun c_63 => ?_) (fun c_63 => ?_)
    · have hf := ip_ c_63 hf
      exact W_112 t_end (-1 : Int32) (-1 : Int32) (-1 : Int32) t_conversion (0 : Int32)  K ((a1 + (1 : Int32)), (0 : Int32), (0 : Int32))  hf _ _ _ hP hD hS (lv_sub hl [1, 0] rfl)
    · have hf := in_ c_63 hf
      refine lv_aload_n hx hb d_Model_goOver_66 rfl (lv_at hl 1 rfl) ?_
      refine lv_iload_n hx hb d_Model_goOver_67 rfl (lv_at hl 0 rfl) ?_
      obtain ⟨u_68, hu_68, hf⟩ := bd_ hf
      refine CALLWi (va_runV (As := [.int (a1 + (1 : Int32))]) (rest := []) ⟨hx, hb, hml, hown, hg⟩ (c_Model_look l G K qt qt_draft t_draft t_drafted qt_result t_result t_length t_arguments qt_kinds t_kinds qt_values t_values qt_widths t_widths qt_below t_below qt_sizes t_sizes qt_scales t_scales qt_parts t_parts qt_texts t_texts qt_lengths t_lengths t_end (-1 : Int32) (0 : Int32) (0 : Int32) (-1 : Int32) (-1 : Int32) t_conversion (0 : Int32) qt_piece t_piece t_put t_head qt_tens t_tens t_count t_exponent qt_work t_work (a1 + (1 : Int32)) _ u_68  hu_68) (cwV 1 hg (gV m_406 m_407 m_408 m_389 m_409) rfl rfl rfl (by decide +kernel) ⟨Nat.le_of_ble_eq_true rfl, Nat.le_of_ble_eq_true rfl⟩) ⟨PC_b, va_recv hK hP (ci := 7) (q0 := 0) rfl rfl, PC_p hE hS hAb hP hD⟩ rfl rfl hl.1 rfl (lv_room (Nat.le_of_ble_eq_true rfl)) d_Model_goOver_68 ⟨Nat.zero_le _, Nat.zero_le _⟩) hP hD hS hA (fun H locs hP hD hS => ?_)
      have hP : va_P (gD G) vwCl (w_Model_clear G qt qt_draft t_draft t_drafted qt_result t_result t_length t_arguments qt_kinds t_kinds qt_values t_values qt_widths t_widths qt_below t_below qt_sizes t_sizes qt_scales t_scales qt_parts t_parts qt_texts t_texts qt_lengths t_lengths t_end (-1 : Int32) (0 : Int32) (0 : Int32) (-1 : Int32) (-1 : Int32) t_conversion (0 : Int32) qt_piece t_piece t_put t_head qt_tens t_tens t_count t_exponent qt_work t_work) H := hP
      have hD : va_D A (w_Model_clear G qt qt_draft t_draft t_drafted qt_result t_result t_length t_arguments qt_kinds t_kinds qt_values t_values qt_widths t_widths qt_below t_below qt_sizes t_sizes qt_scales t_scales qt_parts t_parts qt_texts t_texts qt_lengths t_lengths t_end (-1 : Int32) (0 : Int32) (0 : Int32) (-1 : Int32) (-1 : Int32) t_conversion (0 : Int32) qt_piece t_piece t_put t_head qt_tens t_tens t_count t_exponent qt_work t_work) := hD
      refine lv_bipush (v := 48) hx hb d_Model_goOver_71 (by decide) ?_
      refine lv_icmp_eq (tgt := 112) hx hb d_Model_goOver_73 (by decide) (fun c_73 => ?_) (fun c_73 => ?_)
      · have hf := ip_ c_73 hf
        exact W_112 t_end (-1 : Int32) (-1 : Int32) (-1 : Int32) t_conversion (0 : Int32)  K ((a1 + (1 : Int32)), (0 : Int32), (0 : Int32))  hf _ _ _ hP hD hS (lv_sub hl [1, 0] rfl)
      · have hf := in_ c_73 hf
        refine lv_aload_n hx hb d_Model_goOver_76 rfl (lv_at hl 1 rfl) ?_
        refine lv_aload_n hx hb d_Model_goOver_77 rfl (lv_at hl 1 rfl) ?_
        refine lv_iload_n hx hb d_Model_goOver_78 rfl (lv_at hl 0 rfl) ?_
        obtain ⟨u_79, hu_79, hf⟩ := bd_ hf
        refine CALLWi (va_runV (As := [.int (a1 + (1 : Int32))]) (rest := [.ref qt]) ⟨hx, hb, hml, hown, hg⟩ (c_Model_digitsEnd l G K qt qt_draft t_draft t_drafted qt_result t_result t_length t_arguments qt_kinds t_kinds qt_values t_values qt_widths t_widths qt_below t_below qt_sizes t_sizes qt_scales t_scales qt_parts t_parts qt_texts t_texts qt_lengths t_lengths t_end (-1 : Int32) (0 : Int32) (0 : Int32) (-1 : Int32) (-1 : Int32) t_conversion (0 : Int32) qt_piece t_piece t_put t_head qt_tens t_tens t_count t_exponent qt_work t_work (a1 + (1 : Int32)) _ u_79  hu_79) (cwV 1 hg (gV m_419 m_420 m_421 m_389 m_422) rfl rfl rfl (by decide +kernel) ⟨Nat.le_of_ble_eq_true rfl, Nat.le_of_ble_eq_true rfl⟩) ⟨PC_b, va_recv hK hP (ci := 7) (q0 := 0) rfl rfl, PC_p hE hS hAb hP hD⟩ rfl rfl hl.1 rfl (lv_room (Nat.le_of_ble_eq_true rfl)) d_Model_goOver_79 ⟨Nat.zero_le _, Nat.zero_le _⟩) hP hD hS hA (fun H locs hP hD hS => ?_)
        have hP : va_P (gD G) vwCl (w_Model_clear G qt qt_draft t_draft t_drafted qt_result t_result t_length t_arguments qt_kinds t_kinds qt_values t_values qt_widths t_widths qt_below t_below qt_sizes t_sizes qt_scales t_scales qt_parts t_parts qt_texts t_texts qt_lengths t_lengths t_end (-1 : Int32) (0 : Int32) (0 : Int32) (-1 : Int32) (-1 : Int32) t_conversion (0 : Int32) qt_piece t_piece t_put t_head qt_tens t_tens t_count t_exponent qt_work t_work) H := hP
        have hD : va_D A (w_Model_clear G qt qt_draft t_draft t_drafted qt_result t_result t_length t_arguments qt_kinds t_kinds qt_values t_values qt_widths t_widths qt_below t_below qt_sizes t_sizes qt_scales t_scales qt_parts t_parts qt_texts t_texts qt_lengths t_lengths t_end (-1 : Int32) (0 : Int32) (0 : Int32) (-1 : Int32) (-1 : Int32) t_conversion (0 : Int32) qt_piece t_piece t_put t_head qt_tens t_tens t_count t_exponent qt_work t_work) := hD
        obtain ⟨u_82, hu_82, hf⟩ := bd_ hf
        refine CALLWi (va_runV (As := [.int u_79]) (rest := []) ⟨hx, hb, hml, hown, hg⟩ (c_Model_look l G K qt qt_draft t_draft t_drafted qt_result t_result t_length t_arguments qt_kinds t_kinds qt_values t_values qt_widths t_widths qt_below t_below qt_sizes t_sizes qt_scales t_scales qt_parts t_parts qt_texts t_texts qt_lengths t_lengths t_end (-1 : Int32) (0 : Int32) (0 : Int32) (-1 : Int32) (-1 : Int32) t_conversion (0 : Int32) qt_piece t_piece t_put t_head qt_tens t_tens t_count t_exponent qt_work t_work u_79 _ u_82  hu_82) (cwV 1 hg (gV m_406 m_407 m_408 m_389 m_409) rfl rfl rfl (by decide +kernel) ⟨Nat.le_of_ble_eq_true rfl, Nat.le_of_ble_eq_true rfl⟩) ⟨PC_b, va_recv hK hP (ci := 7) (q0 := 0) rfl rfl, PC_p hE hS hAb hP hD⟩ rfl rfl hl.1 rfl (lv_room (Nat.le_of_ble_eq_true rfl)) d_Model_goOver_82 ⟨Nat.zero_le _, Nat.zero_le _⟩) hP hD hS hA (fun H locs hP hD hS => ?_)
        have hP : va_P (gD G) vwCl (w_Model_clear G qt qt_draft t_draft t_drafted qt_result t_result t_length t_arguments qt_kinds t_kinds qt_values t_values qt_widths t_widths qt_below t_below qt_sizes t_sizes qt_scales t_scales qt_parts t_parts qt_texts t_texts qt_lengths t_lengths t_end (-1 : Int32) (0 : Int32) (0 : Int32) (-1 : Int32) (-1 : Int32) t_conversion (0 : Int32) qt_piece t_piece t_put t_head qt_tens t_tens t_count t_exponent qt_work t_work) H := hP
        have hD : va_D A (w_Model_clear G qt qt_draft t_draft t_drafted qt_result t_result t_length t_arguments qt_kinds t_kinds qt_values t_values qt_widths t_widths qt_below t_below qt_sizes t_sizes qt_scales t_scales qt_parts t_parts qt_texts t_texts qt_lengths t_lengths t_end (-1 : Int32) (0 : Int32) (0 : Int32) (-1 : Int32) (-1 : Int32) t_conversion (0 : Int32) qt_piece t_piece t_put t_head qt_tens t_tens t_count t_exponent qt_work t_work) := hD
        refine lv_bipush (v := 36) hx hb d_Model_goOver_85 (by decide) ?_
        refine lv_icmp_ne (tgt := 112) hx hb d_Model_goOver_87 (by decide) (fun c_87 => ?_) (fun c_87 => ?_)
        · have hf := in_ c_87 hf
          exact W_112 t_end (-1 : Int32) (-1 : Int32) (-1 : Int32) t_conversion (0 : Int32)  K ((a1 + (1 : Int32)), (0 : Int32), (0 : Int32))  hf _ _ _ hP hD hS (lv_sub hl [1, 0] rfl)
        · have hf := ip_ c_87 hf
          refine lv_aload_n hx hb d_Model_goOver_90 rfl (lv_at hl 1 rfl) ?_
          refine lv_aload_n hx hb d_Model_goOver_91 rfl (lv_at hl 1 rfl) ?_
          refine lv_iload_n hx hb d_Model_goOver_92 rfl (lv_at hl 0 rfl) ?_
          refine lv_aload_n hx hb d_Model_goOver_93 rfl (lv_at hl 1 rfl) ?_
          refine lv_iload_n hx hb d_Model_goOver_94 rfl (lv_at hl 0 rfl) ?_
          obtain ⟨u_95, hu_95, hf⟩ := bd_ hf
          refine CALLWi (va_runV (As := [.int (a1 + (1 : Int32))]) (rest := [.int (a1 + (1 : Int32)), .ref qt, .ref qt]) ⟨hx, hb, hml, hown, hg⟩ (c_Model_digitsEnd l G K qt qt_draft t_draft t_drafted qt_result t_result t_length t_arguments qt_kinds t_kinds qt_values t_values qt_widths t_widths qt_below t_below qt_sizes t_sizes qt_scales t_scales qt_parts t_parts qt_texts t_texts qt_lengths t_lengths t_end (-1 : Int32) (0 : Int32) (0 : Int32) (-1 : Int32) (-1 : Int32) t_conversion (0 : Int32) qt_piece t_piece t_put t_head qt_tens t_tens t_count t_exponent qt_work t_work (a1 + (1 : Int32)) _ u_95  hu_95) (cwV 1 hg (gV m_419 m_420 m_421 m_389 m_422) rfl rfl rfl (by decide +kernel) ⟨Nat.le_of_ble_eq_true rfl, Nat.le_of_ble_eq_true rfl⟩) ⟨PC_b, va_recv hK hP (ci := 7) (q0 := 0) rfl rfl, PC_p hE hS hAb hP hD⟩ rfl rfl hl.1 rfl (lv_room (Nat.le_of_ble_eq_true rfl)) d_Model_goOver_95 ⟨Nat.zero_le _, Nat.zero_le _⟩) hP hD hS hA (fun H locs hP hD hS => ?_)
          have hP : va_P (gD G) vwCl (w_Model_clear G qt qt_draft t_draft t_drafted qt_result t_result t_length t_arguments qt_kinds t_kinds qt_values t_values qt_widths t_widths qt_below t_below qt_sizes t_sizes qt_scales t_scales qt_parts t_parts qt_texts t_texts qt_lengths t_lengths t_end (-1 : Int32) (0 : Int32) (0 : Int32) (-1 : Int32) (-1 : Int32) t_conversion (0 : Int32) qt_piece t_piece t_put t_head qt_tens t_tens t_count t_exponent qt_work t_work) H := hP
          have hD : va_D A (w_Model_clear G qt qt_draft t_draft t_drafted qt_result t_result t_length t_arguments qt_kinds t_kinds qt_values t_values qt_widths t_widths qt_below t_below qt_sizes t_sizes qt_scales t_scales qt_parts t_parts qt_texts t_texts qt_lengths t_lengths t_end (-1 : Int32) (0 : Int32) (0 : Int32) (-1 : Int32) (-1 : Int32) t_conversion (0 : Int32) qt_piece t_piece t_put t_head qt_tens t_tens t_count t_exponent qt_work t_work) := hD
          obtain ⟨u_98, hu_98, hf⟩ := bd_ hf
          refine CALLWi (va_runV (As := [.int (a1 + (1 : Int32)), .int u_95]) (rest := [.ref qt]) ⟨hx, hb, hml, hown, hg⟩ (c_Model_said l G K qt qt_draft t_draft t_drafted qt_result t_result t_length t_arguments qt_kinds t_kinds qt_values t_values qt_widths t_widths qt_below t_below qt_sizes t_sizes qt_scales t_scales qt_parts t_parts qt_texts t_texts qt_lengths t_lengths t_end (-1 : Int32) (0 : Int32) (0 : Int32) (-1 : Int32) (-1 : Int32) t_conversion (0 : Int32) qt_piece t_piece t_put t_head qt_tens t_tens t_count t_exponent qt_work t_work (a1 + (1 : Int32)) u_95 _ u_98  hu_98) (cwV 2 hg (gV m_423 m_424 m_425 m_389 m_426) rfl rfl rfl (by decide +kernel) ⟨Nat.le_of_ble_eq_true rfl, Nat.le_of_ble_eq_true rfl⟩) ⟨PC_b, va_recv hK hP (ci := 7) (q0 := 0) rfl rfl, PC_p hE hS hAb hP hD⟩ rfl rfl hl.1 rfl (lv_room (Nat.le_of_ble_eq_true rfl)) d_Model_goOver_98 ⟨Nat.zero_le _, Nat.zero_le _⟩) hP hD hS hA (fun H locs hP hD hS => ?_)
          have hP : va_P (gD G) vwCl (w_Model_clear G qt qt_draft t_draft t_drafted qt_result t_result t_length t_arguments qt_kinds t_kinds qt_values t_values qt_widths t_widths qt_below t_below qt_sizes t_sizes qt_scales t_scales qt_parts t_parts qt_texts t_texts qt_lengths t_lengths t_end (-1 : Int32) (0 : Int32) (0 : Int32) (-1 : Int32) (-1 : Int32) t_conversion (0 : Int32) qt_piece t_piece t_put t_head qt_tens t_tens t_count t_exponent qt_work t_work) H := hP
          have hD : va_D A (w_Model_clear G qt qt_draft t_draft t_drafted qt_result t_result t_length t_arguments qt_kinds t_kinds qt_values t_values qt_widths t_widths qt_below t_below qt_sizes t_sizes qt_scales t_scales qt_parts t_parts qt_texts t_texts qt_lengths t_lengths t_end (-1 : Int32) (0 : Int32) (0 : Int32) (-1 : Int32) (-1 : Int32) t_conversion (0 : Int32) qt_piece t_piece t_put t_head qt_tens t_tens t_count t_exponent qt_work t_work) := hD
          refine va_put (D := gD G) (ci := 7) (v := .int u_98) (ty := .int) (C := R_Model) (T := F_Model) (N := 29) hx hb hg in_Model t_Model to_Model no_Model hown hK hP hD hS 0 rfl rfl 15 (by decide) (hg _ m_413) (fun _ h9 => h9) rfl (by decide +kernel) rfl rfl (Nat.le_of_ble_eq_true rfl) d_Model_goOver_101 (fun H locs hP hD hS => ?_)
          have hP : va_P (gD G) vwCl (w_Model_clear G qt qt_draft t_draft t_drafted qt_result t_result t_length t_arguments qt_kinds t_kinds qt_values t_values qt_widths t_widths qt_below t_below qt_sizes t_sizes qt_scales t_scales qt_parts t_parts qt_texts t_texts qt_lengths t_lengths t_end u_98 (0 : Int32) (0 : Int32) (-1 : Int32) (-1 : Int32) t_conversion (0 : Int32) qt_piece t_piece t_put t_head qt_tens t_tens t_count t_exponent qt_work t_work) H := hP
          have hD : va_D A (w_Model_clear G qt qt_draft t_draft t_drafted qt_result t_result t_length t_arguments qt_kinds t_kinds qt_values t_values qt_widths t_widths qt_below t_below qt_sizes t_sizes qt_scales t_scales qt_parts t_parts qt_texts t_texts qt_lengths t_lengths t_end u_98 (0 : Int32) (0 : Int32) (-1 : Int32) (-1 : Int32) t_conversion (0 : Int32) qt_piece t_piece t_put t_head qt_tens t_tens t_count t_exponent qt_work t_work) := hD
          refine lv_aload_n hx hb d_Model_goOver_104 rfl (lv_at hl 1 rfl) ?_
          refine lv_iload_n hx hb d_Model_goOver_105 rfl (lv_at hl 0 rfl) ?_
          obtain ⟨u_106, hu_106, hf⟩ := bd_ hf
          refine CALLWi (va_runV (As := [.int (a1 + (1 : Int32))]) (rest := []) ⟨hx, hb, hml, hown, hg⟩ (c_Model_digitsEnd l G K qt qt_draft t_draft t_drafted qt_result t_result t_length t_arguments qt_kinds t_kinds qt_values t_values qt_widths t_widths qt_below t_below qt_sizes t_sizes qt_scales t_scales qt_parts t_parts qt_texts t_texts qt_lengths t_lengths t_end u_98 (0 : Int32) (0 : Int32) (-1 : Int32) (-1 : Int32) t_conversion (0 : Int32) qt_piece t_piece t_put t_head qt_tens t_tens t_count t_exponent qt_work t_work (a1 + (1 : Int32)) _ u_106  hu_106) (cwV 1 hg (gV m_419 m_420 m_421 m_389 m_422) rfl rfl rfl (by decide +kernel) ⟨Nat.le_of_ble_eq_true rfl, Nat.le_of_ble_eq_true rfl⟩) ⟨PC_b, va_recv hK hP (ci := 7) (q0 := 0) rfl rfl, PC_p hE hS hAb hP hD⟩ rfl rfl hl.1 rfl (lv_room (Nat.le_of_ble_eq_true rfl)) d_Model_goOver_106 ⟨Nat.zero_le _, Nat.zero_le _⟩) hP hD hS hA (fun H locs hP hD hS => ?_)
          have hP : va_P (gD G) vwCl (w_Model_clear G qt qt_draft t_draft t_drafted qt_result t_result t_length t_arguments qt_kinds t_kinds qt_values t_values qt_widths t_widths qt_below t_below qt_sizes t_sizes qt_scales t_scales qt_parts t_parts qt_texts t_texts qt_lengths t_lengths t_end u_98 (0 : Int32) (0 : Int32) (-1 : Int32) (-1 : Int32) t_conversion (0 : Int32) qt_piece t_piece t_put t_head qt_tens t_tens t_count t_exponent qt_work t_work) H := hP
          have hD : va_D A (w_Model_clear G qt qt_draft t_draft t_drafted qt_result t_result t_length t_arguments qt_kinds t_kinds qt_values t_values qt_widths t_widths qt_below t_below qt_sizes t_sizes qt_scales t_scales qt_parts t_parts qt_texts t_texts qt_lengths t_lengths t_end u_98 (0 : Int32) (0 : Int32) (-1 : Int32) (-1 : Int32) t_conversion (0 : Int32) qt_piece t_piece t_put t_head qt_tens t_tens t_count t_exponent qt_work t_work) := hD
          refine lv_iconst (v := 1) hx hb d_Model_goOver_109 (by decide) ?_
          refine lv_iadd hx hb d_Model_goOver_110 ?_
          refine lv_istore_n (lv' := [(2, .int (u_106 + (1 : Int32))), (0, .ref qt), (1, .int a1)]) hx hb d_Model_goOver_111 rfl hl (by decide) rfl (fun ls hl => ?_)
          exact W_112 t_end u_98 (-1 : Int32) (-1 : Int32) t_conversion (0 : Int32)  K ((u_106 + (1 : Int32)), (0 : Int32), (0 : Int32))  hf _ _ _ hP hD hS (lv_sub hl [1, 0] rfl)
  · have hf := ip_ c_41 hf
    refine lv_aload_n hx hb d_Model_goOver_44 rfl (lv_at hl 1 rfl) ?_
    refine lv_iconst (v := 0) hx hb d_Model_goOver_45 (by decide) ?_
    refine va_put (D := gD G) (ci := 7) (v := .int (0 : Int32)) (ty := .int) (C := R_Model) (T := F_Model) (N := 29) hx hb hg in_Model t_Model to_Model no_Model hown hK hP hD hS 0 rfl rfl 15 (by decide) (hg _ m_413) (fun _ h9 => h9) rfl (by decide +kernel) rfl rfl (Nat.le_of_ble_eq_true rfl) d_Model_goOver_46 (fun H locs hP hD hS => ?_)
    have hP : va_P (gD G) vwCl (w_Model_clear G qt qt_draft t_draft t_drafted qt_result t_result t_length t_arguments qt_kinds t_kinds qt_values t_values qt_widths t_widths qt_below t_below qt_sizes t_sizes qt_scales t_scales qt_parts t_parts qt_texts t_texts qt_lengths t_lengths t_end (0 : Int32) (0 : Int32) (0 : Int32) (-1 : Int32) (-1 : Int32) t_conversion (0 : Int32) qt_piece t_piece t_put t_head qt_tens t_tens t_count t_exponent qt_work t_work) H := hP
    have hD : va_D A (w_Model_clear G qt qt_draft t_draft t_drafted qt_result t_result t_length t_arguments qt_kinds t_kinds qt_values t_values qt_widths t_widths qt_below t_below qt_sizes t_sizes qt_scales t_scales qt_parts t_parts qt_texts t_texts qt_lengths t_lengths t_end (0 : Int32) (0 : Int32) (0 : Int32) (-1 : Int32) (-1 : Int32) t_conversion (0 : Int32) qt_piece t_piece t_put t_head qt_tens t_tens t_count t_exponent qt_work t_work) := hD
    refine lv_iinc (v := ((a1 + (1 : Int32)) + 1)) (lv' := [(2, .int ((a1 + (1 : Int32)) + 1)), (0, .ref qt), (1, .int a1)]) hx hb d_Model_goOver_49 hl (k := 0) rfl rfl (by decide) rfl (fun ls hl => ?_)
    refine lv_goto (tgt := 112) hx hb d_Model_goOver_52 (by decide) ?_
    exact W_112 t_end (0 : Int32) (-1 : Int32) (-1 : Int32) t_conversion (0 : Int32)  K (((a1 + (1 : Int32)) + 1), (0 : Int32), (0 : Int32))  hf _ _ _ hP hD hS (lv_sub hl [1, 0] rfl)
theorem d_Model_isOneOf_0 : decode cd_Model_isOneOf 0 = .ok (.iconst 0, 1) := by decide +kernel
theorem d_Model_isOneOf_1 : decode cd_Model_isOneOf 1 = .ok (.istore 5, 2) := by decide +kernel
theorem d_Model_isOneOf_3 : decode cd_Model_isOneOf 3 = .ok (.iconst 0, 1) := by decide +kernel
theorem d_Model_isOneOf_4 : decode cd_Model_isOneOf 4 = .ok (.istore 6, 2) := by decide +kernel
theorem d_Model_isOneOf_6 : decode cd_Model_isOneOf 6 = .ok (.iload 6, 2) := by decide +kernel
theorem d_Model_isOneOf_8 : decode cd_Model_isOneOf 8 = .ok (.bipush 8, 2) := by decide +kernel
theorem d_Model_isOneOf_10 : decode cd_Model_isOneOf 10 = .ok (.if_icmp .ge 59, 3) := by decide +kernel
theorem d_Model_isOneOf_13 : decode cd_Model_isOneOf 13 = .ok (.iload 5, 2) := by decide +kernel
theorem d_Model_isOneOf_15 : decode cd_Model_isOneOf 15 = .ok (.ifCond .ne 41, 3) := by decide +kernel
theorem d_Model_isOneOf_18 : decode cd_Model_isOneOf 18 = .ok (.iload_n 0, 1) := by decide +kernel
theorem d_Model_isOneOf_19 : decode cd_Model_isOneOf 19 = .ok (.ifCond .eq 41, 3) := by decide +kernel
theorem d_Model_isOneOf_22 : decode cd_Model_isOneOf 22 = .ok (.lload_n 1, 1) := by decide +kernel
theorem d_Model_isOneOf_23 : decode cd_Model_isOneOf 23 = .ok (.bipush 8, 2) := by decide +kernel
theorem d_Model_isOneOf_25 : decode cd_Model_isOneOf 25 = .ok (.iload 6, 2) := by decide +kernel
theorem d_Model_isOneOf_27 : decode cd_Model_isOneOf 27 = .ok (.imul, 1) := by decide +kernel
theorem d_Model_isOneOf_28 : decode cd_Model_isOneOf 28 = .ok (.lshr, 1) := by decide +kernel
theorem d_Model_isOneOf_29 : decode cd_Model_isOneOf 29 = .ok (.ldc2_w 54, 3) := by decide +kernel
theorem d_Model_isOneOf_32 : decode cd_Model_isOneOf 32 = .ok (.land, 1) := by decide +kernel
theorem d_Model_isOneOf_33 : decode cd_Model_isOneOf 33 = .ok (.iload_n 0, 1) := by decide +kernel
theorem d_Model_isOneOf_34 : decode cd_Model_isOneOf 34 = .ok (.i2l, 1) := by decide +kernel
theorem d_Model_isOneOf_35 : decode cd_Model_isOneOf 35 = .ok (.lcmp, 1) := by decide +kernel
theorem d_Model_isOneOf_36 : decode cd_Model_isOneOf 36 = .ok (.ifCond .eq 20, 3) := by decide +kernel
theorem d_Model_isOneOf_39 : decode cd_Model_isOneOf 39 = .ok (.lload_n 3, 1) := by decide +kernel
theorem d_Model_isOneOf_40 : decode cd_Model_isOneOf 40 = .ok (.bipush 8, 2) := by decide +kernel
theorem d_Model_isOneOf_42 : decode cd_Model_isOneOf 42 = .ok (.iload 6, 2) := by decide +kernel
theorem d_Model_isOneOf_44 : decode cd_Model_isOneOf 44 = .ok (.imul, 1) := by decide +kernel
theorem d_Model_isOneOf_45 : decode cd_Model_isOneOf 45 = .ok (.lshr, 1) := by decide +kernel
theorem d_Model_isOneOf_46 : decode cd_Model_isOneOf 46 = .ok (.ldc2_w 54, 3) := by decide +kernel
theorem d_Model_isOneOf_49 : decode cd_Model_isOneOf 49 = .ok (.land, 1) := by decide +kernel
theorem d_Model_isOneOf_50 : decode cd_Model_isOneOf 50 = .ok (.iload_n 0, 1) := by decide +kernel
theorem d_Model_isOneOf_51 : decode cd_Model_isOneOf 51 = .ok (.i2l, 1) := by decide +kernel
theorem d_Model_isOneOf_52 : decode cd_Model_isOneOf 52 = .ok (.lcmp, 1) := by decide +kernel
theorem d_Model_isOneOf_53 : decode cd_Model_isOneOf 53 = .ok (.ifCond .ne 7, 3) := by decide +kernel
theorem d_Model_isOneOf_56 : decode cd_Model_isOneOf 56 = .ok (.iconst 1, 1) := by decide +kernel
theorem d_Model_isOneOf_57 : decode cd_Model_isOneOf 57 = .ok (.goto 4, 3) := by decide +kernel
theorem d_Model_isOneOf_60 : decode cd_Model_isOneOf 60 = .ok (.iconst 0, 1) := by decide +kernel
theorem d_Model_isOneOf_61 : decode cd_Model_isOneOf 61 = .ok (.istore 5, 2) := by decide +kernel
theorem d_Model_isOneOf_63 : decode cd_Model_isOneOf 63 = .ok (.iinc 6 1, 3) := by decide +kernel
theorem d_Model_isOneOf_66 : decode cd_Model_isOneOf 66 = .ok (.goto (-60), 3) := by decide +kernel
theorem d_Model_isOneOf_69 : decode cd_Model_isOneOf 69 = .ok (.iload 5, 2) := by decide +kernel
theorem d_Model_isOneOf_71 : decode cd_Model_isOneOf 71 = .ok (.ireturn, 1) := by decide +kernel
def k_Model_isOneOf_61 (rec_6 : (Int32 × Int32) → Option Int32) (x6 : Int32) (k0 : Int32) : Option Int32 :=
  rec_6 (k0, (x6 + 1))
def k_Model_isOneOf_60 (rec_6 : (Int32 × Int32) → Option Int32) (x6 : Int32) : Option Int32 :=
  k_Model_isOneOf_61 rec_6 x6 (0 : Int32)
def k_Model_isOneOf_56 (rec_6 : (Int32 × Int32) → Option Int32) (x6 : Int32) : Option Int32 :=
  k_Model_isOneOf_61 rec_6 x6 (1 : Int32)
def b_Model_isOneOf_6 (a1 : Int32) (a2 : Int64) (a3 : Int64)  (rec_6 : (Int32 × Int32) → Option Int32) (z6 : Int32 × Int32) : Option Int32 :=
  (if (8 : Int32) ≤ z6.2 then some z6.1 else (if z6.1 = 0 then (if a1 = 0 then k_Model_isOneOf_60 rec_6 z6.2 else (if (lg_cmp ((a2 >>> (((8 : Int32) * z6.2).toInt64 &&& 63)) &&& (255 : Int64)) a1.toInt64) = 0 then k_Model_isOneOf_56 rec_6 z6.2 else (if (lg_cmp ((a3 >>> (((8 : Int32) * z6.2).toInt64 &&& 63)) &&& (255 : Int64)) a1.toInt64) = 0 then k_Model_isOneOf_56 rec_6 z6.2 else k_Model_isOneOf_60 rec_6 z6.2))) else k_Model_isOneOf_56 rec_6 z6.2))
def f_Model_isOneOf (K : Nat) (a1 : Int32) (a2 : Int64) (a3 : Int64) : Option Int32 :=
  lp_ (b_Model_isOneOf_6 a1 a2 a3 ) K ((0 : Int32), (0 : Int32))
set_option maxHeartbeats 4000000 in
set_option maxRecDepth 100000 in
theorem c_Model_isOneOf (l : Launch) (G : Gt) (K : Nat) (a1 : Int32) (a2 : Int64) (a3 : Int64) (sz : Nat) (res : Int32)   (hf : f_Model_isOneOf K a1 a2 a3 = some res) : Met l y_Model_isOneOf (.code y_Model_isOneOf cd_Model_isOneOf 7 (some .boolean) :: gw) { frames := 0, cells := 0, slots := 0, locals := 0 } (PC G ([.int a1, .long a2, .long a3] : List Value) sz (w_Preconditions_checkIndexn G )) (QZ G res (va_A (w_Preconditions_checkIndexn G ) sz) (w_Preconditions_checkIndexn G )) 0 0 (va_A (w_Preconditions_checkIndexn G ) sz) := by
  refine Met.ofW (cc := cd_Model_isOneOf) (maxL := 7) (ret := (some .boolean)) (by decide) rfl ?_
  intro p e s m args below meth c s₁ B hml hv
  obtain ⟨rfl, hsz, hP, hE, hD0⟩ := hv
  have hx := B.exec
  have hb := B.bytes
  have hr := B.returns
  have hts := atoms_spec (ws := (.code y_Model_isOneOf cd_Model_isOneOf 7 (some .boolean) :: gw)) B.pre
  have hg : ∀ w ∈ gw, w.before _ s = true := fun w h => hts w (List.mem_cons_of_mem _ h)
  have hown : s.vm.findClass R_Model = some m.cls := findClass_of_methodNamed B.named
  have hlocks := B.notSynchronized
  subst hsz
  have hK := hE.K
  have hD := hD0.self (sz := s.heap.size)
  have hAb := hE.ab hD0
  obtain ⟨Q, hQ⟩ : ∃ Q, MQ below (QZ G res (va_A (w_Preconditions_checkIndexn G ) s.heap.size) (w_Preconditions_checkIndexn G )) ([.int a1, .long a2, .long a3] : List Value).toArray s 0 0 (va_A (w_Preconditions_checkIndexn G ) s.heap.size) = Q := ⟨_, rfl⟩
  show W p l e { frames := 0, cells := 0, slots := 0, locals := 0 } s m ([.int a1, .long a2, .long a3] : List Value).toArray below meth c s.heap [] 0 0 (MQ below (QZ G res (va_A (w_Preconditions_checkIndexn G ) s.heap.size) (w_Preconditions_checkIndexn G )) ([.int a1, .long a2, .long a3] : List Value).toArray s 0 0 (va_A (w_Preconditions_checkIndexn G ) s.heap.size)) _
  rw [hQ]
  have hA : ∀ q : Nat, s.heap.size ≤ q → va_A (w_Preconditions_checkIndexn G ) s.heap.size q := fun q h => Or.inr h
  obtain ⟨A, hAe⟩ : ∃ A, va_A (w_Preconditions_checkIndexn G ) s.heap.size = A := ⟨_, rfl⟩
  rw [hAe] at hA hD hAb hQ
  have hS : va_S A s.heap s.heap [] := va_S.rf
  have hl := lv_entry (([.int a1, .long a2, .long a3] : List Value)) (n := 7) (Nat.le_of_ble_eq_true rfl)
  rw [lg_entry_eq]
  generalize (lg_sl (([.int a1, .long a2, .long a3] : List Value)) ++ List.replicate (7 - (lg_sl (([.int a1, .long a2, .long a3] : List Value))).length) Slot.unset).toArray = ls at hl ⊢
  have hl : lv_has ls 7 [(0, .int a1), (1, .long a2), (3, .long a3)] := hl
  have W_6 : ∀   (n_6 : Nat) (z6 : Int32 × Int32) (b_x5 : bl z6.1), lp_ (b_Model_isOneOf_6 a1 a2 a3 ) n_6 z6 = some res → ∀ (H : Heap) (locs : List Loc) (ls : Array Slot), va_P (gD G) vwCl (w_Preconditions_checkIndexn G ) H → va_D A (w_Preconditions_checkIndexn G ) → va_S A s.heap H locs → lv_has ls 7 [(0, .int a1), (1, .long a2), (3, .long a3), (5, .int z6.1), (6, .int z6.2)] → W p l e { frames := 0, cells := 0, slots := 0, locals := 0 } s m ([.int a1, .long a2, .long a3] : List Value).toArray below meth c H locs 0 0 Q (F0 m 6 ls []) := by
    intro  n_6
    induction n_6 with
    | zero =>
      intro z6 b_x5 hf
      cases hf
    | succ n_6 ih_6 =>
      intro z6 b_x5 hf H locs ls hP hD hS hl
      have hf : b_Model_isOneOf_6 a1 a2 a3  (lp_ (b_Model_isOneOf_6 a1 a2 a3 ) n_6) z6 = some res := hf
      generalize lp_ (b_Model_isOneOf_6 a1 a2 a3 ) n_6 = rec_6 at hf ih_6
      have W_61 : ∀ (x6 : Int32) (k0 : Int32) (b_k0 : bl k0), k_Model_isOneOf_61 rec_6 x6 k0 = some res → ∀ (H : Heap) (locs : List Loc) (ls : Array Slot), va_P (gD G) vwCl (w_Preconditions_checkIndexn G ) H → va_D A (w_Preconditions_checkIndexn G ) → va_S A s.heap H locs → lv_has ls 7 [(0, .int a1), (1, .long a2), (3, .long a3), (6, .int x6)] → W p l e { frames := 0, cells := 0, slots := 0, locals := 0 } s m ([.int a1, .long a2, .long a3] : List Value).toArray below meth c H locs 0 0 Q (F0 m 61 ls [.int k0]) := by
        intro x6 k0 b_k0 hf H locs ls hP hD hS hl
        unfold k_Model_isOneOf_61 at hf
        refine lv_istore (lv' := [(5, .int k0), (0, .int a1), (1, .long a2), (3, .long a3), (6, .int x6)]) hx hb d_Model_isOneOf_61 hl (by decide) rfl (fun ls hl => ?_)
        refine lv_iinc (v := (x6 + 1)) (lv' := [(6, .int (x6 + 1)), (5, .int k0), (0, .int a1), (1, .long a2), (3, .long a3)]) hx hb d_Model_isOneOf_63 hl (k := 4) rfl rfl (by decide) rfl (fun ls hl => ?_)
        refine lv_goto (tgt := 6) hx hb d_Model_isOneOf_66 (by decide) ?_
        exact ih_6 (k0, (x6 + 1)) b_k0 hf _ _ _ hP hD hS (lv_sub hl [2, 3, 4, 1, 0] rfl)
      have W_60 : ∀ (x6 : Int32) , k_Model_isOneOf_60 rec_6 x6 = some res → ∀ (H : Heap) (locs : List Loc) (ls : Array Slot), va_P (gD G) vwCl (w_Preconditions_checkIndexn G ) H → va_D A (w_Preconditions_checkIndexn G ) → va_S A s.heap H locs → lv_has ls 7 [(0, .int a1), (1, .long a2), (3, .long a3), (6, .int x6)] → W p l e { frames := 0, cells := 0, slots := 0, locals := 0 } s m ([.int a1, .long a2, .long a3] : List Value).toArray below meth c H locs 0 0 Q (F0 m 60 ls []) := by
        intro x6  hf H locs ls hP hD hS hl
        unfold k_Model_isOneOf_60 at hf
        refine lv_iconst (v := 0) hx hb d_Model_isOneOf_60 (by decide) ?_
        exact W_61 x6 (0 : Int32) bl_0 hf _ _ _ hP hD hS (lv_sub hl [0, 1, 2, 3] rfl)
      have W_56 : ∀ (x6 : Int32) , k_Model_isOneOf_56 rec_6 x6 = some res → ∀ (H : Heap) (locs : List Loc) (ls : Array Slot), va_P (gD G) vwCl (w_Preconditions_checkIndexn G ) H → va_D A (w_Preconditions_checkIndexn G ) → va_S A s.heap H locs → lv_has ls 7 [(0, .int a1), (1, .long a2), (3, .long a3), (6, .int x6)] → W p l e { frames := 0, cells := 0, slots := 0, locals := 0 } s m ([.int a1, .long a2, .long a3] : List Value).toArray below meth c H locs 0 0 Q (F0 m 56 ls []) := by
        intro x6  hf H locs ls hP hD hS hl
        unfold k_Model_isOneOf_56 at hf
        refine lv_iconst (v := 1) hx hb d_Model_isOneOf_56 (by decide) ?_
        refine lv_goto (tgt := 61) hx hb d_Model_isOneOf_57 (by decide) ?_
        exact W_61 x6 (1 : Int32) bl_1 hf _ _ _ hP hD hS (lv_sub hl [0, 1, 2, 3] rfl)
      unfold b_Model_isOneOf_6 at hf
      refine lv_iload hx hb d_Model_isOneOf_6 (lv_at hl 4 rfl) ?_
      refine lv_bipush (v := 8) hx hb d_Model_isOneOf_8 (by decide) ?_
      refine lv_icmp_ge (tgt := 69) hx hb d_Model_isOneOf_10 (by decide) (fun c_10 => ?_) (fun c_10 => ?_)
      · have hf := ip_ c_10 hf
        refine lv_iload hx hb d_Model_isOneOf_69 (lv_at hl 3 rfl) ?_
        obtain rfl := Option.some.inj hf
        rw [← hQ]
        exact W.zret (v := z6.1) hx hb hr (bl_n b_x5) (fun t9 ht hW => ⟨⟨z6.1, (), rfl, ⟨rfl, b_x5⟩, ⟨by rw [ht]; exact hP, hD⟩⟩, hS.F ht⟩) hS.2.2 d_Model_isOneOf_71
      · have hf := in_ c_10 hf
        refine lv_iload hx hb d_Model_isOneOf_13 (lv_at hl 3 rfl) ?_
        refine lv_if_ne (tgt := 56) hx hb d_Model_isOneOf_15 (by decide) (fun c_15 => ?_) (fun c_15 => ?_)
        · have hf := in_ c_15 hf
          exact W_56 z6.2  hf _ _ _ hP hD hS (lv_sub hl [0, 1, 2, 4] rfl)
        · have hf := ip_ c_15 hf
          refine lv_iload_n hx hb d_Model_isOneOf_18 rfl (lv_at hl 0 rfl) ?_
          refine lv_if_eq (tgt := 60) hx hb d_Model_isOneOf_19 (by decide) (fun c_19 => ?_) (fun c_19 => ?_)
          · have hf := ip_ c_19 hf
            exact W_60 z6.2  hf _ _ _ hP hD hS (lv_sub hl [0, 1, 2, 4] rfl)
          · have hf := in_ c_19 hf
            refine lv_lload_n hx hb d_Model_isOneOf_22 rfl (lv_at hl 1 rfl) ?_
            refine lv_bipush (v := 8) hx hb d_Model_isOneOf_23 (by decide) ?_
            refine lv_iload hx hb d_Model_isOneOf_25 (lv_at hl 4 rfl) ?_
            refine lv_imul hx hb d_Model_isOneOf_27 ?_
            refine lv_lshr (v := (a2 >>> (((8 : Int32) * z6.2).toInt64 &&& 63))) hx hb d_Model_isOneOf_28 rfl ?_
            refine lv_ldc2 (v := 255) hx hb hown (hg _ m_405) d_Model_isOneOf_29 ?_
            refine lv_land hx hb d_Model_isOneOf_32 ?_
            refine lv_iload_n hx hb d_Model_isOneOf_33 rfl (lv_at hl 0 rfl) ?_
            refine lv_i2l (v := a1.toInt64) hx hb d_Model_isOneOf_34 rfl ?_
            refine W.lcmp hx hb d_Model_isOneOf_35 ?_
            refine lv_if_eq (tgt := 56) hx hb d_Model_isOneOf_36 (by decide) (fun c_36 => ?_) (fun c_36 => ?_)
            · have hf := ip_ c_36 hf
              exact W_56 z6.2  hf _ _ _ hP hD hS (lv_sub hl [0, 1, 2, 4] rfl)
            · have hf := in_ c_36 hf
              refine lv_lload_n hx hb d_Model_isOneOf_39 rfl (lv_at hl 2 rfl) ?_
              refine lv_bipush (v := 8) hx hb d_Model_isOneOf_40 (by decide) ?_
              refine lv_iload hx hb d_Model_isOneOf_42 (lv_at hl 4 rfl) ?_
              refine lv_imul hx hb d_Model_isOneOf_44 ?_
              refine lv_lshr (v := (a3 >>> (((8 : Int32) * z6.2).toInt64 &&& 63))) hx hb d_Model_isOneOf_45 rfl ?_
              refine lv_ldc2 (v := 255) hx hb hown (hg _ m_405) d_Model_isOneOf_46 ?_
              refine lv_land hx hb d_Model_isOneOf_49 ?_
              refine lv_iload_n hx hb d_Model_isOneOf_50 rfl (lv_at hl 0 rfl) ?_
              refine lv_i2l (v := a1.toInt64) hx hb d_Model_isOneOf_51 rfl ?_
              refine W.lcmp hx hb d_Model_isOneOf_52 ?_
              refine lv_if_ne (tgt := 60) hx hb d_Model_isOneOf_53 (by decide) (fun c_53 => ?_) (fun c_53 => ?_)
              · have hf := in_ c_53 hf
                exact W_60 z6.2  hf _ _ _ hP hD hS (lv_sub hl [0, 1, 2, 4] rfl)
              · have hf := ip_ c_53 hf
                exact W_56 z6.2  hf _ _ _ hP hD hS (lv_sub hl [0, 1, 2, 4] rfl)
  unfold f_Model_isOneOf at hf
  refine lv_iconst (v := 0) hx hb d_Model_isOneOf_0 (by decide) ?_
  refine lv_istore (lv' := [(5, .int (0 : Int32)), (0, .int a1), (1, .long a2), (3, .long a3)]) hx hb d_Model_isOneOf_1 hl (by decide) rfl (fun ls hl => ?_)
  refine lv_iconst (v := 0) hx hb d_Model_isOneOf_3 (by decide) ?_
  refine lv_istore (lv' := [(6, .int (0 : Int32)), (5, .int (0 : Int32)), (0, .int a1), (1, .long a2), (3, .long a3)]) hx hb d_Model_isOneOf_4 hl (by decide) rfl (fun ls hl => ?_)
  exact W_6   K ((0 : Int32), (0 : Int32)) bl_0 hf _ _ _ hP hD hS (lv_sub hl [2, 3, 4, 1, 0] rfl)
theorem d_Model_isGreat_0 : decode cd_Model_isGreat 0 = .ok (.aload_n 0, 1) := by decide +kernel
theorem d_Model_isGreat_1 : decode cd_Model_isGreat 1 = .ok (.getfield 112, 3) := by decide +kernel
theorem d_Model_isGreat_4 : decode cd_Model_isGreat 4 = .ok (.ldc2_w 122, 3) := by decide +kernel
theorem d_Model_isGreat_7 : decode cd_Model_isGreat 7 = .ok (.lconst 0, 1) := by decide +kernel
theorem d_Model_isGreat_8 : decode cd_Model_isGreat 8 = .ok (.invokestatic 124, 3) := by decide +kernel
theorem d_Model_isGreat_11 : decode cd_Model_isGreat 11 = .ok (.ireturn, 1) := by decide +kernel
theorem m_432 : Cond.constantLong R_Model 122 18668897171752769 ∈ gw := gm (i := 1042) (by decide +kernel) (by decide +kernel)
theorem m_433 : Cond.methodLink R_Model 124 y_Model_isOneOf ∈ gw := gm (i := 1043) (by decide +kernel) (by decide +kernel)
theorem m_434 : Cond.static y_Model_isOneOf ∈ gw := gm (i := 1044) (by decide +kernel) (by decide +kernel)
set_option maxRecDepth 100000 in
theorem m_435 : Cond.code y_Model_isOneOf cd_Model_isOneOf 7 (some .boolean) ∈ gw := gm (i := 1045) rfl rfl
def f_Model_isGreat (K : Nat) (t_conversion : Int32) : Option Int32 :=
  ((f_Model_isOneOf K t_conversion (18668897171752769 : Int64) (0 : Int64)).bind fun u_8 => some u_8)
set_option maxHeartbeats 4000000 in
set_option maxRecDepth 100000 in
theorem c_Model_isGreat (l : Launch) (G : Gt) (K : Nat) (qt : Nat) (qt_draft : Nat) (t_draft : Nat → Int32) (t_drafted : Int32) (qt_result : Nat) (t_result : Nat → Int32) (t_length : Int32) (t_arguments : Int32) (qt_kinds : Nat) (t_kinds : Nat → Int32) (qt_values : Nat) (t_values : Nat → Int64) (qt_widths : Nat) (t_widths : Nat → Int32) (qt_below : Nat) (t_below : Nat → Int32) (qt_sizes : Nat) (t_sizes : Nat → Int32) (qt_scales : Nat) (t_scales : Nat → Int32) (qt_parts : Nat) (t_parts : Nat → Int64) (qt_texts : Nat) (t_texts : Nat → Int32) (qt_lengths : Nat) (t_lengths : Nat → Int32) (t_end : Int32) (t_index : Int32) (t_flags : Int32) (t_twice : Int32) (t_width : Int32) (t_precision : Int32) (t_conversion : Int32) (t_broken : Int32) (qt_piece : Nat) (t_piece : Nat → Int32) (t_put : Int32) (t_head : Int32) (qt_tens : Nat) (t_tens : Nat → Int32) (t_count : Int32) (t_exponent : Int32) (qt_work : Nat) (t_work : Nat → Int32) (sz : Nat) (res : Int32)   (hf : f_Model_isGreat K t_conversion = some res) : Met l y_Model_isGreat (.code y_Model_isGreat cd_Model_isGreat 1 (some .boolean) :: gw) { frames := 1, cells := 0, slots := 0, locals := 40 } (PC G ([.ref qt] : List Value) sz (w_Model_clear G qt qt_draft t_draft t_drafted qt_result t_result t_length t_arguments qt_kinds t_kinds qt_values t_values qt_widths t_widths qt_below t_below qt_sizes t_sizes qt_scales t_scales qt_parts t_parts qt_texts t_texts qt_lengths t_lengths t_end t_index t_flags t_twice t_width t_precision t_conversion t_broken qt_piece t_piece t_put t_head qt_tens t_tens t_count t_exponent qt_work t_work)) (QZ G res (va_A (w_Model_clear G qt qt_draft t_draft t_drafted qt_result t_result t_length t_arguments qt_kinds t_kinds qt_values t_values qt_widths t_widths qt_below t_below qt_sizes t_sizes qt_scales t_scales qt_parts t_parts qt_texts t_texts qt_lengths t_lengths t_end t_index t_flags t_twice t_width t_precision t_conversion t_broken qt_piece t_piece t_put t_head qt_tens t_tens t_count t_exponent qt_work t_work) sz) (w_Model_clear G qt qt_draft t_draft t_drafted qt_result t_result t_length t_arguments qt_kinds t_kinds qt_values t_values qt_widths t_widths qt_below t_below qt_sizes t_sizes qt_scales t_scales qt_parts t_parts qt_texts t_texts qt_lengths t_lengths t_end t_index t_flags t_twice t_width t_precision t_conversion t_broken qt_piece t_piece t_put t_head qt_tens t_tens t_count t_exponent qt_work t_work)) 0 0 (va_A (w_Model_clear G qt qt_draft t_draft t_drafted qt_result t_result t_length t_arguments qt_kinds t_kinds qt_values t_values qt_widths t_widths qt_below t_below qt_sizes t_sizes qt_scales t_scales qt_parts t_parts qt_texts t_texts qt_lengths t_lengths t_end t_index t_flags t_twice t_width t_precision t_conversion t_broken qt_piece t_piece t_put t_head qt_tens t_tens t_count t_exponent qt_work t_work) sz) := by
  refine Met.ofW (cc := cd_Model_isGreat) (maxL := 1) (ret := (some .boolean)) (by decide) rfl ?_
  intro p e s m args below meth c s₁ B hml hv
  obtain ⟨rfl, hsz, hP, hE, hD0⟩ := hv
  have hx := B.exec
  have hb := B.bytes
  have hr := B.returns
  have hts := atoms_spec (ws := (.code y_Model_isGreat cd_Model_isGreat 1 (some .boolean) :: gw)) B.pre
  have hg : ∀ w ∈ gw, w.before _ s = true := fun w h => hts w (List.mem_cons_of_mem _ h)
  have hown : s.vm.findClass R_Model = some m.cls := findClass_of_methodNamed B.named
  have hlocks := B.notSynchronized
  subst hsz
  have hK := hE.K
  have hD := hD0.self (sz := s.heap.size)
  have hAb := hE.ab hD0
  obtain ⟨Q, hQ⟩ : ∃ Q, MQ below (QZ G res (va_A (w_Model_clear G qt qt_draft t_draft t_drafted qt_result t_result t_length t_arguments qt_kinds t_kinds qt_values t_values qt_widths t_widths qt_below t_below qt_sizes t_sizes qt_scales t_scales qt_parts t_parts qt_texts t_texts qt_lengths t_lengths t_end t_index t_flags t_twice t_width t_precision t_conversion t_broken qt_piece t_piece t_put t_head qt_tens t_tens t_count t_exponent qt_work t_work) s.heap.size) (w_Model_clear G qt qt_draft t_draft t_drafted qt_result t_result t_length t_arguments qt_kinds t_kinds qt_values t_values qt_widths t_widths qt_below t_below qt_sizes t_sizes qt_scales t_scales qt_parts t_parts qt_texts t_texts qt_lengths t_lengths t_end t_index t_flags t_twice t_width t_precision t_conversion t_broken qt_piece t_piece t_put t_head qt_tens t_tens t_count t_exponent qt_work t_work)) ([.ref qt] : List Value).toArray s 0 0 (va_A (w_Model_clear G qt qt_draft t_draft t_drafted qt_result t_result t_length t_arguments qt_kinds t_kinds qt_values t_values qt_widths t_widths qt_below t_below qt_sizes t_sizes qt_scales t_scales qt_parts t_parts qt_texts t_texts qt_lengths t_lengths t_end t_index t_flags t_twice t_width t_precision t_conversion t_broken qt_piece t_piece t_put t_head qt_tens t_tens t_count t_exponent qt_work t_work) s.heap.size) = Q := ⟨_, rfl⟩
  show W p l e { frames := 1, cells := 0, slots := 0, locals := 40 } s m ([.ref qt] : List Value).toArray below meth c s.heap [] 0 0 (MQ below (QZ G res (va_A (w_Model_clear G qt qt_draft t_draft t_drafted qt_result t_result t_length t_arguments qt_kinds t_kinds qt_values t_values qt_widths t_widths qt_below t_below qt_sizes t_sizes qt_scales t_scales qt_parts t_parts qt_texts t_texts qt_lengths t_lengths t_end t_index t_flags t_twice t_width t_precision t_conversion t_broken qt_piece t_piece t_put t_head qt_tens t_tens t_count t_exponent qt_work t_work) s.heap.size) (w_Model_clear G qt qt_draft t_draft t_drafted qt_result t_result t_length t_arguments qt_kinds t_kinds qt_values t_values qt_widths t_widths qt_below t_below qt_sizes t_sizes qt_scales t_scales qt_parts t_parts qt_texts t_texts qt_lengths t_lengths t_end t_index t_flags t_twice t_width t_precision t_conversion t_broken qt_piece t_piece t_put t_head qt_tens t_tens t_count t_exponent qt_work t_work)) ([.ref qt] : List Value).toArray s 0 0 (va_A (w_Model_clear G qt qt_draft t_draft t_drafted qt_result t_result t_length t_arguments qt_kinds t_kinds qt_values t_values qt_widths t_widths qt_below t_below qt_sizes t_sizes qt_scales t_scales qt_parts t_parts qt_texts t_texts qt_lengths t_lengths t_end t_index t_flags t_twice t_width t_precision t_conversion t_broken qt_piece t_piece t_put t_head qt_tens t_tens t_count t_exponent qt_work t_work) s.heap.size)) _
  rw [hQ]
  have hA : ∀ q : Nat, s.heap.size ≤ q → va_A (w_Model_clear G qt qt_draft t_draft t_drafted qt_result t_result t_length t_arguments qt_kinds t_kinds qt_values t_values qt_widths t_widths qt_below t_below qt_sizes t_sizes qt_scales t_scales qt_parts t_parts qt_texts t_texts qt_lengths t_lengths t_end t_index t_flags t_twice t_width t_precision t_conversion t_broken qt_piece t_piece t_put t_head qt_tens t_tens t_count t_exponent qt_work t_work) s.heap.size q := fun q h => Or.inr h
  obtain ⟨A, hAe⟩ : ∃ A, va_A (w_Model_clear G qt qt_draft t_draft t_drafted qt_result t_result t_length t_arguments qt_kinds t_kinds qt_values t_values qt_widths t_widths qt_below t_below qt_sizes t_sizes qt_scales t_scales qt_parts t_parts qt_texts t_texts qt_lengths t_lengths t_end t_index t_flags t_twice t_width t_precision t_conversion t_broken qt_piece t_piece t_put t_head qt_tens t_tens t_count t_exponent qt_work t_work) s.heap.size = A := ⟨_, rfl⟩
  rw [hAe] at hA hD hAb hQ
  have hS : va_S A s.heap s.heap [] := va_S.rf
  have hl := lv_entry (([.ref qt] : List Value)) (n := 1) (Nat.le_of_ble_eq_true rfl)
  rw [lg_entry_eq]
  generalize (lg_sl (([.ref qt] : List Value)) ++ List.replicate (1 - (lg_sl (([.ref qt] : List Value))).length) Slot.unset).toArray = ls at hl ⊢
  have hl : lv_has ls 1 [(0, .ref qt)] := hl
  unfold f_Model_isGreat at hf
  refine lv_aload_n hx hb d_Model_isGreat_0 rfl (lv_at hl 0 rfl) ?_
  refine va_get (D := gD G) (ci := 7) (v := .int t_conversion) (C := R_Model) (T := F_Model) (N := 29) hx hb hg in_Model hown hK hP 0 rfl rfl 20 (by decide) (hg _ m_430) (fun _ h9 => h9) rfl d_Model_isGreat_1 ?_
  refine lv_ldc2 (v := 18668897171752769) hx hb hown (hg _ m_432) d_Model_isGreat_4 ?_
  refine lv_lconst (v := 0) hx hb d_Model_isGreat_7 (by decide) ?_
  obtain ⟨u_8, hu_8, hf⟩ := bd_ hf
  refine CALLz (va_runS (As := [.int t_conversion, .long (18668897171752769 : Int64), .long (0 : Int64)]) (rest := []) ⟨hx, hb, hml, hown, hg⟩ (c_Model_isOneOf l G K t_conversion (18668897171752769 : Int64) (0 : Int64) _ u_8  hu_8) (va_cwS 3 hg (gS m_433 m_434 m_389 m_435) rfl rfl rfl (by decide +kernel) ⟨Nat.le_of_ble_eq_true rfl, Nat.le_of_ble_eq_true rfl⟩) ⟨PC_b, PC_p hE hS hAb (hP.sub [] rfl) (hD.sub [] (by decide) rfl)⟩ rfl rfl hl.1 rfl (lv_room (Nat.le_of_ble_eq_true rfl)) d_Model_isGreat_8 ⟨Nat.zero_le _, Nat.zero_le _⟩) hP hD hS hA [] rfl rfl rfl (fun bu_8 H locs hP hD hS => ?_)
  have hP : va_P (gD G) vwCl (w_Model_clear G qt qt_draft t_draft t_drafted qt_result t_result t_length t_arguments qt_kinds t_kinds qt_values t_values qt_widths t_widths qt_below t_below qt_sizes t_sizes qt_scales t_scales qt_parts t_parts qt_texts t_texts qt_lengths t_lengths t_end t_index t_flags t_twice t_width t_precision t_conversion t_broken qt_piece t_piece t_put t_head qt_tens t_tens t_count t_exponent qt_work t_work) H := hP
  have hD : va_D A (w_Model_clear G qt qt_draft t_draft t_drafted qt_result t_result t_length t_arguments qt_kinds t_kinds qt_values t_values qt_widths t_widths qt_below t_below qt_sizes t_sizes qt_scales t_scales qt_parts t_parts qt_texts t_texts qt_lengths t_lengths t_end t_index t_flags t_twice t_width t_precision t_conversion t_broken qt_piece t_piece t_put t_head qt_tens t_tens t_count t_exponent qt_work t_work) := hD
  obtain rfl := Option.some.inj hf
  rw [← hQ]
  exact W.zret (v := u_8) hx hb hr (bl_n bu_8) (fun t9 ht hW => ⟨⟨u_8, (), rfl, ⟨rfl, bu_8⟩, ⟨by rw [ht]; exact hP, hD⟩⟩, hS.F ht⟩) hS.2.2 d_Model_isGreat_11
theorem d_Model_small_0 : decode cd_Model_small 0 = .ok (.aload_n 0, 1) := by decide +kernel
theorem d_Model_small_1 : decode cd_Model_small 1 = .ok (.invokevirtual 118, 3) := by decide +kernel
theorem d_Model_small_4 : decode cd_Model_small 4 = .ok (.ifCond .eq 13, 3) := by decide +kernel
theorem d_Model_small_7 : decode cd_Model_small 7 = .ok (.aload_n 0, 1) := by decide +kernel
theorem d_Model_small_8 : decode cd_Model_small 8 = .ok (.getfield 112, 3) := by decide +kernel
theorem d_Model_small_11 : decode cd_Model_small 11 = .ok (.bipush 32, 2) := by decide +kernel
theorem d_Model_small_13 : decode cd_Model_small 13 = .ok (.iadd, 1) := by decide +kernel
theorem d_Model_small_14 : decode cd_Model_small 14 = .ok (.goto 7, 3) := by decide +kernel
theorem d_Model_small_17 : decode cd_Model_small 17 = .ok (.aload_n 0, 1) := by decide +kernel
theorem d_Model_small_18 : decode cd_Model_small 18 = .ok (.getfield 112, 3) := by decide +kernel
theorem d_Model_small_21 : decode cd_Model_small 21 = .ok (.ireturn, 1) := by decide +kernel
theorem m_436 : Cond.methodLink R_Model 118 y_Model_isGreat ∈ gw := gm (i := 1038) (by decide +kernel) (by decide +kernel)
theorem m_437 : Cond.instanceMethod y_Model_isGreat ∈ gw := gm (i := 1040) (by decide +kernel) (by decide +kernel)
theorem m_438 : Cond.selects R_Model y_Model_isGreat y_Model_isGreat ∈ gw := gm (i := 46) (by decide +kernel) (by decide +kernel)
set_option maxRecDepth 100000 in
theorem m_439 : Cond.code y_Model_isGreat cd_Model_isGreat 1 (some .boolean) ∈ gw := gm (i := 1041) rfl rfl
def f_Model_small (K : Nat) (t_conversion : Int32) : Option Int32 :=
  ((f_Model_isGreat K t_conversion).bind fun u_1 => (if u_1 = 0 then some t_conversion else some (t_conversion + (32 : Int32))))
set_option maxHeartbeats 4000000 in
set_option maxRecDepth 100000 in
theorem c_Model_small (l : Launch) (G : Gt) (K : Nat) (qt : Nat) (qt_draft : Nat) (t_draft : Nat → Int32) (t_drafted : Int32) (qt_result : Nat) (t_result : Nat → Int32) (t_length : Int32) (t_arguments : Int32) (qt_kinds : Nat) (t_kinds : Nat → Int32) (qt_values : Nat) (t_values : Nat → Int64) (qt_widths : Nat) (t_widths : Nat → Int32) (qt_below : Nat) (t_below : Nat → Int32) (qt_sizes : Nat) (t_sizes : Nat → Int32) (qt_scales : Nat) (t_scales : Nat → Int32) (qt_parts : Nat) (t_parts : Nat → Int64) (qt_texts : Nat) (t_texts : Nat → Int32) (qt_lengths : Nat) (t_lengths : Nat → Int32) (t_end : Int32) (t_index : Int32) (t_flags : Int32) (t_twice : Int32) (t_width : Int32) (t_precision : Int32) (t_conversion : Int32) (t_broken : Int32) (qt_piece : Nat) (t_piece : Nat → Int32) (t_put : Int32) (t_head : Int32) (qt_tens : Nat) (t_tens : Nat → Int32) (t_count : Int32) (t_exponent : Int32) (qt_work : Nat) (t_work : Nat → Int32) (sz : Nat) (res : Int32)   (hf : f_Model_small K t_conversion = some res) : Met l y_Model_small (.code y_Model_small cd_Model_small 1 (some .int) :: gw) { frames := 2, cells := 0, slots := 0, locals := 80 } (PC G ([.ref qt] : List Value) sz (w_Model_clear G qt qt_draft t_draft t_drafted qt_result t_result t_length t_arguments qt_kinds t_kinds qt_values t_values qt_widths t_widths qt_below t_below qt_sizes t_sizes qt_scales t_scales qt_parts t_parts qt_texts t_texts qt_lengths t_lengths t_end t_index t_flags t_twice t_width t_precision t_conversion t_broken qt_piece t_piece t_put t_head qt_tens t_tens t_count t_exponent qt_work t_work)) (QI G res (va_A (w_Model_clear G qt qt_draft t_draft t_drafted qt_result t_result t_length t_arguments qt_kinds t_kinds qt_values t_values qt_widths t_widths qt_below t_below qt_sizes t_sizes qt_scales t_scales qt_parts t_parts qt_texts t_texts qt_lengths t_lengths t_end t_index t_flags t_twice t_width t_precision t_conversion t_broken qt_piece t_piece t_put t_head qt_tens t_tens t_count t_exponent qt_work t_work) sz) (w_Model_clear G qt qt_draft t_draft t_drafted qt_result t_result t_length t_arguments qt_kinds t_kinds qt_values t_values qt_widths t_widths qt_below t_below qt_sizes t_sizes qt_scales t_scales qt_parts t_parts qt_texts t_texts qt_lengths t_lengths t_end t_index t_flags t_twice t_width t_precision t_conversion t_broken qt_piece t_piece t_put t_head qt_tens t_tens t_count t_exponent qt_work t_work)) 0 0 (va_A (w_Model_clear G qt qt_draft t_draft t_drafted qt_result t_result t_length t_arguments qt_kinds t_kinds qt_values t_values qt_widths t_widths qt_below t_below qt_sizes t_sizes qt_scales t_scales qt_parts t_parts qt_texts t_texts qt_lengths t_lengths t_end t_index t_flags t_twice t_width t_precision t_conversion t_broken qt_piece t_piece t_put t_head qt_tens t_tens t_count t_exponent qt_work t_work) sz) := by
  refine Met.ofW (cc := cd_Model_small) (maxL := 1) (ret := (some .int)) (by decide) rfl ?_
  intro p e s m args below meth c s₁ B hml hv
  obtain ⟨rfl, hsz, hP, hE, hD0⟩ := hv
  have hx := B.exec
  have hb := B.bytes
  have hr := B.returns
  have hts := atoms_spec (ws := (.code y_Model_small cd_Model_small 1 (some .int) :: gw)) B.pre
  have hg : ∀ w ∈ gw, w.before _ s = true := fun w h => hts w (List.mem_cons_of_mem _ h)
  have hown : s.vm.findClass R_Model = some m.cls := findClass_of_methodNamed B.named
  have hlocks := B.notSynchronized
  subst hsz
  have hK := hE.K
  have hD := hD0.self (sz := s.heap.size)
  have hAb := hE.ab hD0
  obtain ⟨Q, hQ⟩ : ∃ Q, MQ below (QI G res (va_A (w_Model_clear G qt qt_draft t_draft t_drafted qt_result t_result t_length t_arguments qt_kinds t_kinds qt_values t_values qt_widths t_widths qt_below t_below qt_sizes t_sizes qt_scales t_scales qt_parts t_parts qt_texts t_texts qt_lengths t_lengths t_end t_index t_flags t_twice t_width t_precision t_conversion t_broken qt_piece t_piece t_put t_head qt_tens t_tens t_count t_exponent qt_work t_work) s.heap.size) (w_Model_clear G qt qt_draft t_draft t_drafted qt_result t_result t_length t_arguments qt_kinds t_kinds qt_values t_values qt_widths t_widths qt_below t_below qt_sizes t_sizes qt_scales t_scales qt_parts t_parts qt_texts t_texts qt_lengths t_lengths t_end t_index t_flags t_twice t_width t_precision t_conversion t_broken qt_piece t_piece t_put t_head qt_tens t_tens t_count t_exponent qt_work t_work)) ([.ref qt] : List Value).toArray s 0 0 (va_A (w_Model_clear G qt qt_draft t_draft t_drafted qt_result t_result t_length t_arguments qt_kinds t_kinds qt_values t_values qt_widths t_widths qt_below t_below qt_sizes t_sizes qt_scales t_scales qt_parts t_parts qt_texts t_texts qt_lengths t_lengths t_end t_index t_flags t_twice t_width t_precision t_conversion t_broken qt_piece t_piece t_put t_head qt_tens t_tens t_count t_exponent qt_work t_work) s.heap.size) = Q := ⟨_, rfl⟩
  show W p l e { frames := 2, cells := 0, slots := 0, locals := 80 } s m ([.ref qt] : List Value).toArray below meth c s.heap [] 0 0 (MQ below (QI G res (va_A (w_Model_clear G qt qt_draft t_draft t_drafted qt_result t_result t_length t_arguments qt_kinds t_kinds qt_values t_values qt_widths t_widths qt_below t_below qt_sizes t_sizes qt_scales t_scales qt_parts t_parts qt_texts t_texts qt_lengths t_lengths t_end t_index t_flags t_twice t_width t_precision t_conversion t_broken qt_piece t_piece t_put t_head qt_tens t_tens t_count t_exponent qt_work t_work) s.heap.size) (w_Model_clear G qt qt_draft t_draft t_drafted qt_result t_result t_length t_arguments qt_kinds t_kinds qt_values t_values qt_widths t_widths qt_below t_below qt_sizes t_sizes qt_scales t_scales qt_parts t_parts qt_texts t_texts qt_lengths t_lengths t_end t_index t_flags t_twice t_width t_precision t_conversion t_broken qt_piece t_piece t_put t_head qt_tens t_tens t_count t_exponent qt_work t_work)) ([.ref qt] : List Value).toArray s 0 0 (va_A (w_Model_clear G qt qt_draft t_draft t_drafted qt_result t_result t_length t_arguments qt_kinds t_kinds qt_values t_values qt_widths t_widths qt_below t_below qt_sizes t_sizes qt_scales t_scales qt_parts t_parts qt_texts t_texts qt_lengths t_lengths t_end t_index t_flags t_twice t_width t_precision t_conversion t_broken qt_piece t_piece t_put t_head qt_tens t_tens t_count t_exponent qt_work t_work) s.heap.size)) _
  rw [hQ]
  have hA : ∀ q : Nat, s.heap.size ≤ q → va_A (w_Model_clear G qt qt_draft t_draft t_drafted qt_result t_result t_length t_arguments qt_kinds t_kinds qt_values t_values qt_widths t_widths qt_below t_below qt_sizes t_sizes qt_scales t_scales qt_parts t_parts qt_texts t_texts qt_lengths t_lengths t_end t_index t_flags t_twice t_width t_precision t_conversion t_broken qt_piece t_piece t_put t_head qt_tens t_tens t_count t_exponent qt_work t_work) s.heap.size q := fun q h => Or.inr h
  obtain ⟨A, hAe⟩ : ∃ A, va_A (w_Model_clear G qt qt_draft t_draft t_drafted qt_result t_result t_length t_arguments qt_kinds t_kinds qt_values t_values qt_widths t_widths qt_below t_below qt_sizes t_sizes qt_scales t_scales qt_parts t_parts qt_texts t_texts qt_lengths t_lengths t_end t_index t_flags t_twice t_width t_precision t_conversion t_broken qt_piece t_piece t_put t_head qt_tens t_tens t_count t_exponent qt_work t_work) s.heap.size = A := ⟨_, rfl⟩
  rw [hAe] at hA hD hAb hQ
  have hS : va_S A s.heap s.heap [] := va_S.rf
  have hl := lv_entry (([.ref qt] : List Value)) (n := 1) (Nat.le_of_ble_eq_true rfl)
  rw [lg_entry_eq]
  generalize (lg_sl (([.ref qt] : List Value)) ++ List.replicate (1 - (lg_sl (([.ref qt] : List Value))).length) Slot.unset).toArray = ls at hl ⊢
  have hl : lv_has ls 1 [(0, .ref qt)] := hl
  unfold f_Model_small at hf
  refine lv_aload_n hx hb d_Model_small_0 rfl (lv_at hl 0 rfl) ?_
  obtain ⟨u_1, hu_1, hf⟩ := bd_ hf
  refine CALLWz (va_runV (As := []) (rest := []) ⟨hx, hb, hml, hown, hg⟩ (c_Model_isGreat l G K qt qt_draft t_draft t_drafted qt_result t_result t_length t_arguments qt_kinds t_kinds qt_values t_values qt_widths t_widths qt_below t_below qt_sizes t_sizes qt_scales t_scales qt_parts t_parts qt_texts t_texts qt_lengths t_lengths t_end t_index t_flags t_twice t_width t_precision t_conversion t_broken qt_piece t_piece t_put t_head qt_tens t_tens t_count t_exponent qt_work t_work _ u_1  hu_1) (cwV 0 hg (gV m_436 m_437 m_438 m_389 m_439) rfl rfl rfl (by decide +kernel) ⟨Nat.le_of_ble_eq_true rfl, Nat.le_of_ble_eq_true rfl⟩) ⟨PC_b, va_recv hK hP (ci := 7) (q0 := 0) rfl rfl, PC_p hE hS hAb hP hD⟩ rfl rfl hl.1 rfl (lv_room (Nat.le_of_ble_eq_true rfl)) d_Model_small_1 ⟨Nat.zero_le _, Nat.zero_le _⟩) hP hD hS hA (fun bu_1 H locs hP hD hS => ?_)
  have hP : va_P (gD G) vwCl (w_Model_clear G qt qt_draft t_draft t_drafted qt_result t_result t_length t_arguments qt_kinds t_kinds qt_values t_values qt_widths t_widths qt_below t_below qt_sizes t_sizes qt_scales t_scales qt_parts t_parts qt_texts t_texts qt_lengths t_lengths t_end t_index t_flags t_twice t_width t_precision t_conversion t_broken qt_piece t_piece t_put t_head qt_tens t_tens t_count t_exponent qt_work t_work) H := hP
  have hD : va_D A (w_Model_clear G qt qt_draft t_draft t_drafted qt_result t_result t_length t_arguments qt_kinds t_kinds qt_values t_values qt_widths t_widths qt_below t_below qt_sizes t_sizes qt_scales t_scales qt_parts t_parts qt_texts t_texts qt_lengths t_lengths t_end t_index t_flags t_twice t_width t_precision t_conversion t_broken qt_piece t_piece t_put t_head qt_tens t_tens t_count t_exponent qt_work t_work) := hD
  refine lv_if_eq (tgt := 17) hx hb d_Model_small_4 (by decide) (fun c_4 => ?_) (fun c_4 => ?_)
  · have hf := ip_ c_4 hf
    refine lv_aload_n hx hb d_Model_small_17 rfl (lv_at hl 0 rfl) ?_
    refine va_get (D := gD G) (ci := 7) (v := .int t_conversion) (C := R_Model) (T := F_Model) (N := 29) hx hb hg in_Model hown hK hP 0 rfl rfl 20 (by decide) (hg _ m_430) (fun _ h9 => h9) rfl d_Model_small_18 ?_
    obtain rfl := Option.some.inj hf
    rw [← hQ]
    exact W.iret (v := t_conversion) hx hb hr (fun t9 ht hW => ⟨⟨t_conversion, (), rfl, rfl, ⟨by rw [ht]; exact hP, hD⟩⟩, hS.F ht⟩) hS.2.2 d_Model_small_21
  · have hf := in_ c_4 hf
    refine lv_aload_n hx hb d_Model_small_7 rfl (lv_at hl 0 rfl) ?_
    refine va_get (D := gD G) (ci := 7) (v := .int t_conversion) (C := R_Model) (T := F_Model) (N := 29) hx hb hg in_Model hown hK hP 0 rfl rfl 20 (by decide) (hg _ m_430) (fun _ h9 => h9) rfl d_Model_small_8 ?_
    refine lv_bipush (v := 32) hx hb d_Model_small_11 (by decide) ?_
    refine lv_iadd hx hb d_Model_small_13 ?_
    refine lv_goto (tgt := 21) hx hb d_Model_small_14 (by decide) ?_
    obtain rfl := Option.some.inj hf
    rw [← hQ]
    exact W.iret (v := (t_conversion + (32 : Int32))) hx hb hr (fun t9 ht hW => ⟨⟨(t_conversion + (32 : Int32)), (), rfl, rfl, ⟨by rw [ht]; exact hP, hD⟩⟩, hS.F ht⟩) hS.2.2 d_Model_small_21
theorem d_Model_isNumber_0 : decode cd_Model_isNumber 0 = .ok (.aload_n 0, 1) := by decide +kernel
theorem d_Model_isNumber_1 : decode cd_Model_isNumber 1 = .ok (.invokevirtual 128, 3) := by decide +kernel
theorem d_Model_isNumber_4 : decode cd_Model_isNumber 4 = .ok (.ldc2_w 132, 3) := by decide +kernel
theorem d_Model_isNumber_7 : decode cd_Model_isNumber 7 = .ok (.lconst 0, 1) := by decide +kernel
theorem d_Model_isNumber_8 : decode cd_Model_isNumber 8 = .ok (.invokestatic 124, 3) := by decide +kernel
theorem d_Model_isNumber_11 : decode cd_Model_isNumber 11 = .ok (.ireturn, 1) := by decide +kernel
theorem m_440 : Cond.methodLink R_Model 128 y_Model_small ∈ gw := gm (i := 1034) (by decide +kernel) (by decide +kernel)
theorem m_441 : Cond.instanceMethod y_Model_small ∈ gw := gm (i := 1036) (by decide +kernel) (by decide +kernel)
theorem m_442 : Cond.selects R_Model y_Model_small y_Model_small ∈ gw := gm (i := 45) (by decide +kernel) (by decide +kernel)
set_option maxRecDepth 100000 in
theorem m_443 : Cond.code y_Model_small cd_Model_small 1 (some .int) ∈ gw := gm (i := 1037) rfl rfl
theorem m_444 : Cond.constantLong R_Model 132 28270060559034209 ∈ gw := gm (i := 1050) (by decide +kernel) (by decide +kernel)
def f_Model_isNumber (K : Nat) (t_conversion : Int32) : Option Int32 :=
  ((f_Model_small K t_conversion).bind fun u_1 => ((f_Model_isOneOf K u_1 (28270060559034209 : Int64) (0 : Int64)).bind fun u_8 => some u_8))
set_option maxHeartbeats 4000000 in
set_option maxRecDepth 100000 in
theorem c_Model_isNumber (l : Launch) (G : Gt) (K : Nat) (qt : Nat) (qt_draft : Nat) (t_draft : Nat → Int32) (t_drafted : Int32) (qt_result : Nat) (t_result : Nat → Int32) (t_length : Int32) (t_arguments : Int32) (qt_kinds : Nat) (t_kinds : Nat → Int32) (qt_values : Nat) (t_values : Nat → Int64) (qt_widths : Nat) (t_widths : Nat → Int32) (qt_below : Nat) (t_below : Nat → Int32) (qt_sizes : Nat) (t_sizes : Nat → Int32) (qt_scales : Nat) (t_scales : Nat → Int32) (qt_parts : Nat) (t_parts : Nat → Int64) (qt_texts : Nat) (t_texts : Nat → Int32) (qt_lengths : Nat) (t_lengths : Nat → Int32) (t_end : Int32) (t_index : Int32) (t_flags : Int32) (t_twice : Int32) (t_width : Int32) (t_precision : Int32) (t_conversion : Int32) (t_broken : Int32) (qt_piece : Nat) (t_piece : Nat → Int32) (t_put : Int32) (t_head : Int32) (qt_tens : Nat) (t_tens : Nat → Int32) (t_count : Int32) (t_exponent : Int32) (qt_work : Nat) (t_work : Nat → Int32) (sz : Nat) (res : Int32)   (hf : f_Model_isNumber K t_conversion = some res) : Met l y_Model_isNumber (.code y_Model_isNumber cd_Model_isNumber 1 (some .boolean) :: gw) { frames := 3, cells := 0, slots := 0, locals := 120 } (PC G ([.ref qt] : List Value) sz (w_Model_clear G qt qt_draft t_draft t_drafted qt_result t_result t_length t_arguments qt_kinds t_kinds qt_values t_values qt_widths t_widths qt_below t_below qt_sizes t_sizes qt_scales t_scales qt_parts t_parts qt_texts t_texts qt_lengths t_lengths t_end t_index t_flags t_twice t_width t_precision t_conversion t_broken qt_piece t_piece t_put t_head qt_tens t_tens t_count t_exponent qt_work t_work)) (QZ G res (va_A (w_Model_clear G qt qt_draft t_draft t_drafted qt_result t_result t_length t_arguments qt_kinds t_kinds qt_values t_values qt_widths t_widths qt_below t_below qt_sizes t_sizes qt_scales t_scales qt_parts t_parts qt_texts t_texts qt_lengths t_lengths t_end t_index t_flags t_twice t_width t_precision t_conversion t_broken qt_piece t_piece t_put t_head qt_tens t_tens t_count t_exponent qt_work t_work) sz) (w_Model_clear G qt qt_draft t_draft t_drafted qt_result t_result t_length t_arguments qt_kinds t_kinds qt_values t_values qt_widths t_widths qt_below t_below qt_sizes t_sizes qt_scales t_scales qt_parts t_parts qt_texts t_texts qt_lengths t_lengths t_end t_index t_flags t_twice t_width t_precision t_conversion t_broken qt_piece t_piece t_put t_head qt_tens t_tens t_count t_exponent qt_work t_work)) 0 0 (va_A (w_Model_clear G qt qt_draft t_draft t_drafted qt_result t_result t_length t_arguments qt_kinds t_kinds qt_values t_values qt_widths t_widths qt_below t_below qt_sizes t_sizes qt_scales t_scales qt_parts t_parts qt_texts t_texts qt_lengths t_lengths t_end t_index t_flags t_twice t_width t_precision t_conversion t_broken qt_piece t_piece t_put t_head qt_tens t_tens t_count t_exponent qt_work t_work) sz) := by
  refine Met.ofW (cc := cd_Model_isNumber) (maxL := 1) (ret := (some .boolean)) (by decide) rfl ?_
  intro p e s m args below meth c s₁ B hml hv
  obtain ⟨rfl, hsz, hP, hE, hD0⟩ := hv
  have hx := B.exec
  have hb := B.bytes
  have hr := B.returns
  have hts := atoms_spec (ws := (.code y_Model_isNumber cd_Model_isNumber 1 (some .boolean) :: gw)) B.pre
  have hg : ∀ w ∈ gw, w.before _ s = true := fun w h => hts w (List.mem_cons_of_mem _ h)
  have hown : s.vm.findClass R_Model = some m.cls := findClass_of_methodNamed B.named
  have hlocks := B.notSynchronized
  subst hsz
  have hK := hE.K
  have hD := hD0.self (sz := s.heap.size)
  have hAb := hE.ab hD0
  obtain ⟨Q, hQ⟩ : ∃ Q, MQ below (QZ G res (va_A (w_Model_clear G qt qt_draft t_draft t_drafted qt_result t_result t_length t_arguments qt_kinds t_kinds qt_values t_values qt_widths t_widths qt_below t_below qt_sizes t_sizes qt_scales t_scales qt_parts t_parts qt_texts t_texts qt_lengths t_lengths t_end t_index t_flags t_twice t_width t_precision t_conversion t_broken qt_piece t_piece t_put t_head qt_tens t_tens t_count t_exponent qt_work t_work) s.heap.size) (w_Model_clear G qt qt_draft t_draft t_drafted qt_result t_result t_length t_arguments qt_kinds t_kinds qt_values t_values qt_widths t_widths qt_below t_below qt_sizes t_sizes qt_scales t_scales qt_parts t_parts qt_texts t_texts qt_lengths t_lengths t_end t_index t_flags t_twice t_width t_precision t_conversion t_broken qt_piece t_piece t_put t_head qt_tens t_tens t_count t_exponent qt_work t_work)) ([.ref qt] : List Value).toArray s 0 0 (va_A (w_Model_clear G qt qt_draft t_draft t_drafted qt_result t_result t_length t_arguments qt_kinds t_kinds qt_values t_values qt_widths t_widths qt_below t_below qt_sizes t_sizes qt_scales t_scales qt_parts t_parts qt_texts t_texts qt_lengths t_lengths t_end t_index t_flags t_twice t_width t_precision t_conversion t_broken qt_piece t_piece t_put t_head qt_tens t_tens t_count t_exponent qt_work t_work) s.heap.size) = Q := ⟨_, rfl⟩
  show W p l e { frames := 3, cells := 0, slots := 0, locals := 120 } s m ([.ref qt] : List Value).toArray below meth c s.heap [] 0 0 (MQ below (QZ G res (va_A (w_Model_clear G qt qt_draft t_draft t_drafted qt_result t_result t_length t_arguments qt_kinds t_kinds qt_values t_values qt_widths t_widths qt_below t_below qt_sizes t_sizes qt_scales t_scales qt_parts t_parts qt_texts t_texts qt_lengths t_lengths t_end t_index t_flags t_twice t_width t_precision t_conversion t_broken qt_piece t_piece t_put t_head qt_tens t_tens t_count t_exponent qt_work t_work) s.heap.size) (w_Model_clear G qt qt_draft t_draft t_drafted qt_result t_result t_length t_arguments qt_kinds t_kinds qt_values t_values qt_widths t_widths qt_below t_below qt_sizes t_sizes qt_scales t_scales qt_parts t_parts qt_texts t_texts qt_lengths t_lengths t_end t_index t_flags t_twice t_width t_precision t_conversion t_broken qt_piece t_piece t_put t_head qt_tens t_tens t_count t_exponent qt_work t_work)) ([.ref qt] : List Value).toArray s 0 0 (va_A (w_Model_clear G qt qt_draft t_draft t_drafted qt_result t_result t_length t_arguments qt_kinds t_kinds qt_values t_values qt_widths t_widths qt_below t_below qt_sizes t_sizes qt_scales t_scales qt_parts t_parts qt_texts t_texts qt_lengths t_lengths t_end t_index t_flags t_twice t_width t_precision t_conversion t_broken qt_piece t_piece t_put t_head qt_tens t_tens t_count t_exponent qt_work t_work) s.heap.size)) _
  rw [hQ]
  have hA : ∀ q : Nat, s.heap.size ≤ q → va_A (w_Model_clear G qt qt_draft t_draft t_drafted qt_result t_result t_length t_arguments qt_kinds t_kinds qt_values t_values qt_widths t_widths qt_below t_below qt_sizes t_sizes qt_scales t_scales qt_parts t_parts qt_texts t_texts qt_lengths t_lengths t_end t_index t_flags t_twice t_width t_precision t_conversion t_broken qt_piece t_piece t_put t_head qt_tens t_tens t_count t_exponent qt_work t_work) s.heap.size q := fun q h => Or.inr h
  obtain ⟨A, hAe⟩ : ∃ A, va_A (w_Model_clear G qt qt_draft t_draft t_drafted qt_result t_result t_length t_arguments qt_kinds t_kinds qt_values t_values qt_widths t_widths qt_below t_below qt_sizes t_sizes qt_scales t_scales qt_parts t_parts qt_texts t_texts qt_lengths t_lengths t_end t_index t_flags t_twice t_width t_precision t_conversion t_broken qt_piece t_piece t_put t_head qt_tens t_tens t_count t_exponent qt_work t_work) s.heap.size = A := ⟨_, rfl⟩
  rw [hAe] at hA hD hAb hQ
  have hS : va_S A s.heap s.heap [] := va_S.rf
  have hl := lv_entry (([.ref qt] : List Value)) (n := 1) (Nat.le_of_ble_eq_true rfl)
  rw [lg_entry_eq]
  generalize (lg_sl (([.ref qt] : List Value)) ++ List.replicate (1 - (lg_sl (([.ref qt] : List Value))).length) Slot.unset).toArray = ls at hl ⊢
  have hl : lv_has ls 1 [(0, .ref qt)] := hl
  unfold f_Model_isNumber at hf
  refine lv_aload_n hx hb d_Model_isNumber_0 rfl (lv_at hl 0 rfl) ?_
  obtain ⟨u_1, hu_1, hf⟩ := bd_ hf
  refine CALLWi (va_runV (As := []) (rest := []) ⟨hx, hb, hml, hown, hg⟩ (c_Model_small l G K qt qt_draft t_draft t_drafted qt_result t_result t_length t_arguments qt_kinds t_kinds qt_values t_values qt_widths t_widths qt_below t_below qt_sizes t_sizes qt_scales t_scales qt_parts t_parts qt_texts t_texts qt_lengths t_lengths t_end t_index t_flags t_twice t_width t_precision t_conversion t_broken qt_piece t_piece t_put t_head qt_tens t_tens t_count t_exponent qt_work t_work _ u_1  hu_1) (cwV 0 hg (gV m_440 m_441 m_442 m_389 m_443) rfl rfl rfl (by decide +kernel) ⟨Nat.le_of_ble_eq_true rfl, Nat.le_of_ble_eq_true rfl⟩) ⟨PC_b, va_recv hK hP (ci := 7) (q0 := 0) rfl rfl, PC_p hE hS hAb hP hD⟩ rfl rfl hl.1 rfl (lv_room (Nat.le_of_ble_eq_true rfl)) d_Model_isNumber_1 ⟨Nat.zero_le _, Nat.zero_le _⟩) hP hD hS hA (fun H locs hP hD hS => ?_)
  have hP : va_P (gD G) vwCl (w_Model_clear G qt qt_draft t_draft t_drafted qt_result t_result t_length t_arguments qt_kinds t_kinds qt_values t_values qt_widths t_widths qt_below t_below qt_sizes t_sizes qt_scales t_scales qt_parts t_parts qt_texts t_texts qt_lengths t_lengths t_end t_index t_flags t_twice t_width t_precision t_conversion t_broken qt_piece t_piece t_put t_head qt_tens t_tens t_count t_exponent qt_work t_work) H := hP
  have hD : va_D A (w_Model_clear G qt qt_draft t_draft t_drafted qt_result t_result t_length t_arguments qt_kinds t_kinds qt_values t_values qt_widths t_widths qt_below t_below qt_sizes t_sizes qt_scales t_scales qt_parts t_parts qt_texts t_texts qt_lengths t_lengths t_end t_index t_flags t_twice t_width t_precision t_conversion t_broken qt_piece t_piece t_put t_head qt_tens t_tens t_count t_exponent qt_work t_work) := hD
  refine lv_ldc2 (v := 28270060559034209) hx hb hown (hg _ m_444) d_Model_isNumber_4 ?_
  refine lv_lconst (v := 0) hx hb d_Model_isNumber_7 (by decide) ?_
  obtain ⟨u_8, hu_8, hf⟩ := bd_ hf
  refine CALLz (va_runS (As := [.int u_1, .long (28270060559034209 : Int64), .long (0 : Int64)]) (rest := []) ⟨hx, hb, hml, hown, hg⟩ (c_Model_isOneOf l G K u_1 (28270060559034209 : Int64) (0 : Int64) _ u_8  hu_8) (va_cwS 3 hg (gS m_433 m_434 m_389 m_435) rfl rfl rfl (by decide +kernel) ⟨Nat.le_of_ble_eq_true rfl, Nat.le_of_ble_eq_true rfl⟩) ⟨PC_b, PC_p hE hS hAb (hP.sub [] rfl) (hD.sub [] (by decide) rfl)⟩ rfl rfl hl.1 rfl (lv_room (Nat.le_of_ble_eq_true rfl)) d_Model_isNumber_8 ⟨Nat.zero_le _, Nat.zero_le _⟩) hP hD hS hA [] rfl rfl rfl (fun bu_8 H locs hP hD hS => ?_)
  have hP : va_P (gD G) vwCl (w_Model_clear G qt qt_draft t_draft t_drafted qt_result t_result t_length t_arguments qt_kinds t_kinds qt_values t_values qt_widths t_widths qt_below t_below qt_sizes t_sizes qt_scales t_scales qt_parts t_parts qt_texts t_texts qt_lengths t_lengths t_end t_index t_flags t_twice t_width t_precision t_conversion t_broken qt_piece t_piece t_put t_head qt_tens t_tens t_count t_exponent qt_work t_work) H := hP
  have hD : va_D A (w_Model_clear G qt qt_draft t_draft t_drafted qt_result t_result t_length t_arguments qt_kinds t_kinds qt_values t_values qt_widths t_widths qt_below t_below qt_sizes t_sizes qt_scales t_scales qt_parts t_parts qt_texts t_texts qt_lengths t_lengths t_end t_index t_flags t_twice t_width t_precision t_conversion t_broken qt_piece t_piece t_put t_head qt_tens t_tens t_count t_exponent qt_work t_work) := hD
  obtain rfl := Option.some.inj hf
  rw [← hQ]
  exact W.zret (v := u_8) hx hb hr (bl_n bu_8) (fun t9 ht hW => ⟨⟨u_8, (), rfl, ⟨rfl, bu_8⟩, ⟨by rw [ht]; exact hP, hD⟩⟩, hS.F ht⟩) hS.2.2 d_Model_isNumber_11
theorem d_Model_allowed_0 : decode cd_Model_allowed 0 = .ok (.aload_n 0, 1) := by decide +kernel
theorem d_Model_allowed_1 : decode cd_Model_allowed 1 = .ok (.invokevirtual 128, 3) := by decide +kernel
theorem d_Model_allowed_4 : decode cd_Model_allowed 4 = .ok (.istore_n 1, 1) := by decide +kernel
theorem d_Model_allowed_5 : decode cd_Model_allowed 5 = .ok (.iload_n 1, 1) := by decide +kernel
theorem d_Model_allowed_6 : decode cd_Model_allowed 6 = .ok (.bipush 98, 2) := by decide +kernel
theorem d_Model_allowed_8 : decode cd_Model_allowed 8 = .ok (.if_icmp .eq 15, 3) := by decide +kernel
theorem d_Model_allowed_11 : decode cd_Model_allowed 11 = .ok (.iload_n 1, 1) := by decide +kernel
theorem d_Model_allowed_12 : decode cd_Model_allowed 12 = .ok (.bipush 115, 2) := by decide +kernel
theorem d_Model_allowed_14 : decode cd_Model_allowed 14 = .ok (.if_icmp .eq 9, 3) := by decide +kernel
theorem d_Model_allowed_17 : decode cd_Model_allowed 17 = .ok (.iload_n 1, 1) := by decide +kernel
theorem d_Model_allowed_18 : decode cd_Model_allowed 18 = .ok (.bipush 99, 2) := by decide +kernel
theorem d_Model_allowed_20 : decode cd_Model_allowed 20 = .ok (.if_icmp .ne 7, 3) := by decide +kernel
theorem d_Model_allowed_23 : decode cd_Model_allowed 23 = .ok (.iconst 1, 1) := by decide +kernel
theorem d_Model_allowed_24 : decode cd_Model_allowed 24 = .ok (.goto 44, 3) := by decide +kernel
theorem d_Model_allowed_27 : decode cd_Model_allowed 27 = .ok (.iload_n 1, 1) := by decide +kernel
theorem d_Model_allowed_28 : decode cd_Model_allowed 28 = .ok (.bipush 102, 2) := by decide +kernel
theorem d_Model_allowed_30 : decode cd_Model_allowed 30 = .ok (.if_icmp .ne 8, 3) := by decide +kernel
theorem d_Model_allowed_33 : decode cd_Model_allowed 33 = .ok (.bipush 127, 2) := by decide +kernel
theorem d_Model_allowed_35 : decode cd_Model_allowed 35 = .ok (.goto 33, 3) := by decide +kernel
theorem d_Model_allowed_38 : decode cd_Model_allowed 38 = .ok (.iload_n 1, 1) := by decide +kernel
theorem d_Model_allowed_39 : decode cd_Model_allowed 39 = .ok (.bipush 100, 2) := by decide +kernel
theorem d_Model_allowed_41 : decode cd_Model_allowed 41 = .ok (.if_icmp .eq 9, 3) := by decide +kernel
theorem d_Model_allowed_44 : decode cd_Model_allowed 44 = .ok (.iload_n 1, 1) := by decide +kernel
theorem d_Model_allowed_45 : decode cd_Model_allowed 45 = .ok (.bipush 103, 2) := by decide +kernel
theorem d_Model_allowed_47 : decode cd_Model_allowed 47 = .ok (.if_icmp .ne 8, 3) := by decide +kernel
theorem d_Model_allowed_50 : decode cd_Model_allowed 50 = .ok (.bipush 125, 2) := by decide +kernel
theorem d_Model_allowed_52 : decode cd_Model_allowed 52 = .ok (.goto 16, 3) := by decide +kernel
theorem d_Model_allowed_55 : decode cd_Model_allowed 55 = .ok (.iload_n 1, 1) := by decide +kernel
theorem d_Model_allowed_56 : decode cd_Model_allowed 56 = .ok (.bipush 97, 2) := by decide +kernel
theorem d_Model_allowed_58 : decode cd_Model_allowed 58 = .ok (.if_icmp .ne 8, 3) := by decide +kernel
theorem d_Model_allowed_61 : decode cd_Model_allowed 61 = .ok (.bipush 31, 2) := by decide +kernel
theorem d_Model_allowed_63 : decode cd_Model_allowed 63 = .ok (.goto 5, 3) := by decide +kernel
theorem d_Model_allowed_66 : decode cd_Model_allowed 66 = .ok (.bipush 95, 2) := by decide +kernel
theorem d_Model_allowed_68 : decode cd_Model_allowed 68 = .ok (.ireturn, 1) := by decide +kernel
def f_Model_allowed (K : Nat) (t_conversion : Int32) : Option Int32 :=
  ((f_Model_small K t_conversion).bind fun u_1 => (if u_1 = (98 : Int32) then some (1 : Int32) else (if u_1 = (115 : Int32) then some (1 : Int32) else (if u_1 = (99 : Int32) then some (1 : Int32) else (if u_1 = (102 : Int32) then some (127 : Int32) else (if u_1 = (100 : Int32) then some (125 : Int32) else (if u_1 = (103 : Int32) then some (125 : Int32) else (if u_1 = (97 : Int32) then some (31 : Int32) else some (95 : Int32)))))))))
set_option maxHeartbeats 4000000 in
set_option maxRecDepth 100000 in
theorem c_Model_allowed (l : Launch) (G : Gt) (K : Nat) (qt : Nat) (qt_draft : Nat) (t_draft : Nat → Int32) (t_drafted : Int32) (qt_result : Nat) (t_result : Nat → Int32) (t_length : Int32) (t_arguments : Int32) (qt_kinds : Nat) (t_kinds : Nat → Int32) (qt_values : Nat) (t_values : Nat → Int64) (qt_widths : Nat) (t_widths : Nat → Int32) (qt_below : Nat) (t_below : Nat → Int32) (qt_sizes : Nat) (t_sizes : Nat → Int32) (qt_scales : Nat) (t_scales : Nat → Int32) (qt_parts : Nat) (t_parts : Nat → Int64) (qt_texts : Nat) (t_texts : Nat → Int32) (qt_lengths : Nat) (t_lengths : Nat → Int32) (t_end : Int32) (t_index : Int32) (t_flags : Int32) (t_twice : Int32) (t_width : Int32) (t_precision : Int32) (t_conversion : Int32) (t_broken : Int32) (qt_piece : Nat) (t_piece : Nat → Int32) (t_put : Int32) (t_head : Int32) (qt_tens : Nat) (t_tens : Nat → Int32) (t_count : Int32) (t_exponent : Int32) (qt_work : Nat) (t_work : Nat → Int32) (sz : Nat) (res : Int32)   (hf : f_Model_allowed K t_conversion = some res) : Met l y_Model_allowed (.code y_Model_allowed cd_Model_allowed 2 (some .int) :: gw) { frames := 3, cells := 0, slots := 0, locals := 120 } (PC G ([.ref qt] : List Value) sz (w_Model_clear G qt qt_draft t_draft t_drafted qt_result t_result t_length t_arguments qt_kinds t_kinds qt_values t_values qt_widths t_widths qt_below t_below qt_sizes t_sizes qt_scales t_scales qt_parts t_parts qt_texts t_texts qt_lengths t_lengths t_end t_index t_flags t_twice t_width t_precision t_conversion t_broken qt_piece t_piece t_put t_head qt_tens t_tens t_count t_exponent qt_work t_work)) (QI G res (va_A (w_Model_clear G qt qt_draft t_draft t_drafted qt_result t_result t_length t_arguments qt_kinds t_kinds qt_values t_values qt_widths t_widths qt_below t_below qt_sizes t_sizes qt_scales t_scales qt_parts t_parts qt_texts t_texts qt_lengths t_lengths t_end t_index t_flags t_twice t_width t_precision t_conversion t_broken qt_piece t_piece t_put t_head qt_tens t_tens t_count t_exponent qt_work t_work) sz) (w_Model_clear G qt qt_draft t_draft t_drafted qt_result t_result t_length t_arguments qt_kinds t_kinds qt_values t_values qt_widths t_widths qt_below t_below qt_sizes t_sizes qt_scales t_scales qt_parts t_parts qt_texts t_texts qt_lengths t_lengths t_end t_index t_flags t_twice t_width t_precision t_conversion t_broken qt_piece t_piece t_put t_head qt_tens t_tens t_count t_exponent qt_work t_work)) 0 0 (va_A (w_Model_clear G qt qt_draft t_draft t_drafted qt_result t_result t_length t_arguments qt_kinds t_kinds qt_values t_values qt_widths t_widths qt_below t_below qt_sizes t_sizes qt_scales t_scales qt_parts t_parts qt_texts t_texts qt_lengths t_lengths t_end t_index t_flags t_twice t_width t_precision t_conversion t_broken qt_piece t_piece t_put t_head qt_tens t_tens t_count t_exponent qt_work t_work) sz) := by
  refine Met.ofW (cc := cd_Model_allowed) (maxL := 2) (ret := (some .int)) (by decide) rfl ?_
  intro p e s m args below meth c s₁ B hml hv
  obtain ⟨rfl, hsz, hP, hE, hD0⟩ := hv
  have hx := B.exec
  have hb := B.bytes
  have hr := B.returns
  have hts := atoms_spec (ws := (.code y_Model_allowed cd_Model_allowed 2 (some .int) :: gw)) B.pre
  have hg : ∀ w ∈ gw, w.before _ s = true := fun w h => hts w (List.mem_cons_of_mem _ h)
  have hown : s.vm.findClass R_Model = some m.cls := findClass_of_methodNamed B.named
  have hlocks := B.notSynchronized
  subst hsz
  have hK := hE.K
  have hD := hD0.self (sz := s.heap.size)
  have hAb := hE.ab hD0
  obtain ⟨Q, hQ⟩ : ∃ Q, MQ below (QI G res (va_A (w_Model_clear G qt qt_draft t_draft t_drafted qt_result t_result t_length t_arguments qt_kinds t_kinds qt_values t_values qt_widths t_widths qt_below t_below qt_sizes t_sizes qt_scales t_scales qt_parts t_parts qt_texts t_texts qt_lengths t_lengths t_end t_index t_flags t_twice t_width t_precision t_conversion t_broken qt_piece t_piece t_put t_head qt_tens t_tens t_count t_exponent qt_work t_work) s.heap.size) (w_Model_clear G qt qt_draft t_draft t_drafted qt_result t_result t_length t_arguments qt_kinds t_kinds qt_values t_values qt_widths t_widths qt_below t_below qt_sizes t_sizes qt_scales t_scales qt_parts t_parts qt_texts t_texts qt_lengths t_lengths t_end t_index t_flags t_twice t_width t_precision t_conversion t_broken qt_piece t_piece t_put t_head qt_tens t_tens t_count t_exponent qt_work t_work)) ([.ref qt] : List Value).toArray s 0 0 (va_A (w_Model_clear G qt qt_draft t_draft t_drafted qt_result t_result t_length t_arguments qt_kinds t_kinds qt_values t_values qt_widths t_widths qt_below t_below qt_sizes t_sizes qt_scales t_scales qt_parts t_parts qt_texts t_texts qt_lengths t_lengths t_end t_index t_flags t_twice t_width t_precision t_conversion t_broken qt_piece t_piece t_put t_head qt_tens t_tens t_count t_exponent qt_work t_work) s.heap.size) = Q := ⟨_, rfl⟩
  show W p l e { frames := 3, cells := 0, slots := 0, locals := 120 } s m ([.ref qt] : List Value).toArray below meth c s.heap [] 0 0 (MQ below (QI G res (va_A (w_Model_clear G qt qt_draft t_draft t_drafted qt_result t_result t_length t_arguments qt_kinds t_kinds qt_values t_values qt_widths t_widths qt_below t_below qt_sizes t_sizes qt_scales t_scales qt_parts t_parts qt_texts t_texts qt_lengths t_lengths t_end t_index t_flags t_twice t_width t_precision t_conversion t_broken qt_piece t_piece t_put t_head qt_tens t_tens t_count t_exponent qt_work t_work) s.heap.size) (w_Model_clear G qt qt_draft t_draft t_drafted qt_result t_result t_length t_arguments qt_kinds t_kinds qt_values t_values qt_widths t_widths qt_below t_below qt_sizes t_sizes qt_scales t_scales qt_parts t_parts qt_texts t_texts qt_lengths t_lengths t_end t_index t_flags t_twice t_width t_precision t_conversion t_broken qt_piece t_piece t_put t_head qt_tens t_tens t_count t_exponent qt_work t_work)) ([.ref qt] : List Value).toArray s 0 0 (va_A (w_Model_clear G qt qt_draft t_draft t_drafted qt_result t_result t_length t_arguments qt_kinds t_kinds qt_values t_values qt_widths t_widths qt_below t_below qt_sizes t_sizes qt_scales t_scales qt_parts t_parts qt_texts t_texts qt_lengths t_lengths t_end t_index t_flags t_twice t_width t_precision t_conversion t_broken qt_piece t_piece t_put t_head qt_tens t_tens t_count t_exponent qt_work t_work) s.heap.size)) _
  rw [hQ]
  have hA : ∀ q : Nat, s.heap.size ≤ q → va_A (w_Model_clear G qt qt_draft t_draft t_drafted qt_result t_result t_length t_arguments qt_kinds t_kinds qt_values t_values qt_widths t_widths qt_below t_below qt_sizes t_sizes qt_scales t_scales qt_parts t_parts qt_texts t_texts qt_lengths t_lengths t_end t_index t_flags t_twice t_width t_precision t_conversion t_broken qt_piece t_piece t_put t_head qt_tens t_tens t_count t_exponent qt_work t_work) s.heap.size q := fun q h => Or.inr h
  obtain ⟨A, hAe⟩ : ∃ A, va_A (w_Model_clear G qt qt_draft t_draft t_drafted qt_result t_result t_length t_arguments qt_kinds t_kinds qt_values t_values qt_widths t_widths qt_below t_below qt_sizes t_sizes qt_scales t_scales qt_parts t_parts qt_texts t_texts qt_lengths t_lengths t_end t_index t_flags t_twice t_width t_precision t_conversion t_broken qt_piece t_piece t_put t_head qt_tens t_tens t_count t_exponent qt_work t_work) s.heap.size = A := ⟨_, rfl⟩
  rw [hAe] at hA hD hAb hQ
  have hS : va_S A s.heap s.heap [] := va_S.rf
  have hl := lv_entry (([.ref qt] : List Value)) (n := 2) (Nat.le_of_ble_eq_true rfl)
  rw [lg_entry_eq]
  generalize (lg_sl (([.ref qt] : List Value)) ++ List.replicate (2 - (lg_sl (([.ref qt] : List Value))).length) Slot.unset).toArray = ls at hl ⊢
  have hl : lv_has ls 2 [(0, .ref qt)] := hl
  unfold f_Model_allowed at hf
  refine lv_aload_n hx hb d_Model_allowed_0 rfl (lv_at hl 0 rfl) ?_
  obtain ⟨u_1, hu_1, hf⟩ := bd_ hf
  refine CALLWi (va_runV (As := []) (rest := []) ⟨hx, hb, hml, hown, hg⟩ (c_Model_small l G K qt qt_draft t_draft t_drafted qt_result t_result t_length t_arguments qt_kinds t_kinds qt_values t_values qt_widths t_widths qt_below t_below qt_sizes t_sizes qt_scales t_scales qt_parts t_parts qt_texts t_texts qt_lengths t_lengths t_end t_index t_flags t_twice t_width t_precision t_conversion t_broken qt_piece t_piece t_put t_head qt_tens t_tens t_count t_exponent qt_work t_work _ u_1  hu_1) (cwV 0 hg (gV m_440 m_441 m_442 m_389 m_443) rfl rfl rfl (by decide +kernel) ⟨Nat.le_of_ble_eq_true rfl, Nat.le_of_ble_eq_true rfl⟩) ⟨PC_b, va_recv hK hP (ci := 7) (q0 := 0) rfl rfl, PC_p hE hS hAb hP hD⟩ rfl rfl hl.1 rfl (lv_room (Nat.le_of_ble_eq_true rfl)) d_Model_allowed_1 ⟨Nat.zero_le _, Nat.zero_le _⟩) hP hD hS hA (fun H locs hP hD hS => ?_)
  have hP : va_P (gD G) vwCl (w_Model_clear G qt qt_draft t_draft t_drafted qt_result t_result t_length t_arguments qt_kinds t_kinds qt_values t_values qt_widths t_widths qt_below t_below qt_sizes t_sizes qt_scales t_scales qt_parts t_parts qt_texts t_texts qt_lengths t_lengths t_end t_index t_flags t_twice t_width t_precision t_conversion t_broken qt_piece t_piece t_put t_head qt_tens t_tens t_count t_exponent qt_work t_work) H := hP
  have hD : va_D A (w_Model_clear G qt qt_draft t_draft t_drafted qt_result t_result t_length t_arguments qt_kinds t_kinds qt_values t_values qt_widths t_widths qt_below t_below qt_sizes t_sizes qt_scales t_scales qt_parts t_parts qt_texts t_texts qt_lengths t_lengths t_end t_index t_flags t_twice t_width t_precision t_conversion t_broken qt_piece t_piece t_put t_head qt_tens t_tens t_count t_exponent qt_work t_work) := hD
  refine lv_istore_n (lv' := [(1, .int u_1), (0, .ref qt)]) hx hb d_Model_allowed_4 rfl hl (by decide) rfl (fun ls hl => ?_)
  refine lv_iload_n hx hb d_Model_allowed_5 rfl (lv_at hl 0 rfl) ?_
  refine lv_bipush (v := 98) hx hb d_Model_allowed_6 (by decide) ?_
  refine lv_icmp_eq (tgt := 23) hx hb d_Model_allowed_8 (by decide) (fun c_8 => ?_) (fun c_8 => ?_)
  · have hf := ip_ c_8 hf
    refine lv_iconst (v := 1) hx hb d_Model_allowed_23 (by decide) ?_
    refine lv_goto (tgt := 68) hx hb d_Model_allowed_24 (by decide) ?_
    obtain rfl := Option.some.inj hf
    rw [← hQ]
    exact W.iret (v := (1 : Int32)) hx hb hr (fun t9 ht hW => ⟨⟨(1 : Int32), (), rfl, rfl, ⟨by rw [ht]; exact hP, hD⟩⟩, hS.F ht⟩) hS.2.2 d_Model_allowed_68
  · have hf := in_ c_8 hf
    refine lv_iload_n hx hb d_Model_allowed_11 rfl (lv_at hl 0 rfl) ?_
    refine lv_bipush (v := 115) hx hb d_Model_allowed_12 (by decide) ?_
    refine lv_icmp_eq (tgt := 23) hx hb d_Model_allowed_14 (by decide) (fun c_14 => ?_) (fun c_14 => ?_)
    · have hf := ip_ c_14 hf
      refine lv_iconst (v := 1) hx hb d_Model_allowed_23 (by decide) ?_
      refine lv_goto (tgt := 68) hx hb d_Model_allowed_24 (by decide) ?_
      obtain rfl := Option.some.inj hf
      rw [← hQ]
      exact W.iret (v := (1 : Int32)) hx hb hr (fun t9 ht hW => ⟨⟨(1 : Int32), (), rfl, rfl, ⟨by rw [ht]; exact hP, hD⟩⟩, hS.F ht⟩) hS.2.2 d_Model_allowed_68
    · have hf := in_ c_14 hf
      refine lv_iload_n hx hb d_Model_allowed_17 rfl (lv_at hl 0 rfl) ?_
      refine lv_bipush (v := 99) hx hb d_Model_allowed_18 (by decide) ?_
      refine lv_icmp_ne (tgt := 27) hx hb d_Model_allowed_20 (by decide) (fun c_20 => ?_) (fun c_20 => ?_)
      · have hf := in_ c_20 hf
        refine lv_iload_n hx hb d_Model_allowed_27 rfl (lv_at hl 0 rfl) ?_
        refine lv_bipush (v := 102) hx hb d_Model_allowed_28 (by decide) ?_
        refine lv_icmp_ne (tgt := 38) hx hb d_Model_allowed_30 (by decide) (fun c_30 => ?_) (fun c_30 => ?_)
        · have hf := in_ c_30 hf
          refine lv_iload_n hx hb d_Model_allowed_38 rfl (lv_at hl 0 rfl) ?_
          refine lv_bipush (v := 100) hx hb d_Model_allowed_39 (by decide) ?_
          refine lv_icmp_eq (tgt := 50) hx hb d_Model_allowed_41 (by decide) (fun c_41 => ?_) (fun c_41 => ?_)
          · have hf := ip_ c_41 hf
            refine lv_bipush (v := 125) hx hb d_Model_allowed_50 (by decide) ?_
            refine lv_goto (tgt := 68) hx hb d_Model_allowed_52 (by decide) ?_
            obtain rfl := Option.some.inj hf
            rw [← hQ]
            exact W.iret (v := (125 : Int32)) hx hb hr (fun t9 ht hW => ⟨⟨(125 : Int32), (), rfl, rfl, ⟨by rw [ht]; exact hP, hD⟩⟩, hS.F ht⟩) hS.2.2 d_Model_allowed_68
          · have hf := in_ c_41 hf
            refine lv_iload_n hx hb d_Model_allowed_44 rfl (lv_at hl 0 rfl) ?_
            refine lv_bipush (v := 103) hx hb d_Model_allowed_45 (by decide) ?_
            refine lv_icmp_ne (tgt := 55) hx hb d_Model_allowed_47 (by decide) (fun c_47 => ?_) (fun c_47 => ?_)
            · have hf := in_ c_47 hf
              refine lv_iload_n hx hb d_Model_allowed_55 rfl (lv_at hl 0 rfl) ?_
              refine lv_bipush (v := 97) hx hb d_Model_allowed_56 (by decide) ?_
              refine lv_icmp_ne (tgt := 66) hx hb d_Model_allowed_58 (by decide) (fun c_58 => ?_) (fun c_58 => ?_)
              · have hf := in_ c_58 hf
                refine lv_bipush (v := 95) hx hb d_Model_allowed_66 (by decide) ?_
                obtain rfl := Option.some.inj hf
                rw [← hQ]
                exact W.iret (v := (95 : Int32)) hx hb hr (fun t9 ht hW => ⟨⟨(95 : Int32), (), rfl, rfl, ⟨by rw [ht]; exact hP, hD⟩⟩, hS.F ht⟩) hS.2.2 d_Model_allowed_68
              · have hf := ip_ c_58 hf
                refine lv_bipush (v := 31) hx hb d_Model_allowed_61 (by decide) ?_
                refine lv_goto (tgt := 68) hx hb d_Model_allowed_63 (by decide) ?_
                obtain rfl := Option.some.inj hf
                rw [← hQ]
                exact W.iret (v := (31 : Int32)) hx hb hr (fun t9 ht hW => ⟨⟨(31 : Int32), (), rfl, rfl, ⟨by rw [ht]; exact hP, hD⟩⟩, hS.F ht⟩) hS.2.2 d_Model_allowed_68
            · have hf := ip_ c_47 hf
              refine lv_bipush (v := 125) hx hb d_Model_allowed_50 (by decide) ?_
              refine lv_goto (tgt := 68) hx hb d_Model_allowed_52 (by decide) ?_
              obtain rfl := Option.some.inj hf
              rw [← hQ]
              exact W.iret (v := (125 : Int32)) hx hb hr (fun t9 ht hW => ⟨⟨(125 : Int32), (), rfl, rfl, ⟨by rw [ht]; exact hP, hD⟩⟩, hS.F ht⟩) hS.2.2 d_Model_allowed_68
        · have hf := ip_ c_30 hf
          refine lv_bipush (v := 127) hx hb d_Model_allowed_33 (by decide) ?_
          refine lv_goto (tgt := 68) hx hb d_Model_allowed_35 (by decide) ?_
          obtain rfl := Option.some.inj hf
          rw [← hQ]
          exact W.iret (v := (127 : Int32)) hx hb hr (fun t9 ht hW => ⟨⟨(127 : Int32), (), rfl, rfl, ⟨by rw [ht]; exact hP, hD⟩⟩, hS.F ht⟩) hS.2.2 d_Model_allowed_68
      · have hf := ip_ c_20 hf
        refine lv_iconst (v := 1) hx hb d_Model_allowed_23 (by decide) ?_
        refine lv_goto (tgt := 68) hx hb d_Model_allowed_24 (by decide) ?_
        obtain rfl := Option.some.inj hf
        rw [← hQ]
        exact W.iret (v := (1 : Int32)) hx hb hr (fun t9 ht hW => ⟨⟨(1 : Int32), (), rfl, rfl, ⟨by rw [ht]; exact hP, hD⟩⟩, hS.F ht⟩) hS.2.2 d_Model_allowed_68
theorem d_Model_has_0 : decode cd_Model_has 0 = .ok (.aload_n 0, 1) := by decide +kernel
theorem d_Model_has_1 : decode cd_Model_has 1 = .ok (.getfield 86, 3) := by decide +kernel
theorem d_Model_has_4 : decode cd_Model_has 4 = .ok (.iload_n 1, 1) := by decide +kernel
theorem d_Model_has_5 : decode cd_Model_has 5 = .ok (.iand, 1) := by decide +kernel
theorem d_Model_has_6 : decode cd_Model_has 6 = .ok (.ifCond .eq 7, 3) := by decide +kernel
theorem d_Model_has_9 : decode cd_Model_has 9 = .ok (.iconst 1, 1) := by decide +kernel
theorem d_Model_has_10 : decode cd_Model_has 10 = .ok (.goto 4, 3) := by decide +kernel
theorem d_Model_has_13 : decode cd_Model_has 13 = .ok (.iconst 0, 1) := by decide +kernel
theorem d_Model_has_14 : decode cd_Model_has 14 = .ok (.ireturn, 1) := by decide +kernel
def f_Model_has (t_flags : Int32) (a1 : Int32) : Option Int32 :=
  (if (t_flags &&& a1) = 0 then some (0 : Int32) else some (1 : Int32))
set_option maxHeartbeats 4000000 in
set_option maxRecDepth 100000 in
theorem c_Model_has (l : Launch) (G : Gt) (K : Nat) (qt : Nat) (qt_draft : Nat) (t_draft : Nat → Int32) (t_drafted : Int32) (qt_result : Nat) (t_result : Nat → Int32) (t_length : Int32) (t_arguments : Int32) (qt_kinds : Nat) (t_kinds : Nat → Int32) (qt_values : Nat) (t_values : Nat → Int64) (qt_widths : Nat) (t_widths : Nat → Int32) (qt_below : Nat) (t_below : Nat → Int32) (qt_sizes : Nat) (t_sizes : Nat → Int32) (qt_scales : Nat) (t_scales : Nat → Int32) (qt_parts : Nat) (t_parts : Nat → Int64) (qt_texts : Nat) (t_texts : Nat → Int32) (qt_lengths : Nat) (t_lengths : Nat → Int32) (t_end : Int32) (t_index : Int32) (t_flags : Int32) (t_twice : Int32) (t_width : Int32) (t_precision : Int32) (t_conversion : Int32) (t_broken : Int32) (qt_piece : Nat) (t_piece : Nat → Int32) (t_put : Int32) (t_head : Int32) (qt_tens : Nat) (t_tens : Nat → Int32) (t_count : Int32) (t_exponent : Int32) (qt_work : Nat) (t_work : Nat → Int32) (a1 : Int32) (sz : Nat) (res : Int32)   (hf : f_Model_has t_flags a1 = some res) : Met l y_Model_has (.code y_Model_has cd_Model_has 2 (some .boolean) :: gw) { frames := 0, cells := 0, slots := 0, locals := 0 } (PC G ([.ref qt, .int a1] : List Value) sz (w_Model_clear G qt qt_draft t_draft t_drafted qt_result t_result t_length t_arguments qt_kinds t_kinds qt_values t_values qt_widths t_widths qt_below t_below qt_sizes t_sizes qt_scales t_scales qt_parts t_parts qt_texts t_texts qt_lengths t_lengths t_end t_index t_flags t_twice t_width t_precision t_conversion t_broken qt_piece t_piece t_put t_head qt_tens t_tens t_count t_exponent qt_work t_work)) (QZ G res (va_A (w_Model_clear G qt qt_draft t_draft t_drafted qt_result t_result t_length t_arguments qt_kinds t_kinds qt_values t_values qt_widths t_widths qt_below t_below qt_sizes t_sizes qt_scales t_scales qt_parts t_parts qt_texts t_texts qt_lengths t_lengths t_end t_index t_flags t_twice t_width t_precision t_conversion t_broken qt_piece t_piece t_put t_head qt_tens t_tens t_count t_exponent qt_work t_work) sz) (w_Model_clear G qt qt_draft t_draft t_drafted qt_result t_result t_length t_arguments qt_kinds t_kinds qt_values t_values qt_widths t_widths qt_below t_below qt_sizes t_sizes qt_scales t_scales qt_parts t_parts qt_texts t_texts qt_lengths t_lengths t_end t_index t_flags t_twice t_width t_precision t_conversion t_broken qt_piece t_piece t_put t_head qt_tens t_tens t_count t_exponent qt_work t_work)) 0 0 (va_A (w_Model_clear G qt qt_draft t_draft t_drafted qt_result t_result t_length t_arguments qt_kinds t_kinds qt_values t_values qt_widths t_widths qt_below t_below qt_sizes t_sizes qt_scales t_scales qt_parts t_parts qt_texts t_texts qt_lengths t_lengths t_end t_index t_flags t_twice t_width t_precision t_conversion t_broken qt_piece t_piece t_put t_head qt_tens t_tens t_count t_exponent qt_work t_work) sz) := by
  refine Met.ofW (cc := cd_Model_has) (maxL := 2) (ret := (some .boolean)) (by decide) rfl ?_
  intro p e s m args below meth c s₁ B hml hv
  obtain ⟨rfl, hsz, hP, hE, hD0⟩ := hv
  have hx := B.exec
  have hb := B.bytes
  have hr := B.returns
  have hts := atoms_spec (ws := (.code y_Model_has cd_Model_has 2 (some .boolean) :: gw)) B.pre
  have hg : ∀ w ∈ gw, w.before _ s = true := fun w h => hts w (List.mem_cons_of_mem _ h)
  have hown : s.vm.findClass R_Model = some m.cls := findClass_of_methodNamed B.named
  have hlocks := B.notSynchronized
  subst hsz
  have hK := hE.K
  have hD := hD0.self (sz := s.heap.size)
  have hAb := hE.ab hD0
  obtain ⟨Q, hQ⟩ : ∃ Q, MQ below (QZ G res (va_A (w_Model_clear G qt qt_draft t_draft t_drafted qt_result t_result t_length t_arguments qt_kinds t_kinds qt_values t_values qt_widths t_widths qt_below t_below qt_sizes t_sizes qt_scales t_scales qt_parts t_parts qt_texts t_texts qt_lengths t_lengths t_end t_index t_flags t_twice t_width t_precision t_conversion t_broken qt_piece t_piece t_put t_head qt_tens t_tens t_count t_exponent qt_work t_work) s.heap.size) (w_Model_clear G qt qt_draft t_draft t_drafted qt_result t_result t_length t_arguments qt_kinds t_kinds qt_values t_values qt_widths t_widths qt_below t_below qt_sizes t_sizes qt_scales t_scales qt_parts t_parts qt_texts t_texts qt_lengths t_lengths t_end t_index t_flags t_twice t_width t_precision t_conversion t_broken qt_piece t_piece t_put t_head qt_tens t_tens t_count t_exponent qt_work t_work)) ([.ref qt, .int a1] : List Value).toArray s 0 0 (va_A (w_Model_clear G qt qt_draft t_draft t_drafted qt_result t_result t_length t_arguments qt_kinds t_kinds qt_values t_values qt_widths t_widths qt_below t_below qt_sizes t_sizes qt_scales t_scales qt_parts t_parts qt_texts t_texts qt_lengths t_lengths t_end t_index t_flags t_twice t_width t_precision t_conversion t_broken qt_piece t_piece t_put t_head qt_tens t_tens t_count t_exponent qt_work t_work) s.heap.size) = Q := ⟨_, rfl⟩
  show W p l e { frames := 0, cells := 0, slots := 0, locals := 0 } s m ([.ref qt, .int a1] : List Value).toArray below meth c s.heap [] 0 0 (MQ below (QZ G res (va_A (w_Model_clear G qt qt_draft t_draft t_drafted qt_result t_result t_length t_arguments qt_kinds t_kinds qt_values t_values qt_widths t_widths qt_below t_below qt_sizes t_sizes qt_scales t_scales qt_parts t_parts qt_texts t_texts qt_lengths t_lengths t_end t_index t_flags t_twice t_width t_precision t_conversion t_broken qt_piece t_piece t_put t_head qt_tens t_tens t_count t_exponent qt_work t_work) s.heap.size) (w_Model_clear G qt qt_draft t_draft t_drafted qt_result t_result t_length t_arguments qt_kinds t_kinds qt_values t_values qt_widths t_widths qt_below t_below qt_sizes t_sizes qt_scales t_scales qt_parts t_parts qt_texts t_texts qt_lengths t_lengths t_end t_index t_flags t_twice t_width t_precision t_conversion t_broken qt_piece t_piece t_put t_head qt_tens t_tens t_count t_exponent qt_work t_work)) ([.ref qt, .int a1] : List Value).toArray s 0 0 (va_A (w_Model_clear G qt qt_draft t_draft t_drafted qt_result t_result t_length t_arguments qt_kinds t_kinds qt_values t_values qt_widths t_widths qt_below t_below qt_sizes t_sizes qt_scales t_scales qt_parts t_parts qt_texts t_texts qt_lengths t_lengths t_end t_index t_flags t_twice t_width t_precision t_conversion t_broken qt_piece t_piece t_put t_head qt_tens t_tens t_count t_exponent qt_work t_work) s.heap.size)) _
  rw [hQ]
  have hA : ∀ q : Nat, s.heap.size ≤ q → va_A (w_Model_clear G qt qt_draft t_draft t_drafted qt_result t_result t_length t_arguments qt_kinds t_kinds qt_values t_values qt_widths t_widths qt_below t_below qt_sizes t_sizes qt_scales t_scales qt_parts t_parts qt_texts t_texts qt_lengths t_lengths t_end t_index t_flags t_twice t_width t_precision t_conversion t_broken qt_piece t_piece t_put t_head qt_tens t_tens t_count t_exponent qt_work t_work) s.heap.size q := fun q h => Or.inr h
  obtain ⟨A, hAe⟩ : ∃ A, va_A (w_Model_clear G qt qt_draft t_draft t_drafted qt_result t_result t_length t_arguments qt_kinds t_kinds qt_values t_values qt_widths t_widths qt_below t_below qt_sizes t_sizes qt_scales t_scales qt_parts t_parts qt_texts t_texts qt_lengths t_lengths t_end t_index t_flags t_twice t_width t_precision t_conversion t_broken qt_piece t_piece t_put t_head qt_tens t_tens t_count t_exponent qt_work t_work) s.heap.size = A := ⟨_, rfl⟩
  rw [hAe] at hA hD hAb hQ
  have hS : va_S A s.heap s.heap [] := va_S.rf
  have hl := lv_entry (([.ref qt, .int a1] : List Value)) (n := 2) (Nat.le_of_ble_eq_true rfl)
  rw [lg_entry_eq]
  generalize (lg_sl (([.ref qt, .int a1] : List Value)) ++ List.replicate (2 - (lg_sl (([.ref qt, .int a1] : List Value))).length) Slot.unset).toArray = ls at hl ⊢
  have hl : lv_has ls 2 [(0, .ref qt), (1, .int a1)] := hl
  unfold f_Model_has at hf
  refine lv_aload_n hx hb d_Model_has_0 rfl (lv_at hl 0 rfl) ?_
  refine va_get (D := gD G) (ci := 7) (v := .int t_flags) (C := R_Model) (T := F_Model) (N := 29) hx hb hg in_Model hown hK hP 0 rfl rfl 16 (by decide) (hg _ m_414) (fun _ h9 => h9) rfl d_Model_has_1 ?_
  refine lv_iload_n hx hb d_Model_has_4 rfl (lv_at hl 1 rfl) ?_
  refine lv_iand hx hb d_Model_has_5 ?_
  refine lv_if_eq (tgt := 13) hx hb d_Model_has_6 (by decide) (fun c_6 => ?_) (fun c_6 => ?_)
  · have hf := ip_ c_6 hf
    refine lv_iconst (v := 0) hx hb d_Model_has_13 (by decide) ?_
    obtain rfl := Option.some.inj hf
    rw [← hQ]
    exact W.zret (v := (0 : Int32)) hx hb hr (bl_n bl_0) (fun t9 ht hW => ⟨⟨(0 : Int32), (), rfl, ⟨rfl, bl_0⟩, ⟨by rw [ht]; exact hP, hD⟩⟩, hS.F ht⟩) hS.2.2 d_Model_has_14
  · have hf := in_ c_6 hf
    refine lv_iconst (v := 1) hx hb d_Model_has_9 (by decide) ?_
    refine lv_goto (tgt := 14) hx hb d_Model_has_10 (by decide) ?_
    obtain rfl := Option.some.inj hf
    rw [← hQ]
    exact W.zret (v := (1 : Int32)) hx hb hr (bl_n bl_1) (fun t9 ht hW => ⟨⟨(1 : Int32), (), rfl, ⟨rfl, bl_1⟩, ⟨by rw [ht]; exact hP, hD⟩⟩, hS.F ht⟩) hS.2.2 d_Model_has_14
theorem d_Model_faultOf_0 : decode cd_Model_faultOf 0 = .ok (.aload_n 0, 1) := by decide +kernel
theorem d_Model_faultOf_1 : decode cd_Model_faultOf 1 = .ok (.invokevirtual 128, 3) := by decide +kernel
theorem d_Model_faultOf_4 : decode cd_Model_faultOf 4 = .ok (.istore_n 1, 1) := by decide +kernel
theorem d_Model_faultOf_5 : decode cd_Model_faultOf 5 = .ok (.aload_n 0, 1) := by decide +kernel
theorem d_Model_faultOf_6 : decode cd_Model_faultOf 6 = .ok (.getfield 99, 3) := by decide +kernel
theorem d_Model_faultOf_9 : decode cd_Model_faultOf 9 = .ok (.ifCond .eq 5, 3) := by decide +kernel
theorem d_Model_faultOf_12 : decode cd_Model_faultOf 12 = .ok (.iconst 1, 1) := by decide +kernel
theorem d_Model_faultOf_13 : decode cd_Model_faultOf 13 = .ok (.ireturn, 1) := by decide +kernel
theorem d_Model_faultOf_14 : decode cd_Model_faultOf 14 = .ok (.aload_n 0, 1) := by decide +kernel
theorem d_Model_faultOf_15 : decode cd_Model_faultOf 15 = .ok (.getfield 83, 3) := by decide +kernel
theorem d_Model_faultOf_18 : decode cd_Model_faultOf 18 = .ok (.sipush 999, 3) := by decide +kernel
theorem d_Model_faultOf_21 : decode cd_Model_faultOf 21 = .ok (.if_icmp .gt 23, 3) := by decide +kernel
theorem d_Model_faultOf_24 : decode cd_Model_faultOf 24 = .ok (.aload_n 0, 1) := by decide +kernel
theorem d_Model_faultOf_25 : decode cd_Model_faultOf 25 = .ok (.getfield 93, 3) := by decide +kernel
theorem d_Model_faultOf_28 : decode cd_Model_faultOf 28 = .ok (.sipush 999, 3) := by decide +kernel
theorem d_Model_faultOf_31 : decode cd_Model_faultOf 31 = .ok (.if_icmp .gt 13, 3) := by decide +kernel
theorem d_Model_faultOf_34 : decode cd_Model_faultOf 34 = .ok (.aload_n 0, 1) := by decide +kernel
theorem d_Model_faultOf_35 : decode cd_Model_faultOf 35 = .ok (.getfield 96, 3) := by decide +kernel
theorem d_Model_faultOf_38 : decode cd_Model_faultOf 38 = .ok (.sipush 999, 3) := by decide +kernel
theorem d_Model_faultOf_41 : decode cd_Model_faultOf 41 = .ok (.if_icmp .le 5, 3) := by decide +kernel
theorem d_Model_faultOf_44 : decode cd_Model_faultOf 44 = .ok (.iconst 2, 1) := by decide +kernel
theorem d_Model_faultOf_45 : decode cd_Model_faultOf 45 = .ok (.ireturn, 1) := by decide +kernel
theorem d_Model_faultOf_46 : decode cd_Model_faultOf 46 = .ok (.aload_n 0, 1) := by decide +kernel
theorem d_Model_faultOf_47 : decode cd_Model_faultOf 47 = .ok (.getfield 89, 3) := by decide +kernel
theorem d_Model_faultOf_50 : decode cd_Model_faultOf 50 = .ok (.ifCond .eq 5, 3) := by decide +kernel
theorem d_Model_faultOf_53 : decode cd_Model_faultOf 53 = .ok (.iconst 3, 1) := by decide +kernel
theorem d_Model_faultOf_54 : decode cd_Model_faultOf 54 = .ok (.ireturn, 1) := by decide +kernel
theorem d_Model_faultOf_55 : decode cd_Model_faultOf 55 = .ok (.aload_n 0, 1) := by decide +kernel
theorem d_Model_faultOf_56 : decode cd_Model_faultOf 56 = .ok (.invokevirtual 134, 3) := by decide +kernel
theorem d_Model_faultOf_59 : decode cd_Model_faultOf 59 = .ok (.ifCond .ne 35, 3) := by decide +kernel
theorem d_Model_faultOf_62 : decode cd_Model_faultOf 62 = .ok (.iload_n 1, 1) := by decide +kernel
theorem d_Model_faultOf_63 : decode cd_Model_faultOf 63 = .ok (.bipush 98, 2) := by decide +kernel
theorem d_Model_faultOf_65 : decode cd_Model_faultOf 65 = .ok (.if_icmp .eq 29, 3) := by decide +kernel
theorem d_Model_faultOf_68 : decode cd_Model_faultOf 68 = .ok (.iload_n 1, 1) := by decide +kernel
theorem d_Model_faultOf_69 : decode cd_Model_faultOf 69 = .ok (.bipush 115, 2) := by decide +kernel
theorem d_Model_faultOf_71 : decode cd_Model_faultOf 71 = .ok (.if_icmp .eq 23, 3) := by decide +kernel
theorem d_Model_faultOf_74 : decode cd_Model_faultOf 74 = .ok (.iload_n 1, 1) := by decide +kernel
theorem d_Model_faultOf_75 : decode cd_Model_faultOf 75 = .ok (.bipush 99, 2) := by decide +kernel
theorem d_Model_faultOf_77 : decode cd_Model_faultOf 77 = .ok (.if_icmp .eq 17, 3) := by decide +kernel
theorem d_Model_faultOf_80 : decode cd_Model_faultOf 80 = .ok (.iload_n 1, 1) := by decide +kernel
theorem d_Model_faultOf_81 : decode cd_Model_faultOf 81 = .ok (.bipush 37, 2) := by decide +kernel
theorem d_Model_faultOf_83 : decode cd_Model_faultOf 83 = .ok (.if_icmp .eq 11, 3) := by decide +kernel
theorem d_Model_faultOf_86 : decode cd_Model_faultOf 86 = .ok (.iload_n 1, 1) := by decide +kernel
theorem d_Model_faultOf_87 : decode cd_Model_faultOf 87 = .ok (.bipush 110, 2) := by decide +kernel
theorem d_Model_faultOf_89 : decode cd_Model_faultOf 89 = .ok (.if_icmp .eq 5, 3) := by decide +kernel
theorem d_Model_faultOf_92 : decode cd_Model_faultOf 92 = .ok (.iconst 4, 1) := by decide +kernel
theorem d_Model_faultOf_93 : decode cd_Model_faultOf 93 = .ok (.ireturn, 1) := by decide +kernel
theorem d_Model_faultOf_94 : decode cd_Model_faultOf 94 = .ok (.iload_n 1, 1) := by decide +kernel
theorem d_Model_faultOf_95 : decode cd_Model_faultOf 95 = .ok (.bipush 110, 2) := by decide +kernel
theorem d_Model_faultOf_97 : decode cd_Model_faultOf 97 = .ok (.if_icmp .ne 40, 3) := by decide +kernel
theorem d_Model_faultOf_100 : decode cd_Model_faultOf 100 = .ok (.aload_n 0, 1) := by decide +kernel
theorem d_Model_faultOf_101 : decode cd_Model_faultOf 101 = .ok (.getfield 93, 3) := by decide +kernel
theorem d_Model_faultOf_104 : decode cd_Model_faultOf 104 = .ok (.ifCond .lt 7, 3) := by decide +kernel
theorem d_Model_faultOf_107 : decode cd_Model_faultOf 107 = .ok (.iconst 5, 1) := by decide +kernel
theorem d_Model_faultOf_108 : decode cd_Model_faultOf 108 = .ok (.goto 28, 3) := by decide +kernel
theorem d_Model_faultOf_111 : decode cd_Model_faultOf 111 = .ok (.aload_n 0, 1) := by decide +kernel
theorem d_Model_faultOf_112 : decode cd_Model_faultOf 112 = .ok (.getfield 96, 3) := by decide +kernel
theorem d_Model_faultOf_115 : decode cd_Model_faultOf 115 = .ok (.ifCond .lt 8, 3) := by decide +kernel
theorem d_Model_faultOf_118 : decode cd_Model_faultOf 118 = .ok (.bipush 6, 2) := by decide +kernel
theorem d_Model_faultOf_120 : decode cd_Model_faultOf 120 = .ok (.goto 16, 3) := by decide +kernel
theorem d_Model_faultOf_123 : decode cd_Model_faultOf 123 = .ok (.aload_n 0, 1) := by decide +kernel
theorem d_Model_faultOf_124 : decode cd_Model_faultOf 124 = .ok (.getfield 86, 3) := by decide +kernel
theorem d_Model_faultOf_127 : decode cd_Model_faultOf 127 = .ok (.ifCond .eq 8, 3) := by decide +kernel
theorem d_Model_faultOf_130 : decode cd_Model_faultOf 130 = .ok (.bipush 7, 2) := by decide +kernel
theorem d_Model_faultOf_132 : decode cd_Model_faultOf 132 = .ok (.goto 4, 3) := by decide +kernel
theorem d_Model_faultOf_135 : decode cd_Model_faultOf 135 = .ok (.iconst 0, 1) := by decide +kernel
theorem d_Model_faultOf_136 : decode cd_Model_faultOf 136 = .ok (.ireturn, 1) := by decide +kernel
theorem d_Model_faultOf_137 : decode cd_Model_faultOf 137 = .ok (.aload_n 0, 1) := by decide +kernel
theorem d_Model_faultOf_138 : decode cd_Model_faultOf 138 = .ok (.getfield 96, 3) := by decide +kernel
theorem d_Model_faultOf_141 : decode cd_Model_faultOf 141 = .ok (.ifCond .lt 36, 3) := by decide +kernel
theorem d_Model_faultOf_144 : decode cd_Model_faultOf 144 = .ok (.iload_n 1, 1) := by decide +kernel
theorem d_Model_faultOf_145 : decode cd_Model_faultOf 145 = .ok (.bipush 37, 2) := by decide +kernel
theorem d_Model_faultOf_147 : decode cd_Model_faultOf 147 = .ok (.if_icmp .eq 27, 3) := by decide +kernel
theorem d_Model_faultOf_150 : decode cd_Model_faultOf 150 = .ok (.iload_n 1, 1) := by decide +kernel
theorem d_Model_faultOf_151 : decode cd_Model_faultOf 151 = .ok (.bipush 99, 2) := by decide +kernel
theorem d_Model_faultOf_153 : decode cd_Model_faultOf 153 = .ok (.if_icmp .eq 21, 3) := by decide +kernel
theorem d_Model_faultOf_156 : decode cd_Model_faultOf 156 = .ok (.iload_n 1, 1) := by decide +kernel
theorem d_Model_faultOf_157 : decode cd_Model_faultOf 157 = .ok (.bipush 100, 2) := by decide +kernel
theorem d_Model_faultOf_159 : decode cd_Model_faultOf 159 = .ok (.if_icmp .eq 15, 3) := by decide +kernel
theorem d_Model_faultOf_162 : decode cd_Model_faultOf 162 = .ok (.iload_n 1, 1) := by decide +kernel
theorem d_Model_faultOf_163 : decode cd_Model_faultOf 163 = .ok (.bipush 111, 2) := by decide +kernel
theorem d_Model_faultOf_165 : decode cd_Model_faultOf 165 = .ok (.if_icmp .eq 9, 3) := by decide +kernel
theorem d_Model_faultOf_168 : decode cd_Model_faultOf 168 = .ok (.iload_n 1, 1) := by decide +kernel
theorem d_Model_faultOf_169 : decode cd_Model_faultOf 169 = .ok (.bipush 120, 2) := by decide +kernel
theorem d_Model_faultOf_171 : decode cd_Model_faultOf 171 = .ok (.if_icmp .ne 6, 3) := by decide +kernel
theorem d_Model_faultOf_174 : decode cd_Model_faultOf 174 = .ok (.bipush 6, 2) := by decide +kernel
theorem d_Model_faultOf_176 : decode cd_Model_faultOf 176 = .ok (.ireturn, 1) := by decide +kernel
theorem d_Model_faultOf_177 : decode cd_Model_faultOf 177 = .ok (.iload_n 1, 1) := by decide +kernel
theorem d_Model_faultOf_178 : decode cd_Model_faultOf 178 = .ok (.bipush 37, 2) := by decide +kernel
theorem d_Model_faultOf_180 : decode cd_Model_faultOf 180 = .ok (.if_icmp .ne 16, 3) := by decide +kernel
theorem d_Model_faultOf_183 : decode cd_Model_faultOf 183 = .ok (.aload_n 0, 1) := by decide +kernel
theorem d_Model_faultOf_184 : decode cd_Model_faultOf 184 = .ok (.getfield 86, 3) := by decide +kernel
theorem d_Model_faultOf_187 : decode cd_Model_faultOf 187 = .ok (.bipush (-2), 2) := by decide +kernel
theorem d_Model_faultOf_189 : decode cd_Model_faultOf 189 = .ok (.iand, 1) := by decide +kernel
theorem d_Model_faultOf_190 : decode cd_Model_faultOf 190 = .ok (.ifCond .eq 6, 3) := by decide +kernel
theorem d_Model_faultOf_193 : decode cd_Model_faultOf 193 = .ok (.bipush 7, 2) := by decide +kernel
theorem d_Model_faultOf_195 : decode cd_Model_faultOf 195 = .ok (.ireturn, 1) := by decide +kernel
theorem d_Model_faultOf_196 : decode cd_Model_faultOf 196 = .ok (.aload_n 0, 1) := by decide +kernel
theorem d_Model_faultOf_197 : decode cd_Model_faultOf 197 = .ok (.getfield 93, 3) := by decide +kernel
theorem d_Model_faultOf_200 : decode cd_Model_faultOf 200 = .ok (.ifCond .ge 30, 3) := by decide +kernel
theorem d_Model_faultOf_203 : decode cd_Model_faultOf 203 = .ok (.aload_n 0, 1) := by decide +kernel
theorem d_Model_faultOf_204 : decode cd_Model_faultOf 204 = .ok (.iconst 1, 1) := by decide +kernel
theorem d_Model_faultOf_205 : decode cd_Model_faultOf 205 = .ok (.invokevirtual 137, 3) := by decide +kernel
theorem d_Model_faultOf_208 : decode cd_Model_faultOf 208 = .ok (.ifCond .ne 19, 3) := by decide +kernel
theorem d_Model_faultOf_211 : decode cd_Model_faultOf 211 = .ok (.aload_n 0, 1) := by decide +kernel
theorem d_Model_faultOf_212 : decode cd_Model_faultOf 212 = .ok (.invokevirtual 134, 3) := by decide +kernel
theorem d_Model_faultOf_215 : decode cd_Model_faultOf 215 = .ok (.ifCond .eq 15, 3) := by decide +kernel
theorem d_Model_faultOf_218 : decode cd_Model_faultOf 218 = .ok (.aload_n 0, 1) := by decide +kernel
theorem d_Model_faultOf_219 : decode cd_Model_faultOf 219 = .ok (.bipush 16, 2) := by decide +kernel
theorem d_Model_faultOf_221 : decode cd_Model_faultOf 221 = .ok (.invokevirtual 137, 3) := by decide +kernel
theorem d_Model_faultOf_224 : decode cd_Model_faultOf 224 = .ok (.ifCond .eq 6, 3) := by decide +kernel
theorem d_Model_faultOf_227 : decode cd_Model_faultOf 227 = .ok (.bipush 8, 2) := by decide +kernel
theorem d_Model_faultOf_229 : decode cd_Model_faultOf 229 = .ok (.ireturn, 1) := by decide +kernel
theorem d_Model_faultOf_230 : decode cd_Model_faultOf 230 = .ok (.aload_n 0, 1) := by decide +kernel
theorem d_Model_faultOf_231 : decode cd_Model_faultOf 231 = .ok (.invokevirtual 134, 3) := by decide +kernel
theorem d_Model_faultOf_234 : decode cd_Model_faultOf 234 = .ok (.ifCond .eq 40, 3) := by decide +kernel
theorem d_Model_faultOf_237 : decode cd_Model_faultOf 237 = .ok (.aload_n 0, 1) := by decide +kernel
theorem d_Model_faultOf_238 : decode cd_Model_faultOf 238 = .ok (.iconst 4, 1) := by decide +kernel
theorem d_Model_faultOf_239 : decode cd_Model_faultOf 239 = .ok (.invokevirtual 137, 3) := by decide +kernel
theorem d_Model_faultOf_242 : decode cd_Model_faultOf 242 = .ok (.ifCond .eq 12, 3) := by decide +kernel
theorem d_Model_faultOf_245 : decode cd_Model_faultOf 245 = .ok (.aload_n 0, 1) := by decide +kernel
theorem d_Model_faultOf_246 : decode cd_Model_faultOf 246 = .ok (.bipush 8, 2) := by decide +kernel
theorem d_Model_faultOf_248 : decode cd_Model_faultOf 248 = .ok (.invokevirtual 137, 3) := by decide +kernel
theorem d_Model_faultOf_251 : decode cd_Model_faultOf 251 = .ok (.ifCond .ne 20, 3) := by decide +kernel
theorem d_Model_faultOf_254 : decode cd_Model_faultOf 254 = .ok (.aload_n 0, 1) := by decide +kernel
theorem d_Model_faultOf_255 : decode cd_Model_faultOf 255 = .ok (.iconst 1, 1) := by decide +kernel
theorem d_Model_faultOf_256 : decode cd_Model_faultOf 256 = .ok (.invokevirtual 137, 3) := by decide +kernel
theorem d_Model_faultOf_259 : decode cd_Model_faultOf 259 = .ok (.ifCond .eq 15, 3) := by decide +kernel
theorem d_Model_faultOf_262 : decode cd_Model_faultOf 262 = .ok (.aload_n 0, 1) := by decide +kernel
theorem d_Model_faultOf_263 : decode cd_Model_faultOf 263 = .ok (.bipush 16, 2) := by decide +kernel
theorem d_Model_faultOf_265 : decode cd_Model_faultOf 265 = .ok (.invokevirtual 137, 3) := by decide +kernel
theorem d_Model_faultOf_268 : decode cd_Model_faultOf 268 = .ok (.ifCond .eq 6, 3) := by decide +kernel
theorem d_Model_faultOf_271 : decode cd_Model_faultOf 271 = .ok (.bipush 7, 2) := by decide +kernel
theorem d_Model_faultOf_273 : decode cd_Model_faultOf 273 = .ok (.ireturn, 1) := by decide +kernel
theorem d_Model_faultOf_274 : decode cd_Model_faultOf 274 = .ok (.iload_n 1, 1) := by decide +kernel
theorem d_Model_faultOf_275 : decode cd_Model_faultOf 275 = .ok (.bipush 37, 2) := by decide +kernel
theorem d_Model_faultOf_277 : decode cd_Model_faultOf 277 = .ok (.if_icmp .eq 22, 3) := by decide +kernel
theorem d_Model_faultOf_280 : decode cd_Model_faultOf 280 = .ok (.aload_n 0, 1) := by decide +kernel
theorem d_Model_faultOf_281 : decode cd_Model_faultOf 281 = .ok (.getfield 86, 3) := by decide +kernel
theorem d_Model_faultOf_284 : decode cd_Model_faultOf 284 = .ok (.aload_n 0, 1) := by decide +kernel
theorem d_Model_faultOf_285 : decode cd_Model_faultOf 285 = .ok (.invokevirtual 140, 3) := by decide +kernel
theorem d_Model_faultOf_288 : decode cd_Model_faultOf 288 = .ok (.iconst (-1), 1) := by decide +kernel
theorem d_Model_faultOf_289 : decode cd_Model_faultOf 289 = .ok (.ixor, 1) := by decide +kernel
theorem d_Model_faultOf_290 : decode cd_Model_faultOf 290 = .ok (.iand, 1) := by decide +kernel
theorem d_Model_faultOf_291 : decode cd_Model_faultOf 291 = .ok (.ifCond .eq 8, 3) := by decide +kernel
theorem d_Model_faultOf_294 : decode cd_Model_faultOf 294 = .ok (.bipush 9, 2) := by decide +kernel
theorem d_Model_faultOf_296 : decode cd_Model_faultOf 296 = .ok (.goto 4, 3) := by decide +kernel
theorem d_Model_faultOf_299 : decode cd_Model_faultOf 299 = .ok (.iconst 0, 1) := by decide +kernel
theorem d_Model_faultOf_300 : decode cd_Model_faultOf 300 = .ok (.ireturn, 1) := by decide +kernel
theorem m_445 : Cond.methodLink R_Model 134 y_Model_isNumber ∈ gw := gm (i := 1046) (by decide +kernel) (by decide +kernel)
theorem m_446 : Cond.instanceMethod y_Model_isNumber ∈ gw := gm (i := 1048) (by decide +kernel) (by decide +kernel)
theorem m_447 : Cond.selects R_Model y_Model_isNumber y_Model_isNumber ∈ gw := gm (i := 47) (by decide +kernel) (by decide +kernel)
set_option maxRecDepth 100000 in
theorem m_448 : Cond.code y_Model_isNumber cd_Model_isNumber 1 (some .boolean) ∈ gw := gm (i := 1049) rfl rfl
theorem m_449 : Cond.methodLink R_Model 137 y_Model_has ∈ gw := gm (i := 1051) (by decide +kernel) (by decide +kernel)
theorem m_450 : Cond.instanceMethod y_Model_has ∈ gw := gm (i := 1053) (by decide +kernel) (by decide +kernel)
theorem m_451 : Cond.selects R_Model y_Model_has y_Model_has ∈ gw := gm (i := 48) (by decide +kernel) (by decide +kernel)
set_option maxRecDepth 100000 in
theorem m_452 : Cond.code y_Model_has cd_Model_has 2 (some .boolean) ∈ gw := gm (i := 1054) rfl rfl
theorem m_453 : Cond.methodLink R_Model 140 y_Model_allowed ∈ gw := gm (i := 1055) (by decide +kernel) (by decide +kernel)
theorem m_454 : Cond.instanceMethod y_Model_allowed ∈ gw := gm (i := 1057) (by decide +kernel) (by decide +kernel)
theorem m_455 : Cond.selects R_Model y_Model_allowed y_Model_allowed ∈ gw := gm (i := 49) (by decide +kernel) (by decide +kernel)
set_option maxRecDepth 100000 in
theorem m_456 : Cond.code y_Model_allowed cd_Model_allowed 2 (some .int) ∈ gw := gm (i := 1058) rfl rfl
def k_Model_faultOf_274 (K : Nat) (t_flags : Int32) (t_conversion : Int32) (x1 : Int32) : Option Int32 :=
  (if x1 = (37 : Int32) then some (0 : Int32) else ((f_Model_allowed K t_conversion).bind fun u_285 => (if (t_flags &&& (u_285 ^^^ (-1 : Int32))) = 0 then some (0 : Int32) else some (9 : Int32))))
def k_Model_faultOf_254 (K : Nat) (t_flags : Int32) (t_conversion : Int32) (x1 : Int32) : Option Int32 :=
  ((f_Model_has t_flags (1 : Int32)).bind fun u_256 => (if u_256 = 0 then k_Model_faultOf_274 K t_flags t_conversion x1 else ((f_Model_has t_flags (16 : Int32)).bind fun u_265 => (if u_265 = 0 then k_Model_faultOf_274 K t_flags t_conversion x1 else some (7 : Int32)))))
def k_Model_faultOf_230 (K : Nat) (t_flags : Int32) (t_conversion : Int32) (x1 : Int32) : Option Int32 :=
  ((f_Model_isNumber K t_conversion).bind fun u_231 => (if u_231 = 0 then k_Model_faultOf_274 K t_flags t_conversion x1 else ((f_Model_has t_flags (4 : Int32)).bind fun u_239 => (if u_239 = 0 then k_Model_faultOf_254 K t_flags t_conversion x1 else ((f_Model_has t_flags (8 : Int32)).bind fun u_248 => (if u_248 = 0 then k_Model_faultOf_254 K t_flags t_conversion x1 else some (7 : Int32)))))))
def k_Model_faultOf_196 (K : Nat) (t_flags : Int32) (t_width : Int32) (t_conversion : Int32) (x1 : Int32) : Option Int32 :=
  (if 0 ≤ t_width then k_Model_faultOf_230 K t_flags t_conversion x1 else ((f_Model_has t_flags (1 : Int32)).bind fun u_205 => (if u_205 = 0 then ((f_Model_isNumber K t_conversion).bind fun u_212 => (if u_212 = 0 then k_Model_faultOf_230 K t_flags t_conversion x1 else ((f_Model_has t_flags (16 : Int32)).bind fun u_221 => (if u_221 = 0 then k_Model_faultOf_230 K t_flags t_conversion x1 else some (8 : Int32))))) else some (8 : Int32))))
def k_Model_faultOf_177 (K : Nat) (t_flags : Int32) (t_width : Int32) (t_conversion : Int32) (x1 : Int32) : Option Int32 :=
  (if x1 = (37 : Int32) then (if (t_flags &&& (-2 : Int32)) = 0 then k_Model_faultOf_196 K t_flags t_width t_conversion x1 else some (7 : Int32)) else k_Model_faultOf_196 K t_flags t_width t_conversion x1)
def k_Model_faultOf_94 (K : Nat) (t_flags : Int32) (t_width : Int32) (t_precision : Int32) (t_conversion : Int32) (x1 : Int32) : Option Int32 :=
  (if x1 = (110 : Int32) then (if t_width < 0 then (if t_precision < 0 then (if t_flags = 0 then some (0 : Int32) else some (7 : Int32)) else some (6 : Int32)) else some (5 : Int32)) else (if t_precision < 0 then k_Model_faultOf_177 K t_flags t_width t_conversion x1 else (if x1 = (37 : Int32) then some (6 : Int32) else (if x1 = (99 : Int32) then some (6 : Int32) else (if x1 = (100 : Int32) then some (6 : Int32) else (if x1 = (111 : Int32) then some (6 : Int32) else (if x1 = (120 : Int32) then some (6 : Int32) else k_Model_faultOf_177 K t_flags t_width t_conversion x1)))))))
def f_Model_faultOf (K : Nat) (t_index : Int32) (t_flags : Int32) (t_twice : Int32) (t_width : Int32) (t_precision : Int32) (t_conversion : Int32) (t_broken : Int32) : Option Int32 :=
  ((f_Model_small K t_conversion).bind fun u_1 => (if t_broken = 0 then (if (999 : Int32) < t_index then some (2 : Int32) else (if (999 : Int32) < t_width then some (2 : Int32) else (if t_precision ≤ (999 : Int32) then (if t_twice = 0 then ((f_Model_isNumber K t_conversion).bind fun u_56 => (if u_56 = 0 then (if u_1 = (98 : Int32) then k_Model_faultOf_94 K t_flags t_width t_precision t_conversion u_1 else (if u_1 = (115 : Int32) then k_Model_faultOf_94 K t_flags t_width t_precision t_conversion u_1 else (if u_1 = (99 : Int32) then k_Model_faultOf_94 K t_flags t_width t_precision t_conversion u_1 else (if u_1 = (37 : Int32) then k_Model_faultOf_94 K t_flags t_width t_precision t_conversion u_1 else (if u_1 = (110 : Int32) then k_Model_faultOf_94 K t_flags t_width t_precision t_conversion u_1 else some (4 : Int32)))))) else k_Model_faultOf_94 K t_flags t_width t_precision t_conversion u_1)) else some (3 : Int32)) else some (2 : Int32)))) else some (1 : Int32)))
set_option maxHeartbeats 4000000 in
set_option maxRecDepth 100000 in
theorem c_Model_faultOf (l : Launch) (G : Gt) (K : Nat) (qt : Nat) (qt_draft : Nat) (t_draft : Nat → Int32) (t_drafted : Int32) (qt_result : Nat) (t_result : Nat → Int32) (t_length : Int32) (t_arguments : Int32) (qt_kinds : Nat) (t_kinds : Nat → Int32) (qt_values : Nat) (t_values : Nat → Int64) (qt_widths : Nat) (t_widths : Nat → Int32) (qt_below : Nat) (t_below : Nat → Int32) (qt_sizes : Nat) (t_sizes : Nat → Int32) (qt_scales : Nat) (t_scales : Nat → Int32) (qt_parts : Nat) (t_parts : Nat → Int64) (qt_texts : Nat) (t_texts : Nat → Int32) (qt_lengths : Nat) (t_lengths : Nat → Int32) (t_end : Int32) (t_index : Int32) (t_flags : Int32) (t_twice : Int32) (t_width : Int32) (t_precision : Int32) (t_conversion : Int32) (t_broken : Int32) (qt_piece : Nat) (t_piece : Nat → Int32) (t_put : Int32) (t_head : Int32) (qt_tens : Nat) (t_tens : Nat → Int32) (t_count : Int32) (t_exponent : Int32) (qt_work : Nat) (t_work : Nat → Int32) (sz : Nat) (res : Int32)   (hf : f_Model_faultOf K t_index t_flags t_twice t_width t_precision t_conversion t_broken = some res) : Met l y_Model_faultOf (.code y_Model_faultOf cd_Model_faultOf 2 (some .int) :: gw) { frames := 4, cells := 0, slots := 0, locals := 160 } (PC G ([.ref qt] : List Value) sz (w_Model_clear G qt qt_draft t_draft t_drafted qt_result t_result t_length t_arguments qt_kinds t_kinds qt_values t_values qt_widths t_widths qt_below t_below qt_sizes t_sizes qt_scales t_scales qt_parts t_parts qt_texts t_texts qt_lengths t_lengths t_end t_index t_flags t_twice t_width t_precision t_conversion t_broken qt_piece t_piece t_put t_head qt_tens t_tens t_count t_exponent qt_work t_work)) (QI G res (va_A (w_Model_clear G qt qt_draft t_draft t_drafted qt_result t_result t_length t_arguments qt_kinds t_kinds qt_values t_values qt_widths t_widths qt_below t_below qt_sizes t_sizes qt_scales t_scales qt_parts t_parts qt_texts t_texts qt_lengths t_lengths t_end t_index t_flags t_twice t_width t_precision t_conversion t_broken qt_piece t_piece t_put t_head qt_tens t_tens t_count t_exponent qt_work t_work) sz) (w_Model_clear G qt qt_draft t_draft t_drafted qt_result t_result t_length t_arguments qt_kinds t_kinds qt_values t_values qt_widths t_widths qt_below t_below qt_sizes t_sizes qt_scales t_scales qt_parts t_parts qt_texts t_texts qt_lengths t_lengths t_end t_index t_flags t_twice t_width t_precision t_conversion t_broken qt_piece t_piece t_put t_head qt_tens t_tens t_count t_exponent qt_work t_work)) 0 0 (va_A (w_Model_clear G qt qt_draft t_draft t_drafted qt_result t_result t_length t_arguments qt_kinds t_kinds qt_values t_values qt_widths t_widths qt_below t_below qt_sizes t_sizes qt_scales t_scales qt_parts t_parts qt_texts t_texts qt_lengths t_lengths t_end t_index t_flags t_twice t_width t_precision t_conversion t_broken qt_piece t_piece t_put t_head qt_tens t_tens t_count t_exponent qt_work t_work) sz) := by
  refine Met.ofW (cc := cd_Model_faultOf) (maxL := 2) (ret := (some .int)) (by decide) rfl ?_
  intro p e s m args below meth c s₁ B hml hv
  obtain ⟨rfl, hsz, hP, hE, hD0⟩ := hv
  have hx := B.exec
  have hb := B.bytes
  have hr := B.returns
  have hts := atoms_spec (ws := (.code y_Model_faultOf cd_Model_faultOf 2 (some .int) :: gw)) B.pre
  have hg : ∀ w ∈ gw, w.before _ s = true := fun w h => hts w (List.mem_cons_of_mem _ h)
  have hown : s.vm.findClass R_Model = some m.cls := findClass_of_methodNamed B.named
  have hlocks := B.notSynchronized
  subst hsz
  have hK := hE.K
  have hD := hD0.self (sz := s.heap.size)
  have hAb := hE.ab hD0
  obtain ⟨Q, hQ⟩ : ∃ Q, MQ below (QI G res (va_A (w_Model_clear G qt qt_draft t_draft t_drafted qt_result t_result t_length t_arguments qt_kinds t_kinds qt_values t_values qt_widths t_widths qt_below t_below qt_sizes t_sizes qt_scales t_scales qt_parts t_parts qt_texts t_texts qt_lengths t_lengths t_end t_index t_flags t_twice t_width t_precision t_conversion t_broken qt_piece t_piece t_put t_head qt_tens t_tens t_count t_exponent qt_work t_work) s.heap.size) (w_Model_clear G qt qt_draft t_draft t_drafted qt_result t_result t_length t_arguments qt_kinds t_kinds qt_values t_values qt_widths t_widths qt_below t_below qt_sizes t_sizes qt_scales t_scales qt_parts t_parts qt_texts t_texts qt_lengths t_lengths t_end t_index t_flags t_twice t_width t_precision t_conversion t_broken qt_piece t_piece t_put t_head qt_tens t_tens t_count t_exponent qt_work t_work)) ([.ref qt] : List Value).toArray s 0 0 (va_A (w_Model_clear G qt qt_draft t_draft t_drafted qt_result t_result t_length t_arguments qt_kinds t_kinds qt_values t_values qt_widths t_widths qt_below t_below qt_sizes t_sizes qt_scales t_scales qt_parts t_parts qt_texts t_texts qt_lengths t_lengths t_end t_index t_flags t_twice t_width t_precision t_conversion t_broken qt_piece t_piece t_put t_head qt_tens t_tens t_count t_exponent qt_work t_work) s.heap.size) = Q := ⟨_, rfl⟩
  show W p l e { frames := 4, cells := 0, slots := 0, locals := 160 } s m ([.ref qt] : List Value).toArray below meth c s.heap [] 0 0 (MQ below (QI G res (va_A (w_Model_clear G qt qt_draft t_draft t_drafted qt_result t_result t_length t_arguments qt_kinds t_kinds qt_values t_values qt_widths t_widths qt_below t_below qt_sizes t_sizes qt_scales t_scales qt_parts t_parts qt_texts t_texts qt_lengths t_lengths t_end t_index t_flags t_twice t_width t_precision t_conversion t_broken qt_piece t_piece t_put t_head qt_tens t_tens t_count t_exponent qt_work t_work) s.heap.size) (w_Model_clear G qt qt_draft t_draft t_drafted qt_result t_result t_length t_arguments qt_kinds t_kinds qt_values t_values qt_widths t_widths qt_below t_below qt_sizes t_sizes qt_scales t_scales qt_parts t_parts qt_texts t_texts qt_lengths t_lengths t_end t_index t_flags t_twice t_width t_precision t_conversion t_broken qt_piece t_piece t_put t_head qt_tens t_tens t_count t_exponent qt_work t_work)) ([.ref qt] : List Value).toArray s 0 0 (va_A (w_Model_clear G qt qt_draft t_draft t_drafted qt_result t_result t_length t_arguments qt_kinds t_kinds qt_values t_values qt_widths t_widths qt_below t_below qt_sizes t_sizes qt_scales t_scales qt_parts t_parts qt_texts t_texts qt_lengths t_lengths t_end t_index t_flags t_twice t_width t_precision t_conversion t_broken qt_piece t_piece t_put t_head qt_tens t_tens t_count t_exponent qt_work t_work) s.heap.size)) _
  rw [hQ]
  have hA : ∀ q : Nat, s.heap.size ≤ q → va_A (w_Model_clear G qt qt_draft t_draft t_drafted qt_result t_result t_length t_arguments qt_kinds t_kinds qt_values t_values qt_widths t_widths qt_below t_below qt_sizes t_sizes qt_scales t_scales qt_parts t_parts qt_texts t_texts qt_lengths t_lengths t_end t_index t_flags t_twice t_width t_precision t_conversion t_broken qt_piece t_piece t_put t_head qt_tens t_tens t_count t_exponent qt_work t_work) s.heap.size q := fun q h => Or.inr h
  obtain ⟨A, hAe⟩ : ∃ A, va_A (w_Model_clear G qt qt_draft t_draft t_drafted qt_result t_result t_length t_arguments qt_kinds t_kinds qt_values t_values qt_widths t_widths qt_below t_below qt_sizes t_sizes qt_scales t_scales qt_parts t_parts qt_texts t_texts qt_lengths t_lengths t_end t_index t_flags t_twice t_width t_precision t_conversion t_broken qt_piece t_piece t_put t_head qt_tens t_tens t_count t_exponent qt_work t_work) s.heap.size = A := ⟨_, rfl⟩
  rw [hAe] at hA hD hAb hQ
  have hS : va_S A s.heap s.heap [] := va_S.rf
  have hl := lv_entry (([.ref qt] : List Value)) (n := 2) (Nat.le_of_ble_eq_true rfl)
  rw [lg_entry_eq]
  generalize (lg_sl (([.ref qt] : List Value)) ++ List.replicate (2 - (lg_sl (([.ref qt] : List Value))).length) Slot.unset).toArray = ls at hl ⊢
  have hl : lv_has ls 2 [(0, .ref qt)] := hl
  have W_274 : ∀ (x1 : Int32) , k_Model_faultOf_274 K t_flags t_conversion x1 = some res → ∀ (H : Heap) (locs : List Loc) (ls : Array Slot), va_P (gD G) vwCl (w_Model_clear G qt qt_draft t_draft t_drafted qt_result t_result t_length t_arguments qt_kinds t_kinds qt_values t_values qt_widths t_widths qt_below t_below qt_sizes t_sizes qt_scales t_scales qt_parts t_parts qt_texts t_texts qt_lengths t_lengths t_end t_index t_flags t_twice t_width t_precision t_conversion t_broken qt_piece t_piece t_put t_head qt_tens t_tens t_count t_exponent qt_work t_work) H → va_D A (w_Model_clear G qt qt_draft t_draft t_drafted qt_result t_result t_length t_arguments qt_kinds t_kinds qt_values t_values qt_widths t_widths qt_below t_below qt_sizes t_sizes qt_scales t_scales qt_parts t_parts qt_texts t_texts qt_lengths t_lengths t_end t_index t_flags t_twice t_width t_precision t_conversion t_broken qt_piece t_piece t_put t_head qt_tens t_tens t_count t_exponent qt_work t_work) → va_S A s.heap H locs → lv_has ls 2 [(0, .ref qt), (1, .int x1)] → W p l e { frames := 4, cells := 0, slots := 0, locals := 160 } s m ([.ref qt] : List Value).toArray below meth c H locs 0 0 Q (F0 m 274 ls []) := by
    intro x1  hf H locs ls hP hD hS hl
    unfold k_Model_faultOf_274 at hf
    refine lv_iload_n hx hb d_Model_faultOf_274 rfl (lv_at hl 1 rfl) ?_
    refine lv_bipush (v := 37) hx hb d_Model_faultOf_275 (by decide) ?_
    refine lv_icmp_eq (tgt := 299) hx hb d_Model_faultOf_277 (by decide) (fun c_277 => ?_) (fun c_277 => ?_)
    · have hf := ip_ c_277 hf
      refine lv_iconst (v := 0) hx hb d_Model_faultOf_299 (by decide) ?_
      obtain rfl := Option.some.inj hf
      rw [← hQ]
      exact W.iret (v := (0 : Int32)) hx hb hr (fun t9 ht hW => ⟨⟨(0 : Int32), (), rfl, rfl, ⟨by rw [ht]; exact hP, hD⟩⟩, hS.F ht⟩) hS.2.2 d_Model_faultOf_300
    · have hf := in_ c_277 hf
      refine lv_aload_n hx hb d_Model_faultOf_280 rfl (lv_at hl 0 rfl) ?_
      refine va_get (D := gD G) (ci := 7) (v := .int t_flags) (C := R_Model) (T := F_Model) (N := 29) hx hb hg in_Model hown hK hP 0 rfl rfl 16 (by decide) (hg _ m_414) (fun _ h9 => h9) rfl d_Model_faultOf_281 ?_
      refine lv_aload_n hx hb d_Model_faultOf_284 rfl (lv_at hl 0 rfl) ?_
      obtain ⟨u_285, hu_285, hf⟩ := bd_ hf
      refine CALLWi (va_runV (As := []) (rest := [.int t_flags]) ⟨hx, hb, hml, hown, hg⟩ (c_Model_allowed l G K qt qt_draft t_draft t_drafted qt_result t_result t_length t_arguments qt_kinds t_kinds qt_values t_values qt_widths t_widths qt_below t_below qt_sizes t_sizes qt_scales t_scales qt_parts t_parts qt_texts t_texts qt_lengths t_lengths t_end t_index t_flags t_twice t_width t_precision t_conversion t_broken qt_piece t_piece t_put t_head qt_tens t_tens t_count t_exponent qt_work t_work _ u_285  hu_285) (cwV 0 hg (gV m_453 m_454 m_455 m_389 m_456) rfl rfl rfl (by decide +kernel) ⟨Nat.le_of_ble_eq_true rfl, Nat.le_of_ble_eq_true rfl⟩) ⟨PC_b, va_recv hK hP (ci := 7) (q0 := 0) rfl rfl, PC_p hE hS hAb hP hD⟩ rfl rfl hl.1 rfl (lv_room (Nat.le_of_ble_eq_true rfl)) d_Model_faultOf_285 ⟨Nat.zero_le _, Nat.zero_le _⟩) hP hD hS hA (fun H locs hP hD hS => ?_)
      have hP : va_P (gD G) vwCl (w_Model_clear G qt qt_draft t_draft t_drafted qt_result t_result t_length t_arguments qt_kinds t_kinds qt_values t_values qt_widths t_widths qt_below t_below qt_sizes t_sizes qt_scales t_scales qt_parts t_parts qt_texts t_texts qt_lengths t_lengths t_end t_index t_flags t_twice t_width t_precision t_conversion t_broken qt_piece t_piece t_put t_head qt_tens t_tens t_count t_exponent qt_work t_work) H := hP
      have hD : va_D A (w_Model_clear G qt qt_draft t_draft t_drafted qt_result t_result t_length t_arguments qt_kinds t_kinds qt_values t_values qt_widths t_widths qt_below t_below qt_sizes t_sizes qt_scales t_scales qt_parts t_parts qt_texts t_texts qt_lengths t_lengths t_end t_index t_flags t_twice t_width t_precision t_conversion t_broken qt_piece t_piece t_put t_head qt_tens t_tens t_count t_exponent qt_work t_work) := hD
      refine lv_iconst (v := -1) hx hb d_Model_faultOf_288 (by decide) ?_
      refine lv_ixor hx hb d_Model_faultOf_289 ?_
      refine lv_iand hx hb d_Model_faultOf_290 ?_
      refine lv_if_eq (tgt := 299) hx hb d_Model_faultOf_291 (by decide) (fun c_291 => ?_) (fun c_291 => ?_)
      · have hf := ip_ c_291 hf
        refine lv_iconst (v := 0) hx hb d_Model_faultOf_299 (by decide) ?_
        obtain rfl := Option.some.inj hf
        rw [← hQ]
        exact W.iret (v := (0 : Int32)) hx hb hr (fun t9 ht hW => ⟨⟨(0 : Int32), (), rfl, rfl, ⟨by rw [ht]; exact hP, hD⟩⟩, hS.F ht⟩) hS.2.2 d_Model_faultOf_300
      · have hf := in_ c_291 hf
        refine lv_bipush (v := 9) hx hb d_Model_faultOf_294 (by decide) ?_
        refine lv_goto (tgt := 300) hx hb d_Model_faultOf_296 (by decide) ?_
        obtain rfl := Option.some.inj hf
        rw [← hQ]
        exact W.iret (v := (9 : Int32)) hx hb hr (fun t9 ht hW => ⟨⟨(9 : Int32), (), rfl, rfl, ⟨by rw [ht]; exact hP, hD⟩⟩, hS.F ht⟩) hS.2.2 d_Model_faultOf_300
  have W_254 : ∀ (x1 : Int32) , k_Model_faultOf_254 K t_flags t_conversion x1 = some res → ∀ (H : Heap) (locs : List Loc) (ls : Array Slot), va_P (gD G) vwCl (w_Model_clear G qt qt_draft t_draft t_drafted qt_result t_result t_length t_arguments qt_kinds t_kinds qt_values t_values qt_widths t_widths qt_below t_below qt_sizes t_sizes qt_scales t_scales qt_parts t_parts qt_texts t_texts qt_lengths t_lengths t_end t_index t_flags t_twice t_width t_precision t_conversion t_broken qt_piece t_piece t_put t_head qt_tens t_tens t_count t_exponent qt_work t_work) H → va_D A (w_Model_clear G qt qt_draft t_draft t_drafted qt_result t_result t_length t_arguments qt_kinds t_kinds qt_values t_values qt_widths t_widths qt_below t_below qt_sizes t_sizes qt_scales t_scales qt_parts t_parts qt_texts t_texts qt_lengths t_lengths t_end t_index t_flags t_twice t_width t_precision t_conversion t_broken qt_piece t_piece t_put t_head qt_tens t_tens t_count t_exponent qt_work t_work) → va_S A s.heap H locs → lv_has ls 2 [(0, .ref qt), (1, .int x1)] → W p l e { frames := 4, cells := 0, slots := 0, locals := 160 } s m ([.ref qt] : List Value).toArray below meth c H locs 0 0 Q (F0 m 254 ls []) := by
    intro x1  hf H locs ls hP hD hS hl
    unfold k_Model_faultOf_254 at hf
    refine lv_aload_n hx hb d_Model_faultOf_254 rfl (lv_at hl 0 rfl) ?_
    refine lv_iconst (v := 1) hx hb d_Model_faultOf_255 (by decide) ?_
    obtain ⟨u_256, hu_256, hf⟩ := bd_ hf
    refine CALLWz (va_runV (As := [.int (1 : Int32)]) (rest := []) ⟨hx, hb, hml, hown, hg⟩ (c_Model_has l G K qt qt_draft t_draft t_drafted qt_result t_result t_length t_arguments qt_kinds t_kinds qt_values t_values qt_widths t_widths qt_below t_below qt_sizes t_sizes qt_scales t_scales qt_parts t_parts qt_texts t_texts qt_lengths t_lengths t_end t_index t_flags t_twice t_width t_precision t_conversion t_broken qt_piece t_piece t_put t_head qt_tens t_tens t_count t_exponent qt_work t_work (1 : Int32) _ u_256  hu_256) (cwV 1 hg (gV m_449 m_450 m_451 m_389 m_452) rfl rfl rfl (by decide +kernel) ⟨Nat.le_of_ble_eq_true rfl, Nat.le_of_ble_eq_true rfl⟩) ⟨PC_b, va_recv hK hP (ci := 7) (q0 := 0) rfl rfl, PC_p hE hS hAb hP hD⟩ rfl rfl hl.1 rfl (lv_room (Nat.le_of_ble_eq_true rfl)) d_Model_faultOf_256 ⟨Nat.zero_le _, Nat.zero_le _⟩) hP hD hS hA (fun bu_256 H locs hP hD hS => ?_)
    have hP : va_P (gD G) vwCl (w_Model_clear G qt qt_draft t_draft t_drafted qt_result t_result t_length t_arguments qt_kinds t_kinds qt_values t_values qt_widths t_widths qt_below t_below qt_sizes t_sizes qt_scales t_scales qt_parts t_parts qt_texts t_texts qt_lengths t_lengths t_end t_index t_flags t_twice t_width t_precision t_conversion t_broken qt_piece t_piece t_put t_head qt_tens t_tens t_count t_exponent qt_work t_work) H := hP
    have hD : va_D A (w_Model_clear G qt qt_draft t_draft t_drafted qt_result t_result t_length t_arguments qt_kinds t_kinds qt_values t_values qt_widths t_widths qt_below t_below qt_sizes t_sizes qt_scales t_scales qt_parts t_parts qt_texts t_texts qt_lengths t_lengths t_end t_index t_flags t_twice t_width t_precision t_conversion t_broken qt_piece t_piece t_put t_head qt_tens t_tens t_count t_exponent qt_work t_work) := hD
    refine lv_if_eq (tgt := 274) hx hb d_Model_faultOf_259 (by decide) (fun c_259 => ?_) (fun c_259 => ?_)
    · have hf := ip_ c_259 hf
      exact W_274 x1  hf _ _ _ hP hD hS (lv_sub hl [0, 1] rfl)
    · have hf := in_ c_259 hf
      refine lv_aload_n hx hb d_Model_faultOf_262 rfl (lv_at hl 0 rfl) ?_
      refine lv_bipush (v := 16) hx hb d_Model_faultOf_263 (by decide) ?_
      obtain ⟨u_265, hu_265, hf⟩ := bd_ hf
      refine CALLWz (va_runV (As := [.int (16 : Int32)]) (rest := []) ⟨hx, hb, hml, hown, hg⟩ (c_Model_has l G K qt qt_draft t_draft t_drafted qt_result t_result t_length t_arguments qt_kinds t_kinds qt_values t_values qt_widths t_widths qt_below t_below qt_sizes t_sizes qt_scales t_scales qt_parts t_parts qt_texts t_texts qt_lengths t_lengths t_end t_index t_flags t_twice t_width t_precision t_conversion t_broken qt_piece t_piece t_put t_head qt_tens t_tens t_count t_exponent qt_work t_work (16 : Int32) _ u_265  hu_265) (cwV 1 hg (gV m_449 m_450 m_451 m_389 m_452) rfl rfl rfl (by decide +kernel) ⟨Nat.le_of_ble_eq_true rfl, Nat.le_of_ble_eq_true rfl⟩) ⟨PC_b, va_recv hK hP (ci := 7) (q0 := 0) rfl rfl, PC_p hE hS hAb hP hD⟩ rfl rfl hl.1 rfl (lv_room (Nat.le_of_ble_eq_true rfl)) d_Model_faultOf_265 ⟨Nat.zero_le _, Nat.zero_le _⟩) hP hD hS hA (fun bu_265 H locs hP hD hS => ?_)
      have hP : va_P (gD G) vwCl (w_Model_clear G qt qt_draft t_draft t_drafted qt_result t_result t_length t_arguments qt_kinds t_kinds qt_values t_values qt_widths t_widths qt_below t_below qt_sizes t_sizes qt_scales t_scales qt_parts t_parts qt_texts t_texts qt_lengths t_lengths t_end t_index t_flags t_twice t_width t_precision t_conversion t_broken qt_piece t_piece t_put t_head qt_tens t_tens t_count t_exponent qt_work t_work) H := hP
      have hD : va_D A (w_Model_clear G qt qt_draft t_draft t_drafted qt_result t_result t_length t_arguments qt_kinds t_kinds qt_values t_values qt_widths t_widths qt_below t_below qt_sizes t_sizes qt_scales t_scales qt_parts t_parts qt_texts t_texts qt_lengths t_lengths t_end t_index t_flags t_twice t_width t_precision t_conversion t_broken qt_piece t_piece t_put t_head qt_tens t_tens t_count t_exponent qt_work t_work) := hD
      refine lv_if_eq (tgt := 274) hx hb d_Model_faultOf_268 (by decide) (fun c_268 => ?_) (fun c_268 => ?_)
      · have hf := ip_ c_268 hf
        exact W_274 x1  hf _ _ _ hP hD hS (lv_sub hl [0, 1] rfl)
      · have hf := in_ c_268 hf
        refine lv_bipush (v := 7) hx hb d_Model_faultOf_271 (by decide) ?_
        obtain rfl := Option.some.inj hf
        rw [← hQ]
        exact W.iret (v := (7 : Int32)) hx hb hr (fun t9 ht hW => ⟨⟨(7 : Int32), (), rfl, rfl, ⟨by rw [ht]; exact hP, hD⟩⟩, hS.F ht⟩) hS.2.2 d_Model_faultOf_273
  have W_230 : ∀ (x1 : Int32) , k_Model_faultOf_230 K t_flags t_conversion x1 = some res → ∀ (H : Heap) (locs : List Loc) (ls : Array Slot), va_P (gD G) vwCl (w_Model_clear G qt qt_draft t_draft t_drafted qt_result t_result t_length t_arguments qt_kinds t_kinds qt_values t_values qt_widths t_widths qt_below t_below qt_sizes t_sizes qt_scales t_scales qt_parts t_parts qt_texts t_texts qt_lengths t_lengths t_end t_index t_flags t_twice t_width t_precision t_conversion t_broken qt_piece t_piece t_put t_head qt_tens t_tens t_count t_exponent qt_work t_work) H → va_D A (w_Model_clear G qt qt_draft t_draft t_drafted qt_result t_result t_length t_arguments qt_kinds t_kinds qt_values t_values qt_widths t_widths qt_below t_below qt_sizes t_sizes qt_scales t_scales qt_parts t_parts qt_texts t_texts qt_lengths t_lengths t_end t_index t_flags t_twice t_width t_precision t_conversion t_broken qt_piece t_piece t_put t_head qt_tens t_tens t_count t_exponent qt_work t_work) → va_S A s.heap H locs → lv_has ls 2 [(0, .ref qt), (1, .int x1)] → W p l e { frames := 4, cells := 0, slots := 0, locals := 160 } s m ([.ref qt] : List Value).toArray below meth c H locs 0 0 Q (F0 m 230 ls []) := by
    intro x1  hf H locs ls hP hD hS hl
    unfold k_Model_faultOf_230 at hf
    refine lv_aload_n hx hb d_Model_faultOf_230 rfl (lv_at hl 0 rfl) ?_
    obtain ⟨u_231, hu_231, hf⟩ := bd_ hf
    refine CALLWz (va_runV (As := []) (rest := []) ⟨hx, hb, hml, hown, hg⟩ (c_Model_isNumber l G K qt qt_draft t_draft t_drafted qt_result t_result t_length t_arguments qt_kinds t_kinds qt_values t_values qt_widths t_widths qt_below t_below qt_sizes t_sizes qt_scales t_scales qt_parts t_parts qt_texts t_texts qt_lengths t_lengths t_end t_index t_flags t_twice t_width t_precision t_conversion t_broken qt_piece t_piece t_put t_head qt_tens t_tens t_count t_exponent qt_work t_work _ u_231  hu_231) (cwV 0 hg (gV m_445 m_446 m_447 m_389 m_448) rfl rfl rfl (by decide +kernel) ⟨Nat.le_of_ble_eq_true rfl, Nat.le_of_ble_eq_true rfl⟩) ⟨PC_b, va_recv hK hP (ci := 7) (q0 := 0) rfl rfl, PC_p hE hS hAb hP hD⟩ rfl rfl hl.1 rfl (lv_room (Nat.le_of_ble_eq_true rfl)) d_Model_faultOf_231 ⟨Nat.zero_le _, Nat.zero_le _⟩) hP hD hS hA (fun bu_231 H locs hP hD hS => ?_)
    have hP : va_P (gD G) vwCl (w_Model_clear G qt qt_draft t_draft t_drafted qt_result t_result t_length t_arguments qt_kinds t_kinds qt_values t_values qt_widths t_widths qt_below t_below qt_sizes t_sizes qt_scales t_scales qt_parts t_parts qt_texts t_texts qt_lengths t_lengths t_end t_index t_flags t_twice t_width t_precision t_conversion t_broken qt_piece t_piece t_put t_head qt_tens t_tens t_count t_exponent qt_work t_work) H := hP
    have hD : va_D A (w_Model_clear G qt qt_draft t_draft t_drafted qt_result t_result t_length t_arguments qt_kinds t_kinds qt_values t_values qt_widths t_widths qt_below t_below qt_sizes t_sizes qt_scales t_scales qt_parts t_parts qt_texts t_texts qt_lengths t_lengths t_end t_index t_flags t_twice t_width t_precision t_conversion t_broken qt_piece t_piece t_put t_head qt_tens t_tens t_count t_exponent qt_work t_work) := hD
    refine lv_if_eq (tgt := 274) hx hb d_Model_faultOf_234 (by decide) (fun c_234 => ?_) (fun c_234 => ?_)
    · have hf := ip_ c_234 hf
      exact W_274 x1  hf _ _ _ hP hD hS (lv_sub hl [0, 1] rfl)
    · have hf := in_ c_234 hf
      refine lv_aload_n hx hb d_Model_faultOf_237 rfl (lv_at hl 0 rfl) ?_
      refine lv_iconst (v := 4) hx hb d_Model_faultOf_238 (by decide) ?_
      obtain ⟨u_239, hu_239, hf⟩ := bd_ hf
      refine CALLWz (va_runV (As := [.int (4 : Int32)]) (rest := []) ⟨hx, hb, hml, hown, hg⟩ (c_Model_has l G K qt qt_draft t_draft t_drafted qt_result t_result t_length t_arguments qt_kinds t_kinds qt_values t_values qt_widths t_widths qt_below t_below qt_sizes t_sizes qt_scales t_scales qt_parts t_parts qt_texts t_texts qt_lengths t_lengths t_end t_index t_flags t_twice t_width t_precision t_conversion t_broken qt_piece t_piece t_put t_head qt_tens t_tens t_count t_exponent qt_work t_work (4 : Int32) _ u_239  hu_239) (cwV 1 hg (gV m_449 m_450 m_451 m_389 m_452) rfl rfl rfl (by decide +kernel) ⟨Nat.le_of_ble_eq_true rfl, Nat.le_of_ble_eq_true rfl⟩) ⟨PC_b, va_recv hK hP (ci := 7) (q0 := 0) rfl rfl, PC_p hE hS hAb hP hD⟩ rfl rfl hl.1 rfl (lv_room (Nat.le_of_ble_eq_true rfl)) d_Model_faultOf_239 ⟨Nat.zero_le _, Nat.zero_le _⟩) hP hD hS hA (fun bu_239 H locs hP hD hS => ?_)
      have hP : va_P (gD G) vwCl (w_Model_clear G qt qt_draft t_draft t_drafted qt_result t_result t_length t_arguments qt_kinds t_kinds qt_values t_values qt_widths t_widths qt_below t_below qt_sizes t_sizes qt_scales t_scales qt_parts t_parts qt_texts t_texts qt_lengths t_lengths t_end t_index t_flags t_twice t_width t_precision t_conversion t_broken qt_piece t_piece t_put t_head qt_tens t_tens t_count t_exponent qt_work t_work) H := hP
      have hD : va_D A (w_Model_clear G qt qt_draft t_draft t_drafted qt_result t_result t_length t_arguments qt_kinds t_kinds qt_values t_values qt_widths t_widths qt_below t_below qt_sizes t_sizes qt_scales t_scales qt_parts t_parts qt_texts t_texts qt_lengths t_lengths t_end t_index t_flags t_twice t_width t_precision t_conversion t_broken qt_piece t_piece t_put t_head qt_tens t_tens t_count t_exponent qt_work t_work) := hD
      refine lv_if_eq (tgt := 254) hx hb d_Model_faultOf_242 (by decide) (fun c_242 => ?_) (fun c_242 => ?_)
      · have hf := ip_ c_242 hf
        exact W_254 x1  hf _ _ _ hP hD hS (lv_sub hl [0, 1] rfl)
      · have hf := in_ c_242 hf
        refine lv_aload_n hx hb d_Model_faultOf_245 rfl (lv_at hl 0 rfl) ?_
        refine lv_bipush (v := 8) hx hb d_Model_faultOf_246 (by decide) ?_
        obtain ⟨u_248, hu_248, hf⟩ := bd_ hf
        refine CALLWz (va_runV (As := [.int (8 : Int32)]) (rest := []) ⟨hx, hb, hml, hown, hg⟩ (c_Model_has l G K qt qt_draft t_draft t_drafted qt_result t_result t_length t_arguments qt_kinds t_kinds qt_values t_values qt_widths t_widths qt_below t_below qt_sizes t_sizes qt_scales t_scales qt_parts t_parts qt_texts t_texts qt_lengths t_lengths t_end t_index t_flags t_twice t_width t_precision t_conversion t_broken qt_piece t_piece t_put t_head qt_tens t_tens t_count t_exponent qt_work t_work (8 : Int32) _ u_248  hu_248) (cwV 1 hg (gV m_449 m_450 m_451 m_389 m_452) rfl rfl rfl (by decide +kernel) ⟨Nat.le_of_ble_eq_true rfl, Nat.le_of_ble_eq_true rfl⟩) ⟨PC_b, va_recv hK hP (ci := 7) (q0 := 0) rfl rfl, PC_p hE hS hAb hP hD⟩ rfl rfl hl.1 rfl (lv_room (Nat.le_of_ble_eq_true rfl)) d_Model_faultOf_248 ⟨Nat.zero_le _, Nat.zero_le _⟩) hP hD hS hA (fun bu_248 H locs hP hD hS => ?_)
        have hP : va_P (gD G) vwCl (w_Model_clear G qt qt_draft t_draft t_drafted qt_result t_result t_length t_arguments qt_kinds t_kinds qt_values t_values qt_widths t_widths qt_below t_below qt_sizes t_sizes qt_scales t_scales qt_parts t_parts qt_texts t_texts qt_lengths t_lengths t_end t_index t_flags t_twice t_width t_precision t_conversion t_broken qt_piece t_piece t_put t_head qt_tens t_tens t_count t_exponent qt_work t_work) H := hP
        have hD : va_D A (w_Model_clear G qt qt_draft t_draft t_drafted qt_result t_result t_length t_arguments qt_kinds t_kinds qt_values t_values qt_widths t_widths qt_below t_below qt_sizes t_sizes qt_scales t_scales qt_parts t_parts qt_texts t_texts qt_lengths t_lengths t_end t_index t_flags t_twice t_width t_precision t_conversion t_broken qt_piece t_piece t_put t_head qt_tens t_tens t_count t_exponent qt_work t_work) := hD
        refine lv_if_ne (tgt := 271) hx hb d_Model_faultOf_251 (by decide) (fun c_251 => ?_) (fun c_251 => ?_)
        · have hf := in_ c_251 hf
          refine lv_bipush (v := 7) hx hb d_Model_faultOf_271 (by decide) ?_
          obtain rfl := Option.some.inj hf
          rw [← hQ]
          exact W.iret (v := (7 : Int32)) hx hb hr (fun t9 ht hW => ⟨⟨(7 : Int32), (), rfl, rfl, ⟨by rw [ht]; exact hP, hD⟩⟩, hS.F ht⟩) hS.2.2 d_Model_faultOf_273
        · have hf := ip_ c_251 hf
          exact W_254 x1  hf _ _ _ hP hD hS (lv_sub hl [0, 1] rfl)
  have W_196 : ∀ (x1 : Int32) , k_Model_faultOf_196 K t_flags t_width t_conversion x1 = some res → ∀ (H : Heap) (locs : List Loc) (ls : Array Slot), va_P (gD G) vwCl (w_Model_clear G qt qt_draft t_draft t_drafted qt_result t_result t_length t_arguments qt_kinds t_kinds qt_values t_values qt_widths t_widths qt_below t_below qt_sizes t_sizes qt_scales t_scales qt_parts t_parts qt_texts t_texts qt_lengths t_lengths t_end t_index t_flags t_twice t_width t_precision t_conversion t_broken qt_piece t_piece t_put t_head qt_tens t_tens t_count t_exponent qt_work t_work) H → va_D A (w_Model_clear G qt qt_draft t_draft t_drafted qt_result t_result t_length t_arguments qt_kinds t_kinds qt_values t_values qt_widths t_widths qt_below t_below qt_sizes t_sizes qt_scales t_scales qt_parts t_parts qt_texts t_texts qt_lengths t_lengths t_end t_index t_flags t_twice t_width t_precision t_conversion t_broken qt_piece t_piece t_put t_head qt_tens t_tens t_count t_exponent qt_work t_work) → va_S A s.heap H locs → lv_has ls 2 [(0, .ref qt), (1, .int x1)] → W p l e { frames := 4, cells := 0, slots := 0, locals := 160 } s m ([.ref qt] : List Value).toArray below meth c H locs 0 0 Q (F0 m 196 ls []) := by
    intro x1  hf H locs ls hP hD hS hl
    unfold k_Model_faultOf_196 at hf
    refine lv_aload_n hx hb d_Model_faultOf_196 rfl (lv_at hl 0 rfl) ?_
    refine va_get (D := gD G) (ci := 7) (v := .int t_width) (C := R_Model) (T := F_Model) (N := 29) hx hb hg in_Model hown hK hP 0 rfl rfl 18 (by decide) (hg _ m_416) (fun _ h9 => h9) rfl d_Model_faultOf_197 ?_
    refine lv_if_ge (tgt := 230) hx hb d_Model_faultOf_200 (by decide) (fun c_200 => ?_) (fun c_200 => ?_)
    · have hf := ip_ c_200 hf
      exact W_230 x1  hf _ _ _ hP hD hS (lv_sub hl [0, 1] rfl)
    · have hf := in_ c_200 hf
      refine lv_aload_n hx hb d_Model_faultOf_203 rfl (lv_at hl 0 rfl) ?_
      refine lv_iconst (v := 1) hx hb d_Model_faultOf_204 (by decide) ?_
      obtain ⟨u_205, hu_205, hf⟩ := bd_ hf
      refine CALLWz (va_runV (As := [.int (1 : Int32)]) (rest := []) ⟨hx, hb, hml, hown, hg⟩ (c_Model_has l G K qt qt_draft t_draft t_drafted qt_result t_result t_length t_arguments qt_kinds t_kinds qt_values t_values qt_widths t_widths qt_below t_below qt_sizes t_sizes qt_scales t_scales qt_parts t_parts qt_texts t_texts qt_lengths t_lengths t_end t_index t_flags t_twice t_width t_precision t_conversion t_broken qt_piece t_piece t_put t_head qt_tens t_tens t_count t_exponent qt_work t_work (1 : Int32) _ u_205  hu_205) (cwV 1 hg (gV m_449 m_450 m_451 m_389 m_452) rfl rfl rfl (by decide +kernel) ⟨Nat.le_of_ble_eq_true rfl, Nat.le_of_ble_eq_true rfl⟩) ⟨PC_b, va_recv hK hP (ci := 7) (q0 := 0) rfl rfl, PC_p hE hS hAb hP hD⟩ rfl rfl hl.1 rfl (lv_room (Nat.le_of_ble_eq_true rfl)) d_Model_faultOf_205 ⟨Nat.zero_le _, Nat.zero_le _⟩) hP hD hS hA (fun bu_205 H locs hP hD hS => ?_)
      have hP : va_P (gD G) vwCl (w_Model_clear G qt qt_draft t_draft t_drafted qt_result t_result t_length t_arguments qt_kinds t_kinds qt_values t_values qt_widths t_widths qt_below t_below qt_sizes t_sizes qt_scales t_scales qt_parts t_parts qt_texts t_texts qt_lengths t_lengths t_end t_index t_flags t_twice t_width t_precision t_conversion t_broken qt_piece t_piece t_put t_head qt_tens t_tens t_count t_exponent qt_work t_work) H := hP
      have hD : va_D A (w_Model_clear G qt qt_draft t_draft t_drafted qt_result t_result t_length t_arguments qt_kinds t_kinds qt_values t_values qt_widths t_widths qt_below t_below qt_sizes t_sizes qt_scales t_scales qt_parts t_parts qt_texts t_texts qt_lengths t_lengths t_end t_index t_flags t_twice t_width t_precision t_conversion t_broken qt_piece t_piece t_put t_head qt_tens t_tens t_count t_exponent qt_work t_work) := hD
      refine lv_if_ne (tgt := 227) hx hb d_Model_faultOf_208 (by decide) (fun c_208 => ?_) (fun c_208 => ?_)
      · have hf := in_ c_208 hf
        refine lv_bipush (v := 8) hx hb d_Model_faultOf_227 (by decide) ?_
        obtain rfl := Option.some.inj hf
        rw [← hQ]
        exact W.iret (v := (8 : Int32)) hx hb hr (fun t9 ht hW => ⟨⟨(8 : Int32), (), rfl, rfl, ⟨by rw [ht]; exact hP, hD⟩⟩, hS.F ht⟩) hS.2.2 d_Model_faultOf_229
      · have hf := ip_ c_208 hf
        refine lv_aload_n hx hb d_Model_faultOf_211 rfl (lv_at hl 0 rfl) ?_
        obtain ⟨u_212, hu_212, hf⟩ := bd_ hf
        refine CALLWz (va_runV (As := []) (rest := []) ⟨hx, hb, hml, hown, hg⟩ (c_Model_isNumber l G K qt qt_draft t_draft t_drafted qt_result t_result t_length t_arguments qt_kinds t_kinds qt_values t_values qt_widths t_widths qt_below t_below qt_sizes t_sizes qt_scales t_scales qt_parts t_parts qt_texts t_texts qt_lengths t_lengths t_end t_index t_flags t_twice t_width t_precision t_conversion t_broken qt_piece t_piece t_put t_head qt_tens t_tens t_count t_exponent qt_work t_work _ u_212  hu_212) (cwV 0 hg (gV m_445 m_446 m_447 m_389 m_448) rfl rfl rfl (by decide +kernel) ⟨Nat.le_of_ble_eq_true rfl, Nat.le_of_ble_eq_true rfl⟩) ⟨PC_b, va_recv hK hP (ci := 7) (q0 := 0) rfl rfl, PC_p hE hS hAb hP hD⟩ rfl rfl hl.1 rfl (lv_room (Nat.le_of_ble_eq_true rfl)) d_Model_faultOf_212 ⟨Nat.zero_le _, Nat.zero_le _⟩) hP hD hS hA (fun bu_212 H locs hP hD hS => ?_)
        have hP : va_P (gD G) vwCl (w_Model_clear G qt qt_draft t_draft t_drafted qt_result t_result t_length t_arguments qt_kinds t_kinds qt_values t_values qt_widths t_widths qt_below t_below qt_sizes t_sizes qt_scales t_scales qt_parts t_parts qt_texts t_texts qt_lengths t_lengths t_end t_index t_flags t_twice t_width t_precision t_conversion t_broken qt_piece t_piece t_put t_head qt_tens t_tens t_count t_exponent qt_work t_work) H := hP
        have hD : va_D A (w_Model_clear G qt qt_draft t_draft t_drafted qt_result t_result t_length t_arguments qt_kinds t_kinds qt_values t_values qt_widths t_widths qt_below t_below qt_sizes t_sizes qt_scales t_scales qt_parts t_parts qt_texts t_texts qt_lengths t_lengths t_end t_index t_flags t_twice t_width t_precision t_conversion t_broken qt_piece t_piece t_put t_head qt_tens t_tens t_count t_exponent qt_work t_work) := hD
        refine lv_if_eq (tgt := 230) hx hb d_Model_faultOf_215 (by decide) (fun c_215 => ?_) (fun c_215 => ?_)
        · have hf := ip_ c_215 hf
          exact W_230 x1  hf _ _ _ hP hD hS (lv_sub hl [0, 1] rfl)
        · have hf := in_ c_215 hf
          refine lv_aload_n hx hb d_Model_faultOf_218 rfl (lv_at hl 0 rfl) ?_
          refine lv_bipush (v := 16) hx hb d_Model_faultOf_219 (by decide) ?_
          obtain ⟨u_221, hu_221, hf⟩ := bd_ hf
          refine CALLWz (va_runV (As := [.int (16 : Int32)]) (rest := []) ⟨hx, hb, hml, hown, hg⟩ (c_Model_has l G K qt qt_draft t_draft t_drafted qt_result t_result t_length t_arguments qt_kinds t_kinds qt_values t_values qt_widths t_widths qt_below t_below qt_sizes t_sizes qt_scales t_scales qt_parts t_parts qt_texts t_texts qt_lengths t_lengths t_end t_index t_flags t_twice t_width t_precision t_conversion t_broken qt_piece t_piece t_put t_head qt_tens t_tens t_count t_exponent qt_work t_work (16 : Int32) _ u_221  hu_221) (cwV 1 hg (gV m_449 m_450 m_451 m_389 m_452) rfl rfl rfl (by decide +kernel) ⟨Nat.le_of_ble_eq_true rfl, Nat.le_of_ble_eq_true rfl⟩) ⟨PC_b, va_recv hK hP (ci := 7) (q0 := 0) rfl rfl, PC_p hE hS hAb hP hD⟩ rfl rfl hl.1 rfl (lv_room (Nat.le_of_ble_eq_true rfl)) d_Model_faultOf_221 ⟨Nat.zero_le _, Nat.zero_le _⟩) hP hD hS hA (fun bu_221 H locs hP hD hS => ?_)
          have hP : va_P (gD G) vwCl (w_Model_clear G qt qt_draft t_draft t_drafted qt_result t_result t_length t_arguments qt_kinds t_kinds qt_values t_values qt_widths t_widths qt_below t_below qt_sizes t_sizes qt_scales t_scales qt_parts t_parts qt_texts t_texts qt_lengths t_lengths t_end t_index t_flags t_twice t_width t_precision t_conversion t_broken qt_piece t_piece t_put t_head qt_tens t_tens t_count t_exponent qt_work t_work) H := hP
          have hD : va_D A (w_Model_clear G qt qt_draft t_draft t_drafted qt_result t_result t_length t_arguments qt_kinds t_kinds qt_values t_values qt_widths t_widths qt_below t_below qt_sizes t_sizes qt_scales t_scales qt_parts t_parts qt_texts t_texts qt_lengths t_lengths t_end t_index t_flags t_twice t_width t_precision t_conversion t_broken qt_piece t_piece t_put t_head qt_tens t_tens t_count t_exponent qt_work t_work) := hD
          refine lv_if_eq (tgt := 230) hx hb d_Model_faultOf_224 (by decide) (fun c_224 => ?_) (fun c_224 => ?_)
          · have hf := ip_ c_224 hf
            exact W_230 x1  hf _ _ _ hP hD hS (lv_sub hl [0, 1] rfl)
          · have hf := in_ c_224 hf
            refine lv_bipush (v := 8) hx hb d_Model_faultOf_227 (by decide) ?_
            obtain rfl := Option.some.inj hf
            rw [← hQ]
            exact W.iret (v := (8 : Int32)) hx hb hr (fun t9 ht hW => ⟨⟨(8 : Int32), (), rfl, rfl, ⟨by rw [ht]; exact hP, hD⟩⟩, hS.F ht⟩) hS.2.2 d_Model_faultOf_229
  have W_177 : ∀ (x1 : Int32) , k_Model_faultOf_177 K t_flags t_width t_conversion x1 = some res → ∀ (H : Heap) (locs : List Loc) (ls : Array Slot), va_P (gD G) vwCl (w_Model_clear G qt qt_draft t_draft t_drafted qt_result t_result t_length t_arguments qt_kinds t_kinds qt_values t_values qt_widths t_widths qt_below t_below qt_sizes t_sizes qt_scales t_scales qt_parts t_parts qt_texts t_texts qt_lengths t_lengths t_end t_index t_flags t_twice t_width t_precision t_conversion t_broken qt_piece t_piece t_put t_head qt_tens t_tens t_count t_exponent qt_work t_work) H → va_D A (w_Model_clear G qt qt_draft t_draft t_drafted qt_result t_result t_length t_arguments qt_kinds t_kinds qt_values t_values qt_widths t_widths qt_below t_below qt_sizes t_sizes qt_scales t_scales qt_parts t_parts qt_texts t_texts qt_lengths t_lengths t_end t_index t_flags t_twice t_width t_precision t_conversion t_broken qt_piece t_piece t_put t_head qt_tens t_tens t_count t_exponent qt_work t_work) → va_S A s.heap H locs → lv_has ls 2 [(0, .ref qt), (1, .int x1)] → W p l e { frames := 4, cells := 0, slots := 0, locals := 160 } s m ([.ref qt] : List Value).toArray below meth c H locs 0 0 Q (F0 m 177 ls []) := by
    intro x1  hf H locs ls hP hD hS hl
    unfold k_Model_faultOf_177 at hf
    refine lv_iload_n hx hb d_Model_faultOf_177 rfl (lv_at hl 1 rfl) ?_
    refine lv_bipush (v := 37) hx hb d_Model_faultOf_178 (by decide) ?_
    refine lv_icmp_ne (tgt := 196) hx hb d_Model_faultOf_180 (by decide) (fun c_180 => ?_) (fun c_180 => ?_)
    · have hf := in_ c_180 hf
      exact W_196 x1  hf _ _ _ hP hD hS (lv_sub hl [0, 1] rfl)
    · have hf := ip_ c_180 hf
      refine lv_aload_n hx hb d_Model_faultOf_183 rfl (lv_at hl 0 rfl) ?_
      refine va_get (D := gD G) (ci := 7) (v := .int t_flags) (C := R_Model) (T := F_Model) (N := 29) hx hb hg in_Model hown hK hP 0 rfl rfl 16 (by decide) (hg _ m_414) (fun _ h9 => h9) rfl d_Model_faultOf_184 ?_
      refine lv_bipush (v := -2) hx hb d_Model_faultOf_187 (by decide) ?_
      refine lv_iand hx hb d_Model_faultOf_189 ?_
      refine lv_if_eq (tgt := 196) hx hb d_Model_faultOf_190 (by decide) (fun c_190 => ?_) (fun c_190 => ?_)
      · have hf := ip_ c_190 hf
        exact W_196 x1  hf _ _ _ hP hD hS (lv_sub hl [0, 1] rfl)
      · have hf := in_ c_190 hf
        refine lv_bipush (v := 7) hx hb d_Model_faultOf_193 (by decide) ?_
        obtain rfl := Option.some.inj hf
        rw [← hQ]
        exact W.iret (v := (7 : Int32)) hx hb hr (fun t9 ht hW => ⟨⟨(7 : Int32), (), rfl, rfl, ⟨by rw [ht]; exact hP, hD⟩⟩, hS.F ht⟩) hS.2.2 d_Model_faultOf_195
  have W_94 : ∀ (x1 : Int32) , k_Model_faultOf_94 K t_flags t_width t_precision t_conversion x1 = some res → ∀ (H : Heap) (locs : List Loc) (ls : Array Slot), va_P (gD G) vwCl (w_Model_clear G qt qt_draft t_draft t_drafted qt_result t_result t_length t_arguments qt_kinds t_kinds qt_values t_values qt_widths t_widths qt_below t_below qt_sizes t_sizes qt_scales t_scales qt_parts t_parts qt_texts t_texts qt_lengths t_lengths t_end t_index t_flags t_twice t_width t_precision t_conversion t_broken qt_piece t_piece t_put t_head qt_tens t_tens t_count t_exponent qt_work t_work) H → va_D A (w_Model_clear G qt qt_draft t_draft t_drafted qt_result t_result t_length t_arguments qt_kinds t_kinds qt_values t_values qt_widths t_widths qt_below t_below qt_sizes t_sizes qt_scales t_scales qt_parts t_parts qt_texts t_texts qt_lengths t_lengths t_end t_index t_flags t_twice t_width t_precision t_conversion t_broken qt_piece t_piece t_put t_head qt_tens t_tens t_count t_exponent qt_work t_work) → va_S A s.heap H locs → lv_has ls 2 [(0, .ref qt), (1, .int x1)] → W p l e { frames := 4, cells := 0, slots := 0, locals := 160 } s m ([.ref qt] : List Value).toArray below meth c H locs 0 0 Q (F0 m 94 ls []) := by
    intro x1  hf H locs ls hP hD hS hl
    unfold k_Model_faultOf_94 at hf
    refine lv_iload_n hx hb d_Model_faultOf_94 rfl (lv_at hl 1 rfl) ?_
    refine lv_bipush (v := 110) hx hb d_Model_faultOf_95 (by decide) ?_
    refine lv_icmp_ne (tgt := 137) hx hb d_Model_faultOf_97 (by decide) (fun c_97 => ?_) (fun c_97 => ?_)
    · have hf := in_ c_97 hf
      refine lv_aload_n hx hb d_Model_faultOf_137 rfl (lv_at hl 0 rfl) ?_
      refine va_get (D := gD G) (ci := 7) (v := .int t_precision) (C := R_Model) (T := F_Model) (N := 29) hx hb hg in_Model hown hK hP 0 rfl rfl 19 (by decide) (hg _ m_417) (fun _ h9 => h9) rfl d_Model_faultOf_138 ?_
      refine lv_if_lt (tgt := 177) hx hb d_Model_faultOf_141 (by decide) (fun c_141 => ?_) (fun c_141 => ?_)
      · have hf := ip_ c_141 hf
        exact W_177 x1  hf _ _ _ hP hD hS (lv_sub hl [0, 1] rfl)
      · have hf := in_ c_141 hf
        refine lv_iload_n hx hb d_Model_faultOf_144 rfl (lv_at hl 1 rfl) ?_
        refine lv_bipush (v := 37) hx hb d_Model_faultOf_145 (by decide) ?_
        refine lv_icmp_eq (tgt := 174) hx hb d_Model_faultOf_147 (by decide) (fun c_147 => ?_) (fun c_147 => ?_)
        · have hf := ip_ c_147 hf
          refine lv_bipush (v := 6) hx hb d_Model_faultOf_174 (by decide) ?_
          obtain rfl := Option.some.inj hf
          rw [← hQ]
          exact W.iret (v := (6 : Int32)) hx hb hr (fun t9 ht hW => ⟨⟨(6 : Int32), (), rfl, rfl, ⟨by rw [ht]; exact hP, hD⟩⟩, hS.F ht⟩) hS.2.2 d_Model_faultOf_176
        · have hf := in_ c_147 hf
          refine lv_iload_n hx hb d_Model_faultOf_150 rfl (lv_at hl 1 rfl) ?_
          refine lv_bipush (v := 99) hx hb d_Model_faultOf_151 (by decide) ?_
          refine lv_icmp_eq (tgt := 174) hx hb d_Model_faultOf_153 (by decide) (fun c_153 => ?_) (fun c_153 => ?_)
          · have hf := ip_ c_153 hf
            refine lv_bipush (v := 6) hx hb d_Model_faultOf_174 (by decide) ?_
            obtain rfl := Option.some.inj hf
            rw [← hQ]
            exact W.iret (v := (6 : Int32)) hx hb hr (fun t9 ht hW => ⟨⟨(6 : Int32), (), rfl, rfl, ⟨by rw [ht]; exact hP, hD⟩⟩, hS.F ht⟩) hS.2.2 d_Model_faultOf_176
          · have hf := in_ c_153 hf
            refine lv_iload_n hx hb d_Model_faultOf_156 rfl (lv_at hl 1 rfl) ?_
            refine lv_bipush (v := 100) hx hb d_Model_faultOf_157 (by decide) ?_
            refine lv_icmp_eq (tgt := 174) hx hb d_Model_faultOf_159 (by decide) (fun c_159 => ?_) (fun c_159 => ?_)
            · have hf := ip_ c_159 hf
              refine lv_bipush (v := 6) hx hb d_Model_faultOf_174 (by decide) ?_
              obtain rfl := Option.some.inj hf
              rw [← hQ]
              exact W.iret (v := (6 : Int32)) hx hb hr (fun t9 ht hW => ⟨⟨(6 : Int32), (), rfl, rfl, ⟨by rw [ht]; exact hP, hD⟩⟩, hS.F ht⟩) hS.2.2 d_Model_faultOf_176
            · have hf := in_ c_159 hf
              refine lv_iload_n hx hb d_Model_faultOf_162 rfl (lv_at hl 1 rfl) ?_
              refine lv_bipush (v := 111) hx hb d_Model_faultOf_163 (by decide) ?_
              refine lv_icmp_eq (tgt := 174) hx hb d_Model_faultOf_165 (by decide) (fun c_165 => ?_) (fun c_165 => ?_)
              · have hf := ip_ c_165 hf
                refine lv_bipush (v := 6) hx hb d_Model_faultOf_174 (by decide) ?_
                obtain rfl := Option.some.inj hf
                rw [← hQ]
                exact W.iret (v := (6 : Int32)) hx hb hr (fun t9 ht hW => ⟨⟨(6 : Int32), (), rfl, rfl, ⟨by rw [ht]; exact hP, hD⟩⟩, hS.F ht⟩) hS.2.2 d_Model_faultOf_176
              · have hf := in_ c_165 hf
                refine lv_iload_n hx hb d_Model_faultOf_168 rfl (lv_at hl 1 rfl) ?_
                refine lv_bipush (v := 120) hx hb d_Model_faultOf_169 (by decide) ?_
                refine lv_icmp_ne (tgt := 177) hx hb d_Model_faultOf_171 (by decide) (fun c_171 => ?_) (fun c_171 => ?_)
                · have hf := in_ c_171 hf
                  exact W_177 x1  hf _ _ _ hP hD hS (lv_sub hl [0, 1] rfl)
                · have hf := ip_ c_171 hf
                  refine lv_bipush (v := 6) hx hb d_Model_faultOf_174 (by decide) ?_
                  obtain rfl := Option.some.inj hf
                  rw [← hQ]
                  exact W.iret (v := (6 : Int32)) hx hb hr (fun t9 ht hW => ⟨⟨(6 : Int32), (), rfl, rfl, ⟨by rw [ht]; exact hP, hD⟩⟩, hS.F ht⟩) hS.2.2 d_Model_faultOf_176
    · have hf := ip_ c_97 hf
      refine lv_aload_n hx hb d_Model_faultOf_100 rfl (lv_at hl 0 rfl) ?_
      refine va_get (D := gD G) (ci := 7) (v := .int t_width) (C := R_Model) (T := F_Model) (N := 29) hx hb hg in_Model hown hK hP 0 rfl rfl 18 (by decide) (hg _ m_416) (fun _ h9 => h9) rfl d_Model_faultOf_101 ?_
      refine lv_if_lt (tgt := 111) hx hb d_Model_faultOf_104 (by decide) (fun c_104 => ?_) (fun c_104 => ?_)
      · have hf := ip_ c_104 hf
        refine lv_aload_n hx hb d_Model_faultOf_111 rfl (lv_at hl 0 rfl) ?_
        refine va_get (D := gD G) (ci := 7) (v := .int t_precision) (C := R_Model) (T := F_Model) (N := 29) hx hb hg in_Model hown hK hP 0 rfl rfl 19 (by decide) (hg _ m_417) (fun _ h9 => h9) rfl d_Model_faultOf_112 ?_
        refine lv_if_lt (tgt := 123) hx hb d_Model_faultOf_115 (by decide) (fun c_115 => ?_) (fun c_115 => ?_)
        · have hf := ip_ c_115 hf
          refine lv_aload_n hx hb d_Model_faultOf_123 rfl (lv_at hl 0 rfl) ?_
          refine va_get (D := gD G) (ci := 7) (v := .int t_flags) (C := R_Model) (T := F_Model) (N := 29) hx hb hg in_Model hown hK hP 0 rfl rfl 16 (by decide) (hg _ m_414) (fun _ h9 => h9) rfl d_Model_faultOf_124 ?_
          refine lv_if_eq (tgt := 135) hx hb d_Model_faultOf_127 (by decide) (fun c_127 => ?_) (fun c_127 => ?_)
          · have hf := ip_ c_127 hf
            refine lv_iconst (v := 0) hx hb d_Model_faultOf_135 (by decide) ?_
            obtain rfl := Option.some.inj hf
            rw [← hQ]
            exact W.iret (v := (0 : Int32)) hx hb hr (fun t9 ht hW => ⟨⟨(0 : Int32), (), rfl, rfl, ⟨by rw [ht]; exact hP, hD⟩⟩, hS.F ht⟩) hS.2.2 d_Model_faultOf_136
          · have hf := in_ c_127 hf
            refine lv_bipush (v := 7) hx hb d_Model_faultOf_130 (by decide) ?_
            refine lv_goto (tgt := 136) hx hb d_Model_faultOf_132 (by decide) ?_
            obtain rfl := Option.some.inj hf
            rw [← hQ]
            exact W.iret (v := (7 : Int32)) hx hb hr (fun t9 ht hW => ⟨⟨(7 : Int32), (), rfl, rfl, ⟨by rw [ht]; exact hP, hD⟩⟩, hS.F ht⟩) hS.2.2 d_Model_faultOf_136
        · have hf := in_ c_115 hf
          refine lv_bipush (v := 6) hx hb d_Model_faultOf_118 (by decide) ?_
          refine lv_goto (tgt := 136) hx hb d_Model_faultOf_120 (by decide) ?_
          obtain rfl := Option.some.inj hf
          rw [← hQ]
          exact W.iret (v := (6 : Int32)) hx hb hr (fun t9 ht hW => ⟨⟨(6 : Int32), (), rfl, rfl, ⟨by rw [ht]; exact hP, hD⟩⟩, hS.F ht⟩) hS.2.2 d_Model_faultOf_136
      · have hf := in_ c_104 hf
        refine lv_iconst (v := 5) hx hb d_Model_faultOf_107 (by decide) ?_
        refine lv_goto (tgt := 136) hx hb d_Model_faultOf_108 (by decide) ?_
        obtain rfl := Option.some.inj hf
        rw [← hQ]
        exact W.iret (v := (5 : Int32)) hx hb hr (fun t9 ht hW => ⟨⟨(5 : Int32), (), rfl, rfl, ⟨by rw [ht]; exact hP, hD⟩⟩, hS.F ht⟩) hS.2.2 d_Model_faultOf_136
  unfold f_Model_faultOf at hf
  refine lv_aload_n hx hb d_Model_faultOf_0 rfl (lv_at hl 0 rfl) ?_
  obtain ⟨u_1, hu_1, hf⟩ := bd_ hf
  refine CALLWi (va_runV (As := []) (rest := []) ⟨hx, hb, hml, hown, hg⟩ (c_Model_small l G K qt qt_draft t_draft t_drafted qt_result t_result t_length t_arguments qt_kinds t_kinds qt_values t_values qt_widths t_widths qt_below t_below qt_sizes t_sizes qt_scales t_scales qt_parts t_parts qt_texts t_texts qt_lengths t_lengths t_end t_index t_flags t_twice t_width t_precision t_conversion t_broken qt_piece t_piece t_put t_head qt_tens t_tens t_count t_exponent qt_work t_work _ u_1  hu_1) (cwV 0 hg (gV m_440 m_441 m_442 m_389 m_443) rfl rfl rfl (by decide +kernel) ⟨Nat.le_of_ble_eq_true rfl, Nat.le_of_ble_eq_true rfl⟩) ⟨PC_b, va_recv hK hP (ci := 7) (q0 := 0) rfl rfl, PC_p hE hS hAb hP hD⟩ rfl rfl hl.1 rfl (lv_room (Nat.le_of_ble_eq_true rfl)) d_Model_faultOf_1 ⟨Nat.zero_le _, Nat.zero_le _⟩) hP hD hS hA (fun H locs hP hD hS => ?_)
  have hP : va_P (gD G) vwCl (w_Model_clear G qt qt_draft t_draft t_drafted qt_result t_result t_length t_arguments qt_kinds t_kinds qt_values t_values qt_widths t_widths qt_below t_below qt_sizes t_sizes qt_scales t_scales qt_parts t_parts qt_texts t_texts qt_lengths t_lengths t_end t_index t_flags t_twice t_width t_precision t_conversion t_broken qt_piece t_piece t_put t_head qt_tens t_tens t_count t_exponent qt_work t_work) H := hP
  have hD : va_D A (w_Model_clear G qt qt_draft t_draft t_drafted qt_result t_result t_length t_arguments qt_kinds t_kinds qt_values t_values qt_widths t_widths qt_below t_below qt_sizes t_sizes qt_scales t_scales qt_parts t_parts qt_texts t_texts qt_lengths t_lengths t_end t_index t_flags t_twice t_width t_precision t_conversion t_broken qt_piece t_piece t_put t_head qt_tens t_tens t_count t_exponent qt_work t_work) := hD
  refine lv_istore_n (lv' := [(1, .int u_1), (0, .ref qt)]) hx hb d_Model_faultOf_4 rfl hl (by decide) rfl (fun ls hl => ?_)
  refine lv_aload_n hx hb d_Model_faultOf_5 rfl (lv_at hl 1 rfl) ?_
  refine va_get (D := gD G) (ci := 7) (v := .int t_broken) (C := R_Model) (T := F_Model) (N := 29) hx hb hg in_Model hown hK hP 0 rfl rfl 21 (by decide) (hg _ m_418) (fun _ h9 => h9) rfl d_Model_faultOf_6 ?_
  refine lv_if_eq (tgt := 14) hx hb d_Model_faultOf_9 (by decide) (fun c_9 => ?_) (fun c_9 => ?_)
  · have hf := ip_ c_9 hf
    refine lv_aload_n hx hb d_Model_faultOf_14 rfl (lv_at hl 1 rfl) ?_
    refine va_get (D := gD G) (ci := 7) (v := .int t_index) (C := R_Model) (T := F_Model) (N := 29) hx hb hg in_Model hown hK hP 0 rfl rfl 15 (by decide) (hg _ m_413) (fun _ h9 => h9) rfl d_Model_faultOf_15 ?_
    refine lv_sipush (v := 999) hx hb d_Model_faultOf_18 (by decide) ?_
    refine lv_icmp_gt (tgt := 44) hx hb d_Model_faultOf_21 (by decide) (fun c_21 => ?_) (fun c_21 => ?_)
    · have hf := ip_ c_21 hf
      refine lv_iconst (v := 2) hx hb d_Model_faultOf_44 (by decide) ?_
      obtain rfl := Option.some.inj hf
      rw [← hQ]
      exact W.iret (v := (2 : Int32)) hx hb hr (fun t9 ht hW => ⟨⟨(2 : Int32), (), rfl, rfl, ⟨by rw [ht]; exact hP, hD⟩⟩, hS.F ht⟩) hS.2.2 d_Model_faultOf_45
    · have hf := in_ c_21 hf
      refine lv_aload_n hx hb d_Model_faultOf_24 rfl (lv_at hl 1 rfl) ?_
      refine va_get (D := gD G) (ci := 7) (v := .int t_width) (C := R_Model) (T := F_Model) (N := 29) hx hb hg in_Model hown hK hP 0 rfl rfl 18 (by decide) (hg _ m_416) (fun _ h9 => h9) rfl d_Model_faultOf_25 ?_
      refine lv_sipush (v := 999) hx hb d_Model_faultOf_28 (by decide) ?_
      refine lv_icmp_gt (tgt := 44) hx hb d_Model_faultOf_31 (by decide) (fun c_31 => ?_) (fun c_31 => ?_)
      · have hf := ip_ c_31 hf
        refine lv_iconst (v := 2) hx hb d_Model_faultOf_44 (by decide) ?_
        obtain rfl := Option.some.inj hf
        rw [← hQ]
        exact W.iret (v := (2 : Int32)) hx hb hr (fun t9 ht hW => ⟨⟨(2 : Int32), (), rfl, rfl, ⟨by rw [ht]; exact hP, hD⟩⟩, hS.F ht⟩) hS.2.2 d_Model_faultOf_45
      · have hf := in_ c_31 hf
        refine lv_aload_n hx hb d_Model_faultOf_34 rfl (lv_at hl 1 rfl) ?_
        refine va_get (D := gD G) (ci := 7) (v := .int t_precision) (C := R_Model) (T := F_Model) (N := 29) hx hb hg in_Model hown hK hP 0 rfl rfl 19 (by decide) (hg _ m_417) (fun _ h9 => h9) rfl d_Model_faultOf_35 ?_
        refine lv_sipush (v := 999) hx hb d_Model_faultOf_38 (by decide) ?_
        refine lv_icmp_le (tgt := 46) hx hb d_Model_faultOf_41 (by decide) (fun c_41 => ?_) (fun c_41 => ?_)
        · have hf := ip_ c_41 hf
          refine lv_aload_n hx hb d_Model_faultOf_46 rfl (lv_at hl 1 rfl) ?_
          refine va_get (D := gD G) (ci := 7) (v := .int t_twice) (C := R_Model) (T := F_Model) (N := 29) hx hb hg in_Model hown hK hP 0 rfl rfl 17 (by decide) (hg _ m_415) (fun _ h9 => h9) rfl d_Model_faultOf_47 ?_
          refine lv_if_eq (tgt := 55) hx hb d_Model_faultOf_50 (by decide) (fun c_50 => ?_) (fun c_50 => ?_)
          · have hf := ip_ c_50 hf
            refine lv_aload_n hx hb d_Model_faultOf_55 rfl (lv_at hl 1 rfl) ?_
            obtain ⟨u_56, hu_56, hf⟩ := bd_ hf
            refine CALLWz (va_runV (As := []) (rest := []) ⟨hx, hb, hml, hown, hg⟩ (c_Model_isNumber l G K qt qt_draft t_draft t_drafted qt_result t_result t_length t_arguments qt_kinds t_kinds qt_values t_values qt_widths t_widths qt_below t_below qt_sizes t_sizes qt_scales t_scales qt_parts t_parts qt_texts t_texts qt_lengths t_lengths t_end t_index t_flags t_twice t_width t_precision t_conversion t_broken qt_piece t_piece t_put t_head qt_tens t_tens t_count t_exponent qt_work t_work _ u_56  hu_56) (cwV 0 hg (gV m_445 m_446 m_447 m_389 m_448) rfl rfl rfl (by decide +kernel) ⟨Nat.le_of_ble_eq_true rfl, Nat.le_of_ble_eq_true rfl⟩) ⟨PC_b, va_recv hK hP (ci := 7) (q0 := 0) rfl rfl, PC_p hE hS hAb hP hD⟩ rfl rfl hl.1 rfl (lv_room (Nat.le_of_ble_eq_true rfl)) d_Model_faultOf_56 ⟨Nat.zero_le _, Nat.zero_le _⟩) hP hD hS hA (fun bu_56 H locs hP hD hS => ?_)
            have hP : va_P (gD G) vwCl (w_Model_clear G qt qt_draft t_draft t_drafted qt_result t_result t_length t_arguments qt_kinds t_kinds qt_values t_values qt_widths t_widths qt_below t_below qt_sizes t_sizes qt_scales t_scales qt_parts t_parts qt_texts t_texts qt_lengths t_lengths t_end t_index t_flags t_twice t_width t_precision t_conversion t_broken qt_piece t_piece t_put t_head qt_tens t_tens t_count t_exponent qt_work t_work) H := hP
            have hD : va_D A (w_Model_clear G qt qt_draft t_draft t_drafted qt_result t_result t_length t_arguments qt_kinds t_kinds qt_values t_values qt_widths t_widths qt_below t_below qt_sizes t_sizes qt_scales t_scales qt_parts t_parts qt_texts t_texts qt_lengths t_lengths t_end t_index t_flags t_twice t_width t_precision t_conversion t_broken qt_piece t_piece t_put t_head qt_tens t_tens t_count t_exponent qt_work t_work) := hD
            refine lv_if_ne (tgt := 94) hx hb d_Model_faultOf_59 (by decide) (fun c_59 => ?_) (fun c_59 => ?_)
            · have hf := in_ c_59 hf
              exact W_94 u_1  hf _ _ _ hP hD hS (lv_sub hl [1, 0] rfl)
            · have hf := ip_ c_59 hf
              refine lv_iload_n hx hb d_Model_faultOf_62 rfl (lv_at hl 0 rfl) ?_
              refine lv_bipush (v := 98) hx hb d_Model_faultOf_63 (by decide) ?_
              refine lv_icmp_eq (tgt := 94) hx hb d_Model_faultOf_65 (by decide) (fun c_65 => ?_) (fun c_65 => ?_)
              · have hf := ip_ c_65 hf
                exact W_94 u_1  hf _ _ _ hP hD hS (lv_sub hl [1, 0] rfl)
              · have hf := in_ c_65 hf
                refine lv_iload_n hx hb d_Model_faultOf_68 rfl (lv_at hl 0 rfl) ?_
                refine lv_bipush (v := 115) hx hb d_Model_faultOf_69 (by decide) ?_
                refine lv_icmp_eq (tgt := 94) hx hb d_Model_faultOf_71 (by decide) (fun c_71 => ?_) (fun c_71 => ?_)
                · have hf := ip_ c_71 hf
                  exact W_94 u_1  hf _ _ _ hP hD hS (lv_sub hl [1, 0] rfl)
                · have hf := in_ c_71 hf
                  refine lv_iload_n hx hb d_Model_faultOf_74 rfl (lv_at hl 0 rfl) ?_
                  refine lv_bipush (v := 99) hx hb d_Model_faultOf_75 (by decide) ?_
                  refine lv_icmp_eq (tgt := 94) hx hb d_Model_faultOf_77 (by decide) (fun c_77 => ?_) (fun c_77 => ?_)
                  · have hf := ip_ c_77 hf
                    exact W_94 u_1  hf _ _ _ hP hD hS (lv_sub hl [1, 0] rfl)
                  · have hf := in_ c_77 hf
                    refine lv_iload_n hx hb d_Model_faultOf_80 rfl (lv_at hl 0 rfl) ?_
                    refine lv_bipush (v := 37) hx hb d_Model_faultOf_81 (by decide) ?_
                    refine lv_icmp_eq (tgt := 94) hx hb d_Model_faultOf_83 (by decide) (fun c_83 => ?_) (fun c_83 => ?_)
                    · have hf := ip_ c_83 hf
                      exact W_94 u_1  hf _ _ _ hP hD hS (lv_sub hl [1, 0] rfl)
                    · have hf := in_ c_83 hf
                      refine lv_iload_n hx hb d_Model_faultOf_86 rfl (lv_at hl 0 rfl) ?_
                      refine lv_bipush (v := 110) hx hb d_Model_faultOf_87 (by decide) ?_
                      refine lv_icmp_eq (tgt := 94) hx hb d_Model_faultOf_89 (by decide) (fun c_89 => ?_) (fun c_89 => ?_)
                      · have hf := ip_ c_89 hf
                        exact W_94 u_1  hf _ _ _ hP hD hS (lv_sub hl [1, 0] rfl)
                      · have hf := in_ c_89 hf
                        refine lv_iconst (v := 4) hx hb d_Model_faultOf_92 (by decide) ?_
                        obtain rfl := Option.some.inj hf
                        rw [← hQ]
                        exact W.iret (v := (4 : Int32)) hx hb hr (fun t9 ht hW => ⟨⟨(4 : Int32), (), rfl, rfl, ⟨by rw [ht]; exact hP, hD⟩⟩, hS.F ht⟩) hS.2.2 d_Model_faultOf_93
          · have hf := in_ c_50 hf
            refine lv_iconst (v := 3) hx hb d_Model_faultOf_53 (by decide) ?_
            obtain rfl := Option.some.inj hf
            rw [← hQ]
            exact W.iret (v := (3 : Int32)) hx hb hr (fun t9 ht hW => ⟨⟨(3 : Int32), (), rfl, rfl, ⟨by rw [ht]; exact hP, hD⟩⟩, hS.F ht⟩) hS.2.2 d_Model_faultOf_54
        · have hf := in_ c_41 hf
          refine lv_iconst (v := 2) hx hb d_Model_faultOf_44 (by decide) ?_
          obtain rfl := Option.some.inj hf
          rw [← hQ]
          exact W.iret (v := (2 : Int32)) hx hb hr (fun t9 ht hW => ⟨⟨(2 : Int32), (), rfl, rfl, ⟨by rw [ht]; exact hP, hD⟩⟩, hS.F ht⟩) hS.2.2 d_Model_faultOf_45
  · have hf := in_ c_9 hf
    refine lv_iconst (v := 1) hx hb d_Model_faultOf_12 (by decide) ?_
    obtain rfl := Option.some.inj hf
    rw [← hQ]
    exact W.iret (v := (1 : Int32)) hx hb hr (fun t9 ht hW => ⟨⟨(1 : Int32), (), rfl, rfl, ⟨by rw [ht]; exact hP, hD⟩⟩, hS.F ht⟩) hS.2.2 d_Model_faultOf_13
