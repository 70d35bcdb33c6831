theorem d_Model_clear_0 : decode cd_Model_clear 0 = .ok (.aload_n 0, 1) := by decide +kernel
theorem d_Model_clear_1 : decode cd_Model_clear 1 = .ok (.iconst 0, 1) := by decide +kernel
theorem d_Model_clear_2 : decode cd_Model_clear 2 = .ok (.putfield 56, 3) := by decide +kernel
theorem d_Model_clear_5 : decode cd_Model_clear 5 = .ok (.aload_n 0, 1) := by decide +kernel
theorem d_Model_clear_6 : decode cd_Model_clear 6 = .ok (.iconst 0, 1) := by decide +kernel
theorem d_Model_clear_7 : decode cd_Model_clear 7 = .ok (.putfield 60, 3) := by decide +kernel
theorem d_Model_clear_10 : decode cd_Model_clear 10 = .ok (.return_, 1) := by decide +kernel
theorem m_380 : Cond.fieldLink R_Model 56 "SpecifierDeskModel" "drafted" "I" ∈ gw := gm (i := 861) (by decide +kernel) (by decide +kernel)
theorem m_381 : Cond.fieldLink R_Model 60 "SpecifierDeskModel" "arguments" "I" ∈ gw := gm (i := 864) (by decide +kernel) (by decide +kernel)
def f_Model_clear  : Option (Int32 × Int32) :=
  some ((0 : Int32), (0 : Int32))
abbrev w_Model_clear (G : Gt) (qt : Nat) (qt_draft : Nat) (t_draft : Nat → Int32) (t_drafted : Int32) (qt_result : Nat) (t_result : Nat → Int32) (t_length : Int32) (t_arguments : Int32) (qt_kinds : Nat) (t_kinds : Nat → Int32) (qt_values : Nat) (t_values : Nat → Int64) (qt_widths : Nat) (t_widths : Nat → Int32) (qt_below : Nat) (t_below : Nat → Int32) (qt_sizes : Nat) (t_sizes : Nat → Int32) (qt_scales : Nat) (t_scales : Nat → Int32) (qt_parts : Nat) (t_parts : Nat → Int64) (qt_texts : Nat) (t_texts : Nat → Int32) (qt_lengths : Nat) (t_lengths : Nat → Int32) (t_end : Int32) (t_index : Int32) (t_flags : Int32) (t_twice : Int32) (t_width : Int32) (t_precision : Int32) (t_conversion : Int32) (t_broken : Int32) (qt_piece : Nat) (t_piece : Nat → Int32) (t_put : Int32) (t_head : Int32) (qt_tens : Nat) (t_tens : Nat → Int32) (t_count : Int32) (t_exponent : Int32) (qt_work : Nat) (t_work : Nat → Int32) : va_W := [(qt, .inr (7, [.ref qt_draft, .int t_drafted, .ref qt_result, .int t_length, .int t_arguments, .ref qt_kinds, .ref qt_values, .ref qt_widths, .ref qt_below, .ref qt_sizes, .ref qt_scales, .ref qt_parts, .ref qt_texts, .ref qt_lengths, .int t_end, .int t_index, .int t_flags, .int t_twice, .int t_width, .int t_precision, .int t_conversion, .int t_broken, .ref qt_piece, .int t_put, .int t_head, .ref qt_tens, .int t_count, .int t_exponent, .ref qt_work])), (qt_draft, .inl (gC G 1, 400, .inl t_draft)), (qt_result, .inl (gC G 1, 4000, .inl t_result)), (qt_kinds, .inl (gC G 1, 12, .inl t_kinds)), (qt_values, .inl (gC G 2, 12, .inr (.inl t_values))), (qt_widths, .inl (gC G 1, 12, .inl t_widths)), (qt_below, .inl (gC G 3, 12, .inl t_below)), (qt_sizes, .inl (gC G 1, 384, .inl t_sizes)), (qt_scales, .inl (gC G 1, 12, .inl t_scales)), (qt_parts, .inl (gC G 2, 12, .inr (.inl t_parts))), (qt_texts, .inl (gC G 1, 4800, .inl t_texts)), (qt_lengths, .inl (gC G 1, 12, .inl t_lengths)), (qt_piece, .inl (gC G 1, 4000, .inl t_piece)), (qt_tens, .inl (gC G 1, 1200, .inl t_tens)), (qt_work, .inl (gC G 1, 32, .inl t_work))]
set_option maxHeartbeats 4000000 in
set_option maxRecDepth 100000 in
theorem c_Model_clear (l : Launch) (G : Gt) (K : Nat) (qt : Nat) (qt_draft : Nat) (t_draft : Nat → Int32) (t_drafted : Int32) (qt_result : Nat) (t_result : Nat → Int32) (t_length : Int32) (t_arguments : Int32) (qt_kinds : Nat) (t_kinds : Nat → Int32) (qt_values : Nat) (t_values : Nat → Int64) (qt_widths : Nat) (t_widths : Nat → Int32) (qt_below : Nat) (t_below : Nat → Int32) (qt_sizes : Nat) (t_sizes : Nat → Int32) (qt_scales : Nat) (t_scales : Nat → Int32) (qt_parts : Nat) (t_parts : Nat → Int64) (qt_texts : Nat) (t_texts : Nat → Int32) (qt_lengths : Nat) (t_lengths : Nat → Int32) (t_end : Int32) (t_index : Int32) (t_flags : Int32) (t_twice : Int32) (t_width : Int32) (t_precision : Int32) (t_conversion : Int32) (t_broken : Int32) (qt_piece : Nat) (t_piece : Nat → Int32) (t_put : Int32) (t_head : Int32) (qt_tens : Nat) (t_tens : Nat → Int32) (t_count : Int32) (t_exponent : Int32) (qt_work : Nat) (t_work : Nat → Int32) (sz : Nat) (res : Int32 × Int32)   (hf : f_Model_clear  = some res) : Met l y_Model_clear (.code y_Model_clear cd_Model_clear 1 none :: gw) { frames := 0, cells := 0, slots := 0, locals := 0 } (PC G ([.ref qt] : List Value) sz (w_Model_clear G qt qt_draft t_draft t_drafted qt_result t_result t_length t_arguments qt_kinds t_kinds qt_values t_values qt_widths t_widths qt_below t_below qt_sizes t_sizes qt_scales t_scales qt_parts t_parts qt_texts t_texts qt_lengths t_lengths t_end t_index t_flags t_twice t_width t_precision t_conversion t_broken qt_piece t_piece t_put t_head qt_tens t_tens t_count t_exponent qt_work t_work)) (QV G (va_A (w_Model_clear G qt qt_draft t_draft t_drafted qt_result t_result t_length t_arguments qt_kinds t_kinds qt_values t_values qt_widths t_widths qt_below t_below qt_sizes t_sizes qt_scales t_scales qt_parts t_parts qt_texts t_texts qt_lengths t_lengths t_end t_index t_flags t_twice t_width t_precision t_conversion t_broken qt_piece t_piece t_put t_head qt_tens t_tens t_count t_exponent qt_work t_work) sz) (w_Model_clear G qt qt_draft t_draft res.1 qt_result t_result t_length res.2 qt_kinds t_kinds qt_values t_values qt_widths t_widths qt_below t_below qt_sizes t_sizes qt_scales t_scales qt_parts t_parts qt_texts t_texts qt_lengths t_lengths t_end t_index t_flags t_twice t_width t_precision t_conversion t_broken qt_piece t_piece t_put t_head qt_tens t_tens t_count t_exponent qt_work t_work)) 0 0 (va_A (w_Model_clear G qt qt_draft t_draft t_drafted qt_result t_result t_length t_arguments qt_kinds t_kinds qt_values t_values qt_widths t_widths qt_below t_below qt_sizes t_sizes qt_scales t_scales qt_parts t_parts qt_texts t_texts qt_lengths t_lengths t_end t_index t_flags t_twice t_width t_precision t_conversion t_broken qt_piece t_piece t_put t_head qt_tens t_tens t_count t_exponent qt_work t_work) sz) := by
  refine Met.ofW (cc := cd_Model_clear) (maxL := 1) (ret := none) (by decide) rfl ?_
  intro p e s m args below meth c s₁ B hml hv
  obtain ⟨rfl, hsz, hP, hE, hD0⟩ := hv
  have hx := B.exec
  have hb := B.bytes
  have hr := B.returns
  have hts := atoms_spec (ws := (.code y_Model_clear cd_Model_clear 1 none :: gw)) B.pre
  have hg : ∀ w ∈ gw, w.before _ s = true := fun w h => hts w (List.mem_cons_of_mem _ h)
  have hown : s.vm.findClass R_Model = some m.cls := findClass_of_methodNamed B.named
  have hlocks := B.notSynchronized
  subst hsz
  have hK := hE.K
  have hD := hD0.self (sz := s.heap.size)
  have hAb := hE.ab hD0
  obtain ⟨Q, hQ⟩ : ∃ Q, MQ below (QV G (va_A (w_Model_clear G qt qt_draft t_draft t_drafted qt_result t_result t_length t_arguments qt_kinds t_kinds qt_values t_values qt_widths t_widths qt_below t_below qt_sizes t_sizes qt_scales t_scales qt_parts t_parts qt_texts t_texts qt_lengths t_lengths t_end t_index t_flags t_twice t_width t_precision t_conversion t_broken qt_piece t_piece t_put t_head qt_tens t_tens t_count t_exponent qt_work t_work) s.heap.size) (w_Model_clear G qt qt_draft t_draft res.1 qt_result t_result t_length res.2 qt_kinds t_kinds qt_values t_values qt_widths t_widths qt_below t_below qt_sizes t_sizes qt_scales t_scales qt_parts t_parts qt_texts t_texts qt_lengths t_lengths t_end t_index t_flags t_twice t_width t_precision t_conversion t_broken qt_piece t_piece t_put t_head qt_tens t_tens t_count t_exponent qt_work t_work)) ([.ref qt] : List Value).toArray s 0 0 (va_A (w_Model_clear G qt qt_draft t_draft t_drafted qt_result t_result t_length t_arguments qt_kinds t_kinds qt_values t_values qt_widths t_widths qt_below t_below qt_sizes t_sizes qt_scales t_scales qt_parts t_parts qt_texts t_texts qt_lengths t_lengths t_end t_index t_flags t_twice t_width t_precision t_conversion t_broken qt_piece t_piece t_put t_head qt_tens t_tens t_count t_exponent qt_work t_work) s.heap.size) = Q := ⟨_, rfl⟩
  show W p l e { frames := 0, cells := 0, slots := 0, locals := 0 } s m ([.ref qt] : List Value).toArray below meth c s.heap [] 0 0 (MQ below (QV G (va_A (w_Model_clear G qt qt_draft t_draft t_drafted qt_result t_result t_length t_arguments qt_kinds t_kinds qt_values t_values qt_widths t_widths qt_below t_below qt_sizes t_sizes qt_scales t_scales qt_parts t_parts qt_texts t_texts qt_lengths t_lengths t_end t_index t_flags t_twice t_width t_precision t_conversion t_broken qt_piece t_piece t_put t_head qt_tens t_tens t_count t_exponent qt_work t_work) s.heap.size) (w_Model_clear G qt qt_draft t_draft res.1 qt_result t_result t_length res.2 qt_kinds t_kinds qt_values t_values qt_widths t_widths qt_below t_below qt_sizes t_sizes qt_scales t_scales qt_parts t_parts qt_texts t_texts qt_lengths t_lengths t_end t_index t_flags t_twice t_width t_precision t_conversion t_broken qt_piece t_piece t_put t_head qt_tens t_tens t_count t_exponent qt_work t_work)) ([.ref qt] : List Value).toArray s 0 0 (va_A (w_Model_clear G qt qt_draft t_draft t_drafted qt_result t_result t_length t_arguments qt_kinds t_kinds qt_values t_values qt_widths t_widths qt_below t_below qt_sizes t_sizes qt_scales t_scales qt_parts t_parts qt_texts t_texts qt_lengths t_lengths t_end t_index t_flags t_twice t_width t_precision t_conversion t_broken qt_piece t_piece t_put t_head qt_tens t_tens t_count t_exponent qt_work t_work) s.heap.size)) _
  rw [hQ]
  have hA : ∀ q : Nat, s.heap.size ≤ q → va_A (w_Model_clear G qt qt_draft t_draft t_drafted qt_result t_result t_length t_arguments qt_kinds t_kinds qt_values t_values qt_widths t_widths qt_below t_below qt_sizes t_sizes qt_scales t_scales qt_parts t_parts qt_texts t_texts qt_lengths t_lengths t_end t_index t_flags t_twice t_width t_precision t_conversion t_broken qt_piece t_piece t_put t_head qt_tens t_tens t_count t_exponent qt_work t_work) s.heap.size q := fun q h => Or.inr h
  obtain ⟨A, hAe⟩ : ∃ A, va_A (w_Model_clear G qt qt_draft t_draft t_drafted qt_result t_result t_length t_arguments qt_kinds t_kinds qt_values t_values qt_widths t_widths qt_below t_below qt_sizes t_sizes qt_scales t_scales qt_parts t_parts qt_texts t_texts qt_lengths t_lengths t_end t_index t_flags t_twice t_width t_precision t_conversion t_broken qt_piece t_piece t_put t_head qt_tens t_tens t_count t_exponent qt_work t_work) s.heap.size = A := ⟨_, rfl⟩
  rw [hAe] at hA hD hAb hQ
  have hS : va_S A s.heap s.heap [] := va_S.rf
  have hl := lv_entry (([.ref qt] : List Value)) (n := 1) (Nat.le_of_ble_eq_true rfl)
  rw [lg_entry_eq]
  generalize (lg_sl (([.ref qt] : List Value)) ++ List.replicate (1 - (lg_sl (([.ref qt] : List Value))).length) Slot.unset).toArray = ls at hl ⊢
  have hl : lv_has ls 1 [(0, .ref qt)] := hl
  unfold f_Model_clear at hf
  refine lv_aload_n hx hb d_Model_clear_0 rfl (lv_at hl 0 rfl) ?_
  refine lv_iconst (v := 0) hx hb d_Model_clear_1 (by decide) ?_
  refine va_put (D := gD G) (ci := 7) (v := .int (0 : Int32)) (ty := .int) (C := R_Model) (T := F_Model) (N := 29) hx hb hg in_Model t_Model to_Model no_Model hown hK hP hD hS 0 rfl rfl 1 (by decide) (hg _ m_380) (fun _ h9 => h9) rfl (by decide +kernel) rfl rfl (Nat.le_of_ble_eq_true rfl) d_Model_clear_2 (fun H locs hP hD hS => ?_)
  have hP : va_P (gD G) vwCl (w_Model_clear G qt qt_draft t_draft (0 : Int32) qt_result t_result t_length t_arguments qt_kinds t_kinds qt_values t_values qt_widths t_widths qt_below t_below qt_sizes t_sizes qt_scales t_scales qt_parts t_parts qt_texts t_texts qt_lengths t_lengths t_end t_index t_flags t_twice t_width t_precision t_conversion t_broken qt_piece t_piece t_put t_head qt_tens t_tens t_count t_exponent qt_work t_work) H := hP
  have hD : va_D A (w_Model_clear G qt qt_draft t_draft (0 : Int32) qt_result t_result t_length t_arguments qt_kinds t_kinds qt_values t_values qt_widths t_widths qt_below t_below qt_sizes t_sizes qt_scales t_scales qt_parts t_parts qt_texts t_texts qt_lengths t_lengths t_end t_index t_flags t_twice t_width t_precision t_conversion t_broken qt_piece t_piece t_put t_head qt_tens t_tens t_count t_exponent qt_work t_work) := hD
  refine lv_aload_n hx hb d_Model_clear_5 rfl (lv_at hl 0 rfl) ?_
  refine lv_iconst (v := 0) hx hb d_Model_clear_6 (by decide) ?_
  refine va_put (D := gD G) (ci := 7) (v := .int (0 : Int32)) (ty := .int) (C := R_Model) (T := F_Model) (N := 29) hx hb hg in_Model t_Model to_Model no_Model hown hK hP hD hS 0 rfl rfl 4 (by decide) (hg _ m_381) (fun _ h9 => h9) rfl (by decide +kernel) rfl rfl (Nat.le_of_ble_eq_true rfl) d_Model_clear_7 (fun H locs hP hD hS => ?_)
  have hP : va_P (gD G) vwCl (w_Model_clear G qt qt_draft t_draft (0 : Int32) qt_result t_result t_length (0 : Int32) qt_kinds t_kinds qt_values t_values qt_widths t_widths qt_below t_below qt_sizes t_sizes qt_scales t_scales qt_parts t_parts qt_texts t_texts qt_lengths t_lengths t_end t_index t_flags t_twice t_width t_precision t_conversion t_broken qt_piece t_piece t_put t_head qt_tens t_tens t_count t_exponent qt_work t_work) H := hP
  have hD : va_D A (w_Model_clear G qt qt_draft t_draft (0 : Int32) qt_result t_result t_length (0 : Int32) qt_kinds t_kinds qt_values t_values qt_widths t_widths qt_below t_below qt_sizes t_sizes qt_scales t_scales qt_parts t_parts qt_texts t_texts qt_lengths t_lengths t_end t_index t_flags t_twice t_width t_precision t_conversion t_broken qt_piece t_piece t_put t_head qt_tens t_tens t_count t_exponent qt_work t_work) := hD
  obtain rfl := Option.some.inj hf
  rw [← hQ]
  exact W.vret hx hb hr (fun t9 ht hW => ⟨⟨(), rfl, trivial, ⟨by rw [ht]; exact hP, hD⟩⟩, hS.F ht⟩) hS.2.2 d_Model_clear_10
theorem d_Model_argument_0 : decode cd_Model_argument 0 = .ok (.aload_n 0, 1) := by decide +kernel
theorem d_Model_argument_1 : decode cd_Model_argument 1 = .ok (.getfield 60, 3) := by decide +kernel
theorem d_Model_argument_4 : decode cd_Model_argument 4 = .ok (.bipush 12, 2) := by decide +kernel
theorem d_Model_argument_6 : decode cd_Model_argument 6 = .ok (.if_icmp .ne 5, 3) := by decide +kernel
theorem d_Model_argument_9 : decode cd_Model_argument 9 = .ok (.iconst (-1), 1) := by decide +kernel
theorem d_Model_argument_10 : decode cd_Model_argument 10 = .ok (.ireturn, 1) := by decide +kernel
theorem d_Model_argument_11 : decode cd_Model_argument 11 = .ok (.aload_n 0, 1) := by decide +kernel
theorem d_Model_argument_12 : decode cd_Model_argument 12 = .ok (.getfield 16, 3) := by decide +kernel
theorem d_Model_argument_15 : decode cd_Model_argument 15 = .ok (.aload_n 0, 1) := by decide +kernel
theorem d_Model_argument_16 : decode cd_Model_argument 16 = .ok (.getfield 60, 3) := by decide +kernel
theorem d_Model_argument_19 : decode cd_Model_argument 19 = .ok (.iload_n 1, 1) := by decide +kernel
theorem d_Model_argument_20 : decode cd_Model_argument 20 = .ok (.iastore, 1) := by decide +kernel
theorem d_Model_argument_21 : decode cd_Model_argument 21 = .ok (.aload_n 0, 1) := by decide +kernel
theorem d_Model_argument_22 : decode cd_Model_argument 22 = .ok (.getfield 19, 3) := by decide +kernel
theorem d_Model_argument_25 : decode cd_Model_argument 25 = .ok (.aload_n 0, 1) := by decide +kernel
theorem d_Model_argument_26 : decode cd_Model_argument 26 = .ok (.getfield 60, 3) := by decide +kernel
theorem d_Model_argument_29 : decode cd_Model_argument 29 = .ok (.lload_n 2, 1) := by decide +kernel
theorem d_Model_argument_30 : decode cd_Model_argument 30 = .ok (.lastore, 1) := by decide +kernel
theorem d_Model_argument_31 : decode cd_Model_argument 31 = .ok (.aload_n 0, 1) := by decide +kernel
theorem d_Model_argument_32 : decode cd_Model_argument 32 = .ok (.getfield 26, 3) := by decide +kernel
theorem d_Model_argument_35 : decode cd_Model_argument 35 = .ok (.aload_n 0, 1) := by decide +kernel
theorem d_Model_argument_36 : decode cd_Model_argument 36 = .ok (.getfield 60, 3) := by decide +kernel
theorem d_Model_argument_39 : decode cd_Model_argument 39 = .ok (.iload 4, 2) := by decide +kernel
theorem d_Model_argument_41 : decode cd_Model_argument 41 = .ok (.bastore, 1) := by decide +kernel
theorem d_Model_argument_42 : decode cd_Model_argument 42 = .ok (.iconst 0, 1) := by decide +kernel
theorem d_Model_argument_43 : decode cd_Model_argument 43 = .ok (.istore 5, 2) := by decide +kernel
theorem d_Model_argument_45 : decode cd_Model_argument 45 = .ok (.iload 5, 2) := by decide +kernel
theorem d_Model_argument_47 : decode cd_Model_argument 47 = .ok (.bipush 32, 2) := by decide +kernel
theorem d_Model_argument_49 : decode cd_Model_argument 49 = .ok (.if_icmp .ge 25, 3) := by decide +kernel
theorem d_Model_argument_52 : decode cd_Model_argument 52 = .ok (.aload_n 0, 1) := by decide +kernel
theorem d_Model_argument_53 : decode cd_Model_argument 53 = .ok (.getfield 30, 3) := by decide +kernel
theorem d_Model_argument_56 : decode cd_Model_argument 56 = .ok (.bipush 32, 2) := by decide +kernel
theorem d_Model_argument_58 : decode cd_Model_argument 58 = .ok (.aload_n 0, 1) := by decide +kernel
theorem d_Model_argument_59 : decode cd_Model_argument 59 = .ok (.getfield 60, 3) := by decide +kernel
theorem d_Model_argument_62 : decode cd_Model_argument 62 = .ok (.imul, 1) := by decide +kernel
theorem d_Model_argument_63 : decode cd_Model_argument 63 = .ok (.iload 5, 2) := by decide +kernel
theorem d_Model_argument_65 : decode cd_Model_argument 65 = .ok (.iadd, 1) := by decide +kernel
theorem d_Model_argument_66 : decode cd_Model_argument 66 = .ok (.iconst 0, 1) := by decide +kernel
theorem d_Model_argument_67 : decode cd_Model_argument 67 = .ok (.iastore, 1) := by decide +kernel
theorem d_Model_argument_68 : decode cd_Model_argument 68 = .ok (.iinc 5 1, 3) := by decide +kernel
theorem d_Model_argument_71 : decode cd_Model_argument 71 = .ok (.goto (-26), 3) := by decide +kernel
theorem d_Model_argument_74 : decode cd_Model_argument 74 = .ok (.aload_n 0, 1) := by decide +kernel
theorem d_Model_argument_75 : decode cd_Model_argument 75 = .ok (.dup, 1) := by decide +kernel
theorem d_Model_argument_76 : decode cd_Model_argument 76 = .ok (.getfield 60, 3) := by decide +kernel
theorem d_Model_argument_79 : decode cd_Model_argument 79 = .ok (.iconst 1, 1) := by decide +kernel
theorem d_Model_argument_80 : decode cd_Model_argument 80 = .ok (.iadd, 1) := by decide +kernel
theorem d_Model_argument_81 : decode cd_Model_argument 81 = .ok (.putfield 60, 3) := by decide +kernel
theorem d_Model_argument_84 : decode cd_Model_argument 84 = .ok (.aload_n 0, 1) := by decide +kernel
theorem d_Model_argument_85 : decode cd_Model_argument 85 = .ok (.getfield 60, 3) := by decide +kernel
theorem d_Model_argument_88 : decode cd_Model_argument 88 = .ok (.ireturn, 1) := by decide +kernel
theorem m_382 : Cond.fieldLink R_Model 16 "SpecifierDeskModel" "kinds" "[I" ∈ gw := gm (i := 865) (by decide +kernel) (by decide +kernel)
theorem m_383 : Cond.fieldLink R_Model 19 "SpecifierDeskModel" "values" "[J" ∈ gw := gm (i := 866) (by decide +kernel) (by decide +kernel)
theorem m_384 : Cond.fieldLink R_Model 26 "SpecifierDeskModel" "below" "[Z" ∈ gw := gm (i := 868) (by decide +kernel) (by decide +kernel)
theorem m_385 : Cond.fieldLink R_Model 30 "SpecifierDeskModel" "sizes" "[I" ∈ gw := gm (i := 869) (by decide +kernel) (by decide +kernel)
def b_Model_argument_45  (t_arguments : Int32) (t_kinds : (Nat → Int32)) (t_values : (Nat → Int64)) (t_below : (Nat → Int32)) (rec_45 : (Int32 × (Nat → Int32)) → Option (Int32 × Int32 × (Nat → Int32) × (Nat → Int64) × (Nat → Int32) × (Nat → Int32))) (z45 : Int32 × (Nat → Int32)) : Option (Int32 × Int32 × (Nat → Int32) × (Nat → Int64) × (Nat → Int32) × (Nat → Int32)) :=
  (if (32 : Int32) ≤ z45.1 then some ((t_arguments + (1 : Int32)), (t_arguments + (1 : Int32)), t_kinds, t_values, t_below, z45.2) else (if inB (((32 : Int32) * t_arguments) + z45.1) 384 = true then rec_45 ((z45.1 + 1), (upd z45.2 (((32 : Int32) * t_arguments) + z45.1).toNatClampNeg (0 : Int32))) else none))
def f_Model_argument (K : Nat) (t_arguments : Int32) (t_kinds : Nat → Int32) (t_values : Nat → Int64) (t_below : Nat → Int32) (t_sizes : Nat → Int32) (a1 : Int32) (a2 : Int64) (a3 : Int32) : Option (Int32 × Int32 × (Nat → Int32) × (Nat → Int64) × (Nat → Int32) × (Nat → Int32)) :=
  (if t_arguments = (12 : Int32) then some ((-1 : Int32), t_arguments, t_kinds, t_values, t_below, t_sizes) else (if inB t_arguments 12 = true then (if inB t_arguments 12 = true then (if inB t_arguments 12 = true then lp_ (b_Model_argument_45  t_arguments (upd t_kinds t_arguments.toNatClampNeg a1) (vp_updL t_values t_arguments.toNatClampNeg a2) (upd t_below t_arguments.toNatClampNeg (vp_nar .boolean a3))) K ((0 : Int32), t_sizes) else none) else none) else none))
set_option maxHeartbeats 4000000 in
set_option maxRecDepth 100000 in
theorem c_Model_argument (l : Launch) (G : Gt) (K : Nat) (qt : Nat) (qt_draft : Nat) (t_draft : Nat → Int32) (t_drafted : Int32) (qt_result : Nat) (t_result : Nat → Int32) (t_length : Int32) (t_arguments : Int32) (qt_kinds : Nat) (t_kinds : Nat → Int32) (qt_values : Nat) (t_values : Nat → Int64) (qt_widths : Nat) (t_widths : Nat → Int32) (qt_below : Nat) (t_below : Nat → Int32) (qt_sizes : Nat) (t_sizes : Nat → Int32) (qt_scales : Nat) (t_scales : Nat → Int32) (qt_parts : Nat) (t_parts : Nat → Int64) (qt_texts : Nat) (t_texts : Nat → Int32) (qt_lengths : Nat) (t_lengths : Nat → Int32) (t_end : Int32) (t_index : Int32) (t_flags : Int32) (t_twice : Int32) (t_width : Int32) (t_precision : Int32) (t_conversion : Int32) (t_broken : Int32) (qt_piece : Nat) (t_piece : Nat → Int32) (t_put : Int32) (t_head : Int32) (qt_tens : Nat) (t_tens : Nat → Int32) (t_count : Int32) (t_exponent : Int32) (qt_work : Nat) (t_work : Nat → Int32) (a1 : Int32) (a2 : Int64) (a3 : Int32) (sz : Nat) (res : Int32 × Int32 × (Nat → Int32) × (Nat → Int64) × (Nat → Int32) × (Nat → Int32)) (hb_a3 : bl a3)  (hf : f_Model_argument K t_arguments t_kinds t_values t_below t_sizes a1 a2 a3 = some res) : Met l y_Model_argument (.code y_Model_argument cd_Model_argument 6 (some .int) :: gw) { frames := 0, cells := 0, slots := 0, locals := 0 } (PC G ([.ref qt, .int a1, .long a2, .int a3] : List Value) sz (w_Model_clear G qt qt_draft t_draft t_drafted qt_result t_result t_length t_arguments qt_kinds t_kinds qt_values t_values qt_widths t_widths qt_below t_below qt_sizes t_sizes qt_scales t_scales qt_parts t_parts qt_texts t_texts qt_lengths t_lengths t_end t_index t_flags t_twice t_width t_precision t_conversion t_broken qt_piece t_piece t_put t_head qt_tens t_tens t_count t_exponent qt_work t_work)) (QI G res.1 (va_A (w_Model_clear G qt qt_draft t_draft t_drafted qt_result t_result t_length t_arguments qt_kinds t_kinds qt_values t_values qt_widths t_widths qt_below t_below qt_sizes t_sizes qt_scales t_scales qt_parts t_parts qt_texts t_texts qt_lengths t_lengths t_end t_index t_flags t_twice t_width t_precision t_conversion t_broken qt_piece t_piece t_put t_head qt_tens t_tens t_count t_exponent qt_work t_work) sz) (w_Model_clear G qt qt_draft t_draft t_drafted qt_result t_result t_length res.2.1 qt_kinds res.2.2.1 qt_values res.2.2.2.1 qt_widths t_widths qt_below res.2.2.2.2.1 qt_sizes res.2.2.2.2.2 qt_scales t_scales qt_parts t_parts qt_texts t_texts qt_lengths t_lengths t_end t_index t_flags t_twice t_width t_precision t_conversion t_broken qt_piece t_piece t_put t_head qt_tens t_tens t_count t_exponent qt_work t_work)) 0 0 (va_A (w_Model_clear G qt qt_draft t_draft t_drafted qt_result t_result t_length t_arguments qt_kinds t_kinds qt_values t_values qt_widths t_widths qt_below t_below qt_sizes t_sizes qt_scales t_scales qt_parts t_parts qt_texts t_texts qt_lengths t_lengths t_end t_index t_flags t_twice t_width t_precision t_conversion t_broken qt_piece t_piece t_put t_head qt_tens t_tens t_count t_exponent qt_work t_work) sz) := by
  refine Met.ofW (cc := cd_Model_argument) (maxL := 6) (ret := (some .int)) (by decide) rfl ?_
  intro p e s m args below meth c s₁ B hml hv
  obtain ⟨rfl, hsz, hP, hE, hD0⟩ := hv
  have hx := B.exec
  have hb := B.bytes
  have hr := B.returns
  have hts := atoms_spec (ws := (.code y_Model_argument cd_Model_argument 6 (some .int) :: gw)) B.pre
  have hg : ∀ w ∈ gw, w.before _ s = true := fun w h => hts w (List.mem_cons_of_mem _ h)
  have hown : s.vm.findClass R_Model = some m.cls := findClass_of_methodNamed B.named
  have hlocks := B.notSynchronized
  subst hsz
  have hK := hE.K
  have hD := hD0.self (sz := s.heap.size)
  have hAb := hE.ab hD0
  obtain ⟨Q, hQ⟩ : ∃ Q, MQ below (QI G res.1 (va_A (w_Model_clear G qt qt_draft t_draft t_drafted qt_result t_result t_length t_arguments qt_kinds t_kinds qt_values t_values qt_widths t_widths qt_below t_below qt_sizes t_sizes qt_scales t_scales qt_parts t_parts qt_texts t_texts qt_lengths t_lengths t_end t_index t_flags t_twice t_width t_precision t_conversion t_broken qt_piece t_piece t_put t_head qt_tens t_tens t_count t_exponent qt_work t_work) s.heap.size) (w_Model_clear G qt qt_draft t_draft t_drafted qt_result t_result t_length res.2.1 qt_kinds res.2.2.1 qt_values res.2.2.2.1 qt_widths t_widths qt_below res.2.2.2.2.1 qt_sizes res.2.2.2.2.2 qt_scales t_scales qt_parts t_parts qt_texts t_texts qt_lengths t_lengths t_end t_index t_flags t_twice t_width t_precision t_conversion t_broken qt_piece t_piece t_put t_head qt_tens t_tens t_count t_exponent qt_work t_work)) ([.ref qt, .int a1, .long a2, .int a3] : List Value).toArray s 0 0 (va_A (w_Model_clear G qt qt_draft t_draft t_drafted qt_result t_result t_length t_arguments qt_kinds t_kinds qt_values t_values qt_widths t_widths qt_below t_below qt_sizes t_sizes qt_scales t_scales qt_parts t_parts qt_texts t_texts qt_lengths t_lengths t_end t_index t_flags t_twice t_width t_precision t_conversion t_broken qt_piece t_piece t_put t_head qt_tens t_tens t_count t_exponent qt_work t_work) s.heap.size) = Q := ⟨_, rfl⟩
  show W p l e { frames := 0, cells := 0, slots := 0, locals := 0 } s m ([.ref qt, .int a1, .long a2, .int a3] : List Value).toArray below meth c s.heap [] 0 0 (MQ below (QI G res.1 (va_A (w_Model_clear G qt qt_draft t_draft t_drafted qt_result t_result t_length t_arguments qt_kinds t_kinds qt_values t_values qt_widths t_widths qt_below t_below qt_sizes t_sizes qt_scales t_scales qt_parts t_parts qt_texts t_texts qt_lengths t_lengths t_end t_index t_flags t_twice t_width t_precision t_conversion t_broken qt_piece t_piece t_put t_head qt_tens t_tens t_count t_exponent qt_work t_work) s.heap.size) (w_Model_clear G qt qt_draft t_draft t_drafted qt_result t_result t_length res.2.1 qt_kinds res.2.2.1 qt_values res.2.2.2.1 qt_widths t_widths qt_below res.2.2.2.2.1 qt_sizes res.2.2.2.2.2 qt_scales t_scales qt_parts t_parts qt_texts t_texts qt_lengths t_lengths t_end t_index t_flags t_twice t_width t_precision t_conversion t_broken qt_piece t_piece t_put t_head qt_tens t_tens t_count t_exponent qt_work t_work)) ([.ref qt, .int a1, .long a2, .int a3] : List Value).toArray s 0 0 (va_A (w_Model_clear G qt qt_draft t_draft t_drafted qt_result t_result t_length t_arguments qt_kinds t_kinds qt_values t_values qt_widths t_widths qt_below t_below qt_sizes t_sizes qt_scales t_scales qt_parts t_parts qt_texts t_texts qt_lengths t_lengths t_end t_index t_flags t_twice t_width t_precision t_conversion t_broken qt_piece t_piece t_put t_head qt_tens t_tens t_count t_exponent qt_work t_work) s.heap.size)) _
  rw [hQ]
  have hA : ∀ q : Nat, s.heap.size ≤ q → va_A (w_Model_clear G qt qt_draft t_draft t_drafted qt_result t_result t_length t_arguments qt_kinds t_kinds qt_values t_values qt_widths t_widths qt_below t_below qt_sizes t_sizes qt_scales t_scales qt_parts t_parts qt_texts t_texts qt_lengths t_lengths t_end t_index t_flags t_twice t_width t_precision t_conversion t_broken qt_piece t_piece t_put t_head qt_tens t_tens t_count t_exponent qt_work t_work) s.heap.size q := fun q h => Or.inr h
  obtain ⟨A, hAe⟩ : ∃ A, va_A (w_Model_clear G qt qt_draft t_draft t_drafted qt_result t_result t_length t_arguments qt_kinds t_kinds qt_values t_values qt_widths t_widths qt_below t_below qt_sizes t_sizes qt_scales t_scales qt_parts t_parts qt_texts t_texts qt_lengths t_lengths t_end t_index t_flags t_twice t_width t_precision t_conversion t_broken qt_piece t_piece t_put t_head qt_tens t_tens t_count t_exponent qt_work t_work) s.heap.size = A := ⟨_, rfl⟩
  rw [hAe] at hA hD hAb hQ
  have hS : va_S A s.heap s.heap [] := va_S.rf
  have hl := lv_entry (([.ref qt, .int a1, .long a2, .int a3] : List Value)) (n := 6) (Nat.le_of_ble_eq_true rfl)
  rw [lg_entry_eq]
  generalize (lg_sl (([.ref qt, .int a1, .long a2, .int a3] : List Value)) ++ List.replicate (6 - (lg_sl (([.ref qt, .int a1, .long a2, .int a3] : List Value))).length) Slot.unset).toArray = ls at hl ⊢
  have hl : lv_has ls 6 [(0, .ref qt), (1, .int a1), (2, .long a2), (4, .int a3)] := hl
  have W_45 : ∀ (t_arguments : Int32) (t_kinds : (Nat → Int32)) (t_values : (Nat → Int64)) (t_below : (Nat → Int32))  (n_45 : Nat) (z45 : Int32 × (Nat → Int32)) , lp_ (b_Model_argument_45  t_arguments t_kinds t_values t_below) n_45 z45 = some res → ∀ (H : Heap) (locs : List Loc) (ls : Array Slot), va_P (gD G) vwCl (w_Model_clear G qt qt_draft t_draft t_drafted qt_result t_result t_length t_arguments qt_kinds t_kinds qt_values t_values qt_widths t_widths qt_below t_below qt_sizes z45.2 qt_scales t_scales qt_parts t_parts qt_texts t_texts qt_lengths t_lengths t_end t_index t_flags t_twice t_width t_precision t_conversion t_broken qt_piece t_piece t_put t_head qt_tens t_tens t_count t_exponent qt_work t_work) H → va_D A (w_Model_clear G qt qt_draft t_draft t_drafted qt_result t_result t_length t_arguments qt_kinds t_kinds qt_values t_values qt_widths t_widths qt_below t_below qt_sizes z45.2 qt_scales t_scales qt_parts t_parts qt_texts t_texts qt_lengths t_lengths t_end t_index t_flags t_twice t_width t_precision t_conversion t_broken qt_piece t_piece t_put t_head qt_tens t_tens t_count t_exponent qt_work t_work) → va_S A s.heap H locs → lv_has ls 6 [(0, .ref qt), (5, .int z45.1)] → W p l e { frames := 0, cells := 0, slots := 0, locals := 0 } s m ([.ref qt, .int a1, .long a2, .int a3] : List Value).toArray below meth c H locs 0 0 Q (F0 m 45 ls []) := by
    intro t_arguments t_kinds t_values t_below n_45
    induction n_45 with
    | zero =>
      intro z45  hf
      cases hf
    | succ n_45 ih_45 =>
      intro z45  hf H locs ls hP hD hS hl
      have hf : b_Model_argument_45  t_arguments t_kinds t_values t_below (lp_ (b_Model_argument_45  t_arguments t_kinds t_values t_below) n_45) z45 = some res := hf
      generalize lp_ (b_Model_argument_45  t_arguments t_kinds t_values t_below) n_45 = rec_45 at hf ih_45
      unfold b_Model_argument_45 at hf
      refine lv_iload hx hb d_Model_argument_45 (lv_at hl 1 rfl) ?_
      refine lv_bipush (v := 32) hx hb d_Model_argument_47 (by decide) ?_
      refine lv_icmp_ge (tgt := 74) hx hb d_Model_argument_49 (by decide) (fun c_49 => ?_) (fun c_49 => ?_)
      · have hf := ip_ c_49 hf
        refine lv_aload_n hx hb d_Model_argument_74 rfl (lv_at hl 0 rfl) ?_
        refine lv_dup hx hb d_Model_argument_75 rfl ?_
        refine va_get (D := gD G) (ci := 7) (v := .int t_arguments) (C := R_Model) (T := F_Model) (N := 29) hx hb hg in_Model hown hK hP 0 rfl rfl 4 (by decide) (hg _ m_381) (fun _ h9 => h9) rfl d_Model_argument_76 ?_
        refine lv_iconst (v := 1) hx hb d_Model_argument_79 (by decide) ?_
        refine lv_iadd hx hb d_Model_argument_80 ?_
        refine va_put (D := gD G) (ci := 7) (v := .int (t_arguments + (1 : Int32))) (ty := .int) (C := R_Model) (T := F_Model) (N := 29) hx hb hg in_Model t_Model to_Model no_Model hown hK hP hD hS 0 rfl rfl 4 (by decide) (hg _ m_381) (fun _ h9 => h9) rfl (by decide +kernel) rfl rfl (Nat.le_of_ble_eq_true rfl) d_Model_argument_81 (fun H locs hP hD hS => ?_)
        have hP : va_P (gD G) vwCl (w_Model_clear G qt qt_draft t_draft t_drafted qt_result t_result t_length (t_arguments + (1 : Int32)) qt_kinds t_kinds qt_values t_values qt_widths t_widths qt_below t_below qt_sizes z45.2 qt_scales t_scales qt_parts t_parts qt_texts t_texts qt_lengths t_lengths t_end t_index t_flags t_twice t_width t_precision t_conversion t_broken qt_piece t_piece t_put t_head qt_tens t_tens t_count t_exponent qt_work t_work) H := hP
        have hD : va_D A (w_Model_clear G qt qt_draft t_draft t_drafted qt_result t_result t_length (t_arguments + (1 : Int32)) qt_kinds t_kinds qt_values t_values qt_widths t_widths qt_below t_below qt_sizes z45.2 qt_scales t_scales qt_parts t_parts qt_texts t_texts qt_lengths t_lengths t_end t_index t_flags t_twice t_width t_precision t_conversion t_broken qt_piece t_piece t_put t_head qt_tens t_tens t_count t_exponent qt_work t_work) := hD
        refine lv_aload_n hx hb d_Model_argument_84 rfl (lv_at hl 0 rfl) ?_
        refine va_get (D := gD G) (ci := 7) (v := .int (t_arguments + (1 : Int32))) (C := R_Model) (T := F_Model) (N := 29) hx hb hg in_Model hown hK hP 0 rfl rfl 4 (by decide) (hg _ m_381) (fun _ h9 => h9) rfl d_Model_argument_85 ?_
        obtain rfl := Option.some.inj hf
        rw [← hQ]
        exact W.iret (v := (t_arguments + (1 : Int32))) hx hb hr (fun t9 ht hW => ⟨⟨(t_arguments + (1 : Int32)), (), rfl, rfl, ⟨by rw [ht]; exact hP, hD⟩⟩, hS.F ht⟩) hS.2.2 d_Model_argument_88
      · have hf := in_ c_49 hf
        refine lv_aload_n hx hb d_Model_argument_52 rfl (lv_at hl 0 rfl) ?_
        refine va_get (D := gD G) (ci := 7) (v := .ref qt_sizes) (C := R_Model) (T := F_Model) (N := 29) hx hb hg in_Model hown hK hP 0 rfl rfl 9 (by decide) (hg _ m_385) (fun _ h9 => h9) rfl d_Model_argument_53 ?_
        refine lv_bipush (v := 32) hx hb d_Model_argument_56 (by decide) ?_
        refine lv_aload_n hx hb d_Model_argument_58 rfl (lv_at hl 0 rfl) ?_
        refine va_get (D := gD G) (ci := 7) (v := .int t_arguments) (C := R_Model) (T := F_Model) (N := 29) hx hb hg in_Model hown hK hP 0 rfl rfl 4 (by decide) (hg _ m_381) (fun _ h9 => h9) rfl d_Model_argument_59 ?_
        refine lv_imul hx hb d_Model_argument_62 ?_
        refine lv_iload hx hb d_Model_argument_63 (lv_at hl 1 rfl) ?_
        refine lv_iadd hx hb d_Model_argument_65 ?_
        refine lv_iconst (v := 0) hx hb d_Model_argument_66 (by decide) ?_
        obtain ⟨g_67, hf⟩ := gd_ hf
        refine va_iast hx hb hK hP hD hS 7 1 rfl rfl (inB_in g_67) d_Model_argument_67 (fun H locs hP hD hS => ?_)
        have hP : va_P (gD G) vwCl (w_Model_clear G qt qt_draft t_draft t_drafted qt_result t_result t_length t_arguments qt_kinds t_kinds qt_values t_values qt_widths t_widths qt_below t_below qt_sizes (upd z45.2 (((32 : Int32) * t_arguments) + z45.1).toNatClampNeg (0 : Int32)) qt_scales t_scales qt_parts t_parts qt_texts t_texts qt_lengths t_lengths t_end t_index t_flags t_twice t_width t_precision t_conversion t_broken qt_piece t_piece t_put t_head qt_tens t_tens t_count t_exponent qt_work t_work) H := hP
        have hD : va_D A (w_Model_clear G qt qt_draft t_draft t_drafted qt_result t_result t_length t_arguments qt_kinds t_kinds qt_values t_values qt_widths t_widths qt_below t_below qt_sizes (upd z45.2 (((32 : Int32) * t_arguments) + z45.1).toNatClampNeg (0 : Int32)) qt_scales t_scales qt_parts t_parts qt_texts t_texts qt_lengths t_lengths t_end t_index t_flags t_twice t_width t_precision t_conversion t_broken qt_piece t_piece t_put t_head qt_tens t_tens t_count t_exponent qt_work t_work) := hD
        refine lv_iinc (v := (z45.1 + 1)) (lv' := [(5, .int (z45.1 + 1)), (0, .ref qt)]) hx hb d_Model_argument_68 hl (k := 1) rfl rfl (by decide) rfl (fun ls hl => ?_)
        refine lv_goto (tgt := 45) hx hb d_Model_argument_71 (by decide) ?_
        exact ih_45 ((z45.1 + 1), (upd z45.2 (((32 : Int32) * t_arguments) + z45.1).toNatClampNeg (0 : Int32)))  hf _ _ _ hP hD hS (lv_sub hl [1, 0] rfl)
  unfold f_Model_argument at hf
  refine lv_aload_n hx hb d_Model_argument_0 rfl (lv_at hl 0 rfl) ?_
  refine va_get (D := gD G) (ci := 7) (v := .int t_arguments) (C := R_Model) (T := F_Model) (N := 29) hx hb hg in_Model hown hK hP 0 rfl rfl 4 (by decide) (hg _ m_381) (fun _ h9 => h9) rfl d_Model_argument_1 ?_
  refine lv_bipush (v := 12) hx hb d_Model_argument_4 (by decide) ?_
  refine lv_icmp_ne (tgt := 11) hx hb d_Model_argument_6 (by decide) (fun c_6 => ?_) (fun c_6 => ?_)
  · have hf := in_ c_6 hf
    refine lv_aload_n hx hb d_Model_argument_11 rfl (lv_at hl 0 rfl) ?_
    refine va_get (D := gD G) (ci := 7) (v := .ref qt_kinds) (C := R_Model) (T := F_Model) (N := 29) hx hb hg in_Model hown hK hP 0 rfl rfl 5 (by decide) (hg _ m_382) (fun _ h9 => h9) rfl d_Model_argument_12 ?_
    refine lv_aload_n hx hb d_Model_argument_15 rfl (lv_at hl 0 rfl) ?_
    refine va_get (D := gD G) (ci := 7) (v := .int t_arguments) (C := R_Model) (T := F_Model) (N := 29) hx hb hg in_Model hown hK hP 0 rfl rfl 4 (by decide) (hg _ m_381) (fun _ h9 => h9) rfl d_Model_argument_16 ?_
    refine lv_iload_n hx hb d_Model_argument_19 rfl (lv_at hl 1 rfl) ?_
    obtain ⟨g_20, hf⟩ := gd_ hf
    refine va_iast hx hb hK hP hD hS 3 1 rfl rfl (inB_in g_20) d_Model_argument_20 (fun H locs hP hD hS => ?_)
    have hP : va_P (gD G) vwCl (w_Model_clear G qt qt_draft t_draft t_drafted qt_result t_result t_length t_arguments qt_kinds (upd t_kinds t_arguments.toNatClampNeg a1) qt_values t_values qt_widths t_widths qt_below t_below qt_sizes t_sizes qt_scales t_scales qt_parts t_parts qt_texts t_texts qt_lengths t_lengths t_end t_index t_flags t_twice t_width t_precision t_conversion t_broken qt_piece t_piece t_put t_head qt_tens t_tens t_count t_exponent qt_work t_work) H := hP
    have hD : va_D A (w_Model_clear G qt qt_draft t_draft t_drafted qt_result t_result t_length t_arguments qt_kinds (upd t_kinds t_arguments.toNatClampNeg a1) qt_values t_values qt_widths t_widths qt_below t_below qt_sizes t_sizes qt_scales t_scales qt_parts t_parts qt_texts t_texts qt_lengths t_lengths t_end t_index t_flags t_twice t_width t_precision t_conversion t_broken qt_piece t_piece t_put t_head qt_tens t_tens t_count t_exponent qt_work t_work) := hD
    refine lv_aload_n hx hb d_Model_argument_21 rfl (lv_at hl 0 rfl) ?_
    refine va_get (D := gD G) (ci := 7) (v := .ref qt_values) (C := R_Model) (T := F_Model) (N := 29) hx hb hg in_Model hown hK hP 0 rfl rfl 6 (by decide) (hg _ m_383) (fun _ h9 => h9) rfl d_Model_argument_22 ?_
    refine lv_aload_n hx hb d_Model_argument_25 rfl (lv_at hl 0 rfl) ?_
    refine va_get (D := gD G) (ci := 7) (v := .int t_arguments) (C := R_Model) (T := F_Model) (N := 29) hx hb hg in_Model hown hK hP 0 rfl rfl 4 (by decide) (hg _ m_381) (fun _ h9 => h9) rfl d_Model_argument_26 ?_
    refine lv_lload_n hx hb d_Model_argument_29 rfl (lv_at hl 2 rfl) ?_
    obtain ⟨g_30, hf⟩ := gd_ hf
    refine va_last hx hb hK hP hD hS 4 2 rfl rfl (inB_in g_30) d_Model_argument_30 (fun H locs hP hD hS => ?_)
    have hP : va_P (gD G) vwCl (w_Model_clear G qt qt_draft t_draft t_drafted qt_result t_result t_length t_arguments qt_kinds (upd t_kinds t_arguments.toNatClampNeg a1) qt_values (vp_updL t_values t_arguments.toNatClampNeg a2) qt_widths t_widths qt_below t_below qt_sizes t_sizes qt_scales t_scales qt_parts t_parts qt_texts t_texts qt_lengths t_lengths t_end t_index t_flags t_twice t_width t_precision t_conversion t_broken qt_piece t_piece t_put t_head qt_tens t_tens t_count t_exponent qt_work t_work) H := hP
    have hD : va_D A (w_Model_clear G qt qt_draft t_draft t_drafted qt_result t_result t_length t_arguments qt_kinds (upd t_kinds t_arguments.toNatClampNeg a1) qt_values (vp_updL t_values t_arguments.toNatClampNeg a2) qt_widths t_widths qt_below t_below qt_sizes t_sizes qt_scales t_scales qt_parts t_parts qt_texts t_texts qt_lengths t_lengths t_end t_index t_flags t_twice t_width t_precision t_conversion t_broken qt_piece t_piece t_put t_head qt_tens t_tens t_count t_exponent qt_work t_work) := hD
    refine lv_aload_n hx hb d_Model_argument_31 rfl (lv_at hl 0 rfl) ?_
    refine va_get (D := gD G) (ci := 7) (v := .ref qt_below) (C := R_Model) (T := F_Model) (N := 29) hx hb hg in_Model hown hK hP 0 rfl rfl 8 (by decide) (hg _ m_384) (fun _ h9 => h9) rfl d_Model_argument_32 ?_
    refine lv_aload_n hx hb d_Model_argument_35 rfl (lv_at hl 0 rfl) ?_
    refine va_get (D := gD G) (ci := 7) (v := .int t_arguments) (C := R_Model) (T := F_Model) (N := 29) hx hb hg in_Model hown hK hP 0 rfl rfl 4 (by decide) (hg _ m_381) (fun _ h9 => h9) rfl d_Model_argument_36 ?_
    refine lv_iload hx hb d_Model_argument_39 (lv_at hl 3 rfl) ?_
    obtain ⟨g_41, hf⟩ := gd_ hf
    refine va_zast hx hb hK hP hD hS 6 3 rfl rfl (inB_in g_41) d_Model_argument_41 (fun H locs hP hD hS => ?_)
    have hP : va_P (gD G) vwCl (w_Model_clear G qt qt_draft t_draft t_drafted qt_result t_result t_length t_arguments qt_kinds (upd t_kinds t_arguments.toNatClampNeg a1) qt_values (vp_updL t_values t_arguments.toNatClampNeg a2) qt_widths t_widths qt_below (upd t_below t_arguments.toNatClampNeg (vp_nar .boolean a3)) qt_sizes t_sizes qt_scales t_scales qt_parts t_parts qt_texts t_texts qt_lengths t_lengths t_end t_index t_flags t_twice t_width t_precision t_conversion t_broken qt_piece t_piece t_put t_head qt_tens t_tens t_count t_exponent qt_work t_work) H := hP
    have hD : va_D A (w_Model_clear G qt qt_draft t_draft t_drafted qt_result t_result t_length t_arguments qt_kinds (upd t_kinds t_arguments.toNatClampNeg a1) qt_values (vp_updL t_values t_arguments.toNatClampNeg a2) qt_widths t_widths qt_below (upd t_below t_arguments.toNatClampNeg (vp_nar .boolean a3)) qt_sizes t_sizes qt_scales t_scales qt_parts t_parts qt_texts t_texts qt_lengths t_lengths t_end t_index t_flags t_twice t_width t_precision t_conversion t_broken qt_piece t_piece t_put t_head qt_tens t_tens t_count t_exponent qt_work t_work) := hD
    refine lv_iconst (v := 0) hx hb d_Model_argument_42 (by decide) ?_
    refine lv_istore (lv' := [(5, .int (0 : Int32)), (0, .ref qt), (1, .int a1), (2, .long a2), (4, .int a3)]) hx hb d_Model_argument_43 hl (by decide) rfl (fun ls hl => ?_)
    exact W_45 t_arguments (upd t_kinds t_arguments.toNatClampNeg a1) (vp_updL t_values t_arguments.toNatClampNeg a2) (upd t_below t_arguments.toNatClampNeg (vp_nar .boolean a3))  K ((0 : Int32), t_sizes)  hf _ _ _ hP hD hS (lv_sub hl [1, 0] rfl)
  · have hf := ip_ c_6 hf
    refine lv_iconst (v := -1) hx hb d_Model_argument_9 (by decide) ?_
    obtain rfl := Option.some.inj hf
    rw [← hQ]
    exact W.iret (v := (-1 : Int32)) hx hb hr (fun t9 ht hW => ⟨⟨(-1 : Int32), (), rfl, rfl, ⟨by rw [ht]; exact hP, hD⟩⟩, hS.F ht⟩) hS.2.2 d_Model_argument_10
theorem d_Model_nothing_0 : decode cd_Model_nothing 0 = .ok (.aload_n 0, 1) := by decide +kernel
theorem d_Model_nothing_1 : decode cd_Model_nothing 1 = .ok (.iconst 0, 1) := by decide +kernel
theorem d_Model_nothing_2 : decode cd_Model_nothing 2 = .ok (.lconst 0, 1) := by decide +kernel
theorem d_Model_nothing_3 : decode cd_Model_nothing 3 = .ok (.iconst 0, 1) := by decide +kernel
theorem d_Model_nothing_4 : decode cd_Model_nothing 4 = .ok (.invokevirtual 63, 3) := by decide +kernel
theorem d_Model_nothing_7 : decode cd_Model_nothing 7 = .ok (.ireturn, 1) := by decide +kernel
theorem m_386 : Cond.methodLink R_Model 63 y_Model_argument ∈ gw := gm (i := 962) (by decide +kernel) (by decide +kernel)
theorem m_387 : Cond.instanceMethod y_Model_argument ∈ gw := gm (i := 964) (by decide +kernel) (by decide +kernel)
theorem m_388 : Cond.selects R_Model y_Model_argument y_Model_argument ∈ gw := gm (i := 38) (by decide +kernel) (by decide +kernel)
theorem m_389 : Cond.initialized R_Model ∈ gw := gm (i := 92) (by decide +kernel) (by decide +kernel)
set_option maxRecDepth 100000 in
theorem m_390 : Cond.code y_Model_argument cd_Model_argument 6 (some .int) ∈ gw := gm (i := 965) rfl rfl
def f_Model_nothing (K : Nat) (t_arguments : Int32) (t_kinds : Nat → Int32) (t_values : Nat → Int64) (t_below : Nat → Int32) (t_sizes : Nat → Int32) : Option (Int32 × Int32 × (Nat → Int32) × (Nat → Int64) × (Nat → Int32) × (Nat → Int32)) :=
  ((f_Model_argument K t_arguments t_kinds t_values t_below t_sizes (0 : Int32) (0 : Int64) (0 : Int32)).bind fun u_4 => some (u_4.1, u_4.2.1, u_4.2.2.1, u_4.2.2.2.1, u_4.2.2.2.2.1, u_4.2.2.2.2.2))
set_option maxHeartbeats 4000000 in
set_option maxRecDepth 100000 in
theorem c_Model_nothing (l : Launch) (G : Gt) (K : Nat) (qt : Nat) (qt_draft : Nat) (t_draft : Nat → Int32) (t_drafted : Int32) (qt_result : Nat) (t_result : Nat → Int32) (t_length : Int32) (t_arguments : Int32) (qt_kinds : Nat) (t_kinds : Nat → Int32) (qt_values : Nat) (t_values : Nat → Int64) (qt_widths : Nat) (t_widths : Nat → Int32) (qt_below : Nat) (t_below : Nat → Int32) (qt_sizes : Nat) (t_sizes : Nat → Int32) (qt_scales : Nat) (t_scales : Nat → Int32) (qt_parts : Nat) (t_parts : Nat → Int64) (qt_texts : Nat) (t_texts : Nat → Int32) (qt_lengths : Nat) (t_lengths : Nat → Int32) (t_end : Int32) (t_index : Int32) (t_flags : Int32) (t_twice : Int32) (t_width : Int32) (t_precision : Int32) (t_conversion : Int32) (t_broken : Int32) (qt_piece : Nat) (t_piece : Nat → Int32) (t_put : Int32) (t_head : Int32) (qt_tens : Nat) (t_tens : Nat → Int32) (t_count : Int32) (t_exponent : Int32) (qt_work : Nat) (t_work : Nat → Int32) (sz : Nat) (res : Int32 × Int32 × (Nat → Int32) × (Nat → Int64) × (Nat → Int32) × (Nat → Int32))   (hf : f_Model_nothing K t_arguments t_kinds t_values t_below t_sizes = some res) : Met l y_Model_nothing (.code y_Model_nothing cd_Model_nothing 1 (some .int) :: gw) { frames := 1, cells := 0, slots := 0, locals := 40 } (PC G ([.ref qt] : List Value) sz (w_Model_clear G qt qt_draft t_draft t_drafted qt_result t_result t_length t_arguments qt_kinds t_kinds qt_values t_values qt_widths t_widths qt_below t_below qt_sizes t_sizes qt_scales t_scales qt_parts t_parts qt_texts t_texts qt_lengths t_lengths t_end t_index t_flags t_twice t_width t_precision t_conversion t_broken qt_piece t_piece t_put t_head qt_tens t_tens t_count t_exponent qt_work t_work)) (QI G res.1 (va_A (w_Model_clear G qt qt_draft t_draft t_drafted qt_result t_result t_length t_arguments qt_kinds t_kinds qt_values t_values qt_widths t_widths qt_below t_below qt_sizes t_sizes qt_scales t_scales qt_parts t_parts qt_texts t_texts qt_lengths t_lengths t_end t_index t_flags t_twice t_width t_precision t_conversion t_broken qt_piece t_piece t_put t_head qt_tens t_tens t_count t_exponent qt_work t_work) sz) (w_Model_clear G qt qt_draft t_draft t_drafted qt_result t_result t_length res.2.1 qt_kinds res.2.2.1 qt_values res.2.2.2.1 qt_widths t_widths qt_below res.2.2.2.2.1 qt_sizes res.2.2.2.2.2 qt_scales t_scales qt_parts t_parts qt_texts t_texts qt_lengths t_lengths t_end t_index t_flags t_twice t_width t_precision t_conversion t_broken qt_piece t_piece t_put t_head qt_tens t_tens t_count t_exponent qt_work t_work)) 0 0 (va_A (w_Model_clear G qt qt_draft t_draft t_drafted qt_result t_result t_length t_arguments qt_kinds t_kinds qt_values t_values qt_widths t_widths qt_below t_below qt_sizes t_sizes qt_scales t_scales qt_parts t_parts qt_texts t_texts qt_lengths t_lengths t_end t_index t_flags t_twice t_width t_precision t_conversion t_broken qt_piece t_piece t_put t_head qt_tens t_tens t_count t_exponent qt_work t_work) sz) := by
  refine Met.ofW (cc := cd_Model_nothing) (maxL := 1) (ret := (some .int)) (by decide) rfl ?_
  intro p e s m args below meth c s₁ B hml hv
  obtain ⟨rfl, hsz, hP, hE, hD0⟩ := hv
  have hx := B.exec
  have hb := B.bytes
  have hr := B.returns
  have hts := atoms_spec (ws := (.code y_Model_nothing cd_Model_nothing 1 (some .int) :: gw)) B.pre
  have hg : ∀ w ∈ gw, w.before _ s = true := fun w h => hts w (List.mem_cons_of_mem _ h)
  have hown : s.vm.findClass R_Model = some m.cls := findClass_of_methodNamed B.named
  have hlocks := B.notSynchronized
  subst hsz
  have hK := hE.K
  have hD := hD0.self (sz := s.heap.size)
  have hAb := hE.ab hD0
  obtain ⟨Q, hQ⟩ : ∃ Q, MQ below (QI G res.1 (va_A (w_Model_clear G qt qt_draft t_draft t_drafted qt_result t_result t_length t_arguments qt_kinds t_kinds qt_values t_values qt_widths t_widths qt_below t_below qt_sizes t_sizes qt_scales t_scales qt_parts t_parts qt_texts t_texts qt_lengths t_lengths t_end t_index t_flags t_twice t_width t_precision t_conversion t_broken qt_piece t_piece t_put t_head qt_tens t_tens t_count t_exponent qt_work t_work) s.heap.size) (w_Model_clear G qt qt_draft t_draft t_drafted qt_result t_result t_length res.2.1 qt_kinds res.2.2.1 qt_values res.2.2.2.1 qt_widths t_widths qt_below res.2.2.2.2.1 qt_sizes res.2.2.2.2.2 qt_scales t_scales qt_parts t_parts qt_texts t_texts qt_lengths t_lengths t_end t_index t_flags t_twice t_width t_precision t_conversion t_broken qt_piece t_piece t_put t_head qt_tens t_tens t_count t_exponent qt_work t_work)) ([.ref qt] : List Value).toArray s 0 0 (va_A (w_Model_clear G qt qt_draft t_draft t_drafted qt_result t_result t_length t_arguments qt_kinds t_kinds qt_values t_values qt_widths t_widths qt_below t_below qt_sizes t_sizes qt_scales t_scales qt_parts t_parts qt_texts t_texts qt_lengths t_lengths t_end t_index t_flags t_twice t_width t_precision t_conversion t_broken qt_piece t_piece t_put t_head qt_tens t_tens t_count t_exponent qt_work t_work) s.heap.size) = Q := ⟨_, rfl⟩
  show W p l e { frames := 1, cells := 0, slots := 0, locals := 40 } s m ([.ref qt] : List Value).toArray below meth c s.heap [] 0 0 (MQ below (QI G res.1 (va_A (w_Model_clear G qt qt_draft t_draft t_drafted qt_result t_result t_length t_arguments qt_kinds t_kinds qt_values t_values qt_widths t_widths qt_below t_below qt_sizes t_sizes qt_scales t_scales qt_parts t_parts qt_texts t_texts qt_lengths t_lengths t_end t_index t_flags t_twice t_width t_precision t_conversion t_broken qt_piece t_piece t_put t_head qt_tens t_tens t_count t_exponent qt_work t_work) s.heap.size) (w_Model_clear G qt qt_draft t_draft t_drafted qt_result t_result t_length res.2.1 qt_kinds res.2.2.1 qt_values res.2.2.2.1 qt_widths t_widths qt_below res.2.2.2.2.1 qt_sizes res.2.2.2.2.2 qt_scales t_scales qt_parts t_parts qt_texts t_texts qt_lengths t_lengths t_end t_index t_flags t_twice t_width t_precision t_conversion t_broken qt_piece t_piece t_put t_head qt_tens t_tens t_count t_exponent qt_work t_work)) ([.ref qt] : List Value).toArray s 0 0 (va_A (w_Model_clear G qt qt_draft t_draft t_drafted qt_result t_result t_length t_arguments qt_kinds t_kinds qt_values t_values qt_widths t_widths qt_below t_below qt_sizes t_sizes qt_scales t_scales qt_parts t_parts qt_texts t_texts qt_lengths t_lengths t_end t_index t_flags t_twice t_width t_precision t_conversion t_broken qt_piece t_piece t_put t_head qt_tens t_tens t_count t_exponent qt_work t_work) s.heap.size)) _
  rw [hQ]
  have hA : ∀ q : Nat, s.heap.size ≤ q → va_A (w_Model_clear G qt qt_draft t_draft t_drafted qt_result t_result t_length t_arguments qt_kinds t_kinds qt_values t_values qt_widths t_widths qt_below t_below qt_sizes t_sizes qt_scales t_scales qt_parts t_parts qt_texts t_texts qt_lengths t_lengths t_end t_index t_flags t_twice t_width t_precision t_conversion t_broken qt_piece t_piece t_put t_head qt_tens t_tens t_count t_exponent qt_work t_work) s.heap.size q := fun q h => Or.inr h
  obtain ⟨A, hAe⟩ : ∃ A, va_A (w_Model_clear G qt qt_draft t_draft t_drafted qt_result t_result t_length t_arguments qt_kinds t_kinds qt_values t_values qt_widths t_widths qt_below t_below qt_sizes t_sizes qt_scales t_scales qt_parts t_parts qt_texts t_texts qt_lengths t_lengths t_end t_index t_flags t_twice t_width t_precision t_conversion t_broken qt_piece t_piece t_put t_head qt_tens t_tens t_count t_exponent qt_work t_work) s.heap.size = A := ⟨_, rfl⟩
  rw [hAe] at hA hD hAb hQ
  have hS : va_S A s.heap s.heap [] := va_S.rf
  have hl := lv_entry (([.ref qt] : List Value)) (n := 1) (Nat.le_of_ble_eq_true rfl)
  rw [lg_entry_eq]
  generalize (lg_sl (([.ref qt] : List Value)) ++ List.replicate (1 - (lg_sl (([.ref qt] : List Value))).length) Slot.unset).toArray = ls at hl ⊢
  have hl : lv_has ls 1 [(0, .ref qt)] := hl
  unfold f_Model_nothing at hf
  refine lv_aload_n hx hb d_Model_nothing_0 rfl (lv_at hl 0 rfl) ?_
  refine lv_iconst (v := 0) hx hb d_Model_nothing_1 (by decide) ?_
  refine lv_lconst (v := 0) hx hb d_Model_nothing_2 (by decide) ?_
  refine lv_iconst (v := 0) hx hb d_Model_nothing_3 (by decide) ?_
  obtain ⟨u_4, hu_4, hf⟩ := bd_ hf
  refine CALLWi (va_runV (As := [.int (0 : Int32), .long (0 : Int64), .int (0 : Int32)]) (rest := []) ⟨hx, hb, hml, hown, hg⟩ (c_Model_argument l G K qt qt_draft t_draft t_drafted qt_result t_result t_length t_arguments qt_kinds t_kinds qt_values t_values qt_widths t_widths qt_below t_below qt_sizes t_sizes qt_scales t_scales qt_parts t_parts qt_texts t_texts qt_lengths t_lengths t_end t_index t_flags t_twice t_width t_precision t_conversion t_broken qt_piece t_piece t_put t_head qt_tens t_tens t_count t_exponent qt_work t_work (0 : Int32) (0 : Int64) (0 : Int32) _ u_4 bl_0 hu_4) (cwV 3 hg (gV m_386 m_387 m_388 m_389 m_390) rfl rfl rfl (by decide +kernel) ⟨Nat.le_of_ble_eq_true rfl, Nat.le_of_ble_eq_true rfl⟩) ⟨PC_b, va_recv hK hP (ci := 7) (q0 := 0) rfl rfl, PC_p hE hS hAb hP hD⟩ rfl rfl hl.1 rfl (lv_room (Nat.le_of_ble_eq_true rfl)) d_Model_nothing_4 ⟨Nat.zero_le _, Nat.zero_le _⟩) hP hD hS hA (fun H locs hP hD hS => ?_)
  have hP : va_P (gD G) vwCl (w_Model_clear G qt qt_draft t_draft t_drafted qt_result t_result t_length u_4.2.1 qt_kinds u_4.2.2.1 qt_values u_4.2.2.2.1 qt_widths t_widths qt_below u_4.2.2.2.2.1 qt_sizes u_4.2.2.2.2.2 qt_scales t_scales qt_parts t_parts qt_texts t_texts qt_lengths t_lengths t_end t_index t_flags t_twice t_width t_precision t_conversion t_broken qt_piece t_piece t_put t_head qt_tens t_tens t_count t_exponent qt_work t_work) H := hP
  have hD : va_D A (w_Model_clear G qt qt_draft t_draft t_drafted qt_result t_result t_length u_4.2.1 qt_kinds u_4.2.2.1 qt_values u_4.2.2.2.1 qt_widths t_widths qt_below u_4.2.2.2.2.1 qt_sizes u_4.2.2.2.2.2 qt_scales t_scales qt_parts t_parts qt_texts t_texts qt_lengths t_lengths t_end t_index t_flags t_twice t_width t_precision t_conversion t_broken qt_piece t_piece t_put t_head qt_tens t_tens t_count t_exponent qt_work t_work) := hD
  obtain rfl := Option.some.inj hf
  rw [← hQ]
  exact W.iret (v := u_4.1) hx hb hr (fun t9 ht hW => ⟨⟨u_4.1, (), rfl, rfl, ⟨by rw [ht]; exact hP, hD⟩⟩, hS.F ht⟩) hS.2.2 d_Model_nothing_7
theorem d_Model_truth_0 : decode cd_Model_truth 0 = .ok (.aload_n 0, 1) := by decide +kernel
theorem d_Model_truth_1 : decode cd_Model_truth 1 = .ok (.iconst 1, 1) := by decide +kernel
theorem d_Model_truth_2 : decode cd_Model_truth 2 = .ok (.iload_n 1, 1) := by decide +kernel
theorem d_Model_truth_3 : decode cd_Model_truth 3 = .ok (.ifCond .eq 7, 3) := by decide +kernel
theorem d_Model_truth_6 : decode cd_Model_truth 6 = .ok (.lconst 1, 1) := by decide +kernel
theorem d_Model_truth_7 : decode cd_Model_truth 7 = .ok (.goto 4, 3) := by decide +kernel
theorem d_Model_truth_10 : decode cd_Model_truth 10 = .ok (.lconst 0, 1) := by decide +kernel
theorem d_Model_truth_11 : decode cd_Model_truth 11 = .ok (.iconst 0, 1) := by decide +kernel
theorem d_Model_truth_12 : decode cd_Model_truth 12 = .ok (.invokevirtual 63, 3) := by decide +kernel
theorem d_Model_truth_15 : decode cd_Model_truth 15 = .ok (.ireturn, 1) := by decide +kernel
def k_Model_truth_11 (K : Nat) (k1 : Int32) (k2 : Int64) (t_arguments : Int32) (t_kinds : (Nat → Int32)) (t_values : (Nat → Int64)) (t_below : (Nat → Int32)) (t_sizes : (Nat → Int32)) : Option (Int32 × Int32 × (Nat → Int32) × (Nat → Int64) × (Nat → Int32) × (Nat → Int32)) :=
  ((f_Model_argument K t_arguments t_kinds t_values t_below t_sizes k1 k2 (0 : Int32)).bind fun u_12 => some (u_12.1, u_12.2.1, u_12.2.2.1, u_12.2.2.2.1, u_12.2.2.2.2.1, u_12.2.2.2.2.2))
def f_Model_truth (K : Nat) (t_arguments : Int32) (t_kinds : Nat → Int32) (t_values : Nat → Int64) (t_below : Nat → Int32) (t_sizes : Nat → Int32) (a1 : Int32) : Option (Int32 × Int32 × (Nat → Int32) × (Nat → Int64) × (Nat → Int32) × (Nat → Int32)) :=
  (if a1 = 0 then k_Model_truth_11 K (1 : Int32) (0 : Int64) t_arguments t_kinds t_values t_below t_sizes else k_Model_truth_11 K (1 : Int32) (1 : Int64) t_arguments t_kinds t_values t_below t_sizes)
set_option maxHeartbeats 4000000 in
set_option maxRecDepth 100000 in
theorem c_Model_truth (l : Launch) (G : Gt) (K : Nat) (qt : Nat) (qt_draft : Nat) (t_draft : Nat → Int32) (t_drafted : Int32) (qt_result : Nat) (t_result : Nat → Int32) (t_length : Int32) (t_arguments : Int32) (qt_kinds : Nat) (t_kinds : Nat → Int32) (qt_values : Nat) (t_values : Nat → Int64) (qt_widths : Nat) (t_widths : Nat → Int32) (qt_below : Nat) (t_below : Nat → Int32) (qt_sizes : Nat) (t_sizes : Nat → Int32) (qt_scales : Nat) (t_scales : Nat → Int32) (qt_parts : Nat) (t_parts : Nat → Int64) (qt_texts : Nat) (t_texts : Nat → Int32) (qt_lengths : Nat) (t_lengths : Nat → Int32) (t_end : Int32) (t_index : Int32) (t_flags : Int32) (t_twice : Int32) (t_width : Int32) (t_precision : Int32) (t_conversion : Int32) (t_broken : Int32) (qt_piece : Nat) (t_piece : Nat → Int32) (t_put : Int32) (t_head : Int32) (qt_tens : Nat) (t_tens : Nat → Int32) (t_count : Int32) (t_exponent : Int32) (qt_work : Nat) (t_work : Nat → Int32) (a1 : Int32) (sz : Nat) (res : Int32 × Int32 × (Nat → Int32) × (Nat → Int64) × (Nat → Int32) × (Nat → Int32)) (hb_a1 : bl a1)  (hf : f_Model_truth K t_arguments t_kinds t_values t_below t_sizes a1 = some res) : Met l y_Model_truth (.code y_Model_truth cd_Model_truth 2 (some .int) :: gw) { frames := 1, cells := 0, slots := 0, locals := 40 } (PC G ([.ref qt, .int a1] : List Value) sz (w_Model_clear G qt qt_draft t_draft t_drafted qt_result t_result t_length t_arguments qt_kinds t_kinds qt_values t_values qt_widths t_widths qt_below t_below qt_sizes t_sizes qt_scales t_scales qt_parts t_parts qt_texts t_texts qt_lengths t_lengths t_end t_index t_flags t_twice t_width t_precision t_conversion t_broken qt_piece t_piece t_put t_head qt_tens t_tens t_count t_exponent qt_work t_work)) (QI G res.1 (va_A (w_Model_clear G qt qt_draft t_draft t_drafted qt_result t_result t_length t_arguments qt_kinds t_kinds qt_values t_values qt_widths t_widths qt_below t_below qt_sizes t_sizes qt_scales t_scales qt_parts t_parts qt_texts t_texts qt_lengths t_lengths t_end t_index t_flags t_twice t_width t_precision t_conversion t_broken qt_piece t_piece t_put t_head qt_tens t_tens t_count t_exponent qt_work t_work) sz) (w_Model_clear G qt qt_draft t_draft t_drafted qt_result t_result t_length res.2.1 qt_kinds res.2.2.1 qt_values res.2.2.2.1 qt_widths t_widths qt_below res.2.2.2.2.1 qt_sizes res.2.2.2.2.2 qt_scales t_scales qt_parts t_parts qt_texts t_texts qt_lengths t_lengths t_end t_index t_flags t_twice t_width t_precision t_conversion t_broken qt_piece t_piece t_put t_head qt_tens t_tens t_count t_exponent qt_work t_work)) 0 0 (va_A (w_Model_clear G qt qt_draft t_draft t_drafted qt_result t_result t_length t_arguments qt_kinds t_kinds qt_values t_values qt_widths t_widths qt_below t_below qt_sizes t_sizes qt_scales t_scales qt_parts t_parts qt_texts t_texts qt_lengths t_lengths t_end t_index t_flags t_twice t_width t_precision t_conversion t_broken qt_piece t_piece t_put t_head qt_tens t_tens t_count t_exponent qt_work t_work) sz) := by
  refine Met.ofW (cc := cd_Model_truth) (maxL := 2) (ret := (some .int)) (by decide) rfl ?_
  intro p e s m args below meth c s₁ B hml hv
  obtain ⟨rfl, hsz, hP, hE, hD0⟩ := hv
  have hx := B.exec
  have hb := B.bytes
  have hr := B.returns
  have hts := atoms_spec (ws := (.code y_Model_truth cd_Model_truth 2 (some .int) :: gw)) B.pre
  have hg : ∀ w ∈ gw, w.before _ s = true := fun w h => hts w (List.mem_cons_of_mem _ h)
  have hown : s.vm.findClass R_Model = some m.cls := findClass_of_methodNamed B.named
  have hlocks := B.notSynchronized
  subst hsz
  have hK := hE.K
  have hD := hD0.self (sz := s.heap.size)
  have hAb := hE.ab hD0
  obtain ⟨Q, hQ⟩ : ∃ Q, MQ below (QI G res.1 (va_A (w_Model_clear G qt qt_draft t_draft t_drafted qt_result t_result t_length t_arguments qt_kinds t_kinds qt_values t_values qt_widths t_widths qt_below t_below qt_sizes t_sizes qt_scales t_scales qt_parts t_parts qt_texts t_texts qt_lengths t_lengths t_end t_index t_flags t_twice t_width t_precision t_conversion t_broken qt_piece t_piece t_put t_head qt_tens t_tens t_count t_exponent qt_work t_work) s.heap.size) (w_Model_clear G qt qt_draft t_draft t_drafted qt_result t_result t_length res.2.1 qt_kinds res.2.2.1 qt_values res.2.2.2.1 qt_widths t_widths qt_below res.2.2.2.2.1 qt_sizes res.2.2.2.2.2 qt_scales t_scales qt_parts t_parts qt_texts t_texts qt_lengths t_lengths t_end t_index t_flags t_twice t_width t_precision t_conversion t_broken qt_piece t_piece t_put t_head qt_tens t_tens t_count t_exponent qt_work t_work)) ([.ref qt, .int a1] : List Value).toArray s 0 0 (va_A (w_Model_clear G qt qt_draft t_draft t_drafted qt_result t_result t_length t_arguments qt_kinds t_kinds qt_values t_values qt_widths t_widths qt_below t_below qt_sizes t_sizes qt_scales t_scales qt_parts t_parts qt_texts t_texts qt_lengths t_lengths t_end t_index t_flags t_twice t_width t_precision t_conversion t_broken qt_piece t_piece t_put t_head qt_tens t_tens t_count t_exponent qt_work t_work) s.heap.size) = Q := ⟨_, rfl⟩
  show W p l e { frames := 1, cells := 0, slots := 0, locals := 40 } s m ([.ref qt, .int a1] : List Value).toArray below meth c s.heap [] 0 0 (MQ below (QI G res.1 (va_A (w_Model_clear G qt qt_draft t_draft t_drafted qt_result t_result t_length t_arguments qt_kinds t_kinds qt_values t_values qt_widths t_widths qt_below t_below qt_sizes t_sizes qt_scales t_scales qt_parts t_parts qt_texts t_texts qt_lengths t_lengths t_end t_index t_flags t_twice t_width t_precision t_conversion t_broken qt_piece t_piece t_put t_head qt_tens t_tens t_count t_exponent qt_work t_work) s.heap.size) (w_Model_clear G qt qt_draft t_draft t_drafted qt_result t_result t_length res.2.1 qt_kinds res.2.2.1 qt_values res.2.2.2.1 qt_widths t_widths qt_below res.2.2.2.2.1 qt_sizes res.2.2.2.2.2 qt_scales t_scales qt_parts t_parts qt_texts t_texts qt_lengths t_lengths t_end t_index t_flags t_twice t_width t_precision t_conversion t_broken qt_piece t_piece t_put t_head qt_tens t_tens t_count t_exponent qt_work t_work)) ([.ref qt, .int a1] : List Value).toArray s 0 0 (va_A (w_Model_clear G qt qt_draft t_draft t_drafted qt_result t_result t_length t_arguments qt_kinds t_kinds qt_values t_values qt_widths t_widths qt_below t_below qt_sizes t_sizes qt_scales t_scales qt_parts t_parts qt_texts t_texts qt_lengths t_lengths t_end t_index t_flags t_twice t_width t_precision t_conversion t_broken qt_piece t_piece t_put t_head qt_tens t_tens t_count t_exponent qt_work t_work) s.heap.size)) _
  rw [hQ]
  have hA : ∀ q : Nat, s.heap.size ≤ q → va_A (w_Model_clear G qt qt_draft t_draft t_drafted qt_result t_result t_length t_arguments qt_kinds t_kinds qt_values t_values qt_widths t_widths qt_below t_below qt_sizes t_sizes qt_scales t_scales qt_parts t_parts qt_texts t_texts qt_lengths t_lengths t_end t_index t_flags t_twice t_width t_precision t_conversion t_broken qt_piece t_piece t_put t_head qt_tens t_tens t_count t_exponent qt_work t_work) s.heap.size q := fun q h => Or.inr h
  obtain ⟨A, hAe⟩ : ∃ A, va_A (w_Model_clear G qt qt_draft t_draft t_drafted qt_result t_result t_length t_arguments qt_kinds t_kinds qt_values t_values qt_widths t_widths qt_below t_below qt_sizes t_sizes qt_scales t_scales qt_parts t_parts qt_texts t_texts qt_lengths t_lengths t_end t_index t_flags t_twice t_width t_precision t_conversion t_broken qt_piece t_piece t_put t_head qt_tens t_tens t_count t_exponent qt_work t_work) s.heap.size = A := ⟨_, rfl⟩
  rw [hAe] at hA hD hAb hQ
  have hS : va_S A s.heap s.heap [] := va_S.rf
  have hl := lv_entry (([.ref qt, .int a1] : List Value)) (n := 2) (Nat.le_of_ble_eq_true rfl)
  rw [lg_entry_eq]
  generalize (lg_sl (([.ref qt, .int a1] : List Value)) ++ List.replicate (2 - (lg_sl (([.ref qt, .int a1] : List Value))).length) Slot.unset).toArray = ls at hl ⊢
  have hl : lv_has ls 2 [(0, .ref qt), (1, .int a1)] := hl
  have W_11 : ∀ (k1 : Int32) (k2 : Int64) (t_arguments : Int32) (t_kinds : (Nat → Int32)) (t_values : (Nat → Int64)) (t_below : (Nat → Int32)) (t_sizes : (Nat → Int32)) (b_k1 : bl k1), k_Model_truth_11 K k1 k2 t_arguments t_kinds t_values t_below t_sizes = some res → ∀ (H : Heap) (locs : List Loc) (ls : Array Slot), va_P (gD G) vwCl (w_Model_clear G qt qt_draft t_draft t_drafted qt_result t_result t_length t_arguments qt_kinds t_kinds qt_values t_values qt_widths t_widths qt_below t_below qt_sizes t_sizes qt_scales t_scales qt_parts t_parts qt_texts t_texts qt_lengths t_lengths t_end t_index t_flags t_twice t_width t_precision t_conversion t_broken qt_piece t_piece t_put t_head qt_tens t_tens t_count t_exponent qt_work t_work) H → va_D A (w_Model_clear G qt qt_draft t_draft t_drafted qt_result t_result t_length t_arguments qt_kinds t_kinds qt_values t_values qt_widths t_widths qt_below t_below qt_sizes t_sizes qt_scales t_scales qt_parts t_parts qt_texts t_texts qt_lengths t_lengths t_end t_index t_flags t_twice t_width t_precision t_conversion t_broken qt_piece t_piece t_put t_head qt_tens t_tens t_count t_exponent qt_work t_work) → va_S A s.heap H locs → lv_has ls 2 [] → W p l e { frames := 1, cells := 0, slots := 0, locals := 40 } s m ([.ref qt, .int a1] : List Value).toArray below meth c H locs 0 0 Q (F0 m 11 ls [.long k2, .int k1, .ref qt]) := by
    intro k1 k2 t_arguments t_kinds t_values t_below t_sizes b_k1 hf H locs ls hP hD hS hl
    unfold k_Model_truth_11 at hf
    refine lv_iconst (v := 0) hx hb d_Model_truth_11 (by decide) ?_
    obtain ⟨u_12, hu_12, hf⟩ := bd_ hf
    refine CALLWi (va_runV (As := [.int k1, .long k2, .int (0 : Int32)]) (rest := []) ⟨hx, hb, hml, hown, hg⟩ (c_Model_argument l G K qt qt_draft t_draft t_drafted qt_result t_result t_length t_arguments qt_kinds t_kinds qt_values t_values qt_widths t_widths qt_below t_below qt_sizes t_sizes qt_scales t_scales qt_parts t_parts qt_texts t_texts qt_lengths t_lengths t_end t_index t_flags t_twice t_width t_precision t_conversion t_broken qt_piece t_piece t_put t_head qt_tens t_tens t_count t_exponent qt_work t_work k1 k2 (0 : Int32) _ u_12 bl_0 hu_12) (cwV 3 hg (gV m_386 m_387 m_388 m_389 m_390) rfl rfl rfl (by decide +kernel) ⟨Nat.le_of_ble_eq_true rfl, Nat.le_of_ble_eq_true rfl⟩) ⟨PC_b, va_recv hK hP (ci := 7) (q0 := 0) rfl rfl, PC_p hE hS hAb hP hD⟩ rfl rfl hl.1 rfl (lv_room (Nat.le_of_ble_eq_true rfl)) d_Model_truth_12 ⟨Nat.zero_le _, Nat.zero_le _⟩) hP hD hS hA (fun H locs hP hD hS => ?_)
    have hP : va_P (gD G) vwCl (w_Model_clear G qt qt_draft t_draft t_drafted qt_result t_result t_length u_12.2.1 qt_kinds u_12.2.2.1 qt_values u_12.2.2.2.1 qt_widths t_widths qt_below u_12.2.2.2.2.1 qt_sizes u_12.2.2.2.2.2 qt_scales t_scales qt_parts t_parts qt_texts t_texts qt_lengths t_lengths t_end t_index t_flags t_twice t_width t_precision t_conversion t_broken qt_piece t_piece t_put t_head qt_tens t_tens t_count t_exponent qt_work t_work) H := hP
    have hD : va_D A (w_Model_clear G qt qt_draft t_draft t_drafted qt_result t_result t_length u_12.2.1 qt_kinds u_12.2.2.1 qt_values u_12.2.2.2.1 qt_widths t_widths qt_below u_12.2.2.2.2.1 qt_sizes u_12.2.2.2.2.2 qt_scales t_scales qt_parts t_parts qt_texts t_texts qt_lengths t_lengths t_end t_index t_flags t_twice t_width t_precision t_conversion t_broken qt_piece t_piece t_put t_head qt_tens t_tens t_count t_exponent qt_work t_work) := hD
    obtain rfl := Option.some.inj hf
    rw [← hQ]
    exact W.iret (v := u_12.1) hx hb hr (fun t9 ht hW => ⟨⟨u_12.1, (), rfl, rfl, ⟨by rw [ht]; exact hP, hD⟩⟩, hS.F ht⟩) hS.2.2 d_Model_truth_15
  unfold f_Model_truth at hf
  refine lv_aload_n hx hb d_Model_truth_0 rfl (lv_at hl 0 rfl) ?_
  refine lv_iconst (v := 1) hx hb d_Model_truth_1 (by decide) ?_
  refine lv_iload_n hx hb d_Model_truth_2 rfl (lv_at hl 1 rfl) ?_
  refine lv_if_eq (tgt := 10) hx hb d_Model_truth_3 (by decide) (fun c_3 => ?_) (fun c_3 => ?_)
  · have hf := ip_ c_3 hf
    refine lv_lconst (v := 0) hx hb d_Model_truth_10 (by decide) ?_
    exact W_11 (1 : Int32) (0 : Int64) t_arguments t_kinds t_values t_below t_sizes bl_1 hf _ _ _ hP hD hS (lv_sub hl [] rfl)
  · have hf := in_ c_3 hf
    refine lv_lconst (v := 1) hx hb d_Model_truth_6 (by decide) ?_
    refine lv_goto (tgt := 11) hx hb d_Model_truth_7 (by decide) ?_
    exact W_11 (1 : Int32) (1 : Int64) t_arguments t_kinds t_values t_below t_sizes bl_1 hf _ _ _ hP hD hS (lv_sub hl [] rfl)
theorem d_Model_character_0 : decode cd_Model_character 0 = .ok (.iload_n 1, 1) := by decide +kernel
theorem d_Model_character_1 : decode cd_Model_character 1 = .ok (.iconst 1, 1) := by decide +kernel
theorem d_Model_character_2 : decode cd_Model_character 2 = .ok (.if_icmp .lt 9, 3) := by decide +kernel
theorem d_Model_character_5 : decode cd_Model_character 5 = .ok (.iload_n 1, 1) := by decide +kernel
theorem d_Model_character_6 : decode cd_Model_character 6 = .ok (.bipush 126, 2) := by decide +kernel
theorem d_Model_character_8 : decode cd_Model_character 8 = .ok (.if_icmp .le 7, 3) := by decide +kernel
theorem d_Model_character_11 : decode cd_Model_character 11 = .ok (.iconst (-1), 1) := by decide +kernel
theorem d_Model_character_12 : decode cd_Model_character 12 = .ok (.goto 11, 3) := by decide +kernel
theorem d_Model_character_15 : decode cd_Model_character 15 = .ok (.aload_n 0, 1) := by decide +kernel
theorem d_Model_character_16 : decode cd_Model_character 16 = .ok (.iconst 2, 1) := by decide +kernel
theorem d_Model_character_17 : decode cd_Model_character 17 = .ok (.iload_n 1, 1) := by decide +kernel
theorem d_Model_character_18 : decode cd_Model_character 18 = .ok (.i2l, 1) := by decide +kernel
theorem d_Model_character_19 : decode cd_Model_character 19 = .ok (.iconst 0, 1) := by decide +kernel
theorem d_Model_character_20 : decode cd_Model_character 20 = .ok (.invokevirtual 63, 3) := by decide +kernel
theorem d_Model_character_23 : decode cd_Model_character 23 = .ok (.ireturn, 1) := by decide +kernel
def f_Model_character (K : Nat) (t_arguments : Int32) (t_kinds : Nat → Int32) (t_values : Nat → Int64) (t_below : Nat → Int32) (t_sizes : Nat → Int32) (a1 : Int32) : Option (Int32 × Int32 × (Nat → Int32) × (Nat → Int64) × (Nat → Int32) × (Nat → Int32)) :=
  (if a1 < (1 : Int32) then some ((-1 : Int32), t_arguments, t_kinds, t_values, t_below, t_sizes) else (if a1 ≤ (126 : Int32) then ((f_Model_argument K t_arguments t_kinds t_values t_below t_sizes (2 : Int32) a1.toInt64 (0 : Int32)).bind fun u_20 => some (u_20.1, u_20.2.1, u_20.2.2.1, u_20.2.2.2.1, u_20.2.2.2.2.1, u_20.2.2.2.2.2)) else some ((-1 : Int32), t_arguments, t_kinds, t_values, t_below, t_sizes)))
set_option maxHeartbeats 4000000 in
set_option maxRecDepth 100000 in
theorem c_Model_character (l : Launch) (G : Gt) (K : Nat) (qt : Nat) (qt_draft : Nat) (t_draft : Nat → Int32) (t_drafted : Int32) (qt_result : Nat) (t_result : Nat → Int32) (t_length : Int32) (t_arguments : Int32) (qt_kinds : Nat) (t_kinds : Nat → Int32) (qt_values : Nat) (t_values : Nat → Int64) (qt_widths : Nat) (t_widths : Nat → Int32) (qt_below : Nat) (t_below : Nat → Int32) (qt_sizes : Nat) (t_sizes : Nat → Int32) (qt_scales : Nat) (t_scales : Nat → Int32) (qt_parts : Nat) (t_parts : Nat → Int64) (qt_texts : Nat) (t_texts : Nat → Int32) (qt_lengths : Nat) (t_lengths : Nat → Int32) (t_end : Int32) (t_index : Int32) (t_flags : Int32) (t_twice : Int32) (t_width : Int32) (t_precision : Int32) (t_conversion : Int32) (t_broken : Int32) (qt_piece : Nat) (t_piece : Nat → Int32) (t_put : Int32) (t_head : Int32) (qt_tens : Nat) (t_tens : Nat → Int32) (t_count : Int32) (t_exponent : Int32) (qt_work : Nat) (t_work : Nat → Int32) (a1 : Int32) (sz : Nat) (res : Int32 × Int32 × (Nat → Int32) × (Nat → Int64) × (Nat → Int32) × (Nat → Int32))   (hf : f_Model_character K t_arguments t_kinds t_values t_below t_sizes a1 = some res) : Met l y_Model_character (.code y_Model_character cd_Model_character 2 (some .int) :: gw) { frames := 1, cells := 0, slots := 0, locals := 40 } (PC G ([.ref qt, .int a1] : List Value) sz (w_Model_clear G qt qt_draft t_draft t_drafted qt_result t_result t_length t_arguments qt_kinds t_kinds qt_values t_values qt_widths t_widths qt_below t_below qt_sizes t_sizes qt_scales t_scales qt_parts t_parts qt_texts t_texts qt_lengths t_lengths t_end t_index t_flags t_twice t_width t_precision t_conversion t_broken qt_piece t_piece t_put t_head qt_tens t_tens t_count t_exponent qt_work t_work)) (QI G res.1 (va_A (w_Model_clear G qt qt_draft t_draft t_drafted qt_result t_result t_length t_arguments qt_kinds t_kinds qt_values t_values qt_widths t_widths qt_below t_below qt_sizes t_sizes qt_scales t_scales qt_parts t_parts qt_texts t_texts qt_lengths t_lengths t_end t_index t_flags t_twice t_width t_precision t_conversion t_broken qt_piece t_piece t_put t_head qt_tens t_tens t_count t_exponent qt_work t_work) sz) (w_Model_clear G qt qt_draft t_draft t_drafted qt_result t_result t_length res.2.1 qt_kinds res.2.2.1 qt_values res.2.2.2.1 qt_widths t_widths qt_below res.2.2.2.2.1 qt_sizes res.2.2.2.2.2 qt_scales t_scales qt_parts t_parts qt_texts t_texts qt_lengths t_lengths t_end t_index t_flags t_twice t_width t_precision t_conversion t_broken qt_piece t_piece t_put t_head qt_tens t_tens t_count t_exponent qt_work t_work)) 0 0 (va_A (w_Model_clear G qt qt_draft t_draft t_drafted qt_result t_result t_length t_arguments qt_kinds t_kinds qt_values t_values qt_widths t_widths qt_below t_below qt_sizes t_sizes qt_scales t_scales qt_parts t_parts qt_texts t_texts qt_lengths t_lengths t_end t_index t_flags t_twice t_width t_precision t_conversion t_broken qt_piece t_piece t_put t_head qt_tens t_tens t_count t_exponent qt_work t_work) sz) := by
  refine Met.ofW (cc := cd_Model_character) (maxL := 2) (ret := (some .int)) (by decide) rfl ?_
  intro p e s m args below meth c s₁ B hml hv
  obtain ⟨rfl, hsz, hP, hE, hD0⟩ := hv
  have hx := B.exec
  have hb := B.bytes
  have hr := B.returns
  have hts := atoms_spec (ws := (.code y_Model_character cd_Model_character 2 (some .int) :: gw)) B.pre
  have hg : ∀ w ∈ gw, w.before _ s = true := fun w h => hts w (List.mem_cons_of_mem _ h)
  have hown : s.vm.findClass R_Model = some m.cls := findClass_of_methodNamed B.named
  have hlocks := B.notSynchronized
  subst hsz
  have hK := hE.K
  have hD := hD0.self (sz := s.heap.size)
  have hAb := hE.ab hD0
  obtain ⟨Q, hQ⟩ : ∃ Q, MQ below (QI G res.1 (va_A (w_Model_clear G qt qt_draft t_draft t_drafted qt_result t_result t_length t_arguments qt_kinds t_kinds qt_values t_values qt_widths t_widths qt_below t_below qt_sizes t_sizes qt_scales t_scales qt_parts t_parts qt_texts t_texts qt_lengths t_lengths t_end t_index t_flags t_twice t_width t_precision t_conversion t_broken qt_piece t_piece t_put t_head qt_tens t_tens t_count t_exponent qt_work t_work) s.heap.size) (w_Model_clear G qt qt_draft t_draft t_drafted qt_result t_result t_length res.2.1 qt_kinds res.2.2.1 qt_values res.2.2.2.1 qt_widths t_widths qt_below res.2.2.2.2.1 qt_sizes res.2.2.2.2.2 qt_scales t_scales qt_parts t_parts qt_texts t_texts qt_lengths t_lengths t_end t_index t_flags t_twice t_width t_precision t_conversion t_broken qt_piece t_piece t_put t_head qt_tens t_tens t_count t_exponent qt_work t_work)) ([.ref qt, .int a1] : List Value).toArray s 0 0 (va_A (w_Model_clear G qt qt_draft t_draft t_drafted qt_result t_result t_length t_arguments qt_kinds t_kinds qt_values t_values qt_widths t_widths qt_below t_below qt_sizes t_sizes qt_scales t_scales qt_parts t_parts qt_texts t_texts qt_lengths t_lengths t_end t_index t_flags t_twice t_width t_precision t_conversion t_broken qt_piece t_piece t_put t_head qt_tens t_tens t_count t_exponent qt_work t_work) s.heap.size) = Q := ⟨_, rfl⟩
  show W p l e { frames := 1, cells := 0, slots := 0, locals := 40 } s m ([.ref qt, .int a1] : List Value).toArray below meth c s.heap [] 0 0 (MQ below (QI G res.1 (va_A (w_Model_clear G qt qt_draft t_draft t_drafted qt_result t_result t_length t_arguments qt_kinds t_kinds qt_values t_values qt_widths t_widths qt_below t_below qt_sizes t_sizes qt_scales t_scales qt_parts t_parts qt_texts t_texts qt_lengths t_lengths t_end t_index t_flags t_twice t_width t_precision t_conversion t_broken qt_piece t_piece t_put t_head qt_tens t_tens t_count t_exponent qt_work t_work) s.heap.size) (w_Model_clear G qt qt_draft t_draft t_drafted qt_result t_result t_length res.2.1 qt_kinds res.2.2.1 qt_values res.2.2.2.1 qt_widths t_widths qt_below res.2.2.2.2.1 qt_sizes res.2.2.2.2.2 qt_scales t_scales qt_parts t_parts qt_texts t_texts qt_lengths t_lengths t_end t_index t_flags t_twice t_width t_precision t_conversion t_broken qt_piece t_piece t_put t_head qt_tens t_tens t_count t_exponent qt_work t_work)) ([.ref qt, .int a1] : List Value).toArray s 0 0 (va_A (w_Model_clear G qt qt_draft t_draft t_drafted qt_result t_result t_length t_arguments qt_kinds t_kinds qt_values t_values qt_widths t_widths qt_below t_below qt_sizes t_sizes qt_scales t_scales qt_parts t_parts qt_texts t_texts qt_lengths t_lengths t_end t_index t_flags t_twice t_width t_precision t_conversion t_broken qt_piece t_piece t_put t_head qt_tens t_tens t_count t_exponent qt_work t_work) s.heap.size)) _
  rw [hQ]
  have hA : ∀ q : Nat, s.heap.size ≤ q → va_A (w_Model_clear G qt qt_draft t_draft t_drafted qt_result t_result t_length t_arguments qt_kinds t_kinds qt_values t_values qt_widths t_widths qt_below t_below qt_sizes t_sizes qt_scales t_scales qt_parts t_parts qt_texts t_texts qt_lengths t_lengths t_end t_index t_flags t_twice t_width t_precision t_conversion t_broken qt_piece t_piece t_put t_head qt_tens t_tens t_count t_exponent qt_work t_work) s.heap.size q := fun q h => Or.inr h
  obtain ⟨A, hAe⟩ : ∃ A, va_A (w_Model_clear G qt qt_draft t_draft t_drafted qt_result t_result t_length t_arguments qt_kinds t_kinds qt_values t_values qt_widths t_widths qt_below t_below qt_sizes t_sizes qt_scales t_scales qt_parts t_parts qt_texts t_texts qt_lengths t_lengths t_end t_index t_flags t_twice t_width t_precision t_conversion t_broken qt_piece t_piece t_put t_head qt_tens t_tens t_count t_exponent qt_work t_work) s.heap.size = A := ⟨_, rfl⟩
  rw [hAe] at hA hD hAb hQ
  have hS : va_S A s.heap s.heap [] := va_S.rf
  have hl := lv_entry (([.ref qt, .int a1] : List Value)) (n := 2) (Nat.le_of_ble_eq_true rfl)
  rw [lg_entry_eq]
  generalize (lg_sl (([.ref qt, .int a1] : List Value)) ++ List.replicate (2 - (lg_sl (([.ref qt, .int a1] : List Value))).length) Slot.unset).toArray = ls at hl ⊢
  have hl : lv_has ls 2 [(0, .ref qt), (1, .int a1)] := hl
  unfold f_Model_character at hf
  refine lv_iload_n hx hb d_Model_character_0 rfl (lv_at hl 1 rfl) ?_
  refine lv_iconst (v := 1) hx hb d_Model_character_1 (by decide) ?_
  refine lv_icmp_lt (tgt := 11) hx hb d_Model_character_2 (by decide) (fun c_2 => ?_) (fun c_2 => ?_)
  · have hf := ip_ c_2 hf
    refine lv_iconst (v := -1) hx hb d_Model_character_11 (by decide) ?_
    refine lv_goto (tgt := 23) hx hb d_Model_character_12 (by decide) ?_
    obtain rfl := Option.some.inj hf
    rw [← hQ]
    exact W.iret (v := (-1 : Int32)) hx hb hr (fun t9 ht hW => ⟨⟨(-1 : Int32), (), rfl, rfl, ⟨by rw [ht]; exact hP, hD⟩⟩, hS.F ht⟩) hS.2.2 d_Model_character_23
  · have hf := in_ c_2 hf
    refine lv_iload_n hx hb d_Model_character_5 rfl (lv_at hl 1 rfl) ?_
    refine lv_bipush (v := 126) hx hb d_Model_character_6 (by decide) ?_
    refine lv_icmp_le (tgt := 15) hx hb d_Model_character_8 (by decide) (fun c_8 => ?_) (fun c_8 => ?_)
    · have hf := ip_ c_8 hf
      refine lv_aload_n hx hb d_Model_character_15 rfl (lv_at hl 0 rfl) ?_
      refine lv_iconst (v := 2) hx hb d_Model_character_16 (by decide) ?_
      refine lv_iload_n hx hb d_Model_character_17 rfl (lv_at hl 1 rfl) ?_
      refine lv_i2l (v := a1.toInt64) hx hb d_Model_character_18 rfl ?_
      refine lv_iconst (v := 0) hx hb d_Model_character_19 (by decide) ?_
      obtain ⟨u_20, hu_20, hf⟩ := bd_ hf
      refine CALLWi (va_runV (As := [.int (2 : Int32), .long a1.toInt64, .int (0 : Int32)]) (rest := []) ⟨hx, hb, hml, hown, hg⟩ (c_Model_argument l G K qt qt_draft t_draft t_drafted qt_result t_result t_length t_arguments qt_kinds t_kinds qt_values t_values qt_widths t_widths qt_below t_below qt_sizes t_sizes qt_scales t_scales qt_parts t_parts qt_texts t_texts qt_lengths t_lengths t_end t_index t_flags t_twice t_width t_precision t_conversion t_broken qt_piece t_piece t_put t_head qt_tens t_tens t_count t_exponent qt_work t_work (2 : Int32) a1.toInt64 (0 : Int32) _ u_20 bl_0 hu_20) (cwV 3 hg (gV m_386 m_387 m_388 m_389 m_390) rfl rfl rfl (by decide +kernel) ⟨Nat.le_of_ble_eq_true rfl, Nat.le_of_ble_eq_true rfl⟩) ⟨PC_b, va_recv hK hP (ci := 7) (q0 := 0) rfl rfl, PC_p hE hS hAb hP hD⟩ rfl rfl hl.1 rfl (lv_room (Nat.le_of_ble_eq_true rfl)) d_Model_character_20 ⟨Nat.zero_le _, Nat.zero_le _⟩) hP hD hS hA (fun H locs hP hD hS => ?_)
      have hP : va_P (gD G) vwCl (w_Model_clear G qt qt_draft t_draft t_drafted qt_result t_result t_length u_20.2.1 qt_kinds u_20.2.2.1 qt_values u_20.2.2.2.1 qt_widths t_widths qt_below u_20.2.2.2.2.1 qt_sizes u_20.2.2.2.2.2 qt_scales t_scales qt_parts t_parts qt_texts t_texts qt_lengths t_lengths t_end t_index t_flags t_twice t_width t_precision t_conversion t_broken qt_piece t_piece t_put t_head qt_tens t_tens t_count t_exponent qt_work t_work) H := hP
      have hD : va_D A (w_Model_clear G qt qt_draft t_draft t_drafted qt_result t_result t_length u_20.2.1 qt_kinds u_20.2.2.1 qt_values u_20.2.2.2.1 qt_widths t_widths qt_below u_20.2.2.2.2.1 qt_sizes u_20.2.2.2.2.2 qt_scales t_scales qt_parts t_parts qt_texts t_texts qt_lengths t_lengths t_end t_index t_flags t_twice t_width t_precision t_conversion t_broken qt_piece t_piece t_put t_head qt_tens t_tens t_count t_exponent qt_work t_work) := hD
      obtain rfl := Option.some.inj hf
      rw [← hQ]
      exact W.iret (v := u_20.1) hx hb hr (fun t9 ht hW => ⟨⟨u_20.1, (), rfl, rfl, ⟨by rw [ht]; exact hP, hD⟩⟩, hS.F ht⟩) hS.2.2 d_Model_character_23
    · have hf := in_ c_8 hf
      refine lv_iconst (v := -1) hx hb d_Model_character_11 (by decide) ?_
      refine lv_goto (tgt := 23) hx hb d_Model_character_12 (by decide) ?_
      obtain rfl := Option.some.inj hf
      rw [← hQ]
      exact W.iret (v := (-1 : Int32)) hx hb hr (fun t9 ht hW => ⟨⟨(-1 : Int32), (), rfl, rfl, ⟨by rw [ht]; exact hP, hD⟩⟩, hS.F ht⟩) hS.2.2 d_Model_character_23
theorem d_Model_whole_0 : decode cd_Model_whole 0 = .ok (.iload_n 3, 1) := by decide +kernel
theorem d_Model_whole_1 : decode cd_Model_whole 1 = .ok (.bipush 8, 2) := by decide +kernel
theorem d_Model_whole_3 : decode cd_Model_whole 3 = .ok (.if_icmp .eq 23, 3) := by decide +kernel
theorem d_Model_whole_6 : decode cd_Model_whole 6 = .ok (.iload_n 3, 1) := by decide +kernel
theorem d_Model_whole_7 : decode cd_Model_whole 7 = .ok (.bipush 16, 2) := by decide +kernel
theorem d_Model_whole_9 : decode cd_Model_whole 9 = .ok (.if_icmp .eq 17, 3) := by decide +kernel
theorem d_Model_whole_12 : decode cd_Model_whole 12 = .ok (.iload_n 3, 1) := by decide +kernel
theorem d_Model_whole_13 : decode cd_Model_whole 13 = .ok (.bipush 32, 2) := by decide +kernel
theorem d_Model_whole_15 : decode cd_Model_whole 15 = .ok (.if_icmp .eq 11, 3) := by decide +kernel
theorem d_Model_whole_18 : decode cd_Model_whole 18 = .ok (.iload_n 3, 1) := by decide +kernel
theorem d_Model_whole_19 : decode cd_Model_whole 19 = .ok (.bipush 64, 2) := by decide +kernel
theorem d_Model_whole_21 : decode cd_Model_whole 21 = .ok (.if_icmp .eq 5, 3) := by decide +kernel
theorem d_Model_whole_24 : decode cd_Model_whole 24 = .ok (.iconst (-1), 1) := by decide +kernel
theorem d_Model_whole_25 : decode cd_Model_whole 25 = .ok (.ireturn, 1) := by decide +kernel
theorem d_Model_whole_26 : decode cd_Model_whole 26 = .ok (.lload_n 1, 1) := by decide +kernel
theorem d_Model_whole_27 : decode cd_Model_whole 27 = .ok (.bipush 64, 2) := by decide +kernel
theorem d_Model_whole_29 : decode cd_Model_whole 29 = .ok (.iload_n 3, 1) := by decide +kernel
theorem d_Model_whole_30 : decode cd_Model_whole 30 = .ok (.isub, 1) := by decide +kernel
theorem d_Model_whole_31 : decode cd_Model_whole 31 = .ok (.lshl, 1) := by decide +kernel
theorem d_Model_whole_32 : decode cd_Model_whole 32 = .ok (.bipush 64, 2) := by decide +kernel
theorem d_Model_whole_34 : decode cd_Model_whole 34 = .ok (.iload_n 3, 1) := by decide +kernel
theorem d_Model_whole_35 : decode cd_Model_whole 35 = .ok (.isub, 1) := by decide +kernel
theorem d_Model_whole_36 : decode cd_Model_whole 36 = .ok (.lshr, 1) := by decide +kernel
theorem d_Model_whole_37 : decode cd_Model_whole 37 = .ok (.lstore 4, 2) := by decide +kernel
theorem d_Model_whole_39 : decode cd_Model_whole 39 = .ok (.aload_n 0, 1) := by decide +kernel
theorem d_Model_whole_40 : decode cd_Model_whole 40 = .ok (.iconst 3, 1) := by decide +kernel
theorem d_Model_whole_41 : decode cd_Model_whole 41 = .ok (.lload 4, 2) := by decide +kernel
theorem d_Model_whole_43 : decode cd_Model_whole 43 = .ok (.lload 4, 2) := by decide +kernel
theorem d_Model_whole_45 : decode cd_Model_whole 45 = .ok (.lconst 0, 1) := by decide +kernel
theorem d_Model_whole_46 : decode cd_Model_whole 46 = .ok (.lcmp, 1) := by decide +kernel
theorem d_Model_whole_47 : decode cd_Model_whole 47 = .ok (.ifCond .ge 7, 3) := by decide +kernel
theorem d_Model_whole_50 : decode cd_Model_whole 50 = .ok (.iconst 1, 1) := by decide +kernel
theorem d_Model_whole_51 : decode cd_Model_whole 51 = .ok (.goto 4, 3) := by decide +kernel
theorem d_Model_whole_54 : decode cd_Model_whole 54 = .ok (.iconst 0, 1) := by decide +kernel
theorem d_Model_whole_55 : decode cd_Model_whole 55 = .ok (.invokevirtual 63, 3) := by decide +kernel
theorem d_Model_whole_58 : decode cd_Model_whole 58 = .ok (.istore 6, 2) := by decide +kernel
theorem d_Model_whole_60 : decode cd_Model_whole 60 = .ok (.iload 6, 2) := by decide +kernel
theorem d_Model_whole_62 : decode cd_Model_whole 62 = .ok (.ifCond .le 13, 3) := by decide +kernel
theorem d_Model_whole_65 : decode cd_Model_whole 65 = .ok (.aload_n 0, 1) := by decide +kernel
theorem d_Model_whole_66 : decode cd_Model_whole 66 = .ok (.getfield 23, 3) := by decide +kernel
theorem d_Model_whole_69 : decode cd_Model_whole 69 = .ok (.iload 6, 2) := by decide +kernel
theorem d_Model_whole_71 : decode cd_Model_whole 71 = .ok (.iconst 1, 1) := by decide +kernel
theorem d_Model_whole_72 : decode cd_Model_whole 72 = .ok (.isub, 1) := by decide +kernel
theorem d_Model_whole_73 : decode cd_Model_whole 73 = .ok (.iload_n 3, 1) := by decide +kernel
theorem d_Model_whole_74 : decode cd_Model_whole 74 = .ok (.iastore, 1) := by decide +kernel
theorem d_Model_whole_75 : decode cd_Model_whole 75 = .ok (.iload 6, 2) := by decide +kernel
theorem d_Model_whole_77 : decode cd_Model_whole 77 = .ok (.ireturn, 1) := by decide +kernel
theorem m_391 : Cond.fieldLink R_Model 23 "SpecifierDeskModel" "widths" "[I" ∈ gw := gm (i := 867) (by decide +kernel) (by decide +kernel)
def k_Model_whole_55 (K : Nat) (a2 : Int32) (k1 : Int32) (k2 : Int64) (k3 : Int32) (t_arguments : Int32) (t_kinds : (Nat → Int32)) (t_values : (Nat → Int64)) (t_widths : (Nat → Int32)) (t_below : (Nat → Int32)) (t_sizes : (Nat → Int32)) : Option (Int32 × Int32 × (Nat → Int32) × (Nat → Int64) × (Nat → Int32) × (Nat → Int32) × (Nat → Int32)) :=
  ((f_Model_argument K t_arguments t_kinds t_values t_below t_sizes k1 k2 k3).bind fun u_55 => (if u_55.1 ≤ 0 then some (u_55.1, u_55.2.1, u_55.2.2.1, u_55.2.2.2.1, t_widths, u_55.2.2.2.2.1, u_55.2.2.2.2.2) else (if inB (u_55.1 - (1 : Int32)) 12 = true then some (u_55.1, u_55.2.1, u_55.2.2.1, u_55.2.2.2.1, (upd t_widths (u_55.1 - (1 : Int32)).toNatClampNeg a2), u_55.2.2.2.2.1, u_55.2.2.2.2.2) else none)))
def k_Model_whole_26 (K : Nat) (a1 : Int64) (a2 : Int32) (t_arguments : Int32) (t_kinds : (Nat → Int32)) (t_values : (Nat → Int64)) (t_widths : (Nat → Int32)) (t_below : (Nat → Int32)) (t_sizes : (Nat → Int32)) : Option (Int32 × Int32 × (Nat → Int32) × (Nat → Int64) × (Nat → Int32) × (Nat → Int32) × (Nat → Int32)) :=
  (if 0 ≤ (lg_cmp ((a1 <<< (((64 : Int32) - a2).toInt64 &&& 63)) >>> (((64 : Int32) - a2).toInt64 &&& 63)) (0 : Int64)) then k_Model_whole_55 K a2 (3 : Int32) ((a1 <<< (((64 : Int32) - a2).toInt64 &&& 63)) >>> (((64 : Int32) - a2).toInt64 &&& 63)) (0 : Int32) t_arguments t_kinds t_values t_widths t_below t_sizes else k_Model_whole_55 K a2 (3 : Int32) ((a1 <<< (((64 : Int32) - a2).toInt64 &&& 63)) >>> (((64 : Int32) - a2).toInt64 &&& 63)) (1 : Int32) t_arguments t_kinds t_values t_widths t_below t_sizes)
def f_Model_whole (K : Nat) (t_arguments : Int32) (t_kinds : Nat → Int32) (t_values : Nat → Int64) (t_widths : Nat → Int32) (t_below : Nat → Int32) (t_sizes : Nat → Int32) (a1 : Int64) (a2 : Int32) : Option (Int32 × Int32 × (Nat → Int32) × (Nat → Int64) × (Nat → Int32) × (Nat → Int32) × (Nat → Int32)) :=
  (if a2 = (8 : Int32) then k_Model_whole_26 K a1 a2 t_arguments t_kinds t_values t_widths t_below t_sizes else (if a2 = (16 : Int32) then k_Model_whole_26 K a1 a2 t_arguments t_kinds t_values t_widths t_below t_sizes else (if a2 = (32 : Int32) then k_Model_whole_26 K a1 a2 t_arguments t_kinds t_values t_widths t_below t_sizes else (if a2 = (64 : Int32) then k_Model_whole_26 K a1 a2 t_arguments t_kinds t_values t_widths t_below t_sizes else some ((-1 : Int32), t_arguments, t_kinds, t_values, t_widths, t_below, t_sizes)))))
set_option maxHeartbeats 4000000 in
set_option maxRecDepth 100000 in
theorem c_Model_whole (l : Launch) (G : Gt) (K : Nat) (qt : Nat) (qt_draft : Nat) (t_draft : Nat → Int32) (t_drafted : Int32) (qt_result : Nat) (t_result : Nat → Int32) (t_length : Int32) (t_arguments : Int32) (qt_kinds : Nat) (t_kinds : Nat → Int32) (qt_values : Nat) (t_values : Nat → Int64) (qt_widths : Nat) (t_widths : Nat → Int32) (qt_below : Nat) (t_below : Nat → Int32) (qt_sizes : Nat) (t_sizes : Nat → Int32) (qt_scales : Nat) (t_scales : Nat → Int32) (qt_parts : Nat) (t_parts : Nat → Int64) (qt_texts : Nat) (t_texts : Nat → Int32) (qt_lengths : Nat) (t_lengths : Nat → Int32) (t_end : Int32) (t_index : Int32) (t_flags : Int32) (t_twice : Int32) (t_width : Int32) (t_precision : Int32) (t_conversion : Int32) (t_broken : Int32) (qt_piece : Nat) (t_piece : Nat → Int32) (t_put : Int32) (t_head : Int32) (qt_tens : Nat) (t_tens : Nat → Int32) (t_count : Int32) (t_exponent : Int32) (qt_work : Nat) (t_work : Nat → Int32) (a1 : Int64) (a2 : Int32) (sz : Nat) (res : Int32 × Int32 × (Nat → Int32) × (Nat → Int64) × (Nat → Int32) × (Nat → Int32) × (Nat → Int32))   (hf : f_Model_whole K t_arguments t_kinds t_values t_widths t_below t_sizes a1 a2 = some res) : Met l y_Model_whole (.code y_Model_whole cd_Model_whole 7 (some .int) :: gw) { frames := 1, cells := 0, slots := 0, locals := 40 } (PC G ([.ref qt, .long a1, .int a2] : List Value) sz (w_Model_clear G qt qt_draft t_draft t_drafted qt_result t_result t_length t_arguments qt_kinds t_kinds qt_values t_values qt_widths t_widths qt_below t_below qt_sizes t_sizes qt_scales t_scales qt_parts t_parts qt_texts t_texts qt_lengths t_lengths t_end t_index t_flags t_twice t_width t_precision t_conversion t_broken qt_piece t_piece t_put t_head qt_tens t_tens t_count t_exponent qt_work t_work)) (QI G res.1 (va_A (w_Model_clear G qt qt_draft t_draft t_drafted qt_result t_result t_length t_arguments qt_kinds t_kinds qt_values t_values qt_widths t_widths qt_below t_below qt_sizes t_sizes qt_scales t_scales qt_parts t_parts qt_texts t_texts qt_lengths t_lengths t_end t_index t_flags t_twice t_width t_precision t_conversion t_broken qt_piece t_piece t_put t_head qt_tens t_tens t_count t_exponent qt_work t_work) sz) (w_Model_clear G qt qt_draft t_draft t_drafted qt_result t_result t_length res.2.1 qt_kinds res.2.2.1 qt_values res.2.2.2.1 qt_widths res.2.2.2.2.1 qt_below res.2.2.2.2.2.1 qt_sizes res.2.2.2.2.2.2 qt_scales t_scales qt_parts t_parts qt_texts t_texts qt_lengths t_lengths t_end t_index t_flags t_twice t_width t_precision t_conversion t_broken qt_piece t_piece t_put t_head qt_tens t_tens t_count t_exponent qt_work t_work)) 0 0 (va_A (w_Model_clear G qt qt_draft t_draft t_drafted qt_result t_result t_length t_arguments qt_kinds t_kinds qt_values t_values qt_widths t_widths qt_below t_below qt_sizes t_sizes qt_scales t_scales qt_parts t_parts qt_texts t_texts qt_lengths t_lengths t_end t_index t_flags t_twice t_width t_precision t_conversion t_broken qt_piece t_piece t_put t_head qt_tens t_tens t_count t_exponent qt_work t_work) sz) := by
  refine Met.ofW (cc := cd_Model_whole) (maxL := 7) (ret := (some .int)) (by decide) rfl ?_
  intro p e s m args below meth c s₁ B hml hv
  obtain ⟨rfl, hsz, hP, hE, hD0⟩ := hv
  have hx := B.exec
  have hb := B.bytes
  have hr := B.returns
  have hts := atoms_spec (ws := (.code y_Model_whole cd_Model_whole 7 (some .int) :: gw)) B.pre
  have hg : ∀ w ∈ gw, w.before _ s = true := fun w h => hts w (List.mem_cons_of_mem _ h)
  have hown : s.vm.findClass R_Model = some m.cls := findClass_of_methodNamed B.named
  have hlocks := B.notSynchronized
  subst hsz
  have hK := hE.K
  have hD := hD0.self (sz := s.heap.size)
  have hAb := hE.ab hD0
  obtain ⟨Q, hQ⟩ : ∃ Q, MQ below (QI G res.1 (va_A (w_Model_clear G qt qt_draft t_draft t_drafted qt_result t_result t_length t_arguments qt_kinds t_kinds qt_values t_values qt_widths t_widths qt_below t_below qt_sizes t_sizes qt_scales t_scales qt_parts t_parts qt_texts t_texts qt_lengths t_lengths t_end t_index t_flags t_twice t_width t_precision t_conversion t_broken qt_piece t_piece t_put t_head qt_tens t_tens t_count t_exponent qt_work t_work) s.heap.size) (w_Model_clear G qt qt_draft t_draft t_drafted qt_result t_result t_length res.2.1 qt_kinds res.2.2.1 qt_values res.2.2.2.1 qt_widths res.2.2.2.2.1 qt_below res.2.2.2.2.2.1 qt_sizes res.2.2.2.2.2.2 qt_scales t_scales qt_parts t_parts qt_texts t_texts qt_lengths t_lengths t_end t_index t_flags t_twice t_width t_precision t_conversion t_broken qt_piece t_piece t_put t_head qt_tens t_tens t_count t_exponent qt_work t_work)) ([.ref qt, .long a1, .int a2] : List Value).toArray s 0 0 (va_A (w_Model_clear G qt qt_draft t_draft t_drafted qt_result t_result t_length t_arguments qt_kinds t_kinds qt_values t_values qt_widths t_widths qt_below t_below qt_sizes t_sizes qt_scales t_scales qt_parts t_parts qt_texts t_texts qt_lengths t_lengths t_end t_index t_flags t_twice t_width t_precision t_conversion t_broken qt_piece t_piece t_put t_head qt_tens t_tens t_count t_exponent qt_work t_work) s.heap.size) = Q := ⟨_, rfl⟩
  show W p l e { frames := 1, cells := 0, slots := 0, locals := 40 } s m ([.ref qt, .long a1, .int a2] : List Value).toArray below meth c s.heap [] 0 0 (MQ below (QI G res.1 (va_A (w_Model_clear G qt qt_draft t_draft t_drafted qt_result t_result t_length t_arguments qt_kinds t_kinds qt_values t_values qt_widths t_widths qt_below t_below qt_sizes t_sizes qt_scales t_scales qt_parts t_parts qt_texts t_texts qt_lengths t_lengths t_end t_index t_flags t_twice t_width t_precision t_conversion t_broken qt_piece t_piece t_put t_head qt_tens t_tens t_count t_exponent qt_work t_work) s.heap.size) (w_Model_clear G qt qt_draft t_draft t_drafted qt_result t_result t_length res.2.1 qt_kinds res.2.2.1 qt_values res.2.2.2.1 qt_widths res.2.2.2.2.1 qt_below res.2.2.2.2.2.1 qt_sizes res.2.2.2.2.2.2 qt_scales t_scales qt_parts t_parts qt_texts t_texts qt_lengths t_lengths t_end t_index t_flags t_twice t_width t_precision t_conversion t_broken qt_piece t_piece t_put t_head qt_tens t_tens t_count t_exponent qt_work t_work)) ([.ref qt, .long a1, .int a2] : List Value).toArray s 0 0 (va_A (w_Model_clear G qt qt_draft t_draft t_drafted qt_result t_result t_length t_arguments qt_kinds t_kinds qt_values t_values qt_widths t_widths qt_below t_below qt_sizes t_sizes qt_scales t_scales qt_parts t_parts qt_texts t_texts qt_lengths t_lengths t_end t_index t_flags t_twice t_width t_precision t_conversion t_broken qt_piece t_piece t_put t_head qt_tens t_tens t_count t_exponent qt_work t_work) s.heap.size)) _
  rw [hQ]
  have hA : ∀ q : Nat, s.heap.size ≤ q → va_A (w_Model_clear G qt qt_draft t_draft t_drafted qt_result t_result t_length t_arguments qt_kinds t_kinds qt_values t_values qt_widths t_widths qt_below t_below qt_sizes t_sizes qt_scales t_scales qt_parts t_parts qt_texts t_texts qt_lengths t_lengths t_end t_index t_flags t_twice t_width t_precision t_conversion t_broken qt_piece t_piece t_put t_head qt_tens t_tens t_count t_exponent qt_work t_work) s.heap.size q := fun q h => Or.inr h
  obtain ⟨A, hAe⟩ : ∃ A, va_A (w_Model_clear G qt qt_draft t_draft t_drafted qt_result t_result t_length t_arguments qt_kinds t_kinds qt_values t_values qt_widths t_widths qt_below t_below qt_sizes t_sizes qt_scales t_scales qt_parts t_parts qt_texts t_texts qt_lengths t_lengths t_end t_index t_flags t_twice t_width t_precision t_conversion t_broken qt_piece t_piece t_put t_head qt_tens t_tens t_count t_exponent qt_work t_work) s.heap.size = A := ⟨_, rfl⟩
  rw [hAe] at hA hD hAb hQ
  have hS : va_S A s.heap s.heap [] := va_S.rf
  have hl := lv_entry (([.ref qt, .long a1, .int a2] : List Value)) (n := 7) (Nat.le_of_ble_eq_true rfl)
  rw [lg_entry_eq]
  generalize (lg_sl (([.ref qt, .long a1, .int a2] : List Value)) ++ List.replicate (7 - (lg_sl (([.ref qt, .long a1, .int a2] : List Value))).length) Slot.unset).toArray = ls at hl ⊢
  have hl : lv_has ls 7 [(0, .ref qt), (1, .long a1), (3, .int a2)] := hl
  have W_55 : ∀ (k1 : Int32) (k2 : Int64) (k3 : Int32) (t_arguments : Int32) (t_kinds : (Nat → Int32)) (t_values : (Nat → Int64)) (t_widths : (Nat → Int32)) (t_below : (Nat → Int32)) (t_sizes : (Nat → Int32)) (b_k3 : bl k3), k_Model_whole_55 K a2 k1 k2 k3 t_arguments t_kinds t_values t_widths t_below t_sizes = some res → ∀ (H : Heap) (locs : List Loc) (ls : Array Slot), va_P (gD G) vwCl (w_Model_clear G qt qt_draft t_draft t_drafted qt_result t_result t_length t_arguments qt_kinds t_kinds qt_values t_values qt_widths t_widths qt_below t_below qt_sizes t_sizes qt_scales t_scales qt_parts t_parts qt_texts t_texts qt_lengths t_lengths t_end t_index t_flags t_twice t_width t_precision t_conversion t_broken qt_piece t_piece t_put t_head qt_tens t_tens t_count t_exponent qt_work t_work) H → va_D A (w_Model_clear G qt qt_draft t_draft t_drafted qt_result t_result t_length t_arguments qt_kinds t_kinds qt_values t_values qt_widths t_widths qt_below t_below qt_sizes t_sizes qt_scales t_scales qt_parts t_parts qt_texts t_texts qt_lengths t_lengths t_end t_index t_flags t_twice t_width t_precision t_conversion t_broken qt_piece t_piece t_put t_head qt_tens t_tens t_count t_exponent qt_work t_work) → va_S A s.heap H locs → lv_has ls 7 [(0, .ref qt), (3, .int a2)] → W p l e { frames := 1, cells := 0, slots := 0, locals := 40 } s m ([.ref qt, .long a1, .int a2] : List Value).toArray below meth c H locs 0 0 Q (F0 m 55 ls [.int k3, .long k2, .int k1, .ref qt]) := by
    intro k1 k2 k3 t_arguments t_kinds t_values t_widths t_below t_sizes b_k3 hf H locs ls hP hD hS hl
    unfold k_Model_whole_55 at hf
    obtain ⟨u_55, hu_55, hf⟩ := bd_ hf
    refine CALLWi (va_runV (As := [.int k1, .long k2, .int k3]) (rest := []) ⟨hx, hb, hml, hown, hg⟩ (c_Model_argument l G K qt qt_draft t_draft t_drafted qt_result t_result t_length t_arguments qt_kinds t_kinds qt_values t_values qt_widths t_widths qt_below t_below qt_sizes t_sizes qt_scales t_scales qt_parts t_parts qt_texts t_texts qt_lengths t_lengths t_end t_index t_flags t_twice t_width t_precision t_conversion t_broken qt_piece t_piece t_put t_head qt_tens t_tens t_count t_exponent qt_work t_work k1 k2 k3 _ u_55 b_k3 hu_55) (cwV 3 hg (gV m_386 m_387 m_388 m_389 m_390) rfl rfl rfl (by decide +kernel) ⟨Nat.le_of_ble_eq_true rfl, Nat.le_of_ble_eq_true rfl⟩) ⟨PC_b, va_recv hK hP (ci := 7) (q0 := 0) rfl rfl, PC_p hE hS hAb hP hD⟩ rfl rfl hl.1 rfl (lv_room (Nat.le_of_ble_eq_true rfl)) d_Model_whole_55 ⟨Nat.zero_le _, Nat.zero_le _⟩) hP hD hS hA (fun H locs hP hD hS => ?_)
    have hP : va_P (gD G) vwCl (w_Model_clear G qt qt_draft t_draft t_drafted qt_result t_result t_length u_55.2.1 qt_kinds u_55.2.2.1 qt_values u_55.2.2.2.1 qt_widths t_widths qt_below u_55.2.2.2.2.1 qt_sizes u_55.2.2.2.2.2 qt_scales t_scales qt_parts t_parts qt_texts t_texts qt_lengths t_lengths t_end t_index t_flags t_twice t_width t_precision t_conversion t_broken qt_piece t_piece t_put t_head qt_tens t_tens t_count t_exponent qt_work t_work) H := hP
    have hD : va_D A (w_Model_clear G qt qt_draft t_draft t_drafted qt_result t_result t_length u_55.2.1 qt_kinds u_55.2.2.1 qt_values u_55.2.2.2.1 qt_widths t_widths qt_below u_55.2.2.2.2.1 qt_sizes u_55.2.2.2.2.2 qt_scales t_scales qt_parts t_parts qt_texts t_texts qt_lengths t_lengths t_end t_index t_flags t_twice t_width t_precision t_conversion t_broken qt_piece t_piece t_put t_head qt_tens t_tens t_count t_exponent qt_work t_work) := hD
    refine lv_istore (lv' := [(6, .int u_55.1), (0, .ref qt), (3, .int a2)]) hx hb d_Model_whole_58 hl (by decide) rfl (fun ls hl => ?_)
    refine lv_iload hx hb d_Model_whole_60 (lv_at hl 0 rfl) ?_
    refine lv_if_le (tgt := 75) hx hb d_Model_whole_62 (by decide) (fun c_62 => ?_) (fun c_62 => ?_)
    · have hf := ip_ c_62 hf
      refine lv_iload hx hb d_Model_whole_75 (lv_at hl 0 rfl) ?_
      obtain rfl := Option.some.inj hf
      rw [← hQ]
      exact W.iret (v := u_55.1) hx hb hr (fun t9 ht hW => ⟨⟨u_55.1, (), rfl, rfl, ⟨by rw [ht]; exact hP, hD⟩⟩, hS.F ht⟩) hS.2.2 d_Model_whole_77
    · have hf := in_ c_62 hf
      refine lv_aload_n hx hb d_Model_whole_65 rfl (lv_at hl 1 rfl) ?_
      refine va_get (D := gD G) (ci := 7) (v := .ref qt_widths) (C := R_Model) (T := F_Model) (N := 29) hx hb hg in_Model hown hK hP 0 rfl rfl 7 (by decide) (hg _ m_391) (fun _ h9 => h9) rfl d_Model_whole_66 ?_
      refine lv_iload hx hb d_Model_whole_69 (lv_at hl 0 rfl) ?_
      refine lv_iconst (v := 1) hx hb d_Model_whole_71 (by decide) ?_
      refine lv_isub hx hb d_Model_whole_72 ?_
      refine lv_iload_n hx hb d_Model_whole_73 rfl (lv_at hl 2 rfl) ?_
      obtain ⟨g_74, hf⟩ := gd_ hf
      refine va_iast hx hb hK hP hD hS 5 1 rfl rfl (inB_in g_74) d_Model_whole_74 (fun H locs hP hD hS => ?_)
      have hP : va_P (gD G) vwCl (w_Model_clear G qt qt_draft t_draft t_drafted qt_result t_result t_length u_55.2.1 qt_kinds u_55.2.2.1 qt_values u_55.2.2.2.1 qt_widths (upd t_widths (u_55.1 - (1 : Int32)).toNatClampNeg a2) qt_below u_55.2.2.2.2.1 qt_sizes u_55.2.2.2.2.2 qt_scales t_scales qt_parts t_parts qt_texts t_texts qt_lengths t_lengths t_end t_index t_flags t_twice t_width t_precision t_conversion t_broken qt_piece t_piece t_put t_head qt_tens t_tens t_count t_exponent qt_work t_work) H := hP
      have hD : va_D A (w_Model_clear G qt qt_draft t_draft t_drafted qt_result t_result t_length u_55.2.1 qt_kinds u_55.2.2.1 qt_values u_55.2.2.2.1 qt_widths (upd t_widths (u_55.1 - (1 : Int32)).toNatClampNeg a2) qt_below u_55.2.2.2.2.1 qt_sizes u_55.2.2.2.2.2 qt_scales t_scales qt_parts t_parts qt_texts t_texts qt_lengths t_lengths t_end t_index t_flags t_twice t_width t_precision t_conversion t_broken qt_piece t_piece t_put t_head qt_tens t_tens t_count t_exponent qt_work t_work) := hD
      refine lv_iload hx hb d_Model_whole_75 (lv_at hl 0 rfl) ?_
      obtain rfl := Option.some.inj hf
      rw [← hQ]
      exact W.iret (v := u_55.1) hx hb hr (fun t9 ht hW => ⟨⟨u_55.1, (), rfl, rfl, ⟨by rw [ht]; exact hP, hD⟩⟩, hS.F ht⟩) hS.2.2 d_Model_whole_77
  have W_26 : ∀ (t_arguments : Int32) (t_kinds : (Nat → Int32)) (t_values : (Nat → Int64)) (t_widths : (Nat → Int32)) (t_below : (Nat → Int32)) (t_sizes : (Nat → Int32)) , k_Model_whole_26 K a1 a2 t_arguments t_kinds t_values t_widths t_below t_sizes = some res → ∀ (H : Heap) (locs : List Loc) (ls : Array Slot), va_P (gD G) vwCl (w_Model_clear G qt qt_draft t_draft t_drafted qt_result t_result t_length t_arguments qt_kinds t_kinds qt_values t_values qt_widths t_widths qt_below t_below qt_sizes t_sizes qt_scales t_scales qt_parts t_parts qt_texts t_texts qt_lengths t_lengths t_end t_index t_flags t_twice t_width t_precision t_conversion t_broken qt_piece t_piece t_put t_head qt_tens t_tens t_count t_exponent qt_work t_work) H → va_D A (w_Model_clear G qt qt_draft t_draft t_drafted qt_result t_result t_length t_arguments qt_kinds t_kinds qt_values t_values qt_widths t_widths qt_below t_below qt_sizes t_sizes qt_scales t_scales qt_parts t_parts qt_texts t_texts qt_lengths t_lengths t_end t_index t_flags t_twice t_width t_precision t_conversion t_broken qt_piece t_piece t_put t_head qt_tens t_tens t_count t_exponent qt_work t_work) → va_S A s.heap H locs → lv_has ls 7 [(0, .ref qt), (1, .long a1), (3, .int a2)] → W p l e { frames := 1, cells := 0, slots := 0, locals := 40 } s m ([.ref qt, .long a1, .int a2] : List Value).toArray below meth c H locs 0 0 Q (F0 m 26 ls []) := by
    intro t_arguments t_kinds t_values t_widths t_below t_sizes  hf H locs ls hP hD hS hl
    unfold k_Model_whole_26 at hf
    refine lv_lload_n hx hb d_Model_whole_26 rfl (lv_at hl 1 rfl) ?_
    refine lv_bipush (v := 64) hx hb d_Model_whole_27 (by decide) ?_
    refine lv_iload_n hx hb d_Model_whole_29 rfl (lv_at hl 2 rfl) ?_
    refine lv_isub hx hb d_Model_whole_30 ?_
    refine lv_lshl (v := (a1 <<< (((64 : Int32) - a2).toInt64 &&& 63))) hx hb d_Model_whole_31 rfl ?_
    refine lv_bipush (v := 64) hx hb d_Model_whole_32 (by decide) ?_
    refine lv_iload_n hx hb d_Model_whole_34 rfl (lv_at hl 2 rfl) ?_
    refine lv_isub hx hb d_Model_whole_35 ?_
    refine lv_lshr (v := ((a1 <<< (((64 : Int32) - a2).toInt64 &&& 63)) >>> (((64 : Int32) - a2).toInt64 &&& 63))) hx hb d_Model_whole_36 rfl ?_
    refine lv_lstore (lv' := [(4, .long ((a1 <<< (((64 : Int32) - a2).toInt64 &&& 63)) >>> (((64 : Int32) - a2).toInt64 &&& 63))), (0, .ref qt), (1, .long a1), (3, .int a2)]) hx hb d_Model_whole_37 hl (by decide) rfl (fun ls hl => ?_)
    refine lv_aload_n hx hb d_Model_whole_39 rfl (lv_at hl 1 rfl) ?_
    refine lv_iconst (v := 3) hx hb d_Model_whole_40 (by decide) ?_
    refine lv_lload hx hb d_Model_whole_41 (lv_at hl 0 rfl) ?_
    refine lv_lload hx hb d_Model_whole_43 (lv_at hl 0 rfl) ?_
    refine lv_lconst (v := 0) hx hb d_Model_whole_45 (by decide) ?_
    refine W.lcmp hx hb d_Model_whole_46 ?_
    refine lv_if_ge (tgt := 54) hx hb d_Model_whole_47 (by decide) (fun c_47 => ?_) (fun c_47 => ?_)
    · have hf := ip_ c_47 hf
      refine lv_iconst (v := 0) hx hb d_Model_whole_54 (by decide) ?_
      exact W_55 (3 : Int32) ((a1 <<< (((64 : Int32) - a2).toInt64 &&& 63)) >>> (((64 : Int32) - a2).toInt64 &&& 63)) (0 : Int32) t_arguments t_kinds t_values t_widths t_below t_sizes bl_0 hf _ _ _ hP hD hS (lv_sub hl [1, 3] rfl)
    · have hf := in_ c_47 hf
      refine lv_iconst (v := 1) hx hb d_Model_whole_50 (by decide) ?_
      refine lv_goto (tgt := 55) hx hb d_Model_whole_51 (by decide) ?_
      exact W_55 (3 : Int32) ((a1 <<< (((64 : Int32) - a2).toInt64 &&& 63)) >>> (((64 : Int32) - a2).toInt64 &&& 63)) (1 : Int32) t_arguments t_kinds t_values t_widths t_below t_sizes bl_1 hf _ _ _ hP hD hS (lv_sub hl [1, 3] rfl)
  unfold f_Model_whole at hf
  refine lv_iload_n hx hb d_Model_whole_0 rfl (lv_at hl 2 rfl) ?_
  refine lv_bipush (v := 8) hx hb d_Model_whole_1 (by decide) ?_
  refine lv_icmp_eq (tgt := 26) hx hb d_Model_whole_3 (by decide) (fun c_3 => ?_) (fun c_3 => ?_)
  · have hf := ip_ c_3 hf
    exact W_26 t_arguments t_kinds t_values t_widths t_below t_sizes  hf _ _ _ hP hD hS (lv_sub hl [0, 1, 2] rfl)
  · have hf := in_ c_3 hf
    refine lv_iload_n hx hb d_Model_whole_6 rfl (lv_at hl 2 rfl) ?_
    refine lv_bipush (v := 16) hx hb d_Model_whole_7 (by decide) ?_
    refine lv_icmp_eq (tgt := 26) hx hb d_Model_whole_9 (by decide) (fun c_9 => ?_) (fun c_9 => ?_)
    · have hf := ip_ c_9 hf
      exact W_26 t_arguments t_kinds t_values t_widths t_below t_sizes  hf _ _ _ hP hD hS (lv_sub hl [0, 1, 2] rfl)
    · have hf := in_ c_9 hf
      refine lv_iload_n hx hb d_Model_whole_12 rfl (lv_at hl 2 rfl) ?_
      refine lv_bipush (v := 32) hx hb d_Model_whole_13 (by decide) ?_
      refine lv_icmp_eq (tgt := 26) hx hb d_Model_whole_15 (by decide) (fun c_15 => ?_) (fun c_15 => ?_)
      · have hf := ip_ c_15 hf
        exact W_26 t_arguments t_kinds t_values t_widths t_below t_sizes  hf _ _ _ hP hD hS (lv_sub hl [0, 1, 2] rfl)
      · have hf := in_ c_15 hf
        refine lv_iload_n hx hb d_Model_whole_18 rfl (lv_at hl 2 rfl) ?_
        refine lv_bipush (v := 64) hx hb d_Model_whole_19 (by decide) ?_
        refine lv_icmp_eq (tgt := 26) hx hb d_Model_whole_21 (by decide) (fun c_21 => ?_) (fun c_21 => ?_)
        · have hf := ip_ c_21 hf
          exact W_26 t_arguments t_kinds t_values t_widths t_below t_sizes  hf _ _ _ hP hD hS (lv_sub hl [0, 1, 2] rfl)
        · have hf := in_ c_21 hf
          refine lv_iconst (v := -1) hx hb d_Model_whole_24 (by decide) ?_
          obtain rfl := Option.some.inj hf
          rw [← hQ]
          exact W.iret (v := (-1 : Int32)) hx hb hr (fun t9 ht hW => ⟨⟨(-1 : Int32), (), rfl, rfl, ⟨by rw [ht]; exact hP, hD⟩⟩, hS.F ht⟩) hS.2.2 d_Model_whole_25
theorem d_Model_sizeOf_0 : decode cd_Model_sizeOf 0 = .ok (.iconst 0, 1) := by decide +kernel
theorem d_Model_sizeOf_1 : decode cd_Model_sizeOf 1 = .ok (.istore 4, 2) := by decide +kernel
theorem d_Model_sizeOf_3 : decode cd_Model_sizeOf 3 = .ok (.iload 4, 2) := by decide +kernel
theorem d_Model_sizeOf_5 : decode cd_Model_sizeOf 5 = .ok (.iconst 4, 1) := by decide +kernel
theorem d_Model_sizeOf_6 : decode cd_Model_sizeOf 6 = .ok (.if_icmp .ge 33, 3) := by decide +kernel
theorem d_Model_sizeOf_9 : decode cd_Model_sizeOf 9 = .ok (.aload_n 0, 1) := by decide +kernel
theorem d_Model_sizeOf_10 : decode cd_Model_sizeOf 10 = .ok (.getfield 30, 3) := by decide +kernel
theorem d_Model_sizeOf_13 : decode cd_Model_sizeOf 13 = .ok (.bipush 32, 2) := by decide +kernel
theorem d_Model_sizeOf_15 : decode cd_Model_sizeOf 15 = .ok (.iload_n 1, 1) := by decide +kernel
theorem d_Model_sizeOf_16 : decode cd_Model_sizeOf 16 = .ok (.imul, 1) := by decide +kernel
theorem d_Model_sizeOf_17 : decode cd_Model_sizeOf 17 = .ok (.iload 4, 2) := by decide +kernel
theorem d_Model_sizeOf_19 : decode cd_Model_sizeOf 19 = .ok (.iadd, 1) := by decide +kernel
theorem d_Model_sizeOf_20 : decode cd_Model_sizeOf 20 = .ok (.lload_n 2, 1) := by decide +kernel
theorem d_Model_sizeOf_21 : decode cd_Model_sizeOf 21 = .ok (.bipush 16, 2) := by decide +kernel
theorem d_Model_sizeOf_23 : decode cd_Model_sizeOf 23 = .ok (.iload 4, 2) := by decide +kernel
theorem d_Model_sizeOf_25 : decode cd_Model_sizeOf 25 = .ok (.imul, 1) := by decide +kernel
theorem d_Model_sizeOf_26 : decode cd_Model_sizeOf 26 = .ok (.lshr, 1) := by decide +kernel
theorem d_Model_sizeOf_27 : decode cd_Model_sizeOf 27 = .ok (.ldc2_w 67, 3) := by decide +kernel
theorem d_Model_sizeOf_30 : decode cd_Model_sizeOf 30 = .ok (.land, 1) := by decide +kernel
theorem d_Model_sizeOf_31 : decode cd_Model_sizeOf 31 = .ok (.l2i, 1) := by decide +kernel
theorem d_Model_sizeOf_32 : decode cd_Model_sizeOf 32 = .ok (.iastore, 1) := by decide +kernel
theorem d_Model_sizeOf_33 : decode cd_Model_sizeOf 33 = .ok (.iinc 4 1, 3) := by decide +kernel
theorem d_Model_sizeOf_36 : decode cd_Model_sizeOf 36 = .ok (.goto (-33), 3) := by decide +kernel
theorem d_Model_sizeOf_39 : decode cd_Model_sizeOf 39 = .ok (.return_, 1) := by decide +kernel
theorem m_392 : Cond.constantLong R_Model 67 65535 ∈ gw := gm (i := 986) (by decide +kernel) (by decide +kernel)
def b_Model_sizeOf_3 (a1 : Int32) (a2 : Int64)  (rec_3 : (Int32 × (Nat → Int32)) → Option (Nat → Int32)) (z3 : Int32 × (Nat → Int32)) : Option (Nat → Int32) :=
  (if (4 : Int32) ≤ z3.1 then some z3.2 else (if inB (((32 : Int32) * a1) + z3.1) 384 = true then rec_3 ((z3.1 + 1), (upd z3.2 (((32 : Int32) * a1) + z3.1).toNatClampNeg (((a2 >>> (((16 : Int32) * z3.1).toInt64 &&& 63)) &&& (65535 : Int64)).toInt32))) else none))
def f_Model_sizeOf (K : Nat) (t_sizes : Nat → Int32) (a1 : Int32) (a2 : Int64) : Option (Nat → Int32) :=
  lp_ (b_Model_sizeOf_3 a1 a2 ) K ((0 : Int32), t_sizes)
set_option maxHeartbeats 4000000 in
set_option maxRecDepth 100000 in
theorem c_Model_sizeOf (l : Launch) (G : Gt) (K : Nat) (qt : Nat) (qt_draft : Nat) (t_draft : Nat → Int32) (t_drafted : Int32) (qt_result : Nat) (t_result : Nat → Int32) (t_length : Int32) (t_arguments : Int32) (qt_kinds : Nat) (t_kinds : Nat → Int32) (qt_values : Nat) (t_values : Nat → Int64) (qt_widths : Nat) (t_widths : Nat → Int32) (qt_below : Nat) (t_below : Nat → Int32) (qt_sizes : Nat) (t_sizes : Nat → Int32) (qt_scales : Nat) (t_scales : Nat → Int32) (qt_parts : Nat) (t_parts : Nat → Int64) (qt_texts : Nat) (t_texts : Nat → Int32) (qt_lengths : Nat) (t_lengths : Nat → Int32) (t_end : Int32) (t_index : Int32) (t_flags : Int32) (t_twice : Int32) (t_width : Int32) (t_precision : Int32) (t_conversion : Int32) (t_broken : Int32) (qt_piece : Nat) (t_piece : Nat → Int32) (t_put : Int32) (t_head : Int32) (qt_tens : Nat) (t_tens : Nat → Int32) (t_count : Int32) (t_exponent : Int32) (qt_work : Nat) (t_work : Nat → Int32) (a1 : Int32) (a2 : Int64) (sz : Nat) (res : (Nat → Int32))   (hf : f_Model_sizeOf K t_sizes a1 a2 = some res) : Met l y_Model_sizeOf (.code y_Model_sizeOf cd_Model_sizeOf 5 none :: gw) { frames := 0, cells := 0, slots := 0, locals := 0 } (PC G ([.ref qt, .int a1, .long a2] : List Value) sz (w_Model_clear G qt qt_draft t_draft t_drafted qt_result t_result t_length t_arguments qt_kinds t_kinds qt_values t_values qt_widths t_widths qt_below t_below qt_sizes t_sizes qt_scales t_scales qt_parts t_parts qt_texts t_texts qt_lengths t_lengths t_end t_index t_flags t_twice t_width t_precision t_conversion t_broken qt_piece t_piece t_put t_head qt_tens t_tens t_count t_exponent qt_work t_work)) (QV G (va_A (w_Model_clear G qt qt_draft t_draft t_drafted qt_result t_result t_length t_arguments qt_kinds t_kinds qt_values t_values qt_widths t_widths qt_below t_below qt_sizes t_sizes qt_scales t_scales qt_parts t_parts qt_texts t_texts qt_lengths t_lengths t_end t_index t_flags t_twice t_width t_precision t_conversion t_broken qt_piece t_piece t_put t_head qt_tens t_tens t_count t_exponent qt_work t_work) sz) (w_Model_clear G qt qt_draft t_draft t_drafted qt_result t_result t_length t_arguments qt_kinds t_kinds qt_values t_values qt_widths t_widths qt_below t_below qt_sizes res qt_scales t_scales qt_parts t_parts qt_texts t_texts qt_lengths t_lengths t_end t_index t_flags t_twice t_width t_precision t_conversion t_broken qt_piece t_piece t_put t_head qt_tens t_tens t_count t_exponent qt_work t_work)) 0 0 (va_A (w_Model_clear G qt qt_draft t_draft t_drafted qt_result t_result t_length t_arguments qt_kinds t_kinds qt_values t_values qt_widths t_widths qt_below t_below qt_sizes t_sizes qt_scales t_scales qt_parts t_parts qt_texts t_texts qt_lengths t_lengths t_end t_index t_flags t_twice t_width t_precision t_conversion t_broken qt_piece t_piece t_put t_head qt_tens t_tens t_count t_exponent qt_work t_work) sz) := by
  refine Met.ofW (cc := cd_Model_sizeOf) (maxL := 5) (ret := none) (by decide) rfl ?_
  intro p e s m args below meth c s₁ B hml hv
  obtain ⟨rfl, hsz, hP, hE, hD0⟩ := hv
  have hx := B.exec
  have hb := B.bytes
  have hr := B.returns
  have hts := atoms_spec (ws := (.code y_Model_sizeOf cd_Model_sizeOf 5 none :: gw)) B.pre
  have hg : ∀ w ∈ gw, w.before _ s = true := fun w h => hts w (List.mem_cons_of_mem _ h)
  have hown : s.vm.findClass R_Model = some m.cls := findClass_of_methodNamed B.named
  have hlocks := B.notSynchronized
  subst hsz
  have hK := hE.K
  have hD := hD0.self (sz := s.heap.size)
  have hAb := hE.ab hD0
  obtain ⟨Q, hQ⟩ : ∃ Q, MQ below (QV G (va_A (w_Model_clear G qt qt_draft t_draft t_drafted qt_result t_result t_length t_arguments qt_kinds t_kinds qt_values t_values qt_widths t_widths qt_below t_below qt_sizes t_sizes qt_scales t_scales qt_parts t_parts qt_texts t_texts qt_lengths t_lengths t_end t_index t_flags t_twice t_width t_precision t_conversion t_broken qt_piece t_piece t_put t_head qt_tens t_tens t_count t_exponent qt_work t_work) s.heap.size) (w_Model_clear G qt qt_draft t_draft t_drafted qt_result t_result t_length t_arguments qt_kinds t_kinds qt_values t_values qt_widths t_widths qt_below t_below qt_sizes res qt_scales t_scales qt_parts t_parts qt_texts t_texts qt_lengths t_lengths t_end t_index t_flags t_twice t_width t_precision t_conversion t_broken qt_piece t_piece t_put t_head qt_tens t_tens t_count t_exponent qt_work t_work)) ([.ref qt, .int a1, .long a2] : List Value).toArray s 0 0 (va_A (w_Model_clear G qt qt_draft t_draft t_drafted qt_result t_result t_length t_arguments qt_kinds t_kinds qt_values t_values qt_widths t_widths qt_below t_below qt_sizes t_sizes qt_scales t_scales qt_parts t_parts qt_texts t_texts qt_lengths t_lengths t_end t_index t_flags t_twice t_width t_precision t_conversion t_broken qt_piece t_piece t_put t_head qt_tens t_tens t_count t_exponent qt_work t_work) s.heap.size) = Q := ⟨_, rfl⟩
  show W p l e { frames := 0, cells := 0, slots := 0, locals := 0 } s m ([.ref qt, .int a1, .long a2] : List Value).toArray below meth c s.heap [] 0 0 (MQ below (QV G (va_A (w_Model_clear G qt qt_draft t_draft t_drafted qt_result t_result t_length t_arguments qt_kinds t_kinds qt_values t_values qt_widths t_widths qt_below t_below qt_sizes t_sizes qt_scales t_scales qt_parts t_parts qt_texts t_texts qt_lengths t_lengths t_end t_index t_flags t_twice t_width t_precision t_conversion t_broken qt_piece t_piece t_put t_head qt_tens t_tens t_count t_exponent qt_work t_work) s.heap.size) (w_Model_clear G qt qt_draft t_draft t_drafted qt_result t_result t_length t_arguments qt_kinds t_kinds qt_values t_values qt_widths t_widths qt_below t_below qt_sizes res qt_scales t_scales qt_parts t_parts qt_texts t_texts qt_lengths t_lengths t_end t_index t_flags t_twice t_width t_precision t_conversion t_broken qt_piece t_piece t_put t_head qt_tens t_tens t_count t_exponent qt_work t_work)) ([.ref qt, .int a1, .long a2] : List Value).toArray s 0 0 (va_A (w_Model_clear G qt qt_draft t_draft t_drafted qt_result t_result t_length t_arguments qt_kinds t_kinds qt_values t_values qt_widths t_widths qt_below t_below qt_sizes t_sizes qt_scales t_scales qt_parts t_parts qt_texts t_texts qt_lengths t_lengths t_end t_index t_flags t_twice t_width t_precision t_conversion t_broken qt_piece t_piece t_put t_head qt_tens t_tens t_count t_exponent qt_work t_work) s.heap.size)) _
  rw [hQ]
  have hA : ∀ q : Nat, s.heap.size ≤ q → va_A (w_Model_clear G qt qt_draft t_draft t_drafted qt_result t_result t_length t_arguments qt_kinds t_kinds qt_values t_values qt_widths t_widths qt_below t_below qt_sizes t_sizes qt_scales t_scales qt_parts t_parts qt_texts t_texts qt_lengths t_lengths t_end t_index t_flags t_twice t_width t_precision t_conversion t_broken qt_piece t_piece t_put t_head qt_tens t_tens t_count t_exponent qt_work t_work) s.heap.size q := fun q h => Or.inr h
  obtain ⟨A, hAe⟩ : ∃ A, va_A (w_Model_clear G qt qt_draft t_draft t_drafted qt_result t_result t_length t_arguments qt_kinds t_kinds qt_values t_values qt_widths t_widths qt_below t_below qt_sizes t_sizes qt_scales t_scales qt_parts t_parts qt_texts t_texts qt_lengths t_lengths t_end t_index t_flags t_twice t_width t_precision t_conversion t_broken qt_piece t_piece t_put t_head qt_tens t_tens t_count t_exponent qt_work t_work) s.heap.size = A := ⟨_, rfl⟩
  rw [hAe] at hA hD hAb hQ
  have hS : va_S A s.heap s.heap [] := va_S.rf
  have hl := lv_entry (([.ref qt, .int a1, .long a2] : List Value)) (n := 5) (Nat.le_of_ble_eq_true rfl)
  rw [lg_entry_eq]
  generalize (lg_sl (([.ref qt, .int a1, .long a2] : List Value)) ++ List.replicate (5 - (lg_sl (([.ref qt, .int a1, .long a2] : List Value))).length) Slot.unset).toArray = ls at hl ⊢
  have hl : lv_has ls 5 [(0, .ref qt), (1, .int a1), (2, .long a2)] := hl
  have W_3 : ∀   (n_3 : Nat) (z3 : Int32 × (Nat → Int32)) , lp_ (b_Model_sizeOf_3 a1 a2 ) n_3 z3 = some res → ∀ (H : Heap) (locs : List Loc) (ls : Array Slot), va_P (gD G) vwCl (w_Model_clear G qt qt_draft t_draft t_drafted qt_result t_result t_length t_arguments qt_kinds t_kinds qt_values t_values qt_widths t_widths qt_below t_below qt_sizes z3.2 qt_scales t_scales qt_parts t_parts qt_texts t_texts qt_lengths t_lengths t_end t_index t_flags t_twice t_width t_precision t_conversion t_broken qt_piece t_piece t_put t_head qt_tens t_tens t_count t_exponent qt_work t_work) H → va_D A (w_Model_clear G qt qt_draft t_draft t_drafted qt_result t_result t_length t_arguments qt_kinds t_kinds qt_values t_values qt_widths t_widths qt_below t_below qt_sizes z3.2 qt_scales t_scales qt_parts t_parts qt_texts t_texts qt_lengths t_lengths t_end t_index t_flags t_twice t_width t_precision t_conversion t_broken qt_piece t_piece t_put t_head qt_tens t_tens t_count t_exponent qt_work t_work) → va_S A s.heap H locs → lv_has ls 5 [(0, .ref qt), (1, .int a1), (2, .long a2), (4, .int z3.1)] → W p l e { frames := 0, cells := 0, slots := 0, locals := 0 } s m ([.ref qt, .int a1, .long a2] : List Value).toArray below meth c H locs 0 0 Q (F0 m 3 ls []) := by
    intro  n_3
    induction n_3 with
    | zero =>
      intro z3  hf
      cases hf
    | succ n_3 ih_3 =>
      intro z3  hf H locs ls hP hD hS hl
      have hf : b_Model_sizeOf_3 a1 a2  (lp_ (b_Model_sizeOf_3 a1 a2 ) n_3) z3 = some res := hf
      generalize lp_ (b_Model_sizeOf_3 a1 a2 ) n_3 = rec_3 at hf ih_3
      unfold b_Model_sizeOf_3 at hf
      refine lv_iload hx hb d_Model_sizeOf_3 (lv_at hl 3 rfl) ?_
      refine lv_iconst (v := 4) hx hb d_Model_sizeOf_5 (by decide) ?_
      refine lv_icmp_ge (tgt := 39) hx hb d_Model_sizeOf_6 (by decide) (fun c_6 => ?_) (fun c_6 => ?_)
      · have hf := ip_ c_6 hf
        obtain rfl := Option.some.inj hf
        rw [← hQ]
        exact W.vret hx hb hr (fun t9 ht hW => ⟨⟨(), rfl, trivial, ⟨by rw [ht]; exact hP, hD⟩⟩, hS.F ht⟩) hS.2.2 d_Model_sizeOf_39
      · have hf := in_ c_6 hf
        refine lv_aload_n hx hb d_Model_sizeOf_9 rfl (lv_at hl 0 rfl) ?_
        refine va_get (D := gD G) (ci := 7) (v := .ref qt_sizes) (C := R_Model) (T := F_Model) (N := 29) hx hb hg in_Model hown hK hP 0 rfl rfl 9 (by decide) (hg _ m_385) (fun _ h9 => h9) rfl d_Model_sizeOf_10 ?_
        refine lv_bipush (v := 32) hx hb d_Model_sizeOf_13 (by decide) ?_
        refine lv_iload_n hx hb d_Model_sizeOf_15 rfl (lv_at hl 1 rfl) ?_
        refine lv_imul hx hb d_Model_sizeOf_16 ?_
        refine lv_iload hx hb d_Model_sizeOf_17 (lv_at hl 3 rfl) ?_
        refine lv_iadd hx hb d_Model_sizeOf_19 ?_
        refine lv_lload_n hx hb d_Model_sizeOf_20 rfl (lv_at hl 2 rfl) ?_
        refine lv_bipush (v := 16) hx hb d_Model_sizeOf_21 (by decide) ?_
        refine lv_iload hx hb d_Model_sizeOf_23 (lv_at hl 3 rfl) ?_
        refine lv_imul hx hb d_Model_sizeOf_25 ?_
        refine lv_lshr (v := (a2 >>> (((16 : Int32) * z3.1).toInt64 &&& 63))) hx hb d_Model_sizeOf_26 rfl ?_
        refine lv_ldc2 (v := 65535) hx hb hown (hg _ m_392) d_Model_sizeOf_27 ?_
        refine lv_land hx hb d_Model_sizeOf_30 ?_
        refine lv_l2i (v := ((a2 >>> (((16 : Int32) * z3.1).toInt64 &&& 63)) &&& (65535 : Int64)).toInt32) hx hb d_Model_sizeOf_31 rfl ?_
        obtain ⟨g_32, hf⟩ := gd_ hf
        refine va_iast hx hb hK hP hD hS 7 1 rfl rfl (inB_in g_32) d_Model_sizeOf_32 (fun H locs hP hD hS => ?_)
        have hP : va_P (gD G) vwCl (w_Model_clear G qt qt_draft t_draft t_drafted qt_result t_result t_length t_arguments qt_kinds t_kinds qt_values t_values qt_widths t_widths qt_below t_below qt_sizes (upd z3.2 (((32 : Int32) * a1) + z3.1).toNatClampNeg (((a2 >>> (((16 : Int32) * z3.1).toInt64 &&& 63)) &&& (65535 : Int64)).toInt32)) qt_scales t_scales qt_parts t_parts qt_texts t_texts qt_lengths t_lengths t_end t_index t_flags t_twice t_width t_precision t_conversion t_broken qt_piece t_piece t_put t_head qt_tens t_tens t_count t_exponent qt_work t_work) H := hP
        have hD : va_D A (w_Model_clear G qt qt_draft t_draft t_drafted qt_result t_result t_length t_arguments qt_kinds t_kinds qt_values t_values qt_widths t_widths qt_below t_below qt_sizes (upd z3.2 (((32 : Int32) * a1) + z3.1).toNatClampNeg (((a2 >>> (((16 : Int32) * z3.1).toInt64 &&& 63)) &&& (65535 : Int64)).toInt32)) qt_scales t_scales qt_parts t_parts qt_texts t_texts qt_lengths t_lengths t_end t_index t_flags t_twice t_width t_precision t_conversion t_broken qt_piece t_piece t_put t_head qt_tens t_tens t_count t_exponent qt_work t_work) := hD
        refine lv_iinc (v := (z3.1 + 1)) (lv' := [(4, .int (z3.1 + 1)), (0, .ref qt), (1, .int a1), (2, .long a2)]) hx hb d_Model_sizeOf_33 hl (k := 3) rfl rfl (by decide) rfl (fun ls hl => ?_)
        refine lv_goto (tgt := 3) hx hb d_Model_sizeOf_36 (by decide) ?_
        exact ih_3 ((z3.1 + 1), (upd z3.2 (((32 : Int32) * a1) + z3.1).toNatClampNeg (((a2 >>> (((16 : Int32) * z3.1).toInt64 &&& 63)) &&& (65535 : Int64)).toInt32)))  hf _ _ _ hP hD hS (lv_sub hl [1, 2, 3, 0] rfl)
  unfold f_Model_sizeOf at hf
  refine lv_iconst (v := 0) hx hb d_Model_sizeOf_0 (by decide) ?_
  refine lv_istore (lv' := [(4, .int (0 : Int32)), (0, .ref qt), (1, .int a1), (2, .long a2)]) hx hb d_Model_sizeOf_1 hl (by decide) rfl (fun ls hl => ?_)
  exact W_3   K ((0 : Int32), t_sizes)  hf _ _ _ hP hD hS (lv_sub hl [1, 2, 3, 0] rfl)
theorem d_Model_size_0 : decode cd_Model_size 0 = .ok (.aload_n 0, 1) := by decide +kernel
theorem d_Model_size_1 : decode cd_Model_size 1 = .ok (.iconst 4, 1) := by decide +kernel
theorem d_Model_size_2 : decode cd_Model_size 2 = .ok (.lconst 0, 1) := by decide +kernel
theorem d_Model_size_3 : decode cd_Model_size 3 = .ok (.iload_n 1, 1) := by decide +kernel
theorem d_Model_size_4 : decode cd_Model_size 4 = .ok (.invokevirtual 63, 3) := by decide +kernel
theorem d_Model_size_7 : decode cd_Model_size 7 = .ok (.istore 4, 2) := by decide +kernel
theorem d_Model_size_9 : decode cd_Model_size 9 = .ok (.iload 4, 2) := by decide +kernel
theorem d_Model_size_11 : decode cd_Model_size 11 = .ok (.ifCond .le 12, 3) := by decide +kernel
theorem d_Model_size_14 : decode cd_Model_size 14 = .ok (.aload_n 0, 1) := by decide +kernel
theorem d_Model_size_15 : decode cd_Model_size 15 = .ok (.iload 4, 2) := by decide +kernel
theorem d_Model_size_17 : decode cd_Model_size 17 = .ok (.iconst 1, 1) := by decide +kernel
theorem d_Model_size_18 : decode cd_Model_size 18 = .ok (.isub, 1) := by decide +kernel
theorem d_Model_size_19 : decode cd_Model_size 19 = .ok (.lload_n 2, 1) := by decide +kernel
theorem d_Model_size_20 : decode cd_Model_size 20 = .ok (.invokevirtual 69, 3) := by decide +kernel
theorem d_Model_size_23 : decode cd_Model_size 23 = .ok (.iload 4, 2) := by decide +kernel
theorem d_Model_size_25 : decode cd_Model_size 25 = .ok (.ireturn, 1) := by decide +kernel
theorem m_393 : Cond.methodLink R_Model 69 y_Model_sizeOf ∈ gw := gm (i := 982) (by decide +kernel) (by decide +kernel)
theorem m_394 : Cond.instanceMethod y_Model_sizeOf ∈ gw := gm (i := 984) (by decide +kernel) (by decide +kernel)
theorem m_395 : Cond.selects R_Model y_Model_sizeOf y_Model_sizeOf ∈ gw := gm (i := 39) (by decide +kernel) (by decide +kernel)
set_option maxRecDepth 100000 in
theorem m_396 : Cond.code y_Model_sizeOf cd_Model_sizeOf 5 none ∈ gw := gm (i := 985) rfl rfl
def f_Model_size (K : Nat) (t_arguments : Int32) (t_kinds : Nat → Int32) (t_values : Nat → Int64) (t_below : Nat → Int32) (t_sizes : Nat → Int32) (a1 : Int32) (a2 : Int64) : Option (Int32 × Int32 × (Nat → Int32) × (Nat → Int64) × (Nat → Int32) × (Nat → Int32)) :=
  ((f_Model_argument K t_arguments t_kinds t_values t_below t_sizes (4 : Int32) (0 : Int64) a1).bind fun u_4 => (if u_4.1 ≤ 0 then some (u_4.1, u_4.2.1, u_4.2.2.1, u_4.2.2.2.1, u_4.2.2.2.2.1, u_4.2.2.2.2.2) else ((f_Model_sizeOf K u_4.2.2.2.2.2 (u_4.1 - (1 : Int32)) a2).bind fun u_20 => some (u_4.1, u_4.2.1, u_4.2.2.1, u_4.2.2.2.1, u_4.2.2.2.2.1, u_20))))
set_option maxHeartbeats 4000000 in
set_option maxRecDepth 100000 in
theorem c_Model_size (l : Launch) (G : Gt) (K : Nat) (qt : Nat) (qt_draft : Nat) (t_draft : Nat → Int32) (t_drafted : Int32) (qt_result : Nat) (t_result : Nat → Int32) (t_length : Int32) (t_arguments : Int32) (qt_kinds : Nat) (t_kinds : Nat → Int32) (qt_values : Nat) (t_values : Nat → Int64) (qt_widths : Nat) (t_widths : Nat → Int32) (qt_below : Nat) (t_below : Nat → Int32) (qt_sizes : Nat) (t_sizes : Nat → Int32) (qt_scales : Nat) (t_scales : Nat → Int32) (qt_parts : Nat) (t_parts : Nat → Int64) (qt_texts : Nat) (t_texts : Nat → Int32) (qt_lengths : Nat) (t_lengths : Nat → Int32) (t_end : Int32) (t_index : Int32) (t_flags : Int32) (t_twice : Int32) (t_width : Int32) (t_precision : Int32) (t_conversion : Int32) (t_broken : Int32) (qt_piece : Nat) (t_piece : Nat → Int32) (t_put : Int32) (t_head : Int32) (qt_tens : Nat) (t_tens : Nat → Int32) (t_count : Int32) (t_exponent : Int32) (qt_work : Nat) (t_work : Nat → Int32) (a1 : Int32) (a2 : Int64) (sz : Nat) (res : Int32 × Int32 × (Nat → Int32) × (Nat → Int64) × (Nat → Int32) × (Nat → Int32)) (hb_a1 : bl a1)  (hf : f_Model_size K t_arguments t_kinds t_values t_below t_sizes a1 a2 = some res) : Met l y_Model_size (.code y_Model_size cd_Model_size 5 (some .int) :: gw) { frames := 1, cells := 0, slots := 0, locals := 40 } (PC G ([.ref qt, .int a1, .long a2] : List Value) sz (w_Model_clear G qt qt_draft t_draft t_drafted qt_result t_result t_length t_arguments qt_kinds t_kinds qt_values t_values qt_widths t_widths qt_below t_below qt_sizes t_sizes qt_scales t_scales qt_parts t_parts qt_texts t_texts qt_lengths t_lengths t_end t_index t_flags t_twice t_width t_precision t_conversion t_broken qt_piece t_piece t_put t_head qt_tens t_tens t_count t_exponent qt_work t_work)) (QI G res.1 (va_A (w_Model_clear G qt qt_draft t_draft t_drafted qt_result t_result t_length t_arguments qt_kinds t_kinds qt_values t_values qt_widths t_widths qt_below t_below qt_sizes t_sizes qt_scales t_scales qt_parts t_parts qt_texts t_texts qt_lengths t_lengths t_end t_index t_flags t_twice t_width t_precision t_conversion t_broken qt_piece t_piece t_put t_head qt_tens t_tens t_count t_exponent qt_work t_work) sz) (w_Model_clear G qt qt_draft t_draft t_drafted qt_result t_result t_length res.2.1 qt_kinds res.2.2.1 qt_values res.2.2.2.1 qt_widths t_widths qt_below res.2.2.2.2.1 qt_sizes res.2.2.2.2.2 qt_scales t_scales qt_parts t_parts qt_texts t_texts qt_lengths t_lengths t_end t_index t_flags t_twice t_width t_precision t_conversion t_broken qt_piece t_piece t_put t_head qt_tens t_tens t_count t_exponent qt_work t_work)) 0 0 (va_A (w_Model_clear G qt qt_draft t_draft t_drafted qt_result t_result t_length t_arguments qt_kinds t_kinds qt_values t_values qt_widths t_widths qt_below t_below qt_sizes t_sizes qt_scales t_scales qt_parts t_parts qt_texts t_texts qt_lengths t_lengths t_end t_index t_flags t_twice t_width t_precision t_conversion t_broken qt_piece t_piece t_put t_head qt_tens t_tens t_count t_exponent qt_work t_work) sz) := by
  refine Met.ofW (cc := cd_Model_size) (maxL := 5) (ret := (some .int)) (by decide) rfl ?_
  intro p e s m args below meth c s₁ B hml hv
  obtain ⟨rfl, hsz, hP, hE, hD0⟩ := hv
  have hx := B.exec
  have hb := B.bytes
  have hr := B.returns
  have hts := atoms_spec (ws := (.code y_Model_size cd_Model_size 5 (some .int) :: gw)) B.pre
  have hg : ∀ w ∈ gw, w.before _ s = true := fun w h => hts w (List.mem_cons_of_mem _ h)
  have hown : s.vm.findClass R_Model = some m.cls := findClass_of_methodNamed B.named
  have hlocks := B.notSynchronized
  subst hsz
  have hK := hE.K
  have hD := hD0.self (sz := s.heap.size)
  have hAb := hE.ab hD0
  obtain ⟨Q, hQ⟩ : ∃ Q, MQ below (QI G res.1 (va_A (w_Model_clear G qt qt_draft t_draft t_drafted qt_result t_result t_length t_arguments qt_kinds t_kinds qt_values t_values qt_widths t_widths qt_below t_below qt_sizes t_sizes qt_scales t_scales qt_parts t_parts qt_texts t_texts qt_lengths t_lengths t_end t_index t_flags t_twice t_width t_precision t_conversion t_broken qt_piece t_piece t_put t_head qt_tens t_tens t_count t_exponent qt_work t_work) s.heap.size) (w_Model_clear G qt qt_draft t_draft t_drafted qt_result t_result t_length res.2.1 qt_kinds res.2.2.1 qt_values res.2.2.2.1 qt_widths t_widths qt_below res.2.2.2.2.1 qt_sizes res.2.2.2.2.2 qt_scales t_scales qt_parts t_parts qt_texts t_texts qt_lengths t_lengths t_end t_index t_flags t_twice t_width t_precision t_conversion t_broken qt_piece t_piece t_put t_head qt_tens t_tens t_count t_exponent qt_work t_work)) ([.ref qt, .int a1, .long a2] : List Value).toArray s 0 0 (va_A (w_Model_clear G qt qt_draft t_draft t_drafted qt_result t_result t_length t_arguments qt_kinds t_kinds qt_values t_values qt_widths t_widths qt_below t_below qt_sizes t_sizes qt_scales t_scales qt_parts t_parts qt_texts t_texts qt_lengths t_lengths t_end t_index t_flags t_twice t_width t_precision t_conversion t_broken qt_piece t_piece t_put t_head qt_tens t_tens t_count t_exponent qt_work t_work) s.heap.size) = Q := ⟨_, rfl⟩
  show W p l e { frames := 1, cells := 0, slots := 0, locals := 40 } s m ([.ref qt, .int a1, .long a2] : List Value).toArray below meth c s.heap [] 0 0 (MQ below (QI G res.1 (va_A (w_Model_clear G qt qt_draft t_draft t_drafted qt_result t_result t_length t_arguments qt_kinds t_kinds qt_values t_values qt_widths t_widths qt_below t_below qt_sizes t_sizes qt_scales t_scales qt_parts t_parts qt_texts t_texts qt_lengths t_lengths t_end t_index t_flags t_twice t_width t_precision t_conversion t_broken qt_piece t_piece t_put t_head qt_tens t_tens t_count t_exponent qt_work t_work) s.heap.size) (w_Model_clear G qt qt_draft t_draft t_drafted qt_result t_result t_length res.2.1 qt_kinds res.2.2.1 qt_values res.2.2.2.1 qt_widths t_widths qt_below res.2.2.2.2.1 qt_sizes res.2.2.2.2.2 qt_scales t_scales qt_parts t_parts qt_texts t_texts qt_lengths t_lengths t_end t_index t_flags t_twice t_width t_precision t_conversion t_broken qt_piece t_piece t_put t_head qt_tens t_tens t_count t_exponent qt_work t_work)) ([.ref qt, .int a1, .long a2] : List Value).toArray s 0 0 (va_A (w_Model_clear G qt qt_draft t_draft t_drafted qt_result t_result t_length t_arguments qt_kinds t_kinds qt_values t_values qt_widths t_widths qt_below t_below qt_sizes t_sizes qt_scales t_scales qt_parts t_parts qt_texts t_texts qt_lengths t_lengths t_end t_index t_flags t_twice t_width t_precision t_conversion t_broken qt_piece t_piece t_put t_head qt_tens t_tens t_count t_exponent qt_work t_work) s.heap.size)) _
  rw [hQ]
  have hA : ∀ q : Nat, s.heap.size ≤ q → va_A (w_Model_clear G qt qt_draft t_draft t_drafted qt_result t_result t_length t_arguments qt_kinds t_kinds qt_values t_values qt_widths t_widths qt_below t_below qt_sizes t_sizes qt_scales t_scales qt_parts t_parts qt_texts t_texts qt_lengths t_lengths t_end t_index t_flags t_twice t_width t_precision t_conversion t_broken qt_piece t_piece t_put t_head qt_tens t_tens t_count t_exponent qt_work t_work) s.heap.size q := fun q h => Or.inr h
  obtain ⟨A, hAe⟩ : ∃ A, va_A (w_Model_clear G qt qt_draft t_draft t_drafted qt_result t_result t_length t_arguments qt_kinds t_kinds qt_values t_values qt_widths t_widths qt_below t_below qt_sizes t_sizes qt_scales t_scales qt_parts t_parts qt_texts t_texts qt_lengths t_lengths t_end t_index t_flags t_twice t_width t_precision t_conversion t_broken qt_piece t_piece t_put t_head qt_tens t_tens t_count t_exponent qt_work t_work) s.heap.size = A := ⟨_, rfl⟩
  rw [hAe] at hA hD hAb hQ
  have hS : va_S A s.heap s.heap [] := va_S.rf
  have hl := lv_entry (([.ref qt, .int a1, .long a2] : List Value)) (n := 5) (Nat.le_of_ble_eq_true rfl)
  rw [lg_entry_eq]
  generalize (lg_sl (([.ref qt, .int a1, .long a2] : List Value)) ++ List.replicate (5 - (lg_sl (([.ref qt, .int a1, .long a2] : List Value))).length) Slot.unset).toArray = ls at hl ⊢
  have hl : lv_has ls 5 [(0, .ref qt), (1, .int a1), (2, .long a2)] := hl
  unfold f_Model_size at hf
  refine lv_aload_n hx hb d_Model_size_0 rfl (lv_at hl 0 rfl) ?_
  refine lv_iconst (v := 4) hx hb d_Model_size_1 (by decide) ?_
  refine lv_lconst (v := 0) hx hb d_Model_size_2 (by decide) ?_
  refine lv_iload_n hx hb d_Model_size_3 rfl (lv_at hl 1 rfl) ?_
  obtain ⟨u_4, hu_4, hf⟩ := bd_ hf
  refine CALLWi (va_runV (As := [.int (4 : Int32), .long (0 : Int64), .int a1]) (rest := []) ⟨hx, hb, hml, hown, hg⟩ (c_Model_argument l G K qt qt_draft t_draft t_drafted qt_result t_result t_length t_arguments qt_kinds t_kinds qt_values t_values qt_widths t_widths qt_below t_below qt_sizes t_sizes qt_scales t_scales qt_parts t_parts qt_texts t_texts qt_lengths t_lengths t_end t_index t_flags t_twice t_width t_precision t_conversion t_broken qt_piece t_piece t_put t_head qt_tens t_tens t_count t_exponent qt_work t_work (4 : Int32) (0 : Int64) a1 _ u_4 hb_a1 hu_4) (cwV 3 hg (gV m_386 m_387 m_388 m_389 m_390) rfl rfl rfl (by decide +kernel) ⟨Nat.le_of_ble_eq_true rfl, Nat.le_of_ble_eq_true rfl⟩) ⟨PC_b, va_recv hK hP (ci := 7) (q0 := 0) rfl rfl, PC_p hE hS hAb hP hD⟩ rfl rfl hl.1 rfl (lv_room (Nat.le_of_ble_eq_true rfl)) d_Model_size_4 ⟨Nat.zero_le _, Nat.zero_le _⟩) hP hD hS hA (fun H locs hP hD hS => ?_)
  have hP : va_P (gD G) vwCl (w_Model_clear G qt qt_draft t_draft t_drafted qt_result t_result t_length u_4.2.1 qt_kinds u_4.2.2.1 qt_values u_4.2.2.2.1 qt_widths t_widths qt_below u_4.2.2.2.2.1 qt_sizes u_4.2.2.2.2.2 qt_scales t_scales qt_parts t_parts qt_texts t_texts qt_lengths t_lengths t_end t_index t_flags t_twice t_width t_precision t_conversion t_broken qt_piece t_piece t_put t_head qt_tens t_tens t_count t_exponent qt_work t_work) H := hP
  have hD : va_D A (w_Model_clear G qt qt_draft t_draft t_drafted qt_result t_result t_length u_4.2.1 qt_kinds u_4.2.2.1 qt_values u_4.2.2.2.1 qt_widths t_widths qt_below u_4.2.2.2.2.1 qt_sizes u_4.2.2.2.2.2 qt_scales t_scales qt_parts t_parts qt_texts t_texts qt_lengths t_lengths t_end t_index t_flags t_twice t_width t_precision t_conversion t_broken qt_piece t_piece t_put t_head qt_tens t_tens t_count t_exponent qt_work t_work) := hD
  refine lv_istore (lv' := [(4, .int u_4.1), (0, .ref qt), (1, .int a1), (2, .long a2)]) hx hb d_Model_size_7 hl (by decide) rfl (fun ls hl => ?_)
  refine lv_iload hx hb d_Model_size_9 (lv_at hl 0 rfl) ?_
  refine lv_if_le (tgt := 23) hx hb d_Model_size_11 (by decide) (fun c_11 => ?_) (fun c_11 => ?_)
  · have hf := ip_ c_11 hf
    refine lv_iload hx hb d_Model_size_23 (lv_at hl 0 rfl) ?_
    obtain rfl := Option.some.inj hf
    rw [← hQ]
    exact W.iret (v := u_4.1) hx hb hr (fun t9 ht hW => ⟨⟨u_4.1, (), rfl, rfl, ⟨by rw [ht]; exact hP, hD⟩⟩, hS.F ht⟩) hS.2.2 d_Model_size_25
  · have hf := in_ c_11 hf
    refine lv_aload_n hx hb d_Model_size_14 rfl (lv_at hl 1 rfl) ?_
    refine lv_iload hx hb d_Model_size_15 (lv_at hl 0 rfl) ?_
    refine lv_iconst (v := 1) hx hb d_Model_size_17 (by decide) ?_
    refine lv_isub hx hb d_Model_size_18 ?_
    refine lv_lload_n hx hb d_Model_size_19 rfl (lv_at hl 3 rfl) ?_
    obtain ⟨u_20, hu_20, hf⟩ := bd_ hf
    refine CALLWv (va_runV (As := [.int (u_4.1 - (1 : Int32)), .long a2]) (rest := []) ⟨hx, hb, hml, hown, hg⟩ (c_Model_sizeOf l G K qt qt_draft t_draft t_drafted qt_result t_result t_length u_4.2.1 qt_kinds u_4.2.2.1 qt_values u_4.2.2.2.1 qt_widths t_widths qt_below u_4.2.2.2.2.1 qt_sizes u_4.2.2.2.2.2 qt_scales t_scales qt_parts t_parts qt_texts t_texts qt_lengths t_lengths t_end t_index t_flags t_twice t_width t_precision t_conversion t_broken qt_piece t_piece t_put t_head qt_tens t_tens t_count t_exponent qt_work t_work (u_4.1 - (1 : Int32)) a2 _ u_20  hu_20) (cwV 2 hg (gV m_393 m_394 m_395 m_389 m_396) rfl rfl rfl (by decide +kernel) ⟨Nat.le_of_ble_eq_true rfl, Nat.le_of_ble_eq_true rfl⟩) ⟨PC_b, va_recv hK hP (ci := 7) (q0 := 0) rfl rfl, PC_p hE hS hAb hP hD⟩ rfl rfl hl.1 rfl (lv_room (Nat.le_of_ble_eq_true rfl)) d_Model_size_20 ⟨Nat.zero_le _, Nat.zero_le _⟩) hP hD hS hA (fun H locs hP hD hS => ?_)
    have hP : va_P (gD G) vwCl (w_Model_clear G qt qt_draft t_draft t_drafted qt_result t_result t_length u_4.2.1 qt_kinds u_4.2.2.1 qt_values u_4.2.2.2.1 qt_widths t_widths qt_below u_4.2.2.2.2.1 qt_sizes u_20 qt_scales t_scales qt_parts t_parts qt_texts t_texts qt_lengths t_lengths t_end t_index t_flags t_twice t_width t_precision t_conversion t_broken qt_piece t_piece t_put t_head qt_tens t_tens t_count t_exponent qt_work t_work) H := hP
    have hD : va_D A (w_Model_clear G qt qt_draft t_draft t_drafted qt_result t_result t_length u_4.2.1 qt_kinds u_4.2.2.1 qt_values u_4.2.2.2.1 qt_widths t_widths qt_below u_4.2.2.2.2.1 qt_sizes u_20 qt_scales t_scales qt_parts t_parts qt_texts t_texts qt_lengths t_lengths t_end t_index t_flags t_twice t_width t_precision t_conversion t_broken qt_piece t_piece t_put t_head qt_tens t_tens t_count t_exponent qt_work t_work) := hD
    refine lv_iload hx hb d_Model_size_23 (lv_at hl 0 rfl) ?_
    obtain rfl := Option.some.inj hf
    rw [← hQ]
    exact W.iret (v := u_4.1) hx hb hr (fun t9 ht hW => ⟨⟨u_4.1, (), rfl, rfl, ⟨by rw [ht]; exact hP, hD⟩⟩, hS.F ht⟩) hS.2.2 d_Model_size_25
theorem d_Model_more_0 : decode cd_Model_more 0 = .ok (.aload_n 0, 1) := by decide +kernel
theorem d_Model_more_1 : decode cd_Model_more 1 = .ok (.getfield 60, 3) := by decide +kernel
theorem d_Model_more_4 : decode cd_Model_more 4 = .ok (.iconst 1, 1) := by decide +kernel
theorem d_Model_more_5 : decode cd_Model_more 5 = .ok (.isub, 1) := by decide +kernel
theorem d_Model_more_6 : decode cd_Model_more 6 = .ok (.istore_n 3, 1) := by decide +kernel
theorem d_Model_more_7 : decode cd_Model_more 7 = .ok (.iload_n 3, 1) := by decide +kernel
theorem d_Model_more_8 : decode cd_Model_more 8 = .ok (.ifCond .lt 23, 3) := by decide +kernel
theorem d_Model_more_11 : decode cd_Model_more 11 = .ok (.aload_n 0, 1) := by decide +kernel
theorem d_Model_more_12 : decode cd_Model_more 12 = .ok (.getfield 16, 3) := by decide +kernel
theorem d_Model_more_15 : decode cd_Model_more 15 = .ok (.iload_n 3, 1) := by decide +kernel
theorem d_Model_more_16 : decode cd_Model_more 16 = .ok (.iaload, 1) := by decide +kernel
theorem d_Model_more_17 : decode cd_Model_more 17 = .ok (.iconst 4, 1) := by decide +kernel
theorem d_Model_more_18 : decode cd_Model_more 18 = .ok (.if_icmp .eq 15, 3) := by decide +kernel
theorem d_Model_more_21 : decode cd_Model_more 21 = .ok (.aload_n 0, 1) := by decide +kernel
theorem d_Model_more_22 : decode cd_Model_more 22 = .ok (.getfield 16, 3) := by decide +kernel
theorem d_Model_more_25 : decode cd_Model_more 25 = .ok (.iload_n 3, 1) := by decide +kernel
theorem d_Model_more_26 : decode cd_Model_more 26 = .ok (.iaload, 1) := by decide +kernel
theorem d_Model_more_27 : decode cd_Model_more 27 = .ok (.iconst 5, 1) := by decide +kernel
theorem d_Model_more_28 : decode cd_Model_more 28 = .ok (.if_icmp .eq 5, 3) := by decide +kernel
theorem d_Model_more_31 : decode cd_Model_more 31 = .ok (.iconst (-1), 1) := by decide +kernel
theorem d_Model_more_32 : decode cd_Model_more 32 = .ok (.ireturn, 1) := by decide +kernel
theorem d_Model_more_33 : decode cd_Model_more 33 = .ok (.bipush 28, 2) := by decide +kernel
theorem d_Model_more_35 : decode cd_Model_more 35 = .ok (.istore 4, 2) := by decide +kernel
theorem d_Model_more_37 : decode cd_Model_more 37 = .ok (.iload 4, 2) := by decide +kernel
theorem d_Model_more_39 : decode cd_Model_more 39 = .ok (.bipush 32, 2) := by decide +kernel
theorem d_Model_more_41 : decode cd_Model_more 41 = .ok (.if_icmp .ge 26, 3) := by decide +kernel
theorem d_Model_more_44 : decode cd_Model_more 44 = .ok (.aload_n 0, 1) := by decide +kernel
theorem d_Model_more_45 : decode cd_Model_more 45 = .ok (.getfield 30, 3) := by decide +kernel
theorem d_Model_more_48 : decode cd_Model_more 48 = .ok (.bipush 32, 2) := by decide +kernel
theorem d_Model_more_50 : decode cd_Model_more 50 = .ok (.iload_n 3, 1) := by decide +kernel
theorem d_Model_more_51 : decode cd_Model_more 51 = .ok (.imul, 1) := by decide +kernel
theorem d_Model_more_52 : decode cd_Model_more 52 = .ok (.iload 4, 2) := by decide +kernel
theorem d_Model_more_54 : decode cd_Model_more 54 = .ok (.iadd, 1) := by decide +kernel
theorem d_Model_more_55 : decode cd_Model_more 55 = .ok (.iaload, 1) := by decide +kernel
theorem d_Model_more_56 : decode cd_Model_more 56 = .ok (.ifCond .eq 5, 3) := by decide +kernel
theorem d_Model_more_59 : decode cd_Model_more 59 = .ok (.iconst (-1), 1) := by decide +kernel
theorem d_Model_more_60 : decode cd_Model_more 60 = .ok (.ireturn, 1) := by decide +kernel
theorem d_Model_more_61 : decode cd_Model_more 61 = .ok (.iinc 4 1, 3) := by decide +kernel
theorem d_Model_more_64 : decode cd_Model_more 64 = .ok (.goto (-27), 3) := by decide +kernel
theorem d_Model_more_67 : decode cd_Model_more 67 = .ok (.bipush 31, 2) := by decide +kernel
theorem d_Model_more_69 : decode cd_Model_more 69 = .ok (.istore 4, 2) := by decide +kernel
theorem d_Model_more_71 : decode cd_Model_more 71 = .ok (.iload 4, 2) := by decide +kernel
theorem d_Model_more_73 : decode cd_Model_more 73 = .ok (.iconst 3, 1) := by decide +kernel
theorem d_Model_more_74 : decode cd_Model_more 74 = .ok (.if_icmp .le 35, 3) := by decide +kernel
theorem d_Model_more_77 : decode cd_Model_more 77 = .ok (.aload_n 0, 1) := by decide +kernel
theorem d_Model_more_78 : decode cd_Model_more 78 = .ok (.getfield 30, 3) := by decide +kernel
theorem d_Model_more_81 : decode cd_Model_more 81 = .ok (.bipush 32, 2) := by decide +kernel
theorem d_Model_more_83 : decode cd_Model_more 83 = .ok (.iload_n 3, 1) := by decide +kernel
theorem d_Model_more_84 : decode cd_Model_more 84 = .ok (.imul, 1) := by decide +kernel
theorem d_Model_more_85 : decode cd_Model_more 85 = .ok (.iload 4, 2) := by decide +kernel
theorem d_Model_more_87 : decode cd_Model_more 87 = .ok (.iadd, 1) := by decide +kernel
theorem d_Model_more_88 : decode cd_Model_more 88 = .ok (.aload_n 0, 1) := by decide +kernel
theorem d_Model_more_89 : decode cd_Model_more 89 = .ok (.getfield 30, 3) := by decide +kernel
theorem d_Model_more_92 : decode cd_Model_more 92 = .ok (.bipush 32, 2) := by decide +kernel
theorem d_Model_more_94 : decode cd_Model_more 94 = .ok (.iload_n 3, 1) := by decide +kernel
theorem d_Model_more_95 : decode cd_Model_more 95 = .ok (.imul, 1) := by decide +kernel
theorem d_Model_more_96 : decode cd_Model_more 96 = .ok (.iload 4, 2) := by decide +kernel
theorem d_Model_more_98 : decode cd_Model_more 98 = .ok (.iadd, 1) := by decide +kernel
theorem d_Model_more_99 : decode cd_Model_more 99 = .ok (.iconst 4, 1) := by decide +kernel
theorem d_Model_more_100 : decode cd_Model_more 100 = .ok (.isub, 1) := by decide +kernel
theorem d_Model_more_101 : decode cd_Model_more 101 = .ok (.iaload, 1) := by decide +kernel
theorem d_Model_more_102 : decode cd_Model_more 102 = .ok (.iastore, 1) := by decide +kernel
theorem d_Model_more_103 : decode cd_Model_more 103 = .ok (.iinc 4 (-1), 3) := by decide +kernel
theorem d_Model_more_106 : decode cd_Model_more 106 = .ok (.goto (-35), 3) := by decide +kernel
theorem d_Model_more_109 : decode cd_Model_more 109 = .ok (.aload_n 0, 1) := by decide +kernel
theorem d_Model_more_110 : decode cd_Model_more 110 = .ok (.iload_n 3, 1) := by decide +kernel
theorem d_Model_more_111 : decode cd_Model_more 111 = .ok (.lload_n 1, 1) := by decide +kernel
theorem d_Model_more_112 : decode cd_Model_more 112 = .ok (.invokevirtual 69, 3) := by decide +kernel
theorem d_Model_more_115 : decode cd_Model_more 115 = .ok (.aload_n 0, 1) := by decide +kernel
theorem d_Model_more_116 : decode cd_Model_more 116 = .ok (.getfield 60, 3) := by decide +kernel
theorem d_Model_more_119 : decode cd_Model_more 119 = .ok (.ireturn, 1) := by decide +kernel
def b_Model_more_71 (K : Nat) (t_arguments : Int32) (a1 : Int64) (x3 : Int32) (rec_71 : (Int32 × (Nat → Int32)) → Option (Int32 × (Nat → Int32))) (z71 : Int32 × (Nat → Int32)) : Option (Int32 × (Nat → Int32)) :=
  (if z71.1 ≤ (3 : Int32) then ((f_Model_sizeOf K z71.2 x3 a1).bind fun u_112 => some (t_arguments, u_112)) else (if inB ((((32 : Int32) * x3) + z71.1) - (4 : Int32)) 384 = true then (if inB (((32 : Int32) * x3) + z71.1) 384 = true then rec_71 ((z71.1 + (-1)), (upd z71.2 (((32 : Int32) * x3) + z71.1).toNatClampNeg (z71.2 ((((32 : Int32) * x3) + z71.1) - (4 : Int32)).toNatClampNeg))) else none) else none))
def b_Model_more_37 (K : Nat) (t_arguments : Int32) (a1 : Int64) (x3 : Int32) (t_sizes : (Nat → Int32)) (rec_37 : Int32 → Option (Int32 × (Nat → Int32))) (z37 : Int32) : Option (Int32 × (Nat → Int32)) :=
  (if (32 : Int32) ≤ z37 then lp_ (b_Model_more_71 K t_arguments a1 x3) K ((31 : Int32), t_sizes) else (if inB (((32 : Int32) * x3) + z37) 384 = true then (if (t_sizes (((32 : Int32) * x3) + z37).toNatClampNeg) = 0 then rec_37 (z37 + 1) else some ((-1 : Int32), t_sizes)) else none))
def k_Model_more_33 (K : Nat) (t_arguments : Int32) (a1 : Int64) (x3 : Int32) (t_sizes : (Nat → Int32)) : Option (Int32 × (Nat → Int32)) :=
  lp_ (b_Model_more_37 K t_arguments a1 x3 t_sizes) K (28 : Int32)
def f_Model_more (K : Nat) (t_arguments : Int32) (t_kinds : Nat → Int32) (t_sizes : Nat → Int32) (a1 : Int64) : Option (Int32 × (Nat → Int32)) :=
  (if (t_arguments - (1 : Int32)) < 0 then some ((-1 : Int32), t_sizes) else (if inB (t_arguments - (1 : Int32)) 12 = true then (if (t_kinds (t_arguments - (1 : Int32)).toNatClampNeg) = (4 : Int32) then k_Model_more_33 K t_arguments a1 (t_arguments - (1 : Int32)) t_sizes else (if inB (t_arguments - (1 : Int32)) 12 = true then (if (t_kinds (t_arguments - (1 : Int32)).toNatClampNeg) = (5 : Int32) then k_Model_more_33 K t_arguments a1 (t_arguments - (1 : Int32)) t_sizes else some ((-1 : Int32), t_sizes)) else none)) else none))
set_option maxHeartbeats 4000000 in
set_option maxRecDepth 100000 in
theorem c_Model_more (l : Launch) (G : Gt) (K : Nat) (qt : Nat) (qt_draft : Nat) (t_draft : Nat → Int32) (t_drafted : Int32) (qt_result : Nat) (t_result : Nat → Int32) (t_length : Int32) (t_arguments : Int32) (qt_kinds : Nat) (t_kinds : Nat → Int32) (qt_values : Nat) (t_values : Nat → Int64) (qt_widths : Nat) (t_widths : Nat → Int32) (qt_below : Nat) (t_below : Nat → Int32) (qt_sizes : Nat) (t_sizes : Nat → Int32) (qt_scales : Nat) (t_scales : Nat → Int32) (qt_parts : Nat) (t_parts : Nat → Int64) (qt_texts : Nat) (t_texts : Nat → Int32) (qt_lengths : Nat) (t_lengths : Nat → Int32) (t_end : Int32) (t_index : Int32) (t_flags : Int32) (t_twice : Int32) (t_width : Int32) (t_precision : Int32) (t_conversion : Int32) (t_broken : Int32) (qt_piece : Nat) (t_piece : Nat → Int32) (t_put : Int32) (t_head : Int32) (qt_tens : Nat) (t_tens : Nat → Int32) (t_count : Int32) (t_exponent : Int32) (qt_work : Nat) (t_work : Nat → Int32) (a1 : Int64) (sz : Nat) (res : Int32 × (Nat → Int32))   (hf : f_Model_more K t_arguments t_kinds t_sizes a1 = some res) : Met l y_Model_more (.code y_Model_more cd_Model_more 5 (some .int) :: gw) { frames := 1, cells := 0, slots := 0, locals := 40 } (PC G ([.ref qt, .long a1] : List Value) sz (w_Model_clear G qt qt_draft t_draft t_drafted qt_result t_result t_length t_arguments qt_kinds t_kinds qt_values t_values qt_widths t_widths qt_below t_below qt_sizes t_sizes qt_scales t_scales qt_parts t_parts qt_texts t_texts qt_lengths t_lengths t_end t_index t_flags t_twice t_width t_precision t_conversion t_broken qt_piece t_piece t_put t_head qt_tens t_tens t_count t_exponent qt_work t_work)) (QI G res.1 (va_A (w_Model_clear G qt qt_draft t_draft t_drafted qt_result t_result t_length t_arguments qt_kinds t_kinds qt_values t_values qt_widths t_widths qt_below t_below qt_sizes t_sizes qt_scales t_scales qt_parts t_parts qt_texts t_texts qt_lengths t_lengths t_end t_index t_flags t_twice t_width t_precision t_conversion t_broken qt_piece t_piece t_put t_head qt_tens t_tens t_count t_exponent qt_work t_work) sz) (w_Model_clear G qt qt_draft t_draft t_drafted qt_result t_result t_length t_arguments qt_kinds t_kinds qt_values t_values qt_widths t_widths qt_below t_below qt_sizes res.2 qt_scales t_scales qt_parts t_parts qt_texts t_texts qt_lengths t_lengths t_end t_index t_flags t_twice t_width t_precision t_conversion t_broken qt_piece t_piece t_put t_head qt_tens t_tens t_count t_exponent qt_work t_work)) 0 0 (va_A (w_Model_clear G qt qt_draft t_draft t_drafted qt_result t_result t_length t_arguments qt_kinds t_kinds qt_values t_values qt_widths t_widths qt_below t_below qt_sizes t_sizes qt_scales t_scales qt_parts t_parts qt_texts t_texts qt_lengths t_lengths t_end t_index t_flags t_twice t_width t_precision t_conversion t_broken qt_piece t_piece t_put t_head qt_tens t_tens t_count t_exponent qt_work t_work) sz) := by
  refine Met.ofW (cc := cd_Model_more) (maxL := 5) (ret := (some .int)) (by decide) rfl ?_
  intro p e s m args below meth c s₁ B hml hv
  obtain ⟨rfl, hsz, hP, hE, hD0⟩ := hv
  have hx := B.exec
  have hb := B.bytes
  have hr := B.returns
  have hts := atoms_spec (ws := (.code y_Model_more cd_Model_more 5 (some .int) :: gw)) B.pre
  have hg : ∀ w ∈ gw, w.before _ s = true := fun w h => hts w (List.mem_cons_of_mem _ h)
  have hown : s.vm.findClass R_Model = some m.cls := findClass_of_methodNamed B.named
  have hlocks := B.notSynchronized
  subst hsz
  have hK := hE.K
  have hD := hD0.self (sz := s.heap.size)
  have hAb := hE.ab hD0
  obtain ⟨Q, hQ⟩ : ∃ Q, MQ below (QI G res.1 (va_A (w_Model_clear G qt qt_draft t_draft t_drafted qt_result t_result t_length t_arguments qt_kinds t_kinds qt_values t_values qt_widths t_widths qt_below t_below qt_sizes t_sizes qt_scales t_scales qt_parts t_parts qt_texts t_texts qt_lengths t_lengths t_end t_index t_flags t_twice t_width t_precision t_conversion t_broken qt_piece t_piece t_put t_head qt_tens t_tens t_count t_exponent qt_work t_work) s.heap.size) (w_Model_clear G qt qt_draft t_draft t_drafted qt_result t_result t_length t_arguments qt_kinds t_kinds qt_values t_values qt_widths t_widths qt_below t_below qt_sizes res.2 qt_scales t_scales qt_parts t_parts qt_texts t_texts qt_lengths t_lengths t_end t_index t_flags t_twice t_width t_precision t_conversion t_broken qt_piece t_piece t_put t_head qt_tens t_tens t_count t_exponent qt_work t_work)) ([.ref qt, .long a1] : List Value).toArray s 0 0 (va_A (w_Model_clear G qt qt_draft t_draft t_drafted qt_result t_result t_length t_arguments qt_kinds t_kinds qt_values t_values qt_widths t_widths qt_below t_below qt_sizes t_sizes qt_scales t_scales qt_parts t_parts qt_texts t_texts qt_lengths t_lengths t_end t_index t_flags t_twice t_width t_precision t_conversion t_broken qt_piece t_piece t_put t_head qt_tens t_tens t_count t_exponent qt_work t_work) s.heap.size) = Q := ⟨_, rfl⟩
  show W p l e { frames := 1, cells := 0, slots := 0, locals := 40 } s m ([.ref qt, .long a1] : List Value).toArray below meth c s.heap [] 0 0 (MQ below (QI G res.1 (va_A (w_Model_clear G qt qt_draft t_draft t_drafted qt_result t_result t_length t_arguments qt_kinds t_kinds qt_values t_values qt_widths t_widths qt_below t_below qt_sizes t_sizes qt_scales t_scales qt_parts t_parts qt_texts t_texts qt_lengths t_lengths t_end t_index t_flags t_twice t_width t_precision t_conversion t_broken qt_piece t_piece t_put t_head qt_tens t_tens t_count t_exponent qt_work t_work) s.heap.size) (w_Model_clear G qt qt_draft t_draft t_drafted qt_result t_result t_length t_arguments qt_kinds t_kinds qt_values t_values qt_widths t_widths qt_below t_below qt_sizes res.2 qt_scales t_scales qt_parts t_parts qt_texts t_texts qt_lengths t_lengths t_end t_index t_flags t_twice t_width t_precision t_conversion t_broken qt_piece t_piece t_put t_head qt_tens t_tens t_count t_exponent qt_work t_work)) ([.ref qt, .long a1] : List Value).toArray s 0 0 (va_A (w_Model_clear G qt qt_draft t_draft t_drafted qt_result t_result t_length t_arguments qt_kinds t_kinds qt_values t_values qt_widths t_widths qt_below t_below qt_sizes t_sizes qt_scales t_scales qt_parts t_parts qt_texts t_texts qt_lengths t_lengths t_end t_index t_flags t_twice t_width t_precision t_conversion t_broken qt_piece t_piece t_put t_head qt_tens t_tens t_count t_exponent qt_work t_work) s.heap.size)) _
  rw [hQ]
  have hA : ∀ q : Nat, s.heap.size ≤ q → va_A (w_Model_clear G qt qt_draft t_draft t_drafted qt_result t_result t_length t_arguments qt_kinds t_kinds qt_values t_values qt_widths t_widths qt_below t_below qt_sizes t_sizes qt_scales t_scales qt_parts t_parts qt_texts t_texts qt_lengths t_lengths t_end t_index t_flags t_twice t_width t_precision t_conversion t_broken qt_piece t_piece t_put t_head qt_tens t_tens t_count t_exponent qt_work t_work) s.heap.size q := fun q h => Or.inr h
  obtain ⟨A, hAe⟩ : ∃ A, va_A (w_Model_clear G qt qt_draft t_draft t_drafted qt_result t_result t_length t_arguments qt_kinds t_kinds qt_values t_values qt_widths t_widths qt_below t_below qt_sizes t_sizes qt_scales t_scales qt_parts t_parts qt_texts t_texts qt_lengths t_lengths t_end t_index t_flags t_twice t_width t_precision t_conversion t_broken qt_piece t_piece t_put t_head qt_tens t_tens t_count t_exponent qt_work t_work) s.heap.size = A := ⟨_, rfl⟩
  rw [hAe] at hA hD hAb hQ
  have hS : va_S A s.heap s.heap [] := va_S.rf
  have hl := lv_entry (([.ref qt, .long a1] : List Value)) (n := 5) (Nat.le_of_ble_eq_true rfl)
  rw [lg_entry_eq]
  generalize (lg_sl (([.ref qt, .long a1] : List Value)) ++ List.replicate (5 - (lg_sl (([.ref qt, .long a1] : List Value))).length) Slot.unset).toArray = ls at hl ⊢
  have hl : lv_has ls 5 [(0, .ref qt), (1, .long a1)] := hl
  have W_71 : ∀ (x3 : Int32)  (n_71 : Nat) (z71 : Int32 × (Nat → Int32)) , lp_ (b_Model_more_71 K t_arguments a1 x3) n_71 z71 = some res → ∀ (H : Heap) (locs : List Loc) (ls : Array Slot), va_P (gD G) vwCl (w_Model_clear G qt qt_draft t_draft t_drafted qt_result t_result t_length t_arguments qt_kinds t_kinds qt_values t_values qt_widths t_widths qt_below t_below qt_sizes z71.2 qt_scales t_scales qt_parts t_parts qt_texts t_texts qt_lengths t_lengths t_end t_index t_flags t_twice t_width t_precision t_conversion t_broken qt_piece t_piece t_put t_head qt_tens t_tens t_count t_exponent qt_work t_work) H → va_D A (w_Model_clear G qt qt_draft t_draft t_drafted qt_result t_result t_length t_arguments qt_kinds t_kinds qt_values t_values qt_widths t_widths qt_below t_below qt_sizes z71.2 qt_scales t_scales qt_parts t_parts qt_texts t_texts qt_lengths t_lengths t_end t_index t_flags t_twice t_width t_precision t_conversion t_broken qt_piece t_piece t_put t_head qt_tens t_tens t_count t_exponent qt_work t_work) → va_S A s.heap H locs → lv_has ls 5 [(0, .ref qt), (1, .long a1), (3, .int x3), (4, .int z71.1)] → W p l e { frames := 1, cells := 0, slots := 0, locals := 40 } s m ([.ref qt, .long a1] : List Value).toArray below meth c H locs 0 0 Q (F0 m 71 ls []) := by
    intro x3 n_71
    induction n_71 with
    | zero =>
      intro z71  hf
      cases hf
    | succ n_71 ih_71 =>
      intro z71  hf H locs ls hP hD hS hl
      have hf : b_Model_more_71 K t_arguments a1 x3 (lp_ (b_Model_more_71 K t_arguments a1 x3) n_71) z71 = some res := hf
      generalize lp_ (b_Model_more_71 K t_arguments a1 x3) n_71 = rec_71 at hf ih_71
      unfold b_Model_more_71 at hf
      refine lv_iload hx hb d_Model_more_71 (lv_at hl 3 rfl) ?_
      refine lv_iconst (v := 3) hx hb d_Model_more_73 (by decide) ?_
      refine lv_icmp_le (tgt := 109) hx hb d_Model_more_74 (by decide) (fun c_74 => ?_) (fun c_74 => ?_)
      · have hf := ip_ c_74 hf
        refine lv_aload_n hx hb d_Model_more_109 rfl (lv_at hl 0 rfl) ?_
        refine lv_iload_n hx hb d_Model_more_110 rfl (lv_at hl 2 rfl) ?_
        refine lv_lload_n hx hb d_Model_more_111 rfl (lv_at hl 1 rfl) ?_
        obtain ⟨u_112, hu_112, hf⟩ := bd_ hf
        refine CALLWv (va_runV (As := [.int x3, .long a1]) (rest := []) ⟨hx, hb, hml, hown, hg⟩ (c_Model_sizeOf l G K qt qt_draft t_draft t_drafted qt_result t_result t_length t_arguments qt_kinds t_kinds qt_values t_values qt_widths t_widths qt_below t_below qt_sizes z71.2 qt_scales t_scales qt_parts t_parts qt_texts t_texts qt_lengths t_lengths t_end t_index t_flags t_twice t_width t_precision t_conversion t_broken qt_piece t_piece t_put t_head qt_tens t_tens t_count t_exponent qt_work t_work x3 a1 _ u_112  hu_112) (cwV 2 hg (gV m_393 m_394 m_395 m_389 m_396) rfl rfl rfl (by decide +kernel) ⟨Nat.le_of_ble_eq_true rfl, Nat.le_of_ble_eq_true rfl⟩) ⟨PC_b, va_recv hK hP (ci := 7) (q0 := 0) rfl rfl, PC_p hE hS hAb hP hD⟩ rfl rfl hl.1 rfl (lv_room (Nat.le_of_ble_eq_true rfl)) d_Model_more_112 ⟨Nat.zero_le _, Nat.zero_le _⟩) hP hD hS hA (fun H locs hP hD hS => ?_)
        have hP : va_P (gD G) vwCl (w_Model_clear G qt qt_draft t_draft t_drafted qt_result t_result t_length t_arguments qt_kinds t_kinds qt_values t_values qt_widths t_widths qt_below t_below qt_sizes u_112 qt_scales t_scales qt_parts t_parts qt_texts t_texts qt_lengths t_lengths t_end t_index t_flags t_twice t_width t_precision t_conversion t_broken qt_piece t_piece t_put t_head qt_tens t_tens t_count t_exponent qt_work t_work) H := hP
        have hD : va_D A (w_Model_clear G qt qt_draft t_draft t_drafted qt_result t_result t_length t_arguments qt_kinds t_kinds qt_values t_values qt_widths t_widths qt_below t_below qt_sizes u_112 qt_scales t_scales qt_parts t_parts qt_texts t_texts qt_lengths t_lengths t_end t_index t_flags t_twice t_width t_precision t_conversion t_broken qt_piece t_piece t_put t_head qt_tens t_tens t_count t_exponent qt_work t_work) := hD
        refine lv_aload_n hx hb d_Model_more_115 rfl (lv_at hl 0 rfl) ?_
        refine va_get (D := gD G) (ci := 7) (v := .int t_arguments) (C := R_Model) (T := F_Model) (N := 29) hx hb hg in_Model hown hK hP 0 rfl rfl 4 (by decide) (hg _ m_381) (fun _ h9 => h9) rfl d_Model_more_116 ?_
        obtain rfl := Option.some.inj hf
        rw [← hQ]
        exact W.iret (v := t_arguments) hx hb hr (fun t9 ht hW => ⟨⟨t_arguments, (), rfl, rfl, ⟨by rw [ht]; exact hP, hD⟩⟩, hS.F ht⟩) hS.2.2 d_Model_more_119
      · have hf := in_ c_74 hf
        refine lv_aload_n hx hb d_Model_more_77 rfl (lv_at hl 0 rfl) ?_
        refine va_get (D := gD G) (ci := 7) (v := .ref qt_sizes) (C := R_Model) (T := F_Model) (N := 29) hx hb hg in_Model hown hK hP 0 rfl rfl 9 (by decide) (hg _ m_385) (fun _ h9 => h9) rfl d_Model_more_78 ?_
        refine lv_bipush (v := 32) hx hb d_Model_more_81 (by decide) ?_
        refine lv_iload_n hx hb d_Model_more_83 rfl (lv_at hl 2 rfl) ?_
        refine lv_imul hx hb d_Model_more_84 ?_
        refine lv_iload hx hb d_Model_more_85 (lv_at hl 3 rfl) ?_
        refine lv_iadd hx hb d_Model_more_87 ?_
        refine lv_aload_n hx hb d_Model_more_88 rfl (lv_at hl 0 rfl) ?_
        refine va_get (D := gD G) (ci := 7) (v := .ref qt_sizes) (C := R_Model) (T := F_Model) (N := 29) hx hb hg in_Model hown hK hP 0 rfl rfl 9 (by decide) (hg _ m_385) (fun _ h9 => h9) rfl d_Model_more_89 ?_
        refine lv_bipush (v := 32) hx hb d_Model_more_92 (by decide) ?_
        refine lv_iload_n hx hb d_Model_more_94 rfl (lv_at hl 2 rfl) ?_
        refine lv_imul hx hb d_Model_more_95 ?_
        refine lv_iload hx hb d_Model_more_96 (lv_at hl 3 rfl) ?_
        refine lv_iadd hx hb d_Model_more_98 ?_
        refine lv_iconst (v := 4) hx hb d_Model_more_99 (by decide) ?_
        refine lv_isub hx hb d_Model_more_100 ?_
        obtain ⟨g_101, hf⟩ := gd_ hf
        refine va_iald hx hb hK hP 7 1 rfl rfl (inB_in g_101) d_Model_more_101 ?_
        obtain ⟨g_102, hf⟩ := gd_ hf
        refine va_iast hx hb hK hP hD hS 7 1 rfl rfl (inB_in g_102) d_Model_more_102 (fun H locs hP hD hS => ?_)
        have hP : va_P (gD G) vwCl (w_Model_clear G qt qt_draft t_draft t_drafted qt_result t_result t_length t_arguments qt_kinds t_kinds qt_values t_values qt_widths t_widths qt_below t_below qt_sizes (upd z71.2 (((32 : Int32) * x3) + z71.1).toNatClampNeg (z71.2 ((((32 : Int32) * x3) + z71.1) - (4 : Int32)).toNatClampNeg)) qt_scales t_scales qt_parts t_parts qt_texts t_texts qt_lengths t_lengths t_end t_index t_flags t_twice t_width t_precision t_conversion t_broken qt_piece t_piece t_put t_head qt_tens t_tens t_count t_exponent qt_work t_work) H := hP
        have hD : va_D A (w_Model_clear G qt qt_draft t_draft t_drafted qt_result t_result t_length t_arguments qt_kinds t_kinds qt_values t_values qt_widths t_widths qt_below t_below qt_sizes (upd z71.2 (((32 : Int32) * x3) + z71.1).toNatClampNeg (z71.2 ((((32 : Int32) * x3) + z71.1) - (4 : Int32)).toNatClampNeg)) qt_scales t_scales qt_parts t_parts qt_texts t_texts qt_lengths t_lengths t_end t_index t_flags t_twice t_width t_precision t_conversion t_broken qt_piece t_piece t_put t_head qt_tens t_tens t_count t_exponent qt_work t_work) := hD
        refine lv_iinc (v := (z71.1 + (-1))) (lv' := [(4, .int (z71.1 + (-1))), (0, .ref qt), (1, .long a1), (3, .int x3)]) hx hb d_Model_more_103 hl (k := 3) rfl rfl (by decide) rfl (fun ls hl => ?_)
        refine lv_goto (tgt := 71) hx hb d_Model_more_106 (by decide) ?_
        exact ih_71 ((z71.1 + (-1)), (upd z71.2 (((32 : Int32) * x3) + z71.1).toNatClampNeg (z71.2 ((((32 : Int32) * x3) + z71.1) - (4 : Int32)).toNatClampNeg)))  hf _ _ _ hP hD hS (lv_sub hl [1, 2, 3, 0] rfl)
  have W_37 : ∀ (x3 : Int32) (t_sizes : (Nat → Int32))  (n_37 : Nat) (z37 : Int32) , lp_ (b_Model_more_37 K t_arguments a1 x3 t_sizes) n_37 z37 = some res → ∀ (H : Heap) (locs : List Loc) (ls : Array Slot), va_P (gD G) vwCl (w_Model_clear G qt qt_draft t_draft t_drafted qt_result t_result t_length t_arguments qt_kinds t_kinds qt_values t_values qt_widths t_widths qt_below t_below qt_sizes t_sizes qt_scales t_scales qt_parts t_parts qt_texts t_texts qt_lengths t_lengths t_end t_index t_flags t_twice t_width t_precision t_conversion t_broken qt_piece t_piece t_put t_head qt_tens t_tens t_count t_exponent qt_work t_work) H → va_D A (w_Model_clear G qt qt_draft t_draft t_drafted qt_result t_result t_length t_arguments qt_kinds t_kinds qt_values t_values qt_widths t_widths qt_below t_below qt_sizes t_sizes qt_scales t_scales qt_parts t_parts qt_texts t_texts qt_lengths t_lengths t_end t_index t_flags t_twice t_width t_precision t_conversion t_broken qt_piece t_piece t_put t_head qt_tens t_tens t_count t_exponent qt_work t_work) → va_S A s.heap H locs → lv_has ls 5 [(0, .ref qt), (1, .long a1), (3, .int x3), (4, .int z37)] → W p l e { frames := 1, cells := 0, slots := 0, locals := 40 } s m ([.ref qt, .long a1] : List Value).toArray below meth c H locs 0 0 Q (F0 m 37 ls []) := by
    intro x3 t_sizes n_37
    induction n_37 with
    | zero =>
      intro z37  hf
      cases hf
    | succ n_37 ih_37 =>
      intro z37  hf H locs ls hP hD hS hl
      have hf : b_Model_more_37 K t_arguments a1 x3 t_sizes (lp_ (b_Model_more_37 K t_arguments a1 x3 t_sizes) n_37) z37 = some res := hf
      generalize lp_ (b_Model_more_37 K t_arguments a1 x3 t_sizes) n_37 = rec_37 at hf ih_37
      unfold b_Model_more_37 at hf
      refine lv_iload hx hb d_Model_more_37 (lv_at hl 3 rfl) ?_
      refine lv_bipush (v := 32) hx hb d_Model_more_39 (by decide) ?_
      refine lv_icmp_ge (tgt := 67) hx hb d_Model_more_41 (by decide) (fun c_41 => ?_) (fun c_41 => ?_)
      · have hf := ip_ c_41 hf
        refine lv_bipush (v := 31) hx hb d_Model_more_67 (by decide) ?_
        refine lv_istore (lv' := [(4, .int (31 : Int32)), (0, .ref qt), (1, .long a1), (3, .int x3)]) hx hb d_Model_more_69 hl (by decide) rfl (fun ls hl => ?_)
        exact W_71 x3  K ((31 : Int32), t_sizes)  hf _ _ _ hP hD hS (lv_sub hl [1, 2, 3, 0] rfl)
      · have hf := in_ c_41 hf
        refine lv_aload_n hx hb d_Model_more_44 rfl (lv_at hl 0 rfl) ?_
        refine va_get (D := gD G) (ci := 7) (v := .ref qt_sizes) (C := R_Model) (T := F_Model) (N := 29) hx hb hg in_Model hown hK hP 0 rfl rfl 9 (by decide) (hg _ m_385) (fun _ h9 => h9) rfl d_Model_more_45 ?_
        refine lv_bipush (v := 32) hx hb d_Model_more_48 (by decide) ?_
        refine lv_iload_n hx hb d_Model_more_50 rfl (lv_at hl 2 rfl) ?_
        refine lv_imul hx hb d_Model_more_51 ?_
        refine lv_iload hx hb d_Model_more_52 (lv_at hl 3 rfl) ?_
        refine lv_iadd hx hb d_Model_more_54 ?_
        obtain ⟨g_55, hf⟩ := gd_ hf
        refine va_iald hx hb hK hP 7 1 rfl rfl (inB_in g_55) d_Model_more_55 ?_
        refine lv_if_eq (tgt := 61) hx hb d_Model_more_56 (by decide) (fun c_56 => ?_) (fun c_56 => ?_)
        · have hf := ip_ c_56 hf
          refine lv_iinc (v := (z37 + 1)) (lv' := [(4, .int (z37 + 1)), (0, .ref qt), (1, .long a1), (3, .int x3)]) hx hb d_Model_more_61 hl (k := 3) rfl rfl (by decide) rfl (fun ls hl => ?_)
          refine lv_goto (tgt := 37) hx hb d_Model_more_64 (by decide) ?_
          exact ih_37 (z37 + 1)  hf _ _ _ hP hD hS (lv_sub hl [1, 2, 3, 0] rfl)
        · have hf := in_ c_56 hf
          refine lv_iconst (v := -1) hx hb d_Model_more_59 (by decide) ?_
          obtain rfl := Option.some.inj hf
          rw [← hQ]
          exact W.iret (v := (-1 : Int32)) hx hb hr (fun t9 ht hW => ⟨⟨(-1 : Int32), (), rfl, rfl, ⟨by rw [ht]; exact hP, hD⟩⟩, hS.F ht⟩) hS.2.2 d_Model_more_60
  have W_33 : ∀ (x3 : Int32) (t_sizes : (Nat → Int32)) , k_Model_more_33 K t_arguments a1 x3 t_sizes = some res → ∀ (H : Heap) (locs : List Loc) (ls : Array Slot), va_P (gD G) vwCl (w_Model_clear G qt qt_draft t_draft t_drafted qt_result t_result t_length t_arguments qt_kinds t_kinds qt_values t_values qt_widths t_widths qt_below t_below qt_sizes t_sizes qt_scales t_scales qt_parts t_parts qt_texts t_texts qt_lengths t_lengths t_end t_index t_flags t_twice t_width t_precision t_conversion t_broken qt_piece t_piece t_put t_head qt_tens t_tens t_count t_exponent qt_work t_work) H → va_D A (w_Model_clear G qt qt_draft t_draft t_drafted qt_result t_result t_length t_arguments qt_kinds t_kinds qt_values t_values qt_widths t_widths qt_below t_below qt_sizes t_sizes qt_scales t_scales qt_parts t_parts qt_texts t_texts qt_lengths t_lengths t_end t_index t_flags t_twice t_width t_precision t_conversion t_broken qt_piece t_piece t_put t_head qt_tens t_tens t_count t_exponent qt_work t_work) → va_S A s.heap H locs → lv_has ls 5 [(0, .ref qt), (1, .long a1), (3, .int x3)] → W p l e { frames := 1, cells := 0, slots := 0, locals := 40 } s m ([.ref qt, .long a1] : List Value).toArray below meth c H locs 0 0 Q (F0 m 33 ls []) := by
    intro x3 t_sizes  hf H locs ls hP hD hS hl
    unfold k_Model_more_33 at hf
    refine lv_bipush (v := 28) hx hb d_Model_more_33 (by decide) ?_
    refine lv_istore (lv' := [(4, .int (28 : Int32)), (0, .ref qt), (1, .long a1), (3, .int x3)]) hx hb d_Model_more_35 hl (by decide) rfl (fun ls hl => ?_)
    exact W_37 x3 t_sizes  K (28 : Int32)  hf _ _ _ hP hD hS (lv_sub hl [1, 2, 3, 0] rfl)
  unfold f_Model_more at hf
  refine lv_aload_n hx hb d_Model_more_0 rfl (lv_at hl 0 rfl) ?_
  refine va_get (D := gD G) (ci := 7) (v := .int t_arguments) (C := R_Model) (T := F_Model) (N := 29) hx hb hg in_Model hown hK hP 0 rfl rfl 4 (by decide) (hg _ m_381) (fun _ h9 => h9) rfl d_Model_more_1 ?_
  refine lv_iconst (v := 1) hx hb d_Model_more_4 (by decide) ?_
  refine lv_isub hx hb d_Model_more_5 ?_
  refine lv_istore_n (lv' := [(3, .int (t_arguments - (1 : Int32))), (0, .ref qt), (1, .long a1)]) hx hb d_Model_more_6 rfl hl (by decide) rfl (fun ls hl => ?_)
  refine lv_iload_n hx hb d_Model_more_7 rfl (lv_at hl 0 rfl) ?_
  refine lv_if_lt (tgt := 31) hx hb d_Model_more_8 (by decide) (fun c_8 => ?_) (fun c_8 => ?_)
  · have hf := ip_ c_8 hf
    refine lv_iconst (v := -1) hx hb d_Model_more_31 (by decide) ?_
    obtain rfl := Option.some.inj hf
    rw [← hQ]
    exact W.iret (v := (-1 : Int32)) hx hb hr (fun t9 ht hW => ⟨⟨(-1 : Int32), (), rfl, rfl, ⟨by rw [ht]; exact hP, hD⟩⟩, hS.F ht⟩) hS.2.2 d_Model_more_32
  · have hf := in_ c_8 hf
    refine lv_aload_n hx hb d_Model_more_11 rfl (lv_at hl 1 rfl) ?_
    refine va_get (D := gD G) (ci := 7) (v := .ref qt_kinds) (C := R_Model) (T := F_Model) (N := 29) hx hb hg in_Model hown hK hP 0 rfl rfl 5 (by decide) (hg _ m_382) (fun _ h9 => h9) rfl d_Model_more_12 ?_
    refine lv_iload_n hx hb d_Model_more_15 rfl (lv_at hl 0 rfl) ?_
    obtain ⟨g_16, hf⟩ := gd_ hf
    refine va_iald hx hb hK hP 3 1 rfl rfl (inB_in g_16) d_Model_more_16 ?_
    refine lv_iconst (v := 4) hx hb d_Model_more_17 (by decide) ?_
    refine lv_icmp_eq (tgt := 33) hx hb d_Model_more_18 (by decide) (fun c_18 => ?_) (fun c_18 => ?_)
    · have hf := ip_ c_18 hf
      exact W_33 (t_arguments - (1 : Int32)) t_sizes  hf _ _ _ hP hD hS (lv_sub hl [1, 2, 0] rfl)
    · have hf := in_ c_18 hf
      refine lv_aload_n hx hb d_Model_more_21 rfl (lv_at hl 1 rfl) ?_
      refine va_get (D := gD G) (ci := 7) (v := .ref qt_kinds) (C := R_Model) (T := F_Model) (N := 29) hx hb hg in_Model hown hK hP 0 rfl rfl 5 (by decide) (hg _ m_382) (fun _ h9 => h9) rfl d_Model_more_22 ?_
      refine lv_iload_n hx hb d_Model_more_25 rfl (lv_at hl 0 rfl) ?_
      obtain ⟨g_26, hf⟩ := gd_ hf
      refine va_iald hx hb hK hP 3 1 rfl rfl (inB_in g_26) d_Model_more_26 ?_
      refine lv_iconst (v := 5) hx hb d_Model_more_27 (by decide) ?_
      refine lv_icmp_eq (tgt := 33) hx hb d_Model_more_28 (by decide) (fun c_28 => ?_) (fun c_28 => ?_)
      · have hf := ip_ c_28 hf
        exact W_33 (t_arguments - (1 : Int32)) t_sizes  hf _ _ _ hP hD hS (lv_sub hl [1, 2, 0] rfl)
      · have hf := in_ c_28 hf
        refine lv_iconst (v := -1) hx hb d_Model_more_31 (by decide) ?_
        obtain rfl := Option.some.inj hf
        rw [← hQ]
        exact W.iret (v := (-1 : Int32)) hx hb hr (fun t9 ht hW => ⟨⟨(-1 : Int32), (), rfl, rfl, ⟨by rw [ht]; exact hP, hD⟩⟩, hS.F ht⟩) hS.2.2 d_Model_more_32
theorem d_Model_scale_0 : decode cd_Model_scale 0 = .ok (.aload_n 0, 1) := by decide +kernel
theorem d_Model_scale_1 : decode cd_Model_scale 1 = .ok (.getfield 60, 3) := by decide +kernel
theorem d_Model_scale_4 : decode cd_Model_scale 4 = .ok (.iconst 1, 1) := by decide +kernel
theorem d_Model_scale_5 : decode cd_Model_scale 5 = .ok (.isub, 1) := by decide +kernel
theorem d_Model_scale_6 : decode cd_Model_scale 6 = .ok (.istore_n 2, 1) := by decide +kernel
theorem d_Model_scale_7 : decode cd_Model_scale 7 = .ok (.iload_n 2, 1) := by decide +kernel
theorem d_Model_scale_8 : decode cd_Model_scale 8 = .ok (.ifCond .lt 27, 3) := by decide +kernel
theorem d_Model_scale_11 : decode cd_Model_scale 11 = .ok (.aload_n 0, 1) := by decide +kernel
theorem d_Model_scale_12 : decode cd_Model_scale 12 = .ok (.getfield 16, 3) := by decide +kernel
theorem d_Model_scale_15 : decode cd_Model_scale 15 = .ok (.iload_n 2, 1) := by decide +kernel
theorem d_Model_scale_16 : decode cd_Model_scale 16 = .ok (.iaload, 1) := by decide +kernel
theorem d_Model_scale_17 : decode cd_Model_scale 17 = .ok (.iconst 4, 1) := by decide +kernel
theorem d_Model_scale_18 : decode cd_Model_scale 18 = .ok (.if_icmp .ne 17, 3) := by decide +kernel
theorem d_Model_scale_21 : decode cd_Model_scale 21 = .ok (.iload_n 1, 1) := by decide +kernel
theorem d_Model_scale_22 : decode cd_Model_scale 22 = .ok (.sipush (-400), 3) := by decide +kernel
theorem d_Model_scale_25 : decode cd_Model_scale 25 = .ok (.if_icmp .lt 10, 3) := by decide +kernel
theorem d_Model_scale_28 : decode cd_Model_scale 28 = .ok (.iload_n 1, 1) := by decide +kernel
theorem d_Model_scale_29 : decode cd_Model_scale 29 = .ok (.sipush 400, 3) := by decide +kernel
theorem d_Model_scale_32 : decode cd_Model_scale 32 = .ok (.if_icmp .le 5, 3) := by decide +kernel
theorem d_Model_scale_35 : decode cd_Model_scale 35 = .ok (.iconst (-1), 1) := by decide +kernel
theorem d_Model_scale_36 : decode cd_Model_scale 36 = .ok (.ireturn, 1) := by decide +kernel
theorem d_Model_scale_37 : decode cd_Model_scale 37 = .ok (.aload_n 0, 1) := by decide +kernel
theorem d_Model_scale_38 : decode cd_Model_scale 38 = .ok (.getfield 16, 3) := by decide +kernel
theorem d_Model_scale_41 : decode cd_Model_scale 41 = .ok (.iload_n 2, 1) := by decide +kernel
theorem d_Model_scale_42 : decode cd_Model_scale 42 = .ok (.iconst 5, 1) := by decide +kernel
theorem d_Model_scale_43 : decode cd_Model_scale 43 = .ok (.iastore, 1) := by decide +kernel
theorem d_Model_scale_44 : decode cd_Model_scale 44 = .ok (.aload_n 0, 1) := by decide +kernel
theorem d_Model_scale_45 : decode cd_Model_scale 45 = .ok (.getfield 33, 3) := by decide +kernel
theorem d_Model_scale_48 : decode cd_Model_scale 48 = .ok (.iload_n 2, 1) := by decide +kernel
theorem d_Model_scale_49 : decode cd_Model_scale 49 = .ok (.iload_n 1, 1) := by decide +kernel
theorem d_Model_scale_50 : decode cd_Model_scale 50 = .ok (.iastore, 1) := by decide +kernel
theorem d_Model_scale_51 : decode cd_Model_scale 51 = .ok (.aload_n 0, 1) := by decide +kernel
theorem d_Model_scale_52 : decode cd_Model_scale 52 = .ok (.getfield 60, 3) := by decide +kernel
theorem d_Model_scale_55 : decode cd_Model_scale 55 = .ok (.ireturn, 1) := by decide +kernel
theorem m_397 : Cond.fieldLink R_Model 33 "SpecifierDeskModel" "scales" "[I" ∈ gw := gm (i := 870) (by decide +kernel) (by decide +kernel)
def f_Model_scale (t_arguments : Int32) (t_kinds : Nat → Int32) (t_scales : Nat → Int32) (a1 : Int32) : Option (Int32 × (Nat → Int32) × (Nat → Int32)) :=
  (if (t_arguments - (1 : Int32)) < 0 then some ((-1 : Int32), t_kinds, t_scales) else (if inB (t_arguments - (1 : Int32)) 12 = true then (if (t_kinds (t_arguments - (1 : Int32)).toNatClampNeg) = (4 : Int32) then (if a1 < (-400 : Int32) then some ((-1 : Int32), t_kinds, t_scales) else (if a1 ≤ (400 : Int32) then (if inB (t_arguments - (1 : Int32)) 12 = true then (if inB (t_arguments - (1 : Int32)) 12 = true then some (t_arguments, (upd t_kinds (t_arguments - (1 : Int32)).toNatClampNeg (5 : Int32)), (upd t_scales (t_arguments - (1 : Int32)).toNatClampNeg a1)) else none) else none) else some ((-1 : Int32), t_kinds, t_scales))) else some ((-1 : Int32), t_kinds, t_scales)) else none))
set_option maxHeartbeats 4000000 in
set_option maxRecDepth 100000 in
theorem c_Model_scale (l : Launch) (G : Gt) (K : Nat) (qt : Nat) (qt_draft : Nat) (t_draft : Nat → Int32) (t_drafted : Int32) (qt_result : Nat) (t_result : Nat → Int32) (t_length : Int32) (t_arguments : Int32) (qt_kinds : Nat) (t_kinds : Nat → Int32) (qt_values : Nat) (t_values : Nat → Int64) (qt_widths : Nat) (t_widths : Nat → Int32) (qt_below : Nat) (t_below : Nat → Int32) (qt_sizes : Nat) (t_sizes : Nat → Int32) (qt_scales : Nat) (t_scales : Nat → Int32) (qt_parts : Nat) (t_parts : Nat → Int64) (qt_texts : Nat) (t_texts : Nat → Int32) (qt_lengths : Nat) (t_lengths : Nat → Int32) (t_end : Int32) (t_index : Int32) (t_flags : Int32) (t_twice : Int32) (t_width : Int32) (t_precision : Int32) (t_conversion : Int32) (t_broken : Int32) (qt_piece : Nat) (t_piece : Nat → Int32) (t_put : Int32) (t_head : Int32) (qt_tens : Nat) (t_tens : Nat → Int32) (t_count : Int32) (t_exponent : Int32) (qt_work : Nat) (t_work : Nat → Int32) (a1 : Int32) (sz : Nat) (res : Int32 × (Nat → Int32) × (Nat → Int32))   (hf : f_Model_scale t_arguments t_kinds t_scales a1 = some res) : Met l y_Model_scale (.code y_Model_scale cd_Model_scale 3 (some .int) :: gw) { frames := 0, cells := 0, slots := 0, locals := 0 } (PC G ([.ref qt, .int a1] : List Value) sz (w_Model_clear G qt qt_draft t_draft t_drafted qt_result t_result t_length t_arguments qt_kinds t_kinds qt_values t_values qt_widths t_widths qt_below t_below qt_sizes t_sizes qt_scales t_scales qt_parts t_parts qt_texts t_texts qt_lengths t_lengths t_end t_index t_flags t_twice t_width t_precision t_conversion t_broken qt_piece t_piece t_put t_head qt_tens t_tens t_count t_exponent qt_work t_work)) (QI G res.1 (va_A (w_Model_clear G qt qt_draft t_draft t_drafted qt_result t_result t_length t_arguments qt_kinds t_kinds qt_values t_values qt_widths t_widths qt_below t_below qt_sizes t_sizes qt_scales t_scales qt_parts t_parts qt_texts t_texts qt_lengths t_lengths t_end t_index t_flags t_twice t_width t_precision t_conversion t_broken qt_piece t_piece t_put t_head qt_tens t_tens t_count t_exponent qt_work t_work) sz) (w_Model_clear G qt qt_draft t_draft t_drafted qt_result t_result t_length t_arguments qt_kinds res.2.1 qt_values t_values qt_widths t_widths qt_below t_below qt_sizes t_sizes qt_scales res.2.2 qt_parts t_parts qt_texts t_texts qt_lengths t_lengths t_end t_index t_flags t_twice t_width t_precision t_conversion t_broken qt_piece t_piece t_put t_head qt_tens t_tens t_count t_exponent qt_work t_work)) 0 0 (va_A (w_Model_clear G qt qt_draft t_draft t_drafted qt_result t_result t_length t_arguments qt_kinds t_kinds qt_values t_values qt_widths t_widths qt_below t_below qt_sizes t_sizes qt_scales t_scales qt_parts t_parts qt_texts t_texts qt_lengths t_lengths t_end t_index t_flags t_twice t_width t_precision t_conversion t_broken qt_piece t_piece t_put t_head qt_tens t_tens t_count t_exponent qt_work t_work) sz) := by
  refine Met.ofW (cc := cd_Model_scale) (maxL := 3) (ret := (some .int)) (by decide) rfl ?_
  intro p e s m args below meth c s₁ B hml hv
  obtain ⟨rfl, hsz, hP, hE, hD0⟩ := hv
  have hx := B.exec
  have hb := B.bytes
  have hr := B.returns
  have hts := atoms_spec (ws := (.code y_Model_scale cd_Model_scale 3 (some .int) :: gw)) B.pre
  have hg : ∀ w ∈ gw, w.before _ s = true := fun w h => hts w (List.mem_cons_of_mem _ h)
  have hown : s.vm.findClass R_Model = some m.cls := findClass_of_methodNamed B.named
  have hlocks := B.notSynchronized
  subst hsz
  have hK := hE.K
  have hD := hD0.self (sz := s.heap.size)
  have hAb := hE.ab hD0
  obtain ⟨Q, hQ⟩ : ∃ Q, MQ below (QI G res.1 (va_A (w_Model_clear G qt qt_draft t_draft t_drafted qt_result t_result t_length t_arguments qt_kinds t_kinds qt_values t_values qt_widths t_widths qt_below t_below qt_sizes t_sizes qt_scales t_scales qt_parts t_parts qt_texts t_texts qt_lengths t_lengths t_end t_index t_flags t_twice t_width t_precision t_conversion t_broken qt_piece t_piece t_put t_head qt_tens t_tens t_count t_exponent qt_work t_work) s.heap.size) (w_Model_clear G qt qt_draft t_draft t_drafted qt_result t_result t_length t_arguments qt_kinds res.2.1 qt_values t_values qt_widths t_widths qt_below t_below qt_sizes t_sizes qt_scales res.2.2 qt_parts t_parts qt_texts t_texts qt_lengths t_lengths t_end t_index t_flags t_twice t_width t_precision t_conversion t_broken qt_piece t_piece t_put t_head qt_tens t_tens t_count t_exponent qt_work t_work)) ([.ref qt, .int a1] : List Value).toArray s 0 0 (va_A (w_Model_clear G qt qt_draft t_draft t_drafted qt_result t_result t_length t_arguments qt_kinds t_kinds qt_values t_values qt_widths t_widths qt_below t_below qt_sizes t_sizes qt_scales t_scales qt_parts t_parts qt_texts t_texts qt_lengths t_lengths t_end t_index t_flags t_twice t_width t_precision t_conversion t_broken qt_piece t_piece t_put t_head qt_tens t_tens t_count t_exponent qt_work t_work) s.heap.size) = Q := ⟨_, rfl⟩
  show W p l e { frames := 0, cells := 0, slots := 0, locals := 0 } s m ([.ref qt, .int a1] : List Value).toArray below meth c s.heap [] 0 0 (MQ below (QI G res.1 (va_A (w_Model_clear G qt qt_draft t_draft t_drafted qt_result t_result t_length t_arguments qt_kinds t_kinds qt_values t_values qt_widths t_widths qt_below t_below qt_sizes t_sizes qt_scales t_scales qt_parts t_parts qt_texts t_texts qt_lengths t_lengths t_end t_index t_flags t_twice t_width t_precision t_conversion t_broken qt_piece t_piece t_put t_head qt_tens t_tens t_count t_exponent qt_work t_work) s.heap.size) (w_Model_clear G qt qt_draft t_draft t_drafted qt_result t_result t_length t_arguments qt_kinds res.2.1 qt_values t_values qt_widths t_widths qt_below t_below qt_sizes t_sizes qt_scales res.2.2 qt_parts t_parts qt_texts t_texts qt_lengths t_lengths t_end t_index t_flags t_twice t_width t_precision t_conversion t_broken qt_piece t_piece t_put t_head qt_tens t_tens t_count t_exponent qt_work t_work)) ([.ref qt, .int a1] : List Value).toArray s 0 0 (va_A (w_Model_clear G qt qt_draft t_draft t_drafted qt_result t_result t_length t_arguments qt_kinds t_kinds qt_values t_values qt_widths t_widths qt_below t_below qt_sizes t_sizes qt_scales t_scales qt_parts t_parts qt_texts t_texts qt_lengths t_lengths t_end t_index t_flags t_twice t_width t_precision t_conversion t_broken qt_piece t_piece t_put t_head qt_tens t_tens t_count t_exponent qt_work t_work) s.heap.size)) _
  rw [hQ]
  have hA : ∀ q : Nat, s.heap.size ≤ q → va_A (w_Model_clear G qt qt_draft t_draft t_drafted qt_result t_result t_length t_arguments qt_kinds t_kinds qt_values t_values qt_widths t_widths qt_below t_below qt_sizes t_sizes qt_scales t_scales qt_parts t_parts qt_texts t_texts qt_lengths t_lengths t_end t_index t_flags t_twice t_width t_precision t_conversion t_broken qt_piece t_piece t_put t_head qt_tens t_tens t_count t_exponent qt_work t_work) s.heap.size q := fun q h => Or.inr h
  obtain ⟨A, hAe⟩ : ∃ A, va_A (w_Model_clear G qt qt_draft t_draft t_drafted qt_result t_result t_length t_arguments qt_kinds t_kinds qt_values t_values qt_widths t_widths qt_below t_below qt_sizes t_sizes qt_scales t_scales qt_parts t_parts qt_texts t_texts qt_lengths t_lengths t_end t_index t_flags t_twice t_width t_precision t_conversion t_broken qt_piece t_piece t_put t_head qt_tens t_tens t_count t_exponent qt_work t_work) s.heap.size = A := ⟨_, rfl⟩
  rw [hAe] at hA hD hAb hQ
  have hS : va_S A s.heap s.heap [] := va_S.rf
  have hl := lv_entry (([.ref qt, .int a1] : List Value)) (n := 3) (Nat.le_of_ble_eq_true rfl)
  rw [lg_entry_eq]
  generalize (lg_sl (([.ref qt, .int a1] : List Value)) ++ List.replicate (3 - (lg_sl (([.ref qt, .int a1] : List Value))).length) Slot.unset).toArray = ls at hl ⊢
  have hl : lv_has ls 3 [(0, .ref qt), (1, .int a1)] := hl
  unfold f_Model_scale at hf
  refine lv_aload_n hx hb d_Model_scale_0 rfl (lv_at hl 0 rfl) ?_
  refine va_get (D := gD G) (ci := 7) (v := .int t_arguments) (C := R_Model) (T := F_Model) (N := 29) hx hb hg in_Model hown hK hP 0 rfl rfl 4 (by decide) (hg _ m_381) (fun _ h9 => h9) rfl d_Model_scale_1 ?_
  refine lv_iconst (v := 1) hx hb d_Model_scale_4 (by decide) ?_
  refine lv_isub hx hb d_Model_scale_5 ?_
  refine lv_istore_n (lv' := [(2, .int (t_arguments - (1 : Int32))), (0, .ref qt), (1, .int a1)]) hx hb d_Model_scale_6 rfl hl (by decide) rfl (fun ls hl => ?_)
  refine lv_iload_n hx hb d_Model_scale_7 rfl (lv_at hl 0 rfl) ?_
  refine lv_if_lt (tgt := 35) hx hb d_Model_scale_8 (by decide) (fun c_8 => ?_) (fun c_8 => ?_)
  · have hf := ip_ c_8 hf
    refine lv_iconst (v := -1) hx hb d_Model_scale_35 (by decide) ?_
    obtain rfl := Option.some.inj hf
    rw [← hQ]
    exact W.iret (v := (-1 : Int32)) hx hb hr (fun t9 ht hW => ⟨⟨(-1 : Int32), (), rfl, rfl, ⟨by rw [ht]; exact hP, hD⟩⟩, hS.F ht⟩) hS.2.2 d_Model_scale_36
  · have hf := in_ c_8 hf
    refine lv_aload_n hx hb d_Model_scale_11 rfl (lv_at hl 1 rfl) ?_
    refine va_get (D := gD G) (ci := 7) (v := .ref qt_kinds) (C := R_Model) (T := F_Model) (N := 29) hx hb hg in_Model hown hK hP 0 rfl rfl 5 (by decide) (hg _ m_382) (fun _ h9 => h9) rfl d_Model_scale_12 ?_
    refine lv_iload_n hx hb d_Model_scale_15 rfl (lv_at hl 0 rfl) ?_
    obtain ⟨g_16, hf⟩ := gd_ hf
    refine va_iald hx hb hK hP 3 1 rfl rfl (inB_in g_16) d_Model_scale_16 ?_
    refine lv_iconst (v := 4) hx hb d_Model_scale_17 (by decide) ?_
    refine lv_icmp_ne (tgt := 35) hx hb d_Model_scale_18 (by decide) (fun c_18 => ?_) (fun c_18 => ?_)
    · have hf := in_ c_18 hf
      refine lv_iconst (v := -1) hx hb d_Model_scale_35 (by decide) ?_
      obtain rfl := Option.some.inj hf
      rw [← hQ]
      exact W.iret (v := (-1 : Int32)) hx hb hr (fun t9 ht hW => ⟨⟨(-1 : Int32), (), rfl, rfl, ⟨by rw [ht]; exact hP, hD⟩⟩, hS.F ht⟩) hS.2.2 d_Model_scale_36
    · have hf := ip_ c_18 hf
      refine lv_iload_n hx hb d_Model_scale_21 rfl (lv_at hl 2 rfl) ?_
      refine lv_sipush (v := -400) hx hb d_Model_scale_22 (by decide) ?_
      refine lv_icmp_lt (tgt := 35) hx hb d_Model_scale_25 (by decide) (fun c_25 => ?_) (fun c_25 => ?_)
      · have hf := ip_ c_25 hf
        refine lv_iconst (v := -1) hx hb d_Model_scale_35 (by decide) ?_
        obtain rfl := Option.some.inj hf
        rw [← hQ]
        exact W.iret (v := (-1 : Int32)) hx hb hr (fun t9 ht hW => ⟨⟨(-1 : Int32), (), rfl, rfl, ⟨by rw [ht]; exact hP, hD⟩⟩, hS.F ht⟩) hS.2.2 d_Model_scale_36
      · have hf := in_ c_25 hf
        refine lv_iload_n hx hb d_Model_scale_28 rfl (lv_at hl 2 rfl) ?_
        refine lv_sipush (v := 400) hx hb d_Model_scale_29 (by decide) ?_
        refine lv_icmp_le (tgt := 37) hx hb d_Model_scale_32 (by decide) (fun c_32 => ?_) (fun c_32 => ?_)
        · have hf := ip_ c_32 hf
          refine lv_aload_n hx hb d_Model_scale_37 rfl (lv_at hl 1 rfl) ?_
          refine va_get (D := gD G) (ci := 7) (v := .ref qt_kinds) (C := R_Model) (T := F_Model) (N := 29) hx hb hg in_Model hown hK hP 0 rfl rfl 5 (by decide) (hg _ m_382) (fun _ h9 => h9) rfl d_Model_scale_38 ?_
          refine lv_iload_n hx hb d_Model_scale_41 rfl (lv_at hl 0 rfl) ?_
          refine lv_iconst (v := 5) hx hb d_Model_scale_42 (by decide) ?_
          obtain ⟨g_43, hf⟩ := gd_ hf
          refine va_iast hx hb hK hP hD hS 3 1 rfl rfl (inB_in g_43) d_Model_scale_43 (fun H locs hP hD hS => ?_)
          have hP : va_P (gD G) vwCl (w_Model_clear G qt qt_draft t_draft t_drafted qt_result t_result t_length t_arguments qt_kinds (upd t_kinds (t_arguments - (1 : Int32)).toNatClampNeg (5 : Int32)) qt_values t_values qt_widths t_widths qt_below t_below qt_sizes t_sizes qt_scales t_scales qt_parts t_parts qt_texts t_texts qt_lengths t_lengths t_end t_index t_flags t_twice t_width t_precision t_conversion t_broken qt_piece t_piece t_put t_head qt_tens t_tens t_count t_exponent qt_work t_work) H := hP
          have hD : va_D A (w_Model_clear G qt qt_draft t_draft t_drafted qt_result t_result t_length t_arguments qt_kinds (upd t_kinds (t_arguments - (1 : Int32)).toNatClampNeg (5 : Int32)) qt_values t_values qt_widths t_widths qt_below t_below qt_sizes t_sizes qt_scales t_scales qt_parts t_parts qt_texts t_texts qt_lengths t_lengths t_end t_index t_flags t_twice t_width t_precision t_conversion t_broken qt_piece t_piece t_put t_head qt_tens t_tens t_count t_exponent qt_work t_work) := hD
          refine lv_aload_n hx hb d_Model_scale_44 rfl (lv_at hl 1 rfl) ?_
          refine va_get (D := gD G) (ci := 7) (v := .ref qt_scales) (C := R_Model) (T := F_Model) (N := 29) hx hb hg in_Model hown hK hP 0 rfl rfl 10 (by decide) (hg _ m_397) (fun _ h9 => h9) rfl d_Model_scale_45 ?_
          refine lv_iload_n hx hb d_Model_scale_48 rfl (lv_at hl 0 rfl) ?_
          refine lv_iload_n hx hb d_Model_scale_49 rfl (lv_at hl 2 rfl) ?_
          obtain ⟨g_50, hf⟩ := gd_ hf
          refine va_iast hx hb hK hP hD hS 8 1 rfl rfl (inB_in g_50) d_Model_scale_50 (fun H locs hP hD hS => ?_)
          have hP : va_P (gD G) vwCl (w_Model_clear G qt qt_draft t_draft t_drafted qt_result t_result t_length t_arguments qt_kinds (upd t_kinds (t_arguments - (1 : Int32)).toNatClampNeg (5 : Int32)) qt_values t_values qt_widths t_widths qt_below t_below qt_sizes t_sizes qt_scales (upd t_scales (t_arguments - (1 : Int32)).toNatClampNeg a1) qt_parts t_parts qt_texts t_texts qt_lengths t_lengths t_end t_index t_flags t_twice t_width t_precision t_conversion t_broken qt_piece t_piece t_put t_head qt_tens t_tens t_count t_exponent qt_work t_work) H := hP
          have hD : va_D A (w_Model_clear G qt qt_draft t_draft t_drafted qt_result t_result t_length t_arguments qt_kinds (upd t_kinds (t_arguments - (1 : Int32)).toNatClampNeg (5 : Int32)) qt_values t_values qt_widths t_widths qt_below t_below qt_sizes t_sizes qt_scales (upd t_scales (t_arguments - (1 : Int32)).toNatClampNeg a1) qt_parts t_parts qt_texts t_texts qt_lengths t_lengths t_end t_index t_flags t_twice t_width t_precision t_conversion t_broken qt_piece t_piece t_put t_head qt_tens t_tens t_count t_exponent qt_work t_work) := hD
          refine lv_aload_n hx hb d_Model_scale_51 rfl (lv_at hl 1 rfl) ?_
          refine va_get (D := gD G) (ci := 7) (v := .int t_arguments) (C := R_Model) (T := F_Model) (N := 29) hx hb hg in_Model hown hK hP 0 rfl rfl 4 (by decide) (hg _ m_381) (fun _ h9 => h9) rfl d_Model_scale_52 ?_
          obtain rfl := Option.some.inj hf
          rw [← hQ]
          exact W.iret (v := t_arguments) hx hb hr (fun t9 ht hW => ⟨⟨t_arguments, (), rfl, rfl, ⟨by rw [ht]; exact hP, hD⟩⟩, hS.F ht⟩) hS.2.2 d_Model_scale_55
        · have hf := in_ c_32 hf
          refine lv_iconst (v := -1) hx hb d_Model_scale_35 (by decide) ?_
          obtain rfl := Option.some.inj hf
          rw [← hQ]
          exact W.iret (v := (-1 : Int32)) hx hb hr (fun t9 ht hW => ⟨⟨(-1 : Int32), (), rfl, rfl, ⟨by rw [ht]; exact hP, hD⟩⟩, hS.F ht⟩) hS.2.2 d_Model_scale_36
theorem d_Model_fraction_0 : decode cd_Model_fraction 0 = .ok (.lload_n 3, 1) := by decide +kernel
theorem d_Model_fraction_1 : decode cd_Model_fraction 1 = .ok (.lconst 0, 1) := by decide +kernel
theorem d_Model_fraction_2 : decode cd_Model_fraction 2 = .ok (.lcmp, 1) := by decide +kernel
theorem d_Model_fraction_3 : decode cd_Model_fraction 3 = .ok (.ifCond .lt 27, 3) := by decide +kernel
theorem d_Model_fraction_6 : decode cd_Model_fraction 6 = .ok (.lload_n 3, 1) := by decide +kernel
theorem d_Model_fraction_7 : decode cd_Model_fraction 7 = .ok (.ldc2_w 73, 3) := by decide +kernel
theorem d_Model_fraction_10 : decode cd_Model_fraction 10 = .ok (.lcmp, 1) := by decide +kernel
theorem d_Model_fraction_11 : decode cd_Model_fraction 11 = .ok (.ifCond .gt 19, 3) := by decide +kernel
theorem d_Model_fraction_14 : decode cd_Model_fraction 14 = .ok (.iload 5, 2) := by decide +kernel
theorem d_Model_fraction_16 : decode cd_Model_fraction 16 = .ok (.sipush (-400), 3) := by decide +kernel
theorem d_Model_fraction_19 : decode cd_Model_fraction 19 = .ok (.if_icmp .lt 11, 3) := by decide +kernel
theorem d_Model_fraction_22 : decode cd_Model_fraction 22 = .ok (.iload 5, 2) := by decide +kernel
theorem d_Model_fraction_24 : decode cd_Model_fraction 24 = .ok (.sipush 400, 3) := by decide +kernel
theorem d_Model_fraction_27 : decode cd_Model_fraction 27 = .ok (.if_icmp .le 5, 3) := by decide +kernel
theorem d_Model_fraction_30 : decode cd_Model_fraction 30 = .ok (.iconst (-1), 1) := by decide +kernel
theorem d_Model_fraction_31 : decode cd_Model_fraction 31 = .ok (.ireturn, 1) := by decide +kernel
theorem d_Model_fraction_32 : decode cd_Model_fraction 32 = .ok (.aload_n 0, 1) := by decide +kernel
theorem d_Model_fraction_33 : decode cd_Model_fraction 33 = .ok (.bipush 6, 2) := by decide +kernel
theorem d_Model_fraction_35 : decode cd_Model_fraction 35 = .ok (.lload_n 1, 1) := by decide +kernel
theorem d_Model_fraction_36 : decode cd_Model_fraction 36 = .ok (.lload_n 1, 1) := by decide +kernel
theorem d_Model_fraction_37 : decode cd_Model_fraction 37 = .ok (.lconst 0, 1) := by decide +kernel
theorem d_Model_fraction_38 : decode cd_Model_fraction 38 = .ok (.lcmp, 1) := by decide +kernel
theorem d_Model_fraction_39 : decode cd_Model_fraction 39 = .ok (.ifCond .ge 7, 3) := by decide +kernel
theorem d_Model_fraction_42 : decode cd_Model_fraction 42 = .ok (.iconst 1, 1) := by decide +kernel
theorem d_Model_fraction_43 : decode cd_Model_fraction 43 = .ok (.goto 4, 3) := by decide +kernel
theorem d_Model_fraction_46 : decode cd_Model_fraction 46 = .ok (.iconst 0, 1) := by decide +kernel
theorem d_Model_fraction_47 : decode cd_Model_fraction 47 = .ok (.invokevirtual 63, 3) := by decide +kernel
theorem d_Model_fraction_50 : decode cd_Model_fraction 50 = .ok (.istore 6, 2) := by decide +kernel
theorem d_Model_fraction_52 : decode cd_Model_fraction 52 = .ok (.iload 6, 2) := by decide +kernel
theorem d_Model_fraction_54 : decode cd_Model_fraction 54 = .ok (.ifCond .ge 5, 3) := by decide +kernel
theorem d_Model_fraction_57 : decode cd_Model_fraction 57 = .ok (.iconst (-1), 1) := by decide +kernel
theorem d_Model_fraction_58 : decode cd_Model_fraction 58 = .ok (.ireturn, 1) := by decide +kernel
theorem d_Model_fraction_59 : decode cd_Model_fraction 59 = .ok (.aload_n 0, 1) := by decide +kernel
theorem d_Model_fraction_60 : decode cd_Model_fraction 60 = .ok (.getfield 36, 3) := by decide +kernel
theorem d_Model_fraction_63 : decode cd_Model_fraction 63 = .ok (.iload 6, 2) := by decide +kernel
theorem d_Model_fraction_65 : decode cd_Model_fraction 65 = .ok (.iconst 1, 1) := by decide +kernel
theorem d_Model_fraction_66 : decode cd_Model_fraction 66 = .ok (.isub, 1) := by decide +kernel
theorem d_Model_fraction_67 : decode cd_Model_fraction 67 = .ok (.lload_n 3, 1) := by decide +kernel
theorem d_Model_fraction_68 : decode cd_Model_fraction 68 = .ok (.lastore, 1) := by decide +kernel
theorem d_Model_fraction_69 : decode cd_Model_fraction 69 = .ok (.aload_n 0, 1) := by decide +kernel
theorem d_Model_fraction_70 : decode cd_Model_fraction 70 = .ok (.getfield 33, 3) := by decide +kernel
theorem d_Model_fraction_73 : decode cd_Model_fraction 73 = .ok (.iload 6, 2) := by decide +kernel
theorem d_Model_fraction_75 : decode cd_Model_fraction 75 = .ok (.iconst 1, 1) := by decide +kernel
theorem d_Model_fraction_76 : decode cd_Model_fraction 76 = .ok (.isub, 1) := by decide +kernel
theorem d_Model_fraction_77 : decode cd_Model_fraction 77 = .ok (.iload 5, 2) := by decide +kernel
theorem d_Model_fraction_79 : decode cd_Model_fraction 79 = .ok (.ineg, 1) := by decide +kernel
theorem d_Model_fraction_80 : decode cd_Model_fraction 80 = .ok (.iastore, 1) := by decide +kernel
theorem d_Model_fraction_81 : decode cd_Model_fraction 81 = .ok (.iload 6, 2) := by decide +kernel
theorem d_Model_fraction_83 : decode cd_Model_fraction 83 = .ok (.ireturn, 1) := by decide +kernel
theorem m_398 : Cond.constantLong R_Model 73 99999999999999999 ∈ gw := gm (i := 999) (by decide +kernel) (by decide +kernel)
theorem m_399 : Cond.fieldLink R_Model 36 "SpecifierDeskModel" "parts" "[J" ∈ gw := gm (i := 871) (by decide +kernel) (by decide +kernel)
def k_Model_fraction_47 (K : Nat) (a2 : Int64) (a3 : Int32) (k1 : Int32) (k2 : Int64) (k3 : Int32) (t_arguments : Int32) (t_kinds : (Nat → Int32)) (t_values : (Nat → Int64)) (t_below : (Nat → Int32)) (t_sizes : (Nat → Int32)) (t_scales : (Nat → Int32)) (t_parts : (Nat → Int64)) : Option (Int32 × Int32 × (Nat → Int32) × (Nat → Int64) × (Nat → Int32) × (Nat → Int32) × (Nat → Int32) × (Nat → Int64)) :=
  ((f_Model_argument K t_arguments t_kinds t_values t_below t_sizes k1 k2 k3).bind fun u_47 => (if 0 ≤ u_47.1 then (if inB (u_47.1 - (1 : Int32)) 12 = true then (if inB (u_47.1 - (1 : Int32)) 12 = true then some (u_47.1, u_47.2.1, u_47.2.2.1, u_47.2.2.2.1, u_47.2.2.2.2.1, u_47.2.2.2.2.2, (upd t_scales (u_47.1 - (1 : Int32)).toNatClampNeg (-a3)), (vp_updL t_parts (u_47.1 - (1 : Int32)).toNatClampNeg a2)) else none) else none) else some ((-1 : Int32), u_47.2.1, u_47.2.2.1, u_47.2.2.2.1, u_47.2.2.2.2.1, u_47.2.2.2.2.2, t_scales, t_parts)))
def f_Model_fraction (K : Nat) (t_arguments : Int32) (t_kinds : Nat → Int32) (t_values : Nat → Int64) (t_below : Nat → Int32) (t_sizes : Nat → Int32) (t_scales : Nat → Int32) (t_parts : Nat → Int64) (a1 : Int64) (a2 : Int64) (a3 : Int32) : Option (Int32 × Int32 × (Nat → Int32) × (Nat → Int64) × (Nat → Int32) × (Nat → Int32) × (Nat → Int32) × (Nat → Int64)) :=
  (if (lg_cmp a2 (0 : Int64)) < 0 then some ((-1 : Int32), t_arguments, t_kinds, t_values, t_below, t_sizes, t_scales, t_parts) else (if 0 < (lg_cmp a2 (99999999999999999 : Int64)) then some ((-1 : Int32), t_arguments, t_kinds, t_values, t_below, t_sizes, t_scales, t_parts) else (if a3 < (-400 : Int32) then some ((-1 : Int32), t_arguments, t_kinds, t_values, t_below, t_sizes, t_scales, t_parts) else (if a3 ≤ (400 : Int32) then (if 0 ≤ (lg_cmp a1 (0 : Int64)) then k_Model_fraction_47 K a2 a3 (6 : Int32) a1 (0 : Int32) t_arguments t_kinds t_values t_below t_sizes t_scales t_parts else k_Model_fraction_47 K a2 a3 (6 : Int32) a1 (1 : Int32) t_arguments t_kinds t_values t_below t_sizes t_scales t_parts) else some ((-1 : Int32), t_arguments, t_kinds, t_values, t_below, t_sizes, t_scales, t_parts)))))
set_option maxHeartbeats 4000000 in
set_option maxRecDepth 100000 in
theorem c_Model_fraction (l : Launch) (G : Gt) (K : Nat) (qt : Nat) (qt_draft : Nat) (t_draft : Nat → Int32) (t_drafted : Int32) (qt_result : Nat) (t_result : Nat → Int32) (t_length : Int32) (t_arguments : Int32) (qt_kinds : Nat) (t_kinds : Nat → Int32) (qt_values : Nat) (t_values : Nat → Int64) (qt_widths : Nat) (t_widths : Nat → Int32) (qt_below : Nat) (t_below : Nat → Int32) (qt_sizes : Nat) (t_sizes : Nat → Int32) (qt_scales : Nat) (t_scales : Nat → Int32) (qt_parts : Nat) (t_parts : Nat → Int64) (qt_texts : Nat) (t_texts : Nat → Int32) (qt_lengths : Nat) (t_lengths : Nat → Int32) (t_end : Int32) (t_index : Int32) (t_flags : Int32) (t_twice : Int32) (t_width : Int32) (t_precision : Int32) (t_conversion : Int32) (t_broken : Int32) (qt_piece : Nat) (t_piece : Nat → Int32) (t_put : Int32) (t_head : Int32) (qt_tens : Nat) (t_tens : Nat → Int32) (t_count : Int32) (t_exponent : Int32) (qt_work : Nat) (t_work : Nat → Int32) (a1 : Int64) (a2 : Int64) (a3 : Int32) (sz : Nat) (res : Int32 × Int32 × (Nat → Int32) × (Nat → Int64) × (Nat → Int32) × (Nat → Int32) × (Nat → Int32) × (Nat → Int64))   (hf : f_Model_fraction K t_arguments t_kinds t_values t_below t_sizes t_scales t_parts a1 a2 a3 = some res) : Met l y_Model_fraction (.code y_Model_fraction cd_Model_fraction 7 (some .int) :: gw) { frames := 1, cells := 0, slots := 0, locals := 40 } (PC G ([.ref qt, .long a1, .long a2, .int a3] : List Value) sz (w_Model_clear G qt qt_draft t_draft t_drafted qt_result t_result t_length t_arguments qt_kinds t_kinds qt_values t_values qt_widths t_widths qt_below t_below qt_sizes t_sizes qt_scales t_scales qt_parts t_parts qt_texts t_texts qt_lengths t_lengths t_end t_index t_flags t_twice t_width t_precision t_conversion t_broken qt_piece t_piece t_put t_head qt_tens t_tens t_count t_exponent qt_work t_work)) (QI G res.1 (va_A (w_Model_clear G qt qt_draft t_draft t_drafted qt_result t_result t_length t_arguments qt_kinds t_kinds qt_values t_values qt_widths t_widths qt_below t_below qt_sizes t_sizes qt_scales t_scales qt_parts t_parts qt_texts t_texts qt_lengths t_lengths t_end t_index t_flags t_twice t_width t_precision t_conversion t_broken qt_piece t_piece t_put t_head qt_tens t_tens t_count t_exponent qt_work t_work) sz) (w_Model_clear G qt qt_draft t_draft t_drafted qt_result t_result t_length res.2.1 qt_kinds res.2.2.1 qt_values res.2.2.2.1 qt_widths t_widths qt_below res.2.2.2.2.1 qt_sizes res.2.2.2.2.2.1 qt_scales res.2.2.2.2.2.2.1 qt_parts res.2.2.2.2.2.2.2 qt_texts t_texts qt_lengths t_lengths t_end t_index t_flags t_twice t_width t_precision t_conversion t_broken qt_piece t_piece t_put t_head qt_tens t_tens t_count t_exponent qt_work t_work)) 0 0 (va_A (w_Model_clear G qt qt_draft t_draft t_drafted qt_result t_result t_length t_arguments qt_kinds t_kinds qt_values t_values qt_widths t_widths qt_below t_below qt_sizes t_sizes qt_scales t_scales qt_parts t_parts qt_texts t_texts qt_lengths t_lengths t_end t_index t_flags t_twice t_width t_precision t_conversion t_broken qt_piece t_piece t_put t_head qt_tens t_tens t_count t_exponent qt_work t_work) sz) := by
  refine Met.ofW (cc := cd_Model_fraction) (maxL := 7) (ret := (some .int)) (by decide) rfl ?_
  intro p e s m args below meth c s₁ B hml hv
  obtain ⟨rfl, hsz, hP, hE, hD0⟩ := hv
  have hx := B.exec
  have hb := B.bytes
  have hr := B.returns
  have hts := atoms_spec (ws := (.code y_Model_fraction cd_Model_fraction 7 (some .int) :: gw)) B.pre
  have hg : ∀ w ∈ gw, w.before _ s = true := fun w h => hts w (List.mem_cons_of_mem _ h)
  have hown : s.vm.findClass R_Model = some m.cls := findClass_of_methodNamed B.named
  have hlocks := B.notSynchronized
  subst hsz
  have hK := hE.K
  have hD := hD0.self (sz := s.heap.size)
  have hAb := hE.ab hD0
  obtain ⟨Q, hQ⟩ : ∃ Q, MQ below (QI G res.1 (va_A (w_Model_clear G qt qt_draft t_draft t_drafted qt_result t_result t_length t_arguments qt_kinds t_kinds qt_values t_values qt_widths t_widths qt_below t_below qt_sizes t_sizes qt_scales t_scales qt_parts t_parts qt_texts t_texts qt_lengths t_lengths t_end t_index t_flags t_twice t_width t_precision t_conversion t_broken qt_piece t_piece t_put t_head qt_tens t_tens t_count t_exponent qt_work t_work) s.heap.size) (w_Model_clear G qt qt_draft t_draft t_drafted qt_result t_result t_length res.2.1 qt_kinds res.2.2.1 qt_values res.2.2.2.1 qt_widths t_widths qt_below res.2.2.2.2.1 qt_sizes res.2.2.2.2.2.1 qt_scales res.2.2.2.2.2.2.1 qt_parts res.2.2.2.2.2.2.2 qt_texts t_texts qt_lengths t_lengths t_end t_index t_flags t_twice t_width t_precision t_conversion t_broken qt_piece t_piece t_put t_head qt_tens t_tens t_count t_exponent qt_work t_work)) ([.ref qt, .long a1, .long a2, .int a3] : List Value).toArray s 0 0 (va_A (w_Model_clear G qt qt_draft t_draft t_drafted qt_result t_result t_length t_arguments qt_kinds t_kinds qt_values t_values qt_widths t_widths qt_below t_below qt_sizes t_sizes qt_scales t_scales qt_parts t_parts qt_texts t_texts qt_lengths t_lengths t_end t_index t_flags t_twice t_width t_precision t_conversion t_broken qt_piece t_piece t_put t_head qt_tens t_tens t_count t_exponent qt_work t_work) s.heap.size) = Q := ⟨_, rfl⟩
  show W p l e { frames := 1, cells := 0, slots := 0, locals := 40 } s m ([.ref qt, .long a1, .long a2, .int a3] : List Value).toArray below meth c s.heap [] 0 0 (MQ below (QI G res.1 (va_A (w_Model_clear G qt qt_draft t_draft t_drafted qt_result t_result t_length t_arguments qt_kinds t_kinds qt_values t_values qt_widths t_widths qt_below t_below qt_sizes t_sizes qt_scales t_scales qt_parts t_parts qt_texts t_texts qt_lengths t_lengths t_end t_index t_flags t_twice t_width t_precision t_conversion t_broken qt_piece t_piece t_put t_head qt_tens t_tens t_count t_exponent qt_work t_work) s.heap.size) (w_Model_clear G qt qt_draft t_draft t_drafted qt_result t_result t_length res.2.1 qt_kinds res.2.2.1 qt_values res.2.2.2.1 qt_widths t_widths qt_below res.2.2.2.2.1 qt_sizes res.2.2.2.2.2.1 qt_scales res.2.2.2.2.2.2.1 qt_parts res.2.2.2.2.2.2.2 qt_texts t_texts qt_lengths t_lengths t_end t_index t_flags t_twice t_width t_precision t_conversion t_broken qt_piece t_piece t_put t_head qt_tens t_tens t_count t_exponent qt_work t_work)) ([.ref qt, .long a1, .long a2, .int a3] : List Value).toArray s 0 0 (va_A (w_Model_clear G qt qt_draft t_draft t_drafted qt_result t_result t_length t_arguments qt_kinds t_kinds qt_values t_values qt_widths t_widths qt_below t_below qt_sizes t_sizes qt_scales t_scales qt_parts t_parts qt_texts t_texts qt_lengths t_lengths t_end t_index t_flags t_twice t_width t_precision t_conversion t_broken qt_piece t_piece t_put t_head qt_tens t_tens t_count t_exponent qt_work t_work) s.heap.size)) _
  rw [hQ]
  have hA : ∀ q : Nat, s.heap.size ≤ q → va_A (w_Model_clear G qt qt_draft t_draft t_drafted qt_result t_result t_length t_arguments qt_kinds t_kinds qt_values t_values qt_widths t_widths qt_below t_below qt_sizes t_sizes qt_scales t_scales qt_parts t_parts qt_texts t_texts qt_lengths t_lengths t_end t_index t_flags t_twice t_width t_precision t_conversion t_broken qt_piece t_piece t_put t_head qt_tens t_tens t_count t_exponent qt_work t_work) s.heap.size q := fun q h => Or.inr h
  obtain ⟨A, hAe⟩ : ∃ A, va_A (w_Model_clear G qt qt_draft t_draft t_drafted qt_result t_result t_length t_arguments qt_kinds t_kinds qt_values t_values qt_widths t_widths qt_below t_below qt_sizes t_sizes qt_scales t_scales qt_parts t_parts qt_texts t_texts qt_lengths t_lengths t_end t_index t_flags t_twice t_width t_precision t_conversion t_broken qt_piece t_piece t_put t_head qt_tens t_tens t_count t_exponent qt_work t_work) s.heap.size = A := ⟨_, rfl⟩
  rw [hAe] at hA hD hAb hQ
  have hS : va_S A s.heap s.heap [] := va_S.rf
  have hl := lv_entry (([.ref qt, .long a1, .long a2, .int a3] : List Value)) (n := 7) (Nat.le_of_ble_eq_true rfl)
  rw [lg_entry_eq]
  generalize (lg_sl (([.ref qt, .long a1, .long a2, .int a3] : List Value)) ++ List.replicate (7 - (lg_sl (([.ref qt, .long a1, .long a2, .int a3] : List Value))).length) Slot.unset).toArray = ls at hl ⊢
  have hl : lv_has ls 7 [(0, .ref qt), (1, .long a1), (3, .long a2), (5, .int a3)] := hl
  have W_47 : ∀ (k1 : Int32) (k2 : Int64) (k3 : Int32) (t_arguments : Int32) (t_kinds : (Nat → Int32)) (t_values : (Nat → Int64)) (t_below : (Nat → Int32)) (t_sizes : (Nat → Int32)) (t_scales : (Nat → Int32)) (t_parts : (Nat → Int64)) (b_k3 : bl k3), k_Model_fraction_47 K a2 a3 k1 k2 k3 t_arguments t_kinds t_values t_below t_sizes t_scales t_parts = some res → ∀ (H : Heap) (locs : List Loc) (ls : Array Slot), va_P (gD G) vwCl (w_Model_clear G qt qt_draft t_draft t_drafted qt_result t_result t_length t_arguments qt_kinds t_kinds qt_values t_values qt_widths t_widths qt_below t_below qt_sizes t_sizes qt_scales t_scales qt_parts t_parts qt_texts t_texts qt_lengths t_lengths t_end t_index t_flags t_twice t_width t_precision t_conversion t_broken qt_piece t_piece t_put t_head qt_tens t_tens t_count t_exponent qt_work t_work) H → va_D A (w_Model_clear G qt qt_draft t_draft t_drafted qt_result t_result t_length t_arguments qt_kinds t_kinds qt_values t_values qt_widths t_widths qt_below t_below qt_sizes t_sizes qt_scales t_scales qt_parts t_parts qt_texts t_texts qt_lengths t_lengths t_end t_index t_flags t_twice t_width t_precision t_conversion t_broken qt_piece t_piece t_put t_head qt_tens t_tens t_count t_exponent qt_work t_work) → va_S A s.heap H locs → lv_has ls 7 [(0, .ref qt), (3, .long a2), (5, .int a3)] → W p l e { frames := 1, cells := 0, slots := 0, locals := 40 } s m ([.ref qt, .long a1, .long a2, .int a3] : List Value).toArray below meth c H locs 0 0 Q (F0 m 47 ls [.int k3, .long k2, .int k1, .ref qt]) := by
    intro k1 k2 k3 t_arguments t_kinds t_values t_below t_sizes t_scales t_parts b_k3 hf H locs ls hP hD hS hl
    unfold k_Model_fraction_47 at hf
    obtain ⟨u_47, hu_47, hf⟩ := bd_ hf
    refine CALLWi (va_runV (As := [.int k1, .long k2, .int k3]) (rest := []) ⟨hx, hb, hml, hown, hg⟩ (c_Model_argument l G K qt qt_draft t_draft t_drafted qt_result t_result t_length t_arguments qt_kinds t_kinds qt_values t_values qt_widths t_widths qt_below t_below qt_sizes t_sizes qt_scales t_scales qt_parts t_parts qt_texts t_texts qt_lengths t_lengths t_end t_index t_flags t_twice t_width t_precision t_conversion t_broken qt_piece t_piece t_put t_head qt_tens t_tens t_count t_exponent qt_work t_work k1 k2 k3 _ u_47 b_k3 hu_47) (cwV 3 hg (gV m_386 m_387 m_388 m_389 m_390) rfl rfl rfl (by decide +kernel) ⟨Nat.le_of_ble_eq_true rfl, Nat.le_of_ble_eq_true rfl⟩) ⟨PC_b, va_recv hK hP (ci := 7) (q0 := 0) rfl rfl, PC_p hE hS hAb hP hD⟩ rfl rfl hl.1 rfl (lv_room (Nat.le_of_ble_eq_true rfl)) d_Model_fraction_47 ⟨Nat.zero_le _, Nat.zero_le _⟩) hP hD hS hA (fun H locs hP hD hS => ?_)
    have hP : va_P (gD G) vwCl (w_Model_clear G qt qt_draft t_draft t_drafted qt_result t_result t_length u_47.2.1 qt_kinds u_47.2.2.1 qt_values u_47.2.2.2.1 qt_widths t_widths qt_below u_47.2.2.2.2.1 qt_sizes u_47.2.2.2.2.2 qt_scales t_scales qt_parts t_parts qt_texts t_texts qt_lengths t_lengths t_end t_index t_flags t_twice t_width t_precision t_conversion t_broken qt_piece t_piece t_put t_head qt_tens t_tens t_count t_exponent qt_work t_work) H := hP
    have hD : va_D A (w_Model_clear G qt qt_draft t_draft t_drafted qt_result t_result t_length u_47.2.1 qt_kinds u_47.2.2.1 qt_values u_47.2.2.2.1 qt_widths t_widths qt_below u_47.2.2.2.2.1 qt_sizes u_47.2.2.2.2.2 qt_scales t_scales qt_parts t_parts qt_texts t_texts qt_lengths t_lengths t_end t_index t_flags t_twice t_width t_precision t_conversion t_broken qt_piece t_piece t_put t_head qt_tens t_tens t_count t_exponent qt_work t_work) := hD
    refine lv_istore (lv' := [(6, .int u_47.1), (0, .ref qt), (3, .long a2), (5, .int a3)]) hx hb d_Model_fraction_50 hl (by decide) rfl (fun ls hl => ?_)
    refine lv_iload hx hb d_Model_fraction_52 (lv_at hl 0 rfl) ?_
    refine lv_if_ge (tgt := 59) hx hb d_Model_fraction_54 (by decide) (fun c_54 => ?_) (fun c_54 => ?_)
    · have hf := ip_ c_54 hf
      refine lv_aload_n hx hb d_Model_fraction_59 rfl (lv_at hl 1 rfl) ?_
      refine va_get (D := gD G) (ci := 7) (v := .ref qt_parts) (C := R_Model) (T := F_Model) (N := 29) hx hb hg in_Model hown hK hP 0 rfl rfl 11 (by decide) (hg _ m_399) (fun _ h9 => h9) rfl d_Model_fraction_60 ?_
      refine lv_iload hx hb d_Model_fraction_63 (lv_at hl 0 rfl) ?_
      refine lv_iconst (v := 1) hx hb d_Model_fraction_65 (by decide) ?_
      refine lv_isub hx hb d_Model_fraction_66 ?_
      refine lv_lload_n hx hb d_Model_fraction_67 rfl (lv_at hl 2 rfl) ?_
      obtain ⟨g_68, hf⟩ := gd_ hf
      refine va_last hx hb hK hP hD hS 9 2 rfl rfl (inB_in g_68) d_Model_fraction_68 (fun H locs hP hD hS => ?_)
      have hP : va_P (gD G) vwCl (w_Model_clear G qt qt_draft t_draft t_drafted qt_result t_result t_length u_47.2.1 qt_kinds u_47.2.2.1 qt_values u_47.2.2.2.1 qt_widths t_widths qt_below u_47.2.2.2.2.1 qt_sizes u_47.2.2.2.2.2 qt_scales t_scales qt_parts (vp_updL t_parts (u_47.1 - (1 : Int32)).toNatClampNeg a2) qt_texts t_texts qt_lengths t_lengths t_end t_index t_flags t_twice t_width t_precision t_conversion t_broken qt_piece t_piece t_put t_head qt_tens t_tens t_count t_exponent qt_work t_work) H := hP
      have hD : va_D A (w_Model_clear G qt qt_draft t_draft t_drafted qt_result t_result t_length u_47.2.1 qt_kinds u_47.2.2.1 qt_values u_47.2.2.2.1 qt_widths t_widths qt_below u_47.2.2.2.2.1 qt_sizes u_47.2.2.2.2.2 qt_scales t_scales qt_parts (vp_updL t_parts (u_47.1 - (1 : Int32)).toNatClampNeg a2) qt_texts t_texts qt_lengths t_lengths t_end t_index t_flags t_twice t_width t_precision t_conversion t_broken qt_piece t_piece t_put t_head qt_tens t_tens t_count t_exponent qt_work t_work) := hD
      refine lv_aload_n hx hb d_Model_fraction_69 rfl (lv_at hl 1 rfl) ?_
      refine va_get (D := gD G) (ci := 7) (v := .ref qt_scales) (C := R_Model) (T := F_Model) (N := 29) hx hb hg in_Model hown hK hP 0 rfl rfl 10 (by decide) (hg _ m_397) (fun _ h9 => h9) rfl d_Model_fraction_70 ?_
      refine lv_iload hx hb d_Model_fraction_73 (lv_at hl 0 rfl) ?_
      refine lv_iconst (v := 1) hx hb d_Model_fraction_75 (by decide) ?_
      refine lv_isub hx hb d_Model_fraction_76 ?_
      refine lv_iload hx hb d_Model_fraction_77 (lv_at hl 3 rfl) ?_
      refine lv_ineg hx hb d_Model_fraction_79 ?_
      obtain ⟨g_80, hf⟩ := gd_ hf
      refine va_iast hx hb hK hP hD hS 8 1 rfl rfl (inB_in g_80) d_Model_fraction_80 (fun H locs hP hD hS => ?_)
      have hP : va_P (gD G) vwCl (w_Model_clear G qt qt_draft t_draft t_drafted qt_result t_result t_length u_47.2.1 qt_kinds u_47.2.2.1 qt_values u_47.2.2.2.1 qt_widths t_widths qt_below u_47.2.2.2.2.1 qt_sizes u_47.2.2.2.2.2 qt_scales (upd t_scales (u_47.1 - (1 : Int32)).toNatClampNeg (-a3)) qt_parts (vp_updL t_parts (u_47.1 - (1 : Int32)).toNatClampNeg a2) qt_texts t_texts qt_lengths t_lengths t_end t_index t_flags t_twice t_width t_precision t_conversion t_broken qt_piece t_piece t_put t_head qt_tens t_tens t_count t_exponent qt_work t_work) H := hP
      have hD : va_D A (w_Model_clear G qt qt_draft t_draft t_drafted qt_result t_result t_length u_47.2.1 qt_kinds u_47.2.2.1 qt_values u_47.2.2.2.1 qt_widths t_widths qt_below u_47.2.2.2.2.1 qt_sizes u_47.2.2.2.2.2 qt_scales (upd t_scales (u_47.1 - (1 : Int32)).toNatClampNeg (-a3)) qt_parts (vp_updL t_parts (u_47.1 - (1 : Int32)).toNatClampNeg a2) qt_texts t_texts qt_lengths t_lengths t_end t_index t_flags t_twice t_width t_precision t_conversion t_broken qt_piece t_piece t_put t_head qt_tens t_tens t_count t_exponent qt_work t_work) := hD
      refine lv_iload hx hb d_Model_fraction_81 (lv_at hl 0 rfl) ?_
      obtain rfl := Option.some.inj hf
      rw [← hQ]
      exact W.iret (v := u_47.1) hx hb hr (fun t9 ht hW => ⟨⟨u_47.1, (), rfl, rfl, ⟨by rw [ht]; exact hP, hD⟩⟩, hS.F ht⟩) hS.2.2 d_Model_fraction_83
    · have hf := in_ c_54 hf
      refine lv_iconst (v := -1) hx hb d_Model_fraction_57 (by decide) ?_
      obtain rfl := Option.some.inj hf
      rw [← hQ]
      exact W.iret (v := (-1 : Int32)) hx hb hr (fun t9 ht hW => ⟨⟨(-1 : Int32), (), rfl, rfl, ⟨by rw [ht]; exact hP, hD⟩⟩, hS.F ht⟩) hS.2.2 d_Model_fraction_58
  unfold f_Model_fraction at hf
  refine lv_lload_n hx hb d_Model_fraction_0 rfl (lv_at hl 2 rfl) ?_
  refine lv_lconst (v := 0) hx hb d_Model_fraction_1 (by decide) ?_
  refine W.lcmp hx hb d_Model_fraction_2 ?_
  refine lv_if_lt (tgt := 30) hx hb d_Model_fraction_3 (by decide) (fun c_3 => ?_) (fun c_3 => ?_)
  · have hf := ip_ c_3 hf
    refine lv_iconst (v := -1) hx hb d_Model_fraction_30 (by decide) ?_
    obtain rfl := Option.some.inj hf
    rw [← hQ]
    exact W.iret (v := (-1 : Int32)) hx hb hr (fun t9 ht hW => ⟨⟨(-1 : Int32), (), rfl, rfl, ⟨by rw [ht]; exact hP, hD⟩⟩, hS.F ht⟩) hS.2.2 d_Model_fraction_31
  · have hf := in_ c_3 hf
    refine lv_lload_n hx hb d_Model_fraction_6 rfl (lv_at hl 2 rfl) ?_
    refine lv_ldc2 (v := 99999999999999999) hx hb hown (hg _ m_398) d_Model_fraction_7 ?_
    refine W.lcmp hx hb d_Model_fraction_10 ?_
    refine lv_if_gt (tgt := 30) hx hb d_Model_fraction_11 (by decide) (fun c_11 => ?_) (fun c_11 => ?_)
    · have hf := ip_ c_11 hf
      refine lv_iconst (v := -1) hx hb d_Model_fraction_30 (by decide) ?_
      obtain rfl := Option.some.inj hf
      rw [← hQ]
      exact W.iret (v := (-1 : Int32)) hx hb hr (fun t9 ht hW => ⟨⟨(-1 : Int32), (), rfl, rfl, ⟨by rw [ht]; exact hP, hD⟩⟩, hS.F ht⟩) hS.2.2 d_Model_fraction_31
    · have hf := in_ c_11 hf
      refine lv_iload hx hb d_Model_fraction_14 (lv_at hl 3 rfl) ?_
      refine lv_sipush (v := -400) hx hb d_Model_fraction_16 (by decide) ?_
      refine lv_icmp_lt (tgt := 30) hx hb d_Model_fraction_19 (by decide) (fun c_19 => ?_) (fun c_19 => ?_)
      · have hf := ip_ c_19 hf
        refine lv_iconst (v := -1) hx hb d_Model_fraction_30 (by decide) ?_
        obtain rfl := Option.some.inj hf
        rw [← hQ]
        exact W.iret (v := (-1 : Int32)) hx hb hr (fun t9 ht hW => ⟨⟨(-1 : Int32), (), rfl, rfl, ⟨by rw [ht]; exact hP, hD⟩⟩, hS.F ht⟩) hS.2.2 d_Model_fraction_31
      · have hf := in_ c_19 hf
        refine lv_iload hx hb d_Model_fraction_22 (lv_at hl 3 rfl) ?_
        refine lv_sipush (v := 400) hx hb d_Model_fraction_24 (by decide) ?_
        refine lv_icmp_le (tgt := 32) hx hb d_Model_fraction_27 (by decide) (fun c_27 => ?_) (fun c_27 => ?_)
        · have hf := ip_ c_27 hf
          refine lv_aload_n hx hb d_Model_fraction_32 rfl (lv_at hl 0 rfl) ?_
          refine lv_bipush (v := 6) hx hb d_Model_fraction_33 (by decide) ?_
          refine lv_lload_n hx hb d_Model_fraction_35 rfl (lv_at hl 1 rfl) ?_
          refine lv_lload_n hx hb d_Model_fraction_36 rfl (lv_at hl 1 rfl) ?_
          refine lv_lconst (v := 0) hx hb d_Model_fraction_37 (by decide) ?_
          refine W.lcmp hx hb d_Model_fraction_38 ?_
          refine lv_if_ge (tgt := 46) hx hb d_Model_fraction_39 (by decide) (fun c_39 => ?_) (fun c_39 => ?_)
          · have hf := ip_ c_39 hf
            refine lv_iconst (v := 0) hx hb d_Model_fraction_46 (by decide) ?_
            exact W_47 (6 : Int32) a1 (0 : Int32) t_arguments t_kinds t_values t_below t_sizes t_scales t_parts bl_0 hf _ _ _ hP hD hS (lv_sub hl [0, 2, 3] rfl)
          · have hf := in_ c_39 hf
            refine lv_iconst (v := 1) hx hb d_Model_fraction_42 (by decide) ?_
            refine lv_goto (tgt := 47) hx hb d_Model_fraction_43 (by decide) ?_
            exact W_47 (6 : Int32) a1 (1 : Int32) t_arguments t_kinds t_values t_below t_sizes t_scales t_parts bl_1 hf _ _ _ hP hD hS (lv_sub hl [0, 2, 3] rfl)
        · have hf := in_ c_27 hf
          refine lv_iconst (v := -1) hx hb d_Model_fraction_30 (by decide) ?_
          obtain rfl := Option.some.inj hf
          rw [← hQ]
          exact W.iret (v := (-1 : Int32)) hx hb hr (fun t9 ht hW => ⟨⟨(-1 : Int32), (), rfl, rfl, ⟨by rw [ht]; exact hP, hD⟩⟩, hS.F ht⟩) hS.2.2 d_Model_fraction_31
theorem d_Model_text_0 : decode cd_Model_text 0 = .ok (.aload_n 0, 1) := by decide +kernel
theorem d_Model_text_1 : decode cd_Model_text 1 = .ok (.bipush 7, 2) := by decide +kernel
theorem d_Model_text_3 : decode cd_Model_text 3 = .ok (.lconst 0, 1) := by decide +kernel
theorem d_Model_text_4 : decode cd_Model_text 4 = .ok (.iconst 0, 1) := by decide +kernel
theorem d_Model_text_5 : decode cd_Model_text 5 = .ok (.invokevirtual 63, 3) := by decide +kernel
theorem d_Model_text_8 : decode cd_Model_text 8 = .ok (.istore_n 1, 1) := by decide +kernel
theorem d_Model_text_9 : decode cd_Model_text 9 = .ok (.iload_n 1, 1) := by decide +kernel
theorem d_Model_text_10 : decode cd_Model_text 10 = .ok (.ifCond .ge 5, 3) := by decide +kernel
theorem d_Model_text_13 : decode cd_Model_text 13 = .ok (.iconst (-1), 1) := by decide +kernel
theorem d_Model_text_14 : decode cd_Model_text 14 = .ok (.ireturn, 1) := by decide +kernel
theorem d_Model_text_15 : decode cd_Model_text 15 = .ok (.iconst 0, 1) := by decide +kernel
theorem d_Model_text_16 : decode cd_Model_text 16 = .ok (.istore_n 2, 1) := by decide +kernel
theorem d_Model_text_17 : decode cd_Model_text 17 = .ok (.iload_n 2, 1) := by decide +kernel
theorem d_Model_text_18 : decode cd_Model_text 18 = .ok (.aload_n 0, 1) := by decide +kernel
theorem d_Model_text_19 : decode cd_Model_text 19 = .ok (.getfield 56, 3) := by decide +kernel
theorem d_Model_text_22 : decode cd_Model_text 22 = .ok (.if_icmp .ge 29, 3) := by decide +kernel
theorem d_Model_text_25 : decode cd_Model_text 25 = .ok (.aload_n 0, 1) := by decide +kernel
theorem d_Model_text_26 : decode cd_Model_text 26 = .ok (.getfield 39, 3) := by decide +kernel
theorem d_Model_text_29 : decode cd_Model_text 29 = .ok (.sipush 400, 3) := by decide +kernel
theorem d_Model_text_32 : decode cd_Model_text 32 = .ok (.iload_n 1, 1) := by decide +kernel
theorem d_Model_text_33 : decode cd_Model_text 33 = .ok (.iconst 1, 1) := by decide +kernel
theorem d_Model_text_34 : decode cd_Model_text 34 = .ok (.isub, 1) := by decide +kernel
theorem d_Model_text_35 : decode cd_Model_text 35 = .ok (.imul, 1) := by decide +kernel
theorem d_Model_text_36 : decode cd_Model_text 36 = .ok (.iload_n 2, 1) := by decide +kernel
theorem d_Model_text_37 : decode cd_Model_text 37 = .ok (.iadd, 1) := by decide +kernel
theorem d_Model_text_38 : decode cd_Model_text 38 = .ok (.aload_n 0, 1) := by decide +kernel
theorem d_Model_text_39 : decode cd_Model_text 39 = .ok (.getfield 7, 3) := by decide +kernel
theorem d_Model_text_42 : decode cd_Model_text 42 = .ok (.iload_n 2, 1) := by decide +kernel
theorem d_Model_text_43 : decode cd_Model_text 43 = .ok (.iaload, 1) := by decide +kernel
theorem d_Model_text_44 : decode cd_Model_text 44 = .ok (.iastore, 1) := by decide +kernel
theorem d_Model_text_45 : decode cd_Model_text 45 = .ok (.iinc 2 1, 3) := by decide +kernel
theorem d_Model_text_48 : decode cd_Model_text 48 = .ok (.goto (-31), 3) := by decide +kernel
theorem d_Model_text_51 : decode cd_Model_text 51 = .ok (.aload_n 0, 1) := by decide +kernel
theorem d_Model_text_52 : decode cd_Model_text 52 = .ok (.getfield 42, 3) := by decide +kernel
theorem d_Model_text_55 : decode cd_Model_text 55 = .ok (.iload_n 1, 1) := by decide +kernel
theorem d_Model_text_56 : decode cd_Model_text 56 = .ok (.iconst 1, 1) := by decide +kernel
theorem d_Model_text_57 : decode cd_Model_text 57 = .ok (.isub, 1) := by decide +kernel
theorem d_Model_text_58 : decode cd_Model_text 58 = .ok (.aload_n 0, 1) := by decide +kernel
theorem d_Model_text_59 : decode cd_Model_text 59 = .ok (.getfield 56, 3) := by decide +kernel
theorem d_Model_text_62 : decode cd_Model_text 62 = .ok (.iastore, 1) := by decide +kernel
theorem d_Model_text_63 : decode cd_Model_text 63 = .ok (.aload_n 0, 1) := by decide +kernel
theorem d_Model_text_64 : decode cd_Model_text 64 = .ok (.iconst 0, 1) := by decide +kernel
theorem d_Model_text_65 : decode cd_Model_text 65 = .ok (.putfield 56, 3) := by decide +kernel
theorem d_Model_text_68 : decode cd_Model_text 68 = .ok (.iload_n 1, 1) := by decide +kernel
theorem d_Model_text_69 : decode cd_Model_text 69 = .ok (.ireturn, 1) := by decide +kernel
theorem m_400 : Cond.fieldLink R_Model 42 "SpecifierDeskModel" "lengths" "[I" ∈ gw := gm (i := 873) (by decide +kernel) (by decide +kernel)
theorem m_401 : Cond.fieldLink R_Model 39 "SpecifierDeskModel" "texts" "[I" ∈ gw := gm (i := 872) (by decide +kernel) (by decide +kernel)
theorem m_402 : Cond.fieldLink R_Model 7 "SpecifierDeskModel" "draft" "[I" ∈ gw := gm (i := 860) (by decide +kernel) (by decide +kernel)
def b_Model_text_17 (t_draft : Nat → Int32) (x1 : Int32) (t_drafted : Int32) (t_arguments : Int32) (t_kinds : (Nat → Int32)) (t_values : (Nat → Int64)) (t_below : (Nat → Int32)) (t_sizes : (Nat → Int32)) (t_lengths : (Nat → Int32)) (rec_17 : (Int32 × (Nat → Int32)) → Option (Int32 × Int32 × Int32 × (Nat → Int32) × (Nat → Int64) × (Nat → Int32) × (Nat → Int32) × (Nat → Int32) × (Nat → Int32))) (z17 : Int32 × (Nat → Int32)) : Option (Int32 × Int32 × Int32 × (Nat → Int32) × (Nat → Int64) × (Nat → Int32) × (Nat → Int32) × (Nat → Int32) × (Nat → Int32)) :=
  (if t_drafted ≤ z17.1 then (if inB (x1 - (1 : Int32)) 12 = true then some (x1, (0 : Int32), t_arguments, t_kinds, t_values, t_below, t_sizes, z17.2, (upd t_lengths (x1 - (1 : Int32)).toNatClampNeg t_drafted)) else none) else (if inB z17.1 400 = true then (if inB (((400 : Int32) * (x1 - (1 : Int32))) + z17.1) 4800 = true then rec_17 ((z17.1 + 1), (upd z17.2 (((400 : Int32) * (x1 - (1 : Int32))) + z17.1).toNatClampNeg (t_draft z17.1.toNatClampNeg))) else none) else none))
def f_Model_text (K : Nat) (t_draft : Nat → Int32) (t_drafted : Int32) (t_arguments : Int32) (t_kinds : Nat → Int32) (t_values : Nat → Int64) (t_below : Nat → Int32) (t_sizes : Nat → Int32) (t_texts : Nat → Int32) (t_lengths : Nat → Int32) : Option (Int32 × Int32 × Int32 × (Nat → Int32) × (Nat → Int64) × (Nat → Int32) × (Nat → Int32) × (Nat → Int32) × (Nat → Int32)) :=
  ((f_Model_argument K t_arguments t_kinds t_values t_below t_sizes (7 : Int32) (0 : Int64) (0 : Int32)).bind fun u_5 => (if 0 ≤ u_5.1 then lp_ (b_Model_text_17 t_draft u_5.1 t_drafted u_5.2.1 u_5.2.2.1 u_5.2.2.2.1 u_5.2.2.2.2.1 u_5.2.2.2.2.2 t_lengths) K ((0 : Int32), t_texts) else some ((-1 : Int32), t_drafted, u_5.2.1, u_5.2.2.1, u_5.2.2.2.1, u_5.2.2.2.2.1, u_5.2.2.2.2.2, t_texts, t_lengths)))
set_option maxHeartbeats 4000000 in
set_option maxRecDepth 100000 in
theorem c_Model_text (l : Launch) (G : Gt) (K : Nat) (qt : Nat) (qt_draft : Nat) (t_draft : Nat → Int32) (t_drafted : Int32) (qt_result : Nat) (t_result : Nat → Int32) (t_length : Int32) (t_arguments : Int32) (qt_kinds : Nat) (t_kinds : Nat → Int32) (qt_values : Nat) (t_values : Nat → Int64) (qt_widths : Nat) (t_widths : Nat → Int32) (qt_below : Nat) (t_below : Nat → Int32) (qt_sizes : Nat) (t_sizes : Nat → Int32) (qt_scales : Nat) (t_scales : Nat → Int32) (qt_parts : Nat) (t_parts : Nat → Int64) (qt_texts : Nat) (t_texts : Nat → Int32) (qt_lengths : Nat) (t_lengths : Nat → Int32) (t_end : Int32) (t_index : Int32) (t_flags : Int32) (t_twice : Int32) (t_width : Int32) (t_precision : Int32) (t_conversion : Int32) (t_broken : Int32) (qt_piece : Nat) (t_piece : Nat → Int32) (t_put : Int32) (t_head : Int32) (qt_tens : Nat) (t_tens : Nat → Int32) (t_count : Int32) (t_exponent : Int32) (qt_work : Nat) (t_work : Nat → Int32) (sz : Nat) (res : Int32 × Int32 × Int32 × (Nat → Int32) × (Nat → Int64) × (Nat → Int32) × (Nat → Int32) × (Nat → Int32) × (Nat → Int32))   (hf : f_Model_text K t_draft t_drafted t_arguments t_kinds t_values t_below t_sizes t_texts t_lengths = some res) : Met l y_Model_text (.code y_Model_text cd_Model_text 3 (some .int) :: gw) { frames := 1, cells := 0, slots := 0, locals := 40 } (PC G ([.ref qt] : List Value) sz (w_Model_clear G qt qt_draft t_draft t_drafted qt_result t_result t_length t_arguments qt_kinds t_kinds qt_values t_values qt_widths t_widths qt_below t_below qt_sizes t_sizes qt_scales t_scales qt_parts t_parts qt_texts t_texts qt_lengths t_lengths t_end t_index t_flags t_twice t_width t_precision t_conversion t_broken qt_piece t_piece t_put t_head qt_tens t_tens t_count t_exponent qt_work t_work)) (QI G res.1 (va_A (w_Model_clear G qt qt_draft t_draft t_drafted qt_result t_result t_length t_arguments qt_kinds t_kinds qt_values t_values qt_widths t_widths qt_below t_below qt_sizes t_sizes qt_scales t_scales qt_parts t_parts qt_texts t_texts qt_lengths t_lengths t_end t_index t_flags t_twice t_width t_precision t_conversion t_broken qt_piece t_piece t_put t_head qt_tens t_tens t_count t_exponent qt_work t_work) sz) (w_Model_clear G qt qt_draft t_draft res.2.1 qt_result t_result t_length res.2.2.1 qt_kinds res.2.2.2.1 qt_values res.2.2.2.2.1 qt_widths t_widths qt_below res.2.2.2.2.2.1 qt_sizes res.2.2.2.2.2.2.1 qt_scales t_scales qt_parts t_parts qt_texts res.2.2.2.2.2.2.2.1 qt_lengths res.2.2.2.2.2.2.2.2 t_end t_index t_flags t_twice t_width t_precision t_conversion t_broken qt_piece t_piece t_put t_head qt_tens t_tens t_count t_exponent qt_work t_work)) 0 0 (va_A (w_Model_clear G qt qt_draft t_draft t_drafted qt_result t_result t_length t_arguments qt_kinds t_kinds qt_values t_values qt_widths t_widths qt_below t_below qt_sizes t_sizes qt_scales t_scales qt_parts t_parts qt_texts t_texts qt_lengths t_lengths t_end t_index t_flags t_twice t_width t_precision t_conversion t_broken qt_piece t_piece t_put t_head qt_tens t_tens t_count t_exponent qt_work t_work) sz) := by
  refine Met.ofW (cc := cd_Model_text) (maxL := 3) (ret := (some .int)) (by decide) rfl ?_
  intro p e s m args below meth c s₁ B hml hv
  obtain ⟨rfl, hsz, hP, hE, hD0⟩ := hv
  have hx := B.exec
  have hb := B.bytes
  have hr := B.returns
  have hts := atoms_spec (ws := (.code y_Model_text cd_Model_text 3 (some .int) :: gw)) B.pre
  have hg : ∀ w ∈ gw, w.before _ s = true := fun w h => hts w (List.mem_cons_of_mem _ h)
  have hown : s.vm.findClass R_Model = some m.cls := findClass_of_methodNamed B.named
  have hlocks := B.notSynchronized
  subst hsz
  have hK := hE.K
  have hD := hD0.self (sz := s.heap.size)
  have hAb := hE.ab hD0
  obtain ⟨Q, hQ⟩ : ∃ Q, MQ below (QI G res.1 (va_A (w_Model_clear G qt qt_draft t_draft t_drafted qt_result t_result t_length t_arguments qt_kinds t_kinds qt_values t_values qt_widths t_widths qt_below t_below qt_sizes t_sizes qt_scales t_scales qt_parts t_parts qt_texts t_texts qt_lengths t_lengths t_end t_index t_flags t_twice t_width t_precision t_conversion t_broken qt_piece t_piece t_put t_head qt_tens t_tens t_count t_exponent qt_work t_work) s.heap.size) (w_Model_clear G qt qt_draft t_draft res.2.1 qt_result t_result t_length res.2.2.1 qt_kinds res.2.2.2.1 qt_values res.2.2.2.2.1 qt_widths t_widths qt_below res.2.2.2.2.2.1 qt_sizes res.2.2.2.2.2.2.1 qt_scales t_scales qt_parts t_parts qt_texts res.2.2.2.2.2.2.2.1 qt_lengths res.2.2.2.2.2.2.2.2 t_end t_index t_flags t_twice t_width t_precision t_conversion t_broken qt_piece t_piece t_put t_head qt_tens t_tens t_count t_exponent qt_work t_work)) ([.ref qt] : List Value).toArray s 0 0 (va_A (w_Model_clear G qt qt_draft t_draft t_drafted qt_result t_result t_length t_arguments qt_kinds t_kinds qt_values t_values qt_widths t_widths qt_below t_below qt_sizes t_sizes qt_scales t_scales qt_parts t_parts qt_texts t_texts qt_lengths t_lengths t_end t_index t_flags t_twice t_width t_precision t_conversion t_broken qt_piece t_piece t_put t_head qt_tens t_tens t_count t_exponent qt_work t_work) s.heap.size) = Q := ⟨_, rfl⟩
  show W p l e { frames := 1, cells := 0, slots := 0, locals := 40 } s m ([.ref qt] : List Value).toArray below meth c s.heap [] 0 0 (MQ below (QI G res.1 (va_A (w_Model_clear G qt qt_draft t_draft t_drafted qt_result t_result t_length t_arguments qt_kinds t_kinds qt_values t_values qt_widths t_widths qt_below t_below qt_sizes t_sizes qt_scales t_scales qt_parts t_parts qt_texts t_texts qt_lengths t_lengths t_end t_index t_flags t_twice t_width t_precision t_conversion t_broken qt_piece t_piece t_put t_head qt_tens t_tens t_count t_exponent qt_work t_work) s.heap.size) (w_Model_clear G qt qt_draft t_draft res.2.1 qt_result t_result t_length res.2.2.1 qt_kinds res.2.2.2.1 qt_values res.2.2.2.2.1 qt_widths t_widths qt_below res.2.2.2.2.2.1 qt_sizes res.2.2.2.2.2.2.1 qt_scales t_scales qt_parts t_parts qt_texts res.2.2.2.2.2.2.2.1 qt_lengths res.2.2.2.2.2.2.2.2 t_end t_index t_flags t_twice t_width t_precision t_conversion t_broken qt_piece t_piece t_put t_head qt_tens t_tens t_count t_exponent qt_work t_work)) ([.ref qt] : List Value).toArray s 0 0 (va_A (w_Model_clear G qt qt_draft t_draft t_drafted qt_result t_result t_length t_arguments qt_kinds t_kinds qt_values t_values qt_widths t_widths qt_below t_below qt_sizes t_sizes qt_scales t_scales qt_parts t_parts qt_texts t_texts qt_lengths t_lengths t_end t_index t_flags t_twice t_width t_precision t_conversion t_broken qt_piece t_piece t_put t_head qt_tens t_tens t_count t_exponent qt_work t_work) s.heap.size)) _
  rw [hQ]
  have hA : ∀ q : Nat, s.heap.size ≤ q → va_A (w_Model_clear G qt qt_draft t_draft t_drafted qt_result t_result t_length t_arguments qt_kinds t_kinds qt_values t_values qt_widths t_widths qt_below t_below qt_sizes t_sizes qt_scales t_scales qt_parts t_parts qt_texts t_texts qt_lengths t_lengths t_end t_index t_flags t_twice t_width t_precision t_conversion t_broken qt_piece t_piece t_put t_head qt_tens t_tens t_count t_exponent qt_work t_work) s.heap.size q := fun q h => Or.inr h
  obtain ⟨A, hAe⟩ : ∃ A, va_A (w_Model_clear G qt qt_draft t_draft t_drafted qt_result t_result t_length t_arguments qt_kinds t_kinds qt_values t_values qt_widths t_widths qt_below t_below qt_sizes t_sizes qt_scales t_scales qt_parts t_parts qt_texts t_texts qt_lengths t_lengths t_end t_index t_flags t_twice t_width t_precision t_conversion t_broken qt_piece t_piece t_put t_head qt_tens t_tens t_count t_exponent qt_work t_work) s.heap.size = A := ⟨_, rfl⟩
  rw [hAe] at hA hD hAb hQ
  have hS : va_S A s.heap s.heap [] := va_S.rf
  have hl := lv_entry (([.ref qt] : List Value)) (n := 3) (Nat.le_of_ble_eq_true rfl)
  rw [lg_entry_eq]
  generalize (lg_sl (([.ref qt] : List Value)) ++ List.replicate (3 - (lg_sl (([.ref qt] : List Value))).length) Slot.unset).toArray = ls at hl ⊢
  have hl : lv_has ls 3 [(0, .ref qt)] := hl
  have W_17 : ∀ (x1 : Int32) (t_drafted : Int32) (t_arguments : Int32) (t_kinds : (Nat → Int32)) (t_values : (Nat → Int64)) (t_below : (Nat → Int32)) (t_sizes : (Nat → Int32)) (t_lengths : (Nat → Int32))  (n_17 : Nat) (z17 : Int32 × (Nat → Int32)) , lp_ (b_Model_text_17 t_draft x1 t_drafted t_arguments t_kinds t_values t_below t_sizes t_lengths) n_17 z17 = some res → ∀ (H : Heap) (locs : List Loc) (ls : Array Slot), va_P (gD G) vwCl (w_Model_clear G qt qt_draft t_draft t_drafted qt_result t_result t_length t_arguments qt_kinds t_kinds qt_values t_values qt_widths t_widths qt_below t_below qt_sizes t_sizes qt_scales t_scales qt_parts t_parts qt_texts z17.2 qt_lengths t_lengths t_end t_index t_flags t_twice t_width t_precision t_conversion t_broken qt_piece t_piece t_put t_head qt_tens t_tens t_count t_exponent qt_work t_work) H → va_D A (w_Model_clear G qt qt_draft t_draft t_drafted qt_result t_result t_length t_arguments qt_kinds t_kinds qt_values t_values qt_widths t_widths qt_below t_below qt_sizes t_sizes qt_scales t_scales qt_parts t_parts qt_texts z17.2 qt_lengths t_lengths t_end t_index t_flags t_twice t_width t_precision t_conversion t_broken qt_piece t_piece t_put t_head qt_tens t_tens t_count t_exponent qt_work t_work) → va_S A s.heap H locs → lv_has ls 3 [(0, .ref qt), (1, .int x1), (2, .int z17.1)] → W p l e { frames := 1, cells := 0, slots := 0, locals := 40 } s m ([.ref qt] : List Value).toArray below meth c H locs 0 0 Q (F0 m 17 ls []) := by
    intro x1 t_drafted t_arguments t_kinds t_values t_below t_sizes t_lengths n_17
    induction n_17 with
    | zero =>
      intro z17  hf
      cases hf
    | succ n_17 ih_17 =>
      intro z17  hf H locs ls hP hD hS hl
      have hf : b_Model_text_17 t_draft x1 t_drafted t_arguments t_kinds t_values t_below t_sizes t_lengths (lp_ (b_Model_text_17 t_draft x1 t_drafted t_arguments t_kinds t_values t_below t_sizes t_lengths) n_17) z17 = some res := hf
      generalize lp_ (b_Model_text_17 t_draft x1 t_drafted t_arguments t_kinds t_values t_below t_sizes t_lengths) n_17 = rec_17 at hf ih_17
      unfold b_Model_text_17 at hf
      refine lv_iload_n hx hb d_Model_text_17 rfl (lv_at hl 2 rfl) ?_
      refine lv_aload_n hx hb d_Model_text_18 rfl (lv_at hl 0 rfl) ?_
      refine va_get (D := gD G) (ci := 7) (v := .int t_drafted) (C := R_Model) (T := F_Model) (N := 29) hx hb hg in_Model hown hK hP 0 rfl rfl 1 (by decide) (hg _ m_380) (fun _ h9 => h9) rfl d_Model_text_19 ?_
      refine lv_icmp_ge (tgt := 51) hx hb d_Model_text_22 (by decide) (fun c_22 => ?_) (fun c_22 => ?_)
      · have hf := ip_ c_22 hf
        refine lv_aload_n hx hb d_Model_text_51 rfl (lv_at hl 0 rfl) ?_
        refine va_get (D := gD G) (ci := 7) (v := .ref qt_lengths) (C := R_Model) (T := F_Model) (N := 29) hx hb hg in_Model hown hK hP 0 rfl rfl 13 (by decide) (hg _ m_400) (fun _ h9 => h9) rfl d_Model_text_52 ?_
        refine lv_iload_n hx hb d_Model_text_55 rfl (lv_at hl 1 rfl) ?_
        refine lv_iconst (v := 1) hx hb d_Model_text_56 (by decide) ?_
        refine lv_isub hx hb d_Model_text_57 ?_
        refine lv_aload_n hx hb d_Model_text_58 rfl (lv_at hl 0 rfl) ?_
        refine va_get (D := gD G) (ci := 7) (v := .int t_drafted) (C := R_Model) (T := F_Model) (N := 29) hx hb hg in_Model hown hK hP 0 rfl rfl 1 (by decide) (hg _ m_380) (fun _ h9 => h9) rfl d_Model_text_59 ?_
        obtain ⟨g_62, hf⟩ := gd_ hf
        refine va_iast hx hb hK hP hD hS 11 1 rfl rfl (inB_in g_62) d_Model_text_62 (fun H locs hP hD hS => ?_)
        have hP : va_P (gD G) vwCl (w_Model_clear G qt qt_draft t_draft t_drafted qt_result t_result t_length t_arguments qt_kinds t_kinds qt_values t_values qt_widths t_widths qt_below t_below qt_sizes t_sizes qt_scales t_scales qt_parts t_parts qt_texts z17.2 qt_lengths (upd t_lengths (x1 - (1 : Int32)).toNatClampNeg t_drafted) t_end t_index t_flags t_twice t_width t_precision t_conversion t_broken qt_piece t_piece t_put t_head qt_tens t_tens t_count t_exponent qt_work t_work) H := hP
        have hD : va_D A (w_Model_clear G qt qt_draft t_draft t_drafted qt_result t_result t_length t_arguments qt_kinds t_kinds qt_values t_values qt_widths t_widths qt_below t_below qt_sizes t_sizes qt_scales t_scales qt_parts t_parts qt_texts z17.2 qt_lengths (upd t_lengths (x1 - (1 : Int32)).toNatClampNeg t_drafted) t_end t_index t_flags t_twice t_width t_precision t_conversion t_broken qt_piece t_piece t_put t_head qt_tens t_tens t_count t_exponent qt_work t_work) := hD
        refine lv_aload_n hx hb d_Model_text_63 rfl (lv_at hl 0 rfl) ?_
        refine lv_iconst (v := 0) hx hb d_Model_text_64 (by decide) ?_
        refine va_put (D := gD G) (ci := 7) (v := .int (0 : Int32)) (ty := .int) (C := R_Model) (T := F_Model) (N := 29) hx hb hg in_Model t_Model to_Model no_Model hown hK hP hD hS 0 rfl rfl 1 (by decide) (hg _ m_380) (fun _ h9 => h9) rfl (by decide +kernel) rfl rfl (Nat.le_of_ble_eq_true rfl) d_Model_text_65 (fun H locs hP hD hS => ?_)
        have hP : va_P (gD G) vwCl (w_Model_clear G qt qt_draft t_draft (0 : Int32) qt_result t_result t_length t_arguments qt_kinds t_kinds qt_values t_values qt_widths t_widths qt_below t_below qt_sizes t_sizes qt_scales t_scales qt_parts t_parts qt_texts z17.2 qt_lengths (upd t_lengths (x1 - (1 : Int32)).toNatClampNeg t_drafted) t_end t_index t_flags t_twice t_width t_precision t_conversion t_broken qt_piece t_piece t_put t_head qt_tens t_tens t_count t_exponent qt_work t_work) H := hP
        have hD : va_D A (w_Model_clear G qt qt_draft t_draft (0 : Int32) qt_result t_result t_length t_arguments qt_kinds t_kinds qt_values t_values qt_widths t_widths qt_below t_below qt_sizes t_sizes qt_scales t_scales qt_parts t_parts qt_texts z17.2 qt_lengths (upd t_lengths (x1 - (1 : Int32)).toNatClampNeg t_drafted) t_end t_index t_flags t_twice t_width t_precision t_conversion t_broken qt_piece t_piece t_put t_head qt_tens t_tens t_count t_exponent qt_work t_work) := hD
        refine lv_iload_n hx hb d_Model_text_68 rfl (lv_at hl 1 rfl) ?_
        obtain rfl := Option.some.inj hf
        rw [← hQ]
        exact W.iret (v := x1) hx hb hr (fun t9 ht hW => ⟨⟨x1, (), rfl, rfl, ⟨by rw [ht]; exact hP, hD⟩⟩, hS.F ht⟩) hS.2.2 d_Model_text_69
      · have hf := in_ c_22 hf
        refine lv_aload_n hx hb d_Model_text_25 rfl (lv_at hl 0 rfl) ?_
        refine va_get (D := gD G) (ci := 7) (v := .ref qt_texts) (C := R_Model) (T := F_Model) (N := 29) hx hb hg in_Model hown hK hP 0 rfl rfl 12 (by decide) (hg _ m_401) (fun _ h9 => h9) rfl d_Model_text_26 ?_
        refine lv_sipush (v := 400) hx hb d_Model_text_29 (by decide) ?_
        refine lv_iload_n hx hb d_Model_text_32 rfl (lv_at hl 1 rfl) ?_
        refine lv_iconst (v := 1) hx hb d_Model_text_33 (by decide) ?_
        refine lv_isub hx hb d_Model_text_34 ?_
        refine lv_imul hx hb d_Model_text_35 ?_
        refine lv_iload_n hx hb d_Model_text_36 rfl (lv_at hl 2 rfl) ?_
        refine lv_iadd hx hb d_Model_text_37 ?_
        refine lv_aload_n hx hb d_Model_text_38 rfl (lv_at hl 0 rfl) ?_
        refine va_get (D := gD G) (ci := 7) (v := .ref qt_draft) (C := R_Model) (T := F_Model) (N := 29) hx hb hg in_Model hown hK hP 0 rfl rfl 0 (by decide) (hg _ m_402) (fun _ h9 => h9) rfl d_Model_text_39 ?_
        refine lv_iload_n hx hb d_Model_text_42 rfl (lv_at hl 2 rfl) ?_
        obtain ⟨g_43, hf⟩ := gd_ hf
        refine va_iald hx hb hK hP 1 1 rfl rfl (inB_in g_43) d_Model_text_43 ?_
        obtain ⟨g_44, hf⟩ := gd_ hf
        refine va_iast hx hb hK hP hD hS 10 1 rfl rfl (inB_in g_44) d_Model_text_44 (fun H locs hP hD hS => ?_)
        have hP : va_P (gD G) vwCl (w_Model_clear G qt qt_draft t_draft t_drafted qt_result t_result t_length t_arguments qt_kinds t_kinds qt_values t_values qt_widths t_widths qt_below t_below qt_sizes t_sizes qt_scales t_scales qt_parts t_parts qt_texts (upd z17.2 (((400 : Int32) * (x1 - (1 : Int32))) + z17.1).toNatClampNeg (t_draft z17.1.toNatClampNeg)) qt_lengths t_lengths t_end t_index t_flags t_twice t_width t_precision t_conversion t_broken qt_piece t_piece t_put t_head qt_tens t_tens t_count t_exponent qt_work t_work) H := hP
        have hD : va_D A (w_Model_clear G qt qt_draft t_draft t_drafted qt_result t_result t_length t_arguments qt_kinds t_kinds qt_values t_values qt_widths t_widths qt_below t_below qt_sizes t_sizes qt_scales t_scales qt_parts t_parts qt_texts (upd z17.2 (((400 : Int32) * (x1 - (1 : Int32))) + z17.1).toNatClampNeg (t_draft z17.1.toNatClampNeg)) qt_lengths t_lengths t_end t_index t_flags t_twice t_width t_precision t_conversion t_broken qt_piece t_piece t_put t_head qt_tens t_tens t_count t_exponent qt_work t_work) := hD
        refine lv_iinc (v := (z17.1 + 1)) (lv' := [(2, .int (z17.1 + 1)), (0, .ref qt), (1, .int x1)]) hx hb d_Model_text_45 hl (k := 2) rfl rfl (by decide) rfl (fun ls hl => ?_)
        refine lv_goto (tgt := 17) hx hb d_Model_text_48 (by decide) ?_
        exact ih_17 ((z17.1 + 1), (upd z17.2 (((400 : Int32) * (x1 - (1 : Int32))) + z17.1).toNatClampNeg (t_draft z17.1.toNatClampNeg)))  hf _ _ _ hP hD hS (lv_sub hl [1, 2, 0] rfl)
  unfold f_Model_text at hf
  refine lv_aload_n hx hb d_Model_text_0 rfl (lv_at hl 0 rfl) ?_
  refine lv_bipush (v := 7) hx hb d_Model_text_1 (by decide) ?_
  refine lv_lconst (v := 0) hx hb d_Model_text_3 (by decide) ?_
  refine lv_iconst (v := 0) hx hb d_Model_text_4 (by decide) ?_
  obtain ⟨u_5, hu_5, hf⟩ := bd_ hf
  refine CALLWi (va_runV (As := [.int (7 : Int32), .long (0 : Int64), .int (0 : Int32)]) (rest := []) ⟨hx, hb, hml, hown, hg⟩ (c_Model_argument l G K qt qt_draft t_draft t_drafted qt_result t_result t_length t_arguments qt_kinds t_kinds qt_values t_values qt_widths t_widths qt_below t_below qt_sizes t_sizes qt_scales t_scales qt_parts t_parts qt_texts t_texts qt_lengths t_lengths t_end t_index t_flags t_twice t_width t_precision t_conversion t_broken qt_piece t_piece t_put t_head qt_tens t_tens t_count t_exponent qt_work t_work (7 : Int32) (0 : Int64) (0 : Int32) _ u_5 bl_0 hu_5) (cwV 3 hg (gV m_386 m_387 m_388 m_389 m_390) rfl rfl rfl (by decide +kernel) ⟨Nat.le_of_ble_eq_true rfl, Nat.le_of_ble_eq_true rfl⟩) ⟨PC_b, va_recv hK hP (ci := 7) (q0 := 0) rfl rfl, PC_p hE hS hAb hP hD⟩ rfl rfl hl.1 rfl (lv_room (Nat.le_of_ble_eq_true rfl)) d_Model_text_5 ⟨Nat.zero_le _, Nat.zero_le _⟩) hP hD hS hA (fun H locs hP hD hS => ?_)
  have hP : va_P (gD G) vwCl (w_Model_clear G qt qt_draft t_draft t_drafted qt_result t_result t_length u_5.2.1 qt_kinds u_5.2.2.1 qt_values u_5.2.2.2.1 qt_widths t_widths qt_below u_5.2.2.2.2.1 qt_sizes u_5.2.2.2.2.2 qt_scales t_scales qt_parts t_parts qt_texts t_texts qt_lengths t_lengths t_end t_index t_flags t_twice t_width t_precision t_conversion t_broken qt_piece t_piece t_put t_head qt_tens t_tens t_count t_exponent qt_work t_work) H := hP
  have hD : va_D A (w_Model_clear G qt qt_draft t_draft t_drafted qt_result t_result t_length u_5.2.1 qt_kinds u_5.2.2.1 qt_values u_5.2.2.2.1 qt_widths t_widths qt_below u_5.2.2.2.2.1 qt_sizes u_5.2.2.2.2.2 qt_scales t_scales qt_parts t_parts qt_texts t_texts qt_lengths t_lengths t_end t_index t_flags t_twice t_width t_precision t_conversion t_broken qt_piece t_piece t_put t_head qt_tens t_tens t_count t_exponent qt_work t_work) := hD
  refine lv_istore_n (lv' := [(1, .int u_5.1), (0, .ref qt)]) hx hb d_Model_text_8 rfl hl (by decide) rfl (fun ls hl => ?_)
  refine lv_iload_n hx hb d_Model_text_9 rfl (lv_at hl 0 rfl) ?_
  refine lv_if_ge (tgt := 15) hx hb d_Model_text_10 (by decide) (fun c_10 => ?_) (fun c_10 => ?_)
  · have hf := ip_ c_10 hf
    refine lv_iconst (v := 0) hx hb d_Model_text_15 (by decide) ?_
    refine lv_istore_n (lv' := [(2, .int (0 : Int32)), (1, .int u_5.1), (0, .ref qt)]) hx hb d_Model_text_16 rfl hl (by decide) rfl (fun ls hl => ?_)
    exact W_17 u_5.1 t_drafted u_5.2.1 u_5.2.2.1 u_5.2.2.2.1 u_5.2.2.2.2.1 u_5.2.2.2.2.2 t_lengths  K ((0 : Int32), t_texts)  hf _ _ _ hP hD hS (lv_sub hl [2, 1, 0] rfl)
  · have hf := in_ c_10 hf
    refine lv_iconst (v := -1) hx hb d_Model_text_13 (by decide) ?_
    obtain rfl := Option.some.inj hf
    rw [← hQ]
    exact W.iret (v := (-1 : Int32)) hx hb hr (fun t9 ht hW => ⟨⟨(-1 : Int32), (), rfl, rfl, ⟨by rw [ht]; exact hP, hD⟩⟩, hS.F ht⟩) hS.2.2 d_Model_text_14
theorem d_Model_length_0 : decode cd_Model_length 0 = .ok (.aload_n 0, 1) := by decide +kernel
theorem d_Model_length_1 : decode cd_Model_length 1 = .ok (.getfield 273, 3) := by decide +kernel
theorem d_Model_length_4 : decode cd_Model_length 4 = .ok (.ireturn, 1) := by decide +kernel
theorem m_403 : Cond.fieldLink R_Model 273 "SpecifierDeskModel" "length" "I" ∈ gw := gm (i := 863) (by decide +kernel) (by decide +kernel)
def f_Model_length (t_length : Int32) : Option Int32 :=
  some t_length
set_option maxHeartbeats 4000000 in
set_option maxRecDepth 100000 in
theorem c_Model_length (l : Launch) (G : Gt) (K : Nat) (qt : Nat) (qt_draft : Nat) (t_draft : Nat → Int32) (t_drafted : Int32) (qt_result : Nat) (t_result : Nat → Int32) (t_length : Int32) (t_arguments : Int32) (qt_kinds : Nat) (t_kinds : Nat → Int32) (qt_values : Nat) (t_values : Nat → Int64) (qt_widths : Nat) (t_widths : Nat → Int32) (qt_below : Nat) (t_below : Nat → Int32) (qt_sizes : Nat) (t_sizes : Nat → Int32) (qt_scales : Nat) (t_scales : Nat → Int32) (qt_parts : Nat) (t_parts : Nat → Int64) (qt_texts : Nat) (t_texts : Nat → Int32) (qt_lengths : Nat) (t_lengths : Nat → Int32) (t_end : Int32) (t_index : Int32) (t_flags : Int32) (t_twice : Int32) (t_width : Int32) (t_precision : Int32) (t_conversion : Int32) (t_broken : Int32) (qt_piece : Nat) (t_piece : Nat → Int32) (t_put : Int32) (t_head : Int32) (qt_tens : Nat) (t_tens : Nat → Int32) (t_count : Int32) (t_exponent : Int32) (qt_work : Nat) (t_work : Nat → Int32) (sz : Nat) (res : Int32)   (hf : f_Model_length t_length = some res) : Met l y_Model_length (.code y_Model_length cd_Model_length 1 (some .int) :: gw) { frames := 0, cells := 0, slots := 0, locals := 0 } (PC G ([.ref qt] : List Value) sz (w_Model_clear G qt qt_draft t_draft t_drafted qt_result t_result t_length t_arguments qt_kinds t_kinds qt_values t_values qt_widths t_widths qt_below t_below qt_sizes t_sizes qt_scales t_scales qt_parts t_parts qt_texts t_texts qt_lengths t_lengths t_end t_index t_flags t_twice t_width t_precision t_conversion t_broken qt_piece t_piece t_put t_head qt_tens t_tens t_count t_exponent qt_work t_work)) (QI G res (va_A (w_Model_clear G qt qt_draft t_draft t_drafted qt_result t_result t_length t_arguments qt_kinds t_kinds qt_values t_values qt_widths t_widths qt_below t_below qt_sizes t_sizes qt_scales t_scales qt_parts t_parts qt_texts t_texts qt_lengths t_lengths t_end t_index t_flags t_twice t_width t_precision t_conversion t_broken qt_piece t_piece t_put t_head qt_tens t_tens t_count t_exponent qt_work t_work) sz) (w_Model_clear G qt qt_draft t_draft t_drafted qt_result t_result t_length t_arguments qt_kinds t_kinds qt_values t_values qt_widths t_widths qt_below t_below qt_sizes t_sizes qt_scales t_scales qt_parts t_parts qt_texts t_texts qt_lengths t_lengths t_end t_index t_flags t_twice t_width t_precision t_conversion t_broken qt_piece t_piece t_put t_head qt_tens t_tens t_count t_exponent qt_work t_work)) 0 0 (va_A (w_Model_clear G qt qt_draft t_draft t_drafted qt_result t_result t_length t_arguments qt_kinds t_kinds qt_values t_values qt_widths t_widths qt_below t_below qt_sizes t_sizes qt_scales t_scales qt_parts t_parts qt_texts t_texts qt_lengths t_lengths t_end t_index t_flags t_twice t_width t_precision t_conversion t_broken qt_piece t_piece t_put t_head qt_tens t_tens t_count t_exponent qt_work t_work) sz) := by
  refine Met.ofW (cc := cd_Model_length) (maxL := 1) (ret := (some .int)) (by decide) rfl ?_
  intro p e s m args below meth c s₁ B hml hv
  obtain ⟨rfl, hsz, hP, hE, hD0⟩ := hv
  have hx := B.exec
  have hb := B.bytes
  have hr := B.returns
  have hts := atoms_spec (ws := (.code y_Model_length cd_Model_length 1 (some .int) :: gw)) B.pre
  have hg : ∀ w ∈ gw, w.before _ s = true := fun w h => hts w (List.mem_cons_of_mem _ h)
  have hown : s.vm.findClass R_Model = some m.cls := findClass_of_methodNamed B.named
  have hlocks := B.notSynchronized
  subst hsz
  have hK := hE.K
  have hD := hD0.self (sz := s.heap.size)
  have hAb := hE.ab hD0
  obtain ⟨Q, hQ⟩ : ∃ Q, MQ below (QI G res (va_A (w_Model_clear G qt qt_draft t_draft t_drafted qt_result t_result t_length t_arguments qt_kinds t_kinds qt_values t_values qt_widths t_widths qt_below t_below qt_sizes t_sizes qt_scales t_scales qt_parts t_parts qt_texts t_texts qt_lengths t_lengths t_end t_index t_flags t_twice t_width t_precision t_conversion t_broken qt_piece t_piece t_put t_head qt_tens t_tens t_count t_exponent qt_work t_work) s.heap.size) (w_Model_clear G qt qt_draft t_draft t_drafted qt_result t_result t_length t_arguments qt_kinds t_kinds qt_values t_values qt_widths t_widths qt_below t_below qt_sizes t_sizes qt_scales t_scales qt_parts t_parts qt_texts t_texts qt_lengths t_lengths t_end t_index t_flags t_twice t_width t_precision t_conversion t_broken qt_piece t_piece t_put t_head qt_tens t_tens t_count t_exponent qt_work t_work)) ([.ref qt] : List Value).toArray s 0 0 (va_A (w_Model_clear G qt qt_draft t_draft t_drafted qt_result t_result t_length t_arguments qt_kinds t_kinds qt_values t_values qt_widths t_widths qt_below t_below qt_sizes t_sizes qt_scales t_scales qt_parts t_parts qt_texts t_texts qt_lengths t_lengths t_end t_index t_flags t_twice t_width t_precision t_conversion t_broken qt_piece t_piece t_put t_head qt_tens t_tens t_count t_exponent qt_work t_work) s.heap.size) = Q := ⟨_, rfl⟩
  show W p l e { frames := 0, cells := 0, slots := 0, locals := 0 } s m ([.ref qt] : List Value).toArray below meth c s.heap [] 0 0 (MQ below (QI G res (va_A (w_Model_clear G qt qt_draft t_draft t_drafted qt_result t_result t_length t_arguments qt_kinds t_kinds qt_values t_values qt_widths t_widths qt_below t_below qt_sizes t_sizes qt_scales t_scales qt_parts t_parts qt_texts t_texts qt_lengths t_lengths t_end t_index t_flags t_twice t_width t_precision t_conversion t_broken qt_piece t_piece t_put t_head qt_tens t_tens t_count t_exponent qt_work t_work) s.heap.size) (w_Model_clear G qt qt_draft t_draft t_drafted qt_result t_result t_length t_arguments qt_kinds t_kinds qt_values t_values qt_widths t_widths qt_below t_below qt_sizes t_sizes qt_scales t_scales qt_parts t_parts qt_texts t_texts qt_lengths t_lengths t_end t_index t_flags t_twice t_width t_precision t_conversion t_broken qt_piece t_piece t_put t_head qt_tens t_tens t_count t_exponent qt_work t_work)) ([.ref qt] : List Value).toArray s 0 0 (va_A (w_Model_clear G qt qt_draft t_draft t_drafted qt_result t_result t_length t_arguments qt_kinds t_kinds qt_values t_values qt_widths t_widths qt_below t_below qt_sizes t_sizes qt_scales t_scales qt_parts t_parts qt_texts t_texts qt_lengths t_lengths t_end t_index t_flags t_twice t_width t_precision t_conversion t_broken qt_piece t_piece t_put t_head qt_tens t_tens t_count t_exponent qt_work t_work) s.heap.size)) _
  rw [hQ]
  have hA : ∀ q : Nat, s.heap.size ≤ q → va_A (w_Model_clear G qt qt_draft t_draft t_drafted qt_result t_result t_length t_arguments qt_kinds t_kinds qt_values t_values qt_widths t_widths qt_below t_below qt_sizes t_sizes qt_scales t_scales qt_parts t_parts qt_texts t_texts qt_lengths t_lengths t_end t_index t_flags t_twice t_width t_precision t_conversion t_broken qt_piece t_piece t_put t_head qt_tens t_tens t_count t_exponent qt_work t_work) s.heap.size q := fun q h => Or.inr h
  obtain ⟨A, hAe⟩ : ∃ A, va_A (w_Model_clear G qt qt_draft t_draft t_drafted qt_result t_result t_length t_arguments qt_kinds t_kinds qt_values t_values qt_widths t_widths qt_below t_below qt_sizes t_sizes qt_scales t_scales qt_parts t_parts qt_texts t_texts qt_lengths t_lengths t_end t_index t_flags t_twice t_width t_precision t_conversion t_broken qt_piece t_piece t_put t_head qt_tens t_tens t_count t_exponent qt_work t_work) s.heap.size = A := ⟨_, rfl⟩
  rw [hAe] at hA hD hAb hQ
  have hS : va_S A s.heap s.heap [] := va_S.rf
  have hl := lv_entry (([.ref qt] : List Value)) (n := 1) (Nat.le_of_ble_eq_true rfl)
  rw [lg_entry_eq]
  generalize (lg_sl (([.ref qt] : List Value)) ++ List.replicate (1 - (lg_sl (([.ref qt] : List Value))).length) Slot.unset).toArray = ls at hl ⊢
  have hl : lv_has ls 1 [(0, .ref qt)] := hl
  unfold f_Model_length at hf
  refine lv_aload_n hx hb d_Model_length_0 rfl (lv_at hl 0 rfl) ?_
  refine va_get (D := gD G) (ci := 7) (v := .int t_length) (C := R_Model) (T := F_Model) (N := 29) hx hb hg in_Model hown hK hP 0 rfl rfl 3 (by decide) (hg _ m_403) (fun _ h9 => h9) rfl d_Model_length_1 ?_
  obtain rfl := Option.some.inj hf
  rw [← hQ]
  exact W.iret (v := t_length) hx hb hr (fun t9 ht hW => ⟨⟨t_length, (), rfl, rfl, ⟨by rw [ht]; exact hP, hD⟩⟩, hS.F ht⟩) hS.2.2 d_Model_length_4
theorem d_Model_characterAt_0 : decode cd_Model_characterAt 0 = .ok (.iload_n 1, 1) := by decide +kernel
theorem d_Model_characterAt_1 : decode cd_Model_characterAt 1 = .ok (.ifCond .lt 11, 3) := by decide +kernel
theorem d_Model_characterAt_4 : decode cd_Model_characterAt 4 = .ok (.iload_n 1, 1) := by decide +kernel
theorem d_Model_characterAt_5 : decode cd_Model_characterAt 5 = .ok (.aload_n 0, 1) := by decide +kernel
theorem d_Model_characterAt_6 : decode cd_Model_characterAt 6 = .ok (.getfield 273, 3) := by decide +kernel
theorem d_Model_characterAt_9 : decode cd_Model_characterAt 9 = .ok (.if_icmp .lt 7, 3) := by decide +kernel
theorem d_Model_characterAt_12 : decode cd_Model_characterAt 12 = .ok (.iconst (-1), 1) := by decide +kernel
theorem d_Model_characterAt_13 : decode cd_Model_characterAt 13 = .ok (.goto 9, 3) := by decide +kernel
theorem d_Model_characterAt_16 : decode cd_Model_characterAt 16 = .ok (.aload_n 0, 1) := by decide +kernel
theorem d_Model_characterAt_17 : decode cd_Model_characterAt 17 = .ok (.getfield 13, 3) := by decide +kernel
theorem d_Model_characterAt_20 : decode cd_Model_characterAt 20 = .ok (.iload_n 1, 1) := by decide +kernel
theorem d_Model_characterAt_21 : decode cd_Model_characterAt 21 = .ok (.iaload, 1) := by decide +kernel
theorem d_Model_characterAt_22 : decode cd_Model_characterAt 22 = .ok (.ireturn, 1) := by decide +kernel
theorem m_404 : Cond.fieldLink R_Model 13 "SpecifierDeskModel" "result" "[I" ∈ gw := gm (i := 862) (by decide +kernel) (by decide +kernel)
def f_Model_characterAt (t_result : Nat → Int32) (t_length : Int32) (a1 : Int32) : Option Int32 :=
  (if a1 < 0 then some (-1 : Int32) else (if a1 < t_length then (if inB a1 4000 = true then some (t_result a1.toNatClampNeg) else none) else some (-1 : Int32)))
set_option maxHeartbeats 4000000 in
set_option maxRecDepth 100000 in
theorem c_Model_characterAt (l : Launch) (G : Gt) (K : Nat) (qt : Nat) (qt_draft : Nat) (t_draft : Nat → Int32) (t_drafted : Int32) (qt_result : Nat) (t_result : Nat → Int32) (t_length : Int32) (t_arguments : Int32) (qt_kinds : Nat) (t_kinds : Nat → Int32) (qt_values : Nat) (t_values : Nat → Int64) (qt_widths : Nat) (t_widths : Nat → Int32) (qt_below : Nat) (t_below : Nat → Int32) (qt_sizes : Nat) (t_sizes : Nat → Int32) (qt_scales : Nat) (t_scales : Nat → Int32) (qt_parts : Nat) (t_parts : Nat → Int64) (qt_texts : Nat) (t_texts : Nat → Int32) (qt_lengths : Nat) (t_lengths : Nat → Int32) (t_end : Int32) (t_index : Int32) (t_flags : Int32) (t_twice : Int32) (t_width : Int32) (t_precision : Int32) (t_conversion : Int32) (t_broken : Int32) (qt_piece : Nat) (t_piece : Nat → Int32) (t_put : Int32) (t_head : Int32) (qt_tens : Nat) (t_tens : Nat → Int32) (t_count : Int32) (t_exponent : Int32) (qt_work : Nat) (t_work : Nat → Int32) (a1 : Int32) (sz : Nat) (res : Int32)   (hf : f_Model_characterAt t_result t_length a1 = some res) : Met l y_Model_characterAt (.code y_Model_characterAt cd_Model_characterAt 2 (some .int) :: gw) { frames := 0, cells := 0, slots := 0, locals := 0 } (PC G ([.ref qt, .int a1] : List Value) sz (w_Model_clear G qt qt_draft t_draft t_drafted qt_result t_result t_length t_arguments qt_kinds t_kinds qt_values t_values qt_widths t_widths qt_below t_below qt_sizes t_sizes qt_scales t_scales qt_parts t_parts qt_texts t_texts qt_lengths t_lengths t_end t_index t_flags t_twice t_width t_precision t_conversion t_broken qt_piece t_piece t_put t_head qt_tens t_tens t_count t_exponent qt_work t_work)) (QI G res (va_A (w_Model_clear G qt qt_draft t_draft t_drafted qt_result t_result t_length t_arguments qt_kinds t_kinds qt_values t_values qt_widths t_widths qt_below t_below qt_sizes t_sizes qt_scales t_scales qt_parts t_parts qt_texts t_texts qt_lengths t_lengths t_end t_index t_flags t_twice t_width t_precision t_conversion t_broken qt_piece t_piece t_put t_head qt_tens t_tens t_count t_exponent qt_work t_work) sz) (w_Model_clear G qt qt_draft t_draft t_drafted qt_result t_result t_length t_arguments qt_kinds t_kinds qt_values t_values qt_widths t_widths qt_below t_below qt_sizes t_sizes qt_scales t_scales qt_parts t_parts qt_texts t_texts qt_lengths t_lengths t_end t_index t_flags t_twice t_width t_precision t_conversion t_broken qt_piece t_piece t_put t_head qt_tens t_tens t_count t_exponent qt_work t_work)) 0 0 (va_A (w_Model_clear G qt qt_draft t_draft t_drafted qt_result t_result t_length t_arguments qt_kinds t_kinds qt_values t_values qt_widths t_widths qt_below t_below qt_sizes t_sizes qt_scales t_scales qt_parts t_parts qt_texts t_texts qt_lengths t_lengths t_end t_index t_flags t_twice t_width t_precision t_conversion t_broken qt_piece t_piece t_put t_head qt_tens t_tens t_count t_exponent qt_work t_work) sz) := by
  refine Met.ofW (cc := cd_Model_characterAt) (maxL := 2) (ret := (some .int)) (by decide) rfl ?_
  intro p e s m args below meth c s₁ B hml hv
  obtain ⟨rfl, hsz, hP, hE, hD0⟩ := hv
  have hx := B.exec
  have hb := B.bytes
  have hr := B.returns
  have hts := atoms_spec (ws := (.code y_Model_characterAt cd_Model_characterAt 2 (some .int) :: gw)) B.pre
  have hg : ∀ w ∈ gw, w.before _ s = true := fun w h => hts w (List.mem_cons_of_mem _ h)
  have hown : s.vm.findClass R_Model = some m.cls := findClass_of_methodNamed B.named
  have hlocks := B.notSynchronized
  subst hsz
  have hK := hE.K
  have hD := hD0.self (sz := s.heap.size)
  have hAb := hE.ab hD0
  obtain ⟨Q, hQ⟩ : ∃ Q, MQ below (QI G res (va_A (w_Model_clear G qt qt_draft t_draft t_drafted qt_result t_result t_length t_arguments qt_kinds t_kinds qt_values t_values qt_widths t_widths qt_below t_below qt_sizes t_sizes qt_scales t_scales qt_parts t_parts qt_texts t_texts qt_lengths t_lengths t_end t_index t_flags t_twice t_width t_precision t_conversion t_broken qt_piece t_piece t_put t_head qt_tens t_tens t_count t_exponent qt_work t_work) s.heap.size) (w_Model_clear G qt qt_draft t_draft t_drafted qt_result t_result t_length t_arguments qt_kinds t_kinds qt_values t_values qt_widths t_widths qt_below t_below qt_sizes t_sizes qt_scales t_scales qt_parts t_parts qt_texts t_texts qt_lengths t_lengths t_end t_index t_flags t_twice t_width t_precision t_conversion t_broken qt_piece t_piece t_put t_head qt_tens t_tens t_count t_exponent qt_work t_work)) ([.ref qt, .int a1] : List Value).toArray s 0 0 (va_A (w_Model_clear G qt qt_draft t_draft t_drafted qt_result t_result t_length t_arguments qt_kinds t_kinds qt_values t_values qt_widths t_widths qt_below t_below qt_sizes t_sizes qt_scales t_scales qt_parts t_parts qt_texts t_texts qt_lengths t_lengths t_end t_index t_flags t_twice t_width t_precision t_conversion t_broken qt_piece t_piece t_put t_head qt_tens t_tens t_count t_exponent qt_work t_work) s.heap.size) = Q := ⟨_, rfl⟩
  show W p l e { frames := 0, cells := 0, slots := 0, locals := 0 } s m ([.ref qt, .int a1] : List Value).toArray below meth c s.heap [] 0 0 (MQ below (QI G res (va_A (w_Model_clear G qt qt_draft t_draft t_drafted qt_result t_result t_length t_arguments qt_kinds t_kinds qt_values t_values qt_widths t_widths qt_below t_below qt_sizes t_sizes qt_scales t_scales qt_parts t_parts qt_texts t_texts qt_lengths t_lengths t_end t_index t_flags t_twice t_width t_precision t_conversion t_broken qt_piece t_piece t_put t_head qt_tens t_tens t_count t_exponent qt_work t_work) s.heap.size) (w_Model_clear G qt qt_draft t_draft t_drafted qt_result t_result t_length t_arguments qt_kinds t_kinds qt_values t_values qt_widths t_widths qt_below t_below qt_sizes t_sizes qt_scales t_scales qt_parts t_parts qt_texts t_texts qt_lengths t_lengths t_end t_index t_flags t_twice t_width t_precision t_conversion t_broken qt_piece t_piece t_put t_head qt_tens t_tens t_count t_exponent qt_work t_work)) ([.ref qt, .int a1] : List Value).toArray s 0 0 (va_A (w_Model_clear G qt qt_draft t_draft t_drafted qt_result t_result t_length t_arguments qt_kinds t_kinds qt_values t_values qt_widths t_widths qt_below t_below qt_sizes t_sizes qt_scales t_scales qt_parts t_parts qt_texts t_texts qt_lengths t_lengths t_end t_index t_flags t_twice t_width t_precision t_conversion t_broken qt_piece t_piece t_put t_head qt_tens t_tens t_count t_exponent qt_work t_work) s.heap.size)) _
  rw [hQ]
  have hA : ∀ q : Nat, s.heap.size ≤ q → va_A (w_Model_clear G qt qt_draft t_draft t_drafted qt_result t_result t_length t_arguments qt_kinds t_kinds qt_values t_values qt_widths t_widths qt_below t_below qt_sizes t_sizes qt_scales t_scales qt_parts t_parts qt_texts t_texts qt_lengths t_lengths t_end t_index t_flags t_twice t_width t_precision t_conversion t_broken qt_piece t_piece t_put t_head qt_tens t_tens t_count t_exponent qt_work t_work) s.heap.size q := fun q h => Or.inr h
  obtain ⟨A, hAe⟩ : ∃ A, va_A (w_Model_clear G qt qt_draft t_draft t_drafted qt_result t_result t_length t_arguments qt_kinds t_kinds qt_values t_values qt_widths t_widths qt_below t_below qt_sizes t_sizes qt_scales t_scales qt_parts t_parts qt_texts t_texts qt_lengths t_lengths t_end t_index t_flags t_twice t_width t_precision t_conversion t_broken qt_piece t_piece t_put t_head qt_tens t_tens t_count t_exponent qt_work t_work) s.heap.size = A := ⟨_, rfl⟩
  rw [hAe] at hA hD hAb hQ
  have hS : va_S A s.heap s.heap [] := va_S.rf
  have hl := lv_entry (([.ref qt, .int a1] : List Value)) (n := 2) (Nat.le_of_ble_eq_true rfl)
  rw [lg_entry_eq]
  generalize (lg_sl (([.ref qt, .int a1] : List Value)) ++ List.replicate (2 - (lg_sl (([.ref qt, .int a1] : List Value))).length) Slot.unset).toArray = ls at hl ⊢
  have hl : lv_has ls 2 [(0, .ref qt), (1, .int a1)] := hl
  unfold f_Model_characterAt at hf
  refine lv_iload_n hx hb d_Model_characterAt_0 rfl (lv_at hl 1 rfl) ?_
  refine lv_if_lt (tgt := 12) hx hb d_Model_characterAt_1 (by decide) (fun c_1 => ?_) (fun c_1 => ?_)
  · have hf := ip_ c_1 hf
    refine lv_iconst (v := -1) hx hb d_Model_characterAt_12 (by decide) ?_
    refine lv_goto (tgt := 22) hx hb d_Model_characterAt_13 (by decide) ?_
    obtain rfl := Option.some.inj hf
    rw [← hQ]
    exact W.iret (v := (-1 : Int32)) hx hb hr (fun t9 ht hW => ⟨⟨(-1 : Int32), (), rfl, rfl, ⟨by rw [ht]; exact hP, hD⟩⟩, hS.F ht⟩) hS.2.2 d_Model_characterAt_22
  · have hf := in_ c_1 hf
    refine lv_iload_n hx hb d_Model_characterAt_4 rfl (lv_at hl 1 rfl) ?_
    refine lv_aload_n hx hb d_Model_characterAt_5 rfl (lv_at hl 0 rfl) ?_
    refine va_get (D := gD G) (ci := 7) (v := .int t_length) (C := R_Model) (T := F_Model) (N := 29) hx hb hg in_Model hown hK hP 0 rfl rfl 3 (by decide) (hg _ m_403) (fun _ h9 => h9) rfl d_Model_characterAt_6 ?_
    refine lv_icmp_lt (tgt := 16) hx hb d_Model_characterAt_9 (by decide) (fun c_9 => ?_) (fun c_9 => ?_)
    · have hf := ip_ c_9 hf
      refine lv_aload_n hx hb d_Model_characterAt_16 rfl (lv_at hl 0 rfl) ?_
      refine va_get (D := gD G) (ci := 7) (v := .ref qt_result) (C := R_Model) (T := F_Model) (N := 29) hx hb hg in_Model hown hK hP 0 rfl rfl 2 (by decide) (hg _ m_404) (fun _ h9 => h9) rfl d_Model_characterAt_17 ?_
      refine lv_iload_n hx hb d_Model_characterAt_20 rfl (lv_at hl 1 rfl) ?_
      obtain ⟨g_21, hf⟩ := gd_ hf
      refine va_iald hx hb hK hP 2 1 rfl rfl (inB_in g_21) d_Model_characterAt_21 ?_
      obtain rfl := Option.some.inj hf
      rw [← hQ]
      exact W.iret (v := (t_result a1.toNatClampNeg)) hx hb hr (fun t9 ht hW => ⟨⟨(t_result a1.toNatClampNeg), (), rfl, rfl, ⟨by rw [ht]; exact hP, hD⟩⟩, hS.F ht⟩) hS.2.2 d_Model_characterAt_22
    · have hf := in_ c_9 hf
      refine lv_iconst (v := -1) hx hb d_Model_characterAt_12 (by decide) ?_
      refine lv_goto (tgt := 22) hx hb d_Model_characterAt_13 (by decide) ?_
      obtain rfl := Option.some.inj hf
      rw [← hQ]
      exact W.iret (v := (-1 : Int32)) hx hb hr (fun t9 ht hW => ⟨⟨(-1 : Int32), (), rfl, rfl, ⟨by rw [ht]; exact hP, hD⟩⟩, hS.F ht⟩) hS.2.2 d_Model_characterAt_22
theorem d_Model_write_0 : decode cd_Model_write 0 = .ok (.iconst 0, 1) := by decide +kernel
theorem d_Model_write_1 : decode cd_Model_write 1 = .ok (.istore_n 3, 1) := by decide +kernel
theorem d_Model_write_2 : decode cd_Model_write 2 = .ok (.iconst 1, 1) := by decide +kernel
theorem d_Model_write_3 : decode cd_Model_write 3 = .ok (.istore 4, 2) := by decide +kernel
theorem d_Model_write_5 : decode cd_Model_write 5 = .ok (.iconst 0, 1) := by decide +kernel
theorem d_Model_write_6 : decode cd_Model_write 6 = .ok (.istore 5, 2) := by decide +kernel
theorem d_Model_write_8 : decode cd_Model_write 8 = .ok (.iload 5, 2) := by decide +kernel
theorem d_Model_write_10 : decode cd_Model_write 10 = .ok (.bipush 8, 2) := by decide +kernel
theorem d_Model_write_12 : decode cd_Model_write 12 = .ok (.if_icmp .ge 55, 3) := by decide +kernel
theorem d_Model_write_15 : decode cd_Model_write 15 = .ok (.lload_n 1, 1) := by decide +kernel
theorem d_Model_write_16 : decode cd_Model_write 16 = .ok (.bipush 8, 2) := by decide +kernel
theorem d_Model_write_18 : decode cd_Model_write 18 = .ok (.iload 5, 2) := by decide +kernel
theorem d_Model_write_20 : decode cd_Model_write 20 = .ok (.imul, 1) := by decide +kernel
theorem d_Model_write_21 : decode cd_Model_write 21 = .ok (.lshr, 1) := by decide +kernel
theorem d_Model_write_22 : decode cd_Model_write 22 = .ok (.ldc2_w 54, 3) := by decide +kernel
theorem d_Model_write_25 : decode cd_Model_write 25 = .ok (.land, 1) := by decide +kernel
theorem d_Model_write_26 : decode cd_Model_write 26 = .ok (.l2i, 1) := by decide +kernel
theorem d_Model_write_27 : decode cd_Model_write 27 = .ok (.istore 6, 2) := by decide +kernel
theorem d_Model_write_29 : decode cd_Model_write 29 = .ok (.iload 4, 2) := by decide +kernel
theorem d_Model_write_31 : decode cd_Model_write 31 = .ok (.ifCond .eq 14, 3) := by decide +kernel
theorem d_Model_write_34 : decode cd_Model_write 34 = .ok (.iload 6, 2) := by decide +kernel
theorem d_Model_write_36 : decode cd_Model_write 36 = .ok (.bipush 127, 2) := by decide +kernel
theorem d_Model_write_38 : decode cd_Model_write 38 = .ok (.if_icmp .ge 7, 3) := by decide +kernel
theorem d_Model_write_41 : decode cd_Model_write 41 = .ok (.iconst 1, 1) := by decide +kernel
theorem d_Model_write_42 : decode cd_Model_write 42 = .ok (.goto 4, 3) := by decide +kernel
theorem d_Model_write_45 : decode cd_Model_write 45 = .ok (.iconst 0, 1) := by decide +kernel
theorem d_Model_write_46 : decode cd_Model_write 46 = .ok (.istore 4, 2) := by decide +kernel
theorem d_Model_write_48 : decode cd_Model_write 48 = .ok (.iload_n 3, 1) := by decide +kernel
theorem d_Model_write_49 : decode cd_Model_write 49 = .ok (.iload 6, 2) := by decide +kernel
theorem d_Model_write_51 : decode cd_Model_write 51 = .ok (.ifCond .le 7, 3) := by decide +kernel
theorem d_Model_write_54 : decode cd_Model_write 54 = .ok (.iconst 1, 1) := by decide +kernel
theorem d_Model_write_55 : decode cd_Model_write 55 = .ok (.goto 4, 3) := by decide +kernel
theorem d_Model_write_58 : decode cd_Model_write 58 = .ok (.iconst 0, 1) := by decide +kernel
theorem d_Model_write_59 : decode cd_Model_write 59 = .ok (.iadd, 1) := by decide +kernel
theorem d_Model_write_60 : decode cd_Model_write 60 = .ok (.istore_n 3, 1) := by decide +kernel
theorem d_Model_write_61 : decode cd_Model_write 61 = .ok (.iinc 5 1, 3) := by decide +kernel
theorem d_Model_write_64 : decode cd_Model_write 64 = .ok (.goto (-56), 3) := by decide +kernel
theorem d_Model_write_67 : decode cd_Model_write 67 = .ok (.iload 4, 2) := by decide +kernel
theorem d_Model_write_69 : decode cd_Model_write 69 = .ok (.ifCond .eq 15, 3) := by decide +kernel
theorem d_Model_write_72 : decode cd_Model_write 72 = .ok (.aload_n 0, 1) := by decide +kernel
theorem d_Model_write_73 : decode cd_Model_write 73 = .ok (.getfield 56, 3) := by decide +kernel
theorem d_Model_write_76 : decode cd_Model_write 76 = .ok (.iload_n 3, 1) := by decide +kernel
theorem d_Model_write_77 : decode cd_Model_write 77 = .ok (.iadd, 1) := by decide +kernel
theorem d_Model_write_78 : decode cd_Model_write 78 = .ok (.sipush 400, 3) := by decide +kernel
theorem d_Model_write_81 : decode cd_Model_write 81 = .ok (.if_icmp .le 5, 3) := by decide +kernel
theorem d_Model_write_84 : decode cd_Model_write 84 = .ok (.iconst 0, 1) := by decide +kernel
theorem d_Model_write_85 : decode cd_Model_write 85 = .ok (.ireturn, 1) := by decide +kernel
theorem d_Model_write_86 : decode cd_Model_write 86 = .ok (.bipush 7, 2) := by decide +kernel
theorem d_Model_write_88 : decode cd_Model_write 88 = .ok (.istore 5, 2) := by decide +kernel
theorem d_Model_write_90 : decode cd_Model_write 90 = .ok (.iload 5, 2) := by decide +kernel
theorem d_Model_write_92 : decode cd_Model_write 92 = .ok (.ifCond .lt 52, 3) := by decide +kernel
theorem d_Model_write_95 : decode cd_Model_write 95 = .ok (.lload_n 1, 1) := by decide +kernel
theorem d_Model_write_96 : decode cd_Model_write 96 = .ok (.bipush 8, 2) := by decide +kernel
theorem d_Model_write_98 : decode cd_Model_write 98 = .ok (.iload 5, 2) := by decide +kernel
theorem d_Model_write_100 : decode cd_Model_write 100 = .ok (.imul, 1) := by decide +kernel
theorem d_Model_write_101 : decode cd_Model_write 101 = .ok (.lshr, 1) := by decide +kernel
theorem d_Model_write_102 : decode cd_Model_write 102 = .ok (.ldc2_w 54, 3) := by decide +kernel
theorem d_Model_write_105 : decode cd_Model_write 105 = .ok (.land, 1) := by decide +kernel
theorem d_Model_write_106 : decode cd_Model_write 106 = .ok (.l2i, 1) := by decide +kernel
theorem d_Model_write_107 : decode cd_Model_write 107 = .ok (.istore 6, 2) := by decide +kernel
theorem d_Model_write_109 : decode cd_Model_write 109 = .ok (.iload 6, 2) := by decide +kernel
theorem d_Model_write_111 : decode cd_Model_write 111 = .ok (.ifCond .ne 6, 3) := by decide +kernel
theorem d_Model_write_114 : decode cd_Model_write 114 = .ok (.goto 24, 3) := by decide +kernel
theorem d_Model_write_117 : decode cd_Model_write 117 = .ok (.aload_n 0, 1) := by decide +kernel
theorem d_Model_write_118 : decode cd_Model_write 118 = .ok (.getfield 7, 3) := by decide +kernel
theorem d_Model_write_121 : decode cd_Model_write 121 = .ok (.aload_n 0, 1) := by decide +kernel
theorem d_Model_write_122 : decode cd_Model_write 122 = .ok (.getfield 56, 3) := by decide +kernel
theorem d_Model_write_125 : decode cd_Model_write 125 = .ok (.iload 6, 2) := by decide +kernel
theorem d_Model_write_127 : decode cd_Model_write 127 = .ok (.iastore, 1) := by decide +kernel
theorem d_Model_write_128 : decode cd_Model_write 128 = .ok (.aload_n 0, 1) := by decide +kernel
theorem d_Model_write_129 : decode cd_Model_write 129 = .ok (.dup, 1) := by decide +kernel
theorem d_Model_write_130 : decode cd_Model_write 130 = .ok (.getfield 56, 3) := by decide +kernel
theorem d_Model_write_133 : decode cd_Model_write 133 = .ok (.iconst 1, 1) := by decide +kernel
theorem d_Model_write_134 : decode cd_Model_write 134 = .ok (.iadd, 1) := by decide +kernel
theorem d_Model_write_135 : decode cd_Model_write 135 = .ok (.putfield 56, 3) := by decide +kernel
theorem d_Model_write_138 : decode cd_Model_write 138 = .ok (.iinc 5 (-1), 3) := by decide +kernel
theorem d_Model_write_141 : decode cd_Model_write 141 = .ok (.goto (-51), 3) := by decide +kernel
theorem d_Model_write_144 : decode cd_Model_write 144 = .ok (.iconst 1, 1) := by decide +kernel
theorem d_Model_write_145 : decode cd_Model_write 145 = .ok (.ireturn, 1) := by decide +kernel
theorem m_405 : Cond.constantLong R_Model 54 255 ∈ gw := gm (i := 953) (by decide +kernel) (by decide +kernel)
def k_Model_write_138 (rec_90 : (Int32 × Int32 × (Nat → Int32)) → Option (Int32 × Int32 × (Nat → Int32))) (x5 : Int32) (t_drafted : Int32) (t_draft : (Nat → Int32)) : Option (Int32 × Int32 × (Nat → Int32)) :=
  rec_90 ((x5 + (-1)), t_drafted, t_draft)
def b_Model_write_90 (a1 : Int64)  (rec_90 : (Int32 × Int32 × (Nat → Int32)) → Option (Int32 × Int32 × (Nat → Int32))) (z90 : Int32 × Int32 × (Nat → Int32)) : Option (Int32 × Int32 × (Nat → Int32)) :=
  (if z90.1 < 0 then some ((1 : Int32), z90.2.1, z90.2.2) else (if ((a1 >>> (((8 : Int32) * z90.1).toInt64 &&& 63)) &&& (255 : Int64)).toInt32 = 0 then k_Model_write_138 rec_90 z90.1 z90.2.1 z90.2.2 else (if inB z90.2.1 400 = true then k_Model_write_138 rec_90 z90.1 (z90.2.1 + (1 : Int32)) (upd z90.2.2 z90.2.1.toNatClampNeg (((a1 >>> (((8 : Int32) * z90.1).toInt64 &&& 63)) &&& (255 : Int64)).toInt32)) else none)))
def k_Model_write_59 (rec_8 : (Int32 × Int32 × Int32) → Option (Int32 × Int32 × (Nat → Int32))) (x4 : Int32) (x5 : Int32) (k0 : Int32) (k1 : Int32) : Option (Int32 × Int32 × (Nat → Int32)) :=
  rec_8 ((k0 + k1), x4, (x5 + 1))
def k_Model_write_46 (rec_8 : (Int32 × Int32 × Int32) → Option (Int32 × Int32 × (Nat → Int32))) (x3 : Int32) (x5 : Int32) (x6 : Int32) (k0 : Int32) : Option (Int32 × Int32 × (Nat → Int32)) :=
  (if x6 ≤ 0 then k_Model_write_59 rec_8 k0 x5 x3 (0 : Int32) else k_Model_write_59 rec_8 k0 x5 x3 (1 : Int32))
def k_Model_write_45 (rec_8 : (Int32 × Int32 × Int32) → Option (Int32 × Int32 × (Nat → Int32))) (x3 : Int32) (x5 : Int32) (x6 : Int32) : Option (Int32 × Int32 × (Nat → Int32)) :=
  k_Model_write_46 rec_8 x3 x5 x6 (0 : Int32)
def b_Model_write_8 (K : Nat) (a1 : Int64) (t_drafted : Int32) (t_draft : (Nat → Int32)) (rec_8 : (Int32 × Int32 × Int32) → Option (Int32 × Int32 × (Nat → Int32))) (z8 : Int32 × Int32 × Int32) : Option (Int32 × Int32 × (Nat → Int32)) :=
  (if (8 : Int32) ≤ z8.2.2 then (if z8.2.1 = 0 then some ((0 : Int32), t_drafted, t_draft) else (if (t_drafted + z8.1) ≤ (400 : Int32) then lp_ (b_Model_write_90 a1 ) K ((7 : Int32), t_drafted, t_draft) else some ((0 : Int32), t_drafted, t_draft))) else (if z8.2.1 = 0 then k_Model_write_45 rec_8 z8.1 z8.2.2 (((a1 >>> (((8 : Int32) * z8.2.2).toInt64 &&& 63)) &&& (255 : Int64)).toInt32) else (if (127 : Int32) ≤ ((a1 >>> (((8 : Int32) * z8.2.2).toInt64 &&& 63)) &&& (255 : Int64)).toInt32 then k_Model_write_45 rec_8 z8.1 z8.2.2 (((a1 >>> (((8 : Int32) * z8.2.2).toInt64 &&& 63)) &&& (255 : Int64)).toInt32) else k_Model_write_46 rec_8 z8.1 z8.2.2 (((a1 >>> (((8 : Int32) * z8.2.2).toInt64 &&& 63)) &&& (255 : Int64)).toInt32) (1 : Int32))))
def f_Model_write (K : Nat) (t_draft : Nat → Int32) (t_drafted : Int32) (a1 : Int64) : Option (Int32 × Int32 × (Nat → Int32)) :=
  lp_ (b_Model_write_8 K a1 t_drafted t_draft) K ((0 : Int32), (1 : Int32), (0 : Int32))
set_option maxHeartbeats 4000000 in
set_option maxRecDepth 100000 in
theorem c_Model_write (l : Launch) (G : Gt) (K : Nat) (qt : Nat) (qt_draft : Nat) (t_draft : Nat → Int32) (t_drafted : Int32) (qt_result : Nat) (t_result : Nat → Int32) (t_length : Int32) (t_arguments : Int32) (qt_kinds : Nat) (t_kinds : Nat → Int32) (qt_values : Nat) (t_values : Nat → Int64) (qt_widths : Nat) (t_widths : Nat → Int32) (qt_below : Nat) (t_below : Nat → Int32) (qt_sizes : Nat) (t_sizes : Nat → Int32) (qt_scales : Nat) (t_scales : Nat → Int32) (qt_parts : Nat) (t_parts : Nat → Int64) (qt_texts : Nat) (t_texts : Nat → Int32) (qt_lengths : Nat) (t_lengths : Nat → Int32) (t_end : Int32) (t_index : Int32) (t_flags : Int32) (t_twice : Int32) (t_width : Int32) (t_precision : Int32) (t_conversion : Int32) (t_broken : Int32) (qt_piece : Nat) (t_piece : Nat → Int32) (t_put : Int32) (t_head : Int32) (qt_tens : Nat) (t_tens : Nat → Int32) (t_count : Int32) (t_exponent : Int32) (qt_work : Nat) (t_work : Nat → Int32) (a1 : Int64) (sz : Nat) (res : Int32 × Int32 × (Nat → Int32))   (hf : f_Model_write K t_draft t_drafted a1 = some res) : Met l y_Model_write (.code y_Model_write cd_Model_write 7 (some .boolean) :: gw) { frames := 0, cells := 0, slots := 0, locals := 0 } (PC G ([.ref qt, .long a1] : List Value) sz (w_Model_clear G qt qt_draft t_draft t_drafted qt_result t_result t_length t_arguments qt_kinds t_kinds qt_values t_values qt_widths t_widths qt_below t_below qt_sizes t_sizes qt_scales t_scales qt_parts t_parts qt_texts t_texts qt_lengths t_lengths t_end t_index t_flags t_twice t_width t_precision t_conversion t_broken qt_piece t_piece t_put t_head qt_tens t_tens t_count t_exponent qt_work t_work)) (QZ G res.1 (va_A (w_Model_clear G qt qt_draft t_draft t_drafted qt_result t_result t_length t_arguments qt_kinds t_kinds qt_values t_values qt_widths t_widths qt_below t_below qt_sizes t_sizes qt_scales t_scales qt_parts t_parts qt_texts t_texts qt_lengths t_lengths t_end t_index t_flags t_twice t_width t_precision t_conversion t_broken qt_piece t_piece t_put t_head qt_tens t_tens t_count t_exponent qt_work t_work) sz) (w_Model_clear G qt qt_draft res.2.2 res.2.1 qt_result t_result t_length t_arguments qt_kinds t_kinds qt_values t_values qt_widths t_widths qt_below t_below qt_sizes t_sizes qt_scales t_scales qt_parts t_parts qt_texts t_texts qt_lengths t_lengths t_end t_index t_flags t_twice t_width t_precision t_conversion t_broken qt_piece t_piece t_put t_head qt_tens t_tens t_count t_exponent qt_work t_work)) 0 0 (va_A (w_Model_clear G qt qt_draft t_draft t_drafted qt_result t_result t_length t_arguments qt_kinds t_kinds qt_values t_values qt_widths t_widths qt_below t_below qt_sizes t_sizes qt_scales t_scales qt_parts t_parts qt_texts t_texts qt_lengths t_lengths t_end t_index t_flags t_twice t_width t_precision t_conversion t_broken qt_piece t_piece t_put t_head qt_tens t_tens t_count t_exponent qt_work t_work) sz) := by
  refine Met.ofW (cc := cd_Model_write) (maxL := 7) (ret := (some .boolean)) (by decide) rfl ?_
  intro p e s m args below meth c s₁ B hml hv
  obtain ⟨rfl, hsz, hP, hE, hD0⟩ := hv
  have hx := B.exec
  have hb := B.bytes
  have hr := B.returns
  have hts := atoms_spec (ws := (.code y_Model_write cd_Model_write 7 (some .boolean) :: gw)) B.pre
  have hg : ∀ w ∈ gw, w.before _ s = true := fun w h => hts w (List.mem_cons_of_mem _ h)
  have hown : s.vm.findClass R_Model = some m.cls := findClass_of_methodNamed B.named
  have hlocks := B.notSynchronized
  subst hsz
  have hK := hE.K
  have hD := hD0.self (sz := s.heap.size)
  have hAb := hE.ab hD0
  obtain ⟨Q, hQ⟩ : ∃ Q, MQ below (QZ G res.1 (va_A (w_Model_clear G qt qt_draft t_draft t_drafted qt_result t_result t_length t_arguments qt_kinds t_kinds qt_values t_values qt_widths t_widths qt_below t_below qt_sizes t_sizes qt_scales t_scales qt_parts t_parts qt_texts t_texts qt_lengths t_lengths t_end t_index t_flags t_twice t_width t_precision t_conversion t_broken qt_piece t_piece t_put t_head qt_tens t_tens t_count t_exponent qt_work t_work) s.heap.size) (w_Model_clear G qt qt_draft res.2.2 res.2.1 qt_result t_result t_length t_arguments qt_kinds t_kinds qt_values t_values qt_widths t_widths qt_below t_below qt_sizes t_sizes qt_scales t_scales qt_parts t_parts qt_texts t_texts qt_lengths t_lengths t_end t_index t_flags t_twice t_width t_precision t_conversion t_broken qt_piece t_piece t_put t_head qt_tens t_tens t_count t_exponent qt_work t_work)) ([.ref qt, .long a1] : List Value).toArray s 0 0 (va_A (w_Model_clear G qt qt_draft t_draft t_drafted qt_result t_result t_length t_arguments qt_kinds t_kinds qt_values t_values qt_widths t_widths qt_below t_below qt_sizes t_sizes qt_scales t_scales qt_parts t_parts qt_texts t_texts qt_lengths t_lengths t_end t_index t_flags t_twice t_width t_precision t_conversion t_broken qt_piece t_piece t_put t_head qt_tens t_tens t_count t_exponent qt_work t_work) s.heap.size) = Q := ⟨_, rfl⟩
  show W p l e { frames := 0, cells := 0, slots := 0, locals := 0 } s m ([.ref qt, .long a1] : List Value).toArray below meth c s.heap [] 0 0 (MQ below (QZ G res.1 (va_A (w_Model_clear G qt qt_draft t_draft t_drafted qt_result t_result t_length t_arguments qt_kinds t_kinds qt_values t_values qt_widths t_widths qt_below t_below qt_sizes t_sizes qt_scales t_scales qt_parts t_parts qt_texts t_texts qt_lengths t_lengths t_end t_index t_flags t_twice t_width t_precision t_conversion t_broken qt_piece t_piece t_put t_head qt_tens t_tens t_count t_exponent qt_work t_work) s.heap.size) (w_Model_clear G qt qt_draft res.2.2 res.2.1 qt_result t_result t_length t_arguments qt_kinds t_kinds qt_values t_values qt_widths t_widths qt_below t_below qt_sizes t_sizes qt_scales t_scales qt_parts t_parts qt_texts t_texts qt_lengths t_lengths t_end t_index t_flags t_twice t_width t_precision t_conversion t_broken qt_piece t_piece t_put t_head qt_tens t_tens t_count t_exponent qt_work t_work)) ([.ref qt, .long a1] : List Value).toArray s 0 0 (va_A (w_Model_clear G qt qt_draft t_draft t_drafted qt_result t_result t_length t_arguments qt_kinds t_kinds qt_values t_values qt_widths t_widths qt_below t_below qt_sizes t_sizes qt_scales t_scales qt_parts t_parts qt_texts t_texts qt_lengths t_lengths t_end t_index t_flags t_twice t_width t_precision t_conversion t_broken qt_piece t_piece t_put t_head qt_tens t_tens t_count t_exponent qt_work t_work) s.heap.size)) _
  rw [hQ]
  have hA : ∀ q : Nat, s.heap.size ≤ q → va_A (w_Model_clear G qt qt_draft t_draft t_drafted qt_result t_result t_length t_arguments qt_kinds t_kinds qt_values t_values qt_widths t_widths qt_below t_below qt_sizes t_sizes qt_scales t_scales qt_parts t_parts qt_texts t_texts qt_lengths t_lengths t_end t_index t_flags t_twice t_width t_precision t_conversion t_broken qt_piece t_piece t_put t_head qt_tens t_tens t_count t_exponent qt_work t_work) s.heap.size q := fun q h => Or.inr h
  obtain ⟨A, hAe⟩ : ∃ A, va_A (w_Model_clear G qt qt_draft t_draft t_drafted qt_result t_result t_length t_arguments qt_kinds t_kinds qt_values t_values qt_widths t_widths qt_below t_below qt_sizes t_sizes qt_scales t_scales qt_parts t_parts qt_texts t_texts qt_lengths t_lengths t_end t_index t_flags t_twice t_width t_precision t_conversion t_broken qt_piece t_piece t_put t_head qt_tens t_tens t_count t_exponent qt_work t_work) s.heap.size = A := ⟨_, rfl⟩
  rw [hAe] at hA hD hAb hQ
  have hS : va_S A s.heap s.heap [] := va_S.rf
  have hl := lv_entry (([.ref qt, .long a1] : List Value)) (n := 7) (Nat.le_of_ble_eq_true rfl)
  rw [lg_entry_eq]
  generalize (lg_sl (([.ref qt, .long a1] : List Value)) ++ List.replicate (7 - (lg_sl (([.ref qt, .long a1] : List Value))).length) Slot.unset).toArray = ls at hl ⊢
  have hl : lv_has ls 7 [(0, .ref qt), (1, .long a1)] := hl
  have W_90 : ∀   (n_90 : Nat) (z90 : Int32 × Int32 × (Nat → Int32)) , lp_ (b_Model_write_90 a1 ) n_90 z90 = some res → ∀ (H : Heap) (locs : List Loc) (ls : Array Slot), va_P (gD G) vwCl (w_Model_clear G qt qt_draft z90.2.2 z90.2.1 qt_result t_result t_length t_arguments qt_kinds t_kinds qt_values t_values qt_widths t_widths qt_below t_below qt_sizes t_sizes qt_scales t_scales qt_parts t_parts qt_texts t_texts qt_lengths t_lengths t_end t_index t_flags t_twice t_width t_precision t_conversion t_broken qt_piece t_piece t_put t_head qt_tens t_tens t_count t_exponent qt_work t_work) H → va_D A (w_Model_clear G qt qt_draft z90.2.2 z90.2.1 qt_result t_result t_length t_arguments qt_kinds t_kinds qt_values t_values qt_widths t_widths qt_below t_below qt_sizes t_sizes qt_scales t_scales qt_parts t_parts qt_texts t_texts qt_lengths t_lengths t_end t_index t_flags t_twice t_width t_precision t_conversion t_broken qt_piece t_piece t_put t_head qt_tens t_tens t_count t_exponent qt_work t_work) → va_S A s.heap H locs → lv_has ls 7 [(0, .ref qt), (1, .long a1), (5, .int z90.1)] → W p l e { frames := 0, cells := 0, slots := 0, locals := 0 } s m ([.ref qt, .long a1] : List Value).toArray below meth c H locs 0 0 Q (F0 m 90 ls []) := by
    intro  n_90
    induction n_90 with
    | zero =>
      intro z90  hf
      cases hf
    | succ n_90 ih_90 =>
      intro z90  hf H locs ls hP hD hS hl
      have hf : b_Model_write_90 a1  (lp_ (b_Model_write_90 a1 ) n_90) z90 = some res := hf
      generalize lp_ (b_Model_write_90 a1 ) n_90 = rec_90 at hf ih_90
      have W_138 : ∀ (x5 : Int32) (t_drafted : Int32) (t_draft : (Nat → Int32)) , k_Model_write_138 rec_90 x5 t_drafted t_draft = some res → ∀ (H : Heap) (locs : List Loc) (ls : Array Slot), va_P (gD G) vwCl (w_Model_clear G qt qt_draft t_draft t_drafted qt_result t_result t_length t_arguments qt_kinds t_kinds qt_values t_values qt_widths t_widths qt_below t_below qt_sizes t_sizes qt_scales t_scales qt_parts t_parts qt_texts t_texts qt_lengths t_lengths t_end t_index t_flags t_twice t_width t_precision t_conversion t_broken qt_piece t_piece t_put t_head qt_tens t_tens t_count t_exponent qt_work t_work) H → va_D A (w_Model_clear G qt qt_draft t_draft t_drafted qt_result t_result t_length t_arguments qt_kinds t_kinds qt_values t_values qt_widths t_widths qt_below t_below qt_sizes t_sizes qt_scales t_scales qt_parts t_parts qt_texts t_texts qt_lengths t_lengths t_end t_index t_flags t_twice t_width t_precision t_conversion t_broken qt_piece t_piece t_put t_head qt_tens t_tens t_count t_exponent qt_work t_work) → va_S A s.heap H locs → lv_has ls 7 [(0, .ref qt), (1, .long a1), (5, .int x5)] → W p l e { frames := 0, cells := 0, slots := 0, locals := 0 } s m ([.ref qt, .long a1] : List Value).toArray below meth c H locs 0 0 Q (F0 m 138 ls []) := by
        intro x5 t_drafted t_draft  hf H locs ls hP hD hS hl
        unfold k_Model_write_138 at hf
        refine lv_iinc (v := (x5 + (-1))) (lv' := [(5, .int (x5 + (-1))), (0, .ref qt), (1, .long a1)]) hx hb d_Model_write_138 hl (k := 2) rfl rfl (by decide) rfl (fun ls hl => ?_)
        refine lv_goto (tgt := 90) hx hb d_Model_write_141 (by decide) ?_
        exact ih_90 ((x5 + (-1)), t_drafted, t_draft)  hf _ _ _ hP hD hS (lv_sub hl [1, 2, 0] rfl)
      unfold b_Model_write_90 at hf
      refine lv_iload hx hb d_Model_write_90 (lv_at hl 2 rfl) ?_
      refine lv_if_lt (tgt := 144) hx hb d_Model_write_92 (by decide) (fun c_92 => ?_) (fun c_92 => ?_)
      · have hf := ip_ c_92 hf
        refine lv_iconst (v := 1) hx hb d_Model_write_144 (by decide) ?_
        obtain rfl := Option.some.inj hf
        rw [← hQ]
        exact W.zret (v := (1 : Int32)) hx hb hr (bl_n bl_1) (fun t9 ht hW => ⟨⟨(1 : Int32), (), rfl, ⟨rfl, bl_1⟩, ⟨by rw [ht]; exact hP, hD⟩⟩, hS.F ht⟩) hS.2.2 d_Model_write_145
      · have hf := in_ c_92 hf
        refine lv_lload_n hx hb d_Model_write_95 rfl (lv_at hl 1 rfl) ?_
        refine lv_bipush (v := 8) hx hb d_Model_write_96 (by decide) ?_
        refine lv_iload hx hb d_Model_write_98 (lv_at hl 2 rfl) ?_
        refine lv_imul hx hb d_Model_write_100 ?_
        refine lv_lshr (v := (a1 >>> (((8 : Int32) * z90.1).toInt64 &&& 63))) hx hb d_Model_write_101 rfl ?_
        refine lv_ldc2 (v := 255) hx hb hown (hg _ m_405) d_Model_write_102 ?_
        refine lv_land hx hb d_Model_write_105 ?_
        refine lv_l2i (v := ((a1 >>> (((8 : Int32) * z90.1).toInt64 &&& 63)) &&& (255 : Int64)).toInt32) hx hb d_Model_write_106 rfl ?_
        refine lv_istore (lv' := [(6, .int (((a1 >>> (((8 : Int32) * z90.1).toInt64 &&& 63)) &&& (255 : Int64)).toInt32)), (0, .ref qt), (1, .long a1), (5, .int z90.1)]) hx hb d_Model_write_107 hl (by decide) rfl (fun ls hl => ?_)
        refine lv_iload hx hb d_Model_write_109 (lv_at hl 0 rfl) ?_
        refine lv_if_ne (tgt := 117) hx hb d_Model_write_111 (by decide) (fun c_111 => ?_) (fun c_111 => ?_)
        · have hf := in_ c_111 hf
          refine lv_aload_n hx hb d_Model_write_117 rfl (lv_at hl 1 rfl) ?_
          refine va_get (D := gD G) (ci := 7) (v := .ref qt_draft) (C := R_Model) (T := F_Model) (N := 29) hx hb hg in_Model hown hK hP 0 rfl rfl 0 (by decide) (hg _ m_402) (fun _ h9 => h9) rfl d_Model_write_118 ?_
          refine lv_aload_n hx hb d_Model_write_121 rfl (lv_at hl 1 rfl) ?_
          refine va_get (D := gD G) (ci := 7) (v := .int z90.2.1) (C := R_Model) (T := F_Model) (N := 29) hx hb hg in_Model hown hK hP 0 rfl rfl 1 (by decide) (hg _ m_380) (fun _ h9 => h9) rfl d_Model_write_122 ?_
          refine lv_iload hx hb d_Model_write_125 (lv_at hl 0 rfl) ?_
          obtain ⟨g_127, hf⟩ := gd_ hf
          refine va_iast hx hb hK hP hD hS 1 1 rfl rfl (inB_in g_127) d_Model_write_127 (fun H locs hP hD hS => ?_)
          have hP : va_P (gD G) vwCl (w_Model_clear G qt qt_draft (upd z90.2.2 z90.2.1.toNatClampNeg (((a1 >>> (((8 : Int32) * z90.1).toInt64 &&& 63)) &&& (255 : Int64)).toInt32)) z90.2.1 qt_result t_result t_length t_arguments qt_kinds t_kinds qt_values t_values qt_widths t_widths qt_below t_below qt_sizes t_sizes qt_scales t_scales qt_parts t_parts qt_texts t_texts qt_lengths t_lengths t_end t_index t_flags t_twice t_width t_precision t_conversion t_broken qt_piece t_piece t_put t_head qt_tens t_tens t_count t_exponent qt_work t_work) H := hP
          have hD : va_D A (w_Model_clear G qt qt_draft (upd z90.2.2 z90.2.1.toNatClampNeg (((a1 >>> (((8 : Int32) * z90.1).toInt64 &&& 63)) &&& (255 : Int64)).toInt32)) z90.2.1 qt_result t_result t_length t_arguments qt_kinds t_kinds qt_values t_values qt_widths t_widths qt_below t_below qt_sizes t_sizes qt_scales t_scales qt_parts t_parts qt_texts t_texts qt_lengths t_lengths t_end t_index t_flags t_twice t_width t_precision t_conversion t_broken qt_piece t_piece t_put t_head qt_tens t_tens t_count t_exponent qt_work t_work) := hD
          refine lv_aload_n hx hb d_Model_write_128 rfl (lv_at hl 1 rfl) ?_
          refine lv_dup hx hb d_Model_write_129 rfl ?_
          refine va_get (D := gD G) (ci := 7) (v := .int z90.2.1) (C := R_Model) (T := F_Model) (N := 29) hx hb hg in_Model hown hK hP 0 rfl rfl 1 (by decide) (hg _ m_380) (fun _ h9 => h9) rfl d_Model_write_130 ?_
          refine lv_iconst (v := 1) hx hb d_Model_write_133 (by decide) ?_
          refine lv_iadd hx hb d_Model_write_134 ?_
          refine va_put (D := gD G) (ci := 7) (v := .int (z90.2.1 + (1 : Int32))) (ty := .int) (C := R_Model) (T := F_Model) (N := 29) hx hb hg in_Model t_Model to_Model no_Model hown hK hP hD hS 0 rfl rfl 1 (by decide) (hg _ m_380) (fun _ h9 => h9) rfl (by decide +kernel) rfl rfl (Nat.le_of_ble_eq_true rfl) d_Model_write_135 (fun H locs hP hD hS => ?_)
          have hP : va_P (gD G) vwCl (w_Model_clear G qt qt_draft (upd z90.2.2 z90.2.1.toNatClampNeg (((a1 >>> (((8 : Int32) * z90.1).toInt64 &&& 63)) &&& (255 : Int64)).toInt32)) (z90.2.1 + (1 : Int32)) qt_result t_result t_length t_arguments qt_kinds t_kinds qt_values t_values qt_widths t_widths qt_below t_below qt_sizes t_sizes qt_scales t_scales qt_parts t_parts qt_texts t_texts qt_lengths t_lengths t_end t_index t_flags t_twice t_width t_precision t_conversion t_broken qt_piece t_piece t_put t_head qt_tens t_tens t_count t_exponent qt_work t_work) H := hP
          have hD : va_D A (w_Model_clear G qt qt_draft (upd z90.2.2 z90.2.1.toNatClampNeg (((a1 >>> (((8 : Int32) * z90.1).toInt64 &&& 63)) &&& (255 : Int64)).toInt32)) (z90.2.1 + (1 : Int32)) qt_result t_result t_length t_arguments qt_kinds t_kinds qt_values t_values qt_widths t_widths qt_below t_below qt_sizes t_sizes qt_scales t_scales qt_parts t_parts qt_texts t_texts qt_lengths t_lengths t_end t_index t_flags t_twice t_width t_precision t_conversion t_broken qt_piece t_piece t_put t_head qt_tens t_tens t_count t_exponent qt_work t_work) := hD
          exact W_138 z90.1 (z90.2.1 + (1 : Int32)) (upd z90.2.2 z90.2.1.toNatClampNeg (((a1 >>> (((8 : Int32) * z90.1).toInt64 &&& 63)) &&& (255 : Int64)).toInt32))  hf _ _ _ hP hD hS (lv_sub hl [1, 2, 3] rfl)
        · have hf := ip_ c_111 hf
          refine lv_goto (tgt := 138) hx hb d_Model_write_114 (by decide) ?_
          exact W_138 z90.1 z90.2.1 z90.2.2  hf _ _ _ hP hD hS (lv_sub hl [1, 2, 3] rfl)
  have W_8 : ∀ (t_drafted : Int32) (t_draft : (Nat → Int32))  (n_8 : Nat) (z8 : Int32 × Int32 × Int32) (b_x4 : bl z8.2.1), lp_ (b_Model_write_8 K a1 t_drafted t_draft) n_8 z8 = some res → ∀ (H : Heap) (locs : List Loc) (ls : Array Slot), va_P (gD G) vwCl (w_Model_clear G qt qt_draft t_draft t_drafted qt_result t_result t_length t_arguments qt_kinds t_kinds qt_values t_values qt_widths t_widths qt_below t_below qt_sizes t_sizes qt_scales t_scales qt_parts t_parts qt_texts t_texts qt_lengths t_lengths t_end t_index t_flags t_twice t_width t_precision t_conversion t_broken qt_piece t_piece t_put t_head qt_tens t_tens t_count t_exponent qt_work t_work) H → va_D A (w_Model_clear G qt qt_draft t_draft t_drafted qt_result t_result t_length t_arguments qt_kinds t_kinds qt_values t_values qt_widths t_widths qt_below t_below qt_sizes t_sizes qt_scales t_scales qt_parts t_parts qt_texts t_texts qt_lengths t_lengths t_end t_index t_flags t_twice t_width t_precision t_conversion t_broken qt_piece t_piece t_put t_head qt_tens t_tens t_count t_exponent qt_work t_work) → va_S A s.heap H locs → lv_has ls 7 [(0, .ref qt), (1, .long a1), (3, .int z8.1), (4, .int z8.2.1), (5, .int z8.2.2)] → W p l e { frames := 0, cells := 0, slots := 0, locals := 0 } s m ([.ref qt, .long a1] : List Value).toArray below meth c H locs 0 0 Q (F0 m 8 ls []) := by
    intro t_drafted t_draft n_8
    induction n_8 with
    | zero =>
      intro z8 b_x4 hf
      cases hf
    | succ n_8 ih_8 =>
      intro z8 b_x4 hf H locs ls hP hD hS hl
      have hf : b_Model_write_8 K a1 t_drafted t_draft (lp_ (b_Model_write_8 K a1 t_drafted t_draft) n_8) z8 = some res := hf
      generalize lp_ (b_Model_write_8 K a1 t_drafted t_draft) n_8 = rec_8 at hf ih_8
      have W_59 : ∀ (x4 : Int32) (x5 : Int32) (k0 : Int32) (k1 : Int32) (b_x4 : bl x4) (b_k1 : bl k1), k_Model_write_59 rec_8 x4 x5 k0 k1 = some res → ∀ (H : Heap) (locs : List Loc) (ls : Array Slot), va_P (gD G) vwCl (w_Model_clear G qt qt_draft t_draft t_drafted qt_result t_result t_length t_arguments qt_kinds t_kinds qt_values t_values qt_widths t_widths qt_below t_below qt_sizes t_sizes qt_scales t_scales qt_parts t_parts qt_texts t_texts qt_lengths t_lengths t_end t_index t_flags t_twice t_width t_precision t_conversion t_broken qt_piece t_piece t_put t_head qt_tens t_tens t_count t_exponent qt_work t_work) H → va_D A (w_Model_clear G qt qt_draft t_draft t_drafted qt_result t_result t_length t_arguments qt_kinds t_kinds qt_values t_values qt_widths t_widths qt_below t_below qt_sizes t_sizes qt_scales t_scales qt_parts t_parts qt_texts t_texts qt_lengths t_lengths t_end t_index t_flags t_twice t_width t_precision t_conversion t_broken qt_piece t_piece t_put t_head qt_tens t_tens t_count t_exponent qt_work t_work) → va_S A s.heap H locs → lv_has ls 7 [(0, .ref qt), (1, .long a1), (4, .int x4), (5, .int x5)] → W p l e { frames := 0, cells := 0, slots := 0, locals := 0 } s m ([.ref qt, .long a1] : List Value).toArray below meth c H locs 0 0 Q (F0 m 59 ls [.int k1, .int k0]) := by
        intro x4 x5 k0 k1 b_x4 b_k1 hf H locs ls hP hD hS hl
        unfold k_Model_write_59 at hf
        refine lv_iadd hx hb d_Model_write_59 ?_
        refine lv_istore_n (lv' := [(3, .int (k0 + k1)), (0, .ref qt), (1, .long a1), (4, .int x4), (5, .int x5)]) hx hb d_Model_write_60 rfl hl (by decide) rfl (fun ls hl => ?_)
        refine lv_iinc (v := (x5 + 1)) (lv' := [(5, .int (x5 + 1)), (3, .int (k0 + k1)), (0, .ref qt), (1, .long a1), (4, .int x4)]) hx hb d_Model_write_61 hl (k := 4) rfl rfl (by decide) rfl (fun ls hl => ?_)
        refine lv_goto (tgt := 8) hx hb d_Model_write_64 (by decide) ?_
        exact ih_8 ((k0 + k1), x4, (x5 + 1)) b_x4 hf _ _ _ hP hD hS (lv_sub hl [2, 3, 1, 4, 0] rfl)
      have W_46 : ∀ (x3 : Int32) (x5 : Int32) (x6 : Int32) (k0 : Int32) (b_k0 : bl k0), k_Model_write_46 rec_8 x3 x5 x6 k0 = some res → ∀ (H : Heap) (locs : List Loc) (ls : Array Slot), va_P (gD G) vwCl (w_Model_clear G qt qt_draft t_draft t_drafted qt_result t_result t_length t_arguments qt_kinds t_kinds qt_values t_values qt_widths t_widths qt_below t_below qt_sizes t_sizes qt_scales t_scales qt_parts t_parts qt_texts t_texts qt_lengths t_lengths t_end t_index t_flags t_twice t_width t_precision t_conversion t_broken qt_piece t_piece t_put t_head qt_tens t_tens t_count t_exponent qt_work t_work) H → va_D A (w_Model_clear G qt qt_draft t_draft t_drafted qt_result t_result t_length t_arguments qt_kinds t_kinds qt_values t_values qt_widths t_widths qt_below t_below qt_sizes t_sizes qt_scales t_scales qt_parts t_parts qt_texts t_texts qt_lengths t_lengths t_end t_index t_flags t_twice t_width t_precision t_conversion t_broken qt_piece t_piece t_put t_head qt_tens t_tens t_count t_exponent qt_work t_work) → va_S A s.heap H locs → lv_has ls 7 [(0, .ref qt), (1, .long a1), (3, .int x3), (5, .int x5), (6, .int x6)] → W p l e { frames := 0, cells := 0, slots := 0, locals := 0 } s m ([.ref qt, .long a1] : List Value).toArray below meth c H locs 0 0 Q (F0 m 46 ls [.int k0]) := by
        intro x3 x5 x6 k0 b_k0 hf H locs ls hP hD hS hl
        unfold k_Model_write_46 at hf
        refine lv_istore (lv' := [(4, .int k0), (0, .ref qt), (1, .long a1), (3, .int x3), (5, .int x5), (6, .int x6)]) hx hb d_Model_write_46 hl (by decide) rfl (fun ls hl => ?_)
        refine lv_iload_n hx hb d_Model_write_48 rfl (lv_at hl 3 rfl) ?_
        refine lv_iload hx hb d_Model_write_49 (lv_at hl 5 rfl) ?_
        refine lv_if_le (tgt := 58) hx hb d_Model_write_51 (by decide) (fun c_51 => ?_) (fun c_51 => ?_)
        · have hf := ip_ c_51 hf
          refine lv_iconst (v := 0) hx hb d_Model_write_58 (by decide) ?_
          exact W_59 k0 x5 x3 (0 : Int32) b_k0 bl_0 hf _ _ _ hP hD hS (lv_sub hl [1, 2, 0, 4] rfl)
        · have hf := in_ c_51 hf
          refine lv_iconst (v := 1) hx hb d_Model_write_54 (by decide) ?_
          refine lv_goto (tgt := 59) hx hb d_Model_write_55 (by decide) ?_
          exact W_59 k0 x5 x3 (1 : Int32) b_k0 bl_1 hf _ _ _ hP hD hS (lv_sub hl [1, 2, 0, 4] rfl)
      have W_45 : ∀ (x3 : Int32) (x5 : Int32) (x6 : Int32) , k_Model_write_45 rec_8 x3 x5 x6 = some res → ∀ (H : Heap) (locs : List Loc) (ls : Array Slot), va_P (gD G) vwCl (w_Model_clear G qt qt_draft t_draft t_drafted qt_result t_result t_length t_arguments qt_kinds t_kinds qt_values t_values qt_widths t_widths qt_below t_below qt_sizes t_sizes qt_scales t_scales qt_parts t_parts qt_texts t_texts qt_lengths t_lengths t_end t_index t_flags t_twice t_width t_precision t_conversion t_broken qt_piece t_piece t_put t_head qt_tens t_tens t_count t_exponent qt_work t_work) H → va_D A (w_Model_clear G qt qt_draft t_draft t_drafted qt_result t_result t_length t_arguments qt_kinds t_kinds qt_values t_values qt_widths t_widths qt_below t_below qt_sizes t_sizes qt_scales t_scales qt_parts t_parts qt_texts t_texts qt_lengths t_lengths t_end t_index t_flags t_twice t_width t_precision t_conversion t_broken qt_piece t_piece t_put t_head qt_tens t_tens t_count t_exponent qt_work t_work) → va_S A s.heap H locs → lv_has ls 7 [(0, .ref qt), (1, .long a1), (3, .int x3), (5, .int x5), (6, .int x6)] → W p l e { frames := 0, cells := 0, slots := 0, locals := 0 } s m ([.ref qt, .long a1] : List Value).toArray below meth c H locs 0 0 Q (F0 m 45 ls []) := by
        intro x3 x5 x6  hf H locs ls hP hD hS hl
        unfold k_Model_write_45 at hf
        refine lv_iconst (v := 0) hx hb d_Model_write_45 (by decide) ?_
        exact W_46 x3 x5 x6 (0 : Int32) bl_0 hf _ _ _ hP hD hS (lv_sub hl [0, 1, 2, 3, 4] rfl)
      unfold b_Model_write_8 at hf
      refine lv_iload hx hb d_Model_write_8 (lv_at hl 4 rfl) ?_
      refine lv_bipush (v := 8) hx hb d_Model_write_10 (by decide) ?_
      refine lv_icmp_ge (tgt := 67) hx hb d_Model_write_12 (by decide) (fun c_12 => ?_) (fun c_12 => ?_)
      · have hf := ip_ c_12 hf
        refine lv_iload hx hb d_Model_write_67 (lv_at hl 3 rfl) ?_
        refine lv_if_eq (tgt := 84) hx hb d_Model_write_69 (by decide) (fun c_69 => ?_) (fun c_69 => ?_)
        · have hf := ip_ c_69 hf
          refine lv_iconst (v := 0) hx hb d_Model_write_84 (by decide) ?_
          obtain rfl := Option.some.inj hf
          rw [← hQ]
          exact W.zret (v := (0 : Int32)) hx hb hr (bl_n bl_0) (fun t9 ht hW => ⟨⟨(0 : Int32), (), rfl, ⟨rfl, bl_0⟩, ⟨by rw [ht]; exact hP, hD⟩⟩, hS.F ht⟩) hS.2.2 d_Model_write_85
        · have hf := in_ c_69 hf
          refine lv_aload_n hx hb d_Model_write_72 rfl (lv_at hl 0 rfl) ?_
          refine va_get (D := gD G) (ci := 7) (v := .int t_drafted) (C := R_Model) (T := F_Model) (N := 29) hx hb hg in_Model hown hK hP 0 rfl rfl 1 (by decide) (hg _ m_380) (fun _ h9 => h9) rfl d_Model_write_73 ?_
          refine lv_iload_n hx hb d_Model_write_76 rfl (lv_at hl 2 rfl) ?_
          refine lv_iadd hx hb d_Model_write_77 ?_
          refine lv_sipush (v := 400) hx hb d_Model_write_78 (by decide) ?_
          refine lv_icmp_le (tgt := 86) hx hb d_Model_write_81 (by decide) (fun c_81 => ?_) (fun c_81 => ?_)
          · have hf := ip_ c_81 hf
            refine lv_bipush (v := 7) hx hb d_Model_write_86 (by decide) ?_
            refine lv_istore (lv' := [(5, .int (7 : Int32)), (0, .ref qt), (1, .long a1), (3, .int z8.1), (4, .int z8.2.1)]) hx hb d_Model_write_88 hl (by decide) rfl (fun ls hl => ?_)
            exact W_90   K ((7 : Int32), t_drafted, t_draft)  hf _ _ _ hP hD hS (lv_sub hl [1, 2, 0] rfl)
          · have hf := in_ c_81 hf
            refine lv_iconst (v := 0) hx hb d_Model_write_84 (by decide) ?_
            obtain rfl := Option.some.inj hf
            rw [← hQ]
            exact W.zret (v := (0 : Int32)) hx hb hr (bl_n bl_0) (fun t9 ht hW => ⟨⟨(0 : Int32), (), rfl, ⟨rfl, bl_0⟩, ⟨by rw [ht]; exact hP, hD⟩⟩, hS.F ht⟩) hS.2.2 d_Model_write_85
      · have hf := in_ c_12 hf
        refine lv_lload_n hx hb d_Model_write_15 rfl (lv_at hl 1 rfl) ?_
        refine lv_bipush (v := 8) hx hb d_Model_write_16 (by decide) ?_
        refine lv_iload hx hb d_Model_write_18 (lv_at hl 4 rfl) ?_
        refine lv_imul hx hb d_Model_write_20 ?_
        refine lv_lshr (v := (a1 >>> (((8 : Int32) * z8.2.2).toInt64 &&& 63))) hx hb d_Model_write_21 rfl ?_
        refine lv_ldc2 (v := 255) hx hb hown (hg _ m_405) d_Model_write_22 ?_
        refine lv_land hx hb d_Model_write_25 ?_
        refine lv_l2i (v := ((a1 >>> (((8 : Int32) * z8.2.2).toInt64 &&& 63)) &&& (255 : Int64)).toInt32) hx hb d_Model_write_26 rfl ?_
        refine lv_istore (lv' := [(6, .int (((a1 >>> (((8 : Int32) * z8.2.2).toInt64 &&& 63)) &&& (255 : Int64)).toInt32)), (0, .ref qt), (1, .long a1), (3, .int z8.1), (4, .int z8.2.1), (5, .int z8.2.2)]) hx hb d_Model_write_27 hl (by decide) rfl (fun ls hl => ?_)
        refine lv_iload hx hb d_Model_write_29 (lv_at hl 4 rfl) ?_
        refine lv_if_eq (tgt := 45) hx hb d_Model_write_31 (by decide) (fun c_31 => ?_) (fun c_31 => ?_)
        · have hf := ip_ c_31 hf
          exact W_45 z8.1 z8.2.2 (((a1 >>> (((8 : Int32) * z8.2.2).toInt64 &&& 63)) &&& (255 : Int64)).toInt32)  hf _ _ _ hP hD hS (lv_sub hl [1, 2, 3, 5, 0] rfl)
        · have hf := in_ c_31 hf
          refine lv_iload hx hb d_Model_write_34 (lv_at hl 0 rfl) ?_
          refine lv_bipush (v := 127) hx hb d_Model_write_36 (by decide) ?_
          refine lv_icmp_ge (tgt := 45) hx hb d_Model_write_38 (by decide) (fun c_38 => ?_) (fun c_38 => ?_)
          · have hf := ip_ c_38 hf
            exact W_45 z8.1 z8.2.2 (((a1 >>> (((8 : Int32) * z8.2.2).toInt64 &&& 63)) &&& (255 : Int64)).toInt32)  hf _ _ _ hP hD hS (lv_sub hl [1, 2, 3, 5, 0] rfl)
          · have hf := in_ c_38 hf
            refine lv_iconst (v := 1) hx hb d_Model_write_41 (by decide) ?_
            refine lv_goto (tgt := 46) hx hb d_Model_write_42 (by decide) ?_
            exact W_46 z8.1 z8.2.2 (((a1 >>> (((8 : Int32) * z8.2.2).toInt64 &&& 63)) &&& (255 : Int64)).toInt32) (1 : Int32) bl_1 hf _ _ _ hP hD hS (lv_sub hl [1, 2, 3, 5, 0] rfl)
  unfold f_Model_write at hf
  refine lv_iconst (v := 0) hx hb d_Model_write_0 (by decide) ?_
  refine lv_istore_n (lv' := [(3, .int (0 : Int32)), (0, .ref qt), (1, .long a1)]) hx hb d_Model_write_1 rfl hl (by decide) rfl (fun ls hl => ?_)
  refine lv_iconst (v := 1) hx hb d_Model_write_2 (by decide) ?_
  refine lv_istore (lv' := [(4, .int (1 : Int32)), (3, .int (0 : Int32)), (0, .ref qt), (1, .long a1)]) hx hb d_Model_write_3 hl (by decide) rfl (fun ls hl => ?_)
  refine lv_iconst (v := 0) hx hb d_Model_write_5 (by decide) ?_
  refine lv_istore (lv' := [(5, .int (0 : Int32)), (4, .int (1 : Int32)), (3, .int (0 : Int32)), (0, .ref qt), (1, .long a1)]) hx hb d_Model_write_6 hl (by decide) rfl (fun ls hl => ?_)
  exact W_8 t_drafted t_draft  K ((0 : Int32), (1 : Int32), (0 : Int32)) bl_1 hf _ _ _ hP hD hS (lv_sub hl [3, 4, 2, 1, 0] rfl)
