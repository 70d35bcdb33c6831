theorem d_Model_spell_0 : decode cd_Model_spell 0 = .ok (.iconst 0, 1) := by decide +kernel
theorem d_Model_spell_1 : decode cd_Model_spell 1 = .ok (.istore_n 3, 1) := by decide +kernel
theorem d_Model_spell_2 : decode cd_Model_spell 2 = .ok (.iload_n 3, 1) := by decide +kernel
theorem d_Model_spell_3 : decode cd_Model_spell 3 = .ok (.bipush 32, 2) := by decide +kernel
theorem d_Model_spell_5 : decode cd_Model_spell 5 = .ok (.if_icmp .ge 26, 3) := by decide +kernel
theorem d_Model_spell_8 : decode cd_Model_spell 8 = .ok (.aload_n 0, 1) := by decide +kernel
theorem d_Model_spell_9 : decode cd_Model_spell 9 = .ok (.getfield 51, 3) := by decide +kernel
theorem d_Model_spell_12 : decode cd_Model_spell 12 = .ok (.iload_n 3, 1) := by decide +kernel
theorem d_Model_spell_13 : decode cd_Model_spell 13 = .ok (.aload_n 0, 1) := by decide +kernel
theorem d_Model_spell_14 : decode cd_Model_spell 14 = .ok (.getfield 30, 3) := by decide +kernel
theorem d_Model_spell_17 : decode cd_Model_spell 17 = .ok (.bipush 32, 2) := by decide +kernel
theorem d_Model_spell_19 : decode cd_Model_spell 19 = .ok (.iload_n 1, 1) := by decide +kernel
theorem d_Model_spell_20 : decode cd_Model_spell 20 = .ok (.imul, 1) := by decide +kernel
theorem d_Model_spell_21 : decode cd_Model_spell 21 = .ok (.iload_n 3, 1) := by decide +kernel
theorem d_Model_spell_22 : decode cd_Model_spell 22 = .ok (.iadd, 1) := by decide +kernel
theorem d_Model_spell_23 : decode cd_Model_spell 23 = .ok (.iaload, 1) := by decide +kernel
theorem d_Model_spell_24 : decode cd_Model_spell 24 = .ok (.iastore, 1) := by decide +kernel
theorem d_Model_spell_25 : decode cd_Model_spell 25 = .ok (.iinc 3 1, 3) := by decide +kernel
theorem d_Model_spell_28 : decode cd_Model_spell 28 = .ok (.goto (-26), 3) := by decide +kernel
theorem d_Model_spell_31 : decode cd_Model_spell 31 = .ok (.iconst 0, 1) := by decide +kernel
theorem d_Model_spell_32 : decode cd_Model_spell 32 = .ok (.istore_n 3, 1) := by decide +kernel
theorem d_Model_spell_33 : decode cd_Model_spell 33 = .ok (.iconst 1, 1) := by decide +kernel
theorem d_Model_spell_34 : decode cd_Model_spell 34 = .ok (.istore 4, 2) := by decide +kernel
theorem d_Model_spell_36 : decode cd_Model_spell 36 = .ok (.iload 4, 2) := by decide +kernel
theorem d_Model_spell_38 : decode cd_Model_spell 38 = .ok (.ifCond .eq 101, 3) := by decide +kernel
theorem d_Model_spell_41 : decode cd_Model_spell 41 = .ok (.iconst 0, 1) := by decide +kernel
theorem d_Model_spell_42 : decode cd_Model_spell 42 = .ok (.istore 4, 2) := by decide +kernel
theorem d_Model_spell_44 : decode cd_Model_spell 44 = .ok (.iconst 0, 1) := by decide +kernel
theorem d_Model_spell_45 : decode cd_Model_spell 45 = .ok (.istore 5, 2) := by decide +kernel
theorem d_Model_spell_47 : decode cd_Model_spell 47 = .ok (.bipush 31, 2) := by decide +kernel
theorem d_Model_spell_49 : decode cd_Model_spell 49 = .ok (.istore 6, 2) := by decide +kernel
theorem d_Model_spell_51 : decode cd_Model_spell 51 = .ok (.iload 6, 2) := by decide +kernel
theorem d_Model_spell_53 : decode cd_Model_spell 53 = .ok (.ifCond .lt 63, 3) := by decide +kernel
theorem d_Model_spell_56 : decode cd_Model_spell 56 = .ok (.iload 4, 2) := by decide +kernel
theorem d_Model_spell_58 : decode cd_Model_spell 58 = .ok (.ifCond .ne 13, 3) := by decide +kernel
theorem d_Model_spell_61 : decode cd_Model_spell 61 = .ok (.aload_n 0, 1) := by decide +kernel
theorem d_Model_spell_62 : decode cd_Model_spell 62 = .ok (.getfield 51, 3) := by decide +kernel
theorem d_Model_spell_65 : decode cd_Model_spell 65 = .ok (.iload 6, 2) := by decide +kernel
theorem d_Model_spell_67 : decode cd_Model_spell 67 = .ok (.iaload, 1) := by decide +kernel
theorem d_Model_spell_68 : decode cd_Model_spell 68 = .ok (.ifCond .eq 7, 3) := by decide +kernel
theorem d_Model_spell_71 : decode cd_Model_spell 71 = .ok (.iconst 1, 1) := by decide +kernel
theorem d_Model_spell_72 : decode cd_Model_spell 72 = .ok (.goto 4, 3) := by decide +kernel
theorem d_Model_spell_75 : decode cd_Model_spell 75 = .ok (.iconst 0, 1) := by decide +kernel
theorem d_Model_spell_76 : decode cd_Model_spell 76 = .ok (.istore 4, 2) := by decide +kernel
theorem d_Model_spell_78 : decode cd_Model_spell 78 = .ok (.iload 5, 2) := by decide +kernel
theorem d_Model_spell_80 : decode cd_Model_spell 80 = .ok (.bipush 16, 2) := by decide +kernel
theorem d_Model_spell_82 : decode cd_Model_spell 82 = .ok (.ishl, 1) := by decide +kernel
theorem d_Model_spell_83 : decode cd_Model_spell 83 = .ok (.aload_n 0, 1) := by decide +kernel
theorem d_Model_spell_84 : decode cd_Model_spell 84 = .ok (.getfield 51, 3) := by decide +kernel
theorem d_Model_spell_87 : decode cd_Model_spell 87 = .ok (.iload 6, 2) := by decide +kernel
theorem d_Model_spell_89 : decode cd_Model_spell 89 = .ok (.iaload, 1) := by decide +kernel
theorem d_Model_spell_90 : decode cd_Model_spell 90 = .ok (.ior, 1) := by decide +kernel
theorem d_Model_spell_91 : decode cd_Model_spell 91 = .ok (.istore 7, 2) := by decide +kernel
theorem d_Model_spell_93 : decode cd_Model_spell 93 = .ok (.aload_n 0, 1) := by decide +kernel
theorem d_Model_spell_94 : decode cd_Model_spell 94 = .ok (.getfield 51, 3) := by decide +kernel
theorem d_Model_spell_97 : decode cd_Model_spell 97 = .ok (.iload 6, 2) := by decide +kernel
theorem d_Model_spell_99 : decode cd_Model_spell 99 = .ok (.iload 7, 2) := by decide +kernel
theorem d_Model_spell_101 : decode cd_Model_spell 101 = .ok (.iload_n 2, 1) := by decide +kernel
theorem d_Model_spell_102 : decode cd_Model_spell 102 = .ok (.idiv, 1) := by decide +kernel
theorem d_Model_spell_103 : decode cd_Model_spell 103 = .ok (.iastore, 1) := by decide +kernel
theorem d_Model_spell_104 : decode cd_Model_spell 104 = .ok (.iload 7, 2) := by decide +kernel
theorem d_Model_spell_106 : decode cd_Model_spell 106 = .ok (.iload_n 2, 1) := by decide +kernel
theorem d_Model_spell_107 : decode cd_Model_spell 107 = .ok (.irem, 1) := by decide +kernel
theorem d_Model_spell_108 : decode cd_Model_spell 108 = .ok (.istore 5, 2) := by decide +kernel
theorem d_Model_spell_110 : decode cd_Model_spell 110 = .ok (.iinc 6 (-1), 3) := by decide +kernel
theorem d_Model_spell_113 : decode cd_Model_spell 113 = .ok (.goto (-62), 3) := by decide +kernel
theorem d_Model_spell_116 : decode cd_Model_spell 116 = .ok (.iload 4, 2) := by decide +kernel
theorem d_Model_spell_118 : decode cd_Model_spell 118 = .ok (.ifCond .eq 18, 3) := by decide +kernel
theorem d_Model_spell_121 : decode cd_Model_spell 121 = .ok (.aload_n 0, 1) := by decide +kernel
theorem d_Model_spell_122 : decode cd_Model_spell 122 = .ok (.getfield 48, 3) := by decide +kernel
theorem d_Model_spell_125 : decode cd_Model_spell 125 = .ok (.sipush 1199, 3) := by decide +kernel
theorem d_Model_spell_128 : decode cd_Model_spell 128 = .ok (.iload_n 3, 1) := by decide +kernel
theorem d_Model_spell_129 : decode cd_Model_spell 129 = .ok (.isub, 1) := by decide +kernel
theorem d_Model_spell_130 : decode cd_Model_spell 130 = .ok (.iload 5, 2) := by decide +kernel
theorem d_Model_spell_132 : decode cd_Model_spell 132 = .ok (.iastore, 1) := by decide +kernel
theorem d_Model_spell_133 : decode cd_Model_spell 133 = .ok (.iinc 3 1, 3) := by decide +kernel
theorem d_Model_spell_136 : decode cd_Model_spell 136 = .ok (.goto (-100), 3) := by decide +kernel
theorem d_Model_spell_139 : decode cd_Model_spell 139 = .ok (.aload_n 0, 1) := by decide +kernel
theorem d_Model_spell_140 : decode cd_Model_spell 140 = .ok (.iload_n 3, 1) := by decide +kernel
theorem d_Model_spell_141 : decode cd_Model_spell 141 = .ok (.putfield 143, 3) := by decide +kernel
theorem d_Model_spell_144 : decode cd_Model_spell 144 = .ok (.iconst 0, 1) := by decide +kernel
theorem d_Model_spell_145 : decode cd_Model_spell 145 = .ok (.istore 5, 2) := by decide +kernel
theorem d_Model_spell_147 : decode cd_Model_spell 147 = .ok (.iload 5, 2) := by decide +kernel
theorem d_Model_spell_149 : decode cd_Model_spell 149 = .ok (.iload_n 3, 1) := by decide +kernel
theorem d_Model_spell_150 : decode cd_Model_spell 150 = .ok (.if_icmp .ge 29, 3) := by decide +kernel
theorem d_Model_spell_153 : decode cd_Model_spell 153 = .ok (.aload_n 0, 1) := by decide +kernel
theorem d_Model_spell_154 : decode cd_Model_spell 154 = .ok (.getfield 48, 3) := by decide +kernel
theorem d_Model_spell_157 : decode cd_Model_spell 157 = .ok (.iload 5, 2) := by decide +kernel
theorem d_Model_spell_159 : decode cd_Model_spell 159 = .ok (.aload_n 0, 1) := by decide +kernel
theorem d_Model_spell_160 : decode cd_Model_spell 160 = .ok (.getfield 48, 3) := by decide +kernel
theorem d_Model_spell_163 : decode cd_Model_spell 163 = .ok (.sipush 1200, 3) := by decide +kernel
theorem d_Model_spell_166 : decode cd_Model_spell 166 = .ok (.iload_n 3, 1) := by decide +kernel
theorem d_Model_spell_167 : decode cd_Model_spell 167 = .ok (.isub, 1) := by decide +kernel
theorem d_Model_spell_168 : decode cd_Model_spell 168 = .ok (.iload 5, 2) := by decide +kernel
theorem d_Model_spell_170 : decode cd_Model_spell 170 = .ok (.iadd, 1) := by decide +kernel
theorem d_Model_spell_171 : decode cd_Model_spell 171 = .ok (.iaload, 1) := by decide +kernel
theorem d_Model_spell_172 : decode cd_Model_spell 172 = .ok (.iastore, 1) := by decide +kernel
theorem d_Model_spell_173 : decode cd_Model_spell 173 = .ok (.iinc 5 1, 3) := by decide +kernel
theorem d_Model_spell_176 : decode cd_Model_spell 176 = .ok (.goto (-29), 3) := by decide +kernel
theorem d_Model_spell_179 : decode cd_Model_spell 179 = .ok (.return_, 1) := by decide +kernel
theorem m_457 : Cond.fieldLink R_Model 51 "SpecifierDeskModel" "work" "[I" ∈ gw := gm (i := 888) (by decide +kernel) (by decide +kernel)
theorem m_458 : Cond.fieldLink R_Model 143 "SpecifierDeskModel" "count" "I" ∈ gw := gm (i := 886) (by decide +kernel) (by decide +kernel)
theorem m_459 : Cond.fieldLink R_Model 48 "SpecifierDeskModel" "tens" "[I" ∈ gw := gm (i := 885) (by decide +kernel) (by decide +kernel)
def b_Model_spell_147  (x3 : Int32) (t_count : Int32) (t_work : (Nat → Int32)) (rec_147 : (Int32 × (Nat → Int32)) → Option (Int32 × (Nat → Int32) × (Nat → Int32))) (z147 : Int32 × (Nat → Int32)) : Option (Int32 × (Nat → Int32) × (Nat → Int32)) :=
  (if x3 ≤ z147.1 then some (t_count, z147.2, t_work) else (if inB (((1200 : Int32) - x3) + z147.1) 1200 = true then (if inB z147.1 1200 = true then rec_147 ((z147.1 + 1), (upd z147.2 z147.1.toNatClampNeg (z147.2 (((1200 : Int32) - x3) + z147.1).toNatClampNeg))) else none) else none))
def k_Model_spell_136 (rec_36 : (Int32 × Int32 × (Nat → Int32) × (Nat → Int32)) → Option (Int32 × (Nat → Int32) × (Nat → Int32))) (x3 : Int32) (x4 : Int32) (t_tens : (Nat → Int32)) (t_work : (Nat → Int32)) : Option (Int32 × (Nat → Int32) × (Nat → Int32)) :=
  rec_36 (x3, x4, t_tens, t_work)
def k_Model_spell_76 (a2 : Int32) (rec_51 : (Int32 × Int32 × Int32 × (Nat → Int32)) → Option (Int32 × (Nat → Int32) × (Nat → Int32))) (x5 : Int32) (x6 : Int32) (k0 : Int32) (t_work : (Nat → Int32)) : Option (Int32 × (Nat → Int32) × (Nat → Int32)) :=
  (if inB x6 32 = true then (if a2 = 0 then none else (if inB x6 32 = true then (if a2 = 0 then none else rec_51 (k0, (((x5 <<< ((16 : Int32) &&& 31)) ||| (t_work x6.toNatClampNeg)) - ((x5 <<< ((16 : Int32) &&& 31)) ||| (t_work x6.toNatClampNeg)) / a2 * a2), (x6 + (-1)), (upd t_work x6.toNatClampNeg (((x5 <<< ((16 : Int32) &&& 31)) ||| (t_work x6.toNatClampNeg)) / a2)))) else none)) else none)
def k_Model_spell_71 (a2 : Int32) (rec_51 : (Int32 × Int32 × Int32 × (Nat → Int32)) → Option (Int32 × (Nat → Int32) × (Nat → Int32))) (x5 : Int32) (x6 : Int32) (t_work : (Nat → Int32)) : Option (Int32 × (Nat → Int32) × (Nat → Int32)) :=
  k_Model_spell_76 a2 rec_51 x5 x6 (1 : Int32) t_work
def b_Model_spell_51 (a2 : Int32) (rec_36 : (Int32 × Int32 × (Nat → Int32) × (Nat → Int32)) → Option (Int32 × (Nat → Int32) × (Nat → Int32))) (x3 : Int32) (t_tens : (Nat → Int32)) (rec_51 : (Int32 × Int32 × Int32 × (Nat → Int32)) → Option (Int32 × (Nat → Int32) × (Nat → Int32))) (z51 : Int32 × Int32 × Int32 × (Nat → Int32)) : Option (Int32 × (Nat → Int32) × (Nat → Int32)) :=
  (if z51.2.2.1 < 0 then (if z51.1 = 0 then k_Model_spell_136 rec_36 x3 z51.1 t_tens z51.2.2.2 else (if inB ((1199 : Int32) - x3) 1200 = true then k_Model_spell_136 rec_36 (x3 + 1) z51.1 (upd t_tens ((1199 : Int32) - x3).toNatClampNeg z51.2.1) z51.2.2.2 else none)) else (if z51.1 = 0 then (if inB z51.2.2.1 32 = true then (if (z51.2.2.2 z51.2.2.1.toNatClampNeg) = 0 then k_Model_spell_76 a2 rec_51 z51.2.1 z51.2.2.1 (0 : Int32) z51.2.2.2 else k_Model_spell_71 a2 rec_51 z51.2.1 z51.2.2.1 z51.2.2.2) else none) else k_Model_spell_71 a2 rec_51 z51.2.1 z51.2.2.1 z51.2.2.2))
def b_Model_spell_36 (K : Nat) (a2 : Int32) (t_count : Int32) (rec_36 : (Int32 × Int32 × (Nat → Int32) × (Nat → Int32)) → Option (Int32 × (Nat → Int32) × (Nat → Int32))) (z36 : Int32 × Int32 × (Nat → Int32) × (Nat → Int32)) : Option (Int32 × (Nat → Int32) × (Nat → Int32)) :=
  (if z36.2.1 = 0 then lp_ (b_Model_spell_147  z36.1 z36.1 z36.2.2.2) K ((0 : Int32), z36.2.2.1) else lp_ (b_Model_spell_51 a2 rec_36 z36.1 z36.2.2.1) K ((0 : Int32), (0 : Int32), (31 : Int32), z36.2.2.2))
def b_Model_spell_2 (K : Nat) (t_sizes : Nat → Int32) (a1 : Int32) (a2 : Int32) (t_count : Int32) (t_tens : (Nat → Int32)) (rec_2 : (Int32 × (Nat → Int32)) → Option (Int32 × (Nat → Int32) × (Nat → Int32))) (z2 : Int32 × (Nat → Int32)) : Option (Int32 × (Nat → Int32) × (Nat → Int32)) :=
  (if (32 : Int32) ≤ z2.1 then lp_ (b_Model_spell_36 K a2 t_count) K ((0 : Int32), (1 : Int32), t_tens, z2.2) else (if inB (((32 : Int32) * a1) + z2.1) 384 = true then (if inB z2.1 32 = true then rec_2 ((z2.1 + 1), (upd z2.2 z2.1.toNatClampNeg (t_sizes (((32 : Int32) * a1) + z2.1).toNatClampNeg))) else none) else none))
def f_Model_spell (K : Nat) (t_sizes : Nat → Int32) (t_tens : Nat → Int32) (t_count : Int32) (t_work : Nat → Int32) (a1 : Int32) (a2 : Int32) : Option (Int32 × (Nat → Int32) × (Nat → Int32)) :=
  lp_ (b_Model_spell_2 K t_sizes a1 a2 t_count t_tens) K ((0 : Int32), t_work)
set_option maxHeartbeats 4000000 in
set_option maxRecDepth 100000 in
theorem c_Model_spell (l : Launch) (G : Gt) (K : Nat) (qt : Nat) (qt_draft : Nat) (t_draft : Nat → Int32) (t_drafted : Int32) (qt_result : Nat) (t_result : Nat → Int32) (t_length : Int32) (t_arguments : Int32) (qt_kinds : Nat) (t_kinds : Nat → Int32) (qt_values : Nat) (t_values : Nat → Int64) (qt_widths : Nat) (t_widths : Nat → Int32) (qt_below : Nat) (t_below : Nat → Int32) (qt_sizes : Nat) (t_sizes : Nat → Int32) (qt_scales : Nat) (t_scales : Nat → Int32) (qt_parts : Nat) (t_parts : Nat → Int64) (qt_texts : Nat) (t_texts : Nat → Int32) (qt_lengths : Nat) (t_lengths : Nat → Int32) (t_end : Int32) (t_index : Int32) (t_flags : Int32) (t_twice : Int32) (t_width : Int32) (t_precision : Int32) (t_conversion : Int32) (t_broken : Int32) (qt_piece : Nat) (t_piece : Nat → Int32) (t_put : Int32) (t_head : Int32) (qt_tens : Nat) (t_tens : Nat → Int32) (t_count : Int32) (t_exponent : Int32) (qt_work : Nat) (t_work : Nat → Int32) (a1 : Int32) (a2 : Int32) (sz : Nat) (res : Int32 × (Nat → Int32) × (Nat → Int32))   (hf : f_Model_spell K t_sizes t_tens t_count t_work a1 a2 = some res) : Met l y_Model_spell (.code y_Model_spell cd_Model_spell 8 none :: gw) { frames := 0, cells := 0, slots := 0, locals := 0 } (PC G ([.ref qt, .int a1, .int a2] : List Value) sz (w_Model_clear G qt qt_draft t_draft t_drafted qt_result t_result t_length t_arguments qt_kinds t_kinds qt_values t_values qt_widths t_widths qt_below t_below qt_sizes t_sizes qt_scales t_scales qt_parts t_parts qt_texts t_texts qt_lengths t_lengths t_end t_index t_flags t_twice t_width t_precision t_conversion t_broken qt_piece t_piece t_put t_head qt_tens t_tens t_count t_exponent qt_work t_work)) (QV G (va_A (w_Model_clear G qt qt_draft t_draft t_drafted qt_result t_result t_length t_arguments qt_kinds t_kinds qt_values t_values qt_widths t_widths qt_below t_below qt_sizes t_sizes qt_scales t_scales qt_parts t_parts qt_texts t_texts qt_lengths t_lengths t_end t_index t_flags t_twice t_width t_precision t_conversion t_broken qt_piece t_piece t_put t_head qt_tens t_tens t_count t_exponent qt_work t_work) sz) (w_Model_clear G qt qt_draft t_draft t_drafted qt_result t_result t_length t_arguments qt_kinds t_kinds qt_values t_values qt_widths t_widths qt_below t_below qt_sizes t_sizes qt_scales t_scales qt_parts t_parts qt_texts t_texts qt_lengths t_lengths t_end t_index t_flags t_twice t_width t_precision t_conversion t_broken qt_piece t_piece t_put t_head qt_tens res.2.1 res.1 t_exponent qt_work res.2.2)) 0 0 (va_A (w_Model_clear G qt qt_draft t_draft t_drafted qt_result t_result t_length t_arguments qt_kinds t_kinds qt_values t_values qt_widths t_widths qt_below t_below qt_sizes t_sizes qt_scales t_scales qt_parts t_parts qt_texts t_texts qt_lengths t_lengths t_end t_index t_flags t_twice t_width t_precision t_conversion t_broken qt_piece t_piece t_put t_head qt_tens t_tens t_count t_exponent qt_work t_work) sz) := by
  refine Met.ofW (cc := cd_Model_spell) (maxL := 8) (ret := none) (by decide) rfl ?_
  intro p e s m args below meth c s₁ B hml hv
  obtain ⟨rfl, hsz, hP, hE, hD0⟩ := hv
  have hx := B.exec
  have hb := B.bytes
  have hr := B.returns
  have hts := atoms_spec (ws := (.code y_Model_spell cd_Model_spell 8 none :: gw)) B.pre
  have hg : ∀ w ∈ gw, w.before _ s = true := fun w h => hts w (List.mem_cons_of_mem _ h)
  have hown : s.vm.findClass R_Model = some m.cls := findClass_of_methodNamed B.named
  have hlocks := B.notSynchronized
  subst hsz
  have hK := hE.K
  have hD := hD0.self (sz := s.heap.size)
  have hAb := hE.ab hD0
  obtain ⟨Q, hQ⟩ : ∃ Q, MQ below (QV G (va_A (w_Model_clear G qt qt_draft t_draft t_drafted qt_result t_result t_length t_arguments qt_kinds t_kinds qt_values t_values qt_widths t_widths qt_below t_below qt_sizes t_sizes qt_scales t_scales qt_parts t_parts qt_texts t_texts qt_lengths t_lengths t_end t_index t_flags t_twice t_width t_precision t_conversion t_broken qt_piece t_piece t_put t_head qt_tens t_tens t_count t_exponent qt_work t_work) s.heap.size) (w_Model_clear G qt qt_draft t_draft t_drafted qt_result t_result t_length t_arguments qt_kinds t_kinds qt_values t_values qt_widths t_widths qt_below t_below qt_sizes t_sizes qt_scales t_scales qt_parts t_parts qt_texts t_texts qt_lengths t_lengths t_end t_index t_flags t_twice t_width t_precision t_conversion t_broken qt_piece t_piece t_put t_head qt_tens res.2.1 res.1 t_exponent qt_work res.2.2)) ([.ref qt, .int a1, .int a2] : List Value).toArray s 0 0 (va_A (w_Model_clear G qt qt_draft t_draft t_drafted qt_result t_result t_length t_arguments qt_kinds t_kinds qt_values t_values qt_widths t_widths qt_below t_below qt_sizes t_sizes qt_scales t_scales qt_parts t_parts qt_texts t_texts qt_lengths t_lengths t_end t_index t_flags t_twice t_width t_precision t_conversion t_broken qt_piece t_piece t_put t_head qt_tens t_tens t_count t_exponent qt_work t_work) s.heap.size) = Q := ⟨_, rfl⟩
  show W p l e { frames := 0, cells := 0, slots := 0, locals := 0 } s m ([.ref qt, .int a1, .int a2] : List Value).toArray below meth c s.heap [] 0 0 (MQ below (QV G (va_A (w_Model_clear G qt qt_draft t_draft t_drafted qt_result t_result t_length t_arguments qt_kinds t_kinds qt_values t_values qt_widths t_widths qt_below t_below qt_sizes t_sizes qt_scales t_scales qt_parts t_parts qt_texts t_texts qt_lengths t_lengths t_end t_index t_flags t_twice t_width t_precision t_conversion t_broken qt_piece t_piece t_put t_head qt_tens t_tens t_count t_exponent qt_work t_work) s.heap.size) (w_Model_clear G qt qt_draft t_draft t_drafted qt_result t_result t_length t_arguments qt_kinds t_kinds qt_values t_values qt_widths t_widths qt_below t_below qt_sizes t_sizes qt_scales t_scales qt_parts t_parts qt_texts t_texts qt_lengths t_lengths t_end t_index t_flags t_twice t_width t_precision t_conversion t_broken qt_piece t_piece t_put t_head qt_tens res.2.1 res.1 t_exponent qt_work res.2.2)) ([.ref qt, .int a1, .int a2] : List Value).toArray s 0 0 (va_A (w_Model_clear G qt qt_draft t_draft t_drafted qt_result t_result t_length t_arguments qt_kinds t_kinds qt_values t_values qt_widths t_widths qt_below t_below qt_sizes t_sizes qt_scales t_scales qt_parts t_parts qt_texts t_texts qt_lengths t_lengths t_end t_index t_flags t_twice t_width t_precision t_conversion t_broken qt_piece t_piece t_put t_head qt_tens t_tens t_count t_exponent qt_work t_work) s.heap.size)) _
  rw [hQ]
  have hA : ∀ q : Nat, s.heap.size ≤ q → va_A (w_Model_clear G qt qt_draft t_draft t_drafted qt_result t_result t_length t_arguments qt_kinds t_kinds qt_values t_values qt_widths t_widths qt_below t_below qt_sizes t_sizes qt_scales t_scales qt_parts t_parts qt_texts t_texts qt_lengths t_lengths t_end t_index t_flags t_twice t_width t_precision t_conversion t_broken qt_piece t_piece t_put t_head qt_tens t_tens t_count t_exponent qt_work t_work) s.heap.size q := fun q h => Or.inr h
  obtain ⟨A, hAe⟩ : ∃ A, va_A (w_Model_clear G qt qt_draft t_draft t_drafted qt_result t_result t_length t_arguments qt_kinds t_kinds qt_values t_values qt_widths t_widths qt_below t_below qt_sizes t_sizes qt_scales t_scales qt_parts t_parts qt_texts t_texts qt_lengths t_lengths t_end t_index t_flags t_twice t_width t_precision t_conversion t_broken qt_piece t_piece t_put t_head qt_tens t_tens t_count t_exponent qt_work t_work) s.heap.size = A := ⟨_, rfl⟩
  rw [hAe] at hA hD hAb hQ
  have hS : va_S A s.heap s.heap [] := va_S.rf
  have hl := lv_entry (([.ref qt, .int a1, .int a2] : List Value)) (n := 8) (Nat.le_of_ble_eq_true rfl)
  rw [lg_entry_eq]
  generalize (lg_sl (([.ref qt, .int a1, .int a2] : List Value)) ++ List.replicate (8 - (lg_sl (([.ref qt, .int a1, .int a2] : List Value))).length) Slot.unset).toArray = ls at hl ⊢
  have hl : lv_has ls 8 [(0, .ref qt), (1, .int a1), (2, .int a2)] := hl
  have W_147 : ∀ (x3 : Int32) (t_count : Int32) (t_work : (Nat → Int32))  (n_147 : Nat) (z147 : Int32 × (Nat → Int32)) , lp_ (b_Model_spell_147  x3 t_count t_work) n_147 z147 = some res → ∀ (H : Heap) (locs : List Loc) (ls : Array Slot), va_P (gD G) vwCl (w_Model_clear G qt qt_draft t_draft t_drafted qt_result t_result t_length t_arguments qt_kinds t_kinds qt_values t_values qt_widths t_widths qt_below t_below qt_sizes t_sizes qt_scales t_scales qt_parts t_parts qt_texts t_texts qt_lengths t_lengths t_end t_index t_flags t_twice t_width t_precision t_conversion t_broken qt_piece t_piece t_put t_head qt_tens z147.2 t_count t_exponent qt_work t_work) H → va_D A (w_Model_clear G qt qt_draft t_draft t_drafted qt_result t_result t_length t_arguments qt_kinds t_kinds qt_values t_values qt_widths t_widths qt_below t_below qt_sizes t_sizes qt_scales t_scales qt_parts t_parts qt_texts t_texts qt_lengths t_lengths t_end t_index t_flags t_twice t_width t_precision t_conversion t_broken qt_piece t_piece t_put t_head qt_tens z147.2 t_count t_exponent qt_work t_work) → va_S A s.heap H locs → lv_has ls 8 [(0, .ref qt), (3, .int x3), (5, .int z147.1)] → W p l e { frames := 0, cells := 0, slots := 0, locals := 0 } s m ([.ref qt, .int a1, .int a2] : List Value).toArray below meth c H locs 0 0 Q (F0 m 147 ls []) := by
    intro x3 t_count t_work n_147
    induction n_147 with
    | zero =>
      intro z147  hf
      cases hf
    | succ n_147 ih_147 =>
      intro z147  hf H locs ls hP hD hS hl
      have hf : b_Model_spell_147  x3 t_count t_work (lp_ (b_Model_spell_147  x3 t_count t_work) n_147) z147 = some res := hf
      generalize lp_ (b_Model_spell_147  x3 t_count t_work) n_147 = rec_147 at hf ih_147
      unfold b_Model_spell_147 at hf
      refine lv_iload hx hb d_Model_spell_147 (lv_at hl 2 rfl) ?_
      refine lv_iload_n hx hb d_Model_spell_149 rfl (lv_at hl 1 rfl) ?_
      refine lv_icmp_ge (tgt := 179) hx hb d_Model_spell_150 (by decide) (fun c_150 => ?_) (fun c_150 => ?_)
      · have hf := ip_ c_150 hf
        obtain rfl := Option.some.inj hf
        rw [← hQ]
        exact W.vret hx hb hr (fun t9 ht hW => ⟨⟨(), rfl, trivial, ⟨by rw [ht]; exact hP, hD⟩⟩, hS.F ht⟩) hS.2.2 d_Model_spell_179
      · have hf := in_ c_150 hf
        refine lv_aload_n hx hb d_Model_spell_153 rfl (lv_at hl 0 rfl) ?_
        refine va_get (D := gD G) (ci := 7) (v := .ref qt_tens) (C := R_Model) (T := F_Model) (N := 29) hx hb hg in_Model hown hK hP 0 rfl rfl 25 (by decide) (hg _ m_459) (fun _ h9 => h9) rfl d_Model_spell_154 ?_
        refine lv_iload hx hb d_Model_spell_157 (lv_at hl 2 rfl) ?_
        refine lv_aload_n hx hb d_Model_spell_159 rfl (lv_at hl 0 rfl) ?_
        refine va_get (D := gD G) (ci := 7) (v := .ref qt_tens) (C := R_Model) (T := F_Model) (N := 29) hx hb hg in_Model hown hK hP 0 rfl rfl 25 (by decide) (hg _ m_459) (fun _ h9 => h9) rfl d_Model_spell_160 ?_
        refine lv_sipush (v := 1200) hx hb d_Model_spell_163 (by decide) ?_
        refine lv_iload_n hx hb d_Model_spell_166 rfl (lv_at hl 1 rfl) ?_
        refine lv_isub hx hb d_Model_spell_167 ?_
        refine lv_iload hx hb d_Model_spell_168 (lv_at hl 2 rfl) ?_
        refine lv_iadd hx hb d_Model_spell_170 ?_
        obtain ⟨g_171, hf⟩ := gd_ hf
        refine va_iald hx hb hK hP 13 1 rfl rfl (inB_in g_171) d_Model_spell_171 ?_
        obtain ⟨g_172, hf⟩ := gd_ hf
        refine va_iast hx hb hK hP hD hS 13 1 rfl rfl (inB_in g_172) d_Model_spell_172 (fun H locs hP hD hS => ?_)
        have hP : va_P (gD G) vwCl (w_Model_clear G qt qt_draft t_draft t_drafted qt_result t_result t_length t_arguments qt_kinds t_kinds qt_values t_values qt_widths t_widths qt_below t_below qt_sizes t_sizes qt_scales t_scales qt_parts t_parts qt_texts t_texts qt_lengths t_lengths t_end t_index t_flags t_twice t_width t_precision t_conversion t_broken qt_piece t_piece t_put t_head qt_tens (upd z147.2 z147.1.toNatClampNeg (z147.2 (((1200 : Int32) - x3) + z147.1).toNatClampNeg)) t_count t_exponent qt_work t_work) H := hP
        have hD : va_D A (w_Model_clear G qt qt_draft t_draft t_drafted qt_result t_result t_length t_arguments qt_kinds t_kinds qt_values t_values qt_widths t_widths qt_below t_below qt_sizes t_sizes qt_scales t_scales qt_parts t_parts qt_texts t_texts qt_lengths t_lengths t_end t_index t_flags t_twice t_width t_precision t_conversion t_broken qt_piece t_piece t_put t_head qt_tens (upd z147.2 z147.1.toNatClampNeg (z147.2 (((1200 : Int32) - x3) + z147.1).toNatClampNeg)) t_count t_exponent qt_work t_work) := hD
        refine lv_iinc (v := (z147.1 + 1)) (lv' := [(5, .int (z147.1 + 1)), (0, .ref qt), (3, .int x3)]) hx hb d_Model_spell_173 hl (k := 2) rfl rfl (by decide) rfl (fun ls hl => ?_)
        refine lv_goto (tgt := 147) hx hb d_Model_spell_176 (by decide) ?_
        exact ih_147 ((z147.1 + 1), (upd z147.2 z147.1.toNatClampNeg (z147.2 (((1200 : Int32) - x3) + z147.1).toNatClampNeg)))  hf _ _ _ hP hD hS (lv_sub hl [1, 2, 0] rfl)
  have W_36 : ∀ (t_count : Int32)  (n_36 : Nat) (z36 : Int32 × Int32 × (Nat → Int32) × (Nat → Int32)) (b_x4 : bl z36.2.1), lp_ (b_Model_spell_36 K a2 t_count) n_36 z36 = some res → ∀ (H : Heap) (locs : List Loc) (ls : Array Slot), va_P (gD G) vwCl (w_Model_clear G qt qt_draft t_draft t_drafted qt_result t_result t_length t_arguments qt_kinds t_kinds qt_values t_values qt_widths t_widths qt_below t_below qt_sizes t_sizes qt_scales t_scales qt_parts t_parts qt_texts t_texts qt_lengths t_lengths t_end t_index t_flags t_twice t_width t_precision t_conversion t_broken qt_piece t_piece t_put t_head qt_tens z36.2.2.1 t_count t_exponent qt_work z36.2.2.2) H → va_D A (w_Model_clear G qt qt_draft t_draft t_drafted qt_result t_result t_length t_arguments qt_kinds t_kinds qt_values t_values qt_widths t_widths qt_below t_below qt_sizes t_sizes qt_scales t_scales qt_parts t_parts qt_texts t_texts qt_lengths t_lengths t_end t_index t_flags t_twice t_width t_precision t_conversion t_broken qt_piece t_piece t_put t_head qt_tens z36.2.2.1 t_count t_exponent qt_work z36.2.2.2) → va_S A s.heap H locs → lv_has ls 8 [(0, .ref qt), (2, .int a2), (3, .int z36.1), (4, .int z36.2.1)] → W p l e { frames := 0, cells := 0, slots := 0, locals := 0 } s m ([.ref qt, .int a1, .int a2] : List Value).toArray below meth c H locs 0 0 Q (F0 m 36 ls []) := by
    intro t_count n_36
    induction n_36 with
    | zero =>
      intro z36 b_x4 hf
      cases hf
    | succ n_36 ih_36 =>
      intro z36 b_x4 hf H locs ls hP hD hS hl
      have hf : b_Model_spell_36 K a2 t_count (lp_ (b_Model_spell_36 K a2 t_count) n_36) z36 = some res := hf
      generalize lp_ (b_Model_spell_36 K a2 t_count) n_36 = rec_36 at hf ih_36
      have W_136 : ∀ (x3 : Int32) (x4 : Int32) (t_tens : (Nat → Int32)) (t_work : (Nat → Int32)) (b_x4 : bl x4), k_Model_spell_136 rec_36 x3 x4 t_tens t_work = some res → ∀ (H : Heap) (locs : List Loc) (ls : Array Slot), va_P (gD G) vwCl (w_Model_clear G qt qt_draft t_draft t_drafted qt_result t_result t_length t_arguments qt_kinds t_kinds qt_values t_values qt_widths t_widths qt_below t_below qt_sizes t_sizes qt_scales t_scales qt_parts t_parts qt_texts t_texts qt_lengths t_lengths t_end t_index t_flags t_twice t_width t_precision t_conversion t_broken qt_piece t_piece t_put t_head qt_tens t_tens t_count t_exponent qt_work t_work) H → va_D A (w_Model_clear G qt qt_draft t_draft t_drafted qt_result t_result t_length t_arguments qt_kinds t_kinds qt_values t_values qt_widths t_widths qt_below t_below qt_sizes t_sizes qt_scales t_scales qt_parts t_parts qt_texts t_texts qt_lengths t_lengths t_end t_index t_flags t_twice t_width t_precision t_conversion t_broken qt_piece t_piece t_put t_head qt_tens t_tens t_count t_exponent qt_work t_work) → va_S A s.heap H locs → lv_has ls 8 [(0, .ref qt), (2, .int a2), (3, .int x3), (4, .int x4)] → W p l e { frames := 0, cells := 0, slots := 0, locals := 0 } s m ([.ref qt, .int a1, .int a2] : List Value).toArray below meth c H locs 0 0 Q (F0 m 136 ls []) := by
        intro x3 x4 t_tens t_work b_x4 hf H locs ls hP hD hS hl
        unfold k_Model_spell_136 at hf
        refine lv_goto (tgt := 36) hx hb d_Model_spell_136 (by decide) ?_
        exact ih_36 (x3, x4, t_tens, t_work) b_x4 hf _ _ _ hP hD hS (lv_sub hl [0, 1, 2, 3] rfl)
      have W_51 : ∀ (x3 : Int32) (t_tens : (Nat → Int32))  (n_51 : Nat) (z51 : Int32 × Int32 × Int32 × (Nat → Int32)) (b_x4 : bl z51.1), lp_ (b_Model_spell_51 a2 rec_36 x3 t_tens) n_51 z51 = some res → ∀ (H : Heap) (locs : List Loc) (ls : Array Slot), va_P (gD G) vwCl (w_Model_clear G qt qt_draft t_draft t_drafted qt_result t_result t_length t_arguments qt_kinds t_kinds qt_values t_values qt_widths t_widths qt_below t_below qt_sizes t_sizes qt_scales t_scales qt_parts t_parts qt_texts t_texts qt_lengths t_lengths t_end t_index t_flags t_twice t_width t_precision t_conversion t_broken qt_piece t_piece t_put t_head qt_tens t_tens t_count t_exponent qt_work z51.2.2.2) H → va_D A (w_Model_clear G qt qt_draft t_draft t_drafted qt_result t_result t_length t_arguments qt_kinds t_kinds qt_values t_values qt_widths t_widths qt_below t_below qt_sizes t_sizes qt_scales t_scales qt_parts t_parts qt_texts t_texts qt_lengths t_lengths t_end t_index t_flags t_twice t_width t_precision t_conversion t_broken qt_piece t_piece t_put t_head qt_tens t_tens t_count t_exponent qt_work z51.2.2.2) → va_S A s.heap H locs → lv_has ls 8 [(0, .ref qt), (2, .int a2), (3, .int x3), (4, .int z51.1), (5, .int z51.2.1), (6, .int z51.2.2.1)] → W p l e { frames := 0, cells := 0, slots := 0, locals := 0 } s m ([.ref qt, .int a1, .int a2] : List Value).toArray below meth c H locs 0 0 Q (F0 m 51 ls []) := by
        intro x3 t_tens n_51
        induction n_51 with
        | zero =>
          intro z51 b_x4 hf
          cases hf
        | succ n_51 ih_51 =>
          intro z51 b_x4 hf H locs ls hP hD hS hl
          have hf : b_Model_spell_51 a2 rec_36 x3 t_tens (lp_ (b_Model_spell_51 a2 rec_36 x3 t_tens) n_51) z51 = some res := hf
          generalize lp_ (b_Model_spell_51 a2 rec_36 x3 t_tens) n_51 = rec_51 at hf ih_51
          have W_76 : ∀ (x5 : Int32) (x6 : Int32) (k0 : Int32) (t_work : (Nat → Int32)) (b_k0 : bl k0), k_Model_spell_76 a2 rec_51 x5 x6 k0 t_work = some res → ∀ (H : Heap) (locs : List Loc) (ls : Array Slot), va_P (gD G) vwCl (w_Model_clear G qt qt_draft t_draft t_drafted qt_result t_result t_length t_arguments qt_kinds t_kinds qt_values t_values qt_widths t_widths qt_below t_below qt_sizes t_sizes qt_scales t_scales qt_parts t_parts qt_texts t_texts qt_lengths t_lengths t_end t_index t_flags t_twice t_width t_precision t_conversion t_broken qt_piece t_piece t_put t_head qt_tens t_tens t_count t_exponent qt_work t_work) H → va_D A (w_Model_clear G qt qt_draft t_draft t_drafted qt_result t_result t_length t_arguments qt_kinds t_kinds qt_values t_values qt_widths t_widths qt_below t_below qt_sizes t_sizes qt_scales t_scales qt_parts t_parts qt_texts t_texts qt_lengths t_lengths t_end t_index t_flags t_twice t_width t_precision t_conversion t_broken qt_piece t_piece t_put t_head qt_tens t_tens t_count t_exponent qt_work t_work) → va_S A s.heap H locs → lv_has ls 8 [(0, .ref qt), (2, .int a2), (3, .int x3), (5, .int x5), (6, .int x6)] → W p l e { frames := 0, cells := 0, slots := 0, locals := 0 } s m ([.ref qt, .int a1, .int a2] : List Value).toArray below meth c H locs 0 0 Q (F0 m 76 ls [.int k0]) := by
            intro x5 x6 k0 t_work b_k0 hf H locs ls hP hD hS hl
            unfold k_Model_spell_76 at hf
            refine lv_istore (lv' := [(4, .int k0), (0, .ref qt), (2, .int a2), (3, .int x3), (5, .int x5), (6, .int x6)]) hx hb d_Model_spell_76 hl (by decide) rfl (fun ls hl => ?_)
            refine lv_iload hx hb d_Model_spell_78 (lv_at hl 4 rfl) ?_
            refine lv_bipush (v := 16) hx hb d_Model_spell_80 (by decide) ?_
            refine lv_ishl hx hb d_Model_spell_82 ?_
            refine lv_aload_n hx hb d_Model_spell_83 rfl (lv_at hl 1 rfl) ?_
            refine va_get (D := gD G) (ci := 7) (v := .ref qt_work) (C := R_Model) (T := F_Model) (N := 29) hx hb hg in_Model hown hK hP 0 rfl rfl 28 (by decide) (hg _ m_457) (fun _ h9 => h9) rfl d_Model_spell_84 ?_
            refine lv_iload hx hb d_Model_spell_87 (lv_at hl 5 rfl) ?_
            obtain ⟨g_89, hf⟩ := gd_ hf
            refine va_iald hx hb hK hP 14 1 rfl rfl (inB_in g_89) d_Model_spell_89 ?_
            refine lv_ior hx hb d_Model_spell_90 ?_
            refine lv_istore (lv' := [(7, .int ((x5 <<< ((16 : Int32) &&& 31)) ||| (t_work x6.toNatClampNeg))), (4, .int k0), (0, .ref qt), (2, .int a2), (3, .int x3), (5, .int x5), (6, .int x6)]) hx hb d_Model_spell_91 hl (by decide) rfl (fun ls hl => ?_)
            refine lv_aload_n hx hb d_Model_spell_93 rfl (lv_at hl 2 rfl) ?_
            refine va_get (D := gD G) (ci := 7) (v := .ref qt_work) (C := R_Model) (T := F_Model) (N := 29) hx hb hg in_Model hown hK hP 0 rfl rfl 28 (by decide) (hg _ m_457) (fun _ h9 => h9) rfl d_Model_spell_94 ?_
            refine lv_iload hx hb d_Model_spell_97 (lv_at hl 6 rfl) ?_
            refine lv_iload hx hb d_Model_spell_99 (lv_at hl 0 rfl) ?_
            refine lv_iload_n hx hb d_Model_spell_101 rfl (lv_at hl 3 rfl) ?_
            obtain ⟨g_102, hf⟩ := gn_ hf
            refine lv_idiv hx hb d_Model_spell_102 g_102 ?_
            obtain ⟨g_103, hf⟩ := gd_ hf
            refine va_iast hx hb hK hP hD hS 14 1 rfl rfl (inB_in g_103) d_Model_spell_103 (fun H locs hP hD hS => ?_)
            have hP : va_P (gD G) vwCl (w_Model_clear G qt qt_draft t_draft t_drafted qt_result t_result t_length t_arguments qt_kinds t_kinds qt_values t_values qt_widths t_widths qt_below t_below qt_sizes t_sizes qt_scales t_scales qt_parts t_parts qt_texts t_texts qt_lengths t_lengths t_end t_index t_flags t_twice t_width t_precision t_conversion t_broken qt_piece t_piece t_put t_head qt_tens t_tens t_count t_exponent qt_work (upd t_work x6.toNatClampNeg (((x5 <<< ((16 : Int32) &&& 31)) ||| (t_work x6.toNatClampNeg)) / a2))) H := hP
            have hD : va_D A (w_Model_clear G qt qt_draft t_draft t_drafted qt_result t_result t_length t_arguments qt_kinds t_kinds qt_values t_values qt_widths t_widths qt_below t_below qt_sizes t_sizes qt_scales t_scales qt_parts t_parts qt_texts t_texts qt_lengths t_lengths t_end t_index t_flags t_twice t_width t_precision t_conversion t_broken qt_piece t_piece t_put t_head qt_tens t_tens t_count t_exponent qt_work (upd t_work x6.toNatClampNeg (((x5 <<< ((16 : Int32) &&& 31)) ||| (t_work x6.toNatClampNeg)) / a2))) := hD
            refine lv_iload hx hb d_Model_spell_104 (lv_at hl 0 rfl) ?_
            refine lv_iload_n hx hb d_Model_spell_106 rfl (lv_at hl 3 rfl) ?_
            obtain ⟨g_107, hf⟩ := gn_ hf
            refine lv_irem hx hb d_Model_spell_107 g_107 ?_
            refine lv_istore (lv' := [(5, .int (((x5 <<< ((16 : Int32) &&& 31)) ||| (t_work x6.toNatClampNeg)) - ((x5 <<< ((16 : Int32) &&& 31)) ||| (t_work x6.toNatClampNeg)) / a2 * a2)), (7, .int ((x5 <<< ((16 : Int32) &&& 31)) ||| (t_work x6.toNatClampNeg))), (4, .int k0), (0, .ref qt), (2, .int a2), (3, .int x3), (6, .int x6)]) hx hb d_Model_spell_108 hl (by decide) rfl (fun ls hl => ?_)
            refine lv_iinc (v := (x6 + (-1))) (lv' := [(6, .int (x6 + (-1))), (5, .int (((x5 <<< ((16 : Int32) &&& 31)) ||| (t_work x6.toNatClampNeg)) - ((x5 <<< ((16 : Int32) &&& 31)) ||| (t_work x6.toNatClampNeg)) / a2 * a2)), (7, .int ((x5 <<< ((16 : Int32) &&& 31)) ||| (t_work x6.toNatClampNeg))), (4, .int k0), (0, .ref qt), (2, .int a2), (3, .int x3)]) hx hb d_Model_spell_110 hl (k := 6) rfl rfl (by decide) rfl (fun ls hl => ?_)
            refine lv_goto (tgt := 51) hx hb d_Model_spell_113 (by decide) ?_
            exact ih_51 (k0, (((x5 <<< ((16 : Int32) &&& 31)) ||| (t_work x6.toNatClampNeg)) - ((x5 <<< ((16 : Int32) &&& 31)) ||| (t_work x6.toNatClampNeg)) / a2 * a2), (x6 + (-1)), (upd t_work x6.toNatClampNeg (((x5 <<< ((16 : Int32) &&& 31)) ||| (t_work x6.toNatClampNeg)) / a2))) b_k0 hf _ _ _ hP hD hS (lv_sub hl [4, 5, 6, 3, 1, 0] rfl)
          have W_71 : ∀ (x5 : Int32) (x6 : Int32) (t_work : (Nat → Int32)) , k_Model_spell_71 a2 rec_51 x5 x6 t_work = some res → ∀ (H : Heap) (locs : List Loc) (ls : Array Slot), va_P (gD G) vwCl (w_Model_clear G qt qt_draft t_draft t_drafted qt_result t_result t_length t_arguments qt_kinds t_kinds qt_values t_values qt_widths t_widths qt_below t_below qt_sizes t_sizes qt_scales t_scales qt_parts t_parts qt_texts t_texts qt_lengths t_lengths t_end t_index t_flags t_twice t_width t_precision t_conversion t_broken qt_piece t_piece t_put t_head qt_tens t_tens t_count t_exponent qt_work t_work) H → va_D A (w_Model_clear G qt qt_draft t_draft t_drafted qt_result t_result t_length t_arguments qt_kinds t_kinds qt_values t_values qt_widths t_widths qt_below t_below qt_sizes t_sizes qt_scales t_scales qt_parts t_parts qt_texts t_texts qt_lengths t_lengths t_end t_index t_flags t_twice t_width t_precision t_conversion t_broken qt_piece t_piece t_put t_head qt_tens t_tens t_count t_exponent qt_work t_work) → va_S A s.heap H locs → lv_has ls 8 [(0, .ref qt), (2, .int a2), (3, .int x3), (5, .int x5), (6, .int x6)] → W p l e { frames := 0, cells := 0, slots := 0, locals := 0 } s m ([.ref qt, .int a1, .int a2] : List Value).toArray below meth c H locs 0 0 Q (F0 m 71 ls []) := by
            intro x5 x6 t_work  hf H locs ls hP hD hS hl
            unfold k_Model_spell_71 at hf
            refine lv_iconst (v := 1) hx hb d_Model_spell_71 (by decide) ?_
            refine lv_goto (tgt := 76) hx hb d_Model_spell_72 (by decide) ?_
            exact W_76 x5 x6 (1 : Int32) t_work bl_1 hf _ _ _ hP hD hS (lv_sub hl [0, 1, 2, 3, 4] rfl)
          unfold b_Model_spell_51 at hf
          refine lv_iload hx hb d_Model_spell_51 (lv_at hl 5 rfl) ?_
          refine lv_if_lt (tgt := 116) hx hb d_Model_spell_53 (by decide) (fun c_53 => ?_) (fun c_53 => ?_)
          · have hf := ip_ c_53 hf
            refine lv_iload hx hb d_Model_spell_116 (lv_at hl 3 rfl) ?_
            refine lv_if_eq (tgt := 136) hx hb d_Model_spell_118 (by decide) (fun c_118 => ?_) (fun c_118 => ?_)
            · have hf := ip_ c_118 hf
              exact W_136 x3 z51.1 t_tens z51.2.2.2 b_x4 hf _ _ _ hP hD hS (lv_sub hl [0, 1, 2, 3] rfl)
            · have hf := in_ c_118 hf
              refine lv_aload_n hx hb d_Model_spell_121 rfl (lv_at hl 0 rfl) ?_
              refine va_get (D := gD G) (ci := 7) (v := .ref qt_tens) (C := R_Model) (T := F_Model) (N := 29) hx hb hg in_Model hown hK hP 0 rfl rfl 25 (by decide) (hg _ m_459) (fun _ h9 => h9) rfl d_Model_spell_122 ?_
              refine lv_sipush (v := 1199) hx hb d_Model_spell_125 (by decide) ?_
              refine lv_iload_n hx hb d_Model_spell_128 rfl (lv_at hl 2 rfl) ?_
              refine lv_isub hx hb d_Model_spell_129 ?_
              refine lv_iload hx hb d_Model_spell_130 (lv_at hl 4 rfl) ?_
              obtain ⟨g_132, hf⟩ := gd_ hf
              refine va_iast hx hb hK hP hD hS 13 1 rfl rfl (inB_in g_132) d_Model_spell_132 (fun H locs hP hD hS => ?_)
              have hP : va_P (gD G) vwCl (w_Model_clear G qt qt_draft t_draft t_drafted qt_result t_result t_length t_arguments qt_kinds t_kinds qt_values t_values qt_widths t_widths qt_below t_below qt_sizes t_sizes qt_scales t_scales qt_parts t_parts qt_texts t_texts qt_lengths t_lengths t_end t_index t_flags t_twice t_width t_precision t_conversion t_broken qt_piece t_piece t_put t_head qt_tens (upd t_tens ((1199 : Int32) - x3).toNatClampNeg z51.2.1) t_count t_exponent qt_work z51.2.2.2) H := hP
              have hD : va_D A (w_Model_clear G qt qt_draft t_draft t_drafted qt_result t_result t_length t_arguments qt_kinds t_kinds qt_values t_values qt_widths t_widths qt_below t_below qt_sizes t_sizes qt_scales t_scales qt_parts t_parts qt_texts t_texts qt_lengths t_lengths t_end t_index t_flags t_twice t_width t_precision t_conversion t_broken qt_piece t_piece t_put t_head qt_tens (upd t_tens ((1199 : Int32) - x3).toNatClampNeg z51.2.1) t_count t_exponent qt_work z51.2.2.2) := hD
              refine lv_iinc (v := (x3 + 1)) (lv' := [(3, .int (x3 + 1)), (0, .ref qt), (2, .int a2), (4, .int z51.1), (5, .int z51.2.1), (6, .int z51.2.2.1)]) hx hb d_Model_spell_133 hl (k := 2) rfl rfl (by decide) rfl (fun ls hl => ?_)
              exact W_136 (x3 + 1) z51.1 (upd t_tens ((1199 : Int32) - x3).toNatClampNeg z51.2.1) z51.2.2.2 b_x4 hf _ _ _ hP hD hS (lv_sub hl [1, 2, 0, 3] rfl)
          · have hf := in_ c_53 hf
            refine lv_iload hx hb d_Model_spell_56 (lv_at hl 3 rfl) ?_
            refine lv_if_ne (tgt := 71) hx hb d_Model_spell_58 (by decide) (fun c_58 => ?_) (fun c_58 => ?_)
            · have hf := in_ c_58 hf
              exact W_71 z51.2.1 z51.2.2.1 z51.2.2.2  hf _ _ _ hP hD hS (lv_sub hl [0, 1, 2, 4, 5] rfl)
            · have hf := ip_ c_58 hf
              refine lv_aload_n hx hb d_Model_spell_61 rfl (lv_at hl 0 rfl) ?_
              refine va_get (D := gD G) (ci := 7) (v := .ref qt_work) (C := R_Model) (T := F_Model) (N := 29) hx hb hg in_Model hown hK hP 0 rfl rfl 28 (by decide) (hg _ m_457) (fun _ h9 => h9) rfl d_Model_spell_62 ?_
              refine lv_iload hx hb d_Model_spell_65 (lv_at hl 5 rfl) ?_
              obtain ⟨g_67, hf⟩ := gd_ hf
              refine va_iald hx hb hK hP 14 1 rfl rfl (inB_in g_67) d_Model_spell_67 ?_
              refine lv_if_eq (tgt := 75) hx hb d_Model_spell_68 (by decide) (fun c_68 => ?_) (fun c_68 => ?_)
              · have hf := ip_ c_68 hf
                refine lv_iconst (v := 0) hx hb d_Model_spell_75 (by decide) ?_
                exact W_76 z51.2.1 z51.2.2.1 (0 : Int32) z51.2.2.2 bl_0 hf _ _ _ hP hD hS (lv_sub hl [0, 1, 2, 4, 5] rfl)
              · have hf := in_ c_68 hf
                exact W_71 z51.2.1 z51.2.2.1 z51.2.2.2  hf _ _ _ hP hD hS (lv_sub hl [0, 1, 2, 4, 5] rfl)
      unfold b_Model_spell_36 at hf
      refine lv_iload hx hb d_Model_spell_36 (lv_at hl 3 rfl) ?_
      refine lv_if_eq (tgt := 139) hx hb d_Model_spell_38 (by decide) (fun c_38 => ?_) (fun c_38 => ?_)
      · have hf := ip_ c_38 hf
        refine lv_aload_n hx hb d_Model_spell_139 rfl (lv_at hl 0 rfl) ?_
        refine lv_iload_n hx hb d_Model_spell_140 rfl (lv_at hl 2 rfl) ?_
        refine va_put (D := gD G) (ci := 7) (v := .int z36.1) (ty := .int) (C := R_Model) (T := F_Model) (N := 29) hx hb hg in_Model t_Model to_Model no_Model hown hK hP hD hS 0 rfl rfl 26 (by decide) (hg _ m_458) (fun _ h9 => h9) rfl (by decide +kernel) rfl rfl (Nat.le_of_ble_eq_true rfl) d_Model_spell_141 (fun H locs hP hD hS => ?_)
        have hP : va_P (gD G) vwCl (w_Model_clear G qt qt_draft t_draft t_drafted qt_result t_result t_length t_arguments qt_kinds t_kinds qt_values t_values qt_widths t_widths qt_below t_below qt_sizes t_sizes qt_scales t_scales qt_parts t_parts qt_texts t_texts qt_lengths t_lengths t_end t_index t_flags t_twice t_width t_precision t_conversion t_broken qt_piece t_piece t_put t_head qt_tens z36.2.2.1 z36.1 t_exponent qt_work z36.2.2.2) H := hP
        have hD : va_D A (w_Model_clear G qt qt_draft t_draft t_drafted qt_result t_result t_length t_arguments qt_kinds t_kinds qt_values t_values qt_widths t_widths qt_below t_below qt_sizes t_sizes qt_scales t_scales qt_parts t_parts qt_texts t_texts qt_lengths t_lengths t_end t_index t_flags t_twice t_width t_precision t_conversion t_broken qt_piece t_piece t_put t_head qt_tens z36.2.2.1 z36.1 t_exponent qt_work z36.2.2.2) := hD
        refine lv_iconst (v := 0) hx hb d_Model_spell_144 (by decide) ?_
        refine lv_istore (lv' := [(5, .int (0 : Int32)), (0, .ref qt), (2, .int a2), (3, .int z36.1), (4, .int z36.2.1)]) hx hb d_Model_spell_145 hl (by decide) rfl (fun ls hl => ?_)
        exact W_147 z36.1 z36.1 z36.2.2.2  K ((0 : Int32), z36.2.2.1)  hf _ _ _ hP hD hS (lv_sub hl [1, 3, 0] rfl)
      · have hf := in_ c_38 hf
        refine lv_iconst (v := 0) hx hb d_Model_spell_41 (by decide) ?_
        refine lv_istore (lv' := [(4, .int (0 : Int32)), (0, .ref qt), (2, .int a2), (3, .int z36.1)]) hx hb d_Model_spell_42 hl (by decide) rfl (fun ls hl => ?_)
        refine lv_iconst (v := 0) hx hb d_Model_spell_44 (by decide) ?_
        refine lv_istore (lv' := [(5, .int (0 : Int32)), (4, .int (0 : Int32)), (0, .ref qt), (2, .int a2), (3, .int z36.1)]) hx hb d_Model_spell_45 hl (by decide) rfl (fun ls hl => ?_)
        refine lv_bipush (v := 31) hx hb d_Model_spell_47 (by decide) ?_
        refine lv_istore (lv' := [(6, .int (31 : Int32)), (5, .int (0 : Int32)), (4, .int (0 : Int32)), (0, .ref qt), (2, .int a2), (3, .int z36.1)]) hx hb d_Model_spell_49 hl (by decide) rfl (fun ls hl => ?_)
        exact W_51 z36.1 z36.2.2.1  K ((0 : Int32), (0 : Int32), (31 : Int32), z36.2.2.2) bl_0 hf _ _ _ hP hD hS (lv_sub hl [3, 4, 5, 2, 1, 0] rfl)
  have W_2 : ∀ (t_count : Int32) (t_tens : (Nat → Int32))  (n_2 : Nat) (z2 : Int32 × (Nat → Int32)) , lp_ (b_Model_spell_2 K t_sizes a1 a2 t_count t_tens) n_2 z2 = some res → ∀ (H : Heap) (locs : List Loc) (ls : Array Slot), va_P (gD G) vwCl (w_Model_clear G qt qt_draft t_draft t_drafted qt_result t_result t_length t_arguments qt_kinds t_kinds qt_values t_values qt_widths t_widths qt_below t_below qt_sizes t_sizes qt_scales t_scales qt_parts t_parts qt_texts t_texts qt_lengths t_lengths t_end t_index t_flags t_twice t_width t_precision t_conversion t_broken qt_piece t_piece t_put t_head qt_tens t_tens t_count t_exponent qt_work z2.2) H → va_D A (w_Model_clear G qt qt_draft t_draft t_drafted qt_result t_result t_length t_arguments qt_kinds t_kinds qt_values t_values qt_widths t_widths qt_below t_below qt_sizes t_sizes qt_scales t_scales qt_parts t_parts qt_texts t_texts qt_lengths t_lengths t_end t_index t_flags t_twice t_width t_precision t_conversion t_broken qt_piece t_piece t_put t_head qt_tens t_tens t_count t_exponent qt_work z2.2) → va_S A s.heap H locs → lv_has ls 8 [(0, .ref qt), (1, .int a1), (2, .int a2), (3, .int z2.1)] → W p l e { frames := 0, cells := 0, slots := 0, locals := 0 } s m ([.ref qt, .int a1, .int a2] : List Value).toArray below meth c H locs 0 0 Q (F0 m 2 ls []) := by
    intro t_count t_tens n_2
    induction n_2 with
    | zero =>
      intro z2  hf
      cases hf
    | succ n_2 ih_2 =>
      intro z2  hf H locs ls hP hD hS hl
      have hf : b_Model_spell_2 K t_sizes a1 a2 t_count t_tens (lp_ (b_Model_spell_2 K t_sizes a1 a2 t_count t_tens) n_2) z2 = some res := hf
      generalize lp_ (b_Model_spell_2 K t_sizes a1 a2 t_count t_tens) n_2 = rec_2 at hf ih_2
      unfold b_Model_spell_2 at hf
      refine lv_iload_n hx hb d_Model_spell_2 rfl (lv_at hl 3 rfl) ?_
      refine lv_bipush (v := 32) hx hb d_Model_spell_3 (by decide) ?_
      refine lv_icmp_ge (tgt := 31) hx hb d_Model_spell_5 (by decide) (fun c_5 => ?_) (fun c_5 => ?_)
      · have hf := ip_ c_5 hf
        refine lv_iconst (v := 0) hx hb d_Model_spell_31 (by decide) ?_
        refine lv_istore_n (lv' := [(3, .int (0 : Int32)), (0, .ref qt), (1, .int a1), (2, .int a2)]) hx hb d_Model_spell_32 rfl hl (by decide) rfl (fun ls hl => ?_)
        refine lv_iconst (v := 1) hx hb d_Model_spell_33 (by decide) ?_
        refine lv_istore (lv' := [(4, .int (1 : Int32)), (3, .int (0 : Int32)), (0, .ref qt), (1, .int a1), (2, .int a2)]) hx hb d_Model_spell_34 hl (by decide) rfl (fun ls hl => ?_)
        exact W_36 t_count  K ((0 : Int32), (1 : Int32), t_tens, z2.2) bl_1 hf _ _ _ hP hD hS (lv_sub hl [2, 4, 1, 0] rfl)
      · have hf := in_ c_5 hf
        refine lv_aload_n hx hb d_Model_spell_8 rfl (lv_at hl 0 rfl) ?_
        refine va_get (D := gD G) (ci := 7) (v := .ref qt_work) (C := R_Model) (T := F_Model) (N := 29) hx hb hg in_Model hown hK hP 0 rfl rfl 28 (by decide) (hg _ m_457) (fun _ h9 => h9) rfl d_Model_spell_9 ?_
        refine lv_iload_n hx hb d_Model_spell_12 rfl (lv_at hl 3 rfl) ?_
        refine lv_aload_n hx hb d_Model_spell_13 rfl (lv_at hl 0 rfl) ?_
        refine va_get (D := gD G) (ci := 7) (v := .ref qt_sizes) (C := R_Model) (T := F_Model) (N := 29) hx hb hg in_Model hown hK hP 0 rfl rfl 9 (by decide) (hg _ m_385) (fun _ h9 => h9) rfl d_Model_spell_14 ?_
        refine lv_bipush (v := 32) hx hb d_Model_spell_17 (by decide) ?_
        refine lv_iload_n hx hb d_Model_spell_19 rfl (lv_at hl 1 rfl) ?_
        refine lv_imul hx hb d_Model_spell_20 ?_
        refine lv_iload_n hx hb d_Model_spell_21 rfl (lv_at hl 3 rfl) ?_
        refine lv_iadd hx hb d_Model_spell_22 ?_
        obtain ⟨g_23, hf⟩ := gd_ hf
        refine va_iald hx hb hK hP 7 1 rfl rfl (inB_in g_23) d_Model_spell_23 ?_
        obtain ⟨g_24, hf⟩ := gd_ hf
        refine va_iast hx hb hK hP hD hS 14 1 rfl rfl (inB_in g_24) d_Model_spell_24 (fun H locs hP hD hS => ?_)
        have hP : va_P (gD G) vwCl (w_Model_clear G qt qt_draft t_draft t_drafted qt_result t_result t_length t_arguments qt_kinds t_kinds qt_values t_values qt_widths t_widths qt_below t_below qt_sizes t_sizes qt_scales t_scales qt_parts t_parts qt_texts t_texts qt_lengths t_lengths t_end t_index t_flags t_twice t_width t_precision t_conversion t_broken qt_piece t_piece t_put t_head qt_tens t_tens t_count t_exponent qt_work (upd z2.2 z2.1.toNatClampNeg (t_sizes (((32 : Int32) * a1) + z2.1).toNatClampNeg))) H := hP
        have hD : va_D A (w_Model_clear G qt qt_draft t_draft t_drafted qt_result t_result t_length t_arguments qt_kinds t_kinds qt_values t_values qt_widths t_widths qt_below t_below qt_sizes t_sizes qt_scales t_scales qt_parts t_parts qt_texts t_texts qt_lengths t_lengths t_end t_index t_flags t_twice t_width t_precision t_conversion t_broken qt_piece t_piece t_put t_head qt_tens t_tens t_count t_exponent qt_work (upd z2.2 z2.1.toNatClampNeg (t_sizes (((32 : Int32) * a1) + z2.1).toNatClampNeg))) := hD
        refine lv_iinc (v := (z2.1 + 1)) (lv' := [(3, .int (z2.1 + 1)), (0, .ref qt), (1, .int a1), (2, .int a2)]) hx hb d_Model_spell_25 hl (k := 3) rfl rfl (by decide) rfl (fun ls hl => ?_)
        refine lv_goto (tgt := 2) hx hb d_Model_spell_28 (by decide) ?_
        exact ih_2 ((z2.1 + 1), (upd z2.2 z2.1.toNatClampNeg (t_sizes (((32 : Int32) * a1) + z2.1).toNatClampNeg)))  hf _ _ _ hP hD hS (lv_sub hl [1, 2, 3, 0] rfl)
  unfold f_Model_spell at hf
  refine lv_iconst (v := 0) hx hb d_Model_spell_0 (by decide) ?_
  refine lv_istore_n (lv' := [(3, .int (0 : Int32)), (0, .ref qt), (1, .int a1), (2, .int a2)]) hx hb d_Model_spell_1 rfl hl (by decide) rfl (fun ls hl => ?_)
  exact W_2 t_count t_tens  K ((0 : Int32), t_work)  hf _ _ _ hP hD hS (lv_sub hl [1, 2, 3, 0] rfl)
theorem d_Model_spellLong_0 : decode cd_Model_spellLong 0 = .ok (.lload_n 1, 1) := by decide +kernel
theorem d_Model_spellLong_1 : decode cd_Model_spellLong 1 = .ok (.lstore 4, 2) := by decide +kernel
theorem d_Model_spellLong_3 : decode cd_Model_spellLong 3 = .ok (.iconst 0, 1) := by decide +kernel
theorem d_Model_spellLong_4 : decode cd_Model_spellLong 4 = .ok (.istore 6, 2) := by decide +kernel
theorem d_Model_spellLong_6 : decode cd_Model_spellLong 6 = .ok (.lload 4, 2) := by decide +kernel
theorem d_Model_spellLong_8 : decode cd_Model_spellLong 8 = .ok (.lconst 0, 1) := by decide +kernel
theorem d_Model_spellLong_9 : decode cd_Model_spellLong 9 = .ok (.lcmp, 1) := by decide +kernel
theorem d_Model_spellLong_10 : decode cd_Model_spellLong 10 = .ok (.ifCond .eq 79, 3) := by decide +kernel
theorem d_Model_spellLong_13 : decode cd_Model_spellLong 13 = .ok (.lload 4, 2) := by decide +kernel
theorem d_Model_spellLong_15 : decode cd_Model_spellLong 15 = .ok (.iconst 1, 1) := by decide +kernel
theorem d_Model_spellLong_16 : decode cd_Model_spellLong 16 = .ok (.lshr, 1) := by decide +kernel
theorem d_Model_spellLong_17 : decode cd_Model_spellLong 17 = .ok (.ldc2_w 146, 3) := by decide +kernel
theorem d_Model_spellLong_20 : decode cd_Model_spellLong 20 = .ok (.land, 1) := by decide +kernel
theorem d_Model_spellLong_21 : decode cd_Model_spellLong 21 = .ok (.iload_n 3, 1) := by decide +kernel
theorem d_Model_spellLong_22 : decode cd_Model_spellLong 22 = .ok (.i2l, 1) := by decide +kernel
theorem d_Model_spellLong_23 : decode cd_Model_spellLong 23 = .ok (.ldiv, 1) := by decide +kernel
theorem d_Model_spellLong_24 : decode cd_Model_spellLong 24 = .ok (.lstore 7, 2) := by decide +kernel
theorem d_Model_spellLong_26 : decode cd_Model_spellLong 26 = .ok (.lload 7, 2) := by decide +kernel
theorem d_Model_spellLong_28 : decode cd_Model_spellLong 28 = .ok (.ldc2_w 148, 3) := by decide +kernel
theorem d_Model_spellLong_31 : decode cd_Model_spellLong 31 = .ok (.lmul, 1) := by decide +kernel
theorem d_Model_spellLong_32 : decode cd_Model_spellLong 32 = .ok (.lstore 9, 2) := by decide +kernel
theorem d_Model_spellLong_34 : decode cd_Model_spellLong 34 = .ok (.lload 4, 2) := by decide +kernel
theorem d_Model_spellLong_36 : decode cd_Model_spellLong 36 = .ok (.lload 9, 2) := by decide +kernel
theorem d_Model_spellLong_38 : decode cd_Model_spellLong 38 = .ok (.iload_n 3, 1) := by decide +kernel
theorem d_Model_spellLong_39 : decode cd_Model_spellLong 39 = .ok (.i2l, 1) := by decide +kernel
theorem d_Model_spellLong_40 : decode cd_Model_spellLong 40 = .ok (.lmul, 1) := by decide +kernel
theorem d_Model_spellLong_41 : decode cd_Model_spellLong 41 = .ok (.lsub, 1) := by decide +kernel
theorem d_Model_spellLong_42 : decode cd_Model_spellLong 42 = .ok (.lstore 11, 2) := by decide +kernel
theorem d_Model_spellLong_44 : decode cd_Model_spellLong 44 = .ok (.lload 11, 2) := by decide +kernel
theorem d_Model_spellLong_46 : decode cd_Model_spellLong 46 = .ok (.iload_n 3, 1) := by decide +kernel
theorem d_Model_spellLong_47 : decode cd_Model_spellLong 47 = .ok (.i2l, 1) := by decide +kernel
theorem d_Model_spellLong_48 : decode cd_Model_spellLong 48 = .ok (.lcmp, 1) := by decide +kernel
theorem d_Model_spellLong_49 : decode cd_Model_spellLong 49 = .ok (.ifCond .lt 16, 3) := by decide +kernel
theorem d_Model_spellLong_52 : decode cd_Model_spellLong 52 = .ok (.lload 9, 2) := by decide +kernel
theorem d_Model_spellLong_54 : decode cd_Model_spellLong 54 = .ok (.lconst 1, 1) := by decide +kernel
theorem d_Model_spellLong_55 : decode cd_Model_spellLong 55 = .ok (.ladd, 1) := by decide +kernel
theorem d_Model_spellLong_56 : decode cd_Model_spellLong 56 = .ok (.lstore 9, 2) := by decide +kernel
theorem d_Model_spellLong_58 : decode cd_Model_spellLong 58 = .ok (.lload 11, 2) := by decide +kernel
theorem d_Model_spellLong_60 : decode cd_Model_spellLong 60 = .ok (.iload_n 3, 1) := by decide +kernel
theorem d_Model_spellLong_61 : decode cd_Model_spellLong 61 = .ok (.i2l, 1) := by decide +kernel
theorem d_Model_spellLong_62 : decode cd_Model_spellLong 62 = .ok (.lsub, 1) := by decide +kernel
theorem d_Model_spellLong_63 : decode cd_Model_spellLong 63 = .ok (.lstore 11, 2) := by decide +kernel
theorem d_Model_spellLong_65 : decode cd_Model_spellLong 65 = .ok (.aload_n 0, 1) := by decide +kernel
theorem d_Model_spellLong_66 : decode cd_Model_spellLong 66 = .ok (.getfield 48, 3) := by decide +kernel
theorem d_Model_spellLong_69 : decode cd_Model_spellLong 69 = .ok (.sipush 1199, 3) := by decide +kernel
theorem d_Model_spellLong_72 : decode cd_Model_spellLong 72 = .ok (.iload 6, 2) := by decide +kernel
theorem d_Model_spellLong_74 : decode cd_Model_spellLong 74 = .ok (.isub, 1) := by decide +kernel
theorem d_Model_spellLong_75 : decode cd_Model_spellLong 75 = .ok (.lload 11, 2) := by decide +kernel
theorem d_Model_spellLong_77 : decode cd_Model_spellLong 77 = .ok (.l2i, 1) := by decide +kernel
theorem d_Model_spellLong_78 : decode cd_Model_spellLong 78 = .ok (.iastore, 1) := by decide +kernel
theorem d_Model_spellLong_79 : decode cd_Model_spellLong 79 = .ok (.iinc 6 1, 3) := by decide +kernel
theorem d_Model_spellLong_82 : decode cd_Model_spellLong 82 = .ok (.lload 9, 2) := by decide +kernel
theorem d_Model_spellLong_84 : decode cd_Model_spellLong 84 = .ok (.lstore 4, 2) := by decide +kernel
theorem d_Model_spellLong_86 : decode cd_Model_spellLong 86 = .ok (.goto (-80), 3) := by decide +kernel
theorem d_Model_spellLong_89 : decode cd_Model_spellLong 89 = .ok (.aload_n 0, 1) := by decide +kernel
theorem d_Model_spellLong_90 : decode cd_Model_spellLong 90 = .ok (.iload 6, 2) := by decide +kernel
theorem d_Model_spellLong_92 : decode cd_Model_spellLong 92 = .ok (.putfield 143, 3) := by decide +kernel
theorem d_Model_spellLong_95 : decode cd_Model_spellLong 95 = .ok (.iconst 0, 1) := by decide +kernel
theorem d_Model_spellLong_96 : decode cd_Model_spellLong 96 = .ok (.istore 7, 2) := by decide +kernel
theorem d_Model_spellLong_98 : decode cd_Model_spellLong 98 = .ok (.iload 7, 2) := by decide +kernel
theorem d_Model_spellLong_100 : decode cd_Model_spellLong 100 = .ok (.iload 6, 2) := by decide +kernel
theorem d_Model_spellLong_102 : decode cd_Model_spellLong 102 = .ok (.if_icmp .ge 30, 3) := by decide +kernel
theorem d_Model_spellLong_105 : decode cd_Model_spellLong 105 = .ok (.aload_n 0, 1) := by decide +kernel
theorem d_Model_spellLong_106 : decode cd_Model_spellLong 106 = .ok (.getfield 48, 3) := by decide +kernel
theorem d_Model_spellLong_109 : decode cd_Model_spellLong 109 = .ok (.iload 7, 2) := by decide +kernel
theorem d_Model_spellLong_111 : decode cd_Model_spellLong 111 = .ok (.aload_n 0, 1) := by decide +kernel
theorem d_Model_spellLong_112 : decode cd_Model_spellLong 112 = .ok (.getfield 48, 3) := by decide +kernel
theorem d_Model_spellLong_115 : decode cd_Model_spellLong 115 = .ok (.sipush 1200, 3) := by decide +kernel
theorem d_Model_spellLong_118 : decode cd_Model_spellLong 118 = .ok (.iload 6, 2) := by decide +kernel
theorem d_Model_spellLong_120 : decode cd_Model_spellLong 120 = .ok (.isub, 1) := by decide +kernel
theorem d_Model_spellLong_121 : decode cd_Model_spellLong 121 = .ok (.iload 7, 2) := by decide +kernel
theorem d_Model_spellLong_123 : decode cd_Model_spellLong 123 = .ok (.iadd, 1) := by decide +kernel
theorem d_Model_spellLong_124 : decode cd_Model_spellLong 124 = .ok (.iaload, 1) := by decide +kernel
theorem d_Model_spellLong_125 : decode cd_Model_spellLong 125 = .ok (.iastore, 1) := by decide +kernel
theorem d_Model_spellLong_126 : decode cd_Model_spellLong 126 = .ok (.iinc 7 1, 3) := by decide +kernel
theorem d_Model_spellLong_129 : decode cd_Model_spellLong 129 = .ok (.goto (-31), 3) := by decide +kernel
theorem d_Model_spellLong_132 : decode cd_Model_spellLong 132 = .ok (.return_, 1) := by decide +kernel
theorem m_460 : Cond.constantLong R_Model 146 9223372036854775807 ∈ gw := gm (i := 1099) (by decide +kernel) (by decide +kernel)
theorem m_461 : Cond.constantLong R_Model 148 2 ∈ gw := gm (i := 1100) (by decide +kernel) (by decide +kernel)
def b_Model_spellLong_98  (x6 : Int32) (t_count : Int32) (rec_98 : (Int32 × (Nat → Int32)) → Option (Int32 × (Nat → Int32))) (z98 : Int32 × (Nat → Int32)) : Option (Int32 × (Nat → Int32)) :=
  (if x6 ≤ z98.1 then some (t_count, z98.2) else (if inB (((1200 : Int32) - x6) + z98.1) 1200 = true then (if inB z98.1 1200 = true then rec_98 ((z98.1 + 1), (upd z98.2 z98.1.toNatClampNeg (z98.2 (((1200 : Int32) - x6) + z98.1).toNatClampNeg))) else none) else none))
def k_Model_spellLong_65 (rec_6 : (Int64 × Int32 × (Nat → Int32)) → Option (Int32 × (Nat → Int32))) (x6 : Int32) (x9 : Int64) (x11 : Int64) (t_tens : (Nat → Int32)) : Option (Int32 × (Nat → Int32)) :=
  (if inB ((1199 : Int32) - x6) 1200 = true then rec_6 (x9, (x6 + 1), (upd t_tens ((1199 : Int32) - x6).toNatClampNeg x11.toInt32)) else none)
def b_Model_spellLong_6 (K : Nat) (a2 : Int32) (t_count : Int32) (rec_6 : (Int64 × Int32 × (Nat → Int32)) → Option (Int32 × (Nat → Int32))) (z6 : Int64 × Int32 × (Nat → Int32)) : Option (Int32 × (Nat → Int32)) :=
  (if (lg_cmp z6.1 (0 : Int64)) = 0 then lp_ (b_Model_spellLong_98  z6.2.1 z6.2.1) K ((0 : Int32), z6.2.2) else (if a2.toInt64 = 0 then none else (if (lg_cmp (z6.1 - (((((z6.1 >>> ((1 : Int32).toInt64 &&& 63)) &&& (9223372036854775807 : Int64)) / a2.toInt64) * (2 : Int64)) * a2.toInt64)) a2.toInt64) < 0 then k_Model_spellLong_65 rec_6 z6.2.1 ((((z6.1 >>> ((1 : Int32).toInt64 &&& 63)) &&& (9223372036854775807 : Int64)) / a2.toInt64) * (2 : Int64)) (z6.1 - (((((z6.1 >>> ((1 : Int32).toInt64 &&& 63)) &&& (9223372036854775807 : Int64)) / a2.toInt64) * (2 : Int64)) * a2.toInt64)) z6.2.2 else k_Model_spellLong_65 rec_6 z6.2.1 (((((z6.1 >>> ((1 : Int32).toInt64 &&& 63)) &&& (9223372036854775807 : Int64)) / a2.toInt64) * (2 : Int64)) + (1 : Int64)) ((z6.1 - (((((z6.1 >>> ((1 : Int32).toInt64 &&& 63)) &&& (9223372036854775807 : Int64)) / a2.toInt64) * (2 : Int64)) * a2.toInt64)) - a2.toInt64) z6.2.2)))
def f_Model_spellLong (K : Nat) (t_tens : Nat → Int32) (t_count : Int32) (a1 : Int64) (a2 : Int32) : Option (Int32 × (Nat → Int32)) :=
  lp_ (b_Model_spellLong_6 K a2 t_count) K (a1, (0 : Int32), t_tens)
set_option maxHeartbeats 4000000 in
set_option maxRecDepth 100000 in
theorem c_Model_spellLong (l : Launch) (G : Gt) (K : Nat) (qt : Nat) (qt_draft : Nat) (t_draft : Nat → Int32) (t_drafted : Int32) (qt_result : Nat) (t_result : Nat → Int32) (t_length : Int32) (t_arguments : Int32) (qt_kinds : Nat) (t_kinds : Nat → Int32) (qt_values : Nat) (t_values : Nat → Int64) (qt_widths : Nat) (t_widths : Nat → Int32) (qt_below : Nat) (t_below : Nat → Int32) (qt_sizes : Nat) (t_sizes : Nat → Int32) (qt_scales : Nat) (t_scales : Nat → Int32) (qt_parts : Nat) (t_parts : Nat → Int64) (qt_texts : Nat) (t_texts : Nat → Int32) (qt_lengths : Nat) (t_lengths : Nat → Int32) (t_end : Int32) (t_index : Int32) (t_flags : Int32) (t_twice : Int32) (t_width : Int32) (t_precision : Int32) (t_conversion : Int32) (t_broken : Int32) (qt_piece : Nat) (t_piece : Nat → Int32) (t_put : Int32) (t_head : Int32) (qt_tens : Nat) (t_tens : Nat → Int32) (t_count : Int32) (t_exponent : Int32) (qt_work : Nat) (t_work : Nat → Int32) (a1 : Int64) (a2 : Int32) (sz : Nat) (res : Int32 × (Nat → Int32))   (hf : f_Model_spellLong K t_tens t_count a1 a2 = some res) : Met l y_Model_spellLong (.code y_Model_spellLong cd_Model_spellLong 13 none :: gw) { frames := 0, cells := 0, slots := 0, locals := 0 } (PC G ([.ref qt, .long a1, .int a2] : List Value) sz (w_Model_clear G qt qt_draft t_draft t_drafted qt_result t_result t_length t_arguments qt_kinds t_kinds qt_values t_values qt_widths t_widths qt_below t_below qt_sizes t_sizes qt_scales t_scales qt_parts t_parts qt_texts t_texts qt_lengths t_lengths t_end t_index t_flags t_twice t_width t_precision t_conversion t_broken qt_piece t_piece t_put t_head qt_tens t_tens t_count t_exponent qt_work t_work)) (QV G (va_A (w_Model_clear G qt qt_draft t_draft t_drafted qt_result t_result t_length t_arguments qt_kinds t_kinds qt_values t_values qt_widths t_widths qt_below t_below qt_sizes t_sizes qt_scales t_scales qt_parts t_parts qt_texts t_texts qt_lengths t_lengths t_end t_index t_flags t_twice t_width t_precision t_conversion t_broken qt_piece t_piece t_put t_head qt_tens t_tens t_count t_exponent qt_work t_work) sz) (w_Model_clear G qt qt_draft t_draft t_drafted qt_result t_result t_length t_arguments qt_kinds t_kinds qt_values t_values qt_widths t_widths qt_below t_below qt_sizes t_sizes qt_scales t_scales qt_parts t_parts qt_texts t_texts qt_lengths t_lengths t_end t_index t_flags t_twice t_width t_precision t_conversion t_broken qt_piece t_piece t_put t_head qt_tens res.2 res.1 t_exponent qt_work t_work)) 0 0 (va_A (w_Model_clear G qt qt_draft t_draft t_drafted qt_result t_result t_length t_arguments qt_kinds t_kinds qt_values t_values qt_widths t_widths qt_below t_below qt_sizes t_sizes qt_scales t_scales qt_parts t_parts qt_texts t_texts qt_lengths t_lengths t_end t_index t_flags t_twice t_width t_precision t_conversion t_broken qt_piece t_piece t_put t_head qt_tens t_tens t_count t_exponent qt_work t_work) sz) := by
  refine Met.ofW (cc := cd_Model_spellLong) (maxL := 13) (ret := none) (by decide) rfl ?_
  intro p e s m args below meth c s₁ B hml hv
  obtain ⟨rfl, hsz, hP, hE, hD0⟩ := hv
  have hx := B.exec
  have hb := B.bytes
  have hr := B.returns
  have hts := atoms_spec (ws := (.code y_Model_spellLong cd_Model_spellLong 13 none :: gw)) B.pre
  have hg : ∀ w ∈ gw, w.before _ s = true := fun w h => hts w (List.mem_cons_of_mem _ h)
  have hown : s.vm.findClass R_Model = some m.cls := findClass_of_methodNamed B.named
  have hlocks := B.notSynchronized
  subst hsz
  have hK := hE.K
  have hD := hD0.self (sz := s.heap.size)
  have hAb := hE.ab hD0
  obtain ⟨Q, hQ⟩ : ∃ Q, MQ below (QV G (va_A (w_Model_clear G qt qt_draft t_draft t_drafted qt_result t_result t_length t_arguments qt_kinds t_kinds qt_values t_values qt_widths t_widths qt_below t_below qt_sizes t_sizes qt_scales t_scales qt_parts t_parts qt_texts t_texts qt_lengths t_lengths t_end t_index t_flags t_twice t_width t_precision t_conversion t_broken qt_piece t_piece t_put t_head qt_tens t_tens t_count t_exponent qt_work t_work) s.heap.size) (w_Model_clear G qt qt_draft t_draft t_drafted qt_result t_result t_length t_arguments qt_kinds t_kinds qt_values t_values qt_widths t_widths qt_below t_below qt_sizes t_sizes qt_scales t_scales qt_parts t_parts qt_texts t_texts qt_lengths t_lengths t_end t_index t_flags t_twice t_width t_precision t_conversion t_broken qt_piece t_piece t_put t_head qt_tens res.2 res.1 t_exponent qt_work t_work)) ([.ref qt, .long a1, .int a2] : List Value).toArray s 0 0 (va_A (w_Model_clear G qt qt_draft t_draft t_drafted qt_result t_result t_length t_arguments qt_kinds t_kinds qt_values t_values qt_widths t_widths qt_below t_below qt_sizes t_sizes qt_scales t_scales qt_parts t_parts qt_texts t_texts qt_lengths t_lengths t_end t_index t_flags t_twice t_width t_precision t_conversion t_broken qt_piece t_piece t_put t_head qt_tens t_tens t_count t_exponent qt_work t_work) s.heap.size) = Q := ⟨_, rfl⟩
  show W p l e { frames := 0, cells := 0, slots := 0, locals := 0 } s m ([.ref qt, .long a1, .int a2] : List Value).toArray below meth c s.heap [] 0 0 (MQ below (QV G (va_A (w_Model_clear G qt qt_draft t_draft t_drafted qt_result t_result t_length t_arguments qt_kinds t_kinds qt_values t_values qt_widths t_widths qt_below t_below qt_sizes t_sizes qt_scales t_scales qt_parts t_parts qt_texts t_texts qt_lengths t_lengths t_end t_index t_flags t_twice t_width t_precision t_conversion t_broken qt_piece t_piece t_put t_head qt_tens t_tens t_count t_exponent qt_work t_work) s.heap.size) (w_Model_clear G qt qt_draft t_draft t_drafted qt_result t_result t_length t_arguments qt_kinds t_kinds qt_values t_values qt_widths t_widths qt_below t_below qt_sizes t_sizes qt_scales t_scales qt_parts t_parts qt_texts t_texts qt_lengths t_lengths t_end t_index t_flags t_twice t_width t_precision t_conversion t_broken qt_piece t_piece t_put t_head qt_tens res.2 res.1 t_exponent qt_work t_work)) ([.ref qt, .long a1, .int a2] : List Value).toArray s 0 0 (va_A (w_Model_clear G qt qt_draft t_draft t_drafted qt_result t_result t_length t_arguments qt_kinds t_kinds qt_values t_values qt_widths t_widths qt_below t_below qt_sizes t_sizes qt_scales t_scales qt_parts t_parts qt_texts t_texts qt_lengths t_lengths t_end t_index t_flags t_twice t_width t_precision t_conversion t_broken qt_piece t_piece t_put t_head qt_tens t_tens t_count t_exponent qt_work t_work) s.heap.size)) _
  rw [hQ]
  have hA : ∀ q : Nat, s.heap.size ≤ q → va_A (w_Model_clear G qt qt_draft t_draft t_drafted qt_result t_result t_length t_arguments qt_kinds t_kinds qt_values t_values qt_widths t_widths qt_below t_below qt_sizes t_sizes qt_scales t_scales qt_parts t_parts qt_texts t_texts qt_lengths t_lengths t_end t_index t_flags t_twice t_width t_precision t_conversion t_broken qt_piece t_piece t_put t_head qt_tens t_tens t_count t_exponent qt_work t_work) s.heap.size q := fun q h => Or.inr h
  obtain ⟨A, hAe⟩ : ∃ A, va_A (w_Model_clear G qt qt_draft t_draft t_drafted qt_result t_result t_length t_arguments qt_kinds t_kinds qt_values t_values qt_widths t_widths qt_below t_below qt_sizes t_sizes qt_scales t_scales qt_parts t_parts qt_texts t_texts qt_lengths t_lengths t_end t_index t_flags t_twice t_width t_precision t_conversion t_broken qt_piece t_piece t_put t_head qt_tens t_tens t_count t_exponent qt_work t_work) s.heap.size = A := ⟨_, rfl⟩
  rw [hAe] at hA hD hAb hQ
  have hS : va_S A s.heap s.heap [] := va_S.rf
  have hl := lv_entry (([.ref qt, .long a1, .int a2] : List Value)) (n := 13) (Nat.le_of_ble_eq_true rfl)
  rw [lg_entry_eq]
  generalize (lg_sl (([.ref qt, .long a1, .int a2] : List Value)) ++ List.replicate (13 - (lg_sl (([.ref qt, .long a1, .int a2] : List Value))).length) Slot.unset).toArray = ls at hl ⊢
  have hl : lv_has ls 13 [(0, .ref qt), (1, .long a1), (3, .int a2)] := hl
  have W_98 : ∀ (x6 : Int32) (t_count : Int32)  (n_98 : Nat) (z98 : Int32 × (Nat → Int32)) , lp_ (b_Model_spellLong_98  x6 t_count) n_98 z98 = some res → ∀ (H : Heap) (locs : List Loc) (ls : Array Slot), va_P (gD G) vwCl (w_Model_clear G qt qt_draft t_draft t_drafted qt_result t_result t_length t_arguments qt_kinds t_kinds qt_values t_values qt_widths t_widths qt_below t_below qt_sizes t_sizes qt_scales t_scales qt_parts t_parts qt_texts t_texts qt_lengths t_lengths t_end t_index t_flags t_twice t_width t_precision t_conversion t_broken qt_piece t_piece t_put t_head qt_tens z98.2 t_count t_exponent qt_work t_work) H → va_D A (w_Model_clear G qt qt_draft t_draft t_drafted qt_result t_result t_length t_arguments qt_kinds t_kinds qt_values t_values qt_widths t_widths qt_below t_below qt_sizes t_sizes qt_scales t_scales qt_parts t_parts qt_texts t_texts qt_lengths t_lengths t_end t_index t_flags t_twice t_width t_precision t_conversion t_broken qt_piece t_piece t_put t_head qt_tens z98.2 t_count t_exponent qt_work t_work) → va_S A s.heap H locs → lv_has ls 13 [(0, .ref qt), (6, .int x6), (7, .int z98.1)] → W p l e { frames := 0, cells := 0, slots := 0, locals := 0 } s m ([.ref qt, .long a1, .int a2] : List Value).toArray below meth c H locs 0 0 Q (F0 m 98 ls []) := by
    intro x6 t_count n_98
    induction n_98 with
    | zero =>
      intro z98  hf
      cases hf
    | succ n_98 ih_98 =>
      intro z98  hf H locs ls hP hD hS hl
      have hf : b_Model_spellLong_98  x6 t_count (lp_ (b_Model_spellLong_98  x6 t_count) n_98) z98 = some res := hf
      generalize lp_ (b_Model_spellLong_98  x6 t_count) n_98 = rec_98 at hf ih_98
      unfold b_Model_spellLong_98 at hf
      refine lv_iload hx hb d_Model_spellLong_98 (lv_at hl 2 rfl) ?_
      refine lv_iload hx hb d_Model_spellLong_100 (lv_at hl 1 rfl) ?_
      refine lv_icmp_ge (tgt := 132) hx hb d_Model_spellLong_102 (by decide) (fun c_102 => ?_) (fun c_102 => ?_)
      · have hf := ip_ c_102 hf
        obtain rfl := Option.some.inj hf
        rw [← hQ]
        exact W.vret hx hb hr (fun t9 ht hW => ⟨⟨(), rfl, trivial, ⟨by rw [ht]; exact hP, hD⟩⟩, hS.F ht⟩) hS.2.2 d_Model_spellLong_132
      · have hf := in_ c_102 hf
        refine lv_aload_n hx hb d_Model_spellLong_105 rfl (lv_at hl 0 rfl) ?_
        refine va_get (D := gD G) (ci := 7) (v := .ref qt_tens) (C := R_Model) (T := F_Model) (N := 29) hx hb hg in_Model hown hK hP 0 rfl rfl 25 (by decide) (hg _ m_459) (fun _ h9 => h9) rfl d_Model_spellLong_106 ?_
        refine lv_iload hx hb d_Model_spellLong_109 (lv_at hl 2 rfl) ?_
        refine lv_aload_n hx hb d_Model_spellLong_111 rfl (lv_at hl 0 rfl) ?_
        refine va_get (D := gD G) (ci := 7) (v := .ref qt_tens) (C := R_Model) (T := F_Model) (N := 29) hx hb hg in_Model hown hK hP 0 rfl rfl 25 (by decide) (hg _ m_459) (fun _ h9 => h9) rfl d_Model_spellLong_112 ?_
        refine lv_sipush (v := 1200) hx hb d_Model_spellLong_115 (by decide) ?_
        refine lv_iload hx hb d_Model_spellLong_118 (lv_at hl 1 rfl) ?_
        refine lv_isub hx hb d_Model_spellLong_120 ?_
        refine lv_iload hx hb d_Model_spellLong_121 (lv_at hl 2 rfl) ?_
        refine lv_iadd hx hb d_Model_spellLong_123 ?_
        obtain ⟨g_124, hf⟩ := gd_ hf
        refine va_iald hx hb hK hP 13 1 rfl rfl (inB_in g_124) d_Model_spellLong_124 ?_
        obtain ⟨g_125, hf⟩ := gd_ hf
        refine va_iast hx hb hK hP hD hS 13 1 rfl rfl (inB_in g_125) d_Model_spellLong_125 (fun H locs hP hD hS => ?_)
        have hP : va_P (gD G) vwCl (w_Model_clear G qt qt_draft t_draft t_drafted qt_result t_result t_length t_arguments qt_kinds t_kinds qt_values t_values qt_widths t_widths qt_below t_below qt_sizes t_sizes qt_scales t_scales qt_parts t_parts qt_texts t_texts qt_lengths t_lengths t_end t_index t_flags t_twice t_width t_precision t_conversion t_broken qt_piece t_piece t_put t_head qt_tens (upd z98.2 z98.1.toNatClampNeg (z98.2 (((1200 : Int32) - x6) + z98.1).toNatClampNeg)) t_count t_exponent qt_work t_work) H := hP
        have hD : va_D A (w_Model_clear G qt qt_draft t_draft t_drafted qt_result t_result t_length t_arguments qt_kinds t_kinds qt_values t_values qt_widths t_widths qt_below t_below qt_sizes t_sizes qt_scales t_scales qt_parts t_parts qt_texts t_texts qt_lengths t_lengths t_end t_index t_flags t_twice t_width t_precision t_conversion t_broken qt_piece t_piece t_put t_head qt_tens (upd z98.2 z98.1.toNatClampNeg (z98.2 (((1200 : Int32) - x6) + z98.1).toNatClampNeg)) t_count t_exponent qt_work t_work) := hD
        refine lv_iinc (v := (z98.1 + 1)) (lv' := [(7, .int (z98.1 + 1)), (0, .ref qt), (6, .int x6)]) hx hb d_Model_spellLong_126 hl (k := 2) rfl rfl (by decide) rfl (fun ls hl => ?_)
        refine lv_goto (tgt := 98) hx hb d_Model_spellLong_129 (by decide) ?_
        exact ih_98 ((z98.1 + 1), (upd z98.2 z98.1.toNatClampNeg (z98.2 (((1200 : Int32) - x6) + z98.1).toNatClampNeg)))  hf _ _ _ hP hD hS (lv_sub hl [1, 2, 0] rfl)
  have W_6 : ∀ (t_count : Int32)  (n_6 : Nat) (z6 : Int64 × Int32 × (Nat → Int32)) , lp_ (b_Model_spellLong_6 K a2 t_count) n_6 z6 = some res → ∀ (H : Heap) (locs : List Loc) (ls : Array Slot), va_P (gD G) vwCl (w_Model_clear G qt qt_draft t_draft t_drafted qt_result t_result t_length t_arguments qt_kinds t_kinds qt_values t_values qt_widths t_widths qt_below t_below qt_sizes t_sizes qt_scales t_scales qt_parts t_parts qt_texts t_texts qt_lengths t_lengths t_end t_index t_flags t_twice t_width t_precision t_conversion t_broken qt_piece t_piece t_put t_head qt_tens z6.2.2 t_count t_exponent qt_work t_work) H → va_D A (w_Model_clear G qt qt_draft t_draft t_drafted qt_result t_result t_length t_arguments qt_kinds t_kinds qt_values t_values qt_widths t_widths qt_below t_below qt_sizes t_sizes qt_scales t_scales qt_parts t_parts qt_texts t_texts qt_lengths t_lengths t_end t_index t_flags t_twice t_width t_precision t_conversion t_broken qt_piece t_piece t_put t_head qt_tens z6.2.2 t_count t_exponent qt_work t_work) → va_S A s.heap H locs → lv_has ls 13 [(0, .ref qt), (3, .int a2), (4, .long z6.1), (6, .int z6.2.1)] → W p l e { frames := 0, cells := 0, slots := 0, locals := 0 } s m ([.ref qt, .long a1, .int a2] : List Value).toArray below meth c H locs 0 0 Q (F0 m 6 ls []) := by
    intro t_count n_6
    induction n_6 with
    | zero =>
      intro z6  hf
      cases hf
    | succ n_6 ih_6 =>
      intro z6  hf H locs ls hP hD hS hl
      have hf : b_Model_spellLong_6 K a2 t_count (lp_ (b_Model_spellLong_6 K a2 t_count) n_6) z6 = some res := hf
      generalize lp_ (b_Model_spellLong_6 K a2 t_count) n_6 = rec_6 at hf ih_6
      have W_65 : ∀ (x6 : Int32) (x9 : Int64) (x11 : Int64) (t_tens : (Nat → Int32)) , k_Model_spellLong_65 rec_6 x6 x9 x11 t_tens = some res → ∀ (H : Heap) (locs : List Loc) (ls : Array Slot), va_P (gD G) vwCl (w_Model_clear G qt qt_draft t_draft t_drafted qt_result t_result t_length t_arguments qt_kinds t_kinds qt_values t_values qt_widths t_widths qt_below t_below qt_sizes t_sizes qt_scales t_scales qt_parts t_parts qt_texts t_texts qt_lengths t_lengths t_end t_index t_flags t_twice t_width t_precision t_conversion t_broken qt_piece t_piece t_put t_head qt_tens t_tens t_count t_exponent qt_work t_work) H → va_D A (w_Model_clear G qt qt_draft t_draft t_drafted qt_result t_result t_length t_arguments qt_kinds t_kinds qt_values t_values qt_widths t_widths qt_below t_below qt_sizes t_sizes qt_scales t_scales qt_parts t_parts qt_texts t_texts qt_lengths t_lengths t_end t_index t_flags t_twice t_width t_precision t_conversion t_broken qt_piece t_piece t_put t_head qt_tens t_tens t_count t_exponent qt_work t_work) → va_S A s.heap H locs → lv_has ls 13 [(0, .ref qt), (3, .int a2), (6, .int x6), (9, .long x9), (11, .long x11)] → W p l e { frames := 0, cells := 0, slots := 0, locals := 0 } s m ([.ref qt, .long a1, .int a2] : List Value).toArray below meth c H locs 0 0 Q (F0 m 65 ls []) := by
        intro x6 x9 x11 t_tens  hf H locs ls hP hD hS hl
        unfold k_Model_spellLong_65 at hf
        refine lv_aload_n hx hb d_Model_spellLong_65 rfl (lv_at hl 0 rfl) ?_
        refine va_get (D := gD G) (ci := 7) (v := .ref qt_tens) (C := R_Model) (T := F_Model) (N := 29) hx hb hg in_Model hown hK hP 0 rfl rfl 25 (by decide) (hg _ m_459) (fun _ h9 => h9) rfl d_Model_spellLong_66 ?_
        refine lv_sipush (v := 1199) hx hb d_Model_spellLong_69 (by decide) ?_
        refine lv_iload hx hb d_Model_spellLong_72 (lv_at hl 2 rfl) ?_
        refine lv_isub hx hb d_Model_spellLong_74 ?_
        refine lv_lload hx hb d_Model_spellLong_75 (lv_at hl 4 rfl) ?_
        refine lv_l2i (v := x11.toInt32) hx hb d_Model_spellLong_77 rfl ?_
        obtain ⟨g_78, hf⟩ := gd_ hf
        refine va_iast hx hb hK hP hD hS 13 1 rfl rfl (inB_in g_78) d_Model_spellLong_78 (fun H locs hP hD hS => ?_)
        have hP : va_P (gD G) vwCl (w_Model_clear G qt qt_draft t_draft t_drafted qt_result t_result t_length t_arguments qt_kinds t_kinds qt_values t_values qt_widths t_widths qt_below t_below qt_sizes t_sizes qt_scales t_scales qt_parts t_parts qt_texts t_texts qt_lengths t_lengths t_end t_index t_flags t_twice t_width t_precision t_conversion t_broken qt_piece t_piece t_put t_head qt_tens (upd t_tens ((1199 : Int32) - x6).toNatClampNeg x11.toInt32) t_count t_exponent qt_work t_work) H := hP
        have hD : va_D A (w_Model_clear G qt qt_draft t_draft t_drafted qt_result t_result t_length t_arguments qt_kinds t_kinds qt_values t_values qt_widths t_widths qt_below t_below qt_sizes t_sizes qt_scales t_scales qt_parts t_parts qt_texts t_texts qt_lengths t_lengths t_end t_index t_flags t_twice t_width t_precision t_conversion t_broken qt_piece t_piece t_put t_head qt_tens (upd t_tens ((1199 : Int32) - x6).toNatClampNeg x11.toInt32) t_count t_exponent qt_work t_work) := hD
        refine lv_iinc (v := (x6 + 1)) (lv' := [(6, .int (x6 + 1)), (0, .ref qt), (3, .int a2), (9, .long x9), (11, .long x11)]) hx hb d_Model_spellLong_79 hl (k := 2) rfl rfl (by decide) rfl (fun ls hl => ?_)
        refine lv_lload hx hb d_Model_spellLong_82 (lv_at hl 3 rfl) ?_
        refine lv_lstore (lv' := [(4, .long x9), (6, .int (x6 + 1)), (0, .ref qt), (3, .int a2), (9, .long x9), (11, .long x11)]) hx hb d_Model_spellLong_84 hl (by decide) rfl (fun ls hl => ?_)
        refine lv_goto (tgt := 6) hx hb d_Model_spellLong_86 (by decide) ?_
        exact ih_6 (x9, (x6 + 1), (upd t_tens ((1199 : Int32) - x6).toNatClampNeg x11.toInt32))  hf _ _ _ hP hD hS (lv_sub hl [2, 3, 0, 1] rfl)
      unfold b_Model_spellLong_6 at hf
      refine lv_lload hx hb d_Model_spellLong_6 (lv_at hl 2 rfl) ?_
      refine lv_lconst (v := 0) hx hb d_Model_spellLong_8 (by decide) ?_
      refine W.lcmp hx hb d_Model_spellLong_9 ?_
      refine lv_if_eq (tgt := 89) hx hb d_Model_spellLong_10 (by decide) (fun c_10 => ?_) (fun c_10 => ?_)
      · have hf := ip_ c_10 hf
        refine lv_aload_n hx hb d_Model_spellLong_89 rfl (lv_at hl 0 rfl) ?_
        refine lv_iload hx hb d_Model_spellLong_90 (lv_at hl 3 rfl) ?_
        refine va_put (D := gD G) (ci := 7) (v := .int z6.2.1) (ty := .int) (C := R_Model) (T := F_Model) (N := 29) hx hb hg in_Model t_Model to_Model no_Model hown hK hP hD hS 0 rfl rfl 26 (by decide) (hg _ m_458) (fun _ h9 => h9) rfl (by decide +kernel) rfl rfl (Nat.le_of_ble_eq_true rfl) d_Model_spellLong_92 (fun H locs hP hD hS => ?_)
        have hP : va_P (gD G) vwCl (w_Model_clear G qt qt_draft t_draft t_drafted qt_result t_result t_length t_arguments qt_kinds t_kinds qt_values t_values qt_widths t_widths qt_below t_below qt_sizes t_sizes qt_scales t_scales qt_parts t_parts qt_texts t_texts qt_lengths t_lengths t_end t_index t_flags t_twice t_width t_precision t_conversion t_broken qt_piece t_piece t_put t_head qt_tens z6.2.2 z6.2.1 t_exponent qt_work t_work) H := hP
        have hD : va_D A (w_Model_clear G qt qt_draft t_draft t_drafted qt_result t_result t_length t_arguments qt_kinds t_kinds qt_values t_values qt_widths t_widths qt_below t_below qt_sizes t_sizes qt_scales t_scales qt_parts t_parts qt_texts t_texts qt_lengths t_lengths t_end t_index t_flags t_twice t_width t_precision t_conversion t_broken qt_piece t_piece t_put t_head qt_tens z6.2.2 z6.2.1 t_exponent qt_work t_work) := hD
        refine lv_iconst (v := 0) hx hb d_Model_spellLong_95 (by decide) ?_
        refine lv_istore (lv' := [(7, .int (0 : Int32)), (0, .ref qt), (3, .int a2), (4, .long z6.1), (6, .int z6.2.1)]) hx hb d_Model_spellLong_96 hl (by decide) rfl (fun ls hl => ?_)
        exact W_98 z6.2.1 z6.2.1  K ((0 : Int32), z6.2.2)  hf _ _ _ hP hD hS (lv_sub hl [1, 4, 0] rfl)
      · have hf := in_ c_10 hf
        refine lv_lload hx hb d_Model_spellLong_13 (lv_at hl 2 rfl) ?_
        refine lv_iconst (v := 1) hx hb d_Model_spellLong_15 (by decide) ?_
        refine lv_lshr (v := (z6.1 >>> ((1 : Int32).toInt64 &&& 63))) hx hb d_Model_spellLong_16 rfl ?_
        refine lv_ldc2 (v := 9223372036854775807) hx hb hown (hg _ m_460) d_Model_spellLong_17 ?_
        refine lv_land hx hb d_Model_spellLong_20 ?_
        refine lv_iload_n hx hb d_Model_spellLong_21 rfl (lv_at hl 1 rfl) ?_
        refine lv_i2l (v := a2.toInt64) hx hb d_Model_spellLong_22 rfl ?_
        obtain ⟨g_23, hf⟩ := gn_ hf
        refine lv_ldiv hx hb d_Model_spellLong_23 g_23 ?_
        refine lv_lstore (lv' := [(7, .long (((z6.1 >>> ((1 : Int32).toInt64 &&& 63)) &&& (9223372036854775807 : Int64)) / a2.toInt64)), (0, .ref qt), (3, .int a2), (4, .long z6.1), (6, .int z6.2.1)]) hx hb d_Model_spellLong_24 hl (by decide) rfl (fun ls hl => ?_)
        refine lv_lload hx hb d_Model_spellLong_26 (lv_at hl 0 rfl) ?_
        refine lv_ldc2 (v := 2) hx hb hown (hg _ m_461) d_Model_spellLong_28 ?_
        refine lv_lmul hx hb d_Model_spellLong_31 ?_
        refine lv_lstore (lv' := [(9, .long ((((z6.1 >>> ((1 : Int32).toInt64 &&& 63)) &&& (9223372036854775807 : Int64)) / a2.toInt64) * (2 : Int64))), (7, .long (((z6.1 >>> ((1 : Int32).toInt64 &&& 63)) &&& (9223372036854775807 : Int64)) / a2.toInt64)), (0, .ref qt), (3, .int a2), (4, .long z6.1), (6, .int z6.2.1)]) hx hb d_Model_spellLong_32 hl (by decide) rfl (fun ls hl => ?_)
        refine lv_lload hx hb d_Model_spellLong_34 (lv_at hl 4 rfl) ?_
        refine lv_lload hx hb d_Model_spellLong_36 (lv_at hl 0 rfl) ?_
        refine lv_iload_n hx hb d_Model_spellLong_38 rfl (lv_at hl 3 rfl) ?_
        refine lv_i2l (v := a2.toInt64) hx hb d_Model_spellLong_39 rfl ?_
        refine lv_lmul hx hb d_Model_spellLong_40 ?_
        refine lv_lsub hx hb d_Model_spellLong_41 ?_
        refine lv_lstore (lv' := [(11, .long (z6.1 - (((((z6.1 >>> ((1 : Int32).toInt64 &&& 63)) &&& (9223372036854775807 : Int64)) / a2.toInt64) * (2 : Int64)) * a2.toInt64))), (9, .long ((((z6.1 >>> ((1 : Int32).toInt64 &&& 63)) &&& (9223372036854775807 : Int64)) / a2.toInt64) * (2 : Int64))), (7, .long (((z6.1 >>> ((1 : Int32).toInt64 &&& 63)) &&& (9223372036854775807 : Int64)) / a2.toInt64)), (0, .ref qt), (3, .int a2), (4, .long z6.1), (6, .int z6.2.1)]) hx hb d_Model_spellLong_42 hl (by decide) rfl (fun ls hl => ?_)
        refine lv_lload hx hb d_Model_spellLong_44 (lv_at hl 0 rfl) ?_
        refine lv_iload_n hx hb d_Model_spellLong_46 rfl (lv_at hl 4 rfl) ?_
        refine lv_i2l (v := a2.toInt64) hx hb d_Model_spellLong_47 rfl ?_
        refine W.lcmp hx hb d_Model_spellLong_48 ?_
        refine lv_if_lt (tgt := 65) hx hb d_Model_spellLong_49 (by decide) (fun c_49 => ?_) (fun c_49 => ?_)
        · have hf := ip_ c_49 hf
          exact W_65 z6.2.1 ((((z6.1 >>> ((1 : Int32).toInt64 &&& 63)) &&& (9223372036854775807 : Int64)) / a2.toInt64) * (2 : Int64)) (z6.1 - (((((z6.1 >>> ((1 : Int32).toInt64 &&& 63)) &&& (9223372036854775807 : Int64)) / a2.toInt64) * (2 : Int64)) * a2.toInt64)) z6.2.2  hf _ _ _ hP hD hS (lv_sub hl [3, 4, 6, 1, 0] rfl)
        · have hf := in_ c_49 hf
          refine lv_lload hx hb d_Model_spellLong_52 (lv_at hl 1 rfl) ?_
          refine lv_lconst (v := 1) hx hb d_Model_spellLong_54 (by decide) ?_
          refine lv_ladd hx hb d_Model_spellLong_55 ?_
          refine lv_lstore (lv' := [(9, .long (((((z6.1 >>> ((1 : Int32).toInt64 &&& 63)) &&& (9223372036854775807 : Int64)) / a2.toInt64) * (2 : Int64)) + (1 : Int64))), (11, .long (z6.1 - (((((z6.1 >>> ((1 : Int32).toInt64 &&& 63)) &&& (9223372036854775807 : Int64)) / a2.toInt64) * (2 : Int64)) * a2.toInt64))), (7, .long (((z6.1 >>> ((1 : Int32).toInt64 &&& 63)) &&& (9223372036854775807 : Int64)) / a2.toInt64)), (0, .ref qt), (3, .int a2), (4, .long z6.1), (6, .int z6.2.1)]) hx hb d_Model_spellLong_56 hl (by decide) rfl (fun ls hl => ?_)
          refine lv_lload hx hb d_Model_spellLong_58 (lv_at hl 1 rfl) ?_
          refine lv_iload_n hx hb d_Model_spellLong_60 rfl (lv_at hl 4 rfl) ?_
          refine lv_i2l (v := a2.toInt64) hx hb d_Model_spellLong_61 rfl ?_
          refine lv_lsub hx hb d_Model_spellLong_62 ?_
          refine lv_lstore (lv' := [(11, .long ((z6.1 - (((((z6.1 >>> ((1 : Int32).toInt64 &&& 63)) &&& (9223372036854775807 : Int64)) / a2.toInt64) * (2 : Int64)) * a2.toInt64)) - a2.toInt64)), (9, .long (((((z6.1 >>> ((1 : Int32).toInt64 &&& 63)) &&& (9223372036854775807 : Int64)) / a2.toInt64) * (2 : Int64)) + (1 : Int64))), (7, .long (((z6.1 >>> ((1 : Int32).toInt64 &&& 63)) &&& (9223372036854775807 : Int64)) / a2.toInt64)), (0, .ref qt), (3, .int a2), (4, .long z6.1), (6, .int z6.2.1)]) hx hb d_Model_spellLong_63 hl (by decide) rfl (fun ls hl => ?_)
          exact W_65 z6.2.1 (((((z6.1 >>> ((1 : Int32).toInt64 &&& 63)) &&& (9223372036854775807 : Int64)) / a2.toInt64) * (2 : Int64)) + (1 : Int64)) ((z6.1 - (((((z6.1 >>> ((1 : Int32).toInt64 &&& 63)) &&& (9223372036854775807 : Int64)) / a2.toInt64) * (2 : Int64)) * a2.toInt64)) - a2.toInt64) z6.2.2  hf _ _ _ hP hD hS (lv_sub hl [3, 4, 6, 1, 0] rfl)
  unfold f_Model_spellLong at hf
  refine lv_lload_n hx hb d_Model_spellLong_0 rfl (lv_at hl 1 rfl) ?_
  refine lv_lstore (lv' := [(4, .long a1), (0, .ref qt), (1, .long a1), (3, .int a2)]) hx hb d_Model_spellLong_1 hl (by decide) rfl (fun ls hl => ?_)
  refine lv_iconst (v := 0) hx hb d_Model_spellLong_3 (by decide) ?_
  refine lv_istore (lv' := [(6, .int (0 : Int32)), (4, .long a1), (0, .ref qt), (1, .long a1), (3, .int a2)]) hx hb d_Model_spellLong_4 hl (by decide) rfl (fun ls hl => ?_)
  exact W_6 t_count  K (a1, (0 : Int32), t_tens)  hf _ _ _ hP hD hS (lv_sub hl [2, 4, 1, 0] rfl)
theorem d_Model_take_0 : decode cd_Model_take 0 = .ok (.aload_n 0, 1) := by decide +kernel
theorem d_Model_take_1 : decode cd_Model_take 1 = .ok (.getfield 16, 3) := by decide +kernel
theorem d_Model_take_4 : decode cd_Model_take 4 = .ok (.iload_n 1, 1) := by decide +kernel
theorem d_Model_take_5 : decode cd_Model_take 5 = .ok (.iaload, 1) := by decide +kernel
theorem d_Model_take_6 : decode cd_Model_take 6 = .ok (.iconst 5, 1) := by decide +kernel
theorem d_Model_take_7 : decode cd_Model_take 7 = .ok (.if_icmp .ne 13, 3) := by decide +kernel
theorem d_Model_take_10 : decode cd_Model_take 10 = .ok (.aload_n 0, 1) := by decide +kernel
theorem d_Model_take_11 : decode cd_Model_take 11 = .ok (.iload_n 1, 1) := by decide +kernel
theorem d_Model_take_12 : decode cd_Model_take 12 = .ok (.bipush 10, 2) := by decide +kernel
theorem d_Model_take_14 : decode cd_Model_take 14 = .ok (.invokevirtual 150, 3) := by decide +kernel
theorem d_Model_take_17 : decode cd_Model_take 17 = .ok (.goto 15, 3) := by decide +kernel
theorem d_Model_take_20 : decode cd_Model_take 20 = .ok (.aload_n 0, 1) := by decide +kernel
theorem d_Model_take_21 : decode cd_Model_take 21 = .ok (.aload_n 0, 1) := by decide +kernel
theorem d_Model_take_22 : decode cd_Model_take 22 = .ok (.getfield 36, 3) := by decide +kernel
theorem d_Model_take_25 : decode cd_Model_take 25 = .ok (.iload_n 1, 1) := by decide +kernel
theorem d_Model_take_26 : decode cd_Model_take 26 = .ok (.laload, 1) := by decide +kernel
theorem d_Model_take_27 : decode cd_Model_take 27 = .ok (.bipush 10, 2) := by decide +kernel
theorem d_Model_take_29 : decode cd_Model_take 29 = .ok (.invokevirtual 154, 3) := by decide +kernel
theorem d_Model_take_32 : decode cd_Model_take 32 = .ok (.aload_n 0, 1) := by decide +kernel
theorem d_Model_take_33 : decode cd_Model_take 33 = .ok (.aload_n 0, 1) := by decide +kernel
theorem d_Model_take_34 : decode cd_Model_take 34 = .ok (.getfield 143, 3) := by decide +kernel
theorem d_Model_take_37 : decode cd_Model_take 37 = .ok (.iconst 1, 1) := by decide +kernel
theorem d_Model_take_38 : decode cd_Model_take 38 = .ok (.isub, 1) := by decide +kernel
theorem d_Model_take_39 : decode cd_Model_take 39 = .ok (.aload_n 0, 1) := by decide +kernel
theorem d_Model_take_40 : decode cd_Model_take 40 = .ok (.getfield 33, 3) := by decide +kernel
theorem d_Model_take_43 : decode cd_Model_take 43 = .ok (.iload_n 1, 1) := by decide +kernel
theorem d_Model_take_44 : decode cd_Model_take 44 = .ok (.iaload, 1) := by decide +kernel
theorem d_Model_take_45 : decode cd_Model_take 45 = .ok (.isub, 1) := by decide +kernel
theorem d_Model_take_46 : decode cd_Model_take 46 = .ok (.putfield 158, 3) := by decide +kernel
theorem d_Model_take_49 : decode cd_Model_take 49 = .ok (.return_, 1) := by decide +kernel
theorem m_462 : Cond.methodLink R_Model 154 y_Model_spellLong ∈ gw := gm (i := 1095) (by decide +kernel) (by decide +kernel)
theorem m_463 : Cond.instanceMethod y_Model_spellLong ∈ gw := gm (i := 1097) (by decide +kernel) (by decide +kernel)
theorem m_464 : Cond.selects R_Model y_Model_spellLong y_Model_spellLong ∈ gw := gm (i := 58) (by decide +kernel) (by decide +kernel)
set_option maxRecDepth 100000 in
theorem m_465 : Cond.code y_Model_spellLong cd_Model_spellLong 13 none ∈ gw := gm (i := 1098) rfl rfl
theorem m_466 : Cond.methodLink R_Model 150 y_Model_spell ∈ gw := gm (i := 1101) (by decide +kernel) (by decide +kernel)
theorem m_467 : Cond.instanceMethod y_Model_spell ∈ gw := gm (i := 1103) (by decide +kernel) (by decide +kernel)
theorem m_468 : Cond.selects R_Model y_Model_spell y_Model_spell ∈ gw := gm (i := 59) (by decide +kernel) (by decide +kernel)
set_option maxRecDepth 100000 in
theorem m_469 : Cond.code y_Model_spell cd_Model_spell 8 none ∈ gw := gm (i := 1104) rfl rfl
theorem m_470 : Cond.fieldLink R_Model 158 "SpecifierDeskModel" "exponent" "I" ∈ gw := gm (i := 887) (by decide +kernel) (by decide +kernel)
def k_Model_take_32 (t_scales : Nat → Int32) (a1 : Int32) (t_count : Int32) (t_exponent : Int32) (t_tens : (Nat → Int32)) (t_work : (Nat → Int32)) : Option (Int32 × Int32 × (Nat → Int32) × (Nat → Int32)) :=
  (if inB a1 12 = true then some (t_count, ((t_count - (1 : Int32)) - (t_scales a1.toNatClampNeg)), t_tens, t_work) else none)
def f_Model_take (K : Nat) (t_kinds : Nat → Int32) (t_sizes : Nat → Int32) (t_scales : Nat → Int32) (t_parts : Nat → Int64) (t_tens : Nat → Int32) (t_count : Int32) (t_exponent : Int32) (t_work : Nat → Int32) (a1 : Int32) : Option (Int32 × Int32 × (Nat → Int32) × (Nat → Int32)) :=
  (if inB a1 12 = true then (if (t_kinds a1.toNatClampNeg) = (5 : Int32) then ((f_Model_spell K t_sizes t_tens t_count t_work a1 (10 : Int32)).bind fun u_14 => k_Model_take_32 t_scales a1 u_14.1 t_exponent u_14.2.1 u_14.2.2) else (if inB a1 12 = true then ((f_Model_spellLong K t_tens t_count (t_parts a1.toNatClampNeg) (10 : Int32)).bind fun u_29 => k_Model_take_32 t_scales a1 u_29.1 t_exponent u_29.2 t_work) else none)) else none)
set_option maxHeartbeats 4000000 in
set_option maxRecDepth 100000 in
theorem c_Model_take (l : Launch) (G : Gt) (K : Nat) (qt : Nat) (qt_draft : Nat) (t_draft : Nat → Int32) (t_drafted : Int32) (qt_result : Nat) (t_result : Nat → Int32) (t_length : Int32) (t_arguments : Int32) (qt_kinds : Nat) (t_kinds : Nat → Int32) (qt_values : Nat) (t_values : Nat → Int64) (qt_widths : Nat) (t_widths : Nat → Int32) (qt_below : Nat) (t_below : Nat → Int32) (qt_sizes : Nat) (t_sizes : Nat → Int32) (qt_scales : Nat) (t_scales : Nat → Int32) (qt_parts : Nat) (t_parts : Nat → Int64) (qt_texts : Nat) (t_texts : Nat → Int32) (qt_lengths : Nat) (t_lengths : Nat → Int32) (t_end : Int32) (t_index : Int32) (t_flags : Int32) (t_twice : Int32) (t_width : Int32) (t_precision : Int32) (t_conversion : Int32) (t_broken : Int32) (qt_piece : Nat) (t_piece : Nat → Int32) (t_put : Int32) (t_head : Int32) (qt_tens : Nat) (t_tens : Nat → Int32) (t_count : Int32) (t_exponent : Int32) (qt_work : Nat) (t_work : Nat → Int32) (a1 : Int32) (sz : Nat) (res : Int32 × Int32 × (Nat → Int32) × (Nat → Int32))   (hf : f_Model_take K t_kinds t_sizes t_scales t_parts t_tens t_count t_exponent t_work a1 = some res) : Met l y_Model_take (.code y_Model_take cd_Model_take 2 none :: gw) { frames := 1, cells := 0, slots := 0, locals := 40 } (PC G ([.ref qt, .int a1] : List Value) sz (w_Model_clear G qt qt_draft t_draft t_drafted qt_result t_result t_length t_arguments qt_kinds t_kinds qt_values t_values qt_widths t_widths qt_below t_below qt_sizes t_sizes qt_scales t_scales qt_parts t_parts qt_texts t_texts qt_lengths t_lengths t_end t_index t_flags t_twice t_width t_precision t_conversion t_broken qt_piece t_piece t_put t_head qt_tens t_tens t_count t_exponent qt_work t_work)) (QV G (va_A (w_Model_clear G qt qt_draft t_draft t_drafted qt_result t_result t_length t_arguments qt_kinds t_kinds qt_values t_values qt_widths t_widths qt_below t_below qt_sizes t_sizes qt_scales t_scales qt_parts t_parts qt_texts t_texts qt_lengths t_lengths t_end t_index t_flags t_twice t_width t_precision t_conversion t_broken qt_piece t_piece t_put t_head qt_tens t_tens t_count t_exponent qt_work t_work) sz) (w_Model_clear G qt qt_draft t_draft t_drafted qt_result t_result t_length t_arguments qt_kinds t_kinds qt_values t_values qt_widths t_widths qt_below t_below qt_sizes t_sizes qt_scales t_scales qt_parts t_parts qt_texts t_texts qt_lengths t_lengths t_end t_index t_flags t_twice t_width t_precision t_conversion t_broken qt_piece t_piece t_put t_head qt_tens res.2.2.1 res.1 res.2.1 qt_work res.2.2.2)) 0 0 (va_A (w_Model_clear G qt qt_draft t_draft t_drafted qt_result t_result t_length t_arguments qt_kinds t_kinds qt_values t_values qt_widths t_widths qt_below t_below qt_sizes t_sizes qt_scales t_scales qt_parts t_parts qt_texts t_texts qt_lengths t_lengths t_end t_index t_flags t_twice t_width t_precision t_conversion t_broken qt_piece t_piece t_put t_head qt_tens t_tens t_count t_exponent qt_work t_work) sz) := by
  refine Met.ofW (cc := cd_Model_take) (maxL := 2) (ret := none) (by decide) rfl ?_
  intro p e s m args below meth c s₁ B hml hv
  obtain ⟨rfl, hsz, hP, hE, hD0⟩ := hv
  have hx := B.exec
  have hb := B.bytes
  have hr := B.returns
  have hts := atoms_spec (ws := (.code y_Model_take cd_Model_take 2 none :: gw)) B.pre
  have hg : ∀ w ∈ gw, w.before _ s = true := fun w h => hts w (List.mem_cons_of_mem _ h)
  have hown : s.vm.findClass R_Model = some m.cls := findClass_of_methodNamed B.named
  have hlocks := B.notSynchronized
  subst hsz
  have hK := hE.K
  have hD := hD0.self (sz := s.heap.size)
  have hAb := hE.ab hD0
  obtain ⟨Q, hQ⟩ : ∃ Q, MQ below (QV G (va_A (w_Model_clear G qt qt_draft t_draft t_drafted qt_result t_result t_length t_arguments qt_kinds t_kinds qt_values t_values qt_widths t_widths qt_below t_below qt_sizes t_sizes qt_scales t_scales qt_parts t_parts qt_texts t_texts qt_lengths t_lengths t_end t_index t_flags t_twice t_width t_precision t_conversion t_broken qt_piece t_piece t_put t_head qt_tens t_tens t_count t_exponent qt_work t_work) s.heap.size) (w_Model_clear G qt qt_draft t_draft t_drafted qt_result t_result t_length t_arguments qt_kinds t_kinds qt_values t_values qt_widths t_widths qt_below t_below qt_sizes t_sizes qt_scales t_scales qt_parts t_parts qt_texts t_texts qt_lengths t_lengths t_end t_index t_flags t_twice t_width t_precision t_conversion t_broken qt_piece t_piece t_put t_head qt_tens res.2.2.1 res.1 res.2.1 qt_work res.2.2.2)) ([.ref qt, .int a1] : List Value).toArray s 0 0 (va_A (w_Model_clear G qt qt_draft t_draft t_drafted qt_result t_result t_length t_arguments qt_kinds t_kinds qt_values t_values qt_widths t_widths qt_below t_below qt_sizes t_sizes qt_scales t_scales qt_parts t_parts qt_texts t_texts qt_lengths t_lengths t_end t_index t_flags t_twice t_width t_precision t_conversion t_broken qt_piece t_piece t_put t_head qt_tens t_tens t_count t_exponent qt_work t_work) s.heap.size) = Q := ⟨_, rfl⟩
  show W p l e { frames := 1, cells := 0, slots := 0, locals := 40 } s m ([.ref qt, .int a1] : List Value).toArray below meth c s.heap [] 0 0 (MQ below (QV G (va_A (w_Model_clear G qt qt_draft t_draft t_drafted qt_result t_result t_length t_arguments qt_kinds t_kinds qt_values t_values qt_widths t_widths qt_below t_below qt_sizes t_sizes qt_scales t_scales qt_parts t_parts qt_texts t_texts qt_lengths t_lengths t_end t_index t_flags t_twice t_width t_precision t_conversion t_broken qt_piece t_piece t_put t_head qt_tens t_tens t_count t_exponent qt_work t_work) s.heap.size) (w_Model_clear G qt qt_draft t_draft t_drafted qt_result t_result t_length t_arguments qt_kinds t_kinds qt_values t_values qt_widths t_widths qt_below t_below qt_sizes t_sizes qt_scales t_scales qt_parts t_parts qt_texts t_texts qt_lengths t_lengths t_end t_index t_flags t_twice t_width t_precision t_conversion t_broken qt_piece t_piece t_put t_head qt_tens res.2.2.1 res.1 res.2.1 qt_work res.2.2.2)) ([.ref qt, .int a1] : List Value).toArray s 0 0 (va_A (w_Model_clear G qt qt_draft t_draft t_drafted qt_result t_result t_length t_arguments qt_kinds t_kinds qt_values t_values qt_widths t_widths qt_below t_below qt_sizes t_sizes qt_scales t_scales qt_parts t_parts qt_texts t_texts qt_lengths t_lengths t_end t_index t_flags t_twice t_width t_precision t_conversion t_broken qt_piece t_piece t_put t_head qt_tens t_tens t_count t_exponent qt_work t_work) s.heap.size)) _
  rw [hQ]
  have hA : ∀ q : Nat, s.heap.size ≤ q → va_A (w_Model_clear G qt qt_draft t_draft t_drafted qt_result t_result t_length t_arguments qt_kinds t_kinds qt_values t_values qt_widths t_widths qt_below t_below qt_sizes t_sizes qt_scales t_scales qt_parts t_parts qt_texts t_texts qt_lengths t_lengths t_end t_index t_flags t_twice t_width t_precision t_conversion t_broken qt_piece t_piece t_put t_head qt_tens t_tens t_count t_exponent qt_work t_work) s.heap.size q := fun q h => Or.inr h
  obtain ⟨A, hAe⟩ : ∃ A, va_A (w_Model_clear G qt qt_draft t_draft t_drafted qt_result t_result t_length t_arguments qt_kinds t_kinds qt_values t_values qt_widths t_widths qt_below t_below qt_sizes t_sizes qt_scales t_scales qt_parts t_parts qt_texts t_texts qt_lengths t_lengths t_end t_index t_flags t_twice t_width t_precision t_conversion t_broken qt_piece t_piece t_put t_head qt_tens t_tens t_count t_exponent qt_work t_work) s.heap.size = A := ⟨_, rfl⟩
  rw [hAe] at hA hD hAb hQ
  have hS : va_S A s.heap s.heap [] := va_S.rf
  have hl := lv_entry (([.ref qt, .int a1] : List Value)) (n := 2) (Nat.le_of_ble_eq_true rfl)
  rw [lg_entry_eq]
  generalize (lg_sl (([.ref qt, .int a1] : List Value)) ++ List.replicate (2 - (lg_sl (([.ref qt, .int a1] : List Value))).length) Slot.unset).toArray = ls at hl ⊢
  have hl : lv_has ls 2 [(0, .ref qt), (1, .int a1)] := hl
  have W_32 : ∀ (t_count : Int32) (t_exponent : Int32) (t_tens : (Nat → Int32)) (t_work : (Nat → Int32)) , k_Model_take_32 t_scales a1 t_count t_exponent t_tens t_work = some res → ∀ (H : Heap) (locs : List Loc) (ls : Array Slot), va_P (gD G) vwCl (w_Model_clear G qt qt_draft t_draft t_drafted qt_result t_result t_length t_arguments qt_kinds t_kinds qt_values t_values qt_widths t_widths qt_below t_below qt_sizes t_sizes qt_scales t_scales qt_parts t_parts qt_texts t_texts qt_lengths t_lengths t_end t_index t_flags t_twice t_width t_precision t_conversion t_broken qt_piece t_piece t_put t_head qt_tens t_tens t_count t_exponent qt_work t_work) H → va_D A (w_Model_clear G qt qt_draft t_draft t_drafted qt_result t_result t_length t_arguments qt_kinds t_kinds qt_values t_values qt_widths t_widths qt_below t_below qt_sizes t_sizes qt_scales t_scales qt_parts t_parts qt_texts t_texts qt_lengths t_lengths t_end t_index t_flags t_twice t_width t_precision t_conversion t_broken qt_piece t_piece t_put t_head qt_tens t_tens t_count t_exponent qt_work t_work) → va_S A s.heap H locs → lv_has ls 2 [(0, .ref qt), (1, .int a1)] → W p l e { frames := 1, cells := 0, slots := 0, locals := 40 } s m ([.ref qt, .int a1] : List Value).toArray below meth c H locs 0 0 Q (F0 m 32 ls []) := by
    intro t_count t_exponent t_tens t_work  hf H locs ls hP hD hS hl
    unfold k_Model_take_32 at hf
    refine lv_aload_n hx hb d_Model_take_32 rfl (lv_at hl 0 rfl) ?_
    refine lv_aload_n hx hb d_Model_take_33 rfl (lv_at hl 0 rfl) ?_
    refine va_get (D := gD G) (ci := 7) (v := .int t_count) (C := R_Model) (T := F_Model) (N := 29) hx hb hg in_Model hown hK hP 0 rfl rfl 26 (by decide) (hg _ m_458) (fun _ h9 => h9) rfl d_Model_take_34 ?_
    refine lv_iconst (v := 1) hx hb d_Model_take_37 (by decide) ?_
    refine lv_isub hx hb d_Model_take_38 ?_
    refine lv_aload_n hx hb d_Model_take_39 rfl (lv_at hl 0 rfl) ?_
    refine va_get (D := gD G) (ci := 7) (v := .ref qt_scales) (C := R_Model) (T := F_Model) (N := 29) hx hb hg in_Model hown hK hP 0 rfl rfl 10 (by decide) (hg _ m_397) (fun _ h9 => h9) rfl d_Model_take_40 ?_
    refine lv_iload_n hx hb d_Model_take_43 rfl (lv_at hl 1 rfl) ?_
    obtain ⟨g_44, hf⟩ := gd_ hf
    refine va_iald hx hb hK hP 8 1 rfl rfl (inB_in g_44) d_Model_take_44 ?_
    refine lv_isub hx hb d_Model_take_45 ?_
    refine va_put (D := gD G) (ci := 7) (v := .int ((t_count - (1 : Int32)) - (t_scales a1.toNatClampNeg))) (ty := .int) (C := R_Model) (T := F_Model) (N := 29) hx hb hg in_Model t_Model to_Model no_Model hown hK hP hD hS 0 rfl rfl 27 (by decide) (hg _ m_470) (fun _ h9 => h9) rfl (by decide +kernel) rfl rfl (Nat.le_of_ble_eq_true rfl) d_Model_take_46 (fun H locs hP hD hS => ?_)
    have hP : va_P (gD G) vwCl (w_Model_clear G qt qt_draft t_draft t_drafted qt_result t_result t_length t_arguments qt_kinds t_kinds qt_values t_values qt_widths t_widths qt_below t_below qt_sizes t_sizes qt_scales t_scales qt_parts t_parts qt_texts t_texts qt_lengths t_lengths t_end t_index t_flags t_twice t_width t_precision t_conversion t_broken qt_piece t_piece t_put t_head qt_tens t_tens t_count ((t_count - (1 : Int32)) - (t_scales a1.toNatClampNeg)) qt_work t_work) H := hP
    have hD : va_D A (w_Model_clear G qt qt_draft t_draft t_drafted qt_result t_result t_length t_arguments qt_kinds t_kinds qt_values t_values qt_widths t_widths qt_below t_below qt_sizes t_sizes qt_scales t_scales qt_parts t_parts qt_texts t_texts qt_lengths t_lengths t_end t_index t_flags t_twice t_width t_precision t_conversion t_broken qt_piece t_piece t_put t_head qt_tens t_tens t_count ((t_count - (1 : Int32)) - (t_scales a1.toNatClampNeg)) qt_work t_work) := hD
    obtain rfl := Option.some.inj hf
    rw [← hQ]
    exact W.vret hx hb hr (fun t9 ht hW => ⟨⟨(), rfl, trivial, ⟨by rw [ht]; exact hP, hD⟩⟩, hS.F ht⟩) hS.2.2 d_Model_take_49
  unfold f_Model_take at hf
  refine lv_aload_n hx hb d_Model_take_0 rfl (lv_at hl 0 rfl) ?_
  refine va_get (D := gD G) (ci := 7) (v := .ref qt_kinds) (C := R_Model) (T := F_Model) (N := 29) hx hb hg in_Model hown hK hP 0 rfl rfl 5 (by decide) (hg _ m_382) (fun _ h9 => h9) rfl d_Model_take_1 ?_
  refine lv_iload_n hx hb d_Model_take_4 rfl (lv_at hl 1 rfl) ?_
  obtain ⟨g_5, hf⟩ := gd_ hf
  refine va_iald hx hb hK hP 3 1 rfl rfl (inB_in g_5) d_Model_take_5 ?_
  refine lv_iconst (v := 5) hx hb d_Model_take_6 (by decide) ?_
  refine lv_icmp_ne (tgt := 20) hx hb d_Model_take_7 (by decide) (fun c_7 => ?_) (fun c_7 => ?_)
  · have hf := in_ c_7 hf
    refine lv_aload_n hx hb d_Model_take_20 rfl (lv_at hl 0 rfl) ?_
    refine lv_aload_n hx hb d_Model_take_21 rfl (lv_at hl 0 rfl) ?_
    refine va_get (D := gD G) (ci := 7) (v := .ref qt_parts) (C := R_Model) (T := F_Model) (N := 29) hx hb hg in_Model hown hK hP 0 rfl rfl 11 (by decide) (hg _ m_399) (fun _ h9 => h9) rfl d_Model_take_22 ?_
    refine lv_iload_n hx hb d_Model_take_25 rfl (lv_at hl 1 rfl) ?_
    obtain ⟨g_26, hf⟩ := gd_ hf
    refine va_lald hx hb hK hP 9 2 rfl rfl (inB_in g_26) d_Model_take_26 ?_
    refine lv_bipush (v := 10) hx hb d_Model_take_27 (by decide) ?_
    obtain ⟨u_29, hu_29, hf⟩ := bd_ hf
    refine CALLWv (va_runV (As := [.long (t_parts a1.toNatClampNeg), .int (10 : Int32)]) (rest := []) ⟨hx, hb, hml, hown, hg⟩ (c_Model_spellLong l G K qt qt_draft t_draft t_drafted qt_result t_result t_length t_arguments qt_kinds t_kinds qt_values t_values qt_widths t_widths qt_below t_below qt_sizes t_sizes qt_scales t_scales qt_parts t_parts qt_texts t_texts qt_lengths t_lengths t_end t_index t_flags t_twice t_width t_precision t_conversion t_broken qt_piece t_piece t_put t_head qt_tens t_tens t_count t_exponent qt_work t_work (t_parts a1.toNatClampNeg) (10 : Int32) _ u_29  hu_29) (cwV 2 hg (gV m_462 m_463 m_464 m_389 m_465) rfl rfl rfl (by decide +kernel) ⟨Nat.le_of_ble_eq_true rfl, Nat.le_of_ble_eq_true rfl⟩) ⟨PC_b, va_recv hK hP (ci := 7) (q0 := 0) rfl rfl, PC_p hE hS hAb hP hD⟩ rfl rfl hl.1 rfl (lv_room (Nat.le_of_ble_eq_true rfl)) d_Model_take_29 ⟨Nat.zero_le _, Nat.zero_le _⟩) hP hD hS hA (fun H locs hP hD hS => ?_)
    have hP : va_P (gD G) vwCl (w_Model_clear G qt qt_draft t_draft t_drafted qt_result t_result t_length t_arguments qt_kinds t_kinds qt_values t_values qt_widths t_widths qt_below t_below qt_sizes t_sizes qt_scales t_scales qt_parts t_parts qt_texts t_texts qt_lengths t_lengths t_end t_index t_flags t_twice t_width t_precision t_conversion t_broken qt_piece t_piece t_put t_head qt_tens u_29.2 u_29.1 t_exponent qt_work t_work) H := hP
    have hD : va_D A (w_Model_clear G qt qt_draft t_draft t_drafted qt_result t_result t_length t_arguments qt_kinds t_kinds qt_values t_values qt_widths t_widths qt_below t_below qt_sizes t_sizes qt_scales t_scales qt_parts t_parts qt_texts t_texts qt_lengths t_lengths t_end t_index t_flags t_twice t_width t_precision t_conversion t_broken qt_piece t_piece t_put t_head qt_tens u_29.2 u_29.1 t_exponent qt_work t_work) := hD
    exact W_32 u_29.1 t_exponent u_29.2 t_work  hf _ _ _ hP hD hS (lv_sub hl [0, 1] rfl)
  · have hf := ip_ c_7 hf
    refine lv_aload_n hx hb d_Model_take_10 rfl (lv_at hl 0 rfl) ?_
    refine lv_iload_n hx hb d_Model_take_11 rfl (lv_at hl 1 rfl) ?_
    refine lv_bipush (v := 10) hx hb d_Model_take_12 (by decide) ?_
    obtain ⟨u_14, hu_14, hf⟩ := bd_ hf
    refine CALLWv (va_runV (As := [.int a1, .int (10 : Int32)]) (rest := []) ⟨hx, hb, hml, hown, hg⟩ (c_Model_spell l G K qt qt_draft t_draft t_drafted qt_result t_result t_length t_arguments qt_kinds t_kinds qt_values t_values qt_widths t_widths qt_below t_below qt_sizes t_sizes qt_scales t_scales qt_parts t_parts qt_texts t_texts qt_lengths t_lengths t_end t_index t_flags t_twice t_width t_precision t_conversion t_broken qt_piece t_piece t_put t_head qt_tens t_tens t_count t_exponent qt_work t_work a1 (10 : Int32) _ u_14  hu_14) (cwV 2 hg (gV m_466 m_467 m_468 m_389 m_469) rfl rfl rfl (by decide +kernel) ⟨Nat.le_of_ble_eq_true rfl, Nat.le_of_ble_eq_true rfl⟩) ⟨PC_b, va_recv hK hP (ci := 7) (q0 := 0) rfl rfl, PC_p hE hS hAb hP hD⟩ rfl rfl hl.1 rfl (lv_room (Nat.le_of_ble_eq_true rfl)) d_Model_take_14 ⟨Nat.zero_le _, Nat.zero_le _⟩) hP hD hS hA (fun H locs hP hD hS => ?_)
    have hP : va_P (gD G) vwCl (w_Model_clear G qt qt_draft t_draft t_drafted qt_result t_result t_length t_arguments qt_kinds t_kinds qt_values t_values qt_widths t_widths qt_below t_below qt_sizes t_sizes qt_scales t_scales qt_parts t_parts qt_texts t_texts qt_lengths t_lengths t_end t_index t_flags t_twice t_width t_precision t_conversion t_broken qt_piece t_piece t_put t_head qt_tens u_14.2.1 u_14.1 t_exponent qt_work u_14.2.2) H := hP
    have hD : va_D A (w_Model_clear G qt qt_draft t_draft t_drafted qt_result t_result t_length t_arguments qt_kinds t_kinds qt_values t_values qt_widths t_widths qt_below t_below qt_sizes t_sizes qt_scales t_scales qt_parts t_parts qt_texts t_texts qt_lengths t_lengths t_end t_index t_flags t_twice t_width t_precision t_conversion t_broken qt_piece t_piece t_put t_head qt_tens u_14.2.1 u_14.1 t_exponent qt_work u_14.2.2) := hD
    refine lv_goto (tgt := 32) hx hb d_Model_take_17 (by decide) ?_
    exact W_32 u_14.1 t_exponent u_14.2.1 u_14.2.2  hf _ _ _ hP hD hS (lv_sub hl [0, 1] rfl)
theorem d_Model_digit_0 : decode cd_Model_digit 0 = .ok (.iload_n 1, 1) := by decide +kernel
theorem d_Model_digit_1 : decode cd_Model_digit 1 = .ok (.ifCond .lt 20, 3) := by decide +kernel
theorem d_Model_digit_4 : decode cd_Model_digit 4 = .ok (.iload_n 1, 1) := by decide +kernel
theorem d_Model_digit_5 : decode cd_Model_digit 5 = .ok (.aload_n 0, 1) := by decide +kernel
theorem d_Model_digit_6 : decode cd_Model_digit 6 = .ok (.getfield 143, 3) := by decide +kernel
theorem d_Model_digit_9 : decode cd_Model_digit 9 = .ok (.if_icmp .ge 12, 3) := by decide +kernel
theorem d_Model_digit_12 : decode cd_Model_digit 12 = .ok (.aload_n 0, 1) := by decide +kernel
theorem d_Model_digit_13 : decode cd_Model_digit 13 = .ok (.getfield 48, 3) := by decide +kernel
theorem d_Model_digit_16 : decode cd_Model_digit 16 = .ok (.iload_n 1, 1) := by decide +kernel
theorem d_Model_digit_17 : decode cd_Model_digit 17 = .ok (.iaload, 1) := by decide +kernel
theorem d_Model_digit_18 : decode cd_Model_digit 18 = .ok (.goto 4, 3) := by decide +kernel
theorem d_Model_digit_21 : decode cd_Model_digit 21 = .ok (.iconst 0, 1) := by decide +kernel
theorem d_Model_digit_22 : decode cd_Model_digit 22 = .ok (.ireturn, 1) := by decide +kernel
def f_Model_digit (t_tens : Nat → Int32) (t_count : Int32) (a1 : Int32) : Option Int32 :=
  (if a1 < 0 then some (0 : Int32) else (if t_count ≤ a1 then some (0 : Int32) else (if inB a1 1200 = true then some (t_tens a1.toNatClampNeg) else none)))
set_option maxHeartbeats 4000000 in
set_option maxRecDepth 100000 in
theorem c_Model_digit (l : Launch) (G : Gt) (K : Nat) (qt : Nat) (qt_draft : Nat) (t_draft : Nat → Int32) (t_drafted : Int32) (qt_result : Nat) (t_result : Nat → Int32) (t_length : Int32) (t_arguments : Int32) (qt_kinds : Nat) (t_kinds : Nat → Int32) (qt_values : Nat) (t_values : Nat → Int64) (qt_widths : Nat) (t_widths : Nat → Int32) (qt_below : Nat) (t_below : Nat → Int32) (qt_sizes : Nat) (t_sizes : Nat → Int32) (qt_scales : Nat) (t_scales : Nat → Int32) (qt_parts : Nat) (t_parts : Nat → Int64) (qt_texts : Nat) (t_texts : Nat → Int32) (qt_lengths : Nat) (t_lengths : Nat → Int32) (t_end : Int32) (t_index : Int32) (t_flags : Int32) (t_twice : Int32) (t_width : Int32) (t_precision : Int32) (t_conversion : Int32) (t_broken : Int32) (qt_piece : Nat) (t_piece : Nat → Int32) (t_put : Int32) (t_head : Int32) (qt_tens : Nat) (t_tens : Nat → Int32) (t_count : Int32) (t_exponent : Int32) (qt_work : Nat) (t_work : Nat → Int32) (a1 : Int32) (sz : Nat) (res : Int32)   (hf : f_Model_digit t_tens t_count a1 = some res) : Met l y_Model_digit (.code y_Model_digit cd_Model_digit 2 (some .int) :: gw) { frames := 0, cells := 0, slots := 0, locals := 0 } (PC G ([.ref qt, .int a1] : List Value) sz (w_Model_clear G qt qt_draft t_draft t_drafted qt_result t_result t_length t_arguments qt_kinds t_kinds qt_values t_values qt_widths t_widths qt_below t_below qt_sizes t_sizes qt_scales t_scales qt_parts t_parts qt_texts t_texts qt_lengths t_lengths t_end t_index t_flags t_twice t_width t_precision t_conversion t_broken qt_piece t_piece t_put t_head qt_tens t_tens t_count t_exponent qt_work t_work)) (QI G res (va_A (w_Model_clear G qt qt_draft t_draft t_drafted qt_result t_result t_length t_arguments qt_kinds t_kinds qt_values t_values qt_widths t_widths qt_below t_below qt_sizes t_sizes qt_scales t_scales qt_parts t_parts qt_texts t_texts qt_lengths t_lengths t_end t_index t_flags t_twice t_width t_precision t_conversion t_broken qt_piece t_piece t_put t_head qt_tens t_tens t_count t_exponent qt_work t_work) sz) (w_Model_clear G qt qt_draft t_draft t_drafted qt_result t_result t_length t_arguments qt_kinds t_kinds qt_values t_values qt_widths t_widths qt_below t_below qt_sizes t_sizes qt_scales t_scales qt_parts t_parts qt_texts t_texts qt_lengths t_lengths t_end t_index t_flags t_twice t_width t_precision t_conversion t_broken qt_piece t_piece t_put t_head qt_tens t_tens t_count t_exponent qt_work t_work)) 0 0 (va_A (w_Model_clear G qt qt_draft t_draft t_drafted qt_result t_result t_length t_arguments qt_kinds t_kinds qt_values t_values qt_widths t_widths qt_below t_below qt_sizes t_sizes qt_scales t_scales qt_parts t_parts qt_texts t_texts qt_lengths t_lengths t_end t_index t_flags t_twice t_width t_precision t_conversion t_broken qt_piece t_piece t_put t_head qt_tens t_tens t_count t_exponent qt_work t_work) sz) := by
  refine Met.ofW (cc := cd_Model_digit) (maxL := 2) (ret := (some .int)) (by decide) rfl ?_
  intro p e s m args below meth c s₁ B hml hv
  obtain ⟨rfl, hsz, hP, hE, hD0⟩ := hv
  have hx := B.exec
  have hb := B.bytes
  have hr := B.returns
  have hts := atoms_spec (ws := (.code y_Model_digit cd_Model_digit 2 (some .int) :: gw)) B.pre
  have hg : ∀ w ∈ gw, w.before _ s = true := fun w h => hts w (List.mem_cons_of_mem _ h)
  have hown : s.vm.findClass R_Model = some m.cls := findClass_of_methodNamed B.named
  have hlocks := B.notSynchronized
  subst hsz
  have hK := hE.K
  have hD := hD0.self (sz := s.heap.size)
  have hAb := hE.ab hD0
  obtain ⟨Q, hQ⟩ : ∃ Q, MQ below (QI G res (va_A (w_Model_clear G qt qt_draft t_draft t_drafted qt_result t_result t_length t_arguments qt_kinds t_kinds qt_values t_values qt_widths t_widths qt_below t_below qt_sizes t_sizes qt_scales t_scales qt_parts t_parts qt_texts t_texts qt_lengths t_lengths t_end t_index t_flags t_twice t_width t_precision t_conversion t_broken qt_piece t_piece t_put t_head qt_tens t_tens t_count t_exponent qt_work t_work) s.heap.size) (w_Model_clear G qt qt_draft t_draft t_drafted qt_result t_result t_length t_arguments qt_kinds t_kinds qt_values t_values qt_widths t_widths qt_below t_below qt_sizes t_sizes qt_scales t_scales qt_parts t_parts qt_texts t_texts qt_lengths t_lengths t_end t_index t_flags t_twice t_width t_precision t_conversion t_broken qt_piece t_piece t_put t_head qt_tens t_tens t_count t_exponent qt_work t_work)) ([.ref qt, .int a1] : List Value).toArray s 0 0 (va_A (w_Model_clear G qt qt_draft t_draft t_drafted qt_result t_result t_length t_arguments qt_kinds t_kinds qt_values t_values qt_widths t_widths qt_below t_below qt_sizes t_sizes qt_scales t_scales qt_parts t_parts qt_texts t_texts qt_lengths t_lengths t_end t_index t_flags t_twice t_width t_precision t_conversion t_broken qt_piece t_piece t_put t_head qt_tens t_tens t_count t_exponent qt_work t_work) s.heap.size) = Q := ⟨_, rfl⟩
  show W p l e { frames := 0, cells := 0, slots := 0, locals := 0 } s m ([.ref qt, .int a1] : List Value).toArray below meth c s.heap [] 0 0 (MQ below (QI G res (va_A (w_Model_clear G qt qt_draft t_draft t_drafted qt_result t_result t_length t_arguments qt_kinds t_kinds qt_values t_values qt_widths t_widths qt_below t_below qt_sizes t_sizes qt_scales t_scales qt_parts t_parts qt_texts t_texts qt_lengths t_lengths t_end t_index t_flags t_twice t_width t_precision t_conversion t_broken qt_piece t_piece t_put t_head qt_tens t_tens t_count t_exponent qt_work t_work) s.heap.size) (w_Model_clear G qt qt_draft t_draft t_drafted qt_result t_result t_length t_arguments qt_kinds t_kinds qt_values t_values qt_widths t_widths qt_below t_below qt_sizes t_sizes qt_scales t_scales qt_parts t_parts qt_texts t_texts qt_lengths t_lengths t_end t_index t_flags t_twice t_width t_precision t_conversion t_broken qt_piece t_piece t_put t_head qt_tens t_tens t_count t_exponent qt_work t_work)) ([.ref qt, .int a1] : List Value).toArray s 0 0 (va_A (w_Model_clear G qt qt_draft t_draft t_drafted qt_result t_result t_length t_arguments qt_kinds t_kinds qt_values t_values qt_widths t_widths qt_below t_below qt_sizes t_sizes qt_scales t_scales qt_parts t_parts qt_texts t_texts qt_lengths t_lengths t_end t_index t_flags t_twice t_width t_precision t_conversion t_broken qt_piece t_piece t_put t_head qt_tens t_tens t_count t_exponent qt_work t_work) s.heap.size)) _
  rw [hQ]
  have hA : ∀ q : Nat, s.heap.size ≤ q → va_A (w_Model_clear G qt qt_draft t_draft t_drafted qt_result t_result t_length t_arguments qt_kinds t_kinds qt_values t_values qt_widths t_widths qt_below t_below qt_sizes t_sizes qt_scales t_scales qt_parts t_parts qt_texts t_texts qt_lengths t_lengths t_end t_index t_flags t_twice t_width t_precision t_conversion t_broken qt_piece t_piece t_put t_head qt_tens t_tens t_count t_exponent qt_work t_work) s.heap.size q := fun q h => Or.inr h
  obtain ⟨A, hAe⟩ : ∃ A, va_A (w_Model_clear G qt qt_draft t_draft t_drafted qt_result t_result t_length t_arguments qt_kinds t_kinds qt_values t_values qt_widths t_widths qt_below t_below qt_sizes t_sizes qt_scales t_scales qt_parts t_parts qt_texts t_texts qt_lengths t_lengths t_end t_index t_flags t_twice t_width t_precision t_conversion t_broken qt_piece t_piece t_put t_head qt_tens t_tens t_count t_exponent qt_work t_work) s.heap.size = A := ⟨_, rfl⟩
  rw [hAe] at hA hD hAb hQ
  have hS : va_S A s.heap s.heap [] := va_S.rf
  have hl := lv_entry (([.ref qt, .int a1] : List Value)) (n := 2) (Nat.le_of_ble_eq_true rfl)
  rw [lg_entry_eq]
  generalize (lg_sl (([.ref qt, .int a1] : List Value)) ++ List.replicate (2 - (lg_sl (([.ref qt, .int a1] : List Value))).length) Slot.unset).toArray = ls at hl ⊢
  have hl : lv_has ls 2 [(0, .ref qt), (1, .int a1)] := hl
  unfold f_Model_digit at hf
  refine lv_iload_n hx hb d_Model_digit_0 rfl (lv_at hl 1 rfl) ?_
  refine lv_if_lt (tgt := 21) hx hb d_Model_digit_1 (by decide) (fun c_1 => ?_) (fun c_1 => ?_)
  · have hf := ip_ c_1 hf
    refine lv_iconst (v := 0) hx hb d_Model_digit_21 (by decide) ?_
    obtain rfl := Option.some.inj hf
    rw [← hQ]
    exact W.iret (v := (0 : Int32)) hx hb hr (fun t9 ht hW => ⟨⟨(0 : Int32), (), rfl, rfl, ⟨by rw [ht]; exact hP, hD⟩⟩, hS.F ht⟩) hS.2.2 d_Model_digit_22
  · have hf := in_ c_1 hf
    refine lv_iload_n hx hb d_Model_digit_4 rfl (lv_at hl 1 rfl) ?_
    refine lv_aload_n hx hb d_Model_digit_5 rfl (lv_at hl 0 rfl) ?_
    refine va_get (D := gD G) (ci := 7) (v := .int t_count) (C := R_Model) (T := F_Model) (N := 29) hx hb hg in_Model hown hK hP 0 rfl rfl 26 (by decide) (hg _ m_458) (fun _ h9 => h9) rfl d_Model_digit_6 ?_
    refine lv_icmp_ge (tgt := 21) hx hb d_Model_digit_9 (by decide) (fun c_9 => ?_) (fun c_9 => ?_)
    · have hf := ip_ c_9 hf
      refine lv_iconst (v := 0) hx hb d_Model_digit_21 (by decide) ?_
      obtain rfl := Option.some.inj hf
      rw [← hQ]
      exact W.iret (v := (0 : Int32)) hx hb hr (fun t9 ht hW => ⟨⟨(0 : Int32), (), rfl, rfl, ⟨by rw [ht]; exact hP, hD⟩⟩, hS.F ht⟩) hS.2.2 d_Model_digit_22
    · have hf := in_ c_9 hf
      refine lv_aload_n hx hb d_Model_digit_12 rfl (lv_at hl 0 rfl) ?_
      refine va_get (D := gD G) (ci := 7) (v := .ref qt_tens) (C := R_Model) (T := F_Model) (N := 29) hx hb hg in_Model hown hK hP 0 rfl rfl 25 (by decide) (hg _ m_459) (fun _ h9 => h9) rfl d_Model_digit_13 ?_
      refine lv_iload_n hx hb d_Model_digit_16 rfl (lv_at hl 1 rfl) ?_
      obtain ⟨g_17, hf⟩ := gd_ hf
      refine va_iald hx hb hK hP 13 1 rfl rfl (inB_in g_17) d_Model_digit_17 ?_
      refine lv_goto (tgt := 22) hx hb d_Model_digit_18 (by decide) ?_
      obtain rfl := Option.some.inj hf
      rw [← hQ]
      exact W.iret (v := (t_tens a1.toNatClampNeg)) hx hb hr (fun t9 ht hW => ⟨⟨(t_tens a1.toNatClampNeg), (), rfl, rfl, ⟨by rw [ht]; exact hP, hD⟩⟩, hS.F ht⟩) hS.2.2 d_Model_digit_22
theorem d_Model_keep_0 : decode cd_Model_keep 0 = .ok (.aload_n 0, 1) := by decide +kernel
theorem d_Model_keep_1 : decode cd_Model_keep 1 = .ok (.getfield 143, 3) := by decide +kernel
theorem d_Model_keep_4 : decode cd_Model_keep 4 = .ok (.ifCond .eq 11, 3) := by decide +kernel
theorem d_Model_keep_7 : decode cd_Model_keep 7 = .ok (.iload_n 1, 1) := by decide +kernel
theorem d_Model_keep_8 : decode cd_Model_keep 8 = .ok (.aload_n 0, 1) := by decide +kernel
theorem d_Model_keep_9 : decode cd_Model_keep 9 = .ok (.getfield 143, 3) := by decide +kernel
theorem d_Model_keep_12 : decode cd_Model_keep 12 = .ok (.if_icmp .lt 4, 3) := by decide +kernel
theorem d_Model_keep_15 : decode cd_Model_keep 15 = .ok (.return_, 1) := by decide +kernel
theorem d_Model_keep_16 : decode cd_Model_keep 16 = .ok (.iload_n 1, 1) := by decide +kernel
theorem d_Model_keep_17 : decode cd_Model_keep 17 = .ok (.ifCond .lt 17, 3) := by decide +kernel
theorem d_Model_keep_20 : decode cd_Model_keep 20 = .ok (.aload_n 0, 1) := by decide +kernel
theorem d_Model_keep_21 : decode cd_Model_keep 21 = .ok (.getfield 48, 3) := by decide +kernel
theorem d_Model_keep_24 : decode cd_Model_keep 24 = .ok (.iload_n 1, 1) := by decide +kernel
theorem d_Model_keep_25 : decode cd_Model_keep 25 = .ok (.iaload, 1) := by decide +kernel
theorem d_Model_keep_26 : decode cd_Model_keep 26 = .ok (.iconst 5, 1) := by decide +kernel
theorem d_Model_keep_27 : decode cd_Model_keep 27 = .ok (.if_icmp .lt 7, 3) := by decide +kernel
theorem d_Model_keep_30 : decode cd_Model_keep 30 = .ok (.iconst 1, 1) := by decide +kernel
theorem d_Model_keep_31 : decode cd_Model_keep 31 = .ok (.goto 4, 3) := by decide +kernel
theorem d_Model_keep_34 : decode cd_Model_keep 34 = .ok (.iconst 0, 1) := by decide +kernel
theorem d_Model_keep_35 : decode cd_Model_keep 35 = .ok (.istore_n 2, 1) := by decide +kernel
theorem d_Model_keep_36 : decode cd_Model_keep 36 = .ok (.aload_n 0, 1) := by decide +kernel
theorem d_Model_keep_37 : decode cd_Model_keep 37 = .ok (.iload_n 1, 1) := by decide +kernel
theorem d_Model_keep_38 : decode cd_Model_keep 38 = .ok (.ifCond .ge 7, 3) := by decide +kernel
theorem d_Model_keep_41 : decode cd_Model_keep 41 = .ok (.iconst 0, 1) := by decide +kernel
theorem d_Model_keep_42 : decode cd_Model_keep 42 = .ok (.goto 4, 3) := by decide +kernel
theorem d_Model_keep_45 : decode cd_Model_keep 45 = .ok (.iload_n 1, 1) := by decide +kernel
theorem d_Model_keep_46 : decode cd_Model_keep 46 = .ok (.putfield 143, 3) := by decide +kernel
theorem d_Model_keep_49 : decode cd_Model_keep 49 = .ok (.aload_n 0, 1) := by decide +kernel
theorem d_Model_keep_50 : decode cd_Model_keep 50 = .ok (.getfield 143, 3) := by decide +kernel
theorem d_Model_keep_53 : decode cd_Model_keep 53 = .ok (.iconst 1, 1) := by decide +kernel
theorem d_Model_keep_54 : decode cd_Model_keep 54 = .ok (.isub, 1) := by decide +kernel
theorem d_Model_keep_55 : decode cd_Model_keep 55 = .ok (.istore_n 3, 1) := by decide +kernel
theorem d_Model_keep_56 : decode cd_Model_keep 56 = .ok (.iload_n 2, 1) := by decide +kernel
theorem d_Model_keep_57 : decode cd_Model_keep 57 = .ok (.ifCond .eq 31, 3) := by decide +kernel
theorem d_Model_keep_60 : decode cd_Model_keep 60 = .ok (.iload_n 3, 1) := by decide +kernel
theorem d_Model_keep_61 : decode cd_Model_keep 61 = .ok (.ifCond .lt 27, 3) := by decide +kernel
theorem d_Model_keep_64 : decode cd_Model_keep 64 = .ok (.aload_n 0, 1) := by decide +kernel
theorem d_Model_keep_65 : decode cd_Model_keep 65 = .ok (.getfield 48, 3) := by decide +kernel
theorem d_Model_keep_68 : decode cd_Model_keep 68 = .ok (.iload_n 3, 1) := by decide +kernel
theorem d_Model_keep_69 : decode cd_Model_keep 69 = .ok (.iaload, 1) := by decide +kernel
theorem d_Model_keep_70 : decode cd_Model_keep 70 = .ok (.bipush 9, 2) := by decide +kernel
theorem d_Model_keep_72 : decode cd_Model_keep 72 = .ok (.if_icmp .ne 16, 3) := by decide +kernel
theorem d_Model_keep_75 : decode cd_Model_keep 75 = .ok (.aload_n 0, 1) := by decide +kernel
theorem d_Model_keep_76 : decode cd_Model_keep 76 = .ok (.getfield 48, 3) := by decide +kernel
theorem d_Model_keep_79 : decode cd_Model_keep 79 = .ok (.iload_n 3, 1) := by decide +kernel
theorem d_Model_keep_80 : decode cd_Model_keep 80 = .ok (.iconst 0, 1) := by decide +kernel
theorem d_Model_keep_81 : decode cd_Model_keep 81 = .ok (.iastore, 1) := by decide +kernel
theorem d_Model_keep_82 : decode cd_Model_keep 82 = .ok (.iinc 3 (-1), 3) := by decide +kernel
theorem d_Model_keep_85 : decode cd_Model_keep 85 = .ok (.goto (-29), 3) := by decide +kernel
theorem d_Model_keep_88 : decode cd_Model_keep 88 = .ok (.iload_n 2, 1) := by decide +kernel
theorem d_Model_keep_89 : decode cd_Model_keep 89 = .ok (.ifCond .ne 4, 3) := by decide +kernel
theorem d_Model_keep_92 : decode cd_Model_keep 92 = .ok (.return_, 1) := by decide +kernel
theorem d_Model_keep_93 : decode cd_Model_keep 93 = .ok (.iload_n 3, 1) := by decide +kernel
theorem d_Model_keep_94 : decode cd_Model_keep 94 = .ok (.ifCond .lt 14, 3) := by decide +kernel
theorem d_Model_keep_97 : decode cd_Model_keep 97 = .ok (.aload_n 0, 1) := by decide +kernel
theorem d_Model_keep_98 : decode cd_Model_keep 98 = .ok (.getfield 48, 3) := by decide +kernel
theorem d_Model_keep_101 : decode cd_Model_keep 101 = .ok (.iload_n 3, 1) := by decide +kernel
theorem d_Model_keep_102 : decode cd_Model_keep 102 = .ok (.dup2, 1) := by decide +kernel
theorem d_Model_keep_103 : decode cd_Model_keep 103 = .ok (.iaload, 1) := by decide +kernel
theorem d_Model_keep_104 : decode cd_Model_keep 104 = .ok (.iconst 1, 1) := by decide +kernel
theorem d_Model_keep_105 : decode cd_Model_keep 105 = .ok (.iadd, 1) := by decide +kernel
theorem d_Model_keep_106 : decode cd_Model_keep 106 = .ok (.iastore, 1) := by decide +kernel
theorem d_Model_keep_107 : decode cd_Model_keep 107 = .ok (.return_, 1) := by decide +kernel
theorem d_Model_keep_108 : decode cd_Model_keep 108 = .ok (.aload_n 0, 1) := by decide +kernel
theorem d_Model_keep_109 : decode cd_Model_keep 109 = .ok (.getfield 48, 3) := by decide +kernel
theorem d_Model_keep_112 : decode cd_Model_keep 112 = .ok (.iconst 0, 1) := by decide +kernel
theorem d_Model_keep_113 : decode cd_Model_keep 113 = .ok (.iconst 1, 1) := by decide +kernel
theorem d_Model_keep_114 : decode cd_Model_keep 114 = .ok (.iastore, 1) := by decide +kernel
theorem d_Model_keep_115 : decode cd_Model_keep 115 = .ok (.iconst 1, 1) := by decide +kernel
theorem d_Model_keep_116 : decode cd_Model_keep 116 = .ok (.istore 4, 2) := by decide +kernel
theorem d_Model_keep_118 : decode cd_Model_keep 118 = .ok (.iload 4, 2) := by decide +kernel
theorem d_Model_keep_120 : decode cd_Model_keep 120 = .ok (.aload_n 0, 1) := by decide +kernel
theorem d_Model_keep_121 : decode cd_Model_keep 121 = .ok (.getfield 143, 3) := by decide +kernel
theorem d_Model_keep_124 : decode cd_Model_keep 124 = .ok (.if_icmp .ge 17, 3) := by decide +kernel
theorem d_Model_keep_127 : decode cd_Model_keep 127 = .ok (.aload_n 0, 1) := by decide +kernel
theorem d_Model_keep_128 : decode cd_Model_keep 128 = .ok (.getfield 48, 3) := by decide +kernel
theorem d_Model_keep_131 : decode cd_Model_keep 131 = .ok (.iload 4, 2) := by decide +kernel
theorem d_Model_keep_133 : decode cd_Model_keep 133 = .ok (.iconst 0, 1) := by decide +kernel
theorem d_Model_keep_134 : decode cd_Model_keep 134 = .ok (.iastore, 1) := by decide +kernel
theorem d_Model_keep_135 : decode cd_Model_keep 135 = .ok (.iinc 4 1, 3) := by decide +kernel
theorem d_Model_keep_138 : decode cd_Model_keep 138 = .ok (.goto (-20), 3) := by decide +kernel
theorem d_Model_keep_141 : decode cd_Model_keep 141 = .ok (.aload_n 0, 1) := by decide +kernel
theorem d_Model_keep_142 : decode cd_Model_keep 142 = .ok (.aload_n 0, 1) := by decide +kernel
theorem d_Model_keep_143 : decode cd_Model_keep 143 = .ok (.getfield 143, 3) := by decide +kernel
theorem d_Model_keep_146 : decode cd_Model_keep 146 = .ok (.ifCond .ne 7, 3) := by decide +kernel
theorem d_Model_keep_149 : decode cd_Model_keep 149 = .ok (.iconst 1, 1) := by decide +kernel
theorem d_Model_keep_150 : decode cd_Model_keep 150 = .ok (.goto 7, 3) := by decide +kernel
theorem d_Model_keep_153 : decode cd_Model_keep 153 = .ok (.aload_n 0, 1) := by decide +kernel
theorem d_Model_keep_154 : decode cd_Model_keep 154 = .ok (.getfield 143, 3) := by decide +kernel
theorem d_Model_keep_157 : decode cd_Model_keep 157 = .ok (.putfield 143, 3) := by decide +kernel
theorem d_Model_keep_160 : decode cd_Model_keep 160 = .ok (.aload_n 0, 1) := by decide +kernel
theorem d_Model_keep_161 : decode cd_Model_keep 161 = .ok (.dup, 1) := by decide +kernel
theorem d_Model_keep_162 : decode cd_Model_keep 162 = .ok (.getfield 158, 3) := by decide +kernel
theorem d_Model_keep_165 : decode cd_Model_keep 165 = .ok (.iconst 1, 1) := by decide +kernel
theorem d_Model_keep_166 : decode cd_Model_keep 166 = .ok (.iadd, 1) := by decide +kernel
theorem d_Model_keep_167 : decode cd_Model_keep 167 = .ok (.putfield 158, 3) := by decide +kernel
theorem d_Model_keep_170 : decode cd_Model_keep 170 = .ok (.return_, 1) := by decide +kernel
def k_Model_keep_157  (k1 : Int32) (t_count : Int32) (t_exponent : Int32) (t_tens : (Nat → Int32)) : Option (Int32 × Int32 × (Nat → Int32)) :=
  some (k1, (t_exponent + (1 : Int32)), t_tens)
def b_Model_keep_118  (t_count : Int32) (t_exponent : Int32) (rec_118 : (Int32 × (Nat → Int32)) → Option (Int32 × Int32 × (Nat → Int32))) (z118 : Int32 × (Nat → Int32)) : Option (Int32 × Int32 × (Nat → Int32)) :=
  (if t_count ≤ z118.1 then (if t_count = 0 then k_Model_keep_157  (1 : Int32) t_count t_exponent z118.2 else k_Model_keep_157  t_count t_count t_exponent z118.2) else (if inB z118.1 1200 = true then rec_118 ((z118.1 + 1), (upd z118.2 z118.1.toNatClampNeg (0 : Int32))) else none))
def k_Model_keep_88 (K : Nat) (x2 : Int32) (x3 : Int32) (t_count : Int32) (t_exponent : Int32) (t_tens : (Nat → Int32)) : Option (Int32 × Int32 × (Nat → Int32)) :=
  (if x2 = 0 then some (t_count, t_exponent, t_tens) else (if x3 < 0 then (if inB (0 : Int32) 1200 = true then lp_ (b_Model_keep_118  t_count t_exponent) K ((1 : Int32), (upd t_tens (0 : Int32).toNatClampNeg (1 : Int32))) else none) else (if inB x3 1200 = true then (if inB x3 1200 = true then some (t_count, t_exponent, (upd t_tens x3.toNatClampNeg ((t_tens x3.toNatClampNeg) + (1 : Int32)))) else none) else none)))
def b_Model_keep_56 (K : Nat) (x2 : Int32) (t_count : Int32) (t_exponent : Int32) (rec_56 : (Int32 × (Nat → Int32)) → Option (Int32 × Int32 × (Nat → Int32))) (z56 : Int32 × (Nat → Int32)) : Option (Int32 × Int32 × (Nat → Int32)) :=
  (if x2 = 0 then k_Model_keep_88 K x2 z56.1 t_count t_exponent z56.2 else (if z56.1 < 0 then k_Model_keep_88 K x2 z56.1 t_count t_exponent z56.2 else (if inB z56.1 1200 = true then (if (z56.2 z56.1.toNatClampNeg) = (9 : Int32) then (if inB z56.1 1200 = true then rec_56 ((z56.1 + (-1)), (upd z56.2 z56.1.toNatClampNeg (0 : Int32))) else none) else k_Model_keep_88 K x2 z56.1 t_count t_exponent z56.2) else none)))
def k_Model_keep_46 (K : Nat) (x2 : Int32) (k1 : Int32) (t_count : Int32) (t_exponent : Int32) (t_tens : (Nat → Int32)) : Option (Int32 × Int32 × (Nat → Int32)) :=
  lp_ (b_Model_keep_56 K x2 k1 t_exponent) K ((k1 - (1 : Int32)), t_tens)
def k_Model_keep_35 (K : Nat) (a1 : Int32) (k0 : Int32) (t_count : Int32) (t_exponent : Int32) (t_tens : (Nat → Int32)) : Option (Int32 × Int32 × (Nat → Int32)) :=
  (if 0 ≤ a1 then k_Model_keep_46 K k0 a1 t_count t_exponent t_tens else k_Model_keep_46 K k0 (0 : Int32) t_count t_exponent t_tens)
def k_Model_keep_34 (K : Nat) (a1 : Int32) (t_count : Int32) (t_exponent : Int32) (t_tens : (Nat → Int32)) : Option (Int32 × Int32 × (Nat → Int32)) :=
  k_Model_keep_35 K a1 (0 : Int32) t_count t_exponent t_tens
def f_Model_keep (K : Nat) (t_tens : Nat → Int32) (t_count : Int32) (t_exponent : Int32) (a1 : Int32) : Option (Int32 × Int32 × (Nat → Int32)) :=
  (if t_count = 0 then some (t_count, t_exponent, t_tens) else (if a1 < t_count then (if a1 < 0 then k_Model_keep_34 K a1 t_count t_exponent t_tens else (if inB a1 1200 = true then (if (t_tens a1.toNatClampNeg) < (5 : Int32) then k_Model_keep_34 K a1 t_count t_exponent t_tens else k_Model_keep_35 K a1 (1 : Int32) t_count t_exponent t_tens) else none)) else some (t_count, t_exponent, t_tens)))
set_option maxHeartbeats 4000000 in
set_option maxRecDepth 100000 in
theorem c_Model_keep (l : Launch) (G : Gt) (K : Nat) (qt : Nat) (qt_draft : Nat) (t_draft : Nat → Int32) (t_drafted : Int32) (qt_result : Nat) (t_result : Nat → Int32) (t_length : Int32) (t_arguments : Int32) (qt_kinds : Nat) (t_kinds : Nat → Int32) (qt_values : Nat) (t_values : Nat → Int64) (qt_widths : Nat) (t_widths : Nat → Int32) (qt_below : Nat) (t_below : Nat → Int32) (qt_sizes : Nat) (t_sizes : Nat → Int32) (qt_scales : Nat) (t_scales : Nat → Int32) (qt_parts : Nat) (t_parts : Nat → Int64) (qt_texts : Nat) (t_texts : Nat → Int32) (qt_lengths : Nat) (t_lengths : Nat → Int32) (t_end : Int32) (t_index : Int32) (t_flags : Int32) (t_twice : Int32) (t_width : Int32) (t_precision : Int32) (t_conversion : Int32) (t_broken : Int32) (qt_piece : Nat) (t_piece : Nat → Int32) (t_put : Int32) (t_head : Int32) (qt_tens : Nat) (t_tens : Nat → Int32) (t_count : Int32) (t_exponent : Int32) (qt_work : Nat) (t_work : Nat → Int32) (a1 : Int32) (sz : Nat) (res : Int32 × Int32 × (Nat → Int32))   (hf : f_Model_keep K t_tens t_count t_exponent a1 = some res) : Met l y_Model_keep (.code y_Model_keep cd_Model_keep 5 none :: gw) { frames := 0, cells := 0, slots := 0, locals := 0 } (PC G ([.ref qt, .int a1] : List Value) sz (w_Model_clear G qt qt_draft t_draft t_drafted qt_result t_result t_length t_arguments qt_kinds t_kinds qt_values t_values qt_widths t_widths qt_below t_below qt_sizes t_sizes qt_scales t_scales qt_parts t_parts qt_texts t_texts qt_lengths t_lengths t_end t_index t_flags t_twice t_width t_precision t_conversion t_broken qt_piece t_piece t_put t_head qt_tens t_tens t_count t_exponent qt_work t_work)) (QV G (va_A (w_Model_clear G qt qt_draft t_draft t_drafted qt_result t_result t_length t_arguments qt_kinds t_kinds qt_values t_values qt_widths t_widths qt_below t_below qt_sizes t_sizes qt_scales t_scales qt_parts t_parts qt_texts t_texts qt_lengths t_lengths t_end t_index t_flags t_twice t_width t_precision t_conversion t_broken qt_piece t_piece t_put t_head qt_tens t_tens t_count t_exponent qt_work t_work) sz) (w_Model_clear G qt qt_draft t_draft t_drafted qt_result t_result t_length t_arguments qt_kinds t_kinds qt_values t_values qt_widths t_widths qt_below t_below qt_sizes t_sizes qt_scales t_scales qt_parts t_parts qt_texts t_texts qt_lengths t_lengths t_end t_index t_flags t_twice t_width t_precision t_conversion t_broken qt_piece t_piece t_put t_head qt_tens res.2.2 res.1 res.2.1 qt_work t_work)) 0 0 (va_A (w_Model_clear G qt qt_draft t_draft t_drafted qt_result t_result t_length t_arguments qt_kinds t_kinds qt_values t_values qt_widths t_widths qt_below t_below qt_sizes t_sizes qt_scales t_scales qt_parts t_parts qt_texts t_texts qt_lengths t_lengths t_end t_index t_flags t_twice t_width t_precision t_conversion t_broken qt_piece t_piece t_put t_head qt_tens t_tens t_count t_exponent qt_work t_work) sz) := by
  refine Met.ofW (cc := cd_Model_keep) (maxL := 5) (ret := none) (by decide) rfl ?_
  intro p e s m args below meth c s₁ B hml hv
  obtain ⟨rfl, hsz, hP, hE, hD0⟩ := hv
  have hx := B.exec
  have hb := B.bytes
  have hr := B.returns
  have hts := atoms_spec (ws := (.code y_Model_keep cd_Model_keep 5 none :: gw)) B.pre
  have hg : ∀ w ∈ gw, w.before _ s = true := fun w h => hts w (List.mem_cons_of_mem _ h)
  have hown : s.vm.findClass R_Model = some m.cls := findClass_of_methodNamed B.named
  have hlocks := B.notSynchronized
  subst hsz
  have hK := hE.K
  have hD := hD0.self (sz := s.heap.size)
  have hAb := hE.ab hD0
  obtain ⟨Q, hQ⟩ : ∃ Q, MQ below (QV G (va_A (w_Model_clear G qt qt_draft t_draft t_drafted qt_result t_result t_length t_arguments qt_kinds t_kinds qt_values t_values qt_widths t_widths qt_below t_below qt_sizes t_sizes qt_scales t_scales qt_parts t_parts qt_texts t_texts qt_lengths t_lengths t_end t_index t_flags t_twice t_width t_precision t_conversion t_broken qt_piece t_piece t_put t_head qt_tens t_tens t_count t_exponent qt_work t_work) s.heap.size) (w_Model_clear G qt qt_draft t_draft t_drafted qt_result t_result t_length t_arguments qt_kinds t_kinds qt_values t_values qt_widths t_widths qt_below t_below qt_sizes t_sizes qt_scales t_scales qt_parts t_parts qt_texts t_texts qt_lengths t_lengths t_end t_index t_flags t_twice t_width t_precision t_conversion t_broken qt_piece t_piece t_put t_head qt_tens res.2.2 res.1 res.2.1 qt_work t_work)) ([.ref qt, .int a1] : List Value).toArray s 0 0 (va_A (w_Model_clear G qt qt_draft t_draft t_drafted qt_result t_result t_length t_arguments qt_kinds t_kinds qt_values t_values qt_widths t_widths qt_below t_below qt_sizes t_sizes qt_scales t_scales qt_parts t_parts qt_texts t_texts qt_lengths t_lengths t_end t_index t_flags t_twice t_width t_precision t_conversion t_broken qt_piece t_piece t_put t_head qt_tens t_tens t_count t_exponent qt_work t_work) s.heap.size) = Q := ⟨_, rfl⟩
  show W p l e { frames := 0, cells := 0, slots := 0, locals := 0 } s m ([.ref qt, .int a1] : List Value).toArray below meth c s.heap [] 0 0 (MQ below (QV G (va_A (w_Model_clear G qt qt_draft t_draft t_drafted qt_result t_result t_length t_arguments qt_kinds t_kinds qt_values t_values qt_widths t_widths qt_below t_below qt_sizes t_sizes qt_scales t_scales qt_parts t_parts qt_texts t_texts qt_lengths t_lengths t_end t_index t_flags t_twice t_width t_precision t_conversion t_broken qt_piece t_piece t_put t_head qt_tens t_tens t_count t_exponent qt_work t_work) s.heap.size) (w_Model_clear G qt qt_draft t_draft t_drafted qt_result t_result t_length t_arguments qt_kinds t_kinds qt_values t_values qt_widths t_widths qt_below t_below qt_sizes t_sizes qt_scales t_scales qt_parts t_parts qt_texts t_texts qt_lengths t_lengths t_end t_index t_flags t_twice t_width t_precision t_conversion t_broken qt_piece t_piece t_put t_head qt_tens res.2.2 res.1 res.2.1 qt_work t_work)) ([.ref qt, .int a1] : List Value).toArray s 0 0 (va_A (w_Model_clear G qt qt_draft t_draft t_drafted qt_result t_result t_length t_arguments qt_kinds t_kinds qt_values t_values qt_widths t_widths qt_below t_below qt_sizes t_sizes qt_scales t_scales qt_parts t_parts qt_texts t_texts qt_lengths t_lengths t_end t_index t_flags t_twice t_width t_precision t_conversion t_broken qt_piece t_piece t_put t_head qt_tens t_tens t_count t_exponent qt_work t_work) s.heap.size)) _
  rw [hQ]
  have hA : ∀ q : Nat, s.heap.size ≤ q → va_A (w_Model_clear G qt qt_draft t_draft t_drafted qt_result t_result t_length t_arguments qt_kinds t_kinds qt_values t_values qt_widths t_widths qt_below t_below qt_sizes t_sizes qt_scales t_scales qt_parts t_parts qt_texts t_texts qt_lengths t_lengths t_end t_index t_flags t_twice t_width t_precision t_conversion t_broken qt_piece t_piece t_put t_head qt_tens t_tens t_count t_exponent qt_work t_work) s.heap.size q := fun q h => Or.inr h
  obtain ⟨A, hAe⟩ : ∃ A, va_A (w_Model_clear G qt qt_draft t_draft t_drafted qt_result t_result t_length t_arguments qt_kinds t_kinds qt_values t_values qt_widths t_widths qt_below t_below qt_sizes t_sizes qt_scales t_scales qt_parts t_parts qt_texts t_texts qt_lengths t_lengths t_end t_index t_flags t_twice t_width t_precision t_conversion t_broken qt_piece t_piece t_put t_head qt_tens t_tens t_count t_exponent qt_work t_work) s.heap.size = A := ⟨_, rfl⟩
  rw [hAe] at hA hD hAb hQ
  have hS : va_S A s.heap s.heap [] := va_S.rf
  have hl := lv_entry (([.ref qt, .int a1] : List Value)) (n := 5) (Nat.le_of_ble_eq_true rfl)
  rw [lg_entry_eq]
  generalize (lg_sl (([.ref qt, .int a1] : List Value)) ++ List.replicate (5 - (lg_sl (([.ref qt, .int a1] : List Value))).length) Slot.unset).toArray = ls at hl ⊢
  have hl : lv_has ls 5 [(0, .ref qt), (1, .int a1)] := hl
  have W_157 : ∀ (k1 : Int32) (t_count : Int32) (t_exponent : Int32) (t_tens : (Nat → Int32)) , k_Model_keep_157  k1 t_count t_exponent t_tens = some res → ∀ (H : Heap) (locs : List Loc) (ls : Array Slot), va_P (gD G) vwCl (w_Model_clear G qt qt_draft t_draft t_drafted qt_result t_result t_length t_arguments qt_kinds t_kinds qt_values t_values qt_widths t_widths qt_below t_below qt_sizes t_sizes qt_scales t_scales qt_parts t_parts qt_texts t_texts qt_lengths t_lengths t_end t_index t_flags t_twice t_width t_precision t_conversion t_broken qt_piece t_piece t_put t_head qt_tens t_tens t_count t_exponent qt_work t_work) H → va_D A (w_Model_clear G qt qt_draft t_draft t_drafted qt_result t_result t_length t_arguments qt_kinds t_kinds qt_values t_values qt_widths t_widths qt_below t_below qt_sizes t_sizes qt_scales t_scales qt_parts t_parts qt_texts t_texts qt_lengths t_lengths t_end t_index t_flags t_twice t_width t_precision t_conversion t_broken qt_piece t_piece t_put t_head qt_tens t_tens t_count t_exponent qt_work t_work) → va_S A s.heap H locs → lv_has ls 5 [(0, .ref qt)] → W p l e { frames := 0, cells := 0, slots := 0, locals := 0 } s m ([.ref qt, .int a1] : List Value).toArray below meth c H locs 0 0 Q (F0 m 157 ls [.int k1, .ref qt]) := by
    intro k1 t_count t_exponent t_tens  hf H locs ls hP hD hS hl
    unfold k_Model_keep_157 at hf
    refine va_put (D := gD G) (ci := 7) (v := .int k1) (ty := .int) (C := R_Model) (T := F_Model) (N := 29) hx hb hg in_Model t_Model to_Model no_Model hown hK hP hD hS 0 rfl rfl 26 (by decide) (hg _ m_458) (fun _ h9 => h9) rfl (by decide +kernel) rfl rfl (Nat.le_of_ble_eq_true rfl) d_Model_keep_157 (fun H locs hP hD hS => ?_)
    have hP : va_P (gD G) vwCl (w_Model_clear G qt qt_draft t_draft t_drafted qt_result t_result t_length t_arguments qt_kinds t_kinds qt_values t_values qt_widths t_widths qt_below t_below qt_sizes t_sizes qt_scales t_scales qt_parts t_parts qt_texts t_texts qt_lengths t_lengths t_end t_index t_flags t_twice t_width t_precision t_conversion t_broken qt_piece t_piece t_put t_head qt_tens t_tens k1 t_exponent qt_work t_work) H := hP
    have hD : va_D A (w_Model_clear G qt qt_draft t_draft t_drafted qt_result t_result t_length t_arguments qt_kinds t_kinds qt_values t_values qt_widths t_widths qt_below t_below qt_sizes t_sizes qt_scales t_scales qt_parts t_parts qt_texts t_texts qt_lengths t_lengths t_end t_index t_flags t_twice t_width t_precision t_conversion t_broken qt_piece t_piece t_put t_head qt_tens t_tens k1 t_exponent qt_work t_work) := hD
    refine lv_aload_n hx hb d_Model_keep_160 rfl (lv_at hl 0 rfl) ?_
    refine lv_dup hx hb d_Model_keep_161 rfl ?_
    refine va_get (D := gD G) (ci := 7) (v := .int t_exponent) (C := R_Model) (T := F_Model) (N := 29) hx hb hg in_Model hown hK hP 0 rfl rfl 27 (by decide) (hg _ m_470) (fun _ h9 => h9) rfl d_Model_keep_162 ?_
    refine lv_iconst (v := 1) hx hb d_Model_keep_165 (by decide) ?_
    refine lv_iadd hx hb d_Model_keep_166 ?_
    refine va_put (D := gD G) (ci := 7) (v := .int (t_exponent + (1 : Int32))) (ty := .int) (C := R_Model) (T := F_Model) (N := 29) hx hb hg in_Model t_Model to_Model no_Model hown hK hP hD hS 0 rfl rfl 27 (by decide) (hg _ m_470) (fun _ h9 => h9) rfl (by decide +kernel) rfl rfl (Nat.le_of_ble_eq_true rfl) d_Model_keep_167 (fun H locs hP hD hS => ?_)
    have hP : va_P (gD G) vwCl (w_Model_clear G qt qt_draft t_draft t_drafted qt_result t_result t_length t_arguments qt_kinds t_kinds qt_values t_values qt_widths t_widths qt_below t_below qt_sizes t_sizes qt_scales t_scales qt_parts t_parts qt_texts t_texts qt_lengths t_lengths t_end t_index t_flags t_twice t_width t_precision t_conversion t_broken qt_piece t_piece t_put t_head qt_tens t_tens k1 (t_exponent + (1 : Int32)) qt_work t_work) H := hP
    have hD : va_D A (w_Model_clear G qt qt_draft t_draft t_drafted qt_result t_result t_length t_arguments qt_kinds t_kinds qt_values t_values qt_widths t_widths qt_below t_below qt_sizes t_sizes qt_scales t_scales qt_parts t_parts qt_texts t_texts qt_lengths t_lengths t_end t_index t_flags t_twice t_width t_precision t_conversion t_broken qt_piece t_piece t_put t_head qt_tens t_tens k1 (t_exponent + (1 : Int32)) qt_work t_work) := hD
    obtain rfl := Option.some.inj hf
    rw [← hQ]
    exact W.vret hx hb hr (fun t9 ht hW => ⟨⟨(), rfl, trivial, ⟨by rw [ht]; exact hP, hD⟩⟩, hS.F ht⟩) hS.2.2 d_Model_keep_170
  have W_118 : ∀ (t_count : Int32) (t_exponent : Int32)  (n_118 : Nat) (z118 : Int32 × (Nat → Int32)) , lp_ (b_Model_keep_118  t_count t_exponent) n_118 z118 = some res → ∀ (H : Heap) (locs : List Loc) (ls : Array Slot), va_P (gD G) vwCl (w_Model_clear G qt qt_draft t_draft t_drafted qt_result t_result t_length t_arguments qt_kinds t_kinds qt_values t_values qt_widths t_widths qt_below t_below qt_sizes t_sizes qt_scales t_scales qt_parts t_parts qt_texts t_texts qt_lengths t_lengths t_end t_index t_flags t_twice t_width t_precision t_conversion t_broken qt_piece t_piece t_put t_head qt_tens z118.2 t_count t_exponent qt_work t_work) H → va_D A (w_Model_clear G qt qt_draft t_draft t_drafted qt_result t_result t_length t_arguments qt_kinds t_kinds qt_values t_values qt_widths t_widths qt_below t_below qt_sizes t_sizes qt_scales t_scales qt_parts t_parts qt_texts t_texts qt_lengths t_lengths t_end t_index t_flags t_twice t_width t_precision t_conversion t_broken qt_piece t_piece t_put t_head qt_tens z118.2 t_count t_exponent qt_work t_work) → va_S A s.heap H locs → lv_has ls 5 [(0, .ref qt), (4, .int z118.1)] → W p l e { frames := 0, cells := 0, slots := 0, locals := 0 } s m ([.ref qt, .int a1] : List Value).toArray below meth c H locs 0 0 Q (F0 m 118 ls []) := by
    intro t_count t_exponent n_118
    induction n_118 with
    | zero =>
      intro z118  hf
      cases hf
    | succ n_118 ih_118 =>
      intro z118  hf H locs ls hP hD hS hl
      have hf : b_Model_keep_118  t_count t_exponent (lp_ (b_Model_keep_118  t_count t_exponent) n_118) z118 = some res := hf
      generalize lp_ (b_Model_keep_118  t_count t_exponent) n_118 = rec_118 at hf ih_118
      unfold b_Model_keep_118 at hf
      refine lv_iload hx hb d_Model_keep_118 (lv_at hl 1 rfl) ?_
      refine lv_aload_n hx hb d_Model_keep_120 rfl (lv_at hl 0 rfl) ?_
      refine va_get (D := gD G) (ci := 7) (v := .int t_count) (C := R_Model) (T := F_Model) (N := 29) hx hb hg in_Model hown hK hP 0 rfl rfl 26 (by decide) (hg _ m_458) (fun _ h9 => h9) rfl d_Model_keep_121 ?_
      refine lv_icmp_ge (tgt := 141) hx hb d_Model_keep_124 (by decide) (fun c_124 => ?_) (fun c_124 => ?_)
      · have hf := ip_ c_124 hf
        refine lv_aload_n hx hb d_Model_keep_141 rfl (lv_at hl 0 rfl) ?_
        refine lv_aload_n hx hb d_Model_keep_142 rfl (lv_at hl 0 rfl) ?_
        refine va_get (D := gD G) (ci := 7) (v := .int t_count) (C := R_Model) (T := F_Model) (N := 29) hx hb hg in_Model hown hK hP 0 rfl rfl 26 (by decide) (hg _ m_458) (fun _ h9 => h9) rfl d_Model_keep_143 ?_
        refine lv_if_ne (tgt := 153) hx hb d_Model_keep_146 (by decide) (fun c_146 => ?_) (fun c_146 => ?_)
        · have hf := in_ c_146 hf
          refine lv_aload_n hx hb d_Model_keep_153 rfl (lv_at hl 0 rfl) ?_
          refine va_get (D := gD G) (ci := 7) (v := .int t_count) (C := R_Model) (T := F_Model) (N := 29) hx hb hg in_Model hown hK hP 0 rfl rfl 26 (by decide) (hg _ m_458) (fun _ h9 => h9) rfl d_Model_keep_154 ?_
          exact W_157 t_count t_count t_exponent z118.2  hf _ _ _ hP hD hS (lv_sub hl [0] rfl)
        · have hf := ip_ c_146 hf
          refine lv_iconst (v := 1) hx hb d_Model_keep_149 (by decide) ?_
          refine lv_goto (tgt := 157) hx hb d_Model_keep_150 (by decide) ?_
          exact W_157 (1 : Int32) t_count t_exponent z118.2  hf _ _ _ hP hD hS (lv_sub hl [0] rfl)
      · have hf := in_ c_124 hf
        refine lv_aload_n hx hb d_Model_keep_127 rfl (lv_at hl 0 rfl) ?_
        refine va_get (D := gD G) (ci := 7) (v := .ref qt_tens) (C := R_Model) (T := F_Model) (N := 29) hx hb hg in_Model hown hK hP 0 rfl rfl 25 (by decide) (hg _ m_459) (fun _ h9 => h9) rfl d_Model_keep_128 ?_
        refine lv_iload hx hb d_Model_keep_131 (lv_at hl 1 rfl) ?_
        refine lv_iconst (v := 0) hx hb d_Model_keep_133 (by decide) ?_
        obtain ⟨g_134, hf⟩ := gd_ hf
        refine va_iast hx hb hK hP hD hS 13 1 rfl rfl (inB_in g_134) d_Model_keep_134 (fun H locs hP hD hS => ?_)
        have hP : va_P (gD G) vwCl (w_Model_clear G qt qt_draft t_draft t_drafted qt_result t_result t_length t_arguments qt_kinds t_kinds qt_values t_values qt_widths t_widths qt_below t_below qt_sizes t_sizes qt_scales t_scales qt_parts t_parts qt_texts t_texts qt_lengths t_lengths t_end t_index t_flags t_twice t_width t_precision t_conversion t_broken qt_piece t_piece t_put t_head qt_tens (upd z118.2 z118.1.toNatClampNeg (0 : Int32)) t_count t_exponent qt_work t_work) H := hP
        have hD : va_D A (w_Model_clear G qt qt_draft t_draft t_drafted qt_result t_result t_length t_arguments qt_kinds t_kinds qt_values t_values qt_widths t_widths qt_below t_below qt_sizes t_sizes qt_scales t_scales qt_parts t_parts qt_texts t_texts qt_lengths t_lengths t_end t_index t_flags t_twice t_width t_precision t_conversion t_broken qt_piece t_piece t_put t_head qt_tens (upd z118.2 z118.1.toNatClampNeg (0 : Int32)) t_count t_exponent qt_work t_work) := hD
        refine lv_iinc (v := (z118.1 + 1)) (lv' := [(4, .int (z118.1 + 1)), (0, .ref qt)]) hx hb d_Model_keep_135 hl (k := 1) rfl rfl (by decide) rfl (fun ls hl => ?_)
        refine lv_goto (tgt := 118) hx hb d_Model_keep_138 (by decide) ?_
        exact ih_118 ((z118.1 + 1), (upd z118.2 z118.1.toNatClampNeg (0 : Int32)))  hf _ _ _ hP hD hS (lv_sub hl [1, 0] rfl)
  have W_88 : ∀ (x2 : Int32) (x3 : Int32) (t_count : Int32) (t_exponent : Int32) (t_tens : (Nat → Int32)) (b_x2 : bl x2), k_Model_keep_88 K x2 x3 t_count t_exponent t_tens = some res → ∀ (H : Heap) (locs : List Loc) (ls : Array Slot), va_P (gD G) vwCl (w_Model_clear G qt qt_draft t_draft t_drafted qt_result t_result t_length t_arguments qt_kinds t_kinds qt_values t_values qt_widths t_widths qt_below t_below qt_sizes t_sizes qt_scales t_scales qt_parts t_parts qt_texts t_texts qt_lengths t_lengths t_end t_index t_flags t_twice t_width t_precision t_conversion t_broken qt_piece t_piece t_put t_head qt_tens t_tens t_count t_exponent qt_work t_work) H → va_D A (w_Model_clear G qt qt_draft t_draft t_drafted qt_result t_result t_length t_arguments qt_kinds t_kinds qt_values t_values qt_widths t_widths qt_below t_below qt_sizes t_sizes qt_scales t_scales qt_parts t_parts qt_texts t_texts qt_lengths t_lengths t_end t_index t_flags t_twice t_width t_precision t_conversion t_broken qt_piece t_piece t_put t_head qt_tens t_tens t_count t_exponent qt_work t_work) → va_S A s.heap H locs → lv_has ls 5 [(0, .ref qt), (2, .int x2), (3, .int x3)] → W p l e { frames := 0, cells := 0, slots := 0, locals := 0 } s m ([.ref qt, .int a1] : List Value).toArray below meth c H locs 0 0 Q (F0 m 88 ls []) := by
    intro x2 x3 t_count t_exponent t_tens b_x2 hf H locs ls hP hD hS hl
    unfold k_Model_keep_88 at hf
    refine lv_iload_n hx hb d_Model_keep_88 rfl (lv_at hl 1 rfl) ?_
    refine lv_if_ne (tgt := 93) hx hb d_Model_keep_89 (by decide) (fun c_89 => ?_) (fun c_89 => ?_)
    · have hf := in_ c_89 hf
      refine lv_iload_n hx hb d_Model_keep_93 rfl (lv_at hl 2 rfl) ?_
      refine lv_if_lt (tgt := 108) hx hb d_Model_keep_94 (by decide) (fun c_94 => ?_) (fun c_94 => ?_)
      · have hf := ip_ c_94 hf
        refine lv_aload_n hx hb d_Model_keep_108 rfl (lv_at hl 0 rfl) ?_
        refine va_get (D := gD G) (ci := 7) (v := .ref qt_tens) (C := R_Model) (T := F_Model) (N := 29) hx hb hg in_Model hown hK hP 0 rfl rfl 25 (by decide) (hg _ m_459) (fun _ h9 => h9) rfl d_Model_keep_109 ?_
        refine lv_iconst (v := 0) hx hb d_Model_keep_112 (by decide) ?_
        refine lv_iconst (v := 1) hx hb d_Model_keep_113 (by decide) ?_
        obtain ⟨g_114, hf⟩ := gd_ hf
        refine va_iast hx hb hK hP hD hS 13 1 rfl rfl (inB_in g_114) d_Model_keep_114 (fun H locs hP hD hS => ?_)
        have hP : va_P (gD G) vwCl (w_Model_clear G qt qt_draft t_draft t_drafted qt_result t_result t_length t_arguments qt_kinds t_kinds qt_values t_values qt_widths t_widths qt_below t_below qt_sizes t_sizes qt_scales t_scales qt_parts t_parts qt_texts t_texts qt_lengths t_lengths t_end t_index t_flags t_twice t_width t_precision t_conversion t_broken qt_piece t_piece t_put t_head qt_tens (upd t_tens (0 : Int32).toNatClampNeg (1 : Int32)) t_count t_exponent qt_work t_work) H := hP
        have hD : va_D A (w_Model_clear G qt qt_draft t_draft t_drafted qt_result t_result t_length t_arguments qt_kinds t_kinds qt_values t_values qt_widths t_widths qt_below t_below qt_sizes t_sizes qt_scales t_scales qt_parts t_parts qt_texts t_texts qt_lengths t_lengths t_end t_index t_flags t_twice t_width t_precision t_conversion t_broken qt_piece t_piece t_put t_head qt_tens (upd t_tens (0 : Int32).toNatClampNeg (1 : Int32)) t_count t_exponent qt_work t_work) := hD
        refine lv_iconst (v := 1) hx hb d_Model_keep_115 (by decide) ?_
        refine lv_istore (lv' := [(4, .int (1 : Int32)), (0, .ref qt), (2, .int x2), (3, .int x3)]) hx hb d_Model_keep_116 hl (by decide) rfl (fun ls hl => ?_)
        exact W_118 t_count t_exponent  K ((1 : Int32), (upd t_tens (0 : Int32).toNatClampNeg (1 : Int32)))  hf _ _ _ hP hD hS (lv_sub hl [1, 0] rfl)
      · have hf := in_ c_94 hf
        refine lv_aload_n hx hb d_Model_keep_97 rfl (lv_at hl 0 rfl) ?_
        refine va_get (D := gD G) (ci := 7) (v := .ref qt_tens) (C := R_Model) (T := F_Model) (N := 29) hx hb hg in_Model hown hK hP 0 rfl rfl 25 (by decide) (hg _ m_459) (fun _ h9 => h9) rfl d_Model_keep_98 ?_
        refine lv_iload_n hx hb d_Model_keep_101 rfl (lv_at hl 2 rfl) ?_
        refine lv_dup2_11 hx hb d_Model_keep_102 rfl rfl ?_
        obtain ⟨g_103, hf⟩ := gd_ hf
        refine va_iald hx hb hK hP 13 1 rfl rfl (inB_in g_103) d_Model_keep_103 ?_
        refine lv_iconst (v := 1) hx hb d_Model_keep_104 (by decide) ?_
        refine lv_iadd hx hb d_Model_keep_105 ?_
        obtain ⟨g_106, hf⟩ := gd_ hf
        refine va_iast hx hb hK hP hD hS 13 1 rfl rfl (inB_in g_106) d_Model_keep_106 (fun H locs hP hD hS => ?_)
        have hP : va_P (gD G) vwCl (w_Model_clear G qt qt_draft t_draft t_drafted qt_result t_result t_length t_arguments qt_kinds t_kinds qt_values t_values qt_widths t_widths qt_below t_below qt_sizes t_sizes qt_scales t_scales qt_parts t_parts qt_texts t_texts qt_lengths t_lengths t_end t_index t_flags t_twice t_width t_precision t_conversion t_broken qt_piece t_piece t_put t_head qt_tens (upd t_tens x3.toNatClampNeg ((t_tens x3.toNatClampNeg) + (1 : Int32))) t_count t_exponent qt_work t_work) H := hP
        have hD : va_D A (w_Model_clear G qt qt_draft t_draft t_drafted qt_result t_result t_length t_arguments qt_kinds t_kinds qt_values t_values qt_widths t_widths qt_below t_below qt_sizes t_sizes qt_scales t_scales qt_parts t_parts qt_texts t_texts qt_lengths t_lengths t_end t_index t_flags t_twice t_width t_precision t_conversion t_broken qt_piece t_piece t_put t_head qt_tens (upd t_tens x3.toNatClampNeg ((t_tens x3.toNatClampNeg) + (1 : Int32))) t_count t_exponent qt_work t_work) := hD
        obtain rfl := Option.some.inj hf
        rw [← hQ]
        exact W.vret hx hb hr (fun t9 ht hW => ⟨⟨(), rfl, trivial, ⟨by rw [ht]; exact hP, hD⟩⟩, hS.F ht⟩) hS.2.2 d_Model_keep_107
    · have hf := ip_ c_89 hf
      obtain rfl := Option.some.inj hf
      rw [← hQ]
      exact W.vret hx hb hr (fun t9 ht hW => ⟨⟨(), rfl, trivial, ⟨by rw [ht]; exact hP, hD⟩⟩, hS.F ht⟩) hS.2.2 d_Model_keep_92
  have W_56 : ∀ (x2 : Int32) (t_count : Int32) (t_exponent : Int32) (b_x2 : bl x2) (n_56 : Nat) (z56 : Int32 × (Nat → Int32)) , lp_ (b_Model_keep_56 K x2 t_count t_exponent) n_56 z56 = some res → ∀ (H : Heap) (locs : List Loc) (ls : Array Slot), va_P (gD G) vwCl (w_Model_clear G qt qt_draft t_draft t_drafted qt_result t_result t_length t_arguments qt_kinds t_kinds qt_values t_values qt_widths t_widths qt_below t_below qt_sizes t_sizes qt_scales t_scales qt_parts t_parts qt_texts t_texts qt_lengths t_lengths t_end t_index t_flags t_twice t_width t_precision t_conversion t_broken qt_piece t_piece t_put t_head qt_tens z56.2 t_count t_exponent qt_work t_work) H → va_D A (w_Model_clear G qt qt_draft t_draft t_drafted qt_result t_result t_length t_arguments qt_kinds t_kinds qt_values t_values qt_widths t_widths qt_below t_below qt_sizes t_sizes qt_scales t_scales qt_parts t_parts qt_texts t_texts qt_lengths t_lengths t_end t_index t_flags t_twice t_width t_precision t_conversion t_broken qt_piece t_piece t_put t_head qt_tens z56.2 t_count t_exponent qt_work t_work) → va_S A s.heap H locs → lv_has ls 5 [(0, .ref qt), (2, .int x2), (3, .int z56.1)] → W p l e { frames := 0, cells := 0, slots := 0, locals := 0 } s m ([.ref qt, .int a1] : List Value).toArray below meth c H locs 0 0 Q (F0 m 56 ls []) := by
    intro x2 t_count t_exponent b_x2 n_56
    induction n_56 with
    | zero =>
      intro z56  hf
      cases hf
    | succ n_56 ih_56 =>
      intro z56  hf H locs ls hP hD hS hl
      have hf : b_Model_keep_56 K x2 t_count t_exponent (lp_ (b_Model_keep_56 K x2 t_count t_exponent) n_56) z56 = some res := hf
      generalize lp_ (b_Model_keep_56 K x2 t_count t_exponent) n_56 = rec_56 at hf ih_56
      unfold b_Model_keep_56 at hf
      refine lv_iload_n hx hb d_Model_keep_56 rfl (lv_at hl 1 rfl) ?_
      refine lv_if_eq (tgt := 88) hx hb d_Model_keep_57 (by decide) (fun c_57 => ?_) (fun c_57 => ?_)
      · have hf := ip_ c_57 hf
        exact W_88 x2 z56.1 t_count t_exponent z56.2 b_x2 hf _ _ _ hP hD hS (lv_sub hl [0, 1, 2] rfl)
      · have hf := in_ c_57 hf
        refine lv_iload_n hx hb d_Model_keep_60 rfl (lv_at hl 2 rfl) ?_
        refine lv_if_lt (tgt := 88) hx hb d_Model_keep_61 (by decide) (fun c_61 => ?_) (fun c_61 => ?_)
        · have hf := ip_ c_61 hf
          exact W_88 x2 z56.1 t_count t_exponent z56.2 b_x2 hf _ _ _ hP hD hS (lv_sub hl [0, 1, 2] rfl)
        · have hf := in_ c_61 hf
          refine lv_aload_n hx hb d_Model_keep_64 rfl (lv_at hl 0 rfl) ?_
          refine va_get (D := gD G) (ci := 7) (v := .ref qt_tens) (C := R_Model) (T := F_Model) (N := 29) hx hb hg in_Model hown hK hP 0 rfl rfl 25 (by decide) (hg _ m_459) (fun _ h9 => h9) rfl d_Model_keep_65 ?_
          refine lv_iload_n hx hb d_Model_keep_68 rfl (lv_at hl 2 rfl) ?_
          obtain ⟨g_69, hf⟩ := gd_ hf
          refine va_iald hx hb hK hP 13 1 rfl rfl (inB_in g_69) d_Model_keep_69 ?_
          refine lv_bipush (v := 9) hx hb d_Model_keep_70 (by decide) ?_
          refine lv_icmp_ne (tgt := 88) hx hb d_Model_keep_72 (by decide) (fun c_72 => ?_) (fun c_72 => ?_)
          · have hf := in_ c_72 hf
            exact W_88 x2 z56.1 t_count t_exponent z56.2 b_x2 hf _ _ _ hP hD hS (lv_sub hl [0, 1, 2] rfl)
          · have hf := ip_ c_72 hf
            refine lv_aload_n hx hb d_Model_keep_75 rfl (lv_at hl 0 rfl) ?_
            refine va_get (D := gD G) (ci := 7) (v := .ref qt_tens) (C := R_Model) (T := F_Model) (N := 29) hx hb hg in_Model hown hK hP 0 rfl rfl 25 (by decide) (hg _ m_459) (fun _ h9 => h9) rfl d_Model_keep_76 ?_
            refine lv_iload_n hx hb d_Model_keep_79 rfl (lv_at hl 2 rfl) ?_
            refine lv_iconst (v := 0) hx hb d_Model_keep_80 (by decide) ?_
            obtain ⟨g_81, hf⟩ := gd_ hf
            refine va_iast hx hb hK hP hD hS 13 1 rfl rfl (inB_in g_81) d_Model_keep_81 (fun H locs hP hD hS => ?_)
            have hP : va_P (gD G) vwCl (w_Model_clear G qt qt_draft t_draft t_drafted qt_result t_result t_length t_arguments qt_kinds t_kinds qt_values t_values qt_widths t_widths qt_below t_below qt_sizes t_sizes qt_scales t_scales qt_parts t_parts qt_texts t_texts qt_lengths t_lengths t_end t_index t_flags t_twice t_width t_precision t_conversion t_broken qt_piece t_piece t_put t_head qt_tens (upd z56.2 z56.1.toNatClampNeg (0 : Int32)) t_count t_exponent qt_work t_work) H := hP
            have hD : va_D A (w_Model_clear G qt qt_draft t_draft t_drafted qt_result t_result t_length t_arguments qt_kinds t_kinds qt_values t_values qt_widths t_widths qt_below t_below qt_sizes t_sizes qt_scales t_scales qt_parts t_parts qt_texts t_texts qt_lengths t_lengths t_end t_index t_flags t_twice t_width t_precision t_conversion t_broken qt_piece t_piece t_put t_head qt_tens (upd z56.2 z56.1.toNatClampNeg (0 : Int32)) t_count t_exponent qt_work t_work) := hD
            refine lv_iinc (v := (z56.1 + (-1))) (lv' := [(3, .int (z56.1 + (-1))), (0, .ref qt), (2, .int x2)]) hx hb d_Model_keep_82 hl (k := 2) rfl rfl (by decide) rfl (fun ls hl => ?_)
            refine lv_goto (tgt := 56) hx hb d_Model_keep_85 (by decide) ?_
            exact ih_56 ((z56.1 + (-1)), (upd z56.2 z56.1.toNatClampNeg (0 : Int32)))  hf _ _ _ hP hD hS (lv_sub hl [1, 2, 0] rfl)
  have W_46 : ∀ (x2 : Int32) (k1 : Int32) (t_count : Int32) (t_exponent : Int32) (t_tens : (Nat → Int32)) (b_x2 : bl x2), k_Model_keep_46 K x2 k1 t_count t_exponent t_tens = some res → ∀ (H : Heap) (locs : List Loc) (ls : Array Slot), va_P (gD G) vwCl (w_Model_clear G qt qt_draft t_draft t_drafted qt_result t_result t_length t_arguments qt_kinds t_kinds qt_values t_values qt_widths t_widths qt_below t_below qt_sizes t_sizes qt_scales t_scales qt_parts t_parts qt_texts t_texts qt_lengths t_lengths t_end t_index t_flags t_twice t_width t_precision t_conversion t_broken qt_piece t_piece t_put t_head qt_tens t_tens t_count t_exponent qt_work t_work) H → va_D A (w_Model_clear G qt qt_draft t_draft t_drafted qt_result t_result t_length t_arguments qt_kinds t_kinds qt_values t_values qt_widths t_widths qt_below t_below qt_sizes t_sizes qt_scales t_scales qt_parts t_parts qt_texts t_texts qt_lengths t_lengths t_end t_index t_flags t_twice t_width t_precision t_conversion t_broken qt_piece t_piece t_put t_head qt_tens t_tens t_count t_exponent qt_work t_work) → va_S A s.heap H locs → lv_has ls 5 [(0, .ref qt), (2, .int x2)] → W p l e { frames := 0, cells := 0, slots := 0, locals := 0 } s m ([.ref qt, .int a1] : List Value).toArray below meth c H locs 0 0 Q (F0 m 46 ls [.int k1, .ref qt]) := by
    intro x2 k1 t_count t_exponent t_tens b_x2 hf H locs ls hP hD hS hl
    unfold k_Model_keep_46 at hf
    refine va_put (D := gD G) (ci := 7) (v := .int k1) (ty := .int) (C := R_Model) (T := F_Model) (N := 29) hx hb hg in_Model t_Model to_Model no_Model hown hK hP hD hS 0 rfl rfl 26 (by decide) (hg _ m_458) (fun _ h9 => h9) rfl (by decide +kernel) rfl rfl (Nat.le_of_ble_eq_true rfl) d_Model_keep_46 (fun H locs hP hD hS => ?_)
    have hP : va_P (gD G) vwCl (w_Model_clear G qt qt_draft t_draft t_drafted qt_result t_result t_length t_arguments qt_kinds t_kinds qt_values t_values qt_widths t_widths qt_below t_below qt_sizes t_sizes qt_scales t_scales qt_parts t_parts qt_texts t_texts qt_lengths t_lengths t_end t_index t_flags t_twice t_width t_precision t_conversion t_broken qt_piece t_piece t_put t_head qt_tens t_tens k1 t_exponent qt_work t_work) H := hP
    have hD : va_D A (w_Model_clear G qt qt_draft t_draft t_drafted qt_result t_result t_length t_arguments qt_kinds t_kinds qt_values t_values qt_widths t_widths qt_below t_below qt_sizes t_sizes qt_scales t_scales qt_parts t_parts qt_texts t_texts qt_lengths t_lengths t_end t_index t_flags t_twice t_width t_precision t_conversion t_broken qt_piece t_piece t_put t_head qt_tens t_tens k1 t_exponent qt_work t_work) := hD
    refine lv_aload_n hx hb d_Model_keep_49 rfl (lv_at hl 0 rfl) ?_
    refine va_get (D := gD G) (ci := 7) (v := .int k1) (C := R_Model) (T := F_Model) (N := 29) hx hb hg in_Model hown hK hP 0 rfl rfl 26 (by decide) (hg _ m_458) (fun _ h9 => h9) rfl d_Model_keep_50 ?_
    refine lv_iconst (v := 1) hx hb d_Model_keep_53 (by decide) ?_
    refine lv_isub hx hb d_Model_keep_54 ?_
    refine lv_istore_n (lv' := [(3, .int (k1 - (1 : Int32))), (0, .ref qt), (2, .int x2)]) hx hb d_Model_keep_55 rfl hl (by decide) rfl (fun ls hl => ?_)
    exact W_56 x2 k1 t_exponent b_x2 K ((k1 - (1 : Int32)), t_tens)  hf _ _ _ hP hD hS (lv_sub hl [1, 2, 0] rfl)
  have W_35 : ∀ (k0 : Int32) (t_count : Int32) (t_exponent : Int32) (t_tens : (Nat → Int32)) (b_k0 : bl k0), k_Model_keep_35 K a1 k0 t_count t_exponent t_tens = some res → ∀ (H : Heap) (locs : List Loc) (ls : Array Slot), va_P (gD G) vwCl (w_Model_clear G qt qt_draft t_draft t_drafted qt_result t_result t_length t_arguments qt_kinds t_kinds qt_values t_values qt_widths t_widths qt_below t_below qt_sizes t_sizes qt_scales t_scales qt_parts t_parts qt_texts t_texts qt_lengths t_lengths t_end t_index t_flags t_twice t_width t_precision t_conversion t_broken qt_piece t_piece t_put t_head qt_tens t_tens t_count t_exponent qt_work t_work) H → va_D A (w_Model_clear G qt qt_draft t_draft t_drafted qt_result t_result t_length t_arguments qt_kinds t_kinds qt_values t_values qt_widths t_widths qt_below t_below qt_sizes t_sizes qt_scales t_scales qt_parts t_parts qt_texts t_texts qt_lengths t_lengths t_end t_index t_flags t_twice t_width t_precision t_conversion t_broken qt_piece t_piece t_put t_head qt_tens t_tens t_count t_exponent qt_work t_work) → va_S A s.heap H locs → lv_has ls 5 [(0, .ref qt), (1, .int a1)] → W p l e { frames := 0, cells := 0, slots := 0, locals := 0 } s m ([.ref qt, .int a1] : List Value).toArray below meth c H locs 0 0 Q (F0 m 35 ls [.int k0]) := by
    intro k0 t_count t_exponent t_tens b_k0 hf H locs ls hP hD hS hl
    unfold k_Model_keep_35 at hf
    refine lv_istore_n (lv' := [(2, .int k0), (0, .ref qt), (1, .int a1)]) hx hb d_Model_keep_35 rfl hl (by decide) rfl (fun ls hl => ?_)
    refine lv_aload_n hx hb d_Model_keep_36 rfl (lv_at hl 1 rfl) ?_
    refine lv_iload_n hx hb d_Model_keep_37 rfl (lv_at hl 2 rfl) ?_
    refine lv_if_ge (tgt := 45) hx hb d_Model_keep_38 (by decide) (fun c_38 => ?_) (fun c_38 => ?_)
    · have hf := ip_ c_38 hf
      refine lv_iload_n hx hb d_Model_keep_45 rfl (lv_at hl 2 rfl) ?_
      exact W_46 k0 a1 t_count t_exponent t_tens b_k0 hf _ _ _ hP hD hS (lv_sub hl [1, 0] rfl)
    · have hf := in_ c_38 hf
      refine lv_iconst (v := 0) hx hb d_Model_keep_41 (by decide) ?_
      refine lv_goto (tgt := 46) hx hb d_Model_keep_42 (by decide) ?_
      exact W_46 k0 (0 : Int32) t_count t_exponent t_tens b_k0 hf _ _ _ hP hD hS (lv_sub hl [1, 0] rfl)
  have W_34 : ∀ (t_count : Int32) (t_exponent : Int32) (t_tens : (Nat → Int32)) , k_Model_keep_34 K a1 t_count t_exponent t_tens = some res → ∀ (H : Heap) (locs : List Loc) (ls : Array Slot), va_P (gD G) vwCl (w_Model_clear G qt qt_draft t_draft t_drafted qt_result t_result t_length t_arguments qt_kinds t_kinds qt_values t_values qt_widths t_widths qt_below t_below qt_sizes t_sizes qt_scales t_scales qt_parts t_parts qt_texts t_texts qt_lengths t_lengths t_end t_index t_flags t_twice t_width t_precision t_conversion t_broken qt_piece t_piece t_put t_head qt_tens t_tens t_count t_exponent qt_work t_work) H → va_D A (w_Model_clear G qt qt_draft t_draft t_drafted qt_result t_result t_length t_arguments qt_kinds t_kinds qt_values t_values qt_widths t_widths qt_below t_below qt_sizes t_sizes qt_scales t_scales qt_parts t_parts qt_texts t_texts qt_lengths t_lengths t_end t_index t_flags t_twice t_width t_precision t_conversion t_broken qt_piece t_piece t_put t_head qt_tens t_tens t_count t_exponent qt_work t_work) → va_S A s.heap H locs → lv_has ls 5 [(0, .ref qt), (1, .int a1)] → W p l e { frames := 0, cells := 0, slots := 0, locals := 0 } s m ([.ref qt, .int a1] : List Value).toArray below meth c H locs 0 0 Q (F0 m 34 ls []) := by
    intro t_count t_exponent t_tens  hf H locs ls hP hD hS hl
    unfold k_Model_keep_34 at hf
    refine lv_iconst (v := 0) hx hb d_Model_keep_34 (by decide) ?_
    exact W_35 (0 : Int32) t_count t_exponent t_tens bl_0 hf _ _ _ hP hD hS (lv_sub hl [0, 1] rfl)
  unfold f_Model_keep at hf
  refine lv_aload_n hx hb d_Model_keep_0 rfl (lv_at hl 0 rfl) ?_
  refine va_get (D := gD G) (ci := 7) (v := .int t_count) (C := R_Model) (T := F_Model) (N := 29) hx hb hg in_Model hown hK hP 0 rfl rfl 26 (by decide) (hg _ m_458) (fun _ h9 => h9) rfl d_Model_keep_1 ?_
  refine lv_if_eq (tgt := 15) hx hb d_Model_keep_4 (by decide) (fun c_4 => ?_) (fun c_4 => ?_)
  · have hf := ip_ c_4 hf
    obtain rfl := Option.some.inj hf
    rw [← hQ]
    exact W.vret hx hb hr (fun t9 ht hW => ⟨⟨(), rfl, trivial, ⟨by rw [ht]; exact hP, hD⟩⟩, hS.F ht⟩) hS.2.2 d_Model_keep_15
  · have hf := in_ c_4 hf
    refine lv_iload_n hx hb d_Model_keep_7 rfl (lv_at hl 1 rfl) ?_
    refine lv_aload_n hx hb d_Model_keep_8 rfl (lv_at hl 0 rfl) ?_
    refine va_get (D := gD G) (ci := 7) (v := .int t_count) (C := R_Model) (T := F_Model) (N := 29) hx hb hg in_Model hown hK hP 0 rfl rfl 26 (by decide) (hg _ m_458) (fun _ h9 => h9) rfl d_Model_keep_9 ?_
    refine lv_icmp_lt (tgt := 16) hx hb d_Model_keep_12 (by decide) (fun c_12 => ?_) (fun c_12 => ?_)
    · have hf := ip_ c_12 hf
      refine lv_iload_n hx hb d_Model_keep_16 rfl (lv_at hl 1 rfl) ?_
      refine lv_if_lt (tgt := 34) hx hb d_Model_keep_17 (by decide) (fun c_17 => ?_) (fun c_17 => ?_)
      · have hf := ip_ c_17 hf
        exact W_34 t_count t_exponent t_tens  hf _ _ _ hP hD hS (lv_sub hl [0, 1] rfl)
      · have hf := in_ c_17 hf
        refine lv_aload_n hx hb d_Model_keep_20 rfl (lv_at hl 0 rfl) ?_
        refine va_get (D := gD G) (ci := 7) (v := .ref qt_tens) (C := R_Model) (T := F_Model) (N := 29) hx hb hg in_Model hown hK hP 0 rfl rfl 25 (by decide) (hg _ m_459) (fun _ h9 => h9) rfl d_Model_keep_21 ?_
        refine lv_iload_n hx hb d_Model_keep_24 rfl (lv_at hl 1 rfl) ?_
        obtain ⟨g_25, hf⟩ := gd_ hf
        refine va_iald hx hb hK hP 13 1 rfl rfl (inB_in g_25) d_Model_keep_25 ?_
        refine lv_iconst (v := 5) hx hb d_Model_keep_26 (by decide) ?_
        refine lv_icmp_lt (tgt := 34) hx hb d_Model_keep_27 (by decide) (fun c_27 => ?_) (fun c_27 => ?_)
        · have hf := ip_ c_27 hf
          exact W_34 t_count t_exponent t_tens  hf _ _ _ hP hD hS (lv_sub hl [0, 1] rfl)
        · have hf := in_ c_27 hf
          refine lv_iconst (v := 1) hx hb d_Model_keep_30 (by decide) ?_
          refine lv_goto (tgt := 35) hx hb d_Model_keep_31 (by decide) ?_
          exact W_35 (1 : Int32) t_count t_exponent t_tens bl_1 hf _ _ _ hP hD hS (lv_sub hl [0, 1] rfl)
    · have hf := in_ c_12 hf
      obtain rfl := Option.some.inj hf
      rw [← hQ]
      exact W.vret hx hb hr (fun t9 ht hW => ⟨⟨(), rfl, trivial, ⟨by rw [ht]; exact hP, hD⟩⟩, hS.F ht⟩) hS.2.2 d_Model_keep_15
theorem d_Model_isZero_0 : decode cd_Model_isZero 0 = .ok (.iconst 1, 1) := by decide +kernel
theorem d_Model_isZero_1 : decode cd_Model_isZero 1 = .ok (.istore_n 1, 1) := by decide +kernel
theorem d_Model_isZero_2 : decode cd_Model_isZero 2 = .ok (.iconst 0, 1) := by decide +kernel
theorem d_Model_isZero_3 : decode cd_Model_isZero 3 = .ok (.istore_n 2, 1) := by decide +kernel
theorem d_Model_isZero_4 : decode cd_Model_isZero 4 = .ok (.iload_n 2, 1) := by decide +kernel
theorem d_Model_isZero_5 : decode cd_Model_isZero 5 = .ok (.aload_n 0, 1) := by decide +kernel
theorem d_Model_isZero_6 : decode cd_Model_isZero 6 = .ok (.getfield 143, 3) := by decide +kernel
theorem d_Model_isZero_9 : decode cd_Model_isZero 9 = .ok (.if_icmp .ge 28, 3) := by decide +kernel
theorem d_Model_isZero_12 : decode cd_Model_isZero 12 = .ok (.iload_n 1, 1) := by decide +kernel
theorem d_Model_isZero_13 : decode cd_Model_isZero 13 = .ok (.ifCond .eq 16, 3) := by decide +kernel
theorem d_Model_isZero_16 : decode cd_Model_isZero 16 = .ok (.aload_n 0, 1) := by decide +kernel
theorem d_Model_isZero_17 : decode cd_Model_isZero 17 = .ok (.getfield 48, 3) := by decide +kernel
theorem d_Model_isZero_20 : decode cd_Model_isZero 20 = .ok (.iload_n 2, 1) := by decide +kernel
theorem d_Model_isZero_21 : decode cd_Model_isZero 21 = .ok (.iaload, 1) := by decide +kernel
theorem d_Model_isZero_22 : decode cd_Model_isZero 22 = .ok (.ifCond .ne 7, 3) := by decide +kernel
theorem d_Model_isZero_25 : decode cd_Model_isZero 25 = .ok (.iconst 1, 1) := by decide +kernel
theorem d_Model_isZero_26 : decode cd_Model_isZero 26 = .ok (.goto 4, 3) := by decide +kernel
theorem d_Model_isZero_29 : decode cd_Model_isZero 29 = .ok (.iconst 0, 1) := by decide +kernel
theorem d_Model_isZero_30 : decode cd_Model_isZero 30 = .ok (.istore_n 1, 1) := by decide +kernel
theorem d_Model_isZero_31 : decode cd_Model_isZero 31 = .ok (.iinc 2 1, 3) := by decide +kernel
theorem d_Model_isZero_34 : decode cd_Model_isZero 34 = .ok (.goto (-30), 3) := by decide +kernel
theorem d_Model_isZero_37 : decode cd_Model_isZero 37 = .ok (.iload_n 1, 1) := by decide +kernel
theorem d_Model_isZero_38 : decode cd_Model_isZero 38 = .ok (.ireturn, 1) := by decide +kernel
def k_Model_isZero_30 (rec_4 : (Int32 × Int32) → Option Int32) (x2 : Int32) (k0 : Int32) : Option Int32 :=
  rec_4 (k0, (x2 + 1))
def k_Model_isZero_29 (rec_4 : (Int32 × Int32) → Option Int32) (x2 : Int32) : Option Int32 :=
  k_Model_isZero_30 rec_4 x2 (0 : Int32)
def b_Model_isZero_4 (t_tens : Nat → Int32) (t_count : Int32)  (rec_4 : (Int32 × Int32) → Option Int32) (z4 : Int32 × Int32) : Option Int32 :=
  (if t_count ≤ z4.2 then some z4.1 else (if z4.1 = 0 then k_Model_isZero_29 rec_4 z4.2 else (if inB z4.2 1200 = true then (if (t_tens z4.2.toNatClampNeg) = 0 then k_Model_isZero_30 rec_4 z4.2 (1 : Int32) else k_Model_isZero_29 rec_4 z4.2) else none)))
def f_Model_isZero (K : Nat) (t_tens : Nat → Int32) (t_count : Int32) : Option Int32 :=
  lp_ (b_Model_isZero_4 t_tens t_count ) K ((1 : Int32), (0 : Int32))
set_option maxHeartbeats 4000000 in
set_option maxRecDepth 100000 in
theorem c_Model_isZero (l : Launch) (G : Gt) (K : Nat) (qt : Nat) (qt_draft : Nat) (t_draft : Nat → Int32) (t_drafted : Int32) (qt_result : Nat) (t_result : Nat → Int32) (t_length : Int32) (t_arguments : Int32) (qt_kinds : Nat) (t_kinds : Nat → Int32) (qt_values : Nat) (t_values : Nat → Int64) (qt_widths : Nat) (t_widths : Nat → Int32) (qt_below : Nat) (t_below : Nat → Int32) (qt_sizes : Nat) (t_sizes : Nat → Int32) (qt_scales : Nat) (t_scales : Nat → Int32) (qt_parts : Nat) (t_parts : Nat → Int64) (qt_texts : Nat) (t_texts : Nat → Int32) (qt_lengths : Nat) (t_lengths : Nat → Int32) (t_end : Int32) (t_index : Int32) (t_flags : Int32) (t_twice : Int32) (t_width : Int32) (t_precision : Int32) (t_conversion : Int32) (t_broken : Int32) (qt_piece : Nat) (t_piece : Nat → Int32) (t_put : Int32) (t_head : Int32) (qt_tens : Nat) (t_tens : Nat → Int32) (t_count : Int32) (t_exponent : Int32) (qt_work : Nat) (t_work : Nat → Int32) (sz : Nat) (res : Int32)   (hf : f_Model_isZero K t_tens t_count = some res) : Met l y_Model_isZero (.code y_Model_isZero cd_Model_isZero 3 (some .boolean) :: gw) { frames := 0, cells := 0, slots := 0, locals := 0 } (PC G ([.ref qt] : List Value) sz (w_Model_clear G qt qt_draft t_draft t_drafted qt_result t_result t_length t_arguments qt_kinds t_kinds qt_values t_values qt_widths t_widths qt_below t_below qt_sizes t_sizes qt_scales t_scales qt_parts t_parts qt_texts t_texts qt_lengths t_lengths t_end t_index t_flags t_twice t_width t_precision t_conversion t_broken qt_piece t_piece t_put t_head qt_tens t_tens t_count t_exponent qt_work t_work)) (QZ G res (va_A (w_Model_clear G qt qt_draft t_draft t_drafted qt_result t_result t_length t_arguments qt_kinds t_kinds qt_values t_values qt_widths t_widths qt_below t_below qt_sizes t_sizes qt_scales t_scales qt_parts t_parts qt_texts t_texts qt_lengths t_lengths t_end t_index t_flags t_twice t_width t_precision t_conversion t_broken qt_piece t_piece t_put t_head qt_tens t_tens t_count t_exponent qt_work t_work) sz) (w_Model_clear G qt qt_draft t_draft t_drafted qt_result t_result t_length t_arguments qt_kinds t_kinds qt_values t_values qt_widths t_widths qt_below t_below qt_sizes t_sizes qt_scales t_scales qt_parts t_parts qt_texts t_texts qt_lengths t_lengths t_end t_index t_flags t_twice t_width t_precision t_conversion t_broken qt_piece t_piece t_put t_head qt_tens t_tens t_count t_exponent qt_work t_work)) 0 0 (va_A (w_Model_clear G qt qt_draft t_draft t_drafted qt_result t_result t_length t_arguments qt_kinds t_kinds qt_values t_values qt_widths t_widths qt_below t_below qt_sizes t_sizes qt_scales t_scales qt_parts t_parts qt_texts t_texts qt_lengths t_lengths t_end t_index t_flags t_twice t_width t_precision t_conversion t_broken qt_piece t_piece t_put t_head qt_tens t_tens t_count t_exponent qt_work t_work) sz) := by
  refine Met.ofW (cc := cd_Model_isZero) (maxL := 3) (ret := (some .boolean)) (by decide) rfl ?_
  intro p e s m args below meth c s₁ B hml hv
  obtain ⟨rfl, hsz, hP, hE, hD0⟩ := hv
  have hx := B.exec
  have hb := B.bytes
  have hr := B.returns
  have hts := atoms_spec (ws := (.code y_Model_isZero cd_Model_isZero 3 (some .boolean) :: gw)) B.pre
  have hg : ∀ w ∈ gw, w.before _ s = true := fun w h => hts w (List.mem_cons_of_mem _ h)
  have hown : s.vm.findClass R_Model = some m.cls := findClass_of_methodNamed B.named
  have hlocks := B.notSynchronized
  subst hsz
  have hK := hE.K
  have hD := hD0.self (sz := s.heap.size)
  have hAb := hE.ab hD0
  obtain ⟨Q, hQ⟩ : ∃ Q, MQ below (QZ G res (va_A (w_Model_clear G qt qt_draft t_draft t_drafted qt_result t_result t_length t_arguments qt_kinds t_kinds qt_values t_values qt_widths t_widths qt_below t_below qt_sizes t_sizes qt_scales t_scales qt_parts t_parts qt_texts t_texts qt_lengths t_lengths t_end t_index t_flags t_twice t_width t_precision t_conversion t_broken qt_piece t_piece t_put t_head qt_tens t_tens t_count t_exponent qt_work t_work) s.heap.size) (w_Model_clear G qt qt_draft t_draft t_drafted qt_result t_result t_length t_arguments qt_kinds t_kinds qt_values t_values qt_widths t_widths qt_below t_below qt_sizes t_sizes qt_scales t_scales qt_parts t_parts qt_texts t_texts qt_lengths t_lengths t_end t_index t_flags t_twice t_width t_precision t_conversion t_broken qt_piece t_piece t_put t_head qt_tens t_tens t_count t_exponent qt_work t_work)) ([.ref qt] : List Value).toArray s 0 0 (va_A (w_Model_clear G qt qt_draft t_draft t_drafted qt_result t_result t_length t_arguments qt_kinds t_kinds qt_values t_values qt_widths t_widths qt_below t_below qt_sizes t_sizes qt_scales t_scales qt_parts t_parts qt_texts t_texts qt_lengths t_lengths t_end t_index t_flags t_twice t_width t_precision t_conversion t_broken qt_piece t_piece t_put t_head qt_tens t_tens t_count t_exponent qt_work t_work) s.heap.size) = Q := ⟨_, rfl⟩
  show W p l e { frames := 0, cells := 0, slots := 0, locals := 0 } s m ([.ref qt] : List Value).toArray below meth c s.heap [] 0 0 (MQ below (QZ G res (va_A (w_Model_clear G qt qt_draft t_draft t_drafted qt_result t_result t_length t_arguments qt_kinds t_kinds qt_values t_values qt_widths t_widths qt_below t_below qt_sizes t_sizes qt_scales t_scales qt_parts t_parts qt_texts t_texts qt_lengths t_lengths t_end t_index t_flags t_twice t_width t_precision t_conversion t_broken qt_piece t_piece t_put t_head qt_tens t_tens t_count t_exponent qt_work t_work) s.heap.size) (w_Model_clear G qt qt_draft t_draft t_drafted qt_result t_result t_length t_arguments qt_kinds t_kinds qt_values t_values qt_widths t_widths qt_below t_below qt_sizes t_sizes qt_scales t_scales qt_parts t_parts qt_texts t_texts qt_lengths t_lengths t_end t_index t_flags t_twice t_width t_precision t_conversion t_broken qt_piece t_piece t_put t_head qt_tens t_tens t_count t_exponent qt_work t_work)) ([.ref qt] : List Value).toArray s 0 0 (va_A (w_Model_clear G qt qt_draft t_draft t_drafted qt_result t_result t_length t_arguments qt_kinds t_kinds qt_values t_values qt_widths t_widths qt_below t_below qt_sizes t_sizes qt_scales t_scales qt_parts t_parts qt_texts t_texts qt_lengths t_lengths t_end t_index t_flags t_twice t_width t_precision t_conversion t_broken qt_piece t_piece t_put t_head qt_tens t_tens t_count t_exponent qt_work t_work) s.heap.size)) _
  rw [hQ]
  have hA : ∀ q : Nat, s.heap.size ≤ q → va_A (w_Model_clear G qt qt_draft t_draft t_drafted qt_result t_result t_length t_arguments qt_kinds t_kinds qt_values t_values qt_widths t_widths qt_below t_below qt_sizes t_sizes qt_scales t_scales qt_parts t_parts qt_texts t_texts qt_lengths t_lengths t_end t_index t_flags t_twice t_width t_precision t_conversion t_broken qt_piece t_piece t_put t_head qt_tens t_tens t_count t_exponent qt_work t_work) s.heap.size q := fun q h => Or.inr h
  obtain ⟨A, hAe⟩ : ∃ A, va_A (w_Model_clear G qt qt_draft t_draft t_drafted qt_result t_result t_length t_arguments qt_kinds t_kinds qt_values t_values qt_widths t_widths qt_below t_below qt_sizes t_sizes qt_scales t_scales qt_parts t_parts qt_texts t_texts qt_lengths t_lengths t_end t_index t_flags t_twice t_width t_precision t_conversion t_broken qt_piece t_piece t_put t_head qt_tens t_tens t_count t_exponent qt_work t_work) s.heap.size = A := ⟨_, rfl⟩
  rw [hAe] at hA hD hAb hQ
  have hS : va_S A s.heap s.heap [] := va_S.rf
  have hl := lv_entry (([.ref qt] : List Value)) (n := 3) (Nat.le_of_ble_eq_true rfl)
  rw [lg_entry_eq]
  generalize (lg_sl (([.ref qt] : List Value)) ++ List.replicate (3 - (lg_sl (([.ref qt] : List Value))).length) Slot.unset).toArray = ls at hl ⊢
  have hl : lv_has ls 3 [(0, .ref qt)] := hl
  have W_4 : ∀   (n_4 : Nat) (z4 : Int32 × Int32) (b_x1 : bl z4.1), lp_ (b_Model_isZero_4 t_tens t_count ) n_4 z4 = some res → ∀ (H : Heap) (locs : List Loc) (ls : Array Slot), va_P (gD G) vwCl (w_Model_clear G qt qt_draft t_draft t_drafted qt_result t_result t_length t_arguments qt_kinds t_kinds qt_values t_values qt_widths t_widths qt_below t_below qt_sizes t_sizes qt_scales t_scales qt_parts t_parts qt_texts t_texts qt_lengths t_lengths t_end t_index t_flags t_twice t_width t_precision t_conversion t_broken qt_piece t_piece t_put t_head qt_tens t_tens t_count t_exponent qt_work t_work) H → va_D A (w_Model_clear G qt qt_draft t_draft t_drafted qt_result t_result t_length t_arguments qt_kinds t_kinds qt_values t_values qt_widths t_widths qt_below t_below qt_sizes t_sizes qt_scales t_scales qt_parts t_parts qt_texts t_texts qt_lengths t_lengths t_end t_index t_flags t_twice t_width t_precision t_conversion t_broken qt_piece t_piece t_put t_head qt_tens t_tens t_count t_exponent qt_work t_work) → va_S A s.heap H locs → lv_has ls 3 [(0, .ref qt), (1, .int z4.1), (2, .int z4.2)] → W p l e { frames := 0, cells := 0, slots := 0, locals := 0 } s m ([.ref qt] : List Value).toArray below meth c H locs 0 0 Q (F0 m 4 ls []) := by
    intro  n_4
    induction n_4 with
    | zero =>
      intro z4 b_x1 hf
      cases hf
    | succ n_4 ih_4 =>
      intro z4 b_x1 hf H locs ls hP hD hS hl
      have hf : b_Model_isZero_4 t_tens t_count  (lp_ (b_Model_isZero_4 t_tens t_count ) n_4) z4 = some res := hf
      generalize lp_ (b_Model_isZero_4 t_tens t_count ) n_4 = rec_4 at hf ih_4
      have W_30 : ∀ (x2 : Int32) (k0 : Int32) (b_k0 : bl k0), k_Model_isZero_30 rec_4 x2 k0 = some res → ∀ (H : Heap) (locs : List Loc) (ls : Array Slot), va_P (gD G) vwCl (w_Model_clear G qt qt_draft t_draft t_drafted qt_result t_result t_length t_arguments qt_kinds t_kinds qt_values t_values qt_widths t_widths qt_below t_below qt_sizes t_sizes qt_scales t_scales qt_parts t_parts qt_texts t_texts qt_lengths t_lengths t_end t_index t_flags t_twice t_width t_precision t_conversion t_broken qt_piece t_piece t_put t_head qt_tens t_tens t_count t_exponent qt_work t_work) H → va_D A (w_Model_clear G qt qt_draft t_draft t_drafted qt_result t_result t_length t_arguments qt_kinds t_kinds qt_values t_values qt_widths t_widths qt_below t_below qt_sizes t_sizes qt_scales t_scales qt_parts t_parts qt_texts t_texts qt_lengths t_lengths t_end t_index t_flags t_twice t_width t_precision t_conversion t_broken qt_piece t_piece t_put t_head qt_tens t_tens t_count t_exponent qt_work t_work) → va_S A s.heap H locs → lv_has ls 3 [(0, .ref qt), (2, .int x2)] → W p l e { frames := 0, cells := 0, slots := 0, locals := 0 } s m ([.ref qt] : List Value).toArray below meth c H locs 0 0 Q (F0 m 30 ls [.int k0]) := by
        intro x2 k0 b_k0 hf H locs ls hP hD hS hl
        unfold k_Model_isZero_30 at hf
        refine lv_istore_n (lv' := [(1, .int k0), (0, .ref qt), (2, .int x2)]) hx hb d_Model_isZero_30 rfl hl (by decide) rfl (fun ls hl => ?_)
        refine lv_iinc (v := (x2 + 1)) (lv' := [(2, .int (x2 + 1)), (1, .int k0), (0, .ref qt)]) hx hb d_Model_isZero_31 hl (k := 2) rfl rfl (by decide) rfl (fun ls hl => ?_)
        refine lv_goto (tgt := 4) hx hb d_Model_isZero_34 (by decide) ?_
        exact ih_4 (k0, (x2 + 1)) b_k0 hf _ _ _ hP hD hS (lv_sub hl [2, 1, 0] rfl)
      have W_29 : ∀ (x2 : Int32) , k_Model_isZero_29 rec_4 x2 = some res → ∀ (H : Heap) (locs : List Loc) (ls : Array Slot), va_P (gD G) vwCl (w_Model_clear G qt qt_draft t_draft t_drafted qt_result t_result t_length t_arguments qt_kinds t_kinds qt_values t_values qt_widths t_widths qt_below t_below qt_sizes t_sizes qt_scales t_scales qt_parts t_parts qt_texts t_texts qt_lengths t_lengths t_end t_index t_flags t_twice t_width t_precision t_conversion t_broken qt_piece t_piece t_put t_head qt_tens t_tens t_count t_exponent qt_work t_work) H → va_D A (w_Model_clear G qt qt_draft t_draft t_drafted qt_result t_result t_length t_arguments qt_kinds t_kinds qt_values t_values qt_widths t_widths qt_below t_below qt_sizes t_sizes qt_scales t_scales qt_parts t_parts qt_texts t_texts qt_lengths t_lengths t_end t_index t_flags t_twice t_width t_precision t_conversion t_broken qt_piece t_piece t_put t_head qt_tens t_tens t_count t_exponent qt_work t_work) → va_S A s.heap H locs → lv_has ls 3 [(0, .ref qt), (2, .int x2)] → W p l e { frames := 0, cells := 0, slots := 0, locals := 0 } s m ([.ref qt] : List Value).toArray below meth c H locs 0 0 Q (F0 m 29 ls []) := by
        intro x2  hf H locs ls hP hD hS hl
        unfold k_Model_isZero_29 at hf
        refine lv_iconst (v := 0) hx hb d_Model_isZero_29 (by decide) ?_
        exact W_30 x2 (0 : Int32) bl_0 hf _ _ _ hP hD hS (lv_sub hl [0, 1] rfl)
      unfold b_Model_isZero_4 at hf
      refine lv_iload_n hx hb d_Model_isZero_4 rfl (lv_at hl 2 rfl) ?_
      refine lv_aload_n hx hb d_Model_isZero_5 rfl (lv_at hl 0 rfl) ?_
      refine va_get (D := gD G) (ci := 7) (v := .int t_count) (C := R_Model) (T := F_Model) (N := 29) hx hb hg in_Model hown hK hP 0 rfl rfl 26 (by decide) (hg _ m_458) (fun _ h9 => h9) rfl d_Model_isZero_6 ?_
      refine lv_icmp_ge (tgt := 37) hx hb d_Model_isZero_9 (by decide) (fun c_9 => ?_) (fun c_9 => ?_)
      · have hf := ip_ c_9 hf
        refine lv_iload_n hx hb d_Model_isZero_37 rfl (lv_at hl 1 rfl) ?_
        obtain rfl := Option.some.inj hf
        rw [← hQ]
        exact W.zret (v := z4.1) hx hb hr (bl_n b_x1) (fun t9 ht hW => ⟨⟨z4.1, (), rfl, ⟨rfl, b_x1⟩, ⟨by rw [ht]; exact hP, hD⟩⟩, hS.F ht⟩) hS.2.2 d_Model_isZero_38
      · have hf := in_ c_9 hf
        refine lv_iload_n hx hb d_Model_isZero_12 rfl (lv_at hl 1 rfl) ?_
        refine lv_if_eq (tgt := 29) hx hb d_Model_isZero_13 (by decide) (fun c_13 => ?_) (fun c_13 => ?_)
        · have hf := ip_ c_13 hf
          exact W_29 z4.2  hf _ _ _ hP hD hS (lv_sub hl [0, 2] rfl)
        · have hf := in_ c_13 hf
          refine lv_aload_n hx hb d_Model_isZero_16 rfl (lv_at hl 0 rfl) ?_
          refine va_get (D := gD G) (ci := 7) (v := .ref qt_tens) (C := R_Model) (T := F_Model) (N := 29) hx hb hg in_Model hown hK hP 0 rfl rfl 25 (by decide) (hg _ m_459) (fun _ h9 => h9) rfl d_Model_isZero_17 ?_
          refine lv_iload_n hx hb d_Model_isZero_20 rfl (lv_at hl 2 rfl) ?_
          obtain ⟨g_21, hf⟩ := gd_ hf
          refine va_iald hx hb hK hP 13 1 rfl rfl (inB_in g_21) d_Model_isZero_21 ?_
          refine lv_if_ne (tgt := 29) hx hb d_Model_isZero_22 (by decide) (fun c_22 => ?_) (fun c_22 => ?_)
          · have hf := in_ c_22 hf
            exact W_29 z4.2  hf _ _ _ hP hD hS (lv_sub hl [0, 2] rfl)
          · have hf := ip_ c_22 hf
            refine lv_iconst (v := 1) hx hb d_Model_isZero_25 (by decide) ?_
            refine lv_goto (tgt := 30) hx hb d_Model_isZero_26 (by decide) ?_
            exact W_30 z4.2 (1 : Int32) bl_1 hf _ _ _ hP hD hS (lv_sub hl [0, 2] rfl)
  unfold f_Model_isZero at hf
  refine lv_iconst (v := 1) hx hb d_Model_isZero_0 (by decide) ?_
  refine lv_istore_n (lv' := [(1, .int (1 : Int32)), (0, .ref qt)]) hx hb d_Model_isZero_1 rfl hl (by decide) rfl (fun ls hl => ?_)
  refine lv_iconst (v := 0) hx hb d_Model_isZero_2 (by decide) ?_
  refine lv_istore_n (lv' := [(2, .int (0 : Int32)), (1, .int (1 : Int32)), (0, .ref qt)]) hx hb d_Model_isZero_3 rfl hl (by decide) rfl (fun ls hl => ?_)
  exact W_4   K ((1 : Int32), (0 : Int32)) bl_1 hf _ _ _ hP hD hS (lv_sub hl [2, 1, 0] rfl)
theorem d_Model_add_0 : decode cd_Model_add 0 = .ok (.aload_n 0, 1) := by decide +kernel
theorem d_Model_add_1 : decode cd_Model_add 1 = .ok (.getfield 45, 3) := by decide +kernel
theorem d_Model_add_4 : decode cd_Model_add 4 = .ok (.aload_n 0, 1) := by decide +kernel
theorem d_Model_add_5 : decode cd_Model_add 5 = .ok (.getfield 161, 3) := by decide +kernel
theorem d_Model_add_8 : decode cd_Model_add 8 = .ok (.iload_n 1, 1) := by decide +kernel
theorem d_Model_add_9 : decode cd_Model_add 9 = .ok (.iastore, 1) := by decide +kernel
theorem d_Model_add_10 : decode cd_Model_add 10 = .ok (.aload_n 0, 1) := by decide +kernel
theorem d_Model_add_11 : decode cd_Model_add 11 = .ok (.dup, 1) := by decide +kernel
theorem d_Model_add_12 : decode cd_Model_add 12 = .ok (.getfield 161, 3) := by decide +kernel
theorem d_Model_add_15 : decode cd_Model_add 15 = .ok (.iconst 1, 1) := by decide +kernel
theorem d_Model_add_16 : decode cd_Model_add 16 = .ok (.iadd, 1) := by decide +kernel
theorem d_Model_add_17 : decode cd_Model_add 17 = .ok (.putfield 161, 3) := by decide +kernel
theorem d_Model_add_20 : decode cd_Model_add 20 = .ok (.return_, 1) := by decide +kernel
theorem m_471 : Cond.fieldLink R_Model 45 "SpecifierDeskModel" "piece" "[I" ∈ gw := gm (i := 882) (by decide +kernel) (by decide +kernel)
theorem m_472 : Cond.fieldLink R_Model 161 "SpecifierDeskModel" "put" "I" ∈ gw := gm (i := 883) (by decide +kernel) (by decide +kernel)
def f_Model_add (t_piece : Nat → Int32) (t_put : Int32) (a1 : Int32) : Option (Int32 × (Nat → Int32)) :=
  (if inB t_put 4000 = true then some ((t_put + (1 : Int32)), (upd t_piece t_put.toNatClampNeg a1)) else none)
set_option maxHeartbeats 4000000 in
set_option maxRecDepth 100000 in
theorem c_Model_add (l : Launch) (G : Gt) (K : Nat) (qt : Nat) (qt_draft : Nat) (t_draft : Nat → Int32) (t_drafted : Int32) (qt_result : Nat) (t_result : Nat → Int32) (t_length : Int32) (t_arguments : Int32) (qt_kinds : Nat) (t_kinds : Nat → Int32) (qt_values : Nat) (t_values : Nat → Int64) (qt_widths : Nat) (t_widths : Nat → Int32) (qt_below : Nat) (t_below : Nat → Int32) (qt_sizes : Nat) (t_sizes : Nat → Int32) (qt_scales : Nat) (t_scales : Nat → Int32) (qt_parts : Nat) (t_parts : Nat → Int64) (qt_texts : Nat) (t_texts : Nat → Int32) (qt_lengths : Nat) (t_lengths : Nat → Int32) (t_end : Int32) (t_index : Int32) (t_flags : Int32) (t_twice : Int32) (t_width : Int32) (t_precision : Int32) (t_conversion : Int32) (t_broken : Int32) (qt_piece : Nat) (t_piece : Nat → Int32) (t_put : Int32) (t_head : Int32) (qt_tens : Nat) (t_tens : Nat → Int32) (t_count : Int32) (t_exponent : Int32) (qt_work : Nat) (t_work : Nat → Int32) (a1 : Int32) (sz : Nat) (res : Int32 × (Nat → Int32))   (hf : f_Model_add t_piece t_put a1 = some res) : Met l y_Model_add (.code y_Model_add cd_Model_add 2 none :: gw) { frames := 0, cells := 0, slots := 0, locals := 0 } (PC G ([.ref qt, .int a1] : List Value) sz (w_Model_clear G qt qt_draft t_draft t_drafted qt_result t_result t_length t_arguments qt_kinds t_kinds qt_values t_values qt_widths t_widths qt_below t_below qt_sizes t_sizes qt_scales t_scales qt_parts t_parts qt_texts t_texts qt_lengths t_lengths t_end t_index t_flags t_twice t_width t_precision t_conversion t_broken qt_piece t_piece t_put t_head qt_tens t_tens t_count t_exponent qt_work t_work)) (QV G (va_A (w_Model_clear G qt qt_draft t_draft t_drafted qt_result t_result t_length t_arguments qt_kinds t_kinds qt_values t_values qt_widths t_widths qt_below t_below qt_sizes t_sizes qt_scales t_scales qt_parts t_parts qt_texts t_texts qt_lengths t_lengths t_end t_index t_flags t_twice t_width t_precision t_conversion t_broken qt_piece t_piece t_put t_head qt_tens t_tens t_count t_exponent qt_work t_work) sz) (w_Model_clear G qt qt_draft t_draft t_drafted qt_result t_result t_length t_arguments qt_kinds t_kinds qt_values t_values qt_widths t_widths qt_below t_below qt_sizes t_sizes qt_scales t_scales qt_parts t_parts qt_texts t_texts qt_lengths t_lengths t_end t_index t_flags t_twice t_width t_precision t_conversion t_broken qt_piece res.2 res.1 t_head qt_tens t_tens t_count t_exponent qt_work t_work)) 0 0 (va_A (w_Model_clear G qt qt_draft t_draft t_drafted qt_result t_result t_length t_arguments qt_kinds t_kinds qt_values t_values qt_widths t_widths qt_below t_below qt_sizes t_sizes qt_scales t_scales qt_parts t_parts qt_texts t_texts qt_lengths t_lengths t_end t_index t_flags t_twice t_width t_precision t_conversion t_broken qt_piece t_piece t_put t_head qt_tens t_tens t_count t_exponent qt_work t_work) sz) := by
  refine Met.ofW (cc := cd_Model_add) (maxL := 2) (ret := none) (by decide) rfl ?_
  intro p e s m args below meth c s₁ B hml hv
  obtain ⟨rfl, hsz, hP, hE, hD0⟩ := hv
  have hx := B.exec
  have hb := B.bytes
  have hr := B.returns
  have hts := atoms_spec (ws := (.code y_Model_add cd_Model_add 2 none :: gw)) B.pre
  have hg : ∀ w ∈ gw, w.before _ s = true := fun w h => hts w (List.mem_cons_of_mem _ h)
  have hown : s.vm.findClass R_Model = some m.cls := findClass_of_methodNamed B.named
  have hlocks := B.notSynchronized
  subst hsz
  have hK := hE.K
  have hD := hD0.self (sz := s.heap.size)
  have hAb := hE.ab hD0
  obtain ⟨Q, hQ⟩ : ∃ Q, MQ below (QV G (va_A (w_Model_clear G qt qt_draft t_draft t_drafted qt_result t_result t_length t_arguments qt_kinds t_kinds qt_values t_values qt_widths t_widths qt_below t_below qt_sizes t_sizes qt_scales t_scales qt_parts t_parts qt_texts t_texts qt_lengths t_lengths t_end t_index t_flags t_twice t_width t_precision t_conversion t_broken qt_piece t_piece t_put t_head qt_tens t_tens t_count t_exponent qt_work t_work) s.heap.size) (w_Model_clear G qt qt_draft t_draft t_drafted qt_result t_result t_length t_arguments qt_kinds t_kinds qt_values t_values qt_widths t_widths qt_below t_below qt_sizes t_sizes qt_scales t_scales qt_parts t_parts qt_texts t_texts qt_lengths t_lengths t_end t_index t_flags t_twice t_width t_precision t_conversion t_broken qt_piece res.2 res.1 t_head qt_tens t_tens t_count t_exponent qt_work t_work)) ([.ref qt, .int a1] : List Value).toArray s 0 0 (va_A (w_Model_clear G qt qt_draft t_draft t_drafted qt_result t_result t_length t_arguments qt_kinds t_kinds qt_values t_values qt_widths t_widths qt_below t_below qt_sizes t_sizes qt_scales t_scales qt_parts t_parts qt_texts t_texts qt_lengths t_lengths t_end t_index t_flags t_twice t_width t_precision t_conversion t_broken qt_piece t_piece t_put t_head qt_tens t_tens t_count t_exponent qt_work t_work) s.heap.size) = Q := ⟨_, rfl⟩
  show W p l e { frames := 0, cells := 0, slots := 0, locals := 0 } s m ([.ref qt, .int a1] : List Value).toArray below meth c s.heap [] 0 0 (MQ below (QV G (va_A (w_Model_clear G qt qt_draft t_draft t_drafted qt_result t_result t_length t_arguments qt_kinds t_kinds qt_values t_values qt_widths t_widths qt_below t_below qt_sizes t_sizes qt_scales t_scales qt_parts t_parts qt_texts t_texts qt_lengths t_lengths t_end t_index t_flags t_twice t_width t_precision t_conversion t_broken qt_piece t_piece t_put t_head qt_tens t_tens t_count t_exponent qt_work t_work) s.heap.size) (w_Model_clear G qt qt_draft t_draft t_drafted qt_result t_result t_length t_arguments qt_kinds t_kinds qt_values t_values qt_widths t_widths qt_below t_below qt_sizes t_sizes qt_scales t_scales qt_parts t_parts qt_texts t_texts qt_lengths t_lengths t_end t_index t_flags t_twice t_width t_precision t_conversion t_broken qt_piece res.2 res.1 t_head qt_tens t_tens t_count t_exponent qt_work t_work)) ([.ref qt, .int a1] : List Value).toArray s 0 0 (va_A (w_Model_clear G qt qt_draft t_draft t_drafted qt_result t_result t_length t_arguments qt_kinds t_kinds qt_values t_values qt_widths t_widths qt_below t_below qt_sizes t_sizes qt_scales t_scales qt_parts t_parts qt_texts t_texts qt_lengths t_lengths t_end t_index t_flags t_twice t_width t_precision t_conversion t_broken qt_piece t_piece t_put t_head qt_tens t_tens t_count t_exponent qt_work t_work) s.heap.size)) _
  rw [hQ]
  have hA : ∀ q : Nat, s.heap.size ≤ q → va_A (w_Model_clear G qt qt_draft t_draft t_drafted qt_result t_result t_length t_arguments qt_kinds t_kinds qt_values t_values qt_widths t_widths qt_below t_below qt_sizes t_sizes qt_scales t_scales qt_parts t_parts qt_texts t_texts qt_lengths t_lengths t_end t_index t_flags t_twice t_width t_precision t_conversion t_broken qt_piece t_piece t_put t_head qt_tens t_tens t_count t_exponent qt_work t_work) s.heap.size q := fun q h => Or.inr h
  obtain ⟨A, hAe⟩ : ∃ A, va_A (w_Model_clear G qt qt_draft t_draft t_drafted qt_result t_result t_length t_arguments qt_kinds t_kinds qt_values t_values qt_widths t_widths qt_below t_below qt_sizes t_sizes qt_scales t_scales qt_parts t_parts qt_texts t_texts qt_lengths t_lengths t_end t_index t_flags t_twice t_width t_precision t_conversion t_broken qt_piece t_piece t_put t_head qt_tens t_tens t_count t_exponent qt_work t_work) s.heap.size = A := ⟨_, rfl⟩
  rw [hAe] at hA hD hAb hQ
  have hS : va_S A s.heap s.heap [] := va_S.rf
  have hl := lv_entry (([.ref qt, .int a1] : List Value)) (n := 2) (Nat.le_of_ble_eq_true rfl)
  rw [lg_entry_eq]
  generalize (lg_sl (([.ref qt, .int a1] : List Value)) ++ List.replicate (2 - (lg_sl (([.ref qt, .int a1] : List Value))).length) Slot.unset).toArray = ls at hl ⊢
  have hl : lv_has ls 2 [(0, .ref qt), (1, .int a1)] := hl
  unfold f_Model_add at hf
  refine lv_aload_n hx hb d_Model_add_0 rfl (lv_at hl 0 rfl) ?_
  refine va_get (D := gD G) (ci := 7) (v := .ref qt_piece) (C := R_Model) (T := F_Model) (N := 29) hx hb hg in_Model hown hK hP 0 rfl rfl 22 (by decide) (hg _ m_471) (fun _ h9 => h9) rfl d_Model_add_1 ?_
  refine lv_aload_n hx hb d_Model_add_4 rfl (lv_at hl 0 rfl) ?_
  refine va_get (D := gD G) (ci := 7) (v := .int t_put) (C := R_Model) (T := F_Model) (N := 29) hx hb hg in_Model hown hK hP 0 rfl rfl 23 (by decide) (hg _ m_472) (fun _ h9 => h9) rfl d_Model_add_5 ?_
  refine lv_iload_n hx hb d_Model_add_8 rfl (lv_at hl 1 rfl) ?_
  obtain ⟨g_9, hf⟩ := gd_ hf
  refine va_iast hx hb hK hP hD hS 12 1 rfl rfl (inB_in g_9) d_Model_add_9 (fun H locs hP hD hS => ?_)
  have hP : va_P (gD G) vwCl (w_Model_clear G qt qt_draft t_draft t_drafted qt_result t_result t_length t_arguments qt_kinds t_kinds qt_values t_values qt_widths t_widths qt_below t_below qt_sizes t_sizes qt_scales t_scales qt_parts t_parts qt_texts t_texts qt_lengths t_lengths t_end t_index t_flags t_twice t_width t_precision t_conversion t_broken qt_piece (upd t_piece t_put.toNatClampNeg a1) t_put t_head qt_tens t_tens t_count t_exponent qt_work t_work) H := hP
  have hD : va_D A (w_Model_clear G qt qt_draft t_draft t_drafted qt_result t_result t_length t_arguments qt_kinds t_kinds qt_values t_values qt_widths t_widths qt_below t_below qt_sizes t_sizes qt_scales t_scales qt_parts t_parts qt_texts t_texts qt_lengths t_lengths t_end t_index t_flags t_twice t_width t_precision t_conversion t_broken qt_piece (upd t_piece t_put.toNatClampNeg a1) t_put t_head qt_tens t_tens t_count t_exponent qt_work t_work) := hD
  refine lv_aload_n hx hb d_Model_add_10 rfl (lv_at hl 0 rfl) ?_
  refine lv_dup hx hb d_Model_add_11 rfl ?_
  refine va_get (D := gD G) (ci := 7) (v := .int t_put) (C := R_Model) (T := F_Model) (N := 29) hx hb hg in_Model hown hK hP 0 rfl rfl 23 (by decide) (hg _ m_472) (fun _ h9 => h9) rfl d_Model_add_12 ?_
  refine lv_iconst (v := 1) hx hb d_Model_add_15 (by decide) ?_
  refine lv_iadd hx hb d_Model_add_16 ?_
  refine va_put (D := gD G) (ci := 7) (v := .int (t_put + (1 : Int32))) (ty := .int) (C := R_Model) (T := F_Model) (N := 29) hx hb hg in_Model t_Model to_Model no_Model hown hK hP hD hS 0 rfl rfl 23 (by decide) (hg _ m_472) (fun _ h9 => h9) rfl (by decide +kernel) rfl rfl (Nat.le_of_ble_eq_true rfl) d_Model_add_17 (fun H locs hP hD hS => ?_)
  have hP : va_P (gD G) vwCl (w_Model_clear G qt qt_draft t_draft t_drafted qt_result t_result t_length t_arguments qt_kinds t_kinds qt_values t_values qt_widths t_widths qt_below t_below qt_sizes t_sizes qt_scales t_scales qt_parts t_parts qt_texts t_texts qt_lengths t_lengths t_end t_index t_flags t_twice t_width t_precision t_conversion t_broken qt_piece (upd t_piece t_put.toNatClampNeg a1) (t_put + (1 : Int32)) t_head qt_tens t_tens t_count t_exponent qt_work t_work) H := hP
  have hD : va_D A (w_Model_clear G qt qt_draft t_draft t_drafted qt_result t_result t_length t_arguments qt_kinds t_kinds qt_values t_values qt_widths t_widths qt_below t_below qt_sizes t_sizes qt_scales t_scales qt_parts t_parts qt_texts t_texts qt_lengths t_lengths t_end t_index t_flags t_twice t_width t_precision t_conversion t_broken qt_piece (upd t_piece t_put.toNatClampNeg a1) (t_put + (1 : Int32)) t_head qt_tens t_tens t_count t_exponent qt_work t_work) := hD
  obtain rfl := Option.some.inj hf
  rw [← hQ]
  exact W.vret hx hb hr (fun t9 ht hW => ⟨⟨(), rfl, trivial, ⟨by rw [ht]; exact hP, hD⟩⟩, hS.F ht⟩) hS.2.2 d_Model_add_20
theorem d_Model_addWord_0 : decode cd_Model_addWord 0 = .ok (.bipush 7, 2) := by decide +kernel
theorem d_Model_addWord_2 : decode cd_Model_addWord 2 = .ok (.istore 5, 2) := by decide +kernel
theorem d_Model_addWord_4 : decode cd_Model_addWord 4 = .ok (.iload 5, 2) := by decide +kernel
theorem d_Model_addWord_6 : decode cd_Model_addWord 6 = .ok (.ifCond .lt 41, 3) := by decide +kernel
theorem d_Model_addWord_9 : decode cd_Model_addWord 9 = .ok (.lload_n 1, 1) := by decide +kernel
theorem d_Model_addWord_10 : decode cd_Model_addWord 10 = .ok (.bipush 8, 2) := by decide +kernel
theorem d_Model_addWord_12 : decode cd_Model_addWord 12 = .ok (.iload 5, 2) := by decide +kernel
theorem d_Model_addWord_14 : decode cd_Model_addWord 14 = .ok (.imul, 1) := by decide +kernel
theorem d_Model_addWord_15 : decode cd_Model_addWord 15 = .ok (.lshr, 1) := by decide +kernel
theorem d_Model_addWord_16 : decode cd_Model_addWord 16 = .ok (.ldc2_w 54, 3) := by decide +kernel
theorem d_Model_addWord_19 : decode cd_Model_addWord 19 = .ok (.land, 1) := by decide +kernel
theorem d_Model_addWord_20 : decode cd_Model_addWord 20 = .ok (.lconst 0, 1) := by decide +kernel
theorem d_Model_addWord_21 : decode cd_Model_addWord 21 = .ok (.lcmp, 1) := by decide +kernel
theorem d_Model_addWord_22 : decode cd_Model_addWord 22 = .ok (.ifCond .eq 19, 3) := by decide +kernel
theorem d_Model_addWord_25 : decode cd_Model_addWord 25 = .ok (.aload_n 0, 1) := by decide +kernel
theorem d_Model_addWord_26 : decode cd_Model_addWord 26 = .ok (.lload_n 1, 1) := by decide +kernel
theorem d_Model_addWord_27 : decode cd_Model_addWord 27 = .ok (.bipush 8, 2) := by decide +kernel
theorem d_Model_addWord_29 : decode cd_Model_addWord 29 = .ok (.iload 5, 2) := by decide +kernel
theorem d_Model_addWord_31 : decode cd_Model_addWord 31 = .ok (.imul, 1) := by decide +kernel
theorem d_Model_addWord_32 : decode cd_Model_addWord 32 = .ok (.lshr, 1) := by decide +kernel
theorem d_Model_addWord_33 : decode cd_Model_addWord 33 = .ok (.ldc2_w 54, 3) := by decide +kernel
theorem d_Model_addWord_36 : decode cd_Model_addWord 36 = .ok (.land, 1) := by decide +kernel
theorem d_Model_addWord_37 : decode cd_Model_addWord 37 = .ok (.l2i, 1) := by decide +kernel
theorem d_Model_addWord_38 : decode cd_Model_addWord 38 = .ok (.invokevirtual 164, 3) := by decide +kernel
theorem d_Model_addWord_41 : decode cd_Model_addWord 41 = .ok (.iinc 5 (-1), 3) := by decide +kernel
theorem d_Model_addWord_44 : decode cd_Model_addWord 44 = .ok (.goto (-40), 3) := by decide +kernel
theorem d_Model_addWord_47 : decode cd_Model_addWord 47 = .ok (.bipush 7, 2) := by decide +kernel
theorem d_Model_addWord_49 : decode cd_Model_addWord 49 = .ok (.istore 5, 2) := by decide +kernel
theorem d_Model_addWord_51 : decode cd_Model_addWord 51 = .ok (.iload 5, 2) := by decide +kernel
theorem d_Model_addWord_53 : decode cd_Model_addWord 53 = .ok (.ifCond .lt 41, 3) := by decide +kernel
theorem d_Model_addWord_56 : decode cd_Model_addWord 56 = .ok (.lload_n 3, 1) := by decide +kernel
theorem d_Model_addWord_57 : decode cd_Model_addWord 57 = .ok (.bipush 8, 2) := by decide +kernel
theorem d_Model_addWord_59 : decode cd_Model_addWord 59 = .ok (.iload 5, 2) := by decide +kernel
theorem d_Model_addWord_61 : decode cd_Model_addWord 61 = .ok (.imul, 1) := by decide +kernel
theorem d_Model_addWord_62 : decode cd_Model_addWord 62 = .ok (.lshr, 1) := by decide +kernel
theorem d_Model_addWord_63 : decode cd_Model_addWord 63 = .ok (.ldc2_w 54, 3) := by decide +kernel
theorem d_Model_addWord_66 : decode cd_Model_addWord 66 = .ok (.land, 1) := by decide +kernel
theorem d_Model_addWord_67 : decode cd_Model_addWord 67 = .ok (.lconst 0, 1) := by decide +kernel
theorem d_Model_addWord_68 : decode cd_Model_addWord 68 = .ok (.lcmp, 1) := by decide +kernel
theorem d_Model_addWord_69 : decode cd_Model_addWord 69 = .ok (.ifCond .eq 19, 3) := by decide +kernel
theorem d_Model_addWord_72 : decode cd_Model_addWord 72 = .ok (.aload_n 0, 1) := by decide +kernel
theorem d_Model_addWord_73 : decode cd_Model_addWord 73 = .ok (.lload_n 3, 1) := by decide +kernel
theorem d_Model_addWord_74 : decode cd_Model_addWord 74 = .ok (.bipush 8, 2) := by decide +kernel
theorem d_Model_addWord_76 : decode cd_Model_addWord 76 = .ok (.iload 5, 2) := by decide +kernel
theorem d_Model_addWord_78 : decode cd_Model_addWord 78 = .ok (.imul, 1) := by decide +kernel
theorem d_Model_addWord_79 : decode cd_Model_addWord 79 = .ok (.lshr, 1) := by decide +kernel
theorem d_Model_addWord_80 : decode cd_Model_addWord 80 = .ok (.ldc2_w 54, 3) := by decide +kernel
theorem d_Model_addWord_83 : decode cd_Model_addWord 83 = .ok (.land, 1) := by decide +kernel
theorem d_Model_addWord_84 : decode cd_Model_addWord 84 = .ok (.l2i, 1) := by decide +kernel
theorem d_Model_addWord_85 : decode cd_Model_addWord 85 = .ok (.invokevirtual 164, 3) := by decide +kernel
theorem d_Model_addWord_88 : decode cd_Model_addWord 88 = .ok (.iinc 5 (-1), 3) := by decide +kernel
theorem d_Model_addWord_91 : decode cd_Model_addWord 91 = .ok (.goto (-40), 3) := by decide +kernel
theorem d_Model_addWord_94 : decode cd_Model_addWord 94 = .ok (.return_, 1) := by decide +kernel
theorem m_473 : Cond.methodLink R_Model 164 y_Model_add ∈ gw := gm (i := 1059) (by decide +kernel) (by decide +kernel)
theorem m_474 : Cond.instanceMethod y_Model_add ∈ gw := gm (i := 1061) (by decide +kernel) (by decide +kernel)
theorem m_475 : Cond.selects R_Model y_Model_add y_Model_add ∈ gw := gm (i := 50) (by decide +kernel) (by decide +kernel)
set_option maxRecDepth 100000 in
theorem m_476 : Cond.code y_Model_add cd_Model_add 2 none ∈ gw := gm (i := 1062) rfl rfl
def k_Model_addWord_88 (rec_51 : (Int32 × Int32 × (Nat → Int32)) → Option (Int32 × (Nat → Int32))) (x5 : Int32) (t_put : Int32) (t_piece : (Nat → Int32)) : Option (Int32 × (Nat → Int32)) :=
  rec_51 ((x5 + (-1)), t_put, t_piece)
def b_Model_addWord_51 (a2 : Int64)  (rec_51 : (Int32 × Int32 × (Nat → Int32)) → Option (Int32 × (Nat → Int32))) (z51 : Int32 × Int32 × (Nat → Int32)) : Option (Int32 × (Nat → Int32)) :=
  (if z51.1 < 0 then some (z51.2.1, z51.2.2) else (if (lg_cmp ((a2 >>> (((8 : Int32) * z51.1).toInt64 &&& 63)) &&& (255 : Int64)) (0 : Int64)) = 0 then k_Model_addWord_88 rec_51 z51.1 z51.2.1 z51.2.2 else ((f_Model_add z51.2.2 z51.2.1 (((a2 >>> (((8 : Int32) * z51.1).toInt64 &&& 63)) &&& (255 : Int64)).toInt32)).bind fun u_85 => k_Model_addWord_88 rec_51 z51.1 u_85.1 u_85.2)))
def k_Model_addWord_41 (rec_4 : (Int32 × Int32 × (Nat → Int32)) → Option (Int32 × (Nat → Int32))) (x5 : Int32) (t_put : Int32) (t_piece : (Nat → Int32)) : Option (Int32 × (Nat → Int32)) :=
  rec_4 ((x5 + (-1)), t_put, t_piece)
def b_Model_addWord_4 (K : Nat) (a1 : Int64) (a2 : Int64)  (rec_4 : (Int32 × Int32 × (Nat → Int32)) → Option (Int32 × (Nat → Int32))) (z4 : Int32 × Int32 × (Nat → Int32)) : Option (Int32 × (Nat → Int32)) :=
  (if z4.1 < 0 then lp_ (b_Model_addWord_51 a2 ) K ((7 : Int32), z4.2.1, z4.2.2) else (if (lg_cmp ((a1 >>> (((8 : Int32) * z4.1).toInt64 &&& 63)) &&& (255 : Int64)) (0 : Int64)) = 0 then k_Model_addWord_41 rec_4 z4.1 z4.2.1 z4.2.2 else ((f_Model_add z4.2.2 z4.2.1 (((a1 >>> (((8 : Int32) * z4.1).toInt64 &&& 63)) &&& (255 : Int64)).toInt32)).bind fun u_38 => k_Model_addWord_41 rec_4 z4.1 u_38.1 u_38.2)))
def f_Model_addWord (K : Nat) (t_piece : Nat → Int32) (t_put : Int32) (a1 : Int64) (a2 : Int64) : Option (Int32 × (Nat → Int32)) :=
  lp_ (b_Model_addWord_4 K a1 a2 ) K ((7 : Int32), t_put, t_piece)
set_option maxHeartbeats 4000000 in
set_option maxRecDepth 100000 in
theorem c_Model_addWord (l : Launch) (G : Gt) (K : Nat) (qt : Nat) (qt_draft : Nat) (t_draft : Nat → Int32) (t_drafted : Int32) (qt_result : Nat) (t_result : Nat → Int32) (t_length : Int32) (t_arguments : Int32) (qt_kinds : Nat) (t_kinds : Nat → Int32) (qt_values : Nat) (t_values : Nat → Int64) (qt_widths : Nat) (t_widths : Nat → Int32) (qt_below : Nat) (t_below : Nat → Int32) (qt_sizes : Nat) (t_sizes : Nat → Int32) (qt_scales : Nat) (t_scales : Nat → Int32) (qt_parts : Nat) (t_parts : Nat → Int64) (qt_texts : Nat) (t_texts : Nat → Int32) (qt_lengths : Nat) (t_lengths : Nat → Int32) (t_end : Int32) (t_index : Int32) (t_flags : Int32) (t_twice : Int32) (t_width : Int32) (t_precision : Int32) (t_conversion : Int32) (t_broken : Int32) (qt_piece : Nat) (t_piece : Nat → Int32) (t_put : Int32) (t_head : Int32) (qt_tens : Nat) (t_tens : Nat → Int32) (t_count : Int32) (t_exponent : Int32) (qt_work : Nat) (t_work : Nat → Int32) (a1 : Int64) (a2 : Int64) (sz : Nat) (res : Int32 × (Nat → Int32))   (hf : f_Model_addWord K t_piece t_put a1 a2 = some res) : Met l y_Model_addWord (.code y_Model_addWord cd_Model_addWord 6 none :: gw) { frames := 1, cells := 0, slots := 0, locals := 40 } (PC G ([.ref qt, .long a1, .long a2] : List Value) sz (w_Model_clear G qt qt_draft t_draft t_drafted qt_result t_result t_length t_arguments qt_kinds t_kinds qt_values t_values qt_widths t_widths qt_below t_below qt_sizes t_sizes qt_scales t_scales qt_parts t_parts qt_texts t_texts qt_lengths t_lengths t_end t_index t_flags t_twice t_width t_precision t_conversion t_broken qt_piece t_piece t_put t_head qt_tens t_tens t_count t_exponent qt_work t_work)) (QV G (va_A (w_Model_clear G qt qt_draft t_draft t_drafted qt_result t_result t_length t_arguments qt_kinds t_kinds qt_values t_values qt_widths t_widths qt_below t_below qt_sizes t_sizes qt_scales t_scales qt_parts t_parts qt_texts t_texts qt_lengths t_lengths t_end t_index t_flags t_twice t_width t_precision t_conversion t_broken qt_piece t_piece t_put t_head qt_tens t_tens t_count t_exponent qt_work t_work) sz) (w_Model_clear G qt qt_draft t_draft t_drafted qt_result t_result t_length t_arguments qt_kinds t_kinds qt_values t_values qt_widths t_widths qt_below t_below qt_sizes t_sizes qt_scales t_scales qt_parts t_parts qt_texts t_texts qt_lengths t_lengths t_end t_index t_flags t_twice t_width t_precision t_conversion t_broken qt_piece res.2 res.1 t_head qt_tens t_tens t_count t_exponent qt_work t_work)) 0 0 (va_A (w_Model_clear G qt qt_draft t_draft t_drafted qt_result t_result t_length t_arguments qt_kinds t_kinds qt_values t_values qt_widths t_widths qt_below t_below qt_sizes t_sizes qt_scales t_scales qt_parts t_parts qt_texts t_texts qt_lengths t_lengths t_end t_index t_flags t_twice t_width t_precision t_conversion t_broken qt_piece t_piece t_put t_head qt_tens t_tens t_count t_exponent qt_work t_work) sz) := by
  refine Met.ofW (cc := cd_Model_addWord) (maxL := 6) (ret := none) (by decide) rfl ?_
  intro p e s m args below meth c s₁ B hml hv
  obtain ⟨rfl, hsz, hP, hE, hD0⟩ := hv
  have hx := B.exec
  have hb := B.bytes
  have hr := B.returns
  have hts := atoms_spec (ws := (.code y_Model_addWord cd_Model_addWord 6 none :: gw)) B.pre
  have hg : ∀ w ∈ gw, w.before _ s = true := fun w h => hts w (List.mem_cons_of_mem _ h)
  have hown : s.vm.findClass R_Model = some m.cls := findClass_of_methodNamed B.named
  have hlocks := B.notSynchronized
  subst hsz
  have hK := hE.K
  have hD := hD0.self (sz := s.heap.size)
  have hAb := hE.ab hD0
  obtain ⟨Q, hQ⟩ : ∃ Q, MQ below (QV G (va_A (w_Model_clear G qt qt_draft t_draft t_drafted qt_result t_result t_length t_arguments qt_kinds t_kinds qt_values t_values qt_widths t_widths qt_below t_below qt_sizes t_sizes qt_scales t_scales qt_parts t_parts qt_texts t_texts qt_lengths t_lengths t_end t_index t_flags t_twice t_width t_precision t_conversion t_broken qt_piece t_piece t_put t_head qt_tens t_tens t_count t_exponent qt_work t_work) s.heap.size) (w_Model_clear G qt qt_draft t_draft t_drafted qt_result t_result t_length t_arguments qt_kinds t_kinds qt_values t_values qt_widths t_widths qt_below t_below qt_sizes t_sizes qt_scales t_scales qt_parts t_parts qt_texts t_texts qt_lengths t_lengths t_end t_index t_flags t_twice t_width t_precision t_conversion t_broken qt_piece res.2 res.1 t_head qt_tens t_tens t_count t_exponent qt_work t_work)) ([.ref qt, .long a1, .long a2] : List Value).toArray s 0 0 (va_A (w_Model_clear G qt qt_draft t_draft t_drafted qt_result t_result t_length t_arguments qt_kinds t_kinds qt_values t_values qt_widths t_widths qt_below t_below qt_sizes t_sizes qt_scales t_scales qt_parts t_parts qt_texts t_texts qt_lengths t_lengths t_end t_index t_flags t_twice t_width t_precision t_conversion t_broken qt_piece t_piece t_put t_head qt_tens t_tens t_count t_exponent qt_work t_work) s.heap.size) = Q := ⟨_, rfl⟩
  show W p l e { frames := 1, cells := 0, slots := 0, locals := 40 } s m ([.ref qt, .long a1, .long a2] : List Value).toArray below meth c s.heap [] 0 0 (MQ below (QV G (va_A (w_Model_clear G qt qt_draft t_draft t_drafted qt_result t_result t_length t_arguments qt_kinds t_kinds qt_values t_values qt_widths t_widths qt_below t_below qt_sizes t_sizes qt_scales t_scales qt_parts t_parts qt_texts t_texts qt_lengths t_lengths t_end t_index t_flags t_twice t_width t_precision t_conversion t_broken qt_piece t_piece t_put t_head qt_tens t_tens t_count t_exponent qt_work t_work) s.heap.size) (w_Model_clear G qt qt_draft t_draft t_drafted qt_result t_result t_length t_arguments qt_kinds t_kinds qt_values t_values qt_widths t_widths qt_below t_below qt_sizes t_sizes qt_scales t_scales qt_parts t_parts qt_texts t_texts qt_lengths t_lengths t_end t_index t_flags t_twice t_width t_precision t_conversion t_broken qt_piece res.2 res.1 t_head qt_tens t_tens t_count t_exponent qt_work t_work)) ([.ref qt, .long a1, .long a2] : List Value).toArray s 0 0 (va_A (w_Model_clear G qt qt_draft t_draft t_drafted qt_result t_result t_length t_arguments qt_kinds t_kinds qt_values t_values qt_widths t_widths qt_below t_below qt_sizes t_sizes qt_scales t_scales qt_parts t_parts qt_texts t_texts qt_lengths t_lengths t_end t_index t_flags t_twice t_width t_precision t_conversion t_broken qt_piece t_piece t_put t_head qt_tens t_tens t_count t_exponent qt_work t_work) s.heap.size)) _
  rw [hQ]
  have hA : ∀ q : Nat, s.heap.size ≤ q → va_A (w_Model_clear G qt qt_draft t_draft t_drafted qt_result t_result t_length t_arguments qt_kinds t_kinds qt_values t_values qt_widths t_widths qt_below t_below qt_sizes t_sizes qt_scales t_scales qt_parts t_parts qt_texts t_texts qt_lengths t_lengths t_end t_index t_flags t_twice t_width t_precision t_conversion t_broken qt_piece t_piece t_put t_head qt_tens t_tens t_count t_exponent qt_work t_work) s.heap.size q := fun q h => Or.inr h
  obtain ⟨A, hAe⟩ : ∃ A, va_A (w_Model_clear G qt qt_draft t_draft t_drafted qt_result t_result t_length t_arguments qt_kinds t_kinds qt_values t_values qt_widths t_widths qt_below t_below qt_sizes t_sizes qt_scales t_scales qt_parts t_parts qt_texts t_texts qt_lengths t_lengths t_end t_index t_flags t_twice t_width t_precision t_conversion t_broken qt_piece t_piece t_put t_head qt_tens t_tens t_count t_exponent qt_work t_work) s.heap.size = A := ⟨_, rfl⟩
  rw [hAe] at hA hD hAb hQ
  have hS : va_S A s.heap s.heap [] := va_S.rf
  have hl := lv_entry (([.ref qt, .long a1, .long a2] : List Value)) (n := 6) (Nat.le_of_ble_eq_true rfl)
  rw [lg_entry_eq]
  generalize (lg_sl (([.ref qt, .long a1, .long a2] : List Value)) ++ List.replicate (6 - (lg_sl (([.ref qt, .long a1, .long a2] : List Value))).length) Slot.unset).toArray = ls at hl ⊢
  have hl : lv_has ls 6 [(0, .ref qt), (1, .long a1), (3, .long a2)] := hl
  have W_51 : ∀   (n_51 : Nat) (z51 : Int32 × Int32 × (Nat → Int32)) , lp_ (b_Model_addWord_51 a2 ) n_51 z51 = some res → ∀ (H : Heap) (locs : List Loc) (ls : Array Slot), va_P (gD G) vwCl (w_Model_clear G qt qt_draft t_draft t_drafted qt_result t_result t_length t_arguments qt_kinds t_kinds qt_values t_values qt_widths t_widths qt_below t_below qt_sizes t_sizes qt_scales t_scales qt_parts t_parts qt_texts t_texts qt_lengths t_lengths t_end t_index t_flags t_twice t_width t_precision t_conversion t_broken qt_piece z51.2.2 z51.2.1 t_head qt_tens t_tens t_count t_exponent qt_work t_work) H → va_D A (w_Model_clear G qt qt_draft t_draft t_drafted qt_result t_result t_length t_arguments qt_kinds t_kinds qt_values t_values qt_widths t_widths qt_below t_below qt_sizes t_sizes qt_scales t_scales qt_parts t_parts qt_texts t_texts qt_lengths t_lengths t_end t_index t_flags t_twice t_width t_precision t_conversion t_broken qt_piece z51.2.2 z51.2.1 t_head qt_tens t_tens t_count t_exponent qt_work t_work) → va_S A s.heap H locs → lv_has ls 6 [(0, .ref qt), (3, .long a2), (5, .int z51.1)] → W p l e { frames := 1, cells := 0, slots := 0, locals := 40 } s m ([.ref qt, .long a1, .long a2] : List Value).toArray below meth c H locs 0 0 Q (F0 m 51 ls []) := by
    intro  n_51
    induction n_51 with
    | zero =>
      intro z51  hf
      cases hf
    | succ n_51 ih_51 =>
      intro z51  hf H locs ls hP hD hS hl
      have hf : b_Model_addWord_51 a2  (lp_ (b_Model_addWord_51 a2 ) n_51) z51 = some res := hf
      generalize lp_ (b_Model_addWord_51 a2 ) n_51 = rec_51 at hf ih_51
      have W_88 : ∀ (x5 : Int32) (t_put : Int32) (t_piece : (Nat → Int32)) , k_Model_addWord_88 rec_51 x5 t_put t_piece = some res → ∀ (H : Heap) (locs : List Loc) (ls : Array Slot), va_P (gD G) vwCl (w_Model_clear G qt qt_draft t_draft t_drafted qt_result t_result t_length t_arguments qt_kinds t_kinds qt_values t_values qt_widths t_widths qt_below t_below qt_sizes t_sizes qt_scales t_scales qt_parts t_parts qt_texts t_texts qt_lengths t_lengths t_end t_index t_flags t_twice t_width t_precision t_conversion t_broken qt_piece t_piece t_put t_head qt_tens t_tens t_count t_exponent qt_work t_work) H → va_D A (w_Model_clear G qt qt_draft t_draft t_drafted qt_result t_result t_length t_arguments qt_kinds t_kinds qt_values t_values qt_widths t_widths qt_below t_below qt_sizes t_sizes qt_scales t_scales qt_parts t_parts qt_texts t_texts qt_lengths t_lengths t_end t_index t_flags t_twice t_width t_precision t_conversion t_broken qt_piece t_piece t_put t_head qt_tens t_tens t_count t_exponent qt_work t_work) → va_S A s.heap H locs → lv_has ls 6 [(0, .ref qt), (3, .long a2), (5, .int x5)] → W p l e { frames := 1, cells := 0, slots := 0, locals := 40 } s m ([.ref qt, .long a1, .long a2] : List Value).toArray below meth c H locs 0 0 Q (F0 m 88 ls []) := by
        intro x5 t_put t_piece  hf H locs ls hP hD hS hl
        unfold k_Model_addWord_88 at hf
        refine lv_iinc (v := (x5 + (-1))) (lv' := [(5, .int (x5 + (-1))), (0, .ref qt), (3, .long a2)]) hx hb d_Model_addWord_88 hl (k := 2) rfl rfl (by decide) rfl (fun ls hl => ?_)
        refine lv_goto (tgt := 51) hx hb d_Model_addWord_91 (by decide) ?_
        exact ih_51 ((x5 + (-1)), t_put, t_piece)  hf _ _ _ hP hD hS (lv_sub hl [1, 2, 0] rfl)
      unfold b_Model_addWord_51 at hf
      refine lv_iload hx hb d_Model_addWord_51 (lv_at hl 2 rfl) ?_
      refine lv_if_lt (tgt := 94) hx hb d_Model_addWord_53 (by decide) (fun c_53 => ?_) (fun c_53 => ?_)
      · have hf := ip_ c_53 hf
        obtain rfl := Option.some.inj hf
        rw [← hQ]
        exact W.vret hx hb hr (fun t9 ht hW => ⟨⟨(), rfl, trivial, ⟨by rw [ht]; exact hP, hD⟩⟩, hS.F ht⟩) hS.2.2 d_Model_addWord_94
      · have hf := in_ c_53 hf
        refine lv_lload_n hx hb d_Model_addWord_56 rfl (lv_at hl 1 rfl) ?_
        refine lv_bipush (v := 8) hx hb d_Model_addWord_57 (by decide) ?_
        refine lv_iload hx hb d_Model_addWord_59 (lv_at hl 2 rfl) ?_
        refine lv_imul hx hb d_Model_addWord_61 ?_
        refine lv_lshr (v := (a2 >>> (((8 : Int32) * z51.1).toInt64 &&& 63))) hx hb d_Model_addWord_62 rfl ?_
        refine lv_ldc2 (v := 255) hx hb hown (hg _ m_405) d_Model_addWord_63 ?_
        refine lv_land hx hb d_Model_addWord_66 ?_
        refine lv_lconst (v := 0) hx hb d_Model_addWord_67 (by decide) ?_
        refine W.lcmp hx hb d_Model_addWord_68 ?_
        refine lv_if_eq (tgt := 88) hx hb d_Model_addWord_69 (by decide) (fun c_69 => ?_) (fun c_69 => ?_)
        · have hf := ip_ c_69 hf
          exact W_88 z51.1 z51.2.1 z51.2.2  hf _ _ _ hP hD hS (lv_sub hl [0, 1, 2] rfl)
        · have hf := in_ c_69 hf
          refine lv_aload_n hx hb d_Model_addWord_72 rfl (lv_at hl 0 rfl) ?_
          refine lv_lload_n hx hb d_Model_addWord_73 rfl (lv_at hl 1 rfl) ?_
          refine lv_bipush (v := 8) hx hb d_Model_addWord_74 (by decide) ?_
          refine lv_iload hx hb d_Model_addWord_76 (lv_at hl 2 rfl) ?_
          refine lv_imul hx hb d_Model_addWord_78 ?_
          refine lv_lshr (v := (a2 >>> (((8 : Int32) * z51.1).toInt64 &&& 63))) hx hb d_Model_addWord_79 rfl ?_
          refine lv_ldc2 (v := 255) hx hb hown (hg _ m_405) d_Model_addWord_80 ?_
          refine lv_land hx hb d_Model_addWord_83 ?_
          refine lv_l2i (v := ((a2 >>> (((8 : Int32) * z51.1).toInt64 &&& 63)) &&& (255 : Int64)).toInt32) hx hb d_Model_addWord_84 rfl ?_
          obtain ⟨u_85, hu_85, hf⟩ := bd_ hf
          refine CALLWv (va_runV (As := [.int (((a2 >>> (((8 : Int32) * z51.1).toInt64 &&& 63)) &&& (255 : Int64)).toInt32)]) (rest := []) ⟨hx, hb, hml, hown, hg⟩ (c_Model_add l G K qt qt_draft t_draft t_drafted qt_result t_result t_length t_arguments qt_kinds t_kinds qt_values t_values qt_widths t_widths qt_below t_below qt_sizes t_sizes qt_scales t_scales qt_parts t_parts qt_texts t_texts qt_lengths t_lengths t_end t_index t_flags t_twice t_width t_precision t_conversion t_broken qt_piece z51.2.2 z51.2.1 t_head qt_tens t_tens t_count t_exponent qt_work t_work (((a2 >>> (((8 : Int32) * z51.1).toInt64 &&& 63)) &&& (255 : Int64)).toInt32) _ u_85  hu_85) (cwV 1 hg (gV m_473 m_474 m_475 m_389 m_476) rfl rfl rfl (by decide +kernel) ⟨Nat.le_of_ble_eq_true rfl, Nat.le_of_ble_eq_true rfl⟩) ⟨PC_b, va_recv hK hP (ci := 7) (q0 := 0) rfl rfl, PC_p hE hS hAb hP hD⟩ rfl rfl hl.1 rfl (lv_room (Nat.le_of_ble_eq_true rfl)) d_Model_addWord_85 ⟨Nat.zero_le _, Nat.zero_le _⟩) hP hD hS hA (fun H locs hP hD hS => ?_)
          have hP : va_P (gD G) vwCl (w_Model_clear G qt qt_draft t_draft t_drafted qt_result t_result t_length t_arguments qt_kinds t_kinds qt_values t_values qt_widths t_widths qt_below t_below qt_sizes t_sizes qt_scales t_scales qt_parts t_parts qt_texts t_texts qt_lengths t_lengths t_end t_index t_flags t_twice t_width t_precision t_conversion t_broken qt_piece u_85.2 u_85.1 t_head qt_tens t_tens t_count t_exponent qt_work t_work) H := hP
          have hD : va_D A (w_Model_clear G qt qt_draft t_draft t_drafted qt_result t_result t_length t_arguments qt_kinds t_kinds qt_values t_values qt_widths t_widths qt_below t_below qt_sizes t_sizes qt_scales t_scales qt_parts t_parts qt_texts t_texts qt_lengths t_lengths t_end t_index t_flags t_twice t_width t_precision t_conversion t_broken qt_piece u_85.2 u_85.1 t_head qt_tens t_tens t_count t_exponent qt_work t_work) := hD
          exact W_88 z51.1 u_85.1 u_85.2  hf _ _ _ hP hD hS (lv_sub hl [0, 1, 2] rfl)
  have W_4 : ∀   (n_4 : Nat) (z4 : Int32 × Int32 × (Nat → Int32)) , lp_ (b_Model_addWord_4 K a1 a2 ) n_4 z4 = some res → ∀ (H : Heap) (locs : List Loc) (ls : Array Slot), va_P (gD G) vwCl (w_Model_clear G qt qt_draft t_draft t_drafted qt_result t_result t_length t_arguments qt_kinds t_kinds qt_values t_values qt_widths t_widths qt_below t_below qt_sizes t_sizes qt_scales t_scales qt_parts t_parts qt_texts t_texts qt_lengths t_lengths t_end t_index t_flags t_twice t_width t_precision t_conversion t_broken qt_piece z4.2.2 z4.2.1 t_head qt_tens t_tens t_count t_exponent qt_work t_work) H → va_D A (w_Model_clear G qt qt_draft t_draft t_drafted qt_result t_result t_length t_arguments qt_kinds t_kinds qt_values t_values qt_widths t_widths qt_below t_below qt_sizes t_sizes qt_scales t_scales qt_parts t_parts qt_texts t_texts qt_lengths t_lengths t_end t_index t_flags t_twice t_width t_precision t_conversion t_broken qt_piece z4.2.2 z4.2.1 t_head qt_tens t_tens t_count t_exponent qt_work t_work) → va_S A s.heap H locs → lv_has ls 6 [(0, .ref qt), (1, .long a1), (3, .long a2), (5, .int z4.1)] → W p l e { frames := 1, cells := 0, slots := 0, locals := 40 } s m ([.ref qt, .long a1, .long a2] : List Value).toArray below meth c H locs 0 0 Q (F0 m 4 ls []) := by
    intro  n_4
    induction n_4 with
    | zero =>
      intro z4  hf
      cases hf
    | succ n_4 ih_4 =>
      intro z4  hf H locs ls hP hD hS hl
      have hf : b_Model_addWord_4 K a1 a2  (lp_ (b_Model_addWord_4 K a1 a2 ) n_4) z4 = some res := hf
      generalize lp_ (b_Model_addWord_4 K a1 a2 ) n_4 = rec_4 at hf ih_4
      have W_41 : ∀ (x5 : Int32) (t_put : Int32) (t_piece : (Nat → Int32)) , k_Model_addWord_41 rec_4 x5 t_put t_piece = some res → ∀ (H : Heap) (locs : List Loc) (ls : Array Slot), va_P (gD G) vwCl (w_Model_clear G qt qt_draft t_draft t_drafted qt_result t_result t_length t_arguments qt_kinds t_kinds qt_values t_values qt_widths t_widths qt_below t_below qt_sizes t_sizes qt_scales t_scales qt_parts t_parts qt_texts t_texts qt_lengths t_lengths t_end t_index t_flags t_twice t_width t_precision t_conversion t_broken qt_piece t_piece t_put t_head qt_tens t_tens t_count t_exponent qt_work t_work) H → va_D A (w_Model_clear G qt qt_draft t_draft t_drafted qt_result t_result t_length t_arguments qt_kinds t_kinds qt_values t_values qt_widths t_widths qt_below t_below qt_sizes t_sizes qt_scales t_scales qt_parts t_parts qt_texts t_texts qt_lengths t_lengths t_end t_index t_flags t_twice t_width t_precision t_conversion t_broken qt_piece t_piece t_put t_head qt_tens t_tens t_count t_exponent qt_work t_work) → va_S A s.heap H locs → lv_has ls 6 [(0, .ref qt), (1, .long a1), (3, .long a2), (5, .int x5)] → W p l e { frames := 1, cells := 0, slots := 0, locals := 40 } s m ([.ref qt, .long a1, .long a2] : List Value).toArray below meth c H locs 0 0 Q (F0 m 41 ls []) := by
        intro x5 t_put t_piece  hf H locs ls hP hD hS hl
        unfold k_Model_addWord_41 at hf
        refine lv_iinc (v := (x5 + (-1))) (lv' := [(5, .int (x5 + (-1))), (0, .ref qt), (1, .long a1), (3, .long a2)]) hx hb d_Model_addWord_41 hl (k := 3) rfl rfl (by decide) rfl (fun ls hl => ?_)
        refine lv_goto (tgt := 4) hx hb d_Model_addWord_44 (by decide) ?_
        exact ih_4 ((x5 + (-1)), t_put, t_piece)  hf _ _ _ hP hD hS (lv_sub hl [1, 2, 3, 0] rfl)
      unfold b_Model_addWord_4 at hf
      refine lv_iload hx hb d_Model_addWord_4 (lv_at hl 3 rfl) ?_
      refine lv_if_lt (tgt := 47) hx hb d_Model_addWord_6 (by decide) (fun c_6 => ?_) (fun c_6 => ?_)
      · have hf := ip_ c_6 hf
        refine lv_bipush (v := 7) hx hb d_Model_addWord_47 (by decide) ?_
        refine lv_istore (lv' := [(5, .int (7 : Int32)), (0, .ref qt), (1, .long a1), (3, .long a2)]) hx hb d_Model_addWord_49 hl (by decide) rfl (fun ls hl => ?_)
        exact W_51   K ((7 : Int32), z4.2.1, z4.2.2)  hf _ _ _ hP hD hS (lv_sub hl [1, 3, 0] rfl)
      · have hf := in_ c_6 hf
        refine lv_lload_n hx hb d_Model_addWord_9 rfl (lv_at hl 1 rfl) ?_
        refine lv_bipush (v := 8) hx hb d_Model_addWord_10 (by decide) ?_
        refine lv_iload hx hb d_Model_addWord_12 (lv_at hl 3 rfl) ?_
        refine lv_imul hx hb d_Model_addWord_14 ?_
        refine lv_lshr (v := (a1 >>> (((8 : Int32) * z4.1).toInt64 &&& 63))) hx hb d_Model_addWord_15 rfl ?_
        refine lv_ldc2 (v := 255) hx hb hown (hg _ m_405) d_Model_addWord_16 ?_
        refine lv_land hx hb d_Model_addWord_19 ?_
        refine lv_lconst (v := 0) hx hb d_Model_addWord_20 (by decide) ?_
        refine W.lcmp hx hb d_Model_addWord_21 ?_
        refine lv_if_eq (tgt := 41) hx hb d_Model_addWord_22 (by decide) (fun c_22 => ?_) (fun c_22 => ?_)
        · have hf := ip_ c_22 hf
          exact W_41 z4.1 z4.2.1 z4.2.2  hf _ _ _ hP hD hS (lv_sub hl [0, 1, 2, 3] rfl)
        · have hf := in_ c_22 hf
          refine lv_aload_n hx hb d_Model_addWord_25 rfl (lv_at hl 0 rfl) ?_
          refine lv_lload_n hx hb d_Model_addWord_26 rfl (lv_at hl 1 rfl) ?_
          refine lv_bipush (v := 8) hx hb d_Model_addWord_27 (by decide) ?_
          refine lv_iload hx hb d_Model_addWord_29 (lv_at hl 3 rfl) ?_
          refine lv_imul hx hb d_Model_addWord_31 ?_
          refine lv_lshr (v := (a1 >>> (((8 : Int32) * z4.1).toInt64 &&& 63))) hx hb d_Model_addWord_32 rfl ?_
          refine lv_ldc2 (v := 255) hx hb hown (hg _ m_405) d_Model_addWord_33 ?_
          refine lv_land hx hb d_Model_addWord_36 ?_
          refine lv_l2i (v := ((a1 >>> (((8 : Int32) * z4.1).toInt64 &&& 63)) &&& (255 : Int64)).toInt32) hx hb d_Model_addWord_37 rfl ?_
          obtain ⟨u_38, hu_38, hf⟩ := bd_ hf
          refine CALLWv (va_runV (As := [.int (((a1 >>> (((8 : Int32) * z4.1).toInt64 &&& 63)) &&& (255 : Int64)).toInt32)]) (rest := []) ⟨hx, hb, hml, hown, hg⟩ (c_Model_add l G K qt qt_draft t_draft t_drafted qt_result t_result t_length t_arguments qt_kinds t_kinds qt_values t_values qt_widths t_widths qt_below t_below qt_sizes t_sizes qt_scales t_scales qt_parts t_parts qt_texts t_texts qt_lengths t_lengths t_end t_index t_flags t_twice t_width t_precision t_conversion t_broken qt_piece z4.2.2 z4.2.1 t_head qt_tens t_tens t_count t_exponent qt_work t_work (((a1 >>> (((8 : Int32) * z4.1).toInt64 &&& 63)) &&& (255 : Int64)).toInt32) _ u_38  hu_38) (cwV 1 hg (gV m_473 m_474 m_475 m_389 m_476) rfl rfl rfl (by decide +kernel) ⟨Nat.le_of_ble_eq_true rfl, Nat.le_of_ble_eq_true rfl⟩) ⟨PC_b, va_recv hK hP (ci := 7) (q0 := 0) rfl rfl, PC_p hE hS hAb hP hD⟩ rfl rfl hl.1 rfl (lv_room (Nat.le_of_ble_eq_true rfl)) d_Model_addWord_38 ⟨Nat.zero_le _, Nat.zero_le _⟩) hP hD hS hA (fun H locs hP hD hS => ?_)
          have hP : va_P (gD G) vwCl (w_Model_clear G qt qt_draft t_draft t_drafted qt_result t_result t_length t_arguments qt_kinds t_kinds qt_values t_values qt_widths t_widths qt_below t_below qt_sizes t_sizes qt_scales t_scales qt_parts t_parts qt_texts t_texts qt_lengths t_lengths t_end t_index t_flags t_twice t_width t_precision t_conversion t_broken qt_piece u_38.2 u_38.1 t_head qt_tens t_tens t_count t_exponent qt_work t_work) H := hP
          have hD : va_D A (w_Model_clear G qt qt_draft t_draft t_drafted qt_result t_result t_length t_arguments qt_kinds t_kinds qt_values t_values qt_widths t_widths qt_below t_below qt_sizes t_sizes qt_scales t_scales qt_parts t_parts qt_texts t_texts qt_lengths t_lengths t_end t_index t_flags t_twice t_width t_precision t_conversion t_broken qt_piece u_38.2 u_38.1 t_head qt_tens t_tens t_count t_exponent qt_work t_work) := hD
          exact W_41 z4.1 u_38.1 u_38.2  hf _ _ _ hP hD hS (lv_sub hl [0, 1, 2, 3] rfl)
  unfold f_Model_addWord at hf
  refine lv_bipush (v := 7) hx hb d_Model_addWord_0 (by decide) ?_
  refine lv_istore (lv' := [(5, .int (7 : Int32)), (0, .ref qt), (1, .long a1), (3, .long a2)]) hx hb d_Model_addWord_2 hl (by decide) rfl (fun ls hl => ?_)
  exact W_4   K ((7 : Int32), t_put, t_piece)  hf _ _ _ hP hD hS (lv_sub hl [1, 2, 3, 0] rfl)
theorem d_Model_addNumber_0 : decode cd_Model_addNumber 0 = .ok (.iload_n 1, 1) := by decide +kernel
theorem d_Model_addNumber_1 : decode cd_Model_addNumber 1 = .ok (.ifCond .ge 8, 3) := by decide +kernel
theorem d_Model_addNumber_4 : decode cd_Model_addNumber 4 = .ok (.iload_n 1, 1) := by decide +kernel
theorem d_Model_addNumber_5 : decode cd_Model_addNumber 5 = .ok (.ineg, 1) := by decide +kernel
theorem d_Model_addNumber_6 : decode cd_Model_addNumber 6 = .ok (.goto 4, 3) := by decide +kernel
theorem d_Model_addNumber_9 : decode cd_Model_addNumber 9 = .ok (.iload_n 1, 1) := by decide +kernel
theorem d_Model_addNumber_10 : decode cd_Model_addNumber 10 = .ok (.istore_n 3, 1) := by decide +kernel
theorem d_Model_addNumber_11 : decode cd_Model_addNumber 11 = .ok (.iload_n 2, 1) := by decide +kernel
theorem d_Model_addNumber_12 : decode cd_Model_addNumber 12 = .ok (.iconst 1, 1) := by decide +kernel
theorem d_Model_addNumber_13 : decode cd_Model_addNumber 13 = .ok (.if_icmp .le 8, 3) := by decide +kernel
theorem d_Model_addNumber_16 : decode cd_Model_addNumber 16 = .ok (.bipush 10, 2) := by decide +kernel
theorem d_Model_addNumber_18 : decode cd_Model_addNumber 18 = .ok (.goto 4, 3) := by decide +kernel
theorem d_Model_addNumber_21 : decode cd_Model_addNumber 21 = .ok (.iconst 1, 1) := by decide +kernel
theorem d_Model_addNumber_22 : decode cd_Model_addNumber 22 = .ok (.istore 4, 2) := by decide +kernel
theorem d_Model_addNumber_24 : decode cd_Model_addNumber 24 = .ok (.iload_n 3, 1) := by decide +kernel
theorem d_Model_addNumber_25 : decode cd_Model_addNumber 25 = .ok (.iload 4, 2) := by decide +kernel
theorem d_Model_addNumber_27 : decode cd_Model_addNumber 27 = .ok (.idiv, 1) := by decide +kernel
theorem d_Model_addNumber_28 : decode cd_Model_addNumber 28 = .ok (.bipush 9, 2) := by decide +kernel
theorem d_Model_addNumber_30 : decode cd_Model_addNumber 30 = .ok (.if_icmp .le 13, 3) := by decide +kernel
theorem d_Model_addNumber_33 : decode cd_Model_addNumber 33 = .ok (.bipush 10, 2) := by decide +kernel
theorem d_Model_addNumber_35 : decode cd_Model_addNumber 35 = .ok (.iload 4, 2) := by decide +kernel
theorem d_Model_addNumber_37 : decode cd_Model_addNumber 37 = .ok (.imul, 1) := by decide +kernel
theorem d_Model_addNumber_38 : decode cd_Model_addNumber 38 = .ok (.istore 4, 2) := by decide +kernel
theorem d_Model_addNumber_40 : decode cd_Model_addNumber 40 = .ok (.goto (-16), 3) := by decide +kernel
theorem d_Model_addNumber_43 : decode cd_Model_addNumber 43 = .ok (.iload 4, 2) := by decide +kernel
theorem d_Model_addNumber_45 : decode cd_Model_addNumber 45 = .ok (.istore 5, 2) := by decide +kernel
theorem d_Model_addNumber_47 : decode cd_Model_addNumber 47 = .ok (.iload 5, 2) := by decide +kernel
theorem d_Model_addNumber_49 : decode cd_Model_addNumber 49 = .ok (.ifCond .le 27, 3) := by decide +kernel
theorem d_Model_addNumber_52 : decode cd_Model_addNumber 52 = .ok (.aload_n 0, 1) := by decide +kernel
theorem d_Model_addNumber_53 : decode cd_Model_addNumber 53 = .ok (.bipush 48, 2) := by decide +kernel
theorem d_Model_addNumber_55 : decode cd_Model_addNumber 55 = .ok (.iload_n 3, 1) := by decide +kernel
theorem d_Model_addNumber_56 : decode cd_Model_addNumber 56 = .ok (.iload 5, 2) := by decide +kernel
theorem d_Model_addNumber_58 : decode cd_Model_addNumber 58 = .ok (.idiv, 1) := by decide +kernel
theorem d_Model_addNumber_59 : decode cd_Model_addNumber 59 = .ok (.bipush 10, 2) := by decide +kernel
theorem d_Model_addNumber_61 : decode cd_Model_addNumber 61 = .ok (.irem, 1) := by decide +kernel
theorem d_Model_addNumber_62 : decode cd_Model_addNumber 62 = .ok (.iadd, 1) := by decide +kernel
theorem d_Model_addNumber_63 : decode cd_Model_addNumber 63 = .ok (.invokevirtual 164, 3) := by decide +kernel
theorem d_Model_addNumber_66 : decode cd_Model_addNumber 66 = .ok (.iload 5, 2) := by decide +kernel
theorem d_Model_addNumber_68 : decode cd_Model_addNumber 68 = .ok (.bipush 10, 2) := by decide +kernel
theorem d_Model_addNumber_70 : decode cd_Model_addNumber 70 = .ok (.idiv, 1) := by decide +kernel
theorem d_Model_addNumber_71 : decode cd_Model_addNumber 71 = .ok (.istore 5, 2) := by decide +kernel
theorem d_Model_addNumber_73 : decode cd_Model_addNumber 73 = .ok (.goto (-26), 3) := by decide +kernel
theorem d_Model_addNumber_76 : decode cd_Model_addNumber 76 = .ok (.return_, 1) := by decide +kernel
def b_Model_addNumber_47  (x3 : Int32) (rec_47 : (Int32 × Int32 × (Nat → Int32)) → Option (Int32 × (Nat → Int32))) (z47 : Int32 × Int32 × (Nat → Int32)) : Option (Int32 × (Nat → Int32)) :=
  (if z47.1 ≤ 0 then some (z47.2.1, z47.2.2) else (if z47.1 = 0 then none else ((f_Model_add z47.2.2 z47.2.1 ((48 : Int32) + ((x3 / z47.1) - (x3 / z47.1) / (10 : Int32) * (10 : Int32)))).bind fun u_63 => rec_47 ((z47.1 / (10 : Int32)), u_63.1, u_63.2))))
def b_Model_addNumber_24 (K : Nat) (x3 : Int32) (t_put : Int32) (t_piece : (Nat → Int32)) (rec_24 : Int32 → Option (Int32 × (Nat → Int32))) (z24 : Int32) : Option (Int32 × (Nat → Int32)) :=
  (if z24 = 0 then none else (if (x3 / z24) ≤ (9 : Int32) then lp_ (b_Model_addNumber_47  x3) K (z24, t_put, t_piece) else rec_24 ((10 : Int32) * z24)))
def k_Model_addNumber_22 (K : Nat) (x3 : Int32) (k0 : Int32) (t_put : Int32) (t_piece : (Nat → Int32)) : Option (Int32 × (Nat → Int32)) :=
  lp_ (b_Model_addNumber_24 K x3 t_put t_piece) K k0
def k_Model_addNumber_10 (K : Nat) (a2 : Int32) (k0 : Int32) (t_put : Int32) (t_piece : (Nat → Int32)) : Option (Int32 × (Nat → Int32)) :=
  (if a2 ≤ (1 : Int32) then k_Model_addNumber_22 K k0 (1 : Int32) t_put t_piece else k_Model_addNumber_22 K k0 (10 : Int32) t_put t_piece)
def f_Model_addNumber (K : Nat) (t_piece : Nat → Int32) (t_put : Int32) (a1 : Int32) (a2 : Int32) : Option (Int32 × (Nat → Int32)) :=
  (if 0 ≤ a1 then k_Model_addNumber_10 K a2 a1 t_put t_piece else k_Model_addNumber_10 K a2 (-a1) t_put t_piece)
set_option maxHeartbeats 4000000 in
set_option maxRecDepth 100000 in
theorem c_Model_addNumber (l : Launch) (G : Gt) (K : Nat) (qt : Nat) (qt_draft : Nat) (t_draft : Nat → Int32) (t_drafted : Int32) (qt_result : Nat) (t_result : Nat → Int32) (t_length : Int32) (t_arguments : Int32) (qt_kinds : Nat) (t_kinds : Nat → Int32) (qt_values : Nat) (t_values : Nat → Int64) (qt_widths : Nat) (t_widths : Nat → Int32) (qt_below : Nat) (t_below : Nat → Int32) (qt_sizes : Nat) (t_sizes : Nat → Int32) (qt_scales : Nat) (t_scales : Nat → Int32) (qt_parts : Nat) (t_parts : Nat → Int64) (qt_texts : Nat) (t_texts : Nat → Int32) (qt_lengths : Nat) (t_lengths : Nat → Int32) (t_end : Int32) (t_index : Int32) (t_flags : Int32) (t_twice : Int32) (t_width : Int32) (t_precision : Int32) (t_conversion : Int32) (t_broken : Int32) (qt_piece : Nat) (t_piece : Nat → Int32) (t_put : Int32) (t_head : Int32) (qt_tens : Nat) (t_tens : Nat → Int32) (t_count : Int32) (t_exponent : Int32) (qt_work : Nat) (t_work : Nat → Int32) (a1 : Int32) (a2 : Int32) (sz : Nat) (res : Int32 × (Nat → Int32))   (hf : f_Model_addNumber K t_piece t_put a1 a2 = some res) : Met l y_Model_addNumber (.code y_Model_addNumber cd_Model_addNumber 6 none :: gw) { frames := 1, cells := 0, slots := 0, locals := 40 } (PC G ([.ref qt, .int a1, .int a2] : List Value) sz (w_Model_clear G qt qt_draft t_draft t_drafted qt_result t_result t_length t_arguments qt_kinds t_kinds qt_values t_values qt_widths t_widths qt_below t_below qt_sizes t_sizes qt_scales t_scales qt_parts t_parts qt_texts t_texts qt_lengths t_lengths t_end t_index t_flags t_twice t_width t_precision t_conversion t_broken qt_piece t_piece t_put t_head qt_tens t_tens t_count t_exponent qt_work t_work)) (QV G (va_A (w_Model_clear G qt qt_draft t_draft t_drafted qt_result t_result t_length t_arguments qt_kinds t_kinds qt_values t_values qt_widths t_widths qt_below t_below qt_sizes t_sizes qt_scales t_scales qt_parts t_parts qt_texts t_texts qt_lengths t_lengths t_end t_index t_flags t_twice t_width t_precision t_conversion t_broken qt_piece t_piece t_put t_head qt_tens t_tens t_count t_exponent qt_work t_work) sz) (w_Model_clear G qt qt_draft t_draft t_drafted qt_result t_result t_length t_arguments qt_kinds t_kinds qt_values t_values qt_widths t_widths qt_below t_below qt_sizes t_sizes qt_scales t_scales qt_parts t_parts qt_texts t_texts qt_lengths t_lengths t_end t_index t_flags t_twice t_width t_precision t_conversion t_broken qt_piece res.2 res.1 t_head qt_tens t_tens t_count t_exponent qt_work t_work)) 0 0 (va_A (w_Model_clear G qt qt_draft t_draft t_drafted qt_result t_result t_length t_arguments qt_kinds t_kinds qt_values t_values qt_widths t_widths qt_below t_below qt_sizes t_sizes qt_scales t_scales qt_parts t_parts qt_texts t_texts qt_lengths t_lengths t_end t_index t_flags t_twice t_width t_precision t_conversion t_broken qt_piece t_piece t_put t_head qt_tens t_tens t_count t_exponent qt_work t_work) sz) := by
  refine Met.ofW (cc := cd_Model_addNumber) (maxL := 6) (ret := none) (by decide) rfl ?_
  intro p e s m args below meth c s₁ B hml hv
  obtain ⟨rfl, hsz, hP, hE, hD0⟩ := hv
  have hx := B.exec
  have hb := B.bytes
  have hr := B.returns
  have hts := atoms_spec (ws := (.code y_Model_addNumber cd_Model_addNumber 6 none :: gw)) B.pre
  have hg : ∀ w ∈ gw, w.before _ s = true := fun w h => hts w (List.mem_cons_of_mem _ h)
  have hown : s.vm.findClass R_Model = some m.cls := findClass_of_methodNamed B.named
  have hlocks := B.notSynchronized
  subst hsz
  have hK := hE.K
  have hD := hD0.self (sz := s.heap.size)
  have hAb := hE.ab hD0
  obtain ⟨Q, hQ⟩ : ∃ Q, MQ below (QV G (va_A (w_Model_clear G qt qt_draft t_draft t_drafted qt_result t_result t_length t_arguments qt_kinds t_kinds qt_values t_values qt_widths t_widths qt_below t_below qt_sizes t_sizes qt_scales t_scales qt_parts t_parts qt_texts t_texts qt_lengths t_lengths t_end t_index t_flags t_twice t_width t_precision t_conversion t_broken qt_piece t_piece t_put t_head qt_tens t_tens t_count t_exponent qt_work t_work) s.heap.size) (w_Model_clear G qt qt_draft t_draft t_drafted qt_result t_result t_length t_arguments qt_kinds t_kinds qt_values t_values qt_widths t_widths qt_below t_below qt_sizes t_sizes qt_scales t_scales qt_parts t_parts qt_texts t_texts qt_lengths t_lengths t_end t_index t_flags t_twice t_width t_precision t_conversion t_broken qt_piece res.2 res.1 t_head qt_tens t_tens t_count t_exponent qt_work t_work)) ([.ref qt, .int a1, .int a2] : List Value).toArray s 0 0 (va_A (w_Model_clear G qt qt_draft t_draft t_drafted qt_result t_result t_length t_arguments qt_kinds t_kinds qt_values t_values qt_widths t_widths qt_below t_below qt_sizes t_sizes qt_scales t_scales qt_parts t_parts qt_texts t_texts qt_lengths t_lengths t_end t_index t_flags t_twice t_width t_precision t_conversion t_broken qt_piece t_piece t_put t_head qt_tens t_tens t_count t_exponent qt_work t_work) s.heap.size) = Q := ⟨_, rfl⟩
  show W p l e { frames := 1, cells := 0, slots := 0, locals := 40 } s m ([.ref qt, .int a1, .int a2] : List Value).toArray below meth c s.heap [] 0 0 (MQ below (QV G (va_A (w_Model_clear G qt qt_draft t_draft t_drafted qt_result t_result t_length t_arguments qt_kinds t_kinds qt_values t_values qt_widths t_widths qt_below t_below qt_sizes t_sizes qt_scales t_scales qt_parts t_parts qt_texts t_texts qt_lengths t_lengths t_end t_index t_flags t_twice t_width t_precision t_conversion t_broken qt_piece t_piece t_put t_head qt_tens t_tens t_count t_exponent qt_work t_work) s.heap.size) (w_Model_clear G qt qt_draft t_draft t_drafted qt_result t_result t_length t_arguments qt_kinds t_kinds qt_values t_values qt_widths t_widths qt_below t_below qt_sizes t_sizes qt_scales t_scales qt_parts t_parts qt_texts t_texts qt_lengths t_lengths t_end t_index t_flags t_twice t_width t_precision t_conversion t_broken qt_piece res.2 res.1 t_head qt_tens t_tens t_count t_exponent qt_work t_work)) ([.ref qt, .int a1, .int a2] : List Value).toArray s 0 0 (va_A (w_Model_clear G qt qt_draft t_draft t_drafted qt_result t_result t_length t_arguments qt_kinds t_kinds qt_values t_values qt_widths t_widths qt_below t_below qt_sizes t_sizes qt_scales t_scales qt_parts t_parts qt_texts t_texts qt_lengths t_lengths t_end t_index t_flags t_twice t_width t_precision t_conversion t_broken qt_piece t_piece t_put t_head qt_tens t_tens t_count t_exponent qt_work t_work) s.heap.size)) _
  rw [hQ]
  have hA : ∀ q : Nat, s.heap.size ≤ q → va_A (w_Model_clear G qt qt_draft t_draft t_drafted qt_result t_result t_length t_arguments qt_kinds t_kinds qt_values t_values qt_widths t_widths qt_below t_below qt_sizes t_sizes qt_scales t_scales qt_parts t_parts qt_texts t_texts qt_lengths t_lengths t_end t_index t_flags t_twice t_width t_precision t_conversion t_broken qt_piece t_piece t_put t_head qt_tens t_tens t_count t_exponent qt_work t_work) s.heap.size q := fun q h => Or.inr h
  obtain ⟨A, hAe⟩ : ∃ A, va_A (w_Model_clear G qt qt_draft t_draft t_drafted qt_result t_result t_length t_arguments qt_kinds t_kinds qt_values t_values qt_widths t_widths qt_below t_below qt_sizes t_sizes qt_scales t_scales qt_parts t_parts qt_texts t_texts qt_lengths t_lengths t_end t_index t_flags t_twice t_width t_precision t_conversion t_broken qt_piece t_piece t_put t_head qt_tens t_tens t_count t_exponent qt_work t_work) s.heap.size = A := ⟨_, rfl⟩
  rw [hAe] at hA hD hAb hQ
  have hS : va_S A s.heap s.heap [] := va_S.rf
  have hl := lv_entry (([.ref qt, .int a1, .int a2] : List Value)) (n := 6) (Nat.le_of_ble_eq_true rfl)
  rw [lg_entry_eq]
  generalize (lg_sl (([.ref qt, .int a1, .int a2] : List Value)) ++ List.replicate (6 - (lg_sl (([.ref qt, .int a1, .int a2] : List Value))).length) Slot.unset).toArray = ls at hl ⊢
  have hl : lv_has ls 6 [(0, .ref qt), (1, .int a1), (2, .int a2)] := hl
  have W_47 : ∀ (x3 : Int32)  (n_47 : Nat) (z47 : Int32 × Int32 × (Nat → Int32)) , lp_ (b_Model_addNumber_47  x3) n_47 z47 = some res → ∀ (H : Heap) (locs : List Loc) (ls : Array Slot), va_P (gD G) vwCl (w_Model_clear G qt qt_draft t_draft t_drafted qt_result t_result t_length t_arguments qt_kinds t_kinds qt_values t_values qt_widths t_widths qt_below t_below qt_sizes t_sizes qt_scales t_scales qt_parts t_parts qt_texts t_texts qt_lengths t_lengths t_end t_index t_flags t_twice t_width t_precision t_conversion t_broken qt_piece z47.2.2 z47.2.1 t_head qt_tens t_tens t_count t_exponent qt_work t_work) H → va_D A (w_Model_clear G qt qt_draft t_draft t_drafted qt_result t_result t_length t_arguments qt_kinds t_kinds qt_values t_values qt_widths t_widths qt_below t_below qt_sizes t_sizes qt_scales t_scales qt_parts t_parts qt_texts t_texts qt_lengths t_lengths t_end t_index t_flags t_twice t_width t_precision t_conversion t_broken qt_piece z47.2.2 z47.2.1 t_head qt_tens t_tens t_count t_exponent qt_work t_work) → va_S A s.heap H locs → lv_has ls 6 [(0, .ref qt), (3, .int x3), (5, .int z47.1)] → W p l e { frames := 1, cells := 0, slots := 0, locals := 40 } s m ([.ref qt, .int a1, .int a2] : List Value).toArray below meth c H locs 0 0 Q (F0 m 47 ls []) := by
    intro x3 n_47
    induction n_47 with
    | zero =>
      intro z47  hf
      cases hf
    | succ n_47 ih_47 =>
      intro z47  hf H locs ls hP hD hS hl
      have hf : b_Model_addNumber_47  x3 (lp_ (b_Model_addNumber_47  x3) n_47) z47 = some res := hf
      generalize lp_ (b_Model_addNumber_47  x3) n_47 = rec_47 at hf ih_47
      unfold b_Model_addNumber_47 at hf
      refine lv_iload hx hb d_Model_addNumber_47 (lv_at hl 2 rfl) ?_
      refine lv_if_le (tgt := 76) hx hb d_Model_addNumber_49 (by decide) (fun c_49 => ?_) (fun c_49 => ?_)
      · have hf := ip_ c_49 hf
        obtain rfl := Option.some.inj hf
        rw [← hQ]
        exact W.vret hx hb hr (fun t9 ht hW => ⟨⟨(), rfl, trivial, ⟨by rw [ht]; exact hP, hD⟩⟩, hS.F ht⟩) hS.2.2 d_Model_addNumber_76
      · have hf := in_ c_49 hf
        refine lv_aload_n hx hb d_Model_addNumber_52 rfl (lv_at hl 0 rfl) ?_
        refine lv_bipush (v := 48) hx hb d_Model_addNumber_53 (by decide) ?_
        refine lv_iload_n hx hb d_Model_addNumber_55 rfl (lv_at hl 1 rfl) ?_
        refine lv_iload hx hb d_Model_addNumber_56 (lv_at hl 2 rfl) ?_
        obtain ⟨g_58, hf⟩ := gn_ hf
        refine lv_idiv hx hb d_Model_addNumber_58 g_58 ?_
        refine lv_bipush (v := 10) hx hb d_Model_addNumber_59 (by decide) ?_
        refine lv_irem hx hb d_Model_addNumber_61 (by decide) ?_
        refine lv_iadd hx hb d_Model_addNumber_62 ?_
        obtain ⟨u_63, hu_63, hf⟩ := bd_ hf
        refine CALLWv (va_runV (As := [.int ((48 : Int32) + ((x3 / z47.1) - (x3 / z47.1) / (10 : Int32) * (10 : Int32)))]) (rest := []) ⟨hx, hb, hml, hown, hg⟩ (c_Model_add l G K qt qt_draft t_draft t_drafted qt_result t_result t_length t_arguments qt_kinds t_kinds qt_values t_values qt_widths t_widths qt_below t_below qt_sizes t_sizes qt_scales t_scales qt_parts t_parts qt_texts t_texts qt_lengths t_lengths t_end t_index t_flags t_twice t_width t_precision t_conversion t_broken qt_piece z47.2.2 z47.2.1 t_head qt_tens t_tens t_count t_exponent qt_work t_work ((48 : Int32) + ((x3 / z47.1) - (x3 / z47.1) / (10 : Int32) * (10 : Int32))) _ u_63  hu_63) (cwV 1 hg (gV m_473 m_474 m_475 m_389 m_476) rfl rfl rfl (by decide +kernel) ⟨Nat.le_of_ble_eq_true rfl, Nat.le_of_ble_eq_true rfl⟩) ⟨PC_b, va_recv hK hP (ci := 7) (q0 := 0) rfl rfl, PC_p hE hS hAb hP hD⟩ rfl rfl hl.1 rfl (lv_room (Nat.le_of_ble_eq_true rfl)) d_Model_addNumber_63 ⟨Nat.zero_le _, Nat.zero_le _⟩) hP hD hS hA (fun H locs hP hD hS => ?_)
        have hP : va_P (gD G) vwCl (w_Model_clear G qt qt_draft t_draft t_drafted qt_result t_result t_length t_arguments qt_kinds t_kinds qt_values t_values qt_widths t_widths qt_below t_below qt_sizes t_sizes qt_scales t_scales qt_parts t_parts qt_texts t_texts qt_lengths t_lengths t_end t_index t_flags t_twice t_width t_precision t_conversion t_broken qt_piece u_63.2 u_63.1 t_head qt_tens t_tens t_count t_exponent qt_work t_work) H := hP
        have hD : va_D A (w_Model_clear G qt qt_draft t_draft t_drafted qt_result t_result t_length t_arguments qt_kinds t_kinds qt_values t_values qt_widths t_widths qt_below t_below qt_sizes t_sizes qt_scales t_scales qt_parts t_parts qt_texts t_texts qt_lengths t_lengths t_end t_index t_flags t_twice t_width t_precision t_conversion t_broken qt_piece u_63.2 u_63.1 t_head qt_tens t_tens t_count t_exponent qt_work t_work) := hD
        refine lv_iload hx hb d_Model_addNumber_66 (lv_at hl 2 rfl) ?_
        refine lv_bipush (v := 10) hx hb d_Model_addNumber_68 (by decide) ?_
        refine lv_idiv hx hb d_Model_addNumber_70 (by decide) ?_
        refine lv_istore (lv' := [(5, .int (z47.1 / (10 : Int32))), (0, .ref qt), (3, .int x3)]) hx hb d_Model_addNumber_71 hl (by decide) rfl (fun ls hl => ?_)
        refine lv_goto (tgt := 47) hx hb d_Model_addNumber_73 (by decide) ?_
        exact ih_47 ((z47.1 / (10 : Int32)), u_63.1, u_63.2)  hf _ _ _ hP hD hS (lv_sub hl [1, 2, 0] rfl)
  have W_24 : ∀ (x3 : Int32) (t_put : Int32) (t_piece : (Nat → Int32))  (n_24 : Nat) (z24 : Int32) , lp_ (b_Model_addNumber_24 K x3 t_put t_piece) n_24 z24 = some res → ∀ (H : Heap) (locs : List Loc) (ls : Array Slot), va_P (gD G) vwCl (w_Model_clear G qt qt_draft t_draft t_drafted qt_result t_result t_length t_arguments qt_kinds t_kinds qt_values t_values qt_widths t_widths qt_below t_below qt_sizes t_sizes qt_scales t_scales qt_parts t_parts qt_texts t_texts qt_lengths t_lengths t_end t_index t_flags t_twice t_width t_precision t_conversion t_broken qt_piece t_piece t_put t_head qt_tens t_tens t_count t_exponent qt_work t_work) H → va_D A (w_Model_clear G qt qt_draft t_draft t_drafted qt_result t_result t_length t_arguments qt_kinds t_kinds qt_values t_values qt_widths t_widths qt_below t_below qt_sizes t_sizes qt_scales t_scales qt_parts t_parts qt_texts t_texts qt_lengths t_lengths t_end t_index t_flags t_twice t_width t_precision t_conversion t_broken qt_piece t_piece t_put t_head qt_tens t_tens t_count t_exponent qt_work t_work) → va_S A s.heap H locs → lv_has ls 6 [(0, .ref qt), (3, .int x3), (4, .int z24)] → W p l e { frames := 1, cells := 0, slots := 0, locals := 40 } s m ([.ref qt, .int a1, .int a2] : List Value).toArray below meth c H locs 0 0 Q (F0 m 24 ls []) := by
    intro x3 t_put t_piece n_24
    induction n_24 with
    | zero =>
      intro z24  hf
      cases hf
    | succ n_24 ih_24 =>
      intro z24  hf H locs ls hP hD hS hl
      have hf : b_Model_addNumber_24 K x3 t_put t_piece (lp_ (b_Model_addNumber_24 K x3 t_put t_piece) n_24) z24 = some res := hf
      generalize lp_ (b_Model_addNumber_24 K x3 t_put t_piece) n_24 = rec_24 at hf ih_24
      unfold b_Model_addNumber_24 at hf
      refine lv_iload_n hx hb d_Model_addNumber_24 rfl (lv_at hl 1 rfl) ?_
      refine lv_iload hx hb d_Model_addNumber_25 (lv_at hl 2 rfl) ?_
      obtain ⟨g_27, hf⟩ := gn_ hf
      refine lv_idiv hx hb d_Model_addNumber_27 g_27 ?_
      refine lv_bipush (v := 9) hx hb d_Model_addNumber_28 (by decide) ?_
      refine lv_icmp_le (tgt := 43) hx hb d_Model_addNumber_30 (by decide) (fun c_30 => ?_) (fun c_30 => ?_)
      · have hf := ip_ c_30 hf
        refine lv_iload hx hb d_Model_addNumber_43 (lv_at hl 2 rfl) ?_
        refine lv_istore (lv' := [(5, .int z24), (0, .ref qt), (3, .int x3), (4, .int z24)]) hx hb d_Model_addNumber_45 hl (by decide) rfl (fun ls hl => ?_)
        exact W_47 x3  K (z24, t_put, t_piece)  hf _ _ _ hP hD hS (lv_sub hl [1, 2, 0] rfl)
      · have hf := in_ c_30 hf
        refine lv_bipush (v := 10) hx hb d_Model_addNumber_33 (by decide) ?_
        refine lv_iload hx hb d_Model_addNumber_35 (lv_at hl 2 rfl) ?_
        refine lv_imul hx hb d_Model_addNumber_37 ?_
        refine lv_istore (lv' := [(4, .int ((10 : Int32) * z24)), (0, .ref qt), (3, .int x3)]) hx hb d_Model_addNumber_38 hl (by decide) rfl (fun ls hl => ?_)
        refine lv_goto (tgt := 24) hx hb d_Model_addNumber_40 (by decide) ?_
        exact ih_24 ((10 : Int32) * z24)  hf _ _ _ hP hD hS (lv_sub hl [1, 2, 0] rfl)
  have W_22 : ∀ (x3 : Int32) (k0 : Int32) (t_put : Int32) (t_piece : (Nat → Int32)) , k_Model_addNumber_22 K x3 k0 t_put t_piece = some res → ∀ (H : Heap) (locs : List Loc) (ls : Array Slot), va_P (gD G) vwCl (w_Model_clear G qt qt_draft t_draft t_drafted qt_result t_result t_length t_arguments qt_kinds t_kinds qt_values t_values qt_widths t_widths qt_below t_below qt_sizes t_sizes qt_scales t_scales qt_parts t_parts qt_texts t_texts qt_lengths t_lengths t_end t_index t_flags t_twice t_width t_precision t_conversion t_broken qt_piece t_piece t_put t_head qt_tens t_tens t_count t_exponent qt_work t_work) H → va_D A (w_Model_clear G qt qt_draft t_draft t_drafted qt_result t_result t_length t_arguments qt_kinds t_kinds qt_values t_values qt_widths t_widths qt_below t_below qt_sizes t_sizes qt_scales t_scales qt_parts t_parts qt_texts t_texts qt_lengths t_lengths t_end t_index t_flags t_twice t_width t_precision t_conversion t_broken qt_piece t_piece t_put t_head qt_tens t_tens t_count t_exponent qt_work t_work) → va_S A s.heap H locs → lv_has ls 6 [(0, .ref qt), (3, .int x3)] → W p l e { frames := 1, cells := 0, slots := 0, locals := 40 } s m ([.ref qt, .int a1, .int a2] : List Value).toArray below meth c H locs 0 0 Q (F0 m 22 ls [.int k0]) := by
    intro x3 k0 t_put t_piece  hf H locs ls hP hD hS hl
    unfold k_Model_addNumber_22 at hf
    refine lv_istore (lv' := [(4, .int k0), (0, .ref qt), (3, .int x3)]) hx hb d_Model_addNumber_22 hl (by decide) rfl (fun ls hl => ?_)
    exact W_24 x3 t_put t_piece  K k0  hf _ _ _ hP hD hS (lv_sub hl [1, 2, 0] rfl)
  have W_10 : ∀ (k0 : Int32) (t_put : Int32) (t_piece : (Nat → Int32)) , k_Model_addNumber_10 K a2 k0 t_put t_piece = some res → ∀ (H : Heap) (locs : List Loc) (ls : Array Slot), va_P (gD G) vwCl (w_Model_clear G qt qt_draft t_draft t_drafted qt_result t_result t_length t_arguments qt_kinds t_kinds qt_values t_values qt_widths t_widths qt_below t_below qt_sizes t_sizes qt_scales t_scales qt_parts t_parts qt_texts t_texts qt_lengths t_lengths t_end t_index t_flags t_twice t_width t_precision t_conversion t_broken qt_piece t_piece t_put t_head qt_tens t_tens t_count t_exponent qt_work t_work) H → va_D A (w_Model_clear G qt qt_draft t_draft t_drafted qt_result t_result t_length t_arguments qt_kinds t_kinds qt_values t_values qt_widths t_widths qt_below t_below qt_sizes t_sizes qt_scales t_scales qt_parts t_parts qt_texts t_texts qt_lengths t_lengths t_end t_index t_flags t_twice t_width t_precision t_conversion t_broken qt_piece t_piece t_put t_head qt_tens t_tens t_count t_exponent qt_work t_work) → va_S A s.heap H locs → lv_has ls 6 [(0, .ref qt), (2, .int a2)] → W p l e { frames := 1, cells := 0, slots := 0, locals := 40 } s m ([.ref qt, .int a1, .int a2] : List Value).toArray below meth c H locs 0 0 Q (F0 m 10 ls [.int k0]) := by
    intro k0 t_put t_piece  hf H locs ls hP hD hS hl
    unfold k_Model_addNumber_10 at hf
    refine lv_istore_n (lv' := [(3, .int k0), (0, .ref qt), (2, .int a2)]) hx hb d_Model_addNumber_10 rfl hl (by decide) rfl (fun ls hl => ?_)
    refine lv_iload_n hx hb d_Model_addNumber_11 rfl (lv_at hl 2 rfl) ?_
    refine lv_iconst (v := 1) hx hb d_Model_addNumber_12 (by decide) ?_
    refine lv_icmp_le (tgt := 21) hx hb d_Model_addNumber_13 (by decide) (fun c_13 => ?_) (fun c_13 => ?_)
    · have hf := ip_ c_13 hf
      refine lv_iconst (v := 1) hx hb d_Model_addNumber_21 (by decide) ?_
      exact W_22 k0 (1 : Int32) t_put t_piece  hf _ _ _ hP hD hS (lv_sub hl [1, 0] rfl)
    · have hf := in_ c_13 hf
      refine lv_bipush (v := 10) hx hb d_Model_addNumber_16 (by decide) ?_
      refine lv_goto (tgt := 22) hx hb d_Model_addNumber_18 (by decide) ?_
      exact W_22 k0 (10 : Int32) t_put t_piece  hf _ _ _ hP hD hS (lv_sub hl [1, 0] rfl)
  unfold f_Model_addNumber at hf
  refine lv_iload_n hx hb d_Model_addNumber_0 rfl (lv_at hl 1 rfl) ?_
  refine lv_if_ge (tgt := 9) hx hb d_Model_addNumber_1 (by decide) (fun c_1 => ?_) (fun c_1 => ?_)
  · have hf := ip_ c_1 hf
    refine lv_iload_n hx hb d_Model_addNumber_9 rfl (lv_at hl 1 rfl) ?_
    exact W_10 a1 t_put t_piece  hf _ _ _ hP hD hS (lv_sub hl [0, 2] rfl)
  · have hf := in_ c_1 hf
    refine lv_iload_n hx hb d_Model_addNumber_4 rfl (lv_at hl 1 rfl) ?_
    refine lv_ineg hx hb d_Model_addNumber_5 ?_
    refine lv_goto (tgt := 10) hx hb d_Model_addNumber_6 (by decide) ?_
    exact W_10 (-a1) t_put t_piece  hf _ _ _ hP hD hS (lv_sub hl [0, 2] rfl)
theorem d_Model_addDigit_0 : decode cd_Model_addDigit 0 = .ok (.aload_n 0, 1) := by decide +kernel
theorem d_Model_addDigit_1 : decode cd_Model_addDigit 1 = .ok (.iload_n 1, 1) := by decide +kernel
theorem d_Model_addDigit_2 : decode cd_Model_addDigit 2 = .ok (.bipush 10, 2) := by decide +kernel
theorem d_Model_addDigit_4 : decode cd_Model_addDigit 4 = .ok (.if_icmp .ge 10, 3) := by decide +kernel
theorem d_Model_addDigit_7 : decode cd_Model_addDigit 7 = .ok (.bipush 48, 2) := by decide +kernel
theorem d_Model_addDigit_9 : decode cd_Model_addDigit 9 = .ok (.iload_n 1, 1) := by decide +kernel
theorem d_Model_addDigit_10 : decode cd_Model_addDigit 10 = .ok (.iadd, 1) := by decide +kernel
theorem d_Model_addDigit_11 : decode cd_Model_addDigit 11 = .ok (.goto 10, 3) := by decide +kernel
theorem d_Model_addDigit_14 : decode cd_Model_addDigit 14 = .ok (.bipush 97, 2) := by decide +kernel
theorem d_Model_addDigit_16 : decode cd_Model_addDigit 16 = .ok (.iload_n 1, 1) := by decide +kernel
theorem d_Model_addDigit_17 : decode cd_Model_addDigit 17 = .ok (.iadd, 1) := by decide +kernel
theorem d_Model_addDigit_18 : decode cd_Model_addDigit 18 = .ok (.bipush 10, 2) := by decide +kernel
theorem d_Model_addDigit_20 : decode cd_Model_addDigit 20 = .ok (.isub, 1) := by decide +kernel
theorem d_Model_addDigit_21 : decode cd_Model_addDigit 21 = .ok (.invokevirtual 164, 3) := by decide +kernel
theorem d_Model_addDigit_24 : decode cd_Model_addDigit 24 = .ok (.return_, 1) := by decide +kernel
def k_Model_addDigit_21  (k1 : Int32) (t_put : Int32) (t_piece : (Nat → Int32)) : Option (Int32 × (Nat → Int32)) :=
  ((f_Model_add t_piece t_put k1).bind fun u_21 => some (u_21.1, u_21.2))
def f_Model_addDigit (t_piece : Nat → Int32) (t_put : Int32) (a1 : Int32) : Option (Int32 × (Nat → Int32)) :=
  (if (10 : Int32) ≤ a1 then k_Model_addDigit_21  (((97 : Int32) + a1) - (10 : Int32)) t_put t_piece else k_Model_addDigit_21  ((48 : Int32) + a1) t_put t_piece)
set_option maxHeartbeats 4000000 in
set_option maxRecDepth 100000 in
theorem c_Model_addDigit (l : Launch) (G : Gt) (K : Nat) (qt : Nat) (qt_draft : Nat) (t_draft : Nat → Int32) (t_drafted : Int32) (qt_result : Nat) (t_result : Nat → Int32) (t_length : Int32) (t_arguments : Int32) (qt_kinds : Nat) (t_kinds : Nat → Int32) (qt_values : Nat) (t_values : Nat → Int64) (qt_widths : Nat) (t_widths : Nat → Int32) (qt_below : Nat) (t_below : Nat → Int32) (qt_sizes : Nat) (t_sizes : Nat → Int32) (qt_scales : Nat) (t_scales : Nat → Int32) (qt_parts : Nat) (t_parts : Nat → Int64) (qt_texts : Nat) (t_texts : Nat → Int32) (qt_lengths : Nat) (t_lengths : Nat → Int32) (t_end : Int32) (t_index : Int32) (t_flags : Int32) (t_twice : Int32) (t_width : Int32) (t_precision : Int32) (t_conversion : Int32) (t_broken : Int32) (qt_piece : Nat) (t_piece : Nat → Int32) (t_put : Int32) (t_head : Int32) (qt_tens : Nat) (t_tens : Nat → Int32) (t_count : Int32) (t_exponent : Int32) (qt_work : Nat) (t_work : Nat → Int32) (a1 : Int32) (sz : Nat) (res : Int32 × (Nat → Int32))   (hf : f_Model_addDigit t_piece t_put a1 = some res) : Met l y_Model_addDigit (.code y_Model_addDigit cd_Model_addDigit 2 none :: gw) { frames := 1, cells := 0, slots := 0, locals := 40 } (PC G ([.ref qt, .int a1] : List Value) sz (w_Model_clear G qt qt_draft t_draft t_drafted qt_result t_result t_length t_arguments qt_kinds t_kinds qt_values t_values qt_widths t_widths qt_below t_below qt_sizes t_sizes qt_scales t_scales qt_parts t_parts qt_texts t_texts qt_lengths t_lengths t_end t_index t_flags t_twice t_width t_precision t_conversion t_broken qt_piece t_piece t_put t_head qt_tens t_tens t_count t_exponent qt_work t_work)) (QV G (va_A (w_Model_clear G qt qt_draft t_draft t_drafted qt_result t_result t_length t_arguments qt_kinds t_kinds qt_values t_values qt_widths t_widths qt_below t_below qt_sizes t_sizes qt_scales t_scales qt_parts t_parts qt_texts t_texts qt_lengths t_lengths t_end t_index t_flags t_twice t_width t_precision t_conversion t_broken qt_piece t_piece t_put t_head qt_tens t_tens t_count t_exponent qt_work t_work) sz) (w_Model_clear G qt qt_draft t_draft t_drafted qt_result t_result t_length t_arguments qt_kinds t_kinds qt_values t_values qt_widths t_widths qt_below t_below qt_sizes t_sizes qt_scales t_scales qt_parts t_parts qt_texts t_texts qt_lengths t_lengths t_end t_index t_flags t_twice t_width t_precision t_conversion t_broken qt_piece res.2 res.1 t_head qt_tens t_tens t_count t_exponent qt_work t_work)) 0 0 (va_A (w_Model_clear G qt qt_draft t_draft t_drafted qt_result t_result t_length t_arguments qt_kinds t_kinds qt_values t_values qt_widths t_widths qt_below t_below qt_sizes t_sizes qt_scales t_scales qt_parts t_parts qt_texts t_texts qt_lengths t_lengths t_end t_index t_flags t_twice t_width t_precision t_conversion t_broken qt_piece t_piece t_put t_head qt_tens t_tens t_count t_exponent qt_work t_work) sz) := by
  refine Met.ofW (cc := cd_Model_addDigit) (maxL := 2) (ret := none) (by decide) rfl ?_
  intro p e s m args below meth c s₁ B hml hv
  obtain ⟨rfl, hsz, hP, hE, hD0⟩ := hv
  have hx := B.exec
  have hb := B.bytes
  have hr := B.returns
  have hts := atoms_spec (ws := (.code y_Model_addDigit cd_Model_addDigit 2 none :: gw)) B.pre
  have hg : ∀ w ∈ gw, w.before _ s = true := fun w h => hts w (List.mem_cons_of_mem _ h)
  have hown : s.vm.findClass R_Model = some m.cls := findClass_of_methodNamed B.named
  have hlocks := B.notSynchronized
  subst hsz
  have hK := hE.K
  have hD := hD0.self (sz := s.heap.size)
  have hAb := hE.ab hD0
  obtain ⟨Q, hQ⟩ : ∃ Q, MQ below (QV G (va_A (w_Model_clear G qt qt_draft t_draft t_drafted qt_result t_result t_length t_arguments qt_kinds t_kinds qt_values t_values qt_widths t_widths qt_below t_below qt_sizes t_sizes qt_scales t_scales qt_parts t_parts qt_texts t_texts qt_lengths t_lengths t_end t_index t_flags t_twice t_width t_precision t_conversion t_broken qt_piece t_piece t_put t_head qt_tens t_tens t_count t_exponent qt_work t_work) s.heap.size) (w_Model_clear G qt qt_draft t_draft t_drafted qt_result t_result t_length t_arguments qt_kinds t_kinds qt_values t_values qt_widths t_widths qt_below t_below qt_sizes t_sizes qt_scales t_scales qt_parts t_parts qt_texts t_texts qt_lengths t_lengths t_end t_index t_flags t_twice t_width t_precision t_conversion t_broken qt_piece res.2 res.1 t_head qt_tens t_tens t_count t_exponent qt_work t_work)) ([.ref qt, .int a1] : List Value).toArray s 0 0 (va_A (w_Model_clear G qt qt_draft t_draft t_drafted qt_result t_result t_length t_arguments qt_kinds t_kinds qt_values t_values qt_widths t_widths qt_below t_below qt_sizes t_sizes qt_scales t_scales qt_parts t_parts qt_texts t_texts qt_lengths t_lengths t_end t_index t_flags t_twice t_width t_precision t_conversion t_broken qt_piece t_piece t_put t_head qt_tens t_tens t_count t_exponent qt_work t_work) s.heap.size) = Q := ⟨_, rfl⟩
  show W p l e { frames := 1, cells := 0, slots := 0, locals := 40 } s m ([.ref qt, .int a1] : List Value).toArray below meth c s.heap [] 0 0 (MQ below (QV G (va_A (w_Model_clear G qt qt_draft t_draft t_drafted qt_result t_result t_length t_arguments qt_kinds t_kinds qt_values t_values qt_widths t_widths qt_below t_below qt_sizes t_sizes qt_scales t_scales qt_parts t_parts qt_texts t_texts qt_lengths t_lengths t_end t_index t_flags t_twice t_width t_precision t_conversion t_broken qt_piece t_piece t_put t_head qt_tens t_tens t_count t_exponent qt_work t_work) s.heap.size) (w_Model_clear G qt qt_draft t_draft t_drafted qt_result t_result t_length t_arguments qt_kinds t_kinds qt_values t_values qt_widths t_widths qt_below t_below qt_sizes t_sizes qt_scales t_scales qt_parts t_parts qt_texts t_texts qt_lengths t_lengths t_end t_index t_flags t_twice t_width t_precision t_conversion t_broken qt_piece res.2 res.1 t_head qt_tens t_tens t_count t_exponent qt_work t_work)) ([.ref qt, .int a1] : List Value).toArray s 0 0 (va_A (w_Model_clear G qt qt_draft t_draft t_drafted qt_result t_result t_length t_arguments qt_kinds t_kinds qt_values t_values qt_widths t_widths qt_below t_below qt_sizes t_sizes qt_scales t_scales qt_parts t_parts qt_texts t_texts qt_lengths t_lengths t_end t_index t_flags t_twice t_width t_precision t_conversion t_broken qt_piece t_piece t_put t_head qt_tens t_tens t_count t_exponent qt_work t_work) s.heap.size)) _
  rw [hQ]
  have hA : ∀ q : Nat, s.heap.size ≤ q → va_A (w_Model_clear G qt qt_draft t_draft t_drafted qt_result t_result t_length t_arguments qt_kinds t_kinds qt_values t_values qt_widths t_widths qt_below t_below qt_sizes t_sizes qt_scales t_scales qt_parts t_parts qt_texts t_texts qt_lengths t_lengths t_end t_index t_flags t_twice t_width t_precision t_conversion t_broken qt_piece t_piece t_put t_head qt_tens t_tens t_count t_exponent qt_work t_work) s.heap.size q := fun q h => Or.inr h
  obtain ⟨A, hAe⟩ : ∃ A, va_A (w_Model_clear G qt qt_draft t_draft t_drafted qt_result t_result t_length t_arguments qt_kinds t_kinds qt_values t_values qt_widths t_widths qt_below t_below qt_sizes t_sizes qt_scales t_scales qt_parts t_parts qt_texts t_texts qt_lengths t_lengths t_end t_index t_flags t_twice t_width t_precision t_conversion t_broken qt_piece t_piece t_put t_head qt_tens t_tens t_count t_exponent qt_work t_work) s.heap.size = A := ⟨_, rfl⟩
  rw [hAe] at hA hD hAb hQ
  have hS : va_S A s.heap s.heap [] := va_S.rf
  have hl := lv_entry (([.ref qt, .int a1] : List Value)) (n := 2) (Nat.le_of_ble_eq_true rfl)
  rw [lg_entry_eq]
  generalize (lg_sl (([.ref qt, .int a1] : List Value)) ++ List.replicate (2 - (lg_sl (([.ref qt, .int a1] : List Value))).length) Slot.unset).toArray = ls at hl ⊢
  have hl : lv_has ls 2 [(0, .ref qt), (1, .int a1)] := hl
  have W_21 : ∀ (k1 : Int32) (t_put : Int32) (t_piece : (Nat → Int32)) , k_Model_addDigit_21  k1 t_put t_piece = some res → ∀ (H : Heap) (locs : List Loc) (ls : Array Slot), va_P (gD G) vwCl (w_Model_clear G qt qt_draft t_draft t_drafted qt_result t_result t_length t_arguments qt_kinds t_kinds qt_values t_values qt_widths t_widths qt_below t_below qt_sizes t_sizes qt_scales t_scales qt_parts t_parts qt_texts t_texts qt_lengths t_lengths t_end t_index t_flags t_twice t_width t_precision t_conversion t_broken qt_piece t_piece t_put t_head qt_tens t_tens t_count t_exponent qt_work t_work) H → va_D A (w_Model_clear G qt qt_draft t_draft t_drafted qt_result t_result t_length t_arguments qt_kinds t_kinds qt_values t_values qt_widths t_widths qt_below t_below qt_sizes t_sizes qt_scales t_scales qt_parts t_parts qt_texts t_texts qt_lengths t_lengths t_end t_index t_flags t_twice t_width t_precision t_conversion t_broken qt_piece t_piece t_put t_head qt_tens t_tens t_count t_exponent qt_work t_work) → va_S A s.heap H locs → lv_has ls 2 [] → W p l e { frames := 1, cells := 0, slots := 0, locals := 40 } s m ([.ref qt, .int a1] : List Value).toArray below meth c H locs 0 0 Q (F0 m 21 ls [.int k1, .ref qt]) := by
    intro k1 t_put t_piece  hf H locs ls hP hD hS hl
    unfold k_Model_addDigit_21 at hf
    obtain ⟨u_21, hu_21, hf⟩ := bd_ hf
    refine CALLWv (va_runV (As := [.int k1]) (rest := []) ⟨hx, hb, hml, hown, hg⟩ (c_Model_add l G K qt qt_draft t_draft t_drafted qt_result t_result t_length t_arguments qt_kinds t_kinds qt_values t_values qt_widths t_widths qt_below t_below qt_sizes t_sizes qt_scales t_scales qt_parts t_parts qt_texts t_texts qt_lengths t_lengths t_end t_index t_flags t_twice t_width t_precision t_conversion t_broken qt_piece t_piece t_put t_head qt_tens t_tens t_count t_exponent qt_work t_work k1 _ u_21  hu_21) (cwV 1 hg (gV m_473 m_474 m_475 m_389 m_476) rfl rfl rfl (by decide +kernel) ⟨Nat.le_of_ble_eq_true rfl, Nat.le_of_ble_eq_true rfl⟩) ⟨PC_b, va_recv hK hP (ci := 7) (q0 := 0) rfl rfl, PC_p hE hS hAb hP hD⟩ rfl rfl hl.1 rfl (lv_room (Nat.le_of_ble_eq_true rfl)) d_Model_addDigit_21 ⟨Nat.zero_le _, Nat.zero_le _⟩) hP hD hS hA (fun H locs hP hD hS => ?_)
    have hP : va_P (gD G) vwCl (w_Model_clear G qt qt_draft t_draft t_drafted qt_result t_result t_length t_arguments qt_kinds t_kinds qt_values t_values qt_widths t_widths qt_below t_below qt_sizes t_sizes qt_scales t_scales qt_parts t_parts qt_texts t_texts qt_lengths t_lengths t_end t_index t_flags t_twice t_width t_precision t_conversion t_broken qt_piece u_21.2 u_21.1 t_head qt_tens t_tens t_count t_exponent qt_work t_work) H := hP
    have hD : va_D A (w_Model_clear G qt qt_draft t_draft t_drafted qt_result t_result t_length t_arguments qt_kinds t_kinds qt_values t_values qt_widths t_widths qt_below t_below qt_sizes t_sizes qt_scales t_scales qt_parts t_parts qt_texts t_texts qt_lengths t_lengths t_end t_index t_flags t_twice t_width t_precision t_conversion t_broken qt_piece u_21.2 u_21.1 t_head qt_tens t_tens t_count t_exponent qt_work t_work) := hD
    obtain rfl := Option.some.inj hf
    rw [← hQ]
    exact W.vret hx hb hr (fun t9 ht hW => ⟨⟨(), rfl, trivial, ⟨by rw [ht]; exact hP, hD⟩⟩, hS.F ht⟩) hS.2.2 d_Model_addDigit_24
  unfold f_Model_addDigit at hf
  refine lv_aload_n hx hb d_Model_addDigit_0 rfl (lv_at hl 0 rfl) ?_
  refine lv_iload_n hx hb d_Model_addDigit_1 rfl (lv_at hl 1 rfl) ?_
  refine lv_bipush (v := 10) hx hb d_Model_addDigit_2 (by decide) ?_
  refine lv_icmp_ge (tgt := 14) hx hb d_Model_addDigit_4 (by decide) (fun c_4 => ?_) (fun c_4 => ?_)
  · have hf := ip_ c_4 hf
    refine lv_bipush (v := 97) hx hb d_Model_addDigit_14 (by decide) ?_
    refine lv_iload_n hx hb d_Model_addDigit_16 rfl (lv_at hl 1 rfl) ?_
    refine lv_iadd hx hb d_Model_addDigit_17 ?_
    refine lv_bipush (v := 10) hx hb d_Model_addDigit_18 (by decide) ?_
    refine lv_isub hx hb d_Model_addDigit_20 ?_
    exact W_21 (((97 : Int32) + a1) - (10 : Int32)) t_put t_piece  hf _ _ _ hP hD hS (lv_sub hl [] rfl)
  · have hf := in_ c_4 hf
    refine lv_bipush (v := 48) hx hb d_Model_addDigit_7 (by decide) ?_
    refine lv_iload_n hx hb d_Model_addDigit_9 rfl (lv_at hl 1 rfl) ?_
    refine lv_iadd hx hb d_Model_addDigit_10 ?_
    refine lv_goto (tgt := 21) hx hb d_Model_addDigit_11 (by decide) ?_
    exact W_21 ((48 : Int32) + a1) t_put t_piece  hf _ _ _ hP hD hS (lv_sub hl [] rfl)
theorem d_Model_addDigits_0 : decode cd_Model_addDigits 0 = .ok (.iconst 0, 1) := by decide +kernel
theorem d_Model_addDigits_1 : decode cd_Model_addDigits 1 = .ok (.istore_n 1, 1) := by decide +kernel
theorem d_Model_addDigits_2 : decode cd_Model_addDigits 2 = .ok (.iload_n 1, 1) := by decide +kernel
theorem d_Model_addDigits_3 : decode cd_Model_addDigits 3 = .ok (.aload_n 0, 1) := by decide +kernel
theorem d_Model_addDigits_4 : decode cd_Model_addDigits 4 = .ok (.getfield 143, 3) := by decide +kernel
theorem d_Model_addDigits_7 : decode cd_Model_addDigits 7 = .ok (.if_icmp .ge 19, 3) := by decide +kernel
theorem d_Model_addDigits_10 : decode cd_Model_addDigits 10 = .ok (.aload_n 0, 1) := by decide +kernel
theorem d_Model_addDigits_11 : decode cd_Model_addDigits 11 = .ok (.aload_n 0, 1) := by decide +kernel
theorem d_Model_addDigits_12 : decode cd_Model_addDigits 12 = .ok (.getfield 48, 3) := by decide +kernel
theorem d_Model_addDigits_15 : decode cd_Model_addDigits 15 = .ok (.iload_n 1, 1) := by decide +kernel
theorem d_Model_addDigits_16 : decode cd_Model_addDigits 16 = .ok (.iaload, 1) := by decide +kernel
theorem d_Model_addDigits_17 : decode cd_Model_addDigits 17 = .ok (.invokevirtual 168, 3) := by decide +kernel
theorem d_Model_addDigits_20 : decode cd_Model_addDigits 20 = .ok (.iinc 1 1, 3) := by decide +kernel
theorem d_Model_addDigits_23 : decode cd_Model_addDigits 23 = .ok (.goto (-21), 3) := by decide +kernel
theorem d_Model_addDigits_26 : decode cd_Model_addDigits 26 = .ok (.aload_n 0, 1) := by decide +kernel
theorem d_Model_addDigits_27 : decode cd_Model_addDigits 27 = .ok (.getfield 143, 3) := by decide +kernel
theorem d_Model_addDigits_30 : decode cd_Model_addDigits 30 = .ok (.ifCond .ne 9, 3) := by decide +kernel
theorem d_Model_addDigits_33 : decode cd_Model_addDigits 33 = .ok (.aload_n 0, 1) := by decide +kernel
theorem d_Model_addDigits_34 : decode cd_Model_addDigits 34 = .ok (.bipush 48, 2) := by decide +kernel
theorem d_Model_addDigits_36 : decode cd_Model_addDigits 36 = .ok (.invokevirtual 164, 3) := by decide +kernel
theorem d_Model_addDigits_39 : decode cd_Model_addDigits 39 = .ok (.return_, 1) := by decide +kernel
theorem m_477 : Cond.methodLink R_Model 168 y_Model_addDigit ∈ gw := gm (i := 1109) (by decide +kernel) (by decide +kernel)
theorem m_478 : Cond.instanceMethod y_Model_addDigit ∈ gw := gm (i := 1111) (by decide +kernel) (by decide +kernel)
theorem m_479 : Cond.selects R_Model y_Model_addDigit y_Model_addDigit ∈ gw := gm (i := 61) (by decide +kernel) (by decide +kernel)
set_option maxRecDepth 100000 in
theorem m_480 : Cond.code y_Model_addDigit cd_Model_addDigit 2 none ∈ gw := gm (i := 1112) rfl rfl
def b_Model_addDigits_2 (t_tens : Nat → Int32) (t_count : Int32)  (rec_2 : (Int32 × Int32 × (Nat → Int32)) → Option (Int32 × (Nat → Int32))) (z2 : Int32 × Int32 × (Nat → Int32)) : Option (Int32 × (Nat → Int32)) :=
  (if t_count ≤ z2.1 then (if t_count = 0 then ((f_Model_add z2.2.2 z2.2.1 (48 : Int32)).bind fun u_36 => some (u_36.1, u_36.2)) else some (z2.2.1, z2.2.2)) else (if inB z2.1 1200 = true then ((f_Model_addDigit z2.2.2 z2.2.1 (t_tens z2.1.toNatClampNeg)).bind fun u_17 => rec_2 ((z2.1 + 1), u_17.1, u_17.2)) else none))
def f_Model_addDigits (K : Nat) (t_piece : Nat → Int32) (t_put : Int32) (t_tens : Nat → Int32) (t_count : Int32) : Option (Int32 × (Nat → Int32)) :=
  lp_ (b_Model_addDigits_2 t_tens t_count ) K ((0 : Int32), t_put, t_piece)
set_option maxHeartbeats 4000000 in
set_option maxRecDepth 100000 in
theorem c_Model_addDigits (l : Launch) (G : Gt) (K : Nat) (qt : Nat) (qt_draft : Nat) (t_draft : Nat → Int32) (t_drafted : Int32) (qt_result : Nat) (t_result : Nat → Int32) (t_length : Int32) (t_arguments : Int32) (qt_kinds : Nat) (t_kinds : Nat → Int32) (qt_values : Nat) (t_values : Nat → Int64) (qt_widths : Nat) (t_widths : Nat → Int32) (qt_below : Nat) (t_below : Nat → Int32) (qt_sizes : Nat) (t_sizes : Nat → Int32) (qt_scales : Nat) (t_scales : Nat → Int32) (qt_parts : Nat) (t_parts : Nat → Int64) (qt_texts : Nat) (t_texts : Nat → Int32) (qt_lengths : Nat) (t_lengths : Nat → Int32) (t_end : Int32) (t_index : Int32) (t_flags : Int32) (t_twice : Int32) (t_width : Int32) (t_precision : Int32) (t_conversion : Int32) (t_broken : Int32) (qt_piece : Nat) (t_piece : Nat → Int32) (t_put : Int32) (t_head : Int32) (qt_tens : Nat) (t_tens : Nat → Int32) (t_count : Int32) (t_exponent : Int32) (qt_work : Nat) (t_work : Nat → Int32) (sz : Nat) (res : Int32 × (Nat → Int32))   (hf : f_Model_addDigits K t_piece t_put t_tens t_count = some res) : Met l y_Model_addDigits (.code y_Model_addDigits cd_Model_addDigits 2 none :: gw) { frames := 2, cells := 0, slots := 0, locals := 80 } (PC G ([.ref qt] : List Value) sz (w_Model_clear G qt qt_draft t_draft t_drafted qt_result t_result t_length t_arguments qt_kinds t_kinds qt_values t_values qt_widths t_widths qt_below t_below qt_sizes t_sizes qt_scales t_scales qt_parts t_parts qt_texts t_texts qt_lengths t_lengths t_end t_index t_flags t_twice t_width t_precision t_conversion t_broken qt_piece t_piece t_put t_head qt_tens t_tens t_count t_exponent qt_work t_work)) (QV G (va_A (w_Model_clear G qt qt_draft t_draft t_drafted qt_result t_result t_length t_arguments qt_kinds t_kinds qt_values t_values qt_widths t_widths qt_below t_below qt_sizes t_sizes qt_scales t_scales qt_parts t_parts qt_texts t_texts qt_lengths t_lengths t_end t_index t_flags t_twice t_width t_precision t_conversion t_broken qt_piece t_piece t_put t_head qt_tens t_tens t_count t_exponent qt_work t_work) sz) (w_Model_clear G qt qt_draft t_draft t_drafted qt_result t_result t_length t_arguments qt_kinds t_kinds qt_values t_values qt_widths t_widths qt_below t_below qt_sizes t_sizes qt_scales t_scales qt_parts t_parts qt_texts t_texts qt_lengths t_lengths t_end t_index t_flags t_twice t_width t_precision t_conversion t_broken qt_piece res.2 res.1 t_head qt_tens t_tens t_count t_exponent qt_work t_work)) 0 0 (va_A (w_Model_clear G qt qt_draft t_draft t_drafted qt_result t_result t_length t_arguments qt_kinds t_kinds qt_values t_values qt_widths t_widths qt_below t_below qt_sizes t_sizes qt_scales t_scales qt_parts t_parts qt_texts t_texts qt_lengths t_lengths t_end t_index t_flags t_twice t_width t_precision t_conversion t_broken qt_piece t_piece t_put t_head qt_tens t_tens t_count t_exponent qt_work t_work) sz) := by
  refine Met.ofW (cc := cd_Model_addDigits) (maxL := 2) (ret := none) (by decide) rfl ?_
  intro p e s m args below meth c s₁ B hml hv
  obtain ⟨rfl, hsz, hP, hE, hD0⟩ := hv
  have hx := B.exec
  have hb := B.bytes
  have hr := B.returns
  have hts := atoms_spec (ws := (.code y_Model_addDigits cd_Model_addDigits 2 none :: gw)) B.pre
  have hg : ∀ w ∈ gw, w.before _ s = true := fun w h => hts w (List.mem_cons_of_mem _ h)
  have hown : s.vm.findClass R_Model = some m.cls := findClass_of_methodNamed B.named
  have hlocks := B.notSynchronized
  subst hsz
  have hK := hE.K
  have hD := hD0.self (sz := s.heap.size)
  have hAb := hE.ab hD0
  obtain ⟨Q, hQ⟩ : ∃ Q, MQ below (QV G (va_A (w_Model_clear G qt qt_draft t_draft t_drafted qt_result t_result t_length t_arguments qt_kinds t_kinds qt_values t_values qt_widths t_widths qt_below t_below qt_sizes t_sizes qt_scales t_scales qt_parts t_parts qt_texts t_texts qt_lengths t_lengths t_end t_index t_flags t_twice t_width t_precision t_conversion t_broken qt_piece t_piece t_put t_head qt_tens t_tens t_count t_exponent qt_work t_work) s.heap.size) (w_Model_clear G qt qt_draft t_draft t_drafted qt_result t_result t_length t_arguments qt_kinds t_kinds qt_values t_values qt_widths t_widths qt_below t_below qt_sizes t_sizes qt_scales t_scales qt_parts t_parts qt_texts t_texts qt_lengths t_lengths t_end t_index t_flags t_twice t_width t_precision t_conversion t_broken qt_piece res.2 res.1 t_head qt_tens t_tens t_count t_exponent qt_work t_work)) ([.ref qt] : List Value).toArray s 0 0 (va_A (w_Model_clear G qt qt_draft t_draft t_drafted qt_result t_result t_length t_arguments qt_kinds t_kinds qt_values t_values qt_widths t_widths qt_below t_below qt_sizes t_sizes qt_scales t_scales qt_parts t_parts qt_texts t_texts qt_lengths t_lengths t_end t_index t_flags t_twice t_width t_precision t_conversion t_broken qt_piece t_piece t_put t_head qt_tens t_tens t_count t_exponent qt_work t_work) s.heap.size) = Q := ⟨_, rfl⟩
  show W p l e { frames := 2, cells := 0, slots := 0, locals := 80 } s m ([.ref qt] : List Value).toArray below meth c s.heap [] 0 0 (MQ below (QV G (va_A (w_Model_clear G qt qt_draft t_draft t_drafted qt_result t_result t_length t_arguments qt_kinds t_kinds qt_values t_values qt_widths t_widths qt_below t_below qt_sizes t_sizes qt_scales t_scales qt_parts t_parts qt_texts t_texts qt_lengths t_lengths t_end t_index t_flags t_twice t_width t_precision t_conversion t_broken qt_piece t_piece t_put t_head qt_tens t_tens t_count t_exponent qt_work t_work) s.heap.size) (w_Model_clear G qt qt_draft t_draft t_drafted qt_result t_result t_length t_arguments qt_kinds t_kinds qt_values t_values qt_widths t_widths qt_below t_below qt_sizes t_sizes qt_scales t_scales qt_parts t_parts qt_texts t_texts qt_lengths t_lengths t_end t_index t_flags t_twice t_width t_precision t_conversion t_broken qt_piece res.2 res.1 t_head qt_tens t_tens t_count t_exponent qt_work t_work)) ([.ref qt] : List Value).toArray s 0 0 (va_A (w_Model_clear G qt qt_draft t_draft t_drafted qt_result t_result t_length t_arguments qt_kinds t_kinds qt_values t_values qt_widths t_widths qt_below t_below qt_sizes t_sizes qt_scales t_scales qt_parts t_parts qt_texts t_texts qt_lengths t_lengths t_end t_index t_flags t_twice t_width t_precision t_conversion t_broken qt_piece t_piece t_put t_head qt_tens t_tens t_count t_exponent qt_work t_work) s.heap.size)) _
  rw [hQ]
  have hA : ∀ q : Nat, s.heap.size ≤ q → va_A (w_Model_clear G qt qt_draft t_draft t_drafted qt_result t_result t_length t_arguments qt_kinds t_kinds qt_values t_values qt_widths t_widths qt_below t_below qt_sizes t_sizes qt_scales t_scales qt_parts t_parts qt_texts t_texts qt_lengths t_lengths t_end t_index t_flags t_twice t_width t_precision t_conversion t_broken qt_piece t_piece t_put t_head qt_tens t_tens t_count t_exponent qt_work t_work) s.heap.size q := fun q h => Or.inr h
  obtain ⟨A, hAe⟩ : ∃ A, va_A (w_Model_clear G qt qt_draft t_draft t_drafted qt_result t_result t_length t_arguments qt_kinds t_kinds qt_values t_values qt_widths t_widths qt_below t_below qt_sizes t_sizes qt_scales t_scales qt_parts t_parts qt_texts t_texts qt_lengths t_lengths t_end t_index t_flags t_twice t_width t_precision t_conversion t_broken qt_piece t_piece t_put t_head qt_tens t_tens t_count t_exponent qt_work t_work) s.heap.size = A := ⟨_, rfl⟩
  rw [hAe] at hA hD hAb hQ
  have hS : va_S A s.heap s.heap [] := va_S.rf
  have hl := lv_entry (([.ref qt] : List Value)) (n := 2) (Nat.le_of_ble_eq_true rfl)
  rw [lg_entry_eq]
  generalize (lg_sl (([.ref qt] : List Value)) ++ List.replicate (2 - (lg_sl (([.ref qt] : List Value))).length) Slot.unset).toArray = ls at hl ⊢
  have hl : lv_has ls 2 [(0, .ref qt)] := hl
  have W_2 : ∀   (n_2 : Nat) (z2 : Int32 × Int32 × (Nat → Int32)) , lp_ (b_Model_addDigits_2 t_tens t_count ) n_2 z2 = some res → ∀ (H : Heap) (locs : List Loc) (ls : Array Slot), va_P (gD G) vwCl (w_Model_clear G qt qt_draft t_draft t_drafted qt_result t_result t_length t_arguments qt_kinds t_kinds qt_values t_values qt_widths t_widths qt_below t_below qt_sizes t_sizes qt_scales t_scales qt_parts t_parts qt_texts t_texts qt_lengths t_lengths t_end t_index t_flags t_twice t_width t_precision t_conversion t_broken qt_piece z2.2.2 z2.2.1 t_head qt_tens t_tens t_count t_exponent qt_work t_work) H → va_D A (w_Model_clear G qt qt_draft t_draft t_drafted qt_result t_result t_length t_arguments qt_kinds t_kinds qt_values t_values qt_widths t_widths qt_below t_below qt_sizes t_sizes qt_scales t_scales qt_parts t_parts qt_texts t_texts qt_lengths t_lengths t_end t_index t_flags t_twice t_width t_precision t_conversion t_broken qt_piece z2.2.2 z2.2.1 t_head qt_tens t_tens t_count t_exponent qt_work t_work) → va_S A s.heap H locs → lv_has ls 2 [(0, .ref qt), (1, .int z2.1)] → W p l e { frames := 2, cells := 0, slots := 0, locals := 80 } s m ([.ref qt] : List Value).toArray below meth c H locs 0 0 Q (F0 m 2 ls []) := by
    intro  n_2
    induction n_2 with
    | zero =>
      intro z2  hf
      cases hf
    | succ n_2 ih_2 =>
      intro z2  hf H locs ls hP hD hS hl
      have hf : b_Model_addDigits_2 t_tens t_count  (lp_ (b_Model_addDigits_2 t_tens t_count ) n_2) z2 = some res := hf
      generalize lp_ (b_Model_addDigits_2 t_tens t_count ) n_2 = rec_2 at hf ih_2
      unfold b_Model_addDigits_2 at hf
      refine lv_iload_n hx hb d_Model_addDigits_2 rfl (lv_at hl 1 rfl) ?_
      refine lv_aload_n hx hb d_Model_addDigits_3 rfl (lv_at hl 0 rfl) ?_
      refine va_get (D := gD G) (ci := 7) (v := .int t_count) (C := R_Model) (T := F_Model) (N := 29) hx hb hg in_Model hown hK hP 0 rfl rfl 26 (by decide) (hg _ m_458) (fun _ h9 => h9) rfl d_Model_addDigits_4 ?_
      refine lv_icmp_ge (tgt := 26) hx hb d_Model_addDigits_7 (by decide) (fun c_7 => ?_) (fun c_7 => ?_)
      · have hf := ip_ c_7 hf
        refine lv_aload_n hx hb d_Model_addDigits_26 rfl (lv_at hl 0 rfl) ?_
        refine va_get (D := gD G) (ci := 7) (v := .int t_count) (C := R_Model) (T := F_Model) (N := 29) hx hb hg in_Model hown hK hP 0 rfl rfl 26 (by decide) (hg _ m_458) (fun _ h9 => h9) rfl d_Model_addDigits_27 ?_
        refine lv_if_ne (tgt := 39) hx hb d_Model_addDigits_30 (by decide) (fun c_30 => ?_) (fun c_30 => ?_)
        · have hf := in_ c_30 hf
          obtain rfl := Option.some.inj hf
          rw [← hQ]
          exact W.vret hx hb hr (fun t9 ht hW => ⟨⟨(), rfl, trivial, ⟨by rw [ht]; exact hP, hD⟩⟩, hS.F ht⟩) hS.2.2 d_Model_addDigits_39
        · have hf := ip_ c_30 hf
          refine lv_aload_n hx hb d_Model_addDigits_33 rfl (lv_at hl 0 rfl) ?_
          refine lv_bipush (v := 48) hx hb d_Model_addDigits_34 (by decide) ?_
          obtain ⟨u_36, hu_36, hf⟩ := bd_ hf
          refine CALLWv (va_runV (As := [.int (48 : Int32)]) (rest := []) ⟨hx, hb, hml, hown, hg⟩ (c_Model_add l G K qt qt_draft t_draft t_drafted qt_result t_result t_length t_arguments qt_kinds t_kinds qt_values t_values qt_widths t_widths qt_below t_below qt_sizes t_sizes qt_scales t_scales qt_parts t_parts qt_texts t_texts qt_lengths t_lengths t_end t_index t_flags t_twice t_width t_precision t_conversion t_broken qt_piece z2.2.2 z2.2.1 t_head qt_tens t_tens t_count t_exponent qt_work t_work (48 : Int32) _ u_36  hu_36) (cwV 1 hg (gV m_473 m_474 m_475 m_389 m_476) rfl rfl rfl (by decide +kernel) ⟨Nat.le_of_ble_eq_true rfl, Nat.le_of_ble_eq_true rfl⟩) ⟨PC_b, va_recv hK hP (ci := 7) (q0 := 0) rfl rfl, PC_p hE hS hAb hP hD⟩ rfl rfl hl.1 rfl (lv_room (Nat.le_of_ble_eq_true rfl)) d_Model_addDigits_36 ⟨Nat.zero_le _, Nat.zero_le _⟩) hP hD hS hA (fun H locs hP hD hS => ?_)
          have hP : va_P (gD G) vwCl (w_Model_clear G qt qt_draft t_draft t_drafted qt_result t_result t_length t_arguments qt_kinds t_kinds qt_values t_values qt_widths t_widths qt_below t_below qt_sizes t_sizes qt_scales t_scales qt_parts t_parts qt_texts t_texts qt_lengths t_lengths t_end t_index t_flags t_twice t_width t_precision t_conversion t_broken qt_piece u_36.2 u_36.1 t_head qt_tens t_tens t_count t_exponent qt_work t_work) H := hP
          have hD : va_D A (w_Model_clear G qt qt_draft t_draft t_drafted qt_result t_result t_length t_arguments qt_kinds t_kinds qt_values t_values qt_widths t_widths qt_below t_below qt_sizes t_sizes qt_scales t_scales qt_parts t_parts qt_texts t_texts qt_lengths t_lengths t_end t_index t_flags t_twice t_width t_precision t_conversion t_broken qt_piece u_36.2 u_36.1 t_head qt_tens t_tens t_count t_exponent qt_work t_work) := hD
          obtain rfl := Option.some.inj hf
          rw [← hQ]
          exact W.vret hx hb hr (fun t9 ht hW => ⟨⟨(), rfl, trivial, ⟨by rw [ht]; exact hP, hD⟩⟩, hS.F ht⟩) hS.2.2 d_Model_addDigits_39
      · have hf := in_ c_7 hf
        refine lv_aload_n hx hb d_Model_addDigits_10 rfl (lv_at hl 0 rfl) ?_
        refine lv_aload_n hx hb d_Model_addDigits_11 rfl (lv_at hl 0 rfl) ?_
        refine va_get (D := gD G) (ci := 7) (v := .ref qt_tens) (C := R_Model) (T := F_Model) (N := 29) hx hb hg in_Model hown hK hP 0 rfl rfl 25 (by decide) (hg _ m_459) (fun _ h9 => h9) rfl d_Model_addDigits_12 ?_
        refine lv_iload_n hx hb d_Model_addDigits_15 rfl (lv_at hl 1 rfl) ?_
        obtain ⟨g_16, hf⟩ := gd_ hf
        refine va_iald hx hb hK hP 13 1 rfl rfl (inB_in g_16) d_Model_addDigits_16 ?_
        obtain ⟨u_17, hu_17, hf⟩ := bd_ hf
        refine CALLWv (va_runV (As := [.int (t_tens z2.1.toNatClampNeg)]) (rest := []) ⟨hx, hb, hml, hown, hg⟩ (c_Model_addDigit l G K qt qt_draft t_draft t_drafted qt_result t_result t_length t_arguments qt_kinds t_kinds qt_values t_values qt_widths t_widths qt_below t_below qt_sizes t_sizes qt_scales t_scales qt_parts t_parts qt_texts t_texts qt_lengths t_lengths t_end t_index t_flags t_twice t_width t_precision t_conversion t_broken qt_piece z2.2.2 z2.2.1 t_head qt_tens t_tens t_count t_exponent qt_work t_work (t_tens z2.1.toNatClampNeg) _ u_17  hu_17) (cwV 1 hg (gV m_477 m_478 m_479 m_389 m_480) rfl rfl rfl (by decide +kernel) ⟨Nat.le_of_ble_eq_true rfl, Nat.le_of_ble_eq_true rfl⟩) ⟨PC_b, va_recv hK hP (ci := 7) (q0 := 0) rfl rfl, PC_p hE hS hAb hP hD⟩ rfl rfl hl.1 rfl (lv_room (Nat.le_of_ble_eq_true rfl)) d_Model_addDigits_17 ⟨Nat.zero_le _, Nat.zero_le _⟩) hP hD hS hA (fun H locs hP hD hS => ?_)
        have hP : va_P (gD G) vwCl (w_Model_clear G qt qt_draft t_draft t_drafted qt_result t_result t_length t_arguments qt_kinds t_kinds qt_values t_values qt_widths t_widths qt_below t_below qt_sizes t_sizes qt_scales t_scales qt_parts t_parts qt_texts t_texts qt_lengths t_lengths t_end t_index t_flags t_twice t_width t_precision t_conversion t_broken qt_piece u_17.2 u_17.1 t_head qt_tens t_tens t_count t_exponent qt_work t_work) H := hP
        have hD : va_D A (w_Model_clear G qt qt_draft t_draft t_drafted qt_result t_result t_length t_arguments qt_kinds t_kinds qt_values t_values qt_widths t_widths qt_below t_below qt_sizes t_sizes qt_scales t_scales qt_parts t_parts qt_texts t_texts qt_lengths t_lengths t_end t_index t_flags t_twice t_width t_precision t_conversion t_broken qt_piece u_17.2 u_17.1 t_head qt_tens t_tens t_count t_exponent qt_work t_work) := hD
        refine lv_iinc (v := (z2.1 + 1)) (lv' := [(1, .int (z2.1 + 1)), (0, .ref qt)]) hx hb d_Model_addDigits_20 hl (k := 1) rfl rfl (by decide) rfl (fun ls hl => ?_)
        refine lv_goto (tgt := 2) hx hb d_Model_addDigits_23 (by decide) ?_
        exact ih_2 ((z2.1 + 1), u_17.1, u_17.2)  hf _ _ _ hP hD hS (lv_sub hl [1, 0] rfl)
  unfold f_Model_addDigits at hf
  refine lv_iconst (v := 0) hx hb d_Model_addDigits_0 (by decide) ?_
  refine lv_istore_n (lv' := [(1, .int (0 : Int32)), (0, .ref qt)]) hx hb d_Model_addDigits_1 rfl hl (by decide) rfl (fun ls hl => ?_)
  exact W_2   K ((0 : Int32), t_put, t_piece)  hf _ _ _ hP hD hS (lv_sub hl [1, 0] rfl)
theorem d_Model_group_0 : decode cd_Model_group 0 = .ok (.aload_n 0, 1) := by decide +kernel
theorem d_Model_group_1 : decode cd_Model_group 1 = .ok (.bipush 32, 2) := by decide +kernel
theorem d_Model_group_3 : decode cd_Model_group 3 = .ok (.invokevirtual 137, 3) := by decide +kernel
theorem d_Model_group_6 : decode cd_Model_group 6 = .ok (.ifCond .eq 26, 3) := by decide +kernel
theorem d_Model_group_9 : decode cd_Model_group 9 = .ok (.iload_n 1, 1) := by decide +kernel
theorem d_Model_group_10 : decode cd_Model_group 10 = .ok (.iload_n 2, 1) := by decide +kernel
theorem d_Model_group_11 : decode cd_Model_group 11 = .ok (.iconst 1, 1) := by decide +kernel
theorem d_Model_group_12 : decode cd_Model_group 12 = .ok (.isub, 1) := by decide +kernel
theorem d_Model_group_13 : decode cd_Model_group 13 = .ok (.if_icmp .ge 19, 3) := by decide +kernel
theorem d_Model_group_16 : decode cd_Model_group 16 = .ok (.iload_n 2, 1) := by decide +kernel
theorem d_Model_group_17 : decode cd_Model_group 17 = .ok (.iconst 1, 1) := by decide +kernel
theorem d_Model_group_18 : decode cd_Model_group 18 = .ok (.isub, 1) := by decide +kernel
theorem d_Model_group_19 : decode cd_Model_group 19 = .ok (.iload_n 1, 1) := by decide +kernel
theorem d_Model_group_20 : decode cd_Model_group 20 = .ok (.isub, 1) := by decide +kernel
theorem d_Model_group_21 : decode cd_Model_group 21 = .ok (.iconst 3, 1) := by decide +kernel
theorem d_Model_group_22 : decode cd_Model_group 22 = .ok (.irem, 1) := by decide +kernel
theorem d_Model_group_23 : decode cd_Model_group 23 = .ok (.ifCond .ne 9, 3) := by decide +kernel
theorem d_Model_group_26 : decode cd_Model_group 26 = .ok (.aload_n 0, 1) := by decide +kernel
theorem d_Model_group_27 : decode cd_Model_group 27 = .ok (.bipush 44, 2) := by decide +kernel
theorem d_Model_group_29 : decode cd_Model_group 29 = .ok (.invokevirtual 164, 3) := by decide +kernel
theorem d_Model_group_32 : decode cd_Model_group 32 = .ok (.return_, 1) := by decide +kernel
def f_Model_group (t_flags : Int32) (t_piece : Nat → Int32) (t_put : Int32) (a1 : Int32) (a2 : Int32) : Option (Int32 × (Nat → Int32)) :=
  ((f_Model_has t_flags (32 : Int32)).bind fun u_3 => (if u_3 = 0 then some (t_put, t_piece) else (if (a2 - (1 : Int32)) ≤ a1 then some (t_put, t_piece) else (if (((a2 - (1 : Int32)) - a1) - ((a2 - (1 : Int32)) - a1) / (3 : Int32) * (3 : Int32)) = 0 then ((f_Model_add t_piece t_put (44 : Int32)).bind fun u_29 => some (u_29.1, u_29.2)) else some (t_put, t_piece)))))
set_option maxHeartbeats 4000000 in
set_option maxRecDepth 100000 in
theorem c_Model_group (l : Launch) (G : Gt) (K : Nat) (qt : Nat) (qt_draft : Nat) (t_draft : Nat → Int32) (t_drafted : Int32) (qt_result : Nat) (t_result : Nat → Int32) (t_length : Int32) (t_arguments : Int32) (qt_kinds : Nat) (t_kinds : Nat → Int32) (qt_values : Nat) (t_values : Nat → Int64) (qt_widths : Nat) (t_widths : Nat → Int32) (qt_below : Nat) (t_below : Nat → Int32) (qt_sizes : Nat) (t_sizes : Nat → Int32) (qt_scales : Nat) (t_scales : Nat → Int32) (qt_parts : Nat) (t_parts : Nat → Int64) (qt_texts : Nat) (t_texts : Nat → Int32) (qt_lengths : Nat) (t_lengths : Nat → Int32) (t_end : Int32) (t_index : Int32) (t_flags : Int32) (t_twice : Int32) (t_width : Int32) (t_precision : Int32) (t_conversion : Int32) (t_broken : Int32) (qt_piece : Nat) (t_piece : Nat → Int32) (t_put : Int32) (t_head : Int32) (qt_tens : Nat) (t_tens : Nat → Int32) (t_count : Int32) (t_exponent : Int32) (qt_work : Nat) (t_work : Nat → Int32) (a1 : Int32) (a2 : Int32) (sz : Nat) (res : Int32 × (Nat → Int32))   (hf : f_Model_group t_flags t_piece t_put a1 a2 = some res) : Met l y_Model_group (.code y_Model_group cd_Model_group 3 none :: gw) { frames := 1, cells := 0, slots := 0, locals := 40 } (PC G ([.ref qt, .int a1, .int a2] : List Value) sz (w_Model_clear G qt qt_draft t_draft t_drafted qt_result t_result t_length t_arguments qt_kinds t_kinds qt_values t_values qt_widths t_widths qt_below t_below qt_sizes t_sizes qt_scales t_scales qt_parts t_parts qt_texts t_texts qt_lengths t_lengths t_end t_index t_flags t_twice t_width t_precision t_conversion t_broken qt_piece t_piece t_put t_head qt_tens t_tens t_count t_exponent qt_work t_work)) (QV G (va_A (w_Model_clear G qt qt_draft t_draft t_drafted qt_result t_result t_length t_arguments qt_kinds t_kinds qt_values t_values qt_widths t_widths qt_below t_below qt_sizes t_sizes qt_scales t_scales qt_parts t_parts qt_texts t_texts qt_lengths t_lengths t_end t_index t_flags t_twice t_width t_precision t_conversion t_broken qt_piece t_piece t_put t_head qt_tens t_tens t_count t_exponent qt_work t_work) sz) (w_Model_clear G qt qt_draft t_draft t_drafted qt_result t_result t_length t_arguments qt_kinds t_kinds qt_values t_values qt_widths t_widths qt_below t_below qt_sizes t_sizes qt_scales t_scales qt_parts t_parts qt_texts t_texts qt_lengths t_lengths t_end t_index t_flags t_twice t_width t_precision t_conversion t_broken qt_piece res.2 res.1 t_head qt_tens t_tens t_count t_exponent qt_work t_work)) 0 0 (va_A (w_Model_clear G qt qt_draft t_draft t_drafted qt_result t_result t_length t_arguments qt_kinds t_kinds qt_values t_values qt_widths t_widths qt_below t_below qt_sizes t_sizes qt_scales t_scales qt_parts t_parts qt_texts t_texts qt_lengths t_lengths t_end t_index t_flags t_twice t_width t_precision t_conversion t_broken qt_piece t_piece t_put t_head qt_tens t_tens t_count t_exponent qt_work t_work) sz) := by
  refine Met.ofW (cc := cd_Model_group) (maxL := 3) (ret := none) (by decide) rfl ?_
  intro p e s m args below meth c s₁ B hml hv
  obtain ⟨rfl, hsz, hP, hE, hD0⟩ := hv
  have hx := B.exec
  have hb := B.bytes
  have hr := B.returns
  have hts := atoms_spec (ws := (.code y_Model_group cd_Model_group 3 none :: gw)) B.pre
  have hg : ∀ w ∈ gw, w.before _ s = true := fun w h => hts w (List.mem_cons_of_mem _ h)
  have hown : s.vm.findClass R_Model = some m.cls := findClass_of_methodNamed B.named
  have hlocks := B.notSynchronized
  subst hsz
  have hK := hE.K
  have hD := hD0.self (sz := s.heap.size)
  have hAb := hE.ab hD0
  obtain ⟨Q, hQ⟩ : ∃ Q, MQ below (QV G (va_A (w_Model_clear G qt qt_draft t_draft t_drafted qt_result t_result t_length t_arguments qt_kinds t_kinds qt_values t_values qt_widths t_widths qt_below t_below qt_sizes t_sizes qt_scales t_scales qt_parts t_parts qt_texts t_texts qt_lengths t_lengths t_end t_index t_flags t_twice t_width t_precision t_conversion t_broken qt_piece t_piece t_put t_head qt_tens t_tens t_count t_exponent qt_work t_work) s.heap.size) (w_Model_clear G qt qt_draft t_draft t_drafted qt_result t_result t_length t_arguments qt_kinds t_kinds qt_values t_values qt_widths t_widths qt_below t_below qt_sizes t_sizes qt_scales t_scales qt_parts t_parts qt_texts t_texts qt_lengths t_lengths t_end t_index t_flags t_twice t_width t_precision t_conversion t_broken qt_piece res.2 res.1 t_head qt_tens t_tens t_count t_exponent qt_work t_work)) ([.ref qt, .int a1, .int a2] : List Value).toArray s 0 0 (va_A (w_Model_clear G qt qt_draft t_draft t_drafted qt_result t_result t_length t_arguments qt_kinds t_kinds qt_values t_values qt_widths t_widths qt_below t_below qt_sizes t_sizes qt_scales t_scales qt_parts t_parts qt_texts t_texts qt_lengths t_lengths t_end t_index t_flags t_twice t_width t_precision t_conversion t_broken qt_piece t_piece t_put t_head qt_tens t_tens t_count t_exponent qt_work t_work) s.heap.size) = Q := ⟨_, rfl⟩
  show W p l e { frames := 1, cells := 0, slots := 0, locals := 40 } s m ([.ref qt, .int a1, .int a2] : List Value).toArray below meth c s.heap [] 0 0 (MQ below (QV G (va_A (w_Model_clear G qt qt_draft t_draft t_drafted qt_result t_result t_length t_arguments qt_kinds t_kinds qt_values t_values qt_widths t_widths qt_below t_below qt_sizes t_sizes qt_scales t_scales qt_parts t_parts qt_texts t_texts qt_lengths t_lengths t_end t_index t_flags t_twice t_width t_precision t_conversion t_broken qt_piece t_piece t_put t_head qt_tens t_tens t_count t_exponent qt_work t_work) s.heap.size) (w_Model_clear G qt qt_draft t_draft t_drafted qt_result t_result t_length t_arguments qt_kinds t_kinds qt_values t_values qt_widths t_widths qt_below t_below qt_sizes t_sizes qt_scales t_scales qt_parts t_parts qt_texts t_texts qt_lengths t_lengths t_end t_index t_flags t_twice t_width t_precision t_conversion t_broken qt_piece res.2 res.1 t_head qt_tens t_tens t_count t_exponent qt_work t_work)) ([.ref qt, .int a1, .int a2] : List Value).toArray s 0 0 (va_A (w_Model_clear G qt qt_draft t_draft t_drafted qt_result t_result t_length t_arguments qt_kinds t_kinds qt_values t_values qt_widths t_widths qt_below t_below qt_sizes t_sizes qt_scales t_scales qt_parts t_parts qt_texts t_texts qt_lengths t_lengths t_end t_index t_flags t_twice t_width t_precision t_conversion t_broken qt_piece t_piece t_put t_head qt_tens t_tens t_count t_exponent qt_work t_work) s.heap.size)) _
  rw [hQ]
  have hA : ∀ q : Nat, s.heap.size ≤ q → va_A (w_Model_clear G qt qt_draft t_draft t_drafted qt_result t_result t_length t_arguments qt_kinds t_kinds qt_values t_values qt_widths t_widths qt_below t_below qt_sizes t_sizes qt_scales t_scales qt_parts t_parts qt_texts t_texts qt_lengths t_lengths t_end t_index t_flags t_twice t_width t_precision t_conversion t_broken qt_piece t_piece t_put t_head qt_tens t_tens t_count t_exponent qt_work t_work) s.heap.size q := fun q h => Or.inr h
  obtain ⟨A, hAe⟩ : ∃ A, va_A (w_Model_clear G qt qt_draft t_draft t_drafted qt_result t_result t_length t_arguments qt_kinds t_kinds qt_values t_values qt_widths t_widths qt_below t_below qt_sizes t_sizes qt_scales t_scales qt_parts t_parts qt_texts t_texts qt_lengths t_lengths t_end t_index t_flags t_twice t_width t_precision t_conversion t_broken qt_piece t_piece t_put t_head qt_tens t_tens t_count t_exponent qt_work t_work) s.heap.size = A := ⟨_, rfl⟩
  rw [hAe] at hA hD hAb hQ
  have hS : va_S A s.heap s.heap [] := va_S.rf
  have hl := lv_entry (([.ref qt, .int a1, .int a2] : List Value)) (n := 3) (Nat.le_of_ble_eq_true rfl)
  rw [lg_entry_eq]
  generalize (lg_sl (([.ref qt, .int a1, .int a2] : List Value)) ++ List.replicate (3 - (lg_sl (([.ref qt, .int a1, .int a2] : List Value))).length) Slot.unset).toArray = ls at hl ⊢
  have hl : lv_has ls 3 [(0, .ref qt), (1, .int a1), (2, .int a2)] := hl
  unfold f_Model_group at hf
  refine lv_aload_n hx hb d_Model_group_0 rfl (lv_at hl 0 rfl) ?_
  refine lv_bipush (v := 32) hx hb d_Model_group_1 (by decide) ?_
  obtain ⟨u_3, hu_3, hf⟩ := bd_ hf
  refine CALLWz (va_runV (As := [.int (32 : Int32)]) (rest := []) ⟨hx, hb, hml, hown, hg⟩ (c_Model_has l G K qt qt_draft t_draft t_drafted qt_result t_result t_length t_arguments qt_kinds t_kinds qt_values t_values qt_widths t_widths qt_below t_below qt_sizes t_sizes qt_scales t_scales qt_parts t_parts qt_texts t_texts qt_lengths t_lengths t_end t_index t_flags t_twice t_width t_precision t_conversion t_broken qt_piece t_piece t_put t_head qt_tens t_tens t_count t_exponent qt_work t_work (32 : Int32) _ u_3  hu_3) (cwV 1 hg (gV m_449 m_450 m_451 m_389 m_452) rfl rfl rfl (by decide +kernel) ⟨Nat.le_of_ble_eq_true rfl, Nat.le_of_ble_eq_true rfl⟩) ⟨PC_b, va_recv hK hP (ci := 7) (q0 := 0) rfl rfl, PC_p hE hS hAb hP hD⟩ rfl rfl hl.1 rfl (lv_room (Nat.le_of_ble_eq_true rfl)) d_Model_group_3 ⟨Nat.zero_le _, Nat.zero_le _⟩) hP hD hS hA (fun bu_3 H locs hP hD hS => ?_)
  have hP : va_P (gD G) vwCl (w_Model_clear G qt qt_draft t_draft t_drafted qt_result t_result t_length t_arguments qt_kinds t_kinds qt_values t_values qt_widths t_widths qt_below t_below qt_sizes t_sizes qt_scales t_scales qt_parts t_parts qt_texts t_texts qt_lengths t_lengths t_end t_index t_flags t_twice t_width t_precision t_conversion t_broken qt_piece t_piece t_put t_head qt_tens t_tens t_count t_exponent qt_work t_work) H := hP
  have hD : va_D A (w_Model_clear G qt qt_draft t_draft t_drafted qt_result t_result t_length t_arguments qt_kinds t_kinds qt_values t_values qt_widths t_widths qt_below t_below qt_sizes t_sizes qt_scales t_scales qt_parts t_parts qt_texts t_texts qt_lengths t_lengths t_end t_index t_flags t_twice t_width t_precision t_conversion t_broken qt_piece t_piece t_put t_head qt_tens t_tens t_count t_exponent qt_work t_work) := hD
  refine lv_if_eq (tgt := 32) hx hb d_Model_group_6 (by decide) (fun c_6 => ?_) (fun c_6 => ?_)
  · have hf := ip_ c_6 hf
    obtain rfl := Option.some.inj hf
    rw [← hQ]
    exact W.vret hx hb hr (fun t9 ht hW => ⟨⟨(), rfl, trivial, ⟨by rw [ht]; exact hP, hD⟩⟩, hS.F ht⟩) hS.2.2 d_Model_group_32
  · have hf := in_ c_6 hf
    refine lv_iload_n hx hb d_Model_group_9 rfl (lv_at hl 1 rfl) ?_
    refine lv_iload_n hx hb d_Model_group_10 rfl (lv_at hl 2 rfl) ?_
    refine lv_iconst (v := 1) hx hb d_Model_group_11 (by decide) ?_
    refine lv_isub hx hb d_Model_group_12 ?_
    refine lv_icmp_ge (tgt := 32) hx hb d_Model_group_13 (by decide) (fun c_13 => ?_) (fun c_13 => ?_)
    · have hf := ip_ c_13 hf
      obtain rfl := Option.some.inj hf
      rw [← hQ]
      exact W.vret hx hb hr (fun t9 ht hW => ⟨⟨(), rfl, trivial, ⟨by rw [ht]; exact hP, hD⟩⟩, hS.F ht⟩) hS.2.2 d_Model_group_32
    · have hf := in_ c_13 hf
      refine lv_iload_n hx hb d_Model_group_16 rfl (lv_at hl 2 rfl) ?_
      refine lv_iconst (v := 1) hx hb d_Model_group_17 (by decide) ?_
      refine lv_isub hx hb d_Model_group_18 ?_
      refine lv_iload_n hx hb d_Model_group_19 rfl (lv_at hl 1 rfl) ?_
      refine lv_isub hx hb d_Model_group_20 ?_
      refine lv_iconst (v := 3) hx hb d_Model_group_21 (by decide) ?_
      refine lv_irem hx hb d_Model_group_22 (by decide) ?_
      refine lv_if_ne (tgt := 32) hx hb d_Model_group_23 (by decide) (fun c_23 => ?_) (fun c_23 => ?_)
      · have hf := in_ c_23 hf
        obtain rfl := Option.some.inj hf
        rw [← hQ]
        exact W.vret hx hb hr (fun t9 ht hW => ⟨⟨(), rfl, trivial, ⟨by rw [ht]; exact hP, hD⟩⟩, hS.F ht⟩) hS.2.2 d_Model_group_32
      · have hf := ip_ c_23 hf
        refine lv_aload_n hx hb d_Model_group_26 rfl (lv_at hl 0 rfl) ?_
        refine lv_bipush (v := 44) hx hb d_Model_group_27 (by decide) ?_
        obtain ⟨u_29, hu_29, hf⟩ := bd_ hf
        refine CALLWv (va_runV (As := [.int (44 : Int32)]) (rest := []) ⟨hx, hb, hml, hown, hg⟩ (c_Model_add l G K qt qt_draft t_draft t_drafted qt_result t_result t_length t_arguments qt_kinds t_kinds qt_values t_values qt_widths t_widths qt_below t_below qt_sizes t_sizes qt_scales t_scales qt_parts t_parts qt_texts t_texts qt_lengths t_lengths t_end t_index t_flags t_twice t_width t_precision t_conversion t_broken qt_piece t_piece t_put t_head qt_tens t_tens t_count t_exponent qt_work t_work (44 : Int32) _ u_29  hu_29) (cwV 1 hg (gV m_473 m_474 m_475 m_389 m_476) rfl rfl rfl (by decide +kernel) ⟨Nat.le_of_ble_eq_true rfl, Nat.le_of_ble_eq_true rfl⟩) ⟨PC_b, va_recv hK hP (ci := 7) (q0 := 0) rfl rfl, PC_p hE hS hAb hP hD⟩ rfl rfl hl.1 rfl (lv_room (Nat.le_of_ble_eq_true rfl)) d_Model_group_29 ⟨Nat.zero_le _, Nat.zero_le _⟩) hP hD hS hA (fun H locs hP hD hS => ?_)
        have hP : va_P (gD G) vwCl (w_Model_clear G qt qt_draft t_draft t_drafted qt_result t_result t_length t_arguments qt_kinds t_kinds qt_values t_values qt_widths t_widths qt_below t_below qt_sizes t_sizes qt_scales t_scales qt_parts t_parts qt_texts t_texts qt_lengths t_lengths t_end t_index t_flags t_twice t_width t_precision t_conversion t_broken qt_piece u_29.2 u_29.1 t_head qt_tens t_tens t_count t_exponent qt_work t_work) H := hP
        have hD : va_D A (w_Model_clear G qt qt_draft t_draft t_drafted qt_result t_result t_length t_arguments qt_kinds t_kinds qt_values t_values qt_widths t_widths qt_below t_below qt_sizes t_sizes qt_scales t_scales qt_parts t_parts qt_texts t_texts qt_lengths t_lengths t_end t_index t_flags t_twice t_width t_precision t_conversion t_broken qt_piece u_29.2 u_29.1 t_head qt_tens t_tens t_count t_exponent qt_work t_work) := hD
        obtain rfl := Option.some.inj hf
        rw [← hQ]
        exact W.vret hx hb hr (fun t9 ht hW => ⟨⟨(), rfl, trivial, ⟨by rw [ht]; exact hP, hD⟩⟩, hS.F ht⟩) hS.2.2 d_Model_group_32
theorem d_Model_begin_0 : decode cd_Model_begin 0 = .ok (.aload_n 0, 1) := by decide +kernel
theorem d_Model_begin_1 : decode cd_Model_begin 1 = .ok (.iconst 0, 1) := by decide +kernel
theorem d_Model_begin_2 : decode cd_Model_begin 2 = .ok (.putfield 161, 3) := by decide +kernel
theorem d_Model_begin_5 : decode cd_Model_begin 5 = .ok (.iload_n 1, 1) := by decide +kernel
theorem d_Model_begin_6 : decode cd_Model_begin 6 = .ok (.ifCond .eq 26, 3) := by decide +kernel
theorem d_Model_begin_9 : decode cd_Model_begin 9 = .ok (.aload_n 0, 1) := by decide +kernel
theorem d_Model_begin_10 : decode cd_Model_begin 10 = .ok (.aload_n 0, 1) := by decide +kernel
theorem d_Model_begin_11 : decode cd_Model_begin 11 = .ok (.bipush 64, 2) := by decide +kernel
theorem d_Model_begin_13 : decode cd_Model_begin 13 = .ok (.invokevirtual 137, 3) := by decide +kernel
theorem d_Model_begin_16 : decode cd_Model_begin 16 = .ok (.ifCond .eq 8, 3) := by decide +kernel
theorem d_Model_begin_19 : decode cd_Model_begin 19 = .ok (.bipush 40, 2) := by decide +kernel
theorem d_Model_begin_21 : decode cd_Model_begin 21 = .ok (.goto 5, 3) := by decide +kernel
theorem d_Model_begin_24 : decode cd_Model_begin 24 = .ok (.bipush 45, 2) := by decide +kernel
theorem d_Model_begin_26 : decode cd_Model_begin 26 = .ok (.invokevirtual 164, 3) := by decide +kernel
theorem d_Model_begin_29 : decode cd_Model_begin 29 = .ok (.goto 35, 3) := by decide +kernel
theorem d_Model_begin_32 : decode cd_Model_begin 32 = .ok (.aload_n 0, 1) := by decide +kernel
theorem d_Model_begin_33 : decode cd_Model_begin 33 = .ok (.iconst 4, 1) := by decide +kernel
theorem d_Model_begin_34 : decode cd_Model_begin 34 = .ok (.invokevirtual 137, 3) := by decide +kernel
theorem d_Model_begin_37 : decode cd_Model_begin 37 = .ok (.ifCond .eq 12, 3) := by decide +kernel
theorem d_Model_begin_40 : decode cd_Model_begin 40 = .ok (.aload_n 0, 1) := by decide +kernel
theorem d_Model_begin_41 : decode cd_Model_begin 41 = .ok (.bipush 43, 2) := by decide +kernel
theorem d_Model_begin_43 : decode cd_Model_begin 43 = .ok (.invokevirtual 164, 3) := by decide +kernel
theorem d_Model_begin_46 : decode cd_Model_begin 46 = .ok (.goto 18, 3) := by decide +kernel
theorem d_Model_begin_49 : decode cd_Model_begin 49 = .ok (.aload_n 0, 1) := by decide +kernel
theorem d_Model_begin_50 : decode cd_Model_begin 50 = .ok (.bipush 8, 2) := by decide +kernel
theorem d_Model_begin_52 : decode cd_Model_begin 52 = .ok (.invokevirtual 137, 3) := by decide +kernel
theorem d_Model_begin_55 : decode cd_Model_begin 55 = .ok (.ifCond .eq 9, 3) := by decide +kernel
theorem d_Model_begin_58 : decode cd_Model_begin 58 = .ok (.aload_n 0, 1) := by decide +kernel
theorem d_Model_begin_59 : decode cd_Model_begin 59 = .ok (.bipush 32, 2) := by decide +kernel
theorem d_Model_begin_61 : decode cd_Model_begin 61 = .ok (.invokevirtual 164, 3) := by decide +kernel
theorem d_Model_begin_64 : decode cd_Model_begin 64 = .ok (.aload_n 0, 1) := by decide +kernel
theorem d_Model_begin_65 : decode cd_Model_begin 65 = .ok (.aload_n 0, 1) := by decide +kernel
theorem d_Model_begin_66 : decode cd_Model_begin 66 = .ok (.getfield 161, 3) := by decide +kernel
theorem d_Model_begin_69 : decode cd_Model_begin 69 = .ok (.putfield 171, 3) := by decide +kernel
theorem d_Model_begin_72 : decode cd_Model_begin 72 = .ok (.return_, 1) := by decide +kernel
theorem m_481 : Cond.fieldLink R_Model 171 "SpecifierDeskModel" "head" "I" ∈ gw := gm (i := 884) (by decide +kernel) (by decide +kernel)
def k_Model_begin_64  (t_put : Int32) (t_head : Int32) (t_piece : (Nat → Int32)) : Option (Int32 × Int32 × (Nat → Int32)) :=
  some (t_put, t_put, t_piece)
def k_Model_begin_26  (k1 : Int32) (t_put : Int32) (t_head : Int32) (t_piece : (Nat → Int32)) : Option (Int32 × Int32 × (Nat → Int32)) :=
  ((f_Model_add t_piece t_put k1).bind fun u_26 => k_Model_begin_64  u_26.1 t_head u_26.2)
def f_Model_begin (t_flags : Int32) (t_piece : Nat → Int32) (t_head : Int32) (a1 : Int32) : Option (Int32 × Int32 × (Nat → Int32)) :=
  (if a1 = 0 then ((f_Model_has t_flags (4 : Int32)).bind fun u_34 => (if u_34 = 0 then ((f_Model_has t_flags (8 : Int32)).bind fun u_52 => (if u_52 = 0 then k_Model_begin_64  (0 : Int32) t_head t_piece else ((f_Model_add t_piece (0 : Int32) (32 : Int32)).bind fun u_61 => k_Model_begin_64  u_61.1 t_head u_61.2))) else ((f_Model_add t_piece (0 : Int32) (43 : Int32)).bind fun u_43 => k_Model_begin_64  u_43.1 t_head u_43.2))) else ((f_Model_has t_flags (64 : Int32)).bind fun u_13 => (if u_13 = 0 then k_Model_begin_26  (45 : Int32) (0 : Int32) t_head t_piece else k_Model_begin_26  (40 : Int32) (0 : Int32) t_head t_piece)))
set_option maxHeartbeats 4000000 in
set_option maxRecDepth 100000 in
theorem c_Model_begin (l : Launch) (G : Gt) (K : Nat) (qt : Nat) (qt_draft : Nat) (t_draft : Nat → Int32) (t_drafted : Int32) (qt_result : Nat) (t_result : Nat → Int32) (t_length : Int32) (t_arguments : Int32) (qt_kinds : Nat) (t_kinds : Nat → Int32) (qt_values : Nat) (t_values : Nat → Int64) (qt_widths : Nat) (t_widths : Nat → Int32) (qt_below : Nat) (t_below : Nat → Int32) (qt_sizes : Nat) (t_sizes : Nat → Int32) (qt_scales : Nat) (t_scales : Nat → Int32) (qt_parts : Nat) (t_parts : Nat → Int64) (qt_texts : Nat) (t_texts : Nat → Int32) (qt_lengths : Nat) (t_lengths : Nat → Int32) (t_end : Int32) (t_index : Int32) (t_flags : Int32) (t_twice : Int32) (t_width : Int32) (t_precision : Int32) (t_conversion : Int32) (t_broken : Int32) (qt_piece : Nat) (t_piece : Nat → Int32) (t_put : Int32) (t_head : Int32) (qt_tens : Nat) (t_tens : Nat → Int32) (t_count : Int32) (t_exponent : Int32) (qt_work : Nat) (t_work : Nat → Int32) (a1 : Int32) (sz : Nat) (res : Int32 × Int32 × (Nat → Int32)) (hb_a1 : bl a1)  (hf : f_Model_begin t_flags t_piece t_head a1 = some res) : Met l y_Model_begin (.code y_Model_begin cd_Model_begin 2 none :: gw) { frames := 1, cells := 0, slots := 0, locals := 40 } (PC G ([.ref qt, .int a1] : List Value) sz (w_Model_clear G qt qt_draft t_draft t_drafted qt_result t_result t_length t_arguments qt_kinds t_kinds qt_values t_values qt_widths t_widths qt_below t_below qt_sizes t_sizes qt_scales t_scales qt_parts t_parts qt_texts t_texts qt_lengths t_lengths t_end t_index t_flags t_twice t_width t_precision t_conversion t_broken qt_piece t_piece t_put t_head qt_tens t_tens t_count t_exponent qt_work t_work)) (QV G (va_A (w_Model_clear G qt qt_draft t_draft t_drafted qt_result t_result t_length t_arguments qt_kinds t_kinds qt_values t_values qt_widths t_widths qt_below t_below qt_sizes t_sizes qt_scales t_scales qt_parts t_parts qt_texts t_texts qt_lengths t_lengths t_end t_index t_flags t_twice t_width t_precision t_conversion t_broken qt_piece t_piece t_put t_head qt_tens t_tens t_count t_exponent qt_work t_work) sz) (w_Model_clear G qt qt_draft t_draft t_drafted qt_result t_result t_length t_arguments qt_kinds t_kinds qt_values t_values qt_widths t_widths qt_below t_below qt_sizes t_sizes qt_scales t_scales qt_parts t_parts qt_texts t_texts qt_lengths t_lengths t_end t_index t_flags t_twice t_width t_precision t_conversion t_broken qt_piece res.2.2 res.1 res.2.1 qt_tens t_tens t_count t_exponent qt_work t_work)) 0 0 (va_A (w_Model_clear G qt qt_draft t_draft t_drafted qt_result t_result t_length t_arguments qt_kinds t_kinds qt_values t_values qt_widths t_widths qt_below t_below qt_sizes t_sizes qt_scales t_scales qt_parts t_parts qt_texts t_texts qt_lengths t_lengths t_end t_index t_flags t_twice t_width t_precision t_conversion t_broken qt_piece t_piece t_put t_head qt_tens t_tens t_count t_exponent qt_work t_work) sz) := by
  refine Met.ofW (cc := cd_Model_begin) (maxL := 2) (ret := none) (by decide) rfl ?_
  intro p e s m args below meth c s₁ B hml hv
  obtain ⟨rfl, hsz, hP, hE, hD0⟩ := hv
  have hx := B.exec
  have hb := B.bytes
  have hr := B.returns
  have hts := atoms_spec (ws := (.code y_Model_begin cd_Model_begin 2 none :: gw)) B.pre
  have hg : ∀ w ∈ gw, w.before _ s = true := fun w h => hts w (List.mem_cons_of_mem _ h)
  have hown : s.vm.findClass R_Model = some m.cls := findClass_of_methodNamed B.named
  have hlocks := B.notSynchronized
  subst hsz
  have hK := hE.K
  have hD := hD0.self (sz := s.heap.size)
  have hAb := hE.ab hD0
  obtain ⟨Q, hQ⟩ : ∃ Q, MQ below (QV G (va_A (w_Model_clear G qt qt_draft t_draft t_drafted qt_result t_result t_length t_arguments qt_kinds t_kinds qt_values t_values qt_widths t_widths qt_below t_below qt_sizes t_sizes qt_scales t_scales qt_parts t_parts qt_texts t_texts qt_lengths t_lengths t_end t_index t_flags t_twice t_width t_precision t_conversion t_broken qt_piece t_piece t_put t_head qt_tens t_tens t_count t_exponent qt_work t_work) s.heap.size) (w_Model_clear G qt qt_draft t_draft t_drafted qt_result t_result t_length t_arguments qt_kinds t_kinds qt_values t_values qt_widths t_widths qt_below t_below qt_sizes t_sizes qt_scales t_scales qt_parts t_parts qt_texts t_texts qt_lengths t_lengths t_end t_index t_flags t_twice t_width t_precision t_conversion t_broken qt_piece res.2.2 res.1 res.2.1 qt_tens t_tens t_count t_exponent qt_work t_work)) ([.ref qt, .int a1] : List Value).toArray s 0 0 (va_A (w_Model_clear G qt qt_draft t_draft t_drafted qt_result t_result t_length t_arguments qt_kinds t_kinds qt_values t_values qt_widths t_widths qt_below t_below qt_sizes t_sizes qt_scales t_scales qt_parts t_parts qt_texts t_texts qt_lengths t_lengths t_end t_index t_flags t_twice t_width t_precision t_conversion t_broken qt_piece t_piece t_put t_head qt_tens t_tens t_count t_exponent qt_work t_work) s.heap.size) = Q := ⟨_, rfl⟩
  show W p l e { frames := 1, cells := 0, slots := 0, locals := 40 } s m ([.ref qt, .int a1] : List Value).toArray below meth c s.heap [] 0 0 (MQ below (QV G (va_A (w_Model_clear G qt qt_draft t_draft t_drafted qt_result t_result t_length t_arguments qt_kinds t_kinds qt_values t_values qt_widths t_widths qt_below t_below qt_sizes t_sizes qt_scales t_scales qt_parts t_parts qt_texts t_texts qt_lengths t_lengths t_end t_index t_flags t_twice t_width t_precision t_conversion t_broken qt_piece t_piece t_put t_head qt_tens t_tens t_count t_exponent qt_work t_work) s.heap.size) (w_Model_clear G qt qt_draft t_draft t_drafted qt_result t_result t_length t_arguments qt_kinds t_kinds qt_values t_values qt_widths t_widths qt_below t_below qt_sizes t_sizes qt_scales t_scales qt_parts t_parts qt_texts t_texts qt_lengths t_lengths t_end t_index t_flags t_twice t_width t_precision t_conversion t_broken qt_piece res.2.2 res.1 res.2.1 qt_tens t_tens t_count t_exponent qt_work t_work)) ([.ref qt, .int a1] : List Value).toArray s 0 0 (va_A (w_Model_clear G qt qt_draft t_draft t_drafted qt_result t_result t_length t_arguments qt_kinds t_kinds qt_values t_values qt_widths t_widths qt_below t_below qt_sizes t_sizes qt_scales t_scales qt_parts t_parts qt_texts t_texts qt_lengths t_lengths t_end t_index t_flags t_twice t_width t_precision t_conversion t_broken qt_piece t_piece t_put t_head qt_tens t_tens t_count t_exponent qt_work t_work) s.heap.size)) _
  rw [hQ]
  have hA : ∀ q : Nat, s.heap.size ≤ q → va_A (w_Model_clear G qt qt_draft t_draft t_drafted qt_result t_result t_length t_arguments qt_kinds t_kinds qt_values t_values qt_widths t_widths qt_below t_below qt_sizes t_sizes qt_scales t_scales qt_parts t_parts qt_texts t_texts qt_lengths t_lengths t_end t_index t_flags t_twice t_width t_precision t_conversion t_broken qt_piece t_piece t_put t_head qt_tens t_tens t_count t_exponent qt_work t_work) s.heap.size q := fun q h => Or.inr h
  obtain ⟨A, hAe⟩ : ∃ A, va_A (w_Model_clear G qt qt_draft t_draft t_drafted qt_result t_result t_length t_arguments qt_kinds t_kinds qt_values t_values qt_widths t_widths qt_below t_below qt_sizes t_sizes qt_scales t_scales qt_parts t_parts qt_texts t_texts qt_lengths t_lengths t_end t_index t_flags t_twice t_width t_precision t_conversion t_broken qt_piece t_piece t_put t_head qt_tens t_tens t_count t_exponent qt_work t_work) s.heap.size = A := ⟨_, rfl⟩
  rw [hAe] at hA hD hAb hQ
  have hS : va_S A s.heap s.heap [] := va_S.rf
  have hl := lv_entry (([.ref qt, .int a1] : List Value)) (n := 2) (Nat.le_of_ble_eq_true rfl)
  rw [lg_entry_eq]
  generalize (lg_sl (([.ref qt, .int a1] : List Value)) ++ List.replicate (2 - (lg_sl (([.ref qt, .int a1] : List Value))).length) Slot.unset).toArray = ls at hl ⊢
  have hl : lv_has ls 2 [(0, .ref qt), (1, .int a1)] := hl
  have W_64 : ∀ (t_put : Int32) (t_head : Int32) (t_piece : (Nat → Int32)) , k_Model_begin_64  t_put t_head t_piece = some res → ∀ (H : Heap) (locs : List Loc) (ls : Array Slot), va_P (gD G) vwCl (w_Model_clear G qt qt_draft t_draft t_drafted qt_result t_result t_length t_arguments qt_kinds t_kinds qt_values t_values qt_widths t_widths qt_below t_below qt_sizes t_sizes qt_scales t_scales qt_parts t_parts qt_texts t_texts qt_lengths t_lengths t_end t_index t_flags t_twice t_width t_precision t_conversion t_broken qt_piece t_piece t_put t_head qt_tens t_tens t_count t_exponent qt_work t_work) H → va_D A (w_Model_clear G qt qt_draft t_draft t_drafted qt_result t_result t_length t_arguments qt_kinds t_kinds qt_values t_values qt_widths t_widths qt_below t_below qt_sizes t_sizes qt_scales t_scales qt_parts t_parts qt_texts t_texts qt_lengths t_lengths t_end t_index t_flags t_twice t_width t_precision t_conversion t_broken qt_piece t_piece t_put t_head qt_tens t_tens t_count t_exponent qt_work t_work) → va_S A s.heap H locs → lv_has ls 2 [(0, .ref qt)] → W p l e { frames := 1, cells := 0, slots := 0, locals := 40 } s m ([.ref qt, .int a1] : List Value).toArray below meth c H locs 0 0 Q (F0 m 64 ls []) := by
    intro t_put t_head t_piece  hf H locs ls hP hD hS hl
    unfold k_Model_begin_64 at hf
    refine lv_aload_n hx hb d_Model_begin_64 rfl (lv_at hl 0 rfl) ?_
    refine lv_aload_n hx hb d_Model_begin_65 rfl (lv_at hl 0 rfl) ?_
    refine va_get (D := gD G) (ci := 7) (v := .int t_put) (C := R_Model) (T := F_Model) (N := 29) hx hb hg in_Model hown hK hP 0 rfl rfl 23 (by decide) (hg _ m_472) (fun _ h9 => h9) rfl d_Model_begin_66 ?_
    refine va_put (D := gD G) (ci := 7) (v := .int t_put) (ty := .int) (C := R_Model) (T := F_Model) (N := 29) hx hb hg in_Model t_Model to_Model no_Model hown hK hP hD hS 0 rfl rfl 24 (by decide) (hg _ m_481) (fun _ h9 => h9) rfl (by decide +kernel) rfl rfl (Nat.le_of_ble_eq_true rfl) d_Model_begin_69 (fun H locs hP hD hS => ?_)
    have hP : va_P (gD G) vwCl (w_Model_clear G qt qt_draft t_draft t_drafted qt_result t_result t_length t_arguments qt_kinds t_kinds qt_values t_values qt_widths t_widths qt_below t_below qt_sizes t_sizes qt_scales t_scales qt_parts t_parts qt_texts t_texts qt_lengths t_lengths t_end t_index t_flags t_twice t_width t_precision t_conversion t_broken qt_piece t_piece t_put t_put qt_tens t_tens t_count t_exponent qt_work t_work) H := hP
    have hD : va_D A (w_Model_clear G qt qt_draft t_draft t_drafted qt_result t_result t_length t_arguments qt_kinds t_kinds qt_values t_values qt_widths t_widths qt_below t_below qt_sizes t_sizes qt_scales t_scales qt_parts t_parts qt_texts t_texts qt_lengths t_lengths t_end t_index t_flags t_twice t_width t_precision t_conversion t_broken qt_piece t_piece t_put t_put qt_tens t_tens t_count t_exponent qt_work t_work) := hD
    obtain rfl := Option.some.inj hf
    rw [← hQ]
    exact W.vret hx hb hr (fun t9 ht hW => ⟨⟨(), rfl, trivial, ⟨by rw [ht]; exact hP, hD⟩⟩, hS.F ht⟩) hS.2.2 d_Model_begin_72
  have W_26 : ∀ (k1 : Int32) (t_put : Int32) (t_head : Int32) (t_piece : (Nat → Int32)) , k_Model_begin_26  k1 t_put t_head t_piece = some res → ∀ (H : Heap) (locs : List Loc) (ls : Array Slot), va_P (gD G) vwCl (w_Model_clear G qt qt_draft t_draft t_drafted qt_result t_result t_length t_arguments qt_kinds t_kinds qt_values t_values qt_widths t_widths qt_below t_below qt_sizes t_sizes qt_scales t_scales qt_parts t_parts qt_texts t_texts qt_lengths t_lengths t_end t_index t_flags t_twice t_width t_precision t_conversion t_broken qt_piece t_piece t_put t_head qt_tens t_tens t_count t_exponent qt_work t_work) H → va_D A (w_Model_clear G qt qt_draft t_draft t_drafted qt_result t_result t_length t_arguments qt_kinds t_kinds qt_values t_values qt_widths t_widths qt_below t_below qt_sizes t_sizes qt_scales t_scales qt_parts t_parts qt_texts t_texts qt_lengths t_lengths t_end t_index t_flags t_twice t_width t_precision t_conversion t_broken qt_piece t_piece t_put t_head qt_tens t_tens t_count t_exponent qt_work t_work) → va_S A s.heap H locs → lv_has ls 2 [(0, .ref qt)] → W p l e { frames := 1, cells := 0, slots := 0, locals := 40 } s m ([.ref qt, .int a1] : List Value).toArray below meth c H locs 0 0 Q (F0 m 26 ls [.int k1, .ref qt]) := by
    intro k1 t_put t_head t_piece  hf H locs ls hP hD hS hl
    unfold k_Model_begin_26 at hf
    obtain ⟨u_26, hu_26, hf⟩ := bd_ hf
    refine CALLWv (va_runV (As := [.int k1]) (rest := []) ⟨hx, hb, hml, hown, hg⟩ (c_Model_add l G K qt qt_draft t_draft t_drafted qt_result t_result t_length t_arguments qt_kinds t_kinds qt_values t_values qt_widths t_widths qt_below t_below qt_sizes t_sizes qt_scales t_scales qt_parts t_parts qt_texts t_texts qt_lengths t_lengths t_end t_index t_flags t_twice t_width t_precision t_conversion t_broken qt_piece t_piece t_put t_head qt_tens t_tens t_count t_exponent qt_work t_work k1 _ u_26  hu_26) (cwV 1 hg (gV m_473 m_474 m_475 m_389 m_476) rfl rfl rfl (by decide +kernel) ⟨Nat.le_of_ble_eq_true rfl, Nat.le_of_ble_eq_true rfl⟩) ⟨PC_b, va_recv hK hP (ci := 7) (q0 := 0) rfl rfl, PC_p hE hS hAb hP hD⟩ rfl rfl hl.1 rfl (lv_room (Nat.le_of_ble_eq_true rfl)) d_Model_begin_26 ⟨Nat.zero_le _, Nat.zero_le _⟩) hP hD hS hA (fun H locs hP hD hS => ?_)
    have hP : va_P (gD G) vwCl (w_Model_clear G qt qt_draft t_draft t_drafted qt_result t_result t_length t_arguments qt_kinds t_kinds qt_values t_values qt_widths t_widths qt_below t_below qt_sizes t_sizes qt_scales t_scales qt_parts t_parts qt_texts t_texts qt_lengths t_lengths t_end t_index t_flags t_twice t_width t_precision t_conversion t_broken qt_piece u_26.2 u_26.1 t_head qt_tens t_tens t_count t_exponent qt_work t_work) H := hP
    have hD : va_D A (w_Model_clear G qt qt_draft t_draft t_drafted qt_result t_result t_length t_arguments qt_kinds t_kinds qt_values t_values qt_widths t_widths qt_below t_below qt_sizes t_sizes qt_scales t_scales qt_parts t_parts qt_texts t_texts qt_lengths t_lengths t_end t_index t_flags t_twice t_width t_precision t_conversion t_broken qt_piece u_26.2 u_26.1 t_head qt_tens t_tens t_count t_exponent qt_work t_work) := hD
    refine lv_goto (tgt := 64) hx hb d_Model_begin_29 (by decide) ?_
    exact W_64 u_26.1 t_head u_26.2  hf _ _ _ hP hD hS (lv_sub hl [0] rfl)
  unfold f_Model_begin at hf
  refine lv_aload_n hx hb d_Model_begin_0 rfl (lv_at hl 0 rfl) ?_
  refine lv_iconst (v := 0) hx hb d_Model_begin_1 (by decide) ?_
  refine va_put (D := gD G) (ci := 7) (v := .int (0 : Int32)) (ty := .int) (C := R_Model) (T := F_Model) (N := 29) hx hb hg in_Model t_Model to_Model no_Model hown hK hP hD hS 0 rfl rfl 23 (by decide) (hg _ m_472) (fun _ h9 => h9) rfl (by decide +kernel) rfl rfl (Nat.le_of_ble_eq_true rfl) d_Model_begin_2 (fun H locs hP hD hS => ?_)
  have hP : va_P (gD G) vwCl (w_Model_clear G qt qt_draft t_draft t_drafted qt_result t_result t_length t_arguments qt_kinds t_kinds qt_values t_values qt_widths t_widths qt_below t_below qt_sizes t_sizes qt_scales t_scales qt_parts t_parts qt_texts t_texts qt_lengths t_lengths t_end t_index t_flags t_twice t_width t_precision t_conversion t_broken qt_piece t_piece (0 : Int32) t_head qt_tens t_tens t_count t_exponent qt_work t_work) H := hP
  have hD : va_D A (w_Model_clear G qt qt_draft t_draft t_drafted qt_result t_result t_length t_arguments qt_kinds t_kinds qt_values t_values qt_widths t_widths qt_below t_below qt_sizes t_sizes qt_scales t_scales qt_parts t_parts qt_texts t_texts qt_lengths t_lengths t_end t_index t_flags t_twice t_width t_precision t_conversion t_broken qt_piece t_piece (0 : Int32) t_head qt_tens t_tens t_count t_exponent qt_work t_work) := hD
  refine lv_iload_n hx hb d_Model_begin_5 rfl (lv_at hl 1 rfl) ?_
  refine lv_if_eq (tgt := 32) hx hb d_Model_begin_6 (by decide) (fun c_6 => ?_) (fun c_6 => ?_)
  · have hf := ip_ c_6 hf
    refine lv_aload_n hx hb d_Model_begin_32 rfl (lv_at hl 0 rfl) ?_
    refine lv_iconst (v := 4) hx hb d_Model_begin_33 (by decide) ?_
    obtain ⟨u_34, hu_34, hf⟩ := bd_ hf
    refine CALLWz (va_runV (As := [.int (4 : Int32)]) (rest := []) ⟨hx, hb, hml, hown, hg⟩ (c_Model_has l G K qt qt_draft t_draft t_drafted qt_result t_result t_length t_arguments qt_kinds t_kinds qt_values t_values qt_widths t_widths qt_below t_below qt_sizes t_sizes qt_scales t_scales qt_parts t_parts qt_texts t_texts qt_lengths t_lengths t_end t_index t_flags t_twice t_width t_precision t_conversion t_broken qt_piece t_piece (0 : Int32) t_head qt_tens t_tens t_count t_exponent qt_work t_work (4 : Int32) _ u_34  hu_34) (cwV 1 hg (gV m_449 m_450 m_451 m_389 m_452) rfl rfl rfl (by decide +kernel) ⟨Nat.le_of_ble_eq_true rfl, Nat.le_of_ble_eq_true rfl⟩) ⟨PC_b, va_recv hK hP (ci := 7) (q0 := 0) rfl rfl, PC_p hE hS hAb hP hD⟩ rfl rfl hl.1 rfl (lv_room (Nat.le_of_ble_eq_true rfl)) d_Model_begin_34 ⟨Nat.zero_le _, Nat.zero_le _⟩) hP hD hS hA (fun bu_34 H locs hP hD hS => ?_)
    have hP : va_P (gD G) vwCl (w_Model_clear G qt qt_draft t_draft t_drafted qt_result t_result t_length t_arguments qt_kinds t_kinds qt_values t_values qt_widths t_widths qt_below t_below qt_sizes t_sizes qt_scales t_scales qt_parts t_parts qt_texts t_texts qt_lengths t_lengths t_end t_index t_flags t_twice t_width t_precision t_conversion t_broken qt_piece t_piece (0 : Int32) t_head qt_tens t_tens t_count t_exponent qt_work t_work) H := hP
    have hD : va_D A (w_Model_clear G qt qt_draft t_draft t_drafted qt_result t_result t_length t_arguments qt_kinds t_kinds qt_values t_values qt_widths t_widths qt_below t_below qt_sizes t_sizes qt_scales t_scales qt_parts t_parts qt_texts t_texts qt_lengths t_lengths t_end t_index t_flags t_twice t_width t_precision t_conversion t_broken qt_piece t_piece (0 : Int32) t_head qt_tens t_tens t_count t_exponent qt_work t_work) := hD
    refine lv_if_eq (tgt := 49) hx hb d_Model_begin_37 (by decide) (fun c_37 => ?_) (fun c_37 => ?_)
    · have hf := ip_ c_37 hf
      refine lv_aload_n hx hb d_Model_begin_49 rfl (lv_at hl 0 rfl) ?_
      refine lv_bipush (v := 8) hx hb d_Model_begin_50 (by decide) ?_
      obtain ⟨u_52, hu_52, hf⟩ := bd_ hf
      refine CALLWz (va_runV (As := [.int (8 : Int32)]) (rest := []) ⟨hx, hb, hml, hown, hg⟩ (c_Model_has l G K qt qt_draft t_draft t_drafted qt_result t_result t_length t_arguments qt_kinds t_kinds qt_values t_values qt_widths t_widths qt_below t_below qt_sizes t_sizes qt_scales t_scales qt_parts t_parts qt_texts t_texts qt_lengths t_lengths t_end t_index t_flags t_twice t_width t_precision t_conversion t_broken qt_piece t_piece (0 : Int32) t_head qt_tens t_tens t_count t_exponent qt_work t_work (8 : Int32) _ u_52  hu_52) (cwV 1 hg (gV m_449 m_450 m_451 m_389 m_452) rfl rfl rfl (by decide +kernel) ⟨Nat.le_of_ble_eq_true rfl, Nat.le_of_ble_eq_true rfl⟩) ⟨PC_b, va_recv hK hP (ci := 7) (q0 := 0) rfl rfl, PC_p hE hS hAb hP hD⟩ rfl rfl hl.1 rfl (lv_room (Nat.le_of_ble_eq_true rfl)) d_Model_begin_52 ⟨Nat.zero_le _, Nat.zero_le _⟩) hP hD hS hA (fun bu_52 H locs hP hD hS => ?_)
      have hP : va_P (gD G) vwCl (w_Model_clear G qt qt_draft t_draft t_drafted qt_result t_result t_length t_arguments qt_kinds t_kinds qt_values t_values qt_widths t_widths qt_below t_below qt_sizes t_sizes qt_scales t_scales qt_parts t_parts qt_texts t_texts qt_lengths t_lengths t_end t_index t_flags t_twice t_width t_precision t_conversion t_broken qt_piece t_piece (0 : Int32) t_head qt_tens t_tens t_count t_exponent qt_work t_work) H := hP
      have hD : va_D A (w_Model_clear G qt qt_draft t_draft t_drafted qt_result t_result t_length t_arguments qt_kinds t_kinds qt_values t_values qt_widths t_widths qt_below t_below qt_sizes t_sizes qt_scales t_scales qt_parts t_parts qt_texts t_texts qt_lengths t_lengths t_end t_index t_flags t_twice t_width t_precision t_conversion t_broken qt_piece t_piece (0 : Int32) t_head qt_tens t_tens t_count t_exponent qt_work t_work) := hD
      refine lv_if_eq (tgt := 64) hx hb d_Model_begin_55 (by decide) (fun c_55 => ?_) (fun c_55 => ?_)
      · have hf := ip_ c_55 hf
        exact W_64 (0 : Int32) t_head t_piece  hf _ _ _ hP hD hS (lv_sub hl [0] rfl)
      · have hf := in_ c_55 hf
        refine lv_aload_n hx hb d_Model_begin_58 rfl (lv_at hl 0 rfl) ?_
        refine lv_bipush (v := 32) hx hb d_Model_begin_59 (by decide) ?_
        obtain ⟨u_61, hu_61, hf⟩ := bd_ hf
        refine CALLWv (va_runV (As := [.int (32 : Int32)]) (rest := []) ⟨hx, hb, hml, hown, hg⟩ (c_Model_add l G K qt qt_draft t_draft t_drafted qt_result t_result t_length t_arguments qt_kinds t_kinds qt_values t_values qt_widths t_widths qt_below t_below qt_sizes t_sizes qt_scales t_scales qt_parts t_parts qt_texts t_texts qt_lengths t_lengths t_end t_index t_flags t_twice t_width t_precision t_conversion t_broken qt_piece t_piece (0 : Int32) t_head qt_tens t_tens t_count t_exponent qt_work t_work (32 : Int32) _ u_61  hu_61) (cwV 1 hg (gV m_473 m_474 m_475 m_389 m_476) rfl rfl rfl (by decide +kernel) ⟨Nat.le_of_ble_eq_true rfl, Nat.le_of_ble_eq_true rfl⟩) ⟨PC_b, va_recv hK hP (ci := 7) (q0 := 0) rfl rfl, PC_p hE hS hAb hP hD⟩ rfl rfl hl.1 rfl (lv_room (Nat.le_of_ble_eq_true rfl)) d_Model_begin_61 ⟨Nat.zero_le _, Nat.zero_le _⟩) hP hD hS hA (fun H locs hP hD hS => ?_)
        have hP : va_P (gD G) vwCl (w_Model_clear G qt qt_draft t_draft t_drafted qt_result t_result t_length t_arguments qt_kinds t_kinds qt_values t_values qt_widths t_widths qt_below t_below qt_sizes t_sizes qt_scales t_scales qt_parts t_parts qt_texts t_texts qt_lengths t_lengths t_end t_index t_flags t_twice t_width t_precision t_conversion t_broken qt_piece u_61.2 u_61.1 t_head qt_tens t_tens t_count t_exponent qt_work t_work) H := hP
        have hD : va_D A (w_Model_clear G qt qt_draft t_draft t_drafted qt_result t_result t_length t_arguments qt_kinds t_kinds qt_values t_values qt_widths t_widths qt_below t_below qt_sizes t_sizes qt_scales t_scales qt_parts t_parts qt_texts t_texts qt_lengths t_lengths t_end t_index t_flags t_twice t_width t_precision t_conversion t_broken qt_piece u_61.2 u_61.1 t_head qt_tens t_tens t_count t_exponent qt_work t_work) := hD
        exact W_64 u_61.1 t_head u_61.2  hf _ _ _ hP hD hS (lv_sub hl [0] rfl)
    · have hf := in_ c_37 hf
      refine lv_aload_n hx hb d_Model_begin_40 rfl (lv_at hl 0 rfl) ?_
      refine lv_bipush (v := 43) hx hb d_Model_begin_41 (by decide) ?_
      obtain ⟨u_43, hu_43, hf⟩ := bd_ hf
      refine CALLWv (va_runV (As := [.int (43 : Int32)]) (rest := []) ⟨hx, hb, hml, hown, hg⟩ (c_Model_add l G K qt qt_draft t_draft t_drafted qt_result t_result t_length t_arguments qt_kinds t_kinds qt_values t_values qt_widths t_widths qt_below t_below qt_sizes t_sizes qt_scales t_scales qt_parts t_parts qt_texts t_texts qt_lengths t_lengths t_end t_index t_flags t_twice t_width t_precision t_conversion t_broken qt_piece t_piece (0 : Int32) t_head qt_tens t_tens t_count t_exponent qt_work t_work (43 : Int32) _ u_43  hu_43) (cwV 1 hg (gV m_473 m_474 m_475 m_389 m_476) rfl rfl rfl (by decide +kernel) ⟨Nat.le_of_ble_eq_true rfl, Nat.le_of_ble_eq_true rfl⟩) ⟨PC_b, va_recv hK hP (ci := 7) (q0 := 0) rfl rfl, PC_p hE hS hAb hP hD⟩ rfl rfl hl.1 rfl (lv_room (Nat.le_of_ble_eq_true rfl)) d_Model_begin_43 ⟨Nat.zero_le _, Nat.zero_le _⟩) hP hD hS hA (fun H locs hP hD hS => ?_)
      have hP : va_P (gD G) vwCl (w_Model_clear G qt qt_draft t_draft t_drafted qt_result t_result t_length t_arguments qt_kinds t_kinds qt_values t_values qt_widths t_widths qt_below t_below qt_sizes t_sizes qt_scales t_scales qt_parts t_parts qt_texts t_texts qt_lengths t_lengths t_end t_index t_flags t_twice t_width t_precision t_conversion t_broken qt_piece u_43.2 u_43.1 t_head qt_tens t_tens t_count t_exponent qt_work t_work) H := hP
      have hD : va_D A (w_Model_clear G qt qt_draft t_draft t_drafted qt_result t_result t_length t_arguments qt_kinds t_kinds qt_values t_values qt_widths t_widths qt_below t_below qt_sizes t_sizes qt_scales t_scales qt_parts t_parts qt_texts t_texts qt_lengths t_lengths t_end t_index t_flags t_twice t_width t_precision t_conversion t_broken qt_piece u_43.2 u_43.1 t_head qt_tens t_tens t_count t_exponent qt_work t_work) := hD
      refine lv_goto (tgt := 64) hx hb d_Model_begin_46 (by decide) ?_
      exact W_64 u_43.1 t_head u_43.2  hf _ _ _ hP hD hS (lv_sub hl [0] rfl)
  · have hf := in_ c_6 hf
    refine lv_aload_n hx hb d_Model_begin_9 rfl (lv_at hl 0 rfl) ?_
    refine lv_aload_n hx hb d_Model_begin_10 rfl (lv_at hl 0 rfl) ?_
    refine lv_bipush (v := 64) hx hb d_Model_begin_11 (by decide) ?_
    obtain ⟨u_13, hu_13, hf⟩ := bd_ hf
    refine CALLWz (va_runV (As := [.int (64 : Int32)]) (rest := [.ref qt]) ⟨hx, hb, hml, hown, hg⟩ (c_Model_has l G K qt qt_draft t_draft t_drafted qt_result t_result t_length t_arguments qt_kinds t_kinds qt_values t_values qt_widths t_widths qt_below t_below qt_sizes t_sizes qt_scales t_scales qt_parts t_parts qt_texts t_texts qt_lengths t_lengths t_end t_index t_flags t_twice t_width t_precision t_conversion t_broken qt_piece t_piece (0 : Int32) t_head qt_tens t_tens t_count t_exponent qt_work t_work (64 : Int32) _ u_13  hu_13) (cwV 1 hg (gV m_449 m_450 m_451 m_389 m_452) rfl rfl rfl (by decide +kernel) ⟨Nat.le_of_ble_eq_true rfl, Nat.le_of_ble_eq_true rfl⟩) ⟨PC_b, va_recv hK hP (ci := 7) (q0 := 0) rfl rfl, PC_p hE hS hAb hP hD⟩ rfl rfl hl.1 rfl (lv_room (Nat.le_of_ble_eq_true rfl)) d_Model_begin_13 ⟨Nat.zero_le _, Nat.zero_le _⟩) hP hD hS hA (fun bu_13 H locs hP hD hS => ?_)
    have hP : va_P (gD G) vwCl (w_Model_clear G qt qt_draft t_draft t_drafted qt_result t_result t_length t_arguments qt_kinds t_kinds qt_values t_values qt_widths t_widths qt_below t_below qt_sizes t_sizes qt_scales t_scales qt_parts t_parts qt_texts t_texts qt_lengths t_lengths t_end t_index t_flags t_twice t_width t_precision t_conversion t_broken qt_piece t_piece (0 : Int32) t_head qt_tens t_tens t_count t_exponent qt_work t_work) H := hP
    have hD : va_D A (w_Model_clear G qt qt_draft t_draft t_drafted qt_result t_result t_length t_arguments qt_kinds t_kinds qt_values t_values qt_widths t_widths qt_below t_below qt_sizes t_sizes qt_scales t_scales qt_parts t_parts qt_texts t_texts qt_lengths t_lengths t_end t_index t_flags t_twice t_width t_precision t_conversion t_broken qt_piece t_piece (0 : Int32) t_head qt_tens t_tens t_count t_exponent qt_work t_work) := hD
    refine lv_if_eq (tgt := 24) hx hb d_Model_begin_16 (by decide) (fun c_16 => ?_) (fun c_16 => ?_)
    · have hf := ip_ c_16 hf
      refine lv_bipush (v := 45) hx hb d_Model_begin_24 (by decide) ?_
      exact W_26 (45 : Int32) (0 : Int32) t_head t_piece  hf _ _ _ hP hD hS (lv_sub hl [0] rfl)
    · have hf := in_ c_16 hf
      refine lv_bipush (v := 40) hx hb d_Model_begin_19 (by decide) ?_
      refine lv_goto (tgt := 26) hx hb d_Model_begin_21 (by decide) ?_
      exact W_26 (40 : Int32) (0 : Int32) t_head t_piece  hf _ _ _ hP hD hS (lv_sub hl [0] rfl)
theorem d_Model_finish_0 : decode cd_Model_finish 0 = .ok (.iload_n 1, 1) := by decide +kernel
theorem d_Model_finish_1 : decode cd_Model_finish 1 = .ok (.ifCond .eq 18, 3) := by decide +kernel
theorem d_Model_finish_4 : decode cd_Model_finish 4 = .ok (.aload_n 0, 1) := by decide +kernel
theorem d_Model_finish_5 : decode cd_Model_finish 5 = .ok (.bipush 64, 2) := by decide +kernel
theorem d_Model_finish_7 : decode cd_Model_finish 7 = .ok (.invokevirtual 137, 3) := by decide +kernel
theorem d_Model_finish_10 : decode cd_Model_finish 10 = .ok (.ifCond .eq 9, 3) := by decide +kernel
theorem d_Model_finish_13 : decode cd_Model_finish 13 = .ok (.aload_n 0, 1) := by decide +kernel
theorem d_Model_finish_14 : decode cd_Model_finish 14 = .ok (.bipush 41, 2) := by decide +kernel
theorem d_Model_finish_16 : decode cd_Model_finish 16 = .ok (.invokevirtual 164, 3) := by decide +kernel
theorem d_Model_finish_19 : decode cd_Model_finish 19 = .ok (.iload_n 2, 1) := by decide +kernel
theorem d_Model_finish_20 : decode cd_Model_finish 20 = .ok (.ifCond .eq 24, 3) := by decide +kernel
theorem d_Model_finish_23 : decode cd_Model_finish 23 = .ok (.aload_n 0, 1) := by decide +kernel
theorem d_Model_finish_24 : decode cd_Model_finish 24 = .ok (.bipush 16, 2) := by decide +kernel
theorem d_Model_finish_26 : decode cd_Model_finish 26 = .ok (.invokevirtual 137, 3) := by decide +kernel
theorem d_Model_finish_29 : decode cd_Model_finish 29 = .ok (.ifCond .eq 15, 3) := by decide +kernel
theorem d_Model_finish_32 : decode cd_Model_finish 32 = .ok (.aload_n 0, 1) := by decide +kernel
theorem d_Model_finish_33 : decode cd_Model_finish 33 = .ok (.getfield 93, 3) := by decide +kernel
theorem d_Model_finish_36 : decode cd_Model_finish 36 = .ok (.aload_n 0, 1) := by decide +kernel
theorem d_Model_finish_37 : decode cd_Model_finish 37 = .ok (.getfield 161, 3) := by decide +kernel
theorem d_Model_finish_40 : decode cd_Model_finish 40 = .ok (.isub, 1) := by decide +kernel
theorem d_Model_finish_41 : decode cd_Model_finish 41 = .ok (.goto 4, 3) := by decide +kernel
theorem d_Model_finish_44 : decode cd_Model_finish 44 = .ok (.iconst 0, 1) := by decide +kernel
theorem d_Model_finish_45 : decode cd_Model_finish 45 = .ok (.istore_n 3, 1) := by decide +kernel
theorem d_Model_finish_46 : decode cd_Model_finish 46 = .ok (.iload_n 3, 1) := by decide +kernel
theorem d_Model_finish_47 : decode cd_Model_finish 47 = .ok (.ifCond .gt 4, 3) := by decide +kernel
theorem d_Model_finish_50 : decode cd_Model_finish 50 = .ok (.return_, 1) := by decide +kernel
theorem d_Model_finish_51 : decode cd_Model_finish 51 = .ok (.aload_n 0, 1) := by decide +kernel
theorem d_Model_finish_52 : decode cd_Model_finish 52 = .ok (.getfield 161, 3) := by decide +kernel
theorem d_Model_finish_55 : decode cd_Model_finish 55 = .ok (.iconst 1, 1) := by decide +kernel
theorem d_Model_finish_56 : decode cd_Model_finish 56 = .ok (.isub, 1) := by decide +kernel
theorem d_Model_finish_57 : decode cd_Model_finish 57 = .ok (.istore 4, 2) := by decide +kernel
theorem d_Model_finish_59 : decode cd_Model_finish 59 = .ok (.iload 4, 2) := by decide +kernel
theorem d_Model_finish_61 : decode cd_Model_finish 61 = .ok (.aload_n 0, 1) := by decide +kernel
theorem d_Model_finish_62 : decode cd_Model_finish 62 = .ok (.getfield 171, 3) := by decide +kernel
theorem d_Model_finish_65 : decode cd_Model_finish 65 = .ok (.if_icmp .lt 25, 3) := by decide +kernel
theorem d_Model_finish_68 : decode cd_Model_finish 68 = .ok (.aload_n 0, 1) := by decide +kernel
theorem d_Model_finish_69 : decode cd_Model_finish 69 = .ok (.getfield 45, 3) := by decide +kernel
theorem d_Model_finish_72 : decode cd_Model_finish 72 = .ok (.iload 4, 2) := by decide +kernel
theorem d_Model_finish_74 : decode cd_Model_finish 74 = .ok (.iload_n 3, 1) := by decide +kernel
theorem d_Model_finish_75 : decode cd_Model_finish 75 = .ok (.iadd, 1) := by decide +kernel
theorem d_Model_finish_76 : decode cd_Model_finish 76 = .ok (.aload_n 0, 1) := by decide +kernel
theorem d_Model_finish_77 : decode cd_Model_finish 77 = .ok (.getfield 45, 3) := by decide +kernel
theorem d_Model_finish_80 : decode cd_Model_finish 80 = .ok (.iload 4, 2) := by decide +kernel
theorem d_Model_finish_82 : decode cd_Model_finish 82 = .ok (.iaload, 1) := by decide +kernel
theorem d_Model_finish_83 : decode cd_Model_finish 83 = .ok (.iastore, 1) := by decide +kernel
theorem d_Model_finish_84 : decode cd_Model_finish 84 = .ok (.iinc 4 (-1), 3) := by decide +kernel
theorem d_Model_finish_87 : decode cd_Model_finish 87 = .ok (.goto (-28), 3) := by decide +kernel
theorem d_Model_finish_90 : decode cd_Model_finish 90 = .ok (.iconst 0, 1) := by decide +kernel
theorem d_Model_finish_91 : decode cd_Model_finish 91 = .ok (.istore 4, 2) := by decide +kernel
theorem d_Model_finish_93 : decode cd_Model_finish 93 = .ok (.iload 4, 2) := by decide +kernel
theorem d_Model_finish_95 : decode cd_Model_finish 95 = .ok (.iload_n 3, 1) := by decide +kernel
theorem d_Model_finish_96 : decode cd_Model_finish 96 = .ok (.if_icmp .ge 23, 3) := by decide +kernel
theorem d_Model_finish_99 : decode cd_Model_finish 99 = .ok (.aload_n 0, 1) := by decide +kernel
theorem d_Model_finish_100 : decode cd_Model_finish 100 = .ok (.getfield 45, 3) := by decide +kernel
theorem d_Model_finish_103 : decode cd_Model_finish 103 = .ok (.aload_n 0, 1) := by decide +kernel
theorem d_Model_finish_104 : decode cd_Model_finish 104 = .ok (.getfield 171, 3) := by decide +kernel
theorem d_Model_finish_107 : decode cd_Model_finish 107 = .ok (.iload 4, 2) := by decide +kernel
theorem d_Model_finish_109 : decode cd_Model_finish 109 = .ok (.iadd, 1) := by decide +kernel
theorem d_Model_finish_110 : decode cd_Model_finish 110 = .ok (.bipush 48, 2) := by decide +kernel
theorem d_Model_finish_112 : decode cd_Model_finish 112 = .ok (.iastore, 1) := by decide +kernel
theorem d_Model_finish_113 : decode cd_Model_finish 113 = .ok (.iinc 4 1, 3) := by decide +kernel
theorem d_Model_finish_116 : decode cd_Model_finish 116 = .ok (.goto (-23), 3) := by decide +kernel
theorem d_Model_finish_119 : decode cd_Model_finish 119 = .ok (.aload_n 0, 1) := by decide +kernel
theorem d_Model_finish_120 : decode cd_Model_finish 120 = .ok (.dup, 1) := by decide +kernel
theorem d_Model_finish_121 : decode cd_Model_finish 121 = .ok (.getfield 161, 3) := by decide +kernel
theorem d_Model_finish_124 : decode cd_Model_finish 124 = .ok (.iload_n 3, 1) := by decide +kernel
theorem d_Model_finish_125 : decode cd_Model_finish 125 = .ok (.iadd, 1) := by decide +kernel
theorem d_Model_finish_126 : decode cd_Model_finish 126 = .ok (.putfield 161, 3) := by decide +kernel
theorem d_Model_finish_129 : decode cd_Model_finish 129 = .ok (.return_, 1) := by decide +kernel
def b_Model_finish_93 (t_head : Int32) (x3 : Int32) (t_put : Int32) (rec_93 : (Int32 × (Nat → Int32)) → Option (Int32 × (Nat → Int32))) (z93 : Int32 × (Nat → Int32)) : Option (Int32 × (Nat → Int32)) :=
  (if x3 ≤ z93.1 then some ((t_put + x3), z93.2) else (if inB (t_head + z93.1) 4000 = true then rec_93 ((z93.1 + 1), (upd z93.2 (t_head + z93.1).toNatClampNeg (48 : Int32))) else none))
def b_Model_finish_59 (K : Nat) (t_head : Int32) (x3 : Int32) (t_put : Int32) (rec_59 : (Int32 × (Nat → Int32)) → Option (Int32 × (Nat → Int32))) (z59 : Int32 × (Nat → Int32)) : Option (Int32 × (Nat → Int32)) :=
  (if z59.1 < t_head then lp_ (b_Model_finish_93 t_head x3 t_put) K ((0 : Int32), z59.2) else (if inB z59.1 4000 = true then (if inB (z59.1 + x3) 4000 = true then rec_59 ((z59.1 + (-1)), (upd z59.2 (z59.1 + x3).toNatClampNeg (z59.2 z59.1.toNatClampNeg))) else none) else none))
def k_Model_finish_45 (K : Nat) (t_head : Int32) (k0 : Int32) (t_put : Int32) (t_piece : (Nat → Int32)) : Option (Int32 × (Nat → Int32)) :=
  (if 0 < k0 then lp_ (b_Model_finish_59 K t_head k0 t_put) K ((t_put - (1 : Int32)), t_piece) else some (t_put, t_piece))
def k_Model_finish_44 (K : Nat) (t_head : Int32) (t_put : Int32) (t_piece : (Nat → Int32)) : Option (Int32 × (Nat → Int32)) :=
  k_Model_finish_45 K t_head (0 : Int32) t_put t_piece
def k_Model_finish_19 (K : Nat) (t_flags : Int32) (t_width : Int32) (t_head : Int32) (a2 : Int32) (t_put : Int32) (t_piece : (Nat → Int32)) : Option (Int32 × (Nat → Int32)) :=
  (if a2 = 0 then k_Model_finish_44 K t_head t_put t_piece else ((f_Model_has t_flags (16 : Int32)).bind fun u_26 => (if u_26 = 0 then k_Model_finish_44 K t_head t_put t_piece else k_Model_finish_45 K t_head (t_width - t_put) t_put t_piece)))
def f_Model_finish (K : Nat) (t_flags : Int32) (t_width : Int32) (t_piece : Nat → Int32) (t_put : Int32) (t_head : Int32) (a1 : Int32) (a2 : Int32) : Option (Int32 × (Nat → Int32)) :=
  (if a1 = 0 then k_Model_finish_19 K t_flags t_width t_head a2 t_put t_piece else ((f_Model_has t_flags (64 : Int32)).bind fun u_7 => (if u_7 = 0 then k_Model_finish_19 K t_flags t_width t_head a2 t_put t_piece else ((f_Model_add t_piece t_put (41 : Int32)).bind fun u_16 => k_Model_finish_19 K t_flags t_width t_head a2 u_16.1 u_16.2))))
set_option maxHeartbeats 4000000 in
set_option maxRecDepth 100000 in
theorem c_Model_finish (l : Launch) (G : Gt) (K : Nat) (qt : Nat) (qt_draft : Nat) (t_draft : Nat → Int32) (t_drafted : Int32) (qt_result : Nat) (t_result : Nat → Int32) (t_length : Int32) (t_arguments : Int32) (qt_kinds : Nat) (t_kinds : Nat → Int32) (qt_values : Nat) (t_values : Nat → Int64) (qt_widths : Nat) (t_widths : Nat → Int32) (qt_below : Nat) (t_below : Nat → Int32) (qt_sizes : Nat) (t_sizes : Nat → Int32) (qt_scales : Nat) (t_scales : Nat → Int32) (qt_parts : Nat) (t_parts : Nat → Int64) (qt_texts : Nat) (t_texts : Nat → Int32) (qt_lengths : Nat) (t_lengths : Nat → Int32) (t_end : Int32) (t_index : Int32) (t_flags : Int32) (t_twice : Int32) (t_width : Int32) (t_precision : Int32) (t_conversion : Int32) (t_broken : Int32) (qt_piece : Nat) (t_piece : Nat → Int32) (t_put : Int32) (t_head : Int32) (qt_tens : Nat) (t_tens : Nat → Int32) (t_count : Int32) (t_exponent : Int32) (qt_work : Nat) (t_work : Nat → Int32) (a1 : Int32) (a2 : Int32) (sz : Nat) (res : Int32 × (Nat → Int32)) (hb_a1 : bl a1) (hb_a2 : bl a2)  (hf : f_Model_finish K t_flags t_width t_piece t_put t_head a1 a2 = some res) : Met l y_Model_finish (.code y_Model_finish cd_Model_finish 5 none :: gw) { frames := 1, cells := 0, slots := 0, locals := 40 } (PC G ([.ref qt, .int a1, .int a2] : List Value) sz (w_Model_clear G qt qt_draft t_draft t_drafted qt_result t_result t_length t_arguments qt_kinds t_kinds qt_values t_values qt_widths t_widths qt_below t_below qt_sizes t_sizes qt_scales t_scales qt_parts t_parts qt_texts t_texts qt_lengths t_lengths t_end t_index t_flags t_twice t_width t_precision t_conversion t_broken qt_piece t_piece t_put t_head qt_tens t_tens t_count t_exponent qt_work t_work)) (QV G (va_A (w_Model_clear G qt qt_draft t_draft t_drafted qt_result t_result t_length t_arguments qt_kinds t_kinds qt_values t_values qt_widths t_widths qt_below t_below qt_sizes t_sizes qt_scales t_scales qt_parts t_parts qt_texts t_texts qt_lengths t_lengths t_end t_index t_flags t_twice t_width t_precision t_conversion t_broken qt_piece t_piece t_put t_head qt_tens t_tens t_count t_exponent qt_work t_work) sz) (w_Model_clear G qt qt_draft t_draft t_drafted qt_result t_result t_length t_arguments qt_kinds t_kinds qt_values t_values qt_widths t_widths qt_below t_below qt_sizes t_sizes qt_scales t_scales qt_parts t_parts qt_texts t_texts qt_lengths t_lengths t_end t_index t_flags t_twice t_width t_precision t_conversion t_broken qt_piece res.2 res.1 t_head qt_tens t_tens t_count t_exponent qt_work t_work)) 0 0 (va_A (w_Model_clear G qt qt_draft t_draft t_drafted qt_result t_result t_length t_arguments qt_kinds t_kinds qt_values t_values qt_widths t_widths qt_below t_below qt_sizes t_sizes qt_scales t_scales qt_parts t_parts qt_texts t_texts qt_lengths t_lengths t_end t_index t_flags t_twice t_width t_precision t_conversion t_broken qt_piece t_piece t_put t_head qt_tens t_tens t_count t_exponent qt_work t_work) sz) := by
  refine Met.ofW (cc := cd_Model_finish) (maxL := 5) (ret := none) (by decide) rfl ?_
  intro p e s m args below meth c s₁ B hml hv
  obtain ⟨rfl, hsz, hP, hE, hD0⟩ := hv
  have hx := B.exec
  have hb := B.bytes
  have hr := B.returns
  have hts := atoms_spec (ws := (.code y_Model_finish cd_Model_finish 5 none :: gw)) B.pre
  have hg : ∀ w ∈ gw, w.before _ s = true := fun w h => hts w (List.mem_cons_of_mem _ h)
  have hown : s.vm.findClass R_Model = some m.cls := findClass_of_methodNamed B.named
  have hlocks := B.notSynchronized
  subst hsz
  have hK := hE.K
  have hD := hD0.self (sz := s.heap.size)
  have hAb := hE.ab hD0
  obtain ⟨Q, hQ⟩ : ∃ Q, MQ below (QV G (va_A (w_Model_clear G qt qt_draft t_draft t_drafted qt_result t_result t_length t_arguments qt_kinds t_kinds qt_values t_values qt_widths t_widths qt_below t_below qt_sizes t_sizes qt_scales t_scales qt_parts t_parts qt_texts t_texts qt_lengths t_lengths t_end t_index t_flags t_twice t_width t_precision t_conversion t_broken qt_piece t_piece t_put t_head qt_tens t_tens t_count t_exponent qt_work t_work) s.heap.size) (w_Model_clear G qt qt_draft t_draft t_drafted qt_result t_result t_length t_arguments qt_kinds t_kinds qt_values t_values qt_widths t_widths qt_below t_below qt_sizes t_sizes qt_scales t_scales qt_parts t_parts qt_texts t_texts qt_lengths t_lengths t_end t_index t_flags t_twice t_width t_precision t_conversion t_broken qt_piece res.2 res.1 t_head qt_tens t_tens t_count t_exponent qt_work t_work)) ([.ref qt, .int a1, .int a2] : List Value).toArray s 0 0 (va_A (w_Model_clear G qt qt_draft t_draft t_drafted qt_result t_result t_length t_arguments qt_kinds t_kinds qt_values t_values qt_widths t_widths qt_below t_below qt_sizes t_sizes qt_scales t_scales qt_parts t_parts qt_texts t_texts qt_lengths t_lengths t_end t_index t_flags t_twice t_width t_precision t_conversion t_broken qt_piece t_piece t_put t_head qt_tens t_tens t_count t_exponent qt_work t_work) s.heap.size) = Q := ⟨_, rfl⟩
  show W p l e { frames := 1, cells := 0, slots := 0, locals := 40 } s m ([.ref qt, .int a1, .int a2] : List Value).toArray below meth c s.heap [] 0 0 (MQ below (QV G (va_A (w_Model_clear G qt qt_draft t_draft t_drafted qt_result t_result t_length t_arguments qt_kinds t_kinds qt_values t_values qt_widths t_widths qt_below t_below qt_sizes t_sizes qt_scales t_scales qt_parts t_parts qt_texts t_texts qt_lengths t_lengths t_end t_index t_flags t_twice t_width t_precision t_conversion t_broken qt_piece t_piece t_put t_head qt_tens t_tens t_count t_exponent qt_work t_work) s.heap.size) (w_Model_clear G qt qt_draft t_draft t_drafted qt_result t_result t_length t_arguments qt_kinds t_kinds qt_values t_values qt_widths t_widths qt_below t_below qt_sizes t_sizes qt_scales t_scales qt_parts t_parts qt_texts t_texts qt_lengths t_lengths t_end t_index t_flags t_twice t_width t_precision t_conversion t_broken qt_piece res.2 res.1 t_head qt_tens t_tens t_count t_exponent qt_work t_work)) ([.ref qt, .int a1, .int a2] : List Value).toArray s 0 0 (va_A (w_Model_clear G qt qt_draft t_draft t_drafted qt_result t_result t_length t_arguments qt_kinds t_kinds qt_values t_values qt_widths t_widths qt_below t_below qt_sizes t_sizes qt_scales t_scales qt_parts t_parts qt_texts t_texts qt_lengths t_lengths t_end t_index t_flags t_twice t_width t_precision t_conversion t_broken qt_piece t_piece t_put t_head qt_tens t_tens t_count t_exponent qt_work t_work) s.heap.size)) _
  rw [hQ]
  have hA : ∀ q : Nat, s.heap.size ≤ q → va_A (w_Model_clear G qt qt_draft t_draft t_drafted qt_result t_result t_length t_arguments qt_kinds t_kinds qt_values t_values qt_widths t_widths qt_below t_below qt_sizes t_sizes qt_scales t_scales qt_parts t_parts qt_texts t_texts qt_lengths t_lengths t_end t_index t_flags t_twice t_width t_precision t_conversion t_broken qt_piece t_piece t_put t_head qt_tens t_tens t_count t_exponent qt_work t_work) s.heap.size q := fun q h => Or.inr h
  obtain ⟨A, hAe⟩ : ∃ A, va_A (w_Model_clear G qt qt_draft t_draft t_drafted qt_result t_result t_length t_arguments qt_kinds t_kinds qt_values t_values qt_widths t_widths qt_below t_below qt_sizes t_sizes qt_scales t_scales qt_parts t_parts qt_texts t_texts qt_lengths t_lengths t_end t_index t_flags t_twice t_width t_precision t_conversion t_broken qt_piece t_piece t_put t_head qt_tens t_tens t_count t_exponent qt_work t_work) s.heap.size = A := ⟨_, rfl⟩
  rw [hAe] at hA hD hAb hQ
  have hS : va_S A s.heap s.heap [] := va_S.rf
  have hl := lv_entry (([.ref qt, .int a1, .int a2] : List Value)) (n := 5) (Nat.le_of_ble_eq_true rfl)
  rw [lg_entry_eq]
  generalize (lg_sl (([.ref qt, .int a1, .int a2] : List Value)) ++ List.replicate (5 - (lg_sl (([.ref qt, .int a1, .int a2] : List Value))).length) Slot.unset).toArray = ls at hl ⊢
  have hl : lv_has ls 5 [(0, .ref qt), (1, .int a1), (2, .int a2)] := hl
  have W_93 : ∀ (x3 : Int32) (t_put : Int32)  (n_93 : Nat) (z93 : Int32 × (Nat → Int32)) , lp_ (b_Model_finish_93 t_head x3 t_put) n_93 z93 = some res → ∀ (H : Heap) (locs : List Loc) (ls : Array Slot), va_P (gD G) vwCl (w_Model_clear G qt qt_draft t_draft t_drafted qt_result t_result t_length t_arguments qt_kinds t_kinds qt_values t_values qt_widths t_widths qt_below t_below qt_sizes t_sizes qt_scales t_scales qt_parts t_parts qt_texts t_texts qt_lengths t_lengths t_end t_index t_flags t_twice t_width t_precision t_conversion t_broken qt_piece z93.2 t_put t_head qt_tens t_tens t_count t_exponent qt_work t_work) H → va_D A (w_Model_clear G qt qt_draft t_draft t_drafted qt_result t_result t_length t_arguments qt_kinds t_kinds qt_values t_values qt_widths t_widths qt_below t_below qt_sizes t_sizes qt_scales t_scales qt_parts t_parts qt_texts t_texts qt_lengths t_lengths t_end t_index t_flags t_twice t_width t_precision t_conversion t_broken qt_piece z93.2 t_put t_head qt_tens t_tens t_count t_exponent qt_work t_work) → va_S A s.heap H locs → lv_has ls 5 [(0, .ref qt), (3, .int x3), (4, .int z93.1)] → W p l e { frames := 1, cells := 0, slots := 0, locals := 40 } s m ([.ref qt, .int a1, .int a2] : List Value).toArray below meth c H locs 0 0 Q (F0 m 93 ls []) := by
    intro x3 t_put n_93
    induction n_93 with
    | zero =>
      intro z93  hf
      cases hf
    | succ n_93 ih_93 =>
      intro z93  hf H locs ls hP hD hS hl
      have hf : b_Model_finish_93 t_head x3 t_put (lp_ (b_Model_finish_93 t_head x3 t_put) n_93) z93 = some res := hf
      generalize lp_ (b_Model_finish_93 t_head x3 t_put) n_93 = rec_93 at hf ih_93
      unfold b_Model_finish_93 at hf
      refine lv_iload hx hb d_Model_finish_93 (lv_at hl 2 rfl) ?_
      refine lv_iload_n hx hb d_Model_finish_95 rfl (lv_at hl 1 rfl) ?_
      refine lv_icmp_ge (tgt := 119) hx hb d_Model_finish_96 (by decide) (fun c_96 => ?_) (fun c_96 => ?_)
      · have hf := ip_ c_96 hf
        refine lv_aload_n hx hb d_Model_finish_119 rfl (lv_at hl 0 rfl) ?_
        refine lv_dup hx hb d_Model_finish_120 rfl ?_
        refine va_get (D := gD G) (ci := 7) (v := .int t_put) (C := R_Model) (T := F_Model) (N := 29) hx hb hg in_Model hown hK hP 0 rfl rfl 23 (by decide) (hg _ m_472) (fun _ h9 => h9) rfl d_Model_finish_121 ?_
        refine lv_iload_n hx hb d_Model_finish_124 rfl (lv_at hl 1 rfl) ?_
        refine lv_iadd hx hb d_Model_finish_125 ?_
        refine va_put (D := gD G) (ci := 7) (v := .int (t_put + x3)) (ty := .int) (C := R_Model) (T := F_Model) (N := 29) hx hb hg in_Model t_Model to_Model no_Model hown hK hP hD hS 0 rfl rfl 23 (by decide) (hg _ m_472) (fun _ h9 => h9) rfl (by decide +kernel) rfl rfl (Nat.le_of_ble_eq_true rfl) d_Model_finish_126 (fun H locs hP hD hS => ?_)
        have hP : va_P (gD G) vwCl (w_Model_clear G qt qt_draft t_draft t_drafted qt_result t_result t_length t_arguments qt_kinds t_kinds qt_values t_values qt_widths t_widths qt_below t_below qt_sizes t_sizes qt_scales t_scales qt_parts t_parts qt_texts t_texts qt_lengths t_lengths t_end t_index t_flags t_twice t_width t_precision t_conversion t_broken qt_piece z93.2 (t_put + x3) t_head qt_tens t_tens t_count t_exponent qt_work t_work) H := hP
        have hD : va_D A (w_Model_clear G qt qt_draft t_draft t_drafted qt_result t_result t_length t_arguments qt_kinds t_kinds qt_values t_values qt_widths t_widths qt_below t_below qt_sizes t_sizes qt_scales t_scales qt_parts t_parts qt_texts t_texts qt_lengths t_lengths t_end t_index t_flags t_twice t_width t_precision t_conversion t_broken qt_piece z93.2 (t_put + x3) t_head qt_tens t_tens t_count t_exponent qt_work t_work) := hD
        obtain rfl := Option.some.inj hf
        rw [← hQ]
        exact W.vret hx hb hr (fun t9 ht hW => ⟨⟨(), rfl, trivial, ⟨by rw [ht]; exact hP, hD⟩⟩, hS.F ht⟩) hS.2.2 d_Model_finish_129
      · have hf := in_ c_96 hf
        refine lv_aload_n hx hb d_Model_finish_99 rfl (lv_at hl 0 rfl) ?_
        refine va_get (D := gD G) (ci := 7) (v := .ref qt_piece) (C := R_Model) (T := F_Model) (N := 29) hx hb hg in_Model hown hK hP 0 rfl rfl 22 (by decide) (hg _ m_471) (fun _ h9 => h9) rfl d_Model_finish_100 ?_
        refine lv_aload_n hx hb d_Model_finish_103 rfl (lv_at hl 0 rfl) ?_
        refine va_get (D := gD G) (ci := 7) (v := .int t_head) (C := R_Model) (T := F_Model) (N := 29) hx hb hg in_Model hown hK hP 0 rfl rfl 24 (by decide) (hg _ m_481) (fun _ h9 => h9) rfl d_Model_finish_104 ?_
        refine lv_iload hx hb d_Model_finish_107 (lv_at hl 2 rfl) ?_
        refine lv_iadd hx hb d_Model_finish_109 ?_
        refine lv_bipush (v := 48) hx hb d_Model_finish_110 (by decide) ?_
        obtain ⟨g_112, hf⟩ := gd_ hf
        refine va_iast hx hb hK hP hD hS 12 1 rfl rfl (inB_in g_112) d_Model_finish_112 (fun H locs hP hD hS => ?_)
        have hP : va_P (gD G) vwCl (w_Model_clear G qt qt_draft t_draft t_drafted qt_result t_result t_length t_arguments qt_kinds t_kinds qt_values t_values qt_widths t_widths qt_below t_below qt_sizes t_sizes qt_scales t_scales qt_parts t_parts qt_texts t_texts qt_lengths t_lengths t_end t_index t_flags t_twice t_width t_precision t_conversion t_broken qt_piece (upd z93.2 (t_head + z93.1).toNatClampNeg (48 : Int32)) t_put t_head qt_tens t_tens t_count t_exponent qt_work t_work) H := hP
        have hD : va_D A (w_Model_clear G qt qt_draft t_draft t_drafted qt_result t_result t_length t_arguments qt_kinds t_kinds qt_values t_values qt_widths t_widths qt_below t_below qt_sizes t_sizes qt_scales t_scales qt_parts t_parts qt_texts t_texts qt_lengths t_lengths t_end t_index t_flags t_twice t_width t_precision t_conversion t_broken qt_piece (upd z93.2 (t_head + z93.1).toNatClampNeg (48 : Int32)) t_put t_head qt_tens t_tens t_count t_exponent qt_work t_work) := hD
        refine lv_iinc (v := (z93.1 + 1)) (lv' := [(4, .int (z93.1 + 1)), (0, .ref qt), (3, .int x3)]) hx hb d_Model_finish_113 hl (k := 2) rfl rfl (by decide) rfl (fun ls hl => ?_)
        refine lv_goto (tgt := 93) hx hb d_Model_finish_116 (by decide) ?_
        exact ih_93 ((z93.1 + 1), (upd z93.2 (t_head + z93.1).toNatClampNeg (48 : Int32)))  hf _ _ _ hP hD hS (lv_sub hl [1, 2, 0] rfl)
  have W_59 : ∀ (x3 : Int32) (t_put : Int32)  (n_59 : Nat) (z59 : Int32 × (Nat → Int32)) , lp_ (b_Model_finish_59 K t_head x3 t_put) n_59 z59 = some res → ∀ (H : Heap) (locs : List Loc) (ls : Array Slot), va_P (gD G) vwCl (w_Model_clear G qt qt_draft t_draft t_drafted qt_result t_result t_length t_arguments qt_kinds t_kinds qt_values t_values qt_widths t_widths qt_below t_below qt_sizes t_sizes qt_scales t_scales qt_parts t_parts qt_texts t_texts qt_lengths t_lengths t_end t_index t_flags t_twice t_width t_precision t_conversion t_broken qt_piece z59.2 t_put t_head qt_tens t_tens t_count t_exponent qt_work t_work) H → va_D A (w_Model_clear G qt qt_draft t_draft t_drafted qt_result t_result t_length t_arguments qt_kinds t_kinds qt_values t_values qt_widths t_widths qt_below t_below qt_sizes t_sizes qt_scales t_scales qt_parts t_parts qt_texts t_texts qt_lengths t_lengths t_end t_index t_flags t_twice t_width t_precision t_conversion t_broken qt_piece z59.2 t_put t_head qt_tens t_tens t_count t_exponent qt_work t_work) → va_S A s.heap H locs → lv_has ls 5 [(0, .ref qt), (3, .int x3), (4, .int z59.1)] → W p l e { frames := 1, cells := 0, slots := 0, locals := 40 } s m ([.ref qt, .int a1, .int a2] : List Value).toArray below meth c H locs 0 0 Q (F0 m 59 ls []) := by
    intro x3 t_put n_59
    induction n_59 with
    | zero =>
      intro z59  hf
      cases hf
    | succ n_59 ih_59 =>
      intro z59  hf H locs ls hP hD hS hl
      have hf : b_Model_finish_59 K t_head x3 t_put (lp_ (b_Model_finish_59 K t_head x3 t_put) n_59) z59 = some res := hf
      generalize lp_ (b_Model_finish_59 K t_head x3 t_put) n_59 = rec_59 at hf ih_59
      unfold b_Model_finish_59 at hf
      refine lv_iload hx hb d_Model_finish_59 (lv_at hl 2 rfl) ?_
      refine lv_aload_n hx hb d_Model_finish_61 rfl (lv_at hl 0 rfl) ?_
      refine va_get (D := gD G) (ci := 7) (v := .int t_head) (C := R_Model) (T := F_Model) (N := 29) hx hb hg in_Model hown hK hP 0 rfl rfl 24 (by decide) (hg _ m_481) (fun _ h9 => h9) rfl d_Model_finish_62 ?_
      refine lv_icmp_lt (tgt := 90) hx hb d_Model_finish_65 (by decide) (fun c_65 => ?_) (fun c_65 => ?_)
      · have hf := ip_ c_65 hf
        refine lv_iconst (v := 0) hx hb d_Model_finish_90 (by decide) ?_
        refine lv_istore (lv' := [(4, .int (0 : Int32)), (0, .ref qt), (3, .int x3)]) hx hb d_Model_finish_91 hl (by decide) rfl (fun ls hl => ?_)
        exact W_93 x3 t_put  K ((0 : Int32), z59.2)  hf _ _ _ hP hD hS (lv_sub hl [1, 2, 0] rfl)
      · have hf := in_ c_65 hf
        refine lv_aload_n hx hb d_Model_finish_68 rfl (lv_at hl 0 rfl) ?_
        refine va_get (D := gD G) (ci := 7) (v := .ref qt_piece) (C := R_Model) (T := F_Model) (N := 29) hx hb hg in_Model hown hK hP 0 rfl rfl 22 (by decide) (hg _ m_471) (fun _ h9 => h9) rfl d_Model_finish_69 ?_
        refine lv_iload hx hb d_Model_finish_72 (lv_at hl 2 rfl) ?_
        refine lv_iload_n hx hb d_Model_finish_74 rfl (lv_at hl 1 rfl) ?_
        refine lv_iadd hx hb d_Model_finish_75 ?_
        refine lv_aload_n hx hb d_Model_finish_76 rfl (lv_at hl 0 rfl) ?_
        refine va_get (D := gD G) (ci := 7) (v := .ref qt_piece) (C := R_Model) (T := F_Model) (N := 29) hx hb hg in_Model hown hK hP 0 rfl rfl 22 (by decide) (hg _ m_471) (fun _ h9 => h9) rfl d_Model_finish_77 ?_
        refine lv_iload hx hb d_Model_finish_80 (lv_at hl 2 rfl) ?_
        obtain ⟨g_82, hf⟩ := gd_ hf
        refine va_iald hx hb hK hP 12 1 rfl rfl (inB_in g_82) d_Model_finish_82 ?_
        obtain ⟨g_83, hf⟩ := gd_ hf
        refine va_iast hx hb hK hP hD hS 12 1 rfl rfl (inB_in g_83) d_Model_finish_83 (fun H locs hP hD hS => ?_)
        have hP : va_P (gD G) vwCl (w_Model_clear G qt qt_draft t_draft t_drafted qt_result t_result t_length t_arguments qt_kinds t_kinds qt_values t_values qt_widths t_widths qt_below t_below qt_sizes t_sizes qt_scales t_scales qt_parts t_parts qt_texts t_texts qt_lengths t_lengths t_end t_index t_flags t_twice t_width t_precision t_conversion t_broken qt_piece (upd z59.2 (z59.1 + x3).toNatClampNeg (z59.2 z59.1.toNatClampNeg)) t_put t_head qt_tens t_tens t_count t_exponent qt_work t_work) H := hP
        have hD : va_D A (w_Model_clear G qt qt_draft t_draft t_drafted qt_result t_result t_length t_arguments qt_kinds t_kinds qt_values t_values qt_widths t_widths qt_below t_below qt_sizes t_sizes qt_scales t_scales qt_parts t_parts qt_texts t_texts qt_lengths t_lengths t_end t_index t_flags t_twice t_width t_precision t_conversion t_broken qt_piece (upd z59.2 (z59.1 + x3).toNatClampNeg (z59.2 z59.1.toNatClampNeg)) t_put t_head qt_tens t_tens t_count t_exponent qt_work t_work) := hD
        refine lv_iinc (v := (z59.1 + (-1))) (lv' := [(4, .int (z59.1 + (-1))), (0, .ref qt), (3, .int x3)]) hx hb d_Model_finish_84 hl (k := 2) rfl rfl (by decide) rfl (fun ls hl => ?_)
        refine lv_goto (tgt := 59) hx hb d_Model_finish_87 (by decide) ?_
        exact ih_59 ((z59.1 + (-1)), (upd z59.2 (z59.1 + x3).toNatClampNeg (z59.2 z59.1.toNatClampNeg)))  hf _ _ _ hP hD hS (lv_sub hl [1, 2, 0] rfl)
  have W_45 : ∀ (k0 : Int32) (t_put : Int32) (t_piece : (Nat → Int32)) , k_Model_finish_45 K t_head k0 t_put t_piece = some res → ∀ (H : Heap) (locs : List Loc) (ls : Array Slot), va_P (gD G) vwCl (w_Model_clear G qt qt_draft t_draft t_drafted qt_result t_result t_length t_arguments qt_kinds t_kinds qt_values t_values qt_widths t_widths qt_below t_below qt_sizes t_sizes qt_scales t_scales qt_parts t_parts qt_texts t_texts qt_lengths t_lengths t_end t_index t_flags t_twice t_width t_precision t_conversion t_broken qt_piece t_piece t_put t_head qt_tens t_tens t_count t_exponent qt_work t_work) H → va_D A (w_Model_clear G qt qt_draft t_draft t_drafted qt_result t_result t_length t_arguments qt_kinds t_kinds qt_values t_values qt_widths t_widths qt_below t_below qt_sizes t_sizes qt_scales t_scales qt_parts t_parts qt_texts t_texts qt_lengths t_lengths t_end t_index t_flags t_twice t_width t_precision t_conversion t_broken qt_piece t_piece t_put t_head qt_tens t_tens t_count t_exponent qt_work t_work) → va_S A s.heap H locs → lv_has ls 5 [(0, .ref qt)] → W p l e { frames := 1, cells := 0, slots := 0, locals := 40 } s m ([.ref qt, .int a1, .int a2] : List Value).toArray below meth c H locs 0 0 Q (F0 m 45 ls [.int k0]) := by
    intro k0 t_put t_piece  hf H locs ls hP hD hS hl
    unfold k_Model_finish_45 at hf
    refine lv_istore_n (lv' := [(3, .int k0), (0, .ref qt)]) hx hb d_Model_finish_45 rfl hl (by decide) rfl (fun ls hl => ?_)
    refine lv_iload_n hx hb d_Model_finish_46 rfl (lv_at hl 0 rfl) ?_
    refine lv_if_gt (tgt := 51) hx hb d_Model_finish_47 (by decide) (fun c_47 => ?_) (fun c_47 => ?_)
    · have hf := ip_ c_47 hf
      refine lv_aload_n hx hb d_Model_finish_51 rfl (lv_at hl 1 rfl) ?_
      refine va_get (D := gD G) (ci := 7) (v := .int t_put) (C := R_Model) (T := F_Model) (N := 29) hx hb hg in_Model hown hK hP 0 rfl rfl 23 (by decide) (hg _ m_472) (fun _ h9 => h9) rfl d_Model_finish_52 ?_
      refine lv_iconst (v := 1) hx hb d_Model_finish_55 (by decide) ?_
      refine lv_isub hx hb d_Model_finish_56 ?_
      refine lv_istore (lv' := [(4, .int (t_put - (1 : Int32))), (3, .int k0), (0, .ref qt)]) hx hb d_Model_finish_57 hl (by decide) rfl (fun ls hl => ?_)
      exact W_59 k0 t_put  K ((t_put - (1 : Int32)), t_piece)  hf _ _ _ hP hD hS (lv_sub hl [2, 1, 0] rfl)
    · have hf := in_ c_47 hf
      obtain rfl := Option.some.inj hf
      rw [← hQ]
      exact W.vret hx hb hr (fun t9 ht hW => ⟨⟨(), rfl, trivial, ⟨by rw [ht]; exact hP, hD⟩⟩, hS.F ht⟩) hS.2.2 d_Model_finish_50
  have W_44 : ∀ (t_put : Int32) (t_piece : (Nat → Int32)) , k_Model_finish_44 K t_head t_put t_piece = some res → ∀ (H : Heap) (locs : List Loc) (ls : Array Slot), va_P (gD G) vwCl (w_Model_clear G qt qt_draft t_draft t_drafted qt_result t_result t_length t_arguments qt_kinds t_kinds qt_values t_values qt_widths t_widths qt_below t_below qt_sizes t_sizes qt_scales t_scales qt_parts t_parts qt_texts t_texts qt_lengths t_lengths t_end t_index t_flags t_twice t_width t_precision t_conversion t_broken qt_piece t_piece t_put t_head qt_tens t_tens t_count t_exponent qt_work t_work) H → va_D A (w_Model_clear G qt qt_draft t_draft t_drafted qt_result t_result t_length t_arguments qt_kinds t_kinds qt_values t_values qt_widths t_widths qt_below t_below qt_sizes t_sizes qt_scales t_scales qt_parts t_parts qt_texts t_texts qt_lengths t_lengths t_end t_index t_flags t_twice t_width t_precision t_conversion t_broken qt_piece t_piece t_put t_head qt_tens t_tens t_count t_exponent qt_work t_work) → va_S A s.heap H locs → lv_has ls 5 [(0, .ref qt)] → W p l e { frames := 1, cells := 0, slots := 0, locals := 40 } s m ([.ref qt, .int a1, .int a2] : List Value).toArray below meth c H locs 0 0 Q (F0 m 44 ls []) := by
    intro t_put t_piece  hf H locs ls hP hD hS hl
    unfold k_Model_finish_44 at hf
    refine lv_iconst (v := 0) hx hb d_Model_finish_44 (by decide) ?_
    exact W_45 (0 : Int32) t_put t_piece  hf _ _ _ hP hD hS (lv_sub hl [0] rfl)
  have W_19 : ∀ (t_put : Int32) (t_piece : (Nat → Int32)) , k_Model_finish_19 K t_flags t_width t_head a2 t_put t_piece = some res → ∀ (H : Heap) (locs : List Loc) (ls : Array Slot), va_P (gD G) vwCl (w_Model_clear G qt qt_draft t_draft t_drafted qt_result t_result t_length t_arguments qt_kinds t_kinds qt_values t_values qt_widths t_widths qt_below t_below qt_sizes t_sizes qt_scales t_scales qt_parts t_parts qt_texts t_texts qt_lengths t_lengths t_end t_index t_flags t_twice t_width t_precision t_conversion t_broken qt_piece t_piece t_put t_head qt_tens t_tens t_count t_exponent qt_work t_work) H → va_D A (w_Model_clear G qt qt_draft t_draft t_drafted qt_result t_result t_length t_arguments qt_kinds t_kinds qt_values t_values qt_widths t_widths qt_below t_below qt_sizes t_sizes qt_scales t_scales qt_parts t_parts qt_texts t_texts qt_lengths t_lengths t_end t_index t_flags t_twice t_width t_precision t_conversion t_broken qt_piece t_piece t_put t_head qt_tens t_tens t_count t_exponent qt_work t_work) → va_S A s.heap H locs → lv_has ls 5 [(0, .ref qt), (2, .int a2)] → W p l e { frames := 1, cells := 0, slots := 0, locals := 40 } s m ([.ref qt, .int a1, .int a2] : List Value).toArray below meth c H locs 0 0 Q (F0 m 19 ls []) := by
    intro t_put t_piece  hf H locs ls hP hD hS hl
    unfold k_Model_finish_19 at hf
    refine lv_iload_n hx hb d_Model_finish_19 rfl (lv_at hl 1 rfl) ?_
    refine lv_if_eq (tgt := 44) hx hb d_Model_finish_20 (by decide) (fun c_20 => ?_) (fun c_20 => ?_)
    · have hf := ip_ c_20 hf
      exact W_44 t_put t_piece  hf _ _ _ hP hD hS (lv_sub hl [0] rfl)
    · have hf := in_ c_20 hf
      refine lv_aload_n hx hb d_Model_finish_23 rfl (lv_at hl 0 rfl) ?_
      refine lv_bipush (v := 16) hx hb d_Model_finish_24 (by decide) ?_
      obtain ⟨u_26, hu_26, hf⟩ := bd_ hf
      refine CALLWz (va_runV (As := [.int (16 : Int32)]) (rest := []) ⟨hx, hb, hml, hown, hg⟩ (c_Model_has l G K qt qt_draft t_draft t_drafted qt_result t_result t_length t_arguments qt_kinds t_kinds qt_values t_values qt_widths t_widths qt_below t_below qt_sizes t_sizes qt_scales t_scales qt_parts t_parts qt_texts t_texts qt_lengths t_lengths t_end t_index t_flags t_twice t_width t_precision t_conversion t_broken qt_piece t_piece t_put t_head qt_tens t_tens t_count t_exponent qt_work t_work (16 : Int32) _ u_26  hu_26) (cwV 1 hg (gV m_449 m_450 m_451 m_389 m_452) rfl rfl rfl (by decide +kernel) ⟨Nat.le_of_ble_eq_true rfl, Nat.le_of_ble_eq_true rfl⟩) ⟨PC_b, va_recv hK hP (ci := 7) (q0 := 0) rfl rfl, PC_p hE hS hAb hP hD⟩ rfl rfl hl.1 rfl (lv_room (Nat.le_of_ble_eq_true rfl)) d_Model_finish_26 ⟨Nat.zero_le _, Nat.zero_le _⟩) hP hD hS hA (fun bu_26 H locs hP hD hS => ?_)
      have hP : va_P (gD G) vwCl (w_Model_clear G qt qt_draft t_draft t_drafted qt_result t_result t_length t_arguments qt_kinds t_kinds qt_values t_values qt_widths t_widths qt_below t_below qt_sizes t_sizes qt_scales t_scales qt_parts t_parts qt_texts t_texts qt_lengths t_lengths t_end t_index t_flags t_twice t_width t_precision t_conversion t_broken qt_piece t_piece t_put t_head qt_tens t_tens t_count t_exponent qt_work t_work) H := hP
      have hD : va_D A (w_Model_clear G qt qt_draft t_draft t_drafted qt_result t_result t_length t_arguments qt_kinds t_kinds qt_values t_values qt_widths t_widths qt_below t_below qt_sizes t_sizes qt_scales t_scales qt_parts t_parts qt_texts t_texts qt_lengths t_lengths t_end t_index t_flags t_twice t_width t_precision t_conversion t_broken qt_piece t_piece t_put t_head qt_tens t_tens t_count t_exponent qt_work t_work) := hD
      refine lv_if_eq (tgt := 44) hx hb d_Model_finish_29 (by decide) (fun c_29 => ?_) (fun c_29 => ?_)
      · have hf := ip_ c_29 hf
        exact W_44 t_put t_piece  hf _ _ _ hP hD hS (lv_sub hl [0] rfl)
      · have hf := in_ c_29 hf
        refine lv_aload_n hx hb d_Model_finish_32 rfl (lv_at hl 0 rfl) ?_
        refine va_get (D := gD G) (ci := 7) (v := .int t_width) (C := R_Model) (T := F_Model) (N := 29) hx hb hg in_Model hown hK hP 0 rfl rfl 18 (by decide) (hg _ m_416) (fun _ h9 => h9) rfl d_Model_finish_33 ?_
        refine lv_aload_n hx hb d_Model_finish_36 rfl (lv_at hl 0 rfl) ?_
        refine va_get (D := gD G) (ci := 7) (v := .int t_put) (C := R_Model) (T := F_Model) (N := 29) hx hb hg in_Model hown hK hP 0 rfl rfl 23 (by decide) (hg _ m_472) (fun _ h9 => h9) rfl d_Model_finish_37 ?_
        refine lv_isub hx hb d_Model_finish_40 ?_
        refine lv_goto (tgt := 45) hx hb d_Model_finish_41 (by decide) ?_
        exact W_45 (t_width - t_put) t_put t_piece  hf _ _ _ hP hD hS (lv_sub hl [0] rfl)
  unfold f_Model_finish at hf
  refine lv_iload_n hx hb d_Model_finish_0 rfl (lv_at hl 1 rfl) ?_
  refine lv_if_eq (tgt := 19) hx hb d_Model_finish_1 (by decide) (fun c_1 => ?_) (fun c_1 => ?_)
  · have hf := ip_ c_1 hf
    exact W_19 t_put t_piece  hf _ _ _ hP hD hS (lv_sub hl [0, 2] rfl)
  · have hf := in_ c_1 hf
    refine lv_aload_n hx hb d_Model_finish_4 rfl (lv_at hl 0 rfl) ?_
    refine lv_bipush (v := 64) hx hb d_Model_finish_5 (by decide) ?_
    obtain ⟨u_7, hu_7, hf⟩ := bd_ hf
    refine CALLWz (va_runV (As := [.int (64 : Int32)]) (rest := []) ⟨hx, hb, hml, hown, hg⟩ (c_Model_has l G K qt qt_draft t_draft t_drafted qt_result t_result t_length t_arguments qt_kinds t_kinds qt_values t_values qt_widths t_widths qt_below t_below qt_sizes t_sizes qt_scales t_scales qt_parts t_parts qt_texts t_texts qt_lengths t_lengths t_end t_index t_flags t_twice t_width t_precision t_conversion t_broken qt_piece t_piece t_put t_head qt_tens t_tens t_count t_exponent qt_work t_work (64 : Int32) _ u_7  hu_7) (cwV 1 hg (gV m_449 m_450 m_451 m_389 m_452) rfl rfl rfl (by decide +kernel) ⟨Nat.le_of_ble_eq_true rfl, Nat.le_of_ble_eq_true rfl⟩) ⟨PC_b, va_recv hK hP (ci := 7) (q0 := 0) rfl rfl, PC_p hE hS hAb hP hD⟩ rfl rfl hl.1 rfl (lv_room (Nat.le_of_ble_eq_true rfl)) d_Model_finish_7 ⟨Nat.zero_le _, Nat.zero_le _⟩) hP hD hS hA (fun bu_7 H locs hP hD hS => ?_)
    have hP : va_P (gD G) vwCl (w_Model_clear G qt qt_draft t_draft t_drafted qt_result t_result t_length t_arguments qt_kinds t_kinds qt_values t_values qt_widths t_widths qt_below t_below qt_sizes t_sizes qt_scales t_scales qt_parts t_parts qt_texts t_texts qt_lengths t_lengths t_end t_index t_flags t_twice t_width t_precision t_conversion t_broken qt_piece t_piece t_put t_head qt_tens t_tens t_count t_exponent qt_work t_work) H := hP
    have hD : va_D A (w_Model_clear G qt qt_draft t_draft t_drafted qt_result t_result t_length t_arguments qt_kinds t_kinds qt_values t_values qt_widths t_widths qt_below t_below qt_sizes t_sizes qt_scales t_scales qt_parts t_parts qt_texts t_texts qt_lengths t_lengths t_end t_index t_flags t_twice t_width t_precision t_conversion t_broken qt_piece t_piece t_put t_head qt_tens t_tens t_count t_exponent qt_work t_work) := hD
    refine lv_if_eq (tgt := 19) hx hb d_Model_finish_10 (by decide) (fun c_10 => ?_) (fun c_10 => ?_)
    · have hf := ip_ c_10 hf
      exact W_19 t_put t_piece  hf _ _ _ hP hD hS (lv_sub hl [0, 2] rfl)
    · have hf := in_ c_10 hf
      refine lv_aload_n hx hb d_Model_finish_13 rfl (lv_at hl 0 rfl) ?_
      refine lv_bipush (v := 41) hx hb d_Model_finish_14 (by decide) ?_
      obtain ⟨u_16, hu_16, hf⟩ := bd_ hf
      refine CALLWv (va_runV (As := [.int (41 : Int32)]) (rest := []) ⟨hx, hb, hml, hown, hg⟩ (c_Model_add l G K qt qt_draft t_draft t_drafted qt_result t_result t_length t_arguments qt_kinds t_kinds qt_values t_values qt_widths t_widths qt_below t_below qt_sizes t_sizes qt_scales t_scales qt_parts t_parts qt_texts t_texts qt_lengths t_lengths t_end t_index t_flags t_twice t_width t_precision t_conversion t_broken qt_piece t_piece t_put t_head qt_tens t_tens t_count t_exponent qt_work t_work (41 : Int32) _ u_16  hu_16) (cwV 1 hg (gV m_473 m_474 m_475 m_389 m_476) rfl rfl rfl (by decide +kernel) ⟨Nat.le_of_ble_eq_true rfl, Nat.le_of_ble_eq_true rfl⟩) ⟨PC_b, va_recv hK hP (ci := 7) (q0 := 0) rfl rfl, PC_p hE hS hAb hP hD⟩ rfl rfl hl.1 rfl (lv_room (Nat.le_of_ble_eq_true rfl)) d_Model_finish_16 ⟨Nat.zero_le _, Nat.zero_le _⟩) hP hD hS hA (fun H locs hP hD hS => ?_)
      have hP : va_P (gD G) vwCl (w_Model_clear G qt qt_draft t_draft t_drafted qt_result t_result t_length t_arguments qt_kinds t_kinds qt_values t_values qt_widths t_widths qt_below t_below qt_sizes t_sizes qt_scales t_scales qt_parts t_parts qt_texts t_texts qt_lengths t_lengths t_end t_index t_flags t_twice t_width t_precision t_conversion t_broken qt_piece u_16.2 u_16.1 t_head qt_tens t_tens t_count t_exponent qt_work t_work) H := hP
      have hD : va_D A (w_Model_clear G qt qt_draft t_draft t_drafted qt_result t_result t_length t_arguments qt_kinds t_kinds qt_values t_values qt_widths t_widths qt_below t_below qt_sizes t_sizes qt_scales t_scales qt_parts t_parts qt_texts t_texts qt_lengths t_lengths t_end t_index t_flags t_twice t_width t_precision t_conversion t_broken qt_piece u_16.2 u_16.1 t_head qt_tens t_tens t_count t_exponent qt_work t_work) := hD
      exact W_19 u_16.1 u_16.2  hf _ _ _ hP hD hS (lv_sub hl [0, 2] rfl)
theorem d_Model_isZeroSize_0 : decode cd_Model_isZeroSize 0 = .ok (.iconst 1, 1) := by decide +kernel
theorem d_Model_isZeroSize_1 : decode cd_Model_isZeroSize 1 = .ok (.istore_n 2, 1) := by decide +kernel
theorem d_Model_isZeroSize_2 : decode cd_Model_isZeroSize 2 = .ok (.iconst 0, 1) := by decide +kernel
theorem d_Model_isZeroSize_3 : decode cd_Model_isZeroSize 3 = .ok (.istore_n 3, 1) := by decide +kernel
theorem d_Model_isZeroSize_4 : decode cd_Model_isZeroSize 4 = .ok (.iload_n 3, 1) := by decide +kernel
theorem d_Model_isZeroSize_5 : decode cd_Model_isZeroSize 5 = .ok (.bipush 32, 2) := by decide +kernel
theorem d_Model_isZeroSize_7 : decode cd_Model_isZeroSize 7 = .ok (.if_icmp .ge 33, 3) := by decide +kernel
theorem d_Model_isZeroSize_10 : decode cd_Model_isZeroSize 10 = .ok (.iload_n 2, 1) := by decide +kernel
theorem d_Model_isZeroSize_11 : decode cd_Model_isZeroSize 11 = .ok (.ifCond .eq 21, 3) := by decide +kernel
theorem d_Model_isZeroSize_14 : decode cd_Model_isZeroSize 14 = .ok (.aload_n 0, 1) := by decide +kernel
theorem d_Model_isZeroSize_15 : decode cd_Model_isZeroSize 15 = .ok (.getfield 30, 3) := by decide +kernel
theorem d_Model_isZeroSize_18 : decode cd_Model_isZeroSize 18 = .ok (.bipush 32, 2) := by decide +kernel
theorem d_Model_isZeroSize_20 : decode cd_Model_isZeroSize 20 = .ok (.iload_n 1, 1) := by decide +kernel
theorem d_Model_isZeroSize_21 : decode cd_Model_isZeroSize 21 = .ok (.imul, 1) := by decide +kernel
theorem d_Model_isZeroSize_22 : decode cd_Model_isZeroSize 22 = .ok (.iload_n 3, 1) := by decide +kernel
theorem d_Model_isZeroSize_23 : decode cd_Model_isZeroSize 23 = .ok (.iadd, 1) := by decide +kernel
theorem d_Model_isZeroSize_24 : decode cd_Model_isZeroSize 24 = .ok (.iaload, 1) := by decide +kernel
theorem d_Model_isZeroSize_25 : decode cd_Model_isZeroSize 25 = .ok (.ifCond .ne 7, 3) := by decide +kernel
theorem d_Model_isZeroSize_28 : decode cd_Model_isZeroSize 28 = .ok (.iconst 1, 1) := by decide +kernel
theorem d_Model_isZeroSize_29 : decode cd_Model_isZeroSize 29 = .ok (.goto 4, 3) := by decide +kernel
theorem d_Model_isZeroSize_32 : decode cd_Model_isZeroSize 32 = .ok (.iconst 0, 1) := by decide +kernel
theorem d_Model_isZeroSize_33 : decode cd_Model_isZeroSize 33 = .ok (.istore_n 2, 1) := by decide +kernel
theorem d_Model_isZeroSize_34 : decode cd_Model_isZeroSize 34 = .ok (.iinc 3 1, 3) := by decide +kernel
theorem d_Model_isZeroSize_37 : decode cd_Model_isZeroSize 37 = .ok (.goto (-33), 3) := by decide +kernel
theorem d_Model_isZeroSize_40 : decode cd_Model_isZeroSize 40 = .ok (.iload_n 2, 1) := by decide +kernel
theorem d_Model_isZeroSize_41 : decode cd_Model_isZeroSize 41 = .ok (.ireturn, 1) := by decide +kernel
def k_Model_isZeroSize_33 (rec_4 : (Int32 × Int32) → Option Int32) (x3 : Int32) (k0 : Int32) : Option Int32 :=
  rec_4 (k0, (x3 + 1))
def k_Model_isZeroSize_32 (rec_4 : (Int32 × Int32) → Option Int32) (x3 : Int32) : Option Int32 :=
  k_Model_isZeroSize_33 rec_4 x3 (0 : Int32)
def b_Model_isZeroSize_4 (t_sizes : Nat → Int32) (a1 : Int32)  (rec_4 : (Int32 × Int32) → Option Int32) (z4 : Int32 × Int32) : Option Int32 :=
  (if (32 : Int32) ≤ z4.2 then some z4.1 else (if z4.1 = 0 then k_Model_isZeroSize_32 rec_4 z4.2 else (if inB (((32 : Int32) * a1) + z4.2) 384 = true then (if (t_sizes (((32 : Int32) * a1) + z4.2).toNatClampNeg) = 0 then k_Model_isZeroSize_33 rec_4 z4.2 (1 : Int32) else k_Model_isZeroSize_32 rec_4 z4.2) else none)))
def f_Model_isZeroSize (K : Nat) (t_sizes : Nat → Int32) (a1 : Int32) : Option Int32 :=
  lp_ (b_Model_isZeroSize_4 t_sizes a1 ) K ((1 : Int32), (0 : Int32))
set_option maxHeartbeats 4000000 in
set_option maxRecDepth 100000 in
theorem c_Model_isZeroSize (l : Launch) (G : Gt) (K : Nat) (qt : Nat) (qt_draft : Nat) (t_draft : Nat → Int32) (t_drafted : Int32) (qt_result : Nat) (t_result : Nat → Int32) (t_length : Int32) (t_arguments : Int32) (qt_kinds : Nat) (t_kinds : Nat → Int32) (qt_values : Nat) (t_values : Nat → Int64) (qt_widths : Nat) (t_widths : Nat → Int32) (qt_below : Nat) (t_below : Nat → Int32) (qt_sizes : Nat) (t_sizes : Nat → Int32) (qt_scales : Nat) (t_scales : Nat → Int32) (qt_parts : Nat) (t_parts : Nat → Int64) (qt_texts : Nat) (t_texts : Nat → Int32) (qt_lengths : Nat) (t_lengths : Nat → Int32) (t_end : Int32) (t_index : Int32) (t_flags : Int32) (t_twice : Int32) (t_width : Int32) (t_precision : Int32) (t_conversion : Int32) (t_broken : Int32) (qt_piece : Nat) (t_piece : Nat → Int32) (t_put : Int32) (t_head : Int32) (qt_tens : Nat) (t_tens : Nat → Int32) (t_count : Int32) (t_exponent : Int32) (qt_work : Nat) (t_work : Nat → Int32) (a1 : Int32) (sz : Nat) (res : Int32)   (hf : f_Model_isZeroSize K t_sizes a1 = some res) : Met l y_Model_isZeroSize (.code y_Model_isZeroSize cd_Model_isZeroSize 4 (some .boolean) :: gw) { frames := 0, cells := 0, slots := 0, locals := 0 } (PC G ([.ref qt, .int a1] : List Value) sz (w_Model_clear G qt qt_draft t_draft t_drafted qt_result t_result t_length t_arguments qt_kinds t_kinds qt_values t_values qt_widths t_widths qt_below t_below qt_sizes t_sizes qt_scales t_scales qt_parts t_parts qt_texts t_texts qt_lengths t_lengths t_end t_index t_flags t_twice t_width t_precision t_conversion t_broken qt_piece t_piece t_put t_head qt_tens t_tens t_count t_exponent qt_work t_work)) (QZ G res (va_A (w_Model_clear G qt qt_draft t_draft t_drafted qt_result t_result t_length t_arguments qt_kinds t_kinds qt_values t_values qt_widths t_widths qt_below t_below qt_sizes t_sizes qt_scales t_scales qt_parts t_parts qt_texts t_texts qt_lengths t_lengths t_end t_index t_flags t_twice t_width t_precision t_conversion t_broken qt_piece t_piece t_put t_head qt_tens t_tens t_count t_exponent qt_work t_work) sz) (w_Model_clear G qt qt_draft t_draft t_drafted qt_result t_result t_length t_arguments qt_kinds t_kinds qt_values t_values qt_widths t_widths qt_below t_below qt_sizes t_sizes qt_scales t_scales qt_parts t_parts qt_texts t_texts qt_lengths t_lengths t_end t_index t_flags t_twice t_width t_precision t_conversion t_broken qt_piece t_piece t_put t_head qt_tens t_tens t_count t_exponent qt_work t_work)) 0 0 (va_A (w_Model_clear G qt qt_draft t_draft t_drafted qt_result t_result t_length t_arguments qt_kinds t_kinds qt_values t_values qt_widths t_widths qt_below t_below qt_sizes t_sizes qt_scales t_scales qt_parts t_parts qt_texts t_texts qt_lengths t_lengths t_end t_index t_flags t_twice t_width t_precision t_conversion t_broken qt_piece t_piece t_put t_head qt_tens t_tens t_count t_exponent qt_work t_work) sz) := by
  refine Met.ofW (cc := cd_Model_isZeroSize) (maxL := 4) (ret := (some .boolean)) (by decide) rfl ?_
  intro p e s m args below meth c s₁ B hml hv
  obtain ⟨rfl, hsz, hP, hE, hD0⟩ := hv
  have hx := B.exec
  have hb := B.bytes
  have hr := B.returns
  have hts := atoms_spec (ws := (.code y_Model_isZeroSize cd_Model_isZeroSize 4 (some .boolean) :: gw)) B.pre
  have hg : ∀ w ∈ gw, w.before _ s = true := fun w h => hts w (List.mem_cons_of_mem _ h)
  have hown : s.vm.findClass R_Model = some m.cls := findClass_of_methodNamed B.named
  have hlocks := B.notSynchronized
  subst hsz
  have hK := hE.K
  have hD := hD0.self (sz := s.heap.size)
  have hAb := hE.ab hD0
  obtain ⟨Q, hQ⟩ : ∃ Q, MQ below (QZ G res (va_A (w_Model_clear G qt qt_draft t_draft t_drafted qt_result t_result t_length t_arguments qt_kinds t_kinds qt_values t_values qt_widths t_widths qt_below t_below qt_sizes t_sizes qt_scales t_scales qt_parts t_parts qt_texts t_texts qt_lengths t_lengths t_end t_index t_flags t_twice t_width t_precision t_conversion t_broken qt_piece t_piece t_put t_head qt_tens t_tens t_count t_exponent qt_work t_work) s.heap.size) (w_Model_clear G qt qt_draft t_draft t_drafted qt_result t_result t_length t_arguments qt_kinds t_kinds qt_values t_values qt_widths t_widths qt_below t_below qt_sizes t_sizes qt_scales t_scales qt_parts t_parts qt_texts t_texts qt_lengths t_lengths t_end t_index t_flags t_twice t_width t_precision t_conversion t_broken qt_piece t_piece t_put t_head qt_tens t_tens t_count t_exponent qt_work t_work)) ([.ref qt, .int a1] : List Value).toArray s 0 0 (va_A (w_Model_clear G qt qt_draft t_draft t_drafted qt_result t_result t_length t_arguments qt_kinds t_kinds qt_values t_values qt_widths t_widths qt_below t_below qt_sizes t_sizes qt_scales t_scales qt_parts t_parts qt_texts t_texts qt_lengths t_lengths t_end t_index t_flags t_twice t_width t_precision t_conversion t_broken qt_piece t_piece t_put t_head qt_tens t_tens t_count t_exponent qt_work t_work) s.heap.size) = Q := ⟨_, rfl⟩
  show W p l e { frames := 0, cells := 0, slots := 0, locals := 0 } s m ([.ref qt, .int a1] : List Value).toArray below meth c s.heap [] 0 0 (MQ below (QZ G res (va_A (w_Model_clear G qt qt_draft t_draft t_drafted qt_result t_result t_length t_arguments qt_kinds t_kinds qt_values t_values qt_widths t_widths qt_below t_below qt_sizes t_sizes qt_scales t_scales qt_parts t_parts qt_texts t_texts qt_lengths t_lengths t_end t_index t_flags t_twice t_width t_precision t_conversion t_broken qt_piece t_piece t_put t_head qt_tens t_tens t_count t_exponent qt_work t_work) s.heap.size) (w_Model_clear G qt qt_draft t_draft t_drafted qt_result t_result t_length t_arguments qt_kinds t_kinds qt_values t_values qt_widths t_widths qt_below t_below qt_sizes t_sizes qt_scales t_scales qt_parts t_parts qt_texts t_texts qt_lengths t_lengths t_end t_index t_flags t_twice t_width t_precision t_conversion t_broken qt_piece t_piece t_put t_head qt_tens t_tens t_count t_exponent qt_work t_work)) ([.ref qt, .int a1] : List Value).toArray s 0 0 (va_A (w_Model_clear G qt qt_draft t_draft t_drafted qt_result t_result t_length t_arguments qt_kinds t_kinds qt_values t_values qt_widths t_widths qt_below t_below qt_sizes t_sizes qt_scales t_scales qt_parts t_parts qt_texts t_texts qt_lengths t_lengths t_end t_index t_flags t_twice t_width t_precision t_conversion t_broken qt_piece t_piece t_put t_head qt_tens t_tens t_count t_exponent qt_work t_work) s.heap.size)) _
  rw [hQ]
  have hA : ∀ q : Nat, s.heap.size ≤ q → va_A (w_Model_clear G qt qt_draft t_draft t_drafted qt_result t_result t_length t_arguments qt_kinds t_kinds qt_values t_values qt_widths t_widths qt_below t_below qt_sizes t_sizes qt_scales t_scales qt_parts t_parts qt_texts t_texts qt_lengths t_lengths t_end t_index t_flags t_twice t_width t_precision t_conversion t_broken qt_piece t_piece t_put t_head qt_tens t_tens t_count t_exponent qt_work t_work) s.heap.size q := fun q h => Or.inr h
  obtain ⟨A, hAe⟩ : ∃ A, va_A (w_Model_clear G qt qt_draft t_draft t_drafted qt_result t_result t_length t_arguments qt_kinds t_kinds qt_values t_values qt_widths t_widths qt_below t_below qt_sizes t_sizes qt_scales t_scales qt_parts t_parts qt_texts t_texts qt_lengths t_lengths t_end t_index t_flags t_twice t_width t_precision t_conversion t_broken qt_piece t_piece t_put t_head qt_tens t_tens t_count t_exponent qt_work t_work) s.heap.size = A := ⟨_, rfl⟩
  rw [hAe] at hA hD hAb hQ
  have hS : va_S A s.heap s.heap [] := va_S.rf
  have hl := lv_entry (([.ref qt, .int a1] : List Value)) (n := 4) (Nat.le_of_ble_eq_true rfl)
  rw [lg_entry_eq]
  generalize (lg_sl (([.ref qt, .int a1] : List Value)) ++ List.replicate (4 - (lg_sl (([.ref qt, .int a1] : List Value))).length) Slot.unset).toArray = ls at hl ⊢
  have hl : lv_has ls 4 [(0, .ref qt), (1, .int a1)] := hl
  have W_4 : ∀   (n_4 : Nat) (z4 : Int32 × Int32) (b_x2 : bl z4.1), lp_ (b_Model_isZeroSize_4 t_sizes a1 ) n_4 z4 = some res → ∀ (H : Heap) (locs : List Loc) (ls : Array Slot), va_P (gD G) vwCl (w_Model_clear G qt qt_draft t_draft t_drafted qt_result t_result t_length t_arguments qt_kinds t_kinds qt_values t_values qt_widths t_widths qt_below t_below qt_sizes t_sizes qt_scales t_scales qt_parts t_parts qt_texts t_texts qt_lengths t_lengths t_end t_index t_flags t_twice t_width t_precision t_conversion t_broken qt_piece t_piece t_put t_head qt_tens t_tens t_count t_exponent qt_work t_work) H → va_D A (w_Model_clear G qt qt_draft t_draft t_drafted qt_result t_result t_length t_arguments qt_kinds t_kinds qt_values t_values qt_widths t_widths qt_below t_below qt_sizes t_sizes qt_scales t_scales qt_parts t_parts qt_texts t_texts qt_lengths t_lengths t_end t_index t_flags t_twice t_width t_precision t_conversion t_broken qt_piece t_piece t_put t_head qt_tens t_tens t_count t_exponent qt_work t_work) → va_S A s.heap H locs → lv_has ls 4 [(0, .ref qt), (1, .int a1), (2, .int z4.1), (3, .int z4.2)] → W p l e { frames := 0, cells := 0, slots := 0, locals := 0 } s m ([.ref qt, .int a1] : List Value).toArray below meth c H locs 0 0 Q (F0 m 4 ls []) := by
    intro  n_4
    induction n_4 with
    | zero =>
      intro z4 b_x2 hf
      cases hf
    | succ n_4 ih_4 =>
      intro z4 b_x2 hf H locs ls hP hD hS hl
      have hf : b_Model_isZeroSize_4 t_sizes a1  (lp_ (b_Model_isZeroSize_4 t_sizes a1 ) n_4) z4 = some res := hf
      generalize lp_ (b_Model_isZeroSize_4 t_sizes a1 ) n_4 = rec_4 at hf ih_4
      have W_33 : ∀ (x3 : Int32) (k0 : Int32) (b_k0 : bl k0), k_Model_isZeroSize_33 rec_4 x3 k0 = some res → ∀ (H : Heap) (locs : List Loc) (ls : Array Slot), va_P (gD G) vwCl (w_Model_clear G qt qt_draft t_draft t_drafted qt_result t_result t_length t_arguments qt_kinds t_kinds qt_values t_values qt_widths t_widths qt_below t_below qt_sizes t_sizes qt_scales t_scales qt_parts t_parts qt_texts t_texts qt_lengths t_lengths t_end t_index t_flags t_twice t_width t_precision t_conversion t_broken qt_piece t_piece t_put t_head qt_tens t_tens t_count t_exponent qt_work t_work) H → va_D A (w_Model_clear G qt qt_draft t_draft t_drafted qt_result t_result t_length t_arguments qt_kinds t_kinds qt_values t_values qt_widths t_widths qt_below t_below qt_sizes t_sizes qt_scales t_scales qt_parts t_parts qt_texts t_texts qt_lengths t_lengths t_end t_index t_flags t_twice t_width t_precision t_conversion t_broken qt_piece t_piece t_put t_head qt_tens t_tens t_count t_exponent qt_work t_work) → va_S A s.heap H locs → lv_has ls 4 [(0, .ref qt), (1, .int a1), (3, .int x3)] → W p l e { frames := 0, cells := 0, slots := 0, locals := 0 } s m ([.ref qt, .int a1] : List Value).toArray below meth c H locs 0 0 Q (F0 m 33 ls [.int k0]) := by
        intro x3 k0 b_k0 hf H locs ls hP hD hS hl
        unfold k_Model_isZeroSize_33 at hf
        refine lv_istore_n (lv' := [(2, .int k0), (0, .ref qt), (1, .int a1), (3, .int x3)]) hx hb d_Model_isZeroSize_33 rfl hl (by decide) rfl (fun ls hl => ?_)
        refine lv_iinc (v := (x3 + 1)) (lv' := [(3, .int (x3 + 1)), (2, .int k0), (0, .ref qt), (1, .int a1)]) hx hb d_Model_isZeroSize_34 hl (k := 3) rfl rfl (by decide) rfl (fun ls hl => ?_)
        refine lv_goto (tgt := 4) hx hb d_Model_isZeroSize_37 (by decide) ?_
        exact ih_4 (k0, (x3 + 1)) b_k0 hf _ _ _ hP hD hS (lv_sub hl [2, 3, 1, 0] rfl)
      have W_32 : ∀ (x3 : Int32) , k_Model_isZeroSize_32 rec_4 x3 = some res → ∀ (H : Heap) (locs : List Loc) (ls : Array Slot), va_P (gD G) vwCl (w_Model_clear G qt qt_draft t_draft t_drafted qt_result t_result t_length t_arguments qt_kinds t_kinds qt_values t_values qt_widths t_widths qt_below t_below qt_sizes t_sizes qt_scales t_scales qt_parts t_parts qt_texts t_texts qt_lengths t_lengths t_end t_index t_flags t_twice t_width t_precision t_conversion t_broken qt_piece t_piece t_put t_head qt_tens t_tens t_count t_exponent qt_work t_work) H → va_D A (w_Model_clear G qt qt_draft t_draft t_drafted qt_result t_result t_length t_arguments qt_kinds t_kinds qt_values t_values qt_widths t_widths qt_below t_below qt_sizes t_sizes qt_scales t_scales qt_parts t_parts qt_texts t_texts qt_lengths t_lengths t_end t_index t_flags t_twice t_width t_precision t_conversion t_broken qt_piece t_piece t_put t_head qt_tens t_tens t_count t_exponent qt_work t_work) → va_S A s.heap H locs → lv_has ls 4 [(0, .ref qt), (1, .int a1), (3, .int x3)] → W p l e { frames := 0, cells := 0, slots := 0, locals := 0 } s m ([.ref qt, .int a1] : List Value).toArray below meth c H locs 0 0 Q (F0 m 32 ls []) := by
        intro x3  hf H locs ls hP hD hS hl
        unfold k_Model_isZeroSize_32 at hf
        refine lv_iconst (v := 0) hx hb d_Model_isZeroSize_32 (by decide) ?_
        exact W_33 x3 (0 : Int32) bl_0 hf _ _ _ hP hD hS (lv_sub hl [0, 1, 2] rfl)
      unfold b_Model_isZeroSize_4 at hf
      refine lv_iload_n hx hb d_Model_isZeroSize_4 rfl (lv_at hl 3 rfl) ?_
      refine lv_bipush (v := 32) hx hb d_Model_isZeroSize_5 (by decide) ?_
      refine lv_icmp_ge (tgt := 40) hx hb d_Model_isZeroSize_7 (by decide) (fun c_7 => ?_) (fun c_7 => ?_)
      · have hf := ip_ c_7 hf
        refine lv_iload_n hx hb d_Model_isZeroSize_40 rfl (lv_at hl 2 rfl) ?_
        obtain rfl := Option.some.inj hf
        rw [← hQ]
        exact W.zret (v := z4.1) hx hb hr (bl_n b_x2) (fun t9 ht hW => ⟨⟨z4.1, (), rfl, ⟨rfl, b_x2⟩, ⟨by rw [ht]; exact hP, hD⟩⟩, hS.F ht⟩) hS.2.2 d_Model_isZeroSize_41
      · have hf := in_ c_7 hf
        refine lv_iload_n hx hb d_Model_isZeroSize_10 rfl (lv_at hl 2 rfl) ?_
        refine lv_if_eq (tgt := 32) hx hb d_Model_isZeroSize_11 (by decide) (fun c_11 => ?_) (fun c_11 => ?_)
        · have hf := ip_ c_11 hf
          exact W_32 z4.2  hf _ _ _ hP hD hS (lv_sub hl [0, 1, 3] rfl)
        · have hf := in_ c_11 hf
          refine lv_aload_n hx hb d_Model_isZeroSize_14 rfl (lv_at hl 0 rfl) ?_
          refine va_get (D := gD G) (ci := 7) (v := .ref qt_sizes) (C := R_Model) (T := F_Model) (N := 29) hx hb hg in_Model hown hK hP 0 rfl rfl 9 (by decide) (hg _ m_385) (fun _ h9 => h9) rfl d_Model_isZeroSize_15 ?_
          refine lv_bipush (v := 32) hx hb d_Model_isZeroSize_18 (by decide) ?_
          refine lv_iload_n hx hb d_Model_isZeroSize_20 rfl (lv_at hl 1 rfl) ?_
          refine lv_imul hx hb d_Model_isZeroSize_21 ?_
          refine lv_iload_n hx hb d_Model_isZeroSize_22 rfl (lv_at hl 3 rfl) ?_
          refine lv_iadd hx hb d_Model_isZeroSize_23 ?_
          obtain ⟨g_24, hf⟩ := gd_ hf
          refine va_iald hx hb hK hP 7 1 rfl rfl (inB_in g_24) d_Model_isZeroSize_24 ?_
          refine lv_if_ne (tgt := 32) hx hb d_Model_isZeroSize_25 (by decide) (fun c_25 => ?_) (fun c_25 => ?_)
          · have hf := in_ c_25 hf
            exact W_32 z4.2  hf _ _ _ hP hD hS (lv_sub hl [0, 1, 3] rfl)
          · have hf := ip_ c_25 hf
            refine lv_iconst (v := 1) hx hb d_Model_isZeroSize_28 (by decide) ?_
            refine lv_goto (tgt := 33) hx hb d_Model_isZeroSize_29 (by decide) ?_
            exact W_33 z4.2 (1 : Int32) bl_1 hf _ _ _ hP hD hS (lv_sub hl [0, 1, 3] rfl)
  unfold f_Model_isZeroSize at hf
  refine lv_iconst (v := 1) hx hb d_Model_isZeroSize_0 (by decide) ?_
  refine lv_istore_n (lv' := [(2, .int (1 : Int32)), (0, .ref qt), (1, .int a1)]) hx hb d_Model_isZeroSize_1 rfl hl (by decide) rfl (fun ls hl => ?_)
  refine lv_iconst (v := 0) hx hb d_Model_isZeroSize_2 (by decide) ?_
  refine lv_istore_n (lv' := [(3, .int (0 : Int32)), (2, .int (1 : Int32)), (0, .ref qt), (1, .int a1)]) hx hb d_Model_isZeroSize_3 rfl hl (by decide) rfl (fun ls hl => ?_)
  exact W_4   K ((1 : Int32), (0 : Int32)) bl_1 hf _ _ _ hP hD hS (lv_sub hl [2, 3, 1, 0] rfl)
theorem d_Model_isBelow_0 : decode cd_Model_isBelow 0 = .ok (.aload_n 0, 1) := by decide +kernel
theorem d_Model_isBelow_1 : decode cd_Model_isBelow 1 = .ok (.getfield 16, 3) := by decide +kernel
theorem d_Model_isBelow_4 : decode cd_Model_isBelow 4 = .ok (.iload_n 1, 1) := by decide +kernel
theorem d_Model_isBelow_5 : decode cd_Model_isBelow 5 = .ok (.iaload, 1) := by decide +kernel
theorem d_Model_isBelow_6 : decode cd_Model_isBelow 6 = .ok (.bipush 6, 2) := by decide +kernel
theorem d_Model_isBelow_8 : decode cd_Model_isBelow 8 = .ok (.if_icmp .ne 12, 3) := by decide +kernel
theorem d_Model_isBelow_11 : decode cd_Model_isBelow 11 = .ok (.aload_n 0, 1) := by decide +kernel
theorem d_Model_isBelow_12 : decode cd_Model_isBelow 12 = .ok (.getfield 26, 3) := by decide +kernel
theorem d_Model_isBelow_15 : decode cd_Model_isBelow 15 = .ok (.iload_n 1, 1) := by decide +kernel
theorem d_Model_isBelow_16 : decode cd_Model_isBelow 16 = .ok (.baload, 1) := by decide +kernel
theorem d_Model_isBelow_17 : decode cd_Model_isBelow 17 = .ok (.goto 25, 3) := by decide +kernel
theorem d_Model_isBelow_20 : decode cd_Model_isBelow 20 = .ok (.aload_n 0, 1) := by decide +kernel
theorem d_Model_isBelow_21 : decode cd_Model_isBelow 21 = .ok (.getfield 26, 3) := by decide +kernel
theorem d_Model_isBelow_24 : decode cd_Model_isBelow 24 = .ok (.iload_n 1, 1) := by decide +kernel
theorem d_Model_isBelow_25 : decode cd_Model_isBelow 25 = .ok (.baload, 1) := by decide +kernel
theorem d_Model_isBelow_26 : decode cd_Model_isBelow 26 = .ok (.ifCond .eq 15, 3) := by decide +kernel
theorem d_Model_isBelow_29 : decode cd_Model_isBelow 29 = .ok (.aload_n 0, 1) := by decide +kernel
theorem d_Model_isBelow_30 : decode cd_Model_isBelow 30 = .ok (.iload_n 1, 1) := by decide +kernel
theorem d_Model_isBelow_31 : decode cd_Model_isBelow 31 = .ok (.invokevirtual 174, 3) := by decide +kernel
theorem d_Model_isBelow_34 : decode cd_Model_isBelow 34 = .ok (.ifCond .ne 7, 3) := by decide +kernel
theorem d_Model_isBelow_37 : decode cd_Model_isBelow 37 = .ok (.iconst 1, 1) := by decide +kernel
theorem d_Model_isBelow_38 : decode cd_Model_isBelow 38 = .ok (.goto 4, 3) := by decide +kernel
theorem d_Model_isBelow_41 : decode cd_Model_isBelow 41 = .ok (.iconst 0, 1) := by decide +kernel
theorem d_Model_isBelow_42 : decode cd_Model_isBelow 42 = .ok (.ireturn, 1) := by decide +kernel
theorem m_482 : Cond.methodLink R_Model 174 y_Model_isZeroSize ∈ gw := gm (i := 1091) (by decide +kernel) (by decide +kernel)
theorem m_483 : Cond.instanceMethod y_Model_isZeroSize ∈ gw := gm (i := 1093) (by decide +kernel) (by decide +kernel)
theorem m_484 : Cond.selects R_Model y_Model_isZeroSize y_Model_isZeroSize ∈ gw := gm (i := 57) (by decide +kernel) (by decide +kernel)
set_option maxRecDepth 100000 in
theorem m_485 : Cond.code y_Model_isZeroSize cd_Model_isZeroSize 4 (some .boolean) ∈ gw := gm (i := 1094) rfl rfl
def f_Model_isBelow (K : Nat) (t_kinds : Nat → Int32) (t_below : Nat → Int32) (t_sizes : Nat → Int32) (a1 : Int32) : Option Int32 :=
  (if inB a1 12 = true then (if (t_kinds a1.toNatClampNeg) = (6 : Int32) then (if inB a1 12 = true then (if blB (t_below a1.toNatClampNeg) = true then some (t_below a1.toNatClampNeg) else none) else none) else (if inB a1 12 = true then (if (t_below a1.toNatClampNeg) = 0 then some (0 : Int32) else ((f_Model_isZeroSize K t_sizes a1).bind fun u_31 => (if u_31 = 0 then some (1 : Int32) else some (0 : Int32)))) else none)) else none)
set_option maxHeartbeats 4000000 in
set_option maxRecDepth 100000 in
theorem c_Model_isBelow (l : Launch) (G : Gt) (K : Nat) (qt : Nat) (qt_draft : Nat) (t_draft : Nat → Int32) (t_drafted : Int32) (qt_result : Nat) (t_result : Nat → Int32) (t_length : Int32) (t_arguments : Int32) (qt_kinds : Nat) (t_kinds : Nat → Int32) (qt_values : Nat) (t_values : Nat → Int64) (qt_widths : Nat) (t_widths : Nat → Int32) (qt_below : Nat) (t_below : Nat → Int32) (qt_sizes : Nat) (t_sizes : Nat → Int32) (qt_scales : Nat) (t_scales : Nat → Int32) (qt_parts : Nat) (t_parts : Nat → Int64) (qt_texts : Nat) (t_texts : Nat → Int32) (qt_lengths : Nat) (t_lengths : Nat → Int32) (t_end : Int32) (t_index : Int32) (t_flags : Int32) (t_twice : Int32) (t_width : Int32) (t_precision : Int32) (t_conversion : Int32) (t_broken : Int32) (qt_piece : Nat) (t_piece : Nat → Int32) (t_put : Int32) (t_head : Int32) (qt_tens : Nat) (t_tens : Nat → Int32) (t_count : Int32) (t_exponent : Int32) (qt_work : Nat) (t_work : Nat → Int32) (a1 : Int32) (sz : Nat) (res : Int32)   (hf : f_Model_isBelow K t_kinds t_below t_sizes a1 = some res) : Met l y_Model_isBelow (.code y_Model_isBelow cd_Model_isBelow 2 (some .boolean) :: gw) { frames := 1, cells := 0, slots := 0, locals := 40 } (PC G ([.ref qt, .int a1] : List Value) sz (w_Model_clear G qt qt_draft t_draft t_drafted qt_result t_result t_length t_arguments qt_kinds t_kinds qt_values t_values qt_widths t_widths qt_below t_below qt_sizes t_sizes qt_scales t_scales qt_parts t_parts qt_texts t_texts qt_lengths t_lengths t_end t_index t_flags t_twice t_width t_precision t_conversion t_broken qt_piece t_piece t_put t_head qt_tens t_tens t_count t_exponent qt_work t_work)) (QZ G res (va_A (w_Model_clear G qt qt_draft t_draft t_drafted qt_result t_result t_length t_arguments qt_kinds t_kinds qt_values t_values qt_widths t_widths qt_below t_below qt_sizes t_sizes qt_scales t_scales qt_parts t_parts qt_texts t_texts qt_lengths t_lengths t_end t_index t_flags t_twice t_width t_precision t_conversion t_broken qt_piece t_piece t_put t_head qt_tens t_tens t_count t_exponent qt_work t_work) sz) (w_Model_clear G qt qt_draft t_draft t_drafted qt_result t_result t_length t_arguments qt_kinds t_kinds qt_values t_values qt_widths t_widths qt_below t_below qt_sizes t_sizes qt_scales t_scales qt_parts t_parts qt_texts t_texts qt_lengths t_lengths t_end t_index t_flags t_twice t_width t_precision t_conversion t_broken qt_piece t_piece t_put t_head qt_tens t_tens t_count t_exponent qt_work t_work)) 0 0 (va_A (w_Model_clear G qt qt_draft t_draft t_drafted qt_result t_result t_length t_arguments qt_kinds t_kinds qt_values t_values qt_widths t_widths qt_below t_below qt_sizes t_sizes qt_scales t_scales qt_parts t_parts qt_texts t_texts qt_lengths t_lengths t_end t_index t_flags t_twice t_width t_precision t_conversion t_broken qt_piece t_piece t_put t_head qt_tens t_tens t_count t_exponent qt_work t_work) sz) := by
  refine Met.ofW (cc := cd_Model_isBelow) (maxL := 2) (ret := (some .boolean)) (by decide) rfl ?_
  intro p e s m args below meth c s₁ B hml hv
  obtain ⟨rfl, hsz, hP, hE, hD0⟩ := hv
  have hx := B.exec
  have hb := B.bytes
  have hr := B.returns
  have hts := atoms_spec (ws := (.code y_Model_isBelow cd_Model_isBelow 2 (some .boolean) :: gw)) B.pre
  have hg : ∀ w ∈ gw, w.before _ s = true := fun w h => hts w (List.mem_cons_of_mem _ h)
  have hown : s.vm.findClass R_Model = some m.cls := findClass_of_methodNamed B.named
  have hlocks := B.notSynchronized
  subst hsz
  have hK := hE.K
  have hD := hD0.self (sz := s.heap.size)
  have hAb := hE.ab hD0
  obtain ⟨Q, hQ⟩ : ∃ Q, MQ below (QZ G res (va_A (w_Model_clear G qt qt_draft t_draft t_drafted qt_result t_result t_length t_arguments qt_kinds t_kinds qt_values t_values qt_widths t_widths qt_below t_below qt_sizes t_sizes qt_scales t_scales qt_parts t_parts qt_texts t_texts qt_lengths t_lengths t_end t_index t_flags t_twice t_width t_precision t_conversion t_broken qt_piece t_piece t_put t_head qt_tens t_tens t_count t_exponent qt_work t_work) s.heap.size) (w_Model_clear G qt qt_draft t_draft t_drafted qt_result t_result t_length t_arguments qt_kinds t_kinds qt_values t_values qt_widths t_widths qt_below t_below qt_sizes t_sizes qt_scales t_scales qt_parts t_parts qt_texts t_texts qt_lengths t_lengths t_end t_index t_flags t_twice t_width t_precision t_conversion t_broken qt_piece t_piece t_put t_head qt_tens t_tens t_count t_exponent qt_work t_work)) ([.ref qt, .int a1] : List Value).toArray s 0 0 (va_A (w_Model_clear G qt qt_draft t_draft t_drafted qt_result t_result t_length t_arguments qt_kinds t_kinds qt_values t_values qt_widths t_widths qt_below t_below qt_sizes t_sizes qt_scales t_scales qt_parts t_parts qt_texts t_texts qt_lengths t_lengths t_end t_index t_flags t_twice t_width t_precision t_conversion t_broken qt_piece t_piece t_put t_head qt_tens t_tens t_count t_exponent qt_work t_work) s.heap.size) = Q := ⟨_, rfl⟩
  show W p l e { frames := 1, cells := 0, slots := 0, locals := 40 } s m ([.ref qt, .int a1] : List Value).toArray below meth c s.heap [] 0 0 (MQ below (QZ G res (va_A (w_Model_clear G qt qt_draft t_draft t_drafted qt_result t_result t_length t_arguments qt_kinds t_kinds qt_values t_values qt_widths t_widths qt_below t_below qt_sizes t_sizes qt_scales t_scales qt_parts t_parts qt_texts t_texts qt_lengths t_lengths t_end t_index t_flags t_twice t_width t_precision t_conversion t_broken qt_piece t_piece t_put t_head qt_tens t_tens t_count t_exponent qt_work t_work) s.heap.size) (w_Model_clear G qt qt_draft t_draft t_drafted qt_result t_result t_length t_arguments qt_kinds t_kinds qt_values t_values qt_widths t_widths qt_below t_below qt_sizes t_sizes qt_scales t_scales qt_parts t_parts qt_texts t_texts qt_lengths t_lengths t_end t_index t_flags t_twice t_width t_precision t_conversion t_broken qt_piece t_piece t_put t_head qt_tens t_tens t_count t_exponent qt_work t_work)) ([.ref qt, .int a1] : List Value).toArray s 0 0 (va_A (w_Model_clear G qt qt_draft t_draft t_drafted qt_result t_result t_length t_arguments qt_kinds t_kinds qt_values t_values qt_widths t_widths qt_below t_below qt_sizes t_sizes qt_scales t_scales qt_parts t_parts qt_texts t_texts qt_lengths t_lengths t_end t_index t_flags t_twice t_width t_precision t_conversion t_broken qt_piece t_piece t_put t_head qt_tens t_tens t_count t_exponent qt_work t_work) s.heap.size)) _
  rw [hQ]
  have hA : ∀ q : Nat, s.heap.size ≤ q → va_A (w_Model_clear G qt qt_draft t_draft t_drafted qt_result t_result t_length t_arguments qt_kinds t_kinds qt_values t_values qt_widths t_widths qt_below t_below qt_sizes t_sizes qt_scales t_scales qt_parts t_parts qt_texts t_texts qt_lengths t_lengths t_end t_index t_flags t_twice t_width t_precision t_conversion t_broken qt_piece t_piece t_put t_head qt_tens t_tens t_count t_exponent qt_work t_work) s.heap.size q := fun q h => Or.inr h
  obtain ⟨A, hAe⟩ : ∃ A, va_A (w_Model_clear G qt qt_draft t_draft t_drafted qt_result t_result t_length t_arguments qt_kinds t_kinds qt_values t_values qt_widths t_widths qt_below t_below qt_sizes t_sizes qt_scales t_scales qt_parts t_parts qt_texts t_texts qt_lengths t_lengths t_end t_index t_flags t_twice t_width t_precision t_conversion t_broken qt_piece t_piece t_put t_head qt_tens t_tens t_count t_exponent qt_work t_work) s.heap.size = A := ⟨_, rfl⟩
  rw [hAe] at hA hD hAb hQ
  have hS : va_S A s.heap s.heap [] := va_S.rf
  have hl := lv_entry (([.ref qt, .int a1] : List Value)) (n := 2) (Nat.le_of_ble_eq_true rfl)
  rw [lg_entry_eq]
  generalize (lg_sl (([.ref qt, .int a1] : List Value)) ++ List.replicate (2 - (lg_sl (([.ref qt, .int a1] : List Value))).length) Slot.unset).toArray = ls at hl ⊢
  have hl : lv_has ls 2 [(0, .ref qt), (1, .int a1)] := hl
  unfold f_Model_isBelow at hf
  refine lv_aload_n hx hb d_Model_isBelow_0 rfl (lv_at hl 0 rfl) ?_
  refine va_get (D := gD G) (ci := 7) (v := .ref qt_kinds) (C := R_Model) (T := F_Model) (N := 29) hx hb hg in_Model hown hK hP 0 rfl rfl 5 (by decide) (hg _ m_382) (fun _ h9 => h9) rfl d_Model_isBelow_1 ?_
  refine lv_iload_n hx hb d_Model_isBelow_4 rfl (lv_at hl 1 rfl) ?_
  obtain ⟨g_5, hf⟩ := gd_ hf
  refine va_iald hx hb hK hP 3 1 rfl rfl (inB_in g_5) d_Model_isBelow_5 ?_
  refine lv_bipush (v := 6) hx hb d_Model_isBelow_6 (by decide) ?_
  refine lv_icmp_ne (tgt := 20) hx hb d_Model_isBelow_8 (by decide) (fun c_8 => ?_) (fun c_8 => ?_)
  · have hf := in_ c_8 hf
    refine lv_aload_n hx hb d_Model_isBelow_20 rfl (lv_at hl 0 rfl) ?_
    refine va_get (D := gD G) (ci := 7) (v := .ref qt_below) (C := R_Model) (T := F_Model) (N := 29) hx hb hg in_Model hown hK hP 0 rfl rfl 8 (by decide) (hg _ m_384) (fun _ h9 => h9) rfl d_Model_isBelow_21 ?_
    refine lv_iload_n hx hb d_Model_isBelow_24 rfl (lv_at hl 1 rfl) ?_
    obtain ⟨g_25, hf⟩ := gd_ hf
    refine va_zald hx hb hK hP 6 3 rfl rfl (inB_in g_25) d_Model_isBelow_25 ?_
    refine lv_if_eq (tgt := 41) hx hb d_Model_isBelow_26 (by decide) (fun c_26 => ?_) (fun c_26 => ?_)
    · have hf := ip_ c_26 hf
      refine lv_iconst (v := 0) hx hb d_Model_isBelow_41 (by decide) ?_
      obtain rfl := Option.some.inj hf
      rw [← hQ]
      exact W.zret (v := (0 : Int32)) hx hb hr (bl_n bl_0) (fun t9 ht hW => ⟨⟨(0 : Int32), (), rfl, ⟨rfl, bl_0⟩, ⟨by rw [ht]; exact hP, hD⟩⟩, hS.F ht⟩) hS.2.2 d_Model_isBelow_42
    · have hf := in_ c_26 hf
      refine lv_aload_n hx hb d_Model_isBelow_29 rfl (lv_at hl 0 rfl) ?_
      refine lv_iload_n hx hb d_Model_isBelow_30 rfl (lv_at hl 1 rfl) ?_
      obtain ⟨u_31, hu_31, hf⟩ := bd_ hf
      refine CALLWz (va_runV (As := [.int a1]) (rest := []) ⟨hx, hb, hml, hown, hg⟩ (c_Model_isZeroSize l G K qt qt_draft t_draft t_drafted qt_result t_result t_length t_arguments qt_kinds t_kinds qt_values t_values qt_widths t_widths qt_below t_below qt_sizes t_sizes qt_scales t_scales qt_parts t_parts qt_texts t_texts qt_lengths t_lengths t_end t_index t_flags t_twice t_width t_precision t_conversion t_broken qt_piece t_piece t_put t_head qt_tens t_tens t_count t_exponent qt_work t_work a1 _ u_31  hu_31) (cwV 1 hg (gV m_482 m_483 m_484 m_389 m_485) rfl rfl rfl (by decide +kernel) ⟨Nat.le_of_ble_eq_true rfl, Nat.le_of_ble_eq_true rfl⟩) ⟨PC_b, va_recv hK hP (ci := 7) (q0 := 0) rfl rfl, PC_p hE hS hAb hP hD⟩ rfl rfl hl.1 rfl (lv_room (Nat.le_of_ble_eq_true rfl)) d_Model_isBelow_31 ⟨Nat.zero_le _, Nat.zero_le _⟩) hP hD hS hA (fun bu_31 H locs hP hD hS => ?_)
      have hP : va_P (gD G) vwCl (w_Model_clear G qt qt_draft t_draft t_drafted qt_result t_result t_length t_arguments qt_kinds t_kinds qt_values t_values qt_widths t_widths qt_below t_below qt_sizes t_sizes qt_scales t_scales qt_parts t_parts qt_texts t_texts qt_lengths t_lengths t_end t_index t_flags t_twice t_width t_precision t_conversion t_broken qt_piece t_piece t_put t_head qt_tens t_tens t_count t_exponent qt_work t_work) H := hP
      have hD : va_D A (w_Model_clear G qt qt_draft t_draft t_drafted qt_result t_result t_length t_arguments qt_kinds t_kinds qt_values t_values qt_widths t_widths qt_below t_below qt_sizes t_sizes qt_scales t_scales qt_parts t_parts qt_texts t_texts qt_lengths t_lengths t_end t_index t_flags t_twice t_width t_precision t_conversion t_broken qt_piece t_piece t_put t_head qt_tens t_tens t_count t_exponent qt_work t_work) := hD
      refine lv_if_ne (tgt := 41) hx hb d_Model_isBelow_34 (by decide) (fun c_34 => ?_) (fun c_34 => ?_)
      · have hf := in_ c_34 hf
        refine lv_iconst (v := 0) hx hb d_Model_isBelow_41 (by decide) ?_
        obtain rfl := Option.some.inj hf
        rw [← hQ]
        exact W.zret (v := (0 : Int32)) hx hb hr (bl_n bl_0) (fun t9 ht hW => ⟨⟨(0 : Int32), (), rfl, ⟨rfl, bl_0⟩, ⟨by rw [ht]; exact hP, hD⟩⟩, hS.F ht⟩) hS.2.2 d_Model_isBelow_42
      · have hf := ip_ c_34 hf
        refine lv_iconst (v := 1) hx hb d_Model_isBelow_37 (by decide) ?_
        refine lv_goto (tgt := 42) hx hb d_Model_isBelow_38 (by decide) ?_
        obtain rfl := Option.some.inj hf
        rw [← hQ]
        exact W.zret (v := (1 : Int32)) hx hb hr (bl_n bl_1) (fun t9 ht hW => ⟨⟨(1 : Int32), (), rfl, ⟨rfl, bl_1⟩, ⟨by rw [ht]; exact hP, hD⟩⟩, hS.F ht⟩) hS.2.2 d_Model_isBelow_42
  · have hf := ip_ c_8 hf
    refine lv_aload_n hx hb d_Model_isBelow_11 rfl (lv_at hl 0 rfl) ?_
    refine va_get (D := gD G) (ci := 7) (v := .ref qt_below) (C := R_Model) (T := F_Model) (N := 29) hx hb hg in_Model hown hK hP 0 rfl rfl 8 (by decide) (hg _ m_384) (fun _ h9 => h9) rfl d_Model_isBelow_12 ?_
    refine lv_iload_n hx hb d_Model_isBelow_15 rfl (lv_at hl 1 rfl) ?_
    obtain ⟨g_16, hf⟩ := gd_ hf
    refine va_zald hx hb hK hP 6 3 rfl rfl (inB_in g_16) d_Model_isBelow_16 ?_
    refine lv_goto (tgt := 42) hx hb d_Model_isBelow_17 (by decide) ?_
    obtain ⟨w_42_1, hf⟩ := gd_ hf
    have w_42_1 := blB_ w_42_1
    obtain rfl := Option.some.inj hf
    rw [← hQ]
    exact W.zret (v := (t_below a1.toNatClampNeg)) hx hb hr (bl_n w_42_1) (fun t9 ht hW => ⟨⟨(t_below a1.toNatClampNeg), (), rfl, ⟨rfl, w_42_1⟩, ⟨by rw [ht]; exact hP, hD⟩⟩, hS.F ht⟩) hS.2.2 d_Model_isBelow_42
theorem d_Model_isLast_0 : decode cd_Model_isLast 0 = .ok (.aload_n 0, 1) := by decide +kernel
theorem d_Model_isLast_1 : decode cd_Model_isLast 1 = .ok (.getfield 16, 3) := by decide +kernel
theorem d_Model_isLast_4 : decode cd_Model_isLast 4 = .ok (.iload_n 1, 1) := by decide +kernel
theorem d_Model_isLast_5 : decode cd_Model_isLast 5 = .ok (.iaload, 1) := by decide +kernel
theorem d_Model_isLast_6 : decode cd_Model_isLast 6 = .ok (.bipush 6, 2) := by decide +kernel
theorem d_Model_isLast_8 : decode cd_Model_isLast 8 = .ok (.if_icmp .ne 27, 3) := by decide +kernel
theorem d_Model_isLast_11 : decode cd_Model_isLast 11 = .ok (.aload_n 0, 1) := by decide +kernel
theorem d_Model_isLast_12 : decode cd_Model_isLast 12 = .ok (.getfield 19, 3) := by decide +kernel
theorem d_Model_isLast_15 : decode cd_Model_isLast 15 = .ok (.iload_n 1, 1) := by decide +kernel
theorem d_Model_isLast_16 : decode cd_Model_isLast 16 = .ok (.laload, 1) := by decide +kernel
theorem d_Model_isLast_17 : decode cd_Model_isLast 17 = .ok (.bipush 52, 2) := by decide +kernel
theorem d_Model_isLast_19 : decode cd_Model_isLast 19 = .ok (.lshr, 1) := by decide +kernel
theorem d_Model_isLast_20 : decode cd_Model_isLast 20 = .ok (.ldc2_w 193, 3) := by decide +kernel
theorem d_Model_isLast_23 : decode cd_Model_isLast 23 = .ok (.land, 1) := by decide +kernel
theorem d_Model_isLast_24 : decode cd_Model_isLast 24 = .ok (.ldc2_w 193, 3) := by decide +kernel
theorem d_Model_isLast_27 : decode cd_Model_isLast 27 = .ok (.lcmp, 1) := by decide +kernel
theorem d_Model_isLast_28 : decode cd_Model_isLast 28 = .ok (.ifCond .ne 7, 3) := by decide +kernel
theorem d_Model_isLast_31 : decode cd_Model_isLast 31 = .ok (.iconst 1, 1) := by decide +kernel
theorem d_Model_isLast_32 : decode cd_Model_isLast 32 = .ok (.goto 4, 3) := by decide +kernel
theorem d_Model_isLast_35 : decode cd_Model_isLast 35 = .ok (.iconst 0, 1) := by decide +kernel
theorem d_Model_isLast_36 : decode cd_Model_isLast 36 = .ok (.ireturn, 1) := by decide +kernel
theorem m_486 : Cond.constantLong R_Model 193 2047 ∈ gw := gm (i := 1121) (by decide +kernel) (by decide +kernel)
def f_Model_isLast (t_kinds : Nat → Int32) (t_values : Nat → Int64) (a1 : Int32) : Option Int32 :=
  (if inB a1 12 = true then (if (t_kinds a1.toNatClampNeg) = (6 : Int32) then (if inB a1 12 = true then (if (lg_cmp (((t_values a1.toNatClampNeg) >>> ((52 : Int32).toInt64 &&& 63)) &&& (2047 : Int64)) (2047 : Int64)) = 0 then some (1 : Int32) else some (0 : Int32)) else none) else some (0 : Int32)) else none)
set_option maxHeartbeats 4000000 in
set_option maxRecDepth 100000 in
theorem c_Model_isLast (l : Launch) (G : Gt) (K : Nat) (qt : Nat) (qt_draft : Nat) (t_draft : Nat → Int32) (t_drafted : Int32) (qt_result : Nat) (t_result : Nat → Int32) (t_length : Int32) (t_arguments : Int32) (qt_kinds : Nat) (t_kinds : Nat → Int32) (qt_values : Nat) (t_values : Nat → Int64) (qt_widths : Nat) (t_widths : Nat → Int32) (qt_below : Nat) (t_below : Nat → Int32) (qt_sizes : Nat) (t_sizes : Nat → Int32) (qt_scales : Nat) (t_scales : Nat → Int32) (qt_parts : Nat) (t_parts : Nat → Int64) (qt_texts : Nat) (t_texts : Nat → Int32) (qt_lengths : Nat) (t_lengths : Nat → Int32) (t_end : Int32) (t_index : Int32) (t_flags : Int32) (t_twice : Int32) (t_width : Int32) (t_precision : Int32) (t_conversion : Int32) (t_broken : Int32) (qt_piece : Nat) (t_piece : Nat → Int32) (t_put : Int32) (t_head : Int32) (qt_tens : Nat) (t_tens : Nat → Int32) (t_count : Int32) (t_exponent : Int32) (qt_work : Nat) (t_work : Nat → Int32) (a1 : Int32) (sz : Nat) (res : Int32)   (hf : f_Model_isLast t_kinds t_values a1 = some res) : Met l y_Model_isLast (.code y_Model_isLast cd_Model_isLast 2 (some .boolean) :: gw) { frames := 0, cells := 0, slots := 0, locals := 0 } (PC G ([.ref qt, .int a1] : List Value) sz (w_Model_clear G qt qt_draft t_draft t_drafted qt_result t_result t_length t_arguments qt_kinds t_kinds qt_values t_values qt_widths t_widths qt_below t_below qt_sizes t_sizes qt_scales t_scales qt_parts t_parts qt_texts t_texts qt_lengths t_lengths t_end t_index t_flags t_twice t_width t_precision t_conversion t_broken qt_piece t_piece t_put t_head qt_tens t_tens t_count t_exponent qt_work t_work)) (QZ G res (va_A (w_Model_clear G qt qt_draft t_draft t_drafted qt_result t_result t_length t_arguments qt_kinds t_kinds qt_values t_values qt_widths t_widths qt_below t_below qt_sizes t_sizes qt_scales t_scales qt_parts t_parts qt_texts t_texts qt_lengths t_lengths t_end t_index t_flags t_twice t_width t_precision t_conversion t_broken qt_piece t_piece t_put t_head qt_tens t_tens t_count t_exponent qt_work t_work) sz) (w_Model_clear G qt qt_draft t_draft t_drafted qt_result t_result t_length t_arguments qt_kinds t_kinds qt_values t_values qt_widths t_widths qt_below t_below qt_sizes t_sizes qt_scales t_scales qt_parts t_parts qt_texts t_texts qt_lengths t_lengths t_end t_index t_flags t_twice t_width t_precision t_conversion t_broken qt_piece t_piece t_put t_head qt_tens t_tens t_count t_exponent qt_work t_work)) 0 0 (va_A (w_Model_clear G qt qt_draft t_draft t_drafted qt_result t_result t_length t_arguments qt_kinds t_kinds qt_values t_values qt_widths t_widths qt_below t_below qt_sizes t_sizes qt_scales t_scales qt_parts t_parts qt_texts t_texts qt_lengths t_lengths t_end t_index t_flags t_twice t_width t_precision t_conversion t_broken qt_piece t_piece t_put t_head qt_tens t_tens t_count t_exponent qt_work t_work) sz) := by
  refine Met.ofW (cc := cd_Model_isLast) (maxL := 2) (ret := (some .boolean)) (by decide) rfl ?_
  intro p e s m args below meth c s₁ B hml hv
  obtain ⟨rfl, hsz, hP, hE, hD0⟩ := hv
  have hx := B.exec
  have hb := B.bytes
  have hr := B.returns
  have hts := atoms_spec (ws := (.code y_Model_isLast cd_Model_isLast 2 (some .boolean) :: gw)) B.pre
  have hg : ∀ w ∈ gw, w.before _ s = true := fun w h => hts w (List.mem_cons_of_mem _ h)
  have hown : s.vm.findClass R_Model = some m.cls := findClass_of_methodNamed B.named
  have hlocks := B.notSynchronized
  subst hsz
  have hK := hE.K
  have hD := hD0.self (sz := s.heap.size)
  have hAb := hE.ab hD0
  obtain ⟨Q, hQ⟩ : ∃ Q, MQ below (QZ G res (va_A (w_Model_clear G qt qt_draft t_draft t_drafted qt_result t_result t_length t_arguments qt_kinds t_kinds qt_values t_values qt_widths t_widths qt_below t_below qt_sizes t_sizes qt_scales t_scales qt_parts t_parts qt_texts t_texts qt_lengths t_lengths t_end t_index t_flags t_twice t_width t_precision t_conversion t_broken qt_piece t_piece t_put t_head qt_tens t_tens t_count t_exponent qt_work t_work) s.heap.size) (w_Model_clear G qt qt_draft t_draft t_drafted qt_result t_result t_length t_arguments qt_kinds t_kinds qt_values t_values qt_widths t_widths qt_below t_below qt_sizes t_sizes qt_scales t_scales qt_parts t_parts qt_texts t_texts qt_lengths t_lengths t_end t_index t_flags t_twice t_width t_precision t_conversion t_broken qt_piece t_piece t_put t_head qt_tens t_tens t_count t_exponent qt_work t_work)) ([.ref qt, .int a1] : List Value).toArray s 0 0 (va_A (w_Model_clear G qt qt_draft t_draft t_drafted qt_result t_result t_length t_arguments qt_kinds t_kinds qt_values t_values qt_widths t_widths qt_below t_below qt_sizes t_sizes qt_scales t_scales qt_parts t_parts qt_texts t_texts qt_lengths t_lengths t_end t_index t_flags t_twice t_width t_precision t_conversion t_broken qt_piece t_piece t_put t_head qt_tens t_tens t_count t_exponent qt_work t_work) s.heap.size) = Q := ⟨_, rfl⟩
  show W p l e { frames := 0, cells := 0, slots := 0, locals := 0 } s m ([.ref qt, .int a1] : List Value).toArray below meth c s.heap [] 0 0 (MQ below (QZ G res (va_A (w_Model_clear G qt qt_draft t_draft t_drafted qt_result t_result t_length t_arguments qt_kinds t_kinds qt_values t_values qt_widths t_widths qt_below t_below qt_sizes t_sizes qt_scales t_scales qt_parts t_parts qt_texts t_texts qt_lengths t_lengths t_end t_index t_flags t_twice t_width t_precision t_conversion t_broken qt_piece t_piece t_put t_head qt_tens t_tens t_count t_exponent qt_work t_work) s.heap.size) (w_Model_clear G qt qt_draft t_draft t_drafted qt_result t_result t_length t_arguments qt_kinds t_kinds qt_values t_values qt_widths t_widths qt_below t_below qt_sizes t_sizes qt_scales t_scales qt_parts t_parts qt_texts t_texts qt_lengths t_lengths t_end t_index t_flags t_twice t_width t_precision t_conversion t_broken qt_piece t_piece t_put t_head qt_tens t_tens t_count t_exponent qt_work t_work)) ([.ref qt, .int a1] : List Value).toArray s 0 0 (va_A (w_Model_clear G qt qt_draft t_draft t_drafted qt_result t_result t_length t_arguments qt_kinds t_kinds qt_values t_values qt_widths t_widths qt_below t_below qt_sizes t_sizes qt_scales t_scales qt_parts t_parts qt_texts t_texts qt_lengths t_lengths t_end t_index t_flags t_twice t_width t_precision t_conversion t_broken qt_piece t_piece t_put t_head qt_tens t_tens t_count t_exponent qt_work t_work) s.heap.size)) _
  rw [hQ]
  have hA : ∀ q : Nat, s.heap.size ≤ q → va_A (w_Model_clear G qt qt_draft t_draft t_drafted qt_result t_result t_length t_arguments qt_kinds t_kinds qt_values t_values qt_widths t_widths qt_below t_below qt_sizes t_sizes qt_scales t_scales qt_parts t_parts qt_texts t_texts qt_lengths t_lengths t_end t_index t_flags t_twice t_width t_precision t_conversion t_broken qt_piece t_piece t_put t_head qt_tens t_tens t_count t_exponent qt_work t_work) s.heap.size q := fun q h => Or.inr h
  obtain ⟨A, hAe⟩ : ∃ A, va_A (w_Model_clear G qt qt_draft t_draft t_drafted qt_result t_result t_length t_arguments qt_kinds t_kinds qt_values t_values qt_widths t_widths qt_below t_below qt_sizes t_sizes qt_scales t_scales qt_parts t_parts qt_texts t_texts qt_lengths t_lengths t_end t_index t_flags t_twice t_width t_precision t_conversion t_broken qt_piece t_piece t_put t_head qt_tens t_tens t_count t_exponent qt_work t_work) s.heap.size = A := ⟨_, rfl⟩
  rw [hAe] at hA hD hAb hQ
  have hS : va_S A s.heap s.heap [] := va_S.rf
  have hl := lv_entry (([.ref qt, .int a1] : List Value)) (n := 2) (Nat.le_of_ble_eq_true rfl)
  rw [lg_entry_eq]
  generalize (lg_sl (([.ref qt, .int a1] : List Value)) ++ List.replicate (2 - (lg_sl (([.ref qt, .int a1] : List Value))).length) Slot.unset).toArray = ls at hl ⊢
  have hl : lv_has ls 2 [(0, .ref qt), (1, .int a1)] := hl
  unfold f_Model_isLast at hf
  refine lv_aload_n hx hb d_Model_isLast_0 rfl (lv_at hl 0 rfl) ?_
  refine va_get (D := gD G) (ci := 7) (v := .ref qt_kinds) (C := R_Model) (T := F_Model) (N := 29) hx hb hg in_Model hown hK hP 0 rfl rfl 5 (by decide) (hg _ m_382) (fun _ h9 => h9) rfl d_Model_isLast_1 ?_
  refine lv_iload_n hx hb d_Model_isLast_4 rfl (lv_at hl 1 rfl) ?_
  obtain ⟨g_5, hf⟩ := gd_ hf
  refine va_iald hx hb hK hP 3 1 rfl rfl (inB_in g_5) d_Model_isLast_5 ?_
  refine lv_bipush (v := 6) hx hb d_Model_isLast_6 (by decide) ?_
  refine lv_icmp_ne (tgt := 35) hx hb d_Model_isLast_8 (by decide) (fun c_8 => ?_) (fun c_8 => ?_)
  · have hf := in_ c_8 hf
    refine lv_iconst (v := 0) hx hb d_Model_isLast_35 (by decide) ?_
    obtain rfl := Option.some.inj hf
    rw [← hQ]
    exact W.zret (v := (0 : Int32)) hx hb hr (bl_n bl_0) (fun t9 ht hW => ⟨⟨(0 : Int32), (), rfl, ⟨rfl, bl_0⟩, ⟨by rw [ht]; exact hP, hD⟩⟩, hS.F ht⟩) hS.2.2 d_Model_isLast_36
  · have hf := ip_ c_8 hf
    refine lv_aload_n hx hb d_Model_isLast_11 rfl (lv_at hl 0 rfl) ?_
    refine va_get (D := gD G) (ci := 7) (v := .ref qt_values) (C := R_Model) (T := F_Model) (N := 29) hx hb hg in_Model hown hK hP 0 rfl rfl 6 (by decide) (hg _ m_383) (fun _ h9 => h9) rfl d_Model_isLast_12 ?_
    refine lv_iload_n hx hb d_Model_isLast_15 rfl (lv_at hl 1 rfl) ?_
    obtain ⟨g_16, hf⟩ := gd_ hf
    refine va_lald hx hb hK hP 4 2 rfl rfl (inB_in g_16) d_Model_isLast_16 ?_
    refine lv_bipush (v := 52) hx hb d_Model_isLast_17 (by decide) ?_
    refine lv_lshr (v := ((t_values a1.toNatClampNeg) >>> ((52 : Int32).toInt64 &&& 63))) hx hb d_Model_isLast_19 rfl ?_
    refine lv_ldc2 (v := 2047) hx hb hown (hg _ m_486) d_Model_isLast_20 ?_
    refine lv_land hx hb d_Model_isLast_23 ?_
    refine lv_ldc2 (v := 2047) hx hb hown (hg _ m_486) d_Model_isLast_24 ?_
    refine W.lcmp hx hb d_Model_isLast_27 ?_
    refine lv_if_ne (tgt := 35) hx hb d_Model_isLast_28 (by decide) (fun c_28 => ?_) (fun c_28 => ?_)
    · have hf := in_ c_28 hf
      refine lv_iconst (v := 0) hx hb d_Model_isLast_35 (by decide) ?_
      obtain rfl := Option.some.inj hf
      rw [← hQ]
      exact W.zret (v := (0 : Int32)) hx hb hr (bl_n bl_0) (fun t9 ht hW => ⟨⟨(0 : Int32), (), rfl, ⟨rfl, bl_0⟩, ⟨by rw [ht]; exact hP, hD⟩⟩, hS.F ht⟩) hS.2.2 d_Model_isLast_36
    · have hf := ip_ c_28 hf
      refine lv_iconst (v := 1) hx hb d_Model_isLast_31 (by decide) ?_
      refine lv_goto (tgt := 36) hx hb d_Model_isLast_32 (by decide) ?_
      obtain rfl := Option.some.inj hf
      rw [← hQ]
      exact W.zret (v := (1 : Int32)) hx hb hr (bl_n bl_1) (fun t9 ht hW => ⟨⟨(1 : Int32), (), rfl, ⟨rfl, bl_1⟩, ⟨by rw [ht]; exact hP, hD⟩⟩, hS.F ht⟩) hS.2.2 d_Model_isLast_36
theorem d_Model_isNone_0 : decode cd_Model_isNone 0 = .ok (.aload_n 0, 1) := by decide +kernel
theorem d_Model_isNone_1 : decode cd_Model_isNone 1 = .ok (.iload_n 1, 1) := by decide +kernel
theorem d_Model_isNone_2 : decode cd_Model_isNone 2 = .ok (.invokevirtual 195, 3) := by decide +kernel
theorem d_Model_isNone_5 : decode cd_Model_isNone 5 = .ok (.ifCond .eq 22, 3) := by decide +kernel
theorem d_Model_isNone_8 : decode cd_Model_isNone 8 = .ok (.aload_n 0, 1) := by decide +kernel
theorem d_Model_isNone_9 : decode cd_Model_isNone 9 = .ok (.getfield 19, 3) := by decide +kernel
theorem d_Model_isNone_12 : decode cd_Model_isNone 12 = .ok (.iload_n 1, 1) := by decide +kernel
theorem d_Model_isNone_13 : decode cd_Model_isNone 13 = .ok (.laload, 1) := by decide +kernel
theorem d_Model_isNone_14 : decode cd_Model_isNone 14 = .ok (.ldc2_w 198, 3) := by decide +kernel
theorem d_Model_isNone_17 : decode cd_Model_isNone 17 = .ok (.land, 1) := by decide +kernel
theorem d_Model_isNone_18 : decode cd_Model_isNone 18 = .ok (.lconst 0, 1) := by decide +kernel
theorem d_Model_isNone_19 : decode cd_Model_isNone 19 = .ok (.lcmp, 1) := by decide +kernel
theorem d_Model_isNone_20 : decode cd_Model_isNone 20 = .ok (.ifCond .eq 7, 3) := by decide +kernel
theorem d_Model_isNone_23 : decode cd_Model_isNone 23 = .ok (.iconst 1, 1) := by decide +kernel
theorem d_Model_isNone_24 : decode cd_Model_isNone 24 = .ok (.goto 4, 3) := by decide +kernel
theorem d_Model_isNone_27 : decode cd_Model_isNone 27 = .ok (.iconst 0, 1) := by decide +kernel
theorem d_Model_isNone_28 : decode cd_Model_isNone 28 = .ok (.ireturn, 1) := by decide +kernel
theorem m_487 : Cond.methodLink R_Model 195 y_Model_isLast ∈ gw := gm (i := 1117) (by decide +kernel) (by decide +kernel)
theorem m_488 : Cond.instanceMethod y_Model_isLast ∈ gw := gm (i := 1119) (by decide +kernel) (by decide +kernel)
theorem m_489 : Cond.selects R_Model y_Model_isLast y_Model_isLast ∈ gw := gm (i := 63) (by decide +kernel) (by decide +kernel)
set_option maxRecDepth 100000 in
theorem m_490 : Cond.code y_Model_isLast cd_Model_isLast 2 (some .boolean) ∈ gw := gm (i := 1120) rfl rfl
theorem m_491 : Cond.constantLong R_Model 198 4503599627370495 ∈ gw := gm (i := 1122) (by decide +kernel) (by decide +kernel)
def f_Model_isNone (t_kinds : Nat → Int32) (t_values : Nat → Int64) (a1 : Int32) : Option Int32 :=
  ((f_Model_isLast t_kinds t_values a1).bind fun u_2 => (if u_2 = 0 then some (0 : Int32) else (if inB a1 12 = true then (if (lg_cmp ((t_values a1.toNatClampNeg) &&& (4503599627370495 : Int64)) (0 : Int64)) = 0 then some (0 : Int32) else some (1 : Int32)) else none)))
set_option maxHeartbeats 4000000 in
set_option maxRecDepth 100000 in
theorem c_Model_isNone (l : Launch) (G : Gt) (K : Nat) (qt : Nat) (qt_draft : Nat) (t_draft : Nat → Int32) (t_drafted : Int32) (qt_result : Nat) (t_result : Nat → Int32) (t_length : Int32) (t_arguments : Int32) (qt_kinds : Nat) (t_kinds : Nat → Int32) (qt_values : Nat) (t_values : Nat → Int64) (qt_widths : Nat) (t_widths : Nat → Int32) (qt_below : Nat) (t_below : Nat → Int32) (qt_sizes : Nat) (t_sizes : Nat → Int32) (qt_scales : Nat) (t_scales : Nat → Int32) (qt_parts : Nat) (t_parts : Nat → Int64) (qt_texts : Nat) (t_texts : Nat → Int32) (qt_lengths : Nat) (t_lengths : Nat → Int32) (t_end : Int32) (t_index : Int32) (t_flags : Int32) (t_twice : Int32) (t_width : Int32) (t_precision : Int32) (t_conversion : Int32) (t_broken : Int32) (qt_piece : Nat) (t_piece : Nat → Int32) (t_put : Int32) (t_head : Int32) (qt_tens : Nat) (t_tens : Nat → Int32) (t_count : Int32) (t_exponent : Int32) (qt_work : Nat) (t_work : Nat → Int32) (a1 : Int32) (sz : Nat) (res : Int32)   (hf : f_Model_isNone t_kinds t_values a1 = some res) : Met l y_Model_isNone (.code y_Model_isNone cd_Model_isNone 2 (some .boolean) :: gw) { frames := 1, cells := 0, slots := 0, locals := 40 } (PC G ([.ref qt, .int a1] : List Value) sz (w_Model_clear G qt qt_draft t_draft t_drafted qt_result t_result t_length t_arguments qt_kinds t_kinds qt_values t_values qt_widths t_widths qt_below t_below qt_sizes t_sizes qt_scales t_scales qt_parts t_parts qt_texts t_texts qt_lengths t_lengths t_end t_index t_flags t_twice t_width t_precision t_conversion t_broken qt_piece t_piece t_put t_head qt_tens t_tens t_count t_exponent qt_work t_work)) (QZ G res (va_A (w_Model_clear G qt qt_draft t_draft t_drafted qt_result t_result t_length t_arguments qt_kinds t_kinds qt_values t_values qt_widths t_widths qt_below t_below qt_sizes t_sizes qt_scales t_scales qt_parts t_parts qt_texts t_texts qt_lengths t_lengths t_end t_index t_flags t_twice t_width t_precision t_conversion t_broken qt_piece t_piece t_put t_head qt_tens t_tens t_count t_exponent qt_work t_work) sz) (w_Model_clear G qt qt_draft t_draft t_drafted qt_result t_result t_length t_arguments qt_kinds t_kinds qt_values t_values qt_widths t_widths qt_below t_below qt_sizes t_sizes qt_scales t_scales qt_parts t_parts qt_texts t_texts qt_lengths t_lengths t_end t_index t_flags t_twice t_width t_precision t_conversion t_broken qt_piece t_piece t_put t_head qt_tens t_tens t_count t_exponent qt_work t_work)) 0 0 (va_A (w_Model_clear G qt qt_draft t_draft t_drafted qt_result t_result t_length t_arguments qt_kinds t_kinds qt_values t_values qt_widths t_widths qt_below t_below qt_sizes t_sizes qt_scales t_scales qt_parts t_parts qt_texts t_texts qt_lengths t_lengths t_end t_index t_flags t_twice t_width t_precision t_conversion t_broken qt_piece t_piece t_put t_head qt_tens t_tens t_count t_exponent qt_work t_work) sz) := by
  refine Met.ofW (cc := cd_Model_isNone) (maxL := 2) (ret := (some .boolean)) (by decide) rfl ?_
  intro p e s m args below meth c s₁ B hml hv
  obtain ⟨rfl, hsz, hP, hE, hD0⟩ := hv
  have hx := B.exec
  have hb := B.bytes
  have hr := B.returns
  have hts := atoms_spec (ws := (.code y_Model_isNone cd_Model_isNone 2 (some .boolean) :: gw)) B.pre
  have hg : ∀ w ∈ gw, w.before _ s = true := fun w h => hts w (List.mem_cons_of_mem _ h)
  have hown : s.vm.findClass R_Model = some m.cls := findClass_of_methodNamed B.named
  have hlocks := B.notSynchronized
  subst hsz
  have hK := hE.K
  have hD := hD0.self (sz := s.heap.size)
  have hAb := hE.ab hD0
  obtain ⟨Q, hQ⟩ : ∃ Q, MQ below (QZ G res (va_A (w_Model_clear G qt qt_draft t_draft t_drafted qt_result t_result t_length t_arguments qt_kinds t_kinds qt_values t_values qt_widths t_widths qt_below t_below qt_sizes t_sizes qt_scales t_scales qt_parts t_parts qt_texts t_texts qt_lengths t_lengths t_end t_index t_flags t_twice t_width t_precision t_conversion t_broken qt_piece t_piece t_put t_head qt_tens t_tens t_count t_exponent qt_work t_work) s.heap.size) (w_Model_clear G qt qt_draft t_draft t_drafted qt_result t_result t_length t_arguments qt_kinds t_kinds qt_values t_values qt_widths t_widths qt_below t_below qt_sizes t_sizes qt_scales t_scales qt_parts t_parts qt_texts t_texts qt_lengths t_lengths t_end t_index t_flags t_twice t_width t_precision t_conversion t_broken qt_piece t_piece t_put t_head qt_tens t_tens t_count t_exponent qt_work t_work)) ([.ref qt, .int a1] : List Value).toArray s 0 0 (va_A (w_Model_clear G qt qt_draft t_draft t_drafted qt_result t_result t_length t_arguments qt_kinds t_kinds qt_values t_values qt_widths t_widths qt_below t_below qt_sizes t_sizes qt_scales t_scales qt_parts t_parts qt_texts t_texts qt_lengths t_lengths t_end t_index t_flags t_twice t_width t_precision t_conversion t_broken qt_piece t_piece t_put t_head qt_tens t_tens t_count t_exponent qt_work t_work) s.heap.size) = Q := ⟨_, rfl⟩
  show W p l e { frames := 1, cells := 0, slots := 0, locals := 40 } s m ([.ref qt, .int a1] : List Value).toArray below meth c s.heap [] 0 0 (MQ below (QZ G res (va_A (w_Model_clear G qt qt_draft t_draft t_drafted qt_result t_result t_length t_arguments qt_kinds t_kinds qt_values t_values qt_widths t_widths qt_below t_below qt_sizes t_sizes qt_scales t_scales qt_parts t_parts qt_texts t_texts qt_lengths t_lengths t_end t_index t_flags t_twice t_width t_precision t_conversion t_broken qt_piece t_piece t_put t_head qt_tens t_tens t_count t_exponent qt_work t_work) s.heap.size) (w_Model_clear G qt qt_draft t_draft t_drafted qt_result t_result t_length t_arguments qt_kinds t_kinds qt_values t_values qt_widths t_widths qt_below t_below qt_sizes t_sizes qt_scales t_scales qt_parts t_parts qt_texts t_texts qt_lengths t_lengths t_end t_index t_flags t_twice t_width t_precision t_conversion t_broken qt_piece t_piece t_put t_head qt_tens t_tens t_count t_exponent qt_work t_work)) ([.ref qt, .int a1] : List Value).toArray s 0 0 (va_A (w_Model_clear G qt qt_draft t_draft t_drafted qt_result t_result t_length t_arguments qt_kinds t_kinds qt_values t_values qt_widths t_widths qt_below t_below qt_sizes t_sizes qt_scales t_scales qt_parts t_parts qt_texts t_texts qt_lengths t_lengths t_end t_index t_flags t_twice t_width t_precision t_conversion t_broken qt_piece t_piece t_put t_head qt_tens t_tens t_count t_exponent qt_work t_work) s.heap.size)) _
  rw [hQ]
  have hA : ∀ q : Nat, s.heap.size ≤ q → va_A (w_Model_clear G qt qt_draft t_draft t_drafted qt_result t_result t_length t_arguments qt_kinds t_kinds qt_values t_values qt_widths t_widths qt_below t_below qt_sizes t_sizes qt_scales t_scales qt_parts t_parts qt_texts t_texts qt_lengths t_lengths t_end t_index t_flags t_twice t_width t_precision t_conversion t_broken qt_piece t_piece t_put t_head qt_tens t_tens t_count t_exponent qt_work t_work) s.heap.size q := fun q h => Or.inr h
  obtain ⟨A, hAe⟩ : ∃ A, va_A (w_Model_clear G qt qt_draft t_draft t_drafted qt_result t_result t_length t_arguments qt_kinds t_kinds qt_values t_values qt_widths t_widths qt_below t_below qt_sizes t_sizes qt_scales t_scales qt_parts t_parts qt_texts t_texts qt_lengths t_lengths t_end t_index t_flags t_twice t_width t_precision t_conversion t_broken qt_piece t_piece t_put t_head qt_tens t_tens t_count t_exponent qt_work t_work) s.heap.size = A := ⟨_, rfl⟩
  rw [hAe] at hA hD hAb hQ
  have hS : va_S A s.heap s.heap [] := va_S.rf
  have hl := lv_entry (([.ref qt, .int a1] : List Value)) (n := 2) (Nat.le_of_ble_eq_true rfl)
  rw [lg_entry_eq]
  generalize (lg_sl (([.ref qt, .int a1] : List Value)) ++ List.replicate (2 - (lg_sl (([.ref qt, .int a1] : List Value))).length) Slot.unset).toArray = ls at hl ⊢
  have hl : lv_has ls 2 [(0, .ref qt), (1, .int a1)] := hl
  unfold f_Model_isNone at hf
  refine lv_aload_n hx hb d_Model_isNone_0 rfl (lv_at hl 0 rfl) ?_
  refine lv_iload_n hx hb d_Model_isNone_1 rfl (lv_at hl 1 rfl) ?_
  obtain ⟨u_2, hu_2, hf⟩ := bd_ hf
  refine CALLWz (va_runV (As := [.int a1]) (rest := []) ⟨hx, hb, hml, hown, hg⟩ (c_Model_isLast l G K qt qt_draft t_draft t_drafted qt_result t_result t_length t_arguments qt_kinds t_kinds qt_values t_values qt_widths t_widths qt_below t_below qt_sizes t_sizes qt_scales t_scales qt_parts t_parts qt_texts t_texts qt_lengths t_lengths t_end t_index t_flags t_twice t_width t_precision t_conversion t_broken qt_piece t_piece t_put t_head qt_tens t_tens t_count t_exponent qt_work t_work a1 _ u_2  hu_2) (cwV 1 hg (gV m_487 m_488 m_489 m_389 m_490) rfl rfl rfl (by decide +kernel) ⟨Nat.le_of_ble_eq_true rfl, Nat.le_of_ble_eq_true rfl⟩) ⟨PC_b, va_recv hK hP (ci := 7) (q0 := 0) rfl rfl, PC_p hE hS hAb hP hD⟩ rfl rfl hl.1 rfl (lv_room (Nat.le_of_ble_eq_true rfl)) d_Model_isNone_2 ⟨Nat.zero_le _, Nat.zero_le _⟩) hP hD hS hA (fun bu_2 H locs hP hD hS => ?_)
  have hP : va_P (gD G) vwCl (w_Model_clear G qt qt_draft t_draft t_drafted qt_result t_result t_length t_arguments qt_kinds t_kinds qt_values t_values qt_widths t_widths qt_below t_below qt_sizes t_sizes qt_scales t_scales qt_parts t_parts qt_texts t_texts qt_lengths t_lengths t_end t_index t_flags t_twice t_width t_precision t_conversion t_broken qt_piece t_piece t_put t_head qt_tens t_tens t_count t_exponent qt_work t_work) H := hP
  have hD : va_D A (w_Model_clear G qt qt_draft t_draft t_drafted qt_result t_result t_length t_arguments qt_kinds t_kinds qt_values t_values qt_widths t_widths qt_below t_below qt_sizes t_sizes qt_scales t_scales qt_parts t_parts qt_texts t_texts qt_lengths t_lengths t_end t_index t_flags t_twice t_width t_precision t_conversion t_broken qt_piece t_piece t_put t_head qt_tens t_tens t_count t_exponent qt_work t_work) := hD
  refine lv_if_eq (tgt := 27) hx hb d_Model_isNone_5 (by decide) (fun c_5 => ?_) (fun c_5 => ?_)
  · have hf := ip_ c_5 hf
    refine lv_iconst (v := 0) hx hb d_Model_isNone_27 (by decide) ?_
    obtain rfl := Option.some.inj hf
    rw [← hQ]
    exact W.zret (v := (0 : Int32)) hx hb hr (bl_n bl_0) (fun t9 ht hW => ⟨⟨(0 : Int32), (), rfl, ⟨rfl, bl_0⟩, ⟨by rw [ht]; exact hP, hD⟩⟩, hS.F ht⟩) hS.2.2 d_Model_isNone_28
  · have hf := in_ c_5 hf
    refine lv_aload_n hx hb d_Model_isNone_8 rfl (lv_at hl 0 rfl) ?_
    refine va_get (D := gD G) (ci := 7) (v := .ref qt_values) (C := R_Model) (T := F_Model) (N := 29) hx hb hg in_Model hown hK hP 0 rfl rfl 6 (by decide) (hg _ m_383) (fun _ h9 => h9) rfl d_Model_isNone_9 ?_
    refine lv_iload_n hx hb d_Model_isNone_12 rfl (lv_at hl 1 rfl) ?_
    obtain ⟨g_13, hf⟩ := gd_ hf
    refine va_lald hx hb hK hP 4 2 rfl rfl (inB_in g_13) d_Model_isNone_13 ?_
    refine lv_ldc2 (v := 4503599627370495) hx hb hown (hg _ m_491) d_Model_isNone_14 ?_
    refine lv_land hx hb d_Model_isNone_17 ?_
    refine lv_lconst (v := 0) hx hb d_Model_isNone_18 (by decide) ?_
    refine W.lcmp hx hb d_Model_isNone_19 ?_
    refine lv_if_eq (tgt := 27) hx hb d_Model_isNone_20 (by decide) (fun c_20 => ?_) (fun c_20 => ?_)
    · have hf := ip_ c_20 hf
      refine lv_iconst (v := 0) hx hb d_Model_isNone_27 (by decide) ?_
      obtain rfl := Option.some.inj hf
      rw [← hQ]
      exact W.zret (v := (0 : Int32)) hx hb hr (bl_n bl_0) (fun t9 ht hW => ⟨⟨(0 : Int32), (), rfl, ⟨rfl, bl_0⟩, ⟨by rw [ht]; exact hP, hD⟩⟩, hS.F ht⟩) hS.2.2 d_Model_isNone_28
    · have hf := in_ c_20 hf
      refine lv_iconst (v := 1) hx hb d_Model_isNone_23 (by decide) ?_
      refine lv_goto (tgt := 28) hx hb d_Model_isNone_24 (by decide) ?_
      obtain rfl := Option.some.inj hf
      rw [← hQ]
      exact W.zret (v := (1 : Int32)) hx hb hr (bl_n bl_1) (fun t9 ht hW => ⟨⟨(1 : Int32), (), rfl, ⟨rfl, bl_1⟩, ⟨by rw [ht]; exact hP, hD⟩⟩, hS.F ht⟩) hS.2.2 d_Model_isNone_28
